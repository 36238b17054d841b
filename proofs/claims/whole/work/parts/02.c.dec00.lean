theorem dX0_init_0 : decode cX0_init 0 = .ok (.aload_n 0, 1) := by decide +kernel
theorem dX0_init_1 : decode cX0_init 1 = .ok (.invokespecial 3, 3) := by decide +kernel
theorem dX0_init_4 : decode cX0_init 4 = .ok (.aload_n 0, 1) := by decide +kernel
theorem dX0_init_5 : decode cX0_init 5 = .ok (.bipush 30, 2) := by decide +kernel
theorem dX0_init_7 : decode cX0_init 7 = .ok (.newarray .int, 2) := by decide +kernel
theorem dX0_init_9 : decode cX0_init 9 = .ok (.putfield 9, 3) := by decide +kernel
theorem dX0_init_12 : decode cX0_init 12 = .ok (.aload_n 0, 1) := by decide +kernel
theorem dX0_init_13 : decode cX0_init 13 = .ok (.bipush 30, 2) := by decide +kernel
theorem dX0_init_15 : decode cX0_init 15 = .ok (.newarray .int, 2) := by decide +kernel
theorem dX0_init_17 : decode cX0_init 17 = .ok (.putfield 15, 3) := by decide +kernel
theorem dX0_init_20 : decode cX0_init 20 = .ok (.aload_n 0, 1) := by decide +kernel
theorem dX0_init_21 : decode cX0_init 21 = .ok (.bipush 30, 2) := by decide +kernel
theorem dX0_init_23 : decode cX0_init 23 = .ok (.newarray .int, 2) := by decide +kernel
theorem dX0_init_25 : decode cX0_init 25 = .ok (.putfield 18, 3) := by decide +kernel
theorem dX0_init_28 : decode cX0_init 28 = .ok (.aload_n 0, 1) := by decide +kernel
theorem dX0_init_29 : decode cX0_init 29 = .ok (.iconst 0, 1) := by decide +kernel
theorem dX0_init_30 : decode cX0_init 30 = .ok (.putfield 21, 3) := by decide +kernel
theorem dX0_init_33 : decode cX0_init 33 = .ok (.return_, 1) := by decide +kernel
theorem dX0_has_0 : decode cX0_has 0 = .ok (.iload_n 1, 1) := by decide +kernel
theorem dX0_has_1 : decode cX0_has 1 = .ok (.iconst 0, 1) := by decide +kernel
theorem dX0_has_2 : decode cX0_has 2 = .ok (.aload_n 0, 1) := by decide +kernel
theorem dX0_has_3 : decode cX0_has 3 = .ok (.getfield 21, 3) := by decide +kernel
theorem dX0_has_6 : decode cX0_has 6 = .ok (.iconst 1, 1) := by decide +kernel
theorem dX0_has_7 : decode cX0_has 7 = .ok (.isub, 1) := by decide +kernel
theorem dX0_has_8 : decode cX0_has 8 = .ok (.invokestatic 25, 3) := by decide +kernel
theorem dX0_has_11 : decode cX0_has 11 = .ok (.ireturn, 1) := by decide +kernel
theorem dX0_add_0 : decode cX0_add 0 = .ok (.aload_n 0, 1) := by decide +kernel
theorem dX0_add_1 : decode cX0_add 1 = .ok (.getfield 21, 3) := by decide +kernel
theorem dX0_add_4 : decode cX0_add 4 = .ok (.bipush 30, 2) := by decide +kernel
theorem dX0_add_6 : decode cX0_add 6 = .ok (.if_icmp .lt 5, 3) := by decide +kernel
theorem dX0_add_9 : decode cX0_add 9 = .ok (.iconst (-1), 1) := by decide +kernel
theorem dX0_add_10 : decode cX0_add 10 = .ok (.ireturn, 1) := by decide +kernel
theorem dX0_add_11 : decode cX0_add 11 = .ok (.aload_n 0, 1) := by decide +kernel
theorem dX0_add_12 : decode cX0_add 12 = .ok (.getfield 9, 3) := by decide +kernel
theorem dX0_add_15 : decode cX0_add 15 = .ok (.aload_n 0, 1) := by decide +kernel
theorem dX0_add_16 : decode cX0_add 16 = .ok (.getfield 21, 3) := by decide +kernel
theorem dX0_add_19 : decode cX0_add 19 = .ok (.iload_n 1, 1) := by decide +kernel
theorem dX0_add_20 : decode cX0_add 20 = .ok (.iastore, 1) := by decide +kernel
theorem dX0_add_21 : decode cX0_add 21 = .ok (.aload_n 0, 1) := by decide +kernel
theorem dX0_add_22 : decode cX0_add 22 = .ok (.getfield 15, 3) := by decide +kernel
theorem dX0_add_25 : decode cX0_add 25 = .ok (.aload_n 0, 1) := by decide +kernel
theorem dX0_add_26 : decode cX0_add 26 = .ok (.getfield 21, 3) := by decide +kernel
theorem dX0_add_29 : decode cX0_add 29 = .ok (.iload_n 2, 1) := by decide +kernel
theorem dX0_add_30 : decode cX0_add 30 = .ok (.iastore, 1) := by decide +kernel
theorem dX0_add_31 : decode cX0_add 31 = .ok (.aload_n 0, 1) := by decide +kernel
theorem dX0_add_32 : decode cX0_add 32 = .ok (.getfield 18, 3) := by decide +kernel
theorem dX0_add_35 : decode cX0_add 35 = .ok (.aload_n 0, 1) := by decide +kernel
theorem dX0_add_36 : decode cX0_add 36 = .ok (.getfield 21, 3) := by decide +kernel
theorem dX0_add_39 : decode cX0_add 39 = .ok (.sipush 1001, 3) := by decide +kernel
theorem dX0_add_42 : decode cX0_add 42 = .ok (.iastore, 1) := by decide +kernel
theorem dX0_add_43 : decode cX0_add 43 = .ok (.aload_n 0, 1) := by decide +kernel
theorem dX0_add_44 : decode cX0_add 44 = .ok (.dup, 1) := by decide +kernel
theorem dX0_add_45 : decode cX0_add 45 = .ok (.getfield 21, 3) := by decide +kernel
theorem dX0_add_48 : decode cX0_add 48 = .ok (.iconst 1, 1) := by decide +kernel
theorem dX0_add_49 : decode cX0_add 49 = .ok (.iadd, 1) := by decide +kernel
theorem dX0_add_50 : decode cX0_add 50 = .ok (.putfield 21, 3) := by decide +kernel
theorem dX0_add_53 : decode cX0_add 53 = .ok (.aload_n 0, 1) := by decide +kernel
theorem dX0_add_54 : decode cX0_add 54 = .ok (.getfield 21, 3) := by decide +kernel
theorem dX0_add_57 : decode cX0_add 57 = .ok (.iconst 1, 1) := by decide +kernel
theorem dX0_add_58 : decode cX0_add 58 = .ok (.isub, 1) := by decide +kernel
theorem dX0_add_59 : decode cX0_add 59 = .ok (.ireturn, 1) := by decide +kernel
theorem dX0_makeClear_0 : decode cX0_makeClear 0 = .ok (.aload_n 0, 1) := by decide +kernel
theorem dX0_makeClear_1 : decode cX0_makeClear 1 = .ok (.iload_n 1, 1) := by decide +kernel
theorem dX0_makeClear_2 : decode cX0_makeClear 2 = .ok (.invokevirtual 29, 3) := by decide +kernel
theorem dX0_makeClear_5 : decode cX0_makeClear 5 = .ok (.ifCond .eq 19, 3) := by decide +kernel
theorem dX0_makeClear_8 : decode cX0_makeClear 8 = .ok (.aload_n 0, 1) := by decide +kernel
theorem dX0_makeClear_9 : decode cX0_makeClear 9 = .ok (.getfield 18, 3) := by decide +kernel
theorem dX0_makeClear_12 : decode cX0_makeClear 12 = .ok (.iload_n 1, 1) := by decide +kernel
theorem dX0_makeClear_13 : decode cX0_makeClear 13 = .ok (.aload_n 0, 1) := by decide +kernel
theorem dX0_makeClear_14 : decode cX0_makeClear 14 = .ok (.getfield 18, 3) := by decide +kernel
theorem dX0_makeClear_17 : decode cX0_makeClear 17 = .ok (.iload_n 1, 1) := by decide +kernel
theorem dX0_makeClear_18 : decode cX0_makeClear 18 = .ok (.iaload, 1) := by decide +kernel
theorem dX0_makeClear_19 : decode cX0_makeClear 19 = .ok (.iload_n 2, 1) := by decide +kernel
theorem dX0_makeClear_20 : decode cX0_makeClear 20 = .ok (.invokestatic 33, 3) := by decide +kernel
theorem dX0_makeClear_23 : decode cX0_makeClear 23 = .ok (.iastore, 1) := by decide +kernel
theorem dX0_makeClear_24 : decode cX0_makeClear 24 = .ok (.return_, 1) := by decide +kernel
theorem dX1_init_0 : decode cX1_init 0 = .ok (.aload_n 0, 1) := by decide +kernel
theorem dX1_init_1 : decode cX1_init 1 = .ok (.invokespecial 3, 3) := by decide +kernel
theorem dX1_init_4 : decode cX1_init 4 = .ok (.aload_n 0, 1) := by decide +kernel
theorem dX1_init_5 : decode cX1_init 5 = .ok (.bipush 40, 2) := by decide +kernel
theorem dX1_init_7 : decode cX1_init 7 = .ok (.newarray .int, 2) := by decide +kernel
theorem dX1_init_9 : decode cX1_init 9 = .ok (.putfield 9, 3) := by decide +kernel
theorem dX1_init_12 : decode cX1_init 12 = .ok (.aload_n 0, 1) := by decide +kernel
theorem dX1_init_13 : decode cX1_init 13 = .ok (.bipush 40, 2) := by decide +kernel
theorem dX1_init_15 : decode cX1_init 15 = .ok (.newarray .int, 2) := by decide +kernel
theorem dX1_init_17 : decode cX1_init 17 = .ok (.putfield 15, 3) := by decide +kernel
theorem dX1_init_20 : decode cX1_init 20 = .ok (.aload_n 0, 1) := by decide +kernel
theorem dX1_init_21 : decode cX1_init 21 = .ok (.bipush 40, 2) := by decide +kernel
theorem dX1_init_23 : decode cX1_init 23 = .ok (.newarray .int, 2) := by decide +kernel
theorem dX1_init_25 : decode cX1_init 25 = .ok (.putfield 18, 3) := by decide +kernel
theorem dX1_init_28 : decode cX1_init 28 = .ok (.aload_n 0, 1) := by decide +kernel
theorem dX1_init_29 : decode cX1_init 29 = .ok (.bipush 40, 2) := by decide +kernel
theorem dX1_init_31 : decode cX1_init 31 = .ok (.newarray .int, 2) := by decide +kernel
theorem dX1_init_33 : decode cX1_init 33 = .ok (.putfield 21, 3) := by decide +kernel
theorem dX1_init_36 : decode cX1_init 36 = .ok (.aload_n 0, 1) := by decide +kernel
theorem dX1_init_37 : decode cX1_init 37 = .ok (.iconst 0, 1) := by decide +kernel
theorem dX1_init_38 : decode cX1_init 38 = .ok (.putfield 24, 3) := by decide +kernel
theorem dX1_init_41 : decode cX1_init 41 = .ok (.return_, 1) := by decide +kernel
theorem dX1_has_0 : decode cX1_has 0 = .ok (.iload_n 1, 1) := by decide +kernel
theorem dX1_has_1 : decode cX1_has 1 = .ok (.iconst 0, 1) := by decide +kernel
theorem dX1_has_2 : decode cX1_has 2 = .ok (.aload_n 0, 1) := by decide +kernel
theorem dX1_has_3 : decode cX1_has 3 = .ok (.getfield 24, 3) := by decide +kernel
theorem dX1_has_6 : decode cX1_has 6 = .ok (.iconst 1, 1) := by decide +kernel
theorem dX1_has_7 : decode cX1_has 7 = .ok (.isub, 1) := by decide +kernel
theorem dX1_has_8 : decode cX1_has 8 = .ok (.invokestatic 28, 3) := by decide +kernel
theorem dX1_has_11 : decode cX1_has 11 = .ok (.ireturn, 1) := by decide +kernel
theorem dX1_add_0 : decode cX1_add 0 = .ok (.aload_n 0, 1) := by decide +kernel
theorem dX1_add_1 : decode cX1_add 1 = .ok (.getfield 24, 3) := by decide +kernel
theorem dX1_add_4 : decode cX1_add 4 = .ok (.bipush 40, 2) := by decide +kernel
theorem dX1_add_6 : decode cX1_add 6 = .ok (.if_icmp .lt 5, 3) := by decide +kernel
theorem dX1_add_9 : decode cX1_add 9 = .ok (.iconst (-1), 1) := by decide +kernel
theorem dX1_add_10 : decode cX1_add 10 = .ok (.ireturn, 1) := by decide +kernel
theorem dX1_add_11 : decode cX1_add 11 = .ok (.aload_n 0, 1) := by decide +kernel
theorem dX1_add_12 : decode cX1_add 12 = .ok (.getfield 9, 3) := by decide +kernel
theorem dX1_add_15 : decode cX1_add 15 = .ok (.aload_n 0, 1) := by decide +kernel
theorem dX1_add_16 : decode cX1_add 16 = .ok (.getfield 24, 3) := by decide +kernel
theorem dX1_add_19 : decode cX1_add 19 = .ok (.iload_n 1, 1) := by decide +kernel
theorem dX1_add_20 : decode cX1_add 20 = .ok (.iastore, 1) := by decide +kernel
theorem dX1_add_21 : decode cX1_add 21 = .ok (.aload_n 0, 1) := by decide +kernel
theorem dX1_add_22 : decode cX1_add 22 = .ok (.getfield 15, 3) := by decide +kernel
theorem dX1_add_25 : decode cX1_add 25 = .ok (.aload_n 0, 1) := by decide +kernel
theorem dX1_add_26 : decode cX1_add 26 = .ok (.getfield 24, 3) := by decide +kernel
theorem dX1_add_29 : decode cX1_add 29 = .ok (.iload_n 2, 1) := by decide +kernel
theorem dX1_add_30 : decode cX1_add 30 = .ok (.iastore, 1) := by decide +kernel
theorem dX1_add_31 : decode cX1_add 31 = .ok (.aload_n 0, 1) := by decide +kernel
theorem dX1_add_32 : decode cX1_add 32 = .ok (.getfield 18, 3) := by decide +kernel
theorem dX1_add_35 : decode cX1_add 35 = .ok (.aload_n 0, 1) := by decide +kernel
theorem dX1_add_36 : decode cX1_add 36 = .ok (.getfield 24, 3) := by decide +kernel
theorem dX1_add_39 : decode cX1_add 39 = .ok (.iload_n 3, 1) := by decide +kernel
theorem dX1_add_40 : decode cX1_add 40 = .ok (.iastore, 1) := by decide +kernel
theorem dX1_add_41 : decode cX1_add 41 = .ok (.aload_n 0, 1) := by decide +kernel
theorem dX1_add_42 : decode cX1_add 42 = .ok (.getfield 21, 3) := by decide +kernel
theorem dX1_add_45 : decode cX1_add 45 = .ok (.aload_n 0, 1) := by decide +kernel
theorem dX1_add_46 : decode cX1_add 46 = .ok (.getfield 24, 3) := by decide +kernel
theorem dX1_add_49 : decode cX1_add 49 = .ok (.iload 4, 2) := by decide +kernel
theorem dX1_add_51 : decode cX1_add 51 = .ok (.iastore, 1) := by decide +kernel
theorem dX1_add_52 : decode cX1_add 52 = .ok (.aload_n 0, 1) := by decide +kernel
theorem dX1_add_53 : decode cX1_add 53 = .ok (.dup, 1) := by decide +kernel
theorem dX1_add_54 : decode cX1_add 54 = .ok (.getfield 24, 3) := by decide +kernel
theorem dX1_add_57 : decode cX1_add 57 = .ok (.iconst 1, 1) := by decide +kernel
theorem dX1_add_58 : decode cX1_add 58 = .ok (.iadd, 1) := by decide +kernel
theorem dX1_add_59 : decode cX1_add 59 = .ok (.putfield 24, 3) := by decide +kernel
theorem dX1_add_62 : decode cX1_add 62 = .ok (.aload_n 0, 1) := by decide +kernel
theorem dX1_add_63 : decode cX1_add 63 = .ok (.getfield 24, 3) := by decide +kernel
theorem dX1_add_66 : decode cX1_add 66 = .ok (.iconst 1, 1) := by decide +kernel
theorem dX1_add_67 : decode cX1_add 67 = .ok (.isub, 1) := by decide +kernel
theorem dX1_add_68 : decode cX1_add 68 = .ok (.ireturn, 1) := by decide +kernel
theorem dX2_init_0 : decode cX2_init 0 = .ok (.aload_n 0, 1) := by decide +kernel
theorem dX2_init_1 : decode cX2_init 1 = .ok (.invokespecial 3, 3) := by decide +kernel
theorem dX2_init_4 : decode cX2_init 4 = .ok (.aload_n 0, 1) := by decide +kernel
theorem dX2_init_5 : decode cX2_init 5 = .ok (.iconst 3, 1) := by decide +kernel
theorem dX2_init_6 : decode cX2_init 6 = .ok (.newarray .int, 2) := by decide +kernel
theorem dX2_init_8 : decode cX2_init 8 = .ok (.putfield 9, 3) := by decide +kernel
theorem dX2_init_11 : decode cX2_init 11 = .ok (.aload_n 0, 1) := by decide +kernel
theorem dX2_init_12 : decode cX2_init 12 = .ok (.iconst 3, 1) := by decide +kernel
theorem dX2_init_13 : decode cX2_init 13 = .ok (.newarray .int, 2) := by decide +kernel
theorem dX2_init_15 : decode cX2_init 15 = .ok (.putfield 15, 3) := by decide +kernel
theorem dX2_init_18 : decode cX2_init 18 = .ok (.aload_n 0, 1) := by decide +kernel
theorem dX2_init_19 : decode cX2_init 19 = .ok (.iconst 3, 1) := by decide +kernel
theorem dX2_init_20 : decode cX2_init 20 = .ok (.newarray .int, 2) := by decide +kernel
theorem dX2_init_22 : decode cX2_init 22 = .ok (.putfield 18, 3) := by decide +kernel
theorem dX2_init_25 : decode cX2_init 25 = .ok (.aload_n 0, 1) := by decide +kernel
theorem dX2_init_26 : decode cX2_init 26 = .ok (.iconst 0, 1) := by decide +kernel
theorem dX2_init_27 : decode cX2_init 27 = .ok (.putfield 21, 3) := by decide +kernel
theorem dX2_init_30 : decode cX2_init 30 = .ok (.aload_n 0, 1) := by decide +kernel
theorem dX2_init_31 : decode cX2_init 31 = .ok (.aload_n 1, 1) := by decide +kernel
theorem dX2_init_32 : decode cX2_init 32 = .ok (.putfield 25, 3) := by decide +kernel
theorem dX2_init_35 : decode cX2_init 35 = .ok (.aload_n 0, 1) := by decide +kernel
theorem dX2_init_36 : decode cX2_init 36 = .ok (.aload_n 2, 1) := by decide +kernel
theorem dX2_init_37 : decode cX2_init 37 = .ok (.putfield 29, 3) := by decide +kernel
theorem dX2_init_40 : decode cX2_init 40 = .ok (.return_, 1) := by decide +kernel
theorem dX2_look_0 : decode cX2_look 0 = .ok (.aload_n 0, 1) := by decide +kernel
theorem dX2_look_1 : decode cX2_look 1 = .ok (.iconst 0, 1) := by decide +kernel
theorem dX2_look_2 : decode cX2_look 2 = .ok (.putfield 21, 3) := by decide +kernel
theorem dX2_look_5 : decode cX2_look 5 = .ok (.iconst 0, 1) := by decide +kernel
theorem dX2_look_6 : decode cX2_look 6 = .ok (.istore_n 3, 1) := by decide +kernel
theorem dX2_look_7 : decode cX2_look 7 = .ok (.iload_n 3, 1) := by decide +kernel
theorem dX2_look_8 : decode cX2_look 8 = .ok (.aload_n 0, 1) := by decide +kernel
theorem dX2_look_9 : decode cX2_look 9 = .ok (.getfield 25, 3) := by decide +kernel
theorem dX2_look_12 : decode cX2_look 12 = .ok (.getfield 33, 3) := by decide +kernel
theorem dX2_look_15 : decode cX2_look 15 = .ok (.if_icmp .ge 62, 3) := by decide +kernel
theorem dX2_look_18 : decode cX2_look 18 = .ok (.aload_n 0, 1) := by decide +kernel
theorem dX2_look_19 : decode cX2_look 19 = .ok (.getfield 29, 3) := by decide +kernel
theorem dX2_look_22 : decode cX2_look 22 = .ok (.iload_n 3, 1) := by decide +kernel
theorem dX2_look_23 : decode cX2_look 23 = .ok (.invokevirtual 38, 3) := by decide +kernel
theorem dX2_look_26 : decode cX2_look 26 = .ok (.ifCond .eq 45, 3) := by decide +kernel
theorem dX2_look_29 : decode cX2_look 29 = .ok (.aload_n 0, 1) := by decide +kernel
theorem dX2_look_30 : decode cX2_look 30 = .ok (.getfield 25, 3) := by decide +kernel
theorem dX2_look_33 : decode cX2_look 33 = .ok (.getfield 44, 3) := by decide +kernel
theorem dX2_look_36 : decode cX2_look 36 = .ok (.iload_n 3, 1) := by decide +kernel
theorem dX2_look_37 : decode cX2_look 37 = .ok (.iaload, 1) := by decide +kernel
theorem dX2_look_38 : decode cX2_look 38 = .ok (.iload_n 1, 1) := by decide +kernel
theorem dX2_look_39 : decode cX2_look 39 = .ok (.isub, 1) := by decide +kernel
theorem dX2_look_40 : decode cX2_look 40 = .ok (.istore 4, 2) := by decide +kernel
theorem dX2_look_42 : decode cX2_look 42 = .ok (.aload_n 0, 1) := by decide +kernel
theorem dX2_look_43 : decode cX2_look 43 = .ok (.getfield 25, 3) := by decide +kernel
theorem dX2_look_46 : decode cX2_look 46 = .ok (.getfield 47, 3) := by decide +kernel
theorem dX2_look_49 : decode cX2_look 49 = .ok (.iload_n 3, 1) := by decide +kernel
theorem dX2_look_50 : decode cX2_look 50 = .ok (.iaload, 1) := by decide +kernel
theorem dX2_look_51 : decode cX2_look 51 = .ok (.iload_n 2, 1) := by decide +kernel
theorem dX2_look_52 : decode cX2_look 52 = .ok (.isub, 1) := by decide +kernel
theorem dX2_look_53 : decode cX2_look 53 = .ok (.istore 5, 2) := by decide +kernel
theorem dX2_look_55 : decode cX2_look 55 = .ok (.aload_n 0, 1) := by decide +kernel
theorem dX2_look_56 : decode cX2_look 56 = .ok (.iload_n 3, 1) := by decide +kernel
theorem dX2_look_57 : decode cX2_look 57 = .ok (.iload 4, 2) := by decide +kernel
theorem dX2_look_59 : decode cX2_look 59 = .ok (.iload 4, 2) := by decide +kernel
theorem dX2_look_61 : decode cX2_look 61 = .ok (.imul, 1) := by decide +kernel
theorem dX2_look_62 : decode cX2_look 62 = .ok (.iload 5, 2) := by decide +kernel
theorem dX2_look_64 : decode cX2_look 64 = .ok (.iload 5, 2) := by decide +kernel
theorem dX2_look_66 : decode cX2_look 66 = .ok (.imul, 1) := by decide +kernel
theorem dX2_look_67 : decode cX2_look 67 = .ok (.iadd, 1) := by decide +kernel
theorem dX2_look_68 : decode cX2_look 68 = .ok (.invokevirtual 50, 3) := by decide +kernel
theorem dX2_look_71 : decode cX2_look 71 = .ok (.iinc 3 1, 3) := by decide +kernel
theorem dX2_look_74 : decode cX2_look 74 = .ok (.goto (-67), 3) := by decide +kernel
theorem dX2_look_77 : decode cX2_look 77 = .ok (.iconst 0, 1) := by decide +kernel
theorem dX2_look_78 : decode cX2_look 78 = .ok (.istore_n 3, 1) := by decide +kernel
theorem dX2_look_79 : decode cX2_look 79 = .ok (.iload_n 3, 1) := by decide +kernel
theorem dX2_look_80 : decode cX2_look 80 = .ok (.aload_n 0, 1) := by decide +kernel
theorem dX2_look_81 : decode cX2_look 81 = .ok (.getfield 21, 3) := by decide +kernel
theorem dX2_look_84 : decode cX2_look 84 = .ok (.if_icmp .ge 28, 3) := by decide +kernel
theorem dX2_look_87 : decode cX2_look 87 = .ok (.aload_n 0, 1) := by decide +kernel
theorem dX2_look_88 : decode cX2_look 88 = .ok (.getfield 18, 3) := by decide +kernel
theorem dX2_look_91 : decode cX2_look 91 = .ok (.iload_n 3, 1) := by decide +kernel
theorem dX2_look_92 : decode cX2_look 92 = .ok (.aload_n 0, 1) := by decide +kernel
theorem dX2_look_93 : decode cX2_look 93 = .ok (.getfield 29, 3) := by decide +kernel
theorem dX2_look_96 : decode cX2_look 96 = .ok (.aload_n 0, 1) := by decide +kernel
theorem dX2_look_97 : decode cX2_look 97 = .ok (.getfield 9, 3) := by decide +kernel
theorem dX2_look_100 : decode cX2_look 100 = .ok (.iload_n 3, 1) := by decide +kernel
theorem dX2_look_101 : decode cX2_look 101 = .ok (.iaload, 1) := by decide +kernel
theorem dX2_look_102 : decode cX2_look 102 = .ok (.invokevirtual 54, 3) := by decide +kernel
theorem dX2_look_105 : decode cX2_look 105 = .ok (.iastore, 1) := by decide +kernel
theorem dX2_look_106 : decode cX2_look 106 = .ok (.iinc 3 1, 3) := by decide +kernel
theorem dX2_look_109 : decode cX2_look 109 = .ok (.goto (-30), 3) := by decide +kernel
theorem dX2_look_112 : decode cX2_look 112 = .ok (.aload_n 0, 1) := by decide +kernel
theorem dX2_look_113 : decode cX2_look 113 = .ok (.getfield 21, 3) := by decide +kernel
theorem dX2_look_116 : decode cX2_look 116 = .ok (.ifCond .le 7, 3) := by decide +kernel
theorem dX2_look_119 : decode cX2_look 119 = .ok (.iconst 1, 1) := by decide +kernel
theorem dX2_look_120 : decode cX2_look 120 = .ok (.goto 4, 3) := by decide +kernel
theorem dX2_look_123 : decode cX2_look 123 = .ok (.iconst 0, 1) := by decide +kernel
theorem dX2_look_124 : decode cX2_look 124 = .ok (.ireturn, 1) := by decide +kernel
theorem dX2_insert_0 : decode cX2_insert 0 = .ok (.aload_n 0, 1) := by decide +kernel
theorem dX2_insert_1 : decode cX2_insert 1 = .ok (.getfield 21, 3) := by decide +kernel
theorem dX2_insert_4 : decode cX2_insert 4 = .ok (.iconst 3, 1) := by decide +kernel
theorem dX2_insert_5 : decode cX2_insert 5 = .ok (.if_icmp .ne 14, 3) := by decide +kernel
theorem dX2_insert_8 : decode cX2_insert 8 = .ok (.aload_n 0, 1) := by decide +kernel
theorem dX2_insert_9 : decode cX2_insert 9 = .ok (.getfield 15, 3) := by decide +kernel
theorem dX2_insert_12 : decode cX2_insert 12 = .ok (.iconst 2, 1) := by decide +kernel
theorem dX2_insert_13 : decode cX2_insert 13 = .ok (.iaload, 1) := by decide +kernel
theorem dX2_insert_14 : decode cX2_insert 14 = .ok (.iload_n 2, 1) := by decide +kernel
theorem dX2_insert_15 : decode cX2_insert 15 = .ok (.if_icmp .gt 4, 3) := by decide +kernel
theorem dX2_insert_18 : decode cX2_insert 18 = .ok (.return_, 1) := by decide +kernel
theorem dX2_insert_19 : decode cX2_insert 19 = .ok (.aload_n 0, 1) := by decide +kernel
theorem dX2_insert_20 : decode cX2_insert 20 = .ok (.getfield 21, 3) := by decide +kernel
theorem dX2_insert_23 : decode cX2_insert 23 = .ok (.iconst 3, 1) := by decide +kernel
theorem dX2_insert_24 : decode cX2_insert 24 = .ok (.if_icmp .ge 13, 3) := by decide +kernel
theorem dX2_insert_27 : decode cX2_insert 27 = .ok (.aload_n 0, 1) := by decide +kernel
theorem dX2_insert_28 : decode cX2_insert 28 = .ok (.dup, 1) := by decide +kernel
theorem dX2_insert_29 : decode cX2_insert 29 = .ok (.getfield 21, 3) := by decide +kernel
theorem dX2_insert_32 : decode cX2_insert 32 = .ok (.iconst 1, 1) := by decide +kernel
theorem dX2_insert_33 : decode cX2_insert 33 = .ok (.iadd, 1) := by decide +kernel
theorem dX2_insert_34 : decode cX2_insert 34 = .ok (.putfield 21, 3) := by decide +kernel
theorem dX2_insert_37 : decode cX2_insert 37 = .ok (.aload_n 0, 1) := by decide +kernel
theorem dX2_insert_38 : decode cX2_insert 38 = .ok (.getfield 21, 3) := by decide +kernel
theorem dX2_insert_41 : decode cX2_insert 41 = .ok (.iconst 1, 1) := by decide +kernel
theorem dX2_insert_42 : decode cX2_insert 42 = .ok (.isub, 1) := by decide +kernel
theorem dX2_insert_43 : decode cX2_insert 43 = .ok (.istore_n 3, 1) := by decide +kernel
theorem dX2_insert_44 : decode cX2_insert 44 = .ok (.iload_n 3, 1) := by decide +kernel
theorem dX2_insert_45 : decode cX2_insert 45 = .ok (.ifCond .le 49, 3) := by decide +kernel
theorem dX2_insert_48 : decode cX2_insert 48 = .ok (.aload_n 0, 1) := by decide +kernel
theorem dX2_insert_49 : decode cX2_insert 49 = .ok (.getfield 15, 3) := by decide +kernel
theorem dX2_insert_52 : decode cX2_insert 52 = .ok (.iload_n 3, 1) := by decide +kernel
theorem dX2_insert_53 : decode cX2_insert 53 = .ok (.iconst 1, 1) := by decide +kernel
theorem dX2_insert_54 : decode cX2_insert 54 = .ok (.isub, 1) := by decide +kernel
theorem dX2_insert_55 : decode cX2_insert 55 = .ok (.iaload, 1) := by decide +kernel
theorem dX2_insert_56 : decode cX2_insert 56 = .ok (.iload_n 2, 1) := by decide +kernel
theorem dX2_insert_57 : decode cX2_insert 57 = .ok (.if_icmp .le 37, 3) := by decide +kernel
theorem dX2_insert_60 : decode cX2_insert 60 = .ok (.aload_n 0, 1) := by decide +kernel
theorem dX2_insert_61 : decode cX2_insert 61 = .ok (.getfield 9, 3) := by decide +kernel
theorem dX2_insert_64 : decode cX2_insert 64 = .ok (.iload_n 3, 1) := by decide +kernel
theorem dX2_insert_65 : decode cX2_insert 65 = .ok (.aload_n 0, 1) := by decide +kernel
theorem dX2_insert_66 : decode cX2_insert 66 = .ok (.getfield 9, 3) := by decide +kernel
theorem dX2_insert_69 : decode cX2_insert 69 = .ok (.iload_n 3, 1) := by decide +kernel
theorem dX2_insert_70 : decode cX2_insert 70 = .ok (.iconst 1, 1) := by decide +kernel
theorem dX2_insert_71 : decode cX2_insert 71 = .ok (.isub, 1) := by decide +kernel
theorem dX2_insert_72 : decode cX2_insert 72 = .ok (.iaload, 1) := by decide +kernel
theorem dX2_insert_73 : decode cX2_insert 73 = .ok (.iastore, 1) := by decide +kernel
theorem dX2_insert_74 : decode cX2_insert 74 = .ok (.aload_n 0, 1) := by decide +kernel
theorem dX2_insert_75 : decode cX2_insert 75 = .ok (.getfield 15, 3) := by decide +kernel
theorem dX2_insert_78 : decode cX2_insert 78 = .ok (.iload_n 3, 1) := by decide +kernel
theorem dX2_insert_79 : decode cX2_insert 79 = .ok (.aload_n 0, 1) := by decide +kernel
theorem dX2_insert_80 : decode cX2_insert 80 = .ok (.getfield 15, 3) := by decide +kernel
theorem dX2_insert_83 : decode cX2_insert 83 = .ok (.iload_n 3, 1) := by decide +kernel
theorem dX2_insert_84 : decode cX2_insert 84 = .ok (.iconst 1, 1) := by decide +kernel
theorem dX2_insert_85 : decode cX2_insert 85 = .ok (.isub, 1) := by decide +kernel
theorem dX2_insert_86 : decode cX2_insert 86 = .ok (.iaload, 1) := by decide +kernel
theorem dX2_insert_87 : decode cX2_insert 87 = .ok (.iastore, 1) := by decide +kernel
theorem dX2_insert_88 : decode cX2_insert 88 = .ok (.iinc 3 (-1), 3) := by decide +kernel
theorem dX2_insert_91 : decode cX2_insert 91 = .ok (.goto (-47), 3) := by decide +kernel
theorem dX2_insert_94 : decode cX2_insert 94 = .ok (.aload_n 0, 1) := by decide +kernel
theorem dX2_insert_95 : decode cX2_insert 95 = .ok (.getfield 9, 3) := by decide +kernel
theorem dX2_insert_98 : decode cX2_insert 98 = .ok (.iload_n 3, 1) := by decide +kernel
theorem dX2_insert_99 : decode cX2_insert 99 = .ok (.iload_n 1, 1) := by decide +kernel
theorem dX2_insert_100 : decode cX2_insert 100 = .ok (.iastore, 1) := by decide +kernel
theorem dX2_insert_101 : decode cX2_insert 101 = .ok (.aload_n 0, 1) := by decide +kernel
theorem dX2_insert_102 : decode cX2_insert 102 = .ok (.getfield 15, 3) := by decide +kernel
theorem dX2_insert_105 : decode cX2_insert 105 = .ok (.iload_n 3, 1) := by decide +kernel
theorem dX2_insert_106 : decode cX2_insert 106 = .ok (.iload_n 2, 1) := by decide +kernel
theorem dX2_insert_107 : decode cX2_insert 107 = .ok (.iastore, 1) := by decide +kernel
theorem dX2_insert_108 : decode cX2_insert 108 = .ok (.return_, 1) := by decide +kernel
theorem dX2_size_0 : decode cX2_size 0 = .ok (.iconst 0, 1) := by decide +kernel
theorem dX2_size_1 : decode cX2_size 1 = .ok (.istore_n 1, 1) := by decide +kernel
theorem dX2_size_2 : decode cX2_size 2 = .ok (.iconst 0, 1) := by decide +kernel
theorem dX2_size_3 : decode cX2_size 3 = .ok (.istore_n 2, 1) := by decide +kernel
theorem dX2_size_4 : decode cX2_size 4 = .ok (.iconst 0, 1) := by decide +kernel
theorem dX2_size_5 : decode cX2_size 5 = .ok (.istore_n 3, 1) := by decide +kernel
theorem dX2_size_6 : decode cX2_size 6 = .ok (.iload_n 3, 1) := by decide +kernel
theorem dX2_size_7 : decode cX2_size 7 = .ok (.aload_n 0, 1) := by decide +kernel
theorem dX2_size_8 : decode cX2_size 8 = .ok (.getfield 21, 3) := by decide +kernel
theorem dX2_size_11 : decode cX2_size 11 = .ok (.if_icmp .ge 44, 3) := by decide +kernel
theorem dX2_size_14 : decode cX2_size 14 = .ok (.sipush 10000, 3) := by decide +kernel
theorem dX2_size_17 : decode cX2_size 17 = .ok (.iconst 1, 1) := by decide +kernel
theorem dX2_size_18 : decode cX2_size 18 = .ok (.iconst 1, 1) := by decide +kernel
theorem dX2_size_19 : decode cX2_size 19 = .ok (.aload_n 0, 1) := by decide +kernel
theorem dX2_size_20 : decode cX2_size 20 = .ok (.getfield 15, 3) := by decide +kernel
theorem dX2_size_23 : decode cX2_size 23 = .ok (.iload_n 3, 1) := by decide +kernel
theorem dX2_size_24 : decode cX2_size 24 = .ok (.iaload, 1) := by decide +kernel
theorem dX2_size_25 : decode cX2_size 25 = .ok (.iadd, 1) := by decide +kernel
theorem dX2_size_26 : decode cX2_size 26 = .ok (.invokestatic 58, 3) := by decide +kernel
theorem dX2_size_29 : decode cX2_size 29 = .ok (.idiv, 1) := by decide +kernel
theorem dX2_size_30 : decode cX2_size 30 = .ok (.istore 4, 2) := by decide +kernel
theorem dX2_size_32 : decode cX2_size 32 = .ok (.iload_n 1, 1) := by decide +kernel
theorem dX2_size_33 : decode cX2_size 33 = .ok (.iload 4, 2) := by decide +kernel
theorem dX2_size_35 : decode cX2_size 35 = .ok (.iadd, 1) := by decide +kernel
theorem dX2_size_36 : decode cX2_size 36 = .ok (.istore_n 1, 1) := by decide +kernel
theorem dX2_size_37 : decode cX2_size 37 = .ok (.iload_n 2, 1) := by decide +kernel
theorem dX2_size_38 : decode cX2_size 38 = .ok (.iload 4, 2) := by decide +kernel
theorem dX2_size_40 : decode cX2_size 40 = .ok (.aload_n 0, 1) := by decide +kernel
theorem dX2_size_41 : decode cX2_size 41 = .ok (.getfield 18, 3) := by decide +kernel
theorem dX2_size_44 : decode cX2_size 44 = .ok (.iload_n 3, 1) := by decide +kernel
theorem dX2_size_45 : decode cX2_size 45 = .ok (.iaload, 1) := by decide +kernel
theorem dX2_size_46 : decode cX2_size 46 = .ok (.imul, 1) := by decide +kernel
theorem dX2_size_47 : decode cX2_size 47 = .ok (.iadd, 1) := by decide +kernel
theorem dX2_size_48 : decode cX2_size 48 = .ok (.istore_n 2, 1) := by decide +kernel
theorem dX2_size_49 : decode cX2_size 49 = .ok (.iinc 3 1, 3) := by decide +kernel
theorem dX2_size_52 : decode cX2_size 52 = .ok (.goto (-46), 3) := by decide +kernel
theorem dX2_size_55 : decode cX2_size 55 = .ok (.iload_n 1, 1) := by decide +kernel
theorem dX2_size_56 : decode cX2_size 56 = .ok (.ifCond .ne 12, 3) := by decide +kernel
theorem dX2_size_59 : decode cX2_size 59 = .ok (.aload_n 0, 1) := by decide +kernel
theorem dX2_size_60 : decode cX2_size 60 = .ok (.getfield 18, 3) := by decide +kernel
theorem dX2_size_63 : decode cX2_size 63 = .ok (.iconst 0, 1) := by decide +kernel
theorem dX2_size_64 : decode cX2_size 64 = .ok (.iaload, 1) := by decide +kernel
theorem dX2_size_65 : decode cX2_size 65 = .ok (.goto 6, 3) := by decide +kernel
theorem dX2_size_68 : decode cX2_size 68 = .ok (.iload_n 2, 1) := by decide +kernel
theorem dX2_size_69 : decode cX2_size 69 = .ok (.iload_n 1, 1) := by decide +kernel
theorem dX2_size_70 : decode cX2_size 70 = .ok (.idiv, 1) := by decide +kernel
theorem dX2_size_71 : decode cX2_size 71 = .ok (.ireturn, 1) := by decide +kernel
theorem dX2_sure_0 : decode cX2_sure 0 = .ok (.aload_n 0, 1) := by decide +kernel
theorem dX2_sure_1 : decode cX2_sure 1 = .ok (.getfield 18, 3) := by decide +kernel
theorem dX2_sure_4 : decode cX2_sure 4 = .ok (.iconst 0, 1) := by decide +kernel
theorem dX2_sure_5 : decode cX2_sure 5 = .ok (.iaload, 1) := by decide +kernel
theorem dX2_sure_6 : decode cX2_sure 6 = .ok (.istore_n 1, 1) := by decide +kernel
theorem dX2_sure_7 : decode cX2_sure 7 = .ok (.aload_n 0, 1) := by decide +kernel
theorem dX2_sure_8 : decode cX2_sure 8 = .ok (.getfield 18, 3) := by decide +kernel
theorem dX2_sure_11 : decode cX2_sure 11 = .ok (.iconst 0, 1) := by decide +kernel
theorem dX2_sure_12 : decode cX2_sure 12 = .ok (.iaload, 1) := by decide +kernel
theorem dX2_sure_13 : decode cX2_sure 13 = .ok (.istore_n 2, 1) := by decide +kernel
theorem dX2_sure_14 : decode cX2_sure 14 = .ok (.iconst 1, 1) := by decide +kernel
theorem dX2_sure_15 : decode cX2_sure 15 = .ok (.istore_n 3, 1) := by decide +kernel
theorem dX2_sure_16 : decode cX2_sure 16 = .ok (.iload_n 3, 1) := by decide +kernel
theorem dX2_sure_17 : decode cX2_sure 17 = .ok (.aload_n 0, 1) := by decide +kernel
theorem dX2_sure_18 : decode cX2_sure 18 = .ok (.getfield 21, 3) := by decide +kernel
theorem dX2_sure_21 : decode cX2_sure 21 = .ok (.if_icmp .ge 31, 3) := by decide +kernel
theorem dX2_sure_24 : decode cX2_sure 24 = .ok (.iload_n 1, 1) := by decide +kernel
theorem dX2_sure_25 : decode cX2_sure 25 = .ok (.aload_n 0, 1) := by decide +kernel
theorem dX2_sure_26 : decode cX2_sure 26 = .ok (.getfield 18, 3) := by decide +kernel
theorem dX2_sure_29 : decode cX2_sure 29 = .ok (.iload_n 3, 1) := by decide +kernel
theorem dX2_sure_30 : decode cX2_sure 30 = .ok (.iaload, 1) := by decide +kernel
theorem dX2_sure_31 : decode cX2_sure 31 = .ok (.invokestatic 64, 3) := by decide +kernel
theorem dX2_sure_34 : decode cX2_sure 34 = .ok (.istore_n 1, 1) := by decide +kernel
theorem dX2_sure_35 : decode cX2_sure 35 = .ok (.iload_n 2, 1) := by decide +kernel
theorem dX2_sure_36 : decode cX2_sure 36 = .ok (.aload_n 0, 1) := by decide +kernel
theorem dX2_sure_37 : decode cX2_sure 37 = .ok (.getfield 18, 3) := by decide +kernel
theorem dX2_sure_40 : decode cX2_sure 40 = .ok (.iload_n 3, 1) := by decide +kernel
theorem dX2_sure_41 : decode cX2_sure 41 = .ok (.iaload, 1) := by decide +kernel
theorem dX2_sure_42 : decode cX2_sure 42 = .ok (.invokestatic 58, 3) := by decide +kernel
theorem dX2_sure_45 : decode cX2_sure 45 = .ok (.istore_n 2, 1) := by decide +kernel
theorem dX2_sure_46 : decode cX2_sure 46 = .ok (.iinc 3 1, 3) := by decide +kernel
theorem dX2_sure_49 : decode cX2_sure 49 = .ok (.goto (-33), 3) := by decide +kernel
theorem dX2_sure_52 : decode cX2_sure 52 = .ok (.bipush 100, 2) := by decide +kernel
theorem dX2_sure_54 : decode cX2_sure 54 = .ok (.iconst 4, 1) := by decide +kernel
theorem dX2_sure_55 : decode cX2_sure 55 = .ok (.aload_n 0, 1) := by decide +kernel
theorem dX2_sure_56 : decode cX2_sure 56 = .ok (.getfield 15, 3) := by decide +kernel
theorem dX2_sure_59 : decode cX2_sure 59 = .ok (.iconst 0, 1) := by decide +kernel
theorem dX2_sure_60 : decode cX2_sure 60 = .ok (.iaload, 1) := by decide +kernel
theorem dX2_sure_61 : decode cX2_sure 61 = .ok (.invokestatic 67, 3) := by decide +kernel
theorem dX2_sure_64 : decode cX2_sure 64 = .ok (.imul, 1) := by decide +kernel
theorem dX2_sure_65 : decode cX2_sure 65 = .ok (.isub, 1) := by decide +kernel
theorem dX2_sure_66 : decode cX2_sure 66 = .ok (.bipush 10, 2) := by decide +kernel
theorem dX2_sure_68 : decode cX2_sure 68 = .ok (.iconst 3, 1) := by decide +kernel
theorem dX2_sure_69 : decode cX2_sure 69 = .ok (.aload_n 0, 1) := by decide +kernel
theorem dX2_sure_70 : decode cX2_sure 70 = .ok (.getfield 21, 3) := by decide +kernel
theorem dX2_sure_73 : decode cX2_sure 73 = .ok (.isub, 1) := by decide +kernel
theorem dX2_sure_74 : decode cX2_sure 74 = .ok (.imul, 1) := by decide +kernel
theorem dX2_sure_75 : decode cX2_sure 75 = .ok (.isub, 1) := by decide +kernel
theorem dX2_sure_76 : decode cX2_sure 76 = .ok (.iload_n 2, 1) := by decide +kernel
theorem dX2_sure_77 : decode cX2_sure 77 = .ok (.iload_n 1, 1) := by decide +kernel
theorem dX2_sure_78 : decode cX2_sure 78 = .ok (.isub, 1) := by decide +kernel
theorem dX2_sure_79 : decode cX2_sure 79 = .ok (.isub, 1) := by decide +kernel
theorem dX2_sure_80 : decode cX2_sure 80 = .ok (.istore_n 3, 1) := by decide +kernel
theorem dX2_sure_81 : decode cX2_sure 81 = .ok (.iconst 0, 1) := by decide +kernel
theorem dX2_sure_82 : decode cX2_sure 82 = .ok (.iload_n 3, 1) := by decide +kernel
theorem dX2_sure_83 : decode cX2_sure 83 = .ok (.invokestatic 58, 3) := by decide +kernel
theorem dX2_sure_86 : decode cX2_sure 86 = .ok (.ireturn, 1) := by decide +kernel
theorem dX2_root_0 : decode cX2_root 0 = .ok (.iconst 0, 1) := by decide +kernel
theorem dX2_root_1 : decode cX2_root 1 = .ok (.istore_n 1, 1) := by decide +kernel
theorem dX2_root_2 : decode cX2_root 2 = .ok (.iload_n 1, 1) := by decide +kernel
theorem dX2_root_3 : decode cX2_root 3 = .ok (.sipush 128, 3) := by decide +kernel
theorem dX2_root_6 : decode cX2_root 6 = .ok (.if_icmp .ge 20, 3) := by decide +kernel
theorem dX2_root_9 : decode cX2_root 9 = .ok (.iload_n 1, 1) := by decide +kernel
theorem dX2_root_10 : decode cX2_root 10 = .ok (.iconst 1, 1) := by decide +kernel
theorem dX2_root_11 : decode cX2_root 11 = .ok (.iadd, 1) := by decide +kernel
theorem dX2_root_12 : decode cX2_root 12 = .ok (.iload_n 1, 1) := by decide +kernel
theorem dX2_root_13 : decode cX2_root 13 = .ok (.iconst 1, 1) := by decide +kernel
theorem dX2_root_14 : decode cX2_root 14 = .ok (.iadd, 1) := by decide +kernel
theorem dX2_root_15 : decode cX2_root 15 = .ok (.imul, 1) := by decide +kernel
theorem dX2_root_16 : decode cX2_root 16 = .ok (.iload_n 0, 1) := by decide +kernel
theorem dX2_root_17 : decode cX2_root 17 = .ok (.if_icmp .gt 9, 3) := by decide +kernel
theorem dX2_root_20 : decode cX2_root 20 = .ok (.iinc 1 1, 3) := by decide +kernel
theorem dX2_root_23 : decode cX2_root 23 = .ok (.goto (-21), 3) := by decide +kernel
theorem dX2_root_26 : decode cX2_root 26 = .ok (.iload_n 1, 1) := by decide +kernel
theorem dX2_root_27 : decode cX2_root 27 = .ok (.ireturn, 1) := by decide +kernel
theorem dX3_init_0 : decode cX3_init 0 = .ok (.aload_n 0, 1) := by decide +kernel
theorem dX3_init_1 : decode cX3_init 1 = .ok (.invokespecial 3, 3) := by decide +kernel
theorem dX3_init_4 : decode cX3_init 4 = .ok (.aload_n 0, 1) := by decide +kernel
theorem dX3_init_5 : decode cX3_init 5 = .ok (.sipush 300, 3) := by decide +kernel
theorem dX3_init_8 : decode cX3_init 8 = .ok (.newarray .int, 2) := by decide +kernel
theorem dX3_init_10 : decode cX3_init 10 = .ok (.putfield 9, 3) := by decide +kernel
theorem dX3_init_13 : decode cX3_init 13 = .ok (.aload_n 0, 1) := by decide +kernel
theorem dX3_init_14 : decode cX3_init 14 = .ok (.sipush 300, 3) := by decide +kernel
theorem dX3_init_17 : decode cX3_init 17 = .ok (.newarray .int, 2) := by decide +kernel
theorem dX3_init_19 : decode cX3_init 19 = .ok (.putfield 15, 3) := by decide +kernel
theorem dX3_init_22 : decode cX3_init 22 = .ok (.aload_n 0, 1) := by decide +kernel
theorem dX3_init_23 : decode cX3_init 23 = .ok (.sipush 300, 3) := by decide +kernel
theorem dX3_init_26 : decode cX3_init 26 = .ok (.newarray .int, 2) := by decide +kernel
theorem dX3_init_28 : decode cX3_init 28 = .ok (.putfield 18, 3) := by decide +kernel
theorem dX3_init_31 : decode cX3_init 31 = .ok (.aload_n 0, 1) := by decide +kernel
theorem dX3_init_32 : decode cX3_init 32 = .ok (.sipush 300, 3) := by decide +kernel
theorem dX3_init_35 : decode cX3_init 35 = .ok (.newarray .int, 2) := by decide +kernel
theorem dX3_init_37 : decode cX3_init 37 = .ok (.putfield 21, 3) := by decide +kernel
theorem dX3_init_40 : decode cX3_init 40 = .ok (.aload_n 0, 1) := by decide +kernel
theorem dX3_init_41 : decode cX3_init 41 = .ok (.iconst 0, 1) := by decide +kernel
theorem dX3_init_42 : decode cX3_init 42 = .ok (.putfield 24, 3) := by decide +kernel
theorem dX3_init_45 : decode cX3_init 45 = .ok (.return_, 1) := by decide +kernel
theorem dX3_add_0 : decode cX3_add 0 = .ok (.aload_n 0, 1) := by decide +kernel
theorem dX3_add_1 : decode cX3_add 1 = .ok (.getfield 24, 3) := by decide +kernel
theorem dX3_add_4 : decode cX3_add 4 = .ok (.sipush 300, 3) := by decide +kernel
theorem dX3_add_7 : decode cX3_add 7 = .ok (.if_icmp .lt 8, 3) := by decide +kernel
theorem dX3_add_10 : decode cX3_add 10 = .ok (.aload_n 0, 1) := by decide +kernel
theorem dX3_add_11 : decode cX3_add 11 = .ok (.getfield 24, 3) := by decide +kernel
theorem dX3_add_14 : decode cX3_add 14 = .ok (.ireturn, 1) := by decide +kernel
theorem dX3_add_15 : decode cX3_add 15 = .ok (.aload_n 0, 1) := by decide +kernel
theorem dX3_add_16 : decode cX3_add 16 = .ok (.getfield 9, 3) := by decide +kernel
theorem dX3_add_19 : decode cX3_add 19 = .ok (.aload_n 0, 1) := by decide +kernel
theorem dX3_add_20 : decode cX3_add 20 = .ok (.getfield 24, 3) := by decide +kernel
theorem dX3_add_23 : decode cX3_add 23 = .ok (.iload_n 1, 1) := by decide +kernel
theorem dX3_add_24 : decode cX3_add 24 = .ok (.iastore, 1) := by decide +kernel
theorem dX3_add_25 : decode cX3_add 25 = .ok (.aload_n 0, 1) := by decide +kernel
theorem dX3_add_26 : decode cX3_add 26 = .ok (.getfield 15, 3) := by decide +kernel
theorem dX3_add_29 : decode cX3_add 29 = .ok (.aload_n 0, 1) := by decide +kernel
theorem dX3_add_30 : decode cX3_add 30 = .ok (.getfield 24, 3) := by decide +kernel
theorem dX3_add_33 : decode cX3_add 33 = .ok (.iload_n 2, 1) := by decide +kernel
theorem dX3_add_34 : decode cX3_add 34 = .ok (.iastore, 1) := by decide +kernel
theorem dX3_add_35 : decode cX3_add 35 = .ok (.aload_n 0, 1) := by decide +kernel
theorem dX3_add_36 : decode cX3_add 36 = .ok (.getfield 18, 3) := by decide +kernel
theorem dX3_add_39 : decode cX3_add 39 = .ok (.aload_n 0, 1) := by decide +kernel
theorem dX3_add_40 : decode cX3_add 40 = .ok (.getfield 24, 3) := by decide +kernel
theorem dX3_add_43 : decode cX3_add 43 = .ok (.iload_n 3, 1) := by decide +kernel
theorem dX3_add_44 : decode cX3_add 44 = .ok (.iastore, 1) := by decide +kernel
theorem dX3_add_45 : decode cX3_add 45 = .ok (.aload_n 0, 1) := by decide +kernel
theorem dX3_add_46 : decode cX3_add 46 = .ok (.getfield 21, 3) := by decide +kernel
theorem dX3_add_49 : decode cX3_add 49 = .ok (.aload_n 0, 1) := by decide +kernel
theorem dX3_add_50 : decode cX3_add 50 = .ok (.getfield 24, 3) := by decide +kernel
theorem dX3_add_53 : decode cX3_add 53 = .ok (.iload 4, 2) := by decide +kernel
theorem dX3_add_55 : decode cX3_add 55 = .ok (.iastore, 1) := by decide +kernel
theorem dX3_add_56 : decode cX3_add 56 = .ok (.aload_n 0, 1) := by decide +kernel
theorem dX3_add_57 : decode cX3_add 57 = .ok (.dup, 1) := by decide +kernel
theorem dX3_add_58 : decode cX3_add 58 = .ok (.getfield 24, 3) := by decide +kernel
theorem dX3_add_61 : decode cX3_add 61 = .ok (.iconst 1, 1) := by decide +kernel
theorem dX3_add_62 : decode cX3_add 62 = .ok (.iadd, 1) := by decide +kernel
theorem dX3_add_63 : decode cX3_add 63 = .ok (.putfield 24, 3) := by decide +kernel
theorem dX3_add_66 : decode cX3_add 66 = .ok (.aload_n 0, 1) := by decide +kernel
theorem dX3_add_67 : decode cX3_add 67 = .ok (.getfield 24, 3) := by decide +kernel
theorem dX3_add_70 : decode cX3_add 70 = .ok (.ireturn, 1) := by decide +kernel
theorem dX4_init_0 : decode cX4_init 0 = .ok (.aload_n 0, 1) := by decide +kernel
theorem dX4_init_1 : decode cX4_init 1 = .ok (.invokespecial 3, 3) := by decide +kernel
theorem dX4_init_4 : decode cX4_init 4 = .ok (.aload_n 0, 1) := by decide +kernel
theorem dX4_init_5 : decode cX4_init 5 = .ok (.bipush 64, 2) := by decide +kernel
theorem dX4_init_7 : decode cX4_init 7 = .ok (.newarray .int, 2) := by decide +kernel
theorem dX4_init_9 : decode cX4_init 9 = .ok (.putfield 9, 3) := by decide +kernel
theorem dX4_init_12 : decode cX4_init 12 = .ok (.return_, 1) := by decide +kernel
theorem dX4_put_0 : decode cX4_put 0 = .ok (.iload_n 1, 1) := by decide +kernel
theorem dX4_put_1 : decode cX4_put 1 = .ok (.iconst 0, 1) := by decide +kernel
theorem dX4_put_2 : decode cX4_put 2 = .ok (.bipush 7, 2) := by decide +kernel
theorem dX4_put_4 : decode cX4_put 4 = .ok (.invokestatic 15, 3) := by decide +kernel
theorem dX4_put_7 : decode cX4_put 7 = .ok (.ifCond .eq 27, 3) := by decide +kernel
theorem dX4_put_10 : decode cX4_put 10 = .ok (.iload_n 2, 1) := by decide +kernel
theorem dX4_put_11 : decode cX4_put 11 = .ok (.iconst 0, 1) := by decide +kernel
theorem dX4_put_12 : decode cX4_put 12 = .ok (.bipush 7, 2) := by decide +kernel
theorem dX4_put_14 : decode cX4_put 14 = .ok (.invokestatic 15, 3) := by decide +kernel
theorem dX4_put_17 : decode cX4_put 17 = .ok (.ifCond .eq 17, 3) := by decide +kernel
theorem dX4_put_20 : decode cX4_put 20 = .ok (.aload_n 0, 1) := by decide +kernel
theorem dX4_put_21 : decode cX4_put 21 = .ok (.getfield 9, 3) := by decide +kernel
theorem dX4_put_24 : decode cX4_put 24 = .ok (.iload_n 1, 1) := by decide +kernel
theorem dX4_put_25 : decode cX4_put 25 = .ok (.bipush 8, 2) := by decide +kernel
theorem dX4_put_27 : decode cX4_put 27 = .ok (.imul, 1) := by decide +kernel
theorem dX4_put_28 : decode cX4_put 28 = .ok (.iload_n 2, 1) := by decide +kernel
theorem dX4_put_29 : decode cX4_put 29 = .ok (.iadd, 1) := by decide +kernel
theorem dX4_put_30 : decode cX4_put 30 = .ok (.iload_n 3, 1) := by decide +kernel
theorem dX4_put_31 : decode cX4_put 31 = .ok (.iconst 1, 1) := by decide +kernel
theorem dX4_put_32 : decode cX4_put 32 = .ok (.iadd, 1) := by decide +kernel
theorem dX4_put_33 : decode cX4_put 33 = .ok (.iastore, 1) := by decide +kernel
theorem dX4_put_34 : decode cX4_put 34 = .ok (.return_, 1) := by decide +kernel
theorem dX4_sizeAt_0 : decode cX4_sizeAt 0 = .ok (.iload_n 1, 1) := by decide +kernel
theorem dX4_sizeAt_1 : decode cX4_sizeAt 1 = .ok (.iload_n 2, 1) := by decide +kernel
theorem dX4_sizeAt_2 : decode cX4_sizeAt 2 = .ok (.invokestatic 19, 3) := by decide +kernel
theorem dX4_sizeAt_5 : decode cX4_sizeAt 5 = .ok (.ifCond .eq 25, 3) := by decide +kernel
theorem dX4_sizeAt_8 : decode cX4_sizeAt 8 = .ok (.aload_n 0, 1) := by decide +kernel
theorem dX4_sizeAt_9 : decode cX4_sizeAt 9 = .ok (.getfield 9, 3) := by decide +kernel
theorem dX4_sizeAt_12 : decode cX4_sizeAt 12 = .ok (.iload_n 1, 1) := by decide +kernel
theorem dX4_sizeAt_13 : decode cX4_sizeAt 13 = .ok (.bipush 8, 2) := by decide +kernel
theorem dX4_sizeAt_15 : decode cX4_sizeAt 15 = .ok (.idiv, 1) := by decide +kernel
theorem dX4_sizeAt_16 : decode cX4_sizeAt 16 = .ok (.bipush 8, 2) := by decide +kernel
theorem dX4_sizeAt_18 : decode cX4_sizeAt 18 = .ok (.imul, 1) := by decide +kernel
theorem dX4_sizeAt_19 : decode cX4_sizeAt 19 = .ok (.iload_n 2, 1) := by decide +kernel
theorem dX4_sizeAt_20 : decode cX4_sizeAt 20 = .ok (.bipush 8, 2) := by decide +kernel
theorem dX4_sizeAt_22 : decode cX4_sizeAt 22 = .ok (.idiv, 1) := by decide +kernel
theorem dX4_sizeAt_23 : decode cX4_sizeAt 23 = .ok (.iadd, 1) := by decide +kernel
theorem dX4_sizeAt_24 : decode cX4_sizeAt 24 = .ok (.iaload, 1) := by decide +kernel
theorem dX4_sizeAt_25 : decode cX4_sizeAt 25 = .ok (.iconst 1, 1) := by decide +kernel
theorem dX4_sizeAt_26 : decode cX4_sizeAt 26 = .ok (.isub, 1) := by decide +kernel
theorem dX4_sizeAt_27 : decode cX4_sizeAt 27 = .ok (.goto 4, 3) := by decide +kernel
theorem dX4_sizeAt_30 : decode cX4_sizeAt 30 = .ok (.iconst (-1), 1) := by decide +kernel
theorem dX4_sizeAt_31 : decode cX4_sizeAt 31 = .ok (.ireturn, 1) := by decide +kernel
theorem dX4_howManyTold_0 : decode cX4_howManyTold 0 = .ok (.iconst 0, 1) := by decide +kernel
theorem dX4_howManyTold_1 : decode cX4_howManyTold 1 = .ok (.istore_n 1, 1) := by decide +kernel
theorem dX4_howManyTold_2 : decode cX4_howManyTold 2 = .ok (.aload_n 0, 1) := by decide +kernel
theorem dX4_howManyTold_3 : decode cX4_howManyTold 3 = .ok (.getfield 9, 3) := by decide +kernel
theorem dX4_howManyTold_6 : decode cX4_howManyTold 6 = .ok (.astore_n 2, 1) := by decide +kernel
theorem dX4_howManyTold_7 : decode cX4_howManyTold 7 = .ok (.aload_n 2, 1) := by decide +kernel
theorem dX4_howManyTold_8 : decode cX4_howManyTold 8 = .ok (.arraylength, 1) := by decide +kernel
theorem dX4_howManyTold_9 : decode cX4_howManyTold 9 = .ok (.istore_n 3, 1) := by decide +kernel
theorem dX4_howManyTold_10 : decode cX4_howManyTold 10 = .ok (.iconst 0, 1) := by decide +kernel
theorem dX4_howManyTold_11 : decode cX4_howManyTold 11 = .ok (.istore 4, 2) := by decide +kernel
theorem dX4_howManyTold_13 : decode cX4_howManyTold 13 = .ok (.iload 4, 2) := by decide +kernel
theorem dX4_howManyTold_15 : decode cX4_howManyTold 15 = .ok (.iload_n 3, 1) := by decide +kernel
theorem dX4_howManyTold_16 : decode cX4_howManyTold 16 = .ok (.if_icmp .ge 23, 3) := by decide +kernel
theorem dX4_howManyTold_19 : decode cX4_howManyTold 19 = .ok (.aload_n 2, 1) := by decide +kernel
theorem dX4_howManyTold_20 : decode cX4_howManyTold 20 = .ok (.iload 4, 2) := by decide +kernel
theorem dX4_howManyTold_22 : decode cX4_howManyTold 22 = .ok (.iaload, 1) := by decide +kernel
theorem dX4_howManyTold_23 : decode cX4_howManyTold 23 = .ok (.istore 5, 2) := by decide +kernel
theorem dX4_howManyTold_25 : decode cX4_howManyTold 25 = .ok (.iload 5, 2) := by decide +kernel
theorem dX4_howManyTold_27 : decode cX4_howManyTold 27 = .ok (.ifCond .eq 6, 3) := by decide +kernel
theorem dX4_howManyTold_30 : decode cX4_howManyTold 30 = .ok (.iinc 1 1, 3) := by decide +kernel
theorem dX4_howManyTold_33 : decode cX4_howManyTold 33 = .ok (.iinc 4 1, 3) := by decide +kernel
theorem dX4_howManyTold_36 : decode cX4_howManyTold 36 = .ok (.goto (-23), 3) := by decide +kernel
theorem dX4_howManyTold_39 : decode cX4_howManyTold 39 = .ok (.iload_n 1, 1) := by decide +kernel
theorem dX4_howManyTold_40 : decode cX4_howManyTold 40 = .ok (.ireturn, 1) := by decide +kernel
theorem dX5_init_0 : decode cX5_init 0 = .ok (.aload_n 0, 1) := by decide +kernel
theorem dX5_init_1 : decode cX5_init 1 = .ok (.invokespecial 3, 3) := by decide +kernel
theorem dX5_init_4 : decode cX5_init 4 = .ok (.aload_n 0, 1) := by decide +kernel
theorem dX5_init_5 : decode cX5_init 5 = .ok (.bipush 20, 2) := by decide +kernel
theorem dX5_init_7 : decode cX5_init 7 = .ok (.newarray .int, 2) := by decide +kernel
theorem dX5_init_9 : decode cX5_init 9 = .ok (.putfield 9, 3) := by decide +kernel
theorem dX5_init_12 : decode cX5_init 12 = .ok (.aload_n 0, 1) := by decide +kernel
theorem dX5_init_13 : decode cX5_init 13 = .ok (.bipush 20, 2) := by decide +kernel
theorem dX5_init_15 : decode cX5_init 15 = .ok (.newarray .int, 2) := by decide +kernel
theorem dX5_init_17 : decode cX5_init 17 = .ok (.putfield 15, 3) := by decide +kernel
theorem dX5_init_20 : decode cX5_init 20 = .ok (.aload_n 0, 1) := by decide +kernel
theorem dX5_init_21 : decode cX5_init 21 = .ok (.bipush 20, 2) := by decide +kernel
theorem dX5_init_23 : decode cX5_init 23 = .ok (.newarray .int, 2) := by decide +kernel
theorem dX5_init_25 : decode cX5_init 25 = .ok (.putfield 18, 3) := by decide +kernel
theorem dX5_init_28 : decode cX5_init 28 = .ok (.aload_n 0, 1) := by decide +kernel
theorem dX5_init_29 : decode cX5_init 29 = .ok (.iconst 0, 1) := by decide +kernel
theorem dX5_init_30 : decode cX5_init 30 = .ok (.putfield 21, 3) := by decide +kernel
theorem dX5_init_33 : decode cX5_init 33 = .ok (.aload_n 0, 1) := by decide +kernel
theorem dX5_init_34 : decode cX5_init 34 = .ok (.iconst (-1), 1) := by decide +kernel
theorem dX5_init_35 : decode cX5_init 35 = .ok (.putfield 25, 3) := by decide +kernel
theorem dX5_init_38 : decode cX5_init 38 = .ok (.aload_n 0, 1) := by decide +kernel
theorem dX5_init_39 : decode cX5_init 39 = .ok (.iconst 0, 1) := by decide +kernel
theorem dX5_init_40 : decode cX5_init 40 = .ok (.putfield 28, 3) := by decide +kernel
theorem dX5_init_43 : decode cX5_init 43 = .ok (.aload_n 0, 1) := by decide +kernel
theorem dX5_init_44 : decode cX5_init 44 = .ok (.iconst 0, 1) := by decide +kernel
theorem dX5_init_45 : decode cX5_init 45 = .ok (.putfield 31, 3) := by decide +kernel
theorem dX5_init_48 : decode cX5_init 48 = .ok (.return_, 1) := by decide +kernel
theorem dX5_empty_0 : decode cX5_empty 0 = .ok (.aload_n 0, 1) := by decide +kernel
theorem dX5_empty_1 : decode cX5_empty 1 = .ok (.iconst 0, 1) := by decide +kernel
theorem dX5_empty_2 : decode cX5_empty 2 = .ok (.putfield 21, 3) := by decide +kernel
theorem dX5_empty_5 : decode cX5_empty 5 = .ok (.aload_n 0, 1) := by decide +kernel
theorem dX5_empty_6 : decode cX5_empty 6 = .ok (.iconst (-1), 1) := by decide +kernel
theorem dX5_empty_7 : decode cX5_empty 7 = .ok (.putfield 25, 3) := by decide +kernel
theorem dX5_empty_10 : decode cX5_empty 10 = .ok (.aload_n 0, 1) := by decide +kernel
theorem dX5_empty_11 : decode cX5_empty 11 = .ok (.iconst 0, 1) := by decide +kernel
theorem dX5_empty_12 : decode cX5_empty 12 = .ok (.putfield 28, 3) := by decide +kernel
theorem dX5_empty_15 : decode cX5_empty 15 = .ok (.aload_n 0, 1) := by decide +kernel
theorem dX5_empty_16 : decode cX5_empty 16 = .ok (.iconst 0, 1) := by decide +kernel
theorem dX5_empty_17 : decode cX5_empty 17 = .ok (.putfield 31, 3) := by decide +kernel
theorem dX5_empty_20 : decode cX5_empty 20 = .ok (.return_, 1) := by decide +kernel
theorem dX5_addLoss_0 : decode cX5_addLoss 0 = .ok (.aload_n 0, 1) := by decide +kernel
theorem dX5_addLoss_1 : decode cX5_addLoss 1 = .ok (.getfield 21, 3) := by decide +kernel
theorem dX5_addLoss_4 : decode cX5_addLoss 4 = .ok (.bipush 20, 2) := by decide +kernel
theorem dX5_addLoss_6 : decode cX5_addLoss 6 = .ok (.if_icmp .ge 43, 3) := by decide +kernel
theorem dX5_addLoss_9 : decode cX5_addLoss 9 = .ok (.aload_n 0, 1) := by decide +kernel
theorem dX5_addLoss_10 : decode cX5_addLoss 10 = .ok (.getfield 9, 3) := by decide +kernel
theorem dX5_addLoss_13 : decode cX5_addLoss 13 = .ok (.aload_n 0, 1) := by decide +kernel
theorem dX5_addLoss_14 : decode cX5_addLoss 14 = .ok (.getfield 21, 3) := by decide +kernel
theorem dX5_addLoss_17 : decode cX5_addLoss 17 = .ok (.iload_n 1, 1) := by decide +kernel
theorem dX5_addLoss_18 : decode cX5_addLoss 18 = .ok (.iastore, 1) := by decide +kernel
theorem dX5_addLoss_19 : decode cX5_addLoss 19 = .ok (.aload_n 0, 1) := by decide +kernel
theorem dX5_addLoss_20 : decode cX5_addLoss 20 = .ok (.getfield 15, 3) := by decide +kernel
theorem dX5_addLoss_23 : decode cX5_addLoss 23 = .ok (.aload_n 0, 1) := by decide +kernel
theorem dX5_addLoss_24 : decode cX5_addLoss 24 = .ok (.getfield 21, 3) := by decide +kernel
theorem dX5_addLoss_27 : decode cX5_addLoss 27 = .ok (.iload_n 2, 1) := by decide +kernel
theorem dX5_addLoss_28 : decode cX5_addLoss 28 = .ok (.iastore, 1) := by decide +kernel
theorem dX5_addLoss_29 : decode cX5_addLoss 29 = .ok (.aload_n 0, 1) := by decide +kernel
theorem dX5_addLoss_30 : decode cX5_addLoss 30 = .ok (.getfield 18, 3) := by decide +kernel
theorem dX5_addLoss_33 : decode cX5_addLoss 33 = .ok (.aload_n 0, 1) := by decide +kernel
theorem dX5_addLoss_34 : decode cX5_addLoss 34 = .ok (.getfield 21, 3) := by decide +kernel
theorem dX5_addLoss_37 : decode cX5_addLoss 37 = .ok (.iload_n 3, 1) := by decide +kernel
theorem dX5_addLoss_38 : decode cX5_addLoss 38 = .ok (.iastore, 1) := by decide +kernel
theorem dX5_addLoss_39 : decode cX5_addLoss 39 = .ok (.aload_n 0, 1) := by decide +kernel
theorem dX5_addLoss_40 : decode cX5_addLoss 40 = .ok (.dup, 1) := by decide +kernel
theorem dX5_addLoss_41 : decode cX5_addLoss 41 = .ok (.getfield 21, 3) := by decide +kernel
theorem dX5_addLoss_44 : decode cX5_addLoss 44 = .ok (.iconst 1, 1) := by decide +kernel
theorem dX5_addLoss_45 : decode cX5_addLoss 45 = .ok (.iadd, 1) := by decide +kernel
theorem dX5_addLoss_46 : decode cX5_addLoss 46 = .ok (.putfield 21, 3) := by decide +kernel
theorem dX5_addLoss_49 : decode cX5_addLoss 49 = .ok (.return_, 1) := by decide +kernel
theorem dX5_holdsBack_0 : decode cX5_holdsBack 0 = .ok (.aload_n 0, 1) := by decide +kernel
theorem dX5_holdsBack_1 : decode cX5_holdsBack 1 = .ok (.getfield 25, 3) := by decide +kernel
theorem dX5_holdsBack_4 : decode cX5_holdsBack 4 = .ok (.iconst (-1), 1) := by decide +kernel
theorem dX5_holdsBack_5 : decode cX5_holdsBack 5 = .ok (.if_icmp .eq 18, 3) := by decide +kernel
theorem dX5_holdsBack_8 : decode cX5_holdsBack 8 = .ok (.iload_n 1, 1) := by decide +kernel
theorem dX5_holdsBack_9 : decode cX5_holdsBack 9 = .ok (.invokestatic 34, 3) := by decide +kernel
theorem dX5_holdsBack_12 : decode cX5_holdsBack 12 = .ok (.aload_n 0, 1) := by decide +kernel
theorem dX5_holdsBack_13 : decode cX5_holdsBack 13 = .ok (.getfield 25, 3) := by decide +kernel
theorem dX5_holdsBack_16 : decode cX5_holdsBack 16 = .ok (.if_icmp .le 7, 3) := by decide +kernel
theorem dX5_holdsBack_19 : decode cX5_holdsBack 19 = .ok (.iconst 1, 1) := by decide +kernel
theorem dX5_holdsBack_20 : decode cX5_holdsBack 20 = .ok (.goto 4, 3) := by decide +kernel
theorem dX5_holdsBack_23 : decode cX5_holdsBack 23 = .ok (.iconst 0, 1) := by decide +kernel
theorem dX5_holdsBack_24 : decode cX5_holdsBack 24 = .ok (.ireturn, 1) := by decide +kernel
theorem dX5_lossFor_0 : decode cX5_lossFor 0 = .ok (.iconst 0, 1) := by decide +kernel
theorem dX5_lossFor_1 : decode cX5_lossFor 1 = .ok (.istore_n 3, 1) := by decide +kernel
theorem dX5_lossFor_2 : decode cX5_lossFor 2 = .ok (.iconst 0, 1) := by decide +kernel
theorem dX5_lossFor_3 : decode cX5_lossFor 3 = .ok (.istore 4, 2) := by decide +kernel
theorem dX5_lossFor_5 : decode cX5_lossFor 5 = .ok (.iload 4, 2) := by decide +kernel
theorem dX5_lossFor_7 : decode cX5_lossFor 7 = .ok (.aload_n 0, 1) := by decide +kernel
theorem dX5_lossFor_8 : decode cX5_lossFor 8 = .ok (.getfield 21, 3) := by decide +kernel
theorem dX5_lossFor_11 : decode cX5_lossFor 11 = .ok (.if_icmp .ge 43, 3) := by decide +kernel
theorem dX5_lossFor_14 : decode cX5_lossFor 14 = .ok (.aload_n 0, 1) := by decide +kernel
theorem dX5_lossFor_15 : decode cX5_lossFor 15 = .ok (.getfield 15, 3) := by decide +kernel
theorem dX5_lossFor_18 : decode cX5_lossFor 18 = .ok (.iload 4, 2) := by decide +kernel
theorem dX5_lossFor_20 : decode cX5_lossFor 20 = .ok (.iaload, 1) := by decide +kernel
theorem dX5_lossFor_21 : decode cX5_lossFor 21 = .ok (.iload_n 1, 1) := by decide +kernel
theorem dX5_lossFor_22 : decode cX5_lossFor 22 = .ok (.if_icmp .gt 26, 3) := by decide +kernel
theorem dX5_lossFor_25 : decode cX5_lossFor 25 = .ok (.aload_n 0, 1) := by decide +kernel
theorem dX5_lossFor_26 : decode cX5_lossFor 26 = .ok (.getfield 18, 3) := by decide +kernel
theorem dX5_lossFor_29 : decode cX5_lossFor 29 = .ok (.iload 4, 2) := by decide +kernel
theorem dX5_lossFor_31 : decode cX5_lossFor 31 = .ok (.iaload, 1) := by decide +kernel
theorem dX5_lossFor_32 : decode cX5_lossFor 32 = .ok (.iload_n 2, 1) := by decide +kernel
theorem dX5_lossFor_33 : decode cX5_lossFor 33 = .ok (.if_icmp .gt 15, 3) := by decide +kernel
theorem dX5_lossFor_36 : decode cX5_lossFor 36 = .ok (.iload_n 3, 1) := by decide +kernel
theorem dX5_lossFor_37 : decode cX5_lossFor 37 = .ok (.aload_n 0, 1) := by decide +kernel
theorem dX5_lossFor_38 : decode cX5_lossFor 38 = .ok (.getfield 9, 3) := by decide +kernel
theorem dX5_lossFor_41 : decode cX5_lossFor 41 = .ok (.iload 4, 2) := by decide +kernel
theorem dX5_lossFor_43 : decode cX5_lossFor 43 = .ok (.iaload, 1) := by decide +kernel
theorem dX5_lossFor_44 : decode cX5_lossFor 44 = .ok (.invokestatic 40, 3) := by decide +kernel
theorem dX5_lossFor_47 : decode cX5_lossFor 47 = .ok (.istore_n 3, 1) := by decide +kernel
theorem dX5_lossFor_48 : decode cX5_lossFor 48 = .ok (.iinc 4 1, 3) := by decide +kernel
theorem dX5_lossFor_51 : decode cX5_lossFor 51 = .ok (.goto (-46), 3) := by decide +kernel
theorem dX5_lossFor_54 : decode cX5_lossFor 54 = .ok (.iload_n 3, 1) := by decide +kernel
theorem dX5_lossFor_55 : decode cX5_lossFor 55 = .ok (.ireturn, 1) := by decide +kernel
theorem dX6_init_0 : decode cX6_init 0 = .ok (.aload_n 0, 1) := by decide +kernel
theorem dX6_init_1 : decode cX6_init 1 = .ok (.invokespecial 3, 3) := by decide +kernel
theorem dX6_init_4 : decode cX6_init 4 = .ok (.aload_n 0, 1) := by decide +kernel
theorem dX6_init_5 : decode cX6_init 5 = .ok (.iconst 0, 1) := by decide +kernel
theorem dX6_init_6 : decode cX6_init 6 = .ok (.putfield 9, 3) := by decide +kernel
theorem dX6_init_9 : decode cX6_init 9 = .ok (.aload_n 0, 1) := by decide +kernel
theorem dX6_init_10 : decode cX6_init 10 = .ok (.iconst 0, 1) := by decide +kernel
theorem dX6_init_11 : decode cX6_init 11 = .ok (.putfield 15, 3) := by decide +kernel
theorem dX6_init_14 : decode cX6_init 14 = .ok (.aload_n 0, 1) := by decide +kernel
theorem dX6_init_15 : decode cX6_init 15 = .ok (.iconst 0, 1) := by decide +kernel
theorem dX6_init_16 : decode cX6_init 16 = .ok (.putfield 18, 3) := by decide +kernel
theorem dX6_init_19 : decode cX6_init 19 = .ok (.aload_n 0, 1) := by decide +kernel
theorem dX6_init_20 : decode cX6_init 20 = .ok (.aload_n 1, 1) := by decide +kernel
theorem dX6_init_21 : decode cX6_init 21 = .ok (.putfield 21, 3) := by decide +kernel
theorem dX6_init_24 : decode cX6_init 24 = .ok (.return_, 1) := by decide +kernel
theorem dX6_read_0 : decode cX6_read 0 = .ok (.aload_n 1, 1) := by decide +kernel
theorem dX6_read_1 : decode cX6_read 1 = .ok (.invokevirtual 25, 3) := by decide +kernel
theorem dX6_read_4 : decode cX6_read 4 = .ok (.aload_n 0, 1) := by decide +kernel
theorem dX6_read_5 : decode cX6_read 5 = .ok (.iconst 0, 1) := by decide +kernel
theorem dX6_read_6 : decode cX6_read 6 = .ok (.putfield 15, 3) := by decide +kernel
theorem dX6_read_9 : decode cX6_read 9 = .ok (.aload_n 0, 1) := by decide +kernel
theorem dX6_read_10 : decode cX6_read 10 = .ok (.invokevirtual 30, 3) := by decide +kernel
theorem dX6_read_13 : decode cX6_read 13 = .ok (.aload_n 0, 1) := by decide +kernel
theorem dX6_read_14 : decode cX6_read 14 = .ok (.invokevirtual 33, 3) := by decide +kernel
theorem dX6_read_17 : decode cX6_read 17 = .ok (.ifCond .eq 5, 3) := by decide +kernel
theorem dX6_read_20 : decode cX6_read 20 = .ok (.iconst (-1), 1) := by decide +kernel
theorem dX6_read_21 : decode cX6_read 21 = .ok (.ireturn, 1) := by decide +kernel
theorem dX6_read_22 : decode cX6_read 22 = .ok (.iconst 1, 1) := by decide +kernel
theorem dX6_read_23 : decode cX6_read 23 = .ok (.istore_n 2, 1) := by decide +kernel
theorem dX6_read_24 : decode cX6_read 24 = .ok (.iload_n 2, 1) := by decide +kernel
theorem dX6_read_25 : decode cX6_read 25 = .ok (.bipush 20, 2) := by decide +kernel
theorem dX6_read_27 : decode cX6_read 27 = .ok (.if_icmp .gt 50, 3) := by decide +kernel
theorem dX6_read_30 : decode cX6_read 30 = .ok (.aload_n 0, 1) := by decide +kernel
theorem dX6_read_31 : decode cX6_read 31 = .ok (.aload_n 1, 1) := by decide +kernel
theorem dX6_read_32 : decode cX6_read 32 = .ok (.invokevirtual 37, 3) := by decide +kernel
theorem dX6_read_35 : decode cX6_read 35 = .ok (.ifCond .ne 8, 3) := by decide +kernel
theorem dX6_read_38 : decode cX6_read 38 = .ok (.aload_n 0, 1) := by decide +kernel
theorem dX6_read_39 : decode cX6_read 39 = .ok (.getfield 9, 3) := by decide +kernel
theorem dX6_read_42 : decode cX6_read 42 = .ok (.ireturn, 1) := by decide +kernel
theorem dX6_read_43 : decode cX6_read 43 = .ok (.aload_n 1, 1) := by decide +kernel
theorem dX6_read_44 : decode cX6_read 44 = .ok (.iload_n 2, 1) := by decide +kernel
theorem dX6_read_45 : decode cX6_read 45 = .ok (.putfield 41, 3) := by decide +kernel
theorem dX6_read_48 : decode cX6_read 48 = .ok (.aload_n 0, 1) := by decide +kernel
theorem dX6_read_49 : decode cX6_read 49 = .ok (.invokevirtual 33, 3) := by decide +kernel
theorem dX6_read_52 : decode cX6_read 52 = .ok (.ifCond .eq 5, 3) := by decide +kernel
theorem dX6_read_55 : decode cX6_read 55 = .ok (.iconst (-1), 1) := by decide +kernel
theorem dX6_read_56 : decode cX6_read 56 = .ok (.ireturn, 1) := by decide +kernel
theorem dX6_read_57 : decode cX6_read 57 = .ok (.aload_n 0, 1) := by decide +kernel
theorem dX6_read_58 : decode cX6_read 58 = .ok (.ldc 44, 2) := by decide +kernel
theorem dX6_read_60 : decode cX6_read 60 = .ok (.invokevirtual 46, 3) := by decide +kernel
theorem dX6_read_63 : decode cX6_read 63 = .ok (.ifCond .ne 8, 3) := by decide +kernel
theorem dX6_read_66 : decode cX6_read 66 = .ok (.aload_n 0, 1) := by decide +kernel
theorem dX6_read_67 : decode cX6_read 67 = .ok (.getfield 9, 3) := by decide +kernel
theorem dX6_read_70 : decode cX6_read 70 = .ok (.ireturn, 1) := by decide +kernel
theorem dX6_read_71 : decode cX6_read 71 = .ok (.iinc 2 1, 3) := by decide +kernel
theorem dX6_read_74 : decode cX6_read 74 = .ok (.goto (-50), 3) := by decide +kernel
theorem dX6_read_77 : decode cX6_read 77 = .ok (.aload_n 0, 1) := by decide +kernel
theorem dX6_read_78 : decode cX6_read 78 = .ok (.getfield 9, 3) := by decide +kernel
theorem dX6_read_81 : decode cX6_read 81 = .ok (.ireturn, 1) := by decide +kernel
theorem dX6_readRule_0 : decode cX6_readRule 0 = .ok (.aload_n 0, 1) := by decide +kernel
theorem dX6_readRule_1 : decode cX6_readRule 1 = .ok (.ldc 50, 2) := by decide +kernel
theorem dX6_readRule_3 : decode cX6_readRule 3 = .ok (.invokevirtual 46, 3) := by decide +kernel
theorem dX6_readRule_6 : decode cX6_readRule 6 = .ok (.ifCond .eq 9, 3) := by decide +kernel
theorem dX6_readRule_9 : decode cX6_readRule 9 = .ok (.aload_n 0, 1) := by decide +kernel
theorem dX6_readRule_10 : decode cX6_readRule 10 = .ok (.aload_n 1, 1) := by decide +kernel
theorem dX6_readRule_11 : decode cX6_readRule 11 = .ok (.invokevirtual 52, 3) := by decide +kernel
theorem dX6_readRule_14 : decode cX6_readRule 14 = .ok (.ireturn, 1) := by decide +kernel
theorem dX6_readRule_15 : decode cX6_readRule 15 = .ok (.aload_n 0, 1) := by decide +kernel
theorem dX6_readRule_16 : decode cX6_readRule 16 = .ok (.ldc 55, 2) := by decide +kernel
theorem dX6_readRule_18 : decode cX6_readRule 18 = .ok (.invokevirtual 46, 3) := by decide +kernel
theorem dX6_readRule_21 : decode cX6_readRule 21 = .ok (.ifCond .eq 31, 3) := by decide +kernel
theorem dX6_readRule_24 : decode cX6_readRule 24 = .ok (.aload_n 0, 1) := by decide +kernel
theorem dX6_readRule_25 : decode cX6_readRule 25 = .ok (.ldc 57, 2) := by decide +kernel
theorem dX6_readRule_27 : decode cX6_readRule 27 = .ok (.invokevirtual 46, 3) := by decide +kernel
theorem dX6_readRule_30 : decode cX6_readRule 30 = .ok (.ifCond .eq 10, 3) := by decide +kernel
theorem dX6_readRule_33 : decode cX6_readRule 33 = .ok (.aload_n 0, 1) := by decide +kernel
theorem dX6_readRule_34 : decode cX6_readRule 34 = .ok (.invokevirtual 59, 3) := by decide +kernel
theorem dX6_readRule_37 : decode cX6_readRule 37 = .ok (.ifCond .ne 5, 3) := by decide +kernel
theorem dX6_readRule_40 : decode cX6_readRule 40 = .ok (.iconst 0, 1) := by decide +kernel
theorem dX6_readRule_41 : decode cX6_readRule 41 = .ok (.ireturn, 1) := by decide +kernel
theorem dX6_readRule_42 : decode cX6_readRule 42 = .ok (.aload_n 1, 1) := by decide +kernel
theorem dX6_readRule_43 : decode cX6_readRule 43 = .ok (.aload_n 0, 1) := by decide +kernel
theorem dX6_readRule_44 : decode cX6_readRule 44 = .ok (.getfield 18, 3) := by decide +kernel
theorem dX6_readRule_47 : decode cX6_readRule 47 = .ok (.putfield 62, 3) := by decide +kernel
theorem dX6_readRule_50 : decode cX6_readRule 50 = .ok (.iconst 1, 1) := by decide +kernel
theorem dX6_readRule_51 : decode cX6_readRule 51 = .ok (.ireturn, 1) := by decide +kernel
theorem dX6_readRule_52 : decode cX6_readRule 52 = .ok (.aload_n 0, 1) := by decide +kernel
theorem dX6_readRule_53 : decode cX6_readRule 53 = .ok (.ldc 65, 2) := by decide +kernel
theorem dX6_readRule_55 : decode cX6_readRule 55 = .ok (.invokevirtual 46, 3) := by decide +kernel
theorem dX6_readRule_58 : decode cX6_readRule 58 = .ok (.ifCond .eq 10, 3) := by decide +kernel
theorem dX6_readRule_61 : decode cX6_readRule 61 = .ok (.aload_n 0, 1) := by decide +kernel
theorem dX6_readRule_62 : decode cX6_readRule 62 = .ok (.invokevirtual 59, 3) := by decide +kernel
theorem dX6_readRule_65 : decode cX6_readRule 65 = .ok (.ifCond .ne 5, 3) := by decide +kernel
theorem dX6_readRule_68 : decode cX6_readRule 68 = .ok (.iconst 0, 1) := by decide +kernel
theorem dX6_readRule_69 : decode cX6_readRule 69 = .ok (.ireturn, 1) := by decide +kernel
theorem dX6_readRule_70 : decode cX6_readRule 70 = .ok (.aload_n 1, 1) := by decide +kernel
theorem dX6_readRule_71 : decode cX6_readRule 71 = .ok (.aload_n 0, 1) := by decide +kernel
theorem dX6_readRule_72 : decode cX6_readRule 72 = .ok (.getfield 18, 3) := by decide +kernel
theorem dX6_readRule_75 : decode cX6_readRule 75 = .ok (.putfield 67, 3) := by decide +kernel
theorem dX6_readRule_78 : decode cX6_readRule 78 = .ok (.iconst 1, 1) := by decide +kernel
theorem dX6_readRule_79 : decode cX6_readRule 79 = .ok (.ireturn, 1) := by decide +kernel
theorem dX6_readLoss_0 : decode cX6_readLoss 0 = .ok (.aload_n 0, 1) := by decide +kernel
theorem dX6_readLoss_1 : decode cX6_readLoss 1 = .ok (.invokevirtual 59, 3) := by decide +kernel
theorem dX6_readLoss_4 : decode cX6_readLoss 4 = .ok (.ifCond .ne 5, 3) := by decide +kernel
theorem dX6_readLoss_7 : decode cX6_readLoss 7 = .ok (.iconst 0, 1) := by decide +kernel
theorem dX6_readLoss_8 : decode cX6_readLoss 8 = .ok (.ireturn, 1) := by decide +kernel
theorem dX6_readLoss_9 : decode cX6_readLoss 9 = .ok (.aload_n 0, 1) := by decide +kernel
theorem dX6_readLoss_10 : decode cX6_readLoss 10 = .ok (.getfield 18, 3) := by decide +kernel
theorem dX6_readLoss_13 : decode cX6_readLoss 13 = .ok (.istore_n 2, 1) := by decide +kernel
theorem dX6_readLoss_14 : decode cX6_readLoss 14 = .ok (.aload_n 0, 1) := by decide +kernel
theorem dX6_readLoss_15 : decode cX6_readLoss 15 = .ok (.ldc 69, 2) := by decide +kernel
theorem dX6_readLoss_17 : decode cX6_readLoss 17 = .ok (.invokevirtual 46, 3) := by decide +kernel
theorem dX6_readLoss_20 : decode cX6_readLoss 20 = .ok (.ifCond .eq 10, 3) := by decide +kernel
theorem dX6_readLoss_23 : decode cX6_readLoss 23 = .ok (.aload_n 0, 1) := by decide +kernel
theorem dX6_readLoss_24 : decode cX6_readLoss 24 = .ok (.invokevirtual 59, 3) := by decide +kernel
theorem dX6_readLoss_27 : decode cX6_readLoss 27 = .ok (.ifCond .ne 5, 3) := by decide +kernel
theorem dX6_readLoss_30 : decode cX6_readLoss 30 = .ok (.iconst 0, 1) := by decide +kernel
theorem dX6_readLoss_31 : decode cX6_readLoss 31 = .ok (.ireturn, 1) := by decide +kernel
theorem dX6_readLoss_32 : decode cX6_readLoss 32 = .ok (.aload_n 0, 1) := by decide +kernel
theorem dX6_readLoss_33 : decode cX6_readLoss 33 = .ok (.getfield 18, 3) := by decide +kernel
theorem dX6_readLoss_36 : decode cX6_readLoss 36 = .ok (.istore_n 3, 1) := by decide +kernel
theorem dX6_readLoss_37 : decode cX6_readLoss 37 = .ok (.iconst 0, 1) := by decide +kernel
theorem dX6_readLoss_38 : decode cX6_readLoss 38 = .ok (.istore 4, 2) := by decide +kernel
theorem dX6_readLoss_40 : decode cX6_readLoss 40 = .ok (.aload_n 0, 1) := by decide +kernel
theorem dX6_readLoss_41 : decode cX6_readLoss 41 = .ok (.ldc 71, 2) := by decide +kernel
theorem dX6_readLoss_43 : decode cX6_readLoss 43 = .ok (.invokevirtual 46, 3) := by decide +kernel
theorem dX6_readLoss_46 : decode cX6_readLoss 46 = .ok (.ifCond .eq 18, 3) := by decide +kernel
theorem dX6_readLoss_49 : decode cX6_readLoss 49 = .ok (.aload_n 0, 1) := by decide +kernel
theorem dX6_readLoss_50 : decode cX6_readLoss 50 = .ok (.invokevirtual 59, 3) := by decide +kernel
theorem dX6_readLoss_53 : decode cX6_readLoss 53 = .ok (.ifCond .ne 5, 3) := by decide +kernel
theorem dX6_readLoss_56 : decode cX6_readLoss 56 = .ok (.iconst 0, 1) := by decide +kernel
theorem dX6_readLoss_57 : decode cX6_readLoss 57 = .ok (.ireturn, 1) := by decide +kernel
theorem dX6_readLoss_58 : decode cX6_readLoss 58 = .ok (.aload_n 0, 1) := by decide +kernel
theorem dX6_readLoss_59 : decode cX6_readLoss 59 = .ok (.getfield 18, 3) := by decide +kernel
theorem dX6_readLoss_62 : decode cX6_readLoss 62 = .ok (.istore 4, 2) := by decide +kernel
theorem dX6_readLoss_64 : decode cX6_readLoss 64 = .ok (.aload_n 1, 1) := by decide +kernel
theorem dX6_readLoss_65 : decode cX6_readLoss 65 = .ok (.iload_n 2, 1) := by decide +kernel
theorem dX6_readLoss_66 : decode cX6_readLoss 66 = .ok (.iload_n 3, 1) := by decide +kernel
theorem dX6_readLoss_67 : decode cX6_readLoss 67 = .ok (.iload 4, 2) := by decide +kernel
theorem dX6_readLoss_69 : decode cX6_readLoss 69 = .ok (.invokevirtual 73, 3) := by decide +kernel
theorem dX6_readLoss_72 : decode cX6_readLoss 72 = .ok (.iconst 1, 1) := by decide +kernel
theorem dX6_readLoss_73 : decode cX6_readLoss 73 = .ok (.ireturn, 1) := by decide +kernel
theorem dX6_isAtEnd_0 : decode cX6_isAtEnd 0 = .ok (.aload_n 0, 1) := by decide +kernel
theorem dX6_isAtEnd_1 : decode cX6_isAtEnd 1 = .ok (.getfield 9, 3) := by decide +kernel
theorem dX6_isAtEnd_4 : decode cX6_isAtEnd 4 = .ok (.aload_n 0, 1) := by decide +kernel
theorem dX6_isAtEnd_5 : decode cX6_isAtEnd 5 = .ok (.getfield 21, 3) := by decide +kernel
theorem dX6_isAtEnd_8 : decode cX6_isAtEnd 8 = .ok (.getfield 77, 3) := by decide +kernel
theorem dX6_isAtEnd_11 : decode cX6_isAtEnd 11 = .ok (.if_icmp .lt 7, 3) := by decide +kernel
theorem dX6_isAtEnd_14 : decode cX6_isAtEnd 14 = .ok (.iconst 1, 1) := by decide +kernel
theorem dX6_isAtEnd_15 : decode cX6_isAtEnd 15 = .ok (.goto 4, 3) := by decide +kernel
theorem dX6_isAtEnd_18 : decode cX6_isAtEnd 18 = .ok (.iconst 0, 1) := by decide +kernel
theorem dX6_isAtEnd_19 : decode cX6_isAtEnd 19 = .ok (.ireturn, 1) := by decide +kernel
theorem dX6_step_0 : decode cX6_step 0 = .ok (.aload_n 0, 1) := by decide +kernel
theorem dX6_step_1 : decode cX6_step 1 = .ok (.aload_n 0, 1) := by decide +kernel
theorem dX6_step_2 : decode cX6_step 2 = .ok (.getfield 15, 3) := by decide +kernel
theorem dX6_step_5 : decode cX6_step 5 = .ok (.putfield 9, 3) := by decide +kernel
theorem dX6_step_8 : decode cX6_step 8 = .ok (.aload_n 0, 1) := by decide +kernel
theorem dX6_step_9 : decode cX6_step 9 = .ok (.getfield 9, 3) := by decide +kernel
theorem dX6_step_12 : decode cX6_step 12 = .ok (.aload_n 0, 1) := by decide +kernel
theorem dX6_step_13 : decode cX6_step 13 = .ok (.getfield 21, 3) := by decide +kernel
theorem dX6_step_16 : decode cX6_step 16 = .ok (.getfield 77, 3) := by decide +kernel
theorem dX6_step_19 : decode cX6_step 19 = .ok (.if_icmp .ge 32, 3) := by decide +kernel
theorem dX6_step_22 : decode cX6_step 22 = .ok (.aload_n 0, 1) := by decide +kernel
theorem dX6_step_23 : decode cX6_step 23 = .ok (.getfield 21, 3) := by decide +kernel
theorem dX6_step_26 : decode cX6_step 26 = .ok (.aload_n 0, 1) := by decide +kernel
theorem dX6_step_27 : decode cX6_step 27 = .ok (.getfield 9, 3) := by decide +kernel
theorem dX6_step_30 : decode cX6_step 30 = .ok (.invokevirtual 82, 3) := by decide +kernel
theorem dX6_step_33 : decode cX6_step 33 = .ok (.bipush 32, 2) := by decide +kernel
theorem dX6_step_35 : decode cX6_step 35 = .ok (.if_icmp .ne 16, 3) := by decide +kernel
theorem dX6_step_38 : decode cX6_step 38 = .ok (.aload_n 0, 1) := by decide +kernel
theorem dX6_step_39 : decode cX6_step 39 = .ok (.dup, 1) := by decide +kernel
theorem dX6_step_40 : decode cX6_step 40 = .ok (.getfield 9, 3) := by decide +kernel
theorem dX6_step_43 : decode cX6_step 43 = .ok (.iconst 1, 1) := by decide +kernel
theorem dX6_step_44 : decode cX6_step 44 = .ok (.iadd, 1) := by decide +kernel
theorem dX6_step_45 : decode cX6_step 45 = .ok (.putfield 9, 3) := by decide +kernel
theorem dX6_step_48 : decode cX6_step 48 = .ok (.goto (-40), 3) := by decide +kernel
theorem dX6_step_51 : decode cX6_step 51 = .ok (.aload_n 0, 1) := by decide +kernel
theorem dX6_step_52 : decode cX6_step 52 = .ok (.aload_n 0, 1) := by decide +kernel
theorem dX6_step_53 : decode cX6_step 53 = .ok (.getfield 9, 3) := by decide +kernel
theorem dX6_step_56 : decode cX6_step 56 = .ok (.putfield 15, 3) := by decide +kernel
theorem dX6_step_59 : decode cX6_step 59 = .ok (.aload_n 0, 1) := by decide +kernel
theorem dX6_step_60 : decode cX6_step 60 = .ok (.invokevirtual 33, 3) := by decide +kernel
theorem dX6_step_63 : decode cX6_step 63 = .ok (.ifCond .eq 4, 3) := by decide +kernel
theorem dX6_step_66 : decode cX6_step 66 = .ok (.return_, 1) := by decide +kernel
theorem dX6_step_67 : decode cX6_step 67 = .ok (.aload_n 0, 1) := by decide +kernel
theorem dX6_step_68 : decode cX6_step 68 = .ok (.getfield 21, 3) := by decide +kernel
theorem dX6_step_71 : decode cX6_step 71 = .ok (.aload_n 0, 1) := by decide +kernel
theorem dX6_step_72 : decode cX6_step 72 = .ok (.getfield 9, 3) := by decide +kernel
theorem dX6_step_75 : decode cX6_step 75 = .ok (.invokevirtual 82, 3) := by decide +kernel
theorem dX6_step_78 : decode cX6_step 78 = .ok (.invokestatic 86, 3) := by decide +kernel
theorem dX6_step_81 : decode cX6_step 81 = .ok (.istore_n 1, 1) := by decide +kernel
theorem dX6_step_82 : decode cX6_step 82 = .ok (.aload_n 0, 1) := by decide +kernel
theorem dX6_step_83 : decode cX6_step 83 = .ok (.dup, 1) := by decide +kernel
theorem dX6_step_84 : decode cX6_step 84 = .ok (.getfield 15, 3) := by decide +kernel
theorem dX6_step_87 : decode cX6_step 87 = .ok (.iconst 1, 1) := by decide +kernel
theorem dX6_step_88 : decode cX6_step 88 = .ok (.iadd, 1) := by decide +kernel
theorem dX6_step_89 : decode cX6_step 89 = .ok (.putfield 15, 3) := by decide +kernel
theorem dX6_step_92 : decode cX6_step 92 = .ok (.iload_n 1, 1) := by decide +kernel
theorem dX6_step_93 : decode cX6_step 93 = .ok (.iconst 3, 1) := by decide +kernel
theorem dX6_step_94 : decode cX6_step 94 = .ok (.if_icmp .eq 48, 3) := by decide +kernel
theorem dX6_step_97 : decode cX6_step 97 = .ok (.aload_n 0, 1) := by decide +kernel
theorem dX6_step_98 : decode cX6_step 98 = .ok (.getfield 15, 3) := by decide +kernel
theorem dX6_step_101 : decode cX6_step 101 = .ok (.aload_n 0, 1) := by decide +kernel
theorem dX6_step_102 : decode cX6_step 102 = .ok (.getfield 21, 3) := by decide +kernel
theorem dX6_step_105 : decode cX6_step 105 = .ok (.getfield 77, 3) := by decide +kernel
theorem dX6_step_108 : decode cX6_step 108 = .ok (.if_icmp .ge 34, 3) := by decide +kernel
theorem dX6_step_111 : decode cX6_step 111 = .ok (.aload_n 0, 1) := by decide +kernel
theorem dX6_step_112 : decode cX6_step 112 = .ok (.getfield 21, 3) := by decide +kernel
theorem dX6_step_115 : decode cX6_step 115 = .ok (.aload_n 0, 1) := by decide +kernel
theorem dX6_step_116 : decode cX6_step 116 = .ok (.getfield 15, 3) := by decide +kernel
theorem dX6_step_119 : decode cX6_step 119 = .ok (.invokevirtual 82, 3) := by decide +kernel
theorem dX6_step_122 : decode cX6_step 122 = .ok (.invokestatic 86, 3) := by decide +kernel
theorem dX6_step_125 : decode cX6_step 125 = .ok (.iload_n 1, 1) := by decide +kernel
theorem dX6_step_126 : decode cX6_step 126 = .ok (.if_icmp .ne 16, 3) := by decide +kernel
theorem dX6_step_129 : decode cX6_step 129 = .ok (.aload_n 0, 1) := by decide +kernel
theorem dX6_step_130 : decode cX6_step 130 = .ok (.dup, 1) := by decide +kernel
theorem dX6_step_131 : decode cX6_step 131 = .ok (.getfield 15, 3) := by decide +kernel
theorem dX6_step_134 : decode cX6_step 134 = .ok (.iconst 1, 1) := by decide +kernel
theorem dX6_step_135 : decode cX6_step 135 = .ok (.iadd, 1) := by decide +kernel
theorem dX6_step_136 : decode cX6_step 136 = .ok (.putfield 15, 3) := by decide +kernel
theorem dX6_step_139 : decode cX6_step 139 = .ok (.goto (-47), 3) := by decide +kernel
theorem dX6_step_142 : decode cX6_step 142 = .ok (.return_, 1) := by decide +kernel
theorem dX6_kindOf_0 : decode cX6_kindOf 0 = .ok (.iload_n 0, 1) := by decide +kernel
theorem dX6_kindOf_1 : decode cX6_kindOf 1 = .ok (.bipush 97, 2) := by decide +kernel
theorem dX6_kindOf_3 : decode cX6_kindOf 3 = .ok (.if_icmp .lt 11, 3) := by decide +kernel
theorem dX6_kindOf_6 : decode cX6_kindOf 6 = .ok (.iload_n 0, 1) := by decide +kernel
theorem dX6_kindOf_7 : decode cX6_kindOf 7 = .ok (.bipush 122, 2) := by decide +kernel
theorem dX6_kindOf_9 : decode cX6_kindOf 9 = .ok (.if_icmp .gt 5, 3) := by decide +kernel
theorem dX6_kindOf_12 : decode cX6_kindOf 12 = .ok (.iconst 1, 1) := by decide +kernel
theorem dX6_kindOf_13 : decode cX6_kindOf 13 = .ok (.ireturn, 1) := by decide +kernel
theorem dX6_kindOf_14 : decode cX6_kindOf 14 = .ok (.iload_n 0, 1) := by decide +kernel
theorem dX6_kindOf_15 : decode cX6_kindOf 15 = .ok (.bipush 48, 2) := by decide +kernel
theorem dX6_kindOf_17 : decode cX6_kindOf 17 = .ok (.if_icmp .lt 13, 3) := by decide +kernel
theorem dX6_kindOf_20 : decode cX6_kindOf 20 = .ok (.iload_n 0, 1) := by decide +kernel
theorem dX6_kindOf_21 : decode cX6_kindOf 21 = .ok (.bipush 57, 2) := by decide +kernel
theorem dX6_kindOf_23 : decode cX6_kindOf 23 = .ok (.if_icmp .gt 7, 3) := by decide +kernel
theorem dX6_kindOf_26 : decode cX6_kindOf 26 = .ok (.iconst 2, 1) := by decide +kernel
theorem dX6_kindOf_27 : decode cX6_kindOf 27 = .ok (.goto 4, 3) := by decide +kernel
theorem dX6_kindOf_30 : decode cX6_kindOf 30 = .ok (.iconst 3, 1) := by decide +kernel
theorem dX6_kindOf_31 : decode cX6_kindOf 31 = .ok (.ireturn, 1) := by decide +kernel
theorem dX6_takeWord_0 : decode cX6_takeWord 0 = .ok (.aload_n 0, 1) := by decide +kernel
theorem dX6_takeWord_1 : decode cX6_takeWord 1 = .ok (.getfield 15, 3) := by decide +kernel
theorem dX6_takeWord_4 : decode cX6_takeWord 4 = .ok (.aload_n 0, 1) := by decide +kernel
theorem dX6_takeWord_5 : decode cX6_takeWord 5 = .ok (.getfield 9, 3) := by decide +kernel
theorem dX6_takeWord_8 : decode cX6_takeWord 8 = .ok (.isub, 1) := by decide +kernel
theorem dX6_takeWord_9 : decode cX6_takeWord 9 = .ok (.aload_n 1, 1) := by decide +kernel
theorem dX6_takeWord_10 : decode cX6_takeWord 10 = .ok (.invokevirtual 89, 3) := by decide +kernel
theorem dX6_takeWord_13 : decode cX6_takeWord 13 = .ok (.if_icmp .eq 5, 3) := by decide +kernel
theorem dX6_takeWord_16 : decode cX6_takeWord 16 = .ok (.iconst 0, 1) := by decide +kernel
theorem dX6_takeWord_17 : decode cX6_takeWord 17 = .ok (.ireturn, 1) := by decide +kernel
theorem dX6_takeWord_18 : decode cX6_takeWord 18 = .ok (.iconst 0, 1) := by decide +kernel
theorem dX6_takeWord_19 : decode cX6_takeWord 19 = .ok (.istore_n 2, 1) := by decide +kernel
theorem dX6_takeWord_20 : decode cX6_takeWord 20 = .ok (.iload_n 2, 1) := by decide +kernel
theorem dX6_takeWord_21 : decode cX6_takeWord 21 = .ok (.aload_n 1, 1) := by decide +kernel
theorem dX6_takeWord_22 : decode cX6_takeWord 22 = .ok (.invokevirtual 89, 3) := by decide +kernel
theorem dX6_takeWord_25 : decode cX6_takeWord 25 = .ok (.if_icmp .ge 32, 3) := by decide +kernel
theorem dX6_takeWord_28 : decode cX6_takeWord 28 = .ok (.aload_n 0, 1) := by decide +kernel
theorem dX6_takeWord_29 : decode cX6_takeWord 29 = .ok (.getfield 21, 3) := by decide +kernel
theorem dX6_takeWord_32 : decode cX6_takeWord 32 = .ok (.aload_n 0, 1) := by decide +kernel
theorem dX6_takeWord_33 : decode cX6_takeWord 33 = .ok (.getfield 9, 3) := by decide +kernel
theorem dX6_takeWord_36 : decode cX6_takeWord 36 = .ok (.iload_n 2, 1) := by decide +kernel
theorem dX6_takeWord_37 : decode cX6_takeWord 37 = .ok (.iadd, 1) := by decide +kernel
theorem dX6_takeWord_38 : decode cX6_takeWord 38 = .ok (.invokevirtual 82, 3) := by decide +kernel
theorem dX6_takeWord_41 : decode cX6_takeWord 41 = .ok (.aload_n 1, 1) := by decide +kernel
theorem dX6_takeWord_42 : decode cX6_takeWord 42 = .ok (.iload_n 2, 1) := by decide +kernel
theorem dX6_takeWord_43 : decode cX6_takeWord 43 = .ok (.invokevirtual 94, 3) := by decide +kernel
theorem dX6_takeWord_46 : decode cX6_takeWord 46 = .ok (.if_icmp .eq 5, 3) := by decide +kernel
theorem dX6_takeWord_49 : decode cX6_takeWord 49 = .ok (.iconst 0, 1) := by decide +kernel
theorem dX6_takeWord_50 : decode cX6_takeWord 50 = .ok (.ireturn, 1) := by decide +kernel
theorem dX6_takeWord_51 : decode cX6_takeWord 51 = .ok (.iinc 2 1, 3) := by decide +kernel
theorem dX6_takeWord_54 : decode cX6_takeWord 54 = .ok (.goto (-34), 3) := by decide +kernel
theorem dX6_takeWord_57 : decode cX6_takeWord 57 = .ok (.aload_n 0, 1) := by decide +kernel
theorem dX6_takeWord_58 : decode cX6_takeWord 58 = .ok (.invokevirtual 30, 3) := by decide +kernel
theorem dX6_takeWord_61 : decode cX6_takeWord 61 = .ok (.iconst 1, 1) := by decide +kernel
theorem dX6_takeWord_62 : decode cX6_takeWord 62 = .ok (.ireturn, 1) := by decide +kernel
theorem dX6_takeNumber_0 : decode cX6_takeNumber 0 = .ok (.aload_n 0, 1) := by decide +kernel
theorem dX6_takeNumber_1 : decode cX6_takeNumber 1 = .ok (.invokevirtual 33, 3) := by decide +kernel
theorem dX6_takeNumber_4 : decode cX6_takeNumber 4 = .ok (.ifCond .ne 21, 3) := by decide +kernel
theorem dX6_takeNumber_7 : decode cX6_takeNumber 7 = .ok (.aload_n 0, 1) := by decide +kernel
theorem dX6_takeNumber_8 : decode cX6_takeNumber 8 = .ok (.getfield 21, 3) := by decide +kernel
theorem dX6_takeNumber_11 : decode cX6_takeNumber 11 = .ok (.aload_n 0, 1) := by decide +kernel
theorem dX6_takeNumber_12 : decode cX6_takeNumber 12 = .ok (.getfield 9, 3) := by decide +kernel
theorem dX6_takeNumber_15 : decode cX6_takeNumber 15 = .ok (.invokevirtual 82, 3) := by decide +kernel
theorem dX6_takeNumber_18 : decode cX6_takeNumber 18 = .ok (.invokestatic 86, 3) := by decide +kernel
theorem dX6_takeNumber_21 : decode cX6_takeNumber 21 = .ok (.iconst 2, 1) := by decide +kernel
theorem dX6_takeNumber_22 : decode cX6_takeNumber 22 = .ok (.if_icmp .eq 5, 3) := by decide +kernel
theorem dX6_takeNumber_25 : decode cX6_takeNumber 25 = .ok (.iconst 0, 1) := by decide +kernel
theorem dX6_takeNumber_26 : decode cX6_takeNumber 26 = .ok (.ireturn, 1) := by decide +kernel
theorem dX6_takeNumber_27 : decode cX6_takeNumber 27 = .ok (.iconst 0, 1) := by decide +kernel
theorem dX6_takeNumber_28 : decode cX6_takeNumber 28 = .ok (.istore_n 1, 1) := by decide +kernel
theorem dX6_takeNumber_29 : decode cX6_takeNumber 29 = .ok (.aload_n 0, 1) := by decide +kernel
theorem dX6_takeNumber_30 : decode cX6_takeNumber 30 = .ok (.getfield 9, 3) := by decide +kernel
theorem dX6_takeNumber_33 : decode cX6_takeNumber 33 = .ok (.istore_n 2, 1) := by decide +kernel
theorem dX6_takeNumber_34 : decode cX6_takeNumber 34 = .ok (.iload_n 2, 1) := by decide +kernel
theorem dX6_takeNumber_35 : decode cX6_takeNumber 35 = .ok (.aload_n 0, 1) := by decide +kernel
theorem dX6_takeNumber_36 : decode cX6_takeNumber 36 = .ok (.getfield 15, 3) := by decide +kernel
theorem dX6_takeNumber_39 : decode cX6_takeNumber 39 = .ok (.if_icmp .ge 31, 3) := by decide +kernel
theorem dX6_takeNumber_42 : decode cX6_takeNumber 42 = .ok (.bipush 101, 2) := by decide +kernel
theorem dX6_takeNumber_44 : decode cX6_takeNumber 44 = .ok (.iload_n 1, 1) := by decide +kernel
theorem dX6_takeNumber_45 : decode cX6_takeNumber 45 = .ok (.bipush 10, 2) := by decide +kernel
theorem dX6_takeNumber_47 : decode cX6_takeNumber 47 = .ok (.imul, 1) := by decide +kernel
theorem dX6_takeNumber_48 : decode cX6_takeNumber 48 = .ok (.aload_n 0, 1) := by decide +kernel
theorem dX6_takeNumber_49 : decode cX6_takeNumber 49 = .ok (.getfield 21, 3) := by decide +kernel
theorem dX6_takeNumber_52 : decode cX6_takeNumber 52 = .ok (.iload_n 2, 1) := by decide +kernel
theorem dX6_takeNumber_53 : decode cX6_takeNumber 53 = .ok (.invokevirtual 82, 3) := by decide +kernel
theorem dX6_takeNumber_56 : decode cX6_takeNumber 56 = .ok (.iadd, 1) := by decide +kernel
theorem dX6_takeNumber_57 : decode cX6_takeNumber 57 = .ok (.bipush 48, 2) := by decide +kernel
theorem dX6_takeNumber_59 : decode cX6_takeNumber 59 = .ok (.isub, 1) := by decide +kernel
theorem dX6_takeNumber_60 : decode cX6_takeNumber 60 = .ok (.invokestatic 98, 3) := by decide +kernel
theorem dX6_takeNumber_63 : decode cX6_takeNumber 63 = .ok (.istore_n 1, 1) := by decide +kernel
theorem dX6_takeNumber_64 : decode cX6_takeNumber 64 = .ok (.iinc 2 1, 3) := by decide +kernel
theorem dX6_takeNumber_67 : decode cX6_takeNumber 67 = .ok (.goto (-33), 3) := by decide +kernel
theorem dX6_takeNumber_70 : decode cX6_takeNumber 70 = .ok (.iload_n 1, 1) := by decide +kernel
theorem dX6_takeNumber_71 : decode cX6_takeNumber 71 = .ok (.bipush 100, 2) := by decide +kernel
theorem dX6_takeNumber_73 : decode cX6_takeNumber 73 = .ok (.if_icmp .le 5, 3) := by decide +kernel
theorem dX6_takeNumber_76 : decode cX6_takeNumber 76 = .ok (.iconst 0, 1) := by decide +kernel
theorem dX6_takeNumber_77 : decode cX6_takeNumber 77 = .ok (.ireturn, 1) := by decide +kernel
theorem dX6_takeNumber_78 : decode cX6_takeNumber 78 = .ok (.aload_n 0, 1) := by decide +kernel
theorem dX6_takeNumber_79 : decode cX6_takeNumber 79 = .ok (.iload_n 1, 1) := by decide +kernel
theorem dX6_takeNumber_80 : decode cX6_takeNumber 80 = .ok (.putfield 18, 3) := by decide +kernel
theorem dX6_takeNumber_83 : decode cX6_takeNumber 83 = .ok (.aload_n 0, 1) := by decide +kernel
theorem dX6_takeNumber_84 : decode cX6_takeNumber 84 = .ok (.invokevirtual 30, 3) := by decide +kernel
theorem dX6_takeNumber_87 : decode cX6_takeNumber 87 = .ok (.iconst 1, 1) := by decide +kernel
theorem dX6_takeNumber_88 : decode cX6_takeNumber 88 = .ok (.ireturn, 1) := by decide +kernel
theorem dX7_init_0 : decode cX7_init 0 = .ok (.aload_n 0, 1) := by decide +kernel
theorem dX7_init_1 : decode cX7_init 1 = .ok (.invokespecial 3, 3) := by decide +kernel
theorem dX7_init_4 : decode cX7_init 4 = .ok (.aload_n 0, 1) := by decide +kernel
theorem dX7_init_5 : decode cX7_init 5 = .ok (.bipush 8, 2) := by decide +kernel
theorem dX7_init_7 : decode cX7_init 7 = .ok (.newarray .int, 2) := by decide +kernel
theorem dX7_init_9 : decode cX7_init 9 = .ok (.putfield 9, 3) := by decide +kernel
theorem dX7_init_12 : decode cX7_init 12 = .ok (.aload_n 0, 1) := by decide +kernel
theorem dX7_init_13 : decode cX7_init 13 = .ok (.bipush 8, 2) := by decide +kernel
theorem dX7_init_15 : decode cX7_init 15 = .ok (.newarray .int, 2) := by decide +kernel
theorem dX7_init_17 : decode cX7_init 17 = .ok (.putfield 15, 3) := by decide +kernel
theorem dX7_init_20 : decode cX7_init 20 = .ok (.return_, 1) := by decide +kernel
theorem dX7_put_0 : decode cX7_put 0 = .ok (.iload_n 1, 1) := by decide +kernel
theorem dX7_put_1 : decode cX7_put 1 = .ok (.iconst 0, 1) := by decide +kernel
theorem dX7_put_2 : decode cX7_put 2 = .ok (.bipush 7, 2) := by decide +kernel
theorem dX7_put_4 : decode cX7_put 4 = .ok (.invokestatic 18, 3) := by decide +kernel
theorem dX7_put_7 : decode cX7_put 7 = .ok (.ifCond .eq 17, 3) := by decide +kernel
theorem dX7_put_10 : decode cX7_put 10 = .ok (.aload_n 0, 1) := by decide +kernel
theorem dX7_put_11 : decode cX7_put 11 = .ok (.getfield 9, 3) := by decide +kernel
theorem dX7_put_14 : decode cX7_put 14 = .ok (.iload_n 1, 1) := by decide +kernel
theorem dX7_put_15 : decode cX7_put 15 = .ok (.iload_n 2, 1) := by decide +kernel
theorem dX7_put_16 : decode cX7_put 16 = .ok (.iastore, 1) := by decide +kernel
theorem dX7_put_17 : decode cX7_put 17 = .ok (.aload_n 0, 1) := by decide +kernel
theorem dX7_put_18 : decode cX7_put 18 = .ok (.getfield 15, 3) := by decide +kernel
theorem dX7_put_21 : decode cX7_put 21 = .ok (.iload_n 1, 1) := by decide +kernel
theorem dX7_put_22 : decode cX7_put 22 = .ok (.iload_n 3, 1) := by decide +kernel
theorem dX7_put_23 : decode cX7_put 23 = .ok (.iastore, 1) := by decide +kernel
theorem dX7_put_24 : decode cX7_put 24 = .ok (.return_, 1) := by decide +kernel
theorem dX7_sizeFor_0 : decode cX7_sizeFor 0 = .ok (.iconst (-1), 1) := by decide +kernel
theorem dX7_sizeFor_1 : decode cX7_sizeFor 1 = .ok (.istore_n 2, 1) := by decide +kernel
theorem dX7_sizeFor_2 : decode cX7_sizeFor 2 = .ok (.iconst 0, 1) := by decide +kernel
theorem dX7_sizeFor_3 : decode cX7_sizeFor 3 = .ok (.istore_n 3, 1) := by decide +kernel
theorem dX7_sizeFor_4 : decode cX7_sizeFor 4 = .ok (.iload_n 3, 1) := by decide +kernel
theorem dX7_sizeFor_5 : decode cX7_sizeFor 5 = .ok (.bipush 8, 2) := by decide +kernel
theorem dX7_sizeFor_7 : decode cX7_sizeFor 7 = .ok (.if_icmp .ge 41, 3) := by decide +kernel
theorem dX7_sizeFor_10 : decode cX7_sizeFor 10 = .ok (.aload_n 0, 1) := by decide +kernel
theorem dX7_sizeFor_11 : decode cX7_sizeFor 11 = .ok (.getfield 9, 3) := by decide +kernel
theorem dX7_sizeFor_14 : decode cX7_sizeFor 14 = .ok (.iload_n 3, 1) := by decide +kernel
theorem dX7_sizeFor_15 : decode cX7_sizeFor 15 = .ok (.iaload, 1) := by decide +kernel
theorem dX7_sizeFor_16 : decode cX7_sizeFor 16 = .ok (.iload_n 1, 1) := by decide +kernel
theorem dX7_sizeFor_17 : decode cX7_sizeFor 17 = .ok (.if_icmp .gt 25, 3) := by decide +kernel
theorem dX7_sizeFor_20 : decode cX7_sizeFor 20 = .ok (.iload_n 2, 1) := by decide +kernel
theorem dX7_sizeFor_21 : decode cX7_sizeFor 21 = .ok (.iconst (-1), 1) := by decide +kernel
theorem dX7_sizeFor_22 : decode cX7_sizeFor 22 = .ok (.if_icmp .eq 18, 3) := by decide +kernel
theorem dX7_sizeFor_25 : decode cX7_sizeFor 25 = .ok (.aload_n 0, 1) := by decide +kernel
theorem dX7_sizeFor_26 : decode cX7_sizeFor 26 = .ok (.getfield 9, 3) := by decide +kernel
theorem dX7_sizeFor_29 : decode cX7_sizeFor 29 = .ok (.iload_n 3, 1) := by decide +kernel
theorem dX7_sizeFor_30 : decode cX7_sizeFor 30 = .ok (.iaload, 1) := by decide +kernel
theorem dX7_sizeFor_31 : decode cX7_sizeFor 31 = .ok (.aload_n 0, 1) := by decide +kernel
theorem dX7_sizeFor_32 : decode cX7_sizeFor 32 = .ok (.getfield 9, 3) := by decide +kernel
theorem dX7_sizeFor_35 : decode cX7_sizeFor 35 = .ok (.iload_n 2, 1) := by decide +kernel
theorem dX7_sizeFor_36 : decode cX7_sizeFor 36 = .ok (.iaload, 1) := by decide +kernel
theorem dX7_sizeFor_37 : decode cX7_sizeFor 37 = .ok (.if_icmp .lt 5, 3) := by decide +kernel
theorem dX7_sizeFor_40 : decode cX7_sizeFor 40 = .ok (.iload_n 3, 1) := by decide +kernel
theorem dX7_sizeFor_41 : decode cX7_sizeFor 41 = .ok (.istore_n 2, 1) := by decide +kernel
theorem dX7_sizeFor_42 : decode cX7_sizeFor 42 = .ok (.iinc 3 1, 3) := by decide +kernel
theorem dX7_sizeFor_45 : decode cX7_sizeFor 45 = .ok (.goto (-41), 3) := by decide +kernel
theorem dX7_sizeFor_48 : decode cX7_sizeFor 48 = .ok (.iload_n 2, 1) := by decide +kernel
theorem dX7_sizeFor_49 : decode cX7_sizeFor 49 = .ok (.iconst (-1), 1) := by decide +kernel
theorem dX7_sizeFor_50 : decode cX7_sizeFor 50 = .ok (.if_icmp .ne 7, 3) := by decide +kernel
theorem dX7_sizeFor_53 : decode cX7_sizeFor 53 = .ok (.iconst 0, 1) := by decide +kernel
theorem dX7_sizeFor_54 : decode cX7_sizeFor 54 = .ok (.goto 9, 3) := by decide +kernel
theorem dX7_sizeFor_57 : decode cX7_sizeFor 57 = .ok (.aload_n 0, 1) := by decide +kernel
theorem dX7_sizeFor_58 : decode cX7_sizeFor 58 = .ok (.getfield 15, 3) := by decide +kernel
theorem dX7_sizeFor_61 : decode cX7_sizeFor 61 = .ok (.iload_n 2, 1) := by decide +kernel
theorem dX7_sizeFor_62 : decode cX7_sizeFor 62 = .ok (.iaload, 1) := by decide +kernel
theorem dX7_sizeFor_63 : decode cX7_sizeFor 63 = .ok (.ireturn, 1) := by decide +kernel
theorem dX8_init_0 : decode cX8_init 0 = .ok (.aload_n 0, 1) := by decide +kernel
theorem dX8_init_1 : decode cX8_init 1 = .ok (.invokespecial 3, 3) := by decide +kernel
theorem dX8_init_4 : decode cX8_init 4 = .ok (.aload_n 0, 1) := by decide +kernel
theorem dX8_init_5 : decode cX8_init 5 = .ok (.sipush 200, 3) := by decide +kernel
theorem dX8_init_8 : decode cX8_init 8 = .ok (.newarray .int, 2) := by decide +kernel
theorem dX8_init_10 : decode cX8_init 10 = .ok (.putfield 9, 3) := by decide +kernel
theorem dX8_init_13 : decode cX8_init 13 = .ok (.aload_n 0, 1) := by decide +kernel
theorem dX8_init_14 : decode cX8_init 14 = .ok (.iconst 0, 1) := by decide +kernel
theorem dX8_init_15 : decode cX8_init 15 = .ok (.putfield 15, 3) := by decide +kernel
theorem dX8_init_18 : decode cX8_init 18 = .ok (.return_, 1) := by decide +kernel
theorem dX8_hasRoomFor_0 : decode cX8_hasRoomFor 0 = .ok (.aload_n 0, 1) := by decide +kernel
theorem dX8_hasRoomFor_1 : decode cX8_hasRoomFor 1 = .ok (.getfield 15, 3) := by decide +kernel
theorem dX8_hasRoomFor_4 : decode cX8_hasRoomFor 4 = .ok (.iload_n 1, 1) := by decide +kernel
theorem dX8_hasRoomFor_5 : decode cX8_hasRoomFor 5 = .ok (.iadd, 1) := by decide +kernel
theorem dX8_hasRoomFor_6 : decode cX8_hasRoomFor 6 = .ok (.sipush 200, 3) := by decide +kernel
theorem dX8_hasRoomFor_9 : decode cX8_hasRoomFor 9 = .ok (.if_icmp .gt 7, 3) := by decide +kernel
theorem dX8_hasRoomFor_12 : decode cX8_hasRoomFor 12 = .ok (.iconst 1, 1) := by decide +kernel
theorem dX8_hasRoomFor_13 : decode cX8_hasRoomFor 13 = .ok (.goto 4, 3) := by decide +kernel
theorem dX8_hasRoomFor_16 : decode cX8_hasRoomFor 16 = .ok (.iconst 0, 1) := by decide +kernel
theorem dX8_hasRoomFor_17 : decode cX8_hasRoomFor 17 = .ok (.ireturn, 1) := by decide +kernel
theorem dX8_append_0 : decode cX8_append 0 = .ok (.aload_n 0, 1) := by decide +kernel
theorem dX8_append_1 : decode cX8_append 1 = .ok (.iconst 4, 1) := by decide +kernel
theorem dX8_append_2 : decode cX8_append 2 = .ok (.invokevirtual 19, 3) := by decide +kernel
theorem dX8_append_5 : decode cX8_append 5 = .ok (.ifCond .ne 4, 3) := by decide +kernel
theorem dX8_append_8 : decode cX8_append 8 = .ok (.return_, 1) := by decide +kernel
theorem dX8_append_9 : decode cX8_append 9 = .ok (.bipush 24, 2) := by decide +kernel
theorem dX8_append_11 : decode cX8_append 11 = .ok (.istore_n 2, 1) := by decide +kernel
theorem dX8_append_12 : decode cX8_append 12 = .ok (.iload_n 2, 1) := by decide +kernel
theorem dX8_append_13 : decode cX8_append 13 = .ok (.ifCond .lt 35, 3) := by decide +kernel
theorem dX8_append_16 : decode cX8_append 16 = .ok (.aload_n 0, 1) := by decide +kernel
theorem dX8_append_17 : decode cX8_append 17 = .ok (.getfield 9, 3) := by decide +kernel
theorem dX8_append_20 : decode cX8_append 20 = .ok (.aload_n 0, 1) := by decide +kernel
theorem dX8_append_21 : decode cX8_append 21 = .ok (.getfield 15, 3) := by decide +kernel
theorem dX8_append_24 : decode cX8_append 24 = .ok (.iload_n 1, 1) := by decide +kernel
theorem dX8_append_25 : decode cX8_append 25 = .ok (.iload_n 2, 1) := by decide +kernel
theorem dX8_append_26 : decode cX8_append 26 = .ok (.iushr, 1) := by decide +kernel
theorem dX8_append_27 : decode cX8_append 27 = .ok (.sipush 255, 3) := by decide +kernel
theorem dX8_append_30 : decode cX8_append 30 = .ok (.iand, 1) := by decide +kernel
theorem dX8_append_31 : decode cX8_append 31 = .ok (.iastore, 1) := by decide +kernel
theorem dX8_append_32 : decode cX8_append 32 = .ok (.aload_n 0, 1) := by decide +kernel
theorem dX8_append_33 : decode cX8_append 33 = .ok (.dup, 1) := by decide +kernel
theorem dX8_append_34 : decode cX8_append 34 = .ok (.getfield 15, 3) := by decide +kernel
theorem dX8_append_37 : decode cX8_append 37 = .ok (.iconst 1, 1) := by decide +kernel
theorem dX8_append_38 : decode cX8_append 38 = .ok (.iadd, 1) := by decide +kernel
theorem dX8_append_39 : decode cX8_append 39 = .ok (.putfield 15, 3) := by decide +kernel
theorem dX8_append_42 : decode cX8_append 42 = .ok (.iinc 2 (-8), 3) := by decide +kernel
theorem dX8_append_45 : decode cX8_append 45 = .ok (.goto (-33), 3) := by decide +kernel
theorem dX8_append_48 : decode cX8_append 48 = .ok (.return_, 1) := by decide +kernel
theorem dX8_byteAt_0 : decode cX8_byteAt 0 = .ok (.iload_n 1, 1) := by decide +kernel
theorem dX8_byteAt_1 : decode cX8_byteAt 1 = .ok (.ifCond .lt 27, 3) := by decide +kernel
theorem dX8_byteAt_4 : decode cX8_byteAt 4 = .ok (.iload_n 1, 1) := by decide +kernel
theorem dX8_byteAt_5 : decode cX8_byteAt 5 = .ok (.aload_n 0, 1) := by decide +kernel
theorem dX8_byteAt_6 : decode cX8_byteAt 6 = .ok (.getfield 15, 3) := by decide +kernel
theorem dX8_byteAt_9 : decode cX8_byteAt 9 = .ok (.if_icmp .ge 19, 3) := by decide +kernel
theorem dX8_byteAt_12 : decode cX8_byteAt 12 = .ok (.iload_n 1, 1) := by decide +kernel
theorem dX8_byteAt_13 : decode cX8_byteAt 13 = .ok (.sipush 200, 3) := by decide +kernel
theorem dX8_byteAt_16 : decode cX8_byteAt 16 = .ok (.if_icmp .ge 12, 3) := by decide +kernel
theorem dX8_byteAt_19 : decode cX8_byteAt 19 = .ok (.aload_n 0, 1) := by decide +kernel
theorem dX8_byteAt_20 : decode cX8_byteAt 20 = .ok (.getfield 9, 3) := by decide +kernel
theorem dX8_byteAt_23 : decode cX8_byteAt 23 = .ok (.iload_n 1, 1) := by decide +kernel
theorem dX8_byteAt_24 : decode cX8_byteAt 24 = .ok (.iaload, 1) := by decide +kernel
theorem dX8_byteAt_25 : decode cX8_byteAt 25 = .ok (.goto 4, 3) := by decide +kernel
theorem dX8_byteAt_28 : decode cX8_byteAt 28 = .ok (.iconst (-1), 1) := by decide +kernel
theorem dX8_byteAt_29 : decode cX8_byteAt 29 = .ok (.ireturn, 1) := by decide +kernel
theorem dX9_init_0 : decode cX9_init 0 = .ok (.aload_n 0, 1) := by decide +kernel
theorem dX9_init_1 : decode cX9_init 1 = .ok (.invokespecial 3, 3) := by decide +kernel
theorem dX9_init_4 : decode cX9_init 4 = .ok (.aload_n 0, 1) := by decide +kernel
theorem dX9_init_5 : decode cX9_init 5 = .ok (.bipush 30, 2) := by decide +kernel
theorem dX9_init_7 : decode cX9_init 7 = .ok (.newarray .boolean, 2) := by decide +kernel
theorem dX9_init_9 : decode cX9_init 9 = .ok (.putfield 9, 3) := by decide +kernel
theorem dX9_init_12 : decode cX9_init 12 = .ok (.aload_n 0, 1) := by decide +kernel
theorem dX9_init_13 : decode cX9_init 13 = .ok (.iconst 0, 1) := by decide +kernel
theorem dX9_init_14 : decode cX9_init 14 = .ok (.putfield 15, 3) := by decide +kernel
theorem dX9_init_17 : decode cX9_init 17 = .ok (.aload_n 0, 1) := by decide +kernel
theorem dX9_init_18 : decode cX9_init 18 = .ok (.iconst (-1), 1) := by decide +kernel
theorem dX9_init_19 : decode cX9_init 19 = .ok (.putfield 19, 3) := by decide +kernel
theorem dX9_init_22 : decode cX9_init 22 = .ok (.aload_n 0, 1) := by decide +kernel
theorem dX9_init_23 : decode cX9_init 23 = .ok (.iconst (-1), 1) := by decide +kernel
theorem dX9_init_24 : decode cX9_init 24 = .ok (.putfield 22, 3) := by decide +kernel
theorem dX9_init_27 : decode cX9_init 27 = .ok (.aload_n 0, 1) := by decide +kernel
theorem dX9_init_28 : decode cX9_init 28 = .ok (.aload_n 1, 1) := by decide +kernel
theorem dX9_init_29 : decode cX9_init 29 = .ok (.putfield 25, 3) := by decide +kernel
theorem dX9_init_32 : decode cX9_init 32 = .ok (.return_, 1) := by decide +kernel
theorem dX9_mark_0 : decode cX9_mark 0 = .ok (.iload_n 1, 1) := by decide +kernel
theorem dX9_mark_1 : decode cX9_mark 1 = .ok (.iconst 0, 1) := by decide +kernel
theorem dX9_mark_2 : decode cX9_mark 2 = .ok (.bipush 29, 2) := by decide +kernel
theorem dX9_mark_4 : decode cX9_mark 4 = .ok (.invokestatic 29, 3) := by decide +kernel
theorem dX9_mark_7 : decode cX9_mark 7 = .ok (.ifCond .eq 10, 3) := by decide +kernel
theorem dX9_mark_10 : decode cX9_mark 10 = .ok (.aload_n 0, 1) := by decide +kernel
theorem dX9_mark_11 : decode cX9_mark 11 = .ok (.getfield 9, 3) := by decide +kernel
theorem dX9_mark_14 : decode cX9_mark 14 = .ok (.iload_n 1, 1) := by decide +kernel
theorem dX9_mark_15 : decode cX9_mark 15 = .ok (.iload_n 2, 1) := by decide +kernel
theorem dX9_mark_16 : decode cX9_mark 16 = .ok (.bastore, 1) := by decide +kernel
theorem dX9_mark_17 : decode cX9_mark 17 = .ok (.return_, 1) := by decide +kernel
theorem dX9_isDrawn_0 : decode cX9_isDrawn 0 = .ok (.aload_n 0, 1) := by decide +kernel
theorem dX9_isDrawn_1 : decode cX9_isDrawn 1 = .ok (.getfield 19, 3) := by decide +kernel
theorem dX9_isDrawn_4 : decode cX9_isDrawn 4 = .ok (.iconst (-1), 1) := by decide +kernel
theorem dX9_isDrawn_5 : decode cX9_isDrawn 5 = .ok (.if_icmp .eq 15, 3) := by decide +kernel
theorem dX9_isDrawn_8 : decode cX9_isDrawn 8 = .ok (.aload_n 0, 1) := by decide +kernel
theorem dX9_isDrawn_9 : decode cX9_isDrawn 9 = .ok (.getfield 22, 3) := by decide +kernel
theorem dX9_isDrawn_12 : decode cX9_isDrawn 12 = .ok (.iconst (-1), 1) := by decide +kernel
theorem dX9_isDrawn_13 : decode cX9_isDrawn 13 = .ok (.if_icmp .eq 7, 3) := by decide +kernel
theorem dX9_isDrawn_16 : decode cX9_isDrawn 16 = .ok (.iconst 1, 1) := by decide +kernel
theorem dX9_isDrawn_17 : decode cX9_isDrawn 17 = .ok (.goto 4, 3) := by decide +kernel
theorem dX9_isDrawn_20 : decode cX9_isDrawn 20 = .ok (.iconst 0, 1) := by decide +kernel
theorem dX9_isDrawn_21 : decode cX9_isDrawn 21 = .ok (.ireturn, 1) := by decide +kernel
theorem dX9_draw_0 : decode cX9_draw 0 = .ok (.aload_n 0, 1) := by decide +kernel
theorem dX9_draw_1 : decode cX9_draw 1 = .ok (.iload_n 1, 1) := by decide +kernel
theorem dX9_draw_2 : decode cX9_draw 2 = .ok (.putfield 15, 3) := by decide +kernel
theorem dX9_draw_5 : decode cX9_draw 5 = .ok (.aload_n 0, 1) := by decide +kernel
theorem dX9_draw_6 : decode cX9_draw 6 = .ok (.iconst (-1), 1) := by decide +kernel
theorem dX9_draw_7 : decode cX9_draw 7 = .ok (.putfield 19, 3) := by decide +kernel
theorem dX9_draw_10 : decode cX9_draw 10 = .ok (.aload_n 0, 1) := by decide +kernel
theorem dX9_draw_11 : decode cX9_draw 11 = .ok (.iconst (-1), 1) := by decide +kernel
theorem dX9_draw_12 : decode cX9_draw 12 = .ok (.putfield 22, 3) := by decide +kernel
theorem dX9_draw_15 : decode cX9_draw 15 = .ok (.iconst 0, 1) := by decide +kernel
theorem dX9_draw_16 : decode cX9_draw 16 = .ok (.istore_n 2, 1) := by decide +kernel
theorem dX9_draw_17 : decode cX9_draw 17 = .ok (.iconst 0, 1) := by decide +kernel
theorem dX9_draw_18 : decode cX9_draw 18 = .ok (.istore_n 3, 1) := by decide +kernel
theorem dX9_draw_19 : decode cX9_draw 19 = .ok (.iload_n 3, 1) := by decide +kernel
theorem dX9_draw_20 : decode cX9_draw 20 = .ok (.aload_n 0, 1) := by decide +kernel
theorem dX9_draw_21 : decode cX9_draw 21 = .ok (.getfield 25, 3) := by decide +kernel
theorem dX9_draw_24 : decode cX9_draw 24 = .ok (.getfield 33, 3) := by decide +kernel
theorem dX9_draw_27 : decode cX9_draw 27 = .ok (.if_icmp .ge 94, 3) := by decide +kernel
theorem dX9_draw_30 : decode cX9_draw 30 = .ok (.iload_n 3, 1) := by decide +kernel
theorem dX9_draw_31 : decode cX9_draw 31 = .ok (.iconst 1, 1) := by decide +kernel
theorem dX9_draw_32 : decode cX9_draw 32 = .ok (.iadd, 1) := by decide +kernel
theorem dX9_draw_33 : decode cX9_draw 33 = .ok (.istore 4, 2) := by decide +kernel
theorem dX9_draw_35 : decode cX9_draw 35 = .ok (.iload 4, 2) := by decide +kernel
theorem dX9_draw_37 : decode cX9_draw 37 = .ok (.aload_n 0, 1) := by decide +kernel
theorem dX9_draw_38 : decode cX9_draw 38 = .ok (.getfield 25, 3) := by decide +kernel
theorem dX9_draw_41 : decode cX9_draw 41 = .ok (.getfield 33, 3) := by decide +kernel
theorem dX9_draw_44 : decode cX9_draw 44 = .ok (.if_icmp .ge 71, 3) := by decide +kernel
theorem dX9_draw_47 : decode cX9_draw 47 = .ok (.aload_n 0, 1) := by decide +kernel
theorem dX9_draw_48 : decode cX9_draw 48 = .ok (.getfield 9, 3) := by decide +kernel
theorem dX9_draw_51 : decode cX9_draw 51 = .ok (.iload_n 3, 1) := by decide +kernel
theorem dX9_draw_52 : decode cX9_draw 52 = .ok (.baload, 1) := by decide +kernel
theorem dX9_draw_53 : decode cX9_draw 53 = .ok (.ifCond .eq 33, 3) := by decide +kernel
theorem dX9_draw_56 : decode cX9_draw 56 = .ok (.aload_n 0, 1) := by decide +kernel
theorem dX9_draw_57 : decode cX9_draw 57 = .ok (.getfield 9, 3) := by decide +kernel
theorem dX9_draw_60 : decode cX9_draw 60 = .ok (.iload 4, 2) := by decide +kernel
theorem dX9_draw_62 : decode cX9_draw 62 = .ok (.baload, 1) := by decide +kernel
theorem dX9_draw_63 : decode cX9_draw 63 = .ok (.ifCond .eq 23, 3) := by decide +kernel
theorem dX9_draw_66 : decode cX9_draw 66 = .ok (.aload_n 0, 1) := by decide +kernel
theorem dX9_draw_67 : decode cX9_draw 67 = .ok (.iload_n 3, 1) := by decide +kernel
theorem dX9_draw_68 : decode cX9_draw 68 = .ok (.iload 4, 2) := by decide +kernel
theorem dX9_draw_70 : decode cX9_draw 70 = .ok (.invokevirtual 38, 3) := by decide +kernel
theorem dX9_draw_73 : decode cX9_draw 73 = .ok (.ifCond .eq 13, 3) := by decide +kernel
theorem dX9_draw_76 : decode cX9_draw 76 = .ok (.aload_n 0, 1) := by decide +kernel
theorem dX9_draw_77 : decode cX9_draw 77 = .ok (.iload_n 3, 1) := by decide +kernel
theorem dX9_draw_78 : decode cX9_draw 78 = .ok (.iload 4, 2) := by decide +kernel
theorem dX9_draw_80 : decode cX9_draw 80 = .ok (.invokevirtual 42, 3) := by decide +kernel
theorem dX9_draw_83 : decode cX9_draw 83 = .ok (.goto 4, 3) := by decide +kernel
theorem dX9_draw_86 : decode cX9_draw 86 = .ok (.iconst 0, 1) := by decide +kernel
theorem dX9_draw_87 : decode cX9_draw 87 = .ok (.istore 5, 2) := by decide +kernel
theorem dX9_draw_89 : decode cX9_draw 89 = .ok (.iload 5, 2) := by decide +kernel
theorem dX9_draw_91 : decode cX9_draw 91 = .ok (.iload_n 2, 1) := by decide +kernel
theorem dX9_draw_92 : decode cX9_draw 92 = .ok (.if_icmp .le 17, 3) := by decide +kernel
theorem dX9_draw_95 : decode cX9_draw 95 = .ok (.iload 5, 2) := by decide +kernel
theorem dX9_draw_97 : decode cX9_draw 97 = .ok (.istore_n 2, 1) := by decide +kernel
theorem dX9_draw_98 : decode cX9_draw 98 = .ok (.aload_n 0, 1) := by decide +kernel
theorem dX9_draw_99 : decode cX9_draw 99 = .ok (.iload_n 3, 1) := by decide +kernel
theorem dX9_draw_100 : decode cX9_draw 100 = .ok (.putfield 19, 3) := by decide +kernel
theorem dX9_draw_103 : decode cX9_draw 103 = .ok (.aload_n 0, 1) := by decide +kernel
theorem dX9_draw_104 : decode cX9_draw 104 = .ok (.iload 4, 2) := by decide +kernel
theorem dX9_draw_106 : decode cX9_draw 106 = .ok (.putfield 22, 3) := by decide +kernel
theorem dX9_draw_109 : decode cX9_draw 109 = .ok (.iinc 4 1, 3) := by decide +kernel
theorem dX9_draw_112 : decode cX9_draw 112 = .ok (.goto (-77), 3) := by decide +kernel
theorem dX9_draw_115 : decode cX9_draw 115 = .ok (.iinc 3 1, 3) := by decide +kernel
theorem dX9_draw_118 : decode cX9_draw 118 = .ok (.goto (-99), 3) := by decide +kernel
theorem dX9_draw_121 : decode cX9_draw 121 = .ok (.iload_n 2, 1) := by decide +kernel
theorem dX9_draw_122 : decode cX9_draw 122 = .ok (.ireturn, 1) := by decide +kernel
theorem dX9_reaches_0 : decode cX9_reaches 0 = .ok (.aload_n 0, 1) := by decide +kernel
theorem dX9_reaches_1 : decode cX9_reaches 1 = .ok (.getfield 25, 3) := by decide +kernel
theorem dX9_reaches_4 : decode cX9_reaches 4 = .ok (.iload_n 1, 1) := by decide +kernel
theorem dX9_reaches_5 : decode cX9_reaches 5 = .ok (.invokevirtual 46, 3) := by decide +kernel
theorem dX9_reaches_8 : decode cX9_reaches 8 = .ok (.ifCond .eq 51, 3) := by decide +kernel
theorem dX9_reaches_11 : decode cX9_reaches 11 = .ok (.aload_n 0, 1) := by decide +kernel
theorem dX9_reaches_12 : decode cX9_reaches 12 = .ok (.getfield 25, 3) := by decide +kernel
theorem dX9_reaches_15 : decode cX9_reaches 15 = .ok (.aload_n 0, 1) := by decide +kernel
theorem dX9_reaches_16 : decode cX9_reaches 16 = .ok (.getfield 19, 3) := by decide +kernel
theorem dX9_reaches_19 : decode cX9_reaches 19 = .ok (.invokevirtual 46, 3) := by decide +kernel
theorem dX9_reaches_22 : decode cX9_reaches 22 = .ok (.ifCond .eq 37, 3) := by decide +kernel
theorem dX9_reaches_25 : decode cX9_reaches 25 = .ok (.aload_n 0, 1) := by decide +kernel
theorem dX9_reaches_26 : decode cX9_reaches 26 = .ok (.getfield 25, 3) := by decide +kernel
theorem dX9_reaches_29 : decode cX9_reaches 29 = .ok (.aload_n 0, 1) := by decide +kernel
theorem dX9_reaches_30 : decode cX9_reaches 30 = .ok (.getfield 22, 3) := by decide +kernel
theorem dX9_reaches_33 : decode cX9_reaches 33 = .ok (.invokevirtual 46, 3) := by decide +kernel
theorem dX9_reaches_36 : decode cX9_reaches 36 = .ok (.ifCond .eq 23, 3) := by decide +kernel
theorem dX9_reaches_39 : decode cX9_reaches 39 = .ok (.aload_n 0, 1) := by decide +kernel
theorem dX9_reaches_40 : decode cX9_reaches 40 = .ok (.aload_n 0, 1) := by decide +kernel
theorem dX9_reaches_41 : decode cX9_reaches 41 = .ok (.getfield 19, 3) := by decide +kernel
theorem dX9_reaches_44 : decode cX9_reaches 44 = .ok (.aload_n 0, 1) := by decide +kernel
theorem dX9_reaches_45 : decode cX9_reaches 45 = .ok (.getfield 22, 3) := by decide +kernel
theorem dX9_reaches_48 : decode cX9_reaches 48 = .ok (.iload_n 1, 1) := by decide +kernel
theorem dX9_reaches_49 : decode cX9_reaches 49 = .ok (.invokevirtual 50, 3) := by decide +kernel
theorem dX9_reaches_52 : decode cX9_reaches 52 = .ok (.ifCond .eq 7, 3) := by decide +kernel
theorem dX9_reaches_55 : decode cX9_reaches 55 = .ok (.iconst 1, 1) := by decide +kernel
theorem dX9_reaches_56 : decode cX9_reaches 56 = .ok (.goto 4, 3) := by decide +kernel
theorem dX9_reaches_59 : decode cX9_reaches 59 = .ok (.iconst 0, 1) := by decide +kernel
theorem dX9_reaches_60 : decode cX9_reaches 60 = .ok (.ireturn, 1) := by decide +kernel
theorem dX9_areApart_0 : decode cX9_areApart 0 = .ok (.aload_n 0, 1) := by decide +kernel
theorem dX9_areApart_1 : decode cX9_areApart 1 = .ok (.getfield 25, 3) := by decide +kernel
theorem dX9_areApart_4 : decode cX9_areApart 4 = .ok (.getfield 53, 3) := by decide +kernel
theorem dX9_areApart_7 : decode cX9_areApart 7 = .ok (.iload_n 1, 1) := by decide +kernel
theorem dX9_areApart_8 : decode cX9_areApart 8 = .ok (.iaload, 1) := by decide +kernel
theorem dX9_areApart_9 : decode cX9_areApart 9 = .ok (.aload_n 0, 1) := by decide +kernel
theorem dX9_areApart_10 : decode cX9_areApart 10 = .ok (.getfield 25, 3) := by decide +kernel
theorem dX9_areApart_13 : decode cX9_areApart 13 = .ok (.getfield 53, 3) := by decide +kernel
theorem dX9_areApart_16 : decode cX9_areApart 16 = .ok (.iload_n 2, 1) := by decide +kernel
theorem dX9_areApart_17 : decode cX9_areApart 17 = .ok (.iaload, 1) := by decide +kernel
theorem dX9_areApart_18 : decode cX9_areApart 18 = .ok (.if_icmp .ne 24, 3) := by decide +kernel
theorem dX9_areApart_21 : decode cX9_areApart 21 = .ok (.aload_n 0, 1) := by decide +kernel
theorem dX9_areApart_22 : decode cX9_areApart 22 = .ok (.getfield 25, 3) := by decide +kernel
theorem dX9_areApart_25 : decode cX9_areApart 25 = .ok (.getfield 57, 3) := by decide +kernel
theorem dX9_areApart_28 : decode cX9_areApart 28 = .ok (.iload_n 1, 1) := by decide +kernel
theorem dX9_areApart_29 : decode cX9_areApart 29 = .ok (.iaload, 1) := by decide +kernel
theorem dX9_areApart_30 : decode cX9_areApart 30 = .ok (.aload_n 0, 1) := by decide +kernel
theorem dX9_areApart_31 : decode cX9_areApart 31 = .ok (.getfield 25, 3) := by decide +kernel
theorem dX9_areApart_34 : decode cX9_areApart 34 = .ok (.getfield 57, 3) := by decide +kernel
theorem dX9_areApart_37 : decode cX9_areApart 37 = .ok (.iload_n 2, 1) := by decide +kernel
theorem dX9_areApart_38 : decode cX9_areApart 38 = .ok (.iaload, 1) := by decide +kernel
theorem dX9_areApart_39 : decode cX9_areApart 39 = .ok (.if_icmp .eq 7, 3) := by decide +kernel
theorem dX9_areApart_42 : decode cX9_areApart 42 = .ok (.iconst 1, 1) := by decide +kernel
theorem dX9_areApart_43 : decode cX9_areApart 43 = .ok (.goto 4, 3) := by decide +kernel
theorem dX9_areApart_46 : decode cX9_areApart 46 = .ok (.iconst 0, 1) := by decide +kernel
theorem dX9_areApart_47 : decode cX9_areApart 47 = .ok (.ireturn, 1) := by decide +kernel
theorem dX9_hitsAlong_0 : decode cX9_hitsAlong 0 = .ok (.iconst 0, 1) := by decide +kernel
theorem dX9_hitsAlong_1 : decode cX9_hitsAlong 1 = .ok (.istore_n 3, 1) := by decide +kernel
theorem dX9_hitsAlong_2 : decode cX9_hitsAlong 2 = .ok (.iconst 0, 1) := by decide +kernel
