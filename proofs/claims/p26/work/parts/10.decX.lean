/-! DECODE ROWS of the class -/
theorem dX0_init_0 : decode cX0_init 0 = .ok (.aload_n 0, 1) := by decide +kernel
theorem dX0_init_1 : decode cX0_init 1 = .ok (.invokespecial 3, 3) := by decide +kernel
theorem dX0_init_4 : decode cX0_init 4 = .ok (.aload_n 0, 1) := by decide +kernel
theorem dX0_init_5 : decode cX0_init 5 = .ok (.bipush 30, 2) := by decide +kernel
theorem dX0_init_7 : decode cX0_init 7 = .ok (.newarray .int, 2) := by decide +kernel
theorem dX0_init_9 : decode cX0_init 9 = .ok (.putfield 9, 3) := by decide +kernel
theorem dX0_init_12 : decode cX0_init 12 = .ok (.aload_n 0, 1) := by decide +kernel
theorem dX0_init_13 : decode cX0_init 13 = .ok (.bipush 30, 2) := by decide +kernel
theorem dX0_init_15 : decode cX0_init 15 = .ok (.newarray .int, 2) := by decide +kernel
theorem dX0_init_17 : decode cX0_init 17 = .ok (.putfield 15, 3) := by decide +kernel
theorem dX0_init_20 : decode cX0_init 20 = .ok (.aload_n 0, 1) := by decide +kernel
theorem dX0_init_21 : decode cX0_init 21 = .ok (.bipush 30, 2) := by decide +kernel
theorem dX0_init_23 : decode cX0_init 23 = .ok (.newarray .int, 2) := by decide +kernel
theorem dX0_init_25 : decode cX0_init 25 = .ok (.putfield 18, 3) := by decide +kernel
theorem dX0_init_28 : decode cX0_init 28 = .ok (.aload_n 0, 1) := by decide +kernel
theorem dX0_init_29 : decode cX0_init 29 = .ok (.bipush 30, 2) := by decide +kernel
theorem dX0_init_31 : decode cX0_init 31 = .ok (.newarray .int, 2) := by decide +kernel
theorem dX0_init_33 : decode cX0_init 33 = .ok (.putfield 21, 3) := by decide +kernel
theorem dX0_init_36 : decode cX0_init 36 = .ok (.return_, 1) := by decide +kernel
theorem dX0_copyFrom_0 : decode cX0_copyFrom 0 = .ok (.aload_n 0, 1) := by decide +kernel
theorem dX0_copyFrom_1 : decode cX0_copyFrom 1 = .ok (.aload_n 1, 1) := by decide +kernel
theorem dX0_copyFrom_2 : decode cX0_copyFrom 2 = .ok (.getfield 24, 3) := by decide +kernel
theorem dX0_copyFrom_5 : decode cX0_copyFrom 5 = .ok (.putfield 24, 3) := by decide +kernel
theorem dX0_copyFrom_8 : decode cX0_copyFrom 8 = .ok (.aload_n 1, 1) := by decide +kernel
theorem dX0_copyFrom_9 : decode cX0_copyFrom 9 = .ok (.getfield 9, 3) := by decide +kernel
theorem dX0_copyFrom_12 : decode cX0_copyFrom 12 = .ok (.aload_n 0, 1) := by decide +kernel
theorem dX0_copyFrom_13 : decode cX0_copyFrom 13 = .ok (.getfield 9, 3) := by decide +kernel
theorem dX0_copyFrom_16 : decode cX0_copyFrom 16 = .ok (.aload_n 0, 1) := by decide +kernel
theorem dX0_copyFrom_17 : decode cX0_copyFrom 17 = .ok (.getfield 24, 3) := by decide +kernel
theorem dX0_copyFrom_20 : decode cX0_copyFrom 20 = .ok (.invokestatic 28, 3) := by decide +kernel
theorem dX0_copyFrom_23 : decode cX0_copyFrom 23 = .ok (.aload_n 1, 1) := by decide +kernel
theorem dX0_copyFrom_24 : decode cX0_copyFrom 24 = .ok (.getfield 15, 3) := by decide +kernel
theorem dX0_copyFrom_27 : decode cX0_copyFrom 27 = .ok (.aload_n 0, 1) := by decide +kernel
theorem dX0_copyFrom_28 : decode cX0_copyFrom 28 = .ok (.getfield 15, 3) := by decide +kernel
theorem dX0_copyFrom_31 : decode cX0_copyFrom 31 = .ok (.aload_n 0, 1) := by decide +kernel
theorem dX0_copyFrom_32 : decode cX0_copyFrom 32 = .ok (.getfield 24, 3) := by decide +kernel
theorem dX0_copyFrom_35 : decode cX0_copyFrom 35 = .ok (.invokestatic 28, 3) := by decide +kernel
theorem dX0_copyFrom_38 : decode cX0_copyFrom 38 = .ok (.aload_n 1, 1) := by decide +kernel
theorem dX0_copyFrom_39 : decode cX0_copyFrom 39 = .ok (.getfield 18, 3) := by decide +kernel
theorem dX0_copyFrom_42 : decode cX0_copyFrom 42 = .ok (.aload_n 0, 1) := by decide +kernel
theorem dX0_copyFrom_43 : decode cX0_copyFrom 43 = .ok (.getfield 18, 3) := by decide +kernel
theorem dX0_copyFrom_46 : decode cX0_copyFrom 46 = .ok (.aload_n 0, 1) := by decide +kernel
theorem dX0_copyFrom_47 : decode cX0_copyFrom 47 = .ok (.getfield 24, 3) := by decide +kernel
theorem dX0_copyFrom_50 : decode cX0_copyFrom 50 = .ok (.invokestatic 28, 3) := by decide +kernel
theorem dX0_copyFrom_53 : decode cX0_copyFrom 53 = .ok (.aload_n 1, 1) := by decide +kernel
theorem dX0_copyFrom_54 : decode cX0_copyFrom 54 = .ok (.getfield 21, 3) := by decide +kernel
theorem dX0_copyFrom_57 : decode cX0_copyFrom 57 = .ok (.aload_n 0, 1) := by decide +kernel
theorem dX0_copyFrom_58 : decode cX0_copyFrom 58 = .ok (.getfield 21, 3) := by decide +kernel
theorem dX0_copyFrom_61 : decode cX0_copyFrom 61 = .ok (.aload_n 0, 1) := by decide +kernel
theorem dX0_copyFrom_62 : decode cX0_copyFrom 62 = .ok (.getfield 24, 3) := by decide +kernel
theorem dX0_copyFrom_65 : decode cX0_copyFrom 65 = .ok (.invokestatic 28, 3) := by decide +kernel
theorem dX0_copyFrom_68 : decode cX0_copyFrom 68 = .ok (.return_, 1) := by decide +kernel
theorem dX0_add_0 : decode cX0_add 0 = .ok (.aload_n 0, 1) := by decide +kernel
theorem dX0_add_1 : decode cX0_add 1 = .ok (.getfield 24, 3) := by decide +kernel
theorem dX0_add_4 : decode cX0_add 4 = .ok (.ifCond .lt 12, 3) := by decide +kernel
theorem dX0_add_7 : decode cX0_add 7 = .ok (.aload_n 0, 1) := by decide +kernel
theorem dX0_add_8 : decode cX0_add 8 = .ok (.getfield 24, 3) := by decide +kernel
theorem dX0_add_11 : decode cX0_add 11 = .ok (.bipush 30, 2) := by decide +kernel
theorem dX0_add_13 : decode cX0_add 13 = .ok (.if_icmp .lt 4, 3) := by decide +kernel
theorem dX0_add_16 : decode cX0_add 16 = .ok (.return_, 1) := by decide +kernel
theorem dX0_add_17 : decode cX0_add 17 = .ok (.aload_n 0, 1) := by decide +kernel
theorem dX0_add_18 : decode cX0_add 18 = .ok (.getfield 9, 3) := by decide +kernel
theorem dX0_add_21 : decode cX0_add 21 = .ok (.aload_n 0, 1) := by decide +kernel
theorem dX0_add_22 : decode cX0_add 22 = .ok (.getfield 24, 3) := by decide +kernel
theorem dX0_add_25 : decode cX0_add 25 = .ok (.iload_n 1, 1) := by decide +kernel
theorem dX0_add_26 : decode cX0_add 26 = .ok (.iastore, 1) := by decide +kernel
theorem dX0_add_27 : decode cX0_add 27 = .ok (.aload_n 0, 1) := by decide +kernel
theorem dX0_add_28 : decode cX0_add 28 = .ok (.getfield 15, 3) := by decide +kernel
theorem dX0_add_31 : decode cX0_add 31 = .ok (.aload_n 0, 1) := by decide +kernel
theorem dX0_add_32 : decode cX0_add 32 = .ok (.getfield 24, 3) := by decide +kernel
theorem dX0_add_35 : decode cX0_add 35 = .ok (.iload_n 2, 1) := by decide +kernel
theorem dX0_add_36 : decode cX0_add 36 = .ok (.iastore, 1) := by decide +kernel
theorem dX0_add_37 : decode cX0_add 37 = .ok (.aload_n 0, 1) := by decide +kernel
theorem dX0_add_38 : decode cX0_add 38 = .ok (.getfield 18, 3) := by decide +kernel
theorem dX0_add_41 : decode cX0_add 41 = .ok (.aload_n 0, 1) := by decide +kernel
theorem dX0_add_42 : decode cX0_add 42 = .ok (.getfield 24, 3) := by decide +kernel
theorem dX0_add_45 : decode cX0_add 45 = .ok (.iload_n 3, 1) := by decide +kernel
theorem dX0_add_46 : decode cX0_add 46 = .ok (.iastore, 1) := by decide +kernel
theorem dX0_add_47 : decode cX0_add 47 = .ok (.aload_n 0, 1) := by decide +kernel
theorem dX0_add_48 : decode cX0_add 48 = .ok (.getfield 21, 3) := by decide +kernel
theorem dX0_add_51 : decode cX0_add 51 = .ok (.aload_n 0, 1) := by decide +kernel
theorem dX0_add_52 : decode cX0_add 52 = .ok (.getfield 24, 3) := by decide +kernel
theorem dX0_add_55 : decode cX0_add 55 = .ok (.iconst 0, 1) := by decide +kernel
theorem dX0_add_56 : decode cX0_add 56 = .ok (.iastore, 1) := by decide +kernel
theorem dX0_add_57 : decode cX0_add 57 = .ok (.aload_n 0, 1) := by decide +kernel
theorem dX0_add_58 : decode cX0_add 58 = .ok (.dup, 1) := by decide +kernel
theorem dX0_add_59 : decode cX0_add 59 = .ok (.getfield 24, 3) := by decide +kernel
theorem dX0_add_62 : decode cX0_add 62 = .ok (.iconst 1, 1) := by decide +kernel
theorem dX0_add_63 : decode cX0_add 63 = .ok (.iadd, 1) := by decide +kernel
theorem dX0_add_64 : decode cX0_add 64 = .ok (.putfield 24, 3) := by decide +kernel
theorem dX0_add_67 : decode cX0_add 67 = .ok (.return_, 1) := by decide +kernel
theorem dX0_removeAt_0 : decode cX0_removeAt 0 = .ok (.iload_n 1, 1) := by decide +kernel
theorem dX0_removeAt_1 : decode cX0_removeAt 1 = .ok (.ifCond .lt 11, 3) := by decide +kernel
theorem dX0_removeAt_4 : decode cX0_removeAt 4 = .ok (.iload_n 1, 1) := by decide +kernel
theorem dX0_removeAt_5 : decode cX0_removeAt 5 = .ok (.aload_n 0, 1) := by decide +kernel
theorem dX0_removeAt_6 : decode cX0_removeAt 6 = .ok (.getfield 24, 3) := by decide +kernel
theorem dX0_removeAt_9 : decode cX0_removeAt 9 = .ok (.if_icmp .lt 4, 3) := by decide +kernel
theorem dX0_removeAt_12 : decode cX0_removeAt 12 = .ok (.return_, 1) := by decide +kernel
theorem dX0_removeAt_13 : decode cX0_removeAt 13 = .ok (.iload_n 1, 1) := by decide +kernel
theorem dX0_removeAt_14 : decode cX0_removeAt 14 = .ok (.istore_n 2, 1) := by decide +kernel
theorem dX0_removeAt_15 : decode cX0_removeAt 15 = .ok (.iload_n 2, 1) := by decide +kernel
theorem dX0_removeAt_16 : decode cX0_removeAt 16 = .ok (.iconst 1, 1) := by decide +kernel
theorem dX0_removeAt_17 : decode cX0_removeAt 17 = .ok (.iadd, 1) := by decide +kernel
theorem dX0_removeAt_18 : decode cX0_removeAt 18 = .ok (.aload_n 0, 1) := by decide +kernel
theorem dX0_removeAt_19 : decode cX0_removeAt 19 = .ok (.getfield 24, 3) := by decide +kernel
theorem dX0_removeAt_22 : decode cX0_removeAt 22 = .ok (.if_icmp .ge 65, 3) := by decide +kernel
theorem dX0_removeAt_25 : decode cX0_removeAt 25 = .ok (.aload_n 0, 1) := by decide +kernel
theorem dX0_removeAt_26 : decode cX0_removeAt 26 = .ok (.getfield 9, 3) := by decide +kernel
theorem dX0_removeAt_29 : decode cX0_removeAt 29 = .ok (.iload_n 2, 1) := by decide +kernel
theorem dX0_removeAt_30 : decode cX0_removeAt 30 = .ok (.aload_n 0, 1) := by decide +kernel
theorem dX0_removeAt_31 : decode cX0_removeAt 31 = .ok (.getfield 9, 3) := by decide +kernel
theorem dX0_removeAt_34 : decode cX0_removeAt 34 = .ok (.iload_n 2, 1) := by decide +kernel
theorem dX0_removeAt_35 : decode cX0_removeAt 35 = .ok (.iconst 1, 1) := by decide +kernel
theorem dX0_removeAt_36 : decode cX0_removeAt 36 = .ok (.iadd, 1) := by decide +kernel
theorem dX0_removeAt_37 : decode cX0_removeAt 37 = .ok (.iaload, 1) := by decide +kernel
theorem dX0_removeAt_38 : decode cX0_removeAt 38 = .ok (.iastore, 1) := by decide +kernel
theorem dX0_removeAt_39 : decode cX0_removeAt 39 = .ok (.aload_n 0, 1) := by decide +kernel
theorem dX0_removeAt_40 : decode cX0_removeAt 40 = .ok (.getfield 15, 3) := by decide +kernel
theorem dX0_removeAt_43 : decode cX0_removeAt 43 = .ok (.iload_n 2, 1) := by decide +kernel
theorem dX0_removeAt_44 : decode cX0_removeAt 44 = .ok (.aload_n 0, 1) := by decide +kernel
theorem dX0_removeAt_45 : decode cX0_removeAt 45 = .ok (.getfield 15, 3) := by decide +kernel
theorem dX0_removeAt_48 : decode cX0_removeAt 48 = .ok (.iload_n 2, 1) := by decide +kernel
theorem dX0_removeAt_49 : decode cX0_removeAt 49 = .ok (.iconst 1, 1) := by decide +kernel
theorem dX0_removeAt_50 : decode cX0_removeAt 50 = .ok (.iadd, 1) := by decide +kernel
theorem dX0_removeAt_51 : decode cX0_removeAt 51 = .ok (.iaload, 1) := by decide +kernel
theorem dX0_removeAt_52 : decode cX0_removeAt 52 = .ok (.iastore, 1) := by decide +kernel
theorem dX0_removeAt_53 : decode cX0_removeAt 53 = .ok (.aload_n 0, 1) := by decide +kernel
theorem dX0_removeAt_54 : decode cX0_removeAt 54 = .ok (.getfield 18, 3) := by decide +kernel
theorem dX0_removeAt_57 : decode cX0_removeAt 57 = .ok (.iload_n 2, 1) := by decide +kernel
theorem dX0_removeAt_58 : decode cX0_removeAt 58 = .ok (.aload_n 0, 1) := by decide +kernel
theorem dX0_removeAt_59 : decode cX0_removeAt 59 = .ok (.getfield 18, 3) := by decide +kernel
theorem dX0_removeAt_62 : decode cX0_removeAt 62 = .ok (.iload_n 2, 1) := by decide +kernel
theorem dX0_removeAt_63 : decode cX0_removeAt 63 = .ok (.iconst 1, 1) := by decide +kernel
theorem dX0_removeAt_64 : decode cX0_removeAt 64 = .ok (.iadd, 1) := by decide +kernel
theorem dX0_removeAt_65 : decode cX0_removeAt 65 = .ok (.iaload, 1) := by decide +kernel
theorem dX0_removeAt_66 : decode cX0_removeAt 66 = .ok (.iastore, 1) := by decide +kernel
theorem dX0_removeAt_67 : decode cX0_removeAt 67 = .ok (.aload_n 0, 1) := by decide +kernel
theorem dX0_removeAt_68 : decode cX0_removeAt 68 = .ok (.getfield 21, 3) := by decide +kernel
theorem dX0_removeAt_71 : decode cX0_removeAt 71 = .ok (.iload_n 2, 1) := by decide +kernel
theorem dX0_removeAt_72 : decode cX0_removeAt 72 = .ok (.aload_n 0, 1) := by decide +kernel
theorem dX0_removeAt_73 : decode cX0_removeAt 73 = .ok (.getfield 21, 3) := by decide +kernel
theorem dX0_removeAt_76 : decode cX0_removeAt 76 = .ok (.iload_n 2, 1) := by decide +kernel
theorem dX0_removeAt_77 : decode cX0_removeAt 77 = .ok (.iconst 1, 1) := by decide +kernel
theorem dX0_removeAt_78 : decode cX0_removeAt 78 = .ok (.iadd, 1) := by decide +kernel
theorem dX0_removeAt_79 : decode cX0_removeAt 79 = .ok (.iaload, 1) := by decide +kernel
theorem dX0_removeAt_80 : decode cX0_removeAt 80 = .ok (.iastore, 1) := by decide +kernel
theorem dX0_removeAt_81 : decode cX0_removeAt 81 = .ok (.iinc 2 1, 3) := by decide +kernel
theorem dX0_removeAt_84 : decode cX0_removeAt 84 = .ok (.goto (-69), 3) := by decide +kernel
theorem dX0_removeAt_87 : decode cX0_removeAt 87 = .ok (.aload_n 0, 1) := by decide +kernel
theorem dX0_removeAt_88 : decode cX0_removeAt 88 = .ok (.dup, 1) := by decide +kernel
theorem dX0_removeAt_89 : decode cX0_removeAt 89 = .ok (.getfield 24, 3) := by decide +kernel
theorem dX0_removeAt_92 : decode cX0_removeAt 92 = .ok (.iconst 1, 1) := by decide +kernel
theorem dX0_removeAt_93 : decode cX0_removeAt 93 = .ok (.isub, 1) := by decide +kernel
theorem dX0_removeAt_94 : decode cX0_removeAt 94 = .ok (.putfield 24, 3) := by decide +kernel
theorem dX0_removeAt_97 : decode cX0_removeAt 97 = .ok (.return_, 1) := by decide +kernel
theorem dX0_removeEnding_0 : decode cX0_removeEnding 0 = .ok (.aload_n 0, 1) := by decide +kernel
theorem dX0_removeEnding_1 : decode cX0_removeEnding 1 = .ok (.getfield 24, 3) := by decide +kernel
theorem dX0_removeEnding_4 : decode cX0_removeEnding 4 = .ok (.istore_n 2, 1) := by decide +kernel
theorem dX0_removeEnding_5 : decode cX0_removeEnding 5 = .ok (.aload_n 0, 1) := by decide +kernel
theorem dX0_removeEnding_6 : decode cX0_removeEnding 6 = .ok (.getfield 24, 3) := by decide +kernel
theorem dX0_removeEnding_9 : decode cX0_removeEnding 9 = .ok (.iconst 1, 1) := by decide +kernel
theorem dX0_removeEnding_10 : decode cX0_removeEnding 10 = .ok (.isub, 1) := by decide +kernel
theorem dX0_removeEnding_11 : decode cX0_removeEnding 11 = .ok (.istore_n 3, 1) := by decide +kernel
theorem dX0_removeEnding_12 : decode cX0_removeEnding 12 = .ok (.iload_n 3, 1) := by decide +kernel
theorem dX0_removeEnding_13 : decode cX0_removeEnding 13 = .ok (.ifCond .lt 24, 3) := by decide +kernel
theorem dX0_removeEnding_16 : decode cX0_removeEnding 16 = .ok (.aload_n 0, 1) := by decide +kernel
theorem dX0_removeEnding_17 : decode cX0_removeEnding 17 = .ok (.getfield 18, 3) := by decide +kernel
theorem dX0_removeEnding_20 : decode cX0_removeEnding 20 = .ok (.iload_n 3, 1) := by decide +kernel
theorem dX0_removeEnding_21 : decode cX0_removeEnding 21 = .ok (.iaload, 1) := by decide +kernel
theorem dX0_removeEnding_22 : decode cX0_removeEnding 22 = .ok (.iload_n 1, 1) := by decide +kernel
theorem dX0_removeEnding_23 : decode cX0_removeEnding 23 = .ok (.if_icmp .ne 8, 3) := by decide +kernel
theorem dX0_removeEnding_26 : decode cX0_removeEnding 26 = .ok (.aload_n 0, 1) := by decide +kernel
theorem dX0_removeEnding_27 : decode cX0_removeEnding 27 = .ok (.iload_n 3, 1) := by decide +kernel
theorem dX0_removeEnding_28 : decode cX0_removeEnding 28 = .ok (.invokevirtual 32, 3) := by decide +kernel
theorem dX0_removeEnding_31 : decode cX0_removeEnding 31 = .ok (.iinc 3 (-1), 3) := by decide +kernel
theorem dX0_removeEnding_34 : decode cX0_removeEnding 34 = .ok (.goto (-22), 3) := by decide +kernel
theorem dX0_removeEnding_37 : decode cX0_removeEnding 37 = .ok (.iload_n 2, 1) := by decide +kernel
theorem dX0_removeEnding_38 : decode cX0_removeEnding 38 = .ok (.aload_n 0, 1) := by decide +kernel
theorem dX0_removeEnding_39 : decode cX0_removeEnding 39 = .ok (.getfield 24, 3) := by decide +kernel
theorem dX0_removeEnding_42 : decode cX0_removeEnding 42 = .ok (.isub, 1) := by decide +kernel
theorem dX0_removeEnding_43 : decode cX0_removeEnding 43 = .ok (.ireturn, 1) := by decide +kernel
theorem dX0_countOf_0 : decode cX0_countOf 0 = .ok (.iconst 0, 1) := by decide +kernel
theorem dX0_countOf_1 : decode cX0_countOf 1 = .ok (.istore_n 2, 1) := by decide +kernel
theorem dX0_countOf_2 : decode cX0_countOf 2 = .ok (.iconst 0, 1) := by decide +kernel
theorem dX0_countOf_3 : decode cX0_countOf 3 = .ok (.istore_n 3, 1) := by decide +kernel
theorem dX0_countOf_4 : decode cX0_countOf 4 = .ok (.iload_n 3, 1) := by decide +kernel
theorem dX0_countOf_5 : decode cX0_countOf 5 = .ok (.aload_n 0, 1) := by decide +kernel
theorem dX0_countOf_6 : decode cX0_countOf 6 = .ok (.getfield 24, 3) := by decide +kernel
theorem dX0_countOf_9 : decode cX0_countOf 9 = .ok (.if_icmp .ge 22, 3) := by decide +kernel
theorem dX0_countOf_12 : decode cX0_countOf 12 = .ok (.aload_n 0, 1) := by decide +kernel
theorem dX0_countOf_13 : decode cX0_countOf 13 = .ok (.getfield 9, 3) := by decide +kernel
theorem dX0_countOf_16 : decode cX0_countOf 16 = .ok (.iload_n 3, 1) := by decide +kernel
theorem dX0_countOf_17 : decode cX0_countOf 17 = .ok (.iaload, 1) := by decide +kernel
theorem dX0_countOf_18 : decode cX0_countOf 18 = .ok (.iload_n 1, 1) := by decide +kernel
theorem dX0_countOf_19 : decode cX0_countOf 19 = .ok (.if_icmp .ne 6, 3) := by decide +kernel
theorem dX0_countOf_22 : decode cX0_countOf 22 = .ok (.iinc 2 1, 3) := by decide +kernel
theorem dX0_countOf_25 : decode cX0_countOf 25 = .ok (.iinc 3 1, 3) := by decide +kernel
theorem dX0_countOf_28 : decode cX0_countOf 28 = .ok (.goto (-24), 3) := by decide +kernel
theorem dX0_countOf_31 : decode cX0_countOf 31 = .ok (.iload_n 2, 1) := by decide +kernel
theorem dX0_countOf_32 : decode cX0_countOf 32 = .ok (.ireturn, 1) := by decide +kernel
theorem dX0_sumOf_0 : decode cX0_sumOf 0 = .ok (.iconst 0, 1) := by decide +kernel
theorem dX0_sumOf_1 : decode cX0_sumOf 1 = .ok (.istore_n 2, 1) := by decide +kernel
theorem dX0_sumOf_2 : decode cX0_sumOf 2 = .ok (.iconst 0, 1) := by decide +kernel
theorem dX0_sumOf_3 : decode cX0_sumOf 3 = .ok (.istore_n 3, 1) := by decide +kernel
theorem dX0_sumOf_4 : decode cX0_sumOf 4 = .ok (.iload_n 3, 1) := by decide +kernel
theorem dX0_sumOf_5 : decode cX0_sumOf 5 = .ok (.aload_n 0, 1) := by decide +kernel
theorem dX0_sumOf_6 : decode cX0_sumOf 6 = .ok (.getfield 24, 3) := by decide +kernel
theorem dX0_sumOf_9 : decode cX0_sumOf 9 = .ok (.if_icmp .ge 28, 3) := by decide +kernel
theorem dX0_sumOf_12 : decode cX0_sumOf 12 = .ok (.aload_n 0, 1) := by decide +kernel
theorem dX0_sumOf_13 : decode cX0_sumOf 13 = .ok (.getfield 9, 3) := by decide +kernel
theorem dX0_sumOf_16 : decode cX0_sumOf 16 = .ok (.iload_n 3, 1) := by decide +kernel
theorem dX0_sumOf_17 : decode cX0_sumOf 17 = .ok (.iaload, 1) := by decide +kernel
theorem dX0_sumOf_18 : decode cX0_sumOf 18 = .ok (.iload_n 1, 1) := by decide +kernel
theorem dX0_sumOf_19 : decode cX0_sumOf 19 = .ok (.if_icmp .ne 12, 3) := by decide +kernel
theorem dX0_sumOf_22 : decode cX0_sumOf 22 = .ok (.iload_n 2, 1) := by decide +kernel
theorem dX0_sumOf_23 : decode cX0_sumOf 23 = .ok (.aload_n 0, 1) := by decide +kernel
theorem dX0_sumOf_24 : decode cX0_sumOf 24 = .ok (.getfield 15, 3) := by decide +kernel
theorem dX0_sumOf_27 : decode cX0_sumOf 27 = .ok (.iload_n 3, 1) := by decide +kernel
theorem dX0_sumOf_28 : decode cX0_sumOf 28 = .ok (.iaload, 1) := by decide +kernel
theorem dX0_sumOf_29 : decode cX0_sumOf 29 = .ok (.iadd, 1) := by decide +kernel
theorem dX0_sumOf_30 : decode cX0_sumOf 30 = .ok (.istore_n 2, 1) := by decide +kernel
theorem dX0_sumOf_31 : decode cX0_sumOf 31 = .ok (.iinc 3 1, 3) := by decide +kernel
theorem dX0_sumOf_34 : decode cX0_sumOf 34 = .ok (.goto (-30), 3) := by decide +kernel
theorem dX0_sumOf_37 : decode cX0_sumOf 37 = .ok (.iload_n 2, 1) := by decide +kernel
theorem dX0_sumOf_38 : decode cX0_sumOf 38 = .ok (.ireturn, 1) := by decide +kernel
theorem dX0_firstToEnd_0 : decode cX0_firstToEnd 0 = .ok (.iconst (-1), 1) := by decide +kernel
theorem dX0_firstToEnd_1 : decode cX0_firstToEnd 1 = .ok (.istore_n 2, 1) := by decide +kernel
theorem dX0_firstToEnd_2 : decode cX0_firstToEnd 2 = .ok (.iconst 0, 1) := by decide +kernel
theorem dX0_firstToEnd_3 : decode cX0_firstToEnd 3 = .ok (.istore_n 3, 1) := by decide +kernel
theorem dX0_firstToEnd_4 : decode cX0_firstToEnd 4 = .ok (.iload_n 3, 1) := by decide +kernel
theorem dX0_firstToEnd_5 : decode cX0_firstToEnd 5 = .ok (.aload_n 0, 1) := by decide +kernel
theorem dX0_firstToEnd_6 : decode cX0_firstToEnd 6 = .ok (.getfield 24, 3) := by decide +kernel
theorem dX0_firstToEnd_9 : decode cX0_firstToEnd 9 = .ok (.if_icmp .ge 40, 3) := by decide +kernel
theorem dX0_firstToEnd_12 : decode cX0_firstToEnd 12 = .ok (.aload_n 0, 1) := by decide +kernel
theorem dX0_firstToEnd_13 : decode cX0_firstToEnd 13 = .ok (.getfield 9, 3) := by decide +kernel
theorem dX0_firstToEnd_16 : decode cX0_firstToEnd 16 = .ok (.iload_n 3, 1) := by decide +kernel
theorem dX0_firstToEnd_17 : decode cX0_firstToEnd 17 = .ok (.iaload, 1) := by decide +kernel
theorem dX0_firstToEnd_18 : decode cX0_firstToEnd 18 = .ok (.iload_n 1, 1) := by decide +kernel
theorem dX0_firstToEnd_19 : decode cX0_firstToEnd 19 = .ok (.if_icmp .ne 24, 3) := by decide +kernel
theorem dX0_firstToEnd_22 : decode cX0_firstToEnd 22 = .ok (.iload_n 2, 1) := by decide +kernel
theorem dX0_firstToEnd_23 : decode cX0_firstToEnd 23 = .ok (.ifCond .lt 18, 3) := by decide +kernel
theorem dX0_firstToEnd_26 : decode cX0_firstToEnd 26 = .ok (.aload_n 0, 1) := by decide +kernel
theorem dX0_firstToEnd_27 : decode cX0_firstToEnd 27 = .ok (.getfield 18, 3) := by decide +kernel
theorem dX0_firstToEnd_30 : decode cX0_firstToEnd 30 = .ok (.iload_n 3, 1) := by decide +kernel
theorem dX0_firstToEnd_31 : decode cX0_firstToEnd 31 = .ok (.iaload, 1) := by decide +kernel
theorem dX0_firstToEnd_32 : decode cX0_firstToEnd 32 = .ok (.aload_n 0, 1) := by decide +kernel
theorem dX0_firstToEnd_33 : decode cX0_firstToEnd 33 = .ok (.getfield 18, 3) := by decide +kernel
theorem dX0_firstToEnd_36 : decode cX0_firstToEnd 36 = .ok (.iload_n 2, 1) := by decide +kernel
theorem dX0_firstToEnd_37 : decode cX0_firstToEnd 37 = .ok (.iaload, 1) := by decide +kernel
theorem dX0_firstToEnd_38 : decode cX0_firstToEnd 38 = .ok (.if_icmp .ge 5, 3) := by decide +kernel
theorem dX0_firstToEnd_41 : decode cX0_firstToEnd 41 = .ok (.iload_n 3, 1) := by decide +kernel
theorem dX0_firstToEnd_42 : decode cX0_firstToEnd 42 = .ok (.istore_n 2, 1) := by decide +kernel
theorem dX0_firstToEnd_43 : decode cX0_firstToEnd 43 = .ok (.iinc 3 1, 3) := by decide +kernel
theorem dX0_firstToEnd_46 : decode cX0_firstToEnd 46 = .ok (.goto (-42), 3) := by decide +kernel
theorem dX0_firstToEnd_49 : decode cX0_firstToEnd 49 = .ok (.iload_n 2, 1) := by decide +kernel
theorem dX0_firstToEnd_50 : decode cX0_firstToEnd 50 = .ok (.ireturn, 1) := by decide +kernel
theorem dX0_spend_0 : decode cX0_spend 0 = .ok (.iload_n 2, 1) := by decide +kernel
theorem dX0_spend_1 : decode cX0_spend 1 = .ok (.istore_n 3, 1) := by decide +kernel
theorem dX0_spend_2 : decode cX0_spend 2 = .ok (.iconst 0, 1) := by decide +kernel
theorem dX0_spend_3 : decode cX0_spend 3 = .ok (.istore 4, 2) := by decide +kernel
theorem dX0_spend_5 : decode cX0_spend 5 = .ok (.iload 4, 2) := by decide +kernel
theorem dX0_spend_7 : decode cX0_spend 7 = .ok (.bipush 30, 2) := by decide +kernel
theorem dX0_spend_9 : decode cX0_spend 9 = .ok (.if_icmp .ge 65, 3) := by decide +kernel
theorem dX0_spend_12 : decode cX0_spend 12 = .ok (.iload_n 3, 1) := by decide +kernel
theorem dX0_spend_13 : decode cX0_spend 13 = .ok (.ifCond .le 61, 3) := by decide +kernel
theorem dX0_spend_16 : decode cX0_spend 16 = .ok (.aload_n 0, 1) := by decide +kernel
theorem dX0_spend_17 : decode cX0_spend 17 = .ok (.iload_n 1, 1) := by decide +kernel
theorem dX0_spend_18 : decode cX0_spend 18 = .ok (.invokevirtual 36, 3) := by decide +kernel
theorem dX0_spend_21 : decode cX0_spend 21 = .ok (.istore 5, 2) := by decide +kernel
theorem dX0_spend_23 : decode cX0_spend 23 = .ok (.iload 5, 2) := by decide +kernel
theorem dX0_spend_25 : decode cX0_spend 25 = .ok (.ifCond .ge 4, 3) := by decide +kernel
theorem dX0_spend_28 : decode cX0_spend 28 = .ok (.return_, 1) := by decide +kernel
theorem dX0_spend_29 : decode cX0_spend 29 = .ok (.aload_n 0, 1) := by decide +kernel
theorem dX0_spend_30 : decode cX0_spend 30 = .ok (.getfield 15, 3) := by decide +kernel
theorem dX0_spend_33 : decode cX0_spend 33 = .ok (.iload 5, 2) := by decide +kernel
theorem dX0_spend_35 : decode cX0_spend 35 = .ok (.iaload, 1) := by decide +kernel
theorem dX0_spend_36 : decode cX0_spend 36 = .ok (.iload_n 3, 1) := by decide +kernel
theorem dX0_spend_37 : decode cX0_spend 37 = .ok (.if_icmp .le 15, 3) := by decide +kernel
theorem dX0_spend_40 : decode cX0_spend 40 = .ok (.aload_n 0, 1) := by decide +kernel
theorem dX0_spend_41 : decode cX0_spend 41 = .ok (.getfield 15, 3) := by decide +kernel
theorem dX0_spend_44 : decode cX0_spend 44 = .ok (.iload 5, 2) := by decide +kernel
theorem dX0_spend_46 : decode cX0_spend 46 = .ok (.dup2, 1) := by decide +kernel
theorem dX0_spend_47 : decode cX0_spend 47 = .ok (.iaload, 1) := by decide +kernel
theorem dX0_spend_48 : decode cX0_spend 48 = .ok (.iload_n 3, 1) := by decide +kernel
theorem dX0_spend_49 : decode cX0_spend 49 = .ok (.isub, 1) := by decide +kernel
theorem dX0_spend_50 : decode cX0_spend 50 = .ok (.iastore, 1) := by decide +kernel
theorem dX0_spend_51 : decode cX0_spend 51 = .ok (.return_, 1) := by decide +kernel
theorem dX0_spend_52 : decode cX0_spend 52 = .ok (.iload_n 3, 1) := by decide +kernel
theorem dX0_spend_53 : decode cX0_spend 53 = .ok (.aload_n 0, 1) := by decide +kernel
theorem dX0_spend_54 : decode cX0_spend 54 = .ok (.getfield 15, 3) := by decide +kernel
theorem dX0_spend_57 : decode cX0_spend 57 = .ok (.iload 5, 2) := by decide +kernel
theorem dX0_spend_59 : decode cX0_spend 59 = .ok (.iaload, 1) := by decide +kernel
theorem dX0_spend_60 : decode cX0_spend 60 = .ok (.isub, 1) := by decide +kernel
theorem dX0_spend_61 : decode cX0_spend 61 = .ok (.istore_n 3, 1) := by decide +kernel
theorem dX0_spend_62 : decode cX0_spend 62 = .ok (.aload_n 0, 1) := by decide +kernel
theorem dX0_spend_63 : decode cX0_spend 63 = .ok (.iload 5, 2) := by decide +kernel
theorem dX0_spend_65 : decode cX0_spend 65 = .ok (.invokevirtual 32, 3) := by decide +kernel
theorem dX0_spend_68 : decode cX0_spend 68 = .ok (.iinc 4 1, 3) := by decide +kernel
theorem dX0_spend_71 : decode cX0_spend 71 = .ok (.goto (-66), 3) := by decide +kernel
theorem dX0_spend_74 : decode cX0_spend 74 = .ok (.return_, 1) := by decide +kernel
theorem dX1_init_0 : decode cX1_init 0 = .ok (.aload_n 0, 1) := by decide +kernel
theorem dX1_init_1 : decode cX1_init 1 = .ok (.invokespecial 3, 3) := by decide +kernel
theorem dX1_init_4 : decode cX1_init 4 = .ok (.aload_n 0, 1) := by decide +kernel
theorem dX1_init_5 : decode cX1_init 5 = .ok (.bipush 24, 2) := by decide +kernel
theorem dX1_init_7 : decode cX1_init 7 = .ok (.newarray .int, 2) := by decide +kernel
theorem dX1_init_9 : decode cX1_init 9 = .ok (.putfield 9, 3) := by decide +kernel
theorem dX1_init_12 : decode cX1_init 12 = .ok (.aload_n 0, 1) := by decide +kernel
theorem dX1_init_13 : decode cX1_init 13 = .ok (.bipush 6, 2) := by decide +kernel
theorem dX1_init_15 : decode cX1_init 15 = .ok (.newarray .int, 2) := by decide +kernel
theorem dX1_init_17 : decode cX1_init 17 = .ok (.putfield 15, 3) := by decide +kernel
theorem dX1_init_20 : decode cX1_init 20 = .ok (.aload_n 0, 1) := by decide +kernel
theorem dX1_init_21 : decode cX1_init 21 = .ok (.bipush 6, 2) := by decide +kernel
theorem dX1_init_23 : decode cX1_init 23 = .ok (.newarray .int, 2) := by decide +kernel
theorem dX1_init_25 : decode cX1_init 25 = .ok (.putfield 18, 3) := by decide +kernel
theorem dX1_init_28 : decode cX1_init 28 = .ok (.aload_n 0, 1) := by decide +kernel
theorem dX1_init_29 : decode cX1_init 29 = .ok (.bipush 6, 2) := by decide +kernel
theorem dX1_init_31 : decode cX1_init 31 = .ok (.newarray .int, 2) := by decide +kernel
theorem dX1_init_33 : decode cX1_init 33 = .ok (.putfield 21, 3) := by decide +kernel
theorem dX1_init_36 : decode cX1_init 36 = .ok (.return_, 1) := by decide +kernel
theorem dX1_copyFrom_0 : decode cX1_copyFrom 0 = .ok (.aload_n 0, 1) := by decide +kernel
theorem dX1_copyFrom_1 : decode cX1_copyFrom 1 = .ok (.aload_n 1, 1) := by decide +kernel
theorem dX1_copyFrom_2 : decode cX1_copyFrom 2 = .ok (.getfield 24, 3) := by decide +kernel
theorem dX1_copyFrom_5 : decode cX1_copyFrom 5 = .ok (.putfield 24, 3) := by decide +kernel
theorem dX1_copyFrom_8 : decode cX1_copyFrom 8 = .ok (.aload_n 1, 1) := by decide +kernel
theorem dX1_copyFrom_9 : decode cX1_copyFrom 9 = .ok (.getfield 9, 3) := by decide +kernel
theorem dX1_copyFrom_12 : decode cX1_copyFrom 12 = .ok (.aload_n 0, 1) := by decide +kernel
theorem dX1_copyFrom_13 : decode cX1_copyFrom 13 = .ok (.getfield 9, 3) := by decide +kernel
theorem dX1_copyFrom_16 : decode cX1_copyFrom 16 = .ok (.aload_n 0, 1) := by decide +kernel
theorem dX1_copyFrom_17 : decode cX1_copyFrom 17 = .ok (.getfield 24, 3) := by decide +kernel
theorem dX1_copyFrom_20 : decode cX1_copyFrom 20 = .ok (.iconst 4, 1) := by decide +kernel
theorem dX1_copyFrom_21 : decode cX1_copyFrom 21 = .ok (.imul, 1) := by decide +kernel
theorem dX1_copyFrom_22 : decode cX1_copyFrom 22 = .ok (.invokestatic 28, 3) := by decide +kernel
theorem dX1_copyFrom_25 : decode cX1_copyFrom 25 = .ok (.aload_n 1, 1) := by decide +kernel
theorem dX1_copyFrom_26 : decode cX1_copyFrom 26 = .ok (.getfield 15, 3) := by decide +kernel
theorem dX1_copyFrom_29 : decode cX1_copyFrom 29 = .ok (.aload_n 0, 1) := by decide +kernel
theorem dX1_copyFrom_30 : decode cX1_copyFrom 30 = .ok (.getfield 15, 3) := by decide +kernel
theorem dX1_copyFrom_33 : decode cX1_copyFrom 33 = .ok (.aload_n 0, 1) := by decide +kernel
theorem dX1_copyFrom_34 : decode cX1_copyFrom 34 = .ok (.getfield 24, 3) := by decide +kernel
theorem dX1_copyFrom_37 : decode cX1_copyFrom 37 = .ok (.invokestatic 28, 3) := by decide +kernel
theorem dX1_copyFrom_40 : decode cX1_copyFrom 40 = .ok (.aload_n 1, 1) := by decide +kernel
theorem dX1_copyFrom_41 : decode cX1_copyFrom 41 = .ok (.getfield 18, 3) := by decide +kernel
theorem dX1_copyFrom_44 : decode cX1_copyFrom 44 = .ok (.aload_n 0, 1) := by decide +kernel
theorem dX1_copyFrom_45 : decode cX1_copyFrom 45 = .ok (.getfield 18, 3) := by decide +kernel
theorem dX1_copyFrom_48 : decode cX1_copyFrom 48 = .ok (.aload_n 0, 1) := by decide +kernel
theorem dX1_copyFrom_49 : decode cX1_copyFrom 49 = .ok (.getfield 24, 3) := by decide +kernel
theorem dX1_copyFrom_52 : decode cX1_copyFrom 52 = .ok (.invokestatic 28, 3) := by decide +kernel
theorem dX1_copyFrom_55 : decode cX1_copyFrom 55 = .ok (.aload_n 1, 1) := by decide +kernel
theorem dX1_copyFrom_56 : decode cX1_copyFrom 56 = .ok (.getfield 21, 3) := by decide +kernel
theorem dX1_copyFrom_59 : decode cX1_copyFrom 59 = .ok (.aload_n 0, 1) := by decide +kernel
theorem dX1_copyFrom_60 : decode cX1_copyFrom 60 = .ok (.getfield 21, 3) := by decide +kernel
theorem dX1_copyFrom_63 : decode cX1_copyFrom 63 = .ok (.aload_n 0, 1) := by decide +kernel
theorem dX1_copyFrom_64 : decode cX1_copyFrom 64 = .ok (.getfield 24, 3) := by decide +kernel
theorem dX1_copyFrom_67 : decode cX1_copyFrom 67 = .ok (.invokestatic 28, 3) := by decide +kernel
theorem dX1_copyFrom_70 : decode cX1_copyFrom 70 = .ok (.return_, 1) := by decide +kernel
theorem dX1_open_0 : decode cX1_open 0 = .ok (.aload_n 0, 1) := by decide +kernel
theorem dX1_open_1 : decode cX1_open 1 = .ok (.getfield 24, 3) := by decide +kernel
theorem dX1_open_4 : decode cX1_open 4 = .ok (.ifCond .lt 22, 3) := by decide +kernel
theorem dX1_open_7 : decode cX1_open 7 = .ok (.aload_n 0, 1) := by decide +kernel
theorem dX1_open_8 : decode cX1_open 8 = .ok (.getfield 24, 3) := by decide +kernel
theorem dX1_open_11 : decode cX1_open 11 = .ok (.bipush 6, 2) := by decide +kernel
theorem dX1_open_13 : decode cX1_open 13 = .ok (.if_icmp .ge 13, 3) := by decide +kernel
theorem dX1_open_16 : decode cX1_open 16 = .ok (.aload_n 0, 1) := by decide +kernel
theorem dX1_open_17 : decode cX1_open 17 = .ok (.getfield 15, 3) := by decide +kernel
theorem dX1_open_20 : decode cX1_open 20 = .ok (.aload_n 0, 1) := by decide +kernel
theorem dX1_open_21 : decode cX1_open 21 = .ok (.getfield 24, 3) := by decide +kernel
theorem dX1_open_24 : decode cX1_open 24 = .ok (.iconst 0, 1) := by decide +kernel
theorem dX1_open_25 : decode cX1_open 25 = .ok (.iastore, 1) := by decide +kernel
theorem dX1_open_26 : decode cX1_open 26 = .ok (.return_, 1) := by decide +kernel
theorem dX1_addPlace_0 : decode cX1_addPlace 0 = .ok (.aload_n 0, 1) := by decide +kernel
theorem dX1_addPlace_1 : decode cX1_addPlace 1 = .ok (.getfield 24, 3) := by decide +kernel
theorem dX1_addPlace_4 : decode cX1_addPlace 4 = .ok (.ifCond .lt 37, 3) := by decide +kernel
theorem dX1_addPlace_7 : decode cX1_addPlace 7 = .ok (.aload_n 0, 1) := by decide +kernel
theorem dX1_addPlace_8 : decode cX1_addPlace 8 = .ok (.getfield 24, 3) := by decide +kernel
theorem dX1_addPlace_11 : decode cX1_addPlace 11 = .ok (.bipush 6, 2) := by decide +kernel
theorem dX1_addPlace_13 : decode cX1_addPlace 13 = .ok (.if_icmp .ge 28, 3) := by decide +kernel
theorem dX1_addPlace_16 : decode cX1_addPlace 16 = .ok (.aload_n 0, 1) := by decide +kernel
theorem dX1_addPlace_17 : decode cX1_addPlace 17 = .ok (.getfield 15, 3) := by decide +kernel
theorem dX1_addPlace_20 : decode cX1_addPlace 20 = .ok (.aload_n 0, 1) := by decide +kernel
theorem dX1_addPlace_21 : decode cX1_addPlace 21 = .ok (.getfield 24, 3) := by decide +kernel
theorem dX1_addPlace_24 : decode cX1_addPlace 24 = .ok (.iaload, 1) := by decide +kernel
theorem dX1_addPlace_25 : decode cX1_addPlace 25 = .ok (.ifCond .lt 16, 3) := by decide +kernel
theorem dX1_addPlace_28 : decode cX1_addPlace 28 = .ok (.aload_n 0, 1) := by decide +kernel
theorem dX1_addPlace_29 : decode cX1_addPlace 29 = .ok (.getfield 15, 3) := by decide +kernel
theorem dX1_addPlace_32 : decode cX1_addPlace 32 = .ok (.aload_n 0, 1) := by decide +kernel
theorem dX1_addPlace_33 : decode cX1_addPlace 33 = .ok (.getfield 24, 3) := by decide +kernel
theorem dX1_addPlace_36 : decode cX1_addPlace 36 = .ok (.iaload, 1) := by decide +kernel
theorem dX1_addPlace_37 : decode cX1_addPlace 37 = .ok (.iconst 4, 1) := by decide +kernel
theorem dX1_addPlace_38 : decode cX1_addPlace 38 = .ok (.if_icmp .lt 4, 3) := by decide +kernel
theorem dX1_addPlace_41 : decode cX1_addPlace 41 = .ok (.return_, 1) := by decide +kernel
theorem dX1_addPlace_42 : decode cX1_addPlace 42 = .ok (.aload_n 0, 1) := by decide +kernel
theorem dX1_addPlace_43 : decode cX1_addPlace 43 = .ok (.getfield 9, 3) := by decide +kernel
theorem dX1_addPlace_46 : decode cX1_addPlace 46 = .ok (.aload_n 0, 1) := by decide +kernel
theorem dX1_addPlace_47 : decode cX1_addPlace 47 = .ok (.getfield 24, 3) := by decide +kernel
theorem dX1_addPlace_50 : decode cX1_addPlace 50 = .ok (.iconst 4, 1) := by decide +kernel
theorem dX1_addPlace_51 : decode cX1_addPlace 51 = .ok (.imul, 1) := by decide +kernel
theorem dX1_addPlace_52 : decode cX1_addPlace 52 = .ok (.aload_n 0, 1) := by decide +kernel
theorem dX1_addPlace_53 : decode cX1_addPlace 53 = .ok (.getfield 15, 3) := by decide +kernel
theorem dX1_addPlace_56 : decode cX1_addPlace 56 = .ok (.aload_n 0, 1) := by decide +kernel
theorem dX1_addPlace_57 : decode cX1_addPlace 57 = .ok (.getfield 24, 3) := by decide +kernel
theorem dX1_addPlace_60 : decode cX1_addPlace 60 = .ok (.iaload, 1) := by decide +kernel
theorem dX1_addPlace_61 : decode cX1_addPlace 61 = .ok (.iadd, 1) := by decide +kernel
theorem dX1_addPlace_62 : decode cX1_addPlace 62 = .ok (.iload_n 1, 1) := by decide +kernel
theorem dX1_addPlace_63 : decode cX1_addPlace 63 = .ok (.iastore, 1) := by decide +kernel
theorem dX1_addPlace_64 : decode cX1_addPlace 64 = .ok (.aload_n 0, 1) := by decide +kernel
theorem dX1_addPlace_65 : decode cX1_addPlace 65 = .ok (.getfield 15, 3) := by decide +kernel
theorem dX1_addPlace_68 : decode cX1_addPlace 68 = .ok (.aload_n 0, 1) := by decide +kernel
theorem dX1_addPlace_69 : decode cX1_addPlace 69 = .ok (.getfield 24, 3) := by decide +kernel
theorem dX1_addPlace_72 : decode cX1_addPlace 72 = .ok (.dup2, 1) := by decide +kernel
theorem dX1_addPlace_73 : decode cX1_addPlace 73 = .ok (.iaload, 1) := by decide +kernel
theorem dX1_addPlace_74 : decode cX1_addPlace 74 = .ok (.iconst 1, 1) := by decide +kernel
theorem dX1_addPlace_75 : decode cX1_addPlace 75 = .ok (.iadd, 1) := by decide +kernel
theorem dX1_addPlace_76 : decode cX1_addPlace 76 = .ok (.iastore, 1) := by decide +kernel
theorem dX1_addPlace_77 : decode cX1_addPlace 77 = .ok (.return_, 1) := by decide +kernel
theorem dX1_close_0 : decode cX1_close 0 = .ok (.aload_n 0, 1) := by decide +kernel
theorem dX1_close_1 : decode cX1_close 1 = .ok (.getfield 24, 3) := by decide +kernel
theorem dX1_close_4 : decode cX1_close 4 = .ok (.ifCond .lt 42, 3) := by decide +kernel
theorem dX1_close_7 : decode cX1_close 7 = .ok (.aload_n 0, 1) := by decide +kernel
theorem dX1_close_8 : decode cX1_close 8 = .ok (.getfield 24, 3) := by decide +kernel
theorem dX1_close_11 : decode cX1_close 11 = .ok (.bipush 6, 2) := by decide +kernel
theorem dX1_close_13 : decode cX1_close 13 = .ok (.if_icmp .ge 33, 3) := by decide +kernel
theorem dX1_close_16 : decode cX1_close 16 = .ok (.aload_n 0, 1) := by decide +kernel
theorem dX1_close_17 : decode cX1_close 17 = .ok (.getfield 18, 3) := by decide +kernel
theorem dX1_close_20 : decode cX1_close 20 = .ok (.aload_n 0, 1) := by decide +kernel
theorem dX1_close_21 : decode cX1_close 21 = .ok (.getfield 24, 3) := by decide +kernel
theorem dX1_close_24 : decode cX1_close 24 = .ok (.iload_n 1, 1) := by decide +kernel
theorem dX1_close_25 : decode cX1_close 25 = .ok (.iastore, 1) := by decide +kernel
theorem dX1_close_26 : decode cX1_close 26 = .ok (.aload_n 0, 1) := by decide +kernel
theorem dX1_close_27 : decode cX1_close 27 = .ok (.getfield 21, 3) := by decide +kernel
theorem dX1_close_30 : decode cX1_close 30 = .ok (.aload_n 0, 1) := by decide +kernel
theorem dX1_close_31 : decode cX1_close 31 = .ok (.getfield 24, 3) := by decide +kernel
theorem dX1_close_34 : decode cX1_close 34 = .ok (.iconst 0, 1) := by decide +kernel
theorem dX1_close_35 : decode cX1_close 35 = .ok (.iastore, 1) := by decide +kernel
theorem dX1_close_36 : decode cX1_close 36 = .ok (.aload_n 0, 1) := by decide +kernel
theorem dX1_close_37 : decode cX1_close 37 = .ok (.dup, 1) := by decide +kernel
theorem dX1_close_38 : decode cX1_close 38 = .ok (.getfield 24, 3) := by decide +kernel
theorem dX1_close_41 : decode cX1_close 41 = .ok (.iconst 1, 1) := by decide +kernel
theorem dX1_close_42 : decode cX1_close 42 = .ok (.iadd, 1) := by decide +kernel
theorem dX1_close_43 : decode cX1_close 43 = .ok (.putfield 24, 3) := by decide +kernel
theorem dX1_close_46 : decode cX1_close 46 = .ok (.return_, 1) := by decide +kernel
theorem dX1_openRouteHas_0 : decode cX1_openRouteHas 0 = .ok (.iconst 0, 1) := by decide +kernel
theorem dX1_openRouteHas_1 : decode cX1_openRouteHas 1 = .ok (.istore_n 2, 1) := by decide +kernel
theorem dX1_openRouteHas_2 : decode cX1_openRouteHas 2 = .ok (.iload_n 2, 1) := by decide +kernel
theorem dX1_openRouteHas_3 : decode cX1_openRouteHas 3 = .ok (.iconst 4, 1) := by decide +kernel
theorem dX1_openRouteHas_4 : decode cX1_openRouteHas 4 = .ok (.if_icmp .ge 24, 3) := by decide +kernel
theorem dX1_openRouteHas_7 : decode cX1_openRouteHas 7 = .ok (.aload_n 0, 1) := by decide +kernel
theorem dX1_openRouteHas_8 : decode cX1_openRouteHas 8 = .ok (.aload_n 0, 1) := by decide +kernel
theorem dX1_openRouteHas_9 : decode cX1_openRouteHas 9 = .ok (.getfield 24, 3) := by decide +kernel
theorem dX1_openRouteHas_12 : decode cX1_openRouteHas 12 = .ok (.iload_n 2, 1) := by decide +kernel
theorem dX1_openRouteHas_13 : decode cX1_openRouteHas 13 = .ok (.invokevirtual 32, 3) := by decide +kernel
theorem dX1_openRouteHas_16 : decode cX1_openRouteHas 16 = .ok (.iload_n 1, 1) := by decide +kernel
theorem dX1_openRouteHas_17 : decode cX1_openRouteHas 17 = .ok (.if_icmp .ne 5, 3) := by decide +kernel
theorem dX1_openRouteHas_20 : decode cX1_openRouteHas 20 = .ok (.iconst 1, 1) := by decide +kernel
theorem dX1_openRouteHas_21 : decode cX1_openRouteHas 21 = .ok (.ireturn, 1) := by decide +kernel
theorem dX1_openRouteHas_22 : decode cX1_openRouteHas 22 = .ok (.iinc 2 1, 3) := by decide +kernel
theorem dX1_openRouteHas_25 : decode cX1_openRouteHas 25 = .ok (.goto (-23), 3) := by decide +kernel
theorem dX1_openRouteHas_28 : decode cX1_openRouteHas 28 = .ok (.iconst 0, 1) := by decide +kernel
theorem dX1_openRouteHas_29 : decode cX1_openRouteHas 29 = .ok (.ireturn, 1) := by decide +kernel
theorem dX1_gateAt_0 : decode cX1_gateAt 0 = .ok (.iload_n 1, 1) := by decide +kernel
theorem dX1_gateAt_1 : decode cX1_gateAt 1 = .ok (.ifCond .lt 28, 3) := by decide +kernel
theorem dX1_gateAt_4 : decode cX1_gateAt 4 = .ok (.iload_n 1, 1) := by decide +kernel
theorem dX1_gateAt_5 : decode cX1_gateAt 5 = .ok (.bipush 6, 2) := by decide +kernel
theorem dX1_gateAt_7 : decode cX1_gateAt 7 = .ok (.if_icmp .ge 22, 3) := by decide +kernel
theorem dX1_gateAt_10 : decode cX1_gateAt 10 = .ok (.iload_n 2, 1) := by decide +kernel
theorem dX1_gateAt_11 : decode cX1_gateAt 11 = .ok (.ifCond .lt 18, 3) := by decide +kernel
theorem dX1_gateAt_14 : decode cX1_gateAt 14 = .ok (.iload_n 2, 1) := by decide +kernel
theorem dX1_gateAt_15 : decode cX1_gateAt 15 = .ok (.iconst 4, 1) := by decide +kernel
theorem dX1_gateAt_16 : decode cX1_gateAt 16 = .ok (.if_icmp .ge 13, 3) := by decide +kernel
theorem dX1_gateAt_19 : decode cX1_gateAt 19 = .ok (.iload_n 2, 1) := by decide +kernel
theorem dX1_gateAt_20 : decode cX1_gateAt 20 = .ok (.aload_n 0, 1) := by decide +kernel
theorem dX1_gateAt_21 : decode cX1_gateAt 21 = .ok (.getfield 15, 3) := by decide +kernel
theorem dX1_gateAt_24 : decode cX1_gateAt 24 = .ok (.iload_n 1, 1) := by decide +kernel
theorem dX1_gateAt_25 : decode cX1_gateAt 25 = .ok (.iaload, 1) := by decide +kernel
theorem dX1_gateAt_26 : decode cX1_gateAt 26 = .ok (.if_icmp .lt 5, 3) := by decide +kernel
theorem dX1_gateAt_29 : decode cX1_gateAt 29 = .ok (.iconst (-1), 1) := by decide +kernel
theorem dX1_gateAt_30 : decode cX1_gateAt 30 = .ok (.ireturn, 1) := by decide +kernel
theorem dX1_gateAt_31 : decode cX1_gateAt 31 = .ok (.aload_n 0, 1) := by decide +kernel
theorem dX1_gateAt_32 : decode cX1_gateAt 32 = .ok (.getfield 9, 3) := by decide +kernel
theorem dX1_gateAt_35 : decode cX1_gateAt 35 = .ok (.iload_n 1, 1) := by decide +kernel
theorem dX1_gateAt_36 : decode cX1_gateAt 36 = .ok (.iconst 4, 1) := by decide +kernel
theorem dX1_gateAt_37 : decode cX1_gateAt 37 = .ok (.imul, 1) := by decide +kernel
theorem dX1_gateAt_38 : decode cX1_gateAt 38 = .ok (.iload_n 2, 1) := by decide +kernel
theorem dX1_gateAt_39 : decode cX1_gateAt 39 = .ok (.iadd, 1) := by decide +kernel
theorem dX1_gateAt_40 : decode cX1_gateAt 40 = .ok (.iaload, 1) := by decide +kernel
theorem dX1_gateAt_41 : decode cX1_gateAt 41 = .ok (.ireturn, 1) := by decide +kernel
theorem dX2_init_0 : decode cX2_init 0 = .ok (.aload_n 0, 1) := by decide +kernel
theorem dX2_init_1 : decode cX2_init 1 = .ok (.invokespecial 3, 3) := by decide +kernel
theorem dX2_init_4 : decode cX2_init 4 = .ok (.aload_n 0, 1) := by decide +kernel
theorem dX2_init_5 : decode cX2_init 5 = .ok (.bipush 6, 2) := by decide +kernel
theorem dX2_init_7 : decode cX2_init 7 = .ok (.newarray .int, 2) := by decide +kernel
theorem dX2_init_9 : decode cX2_init 9 = .ok (.putfield 9, 3) := by decide +kernel
theorem dX2_init_12 : decode cX2_init 12 = .ok (.aload_n 0, 1) := by decide +kernel
theorem dX2_init_13 : decode cX2_init 13 = .ok (.bipush 6, 2) := by decide +kernel
theorem dX2_init_15 : decode cX2_init 15 = .ok (.newarray .int, 2) := by decide +kernel
theorem dX2_init_17 : decode cX2_init 17 = .ok (.putfield 15, 3) := by decide +kernel
theorem dX2_init_20 : decode cX2_init 20 = .ok (.aload_n 0, 1) := by decide +kernel
theorem dX2_init_21 : decode cX2_init 21 = .ok (.bipush 6, 2) := by decide +kernel
theorem dX2_init_23 : decode cX2_init 23 = .ok (.newarray .int, 2) := by decide +kernel
theorem dX2_init_25 : decode cX2_init 25 = .ok (.putfield 18, 3) := by decide +kernel
theorem dX2_init_28 : decode cX2_init 28 = .ok (.return_, 1) := by decide +kernel
theorem dX2_copyFrom_0 : decode cX2_copyFrom 0 = .ok (.aload_n 0, 1) := by decide +kernel
theorem dX2_copyFrom_1 : decode cX2_copyFrom 1 = .ok (.aload_n 1, 1) := by decide +kernel
theorem dX2_copyFrom_2 : decode cX2_copyFrom 2 = .ok (.getfield 21, 3) := by decide +kernel
theorem dX2_copyFrom_5 : decode cX2_copyFrom 5 = .ok (.putfield 21, 3) := by decide +kernel
theorem dX2_copyFrom_8 : decode cX2_copyFrom 8 = .ok (.aload_n 1, 1) := by decide +kernel
theorem dX2_copyFrom_9 : decode cX2_copyFrom 9 = .ok (.getfield 9, 3) := by decide +kernel
theorem dX2_copyFrom_12 : decode cX2_copyFrom 12 = .ok (.aload_n 0, 1) := by decide +kernel
theorem dX2_copyFrom_13 : decode cX2_copyFrom 13 = .ok (.getfield 9, 3) := by decide +kernel
theorem dX2_copyFrom_16 : decode cX2_copyFrom 16 = .ok (.aload_n 0, 1) := by decide +kernel
theorem dX2_copyFrom_17 : decode cX2_copyFrom 17 = .ok (.getfield 21, 3) := by decide +kernel
theorem dX2_copyFrom_20 : decode cX2_copyFrom 20 = .ok (.invokestatic 25, 3) := by decide +kernel
theorem dX2_copyFrom_23 : decode cX2_copyFrom 23 = .ok (.aload_n 1, 1) := by decide +kernel
theorem dX2_copyFrom_24 : decode cX2_copyFrom 24 = .ok (.getfield 15, 3) := by decide +kernel
theorem dX2_copyFrom_27 : decode cX2_copyFrom 27 = .ok (.aload_n 0, 1) := by decide +kernel
theorem dX2_copyFrom_28 : decode cX2_copyFrom 28 = .ok (.getfield 15, 3) := by decide +kernel
theorem dX2_copyFrom_31 : decode cX2_copyFrom 31 = .ok (.aload_n 0, 1) := by decide +kernel
theorem dX2_copyFrom_32 : decode cX2_copyFrom 32 = .ok (.getfield 21, 3) := by decide +kernel
theorem dX2_copyFrom_35 : decode cX2_copyFrom 35 = .ok (.invokestatic 25, 3) := by decide +kernel
theorem dX2_copyFrom_38 : decode cX2_copyFrom 38 = .ok (.aload_n 1, 1) := by decide +kernel
theorem dX2_copyFrom_39 : decode cX2_copyFrom 39 = .ok (.getfield 18, 3) := by decide +kernel
theorem dX2_copyFrom_42 : decode cX2_copyFrom 42 = .ok (.aload_n 0, 1) := by decide +kernel
theorem dX2_copyFrom_43 : decode cX2_copyFrom 43 = .ok (.getfield 18, 3) := by decide +kernel
theorem dX2_copyFrom_46 : decode cX2_copyFrom 46 = .ok (.aload_n 0, 1) := by decide +kernel
theorem dX2_copyFrom_47 : decode cX2_copyFrom 47 = .ok (.getfield 21, 3) := by decide +kernel
theorem dX2_copyFrom_50 : decode cX2_copyFrom 50 = .ok (.invokestatic 25, 3) := by decide +kernel
theorem dX2_copyFrom_53 : decode cX2_copyFrom 53 = .ok (.return_, 1) := by decide +kernel
theorem dX2_add_0 : decode cX2_add 0 = .ok (.aload_n 0, 1) := by decide +kernel
theorem dX2_add_1 : decode cX2_add 1 = .ok (.getfield 21, 3) := by decide +kernel
theorem dX2_add_4 : decode cX2_add 4 = .ok (.ifCond .lt 12, 3) := by decide +kernel
theorem dX2_add_7 : decode cX2_add 7 = .ok (.aload_n 0, 1) := by decide +kernel
theorem dX2_add_8 : decode cX2_add 8 = .ok (.getfield 21, 3) := by decide +kernel
theorem dX2_add_11 : decode cX2_add 11 = .ok (.bipush 6, 2) := by decide +kernel
theorem dX2_add_13 : decode cX2_add 13 = .ok (.if_icmp .lt 4, 3) := by decide +kernel
theorem dX2_add_16 : decode cX2_add 16 = .ok (.return_, 1) := by decide +kernel
theorem dX2_add_17 : decode cX2_add 17 = .ok (.aload_n 0, 1) := by decide +kernel
theorem dX2_add_18 : decode cX2_add 18 = .ok (.getfield 9, 3) := by decide +kernel
theorem dX2_add_21 : decode cX2_add 21 = .ok (.aload_n 0, 1) := by decide +kernel
theorem dX2_add_22 : decode cX2_add 22 = .ok (.getfield 21, 3) := by decide +kernel
theorem dX2_add_25 : decode cX2_add 25 = .ok (.iload_n 1, 1) := by decide +kernel
theorem dX2_add_26 : decode cX2_add 26 = .ok (.iastore, 1) := by decide +kernel
theorem dX2_add_27 : decode cX2_add 27 = .ok (.aload_n 0, 1) := by decide +kernel
theorem dX2_add_28 : decode cX2_add 28 = .ok (.getfield 15, 3) := by decide +kernel
theorem dX2_add_31 : decode cX2_add 31 = .ok (.aload_n 0, 1) := by decide +kernel
theorem dX2_add_32 : decode cX2_add 32 = .ok (.getfield 21, 3) := by decide +kernel
theorem dX2_add_35 : decode cX2_add 35 = .ok (.iload_n 2, 1) := by decide +kernel
theorem dX2_add_36 : decode cX2_add 36 = .ok (.iastore, 1) := by decide +kernel
theorem dX2_add_37 : decode cX2_add 37 = .ok (.aload_n 0, 1) := by decide +kernel
theorem dX2_add_38 : decode cX2_add 38 = .ok (.getfield 18, 3) := by decide +kernel
theorem dX2_add_41 : decode cX2_add 41 = .ok (.aload_n 0, 1) := by decide +kernel
theorem dX2_add_42 : decode cX2_add 42 = .ok (.getfield 21, 3) := by decide +kernel
theorem dX2_add_45 : decode cX2_add 45 = .ok (.iload_n 3, 1) := by decide +kernel
theorem dX2_add_46 : decode cX2_add 46 = .ok (.iastore, 1) := by decide +kernel
theorem dX2_add_47 : decode cX2_add 47 = .ok (.aload_n 0, 1) := by decide +kernel
theorem dX2_add_48 : decode cX2_add 48 = .ok (.dup, 1) := by decide +kernel
theorem dX2_add_49 : decode cX2_add 49 = .ok (.getfield 21, 3) := by decide +kernel
theorem dX2_add_52 : decode cX2_add 52 = .ok (.iconst 1, 1) := by decide +kernel
theorem dX2_add_53 : decode cX2_add 53 = .ok (.iadd, 1) := by decide +kernel
theorem dX2_add_54 : decode cX2_add 54 = .ok (.putfield 21, 3) := by decide +kernel
theorem dX2_add_57 : decode cX2_add 57 = .ok (.return_, 1) := by decide +kernel
theorem dX2_ticksBefore_0 : decode cX2_ticksBefore 0 = .ok (.iload_n 1, 1) := by decide +kernel
theorem dX2_ticksBefore_1 : decode cX2_ticksBefore 1 = .ok (.ifCond .lt 21, 3) := by decide +kernel
theorem dX2_ticksBefore_4 : decode cX2_ticksBefore 4 = .ok (.iload_n 1, 1) := by decide +kernel
theorem dX2_ticksBefore_5 : decode cX2_ticksBefore 5 = .ok (.aload_n 0, 1) := by decide +kernel
theorem dX2_ticksBefore_6 : decode cX2_ticksBefore 6 = .ok (.getfield 21, 3) := by decide +kernel
theorem dX2_ticksBefore_9 : decode cX2_ticksBefore 9 = .ok (.if_icmp .ge 13, 3) := by decide +kernel
theorem dX2_ticksBefore_12 : decode cX2_ticksBefore 12 = .ok (.iload_n 3, 1) := by decide +kernel
theorem dX2_ticksBefore_13 : decode cX2_ticksBefore 13 = .ok (.aload_n 0, 1) := by decide +kernel
theorem dX2_ticksBefore_14 : decode cX2_ticksBefore 14 = .ok (.getfield 15, 3) := by decide +kernel
theorem dX2_ticksBefore_17 : decode cX2_ticksBefore 17 = .ok (.iload_n 1, 1) := by decide +kernel
theorem dX2_ticksBefore_18 : decode cX2_ticksBefore 18 = .ok (.iaload, 1) := by decide +kernel
theorem dX2_ticksBefore_19 : decode cX2_ticksBefore 19 = .ok (.if_icmp .le 6, 3) := by decide +kernel
theorem dX2_ticksBefore_22 : decode cX2_ticksBefore 22 = .ok (.ldc 29, 2) := by decide +kernel
theorem dX2_ticksBefore_24 : decode cX2_ticksBefore 24 = .ok (.ireturn, 1) := by decide +kernel
theorem dX2_ticksBefore_25 : decode cX2_ticksBefore 25 = .ok (.iload_n 3, 1) := by decide +kernel
theorem dX2_ticksBefore_26 : decode cX2_ticksBefore 26 = .ok (.iload_n 2, 1) := by decide +kernel
theorem dX2_ticksBefore_27 : decode cX2_ticksBefore 27 = .ok (.aload_n 0, 1) := by decide +kernel
theorem dX2_ticksBefore_28 : decode cX2_ticksBefore 28 = .ok (.getfield 9, 3) := by decide +kernel
theorem dX2_ticksBefore_31 : decode cX2_ticksBefore 31 = .ok (.iload_n 1, 1) := by decide +kernel
theorem dX2_ticksBefore_32 : decode cX2_ticksBefore 32 = .ok (.iaload, 1) := by decide +kernel
theorem dX2_ticksBefore_33 : decode cX2_ticksBefore 33 = .ok (.iadd, 1) := by decide +kernel
theorem dX2_ticksBefore_34 : decode cX2_ticksBefore 34 = .ok (.if_icmp .gt 5, 3) := by decide +kernel
theorem dX2_ticksBefore_37 : decode cX2_ticksBefore 37 = .ok (.iconst 0, 1) := by decide +kernel
theorem dX2_ticksBefore_38 : decode cX2_ticksBefore 38 = .ok (.ireturn, 1) := by decide +kernel
theorem dX2_ticksBefore_39 : decode cX2_ticksBefore 39 = .ok (.aload_n 0, 1) := by decide +kernel
theorem dX2_ticksBefore_40 : decode cX2_ticksBefore 40 = .ok (.getfield 9, 3) := by decide +kernel
theorem dX2_ticksBefore_43 : decode cX2_ticksBefore 43 = .ok (.iload_n 1, 1) := by decide +kernel
theorem dX2_ticksBefore_44 : decode cX2_ticksBefore 44 = .ok (.iaload, 1) := by decide +kernel
theorem dX2_ticksBefore_45 : decode cX2_ticksBefore 45 = .ok (.ifCond .le 18, 3) := by decide +kernel
theorem dX2_ticksBefore_48 : decode cX2_ticksBefore 48 = .ok (.iload_n 3, 1) := by decide +kernel
theorem dX2_ticksBefore_49 : decode cX2_ticksBefore 49 = .ok (.iload_n 2, 1) := by decide +kernel
theorem dX2_ticksBefore_50 : decode cX2_ticksBefore 50 = .ok (.isub, 1) := by decide +kernel
theorem dX2_ticksBefore_51 : decode cX2_ticksBefore 51 = .ok (.iconst 1, 1) := by decide +kernel
theorem dX2_ticksBefore_52 : decode cX2_ticksBefore 52 = .ok (.isub, 1) := by decide +kernel
theorem dX2_ticksBefore_53 : decode cX2_ticksBefore 53 = .ok (.aload_n 0, 1) := by decide +kernel
theorem dX2_ticksBefore_54 : decode cX2_ticksBefore 54 = .ok (.getfield 9, 3) := by decide +kernel
theorem dX2_ticksBefore_57 : decode cX2_ticksBefore 57 = .ok (.iload_n 1, 1) := by decide +kernel
theorem dX2_ticksBefore_58 : decode cX2_ticksBefore 58 = .ok (.iaload, 1) := by decide +kernel
theorem dX2_ticksBefore_59 : decode cX2_ticksBefore 59 = .ok (.idiv, 1) := by decide +kernel
theorem dX2_ticksBefore_60 : decode cX2_ticksBefore 60 = .ok (.goto 5, 3) := by decide +kernel
theorem dX2_ticksBefore_63 : decode cX2_ticksBefore 63 = .ok (.ldc 29, 2) := by decide +kernel
theorem dX2_ticksBefore_65 : decode cX2_ticksBefore 65 = .ok (.ireturn, 1) := by decide +kernel
theorem dX3_init_0 : decode cX3_init 0 = .ok (.aload_n 0, 1) := by decide +kernel
theorem dX3_init_1 : decode cX3_init 1 = .ok (.invokespecial 3, 3) := by decide +kernel
theorem dX3_init_4 : decode cX3_init 4 = .ok (.aload_n 0, 1) := by decide +kernel
theorem dX3_init_5 : decode cX3_init 5 = .ok (.bipush 8, 2) := by decide +kernel
theorem dX3_init_7 : decode cX3_init 7 = .ok (.anewarray 9, 3) := by decide +kernel
theorem dX3_init_10 : decode cX3_init 10 = .ok (.putfield 11, 3) := by decide +kernel
theorem dX3_init_13 : decode cX3_init 13 = .ok (.iconst 0, 1) := by decide +kernel
theorem dX3_init_14 : decode cX3_init 14 = .ok (.istore_n 1, 1) := by decide +kernel
theorem dX3_init_15 : decode cX3_init 15 = .ok (.iload_n 1, 1) := by decide +kernel
theorem dX3_init_16 : decode cX3_init 16 = .ok (.bipush 8, 2) := by decide +kernel
theorem dX3_init_18 : decode cX3_init 18 = .ok (.if_icmp .ge 22, 3) := by decide +kernel
theorem dX3_init_21 : decode cX3_init 21 = .ok (.aload_n 0, 1) := by decide +kernel
theorem dX3_init_22 : decode cX3_init 22 = .ok (.getfield 11, 3) := by decide +kernel
theorem dX3_init_25 : decode cX3_init 25 = .ok (.iload_n 1, 1) := by decide +kernel
theorem dX3_init_26 : decode cX3_init 26 = .ok (.new 9, 3) := by decide +kernel
theorem dX3_init_29 : decode cX3_init 29 = .ok (.dup, 1) := by decide +kernel
theorem dX3_init_30 : decode cX3_init 30 = .ok (.invokespecial 17, 3) := by decide +kernel
theorem dX3_init_33 : decode cX3_init 33 = .ok (.aastore, 1) := by decide +kernel
theorem dX3_init_34 : decode cX3_init 34 = .ok (.iinc 1 1, 3) := by decide +kernel
theorem dX3_init_37 : decode cX3_init 37 = .ok (.goto (-22), 3) := by decide +kernel
theorem dX3_init_40 : decode cX3_init 40 = .ok (.return_, 1) := by decide +kernel
theorem dX3_at_0 : decode cX3_at 0 = .ok (.iload_n 1, 1) := by decide +kernel
theorem dX3_at_1 : decode cX3_at 1 = .ok (.ifCond .lt 18, 3) := by decide +kernel
theorem dX3_at_4 : decode cX3_at 4 = .ok (.iload_n 1, 1) := by decide +kernel
theorem dX3_at_5 : decode cX3_at 5 = .ok (.bipush 8, 2) := by decide +kernel
theorem dX3_at_7 : decode cX3_at 7 = .ok (.if_icmp .ge 12, 3) := by decide +kernel
theorem dX3_at_10 : decode cX3_at 10 = .ok (.aload_n 0, 1) := by decide +kernel
theorem dX3_at_11 : decode cX3_at 11 = .ok (.getfield 11, 3) := by decide +kernel
theorem dX3_at_14 : decode cX3_at 14 = .ok (.iload_n 1, 1) := by decide +kernel
theorem dX3_at_15 : decode cX3_at 15 = .ok (.aaload, 1) := by decide +kernel
theorem dX3_at_16 : decode cX3_at 16 = .ok (.goto 4, 3) := by decide +kernel
theorem dX3_at_19 : decode cX3_at 19 = .ok (.aconst_null, 1) := by decide +kernel
theorem dX3_at_20 : decode cX3_at 20 = .ok (.areturn, 1) := by decide +kernel
theorem dX3_keep_0 : decode cX3_keep 0 = .ok (.aload_n 0, 1) := by decide +kernel
theorem dX3_keep_1 : decode cX3_keep 1 = .ok (.aload_n 0, 1) := by decide +kernel
theorem dX3_keep_2 : decode cX3_keep 2 = .ok (.getfield 18, 3) := by decide +kernel
theorem dX3_keep_5 : decode cX3_keep 5 = .ok (.invokevirtual 22, 3) := by decide +kernel
theorem dX3_keep_8 : decode cX3_keep 8 = .ok (.astore_n 2, 1) := by decide +kernel
theorem dX3_keep_9 : decode cX3_keep 9 = .ok (.aload_n 2, 1) := by decide +kernel
theorem dX3_keep_10 : decode cX3_keep 10 = .ok (.ifnonnull 4, 3) := by decide +kernel
theorem dX3_keep_13 : decode cX3_keep 13 = .ok (.return_, 1) := by decide +kernel
theorem dX3_keep_14 : decode cX3_keep 14 = .ok (.aload_n 2, 1) := by decide +kernel
theorem dX3_keep_15 : decode cX3_keep 15 = .ok (.aload_n 1, 1) := by decide +kernel
theorem dX3_keep_16 : decode cX3_keep 16 = .ok (.invokevirtual 26, 3) := by decide +kernel
theorem dX3_keep_19 : decode cX3_keep 19 = .ok (.aload_n 0, 1) := by decide +kernel
theorem dX3_keep_20 : decode cX3_keep 20 = .ok (.aload_n 0, 1) := by decide +kernel
theorem dX3_keep_21 : decode cX3_keep 21 = .ok (.getfield 18, 3) := by decide +kernel
theorem dX3_keep_24 : decode cX3_keep 24 = .ok (.iconst 1, 1) := by decide +kernel
theorem dX3_keep_25 : decode cX3_keep 25 = .ok (.iadd, 1) := by decide +kernel
theorem dX3_keep_26 : decode cX3_keep 26 = .ok (.bipush 8, 2) := by decide +kernel
theorem dX3_keep_28 : decode cX3_keep 28 = .ok (.irem, 1) := by decide +kernel
theorem dX3_keep_29 : decode cX3_keep 29 = .ok (.putfield 18, 3) := by decide +kernel
theorem dX3_keep_32 : decode cX3_keep 32 = .ok (.aload_n 0, 1) := by decide +kernel
theorem dX3_keep_33 : decode cX3_keep 33 = .ok (.bipush 8, 2) := by decide +kernel
theorem dX3_keep_35 : decode cX3_keep 35 = .ok (.aload_n 0, 1) := by decide +kernel
theorem dX3_keep_36 : decode cX3_keep 36 = .ok (.getfield 30, 3) := by decide +kernel
theorem dX3_keep_39 : decode cX3_keep 39 = .ok (.iconst 1, 1) := by decide +kernel
theorem dX3_keep_40 : decode cX3_keep 40 = .ok (.iadd, 1) := by decide +kernel
theorem dX3_keep_41 : decode cX3_keep 41 = .ok (.invokestatic 33, 3) := by decide +kernel
theorem dX3_keep_44 : decode cX3_keep 44 = .ok (.putfield 30, 3) := by decide +kernel
theorem dX3_keep_47 : decode cX3_keep 47 = .ok (.return_, 1) := by decide +kernel
theorem dX3_takeBack_0 : decode cX3_takeBack 0 = .ok (.aload_n 0, 1) := by decide +kernel
theorem dX3_takeBack_1 : decode cX3_takeBack 1 = .ok (.getfield 18, 3) := by decide +kernel
theorem dX3_takeBack_4 : decode cX3_takeBack 4 = .ok (.bipush 8, 2) := by decide +kernel
theorem dX3_takeBack_6 : decode cX3_takeBack 6 = .ok (.iadd, 1) := by decide +kernel
theorem dX3_takeBack_7 : decode cX3_takeBack 7 = .ok (.iconst 1, 1) := by decide +kernel
theorem dX3_takeBack_8 : decode cX3_takeBack 8 = .ok (.isub, 1) := by decide +kernel
theorem dX3_takeBack_9 : decode cX3_takeBack 9 = .ok (.bipush 8, 2) := by decide +kernel
theorem dX3_takeBack_11 : decode cX3_takeBack 11 = .ok (.irem, 1) := by decide +kernel
theorem dX3_takeBack_12 : decode cX3_takeBack 12 = .ok (.istore_n 2, 1) := by decide +kernel
theorem dX3_takeBack_13 : decode cX3_takeBack 13 = .ok (.aload_n 0, 1) := by decide +kernel
theorem dX3_takeBack_14 : decode cX3_takeBack 14 = .ok (.iload_n 2, 1) := by decide +kernel
theorem dX3_takeBack_15 : decode cX3_takeBack 15 = .ok (.invokevirtual 22, 3) := by decide +kernel
theorem dX3_takeBack_18 : decode cX3_takeBack 18 = .ok (.astore_n 3, 1) := by decide +kernel
theorem dX3_takeBack_19 : decode cX3_takeBack 19 = .ok (.aload_n 0, 1) := by decide +kernel
theorem dX3_takeBack_20 : decode cX3_takeBack 20 = .ok (.getfield 30, 3) := by decide +kernel
theorem dX3_takeBack_23 : decode cX3_takeBack 23 = .ok (.ifCond .le 7, 3) := by decide +kernel
theorem dX3_takeBack_26 : decode cX3_takeBack 26 = .ok (.aload_n 3, 1) := by decide +kernel
theorem dX3_takeBack_27 : decode cX3_takeBack 27 = .ok (.ifnonnull 5, 3) := by decide +kernel
theorem dX3_takeBack_30 : decode cX3_takeBack 30 = .ok (.iconst (-1), 1) := by decide +kernel
theorem dX3_takeBack_31 : decode cX3_takeBack 31 = .ok (.ireturn, 1) := by decide +kernel
theorem dX3_takeBack_32 : decode cX3_takeBack 32 = .ok (.aload_n 1, 1) := by decide +kernel
theorem dX3_takeBack_33 : decode cX3_takeBack 33 = .ok (.aload_n 3, 1) := by decide +kernel
theorem dX3_takeBack_34 : decode cX3_takeBack 34 = .ok (.invokevirtual 26, 3) := by decide +kernel
theorem dX3_takeBack_37 : decode cX3_takeBack 37 = .ok (.aload_n 0, 1) := by decide +kernel
theorem dX3_takeBack_38 : decode cX3_takeBack 38 = .ok (.iload_n 2, 1) := by decide +kernel
theorem dX3_takeBack_39 : decode cX3_takeBack 39 = .ok (.putfield 18, 3) := by decide +kernel
theorem dX3_takeBack_42 : decode cX3_takeBack 42 = .ok (.aload_n 0, 1) := by decide +kernel
theorem dX3_takeBack_43 : decode cX3_takeBack 43 = .ok (.dup, 1) := by decide +kernel
theorem dX3_takeBack_44 : decode cX3_takeBack 44 = .ok (.getfield 30, 3) := by decide +kernel
theorem dX3_takeBack_47 : decode cX3_takeBack 47 = .ok (.iconst 1, 1) := by decide +kernel
theorem dX3_takeBack_48 : decode cX3_takeBack 48 = .ok (.isub, 1) := by decide +kernel
theorem dX3_takeBack_49 : decode cX3_takeBack 49 = .ok (.putfield 30, 3) := by decide +kernel
theorem dX3_takeBack_52 : decode cX3_takeBack 52 = .ok (.aload_n 0, 1) := by decide +kernel
theorem dX3_takeBack_53 : decode cX3_takeBack 53 = .ok (.getfield 30, 3) := by decide +kernel
theorem dX3_takeBack_56 : decode cX3_takeBack 56 = .ok (.ireturn, 1) := by decide +kernel
theorem dX4_init_0 : decode cX4_init 0 = .ok (.aload_n 0, 1) := by decide +kernel
theorem dX4_init_1 : decode cX4_init 1 = .ok (.invokespecial 3, 3) := by decide +kernel
theorem dX4_init_4 : decode cX4_init 4 = .ok (.aload_n 0, 1) := by decide +kernel
theorem dX4_init_5 : decode cX4_init 5 = .ok (.bipush 36, 2) := by decide +kernel
theorem dX4_init_7 : decode cX4_init 7 = .ok (.newarray .int, 2) := by decide +kernel
theorem dX4_init_9 : decode cX4_init 9 = .ok (.putfield 11, 3) := by decide +kernel
theorem dX4_init_12 : decode cX4_init 12 = .ok (.aload_n 0, 1) := by decide +kernel
theorem dX4_init_13 : decode cX4_init 13 = .ok (.bipush 36, 2) := by decide +kernel
theorem dX4_init_15 : decode cX4_init 15 = .ok (.newarray .int, 2) := by decide +kernel
theorem dX4_init_17 : decode cX4_init 17 = .ok (.putfield 15, 3) := by decide +kernel
theorem dX4_init_20 : decode cX4_init 20 = .ok (.aload_n 0, 1) := by decide +kernel
theorem dX4_init_21 : decode cX4_init 21 = .ok (.bipush 36, 2) := by decide +kernel
theorem dX4_init_23 : decode cX4_init 23 = .ok (.newarray .int, 2) := by decide +kernel
theorem dX4_init_25 : decode cX4_init 25 = .ok (.putfield 18, 3) := by decide +kernel
theorem dX4_init_28 : decode cX4_init 28 = .ok (.aload_n 0, 1) := by decide +kernel
theorem dX4_init_29 : decode cX4_init 29 = .ok (.bipush 36, 2) := by decide +kernel
theorem dX4_init_31 : decode cX4_init 31 = .ok (.newarray .int, 2) := by decide +kernel
theorem dX4_init_33 : decode cX4_init 33 = .ok (.putfield 21, 3) := by decide +kernel
theorem dX4_init_36 : decode cX4_init 36 = .ok (.aload_n 0, 1) := by decide +kernel
theorem dX4_init_37 : decode cX4_init 37 = .ok (.bipush 40, 2) := by decide +kernel
theorem dX4_init_39 : decode cX4_init 39 = .ok (.newarray .int, 2) := by decide +kernel
theorem dX4_init_41 : decode cX4_init 41 = .ok (.putfield 24, 3) := by decide +kernel
theorem dX4_init_44 : decode cX4_init 44 = .ok (.return_, 1) := by decide +kernel
theorem dX4_copyFrom_0 : decode cX4_copyFrom 0 = .ok (.aload_n 1, 1) := by decide +kernel
theorem dX4_copyFrom_1 : decode cX4_copyFrom 1 = .ok (.getfield 11, 3) := by decide +kernel
theorem dX4_copyFrom_4 : decode cX4_copyFrom 4 = .ok (.aload_n 0, 1) := by decide +kernel
theorem dX4_copyFrom_5 : decode cX4_copyFrom 5 = .ok (.getfield 11, 3) := by decide +kernel
theorem dX4_copyFrom_8 : decode cX4_copyFrom 8 = .ok (.bipush 36, 2) := by decide +kernel
theorem dX4_copyFrom_10 : decode cX4_copyFrom 10 = .ok (.invokestatic 27, 3) := by decide +kernel
theorem dX4_copyFrom_13 : decode cX4_copyFrom 13 = .ok (.aload_n 1, 1) := by decide +kernel
theorem dX4_copyFrom_14 : decode cX4_copyFrom 14 = .ok (.getfield 15, 3) := by decide +kernel
theorem dX4_copyFrom_17 : decode cX4_copyFrom 17 = .ok (.aload_n 0, 1) := by decide +kernel
theorem dX4_copyFrom_18 : decode cX4_copyFrom 18 = .ok (.getfield 15, 3) := by decide +kernel
theorem dX4_copyFrom_21 : decode cX4_copyFrom 21 = .ok (.bipush 36, 2) := by decide +kernel
theorem dX4_copyFrom_23 : decode cX4_copyFrom 23 = .ok (.invokestatic 27, 3) := by decide +kernel
theorem dX4_copyFrom_26 : decode cX4_copyFrom 26 = .ok (.aload_n 1, 1) := by decide +kernel
theorem dX4_copyFrom_27 : decode cX4_copyFrom 27 = .ok (.getfield 18, 3) := by decide +kernel
theorem dX4_copyFrom_30 : decode cX4_copyFrom 30 = .ok (.aload_n 0, 1) := by decide +kernel
theorem dX4_copyFrom_31 : decode cX4_copyFrom 31 = .ok (.getfield 18, 3) := by decide +kernel
theorem dX4_copyFrom_34 : decode cX4_copyFrom 34 = .ok (.bipush 36, 2) := by decide +kernel
theorem dX4_copyFrom_36 : decode cX4_copyFrom 36 = .ok (.invokestatic 27, 3) := by decide +kernel
theorem dX4_copyFrom_39 : decode cX4_copyFrom 39 = .ok (.aload_n 1, 1) := by decide +kernel
theorem dX4_copyFrom_40 : decode cX4_copyFrom 40 = .ok (.getfield 21, 3) := by decide +kernel
theorem dX4_copyFrom_43 : decode cX4_copyFrom 43 = .ok (.aload_n 0, 1) := by decide +kernel
theorem dX4_copyFrom_44 : decode cX4_copyFrom 44 = .ok (.getfield 21, 3) := by decide +kernel
theorem dX4_copyFrom_47 : decode cX4_copyFrom 47 = .ok (.bipush 36, 2) := by decide +kernel
theorem dX4_copyFrom_49 : decode cX4_copyFrom 49 = .ok (.invokestatic 27, 3) := by decide +kernel
theorem dX4_copyFrom_52 : decode cX4_copyFrom 52 = .ok (.aload_n 1, 1) := by decide +kernel
theorem dX4_copyFrom_53 : decode cX4_copyFrom 53 = .ok (.getfield 24, 3) := by decide +kernel
theorem dX4_copyFrom_56 : decode cX4_copyFrom 56 = .ok (.aload_n 0, 1) := by decide +kernel
theorem dX4_copyFrom_57 : decode cX4_copyFrom 57 = .ok (.getfield 24, 3) := by decide +kernel
theorem dX4_copyFrom_60 : decode cX4_copyFrom 60 = .ok (.bipush 40, 2) := by decide +kernel
theorem dX4_copyFrom_62 : decode cX4_copyFrom 62 = .ok (.invokestatic 27, 3) := by decide +kernel
theorem dX4_copyFrom_65 : decode cX4_copyFrom 65 = .ok (.return_, 1) := by decide +kernel
theorem dX4_clear_0 : decode cX4_clear 0 = .ok (.iload_n 1, 1) := by decide +kernel
theorem dX4_clear_1 : decode cX4_clear 1 = .ok (.ifCond .lt 37, 3) := by decide +kernel
theorem dX4_clear_4 : decode cX4_clear 4 = .ok (.iload_n 1, 1) := by decide +kernel
theorem dX4_clear_5 : decode cX4_clear 5 = .ok (.bipush 36, 2) := by decide +kernel
theorem dX4_clear_7 : decode cX4_clear 7 = .ok (.if_icmp .ge 31, 3) := by decide +kernel
theorem dX4_clear_10 : decode cX4_clear 10 = .ok (.aload_n 0, 1) := by decide +kernel
theorem dX4_clear_11 : decode cX4_clear 11 = .ok (.getfield 11, 3) := by decide +kernel
theorem dX4_clear_14 : decode cX4_clear 14 = .ok (.iload_n 1, 1) := by decide +kernel
theorem dX4_clear_15 : decode cX4_clear 15 = .ok (.iload_n 2, 1) := by decide +kernel
theorem dX4_clear_16 : decode cX4_clear 16 = .ok (.iastore, 1) := by decide +kernel
theorem dX4_clear_17 : decode cX4_clear 17 = .ok (.aload_n 0, 1) := by decide +kernel
theorem dX4_clear_18 : decode cX4_clear 18 = .ok (.getfield 15, 3) := by decide +kernel
theorem dX4_clear_21 : decode cX4_clear 21 = .ok (.iload_n 1, 1) := by decide +kernel
theorem dX4_clear_22 : decode cX4_clear 22 = .ok (.iconst 0, 1) := by decide +kernel
theorem dX4_clear_23 : decode cX4_clear 23 = .ok (.iastore, 1) := by decide +kernel
theorem dX4_clear_24 : decode cX4_clear 24 = .ok (.aload_n 0, 1) := by decide +kernel
theorem dX4_clear_25 : decode cX4_clear 25 = .ok (.getfield 18, 3) := by decide +kernel
theorem dX4_clear_28 : decode cX4_clear 28 = .ok (.iload_n 1, 1) := by decide +kernel
theorem dX4_clear_29 : decode cX4_clear 29 = .ok (.iconst (-1), 1) := by decide +kernel
theorem dX4_clear_30 : decode cX4_clear 30 = .ok (.iastore, 1) := by decide +kernel
theorem dX4_clear_31 : decode cX4_clear 31 = .ok (.aload_n 0, 1) := by decide +kernel
theorem dX4_clear_32 : decode cX4_clear 32 = .ok (.getfield 21, 3) := by decide +kernel
theorem dX4_clear_35 : decode cX4_clear 35 = .ok (.iload_n 1, 1) := by decide +kernel
theorem dX4_clear_36 : decode cX4_clear 36 = .ok (.iconst (-1), 1) := by decide +kernel
theorem dX4_clear_37 : decode cX4_clear 37 = .ok (.iastore, 1) := by decide +kernel
theorem dX4_clear_38 : decode cX4_clear 38 = .ok (.return_, 1) := by decide +kernel
theorem dX4_firstIn_0 : decode cX4_firstIn 0 = .ok (.iload_n 1, 1) := by decide +kernel
theorem dX4_firstIn_1 : decode cX4_firstIn 1 = .ok (.ifCond .lt 18, 3) := by decide +kernel
theorem dX4_firstIn_4 : decode cX4_firstIn 4 = .ok (.iload_n 1, 1) := by decide +kernel
theorem dX4_firstIn_5 : decode cX4_firstIn 5 = .ok (.bipush 36, 2) := by decide +kernel
theorem dX4_firstIn_7 : decode cX4_firstIn 7 = .ok (.if_icmp .ge 12, 3) := by decide +kernel
theorem dX4_firstIn_10 : decode cX4_firstIn 10 = .ok (.aload_n 0, 1) := by decide +kernel
theorem dX4_firstIn_11 : decode cX4_firstIn 11 = .ok (.getfield 15, 3) := by decide +kernel
theorem dX4_firstIn_14 : decode cX4_firstIn 14 = .ok (.iload_n 1, 1) := by decide +kernel
theorem dX4_firstIn_15 : decode cX4_firstIn 15 = .ok (.iaload, 1) := by decide +kernel
theorem dX4_firstIn_16 : decode cX4_firstIn 16 = .ok (.ifCond .gt 5, 3) := by decide +kernel
theorem dX4_firstIn_19 : decode cX4_firstIn 19 = .ok (.iconst (-1), 1) := by decide +kernel
theorem dX4_firstIn_20 : decode cX4_firstIn 20 = .ok (.ireturn, 1) := by decide +kernel
theorem dX4_firstIn_21 : decode cX4_firstIn 21 = .ok (.aload_n 0, 1) := by decide +kernel
theorem dX4_firstIn_22 : decode cX4_firstIn 22 = .ok (.getfield 18, 3) := by decide +kernel
theorem dX4_firstIn_25 : decode cX4_firstIn 25 = .ok (.iload_n 1, 1) := by decide +kernel
theorem dX4_firstIn_26 : decode cX4_firstIn 26 = .ok (.iaload, 1) := by decide +kernel
theorem dX4_firstIn_27 : decode cX4_firstIn 27 = .ok (.istore_n 2, 1) := by decide +kernel
theorem dX4_firstIn_28 : decode cX4_firstIn 28 = .ok (.iload_n 2, 1) := by decide +kernel
theorem dX4_firstIn_29 : decode cX4_firstIn 29 = .ok (.ifCond .lt 13, 3) := by decide +kernel
theorem dX4_firstIn_32 : decode cX4_firstIn 32 = .ok (.iload_n 2, 1) := by decide +kernel
theorem dX4_firstIn_33 : decode cX4_firstIn 33 = .ok (.bipush 40, 2) := by decide +kernel
theorem dX4_firstIn_35 : decode cX4_firstIn 35 = .ok (.if_icmp .ge 7, 3) := by decide +kernel
theorem dX4_firstIn_38 : decode cX4_firstIn 38 = .ok (.iload_n 2, 1) := by decide +kernel
theorem dX4_firstIn_39 : decode cX4_firstIn 39 = .ok (.goto 4, 3) := by decide +kernel
theorem dX4_firstIn_42 : decode cX4_firstIn 42 = .ok (.iconst (-1), 1) := by decide +kernel
theorem dX4_firstIn_43 : decode cX4_firstIn 43 = .ok (.ireturn, 1) := by decide +kernel
theorem dX4_join_0 : decode cX4_join 0 = .ok (.iload_n 1, 1) := by decide +kernel
theorem dX4_join_1 : decode cX4_join 1 = .ok (.ifCond .lt 19, 3) := by decide +kernel
theorem dX4_join_4 : decode cX4_join 4 = .ok (.iload_n 1, 1) := by decide +kernel
theorem dX4_join_5 : decode cX4_join 5 = .ok (.bipush 36, 2) := by decide +kernel
theorem dX4_join_7 : decode cX4_join 7 = .ok (.if_icmp .ge 13, 3) := by decide +kernel
theorem dX4_join_10 : decode cX4_join 10 = .ok (.iload_n 2, 1) := by decide +kernel
theorem dX4_join_11 : decode cX4_join 11 = .ok (.ifCond .lt 9, 3) := by decide +kernel
theorem dX4_join_14 : decode cX4_join 14 = .ok (.iload_n 2, 1) := by decide +kernel
theorem dX4_join_15 : decode cX4_join 15 = .ok (.bipush 40, 2) := by decide +kernel
theorem dX4_join_17 : decode cX4_join 17 = .ok (.if_icmp .lt 4, 3) := by decide +kernel
theorem dX4_join_20 : decode cX4_join 20 = .ok (.return_, 1) := by decide +kernel
theorem dX4_join_21 : decode cX4_join 21 = .ok (.aload_n 0, 1) := by decide +kernel
theorem dX4_join_22 : decode cX4_join 22 = .ok (.getfield 21, 3) := by decide +kernel
theorem dX4_join_25 : decode cX4_join 25 = .ok (.iload_n 1, 1) := by decide +kernel
theorem dX4_join_26 : decode cX4_join 26 = .ok (.iaload, 1) := by decide +kernel
theorem dX4_join_27 : decode cX4_join 27 = .ok (.istore_n 3, 1) := by decide +kernel
theorem dX4_join_28 : decode cX4_join 28 = .ok (.aload_n 0, 1) := by decide +kernel
theorem dX4_join_29 : decode cX4_join 29 = .ok (.getfield 15, 3) := by decide +kernel
theorem dX4_join_32 : decode cX4_join 32 = .ok (.iload_n 1, 1) := by decide +kernel
theorem dX4_join_33 : decode cX4_join 33 = .ok (.iaload, 1) := by decide +kernel
theorem dX4_join_34 : decode cX4_join 34 = .ok (.ifCond .le 23, 3) := by decide +kernel
theorem dX4_join_37 : decode cX4_join 37 = .ok (.iload_n 3, 1) := by decide +kernel
theorem dX4_join_38 : decode cX4_join 38 = .ok (.ifCond .lt 19, 3) := by decide +kernel
theorem dX4_join_41 : decode cX4_join 41 = .ok (.iload_n 3, 1) := by decide +kernel
theorem dX4_join_42 : decode cX4_join 42 = .ok (.bipush 40, 2) := by decide +kernel
theorem dX4_join_44 : decode cX4_join 44 = .ok (.if_icmp .ge 13, 3) := by decide +kernel
theorem dX4_join_47 : decode cX4_join 47 = .ok (.aload_n 0, 1) := by decide +kernel
theorem dX4_join_48 : decode cX4_join 48 = .ok (.getfield 24, 3) := by decide +kernel
theorem dX4_join_51 : decode cX4_join 51 = .ok (.iload_n 3, 1) := by decide +kernel
theorem dX4_join_52 : decode cX4_join 52 = .ok (.iload_n 2, 1) := by decide +kernel
theorem dX4_join_53 : decode cX4_join 53 = .ok (.iastore, 1) := by decide +kernel
theorem dX4_join_54 : decode cX4_join 54 = .ok (.goto 10, 3) := by decide +kernel
theorem dX4_join_57 : decode cX4_join 57 = .ok (.aload_n 0, 1) := by decide +kernel
theorem dX4_join_58 : decode cX4_join 58 = .ok (.getfield 18, 3) := by decide +kernel
theorem dX4_join_61 : decode cX4_join 61 = .ok (.iload_n 1, 1) := by decide +kernel
theorem dX4_join_62 : decode cX4_join 62 = .ok (.iload_n 2, 1) := by decide +kernel
theorem dX4_join_63 : decode cX4_join 63 = .ok (.iastore, 1) := by decide +kernel
theorem dX4_join_64 : decode cX4_join 64 = .ok (.aload_n 0, 1) := by decide +kernel
theorem dX4_join_65 : decode cX4_join 65 = .ok (.getfield 21, 3) := by decide +kernel
theorem dX4_join_68 : decode cX4_join 68 = .ok (.iload_n 1, 1) := by decide +kernel
theorem dX4_join_69 : decode cX4_join 69 = .ok (.iload_n 2, 1) := by decide +kernel
theorem dX4_join_70 : decode cX4_join 70 = .ok (.iastore, 1) := by decide +kernel
theorem dX4_join_71 : decode cX4_join 71 = .ok (.aload_n 0, 1) := by decide +kernel
theorem dX4_join_72 : decode cX4_join 72 = .ok (.getfield 24, 3) := by decide +kernel
theorem dX4_join_75 : decode cX4_join 75 = .ok (.iload_n 2, 1) := by decide +kernel
theorem dX4_join_76 : decode cX4_join 76 = .ok (.iconst (-1), 1) := by decide +kernel
theorem dX4_join_77 : decode cX4_join 77 = .ok (.iastore, 1) := by decide +kernel
theorem dX4_join_78 : decode cX4_join 78 = .ok (.aload_n 0, 1) := by decide +kernel
theorem dX4_join_79 : decode cX4_join 79 = .ok (.getfield 15, 3) := by decide +kernel
theorem dX4_join_82 : decode cX4_join 82 = .ok (.iload_n 1, 1) := by decide +kernel
theorem dX4_join_83 : decode cX4_join 83 = .ok (.dup2, 1) := by decide +kernel
theorem dX4_join_84 : decode cX4_join 84 = .ok (.iaload, 1) := by decide +kernel
theorem dX4_join_85 : decode cX4_join 85 = .ok (.iconst 1, 1) := by decide +kernel
theorem dX4_join_86 : decode cX4_join 86 = .ok (.iadd, 1) := by decide +kernel
theorem dX4_join_87 : decode cX4_join 87 = .ok (.iastore, 1) := by decide +kernel
theorem dX4_join_88 : decode cX4_join 88 = .ok (.return_, 1) := by decide +kernel
theorem dX4_leave_0 : decode cX4_leave 0 = .ok (.aload_n 0, 1) := by decide +kernel
theorem dX4_leave_1 : decode cX4_leave 1 = .ok (.iload_n 1, 1) := by decide +kernel
theorem dX4_leave_2 : decode cX4_leave 2 = .ok (.invokevirtual 31, 3) := by decide +kernel
theorem dX4_leave_5 : decode cX4_leave 5 = .ok (.istore_n 2, 1) := by decide +kernel
theorem dX4_leave_6 : decode cX4_leave 6 = .ok (.iload_n 2, 1) := by decide +kernel
theorem dX4_leave_7 : decode cX4_leave 7 = .ok (.ifCond .lt 25, 3) := by decide +kernel
theorem dX4_leave_10 : decode cX4_leave 10 = .ok (.aload_n 0, 1) := by decide +kernel
theorem dX4_leave_11 : decode cX4_leave 11 = .ok (.getfield 18, 3) := by decide +kernel
theorem dX4_leave_14 : decode cX4_leave 14 = .ok (.iload_n 1, 1) := by decide +kernel
theorem dX4_leave_15 : decode cX4_leave 15 = .ok (.aload_n 0, 1) := by decide +kernel
theorem dX4_leave_16 : decode cX4_leave 16 = .ok (.getfield 24, 3) := by decide +kernel
theorem dX4_leave_19 : decode cX4_leave 19 = .ok (.iload_n 2, 1) := by decide +kernel
theorem dX4_leave_20 : decode cX4_leave 20 = .ok (.iaload, 1) := by decide +kernel
theorem dX4_leave_21 : decode cX4_leave 21 = .ok (.iastore, 1) := by decide +kernel
theorem dX4_leave_22 : decode cX4_leave 22 = .ok (.aload_n 0, 1) := by decide +kernel
theorem dX4_leave_23 : decode cX4_leave 23 = .ok (.getfield 15, 3) := by decide +kernel
theorem dX4_leave_26 : decode cX4_leave 26 = .ok (.iload_n 1, 1) := by decide +kernel
theorem dX4_leave_27 : decode cX4_leave 27 = .ok (.dup2, 1) := by decide +kernel
theorem dX4_leave_28 : decode cX4_leave 28 = .ok (.iaload, 1) := by decide +kernel
theorem dX4_leave_29 : decode cX4_leave 29 = .ok (.iconst 1, 1) := by decide +kernel
theorem dX4_leave_30 : decode cX4_leave 30 = .ok (.isub, 1) := by decide +kernel
theorem dX4_leave_31 : decode cX4_leave 31 = .ok (.iastore, 1) := by decide +kernel
theorem dX4_leave_32 : decode cX4_leave 32 = .ok (.return_, 1) := by decide +kernel
theorem dX5_init_0 : decode cX5_init 0 = .ok (.aload_n 0, 1) := by decide +kernel
theorem dX5_init_1 : decode cX5_init 1 = .ok (.invokespecial 3, 3) := by decide +kernel
theorem dX5_init_4 : decode cX5_init 4 = .ok (.aload_n 0, 1) := by decide +kernel
theorem dX5_init_5 : decode cX5_init 5 = .ok (.bipush 40, 2) := by decide +kernel
theorem dX5_init_7 : decode cX5_init 7 = .ok (.newarray .int, 2) := by decide +kernel
theorem dX5_init_9 : decode cX5_init 9 = .ok (.putfield 9, 3) := by decide +kernel
theorem dX5_init_12 : decode cX5_init 12 = .ok (.aload_n 0, 1) := by decide +kernel
theorem dX5_init_13 : decode cX5_init 13 = .ok (.bipush 40, 2) := by decide +kernel
theorem dX5_init_15 : decode cX5_init 15 = .ok (.newarray .int, 2) := by decide +kernel
theorem dX5_init_17 : decode cX5_init 17 = .ok (.putfield 15, 3) := by decide +kernel
theorem dX5_init_20 : decode cX5_init 20 = .ok (.aload_n 0, 1) := by decide +kernel
theorem dX5_init_21 : decode cX5_init 21 = .ok (.bipush 40, 2) := by decide +kernel
theorem dX5_init_23 : decode cX5_init 23 = .ok (.newarray .int, 2) := by decide +kernel
theorem dX5_init_25 : decode cX5_init 25 = .ok (.putfield 18, 3) := by decide +kernel
theorem dX5_init_28 : decode cX5_init 28 = .ok (.aload_n 0, 1) := by decide +kernel
theorem dX5_init_29 : decode cX5_init 29 = .ok (.bipush 40, 2) := by decide +kernel
theorem dX5_init_31 : decode cX5_init 31 = .ok (.newarray .int, 2) := by decide +kernel
theorem dX5_init_33 : decode cX5_init 33 = .ok (.putfield 21, 3) := by decide +kernel
theorem dX5_init_36 : decode cX5_init 36 = .ok (.aload_n 0, 1) := by decide +kernel
theorem dX5_init_37 : decode cX5_init 37 = .ok (.bipush 40, 2) := by decide +kernel
theorem dX5_init_39 : decode cX5_init 39 = .ok (.newarray .int, 2) := by decide +kernel
theorem dX5_init_41 : decode cX5_init 41 = .ok (.putfield 24, 3) := by decide +kernel
theorem dX5_init_44 : decode cX5_init 44 = .ok (.aload_n 0, 1) := by decide +kernel
theorem dX5_init_45 : decode cX5_init 45 = .ok (.bipush 40, 2) := by decide +kernel
theorem dX5_init_47 : decode cX5_init 47 = .ok (.newarray .int, 2) := by decide +kernel
theorem dX5_init_49 : decode cX5_init 49 = .ok (.putfield 27, 3) := by decide +kernel
theorem dX5_init_52 : decode cX5_init 52 = .ok (.aload_n 0, 1) := by decide +kernel
theorem dX5_init_53 : decode cX5_init 53 = .ok (.bipush 40, 2) := by decide +kernel
theorem dX5_init_55 : decode cX5_init 55 = .ok (.newarray .int, 2) := by decide +kernel
theorem dX5_init_57 : decode cX5_init 57 = .ok (.putfield 30, 3) := by decide +kernel
theorem dX5_init_60 : decode cX5_init 60 = .ok (.aload_n 0, 1) := by decide +kernel
theorem dX5_init_61 : decode cX5_init 61 = .ok (.bipush 40, 2) := by decide +kernel
theorem dX5_init_63 : decode cX5_init 63 = .ok (.newarray .int, 2) := by decide +kernel
theorem dX5_init_65 : decode cX5_init 65 = .ok (.putfield 33, 3) := by decide +kernel
theorem dX5_init_68 : decode cX5_init 68 = .ok (.return_, 1) := by decide +kernel
theorem dX5_copyFrom_0 : decode cX5_copyFrom 0 = .ok (.aload_n 0, 1) := by decide +kernel
theorem dX5_copyFrom_1 : decode cX5_copyFrom 1 = .ok (.aload_n 1, 1) := by decide +kernel
theorem dX5_copyFrom_2 : decode cX5_copyFrom 2 = .ok (.getfield 36, 3) := by decide +kernel
theorem dX5_copyFrom_5 : decode cX5_copyFrom 5 = .ok (.putfield 36, 3) := by decide +kernel
theorem dX5_copyFrom_8 : decode cX5_copyFrom 8 = .ok (.aload_n 1, 1) := by decide +kernel
theorem dX5_copyFrom_9 : decode cX5_copyFrom 9 = .ok (.getfield 9, 3) := by decide +kernel
theorem dX5_copyFrom_12 : decode cX5_copyFrom 12 = .ok (.aload_n 0, 1) := by decide +kernel
theorem dX5_copyFrom_13 : decode cX5_copyFrom 13 = .ok (.getfield 9, 3) := by decide +kernel
theorem dX5_copyFrom_16 : decode cX5_copyFrom 16 = .ok (.aload_n 0, 1) := by decide +kernel
theorem dX5_copyFrom_17 : decode cX5_copyFrom 17 = .ok (.getfield 36, 3) := by decide +kernel
theorem dX5_copyFrom_20 : decode cX5_copyFrom 20 = .ok (.invokestatic 40, 3) := by decide +kernel
theorem dX5_copyFrom_23 : decode cX5_copyFrom 23 = .ok (.aload_n 1, 1) := by decide +kernel
theorem dX5_copyFrom_24 : decode cX5_copyFrom 24 = .ok (.getfield 15, 3) := by decide +kernel
theorem dX5_copyFrom_27 : decode cX5_copyFrom 27 = .ok (.aload_n 0, 1) := by decide +kernel
theorem dX5_copyFrom_28 : decode cX5_copyFrom 28 = .ok (.getfield 15, 3) := by decide +kernel
theorem dX5_copyFrom_31 : decode cX5_copyFrom 31 = .ok (.aload_n 0, 1) := by decide +kernel
theorem dX5_copyFrom_32 : decode cX5_copyFrom 32 = .ok (.getfield 36, 3) := by decide +kernel
theorem dX5_copyFrom_35 : decode cX5_copyFrom 35 = .ok (.invokestatic 40, 3) := by decide +kernel
theorem dX5_copyFrom_38 : decode cX5_copyFrom 38 = .ok (.aload_n 1, 1) := by decide +kernel
theorem dX5_copyFrom_39 : decode cX5_copyFrom 39 = .ok (.getfield 18, 3) := by decide +kernel
theorem dX5_copyFrom_42 : decode cX5_copyFrom 42 = .ok (.aload_n 0, 1) := by decide +kernel
theorem dX5_copyFrom_43 : decode cX5_copyFrom 43 = .ok (.getfield 18, 3) := by decide +kernel
theorem dX5_copyFrom_46 : decode cX5_copyFrom 46 = .ok (.aload_n 0, 1) := by decide +kernel
theorem dX5_copyFrom_47 : decode cX5_copyFrom 47 = .ok (.getfield 36, 3) := by decide +kernel
theorem dX5_copyFrom_50 : decode cX5_copyFrom 50 = .ok (.invokestatic 40, 3) := by decide +kernel
theorem dX5_copyFrom_53 : decode cX5_copyFrom 53 = .ok (.aload_n 1, 1) := by decide +kernel
theorem dX5_copyFrom_54 : decode cX5_copyFrom 54 = .ok (.getfield 21, 3) := by decide +kernel
theorem dX5_copyFrom_57 : decode cX5_copyFrom 57 = .ok (.aload_n 0, 1) := by decide +kernel
theorem dX5_copyFrom_58 : decode cX5_copyFrom 58 = .ok (.getfield 21, 3) := by decide +kernel
theorem dX5_copyFrom_61 : decode cX5_copyFrom 61 = .ok (.aload_n 0, 1) := by decide +kernel
theorem dX5_copyFrom_62 : decode cX5_copyFrom 62 = .ok (.getfield 36, 3) := by decide +kernel
theorem dX5_copyFrom_65 : decode cX5_copyFrom 65 = .ok (.invokestatic 40, 3) := by decide +kernel
theorem dX5_copyFrom_68 : decode cX5_copyFrom 68 = .ok (.aload_n 1, 1) := by decide +kernel
theorem dX5_copyFrom_69 : decode cX5_copyFrom 69 = .ok (.getfield 24, 3) := by decide +kernel
theorem dX5_copyFrom_72 : decode cX5_copyFrom 72 = .ok (.aload_n 0, 1) := by decide +kernel
theorem dX5_copyFrom_73 : decode cX5_copyFrom 73 = .ok (.getfield 24, 3) := by decide +kernel
theorem dX5_copyFrom_76 : decode cX5_copyFrom 76 = .ok (.aload_n 0, 1) := by decide +kernel
theorem dX5_copyFrom_77 : decode cX5_copyFrom 77 = .ok (.getfield 36, 3) := by decide +kernel
theorem dX5_copyFrom_80 : decode cX5_copyFrom 80 = .ok (.invokestatic 40, 3) := by decide +kernel
theorem dX5_copyFrom_83 : decode cX5_copyFrom 83 = .ok (.aload_n 1, 1) := by decide +kernel
theorem dX5_copyFrom_84 : decode cX5_copyFrom 84 = .ok (.getfield 27, 3) := by decide +kernel
theorem dX5_copyFrom_87 : decode cX5_copyFrom 87 = .ok (.aload_n 0, 1) := by decide +kernel
theorem dX5_copyFrom_88 : decode cX5_copyFrom 88 = .ok (.getfield 27, 3) := by decide +kernel
theorem dX5_copyFrom_91 : decode cX5_copyFrom 91 = .ok (.aload_n 0, 1) := by decide +kernel
theorem dX5_copyFrom_92 : decode cX5_copyFrom 92 = .ok (.getfield 36, 3) := by decide +kernel
theorem dX5_copyFrom_95 : decode cX5_copyFrom 95 = .ok (.invokestatic 40, 3) := by decide +kernel
theorem dX5_copyFrom_98 : decode cX5_copyFrom 98 = .ok (.aload_n 1, 1) := by decide +kernel
theorem dX5_copyFrom_99 : decode cX5_copyFrom 99 = .ok (.getfield 30, 3) := by decide +kernel
theorem dX5_copyFrom_102 : decode cX5_copyFrom 102 = .ok (.aload_n 0, 1) := by decide +kernel
theorem dX5_copyFrom_103 : decode cX5_copyFrom 103 = .ok (.getfield 30, 3) := by decide +kernel
theorem dX5_copyFrom_106 : decode cX5_copyFrom 106 = .ok (.aload_n 0, 1) := by decide +kernel
theorem dX5_copyFrom_107 : decode cX5_copyFrom 107 = .ok (.getfield 36, 3) := by decide +kernel
theorem dX5_copyFrom_110 : decode cX5_copyFrom 110 = .ok (.invokestatic 40, 3) := by decide +kernel
theorem dX5_copyFrom_113 : decode cX5_copyFrom 113 = .ok (.aload_n 1, 1) := by decide +kernel
theorem dX5_copyFrom_114 : decode cX5_copyFrom 114 = .ok (.getfield 33, 3) := by decide +kernel
theorem dX5_copyFrom_117 : decode cX5_copyFrom 117 = .ok (.aload_n 0, 1) := by decide +kernel
theorem dX5_copyFrom_118 : decode cX5_copyFrom 118 = .ok (.getfield 33, 3) := by decide +kernel
theorem dX5_copyFrom_121 : decode cX5_copyFrom 121 = .ok (.aload_n 0, 1) := by decide +kernel
theorem dX5_copyFrom_122 : decode cX5_copyFrom 122 = .ok (.getfield 36, 3) := by decide +kernel
theorem dX5_copyFrom_125 : decode cX5_copyFrom 125 = .ok (.invokestatic 40, 3) := by decide +kernel
theorem dX5_copyFrom_128 : decode cX5_copyFrom 128 = .ok (.return_, 1) := by decide +kernel
theorem dX5_add_0 : decode cX5_add 0 = .ok (.aload_n 0, 1) := by decide +kernel
theorem dX5_add_1 : decode cX5_add 1 = .ok (.getfield 36, 3) := by decide +kernel
theorem dX5_add_4 : decode cX5_add 4 = .ok (.ifCond .lt 12, 3) := by decide +kernel
theorem dX5_add_7 : decode cX5_add 7 = .ok (.aload_n 0, 1) := by decide +kernel
theorem dX5_add_8 : decode cX5_add 8 = .ok (.getfield 36, 3) := by decide +kernel
theorem dX5_add_11 : decode cX5_add 11 = .ok (.bipush 40, 2) := by decide +kernel
theorem dX5_add_13 : decode cX5_add 13 = .ok (.if_icmp .lt 4, 3) := by decide +kernel
theorem dX5_add_16 : decode cX5_add 16 = .ok (.return_, 1) := by decide +kernel
theorem dX5_add_17 : decode cX5_add 17 = .ok (.aload_n 0, 1) := by decide +kernel
theorem dX5_add_18 : decode cX5_add 18 = .ok (.getfield 9, 3) := by decide +kernel
theorem dX5_add_21 : decode cX5_add 21 = .ok (.aload_n 0, 1) := by decide +kernel
theorem dX5_add_22 : decode cX5_add 22 = .ok (.getfield 36, 3) := by decide +kernel
theorem dX5_add_25 : decode cX5_add 25 = .ok (.iload_n 1, 1) := by decide +kernel
theorem dX5_add_26 : decode cX5_add 26 = .ok (.iastore, 1) := by decide +kernel
theorem dX5_add_27 : decode cX5_add 27 = .ok (.aload_n 0, 1) := by decide +kernel
theorem dX5_add_28 : decode cX5_add 28 = .ok (.getfield 15, 3) := by decide +kernel
theorem dX5_add_31 : decode cX5_add 31 = .ok (.aload_n 0, 1) := by decide +kernel
theorem dX5_add_32 : decode cX5_add 32 = .ok (.getfield 36, 3) := by decide +kernel
theorem dX5_add_35 : decode cX5_add 35 = .ok (.iload_n 2, 1) := by decide +kernel
theorem dX5_add_36 : decode cX5_add 36 = .ok (.iastore, 1) := by decide +kernel
theorem dX5_add_37 : decode cX5_add 37 = .ok (.aload_n 0, 1) := by decide +kernel
theorem dX5_add_38 : decode cX5_add 38 = .ok (.getfield 18, 3) := by decide +kernel
theorem dX5_add_41 : decode cX5_add 41 = .ok (.aload_n 0, 1) := by decide +kernel
theorem dX5_add_42 : decode cX5_add 42 = .ok (.getfield 36, 3) := by decide +kernel
theorem dX5_add_45 : decode cX5_add 45 = .ok (.iload_n 3, 1) := by decide +kernel
theorem dX5_add_46 : decode cX5_add 46 = .ok (.iastore, 1) := by decide +kernel
theorem dX5_add_47 : decode cX5_add 47 = .ok (.aload_n 0, 1) := by decide +kernel
theorem dX5_add_48 : decode cX5_add 48 = .ok (.getfield 21, 3) := by decide +kernel
theorem dX5_add_51 : decode cX5_add 51 = .ok (.aload_n 0, 1) := by decide +kernel
theorem dX5_add_52 : decode cX5_add 52 = .ok (.getfield 36, 3) := by decide +kernel
theorem dX5_add_55 : decode cX5_add 55 = .ok (.iconst 0, 1) := by decide +kernel
theorem dX5_add_56 : decode cX5_add 56 = .ok (.iastore, 1) := by decide +kernel
theorem dX5_add_57 : decode cX5_add 57 = .ok (.aload_n 0, 1) := by decide +kernel
theorem dX5_add_58 : decode cX5_add 58 = .ok (.getfield 24, 3) := by decide +kernel
theorem dX5_add_61 : decode cX5_add 61 = .ok (.aload_n 0, 1) := by decide +kernel
theorem dX5_add_62 : decode cX5_add 62 = .ok (.getfield 36, 3) := by decide +kernel
theorem dX5_add_65 : decode cX5_add 65 = .ok (.iconst 0, 1) := by decide +kernel
theorem dX5_add_66 : decode cX5_add 66 = .ok (.iastore, 1) := by decide +kernel
theorem dX5_add_67 : decode cX5_add 67 = .ok (.aload_n 0, 1) := by decide +kernel
theorem dX5_add_68 : decode cX5_add 68 = .ok (.getfield 27, 3) := by decide +kernel
theorem dX5_add_71 : decode cX5_add 71 = .ok (.aload_n 0, 1) := by decide +kernel
theorem dX5_add_72 : decode cX5_add 72 = .ok (.getfield 36, 3) := by decide +kernel
theorem dX5_add_75 : decode cX5_add 75 = .ok (.iconst 0, 1) := by decide +kernel
theorem dX5_add_76 : decode cX5_add 76 = .ok (.iastore, 1) := by decide +kernel
theorem dX5_add_77 : decode cX5_add 77 = .ok (.aload_n 0, 1) := by decide +kernel
theorem dX5_add_78 : decode cX5_add 78 = .ok (.getfield 30, 3) := by decide +kernel
theorem dX5_add_81 : decode cX5_add 81 = .ok (.aload_n 0, 1) := by decide +kernel
theorem dX5_add_82 : decode cX5_add 82 = .ok (.getfield 36, 3) := by decide +kernel
theorem dX5_add_85 : decode cX5_add 85 = .ok (.iconst 0, 1) := by decide +kernel
theorem dX5_add_86 : decode cX5_add 86 = .ok (.iastore, 1) := by decide +kernel
theorem dX5_add_87 : decode cX5_add 87 = .ok (.aload_n 0, 1) := by decide +kernel
theorem dX5_add_88 : decode cX5_add 88 = .ok (.getfield 33, 3) := by decide +kernel
theorem dX5_add_91 : decode cX5_add 91 = .ok (.aload_n 0, 1) := by decide +kernel
theorem dX5_add_92 : decode cX5_add 92 = .ok (.getfield 36, 3) := by decide +kernel
theorem dX5_add_95 : decode cX5_add 95 = .ok (.iconst (-1), 1) := by decide +kernel
theorem dX5_add_96 : decode cX5_add 96 = .ok (.iastore, 1) := by decide +kernel
theorem dX5_add_97 : decode cX5_add 97 = .ok (.aload_n 0, 1) := by decide +kernel
theorem dX5_add_98 : decode cX5_add 98 = .ok (.dup, 1) := by decide +kernel
theorem dX5_add_99 : decode cX5_add 99 = .ok (.getfield 36, 3) := by decide +kernel
theorem dX5_add_102 : decode cX5_add 102 = .ok (.iconst 1, 1) := by decide +kernel
theorem dX5_add_103 : decode cX5_add 103 = .ok (.iadd, 1) := by decide +kernel
theorem dX5_add_104 : decode cX5_add 104 = .ok (.putfield 36, 3) := by decide +kernel
theorem dX5_add_107 : decode cX5_add 107 = .ok (.return_, 1) := by decide +kernel
theorem dX5_hasEnded_0 : decode cX5_hasEnded 0 = .ok (.iload_n 1, 1) := by decide +kernel
theorem dX5_hasEnded_1 : decode cX5_hasEnded 1 = .ok (.ifCond .lt 25, 3) := by decide +kernel
theorem dX5_hasEnded_4 : decode cX5_hasEnded 4 = .ok (.iload_n 1, 1) := by decide +kernel
theorem dX5_hasEnded_5 : decode cX5_hasEnded 5 = .ok (.aload_n 0, 1) := by decide +kernel
theorem dX5_hasEnded_6 : decode cX5_hasEnded 6 = .ok (.getfield 36, 3) := by decide +kernel
theorem dX5_hasEnded_9 : decode cX5_hasEnded 9 = .ok (.if_icmp .ge 17, 3) := by decide +kernel
theorem dX5_hasEnded_12 : decode cX5_hasEnded 12 = .ok (.aload_n 0, 1) := by decide +kernel
theorem dX5_hasEnded_13 : decode cX5_hasEnded 13 = .ok (.getfield 21, 3) := by decide +kernel
theorem dX5_hasEnded_16 : decode cX5_hasEnded 16 = .ok (.iload_n 1, 1) := by decide +kernel
theorem dX5_hasEnded_17 : decode cX5_hasEnded 17 = .ok (.iaload, 1) := by decide +kernel
theorem dX5_hasEnded_18 : decode cX5_hasEnded 18 = .ok (.iconst 3, 1) := by decide +kernel
theorem dX5_hasEnded_19 : decode cX5_hasEnded 19 = .ok (.if_icmp .lt 7, 3) := by decide +kernel
theorem dX5_hasEnded_22 : decode cX5_hasEnded 22 = .ok (.iconst 1, 1) := by decide +kernel
theorem dX5_hasEnded_23 : decode cX5_hasEnded 23 = .ok (.goto 4, 3) := by decide +kernel
theorem dX5_hasEnded_26 : decode cX5_hasEnded 26 = .ok (.iconst 0, 1) := by decide +kernel
theorem dX5_hasEnded_27 : decode cX5_hasEnded 27 = .ok (.ireturn, 1) := by decide +kernel
theorem dX5_countIn_0 : decode cX5_countIn 0 = .ok (.iconst 0, 1) := by decide +kernel
theorem dX5_countIn_1 : decode cX5_countIn 1 = .ok (.istore_n 2, 1) := by decide +kernel
theorem dX5_countIn_2 : decode cX5_countIn 2 = .ok (.iconst 0, 1) := by decide +kernel
theorem dX5_countIn_3 : decode cX5_countIn 3 = .ok (.istore_n 3, 1) := by decide +kernel
theorem dX5_countIn_4 : decode cX5_countIn 4 = .ok (.iload_n 3, 1) := by decide +kernel
theorem dX5_countIn_5 : decode cX5_countIn 5 = .ok (.aload_n 0, 1) := by decide +kernel
theorem dX5_countIn_6 : decode cX5_countIn 6 = .ok (.getfield 36, 3) := by decide +kernel
theorem dX5_countIn_9 : decode cX5_countIn 9 = .ok (.if_icmp .ge 22, 3) := by decide +kernel
theorem dX5_countIn_12 : decode cX5_countIn 12 = .ok (.aload_n 0, 1) := by decide +kernel
theorem dX5_countIn_13 : decode cX5_countIn 13 = .ok (.getfield 21, 3) := by decide +kernel
theorem dX5_countIn_16 : decode cX5_countIn 16 = .ok (.iload_n 3, 1) := by decide +kernel
theorem dX5_countIn_17 : decode cX5_countIn 17 = .ok (.iaload, 1) := by decide +kernel
theorem dX5_countIn_18 : decode cX5_countIn 18 = .ok (.iload_n 1, 1) := by decide +kernel
theorem dX5_countIn_19 : decode cX5_countIn 19 = .ok (.if_icmp .ne 6, 3) := by decide +kernel
theorem dX5_countIn_22 : decode cX5_countIn 22 = .ok (.iinc 2 1, 3) := by decide +kernel
theorem dX5_countIn_25 : decode cX5_countIn 25 = .ok (.iinc 3 1, 3) := by decide +kernel
theorem dX5_countIn_28 : decode cX5_countIn 28 = .ok (.goto (-24), 3) := by decide +kernel
theorem dX5_countIn_31 : decode cX5_countIn 31 = .ok (.iload_n 2, 1) := by decide +kernel
theorem dX5_countIn_32 : decode cX5_countIn 32 = .ok (.ireturn, 1) := by decide +kernel
theorem dX5_deliveredSizeOf_0 : decode cX5_deliveredSizeOf 0 = .ok (.iconst 0, 1) := by decide +kernel
theorem dX5_deliveredSizeOf_1 : decode cX5_deliveredSizeOf 1 = .ok (.istore_n 2, 1) := by decide +kernel
theorem dX5_deliveredSizeOf_2 : decode cX5_deliveredSizeOf 2 = .ok (.iconst 0, 1) := by decide +kernel
theorem dX5_deliveredSizeOf_3 : decode cX5_deliveredSizeOf 3 = .ok (.istore_n 3, 1) := by decide +kernel
theorem dX5_deliveredSizeOf_4 : decode cX5_deliveredSizeOf 4 = .ok (.iload_n 3, 1) := by decide +kernel
theorem dX5_deliveredSizeOf_5 : decode cX5_deliveredSizeOf 5 = .ok (.aload_n 0, 1) := by decide +kernel
theorem dX5_deliveredSizeOf_6 : decode cX5_deliveredSizeOf 6 = .ok (.getfield 36, 3) := by decide +kernel
theorem dX5_deliveredSizeOf_9 : decode cX5_deliveredSizeOf 9 = .ok (.if_icmp .ge 38, 3) := by decide +kernel
theorem dX5_deliveredSizeOf_12 : decode cX5_deliveredSizeOf 12 = .ok (.aload_n 0, 1) := by decide +kernel
theorem dX5_deliveredSizeOf_13 : decode cX5_deliveredSizeOf 13 = .ok (.getfield 9, 3) := by decide +kernel
theorem dX5_deliveredSizeOf_16 : decode cX5_deliveredSizeOf 16 = .ok (.iload_n 3, 1) := by decide +kernel
theorem dX5_deliveredSizeOf_17 : decode cX5_deliveredSizeOf 17 = .ok (.iaload, 1) := by decide +kernel
theorem dX5_deliveredSizeOf_18 : decode cX5_deliveredSizeOf 18 = .ok (.iload_n 1, 1) := by decide +kernel
theorem dX5_deliveredSizeOf_19 : decode cX5_deliveredSizeOf 19 = .ok (.if_icmp .ne 22, 3) := by decide +kernel
theorem dX5_deliveredSizeOf_22 : decode cX5_deliveredSizeOf 22 = .ok (.aload_n 0, 1) := by decide +kernel
theorem dX5_deliveredSizeOf_23 : decode cX5_deliveredSizeOf 23 = .ok (.getfield 21, 3) := by decide +kernel
theorem dX5_deliveredSizeOf_26 : decode cX5_deliveredSizeOf 26 = .ok (.iload_n 3, 1) := by decide +kernel
theorem dX5_deliveredSizeOf_27 : decode cX5_deliveredSizeOf 27 = .ok (.iaload, 1) := by decide +kernel
theorem dX5_deliveredSizeOf_28 : decode cX5_deliveredSizeOf 28 = .ok (.iconst 3, 1) := by decide +kernel
theorem dX5_deliveredSizeOf_29 : decode cX5_deliveredSizeOf 29 = .ok (.if_icmp .ne 12, 3) := by decide +kernel
theorem dX5_deliveredSizeOf_32 : decode cX5_deliveredSizeOf 32 = .ok (.iload_n 2, 1) := by decide +kernel
theorem dX5_deliveredSizeOf_33 : decode cX5_deliveredSizeOf 33 = .ok (.aload_n 0, 1) := by decide +kernel
theorem dX5_deliveredSizeOf_34 : decode cX5_deliveredSizeOf 34 = .ok (.getfield 18, 3) := by decide +kernel
theorem dX5_deliveredSizeOf_37 : decode cX5_deliveredSizeOf 37 = .ok (.iload_n 3, 1) := by decide +kernel
theorem dX5_deliveredSizeOf_38 : decode cX5_deliveredSizeOf 38 = .ok (.iaload, 1) := by decide +kernel
theorem dX5_deliveredSizeOf_39 : decode cX5_deliveredSizeOf 39 = .ok (.iadd, 1) := by decide +kernel
theorem dX5_deliveredSizeOf_40 : decode cX5_deliveredSizeOf 40 = .ok (.istore_n 2, 1) := by decide +kernel
theorem dX5_deliveredSizeOf_41 : decode cX5_deliveredSizeOf 41 = .ok (.iinc 3 1, 3) := by decide +kernel
theorem dX5_deliveredSizeOf_44 : decode cX5_deliveredSizeOf 44 = .ok (.goto (-40), 3) := by decide +kernel
theorem dX5_deliveredSizeOf_47 : decode cX5_deliveredSizeOf 47 = .ok (.iload_n 2, 1) := by decide +kernel
theorem dX5_deliveredSizeOf_48 : decode cX5_deliveredSizeOf 48 = .ok (.ireturn, 1) := by decide +kernel
theorem dX6_init_0 : decode cX6_init 0 = .ok (.aload_n 0, 1) := by decide +kernel
theorem dX6_init_1 : decode cX6_init 1 = .ok (.invokespecial 3, 3) := by decide +kernel
theorem dX6_init_4 : decode cX6_init 4 = .ok (.aload_n 0, 1) := by decide +kernel
theorem dX6_init_5 : decode cX6_init 5 = .ok (.bipush 40, 2) := by decide +kernel
theorem dX6_init_7 : decode cX6_init 7 = .ok (.newarray .int, 2) := by decide +kernel
theorem dX6_init_9 : decode cX6_init 9 = .ok (.putfield 9, 3) := by decide +kernel
theorem dX6_init_12 : decode cX6_init 12 = .ok (.aload_n 0, 1) := by decide +kernel
theorem dX6_init_13 : decode cX6_init 13 = .ok (.bipush 40, 2) := by decide +kernel
theorem dX6_init_15 : decode cX6_init 15 = .ok (.newarray .int, 2) := by decide +kernel
theorem dX6_init_17 : decode cX6_init 17 = .ok (.putfield 15, 3) := by decide +kernel
theorem dX6_init_20 : decode cX6_init 20 = .ok (.aload_n 0, 1) := by decide +kernel
theorem dX6_init_21 : decode cX6_init 21 = .ok (.bipush 40, 2) := by decide +kernel
theorem dX6_init_23 : decode cX6_init 23 = .ok (.newarray .int, 2) := by decide +kernel
theorem dX6_init_25 : decode cX6_init 25 = .ok (.putfield 18, 3) := by decide +kernel
theorem dX6_init_28 : decode cX6_init 28 = .ok (.aload_n 0, 1) := by decide +kernel
theorem dX6_init_29 : decode cX6_init 29 = .ok (.bipush 40, 2) := by decide +kernel
theorem dX6_init_31 : decode cX6_init 31 = .ok (.newarray .int, 2) := by decide +kernel
theorem dX6_init_33 : decode cX6_init 33 = .ok (.putfield 21, 3) := by decide +kernel
theorem dX6_init_36 : decode cX6_init 36 = .ok (.aload_n 0, 1) := by decide +kernel
theorem dX6_init_37 : decode cX6_init 37 = .ok (.bipush 40, 2) := by decide +kernel
theorem dX6_init_39 : decode cX6_init 39 = .ok (.newarray .int, 2) := by decide +kernel
theorem dX6_init_41 : decode cX6_init 41 = .ok (.putfield 24, 3) := by decide +kernel
theorem dX6_init_44 : decode cX6_init 44 = .ok (.return_, 1) := by decide +kernel
theorem dX6_copyFrom_0 : decode cX6_copyFrom 0 = .ok (.aload_n 0, 1) := by decide +kernel
theorem dX6_copyFrom_1 : decode cX6_copyFrom 1 = .ok (.aload_n 1, 1) := by decide +kernel
theorem dX6_copyFrom_2 : decode cX6_copyFrom 2 = .ok (.getfield 27, 3) := by decide +kernel
theorem dX6_copyFrom_5 : decode cX6_copyFrom 5 = .ok (.putfield 27, 3) := by decide +kernel
theorem dX6_copyFrom_8 : decode cX6_copyFrom 8 = .ok (.aload_n 0, 1) := by decide +kernel
theorem dX6_copyFrom_9 : decode cX6_copyFrom 9 = .ok (.aload_n 1, 1) := by decide +kernel
theorem dX6_copyFrom_10 : decode cX6_copyFrom 10 = .ok (.getfield 31, 3) := by decide +kernel
theorem dX6_copyFrom_13 : decode cX6_copyFrom 13 = .ok (.putfield 31, 3) := by decide +kernel
theorem dX6_copyFrom_16 : decode cX6_copyFrom 16 = .ok (.aload_n 1, 1) := by decide +kernel
theorem dX6_copyFrom_17 : decode cX6_copyFrom 17 = .ok (.getfield 9, 3) := by decide +kernel
theorem dX6_copyFrom_20 : decode cX6_copyFrom 20 = .ok (.aload_n 0, 1) := by decide +kernel
theorem dX6_copyFrom_21 : decode cX6_copyFrom 21 = .ok (.getfield 9, 3) := by decide +kernel
theorem dX6_copyFrom_24 : decode cX6_copyFrom 24 = .ok (.aload_n 0, 1) := by decide +kernel
theorem dX6_copyFrom_25 : decode cX6_copyFrom 25 = .ok (.getfield 27, 3) := by decide +kernel
theorem dX6_copyFrom_28 : decode cX6_copyFrom 28 = .ok (.invokestatic 34, 3) := by decide +kernel
theorem dX6_copyFrom_31 : decode cX6_copyFrom 31 = .ok (.aload_n 1, 1) := by decide +kernel
theorem dX6_copyFrom_32 : decode cX6_copyFrom 32 = .ok (.getfield 15, 3) := by decide +kernel
theorem dX6_copyFrom_35 : decode cX6_copyFrom 35 = .ok (.aload_n 0, 1) := by decide +kernel
theorem dX6_copyFrom_36 : decode cX6_copyFrom 36 = .ok (.getfield 15, 3) := by decide +kernel
theorem dX6_copyFrom_39 : decode cX6_copyFrom 39 = .ok (.aload_n 0, 1) := by decide +kernel
theorem dX6_copyFrom_40 : decode cX6_copyFrom 40 = .ok (.getfield 27, 3) := by decide +kernel
theorem dX6_copyFrom_43 : decode cX6_copyFrom 43 = .ok (.invokestatic 34, 3) := by decide +kernel
theorem dX6_copyFrom_46 : decode cX6_copyFrom 46 = .ok (.aload_n 1, 1) := by decide +kernel
theorem dX6_copyFrom_47 : decode cX6_copyFrom 47 = .ok (.getfield 18, 3) := by decide +kernel
theorem dX6_copyFrom_50 : decode cX6_copyFrom 50 = .ok (.aload_n 0, 1) := by decide +kernel
theorem dX6_copyFrom_51 : decode cX6_copyFrom 51 = .ok (.getfield 18, 3) := by decide +kernel
theorem dX6_copyFrom_54 : decode cX6_copyFrom 54 = .ok (.aload_n 0, 1) := by decide +kernel
theorem dX6_copyFrom_55 : decode cX6_copyFrom 55 = .ok (.getfield 27, 3) := by decide +kernel
theorem dX6_copyFrom_58 : decode cX6_copyFrom 58 = .ok (.invokestatic 34, 3) := by decide +kernel
theorem dX6_copyFrom_61 : decode cX6_copyFrom 61 = .ok (.aload_n 1, 1) := by decide +kernel
theorem dX6_copyFrom_62 : decode cX6_copyFrom 62 = .ok (.getfield 21, 3) := by decide +kernel
theorem dX6_copyFrom_65 : decode cX6_copyFrom 65 = .ok (.aload_n 0, 1) := by decide +kernel
theorem dX6_copyFrom_66 : decode cX6_copyFrom 66 = .ok (.getfield 21, 3) := by decide +kernel
theorem dX6_copyFrom_69 : decode cX6_copyFrom 69 = .ok (.aload_n 0, 1) := by decide +kernel
theorem dX6_copyFrom_70 : decode cX6_copyFrom 70 = .ok (.getfield 27, 3) := by decide +kernel
theorem dX6_copyFrom_73 : decode cX6_copyFrom 73 = .ok (.invokestatic 34, 3) := by decide +kernel
theorem dX6_copyFrom_76 : decode cX6_copyFrom 76 = .ok (.aload_n 1, 1) := by decide +kernel
theorem dX6_copyFrom_77 : decode cX6_copyFrom 77 = .ok (.getfield 24, 3) := by decide +kernel
theorem dX6_copyFrom_80 : decode cX6_copyFrom 80 = .ok (.aload_n 0, 1) := by decide +kernel
theorem dX6_copyFrom_81 : decode cX6_copyFrom 81 = .ok (.getfield 24, 3) := by decide +kernel
theorem dX6_copyFrom_84 : decode cX6_copyFrom 84 = .ok (.aload_n 0, 1) := by decide +kernel
theorem dX6_copyFrom_85 : decode cX6_copyFrom 85 = .ok (.getfield 27, 3) := by decide +kernel
theorem dX6_copyFrom_88 : decode cX6_copyFrom 88 = .ok (.invokestatic 34, 3) := by decide +kernel
theorem dX6_copyFrom_91 : decode cX6_copyFrom 91 = .ok (.return_, 1) := by decide +kernel
theorem dX6_clear_0 : decode cX6_clear 0 = .ok (.aload_n 0, 1) := by decide +kernel
theorem dX6_clear_1 : decode cX6_clear 1 = .ok (.iconst 0, 1) := by decide +kernel
theorem dX6_clear_2 : decode cX6_clear 2 = .ok (.putfield 27, 3) := by decide +kernel
theorem dX6_clear_5 : decode cX6_clear 5 = .ok (.aload_n 0, 1) := by decide +kernel
theorem dX6_clear_6 : decode cX6_clear 6 = .ok (.iconst 0, 1) := by decide +kernel
theorem dX6_clear_7 : decode cX6_clear 7 = .ok (.putfield 31, 3) := by decide +kernel
theorem dX6_clear_10 : decode cX6_clear 10 = .ok (.return_, 1) := by decide +kernel
theorem dX6_add_0 : decode cX6_add 0 = .ok (.aload_n 0, 1) := by decide +kernel
theorem dX6_add_1 : decode cX6_add 1 = .ok (.getfield 27, 3) := by decide +kernel
theorem dX6_add_4 : decode cX6_add 4 = .ok (.bipush 40, 2) := by decide +kernel
theorem dX6_add_6 : decode cX6_add 6 = .ok (.if_icmp .ge 10, 3) := by decide +kernel
theorem dX6_add_9 : decode cX6_add 9 = .ok (.aload_n 0, 1) := by decide +kernel
theorem dX6_add_10 : decode cX6_add 10 = .ok (.getfield 27, 3) := by decide +kernel
theorem dX6_add_13 : decode cX6_add 13 = .ok (.goto 7, 3) := by decide +kernel
theorem dX6_add_16 : decode cX6_add 16 = .ok (.aload_n 0, 1) := by decide +kernel
theorem dX6_add_17 : decode cX6_add 17 = .ok (.getfield 31, 3) := by decide +kernel
theorem dX6_add_20 : decode cX6_add 20 = .ok (.istore 6, 2) := by decide +kernel
theorem dX6_add_22 : decode cX6_add 22 = .ok (.iload 6, 2) := by decide +kernel
theorem dX6_add_24 : decode cX6_add 24 = .ok (.ifCond .lt 10, 3) := by decide +kernel
theorem dX6_add_27 : decode cX6_add 27 = .ok (.iload 6, 2) := by decide +kernel
theorem dX6_add_29 : decode cX6_add 29 = .ok (.bipush 40, 2) := by decide +kernel
theorem dX6_add_31 : decode cX6_add 31 = .ok (.if_icmp .lt 4, 3) := by decide +kernel
theorem dX6_add_34 : decode cX6_add 34 = .ok (.return_, 1) := by decide +kernel
theorem dX6_add_35 : decode cX6_add 35 = .ok (.aload_n 0, 1) := by decide +kernel
theorem dX6_add_36 : decode cX6_add 36 = .ok (.getfield 9, 3) := by decide +kernel
theorem dX6_add_39 : decode cX6_add 39 = .ok (.iload 6, 2) := by decide +kernel
theorem dX6_add_41 : decode cX6_add 41 = .ok (.iload_n 1, 1) := by decide +kernel
theorem dX6_add_42 : decode cX6_add 42 = .ok (.iastore, 1) := by decide +kernel
theorem dX6_add_43 : decode cX6_add 43 = .ok (.aload_n 0, 1) := by decide +kernel
theorem dX6_add_44 : decode cX6_add 44 = .ok (.getfield 15, 3) := by decide +kernel
theorem dX6_add_47 : decode cX6_add 47 = .ok (.iload 6, 2) := by decide +kernel
theorem dX6_add_49 : decode cX6_add 49 = .ok (.iload_n 2, 1) := by decide +kernel
theorem dX6_add_50 : decode cX6_add 50 = .ok (.iastore, 1) := by decide +kernel
theorem dX6_add_51 : decode cX6_add 51 = .ok (.aload_n 0, 1) := by decide +kernel
theorem dX6_add_52 : decode cX6_add 52 = .ok (.getfield 18, 3) := by decide +kernel
theorem dX6_add_55 : decode cX6_add 55 = .ok (.iload 6, 2) := by decide +kernel
theorem dX6_add_57 : decode cX6_add 57 = .ok (.iload_n 3, 1) := by decide +kernel
theorem dX6_add_58 : decode cX6_add 58 = .ok (.iastore, 1) := by decide +kernel
theorem dX6_add_59 : decode cX6_add 59 = .ok (.aload_n 0, 1) := by decide +kernel
theorem dX6_add_60 : decode cX6_add 60 = .ok (.getfield 21, 3) := by decide +kernel
theorem dX6_add_63 : decode cX6_add 63 = .ok (.iload 6, 2) := by decide +kernel
theorem dX6_add_65 : decode cX6_add 65 = .ok (.iload 4, 2) := by decide +kernel
theorem dX6_add_67 : decode cX6_add 67 = .ok (.iastore, 1) := by decide +kernel
theorem dX6_add_68 : decode cX6_add 68 = .ok (.aload_n 0, 1) := by decide +kernel
theorem dX6_add_69 : decode cX6_add 69 = .ok (.getfield 24, 3) := by decide +kernel
theorem dX6_add_72 : decode cX6_add 72 = .ok (.iload 6, 2) := by decide +kernel
theorem dX6_add_74 : decode cX6_add 74 = .ok (.iload 5, 2) := by decide +kernel
theorem dX6_add_76 : decode cX6_add 76 = .ok (.iastore, 1) := by decide +kernel
theorem dX6_add_77 : decode cX6_add 77 = .ok (.aload_n 0, 1) := by decide +kernel
theorem dX6_add_78 : decode cX6_add 78 = .ok (.getfield 27, 3) := by decide +kernel
theorem dX6_add_81 : decode cX6_add 81 = .ok (.bipush 40, 2) := by decide +kernel
theorem dX6_add_83 : decode cX6_add 83 = .ok (.if_icmp .ge 16, 3) := by decide +kernel
theorem dX6_add_86 : decode cX6_add 86 = .ok (.aload_n 0, 1) := by decide +kernel
theorem dX6_add_87 : decode cX6_add 87 = .ok (.dup, 1) := by decide +kernel
theorem dX6_add_88 : decode cX6_add 88 = .ok (.getfield 27, 3) := by decide +kernel
theorem dX6_add_91 : decode cX6_add 91 = .ok (.iconst 1, 1) := by decide +kernel
theorem dX6_add_92 : decode cX6_add 92 = .ok (.iadd, 1) := by decide +kernel
theorem dX6_add_93 : decode cX6_add 93 = .ok (.putfield 27, 3) := by decide +kernel
theorem dX6_add_96 : decode cX6_add 96 = .ok (.goto 16, 3) := by decide +kernel
theorem dX6_add_99 : decode cX6_add 99 = .ok (.aload_n 0, 1) := by decide +kernel
theorem dX6_add_100 : decode cX6_add 100 = .ok (.aload_n 0, 1) := by decide +kernel
theorem dX6_add_101 : decode cX6_add 101 = .ok (.getfield 31, 3) := by decide +kernel
theorem dX6_add_104 : decode cX6_add 104 = .ok (.iconst 1, 1) := by decide +kernel
theorem dX6_add_105 : decode cX6_add 105 = .ok (.iadd, 1) := by decide +kernel
theorem dX6_add_106 : decode cX6_add 106 = .ok (.bipush 40, 2) := by decide +kernel
theorem dX6_add_108 : decode cX6_add 108 = .ok (.irem, 1) := by decide +kernel
theorem dX6_add_109 : decode cX6_add 109 = .ok (.putfield 31, 3) := by decide +kernel
theorem dX6_add_112 : decode cX6_add 112 = .ok (.return_, 1) := by decide +kernel
theorem dX7_init_0 : decode cX7_init 0 = .ok (.aload_n 0, 1) := by decide +kernel
theorem dX7_init_1 : decode cX7_init 1 = .ok (.invokespecial 3, 3) := by decide +kernel
theorem dX7_init_4 : decode cX7_init 4 = .ok (.aload_n 0, 1) := by decide +kernel
theorem dX7_init_5 : decode cX7_init 5 = .ok (.bipush 11, 2) := by decide +kernel
theorem dX7_init_7 : decode cX7_init 7 = .ok (.newarray .int, 2) := by decide +kernel
theorem dX7_init_9 : decode cX7_init 9 = .ok (.putfield 9, 3) := by decide +kernel
theorem dX7_init_12 : decode cX7_init 12 = .ok (.aload_n 0, 1) := by decide +kernel
theorem dX7_init_13 : decode cX7_init 13 = .ok (.aload_n 1, 1) := by decide +kernel
theorem dX7_init_14 : decode cX7_init 14 = .ok (.putfield 15, 3) := by decide +kernel
theorem dX7_init_17 : decode cX7_init 17 = .ok (.return_, 1) := by decide +kernel
theorem dX7_valueFor_0 : decode cX7_valueFor 0 = .ok (.iconst 0, 1) := by decide +kernel
theorem dX7_valueFor_1 : decode cX7_valueFor 1 = .ok (.istore 5, 2) := by decide +kernel
theorem dX7_valueFor_3 : decode cX7_valueFor 3 = .ok (.iconst 0, 1) := by decide +kernel
theorem dX7_valueFor_4 : decode cX7_valueFor 4 = .ok (.istore 6, 2) := by decide +kernel
theorem dX7_valueFor_6 : decode cX7_valueFor 6 = .ok (.iload 6, 2) := by decide +kernel
theorem dX7_valueFor_8 : decode cX7_valueFor 8 = .ok (.aload_n 0, 1) := by decide +kernel
theorem dX7_valueFor_9 : decode cX7_valueFor 9 = .ok (.getfield 15, 3) := by decide +kernel
theorem dX7_valueFor_12 : decode cX7_valueFor 12 = .ok (.arraylength, 1) := by decide +kernel
theorem dX7_valueFor_13 : decode cX7_valueFor 13 = .ok (.if_icmp .ge 164, 3) := by decide +kernel
theorem dX7_valueFor_16 : decode cX7_valueFor 16 = .ok (.aload_n 0, 1) := by decide +kernel
theorem dX7_valueFor_17 : decode cX7_valueFor 17 = .ok (.getfield 15, 3) := by decide +kernel
theorem dX7_valueFor_20 : decode cX7_valueFor 20 = .ok (.iload 6, 2) := by decide +kernel
theorem dX7_valueFor_22 : decode cX7_valueFor 22 = .ok (.iaload, 1) := by decide +kernel
theorem dX7_valueFor_23 : decode cX7_valueFor 23 = .ok (.istore 7, 2) := by decide +kernel
theorem dX7_valueFor_25 : decode cX7_valueFor 25 = .ok (.aload_n 0, 1) := by decide +kernel
theorem dX7_valueFor_26 : decode cX7_valueFor 26 = .ok (.getfield 15, 3) := by decide +kernel
theorem dX7_valueFor_29 : decode cX7_valueFor 29 = .ok (.iload 6, 2) := by decide +kernel
theorem dX7_valueFor_31 : decode cX7_valueFor 31 = .ok (.iaload, 1) := by decide +kernel
theorem dX7_valueFor_32 : decode cX7_valueFor 32 = .ok (.tableswitch 117 (-8) (-1) #[66, 60, 54, 48, 73, 73, 73, 73], 48) := by decide +kernel
theorem dX7_valueFor_80 : decode cX7_valueFor 80 = .ok (.iload_n 1, 1) := by decide +kernel
theorem dX7_valueFor_81 : decode cX7_valueFor 81 = .ok (.istore 7, 2) := by decide +kernel
theorem dX7_valueFor_83 : decode cX7_valueFor 83 = .ok (.goto 66, 3) := by decide +kernel
theorem dX7_valueFor_86 : decode cX7_valueFor 86 = .ok (.iload_n 2, 1) := by decide +kernel
theorem dX7_valueFor_87 : decode cX7_valueFor 87 = .ok (.istore 7, 2) := by decide +kernel
theorem dX7_valueFor_89 : decode cX7_valueFor 89 = .ok (.goto 60, 3) := by decide +kernel
theorem dX7_valueFor_92 : decode cX7_valueFor 92 = .ok (.iload_n 3, 1) := by decide +kernel
theorem dX7_valueFor_93 : decode cX7_valueFor 93 = .ok (.istore 7, 2) := by decide +kernel
theorem dX7_valueFor_95 : decode cX7_valueFor 95 = .ok (.goto 54, 3) := by decide +kernel
theorem dX7_valueFor_98 : decode cX7_valueFor 98 = .ok (.iload 4, 2) := by decide +kernel
theorem dX7_valueFor_100 : decode cX7_valueFor 100 = .ok (.istore 7, 2) := by decide +kernel
theorem dX7_valueFor_102 : decode cX7_valueFor 102 = .ok (.goto 47, 3) := by decide +kernel
theorem dX7_valueFor_105 : decode cX7_valueFor 105 = .ok (.iload 5, 2) := by decide +kernel
theorem dX7_valueFor_107 : decode cX7_valueFor 107 = .ok (.iconst 2, 1) := by decide +kernel
theorem dX7_valueFor_108 : decode cX7_valueFor 108 = .ok (.if_icmp .ge 5, 3) := by decide +kernel
theorem dX7_valueFor_111 : decode cX7_valueFor 111 = .ok (.iconst 0, 1) := by decide +kernel
theorem dX7_valueFor_112 : decode cX7_valueFor 112 = .ok (.ireturn, 1) := by decide +kernel
theorem dX7_valueFor_113 : decode cX7_valueFor 113 = .ok (.iinc 5 (-2), 3) := by decide +kernel
theorem dX7_valueFor_116 : decode cX7_valueFor 116 = .ok (.aload_n 0, 1) := by decide +kernel
theorem dX7_valueFor_117 : decode cX7_valueFor 117 = .ok (.getfield 15, 3) := by decide +kernel
theorem dX7_valueFor_120 : decode cX7_valueFor 120 = .ok (.iload 6, 2) := by decide +kernel
theorem dX7_valueFor_122 : decode cX7_valueFor 122 = .ok (.iaload, 1) := by decide +kernel
theorem dX7_valueFor_123 : decode cX7_valueFor 123 = .ok (.aload_n 0, 1) := by decide +kernel
theorem dX7_valueFor_124 : decode cX7_valueFor 124 = .ok (.getfield 9, 3) := by decide +kernel
theorem dX7_valueFor_127 : decode cX7_valueFor 127 = .ok (.iload 5, 2) := by decide +kernel
theorem dX7_valueFor_129 : decode cX7_valueFor 129 = .ok (.iaload, 1) := by decide +kernel
theorem dX7_valueFor_130 : decode cX7_valueFor 130 = .ok (.i2l, 1) := by decide +kernel
theorem dX7_valueFor_131 : decode cX7_valueFor 131 = .ok (.aload_n 0, 1) := by decide +kernel
theorem dX7_valueFor_132 : decode cX7_valueFor 132 = .ok (.getfield 9, 3) := by decide +kernel
theorem dX7_valueFor_135 : decode cX7_valueFor 135 = .ok (.iload 5, 2) := by decide +kernel
theorem dX7_valueFor_137 : decode cX7_valueFor 137 = .ok (.iconst 1, 1) := by decide +kernel
theorem dX7_valueFor_138 : decode cX7_valueFor 138 = .ok (.iadd, 1) := by decide +kernel
theorem dX7_valueFor_139 : decode cX7_valueFor 139 = .ok (.iaload, 1) := by decide +kernel
theorem dX7_valueFor_140 : decode cX7_valueFor 140 = .ok (.i2l, 1) := by decide +kernel
theorem dX7_valueFor_141 : decode cX7_valueFor 141 = .ok (.invokestatic 18, 3) := by decide +kernel
theorem dX7_valueFor_144 : decode cX7_valueFor 144 = .ok (.istore 7, 2) := by decide +kernel
theorem dX7_valueFor_146 : decode cX7_valueFor 146 = .ok (.goto 3, 3) := by decide +kernel
theorem dX7_valueFor_149 : decode cX7_valueFor 149 = .ok (.iload 5, 2) := by decide +kernel
theorem dX7_valueFor_151 : decode cX7_valueFor 151 = .ok (.aload_n 0, 1) := by decide +kernel
theorem dX7_valueFor_152 : decode cX7_valueFor 152 = .ok (.getfield 9, 3) := by decide +kernel
theorem dX7_valueFor_155 : decode cX7_valueFor 155 = .ok (.arraylength, 1) := by decide +kernel
theorem dX7_valueFor_156 : decode cX7_valueFor 156 = .ok (.if_icmp .ge 15, 3) := by decide +kernel
theorem dX7_valueFor_159 : decode cX7_valueFor 159 = .ok (.aload_n 0, 1) := by decide +kernel
theorem dX7_valueFor_160 : decode cX7_valueFor 160 = .ok (.getfield 9, 3) := by decide +kernel
theorem dX7_valueFor_163 : decode cX7_valueFor 163 = .ok (.iload 5, 2) := by decide +kernel
theorem dX7_valueFor_165 : decode cX7_valueFor 165 = .ok (.iload 7, 2) := by decide +kernel
theorem dX7_valueFor_167 : decode cX7_valueFor 167 = .ok (.iastore, 1) := by decide +kernel
theorem dX7_valueFor_168 : decode cX7_valueFor 168 = .ok (.iinc 5 1, 3) := by decide +kernel
theorem dX7_valueFor_171 : decode cX7_valueFor 171 = .ok (.iinc 6 1, 3) := by decide +kernel
theorem dX7_valueFor_174 : decode cX7_valueFor 174 = .ok (.goto (-168), 3) := by decide +kernel
theorem dX7_valueFor_177 : decode cX7_valueFor 177 = .ok (.iload 5, 2) := by decide +kernel
theorem dX7_valueFor_179 : decode cX7_valueFor 179 = .ok (.ifCond .le 22, 3) := by decide +kernel
theorem dX7_valueFor_182 : decode cX7_valueFor 182 = .ok (.iconst 0, 1) := by decide +kernel
theorem dX7_valueFor_183 : decode cX7_valueFor 183 = .ok (.sipush 9999, 3) := by decide +kernel
theorem dX7_valueFor_186 : decode cX7_valueFor 186 = .ok (.aload_n 0, 1) := by decide +kernel
theorem dX7_valueFor_187 : decode cX7_valueFor 187 = .ok (.getfield 9, 3) := by decide +kernel
theorem dX7_valueFor_190 : decode cX7_valueFor 190 = .ok (.iconst 0, 1) := by decide +kernel
theorem dX7_valueFor_191 : decode cX7_valueFor 191 = .ok (.iaload, 1) := by decide +kernel
theorem dX7_valueFor_192 : decode cX7_valueFor 192 = .ok (.invokestatic 22, 3) := by decide +kernel
theorem dX7_valueFor_195 : decode cX7_valueFor 195 = .ok (.invokestatic 28, 3) := by decide +kernel
theorem dX7_valueFor_198 : decode cX7_valueFor 198 = .ok (.goto 4, 3) := by decide +kernel
theorem dX7_valueFor_201 : decode cX7_valueFor 201 = .ok (.iconst 0, 1) := by decide +kernel
theorem dX7_valueFor_202 : decode cX7_valueFor 202 = .ok (.ireturn, 1) := by decide +kernel
theorem dX7_combine_0 : decode cX7_combine 0 = .ok (.iload_n 0, 1) := by decide +kernel
theorem dX7_combine_1 : decode cX7_combine 1 = .ok (.tableswitch 51 (-3) (-1) #[43, 35, 27], 27) := by decide +kernel
theorem dX7_combine_28 : decode cX7_combine 28 = .ok (.lload_n 1, 1) := by decide +kernel
theorem dX7_combine_29 : decode cX7_combine 29 = .ok (.lload_n 3, 1) := by decide +kernel
theorem dX7_combine_30 : decode cX7_combine 30 = .ok (.ladd, 1) := by decide +kernel
theorem dX7_combine_31 : decode cX7_combine 31 = .ok (.lstore 5, 2) := by decide +kernel
theorem dX7_combine_33 : decode cX7_combine 33 = .ok (.goto 34, 3) := by decide +kernel
theorem dX7_combine_36 : decode cX7_combine 36 = .ok (.lload_n 1, 1) := by decide +kernel
theorem dX7_combine_37 : decode cX7_combine 37 = .ok (.lload_n 3, 1) := by decide +kernel
theorem dX7_combine_38 : decode cX7_combine 38 = .ok (.lsub, 1) := by decide +kernel
theorem dX7_combine_39 : decode cX7_combine 39 = .ok (.lstore 5, 2) := by decide +kernel
theorem dX7_combine_41 : decode cX7_combine 41 = .ok (.goto 26, 3) := by decide +kernel
theorem dX7_combine_44 : decode cX7_combine 44 = .ok (.lload_n 1, 1) := by decide +kernel
theorem dX7_combine_45 : decode cX7_combine 45 = .ok (.lload_n 3, 1) := by decide +kernel
theorem dX7_combine_46 : decode cX7_combine 46 = .ok (.lmul, 1) := by decide +kernel
theorem dX7_combine_47 : decode cX7_combine 47 = .ok (.lstore 5, 2) := by decide +kernel
theorem dX7_combine_49 : decode cX7_combine 49 = .ok (.goto 18, 3) := by decide +kernel
theorem dX7_combine_52 : decode cX7_combine 52 = .ok (.lload_n 3, 1) := by decide +kernel
theorem dX7_combine_53 : decode cX7_combine 53 = .ok (.lconst 0, 1) := by decide +kernel
theorem dX7_combine_54 : decode cX7_combine 54 = .ok (.lcmp, 1) := by decide +kernel
theorem dX7_combine_55 : decode cX7_combine 55 = .ok (.ifCond .ne 7, 3) := by decide +kernel
theorem dX7_combine_58 : decode cX7_combine 58 = .ok (.lconst 0, 1) := by decide +kernel
theorem dX7_combine_59 : decode cX7_combine 59 = .ok (.goto 6, 3) := by decide +kernel
theorem dX7_combine_62 : decode cX7_combine 62 = .ok (.lload_n 1, 1) := by decide +kernel
theorem dX7_combine_63 : decode cX7_combine 63 = .ok (.lload_n 3, 1) := by decide +kernel
theorem dX7_combine_64 : decode cX7_combine 64 = .ok (.ldiv, 1) := by decide +kernel
theorem dX7_combine_65 : decode cX7_combine 65 = .ok (.lstore 5, 2) := by decide +kernel
theorem dX7_combine_67 : decode cX7_combine 67 = .ok (.ldc2_w 31, 3) := by decide +kernel
theorem dX7_combine_70 : decode cX7_combine 70 = .ok (.ldc2_w 33, 3) := by decide +kernel
theorem dX7_combine_73 : decode cX7_combine 73 = .ok (.lload 5, 2) := by decide +kernel
theorem dX7_combine_75 : decode cX7_combine 75 = .ok (.invokestatic 35, 3) := by decide +kernel
theorem dX7_combine_78 : decode cX7_combine 78 = .ok (.invokestatic 38, 3) := by decide +kernel
theorem dX7_combine_81 : decode cX7_combine 81 = .ok (.l2i, 1) := by decide +kernel
theorem dX7_combine_82 : decode cX7_combine 82 = .ok (.ireturn, 1) := by decide +kernel
theorem dX8_init_0 : decode cX8_init 0 = .ok (.aload_n 0, 1) := by decide +kernel
theorem dX8_init_1 : decode cX8_init 1 = .ok (.invokespecial 3, 3) := by decide +kernel
theorem dX8_init_4 : decode cX8_init 4 = .ok (.aload_n 0, 1) := by decide +kernel
theorem dX8_init_5 : decode cX8_init 5 = .ok (.new 9, 3) := by decide +kernel
theorem dX8_init_8 : decode cX8_init 8 = .ok (.dup, 1) := by decide +kernel
theorem dX8_init_9 : decode cX8_init 9 = .ok (.invokespecial 11, 3) := by decide +kernel
theorem dX8_init_12 : decode cX8_init 12 = .ok (.putfield 12, 3) := by decide +kernel
theorem dX8_init_15 : decode cX8_init 15 = .ok (.aload_n 0, 1) := by decide +kernel
theorem dX8_init_16 : decode cX8_init 16 = .ok (.new 18, 3) := by decide +kernel
theorem dX8_init_19 : decode cX8_init 19 = .ok (.dup, 1) := by decide +kernel
theorem dX8_init_20 : decode cX8_init 20 = .ok (.invokespecial 20, 3) := by decide +kernel
theorem dX8_init_23 : decode cX8_init 23 = .ok (.putfield 21, 3) := by decide +kernel
theorem dX8_init_26 : decode cX8_init 26 = .ok (.aload_n 0, 1) := by decide +kernel
theorem dX8_init_27 : decode cX8_init 27 = .ok (.sipush 700, 3) := by decide +kernel
theorem dX8_init_30 : decode cX8_init 30 = .ok (.newarray .int, 2) := by decide +kernel
theorem dX8_init_32 : decode cX8_init 32 = .ok (.putfield 25, 3) := by decide +kernel
theorem dX8_init_35 : decode cX8_init 35 = .ok (.return_, 1) := by decide +kernel
theorem dX8_read_0 : decode cX8_read 0 = .ok (.aload_n 0, 1) := by decide +kernel
theorem dX8_read_1 : decode cX8_read 1 = .ok (.iconst 0, 1) := by decide +kernel
theorem dX8_read_2 : decode cX8_read 2 = .ok (.putfield 29, 3) := by decide +kernel
theorem dX8_read_5 : decode cX8_read 5 = .ok (.aload_n 0, 1) := by decide +kernel
theorem dX8_read_6 : decode cX8_read 6 = .ok (.iconst (-1), 1) := by decide +kernel
theorem dX8_read_7 : decode cX8_read 7 = .ok (.putfield 33, 3) := by decide +kernel
theorem dX8_read_10 : decode cX8_read 10 = .ok (.aload_n 0, 1) := by decide +kernel
theorem dX8_read_11 : decode cX8_read 11 = .ok (.iconst 0, 1) := by decide +kernel
theorem dX8_read_12 : decode cX8_read 12 = .ok (.putfield 36, 3) := by decide +kernel
theorem dX8_read_15 : decode cX8_read 15 = .ok (.aload_n 0, 1) := by decide +kernel
theorem dX8_read_16 : decode cX8_read 16 = .ok (.iconst 0, 1) := by decide +kernel
theorem dX8_read_17 : decode cX8_read 17 = .ok (.putfield 40, 3) := by decide +kernel
theorem dX8_read_20 : decode cX8_read 20 = .ok (.aload_n 0, 1) := by decide +kernel
theorem dX8_read_21 : decode cX8_read 21 = .ok (.iconst 0, 1) := by decide +kernel
theorem dX8_read_22 : decode cX8_read 22 = .ok (.putfield 43, 3) := by decide +kernel
theorem dX8_read_25 : decode cX8_read 25 = .ok (.aload_n 0, 1) := by decide +kernel
theorem dX8_read_26 : decode cX8_read 26 = .ok (.getfield 21, 3) := by decide +kernel
theorem dX8_read_29 : decode cX8_read 29 = .ok (.invokevirtual 46, 3) := by decide +kernel
theorem dX8_read_32 : decode cX8_read 32 = .ok (.aload_n 0, 1) := by decide +kernel
theorem dX8_read_33 : decode cX8_read 33 = .ok (.getfield 12, 3) := by decide +kernel
theorem dX8_read_36 : decode cX8_read 36 = .ok (.iload_n 1, 1) := by decide +kernel
theorem dX8_read_37 : decode cX8_read 37 = .ok (.invokevirtual 49, 3) := by decide +kernel
theorem dX8_read_40 : decode cX8_read 40 = .ok (.aload_n 0, 1) := by decide +kernel
theorem dX8_read_41 : decode cX8_read 41 = .ok (.getfield 12, 3) := by decide +kernel
theorem dX8_read_44 : decode cX8_read 44 = .ok (.ldc 53, 2) := by decide +kernel
theorem dX8_read_46 : decode cX8_read 46 = .ok (.invokevirtual 55, 3) := by decide +kernel
theorem dX8_read_49 : decode cX8_read 49 = .ok (.ifCond .eq 19, 3) := by decide +kernel
theorem dX8_read_52 : decode cX8_read 52 = .ok (.aload_n 0, 1) := by decide +kernel
theorem dX8_read_53 : decode cX8_read 53 = .ok (.getfield 12, 3) := by decide +kernel
theorem dX8_read_56 : decode cX8_read 56 = .ok (.invokevirtual 59, 3) := by decide +kernel
theorem dX8_read_59 : decode cX8_read 59 = .ok (.aload_n 0, 1) := by decide +kernel
theorem dX8_read_60 : decode cX8_read 60 = .ok (.bipush 59, 2) := by decide +kernel
theorem dX8_read_62 : decode cX8_read 62 = .ok (.invokevirtual 62, 3) := by decide +kernel
theorem dX8_read_65 : decode cX8_read 65 = .ok (.goto 9, 3) := by decide +kernel
theorem dX8_read_68 : decode cX8_read 68 = .ok (.aload_n 0, 1) := by decide +kernel
theorem dX8_read_69 : decode cX8_read 69 = .ok (.bipush (-2), 2) := by decide +kernel
theorem dX8_read_71 : decode cX8_read 71 = .ok (.invokevirtual 65, 3) := by decide +kernel
theorem dX8_read_74 : decode cX8_read 74 = .ok (.iconst 0, 1) := by decide +kernel
theorem dX8_read_75 : decode cX8_read 75 = .ok (.istore_n 2, 1) := by decide +kernel
theorem dX8_read_76 : decode cX8_read 76 = .ok (.iload_n 2, 1) := by decide +kernel
theorem dX8_read_77 : decode cX8_read 77 = .ok (.sipush 700, 3) := by decide +kernel
theorem dX8_read_80 : decode cX8_read 80 = .ok (.if_icmp .ge 37, 3) := by decide +kernel
theorem dX8_read_83 : decode cX8_read 83 = .ok (.aload_n 0, 1) := by decide +kernel
theorem dX8_read_84 : decode cX8_read 84 = .ok (.getfield 29, 3) := by decide +kernel
theorem dX8_read_87 : decode cX8_read 87 = .ok (.ifCond .ne 30, 3) := by decide +kernel
theorem dX8_read_90 : decode cX8_read 90 = .ok (.aload_n 0, 1) := by decide +kernel
theorem dX8_read_91 : decode cX8_read 91 = .ok (.getfield 12, 3) := by decide +kernel
theorem dX8_read_94 : decode cX8_read 94 = .ok (.getfield 68, 3) := by decide +kernel
theorem dX8_read_97 : decode cX8_read 97 = .ok (.iconst (-1), 1) := by decide +kernel
theorem dX8_read_98 : decode cX8_read 98 = .ok (.if_icmp .eq 19, 3) := by decide +kernel
theorem dX8_read_101 : decode cX8_read 101 = .ok (.aload_n 0, 1) := by decide +kernel
theorem dX8_read_102 : decode cX8_read 102 = .ok (.invokevirtual 71, 3) := by decide +kernel
theorem dX8_read_105 : decode cX8_read 105 = .ok (.aload_n 0, 1) := by decide +kernel
theorem dX8_read_106 : decode cX8_read 106 = .ok (.bipush 59, 2) := by decide +kernel
theorem dX8_read_108 : decode cX8_read 108 = .ok (.invokevirtual 62, 3) := by decide +kernel
theorem dX8_read_111 : decode cX8_read 111 = .ok (.iinc 2 1, 3) := by decide +kernel
theorem dX8_read_114 : decode cX8_read 114 = .ok (.goto (-38), 3) := by decide +kernel
theorem dX8_read_117 : decode cX8_read 117 = .ok (.aload_n 0, 1) := by decide +kernel
theorem dX8_read_118 : decode cX8_read 118 = .ok (.getfield 21, 3) := by decide +kernel
theorem dX8_read_121 : decode cX8_read 121 = .ok (.invokevirtual 74, 3) := by decide +kernel
theorem dX8_read_124 : decode cX8_read 124 = .ok (.aload_n 0, 1) := by decide +kernel
theorem dX8_read_125 : decode cX8_read 125 = .ok (.getfield 29, 3) := by decide +kernel
theorem dX8_read_128 : decode cX8_read 128 = .ok (.ifCond .ne 54, 3) := by decide +kernel
theorem dX8_read_131 : decode cX8_read 131 = .ok (.aload_n 0, 1) := by decide +kernel
theorem dX8_read_132 : decode cX8_read 132 = .ok (.getfield 43, 3) := by decide +kernel
theorem dX8_read_135 : decode cX8_read 135 = .ok (.ifCond .eq 47, 3) := by decide +kernel
theorem dX8_read_138 : decode cX8_read 138 = .ok (.aload_n 0, 1) := by decide +kernel
theorem dX8_read_139 : decode cX8_read 139 = .ok (.getfield 77, 3) := by decide +kernel
theorem dX8_read_142 : decode cX8_read 142 = .ok (.ifCond .lt 40, 3) := by decide +kernel
theorem dX8_read_145 : decode cX8_read 145 = .ok (.aload_n 0, 1) := by decide +kernel
theorem dX8_read_146 : decode cX8_read 146 = .ok (.getfield 77, 3) := by decide +kernel
theorem dX8_read_149 : decode cX8_read 149 = .ok (.aload_n 0, 1) := by decide +kernel
theorem dX8_read_150 : decode cX8_read 150 = .ok (.getfield 25, 3) := by decide +kernel
theorem dX8_read_153 : decode cX8_read 153 = .ok (.arraylength, 1) := by decide +kernel
theorem dX8_read_154 : decode cX8_read 154 = .ok (.if_icmp .gt 28, 3) := by decide +kernel
theorem dX8_read_157 : decode cX8_read 157 = .ok (.aload_n 0, 1) := by decide +kernel
theorem dX8_read_158 : decode cX8_read 158 = .ok (.getfield 21, 3) := by decide +kernel
theorem dX8_read_161 : decode cX8_read 161 = .ok (.new 80, 3) := by decide +kernel
theorem dX8_read_164 : decode cX8_read 164 = .ok (.dup, 1) := by decide +kernel
theorem dX8_read_165 : decode cX8_read 165 = .ok (.aload_n 0, 1) := by decide +kernel
theorem dX8_read_166 : decode cX8_read 166 = .ok (.getfield 25, 3) := by decide +kernel
theorem dX8_read_169 : decode cX8_read 169 = .ok (.aload_n 0, 1) := by decide +kernel
theorem dX8_read_170 : decode cX8_read 170 = .ok (.getfield 77, 3) := by decide +kernel
theorem dX8_read_173 : decode cX8_read 173 = .ok (.invokestatic 82, 3) := by decide +kernel
theorem dX8_read_176 : decode cX8_read 176 = .ok (.invokespecial 88, 3) := by decide +kernel
theorem dX8_read_179 : decode cX8_read 179 = .ok (.putfield 91, 3) := by decide +kernel
theorem dX8_read_182 : decode cX8_read 182 = .ok (.return_, 1) := by decide +kernel
theorem dX8_fail_0 : decode cX8_fail 0 = .ok (.aload_n 0, 1) := by decide +kernel
theorem dX8_fail_1 : decode cX8_fail 1 = .ok (.getfield 29, 3) := by decide +kernel
theorem dX8_fail_4 : decode cX8_fail 4 = .ok (.ifCond .ne 19, 3) := by decide +kernel
theorem dX8_fail_7 : decode cX8_fail 7 = .ok (.aload_n 0, 1) := by decide +kernel
theorem dX8_fail_8 : decode cX8_fail 8 = .ok (.iload_n 1, 1) := by decide +kernel
theorem dX8_fail_9 : decode cX8_fail 9 = .ok (.putfield 29, 3) := by decide +kernel
theorem dX8_fail_12 : decode cX8_fail 12 = .ok (.aload_n 0, 1) := by decide +kernel
theorem dX8_fail_13 : decode cX8_fail 13 = .ok (.aload_n 0, 1) := by decide +kernel
theorem dX8_fail_14 : decode cX8_fail 14 = .ok (.getfield 12, 3) := by decide +kernel
theorem dX8_fail_17 : decode cX8_fail 17 = .ok (.getfield 95, 3) := by decide +kernel
theorem dX8_fail_20 : decode cX8_fail 20 = .ok (.putfield 33, 3) := by decide +kernel
theorem dX8_fail_23 : decode cX8_fail 23 = .ok (.return_, 1) := by decide +kernel
theorem dX8_takeSign_0 : decode cX8_takeSign 0 = .ok (.aload_n 0, 1) := by decide +kernel
theorem dX8_takeSign_1 : decode cX8_takeSign 1 = .ok (.getfield 12, 3) := by decide +kernel
theorem dX8_takeSign_4 : decode cX8_takeSign 4 = .ok (.getfield 68, 3) := by decide +kernel
theorem dX8_takeSign_7 : decode cX8_takeSign 7 = .ok (.iload_n 1, 1) := by decide +kernel
theorem dX8_takeSign_8 : decode cX8_takeSign 8 = .ok (.if_icmp .eq 9, 3) := by decide +kernel
theorem dX8_takeSign_11 : decode cX8_takeSign 11 = .ok (.aload_n 0, 1) := by decide +kernel
theorem dX8_takeSign_12 : decode cX8_takeSign 12 = .ok (.bipush (-2), 2) := by decide +kernel
theorem dX8_takeSign_14 : decode cX8_takeSign 14 = .ok (.invokevirtual 65, 3) := by decide +kernel
theorem dX8_takeSign_17 : decode cX8_takeSign 17 = .ok (.aload_n 0, 1) := by decide +kernel
theorem dX8_takeSign_18 : decode cX8_takeSign 18 = .ok (.getfield 29, 3) := by decide +kernel
theorem dX8_takeSign_21 : decode cX8_takeSign 21 = .ok (.ifCond .ne 10, 3) := by decide +kernel
theorem dX8_takeSign_24 : decode cX8_takeSign 24 = .ok (.aload_n 0, 1) := by decide +kernel
theorem dX8_takeSign_25 : decode cX8_takeSign 25 = .ok (.getfield 12, 3) := by decide +kernel
theorem dX8_takeSign_28 : decode cX8_takeSign 28 = .ok (.invokevirtual 59, 3) := by decide +kernel
theorem dX8_takeSign_31 : decode cX8_takeSign 31 = .ok (.return_, 1) := by decide +kernel
theorem dX8_numberStands_0 : decode cX8_numberStands 0 = .ok (.aload_n 0, 1) := by decide +kernel
theorem dX8_numberStands_1 : decode cX8_numberStands 1 = .ok (.getfield 12, 3) := by decide +kernel
theorem dX8_numberStands_4 : decode cX8_numberStands 4 = .ok (.getfield 68, 3) := by decide +kernel
theorem dX8_numberStands_7 : decode cX8_numberStands 7 = .ok (.sipush 257, 3) := by decide +kernel
theorem dX8_numberStands_10 : decode cX8_numberStands 10 = .ok (.if_icmp .eq 12, 3) := by decide +kernel
theorem dX8_numberStands_13 : decode cX8_numberStands 13 = .ok (.aload_n 0, 1) := by decide +kernel
theorem dX8_numberStands_14 : decode cX8_numberStands 14 = .ok (.bipush (-2), 2) := by decide +kernel
theorem dX8_numberStands_16 : decode cX8_numberStands 16 = .ok (.invokevirtual 65, 3) := by decide +kernel
theorem dX8_numberStands_19 : decode cX8_numberStands 19 = .ok (.goto 31, 3) := by decide +kernel
theorem dX8_numberStands_22 : decode cX8_numberStands 22 = .ok (.aload_n 0, 1) := by decide +kernel
theorem dX8_numberStands_23 : decode cX8_numberStands 23 = .ok (.getfield 12, 3) := by decide +kernel
theorem dX8_numberStands_26 : decode cX8_numberStands 26 = .ok (.getfield 98, 3) := by decide +kernel
theorem dX8_numberStands_29 : decode cX8_numberStands 29 = .ok (.iload_n 1, 1) := by decide +kernel
theorem dX8_numberStands_30 : decode cX8_numberStands 30 = .ok (.if_icmp .lt 14, 3) := by decide +kernel
theorem dX8_numberStands_33 : decode cX8_numberStands 33 = .ok (.aload_n 0, 1) := by decide +kernel
theorem dX8_numberStands_34 : decode cX8_numberStands 34 = .ok (.getfield 12, 3) := by decide +kernel
theorem dX8_numberStands_37 : decode cX8_numberStands 37 = .ok (.getfield 98, 3) := by decide +kernel
theorem dX8_numberStands_40 : decode cX8_numberStands 40 = .ok (.iload_n 2, 1) := by decide +kernel
theorem dX8_numberStands_41 : decode cX8_numberStands 41 = .ok (.if_icmp .le 9, 3) := by decide +kernel
theorem dX8_numberStands_44 : decode cX8_numberStands 44 = .ok (.aload_n 0, 1) := by decide +kernel
theorem dX8_numberStands_45 : decode cX8_numberStands 45 = .ok (.bipush (-3), 2) := by decide +kernel
theorem dX8_numberStands_47 : decode cX8_numberStands 47 = .ok (.invokevirtual 65, 3) := by decide +kernel
theorem dX8_numberStands_50 : decode cX8_numberStands 50 = .ok (.aload_n 0, 1) := by decide +kernel
theorem dX8_numberStands_51 : decode cX8_numberStands 51 = .ok (.getfield 29, 3) := by decide +kernel
theorem dX8_numberStands_54 : decode cX8_numberStands 54 = .ok (.ifCond .ne 7, 3) := by decide +kernel
theorem dX8_numberStands_57 : decode cX8_numberStands 57 = .ok (.iconst 1, 1) := by decide +kernel
theorem dX8_numberStands_58 : decode cX8_numberStands 58 = .ok (.goto 4, 3) := by decide +kernel
theorem dX8_numberStands_61 : decode cX8_numberStands 61 = .ok (.iconst 0, 1) := by decide +kernel
theorem dX8_numberStands_62 : decode cX8_numberStands 62 = .ok (.ireturn, 1) := by decide +kernel
theorem dX8_takeNumber_0 : decode cX8_takeNumber 0 = .ok (.aload_n 0, 1) := by decide +kernel
theorem dX8_takeNumber_1 : decode cX8_takeNumber 1 = .ok (.iload_n 1, 1) := by decide +kernel
theorem dX8_takeNumber_2 : decode cX8_takeNumber 2 = .ok (.iload_n 2, 1) := by decide +kernel
theorem dX8_takeNumber_3 : decode cX8_takeNumber 3 = .ok (.invokevirtual 101, 3) := by decide +kernel
theorem dX8_takeNumber_6 : decode cX8_takeNumber 6 = .ok (.ifCond .ne 5, 3) := by decide +kernel
theorem dX8_takeNumber_9 : decode cX8_takeNumber 9 = .ok (.iconst (-1), 1) := by decide +kernel
theorem dX8_takeNumber_10 : decode cX8_takeNumber 10 = .ok (.ireturn, 1) := by decide +kernel
theorem dX8_takeNumber_11 : decode cX8_takeNumber 11 = .ok (.aload_n 0, 1) := by decide +kernel
theorem dX8_takeNumber_12 : decode cX8_takeNumber 12 = .ok (.getfield 12, 3) := by decide +kernel
theorem dX8_takeNumber_15 : decode cX8_takeNumber 15 = .ok (.getfield 98, 3) := by decide +kernel
theorem dX8_takeNumber_18 : decode cX8_takeNumber 18 = .ok (.istore_n 3, 1) := by decide +kernel
theorem dX8_takeNumber_19 : decode cX8_takeNumber 19 = .ok (.aload_n 0, 1) := by decide +kernel
theorem dX8_takeNumber_20 : decode cX8_takeNumber 20 = .ok (.getfield 12, 3) := by decide +kernel
theorem dX8_takeNumber_23 : decode cX8_takeNumber 23 = .ok (.invokevirtual 59, 3) := by decide +kernel
theorem dX8_takeNumber_26 : decode cX8_takeNumber 26 = .ok (.iload_n 3, 1) := by decide +kernel
theorem dX8_takeNumber_27 : decode cX8_takeNumber 27 = .ok (.ireturn, 1) := by decide +kernel
theorem dX8_readStatement_0 : decode cX8_readStatement 0 = .ok (.aload_n 0, 1) := by decide +kernel
theorem dX8_readStatement_1 : decode cX8_readStatement 1 = .ok (.getfield 12, 3) := by decide +kernel
theorem dX8_readStatement_4 : decode cX8_readStatement 4 = .ok (.ldc 105, 2) := by decide +kernel
theorem dX8_readStatement_6 : decode cX8_readStatement 6 = .ok (.invokevirtual 55, 3) := by decide +kernel
theorem dX8_readStatement_9 : decode cX8_readStatement 9 = .ok (.ifCond .eq 10, 3) := by decide +kernel
theorem dX8_readStatement_12 : decode cX8_readStatement 12 = .ok (.aload_n 0, 1) := by decide +kernel
theorem dX8_readStatement_13 : decode cX8_readStatement 13 = .ok (.invokevirtual 107, 3) := by decide +kernel
theorem dX8_readStatement_16 : decode cX8_readStatement 16 = .ok (.goto 221, 3) := by decide +kernel
theorem dX8_readStatement_19 : decode cX8_readStatement 19 = .ok (.aload_n 0, 1) := by decide +kernel
theorem dX8_readStatement_20 : decode cX8_readStatement 20 = .ok (.getfield 12, 3) := by decide +kernel
theorem dX8_readStatement_23 : decode cX8_readStatement 23 = .ok (.ldc 110, 2) := by decide +kernel
theorem dX8_readStatement_25 : decode cX8_readStatement 25 = .ok (.invokevirtual 55, 3) := by decide +kernel
theorem dX8_readStatement_28 : decode cX8_readStatement 28 = .ok (.ifCond .eq 10, 3) := by decide +kernel
theorem dX8_readStatement_31 : decode cX8_readStatement 31 = .ok (.aload_n 0, 1) := by decide +kernel
theorem dX8_readStatement_32 : decode cX8_readStatement 32 = .ok (.invokevirtual 112, 3) := by decide +kernel
theorem dX8_readStatement_35 : decode cX8_readStatement 35 = .ok (.goto 202, 3) := by decide +kernel
theorem dX8_readStatement_38 : decode cX8_readStatement 38 = .ok (.aload_n 0, 1) := by decide +kernel
theorem dX8_readStatement_39 : decode cX8_readStatement 39 = .ok (.getfield 12, 3) := by decide +kernel
theorem dX8_readStatement_42 : decode cX8_readStatement 42 = .ok (.ldc 115, 2) := by decide +kernel
theorem dX8_readStatement_44 : decode cX8_readStatement 44 = .ok (.invokevirtual 55, 3) := by decide +kernel
theorem dX8_readStatement_47 : decode cX8_readStatement 47 = .ok (.ifCond .eq 10, 3) := by decide +kernel
theorem dX8_readStatement_50 : decode cX8_readStatement 50 = .ok (.aload_n 0, 1) := by decide +kernel
theorem dX8_readStatement_51 : decode cX8_readStatement 51 = .ok (.invokevirtual 117, 3) := by decide +kernel
theorem dX8_readStatement_54 : decode cX8_readStatement 54 = .ok (.goto 183, 3) := by decide +kernel
theorem dX8_readStatement_57 : decode cX8_readStatement 57 = .ok (.aload_n 0, 1) := by decide +kernel
theorem dX8_readStatement_58 : decode cX8_readStatement 58 = .ok (.getfield 12, 3) := by decide +kernel
theorem dX8_readStatement_61 : decode cX8_readStatement 61 = .ok (.ldc 120, 2) := by decide +kernel
theorem dX8_readStatement_63 : decode cX8_readStatement 63 = .ok (.invokevirtual 55, 3) := by decide +kernel
theorem dX8_readStatement_66 : decode cX8_readStatement 66 = .ok (.ifCond .eq 10, 3) := by decide +kernel
theorem dX8_readStatement_69 : decode cX8_readStatement 69 = .ok (.aload_n 0, 1) := by decide +kernel
theorem dX8_readStatement_70 : decode cX8_readStatement 70 = .ok (.invokevirtual 122, 3) := by decide +kernel
theorem dX8_readStatement_73 : decode cX8_readStatement 73 = .ok (.goto 164, 3) := by decide +kernel
theorem dX8_readStatement_76 : decode cX8_readStatement 76 = .ok (.aload_n 0, 1) := by decide +kernel
theorem dX8_readStatement_77 : decode cX8_readStatement 77 = .ok (.getfield 12, 3) := by decide +kernel
theorem dX8_readStatement_80 : decode cX8_readStatement 80 = .ok (.ldc 125, 2) := by decide +kernel
theorem dX8_readStatement_82 : decode cX8_readStatement 82 = .ok (.invokevirtual 55, 3) := by decide +kernel
theorem dX8_readStatement_85 : decode cX8_readStatement 85 = .ok (.ifCond .eq 39, 3) := by decide +kernel
theorem dX8_readStatement_88 : decode cX8_readStatement 88 = .ok (.aload_n 0, 1) := by decide +kernel
theorem dX8_readStatement_89 : decode cX8_readStatement 89 = .ok (.getfield 36, 3) := by decide +kernel
theorem dX8_readStatement_92 : decode cX8_readStatement 92 = .ok (.ifCond .ne 32, 3) := by decide +kernel
theorem dX8_readStatement_95 : decode cX8_readStatement 95 = .ok (.aload_n 0, 1) := by decide +kernel
theorem dX8_readStatement_96 : decode cX8_readStatement 96 = .ok (.iconst 1, 1) := by decide +kernel
theorem dX8_readStatement_97 : decode cX8_readStatement 97 = .ok (.putfield 36, 3) := by decide +kernel
theorem dX8_readStatement_100 : decode cX8_readStatement 100 = .ok (.aload_n 0, 1) := by decide +kernel
theorem dX8_readStatement_101 : decode cX8_readStatement 101 = .ok (.getfield 12, 3) := by decide +kernel
theorem dX8_readStatement_104 : decode cX8_readStatement 104 = .ok (.invokevirtual 59, 3) := by decide +kernel
theorem dX8_readStatement_107 : decode cX8_readStatement 107 = .ok (.aload_n 0, 1) := by decide +kernel
theorem dX8_readStatement_108 : decode cX8_readStatement 108 = .ok (.getfield 21, 3) := by decide +kernel
theorem dX8_readStatement_111 : decode cX8_readStatement 111 = .ok (.aload_n 0, 1) := by decide +kernel
theorem dX8_readStatement_112 : decode cX8_readStatement 112 = .ok (.iconst 0, 1) := by decide +kernel
theorem dX8_readStatement_113 : decode cX8_readStatement 113 = .ok (.bipush 99, 2) := by decide +kernel
theorem dX8_readStatement_115 : decode cX8_readStatement 115 = .ok (.invokevirtual 127, 3) := by decide +kernel
theorem dX8_readStatement_118 : decode cX8_readStatement 118 = .ok (.putfield 131, 3) := by decide +kernel
theorem dX8_readStatement_121 : decode cX8_readStatement 121 = .ok (.goto 116, 3) := by decide +kernel
theorem dX8_readStatement_124 : decode cX8_readStatement 124 = .ok (.aload_n 0, 1) := by decide +kernel
theorem dX8_readStatement_125 : decode cX8_readStatement 125 = .ok (.getfield 12, 3) := by decide +kernel
theorem dX8_readStatement_128 : decode cX8_readStatement 128 = .ok (.ldc 133, 2) := by decide +kernel
theorem dX8_readStatement_130 : decode cX8_readStatement 130 = .ok (.invokevirtual 55, 3) := by decide +kernel
theorem dX8_readStatement_133 : decode cX8_readStatement 133 = .ok (.ifCond .eq 54, 3) := by decide +kernel
theorem dX8_readStatement_136 : decode cX8_readStatement 136 = .ok (.aload_n 0, 1) := by decide +kernel
theorem dX8_readStatement_137 : decode cX8_readStatement 137 = .ok (.getfield 40, 3) := by decide +kernel
theorem dX8_readStatement_140 : decode cX8_readStatement 140 = .ok (.ifCond .ne 47, 3) := by decide +kernel
theorem dX8_readStatement_143 : decode cX8_readStatement 143 = .ok (.aload_n 0, 1) := by decide +kernel
theorem dX8_readStatement_144 : decode cX8_readStatement 144 = .ok (.iconst 1, 1) := by decide +kernel
theorem dX8_readStatement_145 : decode cX8_readStatement 145 = .ok (.putfield 40, 3) := by decide +kernel
theorem dX8_readStatement_148 : decode cX8_readStatement 148 = .ok (.aload_n 0, 1) := by decide +kernel
theorem dX8_readStatement_149 : decode cX8_readStatement 149 = .ok (.getfield 12, 3) := by decide +kernel
theorem dX8_readStatement_152 : decode cX8_readStatement 152 = .ok (.invokevirtual 59, 3) := by decide +kernel
theorem dX8_readStatement_155 : decode cX8_readStatement 155 = .ok (.aload_n 0, 1) := by decide +kernel
theorem dX8_readStatement_156 : decode cX8_readStatement 156 = .ok (.getfield 21, 3) := by decide +kernel
theorem dX8_readStatement_159 : decode cX8_readStatement 159 = .ok (.aload_n 0, 1) := by decide +kernel
theorem dX8_readStatement_160 : decode cX8_readStatement 160 = .ok (.iconst 0, 1) := by decide +kernel
theorem dX8_readStatement_161 : decode cX8_readStatement 161 = .ok (.bipush 100, 2) := by decide +kernel
theorem dX8_readStatement_163 : decode cX8_readStatement 163 = .ok (.invokevirtual 127, 3) := by decide +kernel
theorem dX8_readStatement_166 : decode cX8_readStatement 166 = .ok (.putfield 135, 3) := by decide +kernel
theorem dX8_readStatement_169 : decode cX8_readStatement 169 = .ok (.aload_n 0, 1) := by decide +kernel
theorem dX8_readStatement_170 : decode cX8_readStatement 170 = .ok (.getfield 21, 3) := by decide +kernel
theorem dX8_readStatement_173 : decode cX8_readStatement 173 = .ok (.aload_n 0, 1) := by decide +kernel
theorem dX8_readStatement_174 : decode cX8_readStatement 174 = .ok (.iconst 1, 1) := by decide +kernel
theorem dX8_readStatement_175 : decode cX8_readStatement 175 = .ok (.sipush 999, 3) := by decide +kernel
theorem dX8_readStatement_178 : decode cX8_readStatement 178 = .ok (.invokevirtual 127, 3) := by decide +kernel
theorem dX8_readStatement_181 : decode cX8_readStatement 181 = .ok (.putfield 138, 3) := by decide +kernel
theorem dX8_readStatement_184 : decode cX8_readStatement 184 = .ok (.goto 53, 3) := by decide +kernel
theorem dX8_readStatement_187 : decode cX8_readStatement 187 = .ok (.aload_n 0, 1) := by decide +kernel
theorem dX8_readStatement_188 : decode cX8_readStatement 188 = .ok (.getfield 12, 3) := by decide +kernel
theorem dX8_readStatement_191 : decode cX8_readStatement 191 = .ok (.ldc 141, 2) := by decide +kernel
theorem dX8_readStatement_193 : decode cX8_readStatement 193 = .ok (.invokevirtual 55, 3) := by decide +kernel
theorem dX8_readStatement_196 : decode cX8_readStatement 196 = .ok (.ifCond .eq 35, 3) := by decide +kernel
theorem dX8_readStatement_199 : decode cX8_readStatement 199 = .ok (.aload_n 0, 1) := by decide +kernel
theorem dX8_readStatement_200 : decode cX8_readStatement 200 = .ok (.getfield 43, 3) := by decide +kernel
theorem dX8_readStatement_203 : decode cX8_readStatement 203 = .ok (.ifCond .ne 28, 3) := by decide +kernel
theorem dX8_readStatement_206 : decode cX8_readStatement 206 = .ok (.aload_n 0, 1) := by decide +kernel
theorem dX8_readStatement_207 : decode cX8_readStatement 207 = .ok (.iconst 1, 1) := by decide +kernel
theorem dX8_readStatement_208 : decode cX8_readStatement 208 = .ok (.putfield 43, 3) := by decide +kernel
theorem dX8_readStatement_211 : decode cX8_readStatement 211 = .ok (.aload_n 0, 1) := by decide +kernel
theorem dX8_readStatement_212 : decode cX8_readStatement 212 = .ok (.getfield 12, 3) := by decide +kernel
theorem dX8_readStatement_215 : decode cX8_readStatement 215 = .ok (.invokevirtual 59, 3) := by decide +kernel
theorem dX8_readStatement_218 : decode cX8_readStatement 218 = .ok (.aload_n 0, 1) := by decide +kernel
theorem dX8_readStatement_219 : decode cX8_readStatement 219 = .ok (.iconst 0, 1) := by decide +kernel
theorem dX8_readStatement_220 : decode cX8_readStatement 220 = .ok (.putfield 77, 3) := by decide +kernel
theorem dX8_readStatement_223 : decode cX8_readStatement 223 = .ok (.aload_n 0, 1) := by decide +kernel
theorem dX8_readStatement_224 : decode cX8_readStatement 224 = .ok (.iconst 0, 1) := by decide +kernel
theorem dX8_readStatement_225 : decode cX8_readStatement 225 = .ok (.invokevirtual 142, 3) := by decide +kernel
theorem dX8_readStatement_228 : decode cX8_readStatement 228 = .ok (.goto 9, 3) := by decide +kernel
theorem dX8_readStatement_231 : decode cX8_readStatement 231 = .ok (.aload_n 0, 1) := by decide +kernel
theorem dX8_readStatement_232 : decode cX8_readStatement 232 = .ok (.bipush (-2), 2) := by decide +kernel
theorem dX8_readStatement_234 : decode cX8_readStatement 234 = .ok (.invokevirtual 65, 3) := by decide +kernel
theorem dX8_readStatement_237 : decode cX8_readStatement 237 = .ok (.return_, 1) := by decide +kernel
theorem dX8_takeCounted_0 : decode cX8_takeCounted 0 = .ok (.iload_n 1, 1) := by decide +kernel
theorem dX8_takeCounted_1 : decode cX8_takeCounted 1 = .ok (.iload_n 2, 1) := by decide +kernel
theorem dX8_takeCounted_2 : decode cX8_takeCounted 2 = .ok (.if_icmp .lt 12, 3) := by decide +kernel
theorem dX8_takeCounted_5 : decode cX8_takeCounted 5 = .ok (.aload_n 0, 1) := by decide +kernel
theorem dX8_takeCounted_6 : decode cX8_takeCounted 6 = .ok (.bipush (-5), 2) := by decide +kernel
theorem dX8_takeCounted_8 : decode cX8_takeCounted 8 = .ok (.invokevirtual 65, 3) := by decide +kernel
theorem dX8_takeCounted_11 : decode cX8_takeCounted 11 = .ok (.goto 10, 3) := by decide +kernel
theorem dX8_takeCounted_14 : decode cX8_takeCounted 14 = .ok (.aload_n 0, 1) := by decide +kernel
theorem dX8_takeCounted_15 : decode cX8_takeCounted 15 = .ok (.getfield 12, 3) := by decide +kernel
theorem dX8_takeCounted_18 : decode cX8_takeCounted 18 = .ok (.invokevirtual 59, 3) := by decide +kernel
theorem dX8_takeCounted_21 : decode cX8_takeCounted 21 = .ok (.return_, 1) := by decide +kernel
theorem dX8_readGate_0 : decode cX8_readGate 0 = .ok (.aload_n 0, 1) := by decide +kernel
theorem dX8_readGate_1 : decode cX8_readGate 1 = .ok (.aload_n 0, 1) := by decide +kernel
theorem dX8_readGate_2 : decode cX8_readGate 2 = .ok (.getfield 21, 3) := by decide +kernel
theorem dX8_readGate_5 : decode cX8_readGate 5 = .ok (.getfield 145, 3) := by decide +kernel
theorem dX8_readGate_8 : decode cX8_readGate 8 = .ok (.getfield 149, 3) := by decide +kernel
theorem dX8_readGate_11 : decode cX8_readGate 11 = .ok (.bipush 6, 2) := by decide +kernel
theorem dX8_readGate_13 : decode cX8_readGate 13 = .ok (.invokevirtual 154, 3) := by decide +kernel
theorem dX8_readGate_16 : decode cX8_readGate 16 = .ok (.aload_n 0, 1) := by decide +kernel
theorem dX8_readGate_17 : decode cX8_readGate 17 = .ok (.iconst 0, 1) := by decide +kernel
theorem dX8_readGate_18 : decode cX8_readGate 18 = .ok (.bipush 99, 2) := by decide +kernel
theorem dX8_readGate_20 : decode cX8_readGate 20 = .ok (.invokevirtual 127, 3) := by decide +kernel
theorem dX8_readGate_23 : decode cX8_readGate 23 = .ok (.istore_n 1, 1) := by decide +kernel
theorem dX8_readGate_24 : decode cX8_readGate 24 = .ok (.aload_n 0, 1) := by decide +kernel
theorem dX8_readGate_25 : decode cX8_readGate 25 = .ok (.iconst 1, 1) := by decide +kernel
theorem dX8_readGate_26 : decode cX8_readGate 26 = .ok (.sipush 999, 3) := by decide +kernel
theorem dX8_readGate_29 : decode cX8_readGate 29 = .ok (.invokevirtual 127, 3) := by decide +kernel
theorem dX8_readGate_32 : decode cX8_readGate 32 = .ok (.istore_n 2, 1) := by decide +kernel
theorem dX8_readGate_33 : decode cX8_readGate 33 = .ok (.aload_n 0, 1) := by decide +kernel
theorem dX8_readGate_34 : decode cX8_readGate 34 = .ok (.iconst 1, 1) := by decide +kernel
theorem dX8_readGate_35 : decode cX8_readGate 35 = .ok (.bipush 20, 2) := by decide +kernel
theorem dX8_readGate_37 : decode cX8_readGate 37 = .ok (.invokevirtual 127, 3) := by decide +kernel
theorem dX8_readGate_40 : decode cX8_readGate 40 = .ok (.istore_n 3, 1) := by decide +kernel
theorem dX8_readGate_41 : decode cX8_readGate 41 = .ok (.aload_n 0, 1) := by decide +kernel
theorem dX8_readGate_42 : decode cX8_readGate 42 = .ok (.getfield 29, 3) := by decide +kernel
theorem dX8_readGate_45 : decode cX8_readGate 45 = .ok (.ifCond .ne 16, 3) := by decide +kernel
theorem dX8_readGate_48 : decode cX8_readGate 48 = .ok (.aload_n 0, 1) := by decide +kernel
theorem dX8_readGate_49 : decode cX8_readGate 49 = .ok (.getfield 21, 3) := by decide +kernel
theorem dX8_readGate_52 : decode cX8_readGate 52 = .ok (.getfield 145, 3) := by decide +kernel
theorem dX8_readGate_55 : decode cX8_readGate 55 = .ok (.iload_n 1, 1) := by decide +kernel
theorem dX8_readGate_56 : decode cX8_readGate 56 = .ok (.iload_n 2, 1) := by decide +kernel
theorem dX8_readGate_57 : decode cX8_readGate 57 = .ok (.iload_n 3, 1) := by decide +kernel
theorem dX8_readGate_58 : decode cX8_readGate 58 = .ok (.invokevirtual 158, 3) := by decide +kernel
theorem dX8_readGate_61 : decode cX8_readGate 61 = .ok (.return_, 1) := by decide +kernel
theorem dX8_readFlow_0 : decode cX8_readFlow 0 = .ok (.aload_n 0, 1) := by decide +kernel
theorem dX8_readFlow_1 : decode cX8_readFlow 1 = .ok (.aload_n 0, 1) := by decide +kernel
theorem dX8_readFlow_2 : decode cX8_readFlow 2 = .ok (.getfield 21, 3) := by decide +kernel
theorem dX8_readFlow_5 : decode cX8_readFlow 5 = .ok (.getfield 162, 3) := by decide +kernel
theorem dX8_readFlow_8 : decode cX8_readFlow 8 = .ok (.getfield 166, 3) := by decide +kernel
theorem dX8_readFlow_11 : decode cX8_readFlow 11 = .ok (.bipush 6, 2) := by decide +kernel
theorem dX8_readFlow_13 : decode cX8_readFlow 13 = .ok (.invokevirtual 154, 3) := by decide +kernel
theorem dX8_readFlow_16 : decode cX8_readFlow 16 = .ok (.aload_n 0, 1) := by decide +kernel
theorem dX8_readFlow_17 : decode cX8_readFlow 17 = .ok (.getfield 21, 3) := by decide +kernel
theorem dX8_readFlow_20 : decode cX8_readFlow 20 = .ok (.getfield 162, 3) := by decide +kernel
theorem dX8_readFlow_23 : decode cX8_readFlow 23 = .ok (.invokevirtual 169, 3) := by decide +kernel
theorem dX8_readFlow_26 : decode cX8_readFlow 26 = .ok (.aload_n 0, 1) := by decide +kernel
theorem dX8_readFlow_27 : decode cX8_readFlow 27 = .ok (.iconst 0, 1) := by decide +kernel
theorem dX8_readFlow_28 : decode cX8_readFlow 28 = .ok (.invokevirtual 171, 3) := by decide +kernel
theorem dX8_readFlow_31 : decode cX8_readFlow 31 = .ok (.iconst 1, 1) := by decide +kernel
theorem dX8_readFlow_32 : decode cX8_readFlow 32 = .ok (.istore_n 1, 1) := by decide +kernel
theorem dX8_readFlow_33 : decode cX8_readFlow 33 = .ok (.iload_n 1, 1) := by decide +kernel
theorem dX8_readFlow_34 : decode cX8_readFlow 34 = .ok (.iconst 4, 1) := by decide +kernel
theorem dX8_readFlow_35 : decode cX8_readFlow 35 = .ok (.if_icmp .gt 34, 3) := by decide +kernel
theorem dX8_readFlow_38 : decode cX8_readFlow 38 = .ok (.aload_n 0, 1) := by decide +kernel
theorem dX8_readFlow_39 : decode cX8_readFlow 39 = .ok (.getfield 29, 3) := by decide +kernel
theorem dX8_readFlow_42 : decode cX8_readFlow 42 = .ok (.ifCond .ne 27, 3) := by decide +kernel
theorem dX8_readFlow_45 : decode cX8_readFlow 45 = .ok (.aload_n 0, 1) := by decide +kernel
theorem dX8_readFlow_46 : decode cX8_readFlow 46 = .ok (.getfield 12, 3) := by decide +kernel
theorem dX8_readFlow_49 : decode cX8_readFlow 49 = .ok (.getfield 68, 3) := by decide +kernel
theorem dX8_readFlow_52 : decode cX8_readFlow 52 = .ok (.sipush 257, 3) := by decide +kernel
theorem dX8_readFlow_55 : decode cX8_readFlow 55 = .ok (.if_icmp .ne 14, 3) := by decide +kernel
theorem dX8_readFlow_58 : decode cX8_readFlow 58 = .ok (.aload_n 0, 1) := by decide +kernel
theorem dX8_readFlow_59 : decode cX8_readFlow 59 = .ok (.iload_n 1, 1) := by decide +kernel
theorem dX8_readFlow_60 : decode cX8_readFlow 60 = .ok (.invokevirtual 171, 3) := by decide +kernel
theorem dX8_readFlow_63 : decode cX8_readFlow 63 = .ok (.iinc 1 1, 3) := by decide +kernel
theorem dX8_readFlow_66 : decode cX8_readFlow 66 = .ok (.goto (-33), 3) := by decide +kernel
theorem dX8_readFlow_69 : decode cX8_readFlow 69 = .ok (.iconst 0, 1) := by decide +kernel
theorem dX8_readFlow_70 : decode cX8_readFlow 70 = .ok (.istore_n 1, 1) := by decide +kernel
theorem dX8_readFlow_71 : decode cX8_readFlow 71 = .ok (.aload_n 0, 1) := by decide +kernel
theorem dX8_readFlow_72 : decode cX8_readFlow 72 = .ok (.getfield 29, 3) := by decide +kernel
theorem dX8_readFlow_75 : decode cX8_readFlow 75 = .ok (.ifCond .ne 30, 3) := by decide +kernel
theorem dX8_readFlow_78 : decode cX8_readFlow 78 = .ok (.aload_n 0, 1) := by decide +kernel
theorem dX8_readFlow_79 : decode cX8_readFlow 79 = .ok (.getfield 12, 3) := by decide +kernel
theorem dX8_readFlow_82 : decode cX8_readFlow 82 = .ok (.ldc 174, 2) := by decide +kernel
theorem dX8_readFlow_84 : decode cX8_readFlow 84 = .ok (.invokevirtual 55, 3) := by decide +kernel
theorem dX8_readFlow_87 : decode cX8_readFlow 87 = .ok (.ifCond .eq 18, 3) := by decide +kernel
theorem dX8_readFlow_90 : decode cX8_readFlow 90 = .ok (.aload_n 0, 1) := by decide +kernel
theorem dX8_readFlow_91 : decode cX8_readFlow 91 = .ok (.getfield 12, 3) := by decide +kernel
theorem dX8_readFlow_94 : decode cX8_readFlow 94 = .ok (.invokevirtual 59, 3) := by decide +kernel
theorem dX8_readFlow_97 : decode cX8_readFlow 97 = .ok (.aload_n 0, 1) := by decide +kernel
theorem dX8_readFlow_98 : decode cX8_readFlow 98 = .ok (.iconst 0, 1) := by decide +kernel
theorem dX8_readFlow_99 : decode cX8_readFlow 99 = .ok (.bipush 99, 2) := by decide +kernel
theorem dX8_readFlow_101 : decode cX8_readFlow 101 = .ok (.invokevirtual 127, 3) := by decide +kernel
theorem dX8_readFlow_104 : decode cX8_readFlow 104 = .ok (.istore_n 1, 1) := by decide +kernel
theorem dX8_readFlow_105 : decode cX8_readFlow 105 = .ok (.aload_n 0, 1) := by decide +kernel
theorem dX8_readFlow_106 : decode cX8_readFlow 106 = .ok (.getfield 29, 3) := by decide +kernel
theorem dX8_readFlow_109 : decode cX8_readFlow 109 = .ok (.ifCond .ne 14, 3) := by decide +kernel
theorem dX8_readFlow_112 : decode cX8_readFlow 112 = .ok (.aload_n 0, 1) := by decide +kernel
theorem dX8_readFlow_113 : decode cX8_readFlow 113 = .ok (.getfield 21, 3) := by decide +kernel
theorem dX8_readFlow_116 : decode cX8_readFlow 116 = .ok (.getfield 162, 3) := by decide +kernel
theorem dX8_readFlow_119 : decode cX8_readFlow 119 = .ok (.iload_n 1, 1) := by decide +kernel
theorem dX8_readFlow_120 : decode cX8_readFlow 120 = .ok (.invokevirtual 176, 3) := by decide +kernel
theorem dX8_readFlow_123 : decode cX8_readFlow 123 = .ok (.return_, 1) := by decide +kernel
theorem dX8_readPlace_0 : decode cX8_readPlace 0 = .ok (.aload_n 0, 1) := by decide +kernel
theorem dX8_readPlace_1 : decode cX8_readPlace 1 = .ok (.iconst 0, 1) := by decide +kernel
theorem dX8_readPlace_2 : decode cX8_readPlace 2 = .ok (.aload_n 0, 1) := by decide +kernel
theorem dX8_readPlace_3 : decode cX8_readPlace 3 = .ok (.getfield 21, 3) := by decide +kernel
theorem dX8_readPlace_6 : decode cX8_readPlace 6 = .ok (.getfield 145, 3) := by decide +kernel
theorem dX8_readPlace_9 : decode cX8_readPlace 9 = .ok (.getfield 149, 3) := by decide +kernel
theorem dX8_readPlace_12 : decode cX8_readPlace 12 = .ok (.iconst 1, 1) := by decide +kernel
theorem dX8_readPlace_13 : decode cX8_readPlace 13 = .ok (.isub, 1) := by decide +kernel
theorem dX8_readPlace_14 : decode cX8_readPlace 14 = .ok (.invokevirtual 101, 3) := by decide +kernel
theorem dX8_readPlace_17 : decode cX8_readPlace 17 = .ok (.ifCond .ne 4, 3) := by decide +kernel
theorem dX8_readPlace_20 : decode cX8_readPlace 20 = .ok (.return_, 1) := by decide +kernel
theorem dX8_readPlace_21 : decode cX8_readPlace 21 = .ok (.aload_n 0, 1) := by decide +kernel
theorem dX8_readPlace_22 : decode cX8_readPlace 22 = .ok (.getfield 21, 3) := by decide +kernel
theorem dX8_readPlace_25 : decode cX8_readPlace 25 = .ok (.getfield 162, 3) := by decide +kernel
theorem dX8_readPlace_28 : decode cX8_readPlace 28 = .ok (.aload_n 0, 1) := by decide +kernel
theorem dX8_readPlace_29 : decode cX8_readPlace 29 = .ok (.getfield 12, 3) := by decide +kernel
theorem dX8_readPlace_32 : decode cX8_readPlace 32 = .ok (.getfield 98, 3) := by decide +kernel
theorem dX8_readPlace_35 : decode cX8_readPlace 35 = .ok (.invokevirtual 179, 3) := by decide +kernel
theorem dX8_readPlace_38 : decode cX8_readPlace 38 = .ok (.ifCond .eq 12, 3) := by decide +kernel
theorem dX8_readPlace_41 : decode cX8_readPlace 41 = .ok (.aload_n 0, 1) := by decide +kernel
theorem dX8_readPlace_42 : decode cX8_readPlace 42 = .ok (.bipush (-4), 2) := by decide +kernel
theorem dX8_readPlace_44 : decode cX8_readPlace 44 = .ok (.invokevirtual 65, 3) := by decide +kernel
theorem dX8_readPlace_47 : decode cX8_readPlace 47 = .ok (.goto 41, 3) := by decide +kernel
theorem dX8_readPlace_50 : decode cX8_readPlace 50 = .ok (.iload_n 1, 1) := by decide +kernel
theorem dX8_readPlace_51 : decode cX8_readPlace 51 = .ok (.iconst 4, 1) := by decide +kernel
theorem dX8_readPlace_52 : decode cX8_readPlace 52 = .ok (.if_icmp .lt 12, 3) := by decide +kernel
theorem dX8_readPlace_55 : decode cX8_readPlace 55 = .ok (.aload_n 0, 1) := by decide +kernel
theorem dX8_readPlace_56 : decode cX8_readPlace 56 = .ok (.bipush (-5), 2) := by decide +kernel
theorem dX8_readPlace_58 : decode cX8_readPlace 58 = .ok (.invokevirtual 65, 3) := by decide +kernel
theorem dX8_readPlace_61 : decode cX8_readPlace 61 = .ok (.goto 27, 3) := by decide +kernel
theorem dX8_readPlace_64 : decode cX8_readPlace 64 = .ok (.aload_n 0, 1) := by decide +kernel
theorem dX8_readPlace_65 : decode cX8_readPlace 65 = .ok (.getfield 21, 3) := by decide +kernel
theorem dX8_readPlace_68 : decode cX8_readPlace 68 = .ok (.getfield 162, 3) := by decide +kernel
theorem dX8_readPlace_71 : decode cX8_readPlace 71 = .ok (.aload_n 0, 1) := by decide +kernel
theorem dX8_readPlace_72 : decode cX8_readPlace 72 = .ok (.getfield 12, 3) := by decide +kernel
theorem dX8_readPlace_75 : decode cX8_readPlace 75 = .ok (.getfield 98, 3) := by decide +kernel
theorem dX8_readPlace_78 : decode cX8_readPlace 78 = .ok (.invokevirtual 183, 3) := by decide +kernel
theorem dX8_readPlace_81 : decode cX8_readPlace 81 = .ok (.aload_n 0, 1) := by decide +kernel
theorem dX8_readPlace_82 : decode cX8_readPlace 82 = .ok (.getfield 12, 3) := by decide +kernel
theorem dX8_readPlace_85 : decode cX8_readPlace 85 = .ok (.invokevirtual 59, 3) := by decide +kernel
theorem dX8_readPlace_88 : decode cX8_readPlace 88 = .ok (.return_, 1) := by decide +kernel
theorem dX8_readPacket_0 : decode cX8_readPacket 0 = .ok (.aload_n 0, 1) := by decide +kernel
theorem dX8_readPacket_1 : decode cX8_readPacket 1 = .ok (.aload_n 0, 1) := by decide +kernel
theorem dX8_readPacket_2 : decode cX8_readPacket 2 = .ok (.getfield 21, 3) := by decide +kernel
theorem dX8_readPacket_5 : decode cX8_readPacket 5 = .ok (.getfield 186, 3) := by decide +kernel
theorem dX8_readPacket_8 : decode cX8_readPacket 8 = .ok (.getfield 190, 3) := by decide +kernel
theorem dX8_readPacket_11 : decode cX8_readPacket 11 = .ok (.bipush 40, 2) := by decide +kernel
theorem dX8_readPacket_13 : decode cX8_readPacket 13 = .ok (.invokevirtual 154, 3) := by decide +kernel
theorem dX8_readPacket_16 : decode cX8_readPacket 16 = .ok (.aload_n 0, 1) := by decide +kernel
theorem dX8_readPacket_17 : decode cX8_readPacket 17 = .ok (.iconst 0, 1) := by decide +kernel
theorem dX8_readPacket_18 : decode cX8_readPacket 18 = .ok (.aload_n 0, 1) := by decide +kernel
theorem dX8_readPacket_19 : decode cX8_readPacket 19 = .ok (.getfield 21, 3) := by decide +kernel
theorem dX8_readPacket_22 : decode cX8_readPacket 22 = .ok (.getfield 162, 3) := by decide +kernel
theorem dX8_readPacket_25 : decode cX8_readPacket 25 = .ok (.getfield 166, 3) := by decide +kernel
theorem dX8_readPacket_28 : decode cX8_readPacket 28 = .ok (.iconst 1, 1) := by decide +kernel
theorem dX8_readPacket_29 : decode cX8_readPacket 29 = .ok (.isub, 1) := by decide +kernel
theorem dX8_readPacket_30 : decode cX8_readPacket 30 = .ok (.invokevirtual 127, 3) := by decide +kernel
theorem dX8_readPacket_33 : decode cX8_readPacket 33 = .ok (.istore_n 1, 1) := by decide +kernel
theorem dX8_readPacket_34 : decode cX8_readPacket 34 = .ok (.aload_n 0, 1) := by decide +kernel
theorem dX8_readPacket_35 : decode cX8_readPacket 35 = .ok (.iconst 0, 1) := by decide +kernel
theorem dX8_readPacket_36 : decode cX8_readPacket 36 = .ok (.sipush 999, 3) := by decide +kernel
theorem dX8_readPacket_39 : decode cX8_readPacket 39 = .ok (.invokevirtual 127, 3) := by decide +kernel
theorem dX8_readPacket_42 : decode cX8_readPacket 42 = .ok (.istore_n 2, 1) := by decide +kernel
theorem dX8_readPacket_43 : decode cX8_readPacket 43 = .ok (.aload_n 0, 1) := by decide +kernel
theorem dX8_readPacket_44 : decode cX8_readPacket 44 = .ok (.iconst 1, 1) := by decide +kernel
theorem dX8_readPacket_45 : decode cX8_readPacket 45 = .ok (.sipush 999, 3) := by decide +kernel
theorem dX8_readPacket_48 : decode cX8_readPacket 48 = .ok (.invokevirtual 127, 3) := by decide +kernel
theorem dX8_readPacket_51 : decode cX8_readPacket 51 = .ok (.istore_n 3, 1) := by decide +kernel
theorem dX8_readPacket_52 : decode cX8_readPacket 52 = .ok (.aload_n 0, 1) := by decide +kernel
theorem dX8_readPacket_53 : decode cX8_readPacket 53 = .ok (.getfield 29, 3) := by decide +kernel
theorem dX8_readPacket_56 : decode cX8_readPacket 56 = .ok (.ifCond .ne 16, 3) := by decide +kernel
theorem dX8_readPacket_59 : decode cX8_readPacket 59 = .ok (.aload_n 0, 1) := by decide +kernel
theorem dX8_readPacket_60 : decode cX8_readPacket 60 = .ok (.getfield 21, 3) := by decide +kernel
theorem dX8_readPacket_63 : decode cX8_readPacket 63 = .ok (.getfield 186, 3) := by decide +kernel
theorem dX8_readPacket_66 : decode cX8_readPacket 66 = .ok (.iload_n 1, 1) := by decide +kernel
theorem dX8_readPacket_67 : decode cX8_readPacket 67 = .ok (.iload_n 2, 1) := by decide +kernel
theorem dX8_readPacket_68 : decode cX8_readPacket 68 = .ok (.iload_n 3, 1) := by decide +kernel
theorem dX8_readPacket_69 : decode cX8_readPacket 69 = .ok (.invokevirtual 193, 3) := by decide +kernel
theorem dX8_readPacket_72 : decode cX8_readPacket 72 = .ok (.return_, 1) := by decide +kernel
theorem dX8_readCoupon_0 : decode cX8_readCoupon 0 = .ok (.aload_n 0, 1) := by decide +kernel
theorem dX8_readCoupon_1 : decode cX8_readCoupon 1 = .ok (.aload_n 0, 1) := by decide +kernel
theorem dX8_readCoupon_2 : decode cX8_readCoupon 2 = .ok (.getfield 21, 3) := by decide +kernel
theorem dX8_readCoupon_5 : decode cX8_readCoupon 5 = .ok (.getfield 194, 3) := by decide +kernel
theorem dX8_readCoupon_8 : decode cX8_readCoupon 8 = .ok (.getfield 198, 3) := by decide +kernel
theorem dX8_readCoupon_11 : decode cX8_readCoupon 11 = .ok (.bipush 30, 2) := by decide +kernel
theorem dX8_readCoupon_13 : decode cX8_readCoupon 13 = .ok (.invokevirtual 154, 3) := by decide +kernel
theorem dX8_readCoupon_16 : decode cX8_readCoupon 16 = .ok (.aload_n 0, 1) := by decide +kernel
theorem dX8_readCoupon_17 : decode cX8_readCoupon 17 = .ok (.iconst 0, 1) := by decide +kernel
theorem dX8_readCoupon_18 : decode cX8_readCoupon 18 = .ok (.aload_n 0, 1) := by decide +kernel
theorem dX8_readCoupon_19 : decode cX8_readCoupon 19 = .ok (.getfield 21, 3) := by decide +kernel
theorem dX8_readCoupon_22 : decode cX8_readCoupon 22 = .ok (.getfield 162, 3) := by decide +kernel
theorem dX8_readCoupon_25 : decode cX8_readCoupon 25 = .ok (.getfield 166, 3) := by decide +kernel
theorem dX8_readCoupon_28 : decode cX8_readCoupon 28 = .ok (.iconst 1, 1) := by decide +kernel
theorem dX8_readCoupon_29 : decode cX8_readCoupon 29 = .ok (.isub, 1) := by decide +kernel
theorem dX8_readCoupon_30 : decode cX8_readCoupon 30 = .ok (.invokevirtual 127, 3) := by decide +kernel
theorem dX8_readCoupon_33 : decode cX8_readCoupon 33 = .ok (.istore_n 1, 1) := by decide +kernel
theorem dX8_readCoupon_34 : decode cX8_readCoupon 34 = .ok (.aload_n 0, 1) := by decide +kernel
theorem dX8_readCoupon_35 : decode cX8_readCoupon 35 = .ok (.iconst 1, 1) := by decide +kernel
theorem dX8_readCoupon_36 : decode cX8_readCoupon 36 = .ok (.sipush 9999, 3) := by decide +kernel
theorem dX8_readCoupon_39 : decode cX8_readCoupon 39 = .ok (.invokevirtual 127, 3) := by decide +kernel
theorem dX8_readCoupon_42 : decode cX8_readCoupon 42 = .ok (.istore_n 2, 1) := by decide +kernel
theorem dX8_readCoupon_43 : decode cX8_readCoupon 43 = .ok (.aload_n 0, 1) := by decide +kernel
theorem dX8_readCoupon_44 : decode cX8_readCoupon 44 = .ok (.iconst 1, 1) := by decide +kernel
theorem dX8_readCoupon_45 : decode cX8_readCoupon 45 = .ok (.sipush 9999, 3) := by decide +kernel
theorem dX8_readCoupon_48 : decode cX8_readCoupon 48 = .ok (.invokevirtual 127, 3) := by decide +kernel
theorem dX8_readCoupon_51 : decode cX8_readCoupon 51 = .ok (.istore_n 3, 1) := by decide +kernel
theorem dX8_readCoupon_52 : decode cX8_readCoupon 52 = .ok (.aload_n 0, 1) := by decide +kernel
theorem dX8_readCoupon_53 : decode cX8_readCoupon 53 = .ok (.getfield 29, 3) := by decide +kernel
theorem dX8_readCoupon_56 : decode cX8_readCoupon 56 = .ok (.ifCond .ne 16, 3) := by decide +kernel
theorem dX8_readCoupon_59 : decode cX8_readCoupon 59 = .ok (.aload_n 0, 1) := by decide +kernel
theorem dX8_readCoupon_60 : decode cX8_readCoupon 60 = .ok (.getfield 21, 3) := by decide +kernel
theorem dX8_readCoupon_63 : decode cX8_readCoupon 63 = .ok (.getfield 194, 3) := by decide +kernel
theorem dX8_readCoupon_66 : decode cX8_readCoupon 66 = .ok (.iload_n 1, 1) := by decide +kernel
theorem dX8_readCoupon_67 : decode cX8_readCoupon 67 = .ok (.iload_n 2, 1) := by decide +kernel
theorem dX8_readCoupon_68 : decode cX8_readCoupon 68 = .ok (.iload_n 3, 1) := by decide +kernel
theorem dX8_readCoupon_69 : decode cX8_readCoupon 69 = .ok (.invokevirtual 201, 3) := by decide +kernel
theorem dX8_readCoupon_72 : decode cX8_readCoupon 72 = .ok (.return_, 1) := by decide +kernel
theorem dX8_readSum_0 : decode cX8_readSum 0 = .ok (.aload_n 0, 1) := by decide +kernel
theorem dX8_readSum_1 : decode cX8_readSum 1 = .ok (.iload_n 1, 1) := by decide +kernel
theorem dX8_readSum_2 : decode cX8_readSum 2 = .ok (.invokevirtual 202, 3) := by decide +kernel
theorem dX8_readSum_5 : decode cX8_readSum 5 = .ok (.iconst 0, 1) := by decide +kernel
theorem dX8_readSum_6 : decode cX8_readSum 6 = .ok (.istore_n 2, 1) := by decide +kernel
theorem dX8_readSum_7 : decode cX8_readSum 7 = .ok (.iload_n 2, 1) := by decide +kernel
theorem dX8_readSum_8 : decode cX8_readSum 8 = .ok (.sipush 700, 3) := by decide +kernel
theorem dX8_readSum_11 : decode cX8_readSum 11 = .ok (.if_icmp .ge 63, 3) := by decide +kernel
theorem dX8_readSum_14 : decode cX8_readSum 14 = .ok (.aload_n 0, 1) := by decide +kernel
theorem dX8_readSum_15 : decode cX8_readSum 15 = .ok (.getfield 29, 3) := by decide +kernel
theorem dX8_readSum_18 : decode cX8_readSum 18 = .ok (.ifCond .ne 56, 3) := by decide +kernel
theorem dX8_readSum_21 : decode cX8_readSum 21 = .ok (.aload_n 0, 1) := by decide +kernel
theorem dX8_readSum_22 : decode cX8_readSum 22 = .ok (.bipush 43, 2) := by decide +kernel
theorem dX8_readSum_24 : decode cX8_readSum 24 = .ok (.bipush 45, 2) := by decide +kernel
theorem dX8_readSum_26 : decode cX8_readSum 26 = .ok (.invokevirtual 205, 3) := by decide +kernel
theorem dX8_readSum_29 : decode cX8_readSum 29 = .ok (.ifCond .eq 45, 3) := by decide +kernel
theorem dX8_readSum_32 : decode cX8_readSum 32 = .ok (.aload_n 0, 1) := by decide +kernel
theorem dX8_readSum_33 : decode cX8_readSum 33 = .ok (.getfield 12, 3) := by decide +kernel
theorem dX8_readSum_36 : decode cX8_readSum 36 = .ok (.getfield 68, 3) := by decide +kernel
theorem dX8_readSum_39 : decode cX8_readSum 39 = .ok (.bipush 43, 2) := by decide +kernel
theorem dX8_readSum_41 : decode cX8_readSum 41 = .ok (.if_icmp .ne 7, 3) := by decide +kernel
theorem dX8_readSum_44 : decode cX8_readSum 44 = .ok (.iconst (-1), 1) := by decide +kernel
theorem dX8_readSum_45 : decode cX8_readSum 45 = .ok (.goto 5, 3) := by decide +kernel
theorem dX8_readSum_48 : decode cX8_readSum 48 = .ok (.bipush (-2), 2) := by decide +kernel
theorem dX8_readSum_50 : decode cX8_readSum 50 = .ok (.istore_n 3, 1) := by decide +kernel
theorem dX8_readSum_51 : decode cX8_readSum 51 = .ok (.aload_n 0, 1) := by decide +kernel
theorem dX8_readSum_52 : decode cX8_readSum 52 = .ok (.getfield 12, 3) := by decide +kernel
theorem dX8_readSum_55 : decode cX8_readSum 55 = .ok (.invokevirtual 59, 3) := by decide +kernel
theorem dX8_readSum_58 : decode cX8_readSum 58 = .ok (.aload_n 0, 1) := by decide +kernel
theorem dX8_readSum_59 : decode cX8_readSum 59 = .ok (.iload_n 1, 1) := by decide +kernel
theorem dX8_readSum_60 : decode cX8_readSum 60 = .ok (.invokevirtual 202, 3) := by decide +kernel
theorem dX8_readSum_63 : decode cX8_readSum 63 = .ok (.aload_n 0, 1) := by decide +kernel
theorem dX8_readSum_64 : decode cX8_readSum 64 = .ok (.iload_n 3, 1) := by decide +kernel
theorem dX8_readSum_65 : decode cX8_readSum 65 = .ok (.invokevirtual 208, 3) := by decide +kernel
theorem dX8_readSum_68 : decode cX8_readSum 68 = .ok (.iinc 2 1, 3) := by decide +kernel
theorem dX8_readSum_71 : decode cX8_readSum 71 = .ok (.goto (-64), 3) := by decide +kernel
theorem dX8_readSum_74 : decode cX8_readSum 74 = .ok (.return_, 1) := by decide +kernel
theorem dX8_readTerm_0 : decode cX8_readTerm 0 = .ok (.aload_n 0, 1) := by decide +kernel
theorem dX8_readTerm_1 : decode cX8_readTerm 1 = .ok (.iload_n 1, 1) := by decide +kernel
theorem dX8_readTerm_2 : decode cX8_readTerm 2 = .ok (.invokevirtual 211, 3) := by decide +kernel
theorem dX8_readTerm_5 : decode cX8_readTerm 5 = .ok (.iconst 0, 1) := by decide +kernel
theorem dX8_readTerm_6 : decode cX8_readTerm 6 = .ok (.istore_n 2, 1) := by decide +kernel
theorem dX8_readTerm_7 : decode cX8_readTerm 7 = .ok (.iload_n 2, 1) := by decide +kernel
theorem dX8_readTerm_8 : decode cX8_readTerm 8 = .ok (.sipush 700, 3) := by decide +kernel
theorem dX8_readTerm_11 : decode cX8_readTerm 11 = .ok (.if_icmp .ge 64, 3) := by decide +kernel
theorem dX8_readTerm_14 : decode cX8_readTerm 14 = .ok (.aload_n 0, 1) := by decide +kernel
theorem dX8_readTerm_15 : decode cX8_readTerm 15 = .ok (.getfield 29, 3) := by decide +kernel
theorem dX8_readTerm_18 : decode cX8_readTerm 18 = .ok (.ifCond .ne 57, 3) := by decide +kernel
theorem dX8_readTerm_21 : decode cX8_readTerm 21 = .ok (.aload_n 0, 1) := by decide +kernel
theorem dX8_readTerm_22 : decode cX8_readTerm 22 = .ok (.bipush 42, 2) := by decide +kernel
theorem dX8_readTerm_24 : decode cX8_readTerm 24 = .ok (.bipush 47, 2) := by decide +kernel
theorem dX8_readTerm_26 : decode cX8_readTerm 26 = .ok (.invokevirtual 205, 3) := by decide +kernel
theorem dX8_readTerm_29 : decode cX8_readTerm 29 = .ok (.ifCond .eq 46, 3) := by decide +kernel
theorem dX8_readTerm_32 : decode cX8_readTerm 32 = .ok (.aload_n 0, 1) := by decide +kernel
theorem dX8_readTerm_33 : decode cX8_readTerm 33 = .ok (.getfield 12, 3) := by decide +kernel
theorem dX8_readTerm_36 : decode cX8_readTerm 36 = .ok (.getfield 68, 3) := by decide +kernel
theorem dX8_readTerm_39 : decode cX8_readTerm 39 = .ok (.bipush 42, 2) := by decide +kernel
theorem dX8_readTerm_41 : decode cX8_readTerm 41 = .ok (.if_icmp .ne 8, 3) := by decide +kernel
theorem dX8_readTerm_44 : decode cX8_readTerm 44 = .ok (.bipush (-3), 2) := by decide +kernel
theorem dX8_readTerm_46 : decode cX8_readTerm 46 = .ok (.goto 5, 3) := by decide +kernel
theorem dX8_readTerm_49 : decode cX8_readTerm 49 = .ok (.bipush (-4), 2) := by decide +kernel
theorem dX8_readTerm_51 : decode cX8_readTerm 51 = .ok (.istore_n 3, 1) := by decide +kernel
theorem dX8_readTerm_52 : decode cX8_readTerm 52 = .ok (.aload_n 0, 1) := by decide +kernel
theorem dX8_readTerm_53 : decode cX8_readTerm 53 = .ok (.getfield 12, 3) := by decide +kernel
theorem dX8_readTerm_56 : decode cX8_readTerm 56 = .ok (.invokevirtual 59, 3) := by decide +kernel
theorem dX8_readTerm_59 : decode cX8_readTerm 59 = .ok (.aload_n 0, 1) := by decide +kernel
theorem dX8_readTerm_60 : decode cX8_readTerm 60 = .ok (.iload_n 1, 1) := by decide +kernel
theorem dX8_readTerm_61 : decode cX8_readTerm 61 = .ok (.invokevirtual 211, 3) := by decide +kernel
theorem dX8_readTerm_64 : decode cX8_readTerm 64 = .ok (.aload_n 0, 1) := by decide +kernel
theorem dX8_readTerm_65 : decode cX8_readTerm 65 = .ok (.iload_n 3, 1) := by decide +kernel
theorem dX8_readTerm_66 : decode cX8_readTerm 66 = .ok (.invokevirtual 208, 3) := by decide +kernel
theorem dX8_readTerm_69 : decode cX8_readTerm 69 = .ok (.iinc 2 1, 3) := by decide +kernel
theorem dX8_readTerm_72 : decode cX8_readTerm 72 = .ok (.goto (-65), 3) := by decide +kernel
theorem dX8_readTerm_75 : decode cX8_readTerm 75 = .ok (.return_, 1) := by decide +kernel
theorem dX8_isEither_0 : decode cX8_isEither 0 = .ok (.aload_n 0, 1) := by decide +kernel
theorem dX8_isEither_1 : decode cX8_isEither 1 = .ok (.getfield 12, 3) := by decide +kernel
theorem dX8_isEither_4 : decode cX8_isEither 4 = .ok (.getfield 68, 3) := by decide +kernel
theorem dX8_isEither_7 : decode cX8_isEither 7 = .ok (.iload_n 1, 1) := by decide +kernel
theorem dX8_isEither_8 : decode cX8_isEither 8 = .ok (.if_icmp .eq 14, 3) := by decide +kernel
theorem dX8_isEither_11 : decode cX8_isEither 11 = .ok (.aload_n 0, 1) := by decide +kernel
theorem dX8_isEither_12 : decode cX8_isEither 12 = .ok (.getfield 12, 3) := by decide +kernel
theorem dX8_isEither_15 : decode cX8_isEither 15 = .ok (.getfield 68, 3) := by decide +kernel
theorem dX8_isEither_18 : decode cX8_isEither 18 = .ok (.iload_n 2, 1) := by decide +kernel
theorem dX8_isEither_19 : decode cX8_isEither 19 = .ok (.if_icmp .ne 7, 3) := by decide +kernel
theorem dX8_isEither_22 : decode cX8_isEither 22 = .ok (.iconst 1, 1) := by decide +kernel
theorem dX8_isEither_23 : decode cX8_isEither 23 = .ok (.goto 4, 3) := by decide +kernel
theorem dX8_isEither_26 : decode cX8_isEither 26 = .ok (.iconst 0, 1) := by decide +kernel
theorem dX8_isEither_27 : decode cX8_isEither 27 = .ok (.ireturn, 1) := by decide +kernel
theorem dX8_readFactor_0 : decode cX8_readFactor 0 = .ok (.aload_n 0, 1) := by decide +kernel
theorem dX8_readFactor_1 : decode cX8_readFactor 1 = .ok (.getfield 12, 3) := by decide +kernel
theorem dX8_readFactor_4 : decode cX8_readFactor 4 = .ok (.getfield 68, 3) := by decide +kernel
theorem dX8_readFactor_7 : decode cX8_readFactor 7 = .ok (.bipush 40, 2) := by decide +kernel
theorem dX8_readFactor_9 : decode cX8_readFactor 9 = .ok (.if_icmp .ne 36, 3) := by decide +kernel
theorem dX8_readFactor_12 : decode cX8_readFactor 12 = .ok (.iload_n 1, 1) := by decide +kernel
theorem dX8_readFactor_13 : decode cX8_readFactor 13 = .ok (.iconst 4, 1) := by decide +kernel
theorem dX8_readFactor_14 : decode cX8_readFactor 14 = .ok (.if_icmp .lt 10, 3) := by decide +kernel
theorem dX8_readFactor_17 : decode cX8_readFactor 17 = .ok (.aload_n 0, 1) := by decide +kernel
theorem dX8_readFactor_18 : decode cX8_readFactor 18 = .ok (.bipush (-6), 2) := by decide +kernel
theorem dX8_readFactor_20 : decode cX8_readFactor 20 = .ok (.invokevirtual 65, 3) := by decide +kernel
theorem dX8_readFactor_23 : decode cX8_readFactor 23 = .ok (.return_, 1) := by decide +kernel
theorem dX8_readFactor_24 : decode cX8_readFactor 24 = .ok (.aload_n 0, 1) := by decide +kernel
theorem dX8_readFactor_25 : decode cX8_readFactor 25 = .ok (.getfield 12, 3) := by decide +kernel
theorem dX8_readFactor_28 : decode cX8_readFactor 28 = .ok (.invokevirtual 59, 3) := by decide +kernel
theorem dX8_readFactor_31 : decode cX8_readFactor 31 = .ok (.aload_n 0, 1) := by decide +kernel
theorem dX8_readFactor_32 : decode cX8_readFactor 32 = .ok (.iload_n 1, 1) := by decide +kernel
theorem dX8_readFactor_33 : decode cX8_readFactor 33 = .ok (.iconst 1, 1) := by decide +kernel
theorem dX8_readFactor_34 : decode cX8_readFactor 34 = .ok (.iadd, 1) := by decide +kernel
theorem dX8_readFactor_35 : decode cX8_readFactor 35 = .ok (.invokevirtual 142, 3) := by decide +kernel
theorem dX8_readFactor_38 : decode cX8_readFactor 38 = .ok (.aload_n 0, 1) := by decide +kernel
theorem dX8_readFactor_39 : decode cX8_readFactor 39 = .ok (.bipush 41, 2) := by decide +kernel
theorem dX8_readFactor_41 : decode cX8_readFactor 41 = .ok (.invokevirtual 62, 3) := by decide +kernel
theorem dX8_readFactor_44 : decode cX8_readFactor 44 = .ok (.return_, 1) := by decide +kernel
theorem dX8_readFactor_45 : decode cX8_readFactor 45 = .ok (.aload_n 0, 1) := by decide +kernel
theorem dX8_readFactor_46 : decode cX8_readFactor 46 = .ok (.getfield 12, 3) := by decide +kernel
theorem dX8_readFactor_49 : decode cX8_readFactor 49 = .ok (.ldc 214, 2) := by decide +kernel
theorem dX8_readFactor_51 : decode cX8_readFactor 51 = .ok (.invokevirtual 55, 3) := by decide +kernel
theorem dX8_readFactor_54 : decode cX8_readFactor 54 = .ok (.ifCond .eq 9, 3) := by decide +kernel
theorem dX8_readFactor_57 : decode cX8_readFactor 57 = .ok (.bipush (-5), 2) := by decide +kernel
theorem dX8_readFactor_59 : decode cX8_readFactor 59 = .ok (.istore_n 2, 1) := by decide +kernel
theorem dX8_readFactor_60 : decode cX8_readFactor 60 = .ok (.goto 80, 3) := by decide +kernel
theorem dX8_readFactor_63 : decode cX8_readFactor 63 = .ok (.aload_n 0, 1) := by decide +kernel
theorem dX8_readFactor_64 : decode cX8_readFactor 64 = .ok (.getfield 12, 3) := by decide +kernel
theorem dX8_readFactor_67 : decode cX8_readFactor 67 = .ok (.ldc 105, 2) := by decide +kernel
theorem dX8_readFactor_69 : decode cX8_readFactor 69 = .ok (.invokevirtual 55, 3) := by decide +kernel
theorem dX8_readFactor_72 : decode cX8_readFactor 72 = .ok (.ifCond .eq 9, 3) := by decide +kernel
theorem dX8_readFactor_75 : decode cX8_readFactor 75 = .ok (.bipush (-6), 2) := by decide +kernel
theorem dX8_readFactor_77 : decode cX8_readFactor 77 = .ok (.istore_n 2, 1) := by decide +kernel
theorem dX8_readFactor_78 : decode cX8_readFactor 78 = .ok (.goto 62, 3) := by decide +kernel
theorem dX8_readFactor_81 : decode cX8_readFactor 81 = .ok (.aload_n 0, 1) := by decide +kernel
theorem dX8_readFactor_82 : decode cX8_readFactor 82 = .ok (.getfield 12, 3) := by decide +kernel
theorem dX8_readFactor_85 : decode cX8_readFactor 85 = .ok (.ldc 216, 2) := by decide +kernel
theorem dX8_readFactor_87 : decode cX8_readFactor 87 = .ok (.invokevirtual 55, 3) := by decide +kernel
theorem dX8_readFactor_90 : decode cX8_readFactor 90 = .ok (.ifCond .eq 9, 3) := by decide +kernel
theorem dX8_readFactor_93 : decode cX8_readFactor 93 = .ok (.bipush (-7), 2) := by decide +kernel
theorem dX8_readFactor_95 : decode cX8_readFactor 95 = .ok (.istore_n 2, 1) := by decide +kernel
theorem dX8_readFactor_96 : decode cX8_readFactor 96 = .ok (.goto 44, 3) := by decide +kernel
theorem dX8_readFactor_99 : decode cX8_readFactor 99 = .ok (.aload_n 0, 1) := by decide +kernel
theorem dX8_readFactor_100 : decode cX8_readFactor 100 = .ok (.getfield 12, 3) := by decide +kernel
theorem dX8_readFactor_103 : decode cX8_readFactor 103 = .ok (.ldc 218, 2) := by decide +kernel
theorem dX8_readFactor_105 : decode cX8_readFactor 105 = .ok (.invokevirtual 55, 3) := by decide +kernel
theorem dX8_readFactor_108 : decode cX8_readFactor 108 = .ok (.ifCond .eq 9, 3) := by decide +kernel
theorem dX8_readFactor_111 : decode cX8_readFactor 111 = .ok (.bipush (-8), 2) := by decide +kernel
theorem dX8_readFactor_113 : decode cX8_readFactor 113 = .ok (.istore_n 2, 1) := by decide +kernel
theorem dX8_readFactor_114 : decode cX8_readFactor 114 = .ok (.goto 26, 3) := by decide +kernel
theorem dX8_readFactor_117 : decode cX8_readFactor 117 = .ok (.aload_n 0, 1) := by decide +kernel
theorem dX8_readFactor_118 : decode cX8_readFactor 118 = .ok (.iconst 0, 1) := by decide +kernel
theorem dX8_readFactor_119 : decode cX8_readFactor 119 = .ok (.sipush 9999, 3) := by decide +kernel
theorem dX8_readFactor_122 : decode cX8_readFactor 122 = .ok (.invokevirtual 101, 3) := by decide +kernel
theorem dX8_readFactor_125 : decode cX8_readFactor 125 = .ok (.ifCond .eq 14, 3) := by decide +kernel
theorem dX8_readFactor_128 : decode cX8_readFactor 128 = .ok (.aload_n 0, 1) := by decide +kernel
theorem dX8_readFactor_129 : decode cX8_readFactor 129 = .ok (.getfield 12, 3) := by decide +kernel
theorem dX8_readFactor_132 : decode cX8_readFactor 132 = .ok (.getfield 98, 3) := by decide +kernel
theorem dX8_readFactor_135 : decode cX8_readFactor 135 = .ok (.istore_n 2, 1) := by decide +kernel
theorem dX8_readFactor_136 : decode cX8_readFactor 136 = .ok (.goto 4, 3) := by decide +kernel
theorem dX8_readFactor_139 : decode cX8_readFactor 139 = .ok (.return_, 1) := by decide +kernel
theorem dX8_readFactor_140 : decode cX8_readFactor 140 = .ok (.aload_n 0, 1) := by decide +kernel
theorem dX8_readFactor_141 : decode cX8_readFactor 141 = .ok (.iload_n 2, 1) := by decide +kernel
theorem dX8_readFactor_142 : decode cX8_readFactor 142 = .ok (.invokevirtual 208, 3) := by decide +kernel
theorem dX8_readFactor_145 : decode cX8_readFactor 145 = .ok (.aload_n 0, 1) := by decide +kernel
theorem dX8_readFactor_146 : decode cX8_readFactor 146 = .ok (.getfield 12, 3) := by decide +kernel
theorem dX8_readFactor_149 : decode cX8_readFactor 149 = .ok (.invokevirtual 59, 3) := by decide +kernel
theorem dX8_readFactor_152 : decode cX8_readFactor 152 = .ok (.return_, 1) := by decide +kernel
theorem dX8_emit_0 : decode cX8_emit 0 = .ok (.aload_n 0, 1) := by decide +kernel
theorem dX8_emit_1 : decode cX8_emit 1 = .ok (.getfield 77, 3) := by decide +kernel
theorem dX8_emit_4 : decode cX8_emit 4 = .ok (.ifCond .lt 35, 3) := by decide +kernel
theorem dX8_emit_7 : decode cX8_emit 7 = .ok (.aload_n 0, 1) := by decide +kernel
theorem dX8_emit_8 : decode cX8_emit 8 = .ok (.getfield 77, 3) := by decide +kernel
theorem dX8_emit_11 : decode cX8_emit 11 = .ok (.aload_n 0, 1) := by decide +kernel
theorem dX8_emit_12 : decode cX8_emit 12 = .ok (.getfield 25, 3) := by decide +kernel
theorem dX8_emit_15 : decode cX8_emit 15 = .ok (.arraylength, 1) := by decide +kernel
theorem dX8_emit_16 : decode cX8_emit 16 = .ok (.if_icmp .ge 23, 3) := by decide +kernel
theorem dX8_emit_19 : decode cX8_emit 19 = .ok (.aload_n 0, 1) := by decide +kernel
theorem dX8_emit_20 : decode cX8_emit 20 = .ok (.getfield 25, 3) := by decide +kernel
theorem dX8_emit_23 : decode cX8_emit 23 = .ok (.aload_n 0, 1) := by decide +kernel
theorem dX8_emit_24 : decode cX8_emit 24 = .ok (.getfield 77, 3) := by decide +kernel
theorem dX8_emit_27 : decode cX8_emit 27 = .ok (.iload_n 1, 1) := by decide +kernel
theorem dX8_emit_28 : decode cX8_emit 28 = .ok (.iastore, 1) := by decide +kernel
theorem dX8_emit_29 : decode cX8_emit 29 = .ok (.aload_n 0, 1) := by decide +kernel
theorem dX8_emit_30 : decode cX8_emit 30 = .ok (.dup, 1) := by decide +kernel
theorem dX8_emit_31 : decode cX8_emit 31 = .ok (.getfield 77, 3) := by decide +kernel
theorem dX8_emit_34 : decode cX8_emit 34 = .ok (.iconst 1, 1) := by decide +kernel
theorem dX8_emit_35 : decode cX8_emit 35 = .ok (.iadd, 1) := by decide +kernel
theorem dX8_emit_36 : decode cX8_emit 36 = .ok (.putfield 77, 3) := by decide +kernel
theorem dX8_emit_39 : decode cX8_emit 39 = .ok (.return_, 1) := by decide +kernel
theorem dX9_init_0 : decode cX9_init 0 = .ok (.aload_n 0, 1) := by decide +kernel
theorem dX9_init_1 : decode cX9_init 1 = .ok (.invokespecial 3, 3) := by decide +kernel
theorem dX9_init_4 : decode cX9_init 4 = .ok (.aload_n 0, 1) := by decide +kernel
theorem dX9_init_5 : decode cX9_init 5 = .ok (.sipush 700, 3) := by decide +kernel
theorem dX9_init_8 : decode cX9_init 8 = .ok (.newarray .byte, 2) := by decide +kernel
theorem dX9_init_10 : decode cX9_init 10 = .ok (.putfield 9, 3) := by decide +kernel
theorem dX9_init_13 : decode cX9_init 13 = .ok (.return_, 1) := by decide +kernel
theorem dX9_put_0 : decode cX9_put 0 = .ok (.bipush 24, 2) := by decide +kernel
theorem dX9_put_2 : decode cX9_put 2 = .ok (.istore_n 2, 1) := by decide +kernel
theorem dX9_put_3 : decode cX9_put 3 = .ok (.iload_n 2, 1) := by decide +kernel
theorem dX9_put_4 : decode cX9_put 4 = .ok (.ifCond .lt 51, 3) := by decide +kernel
theorem dX9_put_7 : decode cX9_put 7 = .ok (.aload_n 0, 1) := by decide +kernel
theorem dX9_put_8 : decode cX9_put 8 = .ok (.getfield 15, 3) := by decide +kernel
theorem dX9_put_11 : decode cX9_put 11 = .ok (.ifCond .lt 38, 3) := by decide +kernel
theorem dX9_put_14 : decode cX9_put 14 = .ok (.aload_n 0, 1) := by decide +kernel
theorem dX9_put_15 : decode cX9_put 15 = .ok (.getfield 15, 3) := by decide +kernel
theorem dX9_put_18 : decode cX9_put 18 = .ok (.aload_n 0, 1) := by decide +kernel
theorem dX9_put_19 : decode cX9_put 19 = .ok (.getfield 9, 3) := by decide +kernel
theorem dX9_put_22 : decode cX9_put 22 = .ok (.arraylength, 1) := by decide +kernel
theorem dX9_put_23 : decode cX9_put 23 = .ok (.if_icmp .ge 26, 3) := by decide +kernel
theorem dX9_put_26 : decode cX9_put 26 = .ok (.aload_n 0, 1) := by decide +kernel
theorem dX9_put_27 : decode cX9_put 27 = .ok (.getfield 9, 3) := by decide +kernel
theorem dX9_put_30 : decode cX9_put 30 = .ok (.aload_n 0, 1) := by decide +kernel
theorem dX9_put_31 : decode cX9_put 31 = .ok (.getfield 15, 3) := by decide +kernel
theorem dX9_put_34 : decode cX9_put 34 = .ok (.iload_n 1, 1) := by decide +kernel
theorem dX9_put_35 : decode cX9_put 35 = .ok (.iload_n 2, 1) := by decide +kernel
theorem dX9_put_36 : decode cX9_put 36 = .ok (.ishr, 1) := by decide +kernel
theorem dX9_put_37 : decode cX9_put 37 = .ok (.i2b, 1) := by decide +kernel
theorem dX9_put_38 : decode cX9_put 38 = .ok (.bastore, 1) := by decide +kernel
theorem dX9_put_39 : decode cX9_put 39 = .ok (.aload_n 0, 1) := by decide +kernel
theorem dX9_put_40 : decode cX9_put 40 = .ok (.dup, 1) := by decide +kernel
theorem dX9_put_41 : decode cX9_put 41 = .ok (.getfield 15, 3) := by decide +kernel
theorem dX9_put_44 : decode cX9_put 44 = .ok (.iconst 1, 1) := by decide +kernel
theorem dX9_put_45 : decode cX9_put 45 = .ok (.iadd, 1) := by decide +kernel
theorem dX9_put_46 : decode cX9_put 46 = .ok (.putfield 15, 3) := by decide +kernel
theorem dX9_put_49 : decode cX9_put 49 = .ok (.iinc 2 (-8), 3) := by decide +kernel
theorem dX9_put_52 : decode cX9_put 52 = .ok (.goto (-49), 3) := by decide +kernel
theorem dX9_put_55 : decode cX9_put 55 = .ok (.return_, 1) := by decide +kernel
theorem dX9_open_0 : decode cX9_open 0 = .ok (.aload_n 0, 1) := by decide +kernel
theorem dX9_open_1 : decode cX9_open 1 = .ok (.iload_n 1, 1) := by decide +kernel
theorem dX9_open_2 : decode cX9_open 2 = .ok (.aload_n 0, 1) := by decide +kernel
theorem dX9_open_3 : decode cX9_open 3 = .ok (.getfield 9, 3) := by decide +kernel
theorem dX9_open_6 : decode cX9_open 6 = .ok (.arraylength, 1) := by decide +kernel
theorem dX9_open_7 : decode cX9_open 7 = .ok (.invokestatic 19, 3) := by decide +kernel
theorem dX9_open_10 : decode cX9_open 10 = .ok (.putfield 25, 3) := by decide +kernel
theorem dX9_open_13 : decode cX9_open 13 = .ok (.aload_n 0, 1) := by decide +kernel
theorem dX9_open_14 : decode cX9_open 14 = .ok (.iconst 0, 1) := by decide +kernel
theorem dX9_open_15 : decode cX9_open 15 = .ok (.putfield 28, 3) := by decide +kernel
theorem dX9_open_18 : decode cX9_open 18 = .ok (.aload_n 0, 1) := by decide +kernel
theorem dX9_open_19 : decode cX9_open 19 = .ok (.invokevirtual 31, 3) := by decide +kernel
theorem dX9_open_22 : decode cX9_open 22 = .ok (.return_, 1) := by decide +kernel
theorem dX9_moveOn_0 : decode cX9_moveOn 0 = .ok (.aload_n 0, 1) := by decide +kernel
theorem dX9_moveOn_1 : decode cX9_moveOn 1 = .ok (.getfield 28, 3) := by decide +kernel
theorem dX9_moveOn_4 : decode cX9_moveOn 4 = .ok (.aload_n 0, 1) := by decide +kernel
theorem dX9_moveOn_5 : decode cX9_moveOn 5 = .ok (.getfield 25, 3) := by decide +kernel
theorem dX9_moveOn_8 : decode cX9_moveOn 8 = .ok (.if_icmp .ge 30, 3) := by decide +kernel
theorem dX9_moveOn_11 : decode cX9_moveOn 11 = .ok (.aload_n 0, 1) := by decide +kernel
theorem dX9_moveOn_12 : decode cX9_moveOn 12 = .ok (.getfield 9, 3) := by decide +kernel
theorem dX9_moveOn_15 : decode cX9_moveOn 15 = .ok (.aload_n 0, 1) := by decide +kernel
theorem dX9_moveOn_16 : decode cX9_moveOn 16 = .ok (.getfield 28, 3) := by decide +kernel
theorem dX9_moveOn_19 : decode cX9_moveOn 19 = .ok (.baload, 1) := by decide +kernel
theorem dX9_moveOn_20 : decode cX9_moveOn 20 = .ok (.bipush 32, 2) := by decide +kernel
theorem dX9_moveOn_22 : decode cX9_moveOn 22 = .ok (.if_icmp .ne 16, 3) := by decide +kernel
theorem dX9_moveOn_25 : decode cX9_moveOn 25 = .ok (.aload_n 0, 1) := by decide +kernel
theorem dX9_moveOn_26 : decode cX9_moveOn 26 = .ok (.dup, 1) := by decide +kernel
theorem dX9_moveOn_27 : decode cX9_moveOn 27 = .ok (.getfield 28, 3) := by decide +kernel
theorem dX9_moveOn_30 : decode cX9_moveOn 30 = .ok (.iconst 1, 1) := by decide +kernel
theorem dX9_moveOn_31 : decode cX9_moveOn 31 = .ok (.iadd, 1) := by decide +kernel
theorem dX9_moveOn_32 : decode cX9_moveOn 32 = .ok (.putfield 28, 3) := by decide +kernel
theorem dX9_moveOn_35 : decode cX9_moveOn 35 = .ok (.goto (-35), 3) := by decide +kernel
theorem dX9_moveOn_38 : decode cX9_moveOn 38 = .ok (.aload_n 0, 1) := by decide +kernel
theorem dX9_moveOn_39 : decode cX9_moveOn 39 = .ok (.aload_n 0, 1) := by decide +kernel
theorem dX9_moveOn_40 : decode cX9_moveOn 40 = .ok (.getfield 28, 3) := by decide +kernel
theorem dX9_moveOn_43 : decode cX9_moveOn 43 = .ok (.putfield 34, 3) := by decide +kernel
theorem dX9_moveOn_46 : decode cX9_moveOn 46 = .ok (.aload_n 0, 1) := by decide +kernel
theorem dX9_moveOn_47 : decode cX9_moveOn 47 = .ok (.iconst (-1), 1) := by decide +kernel
theorem dX9_moveOn_48 : decode cX9_moveOn 48 = .ok (.putfield 37, 3) := by decide +kernel
theorem dX9_moveOn_51 : decode cX9_moveOn 51 = .ok (.aload_n 0, 1) := by decide +kernel
theorem dX9_moveOn_52 : decode cX9_moveOn 52 = .ok (.getfield 28, 3) := by decide +kernel
theorem dX9_moveOn_55 : decode cX9_moveOn 55 = .ok (.aload_n 0, 1) := by decide +kernel
theorem dX9_moveOn_56 : decode cX9_moveOn 56 = .ok (.getfield 25, 3) := by decide +kernel
theorem dX9_moveOn_59 : decode cX9_moveOn 59 = .ok (.if_icmp .lt 4, 3) := by decide +kernel
theorem dX9_moveOn_62 : decode cX9_moveOn 62 = .ok (.return_, 1) := by decide +kernel
theorem dX9_moveOn_63 : decode cX9_moveOn 63 = .ok (.aload_n 0, 1) := by decide +kernel
theorem dX9_moveOn_64 : decode cX9_moveOn 64 = .ok (.aload_n 0, 1) := by decide +kernel
theorem dX9_moveOn_65 : decode cX9_moveOn 65 = .ok (.getfield 9, 3) := by decide +kernel
theorem dX9_moveOn_68 : decode cX9_moveOn 68 = .ok (.aload_n 0, 1) := by decide +kernel
theorem dX9_moveOn_69 : decode cX9_moveOn 69 = .ok (.getfield 28, 3) := by decide +kernel
theorem dX9_moveOn_72 : decode cX9_moveOn 72 = .ok (.baload, 1) := by decide +kernel
theorem dX9_moveOn_73 : decode cX9_moveOn 73 = .ok (.sipush 255, 3) := by decide +kernel
theorem dX9_moveOn_76 : decode cX9_moveOn 76 = .ok (.iand, 1) := by decide +kernel
theorem dX9_moveOn_77 : decode cX9_moveOn 77 = .ok (.putfield 37, 3) := by decide +kernel
theorem dX9_moveOn_80 : decode cX9_moveOn 80 = .ok (.aload_n 0, 1) := by decide +kernel
theorem dX9_moveOn_81 : decode cX9_moveOn 81 = .ok (.getfield 37, 3) := by decide +kernel
theorem dX9_moveOn_84 : decode cX9_moveOn 84 = .ok (.bipush 48, 2) := by decide +kernel
theorem dX9_moveOn_86 : decode cX9_moveOn 86 = .ok (.if_icmp .lt 105, 3) := by decide +kernel
theorem dX9_moveOn_89 : decode cX9_moveOn 89 = .ok (.aload_n 0, 1) := by decide +kernel
theorem dX9_moveOn_90 : decode cX9_moveOn 90 = .ok (.getfield 37, 3) := by decide +kernel
theorem dX9_moveOn_93 : decode cX9_moveOn 93 = .ok (.bipush 57, 2) := by decide +kernel
theorem dX9_moveOn_95 : decode cX9_moveOn 95 = .ok (.if_icmp .gt 96, 3) := by decide +kernel
theorem dX9_moveOn_98 : decode cX9_moveOn 98 = .ok (.aload_n 0, 1) := by decide +kernel
theorem dX9_moveOn_99 : decode cX9_moveOn 99 = .ok (.sipush 257, 3) := by decide +kernel
theorem dX9_moveOn_102 : decode cX9_moveOn 102 = .ok (.putfield 37, 3) := by decide +kernel
theorem dX9_moveOn_105 : decode cX9_moveOn 105 = .ok (.aload_n 0, 1) := by decide +kernel
theorem dX9_moveOn_106 : decode cX9_moveOn 106 = .ok (.iconst 0, 1) := by decide +kernel
theorem dX9_moveOn_107 : decode cX9_moveOn 107 = .ok (.putfield 40, 3) := by decide +kernel
theorem dX9_moveOn_110 : decode cX9_moveOn 110 = .ok (.aload_n 0, 1) := by decide +kernel
theorem dX9_moveOn_111 : decode cX9_moveOn 111 = .ok (.getfield 28, 3) := by decide +kernel
theorem dX9_moveOn_114 : decode cX9_moveOn 114 = .ok (.aload_n 0, 1) := by decide +kernel
theorem dX9_moveOn_115 : decode cX9_moveOn 115 = .ok (.getfield 25, 3) := by decide +kernel
theorem dX9_moveOn_118 : decode cX9_moveOn 118 = .ok (.if_icmp .ge 160, 3) := by decide +kernel
theorem dX9_moveOn_121 : decode cX9_moveOn 121 = .ok (.aload_n 0, 1) := by decide +kernel
theorem dX9_moveOn_122 : decode cX9_moveOn 122 = .ok (.getfield 9, 3) := by decide +kernel
theorem dX9_moveOn_125 : decode cX9_moveOn 125 = .ok (.aload_n 0, 1) := by decide +kernel
theorem dX9_moveOn_126 : decode cX9_moveOn 126 = .ok (.getfield 28, 3) := by decide +kernel
theorem dX9_moveOn_129 : decode cX9_moveOn 129 = .ok (.baload, 1) := by decide +kernel
theorem dX9_moveOn_130 : decode cX9_moveOn 130 = .ok (.bipush 48, 2) := by decide +kernel
theorem dX9_moveOn_132 : decode cX9_moveOn 132 = .ok (.if_icmp .lt 146, 3) := by decide +kernel
theorem dX9_moveOn_135 : decode cX9_moveOn 135 = .ok (.aload_n 0, 1) := by decide +kernel
theorem dX9_moveOn_136 : decode cX9_moveOn 136 = .ok (.getfield 9, 3) := by decide +kernel
theorem dX9_moveOn_139 : decode cX9_moveOn 139 = .ok (.aload_n 0, 1) := by decide +kernel
theorem dX9_moveOn_140 : decode cX9_moveOn 140 = .ok (.getfield 28, 3) := by decide +kernel
theorem dX9_moveOn_143 : decode cX9_moveOn 143 = .ok (.baload, 1) := by decide +kernel
theorem dX9_moveOn_144 : decode cX9_moveOn 144 = .ok (.bipush 57, 2) := by decide +kernel
theorem dX9_moveOn_146 : decode cX9_moveOn 146 = .ok (.if_icmp .gt 132, 3) := by decide +kernel
theorem dX9_moveOn_149 : decode cX9_moveOn 149 = .ok (.aload_n 0, 1) := by decide +kernel
theorem dX9_moveOn_150 : decode cX9_moveOn 150 = .ok (.ldc 43, 2) := by decide +kernel
theorem dX9_moveOn_152 : decode cX9_moveOn 152 = .ok (.aload_n 0, 1) := by decide +kernel
theorem dX9_moveOn_153 : decode cX9_moveOn 153 = .ok (.getfield 40, 3) := by decide +kernel
theorem dX9_moveOn_156 : decode cX9_moveOn 156 = .ok (.bipush 10, 2) := by decide +kernel
theorem dX9_moveOn_158 : decode cX9_moveOn 158 = .ok (.imul, 1) := by decide +kernel
theorem dX9_moveOn_159 : decode cX9_moveOn 159 = .ok (.aload_n 0, 1) := by decide +kernel
theorem dX9_moveOn_160 : decode cX9_moveOn 160 = .ok (.getfield 9, 3) := by decide +kernel
theorem dX9_moveOn_163 : decode cX9_moveOn 163 = .ok (.aload_n 0, 1) := by decide +kernel
theorem dX9_moveOn_164 : decode cX9_moveOn 164 = .ok (.getfield 28, 3) := by decide +kernel
theorem dX9_moveOn_167 : decode cX9_moveOn 167 = .ok (.baload, 1) := by decide +kernel
theorem dX9_moveOn_168 : decode cX9_moveOn 168 = .ok (.iadd, 1) := by decide +kernel
theorem dX9_moveOn_169 : decode cX9_moveOn 169 = .ok (.bipush 48, 2) := by decide +kernel
theorem dX9_moveOn_171 : decode cX9_moveOn 171 = .ok (.isub, 1) := by decide +kernel
theorem dX9_moveOn_172 : decode cX9_moveOn 172 = .ok (.invokestatic 19, 3) := by decide +kernel
theorem dX9_moveOn_175 : decode cX9_moveOn 175 = .ok (.putfield 40, 3) := by decide +kernel
theorem dX9_moveOn_178 : decode cX9_moveOn 178 = .ok (.aload_n 0, 1) := by decide +kernel
theorem dX9_moveOn_179 : decode cX9_moveOn 179 = .ok (.dup, 1) := by decide +kernel
theorem dX9_moveOn_180 : decode cX9_moveOn 180 = .ok (.getfield 28, 3) := by decide +kernel
theorem dX9_moveOn_183 : decode cX9_moveOn 183 = .ok (.iconst 1, 1) := by decide +kernel
theorem dX9_moveOn_184 : decode cX9_moveOn 184 = .ok (.iadd, 1) := by decide +kernel
theorem dX9_moveOn_185 : decode cX9_moveOn 185 = .ok (.putfield 28, 3) := by decide +kernel
theorem dX9_moveOn_188 : decode cX9_moveOn 188 = .ok (.goto (-78), 3) := by decide +kernel
theorem dX9_moveOn_191 : decode cX9_moveOn 191 = .ok (.aload_n 0, 1) := by decide +kernel
theorem dX9_moveOn_192 : decode cX9_moveOn 192 = .ok (.getfield 37, 3) := by decide +kernel
theorem dX9_moveOn_195 : decode cX9_moveOn 195 = .ok (.bipush 97, 2) := by decide +kernel
theorem dX9_moveOn_197 : decode cX9_moveOn 197 = .ok (.if_icmp .lt 71, 3) := by decide +kernel
theorem dX9_moveOn_200 : decode cX9_moveOn 200 = .ok (.aload_n 0, 1) := by decide +kernel
theorem dX9_moveOn_201 : decode cX9_moveOn 201 = .ok (.getfield 37, 3) := by decide +kernel
theorem dX9_moveOn_204 : decode cX9_moveOn 204 = .ok (.bipush 122, 2) := by decide +kernel
theorem dX9_moveOn_206 : decode cX9_moveOn 206 = .ok (.if_icmp .gt 62, 3) := by decide +kernel
theorem dX9_moveOn_209 : decode cX9_moveOn 209 = .ok (.aload_n 0, 1) := by decide +kernel
theorem dX9_moveOn_210 : decode cX9_moveOn 210 = .ok (.sipush 256, 3) := by decide +kernel
theorem dX9_moveOn_213 : decode cX9_moveOn 213 = .ok (.putfield 37, 3) := by decide +kernel
theorem dX9_moveOn_216 : decode cX9_moveOn 216 = .ok (.aload_n 0, 1) := by decide +kernel
theorem dX9_moveOn_217 : decode cX9_moveOn 217 = .ok (.getfield 28, 3) := by decide +kernel
theorem dX9_moveOn_220 : decode cX9_moveOn 220 = .ok (.aload_n 0, 1) := by decide +kernel
theorem dX9_moveOn_221 : decode cX9_moveOn 221 = .ok (.getfield 25, 3) := by decide +kernel
theorem dX9_moveOn_224 : decode cX9_moveOn 224 = .ok (.if_icmp .ge 54, 3) := by decide +kernel
theorem dX9_moveOn_227 : decode cX9_moveOn 227 = .ok (.aload_n 0, 1) := by decide +kernel
theorem dX9_moveOn_228 : decode cX9_moveOn 228 = .ok (.getfield 9, 3) := by decide +kernel
theorem dX9_moveOn_231 : decode cX9_moveOn 231 = .ok (.aload_n 0, 1) := by decide +kernel
theorem dX9_moveOn_232 : decode cX9_moveOn 232 = .ok (.getfield 28, 3) := by decide +kernel
theorem dX9_moveOn_235 : decode cX9_moveOn 235 = .ok (.baload, 1) := by decide +kernel
theorem dX9_moveOn_236 : decode cX9_moveOn 236 = .ok (.bipush 97, 2) := by decide +kernel
theorem dX9_moveOn_238 : decode cX9_moveOn 238 = .ok (.if_icmp .lt 40, 3) := by decide +kernel
theorem dX9_moveOn_241 : decode cX9_moveOn 241 = .ok (.aload_n 0, 1) := by decide +kernel
theorem dX9_moveOn_242 : decode cX9_moveOn 242 = .ok (.getfield 9, 3) := by decide +kernel
theorem dX9_moveOn_245 : decode cX9_moveOn 245 = .ok (.aload_n 0, 1) := by decide +kernel
theorem dX9_moveOn_246 : decode cX9_moveOn 246 = .ok (.getfield 28, 3) := by decide +kernel
theorem dX9_moveOn_249 : decode cX9_moveOn 249 = .ok (.baload, 1) := by decide +kernel
theorem dX9_moveOn_250 : decode cX9_moveOn 250 = .ok (.bipush 122, 2) := by decide +kernel
theorem dX9_moveOn_252 : decode cX9_moveOn 252 = .ok (.if_icmp .gt 26, 3) := by decide +kernel
theorem dX9_moveOn_255 : decode cX9_moveOn 255 = .ok (.aload_n 0, 1) := by decide +kernel
theorem dX9_moveOn_256 : decode cX9_moveOn 256 = .ok (.dup, 1) := by decide +kernel
theorem dX9_moveOn_257 : decode cX9_moveOn 257 = .ok (.getfield 28, 3) := by decide +kernel
theorem dX9_moveOn_260 : decode cX9_moveOn 260 = .ok (.iconst 1, 1) := by decide +kernel
theorem dX9_moveOn_261 : decode cX9_moveOn 261 = .ok (.iadd, 1) := by decide +kernel
theorem dX9_moveOn_262 : decode cX9_moveOn 262 = .ok (.putfield 28, 3) := by decide +kernel
theorem dX9_moveOn_265 : decode cX9_moveOn 265 = .ok (.goto (-49), 3) := by decide +kernel
theorem dX9_moveOn_268 : decode cX9_moveOn 268 = .ok (.aload_n 0, 1) := by decide +kernel
theorem dX9_moveOn_269 : decode cX9_moveOn 269 = .ok (.dup, 1) := by decide +kernel
theorem dX9_moveOn_270 : decode cX9_moveOn 270 = .ok (.getfield 28, 3) := by decide +kernel
theorem dX9_moveOn_273 : decode cX9_moveOn 273 = .ok (.iconst 1, 1) := by decide +kernel
theorem dX9_moveOn_274 : decode cX9_moveOn 274 = .ok (.iadd, 1) := by decide +kernel
theorem dX9_moveOn_275 : decode cX9_moveOn 275 = .ok (.putfield 28, 3) := by decide +kernel
theorem dX9_moveOn_278 : decode cX9_moveOn 278 = .ok (.return_, 1) := by decide +kernel
theorem dX9_isWord_0 : decode cX9_isWord 0 = .ok (.aload_n 0, 1) := by decide +kernel
theorem dX9_isWord_1 : decode cX9_isWord 1 = .ok (.getfield 37, 3) := by decide +kernel
theorem dX9_isWord_4 : decode cX9_isWord 4 = .ok (.sipush 256, 3) := by decide +kernel
theorem dX9_isWord_7 : decode cX9_isWord 7 = .ok (.if_icmp .ne 19, 3) := by decide +kernel
theorem dX9_isWord_10 : decode cX9_isWord 10 = .ok (.aload_n 0, 1) := by decide +kernel
theorem dX9_isWord_11 : decode cX9_isWord 11 = .ok (.getfield 28, 3) := by decide +kernel
theorem dX9_isWord_14 : decode cX9_isWord 14 = .ok (.aload_n 0, 1) := by decide +kernel
theorem dX9_isWord_15 : decode cX9_isWord 15 = .ok (.getfield 34, 3) := by decide +kernel
theorem dX9_isWord_18 : decode cX9_isWord 18 = .ok (.isub, 1) := by decide +kernel
theorem dX9_isWord_19 : decode cX9_isWord 19 = .ok (.aload_n 1, 1) := by decide +kernel
theorem dX9_isWord_20 : decode cX9_isWord 20 = .ok (.invokevirtual 44, 3) := by decide +kernel
theorem dX9_isWord_23 : decode cX9_isWord 23 = .ok (.if_icmp .eq 5, 3) := by decide +kernel
theorem dX9_isWord_26 : decode cX9_isWord 26 = .ok (.iconst 0, 1) := by decide +kernel
theorem dX9_isWord_27 : decode cX9_isWord 27 = .ok (.ireturn, 1) := by decide +kernel
theorem dX9_isWord_28 : decode cX9_isWord 28 = .ok (.iconst 0, 1) := by decide +kernel
theorem dX9_isWord_29 : decode cX9_isWord 29 = .ok (.istore_n 2, 1) := by decide +kernel
theorem dX9_isWord_30 : decode cX9_isWord 30 = .ok (.iload_n 2, 1) := by decide +kernel
theorem dX9_isWord_31 : decode cX9_isWord 31 = .ok (.aload_n 1, 1) := by decide +kernel
theorem dX9_isWord_32 : decode cX9_isWord 32 = .ok (.invokevirtual 44, 3) := by decide +kernel
theorem dX9_isWord_35 : decode cX9_isWord 35 = .ok (.if_icmp .ge 43, 3) := by decide +kernel
theorem dX9_isWord_38 : decode cX9_isWord 38 = .ok (.aload_n 0, 1) := by decide +kernel
theorem dX9_isWord_39 : decode cX9_isWord 39 = .ok (.getfield 34, 3) := by decide +kernel
theorem dX9_isWord_42 : decode cX9_isWord 42 = .ok (.iload_n 2, 1) := by decide +kernel
theorem dX9_isWord_43 : decode cX9_isWord 43 = .ok (.iadd, 1) := by decide +kernel
theorem dX9_isWord_44 : decode cX9_isWord 44 = .ok (.aload_n 0, 1) := by decide +kernel
theorem dX9_isWord_45 : decode cX9_isWord 45 = .ok (.getfield 25, 3) := by decide +kernel
theorem dX9_isWord_48 : decode cX9_isWord 48 = .ok (.if_icmp .ge 22, 3) := by decide +kernel
theorem dX9_isWord_51 : decode cX9_isWord 51 = .ok (.aload_n 0, 1) := by decide +kernel
theorem dX9_isWord_52 : decode cX9_isWord 52 = .ok (.getfield 9, 3) := by decide +kernel
theorem dX9_isWord_55 : decode cX9_isWord 55 = .ok (.aload_n 0, 1) := by decide +kernel
theorem dX9_isWord_56 : decode cX9_isWord 56 = .ok (.getfield 34, 3) := by decide +kernel
theorem dX9_isWord_59 : decode cX9_isWord 59 = .ok (.iload_n 2, 1) := by decide +kernel
theorem dX9_isWord_60 : decode cX9_isWord 60 = .ok (.iadd, 1) := by decide +kernel
theorem dX9_isWord_61 : decode cX9_isWord 61 = .ok (.baload, 1) := by decide +kernel
theorem dX9_isWord_62 : decode cX9_isWord 62 = .ok (.aload_n 1, 1) := by decide +kernel
theorem dX9_isWord_63 : decode cX9_isWord 63 = .ok (.iload_n 2, 1) := by decide +kernel
theorem dX9_isWord_64 : decode cX9_isWord 64 = .ok (.invokevirtual 50, 3) := by decide +kernel
theorem dX9_isWord_67 : decode cX9_isWord 67 = .ok (.if_icmp .eq 5, 3) := by decide +kernel
theorem dX9_isWord_70 : decode cX9_isWord 70 = .ok (.iconst 0, 1) := by decide +kernel
theorem dX9_isWord_71 : decode cX9_isWord 71 = .ok (.ireturn, 1) := by decide +kernel
theorem dX9_isWord_72 : decode cX9_isWord 72 = .ok (.iinc 2 1, 3) := by decide +kernel
theorem dX9_isWord_75 : decode cX9_isWord 75 = .ok (.goto (-45), 3) := by decide +kernel
theorem dX9_isWord_78 : decode cX9_isWord 78 = .ok (.iconst 1, 1) := by decide +kernel
theorem dX9_isWord_79 : decode cX9_isWord 79 = .ok (.ireturn, 1) := by decide +kernel
theorem dX10_init_0 : decode cX10_init 0 = .ok (.aload_n 0, 1) := by decide +kernel
theorem dX10_init_1 : decode cX10_init 1 = .ok (.invokespecial 3, 3) := by decide +kernel
theorem dX10_init_4 : decode cX10_init 4 = .ok (.aload_n 0, 1) := by decide +kernel
theorem dX10_init_5 : decode cX10_init 5 = .ok (.new 9, 3) := by decide +kernel
theorem dX10_init_8 : decode cX10_init 8 = .ok (.dup, 1) := by decide +kernel
theorem dX10_init_9 : decode cX10_init 9 = .ok (.invokespecial 11, 3) := by decide +kernel
theorem dX10_init_12 : decode cX10_init 12 = .ok (.putfield 12, 3) := by decide +kernel
theorem dX10_init_15 : decode cX10_init 15 = .ok (.aload_n 0, 1) := by decide +kernel
theorem dX10_init_16 : decode cX10_init 16 = .ok (.new 18, 3) := by decide +kernel
theorem dX10_init_19 : decode cX10_init 19 = .ok (.dup, 1) := by decide +kernel
theorem dX10_init_20 : decode cX10_init 20 = .ok (.invokespecial 20, 3) := by decide +kernel
theorem dX10_init_23 : decode cX10_init 23 = .ok (.putfield 21, 3) := by decide +kernel
theorem dX10_init_26 : decode cX10_init 26 = .ok (.aload_n 0, 1) := by decide +kernel
theorem dX10_init_27 : decode cX10_init 27 = .ok (.new 25, 3) := by decide +kernel
theorem dX10_init_30 : decode cX10_init 30 = .ok (.dup, 1) := by decide +kernel
theorem dX10_init_31 : decode cX10_init 31 = .ok (.invokespecial 27, 3) := by decide +kernel
theorem dX10_init_34 : decode cX10_init 34 = .ok (.putfield 28, 3) := by decide +kernel
theorem dX10_init_37 : decode cX10_init 37 = .ok (.aload_n 0, 1) := by decide +kernel
theorem dX10_init_38 : decode cX10_init 38 = .ok (.new 32, 3) := by decide +kernel
theorem dX10_init_41 : decode cX10_init 41 = .ok (.dup, 1) := by decide +kernel
theorem dX10_init_42 : decode cX10_init 42 = .ok (.invokespecial 34, 3) := by decide +kernel
theorem dX10_init_45 : decode cX10_init 45 = .ok (.putfield 35, 3) := by decide +kernel
theorem dX10_init_48 : decode cX10_init 48 = .ok (.aload_n 0, 1) := by decide +kernel
theorem dX10_init_49 : decode cX10_init 49 = .ok (.new 39, 3) := by decide +kernel
theorem dX10_init_52 : decode cX10_init 52 = .ok (.dup, 1) := by decide +kernel
theorem dX10_init_53 : decode cX10_init 53 = .ok (.invokespecial 41, 3) := by decide +kernel
theorem dX10_init_56 : decode cX10_init 56 = .ok (.putfield 42, 3) := by decide +kernel
theorem dX10_init_59 : decode cX10_init 59 = .ok (.aload_n 0, 1) := by decide +kernel
theorem dX10_init_60 : decode cX10_init 60 = .ok (.new 46, 3) := by decide +kernel
theorem dX10_init_63 : decode cX10_init 63 = .ok (.dup, 1) := by decide +kernel
theorem dX10_init_64 : decode cX10_init 64 = .ok (.invokespecial 48, 3) := by decide +kernel
theorem dX10_init_67 : decode cX10_init 67 = .ok (.putfield 49, 3) := by decide +kernel
theorem dX10_init_70 : decode cX10_init 70 = .ok (.aload_n 0, 1) := by decide +kernel
theorem dX10_init_71 : decode cX10_init 71 = .ok (.new 53, 3) := by decide +kernel
theorem dX10_init_74 : decode cX10_init 74 = .ok (.dup, 1) := by decide +kernel
theorem dX10_init_75 : decode cX10_init 75 = .ok (.iconst 1, 1) := by decide +kernel
theorem dX10_init_76 : decode cX10_init 76 = .ok (.newarray .int, 2) := by decide +kernel
theorem dX10_init_78 : decode cX10_init 78 = .ok (.dup, 1) := by decide +kernel
theorem dX10_init_79 : decode cX10_init 79 = .ok (.iconst 0, 1) := by decide +kernel
theorem dX10_init_80 : decode cX10_init 80 = .ok (.bipush (-5), 2) := by decide +kernel
theorem dX10_init_82 : decode cX10_init 82 = .ok (.iastore, 1) := by decide +kernel
theorem dX10_init_83 : decode cX10_init 83 = .ok (.invokespecial 55, 3) := by decide +kernel
theorem dX10_init_86 : decode cX10_init 86 = .ok (.putfield 58, 3) := by decide +kernel
theorem dX10_init_89 : decode cX10_init 89 = .ok (.aload_n 0, 1) := by decide +kernel
theorem dX10_init_90 : decode cX10_init 90 = .ok (.iconst 1, 1) := by decide +kernel
theorem dX10_init_91 : decode cX10_init 91 = .ok (.putfield 62, 3) := by decide +kernel
theorem dX10_init_94 : decode cX10_init 94 = .ok (.aload_n 0, 1) := by decide +kernel
theorem dX10_init_95 : decode cX10_init 95 = .ok (.bipush 50, 2) := by decide +kernel
theorem dX10_init_97 : decode cX10_init 97 = .ok (.putfield 66, 3) := by decide +kernel
theorem dX10_init_100 : decode cX10_init 100 = .ok (.aload_n 0, 1) := by decide +kernel
theorem dX10_init_101 : decode cX10_init 101 = .ok (.bipush 10, 2) := by decide +kernel
theorem dX10_init_103 : decode cX10_init 103 = .ok (.putfield 69, 3) := by decide +kernel
theorem dX10_init_106 : decode cX10_init 106 = .ok (.aload_n 0, 1) := by decide +kernel
theorem dX10_init_107 : decode cX10_init 107 = .ok (.iconst (-1), 1) := by decide +kernel
theorem dX10_init_108 : decode cX10_init 108 = .ok (.putfield 72, 3) := by decide +kernel
theorem dX10_init_111 : decode cX10_init 111 = .ok (.aload_n 0, 1) := by decide +kernel
theorem dX10_init_112 : decode cX10_init 112 = .ok (.ldc 75, 2) := by decide +kernel
theorem dX10_init_114 : decode cX10_init 114 = .ok (.putfield 76, 3) := by decide +kernel
theorem dX10_init_117 : decode cX10_init 117 = .ok (.return_, 1) := by decide +kernel
theorem dX10_copyFrom_0 : decode cX10_copyFrom 0 = .ok (.aload_n 0, 1) := by decide +kernel
theorem dX10_copyFrom_1 : decode cX10_copyFrom 1 = .ok (.getfield 12, 3) := by decide +kernel
theorem dX10_copyFrom_4 : decode cX10_copyFrom 4 = .ok (.aload_n 1, 1) := by decide +kernel
theorem dX10_copyFrom_5 : decode cX10_copyFrom 5 = .ok (.getfield 12, 3) := by decide +kernel
theorem dX10_copyFrom_8 : decode cX10_copyFrom 8 = .ok (.invokevirtual 79, 3) := by decide +kernel
theorem dX10_copyFrom_11 : decode cX10_copyFrom 11 = .ok (.aload_n 0, 1) := by decide +kernel
theorem dX10_copyFrom_12 : decode cX10_copyFrom 12 = .ok (.getfield 21, 3) := by decide +kernel
theorem dX10_copyFrom_15 : decode cX10_copyFrom 15 = .ok (.aload_n 1, 1) := by decide +kernel
theorem dX10_copyFrom_16 : decode cX10_copyFrom 16 = .ok (.getfield 21, 3) := by decide +kernel
theorem dX10_copyFrom_19 : decode cX10_copyFrom 19 = .ok (.invokevirtual 83, 3) := by decide +kernel
theorem dX10_copyFrom_22 : decode cX10_copyFrom 22 = .ok (.aload_n 0, 1) := by decide +kernel
theorem dX10_copyFrom_23 : decode cX10_copyFrom 23 = .ok (.getfield 28, 3) := by decide +kernel
theorem dX10_copyFrom_26 : decode cX10_copyFrom 26 = .ok (.aload_n 1, 1) := by decide +kernel
theorem dX10_copyFrom_27 : decode cX10_copyFrom 27 = .ok (.getfield 28, 3) := by decide +kernel
theorem dX10_copyFrom_30 : decode cX10_copyFrom 30 = .ok (.invokevirtual 86, 3) := by decide +kernel
theorem dX10_copyFrom_33 : decode cX10_copyFrom 33 = .ok (.aload_n 0, 1) := by decide +kernel
theorem dX10_copyFrom_34 : decode cX10_copyFrom 34 = .ok (.getfield 35, 3) := by decide +kernel
theorem dX10_copyFrom_37 : decode cX10_copyFrom 37 = .ok (.aload_n 1, 1) := by decide +kernel
theorem dX10_copyFrom_38 : decode cX10_copyFrom 38 = .ok (.getfield 35, 3) := by decide +kernel
theorem dX10_copyFrom_41 : decode cX10_copyFrom 41 = .ok (.invokevirtual 89, 3) := by decide +kernel
theorem dX10_copyFrom_44 : decode cX10_copyFrom 44 = .ok (.aload_n 0, 1) := by decide +kernel
theorem dX10_copyFrom_45 : decode cX10_copyFrom 45 = .ok (.getfield 42, 3) := by decide +kernel
theorem dX10_copyFrom_48 : decode cX10_copyFrom 48 = .ok (.aload_n 1, 1) := by decide +kernel
theorem dX10_copyFrom_49 : decode cX10_copyFrom 49 = .ok (.getfield 42, 3) := by decide +kernel
theorem dX10_copyFrom_52 : decode cX10_copyFrom 52 = .ok (.invokevirtual 92, 3) := by decide +kernel
theorem dX10_copyFrom_55 : decode cX10_copyFrom 55 = .ok (.aload_n 0, 1) := by decide +kernel
theorem dX10_copyFrom_56 : decode cX10_copyFrom 56 = .ok (.getfield 49, 3) := by decide +kernel
theorem dX10_copyFrom_59 : decode cX10_copyFrom 59 = .ok (.aload_n 1, 1) := by decide +kernel
theorem dX10_copyFrom_60 : decode cX10_copyFrom 60 = .ok (.getfield 49, 3) := by decide +kernel
theorem dX10_copyFrom_63 : decode cX10_copyFrom 63 = .ok (.invokevirtual 95, 3) := by decide +kernel
theorem dX10_copyFrom_66 : decode cX10_copyFrom 66 = .ok (.aload_n 0, 1) := by decide +kernel
theorem dX10_copyFrom_67 : decode cX10_copyFrom 67 = .ok (.aload_n 1, 1) := by decide +kernel
theorem dX10_copyFrom_68 : decode cX10_copyFrom 68 = .ok (.getfield 58, 3) := by decide +kernel
theorem dX10_copyFrom_71 : decode cX10_copyFrom 71 = .ok (.putfield 58, 3) := by decide +kernel
theorem dX10_copyFrom_74 : decode cX10_copyFrom 74 = .ok (.aload_n 0, 1) := by decide +kernel
theorem dX10_copyFrom_75 : decode cX10_copyFrom 75 = .ok (.aload_n 1, 1) := by decide +kernel
theorem dX10_copyFrom_76 : decode cX10_copyFrom 76 = .ok (.getfield 98, 3) := by decide +kernel
theorem dX10_copyFrom_79 : decode cX10_copyFrom 79 = .ok (.putfield 98, 3) := by decide +kernel
theorem dX10_copyFrom_82 : decode cX10_copyFrom 82 = .ok (.aload_n 0, 1) := by decide +kernel
theorem dX10_copyFrom_83 : decode cX10_copyFrom 83 = .ok (.aload_n 1, 1) := by decide +kernel
theorem dX10_copyFrom_84 : decode cX10_copyFrom 84 = .ok (.getfield 62, 3) := by decide +kernel
theorem dX10_copyFrom_87 : decode cX10_copyFrom 87 = .ok (.putfield 62, 3) := by decide +kernel
theorem dX10_copyFrom_90 : decode cX10_copyFrom 90 = .ok (.aload_n 0, 1) := by decide +kernel
theorem dX10_copyFrom_91 : decode cX10_copyFrom 91 = .ok (.aload_n 1, 1) := by decide +kernel
theorem dX10_copyFrom_92 : decode cX10_copyFrom 92 = .ok (.getfield 66, 3) := by decide +kernel
theorem dX10_copyFrom_95 : decode cX10_copyFrom 95 = .ok (.putfield 66, 3) := by decide +kernel
theorem dX10_copyFrom_98 : decode cX10_copyFrom 98 = .ok (.aload_n 0, 1) := by decide +kernel
theorem dX10_copyFrom_99 : decode cX10_copyFrom 99 = .ok (.aload_n 1, 1) := by decide +kernel
theorem dX10_copyFrom_100 : decode cX10_copyFrom 100 = .ok (.getfield 69, 3) := by decide +kernel
theorem dX10_copyFrom_103 : decode cX10_copyFrom 103 = .ok (.putfield 69, 3) := by decide +kernel
theorem dX10_copyFrom_106 : decode cX10_copyFrom 106 = .ok (.aload_n 0, 1) := by decide +kernel
theorem dX10_copyFrom_107 : decode cX10_copyFrom 107 = .ok (.aload_n 1, 1) := by decide +kernel
theorem dX10_copyFrom_108 : decode cX10_copyFrom 108 = .ok (.getfield 101, 3) := by decide +kernel
theorem dX10_copyFrom_111 : decode cX10_copyFrom 111 = .ok (.putfield 101, 3) := by decide +kernel
theorem dX10_copyFrom_114 : decode cX10_copyFrom 114 = .ok (.aload_n 0, 1) := by decide +kernel
theorem dX10_copyFrom_115 : decode cX10_copyFrom 115 = .ok (.aload_n 1, 1) := by decide +kernel
theorem dX10_copyFrom_116 : decode cX10_copyFrom 116 = .ok (.getfield 104, 3) := by decide +kernel
theorem dX10_copyFrom_119 : decode cX10_copyFrom 119 = .ok (.putfield 104, 3) := by decide +kernel
theorem dX10_copyFrom_122 : decode cX10_copyFrom 122 = .ok (.aload_n 0, 1) := by decide +kernel
theorem dX10_copyFrom_123 : decode cX10_copyFrom 123 = .ok (.iconst (-1), 1) := by decide +kernel
theorem dX10_copyFrom_124 : decode cX10_copyFrom 124 = .ok (.putfield 72, 3) := by decide +kernel
theorem dX10_copyFrom_127 : decode cX10_copyFrom 127 = .ok (.aload_n 0, 1) := by decide +kernel
theorem dX10_copyFrom_128 : decode cX10_copyFrom 128 = .ok (.ldc 75, 2) := by decide +kernel
theorem dX10_copyFrom_130 : decode cX10_copyFrom 130 = .ok (.putfield 76, 3) := by decide +kernel
theorem dX10_copyFrom_133 : decode cX10_copyFrom 133 = .ok (.return_, 1) := by decide +kernel
theorem dX10_clear_0 : decode cX10_clear 0 = .ok (.aload_n 0, 1) := by decide +kernel
theorem dX10_clear_1 : decode cX10_clear 1 = .ok (.getfield 12, 3) := by decide +kernel
theorem dX10_clear_4 : decode cX10_clear 4 = .ok (.iconst 0, 1) := by decide +kernel
theorem dX10_clear_5 : decode cX10_clear 5 = .ok (.putfield 107, 3) := by decide +kernel
theorem dX10_clear_8 : decode cX10_clear 8 = .ok (.aload_n 0, 1) := by decide +kernel
theorem dX10_clear_9 : decode cX10_clear 9 = .ok (.getfield 21, 3) := by decide +kernel
theorem dX10_clear_12 : decode cX10_clear 12 = .ok (.iconst 0, 1) := by decide +kernel
theorem dX10_clear_13 : decode cX10_clear 13 = .ok (.putfield 110, 3) := by decide +kernel
theorem dX10_clear_16 : decode cX10_clear 16 = .ok (.aload_n 0, 1) := by decide +kernel
theorem dX10_clear_17 : decode cX10_clear 17 = .ok (.getfield 35, 3) := by decide +kernel
theorem dX10_clear_20 : decode cX10_clear 20 = .ok (.iconst 0, 1) := by decide +kernel
theorem dX10_clear_21 : decode cX10_clear 21 = .ok (.putfield 111, 3) := by decide +kernel
theorem dX10_clear_24 : decode cX10_clear 24 = .ok (.aload_n 0, 1) := by decide +kernel
theorem dX10_clear_25 : decode cX10_clear 25 = .ok (.getfield 42, 3) := by decide +kernel
theorem dX10_clear_28 : decode cX10_clear 28 = .ok (.iconst 0, 1) := by decide +kernel
theorem dX10_clear_29 : decode cX10_clear 29 = .ok (.putfield 112, 3) := by decide +kernel
theorem dX10_clear_32 : decode cX10_clear 32 = .ok (.aload_n 0, 1) := by decide +kernel
theorem dX10_clear_33 : decode cX10_clear 33 = .ok (.getfield 49, 3) := by decide +kernel
theorem dX10_clear_36 : decode cX10_clear 36 = .ok (.invokevirtual 113, 3) := by decide +kernel
theorem dX10_clear_39 : decode cX10_clear 39 = .ok (.aload_n 0, 1) := by decide +kernel
theorem dX10_clear_40 : decode cX10_clear 40 = .ok (.new 53, 3) := by decide +kernel
theorem dX10_clear_43 : decode cX10_clear 43 = .ok (.dup, 1) := by decide +kernel
theorem dX10_clear_44 : decode cX10_clear 44 = .ok (.iconst 1, 1) := by decide +kernel
theorem dX10_clear_45 : decode cX10_clear 45 = .ok (.newarray .int, 2) := by decide +kernel
theorem dX10_clear_47 : decode cX10_clear 47 = .ok (.dup, 1) := by decide +kernel
theorem dX10_clear_48 : decode cX10_clear 48 = .ok (.iconst 0, 1) := by decide +kernel
theorem dX10_clear_49 : decode cX10_clear 49 = .ok (.bipush (-5), 2) := by decide +kernel
theorem dX10_clear_51 : decode cX10_clear 51 = .ok (.iastore, 1) := by decide +kernel
theorem dX10_clear_52 : decode cX10_clear 52 = .ok (.invokespecial 55, 3) := by decide +kernel
theorem dX10_clear_55 : decode cX10_clear 55 = .ok (.putfield 58, 3) := by decide +kernel
theorem dX10_clear_58 : decode cX10_clear 58 = .ok (.aload_n 0, 1) := by decide +kernel
theorem dX10_clear_59 : decode cX10_clear 59 = .ok (.iconst 0, 1) := by decide +kernel
theorem dX10_clear_60 : decode cX10_clear 60 = .ok (.putfield 98, 3) := by decide +kernel
theorem dX10_clear_63 : decode cX10_clear 63 = .ok (.aload_n 0, 1) := by decide +kernel
theorem dX10_clear_64 : decode cX10_clear 64 = .ok (.iconst 1, 1) := by decide +kernel
theorem dX10_clear_65 : decode cX10_clear 65 = .ok (.putfield 62, 3) := by decide +kernel
theorem dX10_clear_68 : decode cX10_clear 68 = .ok (.aload_n 0, 1) := by decide +kernel
theorem dX10_clear_69 : decode cX10_clear 69 = .ok (.bipush 50, 2) := by decide +kernel
theorem dX10_clear_71 : decode cX10_clear 71 = .ok (.putfield 66, 3) := by decide +kernel
theorem dX10_clear_74 : decode cX10_clear 74 = .ok (.aload_n 0, 1) := by decide +kernel
theorem dX10_clear_75 : decode cX10_clear 75 = .ok (.bipush 10, 2) := by decide +kernel
theorem dX10_clear_77 : decode cX10_clear 77 = .ok (.putfield 69, 3) := by decide +kernel
theorem dX10_clear_80 : decode cX10_clear 80 = .ok (.aload_n 0, 1) := by decide +kernel
theorem dX10_clear_81 : decode cX10_clear 81 = .ok (.iconst 0, 1) := by decide +kernel
theorem dX10_clear_82 : decode cX10_clear 82 = .ok (.putfield 101, 3) := by decide +kernel
theorem dX10_clear_85 : decode cX10_clear 85 = .ok (.aload_n 0, 1) := by decide +kernel
theorem dX10_clear_86 : decode cX10_clear 86 = .ok (.iconst 0, 1) := by decide +kernel
theorem dX10_clear_87 : decode cX10_clear 87 = .ok (.putfield 104, 3) := by decide +kernel
theorem dX10_clear_90 : decode cX10_clear 90 = .ok (.return_, 1) := by decide +kernel
theorem dX10_clearLines_0 : decode cX10_clearLines 0 = .ok (.iconst 0, 1) := by decide +kernel
theorem dX10_clearLines_1 : decode cX10_clearLines 1 = .ok (.istore_n 1, 1) := by decide +kernel
theorem dX10_clearLines_2 : decode cX10_clearLines 2 = .ok (.iload_n 1, 1) := by decide +kernel
theorem dX10_clearLines_3 : decode cX10_clearLines 3 = .ok (.bipush 6, 2) := by decide +kernel
theorem dX10_clearLines_5 : decode cX10_clearLines 5 = .ok (.if_icmp .ge 60, 3) := by decide +kernel
theorem dX10_clearLines_8 : decode cX10_clearLines 8 = .ok (.iconst 0, 1) := by decide +kernel
theorem dX10_clearLines_9 : decode cX10_clearLines 9 = .ok (.istore_n 2, 1) := by decide +kernel
theorem dX10_clearLines_10 : decode cX10_clearLines 10 = .ok (.iload_n 2, 1) := by decide +kernel
theorem dX10_clearLines_11 : decode cX10_clearLines 11 = .ok (.bipush 6, 2) := by decide +kernel
theorem dX10_clearLines_13 : decode cX10_clearLines 13 = .ok (.if_icmp .ge 46, 3) := by decide +kernel
theorem dX10_clearLines_16 : decode cX10_clearLines 16 = .ok (.aload_n 0, 1) := by decide +kernel
theorem dX10_clearLines_17 : decode cX10_clearLines 17 = .ok (.getfield 28, 3) := by decide +kernel
theorem dX10_clearLines_20 : decode cX10_clearLines 20 = .ok (.iload_n 1, 1) := by decide +kernel
theorem dX10_clearLines_21 : decode cX10_clearLines 21 = .ok (.bipush 6, 2) := by decide +kernel
theorem dX10_clearLines_23 : decode cX10_clearLines 23 = .ok (.imul, 1) := by decide +kernel
theorem dX10_clearLines_24 : decode cX10_clearLines 24 = .ok (.iload_n 2, 1) := by decide +kernel
theorem dX10_clearLines_25 : decode cX10_clearLines 25 = .ok (.iadd, 1) := by decide +kernel
theorem dX10_clearLines_26 : decode cX10_clearLines 26 = .ok (.iload_n 1, 1) := by decide +kernel
theorem dX10_clearLines_27 : decode cX10_clearLines 27 = .ok (.aload_n 0, 1) := by decide +kernel
theorem dX10_clearLines_28 : decode cX10_clearLines 28 = .ok (.getfield 12, 3) := by decide +kernel
theorem dX10_clearLines_31 : decode cX10_clearLines 31 = .ok (.getfield 107, 3) := by decide +kernel
theorem dX10_clearLines_34 : decode cX10_clearLines 34 = .ok (.if_icmp .ge 15, 3) := by decide +kernel
theorem dX10_clearLines_37 : decode cX10_clearLines 37 = .ok (.aload_n 0, 1) := by decide +kernel
theorem dX10_clearLines_38 : decode cX10_clearLines 38 = .ok (.getfield 12, 3) := by decide +kernel
theorem dX10_clearLines_41 : decode cX10_clearLines 41 = .ok (.getfield 116, 3) := by decide +kernel
theorem dX10_clearLines_44 : decode cX10_clearLines 44 = .ok (.iload_n 1, 1) := by decide +kernel
theorem dX10_clearLines_45 : decode cX10_clearLines 45 = .ok (.iaload, 1) := by decide +kernel
theorem dX10_clearLines_46 : decode cX10_clearLines 46 = .ok (.goto 4, 3) := by decide +kernel
theorem dX10_clearLines_49 : decode cX10_clearLines 49 = .ok (.iconst 0, 1) := by decide +kernel
theorem dX10_clearLines_50 : decode cX10_clearLines 50 = .ok (.invokevirtual 120, 3) := by decide +kernel
theorem dX10_clearLines_53 : decode cX10_clearLines 53 = .ok (.iinc 2 1, 3) := by decide +kernel
theorem dX10_clearLines_56 : decode cX10_clearLines 56 = .ok (.goto (-46), 3) := by decide +kernel
theorem dX10_clearLines_59 : decode cX10_clearLines 59 = .ok (.iinc 1 1, 3) := by decide +kernel
theorem dX10_clearLines_62 : decode cX10_clearLines 62 = .ok (.goto (-60), 3) := by decide +kernel
theorem dX10_clearLines_65 : decode cX10_clearLines 65 = .ok (.return_, 1) := by decide +kernel
theorem dX10_gateOf_0 : decode cX10_gateOf 0 = .ok (.iload_n 1, 1) := by decide +kernel
theorem dX10_gateOf_1 : decode cX10_gateOf 1 = .ok (.ifCond .lt 14, 3) := by decide +kernel
theorem dX10_gateOf_4 : decode cX10_gateOf 4 = .ok (.iload_n 1, 1) := by decide +kernel
theorem dX10_gateOf_5 : decode cX10_gateOf 5 = .ok (.aload_n 0, 1) := by decide +kernel
theorem dX10_gateOf_6 : decode cX10_gateOf 6 = .ok (.getfield 35, 3) := by decide +kernel
theorem dX10_gateOf_9 : decode cX10_gateOf 9 = .ok (.getfield 111, 3) := by decide +kernel
theorem dX10_gateOf_12 : decode cX10_gateOf 12 = .ok (.if_icmp .lt 5, 3) := by decide +kernel
theorem dX10_gateOf_15 : decode cX10_gateOf 15 = .ok (.iconst (-1), 1) := by decide +kernel
theorem dX10_gateOf_16 : decode cX10_gateOf 16 = .ok (.ireturn, 1) := by decide +kernel
theorem dX10_gateOf_17 : decode cX10_gateOf 17 = .ok (.aload_n 0, 1) := by decide +kernel
theorem dX10_gateOf_18 : decode cX10_gateOf 18 = .ok (.getfield 35, 3) := by decide +kernel
theorem dX10_gateOf_21 : decode cX10_gateOf 21 = .ok (.getfield 123, 3) := by decide +kernel
theorem dX10_gateOf_24 : decode cX10_gateOf 24 = .ok (.iload_n 1, 1) := by decide +kernel
theorem dX10_gateOf_25 : decode cX10_gateOf 25 = .ok (.iaload, 1) := by decide +kernel
theorem dX10_gateOf_26 : decode cX10_gateOf 26 = .ok (.istore_n 2, 1) := by decide +kernel
theorem dX10_gateOf_27 : decode cX10_gateOf 27 = .ok (.iload_n 2, 1) := by decide +kernel
theorem dX10_gateOf_28 : decode cX10_gateOf 28 = .ok (.iconst 1, 1) := by decide +kernel
theorem dX10_gateOf_29 : decode cX10_gateOf 29 = .ok (.if_icmp .eq 8, 3) := by decide +kernel
theorem dX10_gateOf_32 : decode cX10_gateOf 32 = .ok (.iload_n 2, 1) := by decide +kernel
theorem dX10_gateOf_33 : decode cX10_gateOf 33 = .ok (.iconst 2, 1) := by decide +kernel
theorem dX10_gateOf_34 : decode cX10_gateOf 34 = .ok (.if_icmp .ne 7, 3) := by decide +kernel
theorem dX10_gateOf_37 : decode cX10_gateOf 37 = .ok (.iconst 1, 1) := by decide +kernel
theorem dX10_gateOf_38 : decode cX10_gateOf 38 = .ok (.goto 4, 3) := by decide +kernel
theorem dX10_gateOf_41 : decode cX10_gateOf 41 = .ok (.iconst 0, 1) := by decide +kernel
theorem dX10_gateOf_42 : decode cX10_gateOf 42 = .ok (.istore_n 3, 1) := by decide +kernel
theorem dX10_gateOf_43 : decode cX10_gateOf 43 = .ok (.iload_n 3, 1) := by decide +kernel
theorem dX10_gateOf_44 : decode cX10_gateOf 44 = .ok (.ifCond .eq 31, 3) := by decide +kernel
theorem dX10_gateOf_47 : decode cX10_gateOf 47 = .ok (.aload_n 0, 1) := by decide +kernel
theorem dX10_gateOf_48 : decode cX10_gateOf 48 = .ok (.getfield 21, 3) := by decide +kernel
theorem dX10_gateOf_51 : decode cX10_gateOf 51 = .ok (.aload_n 0, 1) := by decide +kernel
theorem dX10_gateOf_52 : decode cX10_gateOf 52 = .ok (.getfield 35, 3) := by decide +kernel
theorem dX10_gateOf_55 : decode cX10_gateOf 55 = .ok (.getfield 126, 3) := by decide +kernel
theorem dX10_gateOf_58 : decode cX10_gateOf 58 = .ok (.iload_n 1, 1) := by decide +kernel
theorem dX10_gateOf_59 : decode cX10_gateOf 59 = .ok (.iaload, 1) := by decide +kernel
theorem dX10_gateOf_60 : decode cX10_gateOf 60 = .ok (.aload_n 0, 1) := by decide +kernel
theorem dX10_gateOf_61 : decode cX10_gateOf 61 = .ok (.getfield 35, 3) := by decide +kernel
theorem dX10_gateOf_64 : decode cX10_gateOf 64 = .ok (.getfield 129, 3) := by decide +kernel
theorem dX10_gateOf_67 : decode cX10_gateOf 67 = .ok (.iload_n 1, 1) := by decide +kernel
theorem dX10_gateOf_68 : decode cX10_gateOf 68 = .ok (.iaload, 1) := by decide +kernel
theorem dX10_gateOf_69 : decode cX10_gateOf 69 = .ok (.invokevirtual 132, 3) := by decide +kernel
theorem dX10_gateOf_72 : decode cX10_gateOf 72 = .ok (.goto 4, 3) := by decide +kernel
theorem dX10_gateOf_75 : decode cX10_gateOf 75 = .ok (.iconst (-1), 1) := by decide +kernel
theorem dX10_gateOf_76 : decode cX10_gateOf 76 = .ok (.ireturn, 1) := by decide +kernel
theorem dX10_advance_0 : decode cX10_advance 0 = .ok (.iconst 0, 1) := by decide +kernel
theorem dX10_advance_1 : decode cX10_advance 1 = .ok (.istore 4, 2) := by decide +kernel
theorem dX10_advance_3 : decode cX10_advance 3 = .ok (.iload 4, 2) := by decide +kernel
theorem dX10_advance_5 : decode cX10_advance 5 = .ok (.iload_n 1, 1) := by decide +kernel
theorem dX10_advance_6 : decode cX10_advance 6 = .ok (.if_icmp .ge 51, 3) := by decide +kernel
theorem dX10_advance_9 : decode cX10_advance 9 = .ok (.aload_n 0, 1) := by decide +kernel
theorem dX10_advance_10 : decode cX10_advance 10 = .ok (.getfield 35, 3) := by decide +kernel
theorem dX10_advance_13 : decode cX10_advance 13 = .ok (.iload_n 2, 1) := by decide +kernel
theorem dX10_advance_14 : decode cX10_advance 14 = .ok (.invokevirtual 136, 3) := by decide +kernel
theorem dX10_advance_17 : decode cX10_advance 17 = .ok (.ifCond .ne 40, 3) := by decide +kernel
theorem dX10_advance_20 : decode cX10_advance 20 = .ok (.aload_n 0, 1) := by decide +kernel
theorem dX10_advance_21 : decode cX10_advance 21 = .ok (.iload_n 1, 1) := by decide +kernel
theorem dX10_advance_22 : decode cX10_advance 22 = .ok (.iload 4, 2) := by decide +kernel
theorem dX10_advance_24 : decode cX10_advance 24 = .ok (.isub, 1) := by decide +kernel
theorem dX10_advance_25 : decode cX10_advance 25 = .ok (.invokevirtual 140, 3) := by decide +kernel
theorem dX10_advance_28 : decode cX10_advance 28 = .ok (.istore_n 3, 1) := by decide +kernel
theorem dX10_advance_29 : decode cX10_advance 29 = .ok (.aload_n 0, 1) := by decide +kernel
theorem dX10_advance_30 : decode cX10_advance 30 = .ok (.iload_n 3, 1) := by decide +kernel
theorem dX10_advance_31 : decode cX10_advance 31 = .ok (.invokevirtual 144, 3) := by decide +kernel
theorem dX10_advance_34 : decode cX10_advance 34 = .ok (.iload 4, 2) := by decide +kernel
theorem dX10_advance_36 : decode cX10_advance 36 = .ok (.iload_n 3, 1) := by decide +kernel
theorem dX10_advance_37 : decode cX10_advance 37 = .ok (.iadd, 1) := by decide +kernel
theorem dX10_advance_38 : decode cX10_advance 38 = .ok (.iload_n 1, 1) := by decide +kernel
theorem dX10_advance_39 : decode cX10_advance 39 = .ok (.if_icmp .ge 7, 3) := by decide +kernel
theorem dX10_advance_42 : decode cX10_advance 42 = .ok (.aload_n 0, 1) := by decide +kernel
theorem dX10_advance_43 : decode cX10_advance 43 = .ok (.invokevirtual 148, 3) := by decide +kernel
theorem dX10_advance_46 : decode cX10_advance 46 = .ok (.iload 4, 2) := by decide +kernel
theorem dX10_advance_48 : decode cX10_advance 48 = .ok (.iload_n 3, 1) := by decide +kernel
theorem dX10_advance_49 : decode cX10_advance 49 = .ok (.iconst 1, 1) := by decide +kernel
theorem dX10_advance_50 : decode cX10_advance 50 = .ok (.iadd, 1) := by decide +kernel
theorem dX10_advance_51 : decode cX10_advance 51 = .ok (.iadd, 1) := by decide +kernel
theorem dX10_advance_52 : decode cX10_advance 52 = .ok (.istore 4, 2) := by decide +kernel
theorem dX10_advance_54 : decode cX10_advance 54 = .ok (.goto (-51), 3) := by decide +kernel
theorem dX10_advance_57 : decode cX10_advance 57 = .ok (.return_, 1) := by decide +kernel
theorem dX10_quietTicks_0 : decode cX10_quietTicks 0 = .ok (.iload_n 1, 1) := by decide +kernel
theorem dX10_quietTicks_1 : decode cX10_quietTicks 1 = .ok (.istore_n 2, 1) := by decide +kernel
theorem dX10_quietTicks_2 : decode cX10_quietTicks 2 = .ok (.iconst 0, 1) := by decide +kernel
theorem dX10_quietTicks_3 : decode cX10_quietTicks 3 = .ok (.istore_n 3, 1) := by decide +kernel
theorem dX10_quietTicks_4 : decode cX10_quietTicks 4 = .ok (.iload_n 3, 1) := by decide +kernel
theorem dX10_quietTicks_5 : decode cX10_quietTicks 5 = .ok (.aload_n 0, 1) := by decide +kernel
theorem dX10_quietTicks_6 : decode cX10_quietTicks 6 = .ok (.getfield 35, 3) := by decide +kernel
theorem dX10_quietTicks_9 : decode cX10_quietTicks 9 = .ok (.getfield 111, 3) := by decide +kernel
theorem dX10_quietTicks_12 : decode cX10_quietTicks 12 = .ok (.if_icmp .ge 55, 3) := by decide +kernel
theorem dX10_quietTicks_15 : decode cX10_quietTicks 15 = .ok (.aload_n 0, 1) := by decide +kernel
theorem dX10_quietTicks_16 : decode cX10_quietTicks 16 = .ok (.getfield 35, 3) := by decide +kernel
theorem dX10_quietTicks_19 : decode cX10_quietTicks 19 = .ok (.getfield 123, 3) := by decide +kernel
theorem dX10_quietTicks_22 : decode cX10_quietTicks 22 = .ok (.iload_n 3, 1) := by decide +kernel
theorem dX10_quietTicks_23 : decode cX10_quietTicks 23 = .ok (.iaload, 1) := by decide +kernel
theorem dX10_quietTicks_24 : decode cX10_quietTicks 24 = .ok (.iconst 2, 1) := by decide +kernel
theorem dX10_quietTicks_25 : decode cX10_quietTicks 25 = .ok (.if_icmp .ne 5, 3) := by decide +kernel
theorem dX10_quietTicks_28 : decode cX10_quietTicks 28 = .ok (.iconst 0, 1) := by decide +kernel
theorem dX10_quietTicks_29 : decode cX10_quietTicks 29 = .ok (.ireturn, 1) := by decide +kernel
theorem dX10_quietTicks_30 : decode cX10_quietTicks 30 = .ok (.aload_n 0, 1) := by decide +kernel
theorem dX10_quietTicks_31 : decode cX10_quietTicks 31 = .ok (.getfield 35, 3) := by decide +kernel
theorem dX10_quietTicks_34 : decode cX10_quietTicks 34 = .ok (.getfield 123, 3) := by decide +kernel
theorem dX10_quietTicks_37 : decode cX10_quietTicks 37 = .ok (.iload_n 3, 1) := by decide +kernel
theorem dX10_quietTicks_38 : decode cX10_quietTicks 38 = .ok (.iaload, 1) := by decide +kernel
theorem dX10_quietTicks_39 : decode cX10_quietTicks 39 = .ok (.ifCond .ne 22, 3) := by decide +kernel
theorem dX10_quietTicks_42 : decode cX10_quietTicks 42 = .ok (.iload_n 2, 1) := by decide +kernel
theorem dX10_quietTicks_43 : decode cX10_quietTicks 43 = .ok (.aload_n 0, 1) := by decide +kernel
theorem dX10_quietTicks_44 : decode cX10_quietTicks 44 = .ok (.getfield 35, 3) := by decide +kernel
theorem dX10_quietTicks_47 : decode cX10_quietTicks 47 = .ok (.getfield 151, 3) := by decide +kernel
theorem dX10_quietTicks_50 : decode cX10_quietTicks 50 = .ok (.iload_n 3, 1) := by decide +kernel
theorem dX10_quietTicks_51 : decode cX10_quietTicks 51 = .ok (.iaload, 1) := by decide +kernel
theorem dX10_quietTicks_52 : decode cX10_quietTicks 52 = .ok (.aload_n 0, 1) := by decide +kernel
theorem dX10_quietTicks_53 : decode cX10_quietTicks 53 = .ok (.getfield 98, 3) := by decide +kernel
theorem dX10_quietTicks_56 : decode cX10_quietTicks 56 = .ok (.isub, 1) := by decide +kernel
theorem dX10_quietTicks_57 : decode cX10_quietTicks 57 = .ok (.invokestatic 154, 3) := by decide +kernel
theorem dX10_quietTicks_60 : decode cX10_quietTicks 60 = .ok (.istore_n 2, 1) := by decide +kernel
theorem dX10_quietTicks_61 : decode cX10_quietTicks 61 = .ok (.iinc 3 1, 3) := by decide +kernel
theorem dX10_quietTicks_64 : decode cX10_quietTicks 64 = .ok (.goto (-60), 3) := by decide +kernel
theorem dX10_quietTicks_67 : decode cX10_quietTicks 67 = .ok (.iconst 0, 1) := by decide +kernel
theorem dX10_quietTicks_68 : decode cX10_quietTicks 68 = .ok (.istore_n 3, 1) := by decide +kernel
theorem dX10_quietTicks_69 : decode cX10_quietTicks 69 = .ok (.iload_n 3, 1) := by decide +kernel
theorem dX10_quietTicks_70 : decode cX10_quietTicks 70 = .ok (.aload_n 0, 1) := by decide +kernel
theorem dX10_quietTicks_71 : decode cX10_quietTicks 71 = .ok (.getfield 42, 3) := by decide +kernel
theorem dX10_quietTicks_74 : decode cX10_quietTicks 74 = .ok (.getfield 112, 3) := by decide +kernel
theorem dX10_quietTicks_77 : decode cX10_quietTicks 77 = .ok (.if_icmp .ge 28, 3) := by decide +kernel
theorem dX10_quietTicks_80 : decode cX10_quietTicks 80 = .ok (.iload_n 2, 1) := by decide +kernel
theorem dX10_quietTicks_81 : decode cX10_quietTicks 81 = .ok (.aload_n 0, 1) := by decide +kernel
theorem dX10_quietTicks_82 : decode cX10_quietTicks 82 = .ok (.getfield 42, 3) := by decide +kernel
theorem dX10_quietTicks_85 : decode cX10_quietTicks 85 = .ok (.getfield 159, 3) := by decide +kernel
theorem dX10_quietTicks_88 : decode cX10_quietTicks 88 = .ok (.iload_n 3, 1) := by decide +kernel
theorem dX10_quietTicks_89 : decode cX10_quietTicks 89 = .ok (.iaload, 1) := by decide +kernel
theorem dX10_quietTicks_90 : decode cX10_quietTicks 90 = .ok (.aload_n 0, 1) := by decide +kernel
theorem dX10_quietTicks_91 : decode cX10_quietTicks 91 = .ok (.getfield 98, 3) := by decide +kernel
theorem dX10_quietTicks_94 : decode cX10_quietTicks 94 = .ok (.isub, 1) := by decide +kernel
theorem dX10_quietTicks_95 : decode cX10_quietTicks 95 = .ok (.invokestatic 154, 3) := by decide +kernel
theorem dX10_quietTicks_98 : decode cX10_quietTicks 98 = .ok (.istore_n 2, 1) := by decide +kernel
theorem dX10_quietTicks_99 : decode cX10_quietTicks 99 = .ok (.iinc 3 1, 3) := by decide +kernel
theorem dX10_quietTicks_102 : decode cX10_quietTicks 102 = .ok (.goto (-33), 3) := by decide +kernel
theorem dX10_quietTicks_105 : decode cX10_quietTicks 105 = .ok (.iconst 0, 1) := by decide +kernel
theorem dX10_quietTicks_106 : decode cX10_quietTicks 106 = .ok (.istore_n 3, 1) := by decide +kernel
theorem dX10_quietTicks_107 : decode cX10_quietTicks 107 = .ok (.iload_n 3, 1) := by decide +kernel
theorem dX10_quietTicks_108 : decode cX10_quietTicks 108 = .ok (.aload_n 0, 1) := by decide +kernel
theorem dX10_quietTicks_109 : decode cX10_quietTicks 109 = .ok (.getfield 12, 3) := by decide +kernel
theorem dX10_quietTicks_112 : decode cX10_quietTicks 112 = .ok (.getfield 107, 3) := by decide +kernel
theorem dX10_quietTicks_115 : decode cX10_quietTicks 115 = .ok (.if_icmp .ge 46, 3) := by decide +kernel
theorem dX10_quietTicks_118 : decode cX10_quietTicks 118 = .ok (.iload_n 2, 1) := by decide +kernel
theorem dX10_quietTicks_119 : decode cX10_quietTicks 119 = .ok (.ifCond .le 42, 3) := by decide +kernel
theorem dX10_quietTicks_122 : decode cX10_quietTicks 122 = .ok (.iconst 0, 1) := by decide +kernel
theorem dX10_quietTicks_123 : decode cX10_quietTicks 123 = .ok (.istore 4, 2) := by decide +kernel
theorem dX10_quietTicks_125 : decode cX10_quietTicks 125 = .ok (.iload 4, 2) := by decide +kernel
theorem dX10_quietTicks_127 : decode cX10_quietTicks 127 = .ok (.aload_n 0, 1) := by decide +kernel
theorem dX10_quietTicks_128 : decode cX10_quietTicks 128 = .ok (.getfield 21, 3) := by decide +kernel
theorem dX10_quietTicks_131 : decode cX10_quietTicks 131 = .ok (.getfield 110, 3) := by decide +kernel
theorem dX10_quietTicks_134 : decode cX10_quietTicks 134 = .ok (.if_icmp .ge 21, 3) := by decide +kernel
theorem dX10_quietTicks_137 : decode cX10_quietTicks 137 = .ok (.iload_n 2, 1) := by decide +kernel
theorem dX10_quietTicks_138 : decode cX10_quietTicks 138 = .ok (.aload_n 0, 1) := by decide +kernel
theorem dX10_quietTicks_139 : decode cX10_quietTicks 139 = .ok (.iload_n 3, 1) := by decide +kernel
theorem dX10_quietTicks_140 : decode cX10_quietTicks 140 = .ok (.iload 4, 2) := by decide +kernel
theorem dX10_quietTicks_142 : decode cX10_quietTicks 142 = .ok (.invokevirtual 162, 3) := by decide +kernel
theorem dX10_quietTicks_145 : decode cX10_quietTicks 145 = .ok (.invokestatic 154, 3) := by decide +kernel
theorem dX10_quietTicks_148 : decode cX10_quietTicks 148 = .ok (.istore_n 2, 1) := by decide +kernel
theorem dX10_quietTicks_149 : decode cX10_quietTicks 149 = .ok (.iinc 4 1, 3) := by decide +kernel
theorem dX10_quietTicks_152 : decode cX10_quietTicks 152 = .ok (.goto (-27), 3) := by decide +kernel
theorem dX10_quietTicks_155 : decode cX10_quietTicks 155 = .ok (.iinc 3 1, 3) := by decide +kernel
theorem dX10_quietTicks_158 : decode cX10_quietTicks 158 = .ok (.goto (-51), 3) := by decide +kernel
theorem dX10_quietTicks_161 : decode cX10_quietTicks 161 = .ok (.iconst 0, 1) := by decide +kernel
theorem dX10_quietTicks_162 : decode cX10_quietTicks 162 = .ok (.iload_n 2, 1) := by decide +kernel
theorem dX10_quietTicks_163 : decode cX10_quietTicks 163 = .ok (.invokestatic 165, 3) := by decide +kernel
theorem dX10_quietTicks_166 : decode cX10_quietTicks 166 = .ok (.ireturn, 1) := by decide +kernel
theorem dX10_ticksBeforePassage_0 : decode cX10_ticksBeforePassage 0 = .ok (.iload_n 1, 1) := by decide +kernel
theorem dX10_ticksBeforePassage_1 : decode cX10_ticksBeforePassage 1 = .ok (.bipush 6, 2) := by decide +kernel
theorem dX10_ticksBeforePassage_3 : decode cX10_ticksBeforePassage 3 = .ok (.imul, 1) := by decide +kernel
theorem dX10_ticksBeforePassage_4 : decode cX10_ticksBeforePassage 4 = .ok (.iload_n 2, 1) := by decide +kernel
theorem dX10_ticksBeforePassage_5 : decode cX10_ticksBeforePassage 5 = .ok (.iadd, 1) := by decide +kernel
theorem dX10_ticksBeforePassage_6 : decode cX10_ticksBeforePassage 6 = .ok (.istore_n 3, 1) := by decide +kernel
theorem dX10_ticksBeforePassage_7 : decode cX10_ticksBeforePassage 7 = .ok (.aload_n 0, 1) := by decide +kernel
theorem dX10_ticksBeforePassage_8 : decode cX10_ticksBeforePassage 8 = .ok (.getfield 28, 3) := by decide +kernel
theorem dX10_ticksBeforePassage_11 : decode cX10_ticksBeforePassage 11 = .ok (.iload_n 3, 1) := by decide +kernel
theorem dX10_ticksBeforePassage_12 : decode cX10_ticksBeforePassage 12 = .ok (.invokevirtual 168, 3) := by decide +kernel
theorem dX10_ticksBeforePassage_15 : decode cX10_ticksBeforePassage 15 = .ok (.istore 4, 2) := by decide +kernel
theorem dX10_ticksBeforePassage_17 : decode cX10_ticksBeforePassage 17 = .ok (.iload 4, 2) := by decide +kernel
theorem dX10_ticksBeforePassage_19 : decode cX10_ticksBeforePassage 19 = .ok (.ifCond .ge 6, 3) := by decide +kernel
theorem dX10_ticksBeforePassage_22 : decode cX10_ticksBeforePassage 22 = .ok (.ldc 75, 2) := by decide +kernel
theorem dX10_ticksBeforePassage_24 : decode cX10_ticksBeforePassage 24 = .ok (.ireturn, 1) := by decide +kernel
theorem dX10_ticksBeforePassage_25 : decode cX10_ticksBeforePassage 25 = .ok (.aload_n 0, 1) := by decide +kernel
theorem dX10_ticksBeforePassage_26 : decode cX10_ticksBeforePassage 26 = .ok (.getfield 35, 3) := by decide +kernel
theorem dX10_ticksBeforePassage_29 : decode cX10_ticksBeforePassage 29 = .ok (.getfield 171, 3) := by decide +kernel
theorem dX10_ticksBeforePassage_32 : decode cX10_ticksBeforePassage 32 = .ok (.iload 4, 2) := by decide +kernel
theorem dX10_ticksBeforePassage_34 : decode cX10_ticksBeforePassage 34 = .ok (.iaload, 1) := by decide +kernel
theorem dX10_ticksBeforePassage_35 : decode cX10_ticksBeforePassage 35 = .ok (.istore 5, 2) := by decide +kernel
theorem dX10_ticksBeforePassage_37 : decode cX10_ticksBeforePassage 37 = .ok (.aload_n 0, 1) := by decide +kernel
theorem dX10_ticksBeforePassage_38 : decode cX10_ticksBeforePassage 38 = .ok (.getfield 28, 3) := by decide +kernel
theorem dX10_ticksBeforePassage_41 : decode cX10_ticksBeforePassage 41 = .ok (.getfield 174, 3) := by decide +kernel
theorem dX10_ticksBeforePassage_44 : decode cX10_ticksBeforePassage 44 = .ok (.iload_n 3, 1) := by decide +kernel
theorem dX10_ticksBeforePassage_45 : decode cX10_ticksBeforePassage 45 = .ok (.iaload, 1) := by decide +kernel
theorem dX10_ticksBeforePassage_46 : decode cX10_ticksBeforePassage 46 = .ok (.istore 6, 2) := by decide +kernel
theorem dX10_ticksBeforePassage_48 : decode cX10_ticksBeforePassage 48 = .ok (.aload_n 0, 1) := by decide +kernel
theorem dX10_ticksBeforePassage_49 : decode cX10_ticksBeforePassage 49 = .ok (.getfield 12, 3) := by decide +kernel
theorem dX10_ticksBeforePassage_52 : decode cX10_ticksBeforePassage 52 = .ok (.iload_n 1, 1) := by decide +kernel
theorem dX10_ticksBeforePassage_53 : decode cX10_ticksBeforePassage 53 = .ok (.iload 6, 2) := by decide +kernel
theorem dX10_ticksBeforePassage_55 : decode cX10_ticksBeforePassage 55 = .ok (.iload 5, 2) := by decide +kernel
theorem dX10_ticksBeforePassage_57 : decode cX10_ticksBeforePassage 57 = .ok (.invokevirtual 177, 3) := by decide +kernel
theorem dX10_ticksBeforePassage_60 : decode cX10_ticksBeforePassage 60 = .ok (.istore 7, 2) := by decide +kernel
theorem dX10_ticksBeforePassage_62 : decode cX10_ticksBeforePassage 62 = .ok (.aload_n 0, 1) := by decide +kernel
theorem dX10_ticksBeforePassage_63 : decode cX10_ticksBeforePassage 63 = .ok (.getfield 12, 3) := by decide +kernel
theorem dX10_ticksBeforePassage_66 : decode cX10_ticksBeforePassage 66 = .ok (.iload_n 1, 1) := by decide +kernel
theorem dX10_ticksBeforePassage_67 : decode cX10_ticksBeforePassage 67 = .ok (.iload 6, 2) := by decide +kernel
theorem dX10_ticksBeforePassage_69 : decode cX10_ticksBeforePassage 69 = .ok (.iload 5, 2) := by decide +kernel
theorem dX10_ticksBeforePassage_71 : decode cX10_ticksBeforePassage 71 = .ok (.aload_n 0, 1) := by decide +kernel
theorem dX10_ticksBeforePassage_72 : decode cX10_ticksBeforePassage 72 = .ok (.getfield 42, 3) := by decide +kernel
theorem dX10_ticksBeforePassage_75 : decode cX10_ticksBeforePassage 75 = .ok (.iload_n 2, 1) := by decide +kernel
theorem dX10_ticksBeforePassage_76 : decode cX10_ticksBeforePassage 76 = .ok (.invokevirtual 181, 3) := by decide +kernel
theorem dX10_ticksBeforePassage_79 : decode cX10_ticksBeforePassage 79 = .ok (.isub, 1) := by decide +kernel
theorem dX10_ticksBeforePassage_80 : decode cX10_ticksBeforePassage 80 = .ok (.invokevirtual 177, 3) := by decide +kernel
theorem dX10_ticksBeforePassage_83 : decode cX10_ticksBeforePassage 83 = .ok (.istore 8, 2) := by decide +kernel
theorem dX10_ticksBeforePassage_85 : decode cX10_ticksBeforePassage 85 = .ok (.aload_n 0, 1) := by decide +kernel
theorem dX10_ticksBeforePassage_86 : decode cX10_ticksBeforePassage 86 = .ok (.getfield 35, 3) := by decide +kernel
theorem dX10_ticksBeforePassage_89 : decode cX10_ticksBeforePassage 89 = .ok (.getfield 184, 3) := by decide +kernel
theorem dX10_ticksBeforePassage_92 : decode cX10_ticksBeforePassage 92 = .ok (.iload 4, 2) := by decide +kernel
theorem dX10_ticksBeforePassage_94 : decode cX10_ticksBeforePassage 94 = .ok (.iaload, 1) := by decide +kernel
theorem dX10_ticksBeforePassage_95 : decode cX10_ticksBeforePassage 95 = .ok (.aload_n 0, 1) := by decide +kernel
theorem dX10_ticksBeforePassage_96 : decode cX10_ticksBeforePassage 96 = .ok (.getfield 21, 3) := by decide +kernel
theorem dX10_ticksBeforePassage_99 : decode cX10_ticksBeforePassage 99 = .ok (.getfield 187, 3) := by decide +kernel
theorem dX10_ticksBeforePassage_102 : decode cX10_ticksBeforePassage 102 = .ok (.iload_n 2, 1) := by decide +kernel
theorem dX10_ticksBeforePassage_103 : decode cX10_ticksBeforePassage 103 = .ok (.iaload, 1) := by decide +kernel
theorem dX10_ticksBeforePassage_104 : decode cX10_ticksBeforePassage 104 = .ok (.iadd, 1) := by decide +kernel
theorem dX10_ticksBeforePassage_105 : decode cX10_ticksBeforePassage 105 = .ok (.aload_n 0, 1) := by decide +kernel
theorem dX10_ticksBeforePassage_106 : decode cX10_ticksBeforePassage 106 = .ok (.getfield 98, 3) := by decide +kernel
theorem dX10_ticksBeforePassage_109 : decode cX10_ticksBeforePassage 109 = .ok (.isub, 1) := by decide +kernel
theorem dX10_ticksBeforePassage_110 : decode cX10_ticksBeforePassage 110 = .ok (.istore 9, 2) := by decide +kernel
theorem dX10_ticksBeforePassage_112 : decode cX10_ticksBeforePassage 112 = .ok (.iload 7, 2) := by decide +kernel
theorem dX10_ticksBeforePassage_114 : decode cX10_ticksBeforePassage 114 = .ok (.iload 8, 2) := by decide +kernel
theorem dX10_ticksBeforePassage_116 : decode cX10_ticksBeforePassage 116 = .ok (.iload 9, 2) := by decide +kernel
theorem dX10_ticksBeforePassage_118 : decode cX10_ticksBeforePassage 118 = .ok (.invokestatic 165, 3) := by decide +kernel
theorem dX10_ticksBeforePassage_121 : decode cX10_ticksBeforePassage 121 = .ok (.invokestatic 154, 3) := by decide +kernel
theorem dX10_ticksBeforePassage_124 : decode cX10_ticksBeforePassage 124 = .ok (.ireturn, 1) := by decide +kernel
theorem dX10_rest_0 : decode cX10_rest 0 = .ok (.iload_n 1, 1) := by decide +kernel
theorem dX10_rest_1 : decode cX10_rest 1 = .ok (.ifCond .gt 4, 3) := by decide +kernel
theorem dX10_rest_4 : decode cX10_rest 4 = .ok (.return_, 1) := by decide +kernel
theorem dX10_rest_5 : decode cX10_rest 5 = .ok (.aload_n 0, 1) := by decide +kernel
theorem dX10_rest_6 : decode cX10_rest 6 = .ok (.iload_n 1, 1) := by decide +kernel
theorem dX10_rest_7 : decode cX10_rest 7 = .ok (.invokevirtual 190, 3) := by decide +kernel
theorem dX10_rest_10 : decode cX10_rest 10 = .ok (.aload_n 0, 1) := by decide +kernel
theorem dX10_rest_11 : decode cX10_rest 11 = .ok (.dup, 1) := by decide +kernel
theorem dX10_rest_12 : decode cX10_rest 12 = .ok (.getfield 98, 3) := by decide +kernel
theorem dX10_rest_15 : decode cX10_rest 15 = .ok (.iload_n 1, 1) := by decide +kernel
theorem dX10_rest_16 : decode cX10_rest 16 = .ok (.iadd, 1) := by decide +kernel
theorem dX10_rest_17 : decode cX10_rest 17 = .ok (.putfield 98, 3) := by decide +kernel
theorem dX10_rest_20 : decode cX10_rest 20 = .ok (.aload_n 0, 1) := by decide +kernel
theorem dX10_rest_21 : decode cX10_rest 21 = .ok (.getfield 72, 3) := by decide +kernel
theorem dX10_rest_24 : decode cX10_rest 24 = .ok (.ifCond .lt 17, 3) := by decide +kernel
theorem dX10_rest_27 : decode cX10_rest 27 = .ok (.aload_n 0, 1) := by decide +kernel
theorem dX10_rest_28 : decode cX10_rest 28 = .ok (.getfield 72, 3) := by decide +kernel
theorem dX10_rest_31 : decode cX10_rest 31 = .ok (.aload_n 0, 1) := by decide +kernel
theorem dX10_rest_32 : decode cX10_rest 32 = .ok (.getfield 21, 3) := by decide +kernel
theorem dX10_rest_35 : decode cX10_rest 35 = .ok (.getfield 110, 3) := by decide +kernel
theorem dX10_rest_38 : decode cX10_rest 38 = .ok (.if_icmp .lt 4, 3) := by decide +kernel
theorem dX10_rest_41 : decode cX10_rest 41 = .ok (.return_, 1) := by decide +kernel
theorem dX10_rest_42 : decode cX10_rest 42 = .ok (.iconst 0, 1) := by decide +kernel
theorem dX10_rest_43 : decode cX10_rest 43 = .ok (.istore_n 2, 1) := by decide +kernel
theorem dX10_rest_44 : decode cX10_rest 44 = .ok (.iload_n 2, 1) := by decide +kernel
theorem dX10_rest_45 : decode cX10_rest 45 = .ok (.aload_n 0, 1) := by decide +kernel
theorem dX10_rest_46 : decode cX10_rest 46 = .ok (.getfield 12, 3) := by decide +kernel
theorem dX10_rest_49 : decode cX10_rest 49 = .ok (.getfield 107, 3) := by decide +kernel
theorem dX10_rest_52 : decode cX10_rest 52 = .ok (.if_icmp .ge 24, 3) := by decide +kernel
theorem dX10_rest_55 : decode cX10_rest 55 = .ok (.aload_n 0, 1) := by decide +kernel
theorem dX10_rest_56 : decode cX10_rest 56 = .ok (.iload_n 2, 1) := by decide +kernel
theorem dX10_rest_57 : decode cX10_rest 57 = .ok (.aload_n 0, 1) := by decide +kernel
theorem dX10_rest_58 : decode cX10_rest 58 = .ok (.getfield 72, 3) := by decide +kernel
theorem dX10_rest_61 : decode cX10_rest 61 = .ok (.aload_n 0, 1) := by decide +kernel
theorem dX10_rest_62 : decode cX10_rest 62 = .ok (.getfield 98, 3) := by decide +kernel
theorem dX10_rest_65 : decode cX10_rest 65 = .ok (.iconst 1, 1) := by decide +kernel
theorem dX10_rest_66 : decode cX10_rest 66 = .ok (.isub, 1) := by decide +kernel
theorem dX10_rest_67 : decode cX10_rest 67 = .ok (.invokevirtual 193, 3) := by decide +kernel
theorem dX10_rest_70 : decode cX10_rest 70 = .ok (.iinc 2 1, 3) := by decide +kernel
theorem dX10_rest_73 : decode cX10_rest 73 = .ok (.goto (-29), 3) := by decide +kernel
theorem dX10_rest_76 : decode cX10_rest 76 = .ok (.return_, 1) := by decide +kernel
theorem dX10_tick_0 : decode cX10_tick 0 = .ok (.aload_n 0, 1) := by decide +kernel
theorem dX10_tick_1 : decode cX10_tick 1 = .ok (.iconst 1, 1) := by decide +kernel
theorem dX10_tick_2 : decode cX10_tick 2 = .ok (.invokevirtual 190, 3) := by decide +kernel
theorem dX10_tick_5 : decode cX10_tick 5 = .ok (.aload_n 0, 1) := by decide +kernel
theorem dX10_tick_6 : decode cX10_tick 6 = .ok (.dup, 1) := by decide +kernel
theorem dX10_tick_7 : decode cX10_tick 7 = .ok (.getfield 101, 3) := by decide +kernel
theorem dX10_tick_10 : decode cX10_tick 10 = .ok (.aload_n 0, 1) := by decide +kernel
theorem dX10_tick_11 : decode cX10_tick 11 = .ok (.getfield 42, 3) := by decide +kernel
theorem dX10_tick_14 : decode cX10_tick 14 = .ok (.aload_n 0, 1) := by decide +kernel
theorem dX10_tick_15 : decode cX10_tick 15 = .ok (.getfield 98, 3) := by decide +kernel
theorem dX10_tick_18 : decode cX10_tick 18 = .ok (.invokevirtual 197, 3) := by decide +kernel
theorem dX10_tick_21 : decode cX10_tick 21 = .ok (.iadd, 1) := by decide +kernel
theorem dX10_tick_22 : decode cX10_tick 22 = .ok (.putfield 101, 3) := by decide +kernel
theorem dX10_tick_25 : decode cX10_tick 25 = .ok (.iconst 0, 1) := by decide +kernel
theorem dX10_tick_26 : decode cX10_tick 26 = .ok (.istore_n 1, 1) := by decide +kernel
theorem dX10_tick_27 : decode cX10_tick 27 = .ok (.iload_n 1, 1) := by decide +kernel
theorem dX10_tick_28 : decode cX10_tick 28 = .ok (.aload_n 0, 1) := by decide +kernel
theorem dX10_tick_29 : decode cX10_tick 29 = .ok (.getfield 35, 3) := by decide +kernel
theorem dX10_tick_32 : decode cX10_tick 32 = .ok (.getfield 111, 3) := by decide +kernel
theorem dX10_tick_35 : decode cX10_tick 35 = .ok (.if_icmp .ge 59, 3) := by decide +kernel
theorem dX10_tick_38 : decode cX10_tick 38 = .ok (.aload_n 0, 1) := by decide +kernel
theorem dX10_tick_39 : decode cX10_tick 39 = .ok (.getfield 35, 3) := by decide +kernel
theorem dX10_tick_42 : decode cX10_tick 42 = .ok (.getfield 123, 3) := by decide +kernel
theorem dX10_tick_45 : decode cX10_tick 45 = .ok (.iload_n 1, 1) := by decide +kernel
theorem dX10_tick_46 : decode cX10_tick 46 = .ok (.iaload, 1) := by decide +kernel
theorem dX10_tick_47 : decode cX10_tick 47 = .ok (.istore_n 2, 1) := by decide +kernel
theorem dX10_tick_48 : decode cX10_tick 48 = .ok (.iload_n 2, 1) := by decide +kernel
theorem dX10_tick_49 : decode cX10_tick 49 = .ok (.ifCond .ne 23, 3) := by decide +kernel
theorem dX10_tick_52 : decode cX10_tick 52 = .ok (.aload_n 0, 1) := by decide +kernel
theorem dX10_tick_53 : decode cX10_tick 53 = .ok (.getfield 35, 3) := by decide +kernel
theorem dX10_tick_56 : decode cX10_tick 56 = .ok (.getfield 151, 3) := by decide +kernel
theorem dX10_tick_59 : decode cX10_tick 59 = .ok (.iload_n 1, 1) := by decide +kernel
theorem dX10_tick_60 : decode cX10_tick 60 = .ok (.iaload, 1) := by decide +kernel
theorem dX10_tick_61 : decode cX10_tick 61 = .ok (.aload_n 0, 1) := by decide +kernel
theorem dX10_tick_62 : decode cX10_tick 62 = .ok (.getfield 98, 3) := by decide +kernel
theorem dX10_tick_65 : decode cX10_tick 65 = .ok (.if_icmp .ne 7, 3) := by decide +kernel
theorem dX10_tick_68 : decode cX10_tick 68 = .ok (.iconst 1, 1) := by decide +kernel
theorem dX10_tick_69 : decode cX10_tick 69 = .ok (.goto 4, 3) := by decide +kernel
theorem dX10_tick_72 : decode cX10_tick 72 = .ok (.iconst 0, 1) := by decide +kernel
theorem dX10_tick_73 : decode cX10_tick 73 = .ok (.istore_n 3, 1) := by decide +kernel
theorem dX10_tick_74 : decode cX10_tick 74 = .ok (.iload_n 3, 1) := by decide +kernel
theorem dX10_tick_75 : decode cX10_tick 75 = .ok (.ifCond .ne 8, 3) := by decide +kernel
theorem dX10_tick_78 : decode cX10_tick 78 = .ok (.iload_n 2, 1) := by decide +kernel
theorem dX10_tick_79 : decode cX10_tick 79 = .ok (.iconst 2, 1) := by decide +kernel
theorem dX10_tick_80 : decode cX10_tick 80 = .ok (.if_icmp .ne 8, 3) := by decide +kernel
theorem dX10_tick_83 : decode cX10_tick 83 = .ok (.aload_n 0, 1) := by decide +kernel
theorem dX10_tick_84 : decode cX10_tick 84 = .ok (.iload_n 1, 1) := by decide +kernel
theorem dX10_tick_85 : decode cX10_tick 85 = .ok (.invokevirtual 200, 3) := by decide +kernel
theorem dX10_tick_88 : decode cX10_tick 88 = .ok (.iinc 1 1, 3) := by decide +kernel
theorem dX10_tick_91 : decode cX10_tick 91 = .ok (.goto (-64), 3) := by decide +kernel
theorem dX10_tick_94 : decode cX10_tick 94 = .ok (.iconst 0, 1) := by decide +kernel
theorem dX10_tick_95 : decode cX10_tick 95 = .ok (.istore_n 1, 1) := by decide +kernel
theorem dX10_tick_96 : decode cX10_tick 96 = .ok (.iload_n 1, 1) := by decide +kernel
theorem dX10_tick_97 : decode cX10_tick 97 = .ok (.aload_n 0, 1) := by decide +kernel
theorem dX10_tick_98 : decode cX10_tick 98 = .ok (.getfield 12, 3) := by decide +kernel
theorem dX10_tick_101 : decode cX10_tick 101 = .ok (.getfield 107, 3) := by decide +kernel
theorem dX10_tick_104 : decode cX10_tick 104 = .ok (.if_icmp .ge 34, 3) := by decide +kernel
theorem dX10_tick_107 : decode cX10_tick 107 = .ok (.iconst 0, 1) := by decide +kernel
theorem dX10_tick_108 : decode cX10_tick 108 = .ok (.istore_n 2, 1) := by decide +kernel
theorem dX10_tick_109 : decode cX10_tick 109 = .ok (.iload_n 2, 1) := by decide +kernel
theorem dX10_tick_110 : decode cX10_tick 110 = .ok (.aload_n 0, 1) := by decide +kernel
theorem dX10_tick_111 : decode cX10_tick 111 = .ok (.getfield 21, 3) := by decide +kernel
theorem dX10_tick_114 : decode cX10_tick 114 = .ok (.getfield 110, 3) := by decide +kernel
theorem dX10_tick_117 : decode cX10_tick 117 = .ok (.if_icmp .ge 15, 3) := by decide +kernel
theorem dX10_tick_120 : decode cX10_tick 120 = .ok (.aload_n 0, 1) := by decide +kernel
theorem dX10_tick_121 : decode cX10_tick 121 = .ok (.iload_n 1, 1) := by decide +kernel
theorem dX10_tick_122 : decode cX10_tick 122 = .ok (.iload_n 2, 1) := by decide +kernel
theorem dX10_tick_123 : decode cX10_tick 123 = .ok (.invokevirtual 203, 3) := by decide +kernel
theorem dX10_tick_126 : decode cX10_tick 126 = .ok (.iinc 2 1, 3) := by decide +kernel
theorem dX10_tick_129 : decode cX10_tick 129 = .ok (.goto (-20), 3) := by decide +kernel
theorem dX10_tick_132 : decode cX10_tick 132 = .ok (.iinc 1 1, 3) := by decide +kernel
theorem dX10_tick_135 : decode cX10_tick 135 = .ok (.goto (-39), 3) := by decide +kernel
theorem dX10_tick_138 : decode cX10_tick 138 = .ok (.aload_n 0, 1) := by decide +kernel
theorem dX10_tick_139 : decode cX10_tick 139 = .ok (.dup, 1) := by decide +kernel
theorem dX10_tick_140 : decode cX10_tick 140 = .ok (.getfield 98, 3) := by decide +kernel
theorem dX10_tick_143 : decode cX10_tick 143 = .ok (.iconst 1, 1) := by decide +kernel
theorem dX10_tick_144 : decode cX10_tick 144 = .ok (.iadd, 1) := by decide +kernel
theorem dX10_tick_145 : decode cX10_tick 145 = .ok (.putfield 98, 3) := by decide +kernel
theorem dX10_tick_148 : decode cX10_tick 148 = .ok (.return_, 1) := by decide +kernel
theorem dX10_refill_0 : decode cX10_refill 0 = .ok (.iconst 0, 1) := by decide +kernel
theorem dX10_refill_1 : decode cX10_refill 1 = .ok (.istore_n 2, 1) := by decide +kernel
theorem dX10_refill_2 : decode cX10_refill 2 = .ok (.iload_n 2, 1) := by decide +kernel
theorem dX10_refill_3 : decode cX10_refill 3 = .ok (.aload_n 0, 1) := by decide +kernel
theorem dX10_refill_4 : decode cX10_refill 4 = .ok (.getfield 12, 3) := by decide +kernel
theorem dX10_refill_7 : decode cX10_refill 7 = .ok (.getfield 107, 3) := by decide +kernel
theorem dX10_refill_10 : decode cX10_refill 10 = .ok (.if_icmp .ge 85, 3) := by decide +kernel
theorem dX10_refill_13 : decode cX10_refill 13 = .ok (.aload_n 0, 1) := by decide +kernel
theorem dX10_refill_14 : decode cX10_refill 14 = .ok (.getfield 12, 3) := by decide +kernel
theorem dX10_refill_17 : decode cX10_refill 17 = .ok (.getfield 206, 3) := by decide +kernel
theorem dX10_refill_20 : decode cX10_refill 20 = .ok (.iload_n 2, 1) := by decide +kernel
theorem dX10_refill_21 : decode cX10_refill 21 = .ok (.iaload, 1) := by decide +kernel
theorem dX10_refill_22 : decode cX10_refill 22 = .ok (.iload_n 1, 1) := by decide +kernel
theorem dX10_refill_23 : decode cX10_refill 23 = .ok (.imul, 1) := by decide +kernel
theorem dX10_refill_24 : decode cX10_refill 24 = .ok (.istore_n 3, 1) := by decide +kernel
theorem dX10_refill_25 : decode cX10_refill 25 = .ok (.iconst 0, 1) := by decide +kernel
theorem dX10_refill_26 : decode cX10_refill 26 = .ok (.istore 4, 2) := by decide +kernel
theorem dX10_refill_28 : decode cX10_refill 28 = .ok (.iload 4, 2) := by decide +kernel
theorem dX10_refill_30 : decode cX10_refill 30 = .ok (.aload_n 0, 1) := by decide +kernel
theorem dX10_refill_31 : decode cX10_refill 31 = .ok (.getfield 21, 3) := by decide +kernel
theorem dX10_refill_34 : decode cX10_refill 34 = .ok (.getfield 110, 3) := by decide +kernel
theorem dX10_refill_37 : decode cX10_refill 37 = .ok (.if_icmp .ge 52, 3) := by decide +kernel
theorem dX10_refill_40 : decode cX10_refill 40 = .ok (.iload_n 2, 1) := by decide +kernel
theorem dX10_refill_41 : decode cX10_refill 41 = .ok (.bipush 6, 2) := by decide +kernel
theorem dX10_refill_43 : decode cX10_refill 43 = .ok (.imul, 1) := by decide +kernel
theorem dX10_refill_44 : decode cX10_refill 44 = .ok (.iload 4, 2) := by decide +kernel
theorem dX10_refill_46 : decode cX10_refill 46 = .ok (.iadd, 1) := by decide +kernel
theorem dX10_refill_47 : decode cX10_refill 47 = .ok (.istore 5, 2) := by decide +kernel
theorem dX10_refill_49 : decode cX10_refill 49 = .ok (.aload_n 0, 1) := by decide +kernel
theorem dX10_refill_50 : decode cX10_refill 50 = .ok (.getfield 28, 3) := by decide +kernel
theorem dX10_refill_53 : decode cX10_refill 53 = .ok (.getfield 174, 3) := by decide +kernel
theorem dX10_refill_56 : decode cX10_refill 56 = .ok (.iload 5, 2) := by decide +kernel
theorem dX10_refill_58 : decode cX10_refill 58 = .ok (.aload_n 0, 1) := by decide +kernel
theorem dX10_refill_59 : decode cX10_refill 59 = .ok (.getfield 12, 3) := by decide +kernel
theorem dX10_refill_62 : decode cX10_refill 62 = .ok (.getfield 116, 3) := by decide +kernel
theorem dX10_refill_65 : decode cX10_refill 65 = .ok (.iload_n 2, 1) := by decide +kernel
theorem dX10_refill_66 : decode cX10_refill 66 = .ok (.iaload, 1) := by decide +kernel
theorem dX10_refill_67 : decode cX10_refill 67 = .ok (.aload_n 0, 1) := by decide +kernel
theorem dX10_refill_68 : decode cX10_refill 68 = .ok (.getfield 28, 3) := by decide +kernel
theorem dX10_refill_71 : decode cX10_refill 71 = .ok (.getfield 174, 3) := by decide +kernel
theorem dX10_refill_74 : decode cX10_refill 74 = .ok (.iload 5, 2) := by decide +kernel
theorem dX10_refill_76 : decode cX10_refill 76 = .ok (.iaload, 1) := by decide +kernel
theorem dX10_refill_77 : decode cX10_refill 77 = .ok (.iload_n 3, 1) := by decide +kernel
theorem dX10_refill_78 : decode cX10_refill 78 = .ok (.iadd, 1) := by decide +kernel
theorem dX10_refill_79 : decode cX10_refill 79 = .ok (.invokestatic 154, 3) := by decide +kernel
theorem dX10_refill_82 : decode cX10_refill 82 = .ok (.iastore, 1) := by decide +kernel
theorem dX10_refill_83 : decode cX10_refill 83 = .ok (.iinc 4 1, 3) := by decide +kernel
theorem dX10_refill_86 : decode cX10_refill 86 = .ok (.goto (-58), 3) := by decide +kernel
theorem dX10_refill_89 : decode cX10_refill 89 = .ok (.iinc 2 1, 3) := by decide +kernel
theorem dX10_refill_92 : decode cX10_refill 92 = .ok (.goto (-90), 3) := by decide +kernel
theorem dX10_refill_95 : decode cX10_refill 95 = .ok (.return_, 1) := by decide +kernel
theorem dX10_arrive_0 : decode cX10_arrive 0 = .ok (.aload_n 0, 1) := by decide +kernel
theorem dX10_arrive_1 : decode cX10_arrive 1 = .ok (.getfield 35, 3) := by decide +kernel
theorem dX10_arrive_4 : decode cX10_arrive 4 = .ok (.getfield 126, 3) := by decide +kernel
theorem dX10_arrive_7 : decode cX10_arrive 7 = .ok (.iload_n 1, 1) := by decide +kernel
theorem dX10_arrive_8 : decode cX10_arrive 8 = .ok (.iaload, 1) := by decide +kernel
theorem dX10_arrive_9 : decode cX10_arrive 9 = .ok (.istore_n 2, 1) := by decide +kernel
theorem dX10_arrive_10 : decode cX10_arrive 10 = .ok (.aload_n 0, 1) := by decide +kernel
theorem dX10_arrive_11 : decode cX10_arrive 11 = .ok (.getfield 21, 3) := by decide +kernel
theorem dX10_arrive_14 : decode cX10_arrive 14 = .ok (.iload_n 2, 1) := by decide +kernel
theorem dX10_arrive_15 : decode cX10_arrive 15 = .ok (.aload_n 0, 1) := by decide +kernel
theorem dX10_arrive_16 : decode cX10_arrive 16 = .ok (.getfield 35, 3) := by decide +kernel
theorem dX10_arrive_19 : decode cX10_arrive 19 = .ok (.getfield 129, 3) := by decide +kernel
theorem dX10_arrive_22 : decode cX10_arrive 22 = .ok (.iload_n 1, 1) := by decide +kernel
theorem dX10_arrive_23 : decode cX10_arrive 23 = .ok (.iaload, 1) := by decide +kernel
theorem dX10_arrive_24 : decode cX10_arrive 24 = .ok (.invokevirtual 132, 3) := by decide +kernel
theorem dX10_arrive_27 : decode cX10_arrive 27 = .ok (.istore_n 3, 1) := by decide +kernel
theorem dX10_arrive_28 : decode cX10_arrive 28 = .ok (.iload_n 3, 1) := by decide +kernel
theorem dX10_arrive_29 : decode cX10_arrive 29 = .ok (.ifCond .lt 14, 3) := by decide +kernel
theorem dX10_arrive_32 : decode cX10_arrive 32 = .ok (.iload_n 3, 1) := by decide +kernel
theorem dX10_arrive_33 : decode cX10_arrive 33 = .ok (.aload_n 0, 1) := by decide +kernel
theorem dX10_arrive_34 : decode cX10_arrive 34 = .ok (.getfield 12, 3) := by decide +kernel
theorem dX10_arrive_37 : decode cX10_arrive 37 = .ok (.getfield 107, 3) := by decide +kernel
theorem dX10_arrive_40 : decode cX10_arrive 40 = .ok (.if_icmp .lt 4, 3) := by decide +kernel
theorem dX10_arrive_43 : decode cX10_arrive 43 = .ok (.return_, 1) := by decide +kernel
theorem dX10_arrive_44 : decode cX10_arrive 44 = .ok (.iload_n 3, 1) := by decide +kernel
theorem dX10_arrive_45 : decode cX10_arrive 45 = .ok (.bipush 6, 2) := by decide +kernel
theorem dX10_arrive_47 : decode cX10_arrive 47 = .ok (.imul, 1) := by decide +kernel
theorem dX10_arrive_48 : decode cX10_arrive 48 = .ok (.iload_n 2, 1) := by decide +kernel
theorem dX10_arrive_49 : decode cX10_arrive 49 = .ok (.iadd, 1) := by decide +kernel
theorem dX10_arrive_50 : decode cX10_arrive 50 = .ok (.istore 4, 2) := by decide +kernel
theorem dX10_arrive_52 : decode cX10_arrive 52 = .ok (.aload_n 0, 1) := by decide +kernel
theorem dX10_arrive_53 : decode cX10_arrive 53 = .ok (.getfield 28, 3) := by decide +kernel
theorem dX10_arrive_56 : decode cX10_arrive 56 = .ok (.getfield 209, 3) := by decide +kernel
theorem dX10_arrive_59 : decode cX10_arrive 59 = .ok (.iload 4, 2) := by decide +kernel
theorem dX10_arrive_61 : decode cX10_arrive 61 = .ok (.iaload, 1) := by decide +kernel
theorem dX10_arrive_62 : decode cX10_arrive 62 = .ok (.aload_n 0, 1) := by decide +kernel
theorem dX10_arrive_63 : decode cX10_arrive 63 = .ok (.getfield 12, 3) := by decide +kernel
theorem dX10_arrive_66 : decode cX10_arrive 66 = .ok (.getfield 212, 3) := by decide +kernel
theorem dX10_arrive_69 : decode cX10_arrive 69 = .ok (.iload_n 3, 1) := by decide +kernel
theorem dX10_arrive_70 : decode cX10_arrive 70 = .ok (.iaload, 1) := by decide +kernel
theorem dX10_arrive_71 : decode cX10_arrive 71 = .ok (.if_icmp .ge 37, 3) := by decide +kernel
theorem dX10_arrive_74 : decode cX10_arrive 74 = .ok (.aload_n 0, 1) := by decide +kernel
theorem dX10_arrive_75 : decode cX10_arrive 75 = .ok (.getfield 35, 3) := by decide +kernel
theorem dX10_arrive_78 : decode cX10_arrive 78 = .ok (.getfield 123, 3) := by decide +kernel
theorem dX10_arrive_81 : decode cX10_arrive 81 = .ok (.iload_n 1, 1) := by decide +kernel
theorem dX10_arrive_82 : decode cX10_arrive 82 = .ok (.iconst 1, 1) := by decide +kernel
theorem dX10_arrive_83 : decode cX10_arrive 83 = .ok (.iastore, 1) := by decide +kernel
theorem dX10_arrive_84 : decode cX10_arrive 84 = .ok (.aload_n 0, 1) := by decide +kernel
theorem dX10_arrive_85 : decode cX10_arrive 85 = .ok (.getfield 35, 3) := by decide +kernel
theorem dX10_arrive_88 : decode cX10_arrive 88 = .ok (.getfield 184, 3) := by decide +kernel
theorem dX10_arrive_91 : decode cX10_arrive 91 = .ok (.iload_n 1, 1) := by decide +kernel
theorem dX10_arrive_92 : decode cX10_arrive 92 = .ok (.aload_n 0, 1) := by decide +kernel
theorem dX10_arrive_93 : decode cX10_arrive 93 = .ok (.getfield 98, 3) := by decide +kernel
theorem dX10_arrive_96 : decode cX10_arrive 96 = .ok (.iastore, 1) := by decide +kernel
theorem dX10_arrive_97 : decode cX10_arrive 97 = .ok (.aload_n 0, 1) := by decide +kernel
theorem dX10_arrive_98 : decode cX10_arrive 98 = .ok (.getfield 28, 3) := by decide +kernel
theorem dX10_arrive_101 : decode cX10_arrive 101 = .ok (.iload 4, 2) := by decide +kernel
theorem dX10_arrive_103 : decode cX10_arrive 103 = .ok (.iload_n 1, 1) := by decide +kernel
theorem dX10_arrive_104 : decode cX10_arrive 104 = .ok (.invokevirtual 215, 3) := by decide +kernel
theorem dX10_arrive_107 : decode cX10_arrive 107 = .ok (.return_, 1) := by decide +kernel
theorem dX10_arrive_108 : decode cX10_arrive 108 = .ok (.aload_n 0, 1) := by decide +kernel
theorem dX10_arrive_109 : decode cX10_arrive 109 = .ok (.getfield 35, 3) := by decide +kernel
theorem dX10_arrive_112 : decode cX10_arrive 112 = .ok (.getfield 123, 3) := by decide +kernel
theorem dX10_arrive_115 : decode cX10_arrive 115 = .ok (.iload_n 1, 1) := by decide +kernel
theorem dX10_arrive_116 : decode cX10_arrive 116 = .ok (.iconst 4, 1) := by decide +kernel
theorem dX10_arrive_117 : decode cX10_arrive 117 = .ok (.iastore, 1) := by decide +kernel
theorem dX10_arrive_118 : decode cX10_arrive 118 = .ok (.aload_n 0, 1) := by decide +kernel
theorem dX10_arrive_119 : decode cX10_arrive 119 = .ok (.getfield 35, 3) := by decide +kernel
theorem dX10_arrive_122 : decode cX10_arrive 122 = .ok (.getfield 218, 3) := by decide +kernel
theorem dX10_arrive_125 : decode cX10_arrive 125 = .ok (.iload_n 1, 1) := by decide +kernel
theorem dX10_arrive_126 : decode cX10_arrive 126 = .ok (.aload_n 0, 1) := by decide +kernel
theorem dX10_arrive_127 : decode cX10_arrive 127 = .ok (.getfield 98, 3) := by decide +kernel
theorem dX10_arrive_130 : decode cX10_arrive 130 = .ok (.iastore, 1) := by decide +kernel
theorem dX10_arrive_131 : decode cX10_arrive 131 = .ok (.aload_n 0, 1) := by decide +kernel
theorem dX10_arrive_132 : decode cX10_arrive 132 = .ok (.iload_n 2, 1) := by decide +kernel
theorem dX10_arrive_133 : decode cX10_arrive 133 = .ok (.aload_n 0, 1) := by decide +kernel
theorem dX10_arrive_134 : decode cX10_arrive 134 = .ok (.getfield 35, 3) := by decide +kernel
theorem dX10_arrive_137 : decode cX10_arrive 137 = .ok (.getfield 221, 3) := by decide +kernel
theorem dX10_arrive_140 : decode cX10_arrive 140 = .ok (.iload_n 1, 1) := by decide +kernel
theorem dX10_arrive_141 : decode cX10_arrive 141 = .ok (.iaload, 1) := by decide +kernel
theorem dX10_arrive_142 : decode cX10_arrive 142 = .ok (.invokevirtual 224, 3) := by decide +kernel
theorem dX10_arrive_145 : decode cX10_arrive 145 = .ok (.return_, 1) := by decide +kernel
theorem dX10_refund_0 : decode cX10_refund 0 = .ok (.sipush 9999, 3) := by decide +kernel
theorem dX10_refund_3 : decode cX10_refund 3 = .ok (.iload_n 2, 1) := by decide +kernel
theorem dX10_refund_4 : decode cX10_refund 4 = .ok (.aload_n 0, 1) := by decide +kernel
theorem dX10_refund_5 : decode cX10_refund 5 = .ok (.getfield 66, 3) := by decide +kernel
theorem dX10_refund_8 : decode cX10_refund 8 = .ok (.imul, 1) := by decide +kernel
theorem dX10_refund_9 : decode cX10_refund 9 = .ok (.bipush 100, 2) := by decide +kernel
theorem dX10_refund_11 : decode cX10_refund 11 = .ok (.idiv, 1) := by decide +kernel
theorem dX10_refund_12 : decode cX10_refund 12 = .ok (.invokestatic 154, 3) := by decide +kernel
theorem dX10_refund_15 : decode cX10_refund 15 = .ok (.istore_n 3, 1) := by decide +kernel
theorem dX10_refund_16 : decode cX10_refund 16 = .ok (.iload_n 3, 1) := by decide +kernel
theorem dX10_refund_17 : decode cX10_refund 17 = .ok (.ifCond .gt 4, 3) := by decide +kernel
theorem dX10_refund_20 : decode cX10_refund 20 = .ok (.return_, 1) := by decide +kernel
theorem dX10_refund_21 : decode cX10_refund 21 = .ok (.aload_n 0, 1) := by decide +kernel
theorem dX10_refund_22 : decode cX10_refund 22 = .ok (.getfield 42, 3) := by decide +kernel
theorem dX10_refund_25 : decode cX10_refund 25 = .ok (.getfield 112, 3) := by decide +kernel
theorem dX10_refund_28 : decode cX10_refund 28 = .ok (.bipush 29, 2) := by decide +kernel
theorem dX10_refund_30 : decode cX10_refund 30 = .ok (.if_icmp .lt 8, 3) := by decide +kernel
theorem dX10_refund_33 : decode cX10_refund 33 = .ok (.aload_n 0, 1) := by decide +kernel
theorem dX10_refund_34 : decode cX10_refund 34 = .ok (.iconst 1, 1) := by decide +kernel
theorem dX10_refund_35 : decode cX10_refund 35 = .ok (.putfield 76, 3) := by decide +kernel
theorem dX10_refund_38 : decode cX10_refund 38 = .ok (.aload_n 0, 1) := by decide +kernel
theorem dX10_refund_39 : decode cX10_refund 39 = .ok (.getfield 42, 3) := by decide +kernel
theorem dX10_refund_42 : decode cX10_refund 42 = .ok (.iload_n 1, 1) := by decide +kernel
theorem dX10_refund_43 : decode cX10_refund 43 = .ok (.iload_n 3, 1) := by decide +kernel
theorem dX10_refund_44 : decode cX10_refund 44 = .ok (.aload_n 0, 1) := by decide +kernel
theorem dX10_refund_45 : decode cX10_refund 45 = .ok (.getfield 98, 3) := by decide +kernel
theorem dX10_refund_48 : decode cX10_refund 48 = .ok (.aload_n 0, 1) := by decide +kernel
theorem dX10_refund_49 : decode cX10_refund 49 = .ok (.getfield 69, 3) := by decide +kernel
theorem dX10_refund_52 : decode cX10_refund 52 = .ok (.iadd, 1) := by decide +kernel
theorem dX10_refund_53 : decode cX10_refund 53 = .ok (.invokevirtual 227, 3) := by decide +kernel
theorem dX10_refund_56 : decode cX10_refund 56 = .ok (.return_, 1) := by decide +kernel
theorem dX10_openGate_0 : decode cX10_openGate 0 = .ok (.iload_n 1, 1) := by decide +kernel
theorem dX10_openGate_1 : decode cX10_openGate 1 = .ok (.bipush 6, 2) := by decide +kernel
theorem dX10_openGate_3 : decode cX10_openGate 3 = .ok (.imul, 1) := by decide +kernel
theorem dX10_openGate_4 : decode cX10_openGate 4 = .ok (.iload_n 2, 1) := by decide +kernel
theorem dX10_openGate_5 : decode cX10_openGate 5 = .ok (.iadd, 1) := by decide +kernel
theorem dX10_openGate_6 : decode cX10_openGate 6 = .ok (.istore_n 3, 1) := by decide +kernel
theorem dX10_openGate_7 : decode cX10_openGate 7 = .ok (.iconst 0, 1) := by decide +kernel
theorem dX10_openGate_8 : decode cX10_openGate 8 = .ok (.istore 4, 2) := by decide +kernel
theorem dX10_openGate_10 : decode cX10_openGate 10 = .ok (.iload 4, 2) := by decide +kernel
theorem dX10_openGate_12 : decode cX10_openGate 12 = .ok (.bipush 40, 2) := by decide +kernel
theorem dX10_openGate_14 : decode cX10_openGate 14 = .ok (.if_icmp .ge 137, 3) := by decide +kernel
theorem dX10_openGate_17 : decode cX10_openGate 17 = .ok (.aload_n 0, 1) := by decide +kernel
theorem dX10_openGate_18 : decode cX10_openGate 18 = .ok (.getfield 28, 3) := by decide +kernel
theorem dX10_openGate_21 : decode cX10_openGate 21 = .ok (.iload_n 3, 1) := by decide +kernel
theorem dX10_openGate_22 : decode cX10_openGate 22 = .ok (.invokevirtual 168, 3) := by decide +kernel
theorem dX10_openGate_25 : decode cX10_openGate 25 = .ok (.istore 5, 2) := by decide +kernel
theorem dX10_openGate_27 : decode cX10_openGate 27 = .ok (.iload 5, 2) := by decide +kernel
theorem dX10_openGate_29 : decode cX10_openGate 29 = .ok (.ifCond .ge 4, 3) := by decide +kernel
theorem dX10_openGate_32 : decode cX10_openGate 32 = .ok (.return_, 1) := by decide +kernel
theorem dX10_openGate_33 : decode cX10_openGate 33 = .ok (.aload_n 0, 1) := by decide +kernel
theorem dX10_openGate_34 : decode cX10_openGate 34 = .ok (.getfield 35, 3) := by decide +kernel
theorem dX10_openGate_37 : decode cX10_openGate 37 = .ok (.getfield 171, 3) := by decide +kernel
theorem dX10_openGate_40 : decode cX10_openGate 40 = .ok (.iload 5, 2) := by decide +kernel
theorem dX10_openGate_42 : decode cX10_openGate 42 = .ok (.iaload, 1) := by decide +kernel
theorem dX10_openGate_43 : decode cX10_openGate 43 = .ok (.aload_n 0, 1) := by decide +kernel
theorem dX10_openGate_44 : decode cX10_openGate 44 = .ok (.getfield 28, 3) := by decide +kernel
theorem dX10_openGate_47 : decode cX10_openGate 47 = .ok (.getfield 174, 3) := by decide +kernel
theorem dX10_openGate_50 : decode cX10_openGate 50 = .ok (.iload_n 3, 1) := by decide +kernel
theorem dX10_openGate_51 : decode cX10_openGate 51 = .ok (.iaload, 1) := by decide +kernel
theorem dX10_openGate_52 : decode cX10_openGate 52 = .ok (.isub, 1) := by decide +kernel
theorem dX10_openGate_53 : decode cX10_openGate 53 = .ok (.istore 6, 2) := by decide +kernel
theorem dX10_openGate_55 : decode cX10_openGate 55 = .ok (.aload_n 0, 1) := by decide +kernel
theorem dX10_openGate_56 : decode cX10_openGate 56 = .ok (.getfield 98, 3) := by decide +kernel
theorem dX10_openGate_59 : decode cX10_openGate 59 = .ok (.aload_n 0, 1) := by decide +kernel
theorem dX10_openGate_60 : decode cX10_openGate 60 = .ok (.getfield 35, 3) := by decide +kernel
theorem dX10_openGate_63 : decode cX10_openGate 63 = .ok (.getfield 184, 3) := by decide +kernel
theorem dX10_openGate_66 : decode cX10_openGate 66 = .ok (.iload 5, 2) := by decide +kernel
theorem dX10_openGate_68 : decode cX10_openGate 68 = .ok (.iaload, 1) := by decide +kernel
theorem dX10_openGate_69 : decode cX10_openGate 69 = .ok (.isub, 1) := by decide +kernel
theorem dX10_openGate_70 : decode cX10_openGate 70 = .ok (.aload_n 0, 1) := by decide +kernel
theorem dX10_openGate_71 : decode cX10_openGate 71 = .ok (.getfield 21, 3) := by decide +kernel
theorem dX10_openGate_74 : decode cX10_openGate 74 = .ok (.getfield 187, 3) := by decide +kernel
theorem dX10_openGate_77 : decode cX10_openGate 77 = .ok (.iload_n 2, 1) := by decide +kernel
theorem dX10_openGate_78 : decode cX10_openGate 78 = .ok (.iaload, 1) := by decide +kernel
theorem dX10_openGate_79 : decode cX10_openGate 79 = .ok (.if_icmp .lt 7, 3) := by decide +kernel
theorem dX10_openGate_82 : decode cX10_openGate 82 = .ok (.iconst 1, 1) := by decide +kernel
theorem dX10_openGate_83 : decode cX10_openGate 83 = .ok (.goto 4, 3) := by decide +kernel
theorem dX10_openGate_86 : decode cX10_openGate 86 = .ok (.iconst 0, 1) := by decide +kernel
theorem dX10_openGate_87 : decode cX10_openGate 87 = .ok (.istore 7, 2) := by decide +kernel
theorem dX10_openGate_89 : decode cX10_openGate 89 = .ok (.iload 6, 2) := by decide +kernel
theorem dX10_openGate_91 : decode cX10_openGate 91 = .ok (.ifCond .le 32, 3) := by decide +kernel
theorem dX10_openGate_94 : decode cX10_openGate 94 = .ok (.iload 7, 2) := by decide +kernel
theorem dX10_openGate_96 : decode cX10_openGate 96 = .ok (.ifCond .eq 16, 3) := by decide +kernel
theorem dX10_openGate_99 : decode cX10_openGate 99 = .ok (.iload 6, 2) := by decide +kernel
theorem dX10_openGate_101 : decode cX10_openGate 101 = .ok (.aload_n 0, 1) := by decide +kernel
theorem dX10_openGate_102 : decode cX10_openGate 102 = .ok (.getfield 42, 3) := by decide +kernel
theorem dX10_openGate_105 : decode cX10_openGate 105 = .ok (.iload_n 2, 1) := by decide +kernel
theorem dX10_openGate_106 : decode cX10_openGate 106 = .ok (.invokevirtual 181, 3) := by decide +kernel
theorem dX10_openGate_109 : decode cX10_openGate 109 = .ok (.if_icmp .le 14, 3) := by decide +kernel
theorem dX10_openGate_112 : decode cX10_openGate 112 = .ok (.aload_n 0, 1) := by decide +kernel
theorem dX10_openGate_113 : decode cX10_openGate 113 = .ok (.iload_n 1, 1) := by decide +kernel
theorem dX10_openGate_114 : decode cX10_openGate 114 = .ok (.iload_n 2, 1) := by decide +kernel
theorem dX10_openGate_115 : decode cX10_openGate 115 = .ok (.aload_n 0, 1) := by decide +kernel
theorem dX10_openGate_116 : decode cX10_openGate 116 = .ok (.getfield 98, 3) := by decide +kernel
theorem dX10_openGate_119 : decode cX10_openGate 119 = .ok (.invokevirtual 193, 3) := by decide +kernel
theorem dX10_openGate_122 : decode cX10_openGate 122 = .ok (.return_, 1) := by decide +kernel
theorem dX10_openGate_123 : decode cX10_openGate 123 = .ok (.aload_n 0, 1) := by decide +kernel
theorem dX10_openGate_124 : decode cX10_openGate 124 = .ok (.getfield 28, 3) := by decide +kernel
theorem dX10_openGate_127 : decode cX10_openGate 127 = .ok (.iload_n 3, 1) := by decide +kernel
theorem dX10_openGate_128 : decode cX10_openGate 128 = .ok (.invokevirtual 230, 3) := by decide +kernel
theorem dX10_openGate_131 : decode cX10_openGate 131 = .ok (.aload_n 0, 1) := by decide +kernel
theorem dX10_openGate_132 : decode cX10_openGate 132 = .ok (.iload 5, 2) := by decide +kernel
theorem dX10_openGate_134 : decode cX10_openGate 134 = .ok (.iload_n 1, 1) := by decide +kernel
theorem dX10_openGate_135 : decode cX10_openGate 135 = .ok (.iload_n 2, 1) := by decide +kernel
theorem dX10_openGate_136 : decode cX10_openGate 136 = .ok (.iconst 0, 1) := by decide +kernel
theorem dX10_openGate_137 : decode cX10_openGate 137 = .ok (.iload 6, 2) := by decide +kernel
theorem dX10_openGate_139 : decode cX10_openGate 139 = .ok (.invokestatic 165, 3) := by decide +kernel
theorem dX10_openGate_142 : decode cX10_openGate 142 = .ok (.invokevirtual 233, 3) := by decide +kernel
theorem dX10_openGate_145 : decode cX10_openGate 145 = .ok (.iinc 4 1, 3) := by decide +kernel
theorem dX10_openGate_148 : decode cX10_openGate 148 = .ok (.goto (-138), 3) := by decide +kernel
theorem dX10_openGate_151 : decode cX10_openGate 151 = .ok (.return_, 1) := by decide +kernel
theorem dX10_passGate_0 : decode cX10_passGate 0 = .ok (.aload_n 0, 1) := by decide +kernel
theorem dX10_passGate_1 : decode cX10_passGate 1 = .ok (.getfield 35, 3) := by decide +kernel
theorem dX10_passGate_4 : decode cX10_passGate 4 = .ok (.getfield 171, 3) := by decide +kernel
theorem dX10_passGate_7 : decode cX10_passGate 7 = .ok (.iload_n 1, 1) := by decide +kernel
theorem dX10_passGate_8 : decode cX10_passGate 8 = .ok (.iaload, 1) := by decide +kernel
theorem dX10_passGate_9 : decode cX10_passGate 9 = .ok (.istore 5, 2) := by decide +kernel
theorem dX10_passGate_11 : decode cX10_passGate 11 = .ok (.aload_n 0, 1) := by decide +kernel
theorem dX10_passGate_12 : decode cX10_passGate 12 = .ok (.getfield 28, 3) := by decide +kernel
theorem dX10_passGate_15 : decode cX10_passGate 15 = .ok (.getfield 174, 3) := by decide +kernel
theorem dX10_passGate_18 : decode cX10_passGate 18 = .ok (.iload_n 2, 1) := by decide +kernel
theorem dX10_passGate_19 : decode cX10_passGate 19 = .ok (.bipush 6, 2) := by decide +kernel
theorem dX10_passGate_21 : decode cX10_passGate 21 = .ok (.imul, 1) := by decide +kernel
theorem dX10_passGate_22 : decode cX10_passGate 22 = .ok (.iload_n 3, 1) := by decide +kernel
theorem dX10_passGate_23 : decode cX10_passGate 23 = .ok (.iadd, 1) := by decide +kernel
theorem dX10_passGate_24 : decode cX10_passGate 24 = .ok (.dup2, 1) := by decide +kernel
theorem dX10_passGate_25 : decode cX10_passGate 25 = .ok (.iaload, 1) := by decide +kernel
theorem dX10_passGate_26 : decode cX10_passGate 26 = .ok (.iload 5, 2) := by decide +kernel
theorem dX10_passGate_28 : decode cX10_passGate 28 = .ok (.iload 4, 2) := by decide +kernel
theorem dX10_passGate_30 : decode cX10_passGate 30 = .ok (.isub, 1) := by decide +kernel
theorem dX10_passGate_31 : decode cX10_passGate 31 = .ok (.isub, 1) := by decide +kernel
theorem dX10_passGate_32 : decode cX10_passGate 32 = .ok (.iastore, 1) := by decide +kernel
theorem dX10_passGate_33 : decode cX10_passGate 33 = .ok (.aload_n 0, 1) := by decide +kernel
theorem dX10_passGate_34 : decode cX10_passGate 34 = .ok (.getfield 42, 3) := by decide +kernel
theorem dX10_passGate_37 : decode cX10_passGate 37 = .ok (.iload_n 3, 1) := by decide +kernel
theorem dX10_passGate_38 : decode cX10_passGate 38 = .ok (.iload 4, 2) := by decide +kernel
theorem dX10_passGate_40 : decode cX10_passGate 40 = .ok (.invokevirtual 237, 3) := by decide +kernel
theorem dX10_passGate_43 : decode cX10_passGate 43 = .ok (.aload_n 0, 1) := by decide +kernel
theorem dX10_passGate_44 : decode cX10_passGate 44 = .ok (.getfield 35, 3) := by decide +kernel
theorem dX10_passGate_47 : decode cX10_passGate 47 = .ok (.getfield 221, 3) := by decide +kernel
theorem dX10_passGate_50 : decode cX10_passGate 50 = .ok (.iload_n 1, 1) := by decide +kernel
theorem dX10_passGate_51 : decode cX10_passGate 51 = .ok (.dup2, 1) := by decide +kernel
theorem dX10_passGate_52 : decode cX10_passGate 52 = .ok (.iaload, 1) := by decide +kernel
theorem dX10_passGate_53 : decode cX10_passGate 53 = .ok (.iload 4, 2) := by decide +kernel
theorem dX10_passGate_55 : decode cX10_passGate 55 = .ok (.iadd, 1) := by decide +kernel
theorem dX10_passGate_56 : decode cX10_passGate 56 = .ok (.iastore, 1) := by decide +kernel
theorem dX10_passGate_57 : decode cX10_passGate 57 = .ok (.aload_n 0, 1) := by decide +kernel
theorem dX10_passGate_58 : decode cX10_passGate 58 = .ok (.dup, 1) := by decide +kernel
theorem dX10_passGate_59 : decode cX10_passGate 59 = .ok (.getfield 104, 3) := by decide +kernel
theorem dX10_passGate_62 : decode cX10_passGate 62 = .ok (.iload 4, 2) := by decide +kernel
theorem dX10_passGate_64 : decode cX10_passGate 64 = .ok (.iadd, 1) := by decide +kernel
theorem dX10_passGate_65 : decode cX10_passGate 65 = .ok (.putfield 104, 3) := by decide +kernel
theorem dX10_passGate_68 : decode cX10_passGate 68 = .ok (.aload_n 0, 1) := by decide +kernel
theorem dX10_passGate_69 : decode cX10_passGate 69 = .ok (.getfield 21, 3) := by decide +kernel
theorem dX10_passGate_72 : decode cX10_passGate 72 = .ok (.getfield 240, 3) := by decide +kernel
theorem dX10_passGate_75 : decode cX10_passGate 75 = .ok (.iload_n 3, 1) := by decide +kernel
theorem dX10_passGate_76 : decode cX10_passGate 76 = .ok (.dup2, 1) := by decide +kernel
theorem dX10_passGate_77 : decode cX10_passGate 77 = .ok (.iaload, 1) := by decide +kernel
theorem dX10_passGate_78 : decode cX10_passGate 78 = .ok (.aload_n 0, 1) := by decide +kernel
theorem dX10_passGate_79 : decode cX10_passGate 79 = .ok (.getfield 58, 3) := by decide +kernel
theorem dX10_passGate_82 : decode cX10_passGate 82 = .ok (.iload 5, 2) := by decide +kernel
theorem dX10_passGate_84 : decode cX10_passGate 84 = .ok (.iload_n 2, 1) := by decide +kernel
theorem dX10_passGate_85 : decode cX10_passGate 85 = .ok (.iload 4, 2) := by decide +kernel
theorem dX10_passGate_87 : decode cX10_passGate 87 = .ok (.aload_n 0, 1) := by decide +kernel
theorem dX10_passGate_88 : decode cX10_passGate 88 = .ok (.getfield 98, 3) := by decide +kernel
theorem dX10_passGate_91 : decode cX10_passGate 91 = .ok (.aload_n 0, 1) := by decide +kernel
theorem dX10_passGate_92 : decode cX10_passGate 92 = .ok (.getfield 35, 3) := by decide +kernel
theorem dX10_passGate_95 : decode cX10_passGate 95 = .ok (.getfield 184, 3) := by decide +kernel
theorem dX10_passGate_98 : decode cX10_passGate 98 = .ok (.iload_n 1, 1) := by decide +kernel
theorem dX10_passGate_99 : decode cX10_passGate 99 = .ok (.iaload, 1) := by decide +kernel
theorem dX10_passGate_100 : decode cX10_passGate 100 = .ok (.isub, 1) := by decide +kernel
theorem dX10_passGate_101 : decode cX10_passGate 101 = .ok (.invokevirtual 243, 3) := by decide +kernel
theorem dX10_passGate_104 : decode cX10_passGate 104 = .ok (.iadd, 1) := by decide +kernel
theorem dX10_passGate_105 : decode cX10_passGate 105 = .ok (.iastore, 1) := by decide +kernel
theorem dX10_passGate_106 : decode cX10_passGate 106 = .ok (.aload_n 0, 1) := by decide +kernel
theorem dX10_passGate_107 : decode cX10_passGate 107 = .ok (.getfield 49, 3) := by decide +kernel
theorem dX10_passGate_110 : decode cX10_passGate 110 = .ok (.aload_n 0, 1) := by decide +kernel
theorem dX10_passGate_111 : decode cX10_passGate 111 = .ok (.getfield 98, 3) := by decide +kernel
theorem dX10_passGate_114 : decode cX10_passGate 114 = .ok (.iload_n 2, 1) := by decide +kernel
theorem dX10_passGate_115 : decode cX10_passGate 115 = .ok (.iload_n 3, 1) := by decide +kernel
theorem dX10_passGate_116 : decode cX10_passGate 116 = .ok (.iload 5, 2) := by decide +kernel
theorem dX10_passGate_118 : decode cX10_passGate 118 = .ok (.iload 4, 2) := by decide +kernel
theorem dX10_passGate_120 : decode cX10_passGate 120 = .ok (.invokevirtual 247, 3) := by decide +kernel
theorem dX10_passGate_123 : decode cX10_passGate 123 = .ok (.aload_n 0, 1) := by decide +kernel
theorem dX10_passGate_124 : decode cX10_passGate 124 = .ok (.getfield 35, 3) := by decide +kernel
theorem dX10_passGate_127 : decode cX10_passGate 127 = .ok (.getfield 129, 3) := by decide +kernel
theorem dX10_passGate_130 : decode cX10_passGate 130 = .ok (.iload_n 1, 1) := by decide +kernel
theorem dX10_passGate_131 : decode cX10_passGate 131 = .ok (.dup2, 1) := by decide +kernel
theorem dX10_passGate_132 : decode cX10_passGate 132 = .ok (.iaload, 1) := by decide +kernel
theorem dX10_passGate_133 : decode cX10_passGate 133 = .ok (.iconst 1, 1) := by decide +kernel
theorem dX10_passGate_134 : decode cX10_passGate 134 = .ok (.iadd, 1) := by decide +kernel
theorem dX10_passGate_135 : decode cX10_passGate 135 = .ok (.iastore, 1) := by decide +kernel
theorem dX10_passGate_136 : decode cX10_passGate 136 = .ok (.aload_n 0, 1) := by decide +kernel
theorem dX10_passGate_137 : decode cX10_passGate 137 = .ok (.getfield 35, 3) := by decide +kernel
theorem dX10_passGate_140 : decode cX10_passGate 140 = .ok (.getfield 129, 3) := by decide +kernel
theorem dX10_passGate_143 : decode cX10_passGate 143 = .ok (.iload_n 1, 1) := by decide +kernel
theorem dX10_passGate_144 : decode cX10_passGate 144 = .ok (.iaload, 1) := by decide +kernel
theorem dX10_passGate_145 : decode cX10_passGate 145 = .ok (.aload_n 0, 1) := by decide +kernel
theorem dX10_passGate_146 : decode cX10_passGate 146 = .ok (.getfield 21, 3) := by decide +kernel
theorem dX10_passGate_149 : decode cX10_passGate 149 = .ok (.getfield 250, 3) := by decide +kernel
theorem dX10_passGate_152 : decode cX10_passGate 152 = .ok (.iload_n 3, 1) := by decide +kernel
theorem dX10_passGate_153 : decode cX10_passGate 153 = .ok (.iaload, 1) := by decide +kernel
theorem dX10_passGate_154 : decode cX10_passGate 154 = .ok (.if_icmp .ge 16, 3) := by decide +kernel
theorem dX10_passGate_157 : decode cX10_passGate 157 = .ok (.aload_n 0, 1) := by decide +kernel
theorem dX10_passGate_158 : decode cX10_passGate 158 = .ok (.getfield 35, 3) := by decide +kernel
theorem dX10_passGate_161 : decode cX10_passGate 161 = .ok (.getfield 123, 3) := by decide +kernel
theorem dX10_passGate_164 : decode cX10_passGate 164 = .ok (.iload_n 1, 1) := by decide +kernel
theorem dX10_passGate_165 : decode cX10_passGate 165 = .ok (.iconst 2, 1) := by decide +kernel
theorem dX10_passGate_166 : decode cX10_passGate 166 = .ok (.iastore, 1) := by decide +kernel
theorem dX10_passGate_167 : decode cX10_passGate 167 = .ok (.goto 26, 3) := by decide +kernel
theorem dX10_passGate_170 : decode cX10_passGate 170 = .ok (.aload_n 0, 1) := by decide +kernel
theorem dX10_passGate_171 : decode cX10_passGate 171 = .ok (.getfield 35, 3) := by decide +kernel
theorem dX10_passGate_174 : decode cX10_passGate 174 = .ok (.getfield 123, 3) := by decide +kernel
theorem dX10_passGate_177 : decode cX10_passGate 177 = .ok (.iload_n 1, 1) := by decide +kernel
theorem dX10_passGate_178 : decode cX10_passGate 178 = .ok (.iconst 3, 1) := by decide +kernel
theorem dX10_passGate_179 : decode cX10_passGate 179 = .ok (.iastore, 1) := by decide +kernel
theorem dX10_passGate_180 : decode cX10_passGate 180 = .ok (.aload_n 0, 1) := by decide +kernel
theorem dX10_passGate_181 : decode cX10_passGate 181 = .ok (.getfield 35, 3) := by decide +kernel
theorem dX10_passGate_184 : decode cX10_passGate 184 = .ok (.getfield 218, 3) := by decide +kernel
theorem dX10_passGate_187 : decode cX10_passGate 187 = .ok (.iload_n 1, 1) := by decide +kernel
theorem dX10_passGate_188 : decode cX10_passGate 188 = .ok (.aload_n 0, 1) := by decide +kernel
theorem dX10_passGate_189 : decode cX10_passGate 189 = .ok (.getfield 98, 3) := by decide +kernel
theorem dX10_passGate_192 : decode cX10_passGate 192 = .ok (.iastore, 1) := by decide +kernel
theorem dX10_passGate_193 : decode cX10_passGate 193 = .ok (.return_, 1) := by decide +kernel
theorem dX10_noteLack_0 : decode cX10_noteLack 0 = .ok (.iload_n 1, 1) := by decide +kernel
theorem dX10_noteLack_1 : decode cX10_noteLack 1 = .ok (.bipush 6, 2) := by decide +kernel
theorem dX10_noteLack_3 : decode cX10_noteLack 3 = .ok (.imul, 1) := by decide +kernel
theorem dX10_noteLack_4 : decode cX10_noteLack 4 = .ok (.iload_n 2, 1) := by decide +kernel
theorem dX10_noteLack_5 : decode cX10_noteLack 5 = .ok (.iadd, 1) := by decide +kernel
theorem dX10_noteLack_6 : decode cX10_noteLack 6 = .ok (.istore 4, 2) := by decide +kernel
theorem dX10_noteLack_8 : decode cX10_noteLack 8 = .ok (.aload_n 0, 1) := by decide +kernel
theorem dX10_noteLack_9 : decode cX10_noteLack 9 = .ok (.getfield 28, 3) := by decide +kernel
theorem dX10_noteLack_12 : decode cX10_noteLack 12 = .ok (.iload 4, 2) := by decide +kernel
theorem dX10_noteLack_14 : decode cX10_noteLack 14 = .ok (.invokevirtual 168, 3) := by decide +kernel
theorem dX10_noteLack_17 : decode cX10_noteLack 17 = .ok (.istore 5, 2) := by decide +kernel
theorem dX10_noteLack_19 : decode cX10_noteLack 19 = .ok (.iload_n 2, 1) := by decide +kernel
theorem dX10_noteLack_20 : decode cX10_noteLack 20 = .ok (.aload_n 0, 1) := by decide +kernel
theorem dX10_noteLack_21 : decode cX10_noteLack 21 = .ok (.getfield 72, 3) := by decide +kernel
theorem dX10_noteLack_24 : decode cX10_noteLack 24 = .ok (.if_icmp .ne 32, 3) := by decide +kernel
theorem dX10_noteLack_27 : decode cX10_noteLack 27 = .ok (.iload 5, 2) := by decide +kernel
theorem dX10_noteLack_29 : decode cX10_noteLack 29 = .ok (.ifCond .lt 27, 3) := by decide +kernel
theorem dX10_noteLack_32 : decode cX10_noteLack 32 = .ok (.iload_n 3, 1) := by decide +kernel
theorem dX10_noteLack_33 : decode cX10_noteLack 33 = .ok (.aload_n 0, 1) := by decide +kernel
theorem dX10_noteLack_34 : decode cX10_noteLack 34 = .ok (.getfield 35, 3) := by decide +kernel
theorem dX10_noteLack_37 : decode cX10_noteLack 37 = .ok (.getfield 184, 3) := by decide +kernel
theorem dX10_noteLack_40 : decode cX10_noteLack 40 = .ok (.iload 5, 2) := by decide +kernel
theorem dX10_noteLack_42 : decode cX10_noteLack 42 = .ok (.iaload, 1) := by decide +kernel
theorem dX10_noteLack_43 : decode cX10_noteLack 43 = .ok (.isub, 1) := by decide +kernel
theorem dX10_noteLack_44 : decode cX10_noteLack 44 = .ok (.aload_n 0, 1) := by decide +kernel
theorem dX10_noteLack_45 : decode cX10_noteLack 45 = .ok (.getfield 21, 3) := by decide +kernel
theorem dX10_noteLack_48 : decode cX10_noteLack 48 = .ok (.getfield 187, 3) := by decide +kernel
theorem dX10_noteLack_51 : decode cX10_noteLack 51 = .ok (.iload_n 2, 1) := by decide +kernel
theorem dX10_noteLack_52 : decode cX10_noteLack 52 = .ok (.iaload, 1) := by decide +kernel
theorem dX10_noteLack_53 : decode cX10_noteLack 53 = .ok (.if_icmp .ge 4, 3) := by decide +kernel
theorem dX10_noteLack_56 : decode cX10_noteLack 56 = .ok (.return_, 1) := by decide +kernel
theorem dX10_noteLack_57 : decode cX10_noteLack 57 = .ok (.aload_n 0, 1) := by decide +kernel
theorem dX10_noteLack_58 : decode cX10_noteLack 58 = .ok (.getfield 35, 3) := by decide +kernel
theorem dX10_noteLack_61 : decode cX10_noteLack 61 = .ok (.getfield 171, 3) := by decide +kernel
theorem dX10_noteLack_64 : decode cX10_noteLack 64 = .ok (.iload 5, 2) := by decide +kernel
theorem dX10_noteLack_66 : decode cX10_noteLack 66 = .ok (.iaload, 1) := by decide +kernel
theorem dX10_noteLack_67 : decode cX10_noteLack 67 = .ok (.aload_n 0, 1) := by decide +kernel
theorem dX10_noteLack_68 : decode cX10_noteLack 68 = .ok (.getfield 28, 3) := by decide +kernel
theorem dX10_noteLack_71 : decode cX10_noteLack 71 = .ok (.getfield 174, 3) := by decide +kernel
theorem dX10_noteLack_74 : decode cX10_noteLack 74 = .ok (.iload 4, 2) := by decide +kernel
theorem dX10_noteLack_76 : decode cX10_noteLack 76 = .ok (.iaload, 1) := by decide +kernel
theorem dX10_noteLack_77 : decode cX10_noteLack 77 = .ok (.isub, 1) := by decide +kernel
theorem dX10_noteLack_78 : decode cX10_noteLack 78 = .ok (.aload_n 0, 1) := by decide +kernel
theorem dX10_noteLack_79 : decode cX10_noteLack 79 = .ok (.getfield 42, 3) := by decide +kernel
theorem dX10_noteLack_82 : decode cX10_noteLack 82 = .ok (.iload_n 2, 1) := by decide +kernel
theorem dX10_noteLack_83 : decode cX10_noteLack 83 = .ok (.invokevirtual 181, 3) := by decide +kernel
theorem dX10_noteLack_86 : decode cX10_noteLack 86 = .ok (.isub, 1) := by decide +kernel
theorem dX10_noteLack_87 : decode cX10_noteLack 87 = .ok (.istore 6, 2) := by decide +kernel
theorem dX10_noteLack_89 : decode cX10_noteLack 89 = .ok (.aload_n 0, 1) := by decide +kernel
theorem dX10_noteLack_90 : decode cX10_noteLack 90 = .ok (.aload_n 0, 1) := by decide +kernel
theorem dX10_noteLack_91 : decode cX10_noteLack 91 = .ok (.getfield 76, 3) := by decide +kernel
theorem dX10_noteLack_94 : decode cX10_noteLack 94 = .ok (.iconst 1, 1) := by decide +kernel
theorem dX10_noteLack_95 : decode cX10_noteLack 95 = .ok (.iload 6, 2) := by decide +kernel
theorem dX10_noteLack_97 : decode cX10_noteLack 97 = .ok (.invokestatic 165, 3) := by decide +kernel
theorem dX10_noteLack_100 : decode cX10_noteLack 100 = .ok (.invokestatic 154, 3) := by decide +kernel
theorem dX10_noteLack_103 : decode cX10_noteLack 103 = .ok (.putfield 76, 3) := by decide +kernel
theorem dX10_noteLack_106 : decode cX10_noteLack 106 = .ok (.return_, 1) := by decide +kernel
theorem dX11_init_0 : decode cX11_init 0 = .ok (.aload_n 0, 1) := by decide +kernel
theorem dX11_init_1 : decode cX11_init 1 = .ok (.invokespecial 1, 3) := by decide +kernel
theorem dX11_init_4 : decode cX11_init 4 = .ok (.aload_n 0, 1) := by decide +kernel
theorem dX11_init_5 : decode cX11_init 5 = .ok (.new 7, 3) := by decide +kernel
theorem dX11_init_8 : decode cX11_init 8 = .ok (.dup, 1) := by decide +kernel
theorem dX11_init_9 : decode cX11_init 9 = .ok (.invokespecial 9, 3) := by decide +kernel
theorem dX11_init_12 : decode cX11_init 12 = .ok (.putfield 10, 3) := by decide +kernel
theorem dX11_init_15 : decode cX11_init 15 = .ok (.aload_n 0, 1) := by decide +kernel
theorem dX11_init_16 : decode cX11_init 16 = .ok (.new 16, 3) := by decide +kernel
theorem dX11_init_19 : decode cX11_init 19 = .ok (.dup, 1) := by decide +kernel
theorem dX11_init_20 : decode cX11_init 20 = .ok (.invokespecial 18, 3) := by decide +kernel
theorem dX11_init_23 : decode cX11_init 23 = .ok (.putfield 19, 3) := by decide +kernel
theorem dX11_init_26 : decode cX11_init 26 = .ok (.aload_n 0, 1) := by decide +kernel
theorem dX11_init_27 : decode cX11_init 27 = .ok (.new 16, 3) := by decide +kernel
theorem dX11_init_30 : decode cX11_init 30 = .ok (.dup, 1) := by decide +kernel
theorem dX11_init_31 : decode cX11_init 31 = .ok (.invokespecial 18, 3) := by decide +kernel
theorem dX11_init_34 : decode cX11_init 34 = .ok (.putfield 23, 3) := by decide +kernel
theorem dX11_init_37 : decode cX11_init 37 = .ok (.aload_n 0, 1) := by decide +kernel
theorem dX11_init_38 : decode cX11_init 38 = .ok (.new 26, 3) := by decide +kernel
theorem dX11_init_41 : decode cX11_init 41 = .ok (.dup, 1) := by decide +kernel
theorem dX11_init_42 : decode cX11_init 42 = .ok (.invokespecial 28, 3) := by decide +kernel
theorem dX11_init_45 : decode cX11_init 45 = .ok (.putfield 29, 3) := by decide +kernel
theorem dX11_init_48 : decode cX11_init 48 = .ok (.aload_n 0, 1) := by decide +kernel
theorem dX11_init_49 : decode cX11_init 49 = .ok (.iconst (-1), 1) := by decide +kernel
theorem dX11_init_50 : decode cX11_init 50 = .ok (.putfield 33, 3) := by decide +kernel
theorem dX11_init_53 : decode cX11_init 53 = .ok (.return_, 1) := by decide +kernel
theorem dX11_append_0 : decode cX11_append 0 = .ok (.aload_n 0, 1) := by decide +kernel
theorem dX11_append_1 : decode cX11_append 1 = .ok (.getfield 10, 3) := by decide +kernel
theorem dX11_append_4 : decode cX11_append 4 = .ok (.getfield 37, 3) := by decide +kernel
theorem dX11_append_7 : decode cX11_append 7 = .ok (.astore 6, 2) := by decide +kernel
theorem dX11_append_9 : decode cX11_append 9 = .ok (.aload 6, 2) := by decide +kernel
theorem dX11_append_11 : decode cX11_append 11 = .ok (.getfield 41, 3) := by decide +kernel
theorem dX11_append_14 : decode cX11_append 14 = .ok (.sipush 680, 3) := by decide +kernel
theorem dX11_append_17 : decode cX11_append 17 = .ok (.if_icmp .le 5, 3) := by decide +kernel
theorem dX11_append_20 : decode cX11_append 20 = .ok (.iconst (-1), 1) := by decide +kernel
theorem dX11_append_21 : decode cX11_append 21 = .ok (.ireturn, 1) := by decide +kernel
theorem dX11_append_22 : decode cX11_append 22 = .ok (.aload 6, 2) := by decide +kernel
theorem dX11_append_24 : decode cX11_append 24 = .ok (.iload_n 1, 1) := by decide +kernel
theorem dX11_append_25 : decode cX11_append 25 = .ok (.invokevirtual 46, 3) := by decide +kernel
theorem dX11_append_28 : decode cX11_append 28 = .ok (.aload 6, 2) := by decide +kernel
theorem dX11_append_30 : decode cX11_append 30 = .ok (.iload_n 2, 1) := by decide +kernel
theorem dX11_append_31 : decode cX11_append 31 = .ok (.invokevirtual 46, 3) := by decide +kernel
theorem dX11_append_34 : decode cX11_append 34 = .ok (.aload 6, 2) := by decide +kernel
theorem dX11_append_36 : decode cX11_append 36 = .ok (.iload_n 3, 1) := by decide +kernel
theorem dX11_append_37 : decode cX11_append 37 = .ok (.invokevirtual 46, 3) := by decide +kernel
theorem dX11_append_40 : decode cX11_append 40 = .ok (.aload 6, 2) := by decide +kernel
theorem dX11_append_42 : decode cX11_append 42 = .ok (.iload 4, 2) := by decide +kernel
theorem dX11_append_44 : decode cX11_append 44 = .ok (.invokevirtual 46, 3) := by decide +kernel
theorem dX11_append_47 : decode cX11_append 47 = .ok (.aload 6, 2) := by decide +kernel
theorem dX11_append_49 : decode cX11_append 49 = .ok (.iload 5, 2) := by decide +kernel
theorem dX11_append_51 : decode cX11_append 51 = .ok (.invokevirtual 46, 3) := by decide +kernel
theorem dX11_append_54 : decode cX11_append 54 = .ok (.aload 6, 2) := by decide +kernel
theorem dX11_append_56 : decode cX11_append 56 = .ok (.getfield 41, 3) := by decide +kernel
theorem dX11_append_59 : decode cX11_append 59 = .ok (.ireturn, 1) := by decide +kernel
theorem dX11_load_0 : decode cX11_load 0 = .ok (.iload_n 1, 1) := by decide +kernel
theorem dX11_load_1 : decode cX11_load 1 = .ok (.ifCond .lt 17, 3) := by decide +kernel
theorem dX11_load_4 : decode cX11_load 4 = .ok (.iload_n 1, 1) := by decide +kernel
theorem dX11_load_5 : decode cX11_load 5 = .ok (.aload_n 0, 1) := by decide +kernel
theorem dX11_load_6 : decode cX11_load 6 = .ok (.getfield 10, 3) := by decide +kernel
theorem dX11_load_9 : decode cX11_load 9 = .ok (.getfield 37, 3) := by decide +kernel
theorem dX11_load_12 : decode cX11_load 12 = .ok (.getfield 41, 3) := by decide +kernel
theorem dX11_load_15 : decode cX11_load 15 = .ok (.if_icmp .le 13, 3) := by decide +kernel
theorem dX11_load_18 : decode cX11_load 18 = .ok (.new 50, 3) := by decide +kernel
theorem dX11_load_21 : decode cX11_load 21 = .ok (.dup, 1) := by decide +kernel
theorem dX11_load_22 : decode cX11_load 22 = .ok (.ldc 52, 2) := by decide +kernel
theorem dX11_load_24 : decode cX11_load 24 = .ok (.invokespecial 54, 3) := by decide +kernel
theorem dX11_load_27 : decode cX11_load 27 = .ok (.athrow, 1) := by decide +kernel
theorem dX11_load_28 : decode cX11_load 28 = .ok (.aload_n 0, 1) := by decide +kernel
theorem dX11_load_29 : decode cX11_load 29 = .ok (.getfield 10, 3) := by decide +kernel
theorem dX11_load_32 : decode cX11_load 32 = .ok (.iload_n 1, 1) := by decide +kernel
theorem dX11_load_33 : decode cX11_load 33 = .ok (.invokevirtual 57, 3) := by decide +kernel
theorem dX11_load_36 : decode cX11_load 36 = .ok (.aload_n 0, 1) := by decide +kernel
theorem dX11_load_37 : decode cX11_load 37 = .ok (.getfield 10, 3) := by decide +kernel
theorem dX11_load_40 : decode cX11_load 40 = .ok (.getfield 37, 3) := by decide +kernel
theorem dX11_load_43 : decode cX11_load 43 = .ok (.iconst 0, 1) := by decide +kernel
theorem dX11_load_44 : decode cX11_load 44 = .ok (.putfield 41, 3) := by decide +kernel
theorem dX11_load_47 : decode cX11_load 47 = .ok (.aload_n 0, 1) := by decide +kernel
theorem dX11_load_48 : decode cX11_load 48 = .ok (.aload_n 0, 1) := by decide +kernel
theorem dX11_load_49 : decode cX11_load 49 = .ok (.getfield 10, 3) := by decide +kernel
theorem dX11_load_52 : decode cX11_load 52 = .ok (.getfield 60, 3) := by decide +kernel
theorem dX11_load_55 : decode cX11_load 55 = .ok (.putfield 33, 3) := by decide +kernel
theorem dX11_load_58 : decode cX11_load 58 = .ok (.aload_n 0, 1) := by decide +kernel
theorem dX11_load_59 : decode cX11_load 59 = .ok (.getfield 10, 3) := by decide +kernel
theorem dX11_load_62 : decode cX11_load 62 = .ok (.getfield 61, 3) := by decide +kernel
theorem dX11_load_65 : decode cX11_load 65 = .ok (.ifCond .eq 11, 3) := by decide +kernel
theorem dX11_load_68 : decode cX11_load 68 = .ok (.aload_n 0, 1) := by decide +kernel
theorem dX11_load_69 : decode cX11_load 69 = .ok (.getfield 10, 3) := by decide +kernel
theorem dX11_load_72 : decode cX11_load 72 = .ok (.getfield 61, 3) := by decide +kernel
theorem dX11_load_75 : decode cX11_load 75 = .ok (.ireturn, 1) := by decide +kernel
theorem dX11_load_76 : decode cX11_load 76 = .ok (.aload_n 0, 1) := by decide +kernel
theorem dX11_load_77 : decode cX11_load 77 = .ok (.getfield 29, 3) := by decide +kernel
theorem dX11_load_80 : decode cX11_load 80 = .ok (.aload_n 0, 1) := by decide +kernel
theorem dX11_load_81 : decode cX11_load 81 = .ok (.getfield 19, 3) := by decide +kernel
theorem dX11_load_84 : decode cX11_load 84 = .ok (.invokevirtual 64, 3) := by decide +kernel
theorem dX11_load_87 : decode cX11_load 87 = .ok (.aload_n 0, 1) := by decide +kernel
theorem dX11_load_88 : decode cX11_load 88 = .ok (.getfield 19, 3) := by decide +kernel
theorem dX11_load_91 : decode cX11_load 91 = .ok (.aload_n 0, 1) := by decide +kernel
theorem dX11_load_92 : decode cX11_load 92 = .ok (.getfield 10, 3) := by decide +kernel
theorem dX11_load_95 : decode cX11_load 95 = .ok (.getfield 68, 3) := by decide +kernel
theorem dX11_load_98 : decode cX11_load 98 = .ok (.invokevirtual 71, 3) := by decide +kernel
theorem dX11_load_101 : decode cX11_load 101 = .ok (.aload_n 0, 1) := by decide +kernel
theorem dX11_load_102 : decode cX11_load 102 = .ok (.getfield 19, 3) := by decide +kernel
theorem dX11_load_105 : decode cX11_load 105 = .ok (.getfield 74, 3) := by decide +kernel
theorem dX11_load_108 : decode cX11_load 108 = .ok (.getfield 78, 3) := by decide +kernel
theorem dX11_load_111 : decode cX11_load 111 = .ok (.ireturn, 1) := by decide +kernel
theorem dX11_errorOffset_0 : decode cX11_errorOffset 0 = .ok (.aload_n 0, 1) := by decide +kernel
theorem dX11_errorOffset_1 : decode cX11_errorOffset 1 = .ok (.getfield 33, 3) := by decide +kernel
theorem dX11_errorOffset_4 : decode cX11_errorOffset 4 = .ok (.ireturn, 1) := by decide +kernel
theorem dX11_state_0 : decode cX11_state 0 = .ok (.iload_n 1, 1) := by decide +kernel
theorem dX11_state_1 : decode cX11_state 1 = .ok (.tableswitch 155 0 9 #[55, 63, 74, 85, 96, 107, 119, 131, 139, 147], 55) := by decide +kernel
theorem dX11_state_56 : decode cX11_state 56 = .ok (.aload_n 0, 1) := by decide +kernel
theorem dX11_state_57 : decode cX11_state 57 = .ok (.getfield 19, 3) := by decide +kernel
theorem dX11_state_60 : decode cX11_state 60 = .ok (.getfield 83, 3) := by decide +kernel
theorem dX11_state_63 : decode cX11_state 63 = .ok (.ireturn, 1) := by decide +kernel
theorem dX11_state_64 : decode cX11_state 64 = .ok (.aload_n 0, 1) := by decide +kernel
theorem dX11_state_65 : decode cX11_state 65 = .ok (.getfield 19, 3) := by decide +kernel
theorem dX11_state_68 : decode cX11_state 68 = .ok (.getfield 86, 3) := by decide +kernel
theorem dX11_state_71 : decode cX11_state 71 = .ok (.getfield 90, 3) := by decide +kernel
theorem dX11_state_74 : decode cX11_state 74 = .ok (.ireturn, 1) := by decide +kernel
theorem dX11_state_75 : decode cX11_state 75 = .ok (.aload_n 0, 1) := by decide +kernel
theorem dX11_state_76 : decode cX11_state 76 = .ok (.getfield 19, 3) := by decide +kernel
theorem dX11_state_79 : decode cX11_state 79 = .ok (.getfield 93, 3) := by decide +kernel
theorem dX11_state_82 : decode cX11_state 82 = .ok (.getfield 97, 3) := by decide +kernel
theorem dX11_state_85 : decode cX11_state 85 = .ok (.ireturn, 1) := by decide +kernel
theorem dX11_state_86 : decode cX11_state 86 = .ok (.aload_n 0, 1) := by decide +kernel
theorem dX11_state_87 : decode cX11_state 87 = .ok (.getfield 19, 3) := by decide +kernel
theorem dX11_state_90 : decode cX11_state 90 = .ok (.getfield 74, 3) := by decide +kernel
theorem dX11_state_93 : decode cX11_state 93 = .ok (.getfield 78, 3) := by decide +kernel
theorem dX11_state_96 : decode cX11_state 96 = .ok (.ireturn, 1) := by decide +kernel
theorem dX11_state_97 : decode cX11_state 97 = .ok (.aload_n 0, 1) := by decide +kernel
theorem dX11_state_98 : decode cX11_state 98 = .ok (.getfield 19, 3) := by decide +kernel
theorem dX11_state_101 : decode cX11_state 101 = .ok (.getfield 100, 3) := by decide +kernel
theorem dX11_state_104 : decode cX11_state 104 = .ok (.getfield 104, 3) := by decide +kernel
theorem dX11_state_107 : decode cX11_state 107 = .ok (.ireturn, 1) := by decide +kernel
theorem dX11_state_108 : decode cX11_state 108 = .ok (.aload_n 0, 1) := by decide +kernel
theorem dX11_state_109 : decode cX11_state 109 = .ok (.getfield 19, 3) := by decide +kernel
theorem dX11_state_112 : decode cX11_state 112 = .ok (.getfield 74, 3) := by decide +kernel
theorem dX11_state_115 : decode cX11_state 115 = .ok (.iconst 3, 1) := by decide +kernel
theorem dX11_state_116 : decode cX11_state 116 = .ok (.invokevirtual 107, 3) := by decide +kernel
theorem dX11_state_119 : decode cX11_state 119 = .ok (.ireturn, 1) := by decide +kernel
theorem dX11_state_120 : decode cX11_state 120 = .ok (.aload_n 0, 1) := by decide +kernel
theorem dX11_state_121 : decode cX11_state 121 = .ok (.getfield 19, 3) := by decide +kernel
theorem dX11_state_124 : decode cX11_state 124 = .ok (.getfield 74, 3) := by decide +kernel
theorem dX11_state_127 : decode cX11_state 127 = .ok (.iconst 4, 1) := by decide +kernel
theorem dX11_state_128 : decode cX11_state 128 = .ok (.invokevirtual 107, 3) := by decide +kernel
theorem dX11_state_131 : decode cX11_state 131 = .ok (.ireturn, 1) := by decide +kernel
theorem dX11_state_132 : decode cX11_state 132 = .ok (.aload_n 0, 1) := by decide +kernel
theorem dX11_state_133 : decode cX11_state 133 = .ok (.getfield 19, 3) := by decide +kernel
theorem dX11_state_136 : decode cX11_state 136 = .ok (.getfield 111, 3) := by decide +kernel
theorem dX11_state_139 : decode cX11_state 139 = .ok (.ireturn, 1) := by decide +kernel
theorem dX11_state_140 : decode cX11_state 140 = .ok (.aload_n 0, 1) := by decide +kernel
theorem dX11_state_141 : decode cX11_state 141 = .ok (.getfield 19, 3) := by decide +kernel
theorem dX11_state_144 : decode cX11_state 144 = .ok (.getfield 114, 3) := by decide +kernel
theorem dX11_state_147 : decode cX11_state 147 = .ok (.ireturn, 1) := by decide +kernel
theorem dX11_state_148 : decode cX11_state 148 = .ok (.aload_n 0, 1) := by decide +kernel
theorem dX11_state_149 : decode cX11_state 149 = .ok (.getfield 19, 3) := by decide +kernel
theorem dX11_state_152 : decode cX11_state 152 = .ok (.getfield 117, 3) := by decide +kernel
theorem dX11_state_155 : decode cX11_state 155 = .ok (.ireturn, 1) := by decide +kernel
theorem dX11_state_156 : decode cX11_state 156 = .ok (.new 50, 3) := by decide +kernel
theorem dX11_state_159 : decode cX11_state 159 = .ok (.dup, 1) := by decide +kernel
theorem dX11_state_160 : decode cX11_state 160 = .ok (.ldc 120, 2) := by decide +kernel
theorem dX11_state_162 : decode cX11_state 162 = .ok (.invokespecial 54, 3) := by decide +kernel
theorem dX11_state_165 : decode cX11_state 165 = .ok (.athrow, 1) := by decide +kernel
theorem dX11_gate_0 : decode cX11_gate 0 = .ok (.aload_n 0, 1) := by decide +kernel
theorem dX11_gate_1 : decode cX11_gate 1 = .ok (.iload_n 1, 1) := by decide +kernel
theorem dX11_gate_2 : decode cX11_gate 2 = .ok (.invokevirtual 122, 3) := by decide +kernel
theorem dX11_gate_5 : decode cX11_gate 5 = .ok (.iload_n 2, 1) := by decide +kernel
theorem dX11_gate_6 : decode cX11_gate 6 = .ok (.tableswitch 65 0 2 #[26, 39, 52], 26) := by decide +kernel
theorem dX11_gate_32 : decode cX11_gate 32 = .ok (.aload_n 0, 1) := by decide +kernel
theorem dX11_gate_33 : decode cX11_gate 33 = .ok (.getfield 19, 3) := by decide +kernel
theorem dX11_gate_36 : decode cX11_gate 36 = .ok (.getfield 86, 3) := by decide +kernel
theorem dX11_gate_39 : decode cX11_gate 39 = .ok (.getfield 125, 3) := by decide +kernel
theorem dX11_gate_42 : decode cX11_gate 42 = .ok (.iload_n 1, 1) := by decide +kernel
theorem dX11_gate_43 : decode cX11_gate 43 = .ok (.iaload, 1) := by decide +kernel
theorem dX11_gate_44 : decode cX11_gate 44 = .ok (.ireturn, 1) := by decide +kernel
theorem dX11_gate_45 : decode cX11_gate 45 = .ok (.aload_n 0, 1) := by decide +kernel
theorem dX11_gate_46 : decode cX11_gate 46 = .ok (.getfield 19, 3) := by decide +kernel
theorem dX11_gate_49 : decode cX11_gate 49 = .ok (.getfield 86, 3) := by decide +kernel
theorem dX11_gate_52 : decode cX11_gate 52 = .ok (.getfield 129, 3) := by decide +kernel
theorem dX11_gate_55 : decode cX11_gate 55 = .ok (.iload_n 1, 1) := by decide +kernel
theorem dX11_gate_56 : decode cX11_gate 56 = .ok (.iaload, 1) := by decide +kernel
theorem dX11_gate_57 : decode cX11_gate 57 = .ok (.ireturn, 1) := by decide +kernel
theorem dX11_gate_58 : decode cX11_gate 58 = .ok (.aload_n 0, 1) := by decide +kernel
theorem dX11_gate_59 : decode cX11_gate 59 = .ok (.getfield 19, 3) := by decide +kernel
theorem dX11_gate_62 : decode cX11_gate 62 = .ok (.getfield 86, 3) := by decide +kernel
theorem dX11_gate_65 : decode cX11_gate 65 = .ok (.getfield 132, 3) := by decide +kernel
theorem dX11_gate_68 : decode cX11_gate 68 = .ok (.iload_n 1, 1) := by decide +kernel
theorem dX11_gate_69 : decode cX11_gate 69 = .ok (.iaload, 1) := by decide +kernel
theorem dX11_gate_70 : decode cX11_gate 70 = .ok (.ireturn, 1) := by decide +kernel
theorem dX11_gate_71 : decode cX11_gate 71 = .ok (.new 50, 3) := by decide +kernel
theorem dX11_gate_74 : decode cX11_gate 74 = .ok (.dup, 1) := by decide +kernel
theorem dX11_gate_75 : decode cX11_gate 75 = .ok (.ldc 120, 2) := by decide +kernel
theorem dX11_gate_77 : decode cX11_gate 77 = .ok (.invokespecial 54, 3) := by decide +kernel
theorem dX11_gate_80 : decode cX11_gate 80 = .ok (.athrow, 1) := by decide +kernel
theorem dX11_flow_0 : decode cX11_flow 0 = .ok (.aload_n 0, 1) := by decide +kernel
theorem dX11_flow_1 : decode cX11_flow 1 = .ok (.iload_n 1, 1) := by decide +kernel
theorem dX11_flow_2 : decode cX11_flow 2 = .ok (.invokevirtual 135, 3) := by decide +kernel
theorem dX11_flow_5 : decode cX11_flow 5 = .ok (.iload_n 2, 1) := by decide +kernel
theorem dX11_flow_6 : decode cX11_flow 6 = .ok (.tableswitch 113 0 5 #[38, 51, 64, 77, 89, 101], 38) := by decide +kernel
theorem dX11_flow_44 : decode cX11_flow 44 = .ok (.aload_n 0, 1) := by decide +kernel
theorem dX11_flow_45 : decode cX11_flow 45 = .ok (.getfield 19, 3) := by decide +kernel
theorem dX11_flow_48 : decode cX11_flow 48 = .ok (.getfield 93, 3) := by decide +kernel
theorem dX11_flow_51 : decode cX11_flow 51 = .ok (.getfield 138, 3) := by decide +kernel
theorem dX11_flow_54 : decode cX11_flow 54 = .ok (.iload_n 1, 1) := by decide +kernel
theorem dX11_flow_55 : decode cX11_flow 55 = .ok (.iaload, 1) := by decide +kernel
theorem dX11_flow_56 : decode cX11_flow 56 = .ok (.ireturn, 1) := by decide +kernel
theorem dX11_flow_57 : decode cX11_flow 57 = .ok (.aload_n 0, 1) := by decide +kernel
theorem dX11_flow_58 : decode cX11_flow 58 = .ok (.getfield 19, 3) := by decide +kernel
theorem dX11_flow_61 : decode cX11_flow 61 = .ok (.getfield 93, 3) := by decide +kernel
theorem dX11_flow_64 : decode cX11_flow 64 = .ok (.getfield 141, 3) := by decide +kernel
theorem dX11_flow_67 : decode cX11_flow 67 = .ok (.iload_n 1, 1) := by decide +kernel
theorem dX11_flow_68 : decode cX11_flow 68 = .ok (.iaload, 1) := by decide +kernel
theorem dX11_flow_69 : decode cX11_flow 69 = .ok (.ireturn, 1) := by decide +kernel
theorem dX11_flow_70 : decode cX11_flow 70 = .ok (.aload_n 0, 1) := by decide +kernel
theorem dX11_flow_71 : decode cX11_flow 71 = .ok (.getfield 19, 3) := by decide +kernel
theorem dX11_flow_74 : decode cX11_flow 74 = .ok (.getfield 93, 3) := by decide +kernel
theorem dX11_flow_77 : decode cX11_flow 77 = .ok (.getfield 144, 3) := by decide +kernel
theorem dX11_flow_80 : decode cX11_flow 80 = .ok (.iload_n 1, 1) := by decide +kernel
theorem dX11_flow_81 : decode cX11_flow 81 = .ok (.iaload, 1) := by decide +kernel
theorem dX11_flow_82 : decode cX11_flow 82 = .ok (.ireturn, 1) := by decide +kernel
theorem dX11_flow_83 : decode cX11_flow 83 = .ok (.aload_n 0, 1) := by decide +kernel
theorem dX11_flow_84 : decode cX11_flow 84 = .ok (.getfield 19, 3) := by decide +kernel
theorem dX11_flow_87 : decode cX11_flow 87 = .ok (.getfield 100, 3) := by decide +kernel
theorem dX11_flow_90 : decode cX11_flow 90 = .ok (.iload_n 1, 1) := by decide +kernel
theorem dX11_flow_91 : decode cX11_flow 91 = .ok (.invokevirtual 147, 3) := by decide +kernel
theorem dX11_flow_94 : decode cX11_flow 94 = .ok (.ireturn, 1) := by decide +kernel
theorem dX11_flow_95 : decode cX11_flow 95 = .ok (.aload_n 0, 1) := by decide +kernel
theorem dX11_flow_96 : decode cX11_flow 96 = .ok (.getfield 19, 3) := by decide +kernel
theorem dX11_flow_99 : decode cX11_flow 99 = .ok (.getfield 100, 3) := by decide +kernel
theorem dX11_flow_102 : decode cX11_flow 102 = .ok (.iload_n 1, 1) := by decide +kernel
theorem dX11_flow_103 : decode cX11_flow 103 = .ok (.invokevirtual 150, 3) := by decide +kernel
theorem dX11_flow_106 : decode cX11_flow 106 = .ok (.ireturn, 1) := by decide +kernel
theorem dX11_flow_107 : decode cX11_flow 107 = .ok (.aload_n 0, 1) := by decide +kernel
theorem dX11_flow_108 : decode cX11_flow 108 = .ok (.getfield 19, 3) := by decide +kernel
theorem dX11_flow_111 : decode cX11_flow 111 = .ok (.getfield 74, 3) := by decide +kernel
theorem dX11_flow_114 : decode cX11_flow 114 = .ok (.iload_n 1, 1) := by decide +kernel
theorem dX11_flow_115 : decode cX11_flow 115 = .ok (.invokevirtual 153, 3) := by decide +kernel
theorem dX11_flow_118 : decode cX11_flow 118 = .ok (.ireturn, 1) := by decide +kernel
theorem dX11_flow_119 : decode cX11_flow 119 = .ok (.new 50, 3) := by decide +kernel
theorem dX11_flow_122 : decode cX11_flow 122 = .ok (.dup, 1) := by decide +kernel
theorem dX11_flow_123 : decode cX11_flow 123 = .ok (.ldc 120, 2) := by decide +kernel
theorem dX11_flow_125 : decode cX11_flow 125 = .ok (.invokespecial 54, 3) := by decide +kernel
theorem dX11_flow_128 : decode cX11_flow 128 = .ok (.athrow, 1) := by decide +kernel
theorem dX11_route_0 : decode cX11_route 0 = .ok (.aload_n 0, 1) := by decide +kernel
theorem dX11_route_1 : decode cX11_route 1 = .ok (.iload_n 1, 1) := by decide +kernel
theorem dX11_route_2 : decode cX11_route 2 = .ok (.invokevirtual 135, 3) := by decide +kernel
theorem dX11_route_5 : decode cX11_route 5 = .ok (.aload_n 0, 1) := by decide +kernel
theorem dX11_route_6 : decode cX11_route 6 = .ok (.getfield 19, 3) := by decide +kernel
theorem dX11_route_9 : decode cX11_route 9 = .ok (.getfield 93, 3) := by decide +kernel
theorem dX11_route_12 : decode cX11_route 12 = .ok (.iload_n 1, 1) := by decide +kernel
theorem dX11_route_13 : decode cX11_route 13 = .ok (.iload_n 2, 1) := by decide +kernel
theorem dX11_route_14 : decode cX11_route 14 = .ok (.invokevirtual 156, 3) := by decide +kernel
theorem dX11_route_17 : decode cX11_route 17 = .ok (.istore_n 3, 1) := by decide +kernel
theorem dX11_route_18 : decode cX11_route 18 = .ok (.iload_n 3, 1) := by decide +kernel
theorem dX11_route_19 : decode cX11_route 19 = .ok (.ifCond .ge 13, 3) := by decide +kernel
theorem dX11_route_22 : decode cX11_route 22 = .ok (.new 160, 3) := by decide +kernel
theorem dX11_route_25 : decode cX11_route 25 = .ok (.dup, 1) := by decide +kernel
theorem dX11_route_26 : decode cX11_route 26 = .ok (.ldc 162, 2) := by decide +kernel
theorem dX11_route_28 : decode cX11_route 28 = .ok (.invokespecial 164, 3) := by decide +kernel
theorem dX11_route_31 : decode cX11_route 31 = .ok (.athrow, 1) := by decide +kernel
theorem dX11_route_32 : decode cX11_route 32 = .ok (.iload_n 3, 1) := by decide +kernel
theorem dX11_route_33 : decode cX11_route 33 = .ok (.ireturn, 1) := by decide +kernel
theorem dX11_tokens_0 : decode cX11_tokens 0 = .ok (.aload_n 0, 1) := by decide +kernel
theorem dX11_tokens_1 : decode cX11_tokens 1 = .ok (.iload_n 1, 1) := by decide +kernel
theorem dX11_tokens_2 : decode cX11_tokens 2 = .ok (.invokevirtual 122, 3) := by decide +kernel
theorem dX11_tokens_5 : decode cX11_tokens 5 = .ok (.aload_n 0, 1) := by decide +kernel
theorem dX11_tokens_6 : decode cX11_tokens 6 = .ok (.iload_n 2, 1) := by decide +kernel
theorem dX11_tokens_7 : decode cX11_tokens 7 = .ok (.invokevirtual 135, 3) := by decide +kernel
theorem dX11_tokens_10 : decode cX11_tokens 10 = .ok (.aload_n 0, 1) := by decide +kernel
theorem dX11_tokens_11 : decode cX11_tokens 11 = .ok (.getfield 19, 3) := by decide +kernel
theorem dX11_tokens_14 : decode cX11_tokens 14 = .ok (.getfield 165, 3) := by decide +kernel
theorem dX11_tokens_17 : decode cX11_tokens 17 = .ok (.getfield 169, 3) := by decide +kernel
theorem dX11_tokens_20 : decode cX11_tokens 20 = .ok (.iload_n 1, 1) := by decide +kernel
theorem dX11_tokens_21 : decode cX11_tokens 21 = .ok (.bipush 6, 2) := by decide +kernel
theorem dX11_tokens_23 : decode cX11_tokens 23 = .ok (.imul, 1) := by decide +kernel
theorem dX11_tokens_24 : decode cX11_tokens 24 = .ok (.iload_n 2, 1) := by decide +kernel
theorem dX11_tokens_25 : decode cX11_tokens 25 = .ok (.iadd, 1) := by decide +kernel
theorem dX11_tokens_26 : decode cX11_tokens 26 = .ok (.iaload, 1) := by decide +kernel
theorem dX11_tokens_27 : decode cX11_tokens 27 = .ok (.ireturn, 1) := by decide +kernel
theorem dX11_queue_0 : decode cX11_queue 0 = .ok (.aload_n 0, 1) := by decide +kernel
theorem dX11_queue_1 : decode cX11_queue 1 = .ok (.iload_n 1, 1) := by decide +kernel
theorem dX11_queue_2 : decode cX11_queue 2 = .ok (.invokevirtual 122, 3) := by decide +kernel
theorem dX11_queue_5 : decode cX11_queue 5 = .ok (.aload_n 0, 1) := by decide +kernel
theorem dX11_queue_6 : decode cX11_queue 6 = .ok (.iload_n 2, 1) := by decide +kernel
theorem dX11_queue_7 : decode cX11_queue 7 = .ok (.invokevirtual 135, 3) := by decide +kernel
theorem dX11_queue_10 : decode cX11_queue 10 = .ok (.aload_n 0, 1) := by decide +kernel
theorem dX11_queue_11 : decode cX11_queue 11 = .ok (.getfield 19, 3) := by decide +kernel
theorem dX11_queue_14 : decode cX11_queue 14 = .ok (.getfield 165, 3) := by decide +kernel
theorem dX11_queue_17 : decode cX11_queue 17 = .ok (.getfield 174, 3) := by decide +kernel
theorem dX11_queue_20 : decode cX11_queue 20 = .ok (.iload_n 1, 1) := by decide +kernel
theorem dX11_queue_21 : decode cX11_queue 21 = .ok (.bipush 6, 2) := by decide +kernel
theorem dX11_queue_23 : decode cX11_queue 23 = .ok (.imul, 1) := by decide +kernel
theorem dX11_queue_24 : decode cX11_queue 24 = .ok (.iload_n 2, 1) := by decide +kernel
theorem dX11_queue_25 : decode cX11_queue 25 = .ok (.iadd, 1) := by decide +kernel
theorem dX11_queue_26 : decode cX11_queue 26 = .ok (.iaload, 1) := by decide +kernel
theorem dX11_queue_27 : decode cX11_queue 27 = .ok (.ireturn, 1) := by decide +kernel
theorem dX11_packet_0 : decode cX11_packet 0 = .ok (.aload_n 0, 1) := by decide +kernel
theorem dX11_packet_1 : decode cX11_packet 1 = .ok (.iload_n 1, 1) := by decide +kernel
theorem dX11_packet_2 : decode cX11_packet 2 = .ok (.invokevirtual 177, 3) := by decide +kernel
theorem dX11_packet_5 : decode cX11_packet 5 = .ok (.iload_n 2, 1) := by decide +kernel
theorem dX11_packet_6 : decode cX11_packet 6 = .ok (.tableswitch 129 0 6 #[42, 55, 68, 81, 94, 103, 116], 42) := by decide +kernel
theorem dX11_packet_48 : decode cX11_packet 48 = .ok (.aload_n 0, 1) := by decide +kernel
theorem dX11_packet_49 : decode cX11_packet 49 = .ok (.getfield 19, 3) := by decide +kernel
theorem dX11_packet_52 : decode cX11_packet 52 = .ok (.getfield 74, 3) := by decide +kernel
theorem dX11_packet_55 : decode cX11_packet 55 = .ok (.getfield 180, 3) := by decide +kernel
theorem dX11_packet_58 : decode cX11_packet 58 = .ok (.iload_n 1, 1) := by decide +kernel
theorem dX11_packet_59 : decode cX11_packet 59 = .ok (.iaload, 1) := by decide +kernel
theorem dX11_packet_60 : decode cX11_packet 60 = .ok (.ireturn, 1) := by decide +kernel
theorem dX11_packet_61 : decode cX11_packet 61 = .ok (.aload_n 0, 1) := by decide +kernel
theorem dX11_packet_62 : decode cX11_packet 62 = .ok (.getfield 19, 3) := by decide +kernel
theorem dX11_packet_65 : decode cX11_packet 65 = .ok (.getfield 74, 3) := by decide +kernel
theorem dX11_packet_68 : decode cX11_packet 68 = .ok (.getfield 183, 3) := by decide +kernel
theorem dX11_packet_71 : decode cX11_packet 71 = .ok (.iload_n 1, 1) := by decide +kernel
theorem dX11_packet_72 : decode cX11_packet 72 = .ok (.iaload, 1) := by decide +kernel
theorem dX11_packet_73 : decode cX11_packet 73 = .ok (.ireturn, 1) := by decide +kernel
theorem dX11_packet_74 : decode cX11_packet 74 = .ok (.aload_n 0, 1) := by decide +kernel
theorem dX11_packet_75 : decode cX11_packet 75 = .ok (.getfield 19, 3) := by decide +kernel
theorem dX11_packet_78 : decode cX11_packet 78 = .ok (.getfield 74, 3) := by decide +kernel
theorem dX11_packet_81 : decode cX11_packet 81 = .ok (.getfield 186, 3) := by decide +kernel
theorem dX11_packet_84 : decode cX11_packet 84 = .ok (.iload_n 1, 1) := by decide +kernel
theorem dX11_packet_85 : decode cX11_packet 85 = .ok (.iaload, 1) := by decide +kernel
theorem dX11_packet_86 : decode cX11_packet 86 = .ok (.ireturn, 1) := by decide +kernel
theorem dX11_packet_87 : decode cX11_packet 87 = .ok (.aload_n 0, 1) := by decide +kernel
theorem dX11_packet_88 : decode cX11_packet 88 = .ok (.getfield 19, 3) := by decide +kernel
theorem dX11_packet_91 : decode cX11_packet 91 = .ok (.getfield 74, 3) := by decide +kernel
theorem dX11_packet_94 : decode cX11_packet 94 = .ok (.getfield 189, 3) := by decide +kernel
theorem dX11_packet_97 : decode cX11_packet 97 = .ok (.iload_n 1, 1) := by decide +kernel
theorem dX11_packet_98 : decode cX11_packet 98 = .ok (.iaload, 1) := by decide +kernel
theorem dX11_packet_99 : decode cX11_packet 99 = .ok (.ireturn, 1) := by decide +kernel
theorem dX11_packet_100 : decode cX11_packet 100 = .ok (.aload_n 0, 1) := by decide +kernel
theorem dX11_packet_101 : decode cX11_packet 101 = .ok (.getfield 19, 3) := by decide +kernel
theorem dX11_packet_104 : decode cX11_packet 104 = .ok (.iload_n 1, 1) := by decide +kernel
theorem dX11_packet_105 : decode cX11_packet 105 = .ok (.invokevirtual 192, 3) := by decide +kernel
theorem dX11_packet_108 : decode cX11_packet 108 = .ok (.ireturn, 1) := by decide +kernel
theorem dX11_packet_109 : decode cX11_packet 109 = .ok (.aload_n 0, 1) := by decide +kernel
theorem dX11_packet_110 : decode cX11_packet 110 = .ok (.getfield 19, 3) := by decide +kernel
theorem dX11_packet_113 : decode cX11_packet 113 = .ok (.getfield 74, 3) := by decide +kernel
theorem dX11_packet_116 : decode cX11_packet 116 = .ok (.getfield 195, 3) := by decide +kernel
theorem dX11_packet_119 : decode cX11_packet 119 = .ok (.iload_n 1, 1) := by decide +kernel
theorem dX11_packet_120 : decode cX11_packet 120 = .ok (.iaload, 1) := by decide +kernel
theorem dX11_packet_121 : decode cX11_packet 121 = .ok (.ireturn, 1) := by decide +kernel
theorem dX11_packet_122 : decode cX11_packet 122 = .ok (.aload_n 0, 1) := by decide +kernel
theorem dX11_packet_123 : decode cX11_packet 123 = .ok (.getfield 19, 3) := by decide +kernel
theorem dX11_packet_126 : decode cX11_packet 126 = .ok (.getfield 74, 3) := by decide +kernel
theorem dX11_packet_129 : decode cX11_packet 129 = .ok (.getfield 198, 3) := by decide +kernel
theorem dX11_packet_132 : decode cX11_packet 132 = .ok (.iload_n 1, 1) := by decide +kernel
theorem dX11_packet_133 : decode cX11_packet 133 = .ok (.iaload, 1) := by decide +kernel
theorem dX11_packet_134 : decode cX11_packet 134 = .ok (.ireturn, 1) := by decide +kernel
theorem dX11_packet_135 : decode cX11_packet 135 = .ok (.new 50, 3) := by decide +kernel
theorem dX11_packet_138 : decode cX11_packet 138 = .ok (.dup, 1) := by decide +kernel
theorem dX11_packet_139 : decode cX11_packet 139 = .ok (.ldc 120, 2) := by decide +kernel
theorem dX11_packet_141 : decode cX11_packet 141 = .ok (.invokespecial 54, 3) := by decide +kernel
theorem dX11_packet_144 : decode cX11_packet 144 = .ok (.athrow, 1) := by decide +kernel
theorem dX11_coupon_0 : decode cX11_coupon 0 = .ok (.aload_n 0, 1) := by decide +kernel
theorem dX11_coupon_1 : decode cX11_coupon 1 = .ok (.iload_n 1, 1) := by decide +kernel
theorem dX11_coupon_2 : decode cX11_coupon 2 = .ok (.invokevirtual 201, 3) := by decide +kernel
theorem dX11_coupon_5 : decode cX11_coupon 5 = .ok (.iload_n 2, 1) := by decide +kernel
theorem dX11_coupon_6 : decode cX11_coupon 6 = .ok (.tableswitch 82 0 3 #[30, 43, 56, 69], 30) := by decide +kernel
theorem dX11_coupon_36 : decode cX11_coupon 36 = .ok (.aload_n 0, 1) := by decide +kernel
theorem dX11_coupon_37 : decode cX11_coupon 37 = .ok (.getfield 19, 3) := by decide +kernel
theorem dX11_coupon_40 : decode cX11_coupon 40 = .ok (.getfield 100, 3) := by decide +kernel
theorem dX11_coupon_43 : decode cX11_coupon 43 = .ok (.getfield 204, 3) := by decide +kernel
theorem dX11_coupon_46 : decode cX11_coupon 46 = .ok (.iload_n 1, 1) := by decide +kernel
theorem dX11_coupon_47 : decode cX11_coupon 47 = .ok (.iaload, 1) := by decide +kernel
theorem dX11_coupon_48 : decode cX11_coupon 48 = .ok (.ireturn, 1) := by decide +kernel
theorem dX11_coupon_49 : decode cX11_coupon 49 = .ok (.aload_n 0, 1) := by decide +kernel
theorem dX11_coupon_50 : decode cX11_coupon 50 = .ok (.getfield 19, 3) := by decide +kernel
theorem dX11_coupon_53 : decode cX11_coupon 53 = .ok (.getfield 100, 3) := by decide +kernel
theorem dX11_coupon_56 : decode cX11_coupon 56 = .ok (.getfield 205, 3) := by decide +kernel
theorem dX11_coupon_59 : decode cX11_coupon 59 = .ok (.iload_n 1, 1) := by decide +kernel
theorem dX11_coupon_60 : decode cX11_coupon 60 = .ok (.iaload, 1) := by decide +kernel
theorem dX11_coupon_61 : decode cX11_coupon 61 = .ok (.ireturn, 1) := by decide +kernel
theorem dX11_coupon_62 : decode cX11_coupon 62 = .ok (.aload_n 0, 1) := by decide +kernel
theorem dX11_coupon_63 : decode cX11_coupon 63 = .ok (.getfield 19, 3) := by decide +kernel
theorem dX11_coupon_66 : decode cX11_coupon 66 = .ok (.getfield 100, 3) := by decide +kernel
theorem dX11_coupon_69 : decode cX11_coupon 69 = .ok (.getfield 208, 3) := by decide +kernel
theorem dX11_coupon_72 : decode cX11_coupon 72 = .ok (.iload_n 1, 1) := by decide +kernel
theorem dX11_coupon_73 : decode cX11_coupon 73 = .ok (.iaload, 1) := by decide +kernel
theorem dX11_coupon_74 : decode cX11_coupon 74 = .ok (.ireturn, 1) := by decide +kernel
theorem dX11_coupon_75 : decode cX11_coupon 75 = .ok (.aload_n 0, 1) := by decide +kernel
theorem dX11_coupon_76 : decode cX11_coupon 76 = .ok (.getfield 19, 3) := by decide +kernel
theorem dX11_coupon_79 : decode cX11_coupon 79 = .ok (.getfield 100, 3) := by decide +kernel
theorem dX11_coupon_82 : decode cX11_coupon 82 = .ok (.getfield 211, 3) := by decide +kernel
theorem dX11_coupon_85 : decode cX11_coupon 85 = .ok (.iload_n 1, 1) := by decide +kernel
theorem dX11_coupon_86 : decode cX11_coupon 86 = .ok (.iaload, 1) := by decide +kernel
theorem dX11_coupon_87 : decode cX11_coupon 87 = .ok (.ireturn, 1) := by decide +kernel
theorem dX11_coupon_88 : decode cX11_coupon 88 = .ok (.new 50, 3) := by decide +kernel
theorem dX11_coupon_91 : decode cX11_coupon 91 = .ok (.dup, 1) := by decide +kernel
theorem dX11_coupon_92 : decode cX11_coupon 92 = .ok (.ldc 120, 2) := by decide +kernel
theorem dX11_coupon_94 : decode cX11_coupon 94 = .ok (.invokespecial 54, 3) := by decide +kernel
theorem dX11_coupon_97 : decode cX11_coupon 97 = .ok (.athrow, 1) := by decide +kernel
theorem dX11_curve_0 : decode cX11_curve 0 = .ok (.aload_n 0, 1) := by decide +kernel
theorem dX11_curve_1 : decode cX11_curve 1 = .ok (.iload_n 1, 1) := by decide +kernel
theorem dX11_curve_2 : decode cX11_curve 2 = .ok (.invokevirtual 122, 3) := by decide +kernel
theorem dX11_curve_5 : decode cX11_curve 5 = .ok (.aload_n 0, 1) := by decide +kernel
theorem dX11_curve_6 : decode cX11_curve 6 = .ok (.iload_n 2, 1) := by decide +kernel
theorem dX11_curve_7 : decode cX11_curve 7 = .ok (.iconst 1, 1) := by decide +kernel
theorem dX11_curve_8 : decode cX11_curve 8 = .ok (.sipush 999, 3) := by decide +kernel
theorem dX11_curve_11 : decode cX11_curve 11 = .ok (.invokevirtual 214, 3) := by decide +kernel
theorem dX11_curve_14 : decode cX11_curve 14 = .ok (.aload_n 0, 1) := by decide +kernel
theorem dX11_curve_15 : decode cX11_curve 15 = .ok (.getfield 19, 3) := by decide +kernel
theorem dX11_curve_18 : decode cX11_curve 18 = .ok (.getfield 86, 3) := by decide +kernel
theorem dX11_curve_21 : decode cX11_curve 21 = .ok (.getfield 129, 3) := by decide +kernel
theorem dX11_curve_24 : decode cX11_curve 24 = .ok (.iload_n 1, 1) := by decide +kernel
theorem dX11_curve_25 : decode cX11_curve 25 = .ok (.iaload, 1) := by decide +kernel
theorem dX11_curve_26 : decode cX11_curve 26 = .ok (.aload_n 0, 1) := by decide +kernel
theorem dX11_curve_27 : decode cX11_curve 27 = .ok (.getfield 19, 3) := by decide +kernel
theorem dX11_curve_30 : decode cX11_curve 30 = .ok (.getfield 86, 3) := by decide +kernel
theorem dX11_curve_33 : decode cX11_curve 33 = .ok (.getfield 125, 3) := by decide +kernel
theorem dX11_curve_36 : decode cX11_curve 36 = .ok (.iload_n 1, 1) := by decide +kernel
theorem dX11_curve_37 : decode cX11_curve 37 = .ok (.iaload, 1) := by decide +kernel
theorem dX11_curve_38 : decode cX11_curve 38 = .ok (.iload_n 2, 1) := by decide +kernel
theorem dX11_curve_39 : decode cX11_curve 39 = .ok (.imul, 1) := by decide +kernel
theorem dX11_curve_40 : decode cX11_curve 40 = .ok (.iadd, 1) := by decide +kernel
theorem dX11_curve_41 : decode cX11_curve 41 = .ok (.ireturn, 1) := by decide +kernel
theorem dX11_endsAt_0 : decode cX11_endsAt 0 = .ok (.aload_n 0, 1) := by decide +kernel
theorem dX11_endsAt_1 : decode cX11_endsAt 1 = .ok (.iload_n 1, 1) := by decide +kernel
theorem dX11_endsAt_2 : decode cX11_endsAt 2 = .ok (.invokevirtual 177, 3) := by decide +kernel
theorem dX11_endsAt_5 : decode cX11_endsAt 5 = .ok (.aload_n 0, 1) := by decide +kernel
theorem dX11_endsAt_6 : decode cX11_endsAt 6 = .ok (.getfield 19, 3) := by decide +kernel
theorem dX11_endsAt_9 : decode cX11_endsAt 9 = .ok (.getfield 74, 3) := by decide +kernel
theorem dX11_endsAt_12 : decode cX11_endsAt 12 = .ok (.iload_n 1, 1) := by decide +kernel
theorem dX11_endsAt_13 : decode cX11_endsAt 13 = .ok (.invokevirtual 228, 3) := by decide +kernel
theorem dX11_endsAt_16 : decode cX11_endsAt 16 = .ok (.ifCond .eq 16, 3) := by decide +kernel
theorem dX11_endsAt_19 : decode cX11_endsAt 19 = .ok (.aload_n 0, 1) := by decide +kernel
theorem dX11_endsAt_20 : decode cX11_endsAt 20 = .ok (.getfield 19, 3) := by decide +kernel
theorem dX11_endsAt_23 : decode cX11_endsAt 23 = .ok (.getfield 74, 3) := by decide +kernel
theorem dX11_endsAt_26 : decode cX11_endsAt 26 = .ok (.getfield 198, 3) := by decide +kernel
theorem dX11_endsAt_29 : decode cX11_endsAt 29 = .ok (.iload_n 1, 1) := by decide +kernel
theorem dX11_endsAt_30 : decode cX11_endsAt 30 = .ok (.iaload, 1) := by decide +kernel
theorem dX11_endsAt_31 : decode cX11_endsAt 31 = .ok (.ireturn, 1) := by decide +kernel
theorem dX11_endsAt_32 : decode cX11_endsAt 32 = .ok (.aload_n 0, 1) := by decide +kernel
theorem dX11_endsAt_33 : decode cX11_endsAt 33 = .ok (.getfield 23, 3) := by decide +kernel
theorem dX11_endsAt_36 : decode cX11_endsAt 36 = .ok (.aload_n 0, 1) := by decide +kernel
theorem dX11_endsAt_37 : decode cX11_endsAt 37 = .ok (.getfield 19, 3) := by decide +kernel
theorem dX11_endsAt_40 : decode cX11_endsAt 40 = .ok (.invokevirtual 71, 3) := by decide +kernel
theorem dX11_endsAt_43 : decode cX11_endsAt 43 = .ok (.aload_n 0, 1) := by decide +kernel
theorem dX11_endsAt_44 : decode cX11_endsAt 44 = .ok (.getfield 23, 3) := by decide +kernel
theorem dX11_endsAt_47 : decode cX11_endsAt 47 = .ok (.sipush 500, 3) := by decide +kernel
theorem dX11_endsAt_50 : decode cX11_endsAt 50 = .ok (.iload_n 1, 1) := by decide +kernel
theorem dX11_endsAt_51 : decode cX11_endsAt 51 = .ok (.invokevirtual 232, 3) := by decide +kernel
theorem dX11_endsAt_54 : decode cX11_endsAt 54 = .ok (.aload_n 0, 1) := by decide +kernel
theorem dX11_endsAt_55 : decode cX11_endsAt 55 = .ok (.getfield 23, 3) := by decide +kernel
theorem dX11_endsAt_58 : decode cX11_endsAt 58 = .ok (.getfield 74, 3) := by decide +kernel
theorem dX11_endsAt_61 : decode cX11_endsAt 61 = .ok (.getfield 198, 3) := by decide +kernel
theorem dX11_endsAt_64 : decode cX11_endsAt 64 = .ok (.iload_n 1, 1) := by decide +kernel
theorem dX11_endsAt_65 : decode cX11_endsAt 65 = .ok (.iaload, 1) := by decide +kernel
theorem dX11_endsAt_66 : decode cX11_endsAt 66 = .ok (.ireturn, 1) := by decide +kernel
theorem dX11_help_0 : decode cX11_help 0 = .ok (.aload_n 0, 1) := by decide +kernel
theorem dX11_help_1 : decode cX11_help 1 = .ok (.iload_n 1, 1) := by decide +kernel
theorem dX11_help_2 : decode cX11_help 2 = .ok (.invokevirtual 177, 3) := by decide +kernel
theorem dX11_help_5 : decode cX11_help 5 = .ok (.aload_n 0, 1) := by decide +kernel
theorem dX11_help_6 : decode cX11_help 6 = .ok (.getfield 19, 3) := by decide +kernel
theorem dX11_help_9 : decode cX11_help 9 = .ok (.getfield 100, 3) := by decide +kernel
theorem dX11_help_12 : decode cX11_help 12 = .ok (.getfield 104, 3) := by decide +kernel
theorem dX11_help_15 : decode cX11_help 15 = .ok (.bipush 30, 2) := by decide +kernel
theorem dX11_help_17 : decode cX11_help 17 = .ok (.if_icmp .ge 17, 3) := by decide +kernel
theorem dX11_help_20 : decode cX11_help 20 = .ok (.aload_n 0, 1) := by decide +kernel
theorem dX11_help_21 : decode cX11_help 21 = .ok (.getfield 19, 3) := by decide +kernel
theorem dX11_help_24 : decode cX11_help 24 = .ok (.getfield 74, 3) := by decide +kernel
theorem dX11_help_27 : decode cX11_help 27 = .ok (.iload_n 1, 1) := by decide +kernel
theorem dX11_help_28 : decode cX11_help 28 = .ok (.invokevirtual 228, 3) := by decide +kernel
theorem dX11_help_31 : decode cX11_help 31 = .ok (.ifCond .eq 5, 3) := by decide +kernel
theorem dX11_help_34 : decode cX11_help 34 = .ok (.iconst (-1), 1) := by decide +kernel
theorem dX11_help_35 : decode cX11_help 35 = .ok (.ireturn, 1) := by decide +kernel
theorem dX11_help_36 : decode cX11_help 36 = .ok (.aload_n 0, 1) := by decide +kernel
theorem dX11_help_37 : decode cX11_help 37 = .ok (.getfield 19, 3) := by decide +kernel
theorem dX11_help_40 : decode cX11_help 40 = .ok (.getfield 74, 3) := by decide +kernel
theorem dX11_help_43 : decode cX11_help 43 = .ok (.getfield 180, 3) := by decide +kernel
theorem dX11_help_46 : decode cX11_help 46 = .ok (.iload_n 1, 1) := by decide +kernel
theorem dX11_help_47 : decode cX11_help 47 = .ok (.iaload, 1) := by decide +kernel
theorem dX11_help_48 : decode cX11_help 48 = .ok (.istore_n 2, 1) := by decide +kernel
theorem dX11_help_49 : decode cX11_help 49 = .ok (.aload_n 0, 1) := by decide +kernel
theorem dX11_help_50 : decode cX11_help 50 = .ok (.getfield 23, 3) := by decide +kernel
theorem dX11_help_53 : decode cX11_help 53 = .ok (.aload_n 0, 1) := by decide +kernel
theorem dX11_help_54 : decode cX11_help 54 = .ok (.getfield 19, 3) := by decide +kernel
theorem dX11_help_57 : decode cX11_help 57 = .ok (.invokevirtual 71, 3) := by decide +kernel
theorem dX11_help_60 : decode cX11_help 60 = .ok (.aload_n 0, 1) := by decide +kernel
theorem dX11_help_61 : decode cX11_help 61 = .ok (.getfield 23, 3) := by decide +kernel
theorem dX11_help_64 : decode cX11_help 64 = .ok (.sipush 500, 3) := by decide +kernel
theorem dX11_help_67 : decode cX11_help 67 = .ok (.iload_n 1, 1) := by decide +kernel
theorem dX11_help_68 : decode cX11_help 68 = .ok (.invokevirtual 232, 3) := by decide +kernel
theorem dX11_help_71 : decode cX11_help 71 = .ok (.aload_n 0, 1) := by decide +kernel
theorem dX11_help_72 : decode cX11_help 72 = .ok (.getfield 23, 3) := by decide +kernel
theorem dX11_help_75 : decode cX11_help 75 = .ok (.getfield 74, 3) := by decide +kernel
theorem dX11_help_78 : decode cX11_help 78 = .ok (.getfield 198, 3) := by decide +kernel
theorem dX11_help_81 : decode cX11_help 81 = .ok (.iload_n 1, 1) := by decide +kernel
theorem dX11_help_82 : decode cX11_help 82 = .ok (.iaload, 1) := by decide +kernel
theorem dX11_help_83 : decode cX11_help 83 = .ok (.istore_n 3, 1) := by decide +kernel
theorem dX11_help_84 : decode cX11_help 84 = .ok (.iload_n 3, 1) := by decide +kernel
theorem dX11_help_85 : decode cX11_help 85 = .ok (.ifCond .ge 9, 3) := by decide +kernel
theorem dX11_help_88 : decode cX11_help 88 = .ok (.sipush 500, 3) := by decide +kernel
theorem dX11_help_91 : decode cX11_help 91 = .ok (.goto 12, 3) := by decide +kernel
theorem dX11_help_94 : decode cX11_help 94 = .ok (.iload_n 3, 1) := by decide +kernel
theorem dX11_help_95 : decode cX11_help 95 = .ok (.aload_n 0, 1) := by decide +kernel
theorem dX11_help_96 : decode cX11_help 96 = .ok (.getfield 19, 3) := by decide +kernel
theorem dX11_help_99 : decode cX11_help 99 = .ok (.getfield 83, 3) := by decide +kernel
theorem dX11_help_102 : decode cX11_help 102 = .ok (.isub, 1) := by decide +kernel
theorem dX11_help_103 : decode cX11_help 103 = .ok (.istore 4, 2) := by decide +kernel
theorem dX11_help_105 : decode cX11_help 105 = .ok (.iconst 1, 1) := by decide +kernel
theorem dX11_help_106 : decode cX11_help 106 = .ok (.istore 5, 2) := by decide +kernel
theorem dX11_help_108 : decode cX11_help 108 = .ok (.iload 5, 2) := by decide +kernel
theorem dX11_help_110 : decode cX11_help 110 = .ok (.sipush 999, 3) := by decide +kernel
theorem dX11_help_113 : decode cX11_help 113 = .ok (.if_icmp .gt 92, 3) := by decide +kernel
theorem dX11_help_116 : decode cX11_help 116 = .ok (.aload_n 0, 1) := by decide +kernel
theorem dX11_help_117 : decode cX11_help 117 = .ok (.getfield 23, 3) := by decide +kernel
theorem dX11_help_120 : decode cX11_help 120 = .ok (.aload_n 0, 1) := by decide +kernel
theorem dX11_help_121 : decode cX11_help 121 = .ok (.getfield 19, 3) := by decide +kernel
theorem dX11_help_124 : decode cX11_help 124 = .ok (.invokevirtual 71, 3) := by decide +kernel
theorem dX11_help_127 : decode cX11_help 127 = .ok (.aload_n 0, 1) := by decide +kernel
theorem dX11_help_128 : decode cX11_help 128 = .ok (.getfield 23, 3) := by decide +kernel
theorem dX11_help_131 : decode cX11_help 131 = .ok (.getfield 100, 3) := by decide +kernel
theorem dX11_help_134 : decode cX11_help 134 = .ok (.iload_n 2, 1) := by decide +kernel
theorem dX11_help_135 : decode cX11_help 135 = .ok (.iload 5, 2) := by decide +kernel
theorem dX11_help_137 : decode cX11_help 137 = .ok (.aload_n 0, 1) := by decide +kernel
theorem dX11_help_138 : decode cX11_help 138 = .ok (.getfield 19, 3) := by decide +kernel
theorem dX11_help_141 : decode cX11_help 141 = .ok (.getfield 83, 3) := by decide +kernel
theorem dX11_help_144 : decode cX11_help 144 = .ok (.sipush 9999, 3) := by decide +kernel
theorem dX11_help_147 : decode cX11_help 147 = .ok (.iadd, 1) := by decide +kernel
theorem dX11_help_148 : decode cX11_help 148 = .ok (.invokevirtual 236, 3) := by decide +kernel
theorem dX11_help_151 : decode cX11_help 151 = .ok (.aload_n 0, 1) := by decide +kernel
theorem dX11_help_152 : decode cX11_help 152 = .ok (.getfield 23, 3) := by decide +kernel
theorem dX11_help_155 : decode cX11_help 155 = .ok (.iload_n 2, 1) := by decide +kernel
theorem dX11_help_156 : decode cX11_help 156 = .ok (.putfield 239, 3) := by decide +kernel
theorem dX11_help_159 : decode cX11_help 159 = .ok (.aload_n 0, 1) := by decide +kernel
theorem dX11_help_160 : decode cX11_help 160 = .ok (.getfield 23, 3) := by decide +kernel
theorem dX11_help_163 : decode cX11_help 163 = .ok (.iload 4, 2) := by decide +kernel
theorem dX11_help_165 : decode cX11_help 165 = .ok (.iload_n 1, 1) := by decide +kernel
theorem dX11_help_166 : decode cX11_help 166 = .ok (.invokevirtual 232, 3) := by decide +kernel
theorem dX11_help_169 : decode cX11_help 169 = .ok (.aload_n 0, 1) := by decide +kernel
theorem dX11_help_170 : decode cX11_help 170 = .ok (.getfield 23, 3) := by decide +kernel
theorem dX11_help_173 : decode cX11_help 173 = .ok (.getfield 74, 3) := by decide +kernel
theorem dX11_help_176 : decode cX11_help 176 = .ok (.iload_n 1, 1) := by decide +kernel
theorem dX11_help_177 : decode cX11_help 177 = .ok (.invokevirtual 228, 3) := by decide +kernel
theorem dX11_help_180 : decode cX11_help 180 = .ok (.ifCond .eq 6, 3) := by decide +kernel
theorem dX11_help_183 : decode cX11_help 183 = .ok (.iload 5, 2) := by decide +kernel
theorem dX11_help_185 : decode cX11_help 185 = .ok (.ireturn, 1) := by decide +kernel
theorem dX11_help_186 : decode cX11_help 186 = .ok (.iload 5, 2) := by decide +kernel
theorem dX11_help_188 : decode cX11_help 188 = .ok (.iconst 1, 1) := by decide +kernel
theorem dX11_help_189 : decode cX11_help 189 = .ok (.aload_n 0, 1) := by decide +kernel
theorem dX11_help_190 : decode cX11_help 190 = .ok (.getfield 23, 3) := by decide +kernel
theorem dX11_help_193 : decode cX11_help 193 = .ok (.getfield 242, 3) := by decide +kernel
theorem dX11_help_196 : decode cX11_help 196 = .ok (.invokestatic 245, 3) := by decide +kernel
theorem dX11_help_199 : decode cX11_help 199 = .ok (.iadd, 1) := by decide +kernel
theorem dX11_help_200 : decode cX11_help 200 = .ok (.istore 5, 2) := by decide +kernel
theorem dX11_help_202 : decode cX11_help 202 = .ok (.goto (-94), 3) := by decide +kernel
theorem dX11_help_205 : decode cX11_help 205 = .ok (.iconst (-1), 1) := by decide +kernel
theorem dX11_help_206 : decode cX11_help 206 = .ok (.ireturn, 1) := by decide +kernel
theorem dX11_pass_0 : decode cX11_pass 0 = .ok (.aload_n 0, 1) := by decide +kernel
theorem dX11_pass_1 : decode cX11_pass 1 = .ok (.iload_n 1, 1) := by decide +kernel
theorem dX11_pass_2 : decode cX11_pass 2 = .ok (.iconst 1, 1) := by decide +kernel
theorem dX11_pass_3 : decode cX11_pass 3 = .ok (.sipush 200, 3) := by decide +kernel
theorem dX11_pass_6 : decode cX11_pass 6 = .ok (.invokevirtual 214, 3) := by decide +kernel
theorem dX11_pass_9 : decode cX11_pass 9 = .ok (.aload_n 0, 1) := by decide +kernel
theorem dX11_pass_10 : decode cX11_pass 10 = .ok (.aload_n 0, 1) := by decide +kernel
theorem dX11_pass_11 : decode cX11_pass 11 = .ok (.getfield 19, 3) := by decide +kernel
theorem dX11_pass_14 : decode cX11_pass 14 = .ok (.getfield 83, 3) := by decide +kernel
theorem dX11_pass_17 : decode cX11_pass 17 = .ok (.iload_n 1, 1) := by decide +kernel
theorem dX11_pass_18 : decode cX11_pass 18 = .ok (.iadd, 1) := by decide +kernel
theorem dX11_pass_19 : decode cX11_pass 19 = .ok (.iconst 0, 1) := by decide +kernel
theorem dX11_pass_20 : decode cX11_pass 20 = .ok (.sipush 9999, 3) := by decide +kernel
theorem dX11_pass_23 : decode cX11_pass 23 = .ok (.invokevirtual 214, 3) := by decide +kernel
theorem dX11_pass_26 : decode cX11_pass 26 = .ok (.aload_n 0, 1) := by decide +kernel
theorem dX11_pass_27 : decode cX11_pass 27 = .ok (.getfield 29, 3) := by decide +kernel
theorem dX11_pass_30 : decode cX11_pass 30 = .ok (.aload_n 0, 1) := by decide +kernel
theorem dX11_pass_31 : decode cX11_pass 31 = .ok (.getfield 19, 3) := by decide +kernel
theorem dX11_pass_34 : decode cX11_pass 34 = .ok (.invokevirtual 64, 3) := by decide +kernel
theorem dX11_pass_37 : decode cX11_pass 37 = .ok (.aload_n 0, 1) := by decide +kernel
theorem dX11_pass_38 : decode cX11_pass 38 = .ok (.getfield 19, 3) := by decide +kernel
theorem dX11_pass_41 : decode cX11_pass 41 = .ok (.getfield 74, 3) := by decide +kernel
theorem dX11_pass_44 : decode cX11_pass 44 = .ok (.iconst 3, 1) := by decide +kernel
theorem dX11_pass_45 : decode cX11_pass 45 = .ok (.invokevirtual 107, 3) := by decide +kernel
theorem dX11_pass_48 : decode cX11_pass 48 = .ok (.istore_n 2, 1) := by decide +kernel
theorem dX11_pass_49 : decode cX11_pass 49 = .ok (.aload_n 0, 1) := by decide +kernel
theorem dX11_pass_50 : decode cX11_pass 50 = .ok (.getfield 19, 3) := by decide +kernel
theorem dX11_pass_53 : decode cX11_pass 53 = .ok (.iload_n 1, 1) := by decide +kernel
theorem dX11_pass_54 : decode cX11_pass 54 = .ok (.iconst (-1), 1) := by decide +kernel
theorem dX11_pass_55 : decode cX11_pass 55 = .ok (.invokevirtual 232, 3) := by decide +kernel
theorem dX11_pass_58 : decode cX11_pass 58 = .ok (.aload_n 0, 1) := by decide +kernel
theorem dX11_pass_59 : decode cX11_pass 59 = .ok (.getfield 19, 3) := by decide +kernel
theorem dX11_pass_62 : decode cX11_pass 62 = .ok (.getfield 74, 3) := by decide +kernel
theorem dX11_pass_65 : decode cX11_pass 65 = .ok (.iconst 3, 1) := by decide +kernel
theorem dX11_pass_66 : decode cX11_pass 66 = .ok (.invokevirtual 107, 3) := by decide +kernel
theorem dX11_pass_69 : decode cX11_pass 69 = .ok (.iload_n 2, 1) := by decide +kernel
theorem dX11_pass_70 : decode cX11_pass 70 = .ok (.isub, 1) := by decide +kernel
theorem dX11_pass_71 : decode cX11_pass 71 = .ok (.ireturn, 1) := by decide +kernel
theorem dX11_forward_0 : decode cX11_forward 0 = .ok (.aload_n 0, 1) := by decide +kernel
theorem dX11_forward_1 : decode cX11_forward 1 = .ok (.iload_n 1, 1) := by decide +kernel
theorem dX11_forward_2 : decode cX11_forward 2 = .ok (.invokevirtual 201, 3) := by decide +kernel
theorem dX11_forward_5 : decode cX11_forward 5 = .ok (.aload_n 0, 1) := by decide +kernel
theorem dX11_forward_6 : decode cX11_forward 6 = .ok (.iload_n 2, 1) := by decide +kernel
theorem dX11_forward_7 : decode cX11_forward 7 = .ok (.invokevirtual 135, 3) := by decide +kernel
theorem dX11_forward_10 : decode cX11_forward 10 = .ok (.aload_n 0, 1) := by decide +kernel
theorem dX11_forward_11 : decode cX11_forward 11 = .ok (.getfield 29, 3) := by decide +kernel
theorem dX11_forward_14 : decode cX11_forward 14 = .ok (.aload_n 0, 1) := by decide +kernel
theorem dX11_forward_15 : decode cX11_forward 15 = .ok (.getfield 19, 3) := by decide +kernel
theorem dX11_forward_18 : decode cX11_forward 18 = .ok (.invokevirtual 64, 3) := by decide +kernel
theorem dX11_forward_21 : decode cX11_forward 21 = .ok (.aload_n 0, 1) := by decide +kernel
theorem dX11_forward_22 : decode cX11_forward 22 = .ok (.getfield 19, 3) := by decide +kernel
theorem dX11_forward_25 : decode cX11_forward 25 = .ok (.getfield 100, 3) := by decide +kernel
theorem dX11_forward_28 : decode cX11_forward 28 = .ok (.astore_n 3, 1) := by decide +kernel
theorem dX11_forward_29 : decode cX11_forward 29 = .ok (.aload_n 3, 1) := by decide +kernel
theorem dX11_forward_30 : decode cX11_forward 30 = .ok (.getfield 204, 3) := by decide +kernel
theorem dX11_forward_33 : decode cX11_forward 33 = .ok (.iload_n 1, 1) := by decide +kernel
theorem dX11_forward_34 : decode cX11_forward 34 = .ok (.iaload, 1) := by decide +kernel
theorem dX11_forward_35 : decode cX11_forward 35 = .ok (.iload_n 2, 1) := by decide +kernel
theorem dX11_forward_36 : decode cX11_forward 36 = .ok (.if_icmp .eq 29, 3) := by decide +kernel
theorem dX11_forward_39 : decode cX11_forward 39 = .ok (.aload_n 3, 1) := by decide +kernel
theorem dX11_forward_40 : decode cX11_forward 40 = .ok (.getfield 211, 3) := by decide +kernel
theorem dX11_forward_43 : decode cX11_forward 43 = .ok (.iload_n 1, 1) := by decide +kernel
theorem dX11_forward_44 : decode cX11_forward 44 = .ok (.iaload, 1) := by decide +kernel
theorem dX11_forward_45 : decode cX11_forward 45 = .ok (.iconst 2, 1) := by decide +kernel
theorem dX11_forward_46 : decode cX11_forward 46 = .ok (.if_icmp .ge 19, 3) := by decide +kernel
theorem dX11_forward_49 : decode cX11_forward 49 = .ok (.aload_n 3, 1) := by decide +kernel
theorem dX11_forward_50 : decode cX11_forward 50 = .ok (.getfield 205, 3) := by decide +kernel
theorem dX11_forward_53 : decode cX11_forward 53 = .ok (.iload_n 1, 1) := by decide +kernel
theorem dX11_forward_54 : decode cX11_forward 54 = .ok (.iaload, 1) := by decide +kernel
theorem dX11_forward_55 : decode cX11_forward 55 = .ok (.aload_n 0, 1) := by decide +kernel
theorem dX11_forward_56 : decode cX11_forward 56 = .ok (.getfield 19, 3) := by decide +kernel
theorem dX11_forward_59 : decode cX11_forward 59 = .ok (.getfield 117, 3) := by decide +kernel
theorem dX11_forward_62 : decode cX11_forward 62 = .ok (.if_icmp .gt 7, 3) := by decide +kernel
theorem dX11_forward_65 : decode cX11_forward 65 = .ok (.iconst 1, 1) := by decide +kernel
theorem dX11_forward_66 : decode cX11_forward 66 = .ok (.goto 4, 3) := by decide +kernel
theorem dX11_forward_69 : decode cX11_forward 69 = .ok (.iconst 0, 1) := by decide +kernel
theorem dX11_forward_70 : decode cX11_forward 70 = .ok (.istore 4, 2) := by decide +kernel
theorem dX11_forward_72 : decode cX11_forward 72 = .ok (.iload 4, 2) := by decide +kernel
theorem dX11_forward_74 : decode cX11_forward 74 = .ok (.ifCond .eq 5, 3) := by decide +kernel
theorem dX11_forward_77 : decode cX11_forward 77 = .ok (.iconst (-1), 1) := by decide +kernel
theorem dX11_forward_78 : decode cX11_forward 78 = .ok (.ireturn, 1) := by decide +kernel
theorem dX11_forward_79 : decode cX11_forward 79 = .ok (.aload_n 3, 1) := by decide +kernel
theorem dX11_forward_80 : decode cX11_forward 80 = .ok (.getfield 204, 3) := by decide +kernel
theorem dX11_forward_83 : decode cX11_forward 83 = .ok (.iload_n 1, 1) := by decide +kernel
theorem dX11_forward_84 : decode cX11_forward 84 = .ok (.iload_n 2, 1) := by decide +kernel
theorem dX11_forward_85 : decode cX11_forward 85 = .ok (.iastore, 1) := by decide +kernel
theorem dX11_forward_86 : decode cX11_forward 86 = .ok (.aload_n 3, 1) := by decide +kernel
theorem dX11_forward_87 : decode cX11_forward 87 = .ok (.getfield 205, 3) := by decide +kernel
theorem dX11_forward_90 : decode cX11_forward 90 = .ok (.iload_n 1, 1) := by decide +kernel
theorem dX11_forward_91 : decode cX11_forward 91 = .ok (.dup2, 1) := by decide +kernel
theorem dX11_forward_92 : decode cX11_forward 92 = .ok (.iaload, 1) := by decide +kernel
theorem dX11_forward_93 : decode cX11_forward 93 = .ok (.aload_n 0, 1) := by decide +kernel
theorem dX11_forward_94 : decode cX11_forward 94 = .ok (.getfield 19, 3) := by decide +kernel
theorem dX11_forward_97 : decode cX11_forward 97 = .ok (.getfield 117, 3) := by decide +kernel
theorem dX11_forward_100 : decode cX11_forward 100 = .ok (.isub, 1) := by decide +kernel
theorem dX11_forward_101 : decode cX11_forward 101 = .ok (.iastore, 1) := by decide +kernel
theorem dX11_forward_102 : decode cX11_forward 102 = .ok (.aload_n 3, 1) := by decide +kernel
theorem dX11_forward_103 : decode cX11_forward 103 = .ok (.getfield 211, 3) := by decide +kernel
theorem dX11_forward_106 : decode cX11_forward 106 = .ok (.iload_n 1, 1) := by decide +kernel
theorem dX11_forward_107 : decode cX11_forward 107 = .ok (.dup2, 1) := by decide +kernel
theorem dX11_forward_108 : decode cX11_forward 108 = .ok (.iaload, 1) := by decide +kernel
theorem dX11_forward_109 : decode cX11_forward 109 = .ok (.iconst 1, 1) := by decide +kernel
theorem dX11_forward_110 : decode cX11_forward 110 = .ok (.iadd, 1) := by decide +kernel
theorem dX11_forward_111 : decode cX11_forward 111 = .ok (.iastore, 1) := by decide +kernel
theorem dX11_forward_112 : decode cX11_forward 112 = .ok (.aload_n 3, 1) := by decide +kernel
theorem dX11_forward_113 : decode cX11_forward 113 = .ok (.getfield 205, 3) := by decide +kernel
theorem dX11_forward_116 : decode cX11_forward 116 = .ok (.iload_n 1, 1) := by decide +kernel
theorem dX11_forward_117 : decode cX11_forward 117 = .ok (.iaload, 1) := by decide +kernel
theorem dX11_forward_118 : decode cX11_forward 118 = .ok (.ireturn, 1) := by decide +kernel
theorem dX11_grant_0 : decode cX11_grant 0 = .ok (.aload_n 0, 1) := by decide +kernel
theorem dX11_grant_1 : decode cX11_grant 1 = .ok (.iload_n 1, 1) := by decide +kernel
theorem dX11_grant_2 : decode cX11_grant 2 = .ok (.invokevirtual 135, 3) := by decide +kernel
theorem dX11_grant_5 : decode cX11_grant 5 = .ok (.aload_n 0, 1) := by decide +kernel
theorem dX11_grant_6 : decode cX11_grant 6 = .ok (.iload_n 2, 1) := by decide +kernel
theorem dX11_grant_7 : decode cX11_grant 7 = .ok (.iconst 1, 1) := by decide +kernel
theorem dX11_grant_8 : decode cX11_grant 8 = .ok (.sipush 9999, 3) := by decide +kernel
theorem dX11_grant_11 : decode cX11_grant 11 = .ok (.invokevirtual 214, 3) := by decide +kernel
theorem dX11_grant_14 : decode cX11_grant 14 = .ok (.aload_n 0, 1) := by decide +kernel
theorem dX11_grant_15 : decode cX11_grant 15 = .ok (.iload_n 3, 1) := by decide +kernel
theorem dX11_grant_16 : decode cX11_grant 16 = .ok (.iconst 1, 1) := by decide +kernel
theorem dX11_grant_17 : decode cX11_grant 17 = .ok (.sipush 9999, 3) := by decide +kernel
theorem dX11_grant_20 : decode cX11_grant 20 = .ok (.invokevirtual 214, 3) := by decide +kernel
theorem dX11_grant_23 : decode cX11_grant 23 = .ok (.aload_n 0, 1) := by decide +kernel
theorem dX11_grant_24 : decode cX11_grant 24 = .ok (.getfield 19, 3) := by decide +kernel
theorem dX11_grant_27 : decode cX11_grant 27 = .ok (.getfield 100, 3) := by decide +kernel
theorem dX11_grant_30 : decode cX11_grant 30 = .ok (.getfield 104, 3) := by decide +kernel
theorem dX11_grant_33 : decode cX11_grant 33 = .ok (.bipush 30, 2) := by decide +kernel
theorem dX11_grant_35 : decode cX11_grant 35 = .ok (.if_icmp .lt 13, 3) := by decide +kernel
theorem dX11_grant_38 : decode cX11_grant 38 = .ok (.new 250, 3) := by decide +kernel
theorem dX11_grant_41 : decode cX11_grant 41 = .ok (.dup, 1) := by decide +kernel
theorem dX11_grant_42 : decode cX11_grant 42 = .ok (.ldc 252, 2) := by decide +kernel
theorem dX11_grant_44 : decode cX11_grant 44 = .ok (.invokespecial 253, 3) := by decide +kernel
theorem dX11_grant_47 : decode cX11_grant 47 = .ok (.athrow, 1) := by decide +kernel
theorem dX11_grant_48 : decode cX11_grant 48 = .ok (.aload_n 0, 1) := by decide +kernel
theorem dX11_grant_49 : decode cX11_grant 49 = .ok (.getfield 29, 3) := by decide +kernel
theorem dX11_grant_52 : decode cX11_grant 52 = .ok (.aload_n 0, 1) := by decide +kernel
theorem dX11_grant_53 : decode cX11_grant 53 = .ok (.getfield 19, 3) := by decide +kernel
theorem dX11_grant_56 : decode cX11_grant 56 = .ok (.invokevirtual 64, 3) := by decide +kernel
theorem dX11_grant_59 : decode cX11_grant 59 = .ok (.aload_n 0, 1) := by decide +kernel
theorem dX11_grant_60 : decode cX11_grant 60 = .ok (.getfield 19, 3) := by decide +kernel
theorem dX11_grant_63 : decode cX11_grant 63 = .ok (.getfield 100, 3) := by decide +kernel
theorem dX11_grant_66 : decode cX11_grant 66 = .ok (.iload_n 1, 1) := by decide +kernel
theorem dX11_grant_67 : decode cX11_grant 67 = .ok (.iload_n 2, 1) := by decide +kernel
theorem dX11_grant_68 : decode cX11_grant 68 = .ok (.aload_n 0, 1) := by decide +kernel
theorem dX11_grant_69 : decode cX11_grant 69 = .ok (.getfield 19, 3) := by decide +kernel
theorem dX11_grant_72 : decode cX11_grant 72 = .ok (.getfield 83, 3) := by decide +kernel
theorem dX11_grant_75 : decode cX11_grant 75 = .ok (.iload_n 3, 1) := by decide +kernel
theorem dX11_grant_76 : decode cX11_grant 76 = .ok (.iadd, 1) := by decide +kernel
theorem dX11_grant_77 : decode cX11_grant 77 = .ok (.invokevirtual 236, 3) := by decide +kernel
theorem dX11_grant_80 : decode cX11_grant 80 = .ok (.aload_n 0, 1) := by decide +kernel
theorem dX11_grant_81 : decode cX11_grant 81 = .ok (.getfield 19, 3) := by decide +kernel
theorem dX11_grant_84 : decode cX11_grant 84 = .ok (.getfield 100, 3) := by decide +kernel
theorem dX11_grant_87 : decode cX11_grant 87 = .ok (.getfield 104, 3) := by decide +kernel
theorem dX11_grant_90 : decode cX11_grant 90 = .ok (.iconst 1, 1) := by decide +kernel
theorem dX11_grant_91 : decode cX11_grant 91 = .ok (.isub, 1) := by decide +kernel
theorem dX11_grant_92 : decode cX11_grant 92 = .ok (.ireturn, 1) := by decide +kernel
theorem dX11_send_0 : decode cX11_send 0 = .ok (.aload_n 0, 1) := by decide +kernel
theorem dX11_send_1 : decode cX11_send 1 = .ok (.iload_n 1, 1) := by decide +kernel
theorem dX11_send_2 : decode cX11_send 2 = .ok (.invokevirtual 135, 3) := by decide +kernel
theorem dX11_send_5 : decode cX11_send 5 = .ok (.aload_n 0, 1) := by decide +kernel
theorem dX11_send_6 : decode cX11_send 6 = .ok (.iload_n 2, 1) := by decide +kernel
theorem dX11_send_7 : decode cX11_send 7 = .ok (.iconst 1, 1) := by decide +kernel
theorem dX11_send_8 : decode cX11_send 8 = .ok (.sipush 999, 3) := by decide +kernel
theorem dX11_send_11 : decode cX11_send 11 = .ok (.invokevirtual 214, 3) := by decide +kernel
theorem dX11_send_14 : decode cX11_send 14 = .ok (.aload_n 0, 1) := by decide +kernel
theorem dX11_send_15 : decode cX11_send 15 = .ok (.getfield 19, 3) := by decide +kernel
theorem dX11_send_18 : decode cX11_send 18 = .ok (.getfield 74, 3) := by decide +kernel
theorem dX11_send_21 : decode cX11_send 21 = .ok (.getfield 78, 3) := by decide +kernel
theorem dX11_send_24 : decode cX11_send 24 = .ok (.bipush 40, 2) := by decide +kernel
theorem dX11_send_26 : decode cX11_send 26 = .ok (.if_icmp .lt 13, 3) := by decide +kernel
theorem dX11_send_29 : decode cX11_send 29 = .ok (.new 250, 3) := by decide +kernel
theorem dX11_send_32 : decode cX11_send 32 = .ok (.dup, 1) := by decide +kernel
theorem dX11_send_33 : decode cX11_send 33 = .ok (.ldc 254, 2) := by decide +kernel
theorem dX11_send_35 : decode cX11_send 35 = .ok (.invokespecial 253, 3) := by decide +kernel
theorem dX11_send_38 : decode cX11_send 38 = .ok (.athrow, 1) := by decide +kernel
theorem dX11_send_39 : decode cX11_send 39 = .ok (.aload_n 0, 1) := by decide +kernel
theorem dX11_send_40 : decode cX11_send 40 = .ok (.getfield 29, 3) := by decide +kernel
theorem dX11_send_43 : decode cX11_send 43 = .ok (.aload_n 0, 1) := by decide +kernel
theorem dX11_send_44 : decode cX11_send 44 = .ok (.getfield 19, 3) := by decide +kernel
theorem dX11_send_47 : decode cX11_send 47 = .ok (.invokevirtual 64, 3) := by decide +kernel
theorem dX11_send_50 : decode cX11_send 50 = .ok (.aload_n 0, 1) := by decide +kernel
theorem dX11_send_51 : decode cX11_send 51 = .ok (.getfield 19, 3) := by decide +kernel
theorem dX11_send_54 : decode cX11_send 54 = .ok (.getfield 74, 3) := by decide +kernel
theorem dX11_send_57 : decode cX11_send 57 = .ok (.iload_n 1, 1) := by decide +kernel
theorem dX11_send_58 : decode cX11_send 58 = .ok (.aload_n 0, 1) := by decide +kernel
theorem dX11_send_59 : decode cX11_send 59 = .ok (.getfield 19, 3) := by decide +kernel
theorem dX11_send_62 : decode cX11_send 62 = .ok (.getfield 83, 3) := by decide +kernel
theorem dX11_send_65 : decode cX11_send 65 = .ok (.iload_n 2, 1) := by decide +kernel
theorem dX11_send_66 : decode cX11_send 66 = .ok (.invokevirtual 255, 3) := by decide +kernel
theorem dX11_send_69 : decode cX11_send 69 = .ok (.aload_n 0, 1) := by decide +kernel
theorem dX11_send_70 : decode cX11_send 70 = .ok (.getfield 19, 3) := by decide +kernel
theorem dX11_send_73 : decode cX11_send 73 = .ok (.getfield 74, 3) := by decide +kernel
theorem dX11_send_76 : decode cX11_send 76 = .ok (.getfield 78, 3) := by decide +kernel
theorem dX11_send_79 : decode cX11_send 79 = .ok (.iconst 1, 1) := by decide +kernel
theorem dX11_send_80 : decode cX11_send 80 = .ok (.isub, 1) := by decide +kernel
theorem dX11_send_81 : decode cX11_send 81 = .ok (.ireturn, 1) := by decide +kernel
theorem dX11_setThrift_0 : decode cX11_setThrift 0 = .ok (.aload_n 0, 1) := by decide +kernel
theorem dX11_setThrift_1 : decode cX11_setThrift 1 = .ok (.iload_n 1, 1) := by decide +kernel
theorem dX11_setThrift_2 : decode cX11_setThrift 2 = .ok (.invokevirtual 135, 3) := by decide +kernel
theorem dX11_setThrift_5 : decode cX11_setThrift 5 = .ok (.aload_n 0, 1) := by decide +kernel
theorem dX11_setThrift_6 : decode cX11_setThrift 6 = .ok (.iload_n 2, 1) := by decide +kernel
theorem dX11_setThrift_7 : decode cX11_setThrift 7 = .ok (.iconst 0, 1) := by decide +kernel
theorem dX11_setThrift_8 : decode cX11_setThrift 8 = .ok (.bipush 99, 2) := by decide +kernel
theorem dX11_setThrift_10 : decode cX11_setThrift 10 = .ok (.invokevirtual 214, 3) := by decide +kernel
theorem dX11_setThrift_13 : decode cX11_setThrift 13 = .ok (.aload_n 0, 1) := by decide +kernel
theorem dX11_setThrift_14 : decode cX11_setThrift 14 = .ok (.getfield 29, 3) := by decide +kernel
theorem dX11_setThrift_17 : decode cX11_setThrift 17 = .ok (.aload_n 0, 1) := by decide +kernel
theorem dX11_setThrift_18 : decode cX11_setThrift 18 = .ok (.getfield 19, 3) := by decide +kernel
theorem dX11_setThrift_21 : decode cX11_setThrift 21 = .ok (.invokevirtual 64, 3) := by decide +kernel
theorem dX11_setThrift_24 : decode cX11_setThrift 24 = .ok (.aload_n 0, 1) := by decide +kernel
theorem dX11_setThrift_25 : decode cX11_setThrift 25 = .ok (.getfield 19, 3) := by decide +kernel
theorem dX11_setThrift_28 : decode cX11_setThrift 28 = .ok (.getfield 93, 3) := by decide +kernel
theorem dX11_setThrift_31 : decode cX11_setThrift 31 = .ok (.getfield 141, 3) := by decide +kernel
theorem dX11_setThrift_34 : decode cX11_setThrift 34 = .ok (.iload_n 1, 1) := by decide +kernel
theorem dX11_setThrift_35 : decode cX11_setThrift 35 = .ok (.iaload, 1) := by decide +kernel
theorem dX11_setThrift_36 : decode cX11_setThrift 36 = .ok (.istore_n 3, 1) := by decide +kernel
theorem dX11_setThrift_37 : decode cX11_setThrift 37 = .ok (.aload_n 0, 1) := by decide +kernel
theorem dX11_setThrift_38 : decode cX11_setThrift 38 = .ok (.getfield 19, 3) := by decide +kernel
theorem dX11_setThrift_41 : decode cX11_setThrift 41 = .ok (.getfield 93, 3) := by decide +kernel
theorem dX11_setThrift_44 : decode cX11_setThrift 44 = .ok (.getfield 141, 3) := by decide +kernel
theorem dX11_setThrift_47 : decode cX11_setThrift 47 = .ok (.iload_n 1, 1) := by decide +kernel
theorem dX11_setThrift_48 : decode cX11_setThrift 48 = .ok (.iload_n 2, 1) := by decide +kernel
theorem dX11_setThrift_49 : decode cX11_setThrift 49 = .ok (.iastore, 1) := by decide +kernel
theorem dX11_setThrift_50 : decode cX11_setThrift 50 = .ok (.iload_n 3, 1) := by decide +kernel
theorem dX11_setThrift_51 : decode cX11_setThrift 51 = .ok (.ireturn, 1) := by decide +kernel
theorem dX11_undo_0 : decode cX11_undo 0 = .ok (.aload_n 0, 1) := by decide +kernel
theorem dX11_undo_1 : decode cX11_undo 1 = .ok (.getfield 29, 3) := by decide +kernel
theorem dX11_undo_4 : decode cX11_undo 4 = .ok (.aload_n 0, 1) := by decide +kernel
theorem dX11_undo_5 : decode cX11_undo 5 = .ok (.getfield 19, 3) := by decide +kernel
theorem dX11_undo_8 : decode cX11_undo 8 = .ok (.invokevirtual 256, 3) := by decide +kernel
theorem dX11_undo_11 : decode cX11_undo 11 = .ok (.ireturn, 1) := by decide +kernel
theorem dX11_checksum_0 : decode cX11_checksum 0 = .ok (.lconst 0, 1) := by decide +kernel
theorem dX11_checksum_1 : decode cX11_checksum 1 = .ok (.lstore_n 1, 1) := by decide +kernel
theorem dX11_checksum_2 : decode cX11_checksum 2 = .ok (.iconst 0, 1) := by decide +kernel
theorem dX11_checksum_3 : decode cX11_checksum 3 = .ok (.istore_n 3, 1) := by decide +kernel
theorem dX11_checksum_4 : decode cX11_checksum 4 = .ok (.iload_n 3, 1) := by decide +kernel
theorem dX11_checksum_5 : decode cX11_checksum 5 = .ok (.bipush 9, 2) := by decide +kernel
theorem dX11_checksum_7 : decode cX11_checksum 7 = .ok (.if_icmp .gt 22, 3) := by decide +kernel
theorem dX11_checksum_10 : decode cX11_checksum 10 = .ok (.ldc2_w 260, 3) := by decide +kernel
theorem dX11_checksum_13 : decode cX11_checksum 13 = .ok (.lload_n 1, 1) := by decide +kernel
theorem dX11_checksum_14 : decode cX11_checksum 14 = .ok (.lmul, 1) := by decide +kernel
theorem dX11_checksum_15 : decode cX11_checksum 15 = .ok (.aload_n 0, 1) := by decide +kernel
theorem dX11_checksum_16 : decode cX11_checksum 16 = .ok (.iload_n 3, 1) := by decide +kernel
theorem dX11_checksum_17 : decode cX11_checksum 17 = .ok (.invokevirtual 262, 3) := by decide +kernel
theorem dX11_checksum_20 : decode cX11_checksum 20 = .ok (.i2l, 1) := by decide +kernel
theorem dX11_checksum_21 : decode cX11_checksum 21 = .ok (.ladd, 1) := by decide +kernel
theorem dX11_checksum_22 : decode cX11_checksum 22 = .ok (.lstore_n 1, 1) := by decide +kernel
theorem dX11_checksum_23 : decode cX11_checksum 23 = .ok (.iinc 3 1, 3) := by decide +kernel
theorem dX11_checksum_26 : decode cX11_checksum 26 = .ok (.goto (-22), 3) := by decide +kernel
theorem dX11_checksum_29 : decode cX11_checksum 29 = .ok (.iconst 0, 1) := by decide +kernel
theorem dX11_checksum_30 : decode cX11_checksum 30 = .ok (.istore_n 3, 1) := by decide +kernel
theorem dX11_checksum_31 : decode cX11_checksum 31 = .ok (.iload_n 3, 1) := by decide +kernel
theorem dX11_checksum_32 : decode cX11_checksum 32 = .ok (.aload_n 0, 1) := by decide +kernel
theorem dX11_checksum_33 : decode cX11_checksum 33 = .ok (.getfield 19, 3) := by decide +kernel
theorem dX11_checksum_36 : decode cX11_checksum 36 = .ok (.getfield 93, 3) := by decide +kernel
theorem dX11_checksum_39 : decode cX11_checksum 39 = .ok (.getfield 97, 3) := by decide +kernel
theorem dX11_checksum_42 : decode cX11_checksum 42 = .ok (.if_icmp .ge 39, 3) := by decide +kernel
theorem dX11_checksum_45 : decode cX11_checksum 45 = .ok (.iconst 0, 1) := by decide +kernel
theorem dX11_checksum_46 : decode cX11_checksum 46 = .ok (.istore 4, 2) := by decide +kernel
theorem dX11_checksum_48 : decode cX11_checksum 48 = .ok (.iload 4, 2) := by decide +kernel
theorem dX11_checksum_50 : decode cX11_checksum 50 = .ok (.iconst 5, 1) := by decide +kernel
theorem dX11_checksum_51 : decode cX11_checksum 51 = .ok (.if_icmp .gt 24, 3) := by decide +kernel
theorem dX11_checksum_54 : decode cX11_checksum 54 = .ok (.ldc2_w 260, 3) := by decide +kernel
theorem dX11_checksum_57 : decode cX11_checksum 57 = .ok (.lload_n 1, 1) := by decide +kernel
theorem dX11_checksum_58 : decode cX11_checksum 58 = .ok (.lmul, 1) := by decide +kernel
theorem dX11_checksum_59 : decode cX11_checksum 59 = .ok (.aload_n 0, 1) := by decide +kernel
theorem dX11_checksum_60 : decode cX11_checksum 60 = .ok (.iload_n 3, 1) := by decide +kernel
theorem dX11_checksum_61 : decode cX11_checksum 61 = .ok (.iload 4, 2) := by decide +kernel
theorem dX11_checksum_63 : decode cX11_checksum 63 = .ok (.invokevirtual 264, 3) := by decide +kernel
theorem dX11_checksum_66 : decode cX11_checksum 66 = .ok (.i2l, 1) := by decide +kernel
theorem dX11_checksum_67 : decode cX11_checksum 67 = .ok (.ladd, 1) := by decide +kernel
theorem dX11_checksum_68 : decode cX11_checksum 68 = .ok (.lstore_n 1, 1) := by decide +kernel
theorem dX11_checksum_69 : decode cX11_checksum 69 = .ok (.iinc 4 1, 3) := by decide +kernel
theorem dX11_checksum_72 : decode cX11_checksum 72 = .ok (.goto (-24), 3) := by decide +kernel
theorem dX11_checksum_75 : decode cX11_checksum 75 = .ok (.iinc 3 1, 3) := by decide +kernel
theorem dX11_checksum_78 : decode cX11_checksum 78 = .ok (.goto (-47), 3) := by decide +kernel
theorem dX11_checksum_81 : decode cX11_checksum 81 = .ok (.iconst 0, 1) := by decide +kernel
theorem dX11_checksum_82 : decode cX11_checksum 82 = .ok (.istore_n 3, 1) := by decide +kernel
theorem dX11_checksum_83 : decode cX11_checksum 83 = .ok (.iload_n 3, 1) := by decide +kernel
theorem dX11_checksum_84 : decode cX11_checksum 84 = .ok (.aload_n 0, 1) := by decide +kernel
theorem dX11_checksum_85 : decode cX11_checksum 85 = .ok (.getfield 19, 3) := by decide +kernel
theorem dX11_checksum_88 : decode cX11_checksum 88 = .ok (.getfield 74, 3) := by decide +kernel
theorem dX11_checksum_91 : decode cX11_checksum 91 = .ok (.getfield 78, 3) := by decide +kernel
theorem dX11_checksum_94 : decode cX11_checksum 94 = .ok (.if_icmp .ge 40, 3) := by decide +kernel
theorem dX11_checksum_97 : decode cX11_checksum 97 = .ok (.iconst 0, 1) := by decide +kernel
theorem dX11_checksum_98 : decode cX11_checksum 98 = .ok (.istore 4, 2) := by decide +kernel
theorem dX11_checksum_100 : decode cX11_checksum 100 = .ok (.iload 4, 2) := by decide +kernel
theorem dX11_checksum_102 : decode cX11_checksum 102 = .ok (.bipush 6, 2) := by decide +kernel
theorem dX11_checksum_104 : decode cX11_checksum 104 = .ok (.if_icmp .gt 24, 3) := by decide +kernel
theorem dX11_checksum_107 : decode cX11_checksum 107 = .ok (.ldc2_w 260, 3) := by decide +kernel
theorem dX11_checksum_110 : decode cX11_checksum 110 = .ok (.lload_n 1, 1) := by decide +kernel
theorem dX11_checksum_111 : decode cX11_checksum 111 = .ok (.lmul, 1) := by decide +kernel
theorem dX11_checksum_112 : decode cX11_checksum 112 = .ok (.aload_n 0, 1) := by decide +kernel
theorem dX11_checksum_113 : decode cX11_checksum 113 = .ok (.iload_n 3, 1) := by decide +kernel
theorem dX11_checksum_114 : decode cX11_checksum 114 = .ok (.iload 4, 2) := by decide +kernel
theorem dX11_checksum_116 : decode cX11_checksum 116 = .ok (.invokevirtual 266, 3) := by decide +kernel
theorem dX11_checksum_119 : decode cX11_checksum 119 = .ok (.i2l, 1) := by decide +kernel
theorem dX11_checksum_120 : decode cX11_checksum 120 = .ok (.ladd, 1) := by decide +kernel
theorem dX11_checksum_121 : decode cX11_checksum 121 = .ok (.lstore_n 1, 1) := by decide +kernel
theorem dX11_checksum_122 : decode cX11_checksum 122 = .ok (.iinc 4 1, 3) := by decide +kernel
theorem dX11_checksum_125 : decode cX11_checksum 125 = .ok (.goto (-25), 3) := by decide +kernel
theorem dX11_checksum_128 : decode cX11_checksum 128 = .ok (.iinc 3 1, 3) := by decide +kernel
theorem dX11_checksum_131 : decode cX11_checksum 131 = .ok (.goto (-48), 3) := by decide +kernel
theorem dX11_checksum_134 : decode cX11_checksum 134 = .ok (.iconst 0, 1) := by decide +kernel
theorem dX11_checksum_135 : decode cX11_checksum 135 = .ok (.istore_n 3, 1) := by decide +kernel
theorem dX11_checksum_136 : decode cX11_checksum 136 = .ok (.iload_n 3, 1) := by decide +kernel
theorem dX11_checksum_137 : decode cX11_checksum 137 = .ok (.aload_n 0, 1) := by decide +kernel
theorem dX11_checksum_138 : decode cX11_checksum 138 = .ok (.getfield 19, 3) := by decide +kernel
theorem dX11_checksum_141 : decode cX11_checksum 141 = .ok (.getfield 100, 3) := by decide +kernel
theorem dX11_checksum_144 : decode cX11_checksum 144 = .ok (.getfield 104, 3) := by decide +kernel
theorem dX11_checksum_147 : decode cX11_checksum 147 = .ok (.if_icmp .ge 39, 3) := by decide +kernel
theorem dX11_checksum_150 : decode cX11_checksum 150 = .ok (.iconst 0, 1) := by decide +kernel
theorem dX11_checksum_151 : decode cX11_checksum 151 = .ok (.istore 4, 2) := by decide +kernel
theorem dX11_checksum_153 : decode cX11_checksum 153 = .ok (.iload 4, 2) := by decide +kernel
theorem dX11_checksum_155 : decode cX11_checksum 155 = .ok (.iconst 3, 1) := by decide +kernel
theorem dX11_checksum_156 : decode cX11_checksum 156 = .ok (.if_icmp .gt 24, 3) := by decide +kernel
theorem dX11_checksum_159 : decode cX11_checksum 159 = .ok (.ldc2_w 260, 3) := by decide +kernel
theorem dX11_checksum_162 : decode cX11_checksum 162 = .ok (.lload_n 1, 1) := by decide +kernel
theorem dX11_checksum_163 : decode cX11_checksum 163 = .ok (.lmul, 1) := by decide +kernel
theorem dX11_checksum_164 : decode cX11_checksum 164 = .ok (.aload_n 0, 1) := by decide +kernel
theorem dX11_checksum_165 : decode cX11_checksum 165 = .ok (.iload_n 3, 1) := by decide +kernel
theorem dX11_checksum_166 : decode cX11_checksum 166 = .ok (.iload 4, 2) := by decide +kernel
theorem dX11_checksum_168 : decode cX11_checksum 168 = .ok (.invokevirtual 269, 3) := by decide +kernel
theorem dX11_checksum_171 : decode cX11_checksum 171 = .ok (.i2l, 1) := by decide +kernel
theorem dX11_checksum_172 : decode cX11_checksum 172 = .ok (.ladd, 1) := by decide +kernel
theorem dX11_checksum_173 : decode cX11_checksum 173 = .ok (.lstore_n 1, 1) := by decide +kernel
theorem dX11_checksum_174 : decode cX11_checksum 174 = .ok (.iinc 4 1, 3) := by decide +kernel
theorem dX11_checksum_177 : decode cX11_checksum 177 = .ok (.goto (-24), 3) := by decide +kernel
theorem dX11_checksum_180 : decode cX11_checksum 180 = .ok (.iinc 3 1, 3) := by decide +kernel
theorem dX11_checksum_183 : decode cX11_checksum 183 = .ok (.goto (-47), 3) := by decide +kernel
theorem dX11_checksum_186 : decode cX11_checksum 186 = .ok (.iconst 0, 1) := by decide +kernel
theorem dX11_checksum_187 : decode cX11_checksum 187 = .ok (.istore_n 3, 1) := by decide +kernel
theorem dX11_checksum_188 : decode cX11_checksum 188 = .ok (.iload_n 3, 1) := by decide +kernel
theorem dX11_checksum_189 : decode cX11_checksum 189 = .ok (.aload_n 0, 1) := by decide +kernel
theorem dX11_checksum_190 : decode cX11_checksum 190 = .ok (.getfield 19, 3) := by decide +kernel
theorem dX11_checksum_193 : decode cX11_checksum 193 = .ok (.getfield 86, 3) := by decide +kernel
theorem dX11_checksum_196 : decode cX11_checksum 196 = .ok (.getfield 90, 3) := by decide +kernel
theorem dX11_checksum_199 : decode cX11_checksum 199 = .ok (.if_icmp .ge 63, 3) := by decide +kernel
theorem dX11_checksum_202 : decode cX11_checksum 202 = .ok (.iconst 0, 1) := by decide +kernel
theorem dX11_checksum_203 : decode cX11_checksum 203 = .ok (.istore 4, 2) := by decide +kernel
theorem dX11_checksum_205 : decode cX11_checksum 205 = .ok (.iload 4, 2) := by decide +kernel
theorem dX11_checksum_207 : decode cX11_checksum 207 = .ok (.aload_n 0, 1) := by decide +kernel
theorem dX11_checksum_208 : decode cX11_checksum 208 = .ok (.getfield 19, 3) := by decide +kernel
theorem dX11_checksum_211 : decode cX11_checksum 211 = .ok (.getfield 93, 3) := by decide +kernel
theorem dX11_checksum_214 : decode cX11_checksum 214 = .ok (.getfield 97, 3) := by decide +kernel
theorem dX11_checksum_217 : decode cX11_checksum 217 = .ok (.if_icmp .ge 39, 3) := by decide +kernel
theorem dX11_checksum_220 : decode cX11_checksum 220 = .ok (.ldc2_w 260, 3) := by decide +kernel
theorem dX11_checksum_223 : decode cX11_checksum 223 = .ok (.lload_n 1, 1) := by decide +kernel
theorem dX11_checksum_224 : decode cX11_checksum 224 = .ok (.lmul, 1) := by decide +kernel
theorem dX11_checksum_225 : decode cX11_checksum 225 = .ok (.aload_n 0, 1) := by decide +kernel
theorem dX11_checksum_226 : decode cX11_checksum 226 = .ok (.iload_n 3, 1) := by decide +kernel
theorem dX11_checksum_227 : decode cX11_checksum 227 = .ok (.iload 4, 2) := by decide +kernel
theorem dX11_checksum_229 : decode cX11_checksum 229 = .ok (.invokevirtual 272, 3) := by decide +kernel
theorem dX11_checksum_232 : decode cX11_checksum 232 = .ok (.i2l, 1) := by decide +kernel
theorem dX11_checksum_233 : decode cX11_checksum 233 = .ok (.ladd, 1) := by decide +kernel
theorem dX11_checksum_234 : decode cX11_checksum 234 = .ok (.lstore_n 1, 1) := by decide +kernel
theorem dX11_checksum_235 : decode cX11_checksum 235 = .ok (.ldc2_w 260, 3) := by decide +kernel
theorem dX11_checksum_238 : decode cX11_checksum 238 = .ok (.lload_n 1, 1) := by decide +kernel
theorem dX11_checksum_239 : decode cX11_checksum 239 = .ok (.lmul, 1) := by decide +kernel
theorem dX11_checksum_240 : decode cX11_checksum 240 = .ok (.aload_n 0, 1) := by decide +kernel
theorem dX11_checksum_241 : decode cX11_checksum 241 = .ok (.iload_n 3, 1) := by decide +kernel
theorem dX11_checksum_242 : decode cX11_checksum 242 = .ok (.iload 4, 2) := by decide +kernel
theorem dX11_checksum_244 : decode cX11_checksum 244 = .ok (.invokevirtual 274, 3) := by decide +kernel
theorem dX11_checksum_247 : decode cX11_checksum 247 = .ok (.i2l, 1) := by decide +kernel
theorem dX11_checksum_248 : decode cX11_checksum 248 = .ok (.ladd, 1) := by decide +kernel
theorem dX11_checksum_249 : decode cX11_checksum 249 = .ok (.lstore_n 1, 1) := by decide +kernel
theorem dX11_checksum_250 : decode cX11_checksum 250 = .ok (.iinc 4 1, 3) := by decide +kernel
theorem dX11_checksum_253 : decode cX11_checksum 253 = .ok (.goto (-48), 3) := by decide +kernel
theorem dX11_checksum_256 : decode cX11_checksum 256 = .ok (.iinc 3 1, 3) := by decide +kernel
theorem dX11_checksum_259 : decode cX11_checksum 259 = .ok (.goto (-71), 3) := by decide +kernel
theorem dX11_checksum_262 : decode cX11_checksum 262 = .ok (.lload_n 1, 1) := by decide +kernel
theorem dX11_checksum_263 : decode cX11_checksum 263 = .ok (.lreturn, 1) := by decide +kernel
theorem dX11_checkGate_0 : decode cX11_checkGate 0 = .ok (.iload_n 1, 1) := by decide +kernel
theorem dX11_checkGate_1 : decode cX11_checkGate 1 = .ok (.ifCond .lt 17, 3) := by decide +kernel
theorem dX11_checkGate_4 : decode cX11_checkGate 4 = .ok (.iload_n 1, 1) := by decide +kernel
theorem dX11_checkGate_5 : decode cX11_checkGate 5 = .ok (.aload_n 0, 1) := by decide +kernel
theorem dX11_checkGate_6 : decode cX11_checkGate 6 = .ok (.getfield 19, 3) := by decide +kernel
theorem dX11_checkGate_9 : decode cX11_checkGate 9 = .ok (.getfield 86, 3) := by decide +kernel
theorem dX11_checkGate_12 : decode cX11_checkGate 12 = .ok (.getfield 90, 3) := by decide +kernel
theorem dX11_checkGate_15 : decode cX11_checkGate 15 = .ok (.if_icmp .lt 14, 3) := by decide +kernel
theorem dX11_checkGate_18 : decode cX11_checkGate 18 = .ok (.new 277, 3) := by decide +kernel
theorem dX11_checkGate_21 : decode cX11_checkGate 21 = .ok (.dup, 1) := by decide +kernel
theorem dX11_checkGate_22 : decode cX11_checkGate 22 = .ok (.ldc_w 279, 3) := by decide +kernel
theorem dX11_checkGate_25 : decode cX11_checkGate 25 = .ok (.invokespecial 281, 3) := by decide +kernel
theorem dX11_checkGate_28 : decode cX11_checkGate 28 = .ok (.athrow, 1) := by decide +kernel
theorem dX11_checkGate_29 : decode cX11_checkGate 29 = .ok (.return_, 1) := by decide +kernel
theorem dX11_checkFlow_0 : decode cX11_checkFlow 0 = .ok (.iload_n 1, 1) := by decide +kernel
theorem dX11_checkFlow_1 : decode cX11_checkFlow 1 = .ok (.ifCond .lt 17, 3) := by decide +kernel
theorem dX11_checkFlow_4 : decode cX11_checkFlow 4 = .ok (.iload_n 1, 1) := by decide +kernel
theorem dX11_checkFlow_5 : decode cX11_checkFlow 5 = .ok (.aload_n 0, 1) := by decide +kernel
theorem dX11_checkFlow_6 : decode cX11_checkFlow 6 = .ok (.getfield 19, 3) := by decide +kernel
theorem dX11_checkFlow_9 : decode cX11_checkFlow 9 = .ok (.getfield 93, 3) := by decide +kernel
theorem dX11_checkFlow_12 : decode cX11_checkFlow 12 = .ok (.getfield 97, 3) := by decide +kernel
theorem dX11_checkFlow_15 : decode cX11_checkFlow 15 = .ok (.if_icmp .lt 14, 3) := by decide +kernel
theorem dX11_checkFlow_18 : decode cX11_checkFlow 18 = .ok (.new 277, 3) := by decide +kernel
theorem dX11_checkFlow_21 : decode cX11_checkFlow 21 = .ok (.dup, 1) := by decide +kernel
theorem dX11_checkFlow_22 : decode cX11_checkFlow 22 = .ok (.ldc_w 282, 3) := by decide +kernel
theorem dX11_checkFlow_25 : decode cX11_checkFlow 25 = .ok (.invokespecial 281, 3) := by decide +kernel
theorem dX11_checkFlow_28 : decode cX11_checkFlow 28 = .ok (.athrow, 1) := by decide +kernel
theorem dX11_checkFlow_29 : decode cX11_checkFlow 29 = .ok (.return_, 1) := by decide +kernel
theorem dX11_checkPacket_0 : decode cX11_checkPacket 0 = .ok (.iload_n 1, 1) := by decide +kernel
theorem dX11_checkPacket_1 : decode cX11_checkPacket 1 = .ok (.ifCond .lt 17, 3) := by decide +kernel
theorem dX11_checkPacket_4 : decode cX11_checkPacket 4 = .ok (.iload_n 1, 1) := by decide +kernel
theorem dX11_checkPacket_5 : decode cX11_checkPacket 5 = .ok (.aload_n 0, 1) := by decide +kernel
theorem dX11_checkPacket_6 : decode cX11_checkPacket 6 = .ok (.getfield 19, 3) := by decide +kernel
theorem dX11_checkPacket_9 : decode cX11_checkPacket 9 = .ok (.getfield 74, 3) := by decide +kernel
theorem dX11_checkPacket_12 : decode cX11_checkPacket 12 = .ok (.getfield 78, 3) := by decide +kernel
theorem dX11_checkPacket_15 : decode cX11_checkPacket 15 = .ok (.if_icmp .lt 14, 3) := by decide +kernel
theorem dX11_checkPacket_18 : decode cX11_checkPacket 18 = .ok (.new 277, 3) := by decide +kernel
theorem dX11_checkPacket_21 : decode cX11_checkPacket 21 = .ok (.dup, 1) := by decide +kernel
theorem dX11_checkPacket_22 : decode cX11_checkPacket 22 = .ok (.ldc_w 283, 3) := by decide +kernel
theorem dX11_checkPacket_25 : decode cX11_checkPacket 25 = .ok (.invokespecial 281, 3) := by decide +kernel
theorem dX11_checkPacket_28 : decode cX11_checkPacket 28 = .ok (.athrow, 1) := by decide +kernel
theorem dX11_checkPacket_29 : decode cX11_checkPacket 29 = .ok (.return_, 1) := by decide +kernel
theorem dX11_checkCoupon_0 : decode cX11_checkCoupon 0 = .ok (.iload_n 1, 1) := by decide +kernel
theorem dX11_checkCoupon_1 : decode cX11_checkCoupon 1 = .ok (.ifCond .lt 17, 3) := by decide +kernel
theorem dX11_checkCoupon_4 : decode cX11_checkCoupon 4 = .ok (.iload_n 1, 1) := by decide +kernel
theorem dX11_checkCoupon_5 : decode cX11_checkCoupon 5 = .ok (.aload_n 0, 1) := by decide +kernel
theorem dX11_checkCoupon_6 : decode cX11_checkCoupon 6 = .ok (.getfield 19, 3) := by decide +kernel
theorem dX11_checkCoupon_9 : decode cX11_checkCoupon 9 = .ok (.getfield 100, 3) := by decide +kernel
theorem dX11_checkCoupon_12 : decode cX11_checkCoupon 12 = .ok (.getfield 104, 3) := by decide +kernel
theorem dX11_checkCoupon_15 : decode cX11_checkCoupon 15 = .ok (.if_icmp .lt 14, 3) := by decide +kernel
theorem dX11_checkCoupon_18 : decode cX11_checkCoupon 18 = .ok (.new 277, 3) := by decide +kernel
theorem dX11_checkCoupon_21 : decode cX11_checkCoupon 21 = .ok (.dup, 1) := by decide +kernel
theorem dX11_checkCoupon_22 : decode cX11_checkCoupon 22 = .ok (.ldc_w 284, 3) := by decide +kernel
theorem dX11_checkCoupon_25 : decode cX11_checkCoupon 25 = .ok (.invokespecial 281, 3) := by decide +kernel
theorem dX11_checkCoupon_28 : decode cX11_checkCoupon 28 = .ok (.athrow, 1) := by decide +kernel
theorem dX11_checkCoupon_29 : decode cX11_checkCoupon 29 = .ok (.return_, 1) := by decide +kernel
theorem dX11_checkRange_0 : decode cX11_checkRange 0 = .ok (.iload_n 1, 1) := by decide +kernel
theorem dX11_checkRange_1 : decode cX11_checkRange 1 = .ok (.iload_n 2, 1) := by decide +kernel
theorem dX11_checkRange_2 : decode cX11_checkRange 2 = .ok (.if_icmp .lt 8, 3) := by decide +kernel
theorem dX11_checkRange_5 : decode cX11_checkRange 5 = .ok (.iload_n 1, 1) := by decide +kernel
theorem dX11_checkRange_6 : decode cX11_checkRange 6 = .ok (.iload_n 3, 1) := by decide +kernel
theorem dX11_checkRange_7 : decode cX11_checkRange 7 = .ok (.if_icmp .le 14, 3) := by decide +kernel
theorem dX11_checkRange_10 : decode cX11_checkRange 10 = .ok (.new 50, 3) := by decide +kernel
theorem dX11_checkRange_13 : decode cX11_checkRange 13 = .ok (.dup, 1) := by decide +kernel
theorem dX11_checkRange_14 : decode cX11_checkRange 14 = .ok (.ldc_w 285, 3) := by decide +kernel
theorem dX11_checkRange_17 : decode cX11_checkRange 17 = .ok (.invokespecial 54, 3) := by decide +kernel
theorem dX11_checkRange_20 : decode cX11_checkRange 20 = .ok (.athrow, 1) := by decide +kernel
theorem dX11_checkRange_21 : decode cX11_checkRange 21 = .ok (.return_, 1) := by decide +kernel
theorem dX11_copyRow_0 : decode cX11_copyRow 0 = .ok (.iload_n 2, 1) := by decide +kernel
theorem dX11_copyRow_1 : decode cX11_copyRow 1 = .ok (.ifCond .le 23, 3) := by decide +kernel
theorem dX11_copyRow_4 : decode cX11_copyRow 4 = .ok (.iload_n 2, 1) := by decide +kernel
theorem dX11_copyRow_5 : decode cX11_copyRow 5 = .ok (.aload_n 0, 1) := by decide +kernel
theorem dX11_copyRow_6 : decode cX11_copyRow 6 = .ok (.arraylength, 1) := by decide +kernel
theorem dX11_copyRow_7 : decode cX11_copyRow 7 = .ok (.if_icmp .gt 17, 3) := by decide +kernel
theorem dX11_copyRow_10 : decode cX11_copyRow 10 = .ok (.iload_n 2, 1) := by decide +kernel
theorem dX11_copyRow_11 : decode cX11_copyRow 11 = .ok (.aload_n 1, 1) := by decide +kernel
theorem dX11_copyRow_12 : decode cX11_copyRow 12 = .ok (.arraylength, 1) := by decide +kernel
theorem dX11_copyRow_13 : decode cX11_copyRow 13 = .ok (.if_icmp .gt 11, 3) := by decide +kernel
theorem dX11_copyRow_16 : decode cX11_copyRow 16 = .ok (.aload_n 0, 1) := by decide +kernel
theorem dX11_copyRow_17 : decode cX11_copyRow 17 = .ok (.iconst 0, 1) := by decide +kernel
theorem dX11_copyRow_18 : decode cX11_copyRow 18 = .ok (.aload_n 1, 1) := by decide +kernel
theorem dX11_copyRow_19 : decode cX11_copyRow 19 = .ok (.iconst 0, 1) := by decide +kernel
theorem dX11_copyRow_20 : decode cX11_copyRow 20 = .ok (.iload_n 2, 1) := by decide +kernel
theorem dX11_copyRow_21 : decode cX11_copyRow 21 = .ok (.invokestatic 287, 3) := by decide +kernel
theorem dX11_copyRow_24 : decode cX11_copyRow 24 = .ok (.return_, 1) := by decide +kernel
