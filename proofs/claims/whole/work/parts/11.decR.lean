/-! DECODE ROWS (rows of claim/NAMES.whole.lean.txt) -/
theorem dX12_init_0 : decode cX12_init 0 = .ok (.aload_n 0, 1) := by decide +kernel
theorem dX12_init_1 : decode cX12_init 1 = .ok (.invokespecial 3, 3) := by decide +kernel
theorem dX12_init_4 : decode cX12_init 4 = .ok (.aload_n 0, 1) := by decide +kernel
theorem dX12_init_5 : decode cX12_init 5 = .ok (.sipush 700, 3) := by decide +kernel
theorem dX12_init_8 : decode cX12_init 8 = .ok (.newarray .int, 2) := by decide +kernel
theorem dX12_init_10 : decode cX12_init 10 = .ok (.putfield 9, 3) := by decide +kernel
theorem dX12_init_13 : decode cX12_init 13 = .ok (.aload_n 0, 1) := by decide +kernel
theorem dX12_init_14 : decode cX12_init 14 = .ok (.iconst (-1), 1) := by decide +kernel
theorem dX12_init_15 : decode cX12_init 15 = .ok (.putfield 13, 3) := by decide +kernel
theorem dX12_init_18 : decode cX12_init 18 = .ok (.aload_n 0, 1) := by decide +kernel
theorem dX12_init_19 : decode cX12_init 19 = .ok (.sipush 2105, 3) := by decide +kernel
theorem dX12_init_22 : decode cX12_init 22 = .ok (.newarray .int, 2) := by decide +kernel
theorem dX12_init_24 : decode cX12_init 24 = .ok (.putfield 17, 3) := by decide +kernel
theorem dX12_init_27 : decode cX12_init 27 = .ok (.aload_n 0, 1) := by decide +kernel
theorem dX12_init_28 : decode cX12_init 28 = .ok (.sipush 2105, 3) := by decide +kernel
theorem dX12_init_31 : decode cX12_init 31 = .ok (.newarray .int, 2) := by decide +kernel
theorem dX12_init_33 : decode cX12_init 33 = .ok (.putfield 20, 3) := by decide +kernel
theorem dX12_init_36 : decode cX12_init 36 = .ok (.aload_n 0, 1) := by decide +kernel
theorem dX12_init_37 : decode cX12_init 37 = .ok (.sipush 905, 3) := by decide +kernel
theorem dX12_init_40 : decode cX12_init 40 = .ok (.newarray .int, 2) := by decide +kernel
theorem dX12_init_42 : decode cX12_init 42 = .ok (.putfield 23, 3) := by decide +kernel
theorem dX12_init_45 : decode cX12_init 45 = .ok (.aload_n 0, 1) := by decide +kernel
theorem dX12_init_46 : decode cX12_init 46 = .ok (.sipush 905, 3) := by decide +kernel
theorem dX12_init_49 : decode cX12_init 49 = .ok (.newarray .int, 2) := by decide +kernel
theorem dX12_init_51 : decode cX12_init 51 = .ok (.putfield 26, 3) := by decide +kernel
theorem dX12_init_54 : decode cX12_init 54 = .ok (.aload_n 0, 1) := by decide +kernel
theorem dX12_init_55 : decode cX12_init 55 = .ok (.bipush 8, 2) := by decide +kernel
theorem dX12_init_57 : decode cX12_init 57 = .ok (.sipush 2105, 3) := by decide +kernel
theorem dX12_init_60 : decode cX12_init 60 = .ok (.multianewarray 29 2, 4) := by decide +kernel
theorem dX12_init_64 : decode cX12_init 64 = .ok (.putfield 31, 3) := by decide +kernel
theorem dX12_init_67 : decode cX12_init 67 = .ok (.aload_n 0, 1) := by decide +kernel
theorem dX12_init_68 : decode cX12_init 68 = .ok (.sipush 1200, 3) := by decide +kernel
theorem dX12_init_71 : decode cX12_init 71 = .ok (.newarray .long, 2) := by decide +kernel
theorem dX12_init_73 : decode cX12_init 73 = .ok (.putfield 34, 3) := by decide +kernel
theorem dX12_init_76 : decode cX12_init 76 = .ok (.aload_n 0, 1) := by decide +kernel
theorem dX12_init_77 : decode cX12_init 77 = .ok (.getfield 17, 3) := by decide +kernel
theorem dX12_init_80 : decode cX12_init 80 = .ok (.invokestatic 38, 3) := by decide +kernel
theorem dX12_init_83 : decode cX12_init 83 = .ok (.return_, 1) := by decide +kernel
theorem dX12_thrown_0 : decode cX12_thrown 0 = .ok (.aload_n 0, 1) := by decide +kernel
theorem dX12_thrown_1 : decode cX12_thrown 1 = .ok (.getfield 42, 3) := by decide +kernel
theorem dX12_thrown_4 : decode cX12_thrown 4 = .ok (.ireturn, 1) := by decide +kernel
theorem dX12_fails_0 : decode cX12_fails 0 = .ok (.iload_n 1, 1) := by decide +kernel
theorem dX12_fails_1 : decode cX12_fails 1 = .ok (.ifCond .eq 15, 3) := by decide +kernel
theorem dX12_fails_4 : decode cX12_fails 4 = .ok (.aload_n 0, 1) := by decide +kernel
theorem dX12_fails_5 : decode cX12_fails 5 = .ok (.getfield 42, 3) := by decide +kernel
theorem dX12_fails_8 : decode cX12_fails 8 = .ok (.ifCond .ne 8, 3) := by decide +kernel
theorem dX12_fails_11 : decode cX12_fails 11 = .ok (.aload_n 0, 1) := by decide +kernel
theorem dX12_fails_12 : decode cX12_fails 12 = .ok (.iload_n 2, 1) := by decide +kernel
theorem dX12_fails_13 : decode cX12_fails 13 = .ok (.putfield 42, 3) := by decide +kernel
theorem dX12_fails_16 : decode cX12_fails 16 = .ok (.aload_n 0, 1) := by decide +kernel
theorem dX12_fails_17 : decode cX12_fails 17 = .ok (.getfield 42, 3) := by decide +kernel
theorem dX12_fails_20 : decode cX12_fails 20 = .ok (.ifCond .eq 7, 3) := by decide +kernel
theorem dX12_fails_23 : decode cX12_fails 23 = .ok (.iconst 1, 1) := by decide +kernel
theorem dX12_fails_24 : decode cX12_fails 24 = .ok (.goto 4, 3) := by decide +kernel
theorem dX12_fails_27 : decode cX12_fails 27 = .ok (.iconst 0, 1) := by decide +kernel
theorem dX12_fails_28 : decode cX12_fails 28 = .ok (.ireturn, 1) := by decide +kernel
theorem dX12_in_0 : decode cX12_in 0 = .ok (.iload_n 0, 1) := by decide +kernel
theorem dX12_in_1 : decode cX12_in 1 = .ok (.iload_n 1, 1) := by decide +kernel
theorem dX12_in_2 : decode cX12_in 2 = .ok (.if_icmp .lt 12, 3) := by decide +kernel
theorem dX12_in_5 : decode cX12_in 5 = .ok (.iload_n 0, 1) := by decide +kernel
theorem dX12_in_6 : decode cX12_in 6 = .ok (.iload_n 2, 1) := by decide +kernel
theorem dX12_in_7 : decode cX12_in 7 = .ok (.if_icmp .gt 7, 3) := by decide +kernel
theorem dX12_in_10 : decode cX12_in 10 = .ok (.iconst 1, 1) := by decide +kernel
theorem dX12_in_11 : decode cX12_in 11 = .ok (.goto 4, 3) := by decide +kernel
theorem dX12_in_14 : decode cX12_in 14 = .ok (.iconst 0, 1) := by decide +kernel
theorem dX12_in_15 : decode cX12_in 15 = .ok (.ireturn, 1) := by decide +kernel
theorem dX12_min_0 : decode cX12_min 0 = .ok (.iload_n 0, 1) := by decide +kernel
theorem dX12_min_1 : decode cX12_min 1 = .ok (.iload_n 1, 1) := by decide +kernel
theorem dX12_min_2 : decode cX12_min 2 = .ok (.if_icmp .ge 7, 3) := by decide +kernel
theorem dX12_min_5 : decode cX12_min 5 = .ok (.iload_n 0, 1) := by decide +kernel
theorem dX12_min_6 : decode cX12_min 6 = .ok (.goto 4, 3) := by decide +kernel
theorem dX12_min_9 : decode cX12_min 9 = .ok (.iload_n 1, 1) := by decide +kernel
theorem dX12_min_10 : decode cX12_min 10 = .ok (.ireturn, 1) := by decide +kernel
theorem dX12_copy_0 : decode cX12_copy 0 = .ok (.iconst 0, 1) := by decide +kernel
theorem dX12_copy_1 : decode cX12_copy 1 = .ok (.istore_n 3, 1) := by decide +kernel
theorem dX12_copy_2 : decode cX12_copy 2 = .ok (.iload_n 3, 1) := by decide +kernel
theorem dX12_copy_3 : decode cX12_copy 3 = .ok (.iload_n 2, 1) := by decide +kernel
theorem dX12_copy_4 : decode cX12_copy 4 = .ok (.if_icmp .ge 15, 3) := by decide +kernel
theorem dX12_copy_7 : decode cX12_copy 7 = .ok (.aload_n 1, 1) := by decide +kernel
theorem dX12_copy_8 : decode cX12_copy 8 = .ok (.iload_n 3, 1) := by decide +kernel
theorem dX12_copy_9 : decode cX12_copy 9 = .ok (.aload_n 0, 1) := by decide +kernel
theorem dX12_copy_10 : decode cX12_copy 10 = .ok (.iload_n 3, 1) := by decide +kernel
theorem dX12_copy_11 : decode cX12_copy 11 = .ok (.iaload, 1) := by decide +kernel
theorem dX12_copy_12 : decode cX12_copy 12 = .ok (.iastore, 1) := by decide +kernel
theorem dX12_copy_13 : decode cX12_copy 13 = .ok (.iinc 3 1, 3) := by decide +kernel
theorem dX12_copy_16 : decode cX12_copy 16 = .ok (.goto (-14), 3) := by decide +kernel
theorem dX12_copy_19 : decode cX12_copy 19 = .ok (.return_, 1) := by decide +kernel
theorem dX12_layUsual_0 : decode cX12_layUsual 0 = .ok (.iconst 0, 1) := by decide +kernel
theorem dX12_layUsual_1 : decode cX12_layUsual 1 = .ok (.istore_n 1, 1) := by decide +kernel
theorem dX12_layUsual_2 : decode cX12_layUsual 2 = .ok (.iload_n 1, 1) := by decide +kernel
theorem dX12_layUsual_3 : decode cX12_layUsual 3 = .ok (.sipush 2105, 3) := by decide +kernel
theorem dX12_layUsual_6 : decode cX12_layUsual 6 = .ok (.if_icmp .ge 13, 3) := by decide +kernel
theorem dX12_layUsual_9 : decode cX12_layUsual 9 = .ok (.aload_n 0, 1) := by decide +kernel
theorem dX12_layUsual_10 : decode cX12_layUsual 10 = .ok (.iload_n 1, 1) := by decide +kernel
theorem dX12_layUsual_11 : decode cX12_layUsual 11 = .ok (.iconst 0, 1) := by decide +kernel
theorem dX12_layUsual_12 : decode cX12_layUsual 12 = .ok (.iastore, 1) := by decide +kernel
theorem dX12_layUsual_13 : decode cX12_layUsual 13 = .ok (.iinc 1 1, 3) := by decide +kernel
theorem dX12_layUsual_16 : decode cX12_layUsual 16 = .ok (.goto (-14), 3) := by decide +kernel
theorem dX12_layUsual_19 : decode cX12_layUsual 19 = .ok (.aload_n 0, 1) := by decide +kernel
theorem dX12_layUsual_20 : decode cX12_layUsual 20 = .ok (.bipush 9, 2) := by decide +kernel
theorem dX12_layUsual_22 : decode cX12_layUsual 22 = .ok (.iconst 1, 1) := by decide +kernel
theorem dX12_layUsual_23 : decode cX12_layUsual 23 = .ok (.iastore, 1) := by decide +kernel
theorem dX12_layUsual_24 : decode cX12_layUsual 24 = .ok (.aload_n 0, 1) := by decide +kernel
theorem dX12_layUsual_25 : decode cX12_layUsual 25 = .ok (.bipush 10, 2) := by decide +kernel
theorem dX12_layUsual_27 : decode cX12_layUsual 27 = .ok (.bipush 50, 2) := by decide +kernel
theorem dX12_layUsual_29 : decode cX12_layUsual 29 = .ok (.iastore, 1) := by decide +kernel
theorem dX12_layUsual_30 : decode cX12_layUsual 30 = .ok (.aload_n 0, 1) := by decide +kernel
theorem dX12_layUsual_31 : decode cX12_layUsual 31 = .ok (.bipush 11, 2) := by decide +kernel
theorem dX12_layUsual_33 : decode cX12_layUsual 33 = .ok (.bipush 10, 2) := by decide +kernel
theorem dX12_layUsual_35 : decode cX12_layUsual 35 = .ok (.iastore, 1) := by decide +kernel
theorem dX12_layUsual_36 : decode cX12_layUsual 36 = .ok (.return_, 1) := by decide +kernel
theorem dX12_append_0 : decode cX12_append 0 = .ok (.aload_n 0, 1) := by decide +kernel
theorem dX12_append_1 : decode cX12_append 1 = .ok (.iconst 0, 1) := by decide +kernel
theorem dX12_append_2 : decode cX12_append 2 = .ok (.putfield 42, 3) := by decide +kernel
theorem dX12_append_5 : decode cX12_append 5 = .ok (.aload_n 0, 1) := by decide +kernel
theorem dX12_append_6 : decode cX12_append 6 = .ok (.getfield 45, 3) := by decide +kernel
theorem dX12_append_9 : decode cX12_append 9 = .ok (.bipush 20, 2) := by decide +kernel
theorem dX12_append_11 : decode cX12_append 11 = .ok (.iadd, 1) := by decide +kernel
theorem dX12_append_12 : decode cX12_append 12 = .ok (.sipush 700, 3) := by decide +kernel
theorem dX12_append_15 : decode cX12_append 15 = .ok (.if_icmp .le 5, 3) := by decide +kernel
theorem dX12_append_18 : decode cX12_append 18 = .ok (.iconst (-1), 1) := by decide +kernel
theorem dX12_append_19 : decode cX12_append 19 = .ok (.ireturn, 1) := by decide +kernel
theorem dX12_append_20 : decode cX12_append 20 = .ok (.iconst 0, 1) := by decide +kernel
theorem dX12_append_21 : decode cX12_append 21 = .ok (.istore 6, 2) := by decide +kernel
theorem dX12_append_23 : decode cX12_append 23 = .ok (.iload 6, 2) := by decide +kernel
theorem dX12_append_25 : decode cX12_append 25 = .ok (.bipush 20, 2) := by decide +kernel
theorem dX12_append_27 : decode cX12_append 27 = .ok (.if_icmp .ge 93, 3) := by decide +kernel
theorem dX12_append_30 : decode cX12_append 30 = .ok (.iload 6, 2) := by decide +kernel
theorem dX12_append_32 : decode cX12_append 32 = .ok (.iconst 4, 1) := by decide +kernel
theorem dX12_append_33 : decode cX12_append 33 = .ok (.if_icmp .ge 7, 3) := by decide +kernel
theorem dX12_append_36 : decode cX12_append 36 = .ok (.iload_n 1, 1) := by decide +kernel
theorem dX12_append_37 : decode cX12_append 37 = .ok (.goto 39, 3) := by decide +kernel
theorem dX12_append_40 : decode cX12_append 40 = .ok (.iload 6, 2) := by decide +kernel
theorem dX12_append_42 : decode cX12_append 42 = .ok (.bipush 8, 2) := by decide +kernel
theorem dX12_append_44 : decode cX12_append 44 = .ok (.if_icmp .ge 7, 3) := by decide +kernel
theorem dX12_append_47 : decode cX12_append 47 = .ok (.iload_n 2, 1) := by decide +kernel
theorem dX12_append_48 : decode cX12_append 48 = .ok (.goto 28, 3) := by decide +kernel
theorem dX12_append_51 : decode cX12_append 51 = .ok (.iload 6, 2) := by decide +kernel
theorem dX12_append_53 : decode cX12_append 53 = .ok (.bipush 12, 2) := by decide +kernel
theorem dX12_append_55 : decode cX12_append 55 = .ok (.if_icmp .ge 7, 3) := by decide +kernel
theorem dX12_append_58 : decode cX12_append 58 = .ok (.iload_n 3, 1) := by decide +kernel
theorem dX12_append_59 : decode cX12_append 59 = .ok (.goto 17, 3) := by decide +kernel
theorem dX12_append_62 : decode cX12_append 62 = .ok (.iload 6, 2) := by decide +kernel
theorem dX12_append_64 : decode cX12_append 64 = .ok (.bipush 16, 2) := by decide +kernel
theorem dX12_append_66 : decode cX12_append 66 = .ok (.if_icmp .ge 8, 3) := by decide +kernel
theorem dX12_append_69 : decode cX12_append 69 = .ok (.iload 4, 2) := by decide +kernel
theorem dX12_append_71 : decode cX12_append 71 = .ok (.goto 5, 3) := by decide +kernel
theorem dX12_append_74 : decode cX12_append 74 = .ok (.iload 5, 2) := by decide +kernel
theorem dX12_append_76 : decode cX12_append 76 = .ok (.istore 7, 2) := by decide +kernel
theorem dX12_append_78 : decode cX12_append 78 = .ok (.aload_n 0, 1) := by decide +kernel
theorem dX12_append_79 : decode cX12_append 79 = .ok (.getfield 9, 3) := by decide +kernel
theorem dX12_append_82 : decode cX12_append 82 = .ok (.aload_n 0, 1) := by decide +kernel
theorem dX12_append_83 : decode cX12_append 83 = .ok (.getfield 45, 3) := by decide +kernel
theorem dX12_append_86 : decode cX12_append 86 = .ok (.iload 7, 2) := by decide +kernel
theorem dX12_append_88 : decode cX12_append 88 = .ok (.bipush 24, 2) := by decide +kernel
theorem dX12_append_90 : decode cX12_append 90 = .ok (.bipush 8, 2) := by decide +kernel
theorem dX12_append_92 : decode cX12_append 92 = .ok (.iload 6, 2) := by decide +kernel
theorem dX12_append_94 : decode cX12_append 94 = .ok (.iconst 4, 1) := by decide +kernel
theorem dX12_append_95 : decode cX12_append 95 = .ok (.irem, 1) := by decide +kernel
theorem dX12_append_96 : decode cX12_append 96 = .ok (.imul, 1) := by decide +kernel
theorem dX12_append_97 : decode cX12_append 97 = .ok (.isub, 1) := by decide +kernel
theorem dX12_append_98 : decode cX12_append 98 = .ok (.ishr, 1) := by decide +kernel
theorem dX12_append_99 : decode cX12_append 99 = .ok (.sipush 255, 3) := by decide +kernel
theorem dX12_append_102 : decode cX12_append 102 = .ok (.iand, 1) := by decide +kernel
theorem dX12_append_103 : decode cX12_append 103 = .ok (.iastore, 1) := by decide +kernel
theorem dX12_append_104 : decode cX12_append 104 = .ok (.aload_n 0, 1) := by decide +kernel
theorem dX12_append_105 : decode cX12_append 105 = .ok (.dup, 1) := by decide +kernel
theorem dX12_append_106 : decode cX12_append 106 = .ok (.getfield 45, 3) := by decide +kernel
theorem dX12_append_109 : decode cX12_append 109 = .ok (.iconst 1, 1) := by decide +kernel
theorem dX12_append_110 : decode cX12_append 110 = .ok (.iadd, 1) := by decide +kernel
theorem dX12_append_111 : decode cX12_append 111 = .ok (.putfield 45, 3) := by decide +kernel
theorem dX12_append_114 : decode cX12_append 114 = .ok (.iinc 6 1, 3) := by decide +kernel
theorem dX12_append_117 : decode cX12_append 117 = .ok (.goto (-94), 3) := by decide +kernel
theorem dX12_append_120 : decode cX12_append 120 = .ok (.aload_n 0, 1) := by decide +kernel
theorem dX12_append_121 : decode cX12_append 121 = .ok (.getfield 45, 3) := by decide +kernel
theorem dX12_append_124 : decode cX12_append 124 = .ok (.ireturn, 1) := by decide +kernel
theorem dX12_byteAt_0 : decode cX12_byteAt 0 = .ok (.iload_n 1, 1) := by decide +kernel
theorem dX12_byteAt_1 : decode cX12_byteAt 1 = .ok (.aload_n 0, 1) := by decide +kernel
theorem dX12_byteAt_2 : decode cX12_byteAt 2 = .ok (.getfield 48, 3) := by decide +kernel
theorem dX12_byteAt_5 : decode cX12_byteAt 5 = .ok (.if_icmp .ge 12, 3) := by decide +kernel
theorem dX12_byteAt_8 : decode cX12_byteAt 8 = .ok (.aload_n 0, 1) := by decide +kernel
theorem dX12_byteAt_9 : decode cX12_byteAt 9 = .ok (.getfield 9, 3) := by decide +kernel
theorem dX12_byteAt_12 : decode cX12_byteAt 12 = .ok (.iload_n 1, 1) := by decide +kernel
theorem dX12_byteAt_13 : decode cX12_byteAt 13 = .ok (.iaload, 1) := by decide +kernel
theorem dX12_byteAt_14 : decode cX12_byteAt 14 = .ok (.goto 4, 3) := by decide +kernel
theorem dX12_byteAt_17 : decode cX12_byteAt 17 = .ok (.iconst (-1), 1) := by decide +kernel
theorem dX12_byteAt_18 : decode cX12_byteAt 18 = .ok (.ireturn, 1) := by decide +kernel
theorem dX12_next_0 : decode cX12_next 0 = .ok (.aload_n 0, 1) := by decide +kernel
theorem dX12_next_1 : decode cX12_next 1 = .ok (.aload_n 0, 1) := by decide +kernel
theorem dX12_next_2 : decode cX12_next 2 = .ok (.getfield 51, 3) := by decide +kernel
theorem dX12_next_5 : decode cX12_next 5 = .ok (.invokevirtual 54, 3) := by decide +kernel
theorem dX12_next_8 : decode cX12_next 8 = .ok (.bipush 32, 2) := by decide +kernel
theorem dX12_next_10 : decode cX12_next 10 = .ok (.if_icmp .ne 16, 3) := by decide +kernel
theorem dX12_next_13 : decode cX12_next 13 = .ok (.aload_n 0, 1) := by decide +kernel
theorem dX12_next_14 : decode cX12_next 14 = .ok (.dup, 1) := by decide +kernel
theorem dX12_next_15 : decode cX12_next 15 = .ok (.getfield 51, 3) := by decide +kernel
theorem dX12_next_18 : decode cX12_next 18 = .ok (.iconst 1, 1) := by decide +kernel
theorem dX12_next_19 : decode cX12_next 19 = .ok (.iadd, 1) := by decide +kernel
theorem dX12_next_20 : decode cX12_next 20 = .ok (.putfield 51, 3) := by decide +kernel
theorem dX12_next_23 : decode cX12_next 23 = .ok (.goto (-23), 3) := by decide +kernel
theorem dX12_next_26 : decode cX12_next 26 = .ok (.aload_n 0, 1) := by decide +kernel
theorem dX12_next_27 : decode cX12_next 27 = .ok (.aload_n 0, 1) := by decide +kernel
theorem dX12_next_28 : decode cX12_next 28 = .ok (.getfield 51, 3) := by decide +kernel
theorem dX12_next_31 : decode cX12_next 31 = .ok (.invokevirtual 54, 3) := by decide +kernel
theorem dX12_next_34 : decode cX12_next 34 = .ok (.ireturn, 1) := by decide +kernel
theorem dX12_isGood_0 : decode cX12_isGood 0 = .ok (.aload_n 0, 1) := by decide +kernel
theorem dX12_isGood_1 : decode cX12_isGood 1 = .ok (.getfield 58, 3) := by decide +kernel
theorem dX12_isGood_4 : decode cX12_isGood 4 = .ok (.ifCond .ne 7, 3) := by decide +kernel
theorem dX12_isGood_7 : decode cX12_isGood 7 = .ok (.iconst 1, 1) := by decide +kernel
theorem dX12_isGood_8 : decode cX12_isGood 8 = .ok (.goto 4, 3) := by decide +kernel
theorem dX12_isGood_11 : decode cX12_isGood 11 = .ok (.iconst 0, 1) := by decide +kernel
theorem dX12_isGood_12 : decode cX12_isGood 12 = .ok (.ireturn, 1) := by decide +kernel
theorem dX12_report_0 : decode cX12_report 0 = .ok (.aload_n 0, 1) := by decide +kernel
theorem dX12_report_1 : decode cX12_report 1 = .ok (.getfield 58, 3) := by decide +kernel
theorem dX12_report_4 : decode cX12_report 4 = .ok (.ifCond .eq 4, 3) := by decide +kernel
theorem dX12_report_7 : decode cX12_report 7 = .ok (.return_, 1) := by decide +kernel
theorem dX12_report_8 : decode cX12_report 8 = .ok (.aload_n 0, 1) := by decide +kernel
theorem dX12_report_9 : decode cX12_report 9 = .ok (.iload_n 1, 1) := by decide +kernel
theorem dX12_report_10 : decode cX12_report 10 = .ok (.putfield 58, 3) := by decide +kernel
theorem dX12_report_13 : decode cX12_report 13 = .ok (.aload_n 0, 1) := by decide +kernel
theorem dX12_report_14 : decode cX12_report 14 = .ok (.iload_n 2, 1) := by decide +kernel
theorem dX12_report_15 : decode cX12_report 15 = .ok (.putfield 61, 3) := by decide +kernel
theorem dX12_report_18 : decode cX12_report 18 = .ok (.return_, 1) := by decide +kernel
theorem dX12_isDigit_0 : decode cX12_isDigit 0 = .ok (.iload_n 0, 1) := by decide +kernel
theorem dX12_isDigit_1 : decode cX12_isDigit 1 = .ok (.bipush 48, 2) := by decide +kernel
theorem dX12_isDigit_3 : decode cX12_isDigit 3 = .ok (.bipush 57, 2) := by decide +kernel
theorem dX12_isDigit_5 : decode cX12_isDigit 5 = .ok (.invokestatic 64, 3) := by decide +kernel
theorem dX12_isDigit_8 : decode cX12_isDigit 8 = .ok (.ireturn, 1) := by decide +kernel
theorem dX12_takeWord_0 : decode cX12_takeWord 0 = .ok (.aload_n 0, 1) := by decide +kernel
theorem dX12_takeWord_1 : decode cX12_takeWord 1 = .ok (.invokevirtual 68, 3) := by decide +kernel
theorem dX12_takeWord_4 : decode cX12_takeWord 4 = .ok (.ifCond .ne 5, 3) := by decide +kernel
theorem dX12_takeWord_7 : decode cX12_takeWord 7 = .ok (.iconst 0, 1) := by decide +kernel
theorem dX12_takeWord_8 : decode cX12_takeWord 8 = .ok (.ireturn, 1) := by decide +kernel
theorem dX12_takeWord_9 : decode cX12_takeWord 9 = .ok (.aload_n 0, 1) := by decide +kernel
theorem dX12_takeWord_10 : decode cX12_takeWord 10 = .ok (.invokevirtual 72, 3) := by decide +kernel
theorem dX12_takeWord_13 : decode cX12_takeWord 13 = .ok (.pop, 1) := by decide +kernel
theorem dX12_takeWord_14 : decode cX12_takeWord 14 = .ok (.iconst 0, 1) := by decide +kernel
theorem dX12_takeWord_15 : decode cX12_takeWord 15 = .ok (.istore_n 2, 1) := by decide +kernel
theorem dX12_takeWord_16 : decode cX12_takeWord 16 = .ok (.iload_n 2, 1) := by decide +kernel
theorem dX12_takeWord_17 : decode cX12_takeWord 17 = .ok (.aload_n 1, 1) := by decide +kernel
theorem dX12_takeWord_18 : decode cX12_takeWord 18 = .ok (.invokevirtual 76, 3) := by decide +kernel
theorem dX12_takeWord_21 : decode cX12_takeWord 21 = .ok (.if_icmp .ge 27, 3) := by decide +kernel
theorem dX12_takeWord_24 : decode cX12_takeWord 24 = .ok (.aload_n 0, 1) := by decide +kernel
theorem dX12_takeWord_25 : decode cX12_takeWord 25 = .ok (.aload_n 0, 1) := by decide +kernel
theorem dX12_takeWord_26 : decode cX12_takeWord 26 = .ok (.getfield 51, 3) := by decide +kernel
theorem dX12_takeWord_29 : decode cX12_takeWord 29 = .ok (.iload_n 2, 1) := by decide +kernel
theorem dX12_takeWord_30 : decode cX12_takeWord 30 = .ok (.iadd, 1) := by decide +kernel
theorem dX12_takeWord_31 : decode cX12_takeWord 31 = .ok (.invokevirtual 54, 3) := by decide +kernel
theorem dX12_takeWord_34 : decode cX12_takeWord 34 = .ok (.aload_n 1, 1) := by decide +kernel
theorem dX12_takeWord_35 : decode cX12_takeWord 35 = .ok (.iload_n 2, 1) := by decide +kernel
theorem dX12_takeWord_36 : decode cX12_takeWord 36 = .ok (.invokevirtual 81, 3) := by decide +kernel
theorem dX12_takeWord_39 : decode cX12_takeWord 39 = .ok (.if_icmp .ne 9, 3) := by decide +kernel
theorem dX12_takeWord_42 : decode cX12_takeWord 42 = .ok (.iinc 2 1, 3) := by decide +kernel
theorem dX12_takeWord_45 : decode cX12_takeWord 45 = .ok (.goto (-29), 3) := by decide +kernel
theorem dX12_takeWord_48 : decode cX12_takeWord 48 = .ok (.iload_n 2, 1) := by decide +kernel
theorem dX12_takeWord_49 : decode cX12_takeWord 49 = .ok (.aload_n 1, 1) := by decide +kernel
theorem dX12_takeWord_50 : decode cX12_takeWord 50 = .ok (.invokevirtual 76, 3) := by decide +kernel
theorem dX12_takeWord_53 : decode cX12_takeWord 53 = .ok (.if_icmp .lt 23, 3) := by decide +kernel
theorem dX12_takeWord_56 : decode cX12_takeWord 56 = .ok (.aload_n 0, 1) := by decide +kernel
theorem dX12_takeWord_57 : decode cX12_takeWord 57 = .ok (.aload_n 0, 1) := by decide +kernel
theorem dX12_takeWord_58 : decode cX12_takeWord 58 = .ok (.getfield 51, 3) := by decide +kernel
theorem dX12_takeWord_61 : decode cX12_takeWord 61 = .ok (.iload_n 2, 1) := by decide +kernel
theorem dX12_takeWord_62 : decode cX12_takeWord 62 = .ok (.iadd, 1) := by decide +kernel
theorem dX12_takeWord_63 : decode cX12_takeWord 63 = .ok (.invokevirtual 54, 3) := by decide +kernel
theorem dX12_takeWord_66 : decode cX12_takeWord 66 = .ok (.bipush 97, 2) := by decide +kernel
theorem dX12_takeWord_68 : decode cX12_takeWord 68 = .ok (.bipush 122, 2) := by decide +kernel
theorem dX12_takeWord_70 : decode cX12_takeWord 70 = .ok (.invokestatic 64, 3) := by decide +kernel
theorem dX12_takeWord_73 : decode cX12_takeWord 73 = .ok (.ifCond .eq 5, 3) := by decide +kernel
theorem dX12_takeWord_76 : decode cX12_takeWord 76 = .ok (.iconst 0, 1) := by decide +kernel
theorem dX12_takeWord_77 : decode cX12_takeWord 77 = .ok (.ireturn, 1) := by decide +kernel
theorem dX12_takeWord_78 : decode cX12_takeWord 78 = .ok (.aload_n 0, 1) := by decide +kernel
theorem dX12_takeWord_79 : decode cX12_takeWord 79 = .ok (.dup, 1) := by decide +kernel
theorem dX12_takeWord_80 : decode cX12_takeWord 80 = .ok (.getfield 51, 3) := by decide +kernel
theorem dX12_takeWord_83 : decode cX12_takeWord 83 = .ok (.iload_n 2, 1) := by decide +kernel
theorem dX12_takeWord_84 : decode cX12_takeWord 84 = .ok (.iadd, 1) := by decide +kernel
theorem dX12_takeWord_85 : decode cX12_takeWord 85 = .ok (.putfield 51, 3) := by decide +kernel
theorem dX12_takeWord_88 : decode cX12_takeWord 88 = .ok (.iconst 1, 1) := by decide +kernel
theorem dX12_takeWord_89 : decode cX12_takeWord 89 = .ok (.ireturn, 1) := by decide +kernel
theorem dX12_expect_0 : decode cX12_expect 0 = .ok (.aload_n 0, 1) := by decide +kernel
theorem dX12_expect_1 : decode cX12_expect 1 = .ok (.invokevirtual 68, 3) := by decide +kernel
theorem dX12_expect_4 : decode cX12_expect 4 = .ok (.ifCond .ne 4, 3) := by decide +kernel
theorem dX12_expect_7 : decode cX12_expect 7 = .ok (.return_, 1) := by decide +kernel
theorem dX12_expect_8 : decode cX12_expect 8 = .ok (.aload_n 0, 1) := by decide +kernel
theorem dX12_expect_9 : decode cX12_expect 9 = .ok (.invokevirtual 72, 3) := by decide +kernel
theorem dX12_expect_12 : decode cX12_expect 12 = .ok (.iload_n 1, 1) := by decide +kernel
theorem dX12_expect_13 : decode cX12_expect 13 = .ok (.if_icmp .ne 16, 3) := by decide +kernel
theorem dX12_expect_16 : decode cX12_expect 16 = .ok (.aload_n 0, 1) := by decide +kernel
theorem dX12_expect_17 : decode cX12_expect 17 = .ok (.dup, 1) := by decide +kernel
theorem dX12_expect_18 : decode cX12_expect 18 = .ok (.getfield 51, 3) := by decide +kernel
theorem dX12_expect_21 : decode cX12_expect 21 = .ok (.iconst 1, 1) := by decide +kernel
theorem dX12_expect_22 : decode cX12_expect 22 = .ok (.iadd, 1) := by decide +kernel
theorem dX12_expect_23 : decode cX12_expect 23 = .ok (.putfield 51, 3) := by decide +kernel
theorem dX12_expect_26 : decode cX12_expect 26 = .ok (.goto 13, 3) := by decide +kernel
theorem dX12_expect_29 : decode cX12_expect 29 = .ok (.aload_n 0, 1) := by decide +kernel
theorem dX12_expect_30 : decode cX12_expect 30 = .ok (.bipush (-2), 2) := by decide +kernel
theorem dX12_expect_32 : decode cX12_expect 32 = .ok (.aload_n 0, 1) := by decide +kernel
theorem dX12_expect_33 : decode cX12_expect 33 = .ok (.getfield 51, 3) := by decide +kernel
theorem dX12_expect_36 : decode cX12_expect 36 = .ok (.invokevirtual 85, 3) := by decide +kernel
theorem dX12_expect_39 : decode cX12_expect 39 = .ok (.return_, 1) := by decide +kernel
theorem dX12_number_0 : decode cX12_number 0 = .ok (.aload_n 0, 1) := by decide +kernel
theorem dX12_number_1 : decode cX12_number 1 = .ok (.invokevirtual 68, 3) := by decide +kernel
theorem dX12_number_4 : decode cX12_number 4 = .ok (.ifCond .ne 5, 3) := by decide +kernel
theorem dX12_number_7 : decode cX12_number 7 = .ok (.iconst 0, 1) := by decide +kernel
theorem dX12_number_8 : decode cX12_number 8 = .ok (.ireturn, 1) := by decide +kernel
theorem dX12_number_9 : decode cX12_number 9 = .ok (.aload_n 0, 1) := by decide +kernel
theorem dX12_number_10 : decode cX12_number 10 = .ok (.invokevirtual 72, 3) := by decide +kernel
theorem dX12_number_13 : decode cX12_number 13 = .ok (.invokestatic 89, 3) := by decide +kernel
theorem dX12_number_16 : decode cX12_number 16 = .ok (.ifCond .ne 15, 3) := by decide +kernel
theorem dX12_number_19 : decode cX12_number 19 = .ok (.aload_n 0, 1) := by decide +kernel
theorem dX12_number_20 : decode cX12_number 20 = .ok (.bipush (-2), 2) := by decide +kernel
theorem dX12_number_22 : decode cX12_number 22 = .ok (.aload_n 0, 1) := by decide +kernel
theorem dX12_number_23 : decode cX12_number 23 = .ok (.getfield 51, 3) := by decide +kernel
theorem dX12_number_26 : decode cX12_number 26 = .ok (.invokevirtual 85, 3) := by decide +kernel
theorem dX12_number_29 : decode cX12_number 29 = .ok (.iconst 0, 1) := by decide +kernel
theorem dX12_number_30 : decode cX12_number 30 = .ok (.ireturn, 1) := by decide +kernel
theorem dX12_number_31 : decode cX12_number 31 = .ok (.aload_n 0, 1) := by decide +kernel
theorem dX12_number_32 : decode cX12_number 32 = .ok (.aload_n 0, 1) := by decide +kernel
theorem dX12_number_33 : decode cX12_number 33 = .ok (.getfield 51, 3) := by decide +kernel
theorem dX12_number_36 : decode cX12_number 36 = .ok (.putfield 93, 3) := by decide +kernel
theorem dX12_number_39 : decode cX12_number 39 = .ok (.iconst 0, 1) := by decide +kernel
theorem dX12_number_40 : decode cX12_number 40 = .ok (.istore_n 3, 1) := by decide +kernel
theorem dX12_number_41 : decode cX12_number 41 = .ok (.aload_n 0, 1) := by decide +kernel
theorem dX12_number_42 : decode cX12_number 42 = .ok (.aload_n 0, 1) := by decide +kernel
theorem dX12_number_43 : decode cX12_number 43 = .ok (.getfield 51, 3) := by decide +kernel
theorem dX12_number_46 : decode cX12_number 46 = .ok (.invokevirtual 54, 3) := by decide +kernel
theorem dX12_number_49 : decode cX12_number 49 = .ok (.invokestatic 89, 3) := by decide +kernel
theorem dX12_number_52 : decode cX12_number 52 = .ok (.ifCond .eq 38, 3) := by decide +kernel
theorem dX12_number_55 : decode cX12_number 55 = .ok (.ldc 96, 2) := by decide +kernel
theorem dX12_number_57 : decode cX12_number 57 = .ok (.bipush 10, 2) := by decide +kernel
theorem dX12_number_59 : decode cX12_number 59 = .ok (.iload_n 3, 1) := by decide +kernel
theorem dX12_number_60 : decode cX12_number 60 = .ok (.imul, 1) := by decide +kernel
theorem dX12_number_61 : decode cX12_number 61 = .ok (.aload_n 0, 1) := by decide +kernel
theorem dX12_number_62 : decode cX12_number 62 = .ok (.aload_n 0, 1) := by decide +kernel
theorem dX12_number_63 : decode cX12_number 63 = .ok (.getfield 51, 3) := by decide +kernel
theorem dX12_number_66 : decode cX12_number 66 = .ok (.invokevirtual 54, 3) := by decide +kernel
theorem dX12_number_69 : decode cX12_number 69 = .ok (.iadd, 1) := by decide +kernel
theorem dX12_number_70 : decode cX12_number 70 = .ok (.bipush 48, 2) := by decide +kernel
theorem dX12_number_72 : decode cX12_number 72 = .ok (.isub, 1) := by decide +kernel
theorem dX12_number_73 : decode cX12_number 73 = .ok (.invokestatic 97, 3) := by decide +kernel
theorem dX12_number_76 : decode cX12_number 76 = .ok (.istore_n 3, 1) := by decide +kernel
theorem dX12_number_77 : decode cX12_number 77 = .ok (.aload_n 0, 1) := by decide +kernel
theorem dX12_number_78 : decode cX12_number 78 = .ok (.dup, 1) := by decide +kernel
theorem dX12_number_79 : decode cX12_number 79 = .ok (.getfield 51, 3) := by decide +kernel
theorem dX12_number_82 : decode cX12_number 82 = .ok (.iconst 1, 1) := by decide +kernel
theorem dX12_number_83 : decode cX12_number 83 = .ok (.iadd, 1) := by decide +kernel
theorem dX12_number_84 : decode cX12_number 84 = .ok (.putfield 51, 3) := by decide +kernel
theorem dX12_number_87 : decode cX12_number 87 = .ok (.goto (-46), 3) := by decide +kernel
theorem dX12_number_90 : decode cX12_number 90 = .ok (.iload_n 3, 1) := by decide +kernel
theorem dX12_number_91 : decode cX12_number 91 = .ok (.iload_n 1, 1) := by decide +kernel
theorem dX12_number_92 : decode cX12_number 92 = .ok (.iload_n 2, 1) := by decide +kernel
theorem dX12_number_93 : decode cX12_number 93 = .ok (.invokestatic 64, 3) := by decide +kernel
theorem dX12_number_96 : decode cX12_number 96 = .ok (.ifCond .ne 13, 3) := by decide +kernel
theorem dX12_number_99 : decode cX12_number 99 = .ok (.aload_n 0, 1) := by decide +kernel
theorem dX12_number_100 : decode cX12_number 100 = .ok (.bipush (-3), 2) := by decide +kernel
theorem dX12_number_102 : decode cX12_number 102 = .ok (.aload_n 0, 1) := by decide +kernel
theorem dX12_number_103 : decode cX12_number 103 = .ok (.getfield 93, 3) := by decide +kernel
theorem dX12_number_106 : decode cX12_number 106 = .ok (.invokevirtual 85, 3) := by decide +kernel
theorem dX12_number_109 : decode cX12_number 109 = .ok (.iload_n 3, 1) := by decide +kernel
theorem dX12_number_110 : decode cX12_number 110 = .ok (.ireturn, 1) := by decide +kernel
theorem dX12_emit_0 : decode cX12_emit 0 = .ok (.aload_n 0, 1) := by decide +kernel
theorem dX12_emit_1 : decode cX12_emit 1 = .ok (.invokevirtual 68, 3) := by decide +kernel
theorem dX12_emit_4 : decode cX12_emit 4 = .ok (.ifCond .ne 4, 3) := by decide +kernel
theorem dX12_emit_7 : decode cX12_emit 7 = .ok (.return_, 1) := by decide +kernel
theorem dX12_emit_8 : decode cX12_emit 8 = .ok (.aload_n 0, 1) := by decide +kernel
theorem dX12_emit_9 : decode cX12_emit 9 = .ok (.getfield 20, 3) := by decide +kernel
theorem dX12_emit_12 : decode cX12_emit 12 = .ok (.sipush 905, 3) := by decide +kernel
theorem dX12_emit_15 : decode cX12_emit 15 = .ok (.aload_n 0, 1) := by decide +kernel
theorem dX12_emit_16 : decode cX12_emit 16 = .ok (.getfield 20, 3) := by decide +kernel
theorem dX12_emit_19 : decode cX12_emit 19 = .ok (.bipush 13, 2) := by decide +kernel
theorem dX12_emit_21 : decode cX12_emit 21 = .ok (.iaload, 1) := by decide +kernel
theorem dX12_emit_22 : decode cX12_emit 22 = .ok (.iadd, 1) := by decide +kernel
theorem dX12_emit_23 : decode cX12_emit 23 = .ok (.iload_n 1, 1) := by decide +kernel
theorem dX12_emit_24 : decode cX12_emit 24 = .ok (.iastore, 1) := by decide +kernel
theorem dX12_emit_25 : decode cX12_emit 25 = .ok (.aload_n 0, 1) := by decide +kernel
theorem dX12_emit_26 : decode cX12_emit 26 = .ok (.getfield 20, 3) := by decide +kernel
theorem dX12_emit_29 : decode cX12_emit 29 = .ok (.bipush 13, 2) := by decide +kernel
theorem dX12_emit_31 : decode cX12_emit 31 = .ok (.dup2, 1) := by decide +kernel
theorem dX12_emit_32 : decode cX12_emit 32 = .ok (.iaload, 1) := by decide +kernel
theorem dX12_emit_33 : decode cX12_emit 33 = .ok (.iconst 1, 1) := by decide +kernel
theorem dX12_emit_34 : decode cX12_emit 34 = .ok (.iadd, 1) := by decide +kernel
theorem dX12_emit_35 : decode cX12_emit 35 = .ok (.iastore, 1) := by decide +kernel
theorem dX12_emit_36 : decode cX12_emit 36 = .ok (.return_, 1) := by decide +kernel
theorem dX12_factor_0 : decode cX12_factor 0 = .ok (.aload_n 0, 1) := by decide +kernel
theorem dX12_factor_1 : decode cX12_factor 1 = .ok (.invokevirtual 68, 3) := by decide +kernel
theorem dX12_factor_4 : decode cX12_factor 4 = .ok (.ifCond .ne 4, 3) := by decide +kernel
theorem dX12_factor_7 : decode cX12_factor 7 = .ok (.return_, 1) := by decide +kernel
theorem dX12_factor_8 : decode cX12_factor 8 = .ok (.aload_n 0, 1) := by decide +kernel
theorem dX12_factor_9 : decode cX12_factor 9 = .ok (.invokevirtual 72, 3) := by decide +kernel
theorem dX12_factor_12 : decode cX12_factor 12 = .ok (.istore_n 1, 1) := by decide +kernel
theorem dX12_factor_13 : decode cX12_factor 13 = .ok (.iload_n 1, 1) := by decide +kernel
theorem dX12_factor_14 : decode cX12_factor 14 = .ok (.bipush 40, 2) := by decide +kernel
theorem dX12_factor_16 : decode cX12_factor 16 = .ok (.if_icmp .ne 62, 3) := by decide +kernel
theorem dX12_factor_19 : decode cX12_factor 19 = .ok (.aload_n 0, 1) := by decide +kernel
theorem dX12_factor_20 : decode cX12_factor 20 = .ok (.getfield 101, 3) := by decide +kernel
theorem dX12_factor_23 : decode cX12_factor 23 = .ok (.iconst 4, 1) := by decide +kernel
theorem dX12_factor_24 : decode cX12_factor 24 = .ok (.if_icmp .ne 13, 3) := by decide +kernel
theorem dX12_factor_27 : decode cX12_factor 27 = .ok (.aload_n 0, 1) := by decide +kernel
theorem dX12_factor_28 : decode cX12_factor 28 = .ok (.bipush (-6), 2) := by decide +kernel
theorem dX12_factor_30 : decode cX12_factor 30 = .ok (.aload_n 0, 1) := by decide +kernel
theorem dX12_factor_31 : decode cX12_factor 31 = .ok (.getfield 51, 3) := by decide +kernel
theorem dX12_factor_34 : decode cX12_factor 34 = .ok (.invokevirtual 85, 3) := by decide +kernel
theorem dX12_factor_37 : decode cX12_factor 37 = .ok (.aload_n 0, 1) := by decide +kernel
theorem dX12_factor_38 : decode cX12_factor 38 = .ok (.dup, 1) := by decide +kernel
theorem dX12_factor_39 : decode cX12_factor 39 = .ok (.getfield 51, 3) := by decide +kernel
theorem dX12_factor_42 : decode cX12_factor 42 = .ok (.iconst 1, 1) := by decide +kernel
theorem dX12_factor_43 : decode cX12_factor 43 = .ok (.iadd, 1) := by decide +kernel
theorem dX12_factor_44 : decode cX12_factor 44 = .ok (.putfield 51, 3) := by decide +kernel
theorem dX12_factor_47 : decode cX12_factor 47 = .ok (.aload_n 0, 1) := by decide +kernel
theorem dX12_factor_48 : decode cX12_factor 48 = .ok (.dup, 1) := by decide +kernel
theorem dX12_factor_49 : decode cX12_factor 49 = .ok (.getfield 101, 3) := by decide +kernel
theorem dX12_factor_52 : decode cX12_factor 52 = .ok (.iconst 1, 1) := by decide +kernel
theorem dX12_factor_53 : decode cX12_factor 53 = .ok (.iadd, 1) := by decide +kernel
theorem dX12_factor_54 : decode cX12_factor 54 = .ok (.putfield 101, 3) := by decide +kernel
theorem dX12_factor_57 : decode cX12_factor 57 = .ok (.aload_n 0, 1) := by decide +kernel
theorem dX12_factor_58 : decode cX12_factor 58 = .ok (.invokevirtual 104, 3) := by decide +kernel
theorem dX12_factor_61 : decode cX12_factor 61 = .ok (.aload_n 0, 1) := by decide +kernel
theorem dX12_factor_62 : decode cX12_factor 62 = .ok (.bipush 41, 2) := by decide +kernel
theorem dX12_factor_64 : decode cX12_factor 64 = .ok (.invokevirtual 107, 3) := by decide +kernel
theorem dX12_factor_67 : decode cX12_factor 67 = .ok (.aload_n 0, 1) := by decide +kernel
theorem dX12_factor_68 : decode cX12_factor 68 = .ok (.dup, 1) := by decide +kernel
theorem dX12_factor_69 : decode cX12_factor 69 = .ok (.getfield 101, 3) := by decide +kernel
theorem dX12_factor_72 : decode cX12_factor 72 = .ok (.iconst 1, 1) := by decide +kernel
theorem dX12_factor_73 : decode cX12_factor 73 = .ok (.isub, 1) := by decide +kernel
theorem dX12_factor_74 : decode cX12_factor 74 = .ok (.putfield 101, 3) := by decide +kernel
theorem dX12_factor_77 : decode cX12_factor 77 = .ok (.return_, 1) := by decide +kernel
theorem dX12_factor_78 : decode cX12_factor 78 = .ok (.iload_n 1, 1) := by decide +kernel
theorem dX12_factor_79 : decode cX12_factor 79 = .ok (.invokestatic 89, 3) := by decide +kernel
theorem dX12_factor_82 : decode cX12_factor 82 = .ok (.ifCond .eq 7, 3) := by decide +kernel
theorem dX12_factor_85 : decode cX12_factor 85 = .ok (.iconst (-1), 1) := by decide +kernel
theorem dX12_factor_86 : decode cX12_factor 86 = .ok (.goto 56, 3) := by decide +kernel
theorem dX12_factor_89 : decode cX12_factor 89 = .ok (.aload_n 0, 1) := by decide +kernel
theorem dX12_factor_90 : decode cX12_factor 90 = .ok (.ldc 111, 2) := by decide +kernel
theorem dX12_factor_92 : decode cX12_factor 92 = .ok (.invokevirtual 113, 3) := by decide +kernel
theorem dX12_factor_95 : decode cX12_factor 95 = .ok (.ifCond .eq 7, 3) := by decide +kernel
theorem dX12_factor_98 : decode cX12_factor 98 = .ok (.iconst 0, 1) := by decide +kernel
theorem dX12_factor_99 : decode cX12_factor 99 = .ok (.goto 43, 3) := by decide +kernel
theorem dX12_factor_102 : decode cX12_factor 102 = .ok (.aload_n 0, 1) := by decide +kernel
theorem dX12_factor_103 : decode cX12_factor 103 = .ok (.ldc 117, 2) := by decide +kernel
theorem dX12_factor_105 : decode cX12_factor 105 = .ok (.invokevirtual 113, 3) := by decide +kernel
theorem dX12_factor_108 : decode cX12_factor 108 = .ok (.ifCond .eq 7, 3) := by decide +kernel
theorem dX12_factor_111 : decode cX12_factor 111 = .ok (.iconst 1, 1) := by decide +kernel
theorem dX12_factor_112 : decode cX12_factor 112 = .ok (.goto 30, 3) := by decide +kernel
theorem dX12_factor_115 : decode cX12_factor 115 = .ok (.aload_n 0, 1) := by decide +kernel
theorem dX12_factor_116 : decode cX12_factor 116 = .ok (.ldc 119, 2) := by decide +kernel
theorem dX12_factor_118 : decode cX12_factor 118 = .ok (.invokevirtual 113, 3) := by decide +kernel
theorem dX12_factor_121 : decode cX12_factor 121 = .ok (.ifCond .eq 7, 3) := by decide +kernel
theorem dX12_factor_124 : decode cX12_factor 124 = .ok (.iconst 2, 1) := by decide +kernel
theorem dX12_factor_125 : decode cX12_factor 125 = .ok (.goto 17, 3) := by decide +kernel
theorem dX12_factor_128 : decode cX12_factor 128 = .ok (.aload_n 0, 1) := by decide +kernel
theorem dX12_factor_129 : decode cX12_factor 129 = .ok (.ldc 121, 2) := by decide +kernel
theorem dX12_factor_131 : decode cX12_factor 131 = .ok (.invokevirtual 113, 3) := by decide +kernel
theorem dX12_factor_134 : decode cX12_factor 134 = .ok (.ifCond .eq 7, 3) := by decide +kernel
theorem dX12_factor_137 : decode cX12_factor 137 = .ok (.iconst 3, 1) := by decide +kernel
theorem dX12_factor_138 : decode cX12_factor 138 = .ok (.goto 4, 3) := by decide +kernel
theorem dX12_factor_141 : decode cX12_factor 141 = .ok (.iconst (-1), 1) := by decide +kernel
theorem dX12_factor_142 : decode cX12_factor 142 = .ok (.istore_n 2, 1) := by decide +kernel
theorem dX12_factor_143 : decode cX12_factor 143 = .ok (.iload_n 2, 1) := by decide +kernel
theorem dX12_factor_144 : decode cX12_factor 144 = .ok (.ifCond .ge 14, 3) := by decide +kernel
theorem dX12_factor_147 : decode cX12_factor 147 = .ok (.aload_n 0, 1) := by decide +kernel
theorem dX12_factor_148 : decode cX12_factor 148 = .ok (.iconst 0, 1) := by decide +kernel
theorem dX12_factor_149 : decode cX12_factor 149 = .ok (.sipush 9999, 3) := by decide +kernel
theorem dX12_factor_152 : decode cX12_factor 152 = .ok (.invokevirtual 123, 3) := by decide +kernel
theorem dX12_factor_155 : decode cX12_factor 155 = .ok (.goto 4, 3) := by decide +kernel
theorem dX12_factor_158 : decode cX12_factor 158 = .ok (.iload_n 2, 1) := by decide +kernel
theorem dX12_factor_159 : decode cX12_factor 159 = .ok (.istore_n 3, 1) := by decide +kernel
theorem dX12_factor_160 : decode cX12_factor 160 = .ok (.aload_n 0, 1) := by decide +kernel
theorem dX12_factor_161 : decode cX12_factor 161 = .ok (.iload_n 2, 1) := by decide +kernel
theorem dX12_factor_162 : decode cX12_factor 162 = .ok (.ifCond .ge 7, 3) := by decide +kernel
theorem dX12_factor_165 : decode cX12_factor 165 = .ok (.iconst 0, 1) := by decide +kernel
theorem dX12_factor_166 : decode cX12_factor 166 = .ok (.goto 4, 3) := by decide +kernel
theorem dX12_factor_169 : decode cX12_factor 169 = .ok (.iconst 1, 1) := by decide +kernel
theorem dX12_factor_170 : decode cX12_factor 170 = .ok (.invokevirtual 126, 3) := by decide +kernel
theorem dX12_factor_173 : decode cX12_factor 173 = .ok (.aload_n 0, 1) := by decide +kernel
theorem dX12_factor_174 : decode cX12_factor 174 = .ok (.iload_n 3, 1) := by decide +kernel
theorem dX12_factor_175 : decode cX12_factor 175 = .ok (.invokevirtual 126, 3) := by decide +kernel
theorem dX12_factor_178 : decode cX12_factor 178 = .ok (.return_, 1) := by decide +kernel
theorem dX12_term_0 : decode cX12_term 0 = .ok (.aload_n 0, 1) := by decide +kernel
theorem dX12_term_1 : decode cX12_term 1 = .ok (.invokevirtual 129, 3) := by decide +kernel
theorem dX12_term_4 : decode cX12_term 4 = .ok (.aload_n 0, 1) := by decide +kernel
theorem dX12_term_5 : decode cX12_term 5 = .ok (.invokevirtual 68, 3) := by decide +kernel
theorem dX12_term_8 : decode cX12_term 8 = .ok (.ifCond .eq 66, 3) := by decide +kernel
theorem dX12_term_11 : decode cX12_term 11 = .ok (.aload_n 0, 1) := by decide +kernel
theorem dX12_term_12 : decode cX12_term 12 = .ok (.invokevirtual 72, 3) := by decide +kernel
theorem dX12_term_15 : decode cX12_term 15 = .ok (.bipush 42, 2) := by decide +kernel
theorem dX12_term_17 : decode cX12_term 17 = .ok (.if_icmp .eq 12, 3) := by decide +kernel
theorem dX12_term_20 : decode cX12_term 20 = .ok (.aload_n 0, 1) := by decide +kernel
theorem dX12_term_21 : decode cX12_term 21 = .ok (.invokevirtual 72, 3) := by decide +kernel
theorem dX12_term_24 : decode cX12_term 24 = .ok (.bipush 47, 2) := by decide +kernel
theorem dX12_term_26 : decode cX12_term 26 = .ok (.if_icmp .ne 48, 3) := by decide +kernel
theorem dX12_term_29 : decode cX12_term 29 = .ok (.aload_n 0, 1) := by decide +kernel
theorem dX12_term_30 : decode cX12_term 30 = .ok (.invokevirtual 72, 3) := by decide +kernel
theorem dX12_term_33 : decode cX12_term 33 = .ok (.bipush 42, 2) := by decide +kernel
theorem dX12_term_35 : decode cX12_term 35 = .ok (.if_icmp .ne 7, 3) := by decide +kernel
theorem dX12_term_38 : decode cX12_term 38 = .ok (.iconst 1, 1) := by decide +kernel
theorem dX12_term_39 : decode cX12_term 39 = .ok (.goto 4, 3) := by decide +kernel
theorem dX12_term_42 : decode cX12_term 42 = .ok (.iconst 0, 1) := by decide +kernel
theorem dX12_term_43 : decode cX12_term 43 = .ok (.istore_n 1, 1) := by decide +kernel
theorem dX12_term_44 : decode cX12_term 44 = .ok (.aload_n 0, 1) := by decide +kernel
theorem dX12_term_45 : decode cX12_term 45 = .ok (.dup, 1) := by decide +kernel
theorem dX12_term_46 : decode cX12_term 46 = .ok (.getfield 51, 3) := by decide +kernel
theorem dX12_term_49 : decode cX12_term 49 = .ok (.iconst 1, 1) := by decide +kernel
theorem dX12_term_50 : decode cX12_term 50 = .ok (.iadd, 1) := by decide +kernel
theorem dX12_term_51 : decode cX12_term 51 = .ok (.putfield 51, 3) := by decide +kernel
theorem dX12_term_54 : decode cX12_term 54 = .ok (.aload_n 0, 1) := by decide +kernel
theorem dX12_term_55 : decode cX12_term 55 = .ok (.invokevirtual 129, 3) := by decide +kernel
theorem dX12_term_58 : decode cX12_term 58 = .ok (.aload_n 0, 1) := by decide +kernel
theorem dX12_term_59 : decode cX12_term 59 = .ok (.iload_n 1, 1) := by decide +kernel
theorem dX12_term_60 : decode cX12_term 60 = .ok (.ifCond .eq 7, 3) := by decide +kernel
theorem dX12_term_63 : decode cX12_term 63 = .ok (.iconst 4, 1) := by decide +kernel
theorem dX12_term_64 : decode cX12_term 64 = .ok (.goto 4, 3) := by decide +kernel
theorem dX12_term_67 : decode cX12_term 67 = .ok (.iconst 5, 1) := by decide +kernel
theorem dX12_term_68 : decode cX12_term 68 = .ok (.invokevirtual 126, 3) := by decide +kernel
theorem dX12_term_71 : decode cX12_term 71 = .ok (.goto (-67), 3) := by decide +kernel
theorem dX12_term_74 : decode cX12_term 74 = .ok (.return_, 1) := by decide +kernel
theorem dX12_sum_0 : decode cX12_sum 0 = .ok (.aload_n 0, 1) := by decide +kernel
theorem dX12_sum_1 : decode cX12_sum 1 = .ok (.invokevirtual 132, 3) := by decide +kernel
theorem dX12_sum_4 : decode cX12_sum 4 = .ok (.aload_n 0, 1) := by decide +kernel
theorem dX12_sum_5 : decode cX12_sum 5 = .ok (.invokevirtual 68, 3) := by decide +kernel
theorem dX12_sum_8 : decode cX12_sum 8 = .ok (.ifCond .eq 66, 3) := by decide +kernel
theorem dX12_sum_11 : decode cX12_sum 11 = .ok (.aload_n 0, 1) := by decide +kernel
theorem dX12_sum_12 : decode cX12_sum 12 = .ok (.invokevirtual 72, 3) := by decide +kernel
theorem dX12_sum_15 : decode cX12_sum 15 = .ok (.bipush 43, 2) := by decide +kernel
theorem dX12_sum_17 : decode cX12_sum 17 = .ok (.if_icmp .eq 12, 3) := by decide +kernel
theorem dX12_sum_20 : decode cX12_sum 20 = .ok (.aload_n 0, 1) := by decide +kernel
theorem dX12_sum_21 : decode cX12_sum 21 = .ok (.invokevirtual 72, 3) := by decide +kernel
theorem dX12_sum_24 : decode cX12_sum 24 = .ok (.bipush 45, 2) := by decide +kernel
theorem dX12_sum_26 : decode cX12_sum 26 = .ok (.if_icmp .ne 48, 3) := by decide +kernel
theorem dX12_sum_29 : decode cX12_sum 29 = .ok (.aload_n 0, 1) := by decide +kernel
theorem dX12_sum_30 : decode cX12_sum 30 = .ok (.invokevirtual 72, 3) := by decide +kernel
theorem dX12_sum_33 : decode cX12_sum 33 = .ok (.bipush 43, 2) := by decide +kernel
theorem dX12_sum_35 : decode cX12_sum 35 = .ok (.if_icmp .ne 7, 3) := by decide +kernel
theorem dX12_sum_38 : decode cX12_sum 38 = .ok (.iconst 1, 1) := by decide +kernel
theorem dX12_sum_39 : decode cX12_sum 39 = .ok (.goto 4, 3) := by decide +kernel
theorem dX12_sum_42 : decode cX12_sum 42 = .ok (.iconst 0, 1) := by decide +kernel
theorem dX12_sum_43 : decode cX12_sum 43 = .ok (.istore_n 1, 1) := by decide +kernel
theorem dX12_sum_44 : decode cX12_sum 44 = .ok (.aload_n 0, 1) := by decide +kernel
theorem dX12_sum_45 : decode cX12_sum 45 = .ok (.dup, 1) := by decide +kernel
theorem dX12_sum_46 : decode cX12_sum 46 = .ok (.getfield 51, 3) := by decide +kernel
theorem dX12_sum_49 : decode cX12_sum 49 = .ok (.iconst 1, 1) := by decide +kernel
theorem dX12_sum_50 : decode cX12_sum 50 = .ok (.iadd, 1) := by decide +kernel
theorem dX12_sum_51 : decode cX12_sum 51 = .ok (.putfield 51, 3) := by decide +kernel
theorem dX12_sum_54 : decode cX12_sum 54 = .ok (.aload_n 0, 1) := by decide +kernel
theorem dX12_sum_55 : decode cX12_sum 55 = .ok (.invokevirtual 132, 3) := by decide +kernel
theorem dX12_sum_58 : decode cX12_sum 58 = .ok (.aload_n 0, 1) := by decide +kernel
theorem dX12_sum_59 : decode cX12_sum 59 = .ok (.iload_n 1, 1) := by decide +kernel
theorem dX12_sum_60 : decode cX12_sum 60 = .ok (.ifCond .eq 7, 3) := by decide +kernel
theorem dX12_sum_63 : decode cX12_sum 63 = .ok (.iconst 2, 1) := by decide +kernel
theorem dX12_sum_64 : decode cX12_sum 64 = .ok (.goto 4, 3) := by decide +kernel
theorem dX12_sum_67 : decode cX12_sum 67 = .ok (.iconst 3, 1) := by decide +kernel
theorem dX12_sum_68 : decode cX12_sum 68 = .ok (.invokevirtual 126, 3) := by decide +kernel
theorem dX12_sum_71 : decode cX12_sum 71 = .ok (.goto (-67), 3) := by decide +kernel
theorem dX12_sum_74 : decode cX12_sum 74 = .ok (.return_, 1) := by decide +kernel
theorem dX12_once_0 : decode cX12_once 0 = .ok (.aload_n 0, 1) := by decide +kernel
theorem dX12_once_1 : decode cX12_once 1 = .ok (.getfield 135, 3) := by decide +kernel
theorem dX12_once_4 : decode cX12_once 4 = .ok (.iload_n 1, 1) := by decide +kernel
theorem dX12_once_5 : decode cX12_once 5 = .ok (.ishr, 1) := by decide +kernel
theorem dX12_once_6 : decode cX12_once 6 = .ok (.iconst 1, 1) := by decide +kernel
theorem dX12_once_7 : decode cX12_once 7 = .ok (.iand, 1) := by decide +kernel
theorem dX12_once_8 : decode cX12_once 8 = .ok (.iconst 1, 1) := by decide +kernel
theorem dX12_once_9 : decode cX12_once 9 = .ok (.if_icmp .ne 10, 3) := by decide +kernel
theorem dX12_once_12 : decode cX12_once 12 = .ok (.aload_n 0, 1) := by decide +kernel
theorem dX12_once_13 : decode cX12_once 13 = .ok (.bipush (-2), 2) := by decide +kernel
theorem dX12_once_15 : decode cX12_once 15 = .ok (.iload_n 2, 1) := by decide +kernel
theorem dX12_once_16 : decode cX12_once 16 = .ok (.invokevirtual 85, 3) := by decide +kernel
theorem dX12_once_19 : decode cX12_once 19 = .ok (.aload_n 0, 1) := by decide +kernel
theorem dX12_once_20 : decode cX12_once 20 = .ok (.dup, 1) := by decide +kernel
theorem dX12_once_21 : decode cX12_once 21 = .ok (.getfield 135, 3) := by decide +kernel
theorem dX12_once_24 : decode cX12_once 24 = .ok (.iconst 1, 1) := by decide +kernel
theorem dX12_once_25 : decode cX12_once 25 = .ok (.iload_n 1, 1) := by decide +kernel
theorem dX12_once_26 : decode cX12_once 26 = .ok (.ishl, 1) := by decide +kernel
theorem dX12_once_27 : decode cX12_once 27 = .ok (.ior, 1) := by decide +kernel
theorem dX12_once_28 : decode cX12_once 28 = .ok (.putfield 135, 3) := by decide +kernel
theorem dX12_once_31 : decode cX12_once 31 = .ok (.return_, 1) := by decide +kernel
theorem dX12_readGate_0 : decode cX12_readGate 0 = .ok (.aload_n 0, 1) := by decide +kernel
theorem dX12_readGate_1 : decode cX12_readGate 1 = .ok (.getfield 20, 3) := by decide +kernel
theorem dX12_readGate_4 : decode cX12_readGate 4 = .ok (.iconst 1, 1) := by decide +kernel
theorem dX12_readGate_5 : decode cX12_readGate 5 = .ok (.iaload, 1) := by decide +kernel
theorem dX12_readGate_6 : decode cX12_readGate 6 = .ok (.bipush 6, 2) := by decide +kernel
theorem dX12_readGate_8 : decode cX12_readGate 8 = .ok (.if_icmp .ne 10, 3) := by decide +kernel
theorem dX12_readGate_11 : decode cX12_readGate 11 = .ok (.aload_n 0, 1) := by decide +kernel
theorem dX12_readGate_12 : decode cX12_readGate 12 = .ok (.bipush (-5), 2) := by decide +kernel
theorem dX12_readGate_14 : decode cX12_readGate 14 = .ok (.iload_n 1, 1) := by decide +kernel
theorem dX12_readGate_15 : decode cX12_readGate 15 = .ok (.invokevirtual 85, 3) := by decide +kernel
theorem dX12_readGate_18 : decode cX12_readGate 18 = .ok (.aload_n 0, 1) := by decide +kernel
theorem dX12_readGate_19 : decode cX12_readGate 19 = .ok (.iconst 0, 1) := by decide +kernel
theorem dX12_readGate_20 : decode cX12_readGate 20 = .ok (.bipush 99, 2) := by decide +kernel
theorem dX12_readGate_22 : decode cX12_readGate 22 = .ok (.invokevirtual 123, 3) := by decide +kernel
theorem dX12_readGate_25 : decode cX12_readGate 25 = .ok (.istore_n 2, 1) := by decide +kernel
theorem dX12_readGate_26 : decode cX12_readGate 26 = .ok (.aload_n 0, 1) := by decide +kernel
theorem dX12_readGate_27 : decode cX12_readGate 27 = .ok (.iconst 1, 1) := by decide +kernel
theorem dX12_readGate_28 : decode cX12_readGate 28 = .ok (.sipush 999, 3) := by decide +kernel
theorem dX12_readGate_31 : decode cX12_readGate 31 = .ok (.invokevirtual 123, 3) := by decide +kernel
theorem dX12_readGate_34 : decode cX12_readGate 34 = .ok (.istore_n 3, 1) := by decide +kernel
theorem dX12_readGate_35 : decode cX12_readGate 35 = .ok (.aload_n 0, 1) := by decide +kernel
theorem dX12_readGate_36 : decode cX12_readGate 36 = .ok (.iconst 1, 1) := by decide +kernel
theorem dX12_readGate_37 : decode cX12_readGate 37 = .ok (.bipush 20, 2) := by decide +kernel
theorem dX12_readGate_39 : decode cX12_readGate 39 = .ok (.invokevirtual 123, 3) := by decide +kernel
theorem dX12_readGate_42 : decode cX12_readGate 42 = .ok (.istore 4, 2) := by decide +kernel
theorem dX12_readGate_44 : decode cX12_readGate 44 = .ok (.aload_n 0, 1) := by decide +kernel
theorem dX12_readGate_45 : decode cX12_readGate 45 = .ok (.invokevirtual 68, 3) := by decide +kernel
theorem dX12_readGate_48 : decode cX12_readGate 48 = .ok (.ifCond .ne 4, 3) := by decide +kernel
theorem dX12_readGate_51 : decode cX12_readGate 51 = .ok (.return_, 1) := by decide +kernel
theorem dX12_readGate_52 : decode cX12_readGate 52 = .ok (.bipush 15, 2) := by decide +kernel
theorem dX12_readGate_54 : decode cX12_readGate 54 = .ok (.iconst 3, 1) := by decide +kernel
theorem dX12_readGate_55 : decode cX12_readGate 55 = .ok (.aload_n 0, 1) := by decide +kernel
theorem dX12_readGate_56 : decode cX12_readGate 56 = .ok (.getfield 20, 3) := by decide +kernel
theorem dX12_readGate_59 : decode cX12_readGate 59 = .ok (.iconst 1, 1) := by decide +kernel
theorem dX12_readGate_60 : decode cX12_readGate 60 = .ok (.iaload, 1) := by decide +kernel
theorem dX12_readGate_61 : decode cX12_readGate 61 = .ok (.imul, 1) := by decide +kernel
theorem dX12_readGate_62 : decode cX12_readGate 62 = .ok (.iadd, 1) := by decide +kernel
theorem dX12_readGate_63 : decode cX12_readGate 63 = .ok (.istore 5, 2) := by decide +kernel
theorem dX12_readGate_65 : decode cX12_readGate 65 = .ok (.aload_n 0, 1) := by decide +kernel
theorem dX12_readGate_66 : decode cX12_readGate 66 = .ok (.getfield 20, 3) := by decide +kernel
theorem dX12_readGate_69 : decode cX12_readGate 69 = .ok (.iload 5, 2) := by decide +kernel
theorem dX12_readGate_71 : decode cX12_readGate 71 = .ok (.iconst 0, 1) := by decide +kernel
theorem dX12_readGate_72 : decode cX12_readGate 72 = .ok (.iadd, 1) := by decide +kernel
theorem dX12_readGate_73 : decode cX12_readGate 73 = .ok (.iload_n 2, 1) := by decide +kernel
theorem dX12_readGate_74 : decode cX12_readGate 74 = .ok (.iastore, 1) := by decide +kernel
theorem dX12_readGate_75 : decode cX12_readGate 75 = .ok (.aload_n 0, 1) := by decide +kernel
theorem dX12_readGate_76 : decode cX12_readGate 76 = .ok (.getfield 20, 3) := by decide +kernel
theorem dX12_readGate_79 : decode cX12_readGate 79 = .ok (.iload 5, 2) := by decide +kernel
theorem dX12_readGate_81 : decode cX12_readGate 81 = .ok (.iconst 1, 1) := by decide +kernel
theorem dX12_readGate_82 : decode cX12_readGate 82 = .ok (.iadd, 1) := by decide +kernel
theorem dX12_readGate_83 : decode cX12_readGate 83 = .ok (.iload_n 3, 1) := by decide +kernel
theorem dX12_readGate_84 : decode cX12_readGate 84 = .ok (.iastore, 1) := by decide +kernel
theorem dX12_readGate_85 : decode cX12_readGate 85 = .ok (.aload_n 0, 1) := by decide +kernel
theorem dX12_readGate_86 : decode cX12_readGate 86 = .ok (.getfield 20, 3) := by decide +kernel
theorem dX12_readGate_89 : decode cX12_readGate 89 = .ok (.iload 5, 2) := by decide +kernel
theorem dX12_readGate_91 : decode cX12_readGate 91 = .ok (.iconst 2, 1) := by decide +kernel
theorem dX12_readGate_92 : decode cX12_readGate 92 = .ok (.iadd, 1) := by decide +kernel
theorem dX12_readGate_93 : decode cX12_readGate 93 = .ok (.iload 4, 2) := by decide +kernel
theorem dX12_readGate_95 : decode cX12_readGate 95 = .ok (.iastore, 1) := by decide +kernel
theorem dX12_readGate_96 : decode cX12_readGate 96 = .ok (.aload_n 0, 1) := by decide +kernel
theorem dX12_readGate_97 : decode cX12_readGate 97 = .ok (.getfield 20, 3) := by decide +kernel
theorem dX12_readGate_100 : decode cX12_readGate 100 = .ok (.iconst 1, 1) := by decide +kernel
theorem dX12_readGate_101 : decode cX12_readGate 101 = .ok (.dup2, 1) := by decide +kernel
theorem dX12_readGate_102 : decode cX12_readGate 102 = .ok (.iaload, 1) := by decide +kernel
theorem dX12_readGate_103 : decode cX12_readGate 103 = .ok (.iconst 1, 1) := by decide +kernel
theorem dX12_readGate_104 : decode cX12_readGate 104 = .ok (.iadd, 1) := by decide +kernel
theorem dX12_readGate_105 : decode cX12_readGate 105 = .ok (.iastore, 1) := by decide +kernel
theorem dX12_readGate_106 : decode cX12_readGate 106 = .ok (.return_, 1) := by decide +kernel
theorem dX12_isOnWay_0 : decode cX12_isOnWay 0 = .ok (.iconst 0, 1) := by decide +kernel
theorem dX12_isOnWay_1 : decode cX12_isOnWay 1 = .ok (.istore 5, 2) := by decide +kernel
theorem dX12_isOnWay_3 : decode cX12_isOnWay 3 = .ok (.iload 5, 2) := by decide +kernel
theorem dX12_isOnWay_5 : decode cX12_isOnWay 5 = .ok (.iload_n 3, 1) := by decide +kernel
theorem dX12_isOnWay_6 : decode cX12_isOnWay 6 = .ok (.if_icmp .ge 30, 3) := by decide +kernel
theorem dX12_isOnWay_9 : decode cX12_isOnWay 9 = .ok (.aload_n 1, 1) := by decide +kernel
theorem dX12_isOnWay_10 : decode cX12_isOnWay 10 = .ok (.bipush 33, 2) := by decide +kernel
theorem dX12_isOnWay_12 : decode cX12_isOnWay 12 = .ok (.bipush 8, 2) := by decide +kernel
theorem dX12_isOnWay_14 : decode cX12_isOnWay 14 = .ok (.iload_n 2, 1) := by decide +kernel
theorem dX12_isOnWay_15 : decode cX12_isOnWay 15 = .ok (.imul, 1) := by decide +kernel
theorem dX12_isOnWay_16 : decode cX12_isOnWay 16 = .ok (.iadd, 1) := by decide +kernel
theorem dX12_isOnWay_17 : decode cX12_isOnWay 17 = .ok (.iconst 4, 1) := by decide +kernel
theorem dX12_isOnWay_18 : decode cX12_isOnWay 18 = .ok (.iadd, 1) := by decide +kernel
theorem dX12_isOnWay_19 : decode cX12_isOnWay 19 = .ok (.iload 5, 2) := by decide +kernel
theorem dX12_isOnWay_21 : decode cX12_isOnWay 21 = .ok (.iadd, 1) := by decide +kernel
theorem dX12_isOnWay_22 : decode cX12_isOnWay 22 = .ok (.iaload, 1) := by decide +kernel
theorem dX12_isOnWay_23 : decode cX12_isOnWay 23 = .ok (.iload 4, 2) := by decide +kernel
theorem dX12_isOnWay_25 : decode cX12_isOnWay 25 = .ok (.if_icmp .ne 5, 3) := by decide +kernel
theorem dX12_isOnWay_28 : decode cX12_isOnWay 28 = .ok (.iconst 1, 1) := by decide +kernel
theorem dX12_isOnWay_29 : decode cX12_isOnWay 29 = .ok (.ireturn, 1) := by decide +kernel
theorem dX12_isOnWay_30 : decode cX12_isOnWay 30 = .ok (.iinc 5 1, 3) := by decide +kernel
theorem dX12_isOnWay_33 : decode cX12_isOnWay 33 = .ok (.goto (-30), 3) := by decide +kernel
theorem dX12_isOnWay_36 : decode cX12_isOnWay 36 = .ok (.iconst 0, 1) := by decide +kernel
theorem dX12_isOnWay_37 : decode cX12_isOnWay 37 = .ok (.ireturn, 1) := by decide +kernel
theorem dX12_readFlow_0 : decode cX12_readFlow 0 = .ok (.aload_n 0, 1) := by decide +kernel
theorem dX12_readFlow_1 : decode cX12_readFlow 1 = .ok (.getfield 20, 3) := by decide +kernel
theorem dX12_readFlow_4 : decode cX12_readFlow 4 = .ok (.iconst 2, 1) := by decide +kernel
theorem dX12_readFlow_5 : decode cX12_readFlow 5 = .ok (.iaload, 1) := by decide +kernel
theorem dX12_readFlow_6 : decode cX12_readFlow 6 = .ok (.bipush 6, 2) := by decide +kernel
theorem dX12_readFlow_8 : decode cX12_readFlow 8 = .ok (.if_icmp .ne 10, 3) := by decide +kernel
theorem dX12_readFlow_11 : decode cX12_readFlow 11 = .ok (.aload_n 0, 1) := by decide +kernel
theorem dX12_readFlow_12 : decode cX12_readFlow 12 = .ok (.bipush (-5), 2) := by decide +kernel
theorem dX12_readFlow_14 : decode cX12_readFlow 14 = .ok (.iload_n 1, 1) := by decide +kernel
theorem dX12_readFlow_15 : decode cX12_readFlow 15 = .ok (.invokevirtual 85, 3) := by decide +kernel
theorem dX12_readFlow_18 : decode cX12_readFlow 18 = .ok (.aload_n 0, 1) := by decide +kernel
theorem dX12_readFlow_19 : decode cX12_readFlow 19 = .ok (.getfield 20, 3) := by decide +kernel
theorem dX12_readFlow_22 : decode cX12_readFlow 22 = .ok (.iconst 2, 1) := by decide +kernel
theorem dX12_readFlow_23 : decode cX12_readFlow 23 = .ok (.iaload, 1) := by decide +kernel
theorem dX12_readFlow_24 : decode cX12_readFlow 24 = .ok (.istore_n 2, 1) := by decide +kernel
theorem dX12_readFlow_25 : decode cX12_readFlow 25 = .ok (.iconst 0, 1) := by decide +kernel
theorem dX12_readFlow_26 : decode cX12_readFlow 26 = .ok (.istore_n 3, 1) := by decide +kernel
theorem dX12_readFlow_27 : decode cX12_readFlow 27 = .ok (.aload_n 0, 1) := by decide +kernel
theorem dX12_readFlow_28 : decode cX12_readFlow 28 = .ok (.invokevirtual 68, 3) := by decide +kernel
theorem dX12_readFlow_31 : decode cX12_readFlow 31 = .ok (.ifCond .eq 118, 3) := by decide +kernel
theorem dX12_readFlow_34 : decode cX12_readFlow 34 = .ok (.iload_n 3, 1) := by decide +kernel
theorem dX12_readFlow_35 : decode cX12_readFlow 35 = .ok (.ifCond .eq 13, 3) := by decide +kernel
theorem dX12_readFlow_38 : decode cX12_readFlow 38 = .ok (.aload_n 0, 1) := by decide +kernel
theorem dX12_readFlow_39 : decode cX12_readFlow 39 = .ok (.invokevirtual 72, 3) := by decide +kernel
theorem dX12_readFlow_42 : decode cX12_readFlow 42 = .ok (.invokestatic 89, 3) := by decide +kernel
theorem dX12_readFlow_45 : decode cX12_readFlow 45 = .ok (.ifCond .eq 104, 3) := by decide +kernel
theorem dX12_readFlow_48 : decode cX12_readFlow 48 = .ok (.aload_n 0, 1) := by decide +kernel
theorem dX12_readFlow_49 : decode cX12_readFlow 49 = .ok (.iconst 0, 1) := by decide +kernel
theorem dX12_readFlow_50 : decode cX12_readFlow 50 = .ok (.aload_n 0, 1) := by decide +kernel
theorem dX12_readFlow_51 : decode cX12_readFlow 51 = .ok (.getfield 20, 3) := by decide +kernel
theorem dX12_readFlow_54 : decode cX12_readFlow 54 = .ok (.iconst 1, 1) := by decide +kernel
theorem dX12_readFlow_55 : decode cX12_readFlow 55 = .ok (.iaload, 1) := by decide +kernel
theorem dX12_readFlow_56 : decode cX12_readFlow 56 = .ok (.iconst 1, 1) := by decide +kernel
theorem dX12_readFlow_57 : decode cX12_readFlow 57 = .ok (.isub, 1) := by decide +kernel
theorem dX12_readFlow_58 : decode cX12_readFlow 58 = .ok (.invokevirtual 123, 3) := by decide +kernel
theorem dX12_readFlow_61 : decode cX12_readFlow 61 = .ok (.istore 4, 2) := by decide +kernel
theorem dX12_readFlow_63 : decode cX12_readFlow 63 = .ok (.aload_n 0, 1) := by decide +kernel
theorem dX12_readFlow_64 : decode cX12_readFlow 64 = .ok (.invokevirtual 68, 3) := by decide +kernel
theorem dX12_readFlow_67 : decode cX12_readFlow 67 = .ok (.ifCond .eq 28, 3) := by decide +kernel
theorem dX12_readFlow_70 : decode cX12_readFlow 70 = .ok (.aload_n 0, 1) := by decide +kernel
theorem dX12_readFlow_71 : decode cX12_readFlow 71 = .ok (.aload_n 0, 1) := by decide +kernel
theorem dX12_readFlow_72 : decode cX12_readFlow 72 = .ok (.getfield 20, 3) := by decide +kernel
theorem dX12_readFlow_75 : decode cX12_readFlow 75 = .ok (.iload_n 2, 1) := by decide +kernel
theorem dX12_readFlow_76 : decode cX12_readFlow 76 = .ok (.iload_n 3, 1) := by decide +kernel
theorem dX12_readFlow_77 : decode cX12_readFlow 77 = .ok (.iload 4, 2) := by decide +kernel
theorem dX12_readFlow_79 : decode cX12_readFlow 79 = .ok (.invokevirtual 138, 3) := by decide +kernel
theorem dX12_readFlow_82 : decode cX12_readFlow 82 = .ok (.ifCond .eq 13, 3) := by decide +kernel
theorem dX12_readFlow_85 : decode cX12_readFlow 85 = .ok (.aload_n 0, 1) := by decide +kernel
theorem dX12_readFlow_86 : decode cX12_readFlow 86 = .ok (.bipush (-4), 2) := by decide +kernel
theorem dX12_readFlow_88 : decode cX12_readFlow 88 = .ok (.aload_n 0, 1) := by decide +kernel
theorem dX12_readFlow_89 : decode cX12_readFlow 89 = .ok (.getfield 93, 3) := by decide +kernel
theorem dX12_readFlow_92 : decode cX12_readFlow 92 = .ok (.invokevirtual 85, 3) := by decide +kernel
theorem dX12_readFlow_95 : decode cX12_readFlow 95 = .ok (.aload_n 0, 1) := by decide +kernel
theorem dX12_readFlow_96 : decode cX12_readFlow 96 = .ok (.invokevirtual 68, 3) := by decide +kernel
theorem dX12_readFlow_99 : decode cX12_readFlow 99 = .ok (.ifCond .eq 18, 3) := by decide +kernel
theorem dX12_readFlow_102 : decode cX12_readFlow 102 = .ok (.iload_n 3, 1) := by decide +kernel
theorem dX12_readFlow_103 : decode cX12_readFlow 103 = .ok (.iconst 4, 1) := by decide +kernel
theorem dX12_readFlow_104 : decode cX12_readFlow 104 = .ok (.if_icmp .ne 13, 3) := by decide +kernel
theorem dX12_readFlow_107 : decode cX12_readFlow 107 = .ok (.aload_n 0, 1) := by decide +kernel
theorem dX12_readFlow_108 : decode cX12_readFlow 108 = .ok (.bipush (-5), 2) := by decide +kernel
theorem dX12_readFlow_110 : decode cX12_readFlow 110 = .ok (.aload_n 0, 1) := by decide +kernel
theorem dX12_readFlow_111 : decode cX12_readFlow 111 = .ok (.getfield 93, 3) := by decide +kernel
theorem dX12_readFlow_114 : decode cX12_readFlow 114 = .ok (.invokevirtual 85, 3) := by decide +kernel
theorem dX12_readFlow_117 : decode cX12_readFlow 117 = .ok (.aload_n 0, 1) := by decide +kernel
theorem dX12_readFlow_118 : decode cX12_readFlow 118 = .ok (.invokevirtual 68, 3) := by decide +kernel
theorem dX12_readFlow_121 : decode cX12_readFlow 121 = .ok (.ifCond .ne 4, 3) := by decide +kernel
theorem dX12_readFlow_124 : decode cX12_readFlow 124 = .ok (.return_, 1) := by decide +kernel
theorem dX12_readFlow_125 : decode cX12_readFlow 125 = .ok (.aload_n 0, 1) := by decide +kernel
theorem dX12_readFlow_126 : decode cX12_readFlow 126 = .ok (.getfield 20, 3) := by decide +kernel
theorem dX12_readFlow_129 : decode cX12_readFlow 129 = .ok (.bipush 33, 2) := by decide +kernel
theorem dX12_readFlow_131 : decode cX12_readFlow 131 = .ok (.bipush 8, 2) := by decide +kernel
theorem dX12_readFlow_133 : decode cX12_readFlow 133 = .ok (.iload_n 2, 1) := by decide +kernel
theorem dX12_readFlow_134 : decode cX12_readFlow 134 = .ok (.imul, 1) := by decide +kernel
theorem dX12_readFlow_135 : decode cX12_readFlow 135 = .ok (.iadd, 1) := by decide +kernel
theorem dX12_readFlow_136 : decode cX12_readFlow 136 = .ok (.iconst 4, 1) := by decide +kernel
theorem dX12_readFlow_137 : decode cX12_readFlow 137 = .ok (.iadd, 1) := by decide +kernel
theorem dX12_readFlow_138 : decode cX12_readFlow 138 = .ok (.iload_n 3, 1) := by decide +kernel
theorem dX12_readFlow_139 : decode cX12_readFlow 139 = .ok (.iadd, 1) := by decide +kernel
theorem dX12_readFlow_140 : decode cX12_readFlow 140 = .ok (.iload 4, 2) := by decide +kernel
theorem dX12_readFlow_142 : decode cX12_readFlow 142 = .ok (.iastore, 1) := by decide +kernel
theorem dX12_readFlow_143 : decode cX12_readFlow 143 = .ok (.iinc 3 1, 3) := by decide +kernel
theorem dX12_readFlow_146 : decode cX12_readFlow 146 = .ok (.goto (-119), 3) := by decide +kernel
theorem dX12_readFlow_149 : decode cX12_readFlow 149 = .ok (.aload_n 0, 1) := by decide +kernel
theorem dX12_readFlow_150 : decode cX12_readFlow 150 = .ok (.invokevirtual 68, 3) := by decide +kernel
theorem dX12_readFlow_153 : decode cX12_readFlow 153 = .ok (.ifCond .ne 4, 3) := by decide +kernel
theorem dX12_readFlow_156 : decode cX12_readFlow 156 = .ok (.return_, 1) := by decide +kernel
theorem dX12_readFlow_157 : decode cX12_readFlow 157 = .ok (.aload_n 0, 1) := by decide +kernel
theorem dX12_readFlow_158 : decode cX12_readFlow 158 = .ok (.getfield 20, 3) := by decide +kernel
theorem dX12_readFlow_161 : decode cX12_readFlow 161 = .ok (.bipush 33, 2) := by decide +kernel
theorem dX12_readFlow_163 : decode cX12_readFlow 163 = .ok (.bipush 8, 2) := by decide +kernel
theorem dX12_readFlow_165 : decode cX12_readFlow 165 = .ok (.iload_n 2, 1) := by decide +kernel
theorem dX12_readFlow_166 : decode cX12_readFlow 166 = .ok (.imul, 1) := by decide +kernel
theorem dX12_readFlow_167 : decode cX12_readFlow 167 = .ok (.iadd, 1) := by decide +kernel
theorem dX12_readFlow_168 : decode cX12_readFlow 168 = .ok (.iconst 0, 1) := by decide +kernel
theorem dX12_readFlow_169 : decode cX12_readFlow 169 = .ok (.iadd, 1) := by decide +kernel
theorem dX12_readFlow_170 : decode cX12_readFlow 170 = .ok (.iload_n 3, 1) := by decide +kernel
theorem dX12_readFlow_171 : decode cX12_readFlow 171 = .ok (.iastore, 1) := by decide +kernel
theorem dX12_readFlow_172 : decode cX12_readFlow 172 = .ok (.aload_n 0, 1) := by decide +kernel
theorem dX12_readFlow_173 : decode cX12_readFlow 173 = .ok (.ldc 142, 2) := by decide +kernel
theorem dX12_readFlow_175 : decode cX12_readFlow 175 = .ok (.invokevirtual 113, 3) := by decide +kernel
theorem dX12_readFlow_178 : decode cX12_readFlow 178 = .ok (.ifCond .eq 24, 3) := by decide +kernel
theorem dX12_readFlow_181 : decode cX12_readFlow 181 = .ok (.aload_n 0, 1) := by decide +kernel
theorem dX12_readFlow_182 : decode cX12_readFlow 182 = .ok (.getfield 20, 3) := by decide +kernel
theorem dX12_readFlow_185 : decode cX12_readFlow 185 = .ok (.bipush 33, 2) := by decide +kernel
theorem dX12_readFlow_187 : decode cX12_readFlow 187 = .ok (.bipush 8, 2) := by decide +kernel
theorem dX12_readFlow_189 : decode cX12_readFlow 189 = .ok (.iload_n 2, 1) := by decide +kernel
theorem dX12_readFlow_190 : decode cX12_readFlow 190 = .ok (.imul, 1) := by decide +kernel
theorem dX12_readFlow_191 : decode cX12_readFlow 191 = .ok (.iadd, 1) := by decide +kernel
theorem dX12_readFlow_192 : decode cX12_readFlow 192 = .ok (.iconst 1, 1) := by decide +kernel
theorem dX12_readFlow_193 : decode cX12_readFlow 193 = .ok (.iadd, 1) := by decide +kernel
theorem dX12_readFlow_194 : decode cX12_readFlow 194 = .ok (.aload_n 0, 1) := by decide +kernel
theorem dX12_readFlow_195 : decode cX12_readFlow 195 = .ok (.iconst 0, 1) := by decide +kernel
theorem dX12_readFlow_196 : decode cX12_readFlow 196 = .ok (.bipush 99, 2) := by decide +kernel
theorem dX12_readFlow_198 : decode cX12_readFlow 198 = .ok (.invokevirtual 123, 3) := by decide +kernel
theorem dX12_readFlow_201 : decode cX12_readFlow 201 = .ok (.iastore, 1) := by decide +kernel
theorem dX12_readFlow_202 : decode cX12_readFlow 202 = .ok (.aload_n 0, 1) := by decide +kernel
theorem dX12_readFlow_203 : decode cX12_readFlow 203 = .ok (.getfield 20, 3) := by decide +kernel
theorem dX12_readFlow_206 : decode cX12_readFlow 206 = .ok (.iconst 2, 1) := by decide +kernel
theorem dX12_readFlow_207 : decode cX12_readFlow 207 = .ok (.dup2, 1) := by decide +kernel
theorem dX12_readFlow_208 : decode cX12_readFlow 208 = .ok (.iaload, 1) := by decide +kernel
theorem dX12_readFlow_209 : decode cX12_readFlow 209 = .ok (.iconst 1, 1) := by decide +kernel
theorem dX12_readFlow_210 : decode cX12_readFlow 210 = .ok (.iadd, 1) := by decide +kernel
theorem dX12_readFlow_211 : decode cX12_readFlow 211 = .ok (.iastore, 1) := by decide +kernel
theorem dX12_readFlow_212 : decode cX12_readFlow 212 = .ok (.return_, 1) := by decide +kernel
theorem dX12_readPacket_0 : decode cX12_readPacket 0 = .ok (.aload_n 0, 1) := by decide +kernel
theorem dX12_readPacket_1 : decode cX12_readPacket 1 = .ok (.getfield 20, 3) := by decide +kernel
theorem dX12_readPacket_4 : decode cX12_readPacket 4 = .ok (.iconst 3, 1) := by decide +kernel
theorem dX12_readPacket_5 : decode cX12_readPacket 5 = .ok (.iaload, 1) := by decide +kernel
theorem dX12_readPacket_6 : decode cX12_readPacket 6 = .ok (.bipush 40, 2) := by decide +kernel
theorem dX12_readPacket_8 : decode cX12_readPacket 8 = .ok (.if_icmp .ne 10, 3) := by decide +kernel
theorem dX12_readPacket_11 : decode cX12_readPacket 11 = .ok (.aload_n 0, 1) := by decide +kernel
theorem dX12_readPacket_12 : decode cX12_readPacket 12 = .ok (.bipush (-5), 2) := by decide +kernel
theorem dX12_readPacket_14 : decode cX12_readPacket 14 = .ok (.iload_n 1, 1) := by decide +kernel
theorem dX12_readPacket_15 : decode cX12_readPacket 15 = .ok (.invokevirtual 85, 3) := by decide +kernel
theorem dX12_readPacket_18 : decode cX12_readPacket 18 = .ok (.aload_n 0, 1) := by decide +kernel
theorem dX12_readPacket_19 : decode cX12_readPacket 19 = .ok (.iconst 0, 1) := by decide +kernel
theorem dX12_readPacket_20 : decode cX12_readPacket 20 = .ok (.aload_n 0, 1) := by decide +kernel
theorem dX12_readPacket_21 : decode cX12_readPacket 21 = .ok (.getfield 20, 3) := by decide +kernel
theorem dX12_readPacket_24 : decode cX12_readPacket 24 = .ok (.iconst 2, 1) := by decide +kernel
theorem dX12_readPacket_25 : decode cX12_readPacket 25 = .ok (.iaload, 1) := by decide +kernel
theorem dX12_readPacket_26 : decode cX12_readPacket 26 = .ok (.iconst 1, 1) := by decide +kernel
theorem dX12_readPacket_27 : decode cX12_readPacket 27 = .ok (.isub, 1) := by decide +kernel
theorem dX12_readPacket_28 : decode cX12_readPacket 28 = .ok (.invokevirtual 123, 3) := by decide +kernel
theorem dX12_readPacket_31 : decode cX12_readPacket 31 = .ok (.istore_n 2, 1) := by decide +kernel
theorem dX12_readPacket_32 : decode cX12_readPacket 32 = .ok (.aload_n 0, 1) := by decide +kernel
theorem dX12_readPacket_33 : decode cX12_readPacket 33 = .ok (.iconst 0, 1) := by decide +kernel
theorem dX12_readPacket_34 : decode cX12_readPacket 34 = .ok (.sipush 999, 3) := by decide +kernel
theorem dX12_readPacket_37 : decode cX12_readPacket 37 = .ok (.invokevirtual 123, 3) := by decide +kernel
theorem dX12_readPacket_40 : decode cX12_readPacket 40 = .ok (.istore_n 3, 1) := by decide +kernel
theorem dX12_readPacket_41 : decode cX12_readPacket 41 = .ok (.aload_n 0, 1) := by decide +kernel
theorem dX12_readPacket_42 : decode cX12_readPacket 42 = .ok (.iconst 1, 1) := by decide +kernel
theorem dX12_readPacket_43 : decode cX12_readPacket 43 = .ok (.sipush 999, 3) := by decide +kernel
theorem dX12_readPacket_46 : decode cX12_readPacket 46 = .ok (.invokevirtual 123, 3) := by decide +kernel
theorem dX12_readPacket_49 : decode cX12_readPacket 49 = .ok (.istore 4, 2) := by decide +kernel
theorem dX12_readPacket_51 : decode cX12_readPacket 51 = .ok (.aload_n 0, 1) := by decide +kernel
theorem dX12_readPacket_52 : decode cX12_readPacket 52 = .ok (.invokevirtual 68, 3) := by decide +kernel
theorem dX12_readPacket_55 : decode cX12_readPacket 55 = .ok (.ifCond .eq 14, 3) := by decide +kernel
theorem dX12_readPacket_58 : decode cX12_readPacket 58 = .ok (.aload_n 0, 1) := by decide +kernel
theorem dX12_readPacket_59 : decode cX12_readPacket 59 = .ok (.getfield 20, 3) := by decide +kernel
theorem dX12_readPacket_62 : decode cX12_readPacket 62 = .ok (.iload_n 2, 1) := by decide +kernel
theorem dX12_readPacket_63 : decode cX12_readPacket 63 = .ok (.iload_n 3, 1) := by decide +kernel
theorem dX12_readPacket_64 : decode cX12_readPacket 64 = .ok (.iload 4, 2) := by decide +kernel
theorem dX12_readPacket_66 : decode cX12_readPacket 66 = .ok (.invokestatic 144, 3) := by decide +kernel
theorem dX12_readPacket_69 : decode cX12_readPacket 69 = .ok (.return_, 1) := by decide +kernel
theorem dX12_putPacket_0 : decode cX12_putPacket 0 = .ok (.bipush 81, 2) := by decide +kernel
theorem dX12_putPacket_2 : decode cX12_putPacket 2 = .ok (.bipush 9, 2) := by decide +kernel
theorem dX12_putPacket_4 : decode cX12_putPacket 4 = .ok (.aload_n 0, 1) := by decide +kernel
theorem dX12_putPacket_5 : decode cX12_putPacket 5 = .ok (.iconst 3, 1) := by decide +kernel
theorem dX12_putPacket_6 : decode cX12_putPacket 6 = .ok (.iaload, 1) := by decide +kernel
theorem dX12_putPacket_7 : decode cX12_putPacket 7 = .ok (.imul, 1) := by decide +kernel
theorem dX12_putPacket_8 : decode cX12_putPacket 8 = .ok (.iadd, 1) := by decide +kernel
theorem dX12_putPacket_9 : decode cX12_putPacket 9 = .ok (.istore 4, 2) := by decide +kernel
theorem dX12_putPacket_11 : decode cX12_putPacket 11 = .ok (.iconst 0, 1) := by decide +kernel
theorem dX12_putPacket_12 : decode cX12_putPacket 12 = .ok (.istore 5, 2) := by decide +kernel
theorem dX12_putPacket_14 : decode cX12_putPacket 14 = .ok (.iload 5, 2) := by decide +kernel
theorem dX12_putPacket_16 : decode cX12_putPacket 16 = .ok (.bipush 9, 2) := by decide +kernel
theorem dX12_putPacket_18 : decode cX12_putPacket 18 = .ok (.if_icmp .ge 17, 3) := by decide +kernel
theorem dX12_putPacket_21 : decode cX12_putPacket 21 = .ok (.aload_n 0, 1) := by decide +kernel
theorem dX12_putPacket_22 : decode cX12_putPacket 22 = .ok (.iload 4, 2) := by decide +kernel
theorem dX12_putPacket_24 : decode cX12_putPacket 24 = .ok (.iload 5, 2) := by decide +kernel
theorem dX12_putPacket_26 : decode cX12_putPacket 26 = .ok (.iadd, 1) := by decide +kernel
theorem dX12_putPacket_27 : decode cX12_putPacket 27 = .ok (.iconst 0, 1) := by decide +kernel
theorem dX12_putPacket_28 : decode cX12_putPacket 28 = .ok (.iastore, 1) := by decide +kernel
theorem dX12_putPacket_29 : decode cX12_putPacket 29 = .ok (.iinc 5 1, 3) := by decide +kernel
theorem dX12_putPacket_32 : decode cX12_putPacket 32 = .ok (.goto (-18), 3) := by decide +kernel
theorem dX12_putPacket_35 : decode cX12_putPacket 35 = .ok (.aload_n 0, 1) := by decide +kernel
theorem dX12_putPacket_36 : decode cX12_putPacket 36 = .ok (.iload 4, 2) := by decide +kernel
theorem dX12_putPacket_38 : decode cX12_putPacket 38 = .ok (.iconst 0, 1) := by decide +kernel
theorem dX12_putPacket_39 : decode cX12_putPacket 39 = .ok (.iadd, 1) := by decide +kernel
theorem dX12_putPacket_40 : decode cX12_putPacket 40 = .ok (.iload_n 1, 1) := by decide +kernel
theorem dX12_putPacket_41 : decode cX12_putPacket 41 = .ok (.iastore, 1) := by decide +kernel
theorem dX12_putPacket_42 : decode cX12_putPacket 42 = .ok (.aload_n 0, 1) := by decide +kernel
theorem dX12_putPacket_43 : decode cX12_putPacket 43 = .ok (.iload 4, 2) := by decide +kernel
theorem dX12_putPacket_45 : decode cX12_putPacket 45 = .ok (.iconst 1, 1) := by decide +kernel
theorem dX12_putPacket_46 : decode cX12_putPacket 46 = .ok (.iadd, 1) := by decide +kernel
theorem dX12_putPacket_47 : decode cX12_putPacket 47 = .ok (.iload_n 2, 1) := by decide +kernel
theorem dX12_putPacket_48 : decode cX12_putPacket 48 = .ok (.iastore, 1) := by decide +kernel
theorem dX12_putPacket_49 : decode cX12_putPacket 49 = .ok (.aload_n 0, 1) := by decide +kernel
theorem dX12_putPacket_50 : decode cX12_putPacket 50 = .ok (.iload 4, 2) := by decide +kernel
theorem dX12_putPacket_52 : decode cX12_putPacket 52 = .ok (.iconst 2, 1) := by decide +kernel
theorem dX12_putPacket_53 : decode cX12_putPacket 53 = .ok (.iadd, 1) := by decide +kernel
theorem dX12_putPacket_54 : decode cX12_putPacket 54 = .ok (.iload_n 3, 1) := by decide +kernel
theorem dX12_putPacket_55 : decode cX12_putPacket 55 = .ok (.iastore, 1) := by decide +kernel
theorem dX12_putPacket_56 : decode cX12_putPacket 56 = .ok (.aload_n 0, 1) := by decide +kernel
theorem dX12_putPacket_57 : decode cX12_putPacket 57 = .ok (.iload 4, 2) := by decide +kernel
theorem dX12_putPacket_59 : decode cX12_putPacket 59 = .ok (.bipush 6, 2) := by decide +kernel
theorem dX12_putPacket_61 : decode cX12_putPacket 61 = .ok (.iadd, 1) := by decide +kernel
theorem dX12_putPacket_62 : decode cX12_putPacket 62 = .ok (.iconst (-1), 1) := by decide +kernel
theorem dX12_putPacket_63 : decode cX12_putPacket 63 = .ok (.iastore, 1) := by decide +kernel
theorem dX12_putPacket_64 : decode cX12_putPacket 64 = .ok (.aload_n 0, 1) := by decide +kernel
theorem dX12_putPacket_65 : decode cX12_putPacket 65 = .ok (.iconst 3, 1) := by decide +kernel
theorem dX12_putPacket_66 : decode cX12_putPacket 66 = .ok (.dup2, 1) := by decide +kernel
theorem dX12_putPacket_67 : decode cX12_putPacket 67 = .ok (.iaload, 1) := by decide +kernel
theorem dX12_putPacket_68 : decode cX12_putPacket 68 = .ok (.iconst 1, 1) := by decide +kernel
theorem dX12_putPacket_69 : decode cX12_putPacket 69 = .ok (.iadd, 1) := by decide +kernel
theorem dX12_putPacket_70 : decode cX12_putPacket 70 = .ok (.iastore, 1) := by decide +kernel
theorem dX12_putPacket_71 : decode cX12_putPacket 71 = .ok (.return_, 1) := by decide +kernel
theorem dX12_readCoupon_0 : decode cX12_readCoupon 0 = .ok (.aload_n 0, 1) := by decide +kernel
theorem dX12_readCoupon_1 : decode cX12_readCoupon 1 = .ok (.getfield 20, 3) := by decide +kernel
theorem dX12_readCoupon_4 : decode cX12_readCoupon 4 = .ok (.iconst 4, 1) := by decide +kernel
theorem dX12_readCoupon_5 : decode cX12_readCoupon 5 = .ok (.iaload, 1) := by decide +kernel
theorem dX12_readCoupon_6 : decode cX12_readCoupon 6 = .ok (.bipush 30, 2) := by decide +kernel
theorem dX12_readCoupon_8 : decode cX12_readCoupon 8 = .ok (.if_icmp .ne 10, 3) := by decide +kernel
theorem dX12_readCoupon_11 : decode cX12_readCoupon 11 = .ok (.aload_n 0, 1) := by decide +kernel
theorem dX12_readCoupon_12 : decode cX12_readCoupon 12 = .ok (.bipush (-5), 2) := by decide +kernel
theorem dX12_readCoupon_14 : decode cX12_readCoupon 14 = .ok (.iload_n 1, 1) := by decide +kernel
theorem dX12_readCoupon_15 : decode cX12_readCoupon 15 = .ok (.invokevirtual 85, 3) := by decide +kernel
theorem dX12_readCoupon_18 : decode cX12_readCoupon 18 = .ok (.aload_n 0, 1) := by decide +kernel
theorem dX12_readCoupon_19 : decode cX12_readCoupon 19 = .ok (.iconst 0, 1) := by decide +kernel
theorem dX12_readCoupon_20 : decode cX12_readCoupon 20 = .ok (.aload_n 0, 1) := by decide +kernel
theorem dX12_readCoupon_21 : decode cX12_readCoupon 21 = .ok (.getfield 20, 3) := by decide +kernel
theorem dX12_readCoupon_24 : decode cX12_readCoupon 24 = .ok (.iconst 2, 1) := by decide +kernel
theorem dX12_readCoupon_25 : decode cX12_readCoupon 25 = .ok (.iaload, 1) := by decide +kernel
theorem dX12_readCoupon_26 : decode cX12_readCoupon 26 = .ok (.iconst 1, 1) := by decide +kernel
theorem dX12_readCoupon_27 : decode cX12_readCoupon 27 = .ok (.isub, 1) := by decide +kernel
theorem dX12_readCoupon_28 : decode cX12_readCoupon 28 = .ok (.invokevirtual 123, 3) := by decide +kernel
theorem dX12_readCoupon_31 : decode cX12_readCoupon 31 = .ok (.istore_n 2, 1) := by decide +kernel
theorem dX12_readCoupon_32 : decode cX12_readCoupon 32 = .ok (.aload_n 0, 1) := by decide +kernel
theorem dX12_readCoupon_33 : decode cX12_readCoupon 33 = .ok (.iconst 1, 1) := by decide +kernel
theorem dX12_readCoupon_34 : decode cX12_readCoupon 34 = .ok (.sipush 9999, 3) := by decide +kernel
theorem dX12_readCoupon_37 : decode cX12_readCoupon 37 = .ok (.invokevirtual 123, 3) := by decide +kernel
theorem dX12_readCoupon_40 : decode cX12_readCoupon 40 = .ok (.istore_n 3, 1) := by decide +kernel
theorem dX12_readCoupon_41 : decode cX12_readCoupon 41 = .ok (.aload_n 0, 1) := by decide +kernel
theorem dX12_readCoupon_42 : decode cX12_readCoupon 42 = .ok (.iconst 1, 1) := by decide +kernel
theorem dX12_readCoupon_43 : decode cX12_readCoupon 43 = .ok (.sipush 9999, 3) := by decide +kernel
theorem dX12_readCoupon_46 : decode cX12_readCoupon 46 = .ok (.invokevirtual 123, 3) := by decide +kernel
theorem dX12_readCoupon_49 : decode cX12_readCoupon 49 = .ok (.istore 4, 2) := by decide +kernel
theorem dX12_readCoupon_51 : decode cX12_readCoupon 51 = .ok (.aload_n 0, 1) := by decide +kernel
theorem dX12_readCoupon_52 : decode cX12_readCoupon 52 = .ok (.invokevirtual 68, 3) := by decide +kernel
theorem dX12_readCoupon_55 : decode cX12_readCoupon 55 = .ok (.ifCond .eq 14, 3) := by decide +kernel
theorem dX12_readCoupon_58 : decode cX12_readCoupon 58 = .ok (.aload_n 0, 1) := by decide +kernel
theorem dX12_readCoupon_59 : decode cX12_readCoupon 59 = .ok (.getfield 20, 3) := by decide +kernel
theorem dX12_readCoupon_62 : decode cX12_readCoupon 62 = .ok (.iload_n 2, 1) := by decide +kernel
theorem dX12_readCoupon_63 : decode cX12_readCoupon 63 = .ok (.iload_n 3, 1) := by decide +kernel
theorem dX12_readCoupon_64 : decode cX12_readCoupon 64 = .ok (.iload 4, 2) := by decide +kernel
theorem dX12_readCoupon_66 : decode cX12_readCoupon 66 = .ok (.invokestatic 148, 3) := by decide +kernel
theorem dX12_readCoupon_69 : decode cX12_readCoupon 69 = .ok (.return_, 1) := by decide +kernel
theorem dX12_putCoupon_0 : decode cX12_putCoupon 0 = .ok (.sipush 441, 3) := by decide +kernel
theorem dX12_putCoupon_3 : decode cX12_putCoupon 3 = .ok (.iconst 4, 1) := by decide +kernel
theorem dX12_putCoupon_4 : decode cX12_putCoupon 4 = .ok (.aload_n 0, 1) := by decide +kernel
theorem dX12_putCoupon_5 : decode cX12_putCoupon 5 = .ok (.iconst 4, 1) := by decide +kernel
theorem dX12_putCoupon_6 : decode cX12_putCoupon 6 = .ok (.iaload, 1) := by decide +kernel
theorem dX12_putCoupon_7 : decode cX12_putCoupon 7 = .ok (.imul, 1) := by decide +kernel
theorem dX12_putCoupon_8 : decode cX12_putCoupon 8 = .ok (.iadd, 1) := by decide +kernel
theorem dX12_putCoupon_9 : decode cX12_putCoupon 9 = .ok (.istore 4, 2) := by decide +kernel
theorem dX12_putCoupon_11 : decode cX12_putCoupon 11 = .ok (.aload_n 0, 1) := by decide +kernel
theorem dX12_putCoupon_12 : decode cX12_putCoupon 12 = .ok (.iload 4, 2) := by decide +kernel
theorem dX12_putCoupon_14 : decode cX12_putCoupon 14 = .ok (.iconst 0, 1) := by decide +kernel
theorem dX12_putCoupon_15 : decode cX12_putCoupon 15 = .ok (.iadd, 1) := by decide +kernel
theorem dX12_putCoupon_16 : decode cX12_putCoupon 16 = .ok (.iload_n 1, 1) := by decide +kernel
theorem dX12_putCoupon_17 : decode cX12_putCoupon 17 = .ok (.iastore, 1) := by decide +kernel
theorem dX12_putCoupon_18 : decode cX12_putCoupon 18 = .ok (.aload_n 0, 1) := by decide +kernel
theorem dX12_putCoupon_19 : decode cX12_putCoupon 19 = .ok (.iload 4, 2) := by decide +kernel
theorem dX12_putCoupon_21 : decode cX12_putCoupon 21 = .ok (.iconst 1, 1) := by decide +kernel
theorem dX12_putCoupon_22 : decode cX12_putCoupon 22 = .ok (.iadd, 1) := by decide +kernel
theorem dX12_putCoupon_23 : decode cX12_putCoupon 23 = .ok (.iload_n 2, 1) := by decide +kernel
theorem dX12_putCoupon_24 : decode cX12_putCoupon 24 = .ok (.iastore, 1) := by decide +kernel
theorem dX12_putCoupon_25 : decode cX12_putCoupon 25 = .ok (.aload_n 0, 1) := by decide +kernel
theorem dX12_putCoupon_26 : decode cX12_putCoupon 26 = .ok (.iload 4, 2) := by decide +kernel
theorem dX12_putCoupon_28 : decode cX12_putCoupon 28 = .ok (.iconst 2, 1) := by decide +kernel
theorem dX12_putCoupon_29 : decode cX12_putCoupon 29 = .ok (.iadd, 1) := by decide +kernel
theorem dX12_putCoupon_30 : decode cX12_putCoupon 30 = .ok (.iload_n 3, 1) := by decide +kernel
theorem dX12_putCoupon_31 : decode cX12_putCoupon 31 = .ok (.iastore, 1) := by decide +kernel
theorem dX12_putCoupon_32 : decode cX12_putCoupon 32 = .ok (.aload_n 0, 1) := by decide +kernel
theorem dX12_putCoupon_33 : decode cX12_putCoupon 33 = .ok (.iload 4, 2) := by decide +kernel
theorem dX12_putCoupon_35 : decode cX12_putCoupon 35 = .ok (.iconst 3, 1) := by decide +kernel
theorem dX12_putCoupon_36 : decode cX12_putCoupon 36 = .ok (.iadd, 1) := by decide +kernel
theorem dX12_putCoupon_37 : decode cX12_putCoupon 37 = .ok (.iconst 0, 1) := by decide +kernel
theorem dX12_putCoupon_38 : decode cX12_putCoupon 38 = .ok (.iastore, 1) := by decide +kernel
theorem dX12_putCoupon_39 : decode cX12_putCoupon 39 = .ok (.aload_n 0, 1) := by decide +kernel
theorem dX12_putCoupon_40 : decode cX12_putCoupon 40 = .ok (.iconst 4, 1) := by decide +kernel
theorem dX12_putCoupon_41 : decode cX12_putCoupon 41 = .ok (.dup2, 1) := by decide +kernel
theorem dX12_putCoupon_42 : decode cX12_putCoupon 42 = .ok (.iaload, 1) := by decide +kernel
theorem dX12_putCoupon_43 : decode cX12_putCoupon 43 = .ok (.iconst 1, 1) := by decide +kernel
theorem dX12_putCoupon_44 : decode cX12_putCoupon 44 = .ok (.iadd, 1) := by decide +kernel
theorem dX12_putCoupon_45 : decode cX12_putCoupon 45 = .ok (.iastore, 1) := by decide +kernel
theorem dX12_putCoupon_46 : decode cX12_putCoupon 46 = .ok (.return_, 1) := by decide +kernel
theorem dX12_statement_0 : decode cX12_statement 0 = .ok (.aload_n 0, 1) := by decide +kernel
theorem dX12_statement_1 : decode cX12_statement 1 = .ok (.invokevirtual 72, 3) := by decide +kernel
theorem dX12_statement_4 : decode cX12_statement 4 = .ok (.pop, 1) := by decide +kernel
theorem dX12_statement_5 : decode cX12_statement 5 = .ok (.aload_n 0, 1) := by decide +kernel
theorem dX12_statement_6 : decode cX12_statement 6 = .ok (.getfield 51, 3) := by decide +kernel
theorem dX12_statement_9 : decode cX12_statement 9 = .ok (.istore_n 1, 1) := by decide +kernel
theorem dX12_statement_10 : decode cX12_statement 10 = .ok (.aload_n 0, 1) := by decide +kernel
theorem dX12_statement_11 : decode cX12_statement 11 = .ok (.ldc 117, 2) := by decide +kernel
theorem dX12_statement_13 : decode cX12_statement 13 = .ok (.invokevirtual 113, 3) := by decide +kernel
theorem dX12_statement_16 : decode cX12_statement 16 = .ok (.ifCond .eq 11, 3) := by decide +kernel
theorem dX12_statement_19 : decode cX12_statement 19 = .ok (.aload_n 0, 1) := by decide +kernel
theorem dX12_statement_20 : decode cX12_statement 20 = .ok (.iload_n 1, 1) := by decide +kernel
theorem dX12_statement_21 : decode cX12_statement 21 = .ok (.invokevirtual 151, 3) := by decide +kernel
theorem dX12_statement_24 : decode cX12_statement 24 = .ok (.goto 170, 3) := by decide +kernel
theorem dX12_statement_27 : decode cX12_statement 27 = .ok (.aload_n 0, 1) := by decide +kernel
theorem dX12_statement_28 : decode cX12_statement 28 = .ok (.ldc 154, 2) := by decide +kernel
theorem dX12_statement_30 : decode cX12_statement 30 = .ok (.invokevirtual 113, 3) := by decide +kernel
theorem dX12_statement_33 : decode cX12_statement 33 = .ok (.ifCond .eq 11, 3) := by decide +kernel
theorem dX12_statement_36 : decode cX12_statement 36 = .ok (.aload_n 0, 1) := by decide +kernel
theorem dX12_statement_37 : decode cX12_statement 37 = .ok (.iload_n 1, 1) := by decide +kernel
theorem dX12_statement_38 : decode cX12_statement 38 = .ok (.invokevirtual 156, 3) := by decide +kernel
theorem dX12_statement_41 : decode cX12_statement 41 = .ok (.goto 153, 3) := by decide +kernel
theorem dX12_statement_44 : decode cX12_statement 44 = .ok (.aload_n 0, 1) := by decide +kernel
theorem dX12_statement_45 : decode cX12_statement 45 = .ok (.ldc 159, 2) := by decide +kernel
theorem dX12_statement_47 : decode cX12_statement 47 = .ok (.invokevirtual 113, 3) := by decide +kernel
theorem dX12_statement_50 : decode cX12_statement 50 = .ok (.ifCond .eq 11, 3) := by decide +kernel
theorem dX12_statement_53 : decode cX12_statement 53 = .ok (.aload_n 0, 1) := by decide +kernel
theorem dX12_statement_54 : decode cX12_statement 54 = .ok (.iload_n 1, 1) := by decide +kernel
theorem dX12_statement_55 : decode cX12_statement 55 = .ok (.invokevirtual 161, 3) := by decide +kernel
theorem dX12_statement_58 : decode cX12_statement 58 = .ok (.goto 136, 3) := by decide +kernel
theorem dX12_statement_61 : decode cX12_statement 61 = .ok (.aload_n 0, 1) := by decide +kernel
theorem dX12_statement_62 : decode cX12_statement 62 = .ok (.ldc 164, 2) := by decide +kernel
theorem dX12_statement_64 : decode cX12_statement 64 = .ok (.invokevirtual 113, 3) := by decide +kernel
theorem dX12_statement_67 : decode cX12_statement 67 = .ok (.ifCond .eq 11, 3) := by decide +kernel
theorem dX12_statement_70 : decode cX12_statement 70 = .ok (.aload_n 0, 1) := by decide +kernel
theorem dX12_statement_71 : decode cX12_statement 71 = .ok (.iload_n 1, 1) := by decide +kernel
theorem dX12_statement_72 : decode cX12_statement 72 = .ok (.invokevirtual 166, 3) := by decide +kernel
theorem dX12_statement_75 : decode cX12_statement 75 = .ok (.goto 119, 3) := by decide +kernel
theorem dX12_statement_78 : decode cX12_statement 78 = .ok (.aload_n 0, 1) := by decide +kernel
theorem dX12_statement_79 : decode cX12_statement 79 = .ok (.ldc 169, 2) := by decide +kernel
theorem dX12_statement_81 : decode cX12_statement 81 = .ok (.invokevirtual 113, 3) := by decide +kernel
theorem dX12_statement_84 : decode cX12_statement 84 = .ok (.ifCond .eq 26, 3) := by decide +kernel
theorem dX12_statement_87 : decode cX12_statement 87 = .ok (.aload_n 0, 1) := by decide +kernel
theorem dX12_statement_88 : decode cX12_statement 88 = .ok (.iconst 0, 1) := by decide +kernel
theorem dX12_statement_89 : decode cX12_statement 89 = .ok (.iload_n 1, 1) := by decide +kernel
theorem dX12_statement_90 : decode cX12_statement 90 = .ok (.invokevirtual 171, 3) := by decide +kernel
theorem dX12_statement_93 : decode cX12_statement 93 = .ok (.aload_n 0, 1) := by decide +kernel
theorem dX12_statement_94 : decode cX12_statement 94 = .ok (.getfield 20, 3) := by decide +kernel
theorem dX12_statement_97 : decode cX12_statement 97 = .ok (.bipush 9, 2) := by decide +kernel
theorem dX12_statement_99 : decode cX12_statement 99 = .ok (.aload_n 0, 1) := by decide +kernel
theorem dX12_statement_100 : decode cX12_statement 100 = .ok (.iconst 0, 1) := by decide +kernel
theorem dX12_statement_101 : decode cX12_statement 101 = .ok (.bipush 99, 2) := by decide +kernel
theorem dX12_statement_103 : decode cX12_statement 103 = .ok (.invokevirtual 123, 3) := by decide +kernel
theorem dX12_statement_106 : decode cX12_statement 106 = .ok (.iastore, 1) := by decide +kernel
theorem dX12_statement_107 : decode cX12_statement 107 = .ok (.goto 87, 3) := by decide +kernel
theorem dX12_statement_110 : decode cX12_statement 110 = .ok (.aload_n 0, 1) := by decide +kernel
theorem dX12_statement_111 : decode cX12_statement 111 = .ok (.ldc 174, 2) := by decide +kernel
theorem dX12_statement_113 : decode cX12_statement 113 = .ok (.invokevirtual 113, 3) := by decide +kernel
theorem dX12_statement_116 : decode cX12_statement 116 = .ok (.ifCond .eq 41, 3) := by decide +kernel
theorem dX12_statement_119 : decode cX12_statement 119 = .ok (.aload_n 0, 1) := by decide +kernel
theorem dX12_statement_120 : decode cX12_statement 120 = .ok (.iconst 1, 1) := by decide +kernel
theorem dX12_statement_121 : decode cX12_statement 121 = .ok (.iload_n 1, 1) := by decide +kernel
theorem dX12_statement_122 : decode cX12_statement 122 = .ok (.invokevirtual 171, 3) := by decide +kernel
theorem dX12_statement_125 : decode cX12_statement 125 = .ok (.aload_n 0, 1) := by decide +kernel
theorem dX12_statement_126 : decode cX12_statement 126 = .ok (.getfield 20, 3) := by decide +kernel
theorem dX12_statement_129 : decode cX12_statement 129 = .ok (.bipush 10, 2) := by decide +kernel
theorem dX12_statement_131 : decode cX12_statement 131 = .ok (.aload_n 0, 1) := by decide +kernel
theorem dX12_statement_132 : decode cX12_statement 132 = .ok (.iconst 0, 1) := by decide +kernel
theorem dX12_statement_133 : decode cX12_statement 133 = .ok (.bipush 100, 2) := by decide +kernel
theorem dX12_statement_135 : decode cX12_statement 135 = .ok (.invokevirtual 123, 3) := by decide +kernel
theorem dX12_statement_138 : decode cX12_statement 138 = .ok (.iastore, 1) := by decide +kernel
theorem dX12_statement_139 : decode cX12_statement 139 = .ok (.aload_n 0, 1) := by decide +kernel
theorem dX12_statement_140 : decode cX12_statement 140 = .ok (.getfield 20, 3) := by decide +kernel
theorem dX12_statement_143 : decode cX12_statement 143 = .ok (.bipush 11, 2) := by decide +kernel
theorem dX12_statement_145 : decode cX12_statement 145 = .ok (.aload_n 0, 1) := by decide +kernel
theorem dX12_statement_146 : decode cX12_statement 146 = .ok (.iconst 1, 1) := by decide +kernel
theorem dX12_statement_147 : decode cX12_statement 147 = .ok (.sipush 999, 3) := by decide +kernel
theorem dX12_statement_150 : decode cX12_statement 150 = .ok (.invokevirtual 123, 3) := by decide +kernel
theorem dX12_statement_153 : decode cX12_statement 153 = .ok (.iastore, 1) := by decide +kernel
theorem dX12_statement_154 : decode cX12_statement 154 = .ok (.goto 40, 3) := by decide +kernel
theorem dX12_statement_157 : decode cX12_statement 157 = .ok (.aload_n 0, 1) := by decide +kernel
theorem dX12_statement_158 : decode cX12_statement 158 = .ok (.ldc 176, 2) := by decide +kernel
theorem dX12_statement_160 : decode cX12_statement 160 = .ok (.invokevirtual 113, 3) := by decide +kernel
theorem dX12_statement_163 : decode cX12_statement 163 = .ok (.ifCond .eq 24, 3) := by decide +kernel
theorem dX12_statement_166 : decode cX12_statement 166 = .ok (.aload_n 0, 1) := by decide +kernel
theorem dX12_statement_167 : decode cX12_statement 167 = .ok (.iconst 2, 1) := by decide +kernel
theorem dX12_statement_168 : decode cX12_statement 168 = .ok (.iload_n 1, 1) := by decide +kernel
theorem dX12_statement_169 : decode cX12_statement 169 = .ok (.invokevirtual 171, 3) := by decide +kernel
theorem dX12_statement_172 : decode cX12_statement 172 = .ok (.aload_n 0, 1) := by decide +kernel
theorem dX12_statement_173 : decode cX12_statement 173 = .ok (.getfield 20, 3) := by decide +kernel
theorem dX12_statement_176 : decode cX12_statement 176 = .ok (.bipush 12, 2) := by decide +kernel
theorem dX12_statement_178 : decode cX12_statement 178 = .ok (.iconst 1, 1) := by decide +kernel
theorem dX12_statement_179 : decode cX12_statement 179 = .ok (.iastore, 1) := by decide +kernel
theorem dX12_statement_180 : decode cX12_statement 180 = .ok (.aload_n 0, 1) := by decide +kernel
theorem dX12_statement_181 : decode cX12_statement 181 = .ok (.invokevirtual 104, 3) := by decide +kernel
theorem dX12_statement_184 : decode cX12_statement 184 = .ok (.goto 10, 3) := by decide +kernel
theorem dX12_statement_187 : decode cX12_statement 187 = .ok (.aload_n 0, 1) := by decide +kernel
theorem dX12_statement_188 : decode cX12_statement 188 = .ok (.bipush (-2), 2) := by decide +kernel
theorem dX12_statement_190 : decode cX12_statement 190 = .ok (.iload_n 1, 1) := by decide +kernel
theorem dX12_statement_191 : decode cX12_statement 191 = .ok (.invokevirtual 85, 3) := by decide +kernel
theorem dX12_statement_194 : decode cX12_statement 194 = .ok (.aload_n 0, 1) := by decide +kernel
theorem dX12_statement_195 : decode cX12_statement 195 = .ok (.bipush 59, 2) := by decide +kernel
theorem dX12_statement_197 : decode cX12_statement 197 = .ok (.invokevirtual 107, 3) := by decide +kernel
theorem dX12_statement_200 : decode cX12_statement 200 = .ok (.return_, 1) := by decide +kernel
theorem dX12_load_0 : decode cX12_load 0 = .ok (.aload_n 0, 1) := by decide +kernel
theorem dX12_load_1 : decode cX12_load 1 = .ok (.iconst 0, 1) := by decide +kernel
theorem dX12_load_2 : decode cX12_load 2 = .ok (.putfield 42, 3) := by decide +kernel
theorem dX12_load_5 : decode cX12_load 5 = .ok (.aload_n 0, 1) := by decide +kernel
theorem dX12_load_6 : decode cX12_load 6 = .ok (.iload_n 1, 1) := by decide +kernel
theorem dX12_load_7 : decode cX12_load 7 = .ok (.iconst 0, 1) := by decide +kernel
theorem dX12_load_8 : decode cX12_load 8 = .ok (.aload_n 0, 1) := by decide +kernel
theorem dX12_load_9 : decode cX12_load 9 = .ok (.getfield 45, 3) := by decide +kernel
theorem dX12_load_12 : decode cX12_load 12 = .ok (.invokestatic 64, 3) := by decide +kernel
theorem dX12_load_15 : decode cX12_load 15 = .ok (.ifCond .ne 7, 3) := by decide +kernel
theorem dX12_load_18 : decode cX12_load 18 = .ok (.iconst 1, 1) := by decide +kernel
theorem dX12_load_19 : decode cX12_load 19 = .ok (.goto 4, 3) := by decide +kernel
theorem dX12_load_22 : decode cX12_load 22 = .ok (.iconst 0, 1) := by decide +kernel
theorem dX12_load_23 : decode cX12_load 23 = .ok (.iconst 1, 1) := by decide +kernel
theorem dX12_load_24 : decode cX12_load 24 = .ok (.invokevirtual 178, 3) := by decide +kernel
theorem dX12_load_27 : decode cX12_load 27 = .ok (.ifCond .eq 5, 3) := by decide +kernel
theorem dX12_load_30 : decode cX12_load 30 = .ok (.iconst 0, 1) := by decide +kernel
theorem dX12_load_31 : decode cX12_load 31 = .ok (.ireturn, 1) := by decide +kernel
theorem dX12_load_32 : decode cX12_load 32 = .ok (.aload_n 0, 1) := by decide +kernel
theorem dX12_load_33 : decode cX12_load 33 = .ok (.iconst 0, 1) := by decide +kernel
theorem dX12_load_34 : decode cX12_load 34 = .ok (.putfield 45, 3) := by decide +kernel
theorem dX12_load_37 : decode cX12_load 37 = .ok (.aload_n 0, 1) := by decide +kernel
theorem dX12_load_38 : decode cX12_load 38 = .ok (.iload_n 1, 1) := by decide +kernel
theorem dX12_load_39 : decode cX12_load 39 = .ok (.putfield 48, 3) := by decide +kernel
theorem dX12_load_42 : decode cX12_load 42 = .ok (.aload_n 0, 1) := by decide +kernel
theorem dX12_load_43 : decode cX12_load 43 = .ok (.iconst 0, 1) := by decide +kernel
theorem dX12_load_44 : decode cX12_load 44 = .ok (.putfield 51, 3) := by decide +kernel
theorem dX12_load_47 : decode cX12_load 47 = .ok (.aload_n 0, 1) := by decide +kernel
theorem dX12_load_48 : decode cX12_load 48 = .ok (.iconst 0, 1) := by decide +kernel
theorem dX12_load_49 : decode cX12_load 49 = .ok (.putfield 58, 3) := by decide +kernel
theorem dX12_load_52 : decode cX12_load 52 = .ok (.aload_n 0, 1) := by decide +kernel
theorem dX12_load_53 : decode cX12_load 53 = .ok (.iconst (-1), 1) := by decide +kernel
theorem dX12_load_54 : decode cX12_load 54 = .ok (.putfield 61, 3) := by decide +kernel
theorem dX12_load_57 : decode cX12_load 57 = .ok (.aload_n 0, 1) := by decide +kernel
theorem dX12_load_58 : decode cX12_load 58 = .ok (.iconst 0, 1) := by decide +kernel
theorem dX12_load_59 : decode cX12_load 59 = .ok (.putfield 101, 3) := by decide +kernel
theorem dX12_load_62 : decode cX12_load 62 = .ok (.aload_n 0, 1) := by decide +kernel
theorem dX12_load_63 : decode cX12_load 63 = .ok (.iconst 0, 1) := by decide +kernel
theorem dX12_load_64 : decode cX12_load 64 = .ok (.putfield 135, 3) := by decide +kernel
theorem dX12_load_67 : decode cX12_load 67 = .ok (.aload_n 0, 1) := by decide +kernel
theorem dX12_load_68 : decode cX12_load 68 = .ok (.getfield 20, 3) := by decide +kernel
theorem dX12_load_71 : decode cX12_load 71 = .ok (.invokestatic 38, 3) := by decide +kernel
theorem dX12_load_74 : decode cX12_load 74 = .ok (.aload_n 0, 1) := by decide +kernel
theorem dX12_load_75 : decode cX12_load 75 = .ok (.ldc 182, 2) := by decide +kernel
theorem dX12_load_77 : decode cX12_load 77 = .ok (.invokevirtual 113, 3) := by decide +kernel
theorem dX12_load_80 : decode cX12_load 80 = .ok (.ifCond .ne 13, 3) := by decide +kernel
theorem dX12_load_83 : decode cX12_load 83 = .ok (.aload_n 0, 1) := by decide +kernel
theorem dX12_load_84 : decode cX12_load 84 = .ok (.bipush (-2), 2) := by decide +kernel
theorem dX12_load_86 : decode cX12_load 86 = .ok (.aload_n 0, 1) := by decide +kernel
theorem dX12_load_87 : decode cX12_load 87 = .ok (.getfield 51, 3) := by decide +kernel
theorem dX12_load_90 : decode cX12_load 90 = .ok (.invokevirtual 85, 3) := by decide +kernel
theorem dX12_load_93 : decode cX12_load 93 = .ok (.aload_n 0, 1) := by decide +kernel
theorem dX12_load_94 : decode cX12_load 94 = .ok (.bipush 59, 2) := by decide +kernel
theorem dX12_load_96 : decode cX12_load 96 = .ok (.invokevirtual 107, 3) := by decide +kernel
theorem dX12_load_99 : decode cX12_load 99 = .ok (.aload_n 0, 1) := by decide +kernel
theorem dX12_load_100 : decode cX12_load 100 = .ok (.invokevirtual 68, 3) := by decide +kernel
theorem dX12_load_103 : decode cX12_load 103 = .ok (.ifCond .eq 18, 3) := by decide +kernel
theorem dX12_load_106 : decode cX12_load 106 = .ok (.aload_n 0, 1) := by decide +kernel
theorem dX12_load_107 : decode cX12_load 107 = .ok (.invokevirtual 72, 3) := by decide +kernel
theorem dX12_load_110 : decode cX12_load 110 = .ok (.iconst (-1), 1) := by decide +kernel
theorem dX12_load_111 : decode cX12_load 111 = .ok (.if_icmp .eq 10, 3) := by decide +kernel
theorem dX12_load_114 : decode cX12_load 114 = .ok (.aload_n 0, 1) := by decide +kernel
theorem dX12_load_115 : decode cX12_load 115 = .ok (.invokevirtual 184, 3) := by decide +kernel
theorem dX12_load_118 : decode cX12_load 118 = .ok (.goto (-19), 3) := by decide +kernel
theorem dX12_load_121 : decode cX12_load 121 = .ok (.aload_n 0, 1) := by decide +kernel
theorem dX12_load_122 : decode cX12_load 122 = .ok (.aload_n 0, 1) := by decide +kernel
theorem dX12_load_123 : decode cX12_load 123 = .ok (.getfield 61, 3) := by decide +kernel
theorem dX12_load_126 : decode cX12_load 126 = .ok (.putfield 13, 3) := by decide +kernel
theorem dX12_load_129 : decode cX12_load 129 = .ok (.aload_n 0, 1) := by decide +kernel
theorem dX12_load_130 : decode cX12_load 130 = .ok (.invokevirtual 68, 3) := by decide +kernel
theorem dX12_load_133 : decode cX12_load 133 = .ok (.ifCond .ne 8, 3) := by decide +kernel
theorem dX12_load_136 : decode cX12_load 136 = .ok (.aload_n 0, 1) := by decide +kernel
theorem dX12_load_137 : decode cX12_load 137 = .ok (.getfield 58, 3) := by decide +kernel
theorem dX12_load_140 : decode cX12_load 140 = .ok (.ireturn, 1) := by decide +kernel
theorem dX12_load_141 : decode cX12_load 141 = .ok (.iconst 0, 1) := by decide +kernel
theorem dX12_load_142 : decode cX12_load 142 = .ok (.istore_n 2, 1) := by decide +kernel
theorem dX12_load_143 : decode cX12_load 143 = .ok (.iload_n 2, 1) := by decide +kernel
theorem dX12_load_144 : decode cX12_load 144 = .ok (.aload_n 0, 1) := by decide +kernel
theorem dX12_load_145 : decode cX12_load 145 = .ok (.getfield 20, 3) := by decide +kernel
theorem dX12_load_148 : decode cX12_load 148 = .ok (.iconst 1, 1) := by decide +kernel
theorem dX12_load_149 : decode cX12_load 149 = .ok (.iaload, 1) := by decide +kernel
theorem dX12_load_150 : decode cX12_load 150 = .ok (.if_icmp .ge 52, 3) := by decide +kernel
theorem dX12_load_153 : decode cX12_load 153 = .ok (.iconst 0, 1) := by decide +kernel
theorem dX12_load_154 : decode cX12_load 154 = .ok (.istore_n 3, 1) := by decide +kernel
theorem dX12_load_155 : decode cX12_load 155 = .ok (.iload_n 3, 1) := by decide +kernel
theorem dX12_load_156 : decode cX12_load 156 = .ok (.aload_n 0, 1) := by decide +kernel
theorem dX12_load_157 : decode cX12_load 157 = .ok (.getfield 20, 3) := by decide +kernel
theorem dX12_load_160 : decode cX12_load 160 = .ok (.iconst 2, 1) := by decide +kernel
theorem dX12_load_161 : decode cX12_load 161 = .ok (.iaload, 1) := by decide +kernel
theorem dX12_load_162 : decode cX12_load 162 = .ok (.if_icmp .ge 34, 3) := by decide +kernel
theorem dX12_load_165 : decode cX12_load 165 = .ok (.aload_n 0, 1) := by decide +kernel
theorem dX12_load_166 : decode cX12_load 166 = .ok (.getfield 20, 3) := by decide +kernel
theorem dX12_load_169 : decode cX12_load 169 = .ok (.iload_n 2, 1) := by decide +kernel
theorem dX12_load_170 : decode cX12_load 170 = .ok (.iload_n 3, 1) := by decide +kernel
theorem dX12_load_171 : decode cX12_load 171 = .ok (.invokestatic 187, 3) := by decide +kernel
theorem dX12_load_174 : decode cX12_load 174 = .ok (.iconst 0, 1) := by decide +kernel
theorem dX12_load_175 : decode cX12_load 175 = .ok (.iadd, 1) := by decide +kernel
theorem dX12_load_176 : decode cX12_load 176 = .ok (.aload_n 0, 1) := by decide +kernel
theorem dX12_load_177 : decode cX12_load 177 = .ok (.getfield 20, 3) := by decide +kernel
theorem dX12_load_180 : decode cX12_load 180 = .ok (.bipush 15, 2) := by decide +kernel
theorem dX12_load_182 : decode cX12_load 182 = .ok (.iconst 3, 1) := by decide +kernel
theorem dX12_load_183 : decode cX12_load 183 = .ok (.iload_n 2, 1) := by decide +kernel
theorem dX12_load_184 : decode cX12_load 184 = .ok (.imul, 1) := by decide +kernel
theorem dX12_load_185 : decode cX12_load 185 = .ok (.iadd, 1) := by decide +kernel
theorem dX12_load_186 : decode cX12_load 186 = .ok (.iconst 1, 1) := by decide +kernel
theorem dX12_load_187 : decode cX12_load 187 = .ok (.iadd, 1) := by decide +kernel
theorem dX12_load_188 : decode cX12_load 188 = .ok (.iaload, 1) := by decide +kernel
theorem dX12_load_189 : decode cX12_load 189 = .ok (.iastore, 1) := by decide +kernel
theorem dX12_load_190 : decode cX12_load 190 = .ok (.iinc 3 1, 3) := by decide +kernel
theorem dX12_load_193 : decode cX12_load 193 = .ok (.goto (-38), 3) := by decide +kernel
theorem dX12_load_196 : decode cX12_load 196 = .ok (.iinc 2 1, 3) := by decide +kernel
theorem dX12_load_199 : decode cX12_load 199 = .ok (.goto (-56), 3) := by decide +kernel
theorem dX12_load_202 : decode cX12_load 202 = .ok (.aload_n 0, 1) := by decide +kernel
theorem dX12_load_203 : decode cX12_load 203 = .ok (.invokevirtual 190, 3) := by decide +kernel
theorem dX12_load_206 : decode cX12_load 206 = .ok (.aload_n 0, 1) := by decide +kernel
theorem dX12_load_207 : decode cX12_load 207 = .ok (.getfield 20, 3) := by decide +kernel
theorem dX12_load_210 : decode cX12_load 210 = .ok (.aload_n 0, 1) := by decide +kernel
theorem dX12_load_211 : decode cX12_load 211 = .ok (.getfield 17, 3) := by decide +kernel
theorem dX12_load_214 : decode cX12_load 214 = .ok (.sipush 2105, 3) := by decide +kernel
theorem dX12_load_217 : decode cX12_load 217 = .ok (.invokestatic 193, 3) := by decide +kernel
theorem dX12_load_220 : decode cX12_load 220 = .ok (.aload_n 0, 1) := by decide +kernel
theorem dX12_load_221 : decode cX12_load 221 = .ok (.getfield 17, 3) := by decide +kernel
theorem dX12_load_224 : decode cX12_load 224 = .ok (.iconst 3, 1) := by decide +kernel
theorem dX12_load_225 : decode cX12_load 225 = .ok (.iaload, 1) := by decide +kernel
theorem dX12_load_226 : decode cX12_load 226 = .ok (.ireturn, 1) := by decide +kernel
theorem dX12_errorOffset_0 : decode cX12_errorOffset 0 = .ok (.aload_n 0, 1) := by decide +kernel
theorem dX12_errorOffset_1 : decode cX12_errorOffset 1 = .ok (.iconst 0, 1) := by decide +kernel
theorem dX12_errorOffset_2 : decode cX12_errorOffset 2 = .ok (.putfield 42, 3) := by decide +kernel
theorem dX12_errorOffset_5 : decode cX12_errorOffset 5 = .ok (.aload_n 0, 1) := by decide +kernel
theorem dX12_errorOffset_6 : decode cX12_errorOffset 6 = .ok (.getfield 13, 3) := by decide +kernel
theorem dX12_errorOffset_9 : decode cX12_errorOffset 9 = .ok (.ireturn, 1) := by decide +kernel
theorem dX12_pairAt_0 : decode cX12_pairAt 0 = .ok (.sipush 561, 3) := by decide +kernel
theorem dX12_pairAt_3 : decode cX12_pairAt 3 = .ok (.iconst 4, 1) := by decide +kernel
theorem dX12_pairAt_4 : decode cX12_pairAt 4 = .ok (.bipush 6, 2) := by decide +kernel
theorem dX12_pairAt_6 : decode cX12_pairAt 6 = .ok (.iload_n 0, 1) := by decide +kernel
theorem dX12_pairAt_7 : decode cX12_pairAt 7 = .ok (.imul, 1) := by decide +kernel
theorem dX12_pairAt_8 : decode cX12_pairAt 8 = .ok (.iload_n 1, 1) := by decide +kernel
theorem dX12_pairAt_9 : decode cX12_pairAt 9 = .ok (.iadd, 1) := by decide +kernel
theorem dX12_pairAt_10 : decode cX12_pairAt 10 = .ok (.imul, 1) := by decide +kernel
theorem dX12_pairAt_11 : decode cX12_pairAt 11 = .ok (.iadd, 1) := by decide +kernel
theorem dX12_pairAt_12 : decode cX12_pairAt 12 = .ok (.ireturn, 1) := by decide +kernel
theorem dX12_ofGate_0 : decode cX12_ofGate 0 = .ok (.aload_n 0, 1) := by decide +kernel
theorem dX12_ofGate_1 : decode cX12_ofGate 1 = .ok (.getfield 17, 3) := by decide +kernel
theorem dX12_ofGate_4 : decode cX12_ofGate 4 = .ok (.bipush 15, 2) := by decide +kernel
theorem dX12_ofGate_6 : decode cX12_ofGate 6 = .ok (.iconst 3, 1) := by decide +kernel
theorem dX12_ofGate_7 : decode cX12_ofGate 7 = .ok (.iload_n 1, 1) := by decide +kernel
theorem dX12_ofGate_8 : decode cX12_ofGate 8 = .ok (.imul, 1) := by decide +kernel
theorem dX12_ofGate_9 : decode cX12_ofGate 9 = .ok (.iadd, 1) := by decide +kernel
theorem dX12_ofGate_10 : decode cX12_ofGate 10 = .ok (.iload_n 2, 1) := by decide +kernel
theorem dX12_ofGate_11 : decode cX12_ofGate 11 = .ok (.iadd, 1) := by decide +kernel
theorem dX12_ofGate_12 : decode cX12_ofGate 12 = .ok (.iaload, 1) := by decide +kernel
theorem dX12_ofGate_13 : decode cX12_ofGate 13 = .ok (.ireturn, 1) := by decide +kernel
theorem dX12_ofFlow_0 : decode cX12_ofFlow 0 = .ok (.aload_n 0, 1) := by decide +kernel
theorem dX12_ofFlow_1 : decode cX12_ofFlow 1 = .ok (.getfield 17, 3) := by decide +kernel
theorem dX12_ofFlow_4 : decode cX12_ofFlow 4 = .ok (.bipush 33, 2) := by decide +kernel
theorem dX12_ofFlow_6 : decode cX12_ofFlow 6 = .ok (.bipush 8, 2) := by decide +kernel
theorem dX12_ofFlow_8 : decode cX12_ofFlow 8 = .ok (.iload_n 1, 1) := by decide +kernel
theorem dX12_ofFlow_9 : decode cX12_ofFlow 9 = .ok (.imul, 1) := by decide +kernel
theorem dX12_ofFlow_10 : decode cX12_ofFlow 10 = .ok (.iadd, 1) := by decide +kernel
theorem dX12_ofFlow_11 : decode cX12_ofFlow 11 = .ok (.iload_n 2, 1) := by decide +kernel
theorem dX12_ofFlow_12 : decode cX12_ofFlow 12 = .ok (.iadd, 1) := by decide +kernel
theorem dX12_ofFlow_13 : decode cX12_ofFlow 13 = .ok (.iaload, 1) := by decide +kernel
theorem dX12_ofFlow_14 : decode cX12_ofFlow 14 = .ok (.ireturn, 1) := by decide +kernel
theorem dX12_packetAt_0 : decode cX12_packetAt 0 = .ok (.bipush 81, 2) := by decide +kernel
theorem dX12_packetAt_2 : decode cX12_packetAt 2 = .ok (.bipush 9, 2) := by decide +kernel
theorem dX12_packetAt_4 : decode cX12_packetAt 4 = .ok (.iload_n 0, 1) := by decide +kernel
theorem dX12_packetAt_5 : decode cX12_packetAt 5 = .ok (.imul, 1) := by decide +kernel
theorem dX12_packetAt_6 : decode cX12_packetAt 6 = .ok (.iadd, 1) := by decide +kernel
theorem dX12_packetAt_7 : decode cX12_packetAt 7 = .ok (.ireturn, 1) := by decide +kernel
theorem dX12_couponAt_0 : decode cX12_couponAt 0 = .ok (.sipush 441, 3) := by decide +kernel
theorem dX12_couponAt_3 : decode cX12_couponAt 3 = .ok (.iconst 4, 1) := by decide +kernel
theorem dX12_couponAt_4 : decode cX12_couponAt 4 = .ok (.iload_n 0, 1) := by decide +kernel
theorem dX12_couponAt_5 : decode cX12_couponAt 5 = .ok (.imul, 1) := by decide +kernel
theorem dX12_couponAt_6 : decode cX12_couponAt 6 = .ok (.iadd, 1) := by decide +kernel
theorem dX12_couponAt_7 : decode cX12_couponAt 7 = .ok (.ireturn, 1) := by decide +kernel
theorem dX12_gateOf_0 : decode cX12_gateOf 0 = .ok (.aload_n 0, 1) := by decide +kernel
theorem dX12_gateOf_1 : decode cX12_gateOf 1 = .ok (.aload_n 0, 1) := by decide +kernel
theorem dX12_gateOf_2 : decode cX12_gateOf 2 = .ok (.getfield 17, 3) := by decide +kernel
theorem dX12_gateOf_5 : decode cX12_gateOf 5 = .ok (.iload_n 1, 1) := by decide +kernel
theorem dX12_gateOf_6 : decode cX12_gateOf 6 = .ok (.invokestatic 197, 3) := by decide +kernel
theorem dX12_gateOf_9 : decode cX12_gateOf 9 = .ok (.iconst 0, 1) := by decide +kernel
theorem dX12_gateOf_10 : decode cX12_gateOf 10 = .ok (.iadd, 1) := by decide +kernel
theorem dX12_gateOf_11 : decode cX12_gateOf 11 = .ok (.iaload, 1) := by decide +kernel
theorem dX12_gateOf_12 : decode cX12_gateOf 12 = .ok (.iconst 4, 1) := by decide +kernel
theorem dX12_gateOf_13 : decode cX12_gateOf 13 = .ok (.aload_n 0, 1) := by decide +kernel
theorem dX12_gateOf_14 : decode cX12_gateOf 14 = .ok (.getfield 17, 3) := by decide +kernel
theorem dX12_gateOf_17 : decode cX12_gateOf 17 = .ok (.iload_n 1, 1) := by decide +kernel
theorem dX12_gateOf_18 : decode cX12_gateOf 18 = .ok (.invokestatic 197, 3) := by decide +kernel
theorem dX12_gateOf_21 : decode cX12_gateOf 21 = .ok (.iconst 4, 1) := by decide +kernel
theorem dX12_gateOf_22 : decode cX12_gateOf 22 = .ok (.iadd, 1) := by decide +kernel
theorem dX12_gateOf_23 : decode cX12_gateOf 23 = .ok (.iaload, 1) := by decide +kernel
theorem dX12_gateOf_24 : decode cX12_gateOf 24 = .ok (.iadd, 1) := by decide +kernel
theorem dX12_gateOf_25 : decode cX12_gateOf 25 = .ok (.invokevirtual 200, 3) := by decide +kernel
theorem dX12_gateOf_28 : decode cX12_gateOf 28 = .ok (.ireturn, 1) := by decide +kernel
theorem dX12_valuesOf_0 : decode cX12_valuesOf 0 = .ok (.iconst 0, 1) := by decide +kernel
theorem dX12_valuesOf_1 : decode cX12_valuesOf 1 = .ok (.istore_n 2, 1) := by decide +kernel
theorem dX12_valuesOf_2 : decode cX12_valuesOf 2 = .ok (.iconst 0, 1) := by decide +kernel
theorem dX12_valuesOf_3 : decode cX12_valuesOf 3 = .ok (.istore_n 3, 1) := by decide +kernel
theorem dX12_valuesOf_4 : decode cX12_valuesOf 4 = .ok (.iload_n 3, 1) := by decide +kernel
theorem dX12_valuesOf_5 : decode cX12_valuesOf 5 = .ok (.aload_n 0, 1) := by decide +kernel
theorem dX12_valuesOf_6 : decode cX12_valuesOf 6 = .ok (.getfield 17, 3) := by decide +kernel
theorem dX12_valuesOf_9 : decode cX12_valuesOf 9 = .ok (.iconst 4, 1) := by decide +kernel
theorem dX12_valuesOf_10 : decode cX12_valuesOf 10 = .ok (.iaload, 1) := by decide +kernel
theorem dX12_valuesOf_11 : decode cX12_valuesOf 11 = .ok (.if_icmp .ge 42, 3) := by decide +kernel
theorem dX12_valuesOf_14 : decode cX12_valuesOf 14 = .ok (.iload_n 2, 1) := by decide +kernel
theorem dX12_valuesOf_15 : decode cX12_valuesOf 15 = .ok (.aload_n 0, 1) := by decide +kernel
theorem dX12_valuesOf_16 : decode cX12_valuesOf 16 = .ok (.getfield 17, 3) := by decide +kernel
theorem dX12_valuesOf_19 : decode cX12_valuesOf 19 = .ok (.iload_n 3, 1) := by decide +kernel
theorem dX12_valuesOf_20 : decode cX12_valuesOf 20 = .ok (.invokestatic 203, 3) := by decide +kernel
theorem dX12_valuesOf_23 : decode cX12_valuesOf 23 = .ok (.iconst 0, 1) := by decide +kernel
theorem dX12_valuesOf_24 : decode cX12_valuesOf 24 = .ok (.iadd, 1) := by decide +kernel
theorem dX12_valuesOf_25 : decode cX12_valuesOf 25 = .ok (.iaload, 1) := by decide +kernel
theorem dX12_valuesOf_26 : decode cX12_valuesOf 26 = .ok (.iload_n 1, 1) := by decide +kernel
theorem dX12_valuesOf_27 : decode cX12_valuesOf 27 = .ok (.if_icmp .ne 17, 3) := by decide +kernel
theorem dX12_valuesOf_30 : decode cX12_valuesOf 30 = .ok (.aload_n 0, 1) := by decide +kernel
theorem dX12_valuesOf_31 : decode cX12_valuesOf 31 = .ok (.getfield 17, 3) := by decide +kernel
theorem dX12_valuesOf_34 : decode cX12_valuesOf 34 = .ok (.iload_n 3, 1) := by decide +kernel
theorem dX12_valuesOf_35 : decode cX12_valuesOf 35 = .ok (.invokestatic 203, 3) := by decide +kernel
theorem dX12_valuesOf_38 : decode cX12_valuesOf 38 = .ok (.iconst 1, 1) := by decide +kernel
theorem dX12_valuesOf_39 : decode cX12_valuesOf 39 = .ok (.iadd, 1) := by decide +kernel
theorem dX12_valuesOf_40 : decode cX12_valuesOf 40 = .ok (.iaload, 1) := by decide +kernel
theorem dX12_valuesOf_41 : decode cX12_valuesOf 41 = .ok (.goto 4, 3) := by decide +kernel
theorem dX12_valuesOf_44 : decode cX12_valuesOf 44 = .ok (.iconst 0, 1) := by decide +kernel
theorem dX12_valuesOf_45 : decode cX12_valuesOf 45 = .ok (.iadd, 1) := by decide +kernel
theorem dX12_valuesOf_46 : decode cX12_valuesOf 46 = .ok (.istore_n 2, 1) := by decide +kernel
theorem dX12_valuesOf_47 : decode cX12_valuesOf 47 = .ok (.iinc 3 1, 3) := by decide +kernel
theorem dX12_valuesOf_50 : decode cX12_valuesOf 50 = .ok (.goto (-46), 3) := by decide +kernel
theorem dX12_valuesOf_53 : decode cX12_valuesOf 53 = .ok (.iload_n 2, 1) := by decide +kernel
theorem dX12_valuesOf_54 : decode cX12_valuesOf 54 = .ok (.ireturn, 1) := by decide +kernel
theorem dX12_couponsOf_0 : decode cX12_couponsOf 0 = .ok (.iconst 0, 1) := by decide +kernel
theorem dX12_couponsOf_1 : decode cX12_couponsOf 1 = .ok (.istore_n 2, 1) := by decide +kernel
theorem dX12_couponsOf_2 : decode cX12_couponsOf 2 = .ok (.iconst 0, 1) := by decide +kernel
theorem dX12_couponsOf_3 : decode cX12_couponsOf 3 = .ok (.istore_n 3, 1) := by decide +kernel
theorem dX12_couponsOf_4 : decode cX12_couponsOf 4 = .ok (.iload_n 3, 1) := by decide +kernel
theorem dX12_couponsOf_5 : decode cX12_couponsOf 5 = .ok (.aload_n 0, 1) := by decide +kernel
theorem dX12_couponsOf_6 : decode cX12_couponsOf 6 = .ok (.getfield 17, 3) := by decide +kernel
theorem dX12_couponsOf_9 : decode cX12_couponsOf 9 = .ok (.iconst 4, 1) := by decide +kernel
theorem dX12_couponsOf_10 : decode cX12_couponsOf 10 = .ok (.iaload, 1) := by decide +kernel
theorem dX12_couponsOf_11 : decode cX12_couponsOf 11 = .ok (.if_icmp .ge 32, 3) := by decide +kernel
theorem dX12_couponsOf_14 : decode cX12_couponsOf 14 = .ok (.iload_n 2, 1) := by decide +kernel
theorem dX12_couponsOf_15 : decode cX12_couponsOf 15 = .ok (.aload_n 0, 1) := by decide +kernel
theorem dX12_couponsOf_16 : decode cX12_couponsOf 16 = .ok (.getfield 17, 3) := by decide +kernel
theorem dX12_couponsOf_19 : decode cX12_couponsOf 19 = .ok (.iload_n 3, 1) := by decide +kernel
theorem dX12_couponsOf_20 : decode cX12_couponsOf 20 = .ok (.invokestatic 203, 3) := by decide +kernel
theorem dX12_couponsOf_23 : decode cX12_couponsOf 23 = .ok (.iconst 0, 1) := by decide +kernel
theorem dX12_couponsOf_24 : decode cX12_couponsOf 24 = .ok (.iadd, 1) := by decide +kernel
theorem dX12_couponsOf_25 : decode cX12_couponsOf 25 = .ok (.iaload, 1) := by decide +kernel
theorem dX12_couponsOf_26 : decode cX12_couponsOf 26 = .ok (.iload_n 1, 1) := by decide +kernel
theorem dX12_couponsOf_27 : decode cX12_couponsOf 27 = .ok (.if_icmp .ne 7, 3) := by decide +kernel
theorem dX12_couponsOf_30 : decode cX12_couponsOf 30 = .ok (.iconst 1, 1) := by decide +kernel
theorem dX12_couponsOf_31 : decode cX12_couponsOf 31 = .ok (.goto 4, 3) := by decide +kernel
theorem dX12_couponsOf_34 : decode cX12_couponsOf 34 = .ok (.iconst 0, 1) := by decide +kernel
theorem dX12_couponsOf_35 : decode cX12_couponsOf 35 = .ok (.iadd, 1) := by decide +kernel
theorem dX12_couponsOf_36 : decode cX12_couponsOf 36 = .ok (.istore_n 2, 1) := by decide +kernel
theorem dX12_couponsOf_37 : decode cX12_couponsOf 37 = .ok (.iinc 3 1, 3) := by decide +kernel
theorem dX12_couponsOf_40 : decode cX12_couponsOf 40 = .ok (.goto (-36), 3) := by decide +kernel
theorem dX12_couponsOf_43 : decode cX12_couponsOf 43 = .ok (.iload_n 2, 1) := by decide +kernel
theorem dX12_couponsOf_44 : decode cX12_couponsOf 44 = .ok (.ireturn, 1) := by decide +kernel
theorem dX12_dropCoupon_0 : decode cX12_dropCoupon 0 = .ok (.aload_n 0, 1) := by decide +kernel
theorem dX12_dropCoupon_1 : decode cX12_dropCoupon 1 = .ok (.getfield 17, 3) := by decide +kernel
theorem dX12_dropCoupon_4 : decode cX12_dropCoupon 4 = .ok (.iconst 4, 1) := by decide +kernel
theorem dX12_dropCoupon_5 : decode cX12_dropCoupon 5 = .ok (.dup2, 1) := by decide +kernel
theorem dX12_dropCoupon_6 : decode cX12_dropCoupon 6 = .ok (.iaload, 1) := by decide +kernel
theorem dX12_dropCoupon_7 : decode cX12_dropCoupon 7 = .ok (.iconst 1, 1) := by decide +kernel
theorem dX12_dropCoupon_8 : decode cX12_dropCoupon 8 = .ok (.isub, 1) := by decide +kernel
theorem dX12_dropCoupon_9 : decode cX12_dropCoupon 9 = .ok (.iastore, 1) := by decide +kernel
theorem dX12_dropCoupon_10 : decode cX12_dropCoupon 10 = .ok (.iload_n 1, 1) := by decide +kernel
theorem dX12_dropCoupon_11 : decode cX12_dropCoupon 11 = .ok (.invokestatic 203, 3) := by decide +kernel
theorem dX12_dropCoupon_14 : decode cX12_dropCoupon 14 = .ok (.istore_n 2, 1) := by decide +kernel
theorem dX12_dropCoupon_15 : decode cX12_dropCoupon 15 = .ok (.iload_n 2, 1) := by decide +kernel
theorem dX12_dropCoupon_16 : decode cX12_dropCoupon 16 = .ok (.aload_n 0, 1) := by decide +kernel
theorem dX12_dropCoupon_17 : decode cX12_dropCoupon 17 = .ok (.getfield 17, 3) := by decide +kernel
theorem dX12_dropCoupon_20 : decode cX12_dropCoupon 20 = .ok (.iconst 4, 1) := by decide +kernel
theorem dX12_dropCoupon_21 : decode cX12_dropCoupon 21 = .ok (.iaload, 1) := by decide +kernel
theorem dX12_dropCoupon_22 : decode cX12_dropCoupon 22 = .ok (.invokestatic 203, 3) := by decide +kernel
theorem dX12_dropCoupon_25 : decode cX12_dropCoupon 25 = .ok (.if_icmp .ge 23, 3) := by decide +kernel
theorem dX12_dropCoupon_28 : decode cX12_dropCoupon 28 = .ok (.aload_n 0, 1) := by decide +kernel
theorem dX12_dropCoupon_29 : decode cX12_dropCoupon 29 = .ok (.getfield 17, 3) := by decide +kernel
theorem dX12_dropCoupon_32 : decode cX12_dropCoupon 32 = .ok (.iload_n 2, 1) := by decide +kernel
theorem dX12_dropCoupon_33 : decode cX12_dropCoupon 33 = .ok (.aload_n 0, 1) := by decide +kernel
theorem dX12_dropCoupon_34 : decode cX12_dropCoupon 34 = .ok (.getfield 17, 3) := by decide +kernel
theorem dX12_dropCoupon_37 : decode cX12_dropCoupon 37 = .ok (.iload_n 2, 1) := by decide +kernel
theorem dX12_dropCoupon_38 : decode cX12_dropCoupon 38 = .ok (.iconst 4, 1) := by decide +kernel
theorem dX12_dropCoupon_39 : decode cX12_dropCoupon 39 = .ok (.iadd, 1) := by decide +kernel
theorem dX12_dropCoupon_40 : decode cX12_dropCoupon 40 = .ok (.iaload, 1) := by decide +kernel
theorem dX12_dropCoupon_41 : decode cX12_dropCoupon 41 = .ok (.iastore, 1) := by decide +kernel
theorem dX12_dropCoupon_42 : decode cX12_dropCoupon 42 = .ok (.iinc 2 1, 3) := by decide +kernel
theorem dX12_dropCoupon_45 : decode cX12_dropCoupon 45 = .ok (.goto (-30), 3) := by decide +kernel
theorem dX12_dropCoupon_48 : decode cX12_dropCoupon 48 = .ok (.return_, 1) := by decide +kernel
theorem dX12_spend_0 : decode cX12_spend 0 = .ok (.iload_n 2, 1) := by decide +kernel
theorem dX12_spend_1 : decode cX12_spend 1 = .ok (.istore_n 3, 1) := by decide +kernel
theorem dX12_spend_2 : decode cX12_spend 2 = .ok (.iload_n 3, 1) := by decide +kernel
theorem dX12_spend_3 : decode cX12_spend 3 = .ok (.ifCond .le 143, 3) := by decide +kernel
theorem dX12_spend_6 : decode cX12_spend 6 = .ok (.iconst (-1), 1) := by decide +kernel
theorem dX12_spend_7 : decode cX12_spend 7 = .ok (.istore 4, 2) := by decide +kernel
theorem dX12_spend_9 : decode cX12_spend 9 = .ok (.iconst 0, 1) := by decide +kernel
theorem dX12_spend_10 : decode cX12_spend 10 = .ok (.istore 5, 2) := by decide +kernel
theorem dX12_spend_12 : decode cX12_spend 12 = .ok (.iload 5, 2) := by decide +kernel
theorem dX12_spend_14 : decode cX12_spend 14 = .ok (.aload_n 0, 1) := by decide +kernel
theorem dX12_spend_15 : decode cX12_spend 15 = .ok (.getfield 17, 3) := by decide +kernel
theorem dX12_spend_18 : decode cX12_spend 18 = .ok (.iconst 4, 1) := by decide +kernel
theorem dX12_spend_19 : decode cX12_spend 19 = .ok (.iaload, 1) := by decide +kernel
theorem dX12_spend_20 : decode cX12_spend 20 = .ok (.if_icmp .ge 62, 3) := by decide +kernel
theorem dX12_spend_23 : decode cX12_spend 23 = .ok (.aload_n 0, 1) := by decide +kernel
theorem dX12_spend_24 : decode cX12_spend 24 = .ok (.getfield 17, 3) := by decide +kernel
theorem dX12_spend_27 : decode cX12_spend 27 = .ok (.iload 5, 2) := by decide +kernel
theorem dX12_spend_29 : decode cX12_spend 29 = .ok (.invokestatic 203, 3) := by decide +kernel
theorem dX12_spend_32 : decode cX12_spend 32 = .ok (.iconst 0, 1) := by decide +kernel
theorem dX12_spend_33 : decode cX12_spend 33 = .ok (.iadd, 1) := by decide +kernel
theorem dX12_spend_34 : decode cX12_spend 34 = .ok (.iaload, 1) := by decide +kernel
theorem dX12_spend_35 : decode cX12_spend 35 = .ok (.iload_n 1, 1) := by decide +kernel
theorem dX12_spend_36 : decode cX12_spend 36 = .ok (.if_icmp .ne 40, 3) := by decide +kernel
theorem dX12_spend_39 : decode cX12_spend 39 = .ok (.iload 4, 2) := by decide +kernel
theorem dX12_spend_41 : decode cX12_spend 41 = .ok (.iconst (-1), 1) := by decide +kernel
theorem dX12_spend_42 : decode cX12_spend 42 = .ok (.if_icmp .eq 30, 3) := by decide +kernel
theorem dX12_spend_45 : decode cX12_spend 45 = .ok (.aload_n 0, 1) := by decide +kernel
theorem dX12_spend_46 : decode cX12_spend 46 = .ok (.getfield 17, 3) := by decide +kernel
theorem dX12_spend_49 : decode cX12_spend 49 = .ok (.iload 5, 2) := by decide +kernel
theorem dX12_spend_51 : decode cX12_spend 51 = .ok (.invokestatic 203, 3) := by decide +kernel
theorem dX12_spend_54 : decode cX12_spend 54 = .ok (.iconst 2, 1) := by decide +kernel
theorem dX12_spend_55 : decode cX12_spend 55 = .ok (.iadd, 1) := by decide +kernel
theorem dX12_spend_56 : decode cX12_spend 56 = .ok (.iaload, 1) := by decide +kernel
theorem dX12_spend_57 : decode cX12_spend 57 = .ok (.aload_n 0, 1) := by decide +kernel
theorem dX12_spend_58 : decode cX12_spend 58 = .ok (.getfield 17, 3) := by decide +kernel
theorem dX12_spend_61 : decode cX12_spend 61 = .ok (.iload 4, 2) := by decide +kernel
theorem dX12_spend_63 : decode cX12_spend 63 = .ok (.invokestatic 203, 3) := by decide +kernel
theorem dX12_spend_66 : decode cX12_spend 66 = .ok (.iconst 2, 1) := by decide +kernel
theorem dX12_spend_67 : decode cX12_spend 67 = .ok (.iadd, 1) := by decide +kernel
theorem dX12_spend_68 : decode cX12_spend 68 = .ok (.iaload, 1) := by decide +kernel
theorem dX12_spend_69 : decode cX12_spend 69 = .ok (.if_icmp .ge 7, 3) := by decide +kernel
theorem dX12_spend_72 : decode cX12_spend 72 = .ok (.iload 5, 2) := by decide +kernel
theorem dX12_spend_74 : decode cX12_spend 74 = .ok (.istore 4, 2) := by decide +kernel
theorem dX12_spend_76 : decode cX12_spend 76 = .ok (.iinc 5 1, 3) := by decide +kernel
theorem dX12_spend_79 : decode cX12_spend 79 = .ok (.goto (-67), 3) := by decide +kernel
theorem dX12_spend_82 : decode cX12_spend 82 = .ok (.iload_n 3, 1) := by decide +kernel
theorem dX12_spend_83 : decode cX12_spend 83 = .ok (.aload_n 0, 1) := by decide +kernel
theorem dX12_spend_84 : decode cX12_spend 84 = .ok (.getfield 17, 3) := by decide +kernel
theorem dX12_spend_87 : decode cX12_spend 87 = .ok (.iload 4, 2) := by decide +kernel
theorem dX12_spend_89 : decode cX12_spend 89 = .ok (.invokestatic 203, 3) := by decide +kernel
theorem dX12_spend_92 : decode cX12_spend 92 = .ok (.iconst 1, 1) := by decide +kernel
theorem dX12_spend_93 : decode cX12_spend 93 = .ok (.iadd, 1) := by decide +kernel
theorem dX12_spend_94 : decode cX12_spend 94 = .ok (.iaload, 1) := by decide +kernel
theorem dX12_spend_95 : decode cX12_spend 95 = .ok (.invokestatic 97, 3) := by decide +kernel
theorem dX12_spend_98 : decode cX12_spend 98 = .ok (.istore 5, 2) := by decide +kernel
theorem dX12_spend_100 : decode cX12_spend 100 = .ok (.iload_n 3, 1) := by decide +kernel
theorem dX12_spend_101 : decode cX12_spend 101 = .ok (.iload 5, 2) := by decide +kernel
theorem dX12_spend_103 : decode cX12_spend 103 = .ok (.isub, 1) := by decide +kernel
theorem dX12_spend_104 : decode cX12_spend 104 = .ok (.istore_n 3, 1) := by decide +kernel
theorem dX12_spend_105 : decode cX12_spend 105 = .ok (.aload_n 0, 1) := by decide +kernel
theorem dX12_spend_106 : decode cX12_spend 106 = .ok (.getfield 17, 3) := by decide +kernel
theorem dX12_spend_109 : decode cX12_spend 109 = .ok (.iload 4, 2) := by decide +kernel
theorem dX12_spend_111 : decode cX12_spend 111 = .ok (.invokestatic 203, 3) := by decide +kernel
theorem dX12_spend_114 : decode cX12_spend 114 = .ok (.iconst 1, 1) := by decide +kernel
theorem dX12_spend_115 : decode cX12_spend 115 = .ok (.iadd, 1) := by decide +kernel
theorem dX12_spend_116 : decode cX12_spend 116 = .ok (.dup2, 1) := by decide +kernel
theorem dX12_spend_117 : decode cX12_spend 117 = .ok (.iaload, 1) := by decide +kernel
theorem dX12_spend_118 : decode cX12_spend 118 = .ok (.iload 5, 2) := by decide +kernel
theorem dX12_spend_120 : decode cX12_spend 120 = .ok (.isub, 1) := by decide +kernel
theorem dX12_spend_121 : decode cX12_spend 121 = .ok (.iastore, 1) := by decide +kernel
theorem dX12_spend_122 : decode cX12_spend 122 = .ok (.aload_n 0, 1) := by decide +kernel
theorem dX12_spend_123 : decode cX12_spend 123 = .ok (.getfield 17, 3) := by decide +kernel
theorem dX12_spend_126 : decode cX12_spend 126 = .ok (.iload 4, 2) := by decide +kernel
theorem dX12_spend_128 : decode cX12_spend 128 = .ok (.invokestatic 203, 3) := by decide +kernel
theorem dX12_spend_131 : decode cX12_spend 131 = .ok (.iconst 1, 1) := by decide +kernel
theorem dX12_spend_132 : decode cX12_spend 132 = .ok (.iadd, 1) := by decide +kernel
theorem dX12_spend_133 : decode cX12_spend 133 = .ok (.iaload, 1) := by decide +kernel
theorem dX12_spend_134 : decode cX12_spend 134 = .ok (.ifCond .ne 9, 3) := by decide +kernel
theorem dX12_spend_137 : decode cX12_spend 137 = .ok (.aload_n 0, 1) := by decide +kernel
theorem dX12_spend_138 : decode cX12_spend 138 = .ok (.iload 4, 2) := by decide +kernel
theorem dX12_spend_140 : decode cX12_spend 140 = .ok (.invokevirtual 206, 3) := by decide +kernel
theorem dX12_spend_143 : decode cX12_spend 143 = .ok (.goto (-141), 3) := by decide +kernel
theorem dX12_spend_146 : decode cX12_spend 146 = .ok (.aload_n 0, 1) := by decide +kernel
theorem dX12_spend_147 : decode cX12_spend 147 = .ok (.getfield 17, 3) := by decide +kernel
theorem dX12_spend_150 : decode cX12_spend 150 = .ok (.bipush 8, 2) := by decide +kernel
theorem dX12_spend_152 : decode cX12_spend 152 = .ok (.dup2, 1) := by decide +kernel
theorem dX12_spend_153 : decode cX12_spend 153 = .ok (.iaload, 1) := by decide +kernel
theorem dX12_spend_154 : decode cX12_spend 154 = .ok (.iload_n 2, 1) := by decide +kernel
theorem dX12_spend_155 : decode cX12_spend 155 = .ok (.iadd, 1) := by decide +kernel
theorem dX12_spend_156 : decode cX12_spend 156 = .ok (.iastore, 1) := by decide +kernel
theorem dX12_spend_157 : decode cX12_spend 157 = .ok (.return_, 1) := by decide +kernel
theorem dX12_limited_0 : decode cX12_limited 0 = .ok (.lload_n 0, 1) := by decide +kernel
theorem dX12_limited_1 : decode cX12_limited 1 = .ok (.ldc2_w 209, 3) := by decide +kernel
theorem dX12_limited_4 : decode cX12_limited 4 = .ok (.lcmp, 1) := by decide +kernel
theorem dX12_limited_5 : decode cX12_limited 5 = .ok (.ifCond .le 9, 3) := by decide +kernel
theorem dX12_limited_8 : decode cX12_limited 8 = .ok (.ldc2_w 209, 3) := by decide +kernel
theorem dX12_limited_11 : decode cX12_limited 11 = .ok (.goto 18, 3) := by decide +kernel
theorem dX12_limited_14 : decode cX12_limited 14 = .ok (.lload_n 0, 1) := by decide +kernel
theorem dX12_limited_15 : decode cX12_limited 15 = .ok (.ldc2_w 211, 3) := by decide +kernel
theorem dX12_limited_18 : decode cX12_limited 18 = .ok (.lcmp, 1) := by decide +kernel
theorem dX12_limited_19 : decode cX12_limited 19 = .ok (.ifCond .ge 9, 3) := by decide +kernel
theorem dX12_limited_22 : decode cX12_limited 22 = .ok (.ldc2_w 211, 3) := by decide +kernel
theorem dX12_limited_25 : decode cX12_limited 25 = .ok (.goto 4, 3) := by decide +kernel
theorem dX12_limited_28 : decode cX12_limited 28 = .ok (.lload_n 0, 1) := by decide +kernel
theorem dX12_limited_29 : decode cX12_limited 29 = .ok (.lreturn, 1) := by decide +kernel
theorem dX12_operate_0 : decode cX12_operate 0 = .ok (.iload_n 0, 1) := by decide +kernel
theorem dX12_operate_1 : decode cX12_operate 1 = .ok (.iconst 5, 1) := by decide +kernel
theorem dX12_operate_2 : decode cX12_operate 2 = .ok (.if_icmp .ne 17, 3) := by decide +kernel
theorem dX12_operate_5 : decode cX12_operate 5 = .ok (.lload_n 3, 1) := by decide +kernel
theorem dX12_operate_6 : decode cX12_operate 6 = .ok (.lconst 0, 1) := by decide +kernel
theorem dX12_operate_7 : decode cX12_operate 7 = .ok (.lcmp, 1) := by decide +kernel
theorem dX12_operate_8 : decode cX12_operate 8 = .ok (.ifCond .ne 7, 3) := by decide +kernel
theorem dX12_operate_11 : decode cX12_operate 11 = .ok (.lconst 0, 1) := by decide +kernel
theorem dX12_operate_12 : decode cX12_operate 12 = .ok (.goto 6, 3) := by decide +kernel
theorem dX12_operate_15 : decode cX12_operate 15 = .ok (.lload_n 1, 1) := by decide +kernel
theorem dX12_operate_16 : decode cX12_operate 16 = .ok (.lload_n 3, 1) := by decide +kernel
theorem dX12_operate_17 : decode cX12_operate 17 = .ok (.ldiv, 1) := by decide +kernel
theorem dX12_operate_18 : decode cX12_operate 18 = .ok (.lreturn, 1) := by decide +kernel
theorem dX12_operate_19 : decode cX12_operate 19 = .ok (.iload_n 0, 1) := by decide +kernel
theorem dX12_operate_20 : decode cX12_operate 20 = .ok (.iconst 2, 1) := by decide +kernel
theorem dX12_operate_21 : decode cX12_operate 21 = .ok (.if_icmp .ne 9, 3) := by decide +kernel
theorem dX12_operate_24 : decode cX12_operate 24 = .ok (.lload_n 1, 1) := by decide +kernel
theorem dX12_operate_25 : decode cX12_operate 25 = .ok (.lload_n 3, 1) := by decide +kernel
theorem dX12_operate_26 : decode cX12_operate 26 = .ok (.ladd, 1) := by decide +kernel
theorem dX12_operate_27 : decode cX12_operate 27 = .ok (.goto 17, 3) := by decide +kernel
theorem dX12_operate_30 : decode cX12_operate 30 = .ok (.iload_n 0, 1) := by decide +kernel
theorem dX12_operate_31 : decode cX12_operate 31 = .ok (.iconst 3, 1) := by decide +kernel
theorem dX12_operate_32 : decode cX12_operate 32 = .ok (.if_icmp .ne 9, 3) := by decide +kernel
theorem dX12_operate_35 : decode cX12_operate 35 = .ok (.lload_n 1, 1) := by decide +kernel
theorem dX12_operate_36 : decode cX12_operate 36 = .ok (.lload_n 3, 1) := by decide +kernel
theorem dX12_operate_37 : decode cX12_operate 37 = .ok (.lsub, 1) := by decide +kernel
theorem dX12_operate_38 : decode cX12_operate 38 = .ok (.goto 6, 3) := by decide +kernel
theorem dX12_operate_41 : decode cX12_operate 41 = .ok (.lload_n 1, 1) := by decide +kernel
theorem dX12_operate_42 : decode cX12_operate 42 = .ok (.lload_n 3, 1) := by decide +kernel
theorem dX12_operate_43 : decode cX12_operate 43 = .ok (.lmul, 1) := by decide +kernel
theorem dX12_operate_44 : decode cX12_operate 44 = .ok (.invokestatic 213, 3) := by decide +kernel
theorem dX12_operate_47 : decode cX12_operate 47 = .ok (.lreturn, 1) := by decide +kernel
theorem dX12_priceOf_0 : decode cX12_priceOf 0 = .ok (.iconst 0, 1) := by decide +kernel
theorem dX12_priceOf_1 : decode cX12_priceOf 1 = .ok (.istore 5, 2) := by decide +kernel
theorem dX12_priceOf_3 : decode cX12_priceOf 3 = .ok (.aload_n 0, 1) := by decide +kernel
theorem dX12_priceOf_4 : decode cX12_priceOf 4 = .ok (.getfield 34, 3) := by decide +kernel
theorem dX12_priceOf_7 : decode cX12_priceOf 7 = .ok (.iconst 0, 1) := by decide +kernel
theorem dX12_priceOf_8 : decode cX12_priceOf 8 = .ok (.iload_n 1, 1) := by decide +kernel
theorem dX12_priceOf_9 : decode cX12_priceOf 9 = .ok (.i2l, 1) := by decide +kernel
theorem dX12_priceOf_10 : decode cX12_priceOf 10 = .ok (.lastore, 1) := by decide +kernel
theorem dX12_priceOf_11 : decode cX12_priceOf 11 = .ok (.iconst 0, 1) := by decide +kernel
theorem dX12_priceOf_12 : decode cX12_priceOf 12 = .ok (.istore 6, 2) := by decide +kernel
theorem dX12_priceOf_14 : decode cX12_priceOf 14 = .ok (.iload 6, 2) := by decide +kernel
theorem dX12_priceOf_16 : decode cX12_priceOf 16 = .ok (.aload_n 0, 1) := by decide +kernel
theorem dX12_priceOf_17 : decode cX12_priceOf 17 = .ok (.getfield 17, 3) := by decide +kernel
theorem dX12_priceOf_20 : decode cX12_priceOf 20 = .ok (.bipush 13, 2) := by decide +kernel
theorem dX12_priceOf_22 : decode cX12_priceOf 22 = .ok (.iaload, 1) := by decide +kernel
theorem dX12_priceOf_23 : decode cX12_priceOf 23 = .ok (.if_icmp .ge 136, 3) := by decide +kernel
theorem dX12_priceOf_26 : decode cX12_priceOf 26 = .ok (.aload_n 0, 1) := by decide +kernel
theorem dX12_priceOf_27 : decode cX12_priceOf 27 = .ok (.getfield 17, 3) := by decide +kernel
theorem dX12_priceOf_30 : decode cX12_priceOf 30 = .ok (.sipush 905, 3) := by decide +kernel
theorem dX12_priceOf_33 : decode cX12_priceOf 33 = .ok (.iload 6, 2) := by decide +kernel
theorem dX12_priceOf_35 : decode cX12_priceOf 35 = .ok (.iadd, 1) := by decide +kernel
theorem dX12_priceOf_36 : decode cX12_priceOf 36 = .ok (.iaload, 1) := by decide +kernel
theorem dX12_priceOf_37 : decode cX12_priceOf 37 = .ok (.istore 7, 2) := by decide +kernel
theorem dX12_priceOf_39 : decode cX12_priceOf 39 = .ok (.iload 7, 2) := by decide +kernel
theorem dX12_priceOf_41 : decode cX12_priceOf 41 = .ok (.iconst 1, 1) := by decide +kernel
theorem dX12_priceOf_42 : decode cX12_priceOf 42 = .ok (.if_icmp .gt 78, 3) := by decide +kernel
theorem dX12_priceOf_45 : decode cX12_priceOf 45 = .ok (.iinc 6 1, 3) := by decide +kernel
theorem dX12_priceOf_48 : decode cX12_priceOf 48 = .ok (.aload_n 0, 1) := by decide +kernel
theorem dX12_priceOf_49 : decode cX12_priceOf 49 = .ok (.getfield 17, 3) := by decide +kernel
theorem dX12_priceOf_52 : decode cX12_priceOf 52 = .ok (.sipush 905, 3) := by decide +kernel
theorem dX12_priceOf_55 : decode cX12_priceOf 55 = .ok (.iload 6, 2) := by decide +kernel
theorem dX12_priceOf_57 : decode cX12_priceOf 57 = .ok (.iadd, 1) := by decide +kernel
theorem dX12_priceOf_58 : decode cX12_priceOf 58 = .ok (.iaload, 1) := by decide +kernel
theorem dX12_priceOf_59 : decode cX12_priceOf 59 = .ok (.istore 8, 2) := by decide +kernel
theorem dX12_priceOf_61 : decode cX12_priceOf 61 = .ok (.aload_n 0, 1) := by decide +kernel
theorem dX12_priceOf_62 : decode cX12_priceOf 62 = .ok (.getfield 34, 3) := by decide +kernel
theorem dX12_priceOf_65 : decode cX12_priceOf 65 = .ok (.iload 5, 2) := by decide +kernel
theorem dX12_priceOf_67 : decode cX12_priceOf 67 = .ok (.iload 7, 2) := by decide +kernel
theorem dX12_priceOf_69 : decode cX12_priceOf 69 = .ok (.ifCond .ne 9, 3) := by decide +kernel
theorem dX12_priceOf_72 : decode cX12_priceOf 72 = .ok (.iload 8, 2) := by decide +kernel
theorem dX12_priceOf_74 : decode cX12_priceOf 74 = .ok (.i2l, 1) := by decide +kernel
theorem dX12_priceOf_75 : decode cX12_priceOf 75 = .ok (.goto 38, 3) := by decide +kernel
theorem dX12_priceOf_78 : decode cX12_priceOf 78 = .ok (.iload 8, 2) := by decide +kernel
theorem dX12_priceOf_80 : decode cX12_priceOf 80 = .ok (.ifCond .ne 8, 3) := by decide +kernel
theorem dX12_priceOf_83 : decode cX12_priceOf 83 = .ok (.iload_n 1, 1) := by decide +kernel
theorem dX12_priceOf_84 : decode cX12_priceOf 84 = .ok (.i2l, 1) := by decide +kernel
theorem dX12_priceOf_85 : decode cX12_priceOf 85 = .ok (.goto 28, 3) := by decide +kernel
theorem dX12_priceOf_88 : decode cX12_priceOf 88 = .ok (.iload 8, 2) := by decide +kernel
theorem dX12_priceOf_90 : decode cX12_priceOf 90 = .ok (.iconst 1, 1) := by decide +kernel
theorem dX12_priceOf_91 : decode cX12_priceOf 91 = .ok (.if_icmp .ne 8, 3) := by decide +kernel
theorem dX12_priceOf_94 : decode cX12_priceOf 94 = .ok (.iload_n 2, 1) := by decide +kernel
theorem dX12_priceOf_95 : decode cX12_priceOf 95 = .ok (.i2l, 1) := by decide +kernel
theorem dX12_priceOf_96 : decode cX12_priceOf 96 = .ok (.goto 17, 3) := by decide +kernel
theorem dX12_priceOf_99 : decode cX12_priceOf 99 = .ok (.iload 8, 2) := by decide +kernel
theorem dX12_priceOf_101 : decode cX12_priceOf 101 = .ok (.iconst 2, 1) := by decide +kernel
theorem dX12_priceOf_102 : decode cX12_priceOf 102 = .ok (.if_icmp .ne 8, 3) := by decide +kernel
theorem dX12_priceOf_105 : decode cX12_priceOf 105 = .ok (.iload_n 3, 1) := by decide +kernel
theorem dX12_priceOf_106 : decode cX12_priceOf 106 = .ok (.i2l, 1) := by decide +kernel
theorem dX12_priceOf_107 : decode cX12_priceOf 107 = .ok (.goto 6, 3) := by decide +kernel
theorem dX12_priceOf_110 : decode cX12_priceOf 110 = .ok (.iload 4, 2) := by decide +kernel
theorem dX12_priceOf_112 : decode cX12_priceOf 112 = .ok (.i2l, 1) := by decide +kernel
theorem dX12_priceOf_113 : decode cX12_priceOf 113 = .ok (.lastore, 1) := by decide +kernel
theorem dX12_priceOf_114 : decode cX12_priceOf 114 = .ok (.iinc 5 1, 3) := by decide +kernel
theorem dX12_priceOf_117 : decode cX12_priceOf 117 = .ok (.goto 36, 3) := by decide +kernel
theorem dX12_priceOf_120 : decode cX12_priceOf 120 = .ok (.iinc 5 (-1), 3) := by decide +kernel
theorem dX12_priceOf_123 : decode cX12_priceOf 123 = .ok (.aload_n 0, 1) := by decide +kernel
theorem dX12_priceOf_124 : decode cX12_priceOf 124 = .ok (.getfield 34, 3) := by decide +kernel
theorem dX12_priceOf_127 : decode cX12_priceOf 127 = .ok (.iload 5, 2) := by decide +kernel
theorem dX12_priceOf_129 : decode cX12_priceOf 129 = .ok (.iconst 1, 1) := by decide +kernel
theorem dX12_priceOf_130 : decode cX12_priceOf 130 = .ok (.isub, 1) := by decide +kernel
theorem dX12_priceOf_131 : decode cX12_priceOf 131 = .ok (.iload 7, 2) := by decide +kernel
theorem dX12_priceOf_133 : decode cX12_priceOf 133 = .ok (.aload_n 0, 1) := by decide +kernel
theorem dX12_priceOf_134 : decode cX12_priceOf 134 = .ok (.getfield 34, 3) := by decide +kernel
theorem dX12_priceOf_137 : decode cX12_priceOf 137 = .ok (.iload 5, 2) := by decide +kernel
theorem dX12_priceOf_139 : decode cX12_priceOf 139 = .ok (.iconst 1, 1) := by decide +kernel
theorem dX12_priceOf_140 : decode cX12_priceOf 140 = .ok (.isub, 1) := by decide +kernel
theorem dX12_priceOf_141 : decode cX12_priceOf 141 = .ok (.laload, 1) := by decide +kernel
theorem dX12_priceOf_142 : decode cX12_priceOf 142 = .ok (.aload_n 0, 1) := by decide +kernel
theorem dX12_priceOf_143 : decode cX12_priceOf 143 = .ok (.getfield 34, 3) := by decide +kernel
theorem dX12_priceOf_146 : decode cX12_priceOf 146 = .ok (.iload 5, 2) := by decide +kernel
theorem dX12_priceOf_148 : decode cX12_priceOf 148 = .ok (.laload, 1) := by decide +kernel
theorem dX12_priceOf_149 : decode cX12_priceOf 149 = .ok (.invokestatic 217, 3) := by decide +kernel
theorem dX12_priceOf_152 : decode cX12_priceOf 152 = .ok (.lastore, 1) := by decide +kernel
theorem dX12_priceOf_153 : decode cX12_priceOf 153 = .ok (.iinc 6 1, 3) := by decide +kernel
theorem dX12_priceOf_156 : decode cX12_priceOf 156 = .ok (.goto (-142), 3) := by decide +kernel
theorem dX12_priceOf_159 : decode cX12_priceOf 159 = .ok (.aload_n 0, 1) := by decide +kernel
theorem dX12_priceOf_160 : decode cX12_priceOf 160 = .ok (.getfield 34, 3) := by decide +kernel
theorem dX12_priceOf_163 : decode cX12_priceOf 163 = .ok (.iconst 0, 1) := by decide +kernel
theorem dX12_priceOf_164 : decode cX12_priceOf 164 = .ok (.laload, 1) := by decide +kernel
theorem dX12_priceOf_165 : decode cX12_priceOf 165 = .ok (.lconst 0, 1) := by decide +kernel
theorem dX12_priceOf_166 : decode cX12_priceOf 166 = .ok (.lcmp, 1) := by decide +kernel
theorem dX12_priceOf_167 : decode cX12_priceOf 167 = .ok (.ifCond .ge 7, 3) := by decide +kernel
theorem dX12_priceOf_170 : decode cX12_priceOf 170 = .ok (.iconst 0, 1) := by decide +kernel
theorem dX12_priceOf_171 : decode cX12_priceOf 171 = .ok (.goto 29, 3) := by decide +kernel
theorem dX12_priceOf_174 : decode cX12_priceOf 174 = .ok (.aload_n 0, 1) := by decide +kernel
theorem dX12_priceOf_175 : decode cX12_priceOf 175 = .ok (.getfield 34, 3) := by decide +kernel
theorem dX12_priceOf_178 : decode cX12_priceOf 178 = .ok (.iconst 0, 1) := by decide +kernel
theorem dX12_priceOf_179 : decode cX12_priceOf 179 = .ok (.laload, 1) := by decide +kernel
theorem dX12_priceOf_180 : decode cX12_priceOf 180 = .ok (.ldc2_w 221, 3) := by decide +kernel
theorem dX12_priceOf_183 : decode cX12_priceOf 183 = .ok (.lcmp, 1) := by decide +kernel
theorem dX12_priceOf_184 : decode cX12_priceOf 184 = .ok (.ifCond .le 9, 3) := by decide +kernel
theorem dX12_priceOf_187 : decode cX12_priceOf 187 = .ok (.sipush 9999, 3) := by decide +kernel
theorem dX12_priceOf_190 : decode cX12_priceOf 190 = .ok (.goto 10, 3) := by decide +kernel
theorem dX12_priceOf_193 : decode cX12_priceOf 193 = .ok (.aload_n 0, 1) := by decide +kernel
theorem dX12_priceOf_194 : decode cX12_priceOf 194 = .ok (.getfield 34, 3) := by decide +kernel
theorem dX12_priceOf_197 : decode cX12_priceOf 197 = .ok (.iconst 0, 1) := by decide +kernel
theorem dX12_priceOf_198 : decode cX12_priceOf 198 = .ok (.laload, 1) := by decide +kernel
theorem dX12_priceOf_199 : decode cX12_priceOf 199 = .ok (.l2i, 1) := by decide +kernel
theorem dX12_priceOf_200 : decode cX12_priceOf 200 = .ok (.ireturn, 1) := by decide +kernel
theorem dX12_end_0 : decode cX12_end 0 = .ok (.aload_n 0, 1) := by decide +kernel
theorem dX12_end_1 : decode cX12_end 1 = .ok (.getfield 17, 3) := by decide +kernel
theorem dX12_end_4 : decode cX12_end 4 = .ok (.iload_n 1, 1) := by decide +kernel
theorem dX12_end_5 : decode cX12_end 5 = .ok (.invokestatic 197, 3) := by decide +kernel
theorem dX12_end_8 : decode cX12_end 8 = .ok (.iconst 3, 1) := by decide +kernel
theorem dX12_end_9 : decode cX12_end 9 = .ok (.iadd, 1) := by decide +kernel
theorem dX12_end_10 : decode cX12_end 10 = .ok (.iload_n 2, 1) := by decide +kernel
theorem dX12_end_11 : decode cX12_end 11 = .ok (.iastore, 1) := by decide +kernel
theorem dX12_end_12 : decode cX12_end 12 = .ok (.aload_n 0, 1) := by decide +kernel
theorem dX12_end_13 : decode cX12_end 13 = .ok (.getfield 17, 3) := by decide +kernel
theorem dX12_end_16 : decode cX12_end 16 = .ok (.iload_n 1, 1) := by decide +kernel
theorem dX12_end_17 : decode cX12_end 17 = .ok (.invokestatic 197, 3) := by decide +kernel
theorem dX12_end_20 : decode cX12_end 20 = .ok (.bipush 6, 2) := by decide +kernel
theorem dX12_end_22 : decode cX12_end 22 = .ok (.iadd, 1) := by decide +kernel
theorem dX12_end_23 : decode cX12_end 23 = .ok (.aload_n 0, 1) := by decide +kernel
theorem dX12_end_24 : decode cX12_end 24 = .ok (.getfield 17, 3) := by decide +kernel
theorem dX12_end_27 : decode cX12_end 27 = .ok (.iconst 0, 1) := by decide +kernel
theorem dX12_end_28 : decode cX12_end 28 = .ok (.iaload, 1) := by decide +kernel
theorem dX12_end_29 : decode cX12_end 29 = .ok (.iastore, 1) := by decide +kernel
theorem dX12_end_30 : decode cX12_end 30 = .ok (.aload_n 0, 1) := by decide +kernel
theorem dX12_end_31 : decode cX12_end 31 = .ok (.getfield 17, 3) := by decide +kernel
theorem dX12_end_34 : decode cX12_end 34 = .ok (.iload_n 2, 1) := by decide +kernel
theorem dX12_end_35 : decode cX12_end 35 = .ok (.iconst 3, 1) := by decide +kernel
theorem dX12_end_36 : decode cX12_end 36 = .ok (.if_icmp .ne 7, 3) := by decide +kernel
theorem dX12_end_39 : decode cX12_end 39 = .ok (.iconst 5, 1) := by decide +kernel
theorem dX12_end_40 : decode cX12_end 40 = .ok (.goto 5, 3) := by decide +kernel
theorem dX12_end_43 : decode cX12_end 43 = .ok (.bipush 6, 2) := by decide +kernel
theorem dX12_end_45 : decode cX12_end 45 = .ok (.dup2, 1) := by decide +kernel
theorem dX12_end_46 : decode cX12_end 46 = .ok (.iaload, 1) := by decide +kernel
theorem dX12_end_47 : decode cX12_end 47 = .ok (.iconst 1, 1) := by decide +kernel
theorem dX12_end_48 : decode cX12_end 48 = .ok (.iadd, 1) := by decide +kernel
theorem dX12_end_49 : decode cX12_end 49 = .ok (.iastore, 1) := by decide +kernel
theorem dX12_end_50 : decode cX12_end 50 = .ok (.return_, 1) := by decide +kernel
theorem dX12_refund_0 : decode cX12_refund 0 = .ok (.iload_n 1, 1) := by decide +kernel
theorem dX12_refund_1 : decode cX12_refund 1 = .ok (.invokestatic 197, 3) := by decide +kernel
theorem dX12_refund_4 : decode cX12_refund 4 = .ok (.istore_n 2, 1) := by decide +kernel
theorem dX12_refund_5 : decode cX12_refund 5 = .ok (.sipush 9999, 3) := by decide +kernel
theorem dX12_refund_8 : decode cX12_refund 8 = .ok (.aload_n 0, 1) := by decide +kernel
theorem dX12_refund_9 : decode cX12_refund 9 = .ok (.getfield 17, 3) := by decide +kernel
theorem dX12_refund_12 : decode cX12_refund 12 = .ok (.iload_n 2, 1) := by decide +kernel
theorem dX12_refund_13 : decode cX12_refund 13 = .ok (.iconst 5, 1) := by decide +kernel
theorem dX12_refund_14 : decode cX12_refund 14 = .ok (.iadd, 1) := by decide +kernel
theorem dX12_refund_15 : decode cX12_refund 15 = .ok (.iaload, 1) := by decide +kernel
theorem dX12_refund_16 : decode cX12_refund 16 = .ok (.aload_n 0, 1) := by decide +kernel
theorem dX12_refund_17 : decode cX12_refund 17 = .ok (.getfield 17, 3) := by decide +kernel
theorem dX12_refund_20 : decode cX12_refund 20 = .ok (.bipush 10, 2) := by decide +kernel
theorem dX12_refund_22 : decode cX12_refund 22 = .ok (.iaload, 1) := by decide +kernel
theorem dX12_refund_23 : decode cX12_refund 23 = .ok (.imul, 1) := by decide +kernel
theorem dX12_refund_24 : decode cX12_refund 24 = .ok (.bipush 100, 2) := by decide +kernel
theorem dX12_refund_26 : decode cX12_refund 26 = .ok (.idiv, 1) := by decide +kernel
theorem dX12_refund_27 : decode cX12_refund 27 = .ok (.invokestatic 97, 3) := by decide +kernel
theorem dX12_refund_30 : decode cX12_refund 30 = .ok (.istore_n 3, 1) := by decide +kernel
theorem dX12_refund_31 : decode cX12_refund 31 = .ok (.iload_n 3, 1) := by decide +kernel
theorem dX12_refund_32 : decode cX12_refund 32 = .ok (.ifCond .le 44, 3) := by decide +kernel
theorem dX12_refund_35 : decode cX12_refund 35 = .ok (.aload_n 0, 1) := by decide +kernel
theorem dX12_refund_36 : decode cX12_refund 36 = .ok (.getfield 17, 3) := by decide +kernel
theorem dX12_refund_39 : decode cX12_refund 39 = .ok (.iconst 4, 1) := by decide +kernel
theorem dX12_refund_40 : decode cX12_refund 40 = .ok (.iaload, 1) := by decide +kernel
theorem dX12_refund_41 : decode cX12_refund 41 = .ok (.bipush 30, 2) := by decide +kernel
theorem dX12_refund_43 : decode cX12_refund 43 = .ok (.if_icmp .ge 33, 3) := by decide +kernel
theorem dX12_refund_46 : decode cX12_refund 46 = .ok (.aload_n 0, 1) := by decide +kernel
theorem dX12_refund_47 : decode cX12_refund 47 = .ok (.getfield 17, 3) := by decide +kernel
theorem dX12_refund_50 : decode cX12_refund 50 = .ok (.aload_n 0, 1) := by decide +kernel
theorem dX12_refund_51 : decode cX12_refund 51 = .ok (.getfield 17, 3) := by decide +kernel
theorem dX12_refund_54 : decode cX12_refund 54 = .ok (.iload_n 2, 1) := by decide +kernel
theorem dX12_refund_55 : decode cX12_refund 55 = .ok (.iconst 0, 1) := by decide +kernel
theorem dX12_refund_56 : decode cX12_refund 56 = .ok (.iadd, 1) := by decide +kernel
theorem dX12_refund_57 : decode cX12_refund 57 = .ok (.iaload, 1) := by decide +kernel
theorem dX12_refund_58 : decode cX12_refund 58 = .ok (.iload_n 3, 1) := by decide +kernel
theorem dX12_refund_59 : decode cX12_refund 59 = .ok (.aload_n 0, 1) := by decide +kernel
theorem dX12_refund_60 : decode cX12_refund 60 = .ok (.getfield 17, 3) := by decide +kernel
theorem dX12_refund_63 : decode cX12_refund 63 = .ok (.iconst 0, 1) := by decide +kernel
theorem dX12_refund_64 : decode cX12_refund 64 = .ok (.iaload, 1) := by decide +kernel
theorem dX12_refund_65 : decode cX12_refund 65 = .ok (.aload_n 0, 1) := by decide +kernel
theorem dX12_refund_66 : decode cX12_refund 66 = .ok (.getfield 17, 3) := by decide +kernel
theorem dX12_refund_69 : decode cX12_refund 69 = .ok (.bipush 11, 2) := by decide +kernel
theorem dX12_refund_71 : decode cX12_refund 71 = .ok (.iaload, 1) := by decide +kernel
theorem dX12_refund_72 : decode cX12_refund 72 = .ok (.iadd, 1) := by decide +kernel
theorem dX12_refund_73 : decode cX12_refund 73 = .ok (.invokestatic 148, 3) := by decide +kernel
theorem dX12_refund_76 : decode cX12_refund 76 = .ok (.return_, 1) := by decide +kernel
theorem dX12_arrive_0 : decode cX12_arrive 0 = .ok (.iload_n 1, 1) := by decide +kernel
theorem dX12_arrive_1 : decode cX12_arrive 1 = .ok (.invokestatic 197, 3) := by decide +kernel
theorem dX12_arrive_4 : decode cX12_arrive 4 = .ok (.istore_n 2, 1) := by decide +kernel
theorem dX12_arrive_5 : decode cX12_arrive 5 = .ok (.aload_n 0, 1) := by decide +kernel
theorem dX12_arrive_6 : decode cX12_arrive 6 = .ok (.iload_n 1, 1) := by decide +kernel
theorem dX12_arrive_7 : decode cX12_arrive 7 = .ok (.invokevirtual 223, 3) := by decide +kernel
theorem dX12_arrive_10 : decode cX12_arrive 10 = .ok (.istore_n 3, 1) := by decide +kernel
theorem dX12_arrive_11 : decode cX12_arrive 11 = .ok (.iload_n 3, 1) := by decide +kernel
theorem dX12_arrive_12 : decode cX12_arrive 12 = .ok (.aload_n 0, 1) := by decide +kernel
theorem dX12_arrive_13 : decode cX12_arrive 13 = .ok (.getfield 17, 3) := by decide +kernel
theorem dX12_arrive_16 : decode cX12_arrive 16 = .ok (.iload_n 2, 1) := by decide +kernel
theorem dX12_arrive_17 : decode cX12_arrive 17 = .ok (.iconst 0, 1) := by decide +kernel
theorem dX12_arrive_18 : decode cX12_arrive 18 = .ok (.iadd, 1) := by decide +kernel
theorem dX12_arrive_19 : decode cX12_arrive 19 = .ok (.iaload, 1) := by decide +kernel
theorem dX12_arrive_20 : decode cX12_arrive 20 = .ok (.invokestatic 187, 3) := by decide +kernel
theorem dX12_arrive_23 : decode cX12_arrive 23 = .ok (.istore 4, 2) := by decide +kernel
theorem dX12_arrive_25 : decode cX12_arrive 25 = .ok (.aload_n 0, 1) := by decide +kernel
theorem dX12_arrive_26 : decode cX12_arrive 26 = .ok (.getfield 17, 3) := by decide +kernel
theorem dX12_arrive_29 : decode cX12_arrive 29 = .ok (.iload 4, 2) := by decide +kernel
theorem dX12_arrive_31 : decode cX12_arrive 31 = .ok (.iconst 1, 1) := by decide +kernel
theorem dX12_arrive_32 : decode cX12_arrive 32 = .ok (.iadd, 1) := by decide +kernel
theorem dX12_arrive_33 : decode cX12_arrive 33 = .ok (.iaload, 1) := by decide +kernel
theorem dX12_arrive_34 : decode cX12_arrive 34 = .ok (.aload_n 0, 1) := by decide +kernel
theorem dX12_arrive_35 : decode cX12_arrive 35 = .ok (.iload_n 3, 1) := by decide +kernel
theorem dX12_arrive_36 : decode cX12_arrive 36 = .ok (.iconst 2, 1) := by decide +kernel
theorem dX12_arrive_37 : decode cX12_arrive 37 = .ok (.invokevirtual 226, 3) := by decide +kernel
theorem dX12_arrive_40 : decode cX12_arrive 40 = .ok (.if_icmp .ne 15, 3) := by decide +kernel
theorem dX12_arrive_43 : decode cX12_arrive 43 = .ok (.aload_n 0, 1) := by decide +kernel
theorem dX12_arrive_44 : decode cX12_arrive 44 = .ok (.iload_n 1, 1) := by decide +kernel
theorem dX12_arrive_45 : decode cX12_arrive 45 = .ok (.iconst 4, 1) := by decide +kernel
theorem dX12_arrive_46 : decode cX12_arrive 46 = .ok (.invokevirtual 229, 3) := by decide +kernel
theorem dX12_arrive_49 : decode cX12_arrive 49 = .ok (.aload_n 0, 1) := by decide +kernel
theorem dX12_arrive_50 : decode cX12_arrive 50 = .ok (.iload_n 1, 1) := by decide +kernel
theorem dX12_arrive_51 : decode cX12_arrive 51 = .ok (.invokevirtual 232, 3) := by decide +kernel
theorem dX12_arrive_54 : decode cX12_arrive 54 = .ok (.return_, 1) := by decide +kernel
theorem dX12_arrive_55 : decode cX12_arrive 55 = .ok (.aload_n 0, 1) := by decide +kernel
theorem dX12_arrive_56 : decode cX12_arrive 56 = .ok (.getfield 17, 3) := by decide +kernel
theorem dX12_arrive_59 : decode cX12_arrive 59 = .ok (.iload_n 2, 1) := by decide +kernel
theorem dX12_arrive_60 : decode cX12_arrive 60 = .ok (.iconst 3, 1) := by decide +kernel
theorem dX12_arrive_61 : decode cX12_arrive 61 = .ok (.iadd, 1) := by decide +kernel
theorem dX12_arrive_62 : decode cX12_arrive 62 = .ok (.iconst 1, 1) := by decide +kernel
theorem dX12_arrive_63 : decode cX12_arrive 63 = .ok (.iastore, 1) := by decide +kernel
theorem dX12_arrive_64 : decode cX12_arrive 64 = .ok (.aload_n 0, 1) := by decide +kernel
theorem dX12_arrive_65 : decode cX12_arrive 65 = .ok (.getfield 17, 3) := by decide +kernel
theorem dX12_arrive_68 : decode cX12_arrive 68 = .ok (.iload_n 2, 1) := by decide +kernel
theorem dX12_arrive_69 : decode cX12_arrive 69 = .ok (.bipush 7, 2) := by decide +kernel
theorem dX12_arrive_71 : decode cX12_arrive 71 = .ok (.iadd, 1) := by decide +kernel
theorem dX12_arrive_72 : decode cX12_arrive 72 = .ok (.aload_n 0, 1) := by decide +kernel
theorem dX12_arrive_73 : decode cX12_arrive 73 = .ok (.getfield 17, 3) := by decide +kernel
theorem dX12_arrive_76 : decode cX12_arrive 76 = .ok (.iconst 0, 1) := by decide +kernel
theorem dX12_arrive_77 : decode cX12_arrive 77 = .ok (.iaload, 1) := by decide +kernel
theorem dX12_arrive_78 : decode cX12_arrive 78 = .ok (.iastore, 1) := by decide +kernel
theorem dX12_arrive_79 : decode cX12_arrive 79 = .ok (.aload_n 0, 1) := by decide +kernel
theorem dX12_arrive_80 : decode cX12_arrive 80 = .ok (.getfield 17, 3) := by decide +kernel
theorem dX12_arrive_83 : decode cX12_arrive 83 = .ok (.aload_n 0, 1) := by decide +kernel
theorem dX12_arrive_84 : decode cX12_arrive 84 = .ok (.getfield 17, 3) := by decide +kernel
theorem dX12_arrive_87 : decode cX12_arrive 87 = .ok (.iload 4, 2) := by decide +kernel
theorem dX12_arrive_89 : decode cX12_arrive 89 = .ok (.iconst 1, 1) := by decide +kernel
theorem dX12_arrive_90 : decode cX12_arrive 90 = .ok (.iadd, 1) := by decide +kernel
theorem dX12_arrive_91 : decode cX12_arrive 91 = .ok (.iaload, 1) := by decide +kernel
theorem dX12_arrive_92 : decode cX12_arrive 92 = .ok (.ifCond .ne 10, 3) := by decide +kernel
theorem dX12_arrive_95 : decode cX12_arrive 95 = .ok (.iload 4, 2) := by decide +kernel
theorem dX12_arrive_97 : decode cX12_arrive 97 = .ok (.iconst 2, 1) := by decide +kernel
theorem dX12_arrive_98 : decode cX12_arrive 98 = .ok (.iadd, 1) := by decide +kernel
theorem dX12_arrive_99 : decode cX12_arrive 99 = .ok (.goto 18, 3) := by decide +kernel
theorem dX12_arrive_102 : decode cX12_arrive 102 = .ok (.aload_n 0, 1) := by decide +kernel
theorem dX12_arrive_103 : decode cX12_arrive 103 = .ok (.getfield 17, 3) := by decide +kernel
theorem dX12_arrive_106 : decode cX12_arrive 106 = .ok (.iload 4, 2) := by decide +kernel
theorem dX12_arrive_108 : decode cX12_arrive 108 = .ok (.iconst 3, 1) := by decide +kernel
theorem dX12_arrive_109 : decode cX12_arrive 109 = .ok (.iadd, 1) := by decide +kernel
theorem dX12_arrive_110 : decode cX12_arrive 110 = .ok (.iaload, 1) := by decide +kernel
theorem dX12_arrive_111 : decode cX12_arrive 111 = .ok (.invokestatic 197, 3) := by decide +kernel
theorem dX12_arrive_114 : decode cX12_arrive 114 = .ok (.bipush 8, 2) := by decide +kernel
theorem dX12_arrive_116 : decode cX12_arrive 116 = .ok (.iadd, 1) := by decide +kernel
theorem dX12_arrive_117 : decode cX12_arrive 117 = .ok (.iload_n 1, 1) := by decide +kernel
theorem dX12_arrive_118 : decode cX12_arrive 118 = .ok (.iastore, 1) := by decide +kernel
theorem dX12_arrive_119 : decode cX12_arrive 119 = .ok (.aload_n 0, 1) := by decide +kernel
theorem dX12_arrive_120 : decode cX12_arrive 120 = .ok (.getfield 17, 3) := by decide +kernel
theorem dX12_arrive_123 : decode cX12_arrive 123 = .ok (.iload 4, 2) := by decide +kernel
theorem dX12_arrive_125 : decode cX12_arrive 125 = .ok (.iconst 3, 1) := by decide +kernel
theorem dX12_arrive_126 : decode cX12_arrive 126 = .ok (.iadd, 1) := by decide +kernel
theorem dX12_arrive_127 : decode cX12_arrive 127 = .ok (.iload_n 1, 1) := by decide +kernel
theorem dX12_arrive_128 : decode cX12_arrive 128 = .ok (.iastore, 1) := by decide +kernel
theorem dX12_arrive_129 : decode cX12_arrive 129 = .ok (.aload_n 0, 1) := by decide +kernel
theorem dX12_arrive_130 : decode cX12_arrive 130 = .ok (.getfield 17, 3) := by decide +kernel
theorem dX12_arrive_133 : decode cX12_arrive 133 = .ok (.iload 4, 2) := by decide +kernel
theorem dX12_arrive_135 : decode cX12_arrive 135 = .ok (.iconst 1, 1) := by decide +kernel
theorem dX12_arrive_136 : decode cX12_arrive 136 = .ok (.iadd, 1) := by decide +kernel
theorem dX12_arrive_137 : decode cX12_arrive 137 = .ok (.dup2, 1) := by decide +kernel
theorem dX12_arrive_138 : decode cX12_arrive 138 = .ok (.iaload, 1) := by decide +kernel
theorem dX12_arrive_139 : decode cX12_arrive 139 = .ok (.iconst 1, 1) := by decide +kernel
theorem dX12_arrive_140 : decode cX12_arrive 140 = .ok (.iadd, 1) := by decide +kernel
theorem dX12_arrive_141 : decode cX12_arrive 141 = .ok (.iastore, 1) := by decide +kernel
theorem dX12_arrive_142 : decode cX12_arrive 142 = .ok (.return_, 1) := by decide +kernel
theorem dX12_canPass_0 : decode cX12_canPass 0 = .ok (.iload_n 1, 1) := by decide +kernel
theorem dX12_canPass_1 : decode cX12_canPass 1 = .ok (.invokestatic 197, 3) := by decide +kernel
theorem dX12_canPass_4 : decode cX12_canPass 4 = .ok (.istore_n 3, 1) := by decide +kernel
theorem dX12_canPass_5 : decode cX12_canPass 5 = .ok (.aload_n 0, 1) := by decide +kernel
theorem dX12_canPass_6 : decode cX12_canPass 6 = .ok (.getfield 17, 3) := by decide +kernel
theorem dX12_canPass_9 : decode cX12_canPass 9 = .ok (.iload_n 3, 1) := by decide +kernel
theorem dX12_canPass_10 : decode cX12_canPass 10 = .ok (.iconst 2, 1) := by decide +kernel
theorem dX12_canPass_11 : decode cX12_canPass 11 = .ok (.iadd, 1) := by decide +kernel
theorem dX12_canPass_12 : decode cX12_canPass 12 = .ok (.iaload, 1) := by decide +kernel
theorem dX12_canPass_13 : decode cX12_canPass 13 = .ok (.istore 4, 2) := by decide +kernel
theorem dX12_canPass_15 : decode cX12_canPass 15 = .ok (.aload_n 0, 1) := by decide +kernel
theorem dX12_canPass_16 : decode cX12_canPass 16 = .ok (.getfield 17, 3) := by decide +kernel
theorem dX12_canPass_19 : decode cX12_canPass 19 = .ok (.iload_n 3, 1) := by decide +kernel
theorem dX12_canPass_20 : decode cX12_canPass 20 = .ok (.iconst 0, 1) := by decide +kernel
theorem dX12_canPass_21 : decode cX12_canPass 21 = .ok (.iadd, 1) := by decide +kernel
theorem dX12_canPass_22 : decode cX12_canPass 22 = .ok (.iaload, 1) := by decide +kernel
theorem dX12_canPass_23 : decode cX12_canPass 23 = .ok (.istore 5, 2) := by decide +kernel
theorem dX12_canPass_25 : decode cX12_canPass 25 = .ok (.iload 4, 2) := by decide +kernel
theorem dX12_canPass_27 : decode cX12_canPass 27 = .ok (.aload_n 0, 1) := by decide +kernel
theorem dX12_canPass_28 : decode cX12_canPass 28 = .ok (.getfield 17, 3) := by decide +kernel
theorem dX12_canPass_31 : decode cX12_canPass 31 = .ok (.iload_n 2, 1) := by decide +kernel
theorem dX12_canPass_32 : decode cX12_canPass 32 = .ok (.iconst 0, 1) := by decide +kernel
theorem dX12_canPass_33 : decode cX12_canPass 33 = .ok (.iadd, 1) := by decide +kernel
theorem dX12_canPass_34 : decode cX12_canPass 34 = .ok (.iaload, 1) := by decide +kernel
theorem dX12_canPass_35 : decode cX12_canPass 35 = .ok (.if_icmp .gt 5, 3) := by decide +kernel
theorem dX12_canPass_38 : decode cX12_canPass 38 = .ok (.iconst 1, 1) := by decide +kernel
theorem dX12_canPass_39 : decode cX12_canPass 39 = .ok (.ireturn, 1) := by decide +kernel
theorem dX12_canPass_40 : decode cX12_canPass 40 = .ok (.aload_n 0, 1) := by decide +kernel
theorem dX12_canPass_41 : decode cX12_canPass 41 = .ok (.getfield 17, 3) := by decide +kernel
theorem dX12_canPass_44 : decode cX12_canPass 44 = .ok (.iconst 0, 1) := by decide +kernel
theorem dX12_canPass_45 : decode cX12_canPass 45 = .ok (.iaload, 1) := by decide +kernel
theorem dX12_canPass_46 : decode cX12_canPass 46 = .ok (.aload_n 0, 1) := by decide +kernel
theorem dX12_canPass_47 : decode cX12_canPass 47 = .ok (.getfield 17, 3) := by decide +kernel
theorem dX12_canPass_50 : decode cX12_canPass 50 = .ok (.iload_n 3, 1) := by decide +kernel
theorem dX12_canPass_51 : decode cX12_canPass 51 = .ok (.bipush 7, 2) := by decide +kernel
theorem dX12_canPass_53 : decode cX12_canPass 53 = .ok (.iadd, 1) := by decide +kernel
theorem dX12_canPass_54 : decode cX12_canPass 54 = .ok (.iaload, 1) := by decide +kernel
theorem dX12_canPass_55 : decode cX12_canPass 55 = .ok (.isub, 1) := by decide +kernel
theorem dX12_canPass_56 : decode cX12_canPass 56 = .ok (.aload_n 0, 1) := by decide +kernel
theorem dX12_canPass_57 : decode cX12_canPass 57 = .ok (.iload 5, 2) := by decide +kernel
theorem dX12_canPass_59 : decode cX12_canPass 59 = .ok (.iconst 1, 1) := by decide +kernel
theorem dX12_canPass_60 : decode cX12_canPass 60 = .ok (.invokevirtual 200, 3) := by decide +kernel
theorem dX12_canPass_63 : decode cX12_canPass 63 = .ok (.if_icmp .lt 27, 3) := by decide +kernel
theorem dX12_canPass_66 : decode cX12_canPass 66 = .ok (.iload 4, 2) := by decide +kernel
theorem dX12_canPass_68 : decode cX12_canPass 68 = .ok (.aload_n 0, 1) := by decide +kernel
theorem dX12_canPass_69 : decode cX12_canPass 69 = .ok (.getfield 17, 3) := by decide +kernel
theorem dX12_canPass_72 : decode cX12_canPass 72 = .ok (.iload_n 2, 1) := by decide +kernel
theorem dX12_canPass_73 : decode cX12_canPass 73 = .ok (.iconst 0, 1) := by decide +kernel
theorem dX12_canPass_74 : decode cX12_canPass 74 = .ok (.iadd, 1) := by decide +kernel
theorem dX12_canPass_75 : decode cX12_canPass 75 = .ok (.iaload, 1) := by decide +kernel
theorem dX12_canPass_76 : decode cX12_canPass 76 = .ok (.aload_n 0, 1) := by decide +kernel
theorem dX12_canPass_77 : decode cX12_canPass 77 = .ok (.iload 5, 2) := by decide +kernel
theorem dX12_canPass_79 : decode cX12_canPass 79 = .ok (.invokevirtual 234, 3) := by decide +kernel
theorem dX12_canPass_82 : decode cX12_canPass 82 = .ok (.iadd, 1) := by decide +kernel
theorem dX12_canPass_83 : decode cX12_canPass 83 = .ok (.if_icmp .gt 7, 3) := by decide +kernel
theorem dX12_canPass_86 : decode cX12_canPass 86 = .ok (.iconst 1, 1) := by decide +kernel
theorem dX12_canPass_87 : decode cX12_canPass 87 = .ok (.goto 4, 3) := by decide +kernel
theorem dX12_canPass_90 : decode cX12_canPass 90 = .ok (.iconst 0, 1) := by decide +kernel
theorem dX12_canPass_91 : decode cX12_canPass 91 = .ok (.ireturn, 1) := by decide +kernel
theorem dX12_note_0 : decode cX12_note 0 = .ok (.aload_n 0, 1) := by decide +kernel
theorem dX12_note_1 : decode cX12_note 1 = .ok (.getfield 17, 3) := by decide +kernel
theorem dX12_note_4 : decode cX12_note 4 = .ok (.bipush 14, 2) := by decide +kernel
theorem dX12_note_6 : decode cX12_note 6 = .ok (.iaload, 1) := by decide +kernel
theorem dX12_note_7 : decode cX12_note 7 = .ok (.bipush 40, 2) := by decide +kernel
theorem dX12_note_9 : decode cX12_note 9 = .ok (.if_icmp .ne 49, 3) := by decide +kernel
theorem dX12_note_12 : decode cX12_note 12 = .ok (.sipush 705, 3) := by decide +kernel
theorem dX12_note_15 : decode cX12_note 15 = .ok (.istore 5, 2) := by decide +kernel
theorem dX12_note_17 : decode cX12_note 17 = .ok (.iload 5, 2) := by decide +kernel
theorem dX12_note_19 : decode cX12_note 19 = .ok (.sipush 900, 3) := by decide +kernel
theorem dX12_note_22 : decode cX12_note 22 = .ok (.if_icmp .ge 25, 3) := by decide +kernel
theorem dX12_note_25 : decode cX12_note 25 = .ok (.aload_n 0, 1) := by decide +kernel
theorem dX12_note_26 : decode cX12_note 26 = .ok (.getfield 17, 3) := by decide +kernel
theorem dX12_note_29 : decode cX12_note 29 = .ok (.iload 5, 2) := by decide +kernel
theorem dX12_note_31 : decode cX12_note 31 = .ok (.aload_n 0, 1) := by decide +kernel
theorem dX12_note_32 : decode cX12_note 32 = .ok (.getfield 17, 3) := by decide +kernel
theorem dX12_note_35 : decode cX12_note 35 = .ok (.iload 5, 2) := by decide +kernel
theorem dX12_note_37 : decode cX12_note 37 = .ok (.iconst 5, 1) := by decide +kernel
theorem dX12_note_38 : decode cX12_note 38 = .ok (.iadd, 1) := by decide +kernel
theorem dX12_note_39 : decode cX12_note 39 = .ok (.iaload, 1) := by decide +kernel
theorem dX12_note_40 : decode cX12_note 40 = .ok (.iastore, 1) := by decide +kernel
theorem dX12_note_41 : decode cX12_note 41 = .ok (.iinc 5 1, 3) := by decide +kernel
theorem dX12_note_44 : decode cX12_note 44 = .ok (.goto (-27), 3) := by decide +kernel
theorem dX12_note_47 : decode cX12_note 47 = .ok (.aload_n 0, 1) := by decide +kernel
theorem dX12_note_48 : decode cX12_note 48 = .ok (.getfield 17, 3) := by decide +kernel
theorem dX12_note_51 : decode cX12_note 51 = .ok (.bipush 14, 2) := by decide +kernel
theorem dX12_note_53 : decode cX12_note 53 = .ok (.dup2, 1) := by decide +kernel
theorem dX12_note_54 : decode cX12_note 54 = .ok (.iaload, 1) := by decide +kernel
theorem dX12_note_55 : decode cX12_note 55 = .ok (.iconst 1, 1) := by decide +kernel
theorem dX12_note_56 : decode cX12_note 56 = .ok (.isub, 1) := by decide +kernel
theorem dX12_note_57 : decode cX12_note 57 = .ok (.iastore, 1) := by decide +kernel
theorem dX12_note_58 : decode cX12_note 58 = .ok (.sipush 705, 3) := by decide +kernel
theorem dX12_note_61 : decode cX12_note 61 = .ok (.iconst 5, 1) := by decide +kernel
theorem dX12_note_62 : decode cX12_note 62 = .ok (.aload_n 0, 1) := by decide +kernel
theorem dX12_note_63 : decode cX12_note 63 = .ok (.getfield 17, 3) := by decide +kernel
theorem dX12_note_66 : decode cX12_note 66 = .ok (.bipush 14, 2) := by decide +kernel
theorem dX12_note_68 : decode cX12_note 68 = .ok (.iaload, 1) := by decide +kernel
theorem dX12_note_69 : decode cX12_note 69 = .ok (.imul, 1) := by decide +kernel
theorem dX12_note_70 : decode cX12_note 70 = .ok (.iadd, 1) := by decide +kernel
theorem dX12_note_71 : decode cX12_note 71 = .ok (.istore 5, 2) := by decide +kernel
theorem dX12_note_73 : decode cX12_note 73 = .ok (.aload_n 0, 1) := by decide +kernel
theorem dX12_note_74 : decode cX12_note 74 = .ok (.getfield 17, 3) := by decide +kernel
theorem dX12_note_77 : decode cX12_note 77 = .ok (.iload 5, 2) := by decide +kernel
theorem dX12_note_79 : decode cX12_note 79 = .ok (.aload_n 0, 1) := by decide +kernel
theorem dX12_note_80 : decode cX12_note 80 = .ok (.getfield 17, 3) := by decide +kernel
theorem dX12_note_83 : decode cX12_note 83 = .ok (.iconst 0, 1) := by decide +kernel
theorem dX12_note_84 : decode cX12_note 84 = .ok (.iaload, 1) := by decide +kernel
theorem dX12_note_85 : decode cX12_note 85 = .ok (.iastore, 1) := by decide +kernel
theorem dX12_note_86 : decode cX12_note 86 = .ok (.aload_n 0, 1) := by decide +kernel
theorem dX12_note_87 : decode cX12_note 87 = .ok (.getfield 17, 3) := by decide +kernel
theorem dX12_note_90 : decode cX12_note 90 = .ok (.iload 5, 2) := by decide +kernel
theorem dX12_note_92 : decode cX12_note 92 = .ok (.iconst 1, 1) := by decide +kernel
theorem dX12_note_93 : decode cX12_note 93 = .ok (.iadd, 1) := by decide +kernel
theorem dX12_note_94 : decode cX12_note 94 = .ok (.iload_n 1, 1) := by decide +kernel
theorem dX12_note_95 : decode cX12_note 95 = .ok (.iastore, 1) := by decide +kernel
theorem dX12_note_96 : decode cX12_note 96 = .ok (.aload_n 0, 1) := by decide +kernel
theorem dX12_note_97 : decode cX12_note 97 = .ok (.getfield 17, 3) := by decide +kernel
theorem dX12_note_100 : decode cX12_note 100 = .ok (.iload 5, 2) := by decide +kernel
theorem dX12_note_102 : decode cX12_note 102 = .ok (.iconst 2, 1) := by decide +kernel
theorem dX12_note_103 : decode cX12_note 103 = .ok (.iadd, 1) := by decide +kernel
theorem dX12_note_104 : decode cX12_note 104 = .ok (.iload_n 2, 1) := by decide +kernel
theorem dX12_note_105 : decode cX12_note 105 = .ok (.iastore, 1) := by decide +kernel
theorem dX12_note_106 : decode cX12_note 106 = .ok (.aload_n 0, 1) := by decide +kernel
theorem dX12_note_107 : decode cX12_note 107 = .ok (.getfield 17, 3) := by decide +kernel
theorem dX12_note_110 : decode cX12_note 110 = .ok (.iload 5, 2) := by decide +kernel
theorem dX12_note_112 : decode cX12_note 112 = .ok (.iconst 3, 1) := by decide +kernel
theorem dX12_note_113 : decode cX12_note 113 = .ok (.iadd, 1) := by decide +kernel
theorem dX12_note_114 : decode cX12_note 114 = .ok (.iload_n 3, 1) := by decide +kernel
theorem dX12_note_115 : decode cX12_note 115 = .ok (.iastore, 1) := by decide +kernel
theorem dX12_note_116 : decode cX12_note 116 = .ok (.aload_n 0, 1) := by decide +kernel
theorem dX12_note_117 : decode cX12_note 117 = .ok (.getfield 17, 3) := by decide +kernel
theorem dX12_note_120 : decode cX12_note 120 = .ok (.iload 5, 2) := by decide +kernel
theorem dX12_note_122 : decode cX12_note 122 = .ok (.iconst 4, 1) := by decide +kernel
theorem dX12_note_123 : decode cX12_note 123 = .ok (.iadd, 1) := by decide +kernel
theorem dX12_note_124 : decode cX12_note 124 = .ok (.iload 4, 2) := by decide +kernel
theorem dX12_note_126 : decode cX12_note 126 = .ok (.iastore, 1) := by decide +kernel
theorem dX12_note_127 : decode cX12_note 127 = .ok (.aload_n 0, 1) := by decide +kernel
theorem dX12_note_128 : decode cX12_note 128 = .ok (.getfield 17, 3) := by decide +kernel
theorem dX12_note_131 : decode cX12_note 131 = .ok (.bipush 14, 2) := by decide +kernel
theorem dX12_note_133 : decode cX12_note 133 = .ok (.dup2, 1) := by decide +kernel
theorem dX12_note_134 : decode cX12_note 134 = .ok (.iaload, 1) := by decide +kernel
theorem dX12_note_135 : decode cX12_note 135 = .ok (.iconst 1, 1) := by decide +kernel
theorem dX12_note_136 : decode cX12_note 136 = .ok (.iadd, 1) := by decide +kernel
theorem dX12_note_137 : decode cX12_note 137 = .ok (.iastore, 1) := by decide +kernel
theorem dX12_note_138 : decode cX12_note 138 = .ok (.return_, 1) := by decide +kernel
theorem dX12_passOne_0 : decode cX12_passOne 0 = .ok (.iload_n 1, 1) := by decide +kernel
theorem dX12_passOne_1 : decode cX12_passOne 1 = .ok (.invokestatic 197, 3) := by decide +kernel
theorem dX12_passOne_4 : decode cX12_passOne 4 = .ok (.istore 4, 2) := by decide +kernel
theorem dX12_passOne_6 : decode cX12_passOne 6 = .ok (.aload_n 0, 1) := by decide +kernel
theorem dX12_passOne_7 : decode cX12_passOne 7 = .ok (.getfield 17, 3) := by decide +kernel
theorem dX12_passOne_10 : decode cX12_passOne 10 = .ok (.iload 4, 2) := by decide +kernel
theorem dX12_passOne_12 : decode cX12_passOne 12 = .ok (.iconst 0, 1) := by decide +kernel
theorem dX12_passOne_13 : decode cX12_passOne 13 = .ok (.iadd, 1) := by decide +kernel
theorem dX12_passOne_14 : decode cX12_passOne 14 = .ok (.iaload, 1) := by decide +kernel
theorem dX12_passOne_15 : decode cX12_passOne 15 = .ok (.istore 5, 2) := by decide +kernel
theorem dX12_passOne_17 : decode cX12_passOne 17 = .ok (.aload_n 0, 1) := by decide +kernel
theorem dX12_passOne_18 : decode cX12_passOne 18 = .ok (.getfield 17, 3) := by decide +kernel
theorem dX12_passOne_21 : decode cX12_passOne 21 = .ok (.iload 4, 2) := by decide +kernel
theorem dX12_passOne_23 : decode cX12_passOne 23 = .ok (.iconst 2, 1) := by decide +kernel
theorem dX12_passOne_24 : decode cX12_passOne 24 = .ok (.iadd, 1) := by decide +kernel
theorem dX12_passOne_25 : decode cX12_passOne 25 = .ok (.iaload, 1) := by decide +kernel
theorem dX12_passOne_26 : decode cX12_passOne 26 = .ok (.istore 6, 2) := by decide +kernel
theorem dX12_passOne_28 : decode cX12_passOne 28 = .ok (.iload 6, 2) := by decide +kernel
theorem dX12_passOne_30 : decode cX12_passOne 30 = .ok (.aload_n 0, 1) := by decide +kernel
theorem dX12_passOne_31 : decode cX12_passOne 31 = .ok (.getfield 17, 3) := by decide +kernel
theorem dX12_passOne_34 : decode cX12_passOne 34 = .ok (.iload_n 3, 1) := by decide +kernel
theorem dX12_passOne_35 : decode cX12_passOne 35 = .ok (.iconst 0, 1) := by decide +kernel
theorem dX12_passOne_36 : decode cX12_passOne 36 = .ok (.iadd, 1) := by decide +kernel
theorem dX12_passOne_37 : decode cX12_passOne 37 = .ok (.iaload, 1) := by decide +kernel
theorem dX12_passOne_38 : decode cX12_passOne 38 = .ok (.invokestatic 97, 3) := by decide +kernel
theorem dX12_passOne_41 : decode cX12_passOne 41 = .ok (.istore 7, 2) := by decide +kernel
theorem dX12_passOne_43 : decode cX12_passOne 43 = .ok (.iload 6, 2) := by decide +kernel
theorem dX12_passOne_45 : decode cX12_passOne 45 = .ok (.iload 7, 2) := by decide +kernel
theorem dX12_passOne_47 : decode cX12_passOne 47 = .ok (.isub, 1) := by decide +kernel
theorem dX12_passOne_48 : decode cX12_passOne 48 = .ok (.istore 8, 2) := by decide +kernel
theorem dX12_passOne_50 : decode cX12_passOne 50 = .ok (.bipush 33, 2) := by decide +kernel
theorem dX12_passOne_52 : decode cX12_passOne 52 = .ok (.bipush 8, 2) := by decide +kernel
theorem dX12_passOne_54 : decode cX12_passOne 54 = .ok (.iload 5, 2) := by decide +kernel
theorem dX12_passOne_56 : decode cX12_passOne 56 = .ok (.imul, 1) := by decide +kernel
theorem dX12_passOne_57 : decode cX12_passOne 57 = .ok (.iadd, 1) := by decide +kernel
theorem dX12_passOne_58 : decode cX12_passOne 58 = .ok (.istore 9, 2) := by decide +kernel
theorem dX12_passOne_60 : decode cX12_passOne 60 = .ok (.aload_n 0, 1) := by decide +kernel
theorem dX12_passOne_61 : decode cX12_passOne 61 = .ok (.getfield 17, 3) := by decide +kernel
theorem dX12_passOne_64 : decode cX12_passOne 64 = .ok (.iload_n 3, 1) := by decide +kernel
theorem dX12_passOne_65 : decode cX12_passOne 65 = .ok (.iconst 0, 1) := by decide +kernel
theorem dX12_passOne_66 : decode cX12_passOne 66 = .ok (.iadd, 1) := by decide +kernel
theorem dX12_passOne_67 : decode cX12_passOne 67 = .ok (.dup2, 1) := by decide +kernel
theorem dX12_passOne_68 : decode cX12_passOne 68 = .ok (.iaload, 1) := by decide +kernel
theorem dX12_passOne_69 : decode cX12_passOne 69 = .ok (.iload 7, 2) := by decide +kernel
theorem dX12_passOne_71 : decode cX12_passOne 71 = .ok (.isub, 1) := by decide +kernel
theorem dX12_passOne_72 : decode cX12_passOne 72 = .ok (.iastore, 1) := by decide +kernel
theorem dX12_passOne_73 : decode cX12_passOne 73 = .ok (.aload_n 0, 1) := by decide +kernel
theorem dX12_passOne_74 : decode cX12_passOne 74 = .ok (.getfield 17, 3) := by decide +kernel
theorem dX12_passOne_77 : decode cX12_passOne 77 = .ok (.iload_n 3, 1) := by decide +kernel
theorem dX12_passOne_78 : decode cX12_passOne 78 = .ok (.iconst 2, 1) := by decide +kernel
theorem dX12_passOne_79 : decode cX12_passOne 79 = .ok (.iadd, 1) := by decide +kernel
theorem dX12_passOne_80 : decode cX12_passOne 80 = .ok (.aload_n 0, 1) := by decide +kernel
theorem dX12_passOne_81 : decode cX12_passOne 81 = .ok (.getfield 17, 3) := by decide +kernel
theorem dX12_passOne_84 : decode cX12_passOne 84 = .ok (.iload 4, 2) := by decide +kernel
theorem dX12_passOne_86 : decode cX12_passOne 86 = .ok (.bipush 8, 2) := by decide +kernel
theorem dX12_passOne_88 : decode cX12_passOne 88 = .ok (.iadd, 1) := by decide +kernel
theorem dX12_passOne_89 : decode cX12_passOne 89 = .ok (.iaload, 1) := by decide +kernel
theorem dX12_passOne_90 : decode cX12_passOne 90 = .ok (.iastore, 1) := by decide +kernel
theorem dX12_passOne_91 : decode cX12_passOne 91 = .ok (.aload_n 0, 1) := by decide +kernel
theorem dX12_passOne_92 : decode cX12_passOne 92 = .ok (.getfield 17, 3) := by decide +kernel
theorem dX12_passOne_95 : decode cX12_passOne 95 = .ok (.iload_n 3, 1) := by decide +kernel
theorem dX12_passOne_96 : decode cX12_passOne 96 = .ok (.iconst 1, 1) := by decide +kernel
theorem dX12_passOne_97 : decode cX12_passOne 97 = .ok (.iadd, 1) := by decide +kernel
theorem dX12_passOne_98 : decode cX12_passOne 98 = .ok (.dup2, 1) := by decide +kernel
theorem dX12_passOne_99 : decode cX12_passOne 99 = .ok (.iaload, 1) := by decide +kernel
theorem dX12_passOne_100 : decode cX12_passOne 100 = .ok (.iconst 1, 1) := by decide +kernel
theorem dX12_passOne_101 : decode cX12_passOne 101 = .ok (.isub, 1) := by decide +kernel
theorem dX12_passOne_102 : decode cX12_passOne 102 = .ok (.iastore, 1) := by decide +kernel
theorem dX12_passOne_103 : decode cX12_passOne 103 = .ok (.iload 8, 2) := by decide +kernel
theorem dX12_passOne_105 : decode cX12_passOne 105 = .ok (.ifCond .le 11, 3) := by decide +kernel
theorem dX12_passOne_108 : decode cX12_passOne 108 = .ok (.aload_n 0, 1) := by decide +kernel
theorem dX12_passOne_109 : decode cX12_passOne 109 = .ok (.iload 5, 2) := by decide +kernel
theorem dX12_passOne_111 : decode cX12_passOne 111 = .ok (.iload 8, 2) := by decide +kernel
theorem dX12_passOne_113 : decode cX12_passOne 113 = .ok (.invokevirtual 237, 3) := by decide +kernel
theorem dX12_passOne_116 : decode cX12_passOne 116 = .ok (.aload_n 0, 1) := by decide +kernel
theorem dX12_passOne_117 : decode cX12_passOne 117 = .ok (.getfield 17, 3) := by decide +kernel
theorem dX12_passOne_120 : decode cX12_passOne 120 = .ok (.iload 4, 2) := by decide +kernel
theorem dX12_passOne_122 : decode cX12_passOne 122 = .ok (.iconst 5, 1) := by decide +kernel
theorem dX12_passOne_123 : decode cX12_passOne 123 = .ok (.iadd, 1) := by decide +kernel
theorem dX12_passOne_124 : decode cX12_passOne 124 = .ok (.dup2, 1) := by decide +kernel
theorem dX12_passOne_125 : decode cX12_passOne 125 = .ok (.iaload, 1) := by decide +kernel
theorem dX12_passOne_126 : decode cX12_passOne 126 = .ok (.iload 8, 2) := by decide +kernel
theorem dX12_passOne_128 : decode cX12_passOne 128 = .ok (.iadd, 1) := by decide +kernel
theorem dX12_passOne_129 : decode cX12_passOne 129 = .ok (.iastore, 1) := by decide +kernel
theorem dX12_passOne_130 : decode cX12_passOne 130 = .ok (.aload_n 0, 1) := by decide +kernel
theorem dX12_passOne_131 : decode cX12_passOne 131 = .ok (.getfield 17, 3) := by decide +kernel
theorem dX12_passOne_134 : decode cX12_passOne 134 = .ok (.iload 9, 2) := by decide +kernel
theorem dX12_passOne_136 : decode cX12_passOne 136 = .ok (.iconst 2, 1) := by decide +kernel
theorem dX12_passOne_137 : decode cX12_passOne 137 = .ok (.iadd, 1) := by decide +kernel
theorem dX12_passOne_138 : decode cX12_passOne 138 = .ok (.dup2, 1) := by decide +kernel
theorem dX12_passOne_139 : decode cX12_passOne 139 = .ok (.iaload, 1) := by decide +kernel
theorem dX12_passOne_140 : decode cX12_passOne 140 = .ok (.aload_n 0, 1) := by decide +kernel
theorem dX12_passOne_141 : decode cX12_passOne 141 = .ok (.iload 6, 2) := by decide +kernel
theorem dX12_passOne_143 : decode cX12_passOne 143 = .ok (.iload_n 2, 1) := by decide +kernel
theorem dX12_passOne_144 : decode cX12_passOne 144 = .ok (.iload 8, 2) := by decide +kernel
theorem dX12_passOne_146 : decode cX12_passOne 146 = .ok (.aload_n 0, 1) := by decide +kernel
theorem dX12_passOne_147 : decode cX12_passOne 147 = .ok (.getfield 17, 3) := by decide +kernel
theorem dX12_passOne_150 : decode cX12_passOne 150 = .ok (.iconst 0, 1) := by decide +kernel
theorem dX12_passOne_151 : decode cX12_passOne 151 = .ok (.iaload, 1) := by decide +kernel
theorem dX12_passOne_152 : decode cX12_passOne 152 = .ok (.aload_n 0, 1) := by decide +kernel
theorem dX12_passOne_153 : decode cX12_passOne 153 = .ok (.getfield 17, 3) := by decide +kernel
theorem dX12_passOne_156 : decode cX12_passOne 156 = .ok (.iload 4, 2) := by decide +kernel
theorem dX12_passOne_158 : decode cX12_passOne 158 = .ok (.bipush 7, 2) := by decide +kernel
theorem dX12_passOne_160 : decode cX12_passOne 160 = .ok (.iadd, 1) := by decide +kernel
theorem dX12_passOne_161 : decode cX12_passOne 161 = .ok (.iaload, 1) := by decide +kernel
theorem dX12_passOne_162 : decode cX12_passOne 162 = .ok (.isub, 1) := by decide +kernel
theorem dX12_passOne_163 : decode cX12_passOne 163 = .ok (.invokevirtual 240, 3) := by decide +kernel
theorem dX12_passOne_166 : decode cX12_passOne 166 = .ok (.iadd, 1) := by decide +kernel
theorem dX12_passOne_167 : decode cX12_passOne 167 = .ok (.iastore, 1) := by decide +kernel
theorem dX12_passOne_168 : decode cX12_passOne 168 = .ok (.aload_n 0, 1) := by decide +kernel
theorem dX12_passOne_169 : decode cX12_passOne 169 = .ok (.iload_n 2, 1) := by decide +kernel
theorem dX12_passOne_170 : decode cX12_passOne 170 = .ok (.iload 5, 2) := by decide +kernel
theorem dX12_passOne_172 : decode cX12_passOne 172 = .ok (.iload 6, 2) := by decide +kernel
theorem dX12_passOne_174 : decode cX12_passOne 174 = .ok (.iload 8, 2) := by decide +kernel
theorem dX12_passOne_176 : decode cX12_passOne 176 = .ok (.invokevirtual 244, 3) := by decide +kernel
theorem dX12_passOne_179 : decode cX12_passOne 179 = .ok (.aload_n 0, 1) := by decide +kernel
theorem dX12_passOne_180 : decode cX12_passOne 180 = .ok (.getfield 17, 3) := by decide +kernel
theorem dX12_passOne_183 : decode cX12_passOne 183 = .ok (.iload 4, 2) := by decide +kernel
theorem dX12_passOne_185 : decode cX12_passOne 185 = .ok (.iconst 4, 1) := by decide +kernel
theorem dX12_passOne_186 : decode cX12_passOne 186 = .ok (.iadd, 1) := by decide +kernel
theorem dX12_passOne_187 : decode cX12_passOne 187 = .ok (.dup2, 1) := by decide +kernel
theorem dX12_passOne_188 : decode cX12_passOne 188 = .ok (.iaload, 1) := by decide +kernel
theorem dX12_passOne_189 : decode cX12_passOne 189 = .ok (.iconst 1, 1) := by decide +kernel
theorem dX12_passOne_190 : decode cX12_passOne 190 = .ok (.iadd, 1) := by decide +kernel
theorem dX12_passOne_191 : decode cX12_passOne 191 = .ok (.iastore, 1) := by decide +kernel
theorem dX12_passOne_192 : decode cX12_passOne 192 = .ok (.aload_n 0, 1) := by decide +kernel
theorem dX12_passOne_193 : decode cX12_passOne 193 = .ok (.getfield 17, 3) := by decide +kernel
theorem dX12_passOne_196 : decode cX12_passOne 196 = .ok (.iload 4, 2) := by decide +kernel
theorem dX12_passOne_198 : decode cX12_passOne 198 = .ok (.iconst 3, 1) := by decide +kernel
theorem dX12_passOne_199 : decode cX12_passOne 199 = .ok (.iadd, 1) := by decide +kernel
theorem dX12_passOne_200 : decode cX12_passOne 200 = .ok (.iconst 2, 1) := by decide +kernel
theorem dX12_passOne_201 : decode cX12_passOne 201 = .ok (.iastore, 1) := by decide +kernel
theorem dX12_passOne_202 : decode cX12_passOne 202 = .ok (.aload_n 0, 1) := by decide +kernel
theorem dX12_passOne_203 : decode cX12_passOne 203 = .ok (.getfield 17, 3) := by decide +kernel
theorem dX12_passOne_206 : decode cX12_passOne 206 = .ok (.iload 4, 2) := by decide +kernel
theorem dX12_passOne_208 : decode cX12_passOne 208 = .ok (.iconst 4, 1) := by decide +kernel
theorem dX12_passOne_209 : decode cX12_passOne 209 = .ok (.iadd, 1) := by decide +kernel
theorem dX12_passOne_210 : decode cX12_passOne 210 = .ok (.iaload, 1) := by decide +kernel
theorem dX12_passOne_211 : decode cX12_passOne 211 = .ok (.aload_n 0, 1) := by decide +kernel
theorem dX12_passOne_212 : decode cX12_passOne 212 = .ok (.getfield 17, 3) := by decide +kernel
theorem dX12_passOne_215 : decode cX12_passOne 215 = .ok (.iload 9, 2) := by decide +kernel
theorem dX12_passOne_217 : decode cX12_passOne 217 = .ok (.iconst 0, 1) := by decide +kernel
theorem dX12_passOne_218 : decode cX12_passOne 218 = .ok (.iadd, 1) := by decide +kernel
theorem dX12_passOne_219 : decode cX12_passOne 219 = .ok (.iaload, 1) := by decide +kernel
theorem dX12_passOne_220 : decode cX12_passOne 220 = .ok (.if_icmp .ge 4, 3) := by decide +kernel
theorem dX12_passOne_223 : decode cX12_passOne 223 = .ok (.return_, 1) := by decide +kernel
theorem dX12_passOne_224 : decode cX12_passOne 224 = .ok (.aload_n 0, 1) := by decide +kernel
theorem dX12_passOne_225 : decode cX12_passOne 225 = .ok (.iload_n 1, 1) := by decide +kernel
theorem dX12_passOne_226 : decode cX12_passOne 226 = .ok (.iconst 3, 1) := by decide +kernel
theorem dX12_passOne_227 : decode cX12_passOne 227 = .ok (.invokevirtual 229, 3) := by decide +kernel
theorem dX12_passOne_230 : decode cX12_passOne 230 = .ok (.aload_n 0, 1) := by decide +kernel
theorem dX12_passOne_231 : decode cX12_passOne 231 = .ok (.getfield 17, 3) := by decide +kernel
theorem dX12_passOne_234 : decode cX12_passOne 234 = .ok (.iload 9, 2) := by decide +kernel
theorem dX12_passOne_236 : decode cX12_passOne 236 = .ok (.iconst 3, 1) := by decide +kernel
theorem dX12_passOne_237 : decode cX12_passOne 237 = .ok (.iadd, 1) := by decide +kernel
theorem dX12_passOne_238 : decode cX12_passOne 238 = .ok (.dup2, 1) := by decide +kernel
theorem dX12_passOne_239 : decode cX12_passOne 239 = .ok (.iaload, 1) := by decide +kernel
theorem dX12_passOne_240 : decode cX12_passOne 240 = .ok (.iload 6, 2) := by decide +kernel
theorem dX12_passOne_242 : decode cX12_passOne 242 = .ok (.iadd, 1) := by decide +kernel
theorem dX12_passOne_243 : decode cX12_passOne 243 = .ok (.iastore, 1) := by decide +kernel
theorem dX12_passOne_244 : decode cX12_passOne 244 = .ok (.return_, 1) := by decide +kernel
theorem dX12_tick_0 : decode cX12_tick 0 = .ok (.iconst 0, 1) := by decide +kernel
theorem dX12_tick_1 : decode cX12_tick 1 = .ok (.istore_n 1, 1) := by decide +kernel
theorem dX12_tick_2 : decode cX12_tick 2 = .ok (.iload_n 1, 1) := by decide +kernel
theorem dX12_tick_3 : decode cX12_tick 3 = .ok (.aload_n 0, 1) := by decide +kernel
theorem dX12_tick_4 : decode cX12_tick 4 = .ok (.getfield 17, 3) := by decide +kernel
theorem dX12_tick_7 : decode cX12_tick 7 = .ok (.iconst 1, 1) := by decide +kernel
theorem dX12_tick_8 : decode cX12_tick 8 = .ok (.iaload, 1) := by decide +kernel
theorem dX12_tick_9 : decode cX12_tick 9 = .ok (.if_icmp .ge 67, 3) := by decide +kernel
theorem dX12_tick_12 : decode cX12_tick 12 = .ok (.iconst 0, 1) := by decide +kernel
theorem dX12_tick_13 : decode cX12_tick 13 = .ok (.istore_n 2, 1) := by decide +kernel
theorem dX12_tick_14 : decode cX12_tick 14 = .ok (.iload_n 2, 1) := by decide +kernel
theorem dX12_tick_15 : decode cX12_tick 15 = .ok (.aload_n 0, 1) := by decide +kernel
theorem dX12_tick_16 : decode cX12_tick 16 = .ok (.getfield 17, 3) := by decide +kernel
theorem dX12_tick_19 : decode cX12_tick 19 = .ok (.iconst 2, 1) := by decide +kernel
theorem dX12_tick_20 : decode cX12_tick 20 = .ok (.iaload, 1) := by decide +kernel
theorem dX12_tick_21 : decode cX12_tick 21 = .ok (.if_icmp .ge 49, 3) := by decide +kernel
theorem dX12_tick_24 : decode cX12_tick 24 = .ok (.aload_n 0, 1) := by decide +kernel
theorem dX12_tick_25 : decode cX12_tick 25 = .ok (.getfield 17, 3) := by decide +kernel
theorem dX12_tick_28 : decode cX12_tick 28 = .ok (.iload_n 1, 1) := by decide +kernel
theorem dX12_tick_29 : decode cX12_tick 29 = .ok (.iload_n 2, 1) := by decide +kernel
theorem dX12_tick_30 : decode cX12_tick 30 = .ok (.invokestatic 187, 3) := by decide +kernel
theorem dX12_tick_33 : decode cX12_tick 33 = .ok (.iconst 0, 1) := by decide +kernel
theorem dX12_tick_34 : decode cX12_tick 34 = .ok (.iadd, 1) := by decide +kernel
theorem dX12_tick_35 : decode cX12_tick 35 = .ok (.aload_n 0, 1) := by decide +kernel
theorem dX12_tick_36 : decode cX12_tick 36 = .ok (.iload_n 1, 1) := by decide +kernel
theorem dX12_tick_37 : decode cX12_tick 37 = .ok (.iconst 1, 1) := by decide +kernel
theorem dX12_tick_38 : decode cX12_tick 38 = .ok (.invokevirtual 226, 3) := by decide +kernel
theorem dX12_tick_41 : decode cX12_tick 41 = .ok (.aload_n 0, 1) := by decide +kernel
theorem dX12_tick_42 : decode cX12_tick 42 = .ok (.getfield 17, 3) := by decide +kernel
theorem dX12_tick_45 : decode cX12_tick 45 = .ok (.iload_n 1, 1) := by decide +kernel
theorem dX12_tick_46 : decode cX12_tick 46 = .ok (.iload_n 2, 1) := by decide +kernel
theorem dX12_tick_47 : decode cX12_tick 47 = .ok (.invokestatic 187, 3) := by decide +kernel
theorem dX12_tick_50 : decode cX12_tick 50 = .ok (.iconst 0, 1) := by decide +kernel
theorem dX12_tick_51 : decode cX12_tick 51 = .ok (.iadd, 1) := by decide +kernel
theorem dX12_tick_52 : decode cX12_tick 52 = .ok (.iaload, 1) := by decide +kernel
theorem dX12_tick_53 : decode cX12_tick 53 = .ok (.aload_n 0, 1) := by decide +kernel
theorem dX12_tick_54 : decode cX12_tick 54 = .ok (.iload_n 1, 1) := by decide +kernel
theorem dX12_tick_55 : decode cX12_tick 55 = .ok (.iconst 0, 1) := by decide +kernel
theorem dX12_tick_56 : decode cX12_tick 56 = .ok (.invokevirtual 226, 3) := by decide +kernel
theorem dX12_tick_59 : decode cX12_tick 59 = .ok (.iadd, 1) := by decide +kernel
theorem dX12_tick_60 : decode cX12_tick 60 = .ok (.invokestatic 97, 3) := by decide +kernel
theorem dX12_tick_63 : decode cX12_tick 63 = .ok (.iastore, 1) := by decide +kernel
theorem dX12_tick_64 : decode cX12_tick 64 = .ok (.iinc 2 1, 3) := by decide +kernel
theorem dX12_tick_67 : decode cX12_tick 67 = .ok (.goto (-53), 3) := by decide +kernel
theorem dX12_tick_70 : decode cX12_tick 70 = .ok (.iinc 1 1, 3) := by decide +kernel
theorem dX12_tick_73 : decode cX12_tick 73 = .ok (.goto (-71), 3) := by decide +kernel
theorem dX12_tick_76 : decode cX12_tick 76 = .ok (.aload_n 0, 1) := by decide +kernel
theorem dX12_tick_77 : decode cX12_tick 77 = .ok (.getfield 17, 3) := by decide +kernel
theorem dX12_tick_80 : decode cX12_tick 80 = .ok (.iconst 4, 1) := by decide +kernel
theorem dX12_tick_81 : decode cX12_tick 81 = .ok (.iaload, 1) := by decide +kernel
theorem dX12_tick_82 : decode cX12_tick 82 = .ok (.iconst 1, 1) := by decide +kernel
theorem dX12_tick_83 : decode cX12_tick 83 = .ok (.isub, 1) := by decide +kernel
theorem dX12_tick_84 : decode cX12_tick 84 = .ok (.istore_n 1, 1) := by decide +kernel
theorem dX12_tick_85 : decode cX12_tick 85 = .ok (.iload_n 1, 1) := by decide +kernel
theorem dX12_tick_86 : decode cX12_tick 86 = .ok (.ifCond .lt 48, 3) := by decide +kernel
theorem dX12_tick_89 : decode cX12_tick 89 = .ok (.aload_n 0, 1) := by decide +kernel
theorem dX12_tick_90 : decode cX12_tick 90 = .ok (.getfield 17, 3) := by decide +kernel
theorem dX12_tick_93 : decode cX12_tick 93 = .ok (.iload_n 1, 1) := by decide +kernel
theorem dX12_tick_94 : decode cX12_tick 94 = .ok (.invokestatic 203, 3) := by decide +kernel
theorem dX12_tick_97 : decode cX12_tick 97 = .ok (.iconst 2, 1) := by decide +kernel
theorem dX12_tick_98 : decode cX12_tick 98 = .ok (.iadd, 1) := by decide +kernel
theorem dX12_tick_99 : decode cX12_tick 99 = .ok (.iaload, 1) := by decide +kernel
theorem dX12_tick_100 : decode cX12_tick 100 = .ok (.aload_n 0, 1) := by decide +kernel
theorem dX12_tick_101 : decode cX12_tick 101 = .ok (.getfield 17, 3) := by decide +kernel
theorem dX12_tick_104 : decode cX12_tick 104 = .ok (.iconst 0, 1) := by decide +kernel
theorem dX12_tick_105 : decode cX12_tick 105 = .ok (.iaload, 1) := by decide +kernel
theorem dX12_tick_106 : decode cX12_tick 106 = .ok (.if_icmp .eq 6, 3) := by decide +kernel
theorem dX12_tick_109 : decode cX12_tick 109 = .ok (.goto 19, 3) := by decide +kernel
theorem dX12_tick_112 : decode cX12_tick 112 = .ok (.aload_n 0, 1) := by decide +kernel
theorem dX12_tick_113 : decode cX12_tick 113 = .ok (.iload_n 1, 1) := by decide +kernel
theorem dX12_tick_114 : decode cX12_tick 114 = .ok (.invokevirtual 206, 3) := by decide +kernel
theorem dX12_tick_117 : decode cX12_tick 117 = .ok (.aload_n 0, 1) := by decide +kernel
theorem dX12_tick_118 : decode cX12_tick 118 = .ok (.getfield 17, 3) := by decide +kernel
theorem dX12_tick_121 : decode cX12_tick 121 = .ok (.bipush 7, 2) := by decide +kernel
theorem dX12_tick_123 : decode cX12_tick 123 = .ok (.dup2, 1) := by decide +kernel
theorem dX12_tick_124 : decode cX12_tick 124 = .ok (.iaload, 1) := by decide +kernel
theorem dX12_tick_125 : decode cX12_tick 125 = .ok (.iconst 1, 1) := by decide +kernel
theorem dX12_tick_126 : decode cX12_tick 126 = .ok (.iadd, 1) := by decide +kernel
theorem dX12_tick_127 : decode cX12_tick 127 = .ok (.iastore, 1) := by decide +kernel
theorem dX12_tick_128 : decode cX12_tick 128 = .ok (.iinc 1 (-1), 3) := by decide +kernel
theorem dX12_tick_131 : decode cX12_tick 131 = .ok (.goto (-46), 3) := by decide +kernel
theorem dX12_tick_134 : decode cX12_tick 134 = .ok (.iconst 0, 1) := by decide +kernel
theorem dX12_tick_135 : decode cX12_tick 135 = .ok (.istore_n 1, 1) := by decide +kernel
theorem dX12_tick_136 : decode cX12_tick 136 = .ok (.iload_n 1, 1) := by decide +kernel
theorem dX12_tick_137 : decode cX12_tick 137 = .ok (.aload_n 0, 1) := by decide +kernel
theorem dX12_tick_138 : decode cX12_tick 138 = .ok (.getfield 17, 3) := by decide +kernel
theorem dX12_tick_141 : decode cX12_tick 141 = .ok (.iconst 3, 1) := by decide +kernel
theorem dX12_tick_142 : decode cX12_tick 142 = .ok (.iaload, 1) := by decide +kernel
theorem dX12_tick_143 : decode cX12_tick 143 = .ok (.if_icmp .ge 55, 3) := by decide +kernel
theorem dX12_tick_146 : decode cX12_tick 146 = .ok (.aload_n 0, 1) := by decide +kernel
theorem dX12_tick_147 : decode cX12_tick 147 = .ok (.getfield 17, 3) := by decide +kernel
theorem dX12_tick_150 : decode cX12_tick 150 = .ok (.iload_n 1, 1) := by decide +kernel
theorem dX12_tick_151 : decode cX12_tick 151 = .ok (.invokestatic 197, 3) := by decide +kernel
theorem dX12_tick_154 : decode cX12_tick 154 = .ok (.iconst 3, 1) := by decide +kernel
theorem dX12_tick_155 : decode cX12_tick 155 = .ok (.iadd, 1) := by decide +kernel
theorem dX12_tick_156 : decode cX12_tick 156 = .ok (.iaload, 1) := by decide +kernel
theorem dX12_tick_157 : decode cX12_tick 157 = .ok (.istore_n 2, 1) := by decide +kernel
theorem dX12_tick_158 : decode cX12_tick 158 = .ok (.iload_n 2, 1) := by decide +kernel
theorem dX12_tick_159 : decode cX12_tick 159 = .ok (.iconst 2, 1) := by decide +kernel
theorem dX12_tick_160 : decode cX12_tick 160 = .ok (.if_icmp .eq 27, 3) := by decide +kernel
theorem dX12_tick_163 : decode cX12_tick 163 = .ok (.iload_n 2, 1) := by decide +kernel
theorem dX12_tick_164 : decode cX12_tick 164 = .ok (.ifCond .ne 28, 3) := by decide +kernel
theorem dX12_tick_167 : decode cX12_tick 167 = .ok (.aload_n 0, 1) := by decide +kernel
theorem dX12_tick_168 : decode cX12_tick 168 = .ok (.getfield 17, 3) := by decide +kernel
theorem dX12_tick_171 : decode cX12_tick 171 = .ok (.iload_n 1, 1) := by decide +kernel
theorem dX12_tick_172 : decode cX12_tick 172 = .ok (.invokestatic 197, 3) := by decide +kernel
theorem dX12_tick_175 : decode cX12_tick 175 = .ok (.iconst 1, 1) := by decide +kernel
theorem dX12_tick_176 : decode cX12_tick 176 = .ok (.iadd, 1) := by decide +kernel
theorem dX12_tick_177 : decode cX12_tick 177 = .ok (.iaload, 1) := by decide +kernel
theorem dX12_tick_178 : decode cX12_tick 178 = .ok (.aload_n 0, 1) := by decide +kernel
theorem dX12_tick_179 : decode cX12_tick 179 = .ok (.getfield 17, 3) := by decide +kernel
theorem dX12_tick_182 : decode cX12_tick 182 = .ok (.iconst 0, 1) := by decide +kernel
theorem dX12_tick_183 : decode cX12_tick 183 = .ok (.iaload, 1) := by decide +kernel
theorem dX12_tick_184 : decode cX12_tick 184 = .ok (.if_icmp .ne 8, 3) := by decide +kernel
theorem dX12_tick_187 : decode cX12_tick 187 = .ok (.aload_n 0, 1) := by decide +kernel
theorem dX12_tick_188 : decode cX12_tick 188 = .ok (.iload_n 1, 1) := by decide +kernel
theorem dX12_tick_189 : decode cX12_tick 189 = .ok (.invokevirtual 248, 3) := by decide +kernel
theorem dX12_tick_192 : decode cX12_tick 192 = .ok (.iinc 1 1, 3) := by decide +kernel
theorem dX12_tick_195 : decode cX12_tick 195 = .ok (.goto (-59), 3) := by decide +kernel
theorem dX12_tick_198 : decode cX12_tick 198 = .ok (.iconst 0, 1) := by decide +kernel
theorem dX12_tick_199 : decode cX12_tick 199 = .ok (.istore_n 1, 1) := by decide +kernel
theorem dX12_tick_200 : decode cX12_tick 200 = .ok (.iload_n 1, 1) := by decide +kernel
theorem dX12_tick_201 : decode cX12_tick 201 = .ok (.aload_n 0, 1) := by decide +kernel
theorem dX12_tick_202 : decode cX12_tick 202 = .ok (.getfield 17, 3) := by decide +kernel
theorem dX12_tick_205 : decode cX12_tick 205 = .ok (.iconst 1, 1) := by decide +kernel
theorem dX12_tick_206 : decode cX12_tick 206 = .ok (.iaload, 1) := by decide +kernel
theorem dX12_tick_207 : decode cX12_tick 207 = .ok (.if_icmp .ge 77, 3) := by decide +kernel
theorem dX12_tick_210 : decode cX12_tick 210 = .ok (.iconst 0, 1) := by decide +kernel
theorem dX12_tick_211 : decode cX12_tick 211 = .ok (.istore_n 2, 1) := by decide +kernel
theorem dX12_tick_212 : decode cX12_tick 212 = .ok (.iload_n 2, 1) := by decide +kernel
theorem dX12_tick_213 : decode cX12_tick 213 = .ok (.aload_n 0, 1) := by decide +kernel
theorem dX12_tick_214 : decode cX12_tick 214 = .ok (.getfield 17, 3) := by decide +kernel
theorem dX12_tick_217 : decode cX12_tick 217 = .ok (.iconst 2, 1) := by decide +kernel
theorem dX12_tick_218 : decode cX12_tick 218 = .ok (.iaload, 1) := by decide +kernel
theorem dX12_tick_219 : decode cX12_tick 219 = .ok (.if_icmp .ge 59, 3) := by decide +kernel
theorem dX12_tick_222 : decode cX12_tick 222 = .ok (.iload_n 1, 1) := by decide +kernel
theorem dX12_tick_223 : decode cX12_tick 223 = .ok (.iload_n 2, 1) := by decide +kernel
theorem dX12_tick_224 : decode cX12_tick 224 = .ok (.invokestatic 187, 3) := by decide +kernel
theorem dX12_tick_227 : decode cX12_tick 227 = .ok (.istore_n 3, 1) := by decide +kernel
theorem dX12_tick_228 : decode cX12_tick 228 = .ok (.aload_n 0, 1) := by decide +kernel
theorem dX12_tick_229 : decode cX12_tick 229 = .ok (.getfield 17, 3) := by decide +kernel
theorem dX12_tick_232 : decode cX12_tick 232 = .ok (.iload_n 3, 1) := by decide +kernel
theorem dX12_tick_233 : decode cX12_tick 233 = .ok (.iconst 1, 1) := by decide +kernel
theorem dX12_tick_234 : decode cX12_tick 234 = .ok (.iadd, 1) := by decide +kernel
theorem dX12_tick_235 : decode cX12_tick 235 = .ok (.iaload, 1) := by decide +kernel
theorem dX12_tick_236 : decode cX12_tick 236 = .ok (.ifCond .le 36, 3) := by decide +kernel
theorem dX12_tick_239 : decode cX12_tick 239 = .ok (.aload_n 0, 1) := by decide +kernel
theorem dX12_tick_240 : decode cX12_tick 240 = .ok (.aload_n 0, 1) := by decide +kernel
theorem dX12_tick_241 : decode cX12_tick 241 = .ok (.getfield 17, 3) := by decide +kernel
theorem dX12_tick_244 : decode cX12_tick 244 = .ok (.iload_n 3, 1) := by decide +kernel
theorem dX12_tick_245 : decode cX12_tick 245 = .ok (.iconst 2, 1) := by decide +kernel
theorem dX12_tick_246 : decode cX12_tick 246 = .ok (.iadd, 1) := by decide +kernel
theorem dX12_tick_247 : decode cX12_tick 247 = .ok (.iaload, 1) := by decide +kernel
theorem dX12_tick_248 : decode cX12_tick 248 = .ok (.iload_n 3, 1) := by decide +kernel
theorem dX12_tick_249 : decode cX12_tick 249 = .ok (.invokevirtual 251, 3) := by decide +kernel
theorem dX12_tick_252 : decode cX12_tick 252 = .ok (.ifCond .eq 20, 3) := by decide +kernel
theorem dX12_tick_255 : decode cX12_tick 255 = .ok (.aload_n 0, 1) := by decide +kernel
theorem dX12_tick_256 : decode cX12_tick 256 = .ok (.aload_n 0, 1) := by decide +kernel
theorem dX12_tick_257 : decode cX12_tick 257 = .ok (.getfield 17, 3) := by decide +kernel
theorem dX12_tick_260 : decode cX12_tick 260 = .ok (.iload_n 3, 1) := by decide +kernel
theorem dX12_tick_261 : decode cX12_tick 261 = .ok (.iconst 2, 1) := by decide +kernel
theorem dX12_tick_262 : decode cX12_tick 262 = .ok (.iadd, 1) := by decide +kernel
theorem dX12_tick_263 : decode cX12_tick 263 = .ok (.iaload, 1) := by decide +kernel
theorem dX12_tick_264 : decode cX12_tick 264 = .ok (.iload_n 1, 1) := by decide +kernel
theorem dX12_tick_265 : decode cX12_tick 265 = .ok (.iload_n 3, 1) := by decide +kernel
theorem dX12_tick_266 : decode cX12_tick 266 = .ok (.invokevirtual 255, 3) := by decide +kernel
theorem dX12_tick_269 : decode cX12_tick 269 = .ok (.goto (-41), 3) := by decide +kernel
theorem dX12_tick_272 : decode cX12_tick 272 = .ok (.iinc 2 1, 3) := by decide +kernel
theorem dX12_tick_275 : decode cX12_tick 275 = .ok (.goto (-63), 3) := by decide +kernel
theorem dX12_tick_278 : decode cX12_tick 278 = .ok (.iinc 1 1, 3) := by decide +kernel
theorem dX12_tick_281 : decode cX12_tick 281 = .ok (.goto (-81), 3) := by decide +kernel
theorem dX12_tick_284 : decode cX12_tick 284 = .ok (.aload_n 0, 1) := by decide +kernel
theorem dX12_tick_285 : decode cX12_tick 285 = .ok (.getfield 17, 3) := by decide +kernel
theorem dX12_tick_288 : decode cX12_tick 288 = .ok (.iconst 0, 1) := by decide +kernel
theorem dX12_tick_289 : decode cX12_tick 289 = .ok (.dup2, 1) := by decide +kernel
theorem dX12_tick_290 : decode cX12_tick 290 = .ok (.iaload, 1) := by decide +kernel
theorem dX12_tick_291 : decode cX12_tick 291 = .ok (.iconst 1, 1) := by decide +kernel
theorem dX12_tick_292 : decode cX12_tick 292 = .ok (.iadd, 1) := by decide +kernel
theorem dX12_tick_293 : decode cX12_tick 293 = .ok (.iastore, 1) := by decide +kernel
theorem dX12_tick_294 : decode cX12_tick 294 = .ok (.return_, 1) := by decide +kernel
theorem dX12_hasEnded_0 : decode cX12_hasEnded 0 = .ok (.aload_n 0, 1) := by decide +kernel
theorem dX12_hasEnded_1 : decode cX12_hasEnded 1 = .ok (.getfield 17, 3) := by decide +kernel
theorem dX12_hasEnded_4 : decode cX12_hasEnded 4 = .ok (.iload_n 1, 1) := by decide +kernel
theorem dX12_hasEnded_5 : decode cX12_hasEnded 5 = .ok (.invokestatic 197, 3) := by decide +kernel
theorem dX12_hasEnded_8 : decode cX12_hasEnded 8 = .ok (.iconst 3, 1) := by decide +kernel
theorem dX12_hasEnded_9 : decode cX12_hasEnded 9 = .ok (.iadd, 1) := by decide +kernel
theorem dX12_hasEnded_10 : decode cX12_hasEnded 10 = .ok (.iaload, 1) := by decide +kernel
theorem dX12_hasEnded_11 : decode cX12_hasEnded 11 = .ok (.iconst 3, 1) := by decide +kernel
theorem dX12_hasEnded_12 : decode cX12_hasEnded 12 = .ok (.if_icmp .lt 7, 3) := by decide +kernel
theorem dX12_hasEnded_15 : decode cX12_hasEnded 15 = .ok (.iconst 1, 1) := by decide +kernel
theorem dX12_hasEnded_16 : decode cX12_hasEnded 16 = .ok (.goto 4, 3) := by decide +kernel
theorem dX12_hasEnded_19 : decode cX12_hasEnded 19 = .ok (.iconst 0, 1) := by decide +kernel
theorem dX12_hasEnded_20 : decode cX12_hasEnded 20 = .ok (.ireturn, 1) := by decide +kernel
theorem dX12_endOf_0 : decode cX12_endOf 0 = .ok (.iconst 0, 1) := by decide +kernel
theorem dX12_endOf_1 : decode cX12_endOf 1 = .ok (.istore_n 3, 1) := by decide +kernel
theorem dX12_endOf_2 : decode cX12_endOf 2 = .ok (.iload_n 3, 1) := by decide +kernel
theorem dX12_endOf_3 : decode cX12_endOf 3 = .ok (.iload_n 2, 1) := by decide +kernel
theorem dX12_endOf_4 : decode cX12_endOf 4 = .ok (.if_icmp .ge 21, 3) := by decide +kernel
theorem dX12_endOf_7 : decode cX12_endOf 7 = .ok (.aload_n 0, 1) := by decide +kernel
theorem dX12_endOf_8 : decode cX12_endOf 8 = .ok (.iload_n 1, 1) := by decide +kernel
theorem dX12_endOf_9 : decode cX12_endOf 9 = .ok (.invokevirtual 259, 3) := by decide +kernel
theorem dX12_endOf_12 : decode cX12_endOf 12 = .ok (.ifCond .ne 13, 3) := by decide +kernel
theorem dX12_endOf_15 : decode cX12_endOf 15 = .ok (.aload_n 0, 1) := by decide +kernel
theorem dX12_endOf_16 : decode cX12_endOf 16 = .ok (.invokevirtual 262, 3) := by decide +kernel
theorem dX12_endOf_19 : decode cX12_endOf 19 = .ok (.iinc 3 1, 3) := by decide +kernel
theorem dX12_endOf_22 : decode cX12_endOf 22 = .ok (.goto (-20), 3) := by decide +kernel
theorem dX12_endOf_25 : decode cX12_endOf 25 = .ok (.aload_n 0, 1) := by decide +kernel
theorem dX12_endOf_26 : decode cX12_endOf 26 = .ok (.getfield 17, 3) := by decide +kernel
theorem dX12_endOf_29 : decode cX12_endOf 29 = .ok (.iload_n 1, 1) := by decide +kernel
theorem dX12_endOf_30 : decode cX12_endOf 30 = .ok (.invokestatic 197, 3) := by decide +kernel
theorem dX12_endOf_33 : decode cX12_endOf 33 = .ok (.bipush 6, 2) := by decide +kernel
theorem dX12_endOf_35 : decode cX12_endOf 35 = .ok (.iadd, 1) := by decide +kernel
theorem dX12_endOf_36 : decode cX12_endOf 36 = .ok (.iaload, 1) := by decide +kernel
theorem dX12_endOf_37 : decode cX12_endOf 37 = .ok (.ireturn, 1) := by decide +kernel
theorem dX12_noGate_0 : decode cX12_noGate 0 = .ok (.aload_n 0, 1) := by decide +kernel
theorem dX12_noGate_1 : decode cX12_noGate 1 = .ok (.iload_n 1, 1) := by decide +kernel
theorem dX12_noGate_2 : decode cX12_noGate 2 = .ok (.iconst 0, 1) := by decide +kernel
theorem dX12_noGate_3 : decode cX12_noGate 3 = .ok (.aload_n 0, 1) := by decide +kernel
theorem dX12_noGate_4 : decode cX12_noGate 4 = .ok (.getfield 17, 3) := by decide +kernel
theorem dX12_noGate_7 : decode cX12_noGate 7 = .ok (.iconst 1, 1) := by decide +kernel
theorem dX12_noGate_8 : decode cX12_noGate 8 = .ok (.iaload, 1) := by decide +kernel
theorem dX12_noGate_9 : decode cX12_noGate 9 = .ok (.iconst 1, 1) := by decide +kernel
theorem dX12_noGate_10 : decode cX12_noGate 10 = .ok (.isub, 1) := by decide +kernel
theorem dX12_noGate_11 : decode cX12_noGate 11 = .ok (.invokestatic 64, 3) := by decide +kernel
theorem dX12_noGate_14 : decode cX12_noGate 14 = .ok (.ifCond .ne 7, 3) := by decide +kernel
theorem dX12_noGate_17 : decode cX12_noGate 17 = .ok (.iconst 1, 1) := by decide +kernel
theorem dX12_noGate_18 : decode cX12_noGate 18 = .ok (.goto 4, 3) := by decide +kernel
theorem dX12_noGate_21 : decode cX12_noGate 21 = .ok (.iconst 0, 1) := by decide +kernel
theorem dX12_noGate_22 : decode cX12_noGate 22 = .ok (.iconst 1, 1) := by decide +kernel
theorem dX12_noGate_23 : decode cX12_noGate 23 = .ok (.invokevirtual 178, 3) := by decide +kernel
theorem dX12_noGate_26 : decode cX12_noGate 26 = .ok (.ireturn, 1) := by decide +kernel
theorem dX12_noFlow_0 : decode cX12_noFlow 0 = .ok (.aload_n 0, 1) := by decide +kernel
theorem dX12_noFlow_1 : decode cX12_noFlow 1 = .ok (.iload_n 1, 1) := by decide +kernel
theorem dX12_noFlow_2 : decode cX12_noFlow 2 = .ok (.iconst 0, 1) := by decide +kernel
theorem dX12_noFlow_3 : decode cX12_noFlow 3 = .ok (.aload_n 0, 1) := by decide +kernel
theorem dX12_noFlow_4 : decode cX12_noFlow 4 = .ok (.getfield 17, 3) := by decide +kernel
theorem dX12_noFlow_7 : decode cX12_noFlow 7 = .ok (.iconst 2, 1) := by decide +kernel
theorem dX12_noFlow_8 : decode cX12_noFlow 8 = .ok (.iaload, 1) := by decide +kernel
theorem dX12_noFlow_9 : decode cX12_noFlow 9 = .ok (.iconst 1, 1) := by decide +kernel
theorem dX12_noFlow_10 : decode cX12_noFlow 10 = .ok (.isub, 1) := by decide +kernel
theorem dX12_noFlow_11 : decode cX12_noFlow 11 = .ok (.invokestatic 64, 3) := by decide +kernel
theorem dX12_noFlow_14 : decode cX12_noFlow 14 = .ok (.ifCond .ne 7, 3) := by decide +kernel
theorem dX12_noFlow_17 : decode cX12_noFlow 17 = .ok (.iconst 1, 1) := by decide +kernel
theorem dX12_noFlow_18 : decode cX12_noFlow 18 = .ok (.goto 4, 3) := by decide +kernel
theorem dX12_noFlow_21 : decode cX12_noFlow 21 = .ok (.iconst 0, 1) := by decide +kernel
theorem dX12_noFlow_22 : decode cX12_noFlow 22 = .ok (.iconst 1, 1) := by decide +kernel
theorem dX12_noFlow_23 : decode cX12_noFlow 23 = .ok (.invokevirtual 178, 3) := by decide +kernel
theorem dX12_noFlow_26 : decode cX12_noFlow 26 = .ok (.ireturn, 1) := by decide +kernel
theorem dX12_noPacket_0 : decode cX12_noPacket 0 = .ok (.aload_n 0, 1) := by decide +kernel
theorem dX12_noPacket_1 : decode cX12_noPacket 1 = .ok (.iload_n 1, 1) := by decide +kernel
theorem dX12_noPacket_2 : decode cX12_noPacket 2 = .ok (.iconst 0, 1) := by decide +kernel
theorem dX12_noPacket_3 : decode cX12_noPacket 3 = .ok (.aload_n 0, 1) := by decide +kernel
theorem dX12_noPacket_4 : decode cX12_noPacket 4 = .ok (.getfield 17, 3) := by decide +kernel
theorem dX12_noPacket_7 : decode cX12_noPacket 7 = .ok (.iconst 3, 1) := by decide +kernel
theorem dX12_noPacket_8 : decode cX12_noPacket 8 = .ok (.iaload, 1) := by decide +kernel
theorem dX12_noPacket_9 : decode cX12_noPacket 9 = .ok (.iconst 1, 1) := by decide +kernel
theorem dX12_noPacket_10 : decode cX12_noPacket 10 = .ok (.isub, 1) := by decide +kernel
theorem dX12_noPacket_11 : decode cX12_noPacket 11 = .ok (.invokestatic 64, 3) := by decide +kernel
theorem dX12_noPacket_14 : decode cX12_noPacket 14 = .ok (.ifCond .ne 7, 3) := by decide +kernel
theorem dX12_noPacket_17 : decode cX12_noPacket 17 = .ok (.iconst 1, 1) := by decide +kernel
theorem dX12_noPacket_18 : decode cX12_noPacket 18 = .ok (.goto 4, 3) := by decide +kernel
theorem dX12_noPacket_21 : decode cX12_noPacket 21 = .ok (.iconst 0, 1) := by decide +kernel
theorem dX12_noPacket_22 : decode cX12_noPacket 22 = .ok (.iconst 1, 1) := by decide +kernel
theorem dX12_noPacket_23 : decode cX12_noPacket 23 = .ok (.invokevirtual 178, 3) := by decide +kernel
theorem dX12_noPacket_26 : decode cX12_noPacket 26 = .ok (.ireturn, 1) := by decide +kernel
theorem dX12_noCoupon_0 : decode cX12_noCoupon 0 = .ok (.aload_n 0, 1) := by decide +kernel
theorem dX12_noCoupon_1 : decode cX12_noCoupon 1 = .ok (.iload_n 1, 1) := by decide +kernel
theorem dX12_noCoupon_2 : decode cX12_noCoupon 2 = .ok (.iconst 0, 1) := by decide +kernel
theorem dX12_noCoupon_3 : decode cX12_noCoupon 3 = .ok (.aload_n 0, 1) := by decide +kernel
theorem dX12_noCoupon_4 : decode cX12_noCoupon 4 = .ok (.getfield 17, 3) := by decide +kernel
theorem dX12_noCoupon_7 : decode cX12_noCoupon 7 = .ok (.iconst 4, 1) := by decide +kernel
theorem dX12_noCoupon_8 : decode cX12_noCoupon 8 = .ok (.iaload, 1) := by decide +kernel
theorem dX12_noCoupon_9 : decode cX12_noCoupon 9 = .ok (.iconst 1, 1) := by decide +kernel
theorem dX12_noCoupon_10 : decode cX12_noCoupon 10 = .ok (.isub, 1) := by decide +kernel
theorem dX12_noCoupon_11 : decode cX12_noCoupon 11 = .ok (.invokestatic 64, 3) := by decide +kernel
theorem dX12_noCoupon_14 : decode cX12_noCoupon 14 = .ok (.ifCond .ne 7, 3) := by decide +kernel
theorem dX12_noCoupon_17 : decode cX12_noCoupon 17 = .ok (.iconst 1, 1) := by decide +kernel
theorem dX12_noCoupon_18 : decode cX12_noCoupon 18 = .ok (.goto 4, 3) := by decide +kernel
theorem dX12_noCoupon_21 : decode cX12_noCoupon 21 = .ok (.iconst 0, 1) := by decide +kernel
theorem dX12_noCoupon_22 : decode cX12_noCoupon 22 = .ok (.iconst 1, 1) := by decide +kernel
theorem dX12_noCoupon_23 : decode cX12_noCoupon 23 = .ok (.invokevirtual 178, 3) := by decide +kernel
theorem dX12_noCoupon_26 : decode cX12_noCoupon 26 = .ok (.ireturn, 1) := by decide +kernel
theorem dX12_noNumber_0 : decode cX12_noNumber 0 = .ok (.aload_n 0, 1) := by decide +kernel
theorem dX12_noNumber_1 : decode cX12_noNumber 1 = .ok (.iload_n 1, 1) := by decide +kernel
theorem dX12_noNumber_2 : decode cX12_noNumber 2 = .ok (.iload_n 2, 1) := by decide +kernel
theorem dX12_noNumber_3 : decode cX12_noNumber 3 = .ok (.iload_n 3, 1) := by decide +kernel
theorem dX12_noNumber_4 : decode cX12_noNumber 4 = .ok (.invokestatic 64, 3) := by decide +kernel
theorem dX12_noNumber_7 : decode cX12_noNumber 7 = .ok (.ifCond .ne 7, 3) := by decide +kernel
theorem dX12_noNumber_10 : decode cX12_noNumber 10 = .ok (.iconst 1, 1) := by decide +kernel
theorem dX12_noNumber_11 : decode cX12_noNumber 11 = .ok (.goto 4, 3) := by decide +kernel
theorem dX12_noNumber_14 : decode cX12_noNumber 14 = .ok (.iconst 0, 1) := by decide +kernel
theorem dX12_noNumber_15 : decode cX12_noNumber 15 = .ok (.iconst 2, 1) := by decide +kernel
theorem dX12_noNumber_16 : decode cX12_noNumber 16 = .ok (.invokevirtual 178, 3) := by decide +kernel
theorem dX12_noNumber_19 : decode cX12_noNumber 19 = .ok (.ireturn, 1) := by decide +kernel
theorem dX12_state_0 : decode cX12_state 0 = .ok (.aload_n 0, 1) := by decide +kernel
theorem dX12_state_1 : decode cX12_state 1 = .ok (.iconst 0, 1) := by decide +kernel
theorem dX12_state_2 : decode cX12_state 2 = .ok (.putfield 42, 3) := by decide +kernel
theorem dX12_state_5 : decode cX12_state 5 = .ok (.aload_n 0, 1) := by decide +kernel
theorem dX12_state_6 : decode cX12_state 6 = .ok (.iload_n 1, 1) := by decide +kernel
theorem dX12_state_7 : decode cX12_state 7 = .ok (.iconst 0, 1) := by decide +kernel
theorem dX12_state_8 : decode cX12_state 8 = .ok (.bipush 9, 2) := by decide +kernel
theorem dX12_state_10 : decode cX12_state 10 = .ok (.invokestatic 64, 3) := by decide +kernel
theorem dX12_state_13 : decode cX12_state 13 = .ok (.ifCond .ne 7, 3) := by decide +kernel
theorem dX12_state_16 : decode cX12_state 16 = .ok (.iconst 1, 1) := by decide +kernel
theorem dX12_state_17 : decode cX12_state 17 = .ok (.goto 4, 3) := by decide +kernel
theorem dX12_state_20 : decode cX12_state 20 = .ok (.iconst 0, 1) := by decide +kernel
theorem dX12_state_21 : decode cX12_state 21 = .ok (.iconst 1, 1) := by decide +kernel
theorem dX12_state_22 : decode cX12_state 22 = .ok (.invokevirtual 178, 3) := by decide +kernel
theorem dX12_state_25 : decode cX12_state 25 = .ok (.ifCond .eq 7, 3) := by decide +kernel
theorem dX12_state_28 : decode cX12_state 28 = .ok (.iconst 0, 1) := by decide +kernel
theorem dX12_state_29 : decode cX12_state 29 = .ok (.goto 9, 3) := by decide +kernel
theorem dX12_state_32 : decode cX12_state 32 = .ok (.aload_n 0, 1) := by decide +kernel
theorem dX12_state_33 : decode cX12_state 33 = .ok (.getfield 17, 3) := by decide +kernel
theorem dX12_state_36 : decode cX12_state 36 = .ok (.iload_n 1, 1) := by decide +kernel
theorem dX12_state_37 : decode cX12_state 37 = .ok (.iaload, 1) := by decide +kernel
theorem dX12_state_38 : decode cX12_state 38 = .ok (.ireturn, 1) := by decide +kernel
theorem dX12_gate_0 : decode cX12_gate 0 = .ok (.aload_n 0, 1) := by decide +kernel
theorem dX12_gate_1 : decode cX12_gate 1 = .ok (.iconst 0, 1) := by decide +kernel
theorem dX12_gate_2 : decode cX12_gate 2 = .ok (.putfield 42, 3) := by decide +kernel
theorem dX12_gate_5 : decode cX12_gate 5 = .ok (.aload_n 0, 1) := by decide +kernel
theorem dX12_gate_6 : decode cX12_gate 6 = .ok (.iload_n 1, 1) := by decide +kernel
theorem dX12_gate_7 : decode cX12_gate 7 = .ok (.invokevirtual 265, 3) := by decide +kernel
theorem dX12_gate_10 : decode cX12_gate 10 = .ok (.ifCond .ne 13, 3) := by decide +kernel
theorem dX12_gate_13 : decode cX12_gate 13 = .ok (.aload_n 0, 1) := by decide +kernel
theorem dX12_gate_14 : decode cX12_gate 14 = .ok (.iload_n 2, 1) := by decide +kernel
theorem dX12_gate_15 : decode cX12_gate 15 = .ok (.iconst 0, 1) := by decide +kernel
theorem dX12_gate_16 : decode cX12_gate 16 = .ok (.iconst 2, 1) := by decide +kernel
theorem dX12_gate_17 : decode cX12_gate 17 = .ok (.invokevirtual 268, 3) := by decide +kernel
theorem dX12_gate_20 : decode cX12_gate 20 = .ok (.ifCond .eq 7, 3) := by decide +kernel
theorem dX12_gate_23 : decode cX12_gate 23 = .ok (.iconst 0, 1) := by decide +kernel
theorem dX12_gate_24 : decode cX12_gate 24 = .ok (.goto 9, 3) := by decide +kernel
theorem dX12_gate_27 : decode cX12_gate 27 = .ok (.aload_n 0, 1) := by decide +kernel
theorem dX12_gate_28 : decode cX12_gate 28 = .ok (.iload_n 1, 1) := by decide +kernel
theorem dX12_gate_29 : decode cX12_gate 29 = .ok (.iload_n 2, 1) := by decide +kernel
theorem dX12_gate_30 : decode cX12_gate 30 = .ok (.invokevirtual 226, 3) := by decide +kernel
theorem dX12_gate_33 : decode cX12_gate 33 = .ok (.ireturn, 1) := by decide +kernel
theorem dX12_toldFlow_0 : decode cX12_toldFlow 0 = .ok (.iload_n 2, 1) := by decide +kernel
theorem dX12_toldFlow_1 : decode cX12_toldFlow 1 = .ok (.iconst 3, 1) := by decide +kernel
theorem dX12_toldFlow_2 : decode cX12_toldFlow 2 = .ok (.if_icmp .ge 12, 3) := by decide +kernel
theorem dX12_toldFlow_5 : decode cX12_toldFlow 5 = .ok (.aload_n 0, 1) := by decide +kernel
theorem dX12_toldFlow_6 : decode cX12_toldFlow 6 = .ok (.iload_n 1, 1) := by decide +kernel
theorem dX12_toldFlow_7 : decode cX12_toldFlow 7 = .ok (.iload_n 2, 1) := by decide +kernel
theorem dX12_toldFlow_8 : decode cX12_toldFlow 8 = .ok (.invokevirtual 200, 3) := by decide +kernel
theorem dX12_toldFlow_11 : decode cX12_toldFlow 11 = .ok (.goto 35, 3) := by decide +kernel
theorem dX12_toldFlow_14 : decode cX12_toldFlow 14 = .ok (.iload_n 2, 1) := by decide +kernel
theorem dX12_toldFlow_15 : decode cX12_toldFlow 15 = .ok (.iconst 3, 1) := by decide +kernel
theorem dX12_toldFlow_16 : decode cX12_toldFlow 16 = .ok (.if_icmp .ne 11, 3) := by decide +kernel
theorem dX12_toldFlow_19 : decode cX12_toldFlow 19 = .ok (.aload_n 0, 1) := by decide +kernel
theorem dX12_toldFlow_20 : decode cX12_toldFlow 20 = .ok (.iload_n 1, 1) := by decide +kernel
theorem dX12_toldFlow_21 : decode cX12_toldFlow 21 = .ok (.invokevirtual 271, 3) := by decide +kernel
theorem dX12_toldFlow_24 : decode cX12_toldFlow 24 = .ok (.goto 22, 3) := by decide +kernel
theorem dX12_toldFlow_27 : decode cX12_toldFlow 27 = .ok (.iload_n 2, 1) := by decide +kernel
theorem dX12_toldFlow_28 : decode cX12_toldFlow 28 = .ok (.iconst 4, 1) := by decide +kernel
theorem dX12_toldFlow_29 : decode cX12_toldFlow 29 = .ok (.if_icmp .ne 11, 3) := by decide +kernel
theorem dX12_toldFlow_32 : decode cX12_toldFlow 32 = .ok (.aload_n 0, 1) := by decide +kernel
theorem dX12_toldFlow_33 : decode cX12_toldFlow 33 = .ok (.iload_n 1, 1) := by decide +kernel
theorem dX12_toldFlow_34 : decode cX12_toldFlow 34 = .ok (.invokevirtual 234, 3) := by decide +kernel
theorem dX12_toldFlow_37 : decode cX12_toldFlow 37 = .ok (.goto 9, 3) := by decide +kernel
theorem dX12_toldFlow_40 : decode cX12_toldFlow 40 = .ok (.aload_n 0, 1) := by decide +kernel
theorem dX12_toldFlow_41 : decode cX12_toldFlow 41 = .ok (.iload_n 1, 1) := by decide +kernel
theorem dX12_toldFlow_42 : decode cX12_toldFlow 42 = .ok (.iconst 3, 1) := by decide +kernel
theorem dX12_toldFlow_43 : decode cX12_toldFlow 43 = .ok (.invokevirtual 200, 3) := by decide +kernel
theorem dX12_toldFlow_46 : decode cX12_toldFlow 46 = .ok (.ireturn, 1) := by decide +kernel
theorem dX12_flow_0 : decode cX12_flow 0 = .ok (.aload_n 0, 1) := by decide +kernel
theorem dX12_flow_1 : decode cX12_flow 1 = .ok (.iconst 0, 1) := by decide +kernel
theorem dX12_flow_2 : decode cX12_flow 2 = .ok (.putfield 42, 3) := by decide +kernel
theorem dX12_flow_5 : decode cX12_flow 5 = .ok (.aload_n 0, 1) := by decide +kernel
theorem dX12_flow_6 : decode cX12_flow 6 = .ok (.iload_n 1, 1) := by decide +kernel
theorem dX12_flow_7 : decode cX12_flow 7 = .ok (.invokevirtual 274, 3) := by decide +kernel
theorem dX12_flow_10 : decode cX12_flow 10 = .ok (.ifCond .ne 13, 3) := by decide +kernel
theorem dX12_flow_13 : decode cX12_flow 13 = .ok (.aload_n 0, 1) := by decide +kernel
theorem dX12_flow_14 : decode cX12_flow 14 = .ok (.iload_n 2, 1) := by decide +kernel
theorem dX12_flow_15 : decode cX12_flow 15 = .ok (.iconst 0, 1) := by decide +kernel
theorem dX12_flow_16 : decode cX12_flow 16 = .ok (.iconst 5, 1) := by decide +kernel
theorem dX12_flow_17 : decode cX12_flow 17 = .ok (.invokevirtual 268, 3) := by decide +kernel
theorem dX12_flow_20 : decode cX12_flow 20 = .ok (.ifCond .eq 7, 3) := by decide +kernel
theorem dX12_flow_23 : decode cX12_flow 23 = .ok (.iconst 0, 1) := by decide +kernel
theorem dX12_flow_24 : decode cX12_flow 24 = .ok (.goto 9, 3) := by decide +kernel
theorem dX12_flow_27 : decode cX12_flow 27 = .ok (.aload_n 0, 1) := by decide +kernel
theorem dX12_flow_28 : decode cX12_flow 28 = .ok (.iload_n 1, 1) := by decide +kernel
theorem dX12_flow_29 : decode cX12_flow 29 = .ok (.iload_n 2, 1) := by decide +kernel
theorem dX12_flow_30 : decode cX12_flow 30 = .ok (.invokevirtual 277, 3) := by decide +kernel
theorem dX12_flow_33 : decode cX12_flow 33 = .ok (.ireturn, 1) := by decide +kernel
theorem dX12_route_0 : decode cX12_route 0 = .ok (.aload_n 0, 1) := by decide +kernel
theorem dX12_route_1 : decode cX12_route 1 = .ok (.iconst 0, 1) := by decide +kernel
theorem dX12_route_2 : decode cX12_route 2 = .ok (.putfield 42, 3) := by decide +kernel
theorem dX12_route_5 : decode cX12_route 5 = .ok (.aload_n 0, 1) := by decide +kernel
theorem dX12_route_6 : decode cX12_route 6 = .ok (.iload_n 1, 1) := by decide +kernel
theorem dX12_route_7 : decode cX12_route 7 = .ok (.invokevirtual 274, 3) := by decide +kernel
theorem dX12_route_10 : decode cX12_route 10 = .ok (.ifCond .ne 20, 3) := by decide +kernel
theorem dX12_route_13 : decode cX12_route 13 = .ok (.aload_n 0, 1) := by decide +kernel
theorem dX12_route_14 : decode cX12_route 14 = .ok (.iload_n 2, 1) := by decide +kernel
theorem dX12_route_15 : decode cX12_route 15 = .ok (.iconst 0, 1) := by decide +kernel
theorem dX12_route_16 : decode cX12_route 16 = .ok (.aload_n 0, 1) := by decide +kernel
theorem dX12_route_17 : decode cX12_route 17 = .ok (.iload_n 1, 1) := by decide +kernel
theorem dX12_route_18 : decode cX12_route 18 = .ok (.iconst 0, 1) := by decide +kernel
theorem dX12_route_19 : decode cX12_route 19 = .ok (.invokevirtual 200, 3) := by decide +kernel
theorem dX12_route_22 : decode cX12_route 22 = .ok (.iconst 1, 1) := by decide +kernel
theorem dX12_route_23 : decode cX12_route 23 = .ok (.isub, 1) := by decide +kernel
theorem dX12_route_24 : decode cX12_route 24 = .ok (.invokevirtual 268, 3) := by decide +kernel
theorem dX12_route_27 : decode cX12_route 27 = .ok (.ifCond .eq 7, 3) := by decide +kernel
theorem dX12_route_30 : decode cX12_route 30 = .ok (.iconst 0, 1) := by decide +kernel
theorem dX12_route_31 : decode cX12_route 31 = .ok (.goto 11, 3) := by decide +kernel
theorem dX12_route_34 : decode cX12_route 34 = .ok (.aload_n 0, 1) := by decide +kernel
theorem dX12_route_35 : decode cX12_route 35 = .ok (.iload_n 1, 1) := by decide +kernel
theorem dX12_route_36 : decode cX12_route 36 = .ok (.iconst 4, 1) := by decide +kernel
theorem dX12_route_37 : decode cX12_route 37 = .ok (.iload_n 2, 1) := by decide +kernel
theorem dX12_route_38 : decode cX12_route 38 = .ok (.iadd, 1) := by decide +kernel
theorem dX12_route_39 : decode cX12_route 39 = .ok (.invokevirtual 200, 3) := by decide +kernel
theorem dX12_route_42 : decode cX12_route 42 = .ok (.ireturn, 1) := by decide +kernel
theorem dX12_tokens_0 : decode cX12_tokens 0 = .ok (.aload_n 0, 1) := by decide +kernel
theorem dX12_tokens_1 : decode cX12_tokens 1 = .ok (.iconst 0, 1) := by decide +kernel
theorem dX12_tokens_2 : decode cX12_tokens 2 = .ok (.putfield 42, 3) := by decide +kernel
theorem dX12_tokens_5 : decode cX12_tokens 5 = .ok (.aload_n 0, 1) := by decide +kernel
theorem dX12_tokens_6 : decode cX12_tokens 6 = .ok (.iload_n 1, 1) := by decide +kernel
theorem dX12_tokens_7 : decode cX12_tokens 7 = .ok (.invokevirtual 265, 3) := by decide +kernel
theorem dX12_tokens_10 : decode cX12_tokens 10 = .ok (.ifCond .ne 11, 3) := by decide +kernel
theorem dX12_tokens_13 : decode cX12_tokens 13 = .ok (.aload_n 0, 1) := by decide +kernel
theorem dX12_tokens_14 : decode cX12_tokens 14 = .ok (.iload_n 2, 1) := by decide +kernel
theorem dX12_tokens_15 : decode cX12_tokens 15 = .ok (.invokevirtual 274, 3) := by decide +kernel
theorem dX12_tokens_18 : decode cX12_tokens 18 = .ok (.ifCond .eq 7, 3) := by decide +kernel
theorem dX12_tokens_21 : decode cX12_tokens 21 = .ok (.iconst 0, 1) := by decide +kernel
theorem dX12_tokens_22 : decode cX12_tokens 22 = .ok (.goto 15, 3) := by decide +kernel
theorem dX12_tokens_25 : decode cX12_tokens 25 = .ok (.aload_n 0, 1) := by decide +kernel
theorem dX12_tokens_26 : decode cX12_tokens 26 = .ok (.getfield 17, 3) := by decide +kernel
theorem dX12_tokens_29 : decode cX12_tokens 29 = .ok (.iload_n 1, 1) := by decide +kernel
theorem dX12_tokens_30 : decode cX12_tokens 30 = .ok (.iload_n 2, 1) := by decide +kernel
theorem dX12_tokens_31 : decode cX12_tokens 31 = .ok (.invokestatic 187, 3) := by decide +kernel
theorem dX12_tokens_34 : decode cX12_tokens 34 = .ok (.iconst 0, 1) := by decide +kernel
theorem dX12_tokens_35 : decode cX12_tokens 35 = .ok (.iadd, 1) := by decide +kernel
theorem dX12_tokens_36 : decode cX12_tokens 36 = .ok (.iaload, 1) := by decide +kernel
theorem dX12_tokens_37 : decode cX12_tokens 37 = .ok (.ireturn, 1) := by decide +kernel
theorem dX12_queue_0 : decode cX12_queue 0 = .ok (.aload_n 0, 1) := by decide +kernel
theorem dX12_queue_1 : decode cX12_queue 1 = .ok (.iconst 0, 1) := by decide +kernel
theorem dX12_queue_2 : decode cX12_queue 2 = .ok (.putfield 42, 3) := by decide +kernel
theorem dX12_queue_5 : decode cX12_queue 5 = .ok (.aload_n 0, 1) := by decide +kernel
theorem dX12_queue_6 : decode cX12_queue 6 = .ok (.iload_n 1, 1) := by decide +kernel
theorem dX12_queue_7 : decode cX12_queue 7 = .ok (.invokevirtual 265, 3) := by decide +kernel
theorem dX12_queue_10 : decode cX12_queue 10 = .ok (.ifCond .ne 11, 3) := by decide +kernel
theorem dX12_queue_13 : decode cX12_queue 13 = .ok (.aload_n 0, 1) := by decide +kernel
theorem dX12_queue_14 : decode cX12_queue 14 = .ok (.iload_n 2, 1) := by decide +kernel
theorem dX12_queue_15 : decode cX12_queue 15 = .ok (.invokevirtual 274, 3) := by decide +kernel
theorem dX12_queue_18 : decode cX12_queue 18 = .ok (.ifCond .eq 7, 3) := by decide +kernel
theorem dX12_queue_21 : decode cX12_queue 21 = .ok (.iconst 0, 1) := by decide +kernel
theorem dX12_queue_22 : decode cX12_queue 22 = .ok (.goto 15, 3) := by decide +kernel
theorem dX12_queue_25 : decode cX12_queue 25 = .ok (.aload_n 0, 1) := by decide +kernel
theorem dX12_queue_26 : decode cX12_queue 26 = .ok (.getfield 17, 3) := by decide +kernel
theorem dX12_queue_29 : decode cX12_queue 29 = .ok (.iload_n 1, 1) := by decide +kernel
theorem dX12_queue_30 : decode cX12_queue 30 = .ok (.iload_n 2, 1) := by decide +kernel
theorem dX12_queue_31 : decode cX12_queue 31 = .ok (.invokestatic 187, 3) := by decide +kernel
theorem dX12_queue_34 : decode cX12_queue 34 = .ok (.iconst 1, 1) := by decide +kernel
theorem dX12_queue_35 : decode cX12_queue 35 = .ok (.iadd, 1) := by decide +kernel
theorem dX12_queue_36 : decode cX12_queue 36 = .ok (.iaload, 1) := by decide +kernel
theorem dX12_queue_37 : decode cX12_queue 37 = .ok (.ireturn, 1) := by decide +kernel
theorem dX12_toldPacket_0 : decode cX12_toldPacket 0 = .ok (.aload_n 0, 1) := by decide +kernel
theorem dX12_toldPacket_1 : decode cX12_toldPacket 1 = .ok (.getfield 17, 3) := by decide +kernel
theorem dX12_toldPacket_4 : decode cX12_toldPacket 4 = .ok (.iload_n 1, 1) := by decide +kernel
theorem dX12_toldPacket_5 : decode cX12_toldPacket 5 = .ok (.invokestatic 197, 3) := by decide +kernel
theorem dX12_toldPacket_8 : decode cX12_toldPacket 8 = .ok (.iconst 3, 1) := by decide +kernel
theorem dX12_toldPacket_9 : decode cX12_toldPacket 9 = .ok (.iadd, 1) := by decide +kernel
theorem dX12_toldPacket_10 : decode cX12_toldPacket 10 = .ok (.iaload, 1) := by decide +kernel
theorem dX12_toldPacket_11 : decode cX12_toldPacket 11 = .ok (.istore_n 3, 1) := by decide +kernel
theorem dX12_toldPacket_12 : decode cX12_toldPacket 12 = .ok (.iload_n 2, 1) := by decide +kernel
theorem dX12_toldPacket_13 : decode cX12_toldPacket 13 = .ok (.iconst 4, 1) := by decide +kernel
theorem dX12_toldPacket_14 : decode cX12_toldPacket 14 = .ok (.if_icmp .eq 17, 3) := by decide +kernel
theorem dX12_toldPacket_17 : decode cX12_toldPacket 17 = .ok (.aload_n 0, 1) := by decide +kernel
theorem dX12_toldPacket_18 : decode cX12_toldPacket 18 = .ok (.getfield 17, 3) := by decide +kernel
theorem dX12_toldPacket_21 : decode cX12_toldPacket 21 = .ok (.iload_n 1, 1) := by decide +kernel
theorem dX12_toldPacket_22 : decode cX12_toldPacket 22 = .ok (.invokestatic 197, 3) := by decide +kernel
theorem dX12_toldPacket_25 : decode cX12_toldPacket 25 = .ok (.iload_n 2, 1) := by decide +kernel
theorem dX12_toldPacket_26 : decode cX12_toldPacket 26 = .ok (.iadd, 1) := by decide +kernel
theorem dX12_toldPacket_27 : decode cX12_toldPacket 27 = .ok (.iaload, 1) := by decide +kernel
theorem dX12_toldPacket_28 : decode cX12_toldPacket 28 = .ok (.goto 22, 3) := by decide +kernel
theorem dX12_toldPacket_31 : decode cX12_toldPacket 31 = .ok (.iload_n 3, 1) := by decide +kernel
theorem dX12_toldPacket_32 : decode cX12_toldPacket 32 = .ok (.iconst 1, 1) := by decide +kernel
theorem dX12_toldPacket_33 : decode cX12_toldPacket 33 = .ok (.if_icmp .eq 8, 3) := by decide +kernel
theorem dX12_toldPacket_36 : decode cX12_toldPacket 36 = .ok (.iload_n 3, 1) := by decide +kernel
theorem dX12_toldPacket_37 : decode cX12_toldPacket 37 = .ok (.iconst 2, 1) := by decide +kernel
theorem dX12_toldPacket_38 : decode cX12_toldPacket 38 = .ok (.if_icmp .ne 11, 3) := by decide +kernel
theorem dX12_toldPacket_41 : decode cX12_toldPacket 41 = .ok (.aload_n 0, 1) := by decide +kernel
theorem dX12_toldPacket_42 : decode cX12_toldPacket 42 = .ok (.iload_n 1, 1) := by decide +kernel
theorem dX12_toldPacket_43 : decode cX12_toldPacket 43 = .ok (.invokevirtual 223, 3) := by decide +kernel
theorem dX12_toldPacket_46 : decode cX12_toldPacket 46 = .ok (.goto 4, 3) := by decide +kernel
theorem dX12_toldPacket_49 : decode cX12_toldPacket 49 = .ok (.iconst (-1), 1) := by decide +kernel
theorem dX12_toldPacket_50 : decode cX12_toldPacket 50 = .ok (.ireturn, 1) := by decide +kernel
theorem dX12_packet_0 : decode cX12_packet 0 = .ok (.aload_n 0, 1) := by decide +kernel
theorem dX12_packet_1 : decode cX12_packet 1 = .ok (.iconst 0, 1) := by decide +kernel
theorem dX12_packet_2 : decode cX12_packet 2 = .ok (.putfield 42, 3) := by decide +kernel
theorem dX12_packet_5 : decode cX12_packet 5 = .ok (.aload_n 0, 1) := by decide +kernel
theorem dX12_packet_6 : decode cX12_packet 6 = .ok (.iload_n 1, 1) := by decide +kernel
theorem dX12_packet_7 : decode cX12_packet 7 = .ok (.invokevirtual 280, 3) := by decide +kernel
theorem dX12_packet_10 : decode cX12_packet 10 = .ok (.ifCond .ne 14, 3) := by decide +kernel
theorem dX12_packet_13 : decode cX12_packet 13 = .ok (.aload_n 0, 1) := by decide +kernel
theorem dX12_packet_14 : decode cX12_packet 14 = .ok (.iload_n 2, 1) := by decide +kernel
theorem dX12_packet_15 : decode cX12_packet 15 = .ok (.iconst 0, 1) := by decide +kernel
theorem dX12_packet_16 : decode cX12_packet 16 = .ok (.bipush 6, 2) := by decide +kernel
theorem dX12_packet_18 : decode cX12_packet 18 = .ok (.invokevirtual 268, 3) := by decide +kernel
theorem dX12_packet_21 : decode cX12_packet 21 = .ok (.ifCond .eq 7, 3) := by decide +kernel
theorem dX12_packet_24 : decode cX12_packet 24 = .ok (.iconst 0, 1) := by decide +kernel
theorem dX12_packet_25 : decode cX12_packet 25 = .ok (.goto 9, 3) := by decide +kernel
theorem dX12_packet_28 : decode cX12_packet 28 = .ok (.aload_n 0, 1) := by decide +kernel
theorem dX12_packet_29 : decode cX12_packet 29 = .ok (.iload_n 1, 1) := by decide +kernel
theorem dX12_packet_30 : decode cX12_packet 30 = .ok (.iload_n 2, 1) := by decide +kernel
theorem dX12_packet_31 : decode cX12_packet 31 = .ok (.invokevirtual 283, 3) := by decide +kernel
theorem dX12_packet_34 : decode cX12_packet 34 = .ok (.ireturn, 1) := by decide +kernel
theorem dX12_coupon_0 : decode cX12_coupon 0 = .ok (.aload_n 0, 1) := by decide +kernel
theorem dX12_coupon_1 : decode cX12_coupon 1 = .ok (.iconst 0, 1) := by decide +kernel
theorem dX12_coupon_2 : decode cX12_coupon 2 = .ok (.putfield 42, 3) := by decide +kernel
theorem dX12_coupon_5 : decode cX12_coupon 5 = .ok (.aload_n 0, 1) := by decide +kernel
theorem dX12_coupon_6 : decode cX12_coupon 6 = .ok (.iload_n 1, 1) := by decide +kernel
theorem dX12_coupon_7 : decode cX12_coupon 7 = .ok (.invokevirtual 286, 3) := by decide +kernel
theorem dX12_coupon_10 : decode cX12_coupon 10 = .ok (.ifCond .ne 13, 3) := by decide +kernel
theorem dX12_coupon_13 : decode cX12_coupon 13 = .ok (.aload_n 0, 1) := by decide +kernel
theorem dX12_coupon_14 : decode cX12_coupon 14 = .ok (.iload_n 2, 1) := by decide +kernel
theorem dX12_coupon_15 : decode cX12_coupon 15 = .ok (.iconst 0, 1) := by decide +kernel
theorem dX12_coupon_16 : decode cX12_coupon 16 = .ok (.iconst 3, 1) := by decide +kernel
theorem dX12_coupon_17 : decode cX12_coupon 17 = .ok (.invokevirtual 268, 3) := by decide +kernel
theorem dX12_coupon_20 : decode cX12_coupon 20 = .ok (.ifCond .eq 7, 3) := by decide +kernel
theorem dX12_coupon_23 : decode cX12_coupon 23 = .ok (.iconst 0, 1) := by decide +kernel
theorem dX12_coupon_24 : decode cX12_coupon 24 = .ok (.goto 14, 3) := by decide +kernel
theorem dX12_coupon_27 : decode cX12_coupon 27 = .ok (.aload_n 0, 1) := by decide +kernel
theorem dX12_coupon_28 : decode cX12_coupon 28 = .ok (.getfield 17, 3) := by decide +kernel
theorem dX12_coupon_31 : decode cX12_coupon 31 = .ok (.iload_n 1, 1) := by decide +kernel
theorem dX12_coupon_32 : decode cX12_coupon 32 = .ok (.invokestatic 203, 3) := by decide +kernel
theorem dX12_coupon_35 : decode cX12_coupon 35 = .ok (.iload_n 2, 1) := by decide +kernel
theorem dX12_coupon_36 : decode cX12_coupon 36 = .ok (.iadd, 1) := by decide +kernel
theorem dX12_coupon_37 : decode cX12_coupon 37 = .ok (.iaload, 1) := by decide +kernel
theorem dX12_coupon_38 : decode cX12_coupon 38 = .ok (.ireturn, 1) := by decide +kernel
theorem dX12_kept_0 : decode cX12_kept 0 = .ok (.aload_n 0, 1) := by decide +kernel
theorem dX12_kept_1 : decode cX12_kept 1 = .ok (.getfield 17, 3) := by decide +kernel
theorem dX12_kept_4 : decode cX12_kept 4 = .ok (.sipush 705, 3) := by decide +kernel
theorem dX12_kept_7 : decode cX12_kept 7 = .ok (.iconst 5, 1) := by decide +kernel
theorem dX12_kept_8 : decode cX12_kept 8 = .ok (.iload_n 1, 1) := by decide +kernel
theorem dX12_kept_9 : decode cX12_kept 9 = .ok (.imul, 1) := by decide +kernel
theorem dX12_kept_10 : decode cX12_kept 10 = .ok (.iadd, 1) := by decide +kernel
theorem dX12_kept_11 : decode cX12_kept 11 = .ok (.iload_n 2, 1) := by decide +kernel
theorem dX12_kept_12 : decode cX12_kept 12 = .ok (.iadd, 1) := by decide +kernel
theorem dX12_kept_13 : decode cX12_kept 13 = .ok (.iaload, 1) := by decide +kernel
theorem dX12_kept_14 : decode cX12_kept 14 = .ok (.ireturn, 1) := by decide +kernel
theorem dX12_isKept_0 : decode cX12_isKept 0 = .ok (.aload_n 0, 1) := by decide +kernel
theorem dX12_isKept_1 : decode cX12_isKept 1 = .ok (.iload_n 1, 1) := by decide +kernel
theorem dX12_isKept_2 : decode cX12_isKept 2 = .ok (.iconst 1, 1) := by decide +kernel
theorem dX12_isKept_3 : decode cX12_isKept 3 = .ok (.invokevirtual 289, 3) := by decide +kernel
theorem dX12_isKept_6 : decode cX12_isKept 6 = .ok (.iload_n 2, 1) := by decide +kernel
theorem dX12_isKept_7 : decode cX12_isKept 7 = .ok (.if_icmp .ne 17, 3) := by decide +kernel
theorem dX12_isKept_10 : decode cX12_isKept 10 = .ok (.aload_n 0, 1) := by decide +kernel
theorem dX12_isKept_11 : decode cX12_isKept 11 = .ok (.iload_n 1, 1) := by decide +kernel
theorem dX12_isKept_12 : decode cX12_isKept 12 = .ok (.iconst 2, 1) := by decide +kernel
theorem dX12_isKept_13 : decode cX12_isKept 13 = .ok (.invokevirtual 289, 3) := by decide +kernel
theorem dX12_isKept_16 : decode cX12_isKept 16 = .ok (.iload_n 3, 1) := by decide +kernel
theorem dX12_isKept_17 : decode cX12_isKept 17 = .ok (.if_icmp .ne 7, 3) := by decide +kernel
theorem dX12_isKept_20 : decode cX12_isKept 20 = .ok (.iconst 1, 1) := by decide +kernel
theorem dX12_isKept_21 : decode cX12_isKept 21 = .ok (.goto 4, 3) := by decide +kernel
theorem dX12_isKept_24 : decode cX12_isKept 24 = .ok (.iconst 0, 1) := by decide +kernel
theorem dX12_isKept_25 : decode cX12_isKept 25 = .ok (.ireturn, 1) := by decide +kernel
theorem dX12_loadOver_0 : decode cX12_loadOver 0 = .ok (.aload_n 0, 1) := by decide +kernel
theorem dX12_loadOver_1 : decode cX12_loadOver 1 = .ok (.iconst 0, 1) := by decide +kernel
theorem dX12_loadOver_2 : decode cX12_loadOver 2 = .ok (.putfield 42, 3) := by decide +kernel
theorem dX12_loadOver_5 : decode cX12_loadOver 5 = .ok (.aload_n 0, 1) := by decide +kernel
theorem dX12_loadOver_6 : decode cX12_loadOver 6 = .ok (.iload_n 1, 1) := by decide +kernel
theorem dX12_loadOver_7 : decode cX12_loadOver 7 = .ok (.invokevirtual 265, 3) := by decide +kernel
theorem dX12_loadOver_10 : decode cX12_loadOver 10 = .ok (.ifCond .ne 23, 3) := by decide +kernel
theorem dX12_loadOver_13 : decode cX12_loadOver 13 = .ok (.aload_n 0, 1) := by decide +kernel
theorem dX12_loadOver_14 : decode cX12_loadOver 14 = .ok (.iload_n 2, 1) := by decide +kernel
theorem dX12_loadOver_15 : decode cX12_loadOver 15 = .ok (.invokevirtual 274, 3) := by decide +kernel
theorem dX12_loadOver_18 : decode cX12_loadOver 18 = .ok (.ifCond .ne 15, 3) := by decide +kernel
theorem dX12_loadOver_21 : decode cX12_loadOver 21 = .ok (.aload_n 0, 1) := by decide +kernel
theorem dX12_loadOver_22 : decode cX12_loadOver 22 = .ok (.iload_n 3, 1) := by decide +kernel
theorem dX12_loadOver_23 : decode cX12_loadOver 23 = .ok (.iconst 1, 1) := by decide +kernel
theorem dX12_loadOver_24 : decode cX12_loadOver 24 = .ok (.sipush 999, 3) := by decide +kernel
theorem dX12_loadOver_27 : decode cX12_loadOver 27 = .ok (.invokevirtual 268, 3) := by decide +kernel
theorem dX12_loadOver_30 : decode cX12_loadOver 30 = .ok (.ifCond .eq 5, 3) := by decide +kernel
theorem dX12_loadOver_33 : decode cX12_loadOver 33 = .ok (.iconst 0, 1) := by decide +kernel
theorem dX12_loadOver_34 : decode cX12_loadOver 34 = .ok (.ireturn, 1) := by decide +kernel
theorem dX12_loadOver_35 : decode cX12_loadOver 35 = .ok (.iconst 0, 1) := by decide +kernel
theorem dX12_loadOver_36 : decode cX12_loadOver 36 = .ok (.istore 4, 2) := by decide +kernel
theorem dX12_loadOver_38 : decode cX12_loadOver 38 = .ok (.iconst 0, 1) := by decide +kernel
theorem dX12_loadOver_39 : decode cX12_loadOver 39 = .ok (.istore 5, 2) := by decide +kernel
theorem dX12_loadOver_41 : decode cX12_loadOver 41 = .ok (.iload 5, 2) := by decide +kernel
theorem dX12_loadOver_43 : decode cX12_loadOver 43 = .ok (.aload_n 0, 1) := by decide +kernel
theorem dX12_loadOver_44 : decode cX12_loadOver 44 = .ok (.getfield 17, 3) := by decide +kernel
theorem dX12_loadOver_47 : decode cX12_loadOver 47 = .ok (.bipush 14, 2) := by decide +kernel
theorem dX12_loadOver_49 : decode cX12_loadOver 49 = .ok (.iaload, 1) := by decide +kernel
theorem dX12_loadOver_50 : decode cX12_loadOver 50 = .ok (.if_icmp .ge 119, 3) := by decide +kernel
theorem dX12_loadOver_53 : decode cX12_loadOver 53 = .ok (.aload_n 0, 1) := by decide +kernel
theorem dX12_loadOver_54 : decode cX12_loadOver 54 = .ok (.iload 5, 2) := by decide +kernel
theorem dX12_loadOver_56 : decode cX12_loadOver 56 = .ok (.iload_n 1, 1) := by decide +kernel
theorem dX12_loadOver_57 : decode cX12_loadOver 57 = .ok (.iload_n 2, 1) := by decide +kernel
theorem dX12_loadOver_58 : decode cX12_loadOver 58 = .ok (.invokevirtual 292, 3) := by decide +kernel
theorem dX12_loadOver_61 : decode cX12_loadOver 61 = .ok (.ifCond .ne 6, 3) := by decide +kernel
theorem dX12_loadOver_64 : decode cX12_loadOver 64 = .ok (.goto 99, 3) := by decide +kernel
theorem dX12_loadOver_67 : decode cX12_loadOver 67 = .ok (.iconst 0, 1) := by decide +kernel
theorem dX12_loadOver_68 : decode cX12_loadOver 68 = .ok (.istore 6, 2) := by decide +kernel
theorem dX12_loadOver_70 : decode cX12_loadOver 70 = .ok (.iconst 0, 1) := by decide +kernel
theorem dX12_loadOver_71 : decode cX12_loadOver 71 = .ok (.istore 7, 2) := by decide +kernel
theorem dX12_loadOver_73 : decode cX12_loadOver 73 = .ok (.iload 7, 2) := by decide +kernel
theorem dX12_loadOver_75 : decode cX12_loadOver 75 = .ok (.aload_n 0, 1) := by decide +kernel
theorem dX12_loadOver_76 : decode cX12_loadOver 76 = .ok (.getfield 17, 3) := by decide +kernel
theorem dX12_loadOver_79 : decode cX12_loadOver 79 = .ok (.bipush 14, 2) := by decide +kernel
theorem dX12_loadOver_81 : decode cX12_loadOver 81 = .ok (.iaload, 1) := by decide +kernel
theorem dX12_loadOver_82 : decode cX12_loadOver 82 = .ok (.if_icmp .ge 65, 3) := by decide +kernel
theorem dX12_loadOver_85 : decode cX12_loadOver 85 = .ok (.aload_n 0, 1) := by decide +kernel
theorem dX12_loadOver_86 : decode cX12_loadOver 86 = .ok (.iload 7, 2) := by decide +kernel
theorem dX12_loadOver_88 : decode cX12_loadOver 88 = .ok (.iload_n 1, 1) := by decide +kernel
theorem dX12_loadOver_89 : decode cX12_loadOver 89 = .ok (.iload_n 2, 1) := by decide +kernel
theorem dX12_loadOver_90 : decode cX12_loadOver 90 = .ok (.invokevirtual 292, 3) := by decide +kernel
theorem dX12_loadOver_93 : decode cX12_loadOver 93 = .ok (.ifCond .eq 48, 3) := by decide +kernel
theorem dX12_loadOver_96 : decode cX12_loadOver 96 = .ok (.aload_n 0, 1) := by decide +kernel
theorem dX12_loadOver_97 : decode cX12_loadOver 97 = .ok (.iload 7, 2) := by decide +kernel
theorem dX12_loadOver_99 : decode cX12_loadOver 99 = .ok (.iconst 0, 1) := by decide +kernel
theorem dX12_loadOver_100 : decode cX12_loadOver 100 = .ok (.invokevirtual 289, 3) := by decide +kernel
theorem dX12_loadOver_103 : decode cX12_loadOver 103 = .ok (.aload_n 0, 1) := by decide +kernel
theorem dX12_loadOver_104 : decode cX12_loadOver 104 = .ok (.iload 5, 2) := by decide +kernel
theorem dX12_loadOver_106 : decode cX12_loadOver 106 = .ok (.iconst 0, 1) := by decide +kernel
theorem dX12_loadOver_107 : decode cX12_loadOver 107 = .ok (.invokevirtual 289, 3) := by decide +kernel
theorem dX12_loadOver_110 : decode cX12_loadOver 110 = .ok (.isub, 1) := by decide +kernel
theorem dX12_loadOver_111 : decode cX12_loadOver 111 = .ok (.iconst 0, 1) := by decide +kernel
theorem dX12_loadOver_112 : decode cX12_loadOver 112 = .ok (.iload_n 3, 1) := by decide +kernel
theorem dX12_loadOver_113 : decode cX12_loadOver 113 = .ok (.iconst 1, 1) := by decide +kernel
theorem dX12_loadOver_114 : decode cX12_loadOver 114 = .ok (.isub, 1) := by decide +kernel
theorem dX12_loadOver_115 : decode cX12_loadOver 115 = .ok (.invokestatic 64, 3) := by decide +kernel
theorem dX12_loadOver_118 : decode cX12_loadOver 118 = .ok (.ifCond .eq 23, 3) := by decide +kernel
theorem dX12_loadOver_121 : decode cX12_loadOver 121 = .ok (.iload 6, 2) := by decide +kernel
theorem dX12_loadOver_123 : decode cX12_loadOver 123 = .ok (.aload_n 0, 1) := by decide +kernel
theorem dX12_loadOver_124 : decode cX12_loadOver 124 = .ok (.iload 7, 2) := by decide +kernel
theorem dX12_loadOver_126 : decode cX12_loadOver 126 = .ok (.iconst 3, 1) := by decide +kernel
theorem dX12_loadOver_127 : decode cX12_loadOver 127 = .ok (.invokevirtual 289, 3) := by decide +kernel
theorem dX12_loadOver_130 : decode cX12_loadOver 130 = .ok (.aload_n 0, 1) := by decide +kernel
theorem dX12_loadOver_131 : decode cX12_loadOver 131 = .ok (.iload 7, 2) := by decide +kernel
theorem dX12_loadOver_133 : decode cX12_loadOver 133 = .ok (.iconst 4, 1) := by decide +kernel
theorem dX12_loadOver_134 : decode cX12_loadOver 134 = .ok (.invokevirtual 289, 3) := by decide +kernel
theorem dX12_loadOver_137 : decode cX12_loadOver 137 = .ok (.isub, 1) := by decide +kernel
theorem dX12_loadOver_138 : decode cX12_loadOver 138 = .ok (.iadd, 1) := by decide +kernel
theorem dX12_loadOver_139 : decode cX12_loadOver 139 = .ok (.istore 6, 2) := by decide +kernel
theorem dX12_loadOver_141 : decode cX12_loadOver 141 = .ok (.iinc 7 1, 3) := by decide +kernel
theorem dX12_loadOver_144 : decode cX12_loadOver 144 = .ok (.goto (-71), 3) := by decide +kernel
theorem dX12_loadOver_147 : decode cX12_loadOver 147 = .ok (.iload 6, 2) := by decide +kernel
theorem dX12_loadOver_149 : decode cX12_loadOver 149 = .ok (.iload 4, 2) := by decide +kernel
theorem dX12_loadOver_151 : decode cX12_loadOver 151 = .ok (.if_icmp .le 8, 3) := by decide +kernel
theorem dX12_loadOver_154 : decode cX12_loadOver 154 = .ok (.iload 6, 2) := by decide +kernel
theorem dX12_loadOver_156 : decode cX12_loadOver 156 = .ok (.goto 5, 3) := by decide +kernel
theorem dX12_loadOver_159 : decode cX12_loadOver 159 = .ok (.iload 4, 2) := by decide +kernel
theorem dX12_loadOver_161 : decode cX12_loadOver 161 = .ok (.istore 4, 2) := by decide +kernel
theorem dX12_loadOver_163 : decode cX12_loadOver 163 = .ok (.iinc 5 1, 3) := by decide +kernel
theorem dX12_loadOver_166 : decode cX12_loadOver 166 = .ok (.goto (-125), 3) := by decide +kernel
theorem dX12_loadOver_169 : decode cX12_loadOver 169 = .ok (.iload 4, 2) := by decide +kernel
theorem dX12_loadOver_171 : decode cX12_loadOver 171 = .ok (.ireturn, 1) := by decide +kernel
theorem dX12_curve_0 : decode cX12_curve 0 = .ok (.aload_n 0, 1) := by decide +kernel
theorem dX12_curve_1 : decode cX12_curve 1 = .ok (.iconst 0, 1) := by decide +kernel
theorem dX12_curve_2 : decode cX12_curve 2 = .ok (.putfield 42, 3) := by decide +kernel
theorem dX12_curve_5 : decode cX12_curve 5 = .ok (.aload_n 0, 1) := by decide +kernel
theorem dX12_curve_6 : decode cX12_curve 6 = .ok (.iload_n 1, 1) := by decide +kernel
theorem dX12_curve_7 : decode cX12_curve 7 = .ok (.invokevirtual 265, 3) := by decide +kernel
theorem dX12_curve_10 : decode cX12_curve 10 = .ok (.ifCond .ne 15, 3) := by decide +kernel
theorem dX12_curve_13 : decode cX12_curve 13 = .ok (.aload_n 0, 1) := by decide +kernel
theorem dX12_curve_14 : decode cX12_curve 14 = .ok (.iload_n 2, 1) := by decide +kernel
theorem dX12_curve_15 : decode cX12_curve 15 = .ok (.iconst 1, 1) := by decide +kernel
theorem dX12_curve_16 : decode cX12_curve 16 = .ok (.sipush 999, 3) := by decide +kernel
theorem dX12_curve_19 : decode cX12_curve 19 = .ok (.invokevirtual 268, 3) := by decide +kernel
theorem dX12_curve_22 : decode cX12_curve 22 = .ok (.ifCond .eq 7, 3) := by decide +kernel
theorem dX12_curve_25 : decode cX12_curve 25 = .ok (.iconst 0, 1) := by decide +kernel
theorem dX12_curve_26 : decode cX12_curve 26 = .ok (.goto 18, 3) := by decide +kernel
theorem dX12_curve_29 : decode cX12_curve 29 = .ok (.aload_n 0, 1) := by decide +kernel
theorem dX12_curve_30 : decode cX12_curve 30 = .ok (.iload_n 1, 1) := by decide +kernel
theorem dX12_curve_31 : decode cX12_curve 31 = .ok (.iconst 1, 1) := by decide +kernel
theorem dX12_curve_32 : decode cX12_curve 32 = .ok (.invokevirtual 226, 3) := by decide +kernel
theorem dX12_curve_35 : decode cX12_curve 35 = .ok (.aload_n 0, 1) := by decide +kernel
theorem dX12_curve_36 : decode cX12_curve 36 = .ok (.iload_n 1, 1) := by decide +kernel
theorem dX12_curve_37 : decode cX12_curve 37 = .ok (.iconst 0, 1) := by decide +kernel
theorem dX12_curve_38 : decode cX12_curve 38 = .ok (.invokevirtual 226, 3) := by decide +kernel
theorem dX12_curve_41 : decode cX12_curve 41 = .ok (.iload_n 2, 1) := by decide +kernel
theorem dX12_curve_42 : decode cX12_curve 42 = .ok (.imul, 1) := by decide +kernel
theorem dX12_curve_43 : decode cX12_curve 43 = .ok (.iadd, 1) := by decide +kernel
theorem dX12_curve_44 : decode cX12_curve 44 = .ok (.ireturn, 1) := by decide +kernel
theorem dX12_endsAt_0 : decode cX12_endsAt 0 = .ok (.aload_n 0, 1) := by decide +kernel
theorem dX12_endsAt_1 : decode cX12_endsAt 1 = .ok (.iconst 0, 1) := by decide +kernel
theorem dX12_endsAt_2 : decode cX12_endsAt 2 = .ok (.putfield 42, 3) := by decide +kernel
theorem dX12_endsAt_5 : decode cX12_endsAt 5 = .ok (.aload_n 0, 1) := by decide +kernel
theorem dX12_endsAt_6 : decode cX12_endsAt 6 = .ok (.iload_n 1, 1) := by decide +kernel
theorem dX12_endsAt_7 : decode cX12_endsAt 7 = .ok (.invokevirtual 280, 3) := by decide +kernel
theorem dX12_endsAt_10 : decode cX12_endsAt 10 = .ok (.ifCond .eq 5, 3) := by decide +kernel
theorem dX12_endsAt_13 : decode cX12_endsAt 13 = .ok (.iconst 0, 1) := by decide +kernel
theorem dX12_endsAt_14 : decode cX12_endsAt 14 = .ok (.ireturn, 1) := by decide +kernel
theorem dX12_endsAt_15 : decode cX12_endsAt 15 = .ok (.aload_n 0, 1) := by decide +kernel
theorem dX12_endsAt_16 : decode cX12_endsAt 16 = .ok (.getfield 17, 3) := by decide +kernel
theorem dX12_endsAt_19 : decode cX12_endsAt 19 = .ok (.aload_n 0, 1) := by decide +kernel
theorem dX12_endsAt_20 : decode cX12_endsAt 20 = .ok (.getfield 23, 3) := by decide +kernel
theorem dX12_endsAt_23 : decode cX12_endsAt 23 = .ok (.sipush 905, 3) := by decide +kernel
theorem dX12_endsAt_26 : decode cX12_endsAt 26 = .ok (.invokestatic 193, 3) := by decide +kernel
theorem dX12_endsAt_29 : decode cX12_endsAt 29 = .ok (.aload_n 0, 1) := by decide +kernel
theorem dX12_endsAt_30 : decode cX12_endsAt 30 = .ok (.iload_n 1, 1) := by decide +kernel
theorem dX12_endsAt_31 : decode cX12_endsAt 31 = .ok (.sipush 500, 3) := by decide +kernel
theorem dX12_endsAt_34 : decode cX12_endsAt 34 = .ok (.invokevirtual 295, 3) := by decide +kernel
theorem dX12_endsAt_37 : decode cX12_endsAt 37 = .ok (.istore_n 2, 1) := by decide +kernel
theorem dX12_endsAt_38 : decode cX12_endsAt 38 = .ok (.aload_n 0, 1) := by decide +kernel
theorem dX12_endsAt_39 : decode cX12_endsAt 39 = .ok (.getfield 23, 3) := by decide +kernel
theorem dX12_endsAt_42 : decode cX12_endsAt 42 = .ok (.aload_n 0, 1) := by decide +kernel
theorem dX12_endsAt_43 : decode cX12_endsAt 43 = .ok (.getfield 17, 3) := by decide +kernel
theorem dX12_endsAt_46 : decode cX12_endsAt 46 = .ok (.sipush 905, 3) := by decide +kernel
theorem dX12_endsAt_49 : decode cX12_endsAt 49 = .ok (.invokestatic 193, 3) := by decide +kernel
theorem dX12_endsAt_52 : decode cX12_endsAt 52 = .ok (.iload_n 2, 1) := by decide +kernel
theorem dX12_endsAt_53 : decode cX12_endsAt 53 = .ok (.ireturn, 1) := by decide +kernel
theorem dX12_billAfter_0 : decode cX12_billAfter 0 = .ok (.aload_n 0, 1) := by decide +kernel
theorem dX12_billAfter_1 : decode cX12_billAfter 1 = .ok (.iconst 0, 1) := by decide +kernel
theorem dX12_billAfter_2 : decode cX12_billAfter 2 = .ok (.putfield 42, 3) := by decide +kernel
theorem dX12_billAfter_5 : decode cX12_billAfter 5 = .ok (.aload_n 0, 1) := by decide +kernel
theorem dX12_billAfter_6 : decode cX12_billAfter 6 = .ok (.iload_n 1, 1) := by decide +kernel
theorem dX12_billAfter_7 : decode cX12_billAfter 7 = .ok (.invokevirtual 274, 3) := by decide +kernel
theorem dX12_billAfter_10 : decode cX12_billAfter 10 = .ok (.ifCond .ne 15, 3) := by decide +kernel
theorem dX12_billAfter_13 : decode cX12_billAfter 13 = .ok (.aload_n 0, 1) := by decide +kernel
theorem dX12_billAfter_14 : decode cX12_billAfter 14 = .ok (.iload_n 2, 1) := by decide +kernel
theorem dX12_billAfter_15 : decode cX12_billAfter 15 = .ok (.iconst 0, 1) := by decide +kernel
theorem dX12_billAfter_16 : decode cX12_billAfter 16 = .ok (.sipush 500, 3) := by decide +kernel
theorem dX12_billAfter_19 : decode cX12_billAfter 19 = .ok (.invokevirtual 268, 3) := by decide +kernel
theorem dX12_billAfter_22 : decode cX12_billAfter 22 = .ok (.ifCond .eq 5, 3) := by decide +kernel
theorem dX12_billAfter_25 : decode cX12_billAfter 25 = .ok (.iconst 0, 1) := by decide +kernel
theorem dX12_billAfter_26 : decode cX12_billAfter 26 = .ok (.ireturn, 1) := by decide +kernel
theorem dX12_billAfter_27 : decode cX12_billAfter 27 = .ok (.aload_n 0, 1) := by decide +kernel
theorem dX12_billAfter_28 : decode cX12_billAfter 28 = .ok (.getfield 17, 3) := by decide +kernel
theorem dX12_billAfter_31 : decode cX12_billAfter 31 = .ok (.aload_n 0, 1) := by decide +kernel
theorem dX12_billAfter_32 : decode cX12_billAfter 32 = .ok (.getfield 23, 3) := by decide +kernel
theorem dX12_billAfter_35 : decode cX12_billAfter 35 = .ok (.sipush 905, 3) := by decide +kernel
theorem dX12_billAfter_38 : decode cX12_billAfter 38 = .ok (.invokestatic 193, 3) := by decide +kernel
theorem dX12_billAfter_41 : decode cX12_billAfter 41 = .ok (.iconst 0, 1) := by decide +kernel
theorem dX12_billAfter_42 : decode cX12_billAfter 42 = .ok (.istore_n 3, 1) := by decide +kernel
theorem dX12_billAfter_43 : decode cX12_billAfter 43 = .ok (.iload_n 3, 1) := by decide +kernel
theorem dX12_billAfter_44 : decode cX12_billAfter 44 = .ok (.iload_n 2, 1) := by decide +kernel
theorem dX12_billAfter_45 : decode cX12_billAfter 45 = .ok (.if_icmp .ge 13, 3) := by decide +kernel
theorem dX12_billAfter_48 : decode cX12_billAfter 48 = .ok (.aload_n 0, 1) := by decide +kernel
theorem dX12_billAfter_49 : decode cX12_billAfter 49 = .ok (.invokevirtual 262, 3) := by decide +kernel
theorem dX12_billAfter_52 : decode cX12_billAfter 52 = .ok (.iinc 3 1, 3) := by decide +kernel
theorem dX12_billAfter_55 : decode cX12_billAfter 55 = .ok (.goto (-12), 3) := by decide +kernel
theorem dX12_billAfter_58 : decode cX12_billAfter 58 = .ok (.aload_n 0, 1) := by decide +kernel
theorem dX12_billAfter_59 : decode cX12_billAfter 59 = .ok (.iload_n 1, 1) := by decide +kernel
theorem dX12_billAfter_60 : decode cX12_billAfter 60 = .ok (.iconst 2, 1) := by decide +kernel
theorem dX12_billAfter_61 : decode cX12_billAfter 61 = .ok (.invokevirtual 200, 3) := by decide +kernel
theorem dX12_billAfter_64 : decode cX12_billAfter 64 = .ok (.istore_n 3, 1) := by decide +kernel
theorem dX12_billAfter_65 : decode cX12_billAfter 65 = .ok (.aload_n 0, 1) := by decide +kernel
theorem dX12_billAfter_66 : decode cX12_billAfter 66 = .ok (.getfield 23, 3) := by decide +kernel
theorem dX12_billAfter_69 : decode cX12_billAfter 69 = .ok (.aload_n 0, 1) := by decide +kernel
theorem dX12_billAfter_70 : decode cX12_billAfter 70 = .ok (.getfield 17, 3) := by decide +kernel
theorem dX12_billAfter_73 : decode cX12_billAfter 73 = .ok (.sipush 905, 3) := by decide +kernel
theorem dX12_billAfter_76 : decode cX12_billAfter 76 = .ok (.invokestatic 193, 3) := by decide +kernel
theorem dX12_billAfter_79 : decode cX12_billAfter 79 = .ok (.iload_n 3, 1) := by decide +kernel
theorem dX12_billAfter_80 : decode cX12_billAfter 80 = .ok (.ireturn, 1) := by decide +kernel
theorem dX12_helps_0 : decode cX12_helps 0 = .ok (.aload_n 0, 1) := by decide +kernel
theorem dX12_helps_1 : decode cX12_helps 1 = .ok (.getfield 17, 3) := by decide +kernel
theorem dX12_helps_4 : decode cX12_helps 4 = .ok (.aload_n 0, 1) := by decide +kernel
theorem dX12_helps_5 : decode cX12_helps 5 = .ok (.getfield 26, 3) := by decide +kernel
theorem dX12_helps_8 : decode cX12_helps 8 = .ok (.sipush 905, 3) := by decide +kernel
theorem dX12_helps_11 : decode cX12_helps 11 = .ok (.invokestatic 193, 3) := by decide +kernel
theorem dX12_helps_14 : decode cX12_helps 14 = .ok (.aload_n 0, 1) := by decide +kernel
theorem dX12_helps_15 : decode cX12_helps 15 = .ok (.getfield 17, 3) := by decide +kernel
theorem dX12_helps_18 : decode cX12_helps 18 = .ok (.aload_n 0, 1) := by decide +kernel
theorem dX12_helps_19 : decode cX12_helps 19 = .ok (.getfield 17, 3) := by decide +kernel
theorem dX12_helps_22 : decode cX12_helps 22 = .ok (.iload_n 1, 1) := by decide +kernel
theorem dX12_helps_23 : decode cX12_helps 23 = .ok (.invokestatic 197, 3) := by decide +kernel
theorem dX12_helps_26 : decode cX12_helps 26 = .ok (.iconst 0, 1) := by decide +kernel
theorem dX12_helps_27 : decode cX12_helps 27 = .ok (.iadd, 1) := by decide +kernel
theorem dX12_helps_28 : decode cX12_helps 28 = .ok (.iaload, 1) := by decide +kernel
theorem dX12_helps_29 : decode cX12_helps 29 = .ok (.iload_n 2, 1) := by decide +kernel
theorem dX12_helps_30 : decode cX12_helps 30 = .ok (.aload_n 0, 1) := by decide +kernel
theorem dX12_helps_31 : decode cX12_helps 31 = .ok (.getfield 17, 3) := by decide +kernel
theorem dX12_helps_34 : decode cX12_helps 34 = .ok (.iconst 0, 1) := by decide +kernel
theorem dX12_helps_35 : decode cX12_helps 35 = .ok (.iaload, 1) := by decide +kernel
theorem dX12_helps_36 : decode cX12_helps 36 = .ok (.sipush 9999, 3) := by decide +kernel
theorem dX12_helps_39 : decode cX12_helps 39 = .ok (.iadd, 1) := by decide +kernel
theorem dX12_helps_40 : decode cX12_helps 40 = .ok (.invokestatic 148, 3) := by decide +kernel
theorem dX12_helps_43 : decode cX12_helps 43 = .ok (.aload_n 0, 1) := by decide +kernel
theorem dX12_helps_44 : decode cX12_helps 44 = .ok (.iload_n 1, 1) := by decide +kernel
theorem dX12_helps_45 : decode cX12_helps 45 = .ok (.iload_n 3, 1) := by decide +kernel
theorem dX12_helps_46 : decode cX12_helps 46 = .ok (.invokevirtual 295, 3) := by decide +kernel
theorem dX12_helps_49 : decode cX12_helps 49 = .ok (.iconst (-1), 1) := by decide +kernel
theorem dX12_helps_50 : decode cX12_helps 50 = .ok (.if_icmp .eq 7, 3) := by decide +kernel
theorem dX12_helps_53 : decode cX12_helps 53 = .ok (.iconst 1, 1) := by decide +kernel
theorem dX12_helps_54 : decode cX12_helps 54 = .ok (.goto 4, 3) := by decide +kernel
theorem dX12_helps_57 : decode cX12_helps 57 = .ok (.iconst 0, 1) := by decide +kernel
theorem dX12_helps_58 : decode cX12_helps 58 = .ok (.istore 4, 2) := by decide +kernel
theorem dX12_helps_60 : decode cX12_helps 60 = .ok (.aload_n 0, 1) := by decide +kernel
theorem dX12_helps_61 : decode cX12_helps 61 = .ok (.getfield 26, 3) := by decide +kernel
theorem dX12_helps_64 : decode cX12_helps 64 = .ok (.aload_n 0, 1) := by decide +kernel
theorem dX12_helps_65 : decode cX12_helps 65 = .ok (.getfield 17, 3) := by decide +kernel
theorem dX12_helps_68 : decode cX12_helps 68 = .ok (.sipush 905, 3) := by decide +kernel
theorem dX12_helps_71 : decode cX12_helps 71 = .ok (.invokestatic 193, 3) := by decide +kernel
theorem dX12_helps_74 : decode cX12_helps 74 = .ok (.iload 4, 2) := by decide +kernel
theorem dX12_helps_76 : decode cX12_helps 76 = .ok (.ireturn, 1) := by decide +kernel
theorem dX12_help_0 : decode cX12_help 0 = .ok (.aload_n 0, 1) := by decide +kernel
theorem dX12_help_1 : decode cX12_help 1 = .ok (.iconst 0, 1) := by decide +kernel
theorem dX12_help_2 : decode cX12_help 2 = .ok (.putfield 42, 3) := by decide +kernel
theorem dX12_help_5 : decode cX12_help 5 = .ok (.aload_n 0, 1) := by decide +kernel
theorem dX12_help_6 : decode cX12_help 6 = .ok (.iload_n 1, 1) := by decide +kernel
theorem dX12_help_7 : decode cX12_help 7 = .ok (.invokevirtual 280, 3) := by decide +kernel
theorem dX12_help_10 : decode cX12_help 10 = .ok (.ifCond .eq 5, 3) := by decide +kernel
theorem dX12_help_13 : decode cX12_help 13 = .ok (.iconst 0, 1) := by decide +kernel
theorem dX12_help_14 : decode cX12_help 14 = .ok (.ireturn, 1) := by decide +kernel
theorem dX12_help_15 : decode cX12_help 15 = .ok (.aload_n 0, 1) := by decide +kernel
theorem dX12_help_16 : decode cX12_help 16 = .ok (.iload_n 1, 1) := by decide +kernel
theorem dX12_help_17 : decode cX12_help 17 = .ok (.invokevirtual 259, 3) := by decide +kernel
theorem dX12_help_20 : decode cX12_help 20 = .ok (.ifCond .ne 14, 3) := by decide +kernel
theorem dX12_help_23 : decode cX12_help 23 = .ok (.aload_n 0, 1) := by decide +kernel
theorem dX12_help_24 : decode cX12_help 24 = .ok (.getfield 17, 3) := by decide +kernel
theorem dX12_help_27 : decode cX12_help 27 = .ok (.iconst 4, 1) := by decide +kernel
theorem dX12_help_28 : decode cX12_help 28 = .ok (.iaload, 1) := by decide +kernel
theorem dX12_help_29 : decode cX12_help 29 = .ok (.bipush 30, 2) := by decide +kernel
theorem dX12_help_31 : decode cX12_help 31 = .ok (.if_icmp .ne 5, 3) := by decide +kernel
theorem dX12_help_34 : decode cX12_help 34 = .ok (.iconst (-1), 1) := by decide +kernel
theorem dX12_help_35 : decode cX12_help 35 = .ok (.ireturn, 1) := by decide +kernel
theorem dX12_help_36 : decode cX12_help 36 = .ok (.aload_n 0, 1) := by decide +kernel
theorem dX12_help_37 : decode cX12_help 37 = .ok (.getfield 17, 3) := by decide +kernel
theorem dX12_help_40 : decode cX12_help 40 = .ok (.aload_n 0, 1) := by decide +kernel
theorem dX12_help_41 : decode cX12_help 41 = .ok (.getfield 23, 3) := by decide +kernel
theorem dX12_help_44 : decode cX12_help 44 = .ok (.sipush 905, 3) := by decide +kernel
theorem dX12_help_47 : decode cX12_help 47 = .ok (.invokestatic 193, 3) := by decide +kernel
theorem dX12_help_50 : decode cX12_help 50 = .ok (.aload_n 0, 1) := by decide +kernel
theorem dX12_help_51 : decode cX12_help 51 = .ok (.iload_n 1, 1) := by decide +kernel
theorem dX12_help_52 : decode cX12_help 52 = .ok (.sipush 500, 3) := by decide +kernel
theorem dX12_help_55 : decode cX12_help 55 = .ok (.invokevirtual 295, 3) := by decide +kernel
theorem dX12_help_58 : decode cX12_help 58 = .ok (.istore_n 2, 1) := by decide +kernel
theorem dX12_help_59 : decode cX12_help 59 = .ok (.aload_n 0, 1) := by decide +kernel
theorem dX12_help_60 : decode cX12_help 60 = .ok (.getfield 23, 3) := by decide +kernel
theorem dX12_help_63 : decode cX12_help 63 = .ok (.aload_n 0, 1) := by decide +kernel
theorem dX12_help_64 : decode cX12_help 64 = .ok (.getfield 17, 3) := by decide +kernel
theorem dX12_help_67 : decode cX12_help 67 = .ok (.sipush 905, 3) := by decide +kernel
theorem dX12_help_70 : decode cX12_help 70 = .ok (.invokestatic 193, 3) := by decide +kernel
theorem dX12_help_73 : decode cX12_help 73 = .ok (.iload_n 2, 1) := by decide +kernel
theorem dX12_help_74 : decode cX12_help 74 = .ok (.iconst (-1), 1) := by decide +kernel
theorem dX12_help_75 : decode cX12_help 75 = .ok (.if_icmp .ne 9, 3) := by decide +kernel
theorem dX12_help_78 : decode cX12_help 78 = .ok (.sipush 500, 3) := by decide +kernel
theorem dX12_help_81 : decode cX12_help 81 = .ok (.goto 11, 3) := by decide +kernel
theorem dX12_help_84 : decode cX12_help 84 = .ok (.iload_n 2, 1) := by decide +kernel
theorem dX12_help_85 : decode cX12_help 85 = .ok (.aload_n 0, 1) := by decide +kernel
theorem dX12_help_86 : decode cX12_help 86 = .ok (.getfield 17, 3) := by decide +kernel
theorem dX12_help_89 : decode cX12_help 89 = .ok (.iconst 0, 1) := by decide +kernel
theorem dX12_help_90 : decode cX12_help 90 = .ok (.iaload, 1) := by decide +kernel
theorem dX12_help_91 : decode cX12_help 91 = .ok (.isub, 1) := by decide +kernel
theorem dX12_help_92 : decode cX12_help 92 = .ok (.istore_n 3, 1) := by decide +kernel
theorem dX12_help_93 : decode cX12_help 93 = .ok (.iconst 1, 1) := by decide +kernel
theorem dX12_help_94 : decode cX12_help 94 = .ok (.istore 4, 2) := by decide +kernel
theorem dX12_help_96 : decode cX12_help 96 = .ok (.iload 4, 2) := by decide +kernel
theorem dX12_help_98 : decode cX12_help 98 = .ok (.sipush 999, 3) := by decide +kernel
theorem dX12_help_101 : decode cX12_help 101 = .ok (.if_icmp .gt 23, 3) := by decide +kernel
theorem dX12_help_104 : decode cX12_help 104 = .ok (.aload_n 0, 1) := by decide +kernel
theorem dX12_help_105 : decode cX12_help 105 = .ok (.iload_n 1, 1) := by decide +kernel
theorem dX12_help_106 : decode cX12_help 106 = .ok (.iload 4, 2) := by decide +kernel
theorem dX12_help_108 : decode cX12_help 108 = .ok (.iload_n 3, 1) := by decide +kernel
theorem dX12_help_109 : decode cX12_help 109 = .ok (.invokevirtual 298, 3) := by decide +kernel
theorem dX12_help_112 : decode cX12_help 112 = .ok (.ifCond .eq 6, 3) := by decide +kernel
theorem dX12_help_115 : decode cX12_help 115 = .ok (.iload 4, 2) := by decide +kernel
theorem dX12_help_117 : decode cX12_help 117 = .ok (.ireturn, 1) := by decide +kernel
theorem dX12_help_118 : decode cX12_help 118 = .ok (.iinc 4 1, 3) := by decide +kernel
theorem dX12_help_121 : decode cX12_help 121 = .ok (.goto (-25), 3) := by decide +kernel
theorem dX12_help_124 : decode cX12_help 124 = .ok (.iconst (-1), 1) := by decide +kernel
theorem dX12_help_125 : decode cX12_help 125 = .ok (.ireturn, 1) := by decide +kernel
theorem dX12_remember_0 : decode cX12_remember 0 = .ok (.aload_n 0, 1) := by decide +kernel
theorem dX12_remember_1 : decode cX12_remember 1 = .ok (.getfield 301, 3) := by decide +kernel
theorem dX12_remember_4 : decode cX12_remember 4 = .ok (.bipush 8, 2) := by decide +kernel
theorem dX12_remember_6 : decode cX12_remember 6 = .ok (.if_icmp .ne 47, 3) := by decide +kernel
theorem dX12_remember_9 : decode cX12_remember 9 = .ok (.iconst 1, 1) := by decide +kernel
theorem dX12_remember_10 : decode cX12_remember 10 = .ok (.istore_n 1, 1) := by decide +kernel
theorem dX12_remember_11 : decode cX12_remember 11 = .ok (.iload_n 1, 1) := by decide +kernel
theorem dX12_remember_12 : decode cX12_remember 12 = .ok (.bipush 8, 2) := by decide +kernel
theorem dX12_remember_14 : decode cX12_remember 14 = .ok (.if_icmp .ge 29, 3) := by decide +kernel
theorem dX12_remember_17 : decode cX12_remember 17 = .ok (.aload_n 0, 1) := by decide +kernel
theorem dX12_remember_18 : decode cX12_remember 18 = .ok (.getfield 31, 3) := by decide +kernel
theorem dX12_remember_21 : decode cX12_remember 21 = .ok (.iload_n 1, 1) := by decide +kernel
theorem dX12_remember_22 : decode cX12_remember 22 = .ok (.aaload, 1) := by decide +kernel
theorem dX12_remember_23 : decode cX12_remember 23 = .ok (.aload_n 0, 1) := by decide +kernel
theorem dX12_remember_24 : decode cX12_remember 24 = .ok (.getfield 31, 3) := by decide +kernel
theorem dX12_remember_27 : decode cX12_remember 27 = .ok (.iload_n 1, 1) := by decide +kernel
theorem dX12_remember_28 : decode cX12_remember 28 = .ok (.iconst 1, 1) := by decide +kernel
theorem dX12_remember_29 : decode cX12_remember 29 = .ok (.isub, 1) := by decide +kernel
theorem dX12_remember_30 : decode cX12_remember 30 = .ok (.aaload, 1) := by decide +kernel
theorem dX12_remember_31 : decode cX12_remember 31 = .ok (.sipush 2105, 3) := by decide +kernel
theorem dX12_remember_34 : decode cX12_remember 34 = .ok (.invokestatic 193, 3) := by decide +kernel
theorem dX12_remember_37 : decode cX12_remember 37 = .ok (.iinc 1 1, 3) := by decide +kernel
theorem dX12_remember_40 : decode cX12_remember 40 = .ok (.goto (-29), 3) := by decide +kernel
theorem dX12_remember_43 : decode cX12_remember 43 = .ok (.aload_n 0, 1) := by decide +kernel
theorem dX12_remember_44 : decode cX12_remember 44 = .ok (.dup, 1) := by decide +kernel
theorem dX12_remember_45 : decode cX12_remember 45 = .ok (.getfield 301, 3) := by decide +kernel
theorem dX12_remember_48 : decode cX12_remember 48 = .ok (.iconst 1, 1) := by decide +kernel
theorem dX12_remember_49 : decode cX12_remember 49 = .ok (.isub, 1) := by decide +kernel
theorem dX12_remember_50 : decode cX12_remember 50 = .ok (.putfield 301, 3) := by decide +kernel
theorem dX12_remember_53 : decode cX12_remember 53 = .ok (.aload_n 0, 1) := by decide +kernel
theorem dX12_remember_54 : decode cX12_remember 54 = .ok (.getfield 17, 3) := by decide +kernel
theorem dX12_remember_57 : decode cX12_remember 57 = .ok (.aload_n 0, 1) := by decide +kernel
theorem dX12_remember_58 : decode cX12_remember 58 = .ok (.getfield 31, 3) := by decide +kernel
theorem dX12_remember_61 : decode cX12_remember 61 = .ok (.aload_n 0, 1) := by decide +kernel
theorem dX12_remember_62 : decode cX12_remember 62 = .ok (.getfield 301, 3) := by decide +kernel
theorem dX12_remember_65 : decode cX12_remember 65 = .ok (.aaload, 1) := by decide +kernel
theorem dX12_remember_66 : decode cX12_remember 66 = .ok (.sipush 2105, 3) := by decide +kernel
theorem dX12_remember_69 : decode cX12_remember 69 = .ok (.invokestatic 193, 3) := by decide +kernel
theorem dX12_remember_72 : decode cX12_remember 72 = .ok (.aload_n 0, 1) := by decide +kernel
theorem dX12_remember_73 : decode cX12_remember 73 = .ok (.dup, 1) := by decide +kernel
theorem dX12_remember_74 : decode cX12_remember 74 = .ok (.getfield 301, 3) := by decide +kernel
theorem dX12_remember_77 : decode cX12_remember 77 = .ok (.iconst 1, 1) := by decide +kernel
theorem dX12_remember_78 : decode cX12_remember 78 = .ok (.iadd, 1) := by decide +kernel
theorem dX12_remember_79 : decode cX12_remember 79 = .ok (.putfield 301, 3) := by decide +kernel
theorem dX12_remember_82 : decode cX12_remember 82 = .ok (.return_, 1) := by decide +kernel
theorem dX12_pass_0 : decode cX12_pass 0 = .ok (.aload_n 0, 1) := by decide +kernel
theorem dX12_pass_1 : decode cX12_pass 1 = .ok (.iconst 0, 1) := by decide +kernel
theorem dX12_pass_2 : decode cX12_pass 2 = .ok (.putfield 42, 3) := by decide +kernel
theorem dX12_pass_5 : decode cX12_pass 5 = .ok (.aload_n 0, 1) := by decide +kernel
theorem dX12_pass_6 : decode cX12_pass 6 = .ok (.iload_n 1, 1) := by decide +kernel
theorem dX12_pass_7 : decode cX12_pass 7 = .ok (.iconst 1, 1) := by decide +kernel
theorem dX12_pass_8 : decode cX12_pass 8 = .ok (.sipush 200, 3) := by decide +kernel
theorem dX12_pass_11 : decode cX12_pass 11 = .ok (.invokestatic 64, 3) := by decide +kernel
theorem dX12_pass_14 : decode cX12_pass 14 = .ok (.ifCond .eq 17, 3) := by decide +kernel
theorem dX12_pass_17 : decode cX12_pass 17 = .ok (.aload_n 0, 1) := by decide +kernel
theorem dX12_pass_18 : decode cX12_pass 18 = .ok (.getfield 17, 3) := by decide +kernel
theorem dX12_pass_21 : decode cX12_pass 21 = .ok (.iconst 0, 1) := by decide +kernel
theorem dX12_pass_22 : decode cX12_pass 22 = .ok (.iaload, 1) := by decide +kernel
theorem dX12_pass_23 : decode cX12_pass 23 = .ok (.iload_n 1, 1) := by decide +kernel
theorem dX12_pass_24 : decode cX12_pass 24 = .ok (.iadd, 1) := by decide +kernel
theorem dX12_pass_25 : decode cX12_pass 25 = .ok (.sipush 9999, 3) := by decide +kernel
theorem dX12_pass_28 : decode cX12_pass 28 = .ok (.if_icmp .le 7, 3) := by decide +kernel
theorem dX12_pass_31 : decode cX12_pass 31 = .ok (.iconst 1, 1) := by decide +kernel
theorem dX12_pass_32 : decode cX12_pass 32 = .ok (.goto 4, 3) := by decide +kernel
theorem dX12_pass_35 : decode cX12_pass 35 = .ok (.iconst 0, 1) := by decide +kernel
theorem dX12_pass_36 : decode cX12_pass 36 = .ok (.iconst 1, 1) := by decide +kernel
theorem dX12_pass_37 : decode cX12_pass 37 = .ok (.invokevirtual 178, 3) := by decide +kernel
theorem dX12_pass_40 : decode cX12_pass 40 = .ok (.ifCond .eq 5, 3) := by decide +kernel
theorem dX12_pass_43 : decode cX12_pass 43 = .ok (.iconst 0, 1) := by decide +kernel
theorem dX12_pass_44 : decode cX12_pass 44 = .ok (.ireturn, 1) := by decide +kernel
theorem dX12_pass_45 : decode cX12_pass 45 = .ok (.aload_n 0, 1) := by decide +kernel
theorem dX12_pass_46 : decode cX12_pass 46 = .ok (.invokevirtual 190, 3) := by decide +kernel
theorem dX12_pass_49 : decode cX12_pass 49 = .ok (.aload_n 0, 1) := by decide +kernel
theorem dX12_pass_50 : decode cX12_pass 50 = .ok (.getfield 17, 3) := by decide +kernel
theorem dX12_pass_53 : decode cX12_pass 53 = .ok (.iconst 5, 1) := by decide +kernel
theorem dX12_pass_54 : decode cX12_pass 54 = .ok (.iaload, 1) := by decide +kernel
theorem dX12_pass_55 : decode cX12_pass 55 = .ok (.istore_n 2, 1) := by decide +kernel
theorem dX12_pass_56 : decode cX12_pass 56 = .ok (.iconst 0, 1) := by decide +kernel
theorem dX12_pass_57 : decode cX12_pass 57 = .ok (.istore_n 3, 1) := by decide +kernel
theorem dX12_pass_58 : decode cX12_pass 58 = .ok (.iload_n 3, 1) := by decide +kernel
theorem dX12_pass_59 : decode cX12_pass 59 = .ok (.iload_n 1, 1) := by decide +kernel
theorem dX12_pass_60 : decode cX12_pass 60 = .ok (.if_icmp .ge 13, 3) := by decide +kernel
theorem dX12_pass_63 : decode cX12_pass 63 = .ok (.aload_n 0, 1) := by decide +kernel
theorem dX12_pass_64 : decode cX12_pass 64 = .ok (.invokevirtual 262, 3) := by decide +kernel
theorem dX12_pass_67 : decode cX12_pass 67 = .ok (.iinc 3 1, 3) := by decide +kernel
theorem dX12_pass_70 : decode cX12_pass 70 = .ok (.goto (-12), 3) := by decide +kernel
theorem dX12_pass_73 : decode cX12_pass 73 = .ok (.aload_n 0, 1) := by decide +kernel
theorem dX12_pass_74 : decode cX12_pass 74 = .ok (.getfield 17, 3) := by decide +kernel
theorem dX12_pass_77 : decode cX12_pass 77 = .ok (.iconst 5, 1) := by decide +kernel
theorem dX12_pass_78 : decode cX12_pass 78 = .ok (.iaload, 1) := by decide +kernel
theorem dX12_pass_79 : decode cX12_pass 79 = .ok (.iload_n 2, 1) := by decide +kernel
theorem dX12_pass_80 : decode cX12_pass 80 = .ok (.isub, 1) := by decide +kernel
theorem dX12_pass_81 : decode cX12_pass 81 = .ok (.ireturn, 1) := by decide +kernel
theorem dX12_forward_0 : decode cX12_forward 0 = .ok (.aload_n 0, 1) := by decide +kernel
theorem dX12_forward_1 : decode cX12_forward 1 = .ok (.iconst 0, 1) := by decide +kernel
theorem dX12_forward_2 : decode cX12_forward 2 = .ok (.putfield 42, 3) := by decide +kernel
theorem dX12_forward_5 : decode cX12_forward 5 = .ok (.aload_n 0, 1) := by decide +kernel
theorem dX12_forward_6 : decode cX12_forward 6 = .ok (.iload_n 1, 1) := by decide +kernel
theorem dX12_forward_7 : decode cX12_forward 7 = .ok (.invokevirtual 286, 3) := by decide +kernel
theorem dX12_forward_10 : decode cX12_forward 10 = .ok (.ifCond .ne 11, 3) := by decide +kernel
theorem dX12_forward_13 : decode cX12_forward 13 = .ok (.aload_n 0, 1) := by decide +kernel
theorem dX12_forward_14 : decode cX12_forward 14 = .ok (.iload_n 2, 1) := by decide +kernel
theorem dX12_forward_15 : decode cX12_forward 15 = .ok (.invokevirtual 274, 3) := by decide +kernel
theorem dX12_forward_18 : decode cX12_forward 18 = .ok (.ifCond .eq 5, 3) := by decide +kernel
theorem dX12_forward_21 : decode cX12_forward 21 = .ok (.iconst 0, 1) := by decide +kernel
theorem dX12_forward_22 : decode cX12_forward 22 = .ok (.ireturn, 1) := by decide +kernel
theorem dX12_forward_23 : decode cX12_forward 23 = .ok (.aload_n 0, 1) := by decide +kernel
theorem dX12_forward_24 : decode cX12_forward 24 = .ok (.invokevirtual 190, 3) := by decide +kernel
theorem dX12_forward_27 : decode cX12_forward 27 = .ok (.iload_n 1, 1) := by decide +kernel
theorem dX12_forward_28 : decode cX12_forward 28 = .ok (.invokestatic 203, 3) := by decide +kernel
theorem dX12_forward_31 : decode cX12_forward 31 = .ok (.istore_n 3, 1) := by decide +kernel
theorem dX12_forward_32 : decode cX12_forward 32 = .ok (.aload_n 0, 1) := by decide +kernel
theorem dX12_forward_33 : decode cX12_forward 33 = .ok (.getfield 17, 3) := by decide +kernel
theorem dX12_forward_36 : decode cX12_forward 36 = .ok (.iload_n 3, 1) := by decide +kernel
theorem dX12_forward_37 : decode cX12_forward 37 = .ok (.iconst 0, 1) := by decide +kernel
theorem dX12_forward_38 : decode cX12_forward 38 = .ok (.iadd, 1) := by decide +kernel
theorem dX12_forward_39 : decode cX12_forward 39 = .ok (.iaload, 1) := by decide +kernel
theorem dX12_forward_40 : decode cX12_forward 40 = .ok (.iload_n 2, 1) := by decide +kernel
theorem dX12_forward_41 : decode cX12_forward 41 = .ok (.if_icmp .eq 33, 3) := by decide +kernel
theorem dX12_forward_44 : decode cX12_forward 44 = .ok (.aload_n 0, 1) := by decide +kernel
theorem dX12_forward_45 : decode cX12_forward 45 = .ok (.getfield 17, 3) := by decide +kernel
theorem dX12_forward_48 : decode cX12_forward 48 = .ok (.iload_n 3, 1) := by decide +kernel
theorem dX12_forward_49 : decode cX12_forward 49 = .ok (.iconst 3, 1) := by decide +kernel
theorem dX12_forward_50 : decode cX12_forward 50 = .ok (.iadd, 1) := by decide +kernel
theorem dX12_forward_51 : decode cX12_forward 51 = .ok (.iaload, 1) := by decide +kernel
theorem dX12_forward_52 : decode cX12_forward 52 = .ok (.iconst 2, 1) := by decide +kernel
theorem dX12_forward_53 : decode cX12_forward 53 = .ok (.if_icmp .eq 21, 3) := by decide +kernel
theorem dX12_forward_56 : decode cX12_forward 56 = .ok (.aload_n 0, 1) := by decide +kernel
theorem dX12_forward_57 : decode cX12_forward 57 = .ok (.getfield 17, 3) := by decide +kernel
theorem dX12_forward_60 : decode cX12_forward 60 = .ok (.iload_n 3, 1) := by decide +kernel
theorem dX12_forward_61 : decode cX12_forward 61 = .ok (.iconst 1, 1) := by decide +kernel
theorem dX12_forward_62 : decode cX12_forward 62 = .ok (.iadd, 1) := by decide +kernel
theorem dX12_forward_63 : decode cX12_forward 63 = .ok (.iaload, 1) := by decide +kernel
theorem dX12_forward_64 : decode cX12_forward 64 = .ok (.aload_n 0, 1) := by decide +kernel
theorem dX12_forward_65 : decode cX12_forward 65 = .ok (.getfield 17, 3) := by decide +kernel
theorem dX12_forward_68 : decode cX12_forward 68 = .ok (.bipush 9, 2) := by decide +kernel
theorem dX12_forward_70 : decode cX12_forward 70 = .ok (.iaload, 1) := by decide +kernel
theorem dX12_forward_71 : decode cX12_forward 71 = .ok (.if_icmp .gt 5, 3) := by decide +kernel
theorem dX12_forward_74 : decode cX12_forward 74 = .ok (.iconst (-1), 1) := by decide +kernel
theorem dX12_forward_75 : decode cX12_forward 75 = .ok (.ireturn, 1) := by decide +kernel
theorem dX12_forward_76 : decode cX12_forward 76 = .ok (.aload_n 0, 1) := by decide +kernel
theorem dX12_forward_77 : decode cX12_forward 77 = .ok (.getfield 17, 3) := by decide +kernel
theorem dX12_forward_80 : decode cX12_forward 80 = .ok (.iload_n 3, 1) := by decide +kernel
theorem dX12_forward_81 : decode cX12_forward 81 = .ok (.iconst 0, 1) := by decide +kernel
theorem dX12_forward_82 : decode cX12_forward 82 = .ok (.iadd, 1) := by decide +kernel
theorem dX12_forward_83 : decode cX12_forward 83 = .ok (.iload_n 2, 1) := by decide +kernel
theorem dX12_forward_84 : decode cX12_forward 84 = .ok (.iastore, 1) := by decide +kernel
theorem dX12_forward_85 : decode cX12_forward 85 = .ok (.aload_n 0, 1) := by decide +kernel
theorem dX12_forward_86 : decode cX12_forward 86 = .ok (.getfield 17, 3) := by decide +kernel
theorem dX12_forward_89 : decode cX12_forward 89 = .ok (.iload_n 3, 1) := by decide +kernel
theorem dX12_forward_90 : decode cX12_forward 90 = .ok (.iconst 1, 1) := by decide +kernel
theorem dX12_forward_91 : decode cX12_forward 91 = .ok (.iadd, 1) := by decide +kernel
theorem dX12_forward_92 : decode cX12_forward 92 = .ok (.dup2, 1) := by decide +kernel
theorem dX12_forward_93 : decode cX12_forward 93 = .ok (.iaload, 1) := by decide +kernel
theorem dX12_forward_94 : decode cX12_forward 94 = .ok (.aload_n 0, 1) := by decide +kernel
theorem dX12_forward_95 : decode cX12_forward 95 = .ok (.getfield 17, 3) := by decide +kernel
theorem dX12_forward_98 : decode cX12_forward 98 = .ok (.bipush 9, 2) := by decide +kernel
theorem dX12_forward_100 : decode cX12_forward 100 = .ok (.iaload, 1) := by decide +kernel
theorem dX12_forward_101 : decode cX12_forward 101 = .ok (.isub, 1) := by decide +kernel
theorem dX12_forward_102 : decode cX12_forward 102 = .ok (.iastore, 1) := by decide +kernel
theorem dX12_forward_103 : decode cX12_forward 103 = .ok (.aload_n 0, 1) := by decide +kernel
theorem dX12_forward_104 : decode cX12_forward 104 = .ok (.getfield 17, 3) := by decide +kernel
theorem dX12_forward_107 : decode cX12_forward 107 = .ok (.iload_n 3, 1) := by decide +kernel
theorem dX12_forward_108 : decode cX12_forward 108 = .ok (.iconst 3, 1) := by decide +kernel
theorem dX12_forward_109 : decode cX12_forward 109 = .ok (.iadd, 1) := by decide +kernel
theorem dX12_forward_110 : decode cX12_forward 110 = .ok (.dup2, 1) := by decide +kernel
theorem dX12_forward_111 : decode cX12_forward 111 = .ok (.iaload, 1) := by decide +kernel
theorem dX12_forward_112 : decode cX12_forward 112 = .ok (.iconst 1, 1) := by decide +kernel
theorem dX12_forward_113 : decode cX12_forward 113 = .ok (.iadd, 1) := by decide +kernel
theorem dX12_forward_114 : decode cX12_forward 114 = .ok (.iastore, 1) := by decide +kernel
theorem dX12_forward_115 : decode cX12_forward 115 = .ok (.aload_n 0, 1) := by decide +kernel
theorem dX12_forward_116 : decode cX12_forward 116 = .ok (.getfield 17, 3) := by decide +kernel
theorem dX12_forward_119 : decode cX12_forward 119 = .ok (.iload_n 3, 1) := by decide +kernel
theorem dX12_forward_120 : decode cX12_forward 120 = .ok (.iconst 1, 1) := by decide +kernel
theorem dX12_forward_121 : decode cX12_forward 121 = .ok (.iadd, 1) := by decide +kernel
theorem dX12_forward_122 : decode cX12_forward 122 = .ok (.iaload, 1) := by decide +kernel
theorem dX12_forward_123 : decode cX12_forward 123 = .ok (.ireturn, 1) := by decide +kernel
theorem dX12_grant_0 : decode cX12_grant 0 = .ok (.aload_n 0, 1) := by decide +kernel
theorem dX12_grant_1 : decode cX12_grant 1 = .ok (.iconst 0, 1) := by decide +kernel
theorem dX12_grant_2 : decode cX12_grant 2 = .ok (.putfield 42, 3) := by decide +kernel
theorem dX12_grant_5 : decode cX12_grant 5 = .ok (.aload_n 0, 1) := by decide +kernel
theorem dX12_grant_6 : decode cX12_grant 6 = .ok (.iload_n 1, 1) := by decide +kernel
theorem dX12_grant_7 : decode cX12_grant 7 = .ok (.invokevirtual 274, 3) := by decide +kernel
theorem dX12_grant_10 : decode cX12_grant 10 = .ok (.ifCond .ne 62, 3) := by decide +kernel
theorem dX12_grant_13 : decode cX12_grant 13 = .ok (.aload_n 0, 1) := by decide +kernel
theorem dX12_grant_14 : decode cX12_grant 14 = .ok (.iload_n 2, 1) := by decide +kernel
theorem dX12_grant_15 : decode cX12_grant 15 = .ok (.iconst 1, 1) := by decide +kernel
theorem dX12_grant_16 : decode cX12_grant 16 = .ok (.sipush 9999, 3) := by decide +kernel
theorem dX12_grant_19 : decode cX12_grant 19 = .ok (.invokestatic 64, 3) := by decide +kernel
theorem dX12_grant_22 : decode cX12_grant 22 = .ok (.ifCond .eq 14, 3) := by decide +kernel
theorem dX12_grant_25 : decode cX12_grant 25 = .ok (.iload_n 3, 1) := by decide +kernel
theorem dX12_grant_26 : decode cX12_grant 26 = .ok (.iconst 1, 1) := by decide +kernel
theorem dX12_grant_27 : decode cX12_grant 27 = .ok (.sipush 9999, 3) := by decide +kernel
theorem dX12_grant_30 : decode cX12_grant 30 = .ok (.invokestatic 64, 3) := by decide +kernel
theorem dX12_grant_33 : decode cX12_grant 33 = .ok (.ifCond .ne 7, 3) := by decide +kernel
theorem dX12_grant_36 : decode cX12_grant 36 = .ok (.iconst 1, 1) := by decide +kernel
theorem dX12_grant_37 : decode cX12_grant 37 = .ok (.goto 4, 3) := by decide +kernel
theorem dX12_grant_40 : decode cX12_grant 40 = .ok (.iconst 0, 1) := by decide +kernel
theorem dX12_grant_41 : decode cX12_grant 41 = .ok (.iconst 2, 1) := by decide +kernel
theorem dX12_grant_42 : decode cX12_grant 42 = .ok (.invokevirtual 178, 3) := by decide +kernel
theorem dX12_grant_45 : decode cX12_grant 45 = .ok (.ifCond .ne 27, 3) := by decide +kernel
theorem dX12_grant_48 : decode cX12_grant 48 = .ok (.aload_n 0, 1) := by decide +kernel
theorem dX12_grant_49 : decode cX12_grant 49 = .ok (.aload_n 0, 1) := by decide +kernel
theorem dX12_grant_50 : decode cX12_grant 50 = .ok (.getfield 17, 3) := by decide +kernel
theorem dX12_grant_53 : decode cX12_grant 53 = .ok (.iconst 4, 1) := by decide +kernel
theorem dX12_grant_54 : decode cX12_grant 54 = .ok (.iaload, 1) := by decide +kernel
theorem dX12_grant_55 : decode cX12_grant 55 = .ok (.bipush 30, 2) := by decide +kernel
theorem dX12_grant_57 : decode cX12_grant 57 = .ok (.if_icmp .ne 7, 3) := by decide +kernel
theorem dX12_grant_60 : decode cX12_grant 60 = .ok (.iconst 1, 1) := by decide +kernel
theorem dX12_grant_61 : decode cX12_grant 61 = .ok (.goto 4, 3) := by decide +kernel
theorem dX12_grant_64 : decode cX12_grant 64 = .ok (.iconst 0, 1) := by decide +kernel
theorem dX12_grant_65 : decode cX12_grant 65 = .ok (.iconst 3, 1) := by decide +kernel
theorem dX12_grant_66 : decode cX12_grant 66 = .ok (.invokevirtual 178, 3) := by decide +kernel
theorem dX12_grant_69 : decode cX12_grant 69 = .ok (.ifCond .eq 5, 3) := by decide +kernel
theorem dX12_grant_72 : decode cX12_grant 72 = .ok (.iconst 0, 1) := by decide +kernel
theorem dX12_grant_73 : decode cX12_grant 73 = .ok (.ireturn, 1) := by decide +kernel
theorem dX12_grant_74 : decode cX12_grant 74 = .ok (.aload_n 0, 1) := by decide +kernel
theorem dX12_grant_75 : decode cX12_grant 75 = .ok (.invokevirtual 190, 3) := by decide +kernel
theorem dX12_grant_78 : decode cX12_grant 78 = .ok (.aload_n 0, 1) := by decide +kernel
theorem dX12_grant_79 : decode cX12_grant 79 = .ok (.getfield 17, 3) := by decide +kernel
theorem dX12_grant_82 : decode cX12_grant 82 = .ok (.iload_n 1, 1) := by decide +kernel
theorem dX12_grant_83 : decode cX12_grant 83 = .ok (.iload_n 2, 1) := by decide +kernel
theorem dX12_grant_84 : decode cX12_grant 84 = .ok (.aload_n 0, 1) := by decide +kernel
theorem dX12_grant_85 : decode cX12_grant 85 = .ok (.getfield 17, 3) := by decide +kernel
theorem dX12_grant_88 : decode cX12_grant 88 = .ok (.iconst 0, 1) := by decide +kernel
theorem dX12_grant_89 : decode cX12_grant 89 = .ok (.iaload, 1) := by decide +kernel
theorem dX12_grant_90 : decode cX12_grant 90 = .ok (.iload_n 3, 1) := by decide +kernel
theorem dX12_grant_91 : decode cX12_grant 91 = .ok (.iadd, 1) := by decide +kernel
theorem dX12_grant_92 : decode cX12_grant 92 = .ok (.invokestatic 148, 3) := by decide +kernel
theorem dX12_grant_95 : decode cX12_grant 95 = .ok (.aload_n 0, 1) := by decide +kernel
theorem dX12_grant_96 : decode cX12_grant 96 = .ok (.getfield 17, 3) := by decide +kernel
theorem dX12_grant_99 : decode cX12_grant 99 = .ok (.iconst 4, 1) := by decide +kernel
theorem dX12_grant_100 : decode cX12_grant 100 = .ok (.iaload, 1) := by decide +kernel
theorem dX12_grant_101 : decode cX12_grant 101 = .ok (.iconst 1, 1) := by decide +kernel
theorem dX12_grant_102 : decode cX12_grant 102 = .ok (.isub, 1) := by decide +kernel
theorem dX12_grant_103 : decode cX12_grant 103 = .ok (.ireturn, 1) := by decide +kernel
theorem dX12_send_0 : decode cX12_send 0 = .ok (.aload_n 0, 1) := by decide +kernel
theorem dX12_send_1 : decode cX12_send 1 = .ok (.iconst 0, 1) := by decide +kernel
theorem dX12_send_2 : decode cX12_send 2 = .ok (.putfield 42, 3) := by decide +kernel
theorem dX12_send_5 : decode cX12_send 5 = .ok (.aload_n 0, 1) := by decide +kernel
theorem dX12_send_6 : decode cX12_send 6 = .ok (.iload_n 1, 1) := by decide +kernel
theorem dX12_send_7 : decode cX12_send 7 = .ok (.invokevirtual 274, 3) := by decide +kernel
theorem dX12_send_10 : decode cX12_send 10 = .ok (.ifCond .ne 39, 3) := by decide +kernel
theorem dX12_send_13 : decode cX12_send 13 = .ok (.aload_n 0, 1) := by decide +kernel
theorem dX12_send_14 : decode cX12_send 14 = .ok (.iload_n 2, 1) := by decide +kernel
theorem dX12_send_15 : decode cX12_send 15 = .ok (.iconst 1, 1) := by decide +kernel
theorem dX12_send_16 : decode cX12_send 16 = .ok (.sipush 999, 3) := by decide +kernel
theorem dX12_send_19 : decode cX12_send 19 = .ok (.invokevirtual 268, 3) := by decide +kernel
theorem dX12_send_22 : decode cX12_send 22 = .ok (.ifCond .ne 27, 3) := by decide +kernel
theorem dX12_send_25 : decode cX12_send 25 = .ok (.aload_n 0, 1) := by decide +kernel
theorem dX12_send_26 : decode cX12_send 26 = .ok (.aload_n 0, 1) := by decide +kernel
theorem dX12_send_27 : decode cX12_send 27 = .ok (.getfield 17, 3) := by decide +kernel
theorem dX12_send_30 : decode cX12_send 30 = .ok (.iconst 3, 1) := by decide +kernel
theorem dX12_send_31 : decode cX12_send 31 = .ok (.iaload, 1) := by decide +kernel
theorem dX12_send_32 : decode cX12_send 32 = .ok (.bipush 40, 2) := by decide +kernel
theorem dX12_send_34 : decode cX12_send 34 = .ok (.if_icmp .ne 7, 3) := by decide +kernel
theorem dX12_send_37 : decode cX12_send 37 = .ok (.iconst 1, 1) := by decide +kernel
theorem dX12_send_38 : decode cX12_send 38 = .ok (.goto 4, 3) := by decide +kernel
theorem dX12_send_41 : decode cX12_send 41 = .ok (.iconst 0, 1) := by decide +kernel
theorem dX12_send_42 : decode cX12_send 42 = .ok (.iconst 3, 1) := by decide +kernel
theorem dX12_send_43 : decode cX12_send 43 = .ok (.invokevirtual 178, 3) := by decide +kernel
theorem dX12_send_46 : decode cX12_send 46 = .ok (.ifCond .eq 5, 3) := by decide +kernel
theorem dX12_send_49 : decode cX12_send 49 = .ok (.iconst 0, 1) := by decide +kernel
theorem dX12_send_50 : decode cX12_send 50 = .ok (.ireturn, 1) := by decide +kernel
theorem dX12_send_51 : decode cX12_send 51 = .ok (.aload_n 0, 1) := by decide +kernel
theorem dX12_send_52 : decode cX12_send 52 = .ok (.invokevirtual 190, 3) := by decide +kernel
theorem dX12_send_55 : decode cX12_send 55 = .ok (.aload_n 0, 1) := by decide +kernel
theorem dX12_send_56 : decode cX12_send 56 = .ok (.getfield 17, 3) := by decide +kernel
theorem dX12_send_59 : decode cX12_send 59 = .ok (.iload_n 1, 1) := by decide +kernel
theorem dX12_send_60 : decode cX12_send 60 = .ok (.aload_n 0, 1) := by decide +kernel
theorem dX12_send_61 : decode cX12_send 61 = .ok (.getfield 17, 3) := by decide +kernel
theorem dX12_send_64 : decode cX12_send 64 = .ok (.iconst 0, 1) := by decide +kernel
theorem dX12_send_65 : decode cX12_send 65 = .ok (.iaload, 1) := by decide +kernel
theorem dX12_send_66 : decode cX12_send 66 = .ok (.iload_n 2, 1) := by decide +kernel
theorem dX12_send_67 : decode cX12_send 67 = .ok (.invokestatic 144, 3) := by decide +kernel
theorem dX12_send_70 : decode cX12_send 70 = .ok (.aload_n 0, 1) := by decide +kernel
theorem dX12_send_71 : decode cX12_send 71 = .ok (.getfield 17, 3) := by decide +kernel
theorem dX12_send_74 : decode cX12_send 74 = .ok (.iconst 3, 1) := by decide +kernel
theorem dX12_send_75 : decode cX12_send 75 = .ok (.iaload, 1) := by decide +kernel
theorem dX12_send_76 : decode cX12_send 76 = .ok (.iconst 1, 1) := by decide +kernel
theorem dX12_send_77 : decode cX12_send 77 = .ok (.isub, 1) := by decide +kernel
theorem dX12_send_78 : decode cX12_send 78 = .ok (.ireturn, 1) := by decide +kernel
theorem dX12_setThrift_0 : decode cX12_setThrift 0 = .ok (.aload_n 0, 1) := by decide +kernel
theorem dX12_setThrift_1 : decode cX12_setThrift 1 = .ok (.iconst 0, 1) := by decide +kernel
theorem dX12_setThrift_2 : decode cX12_setThrift 2 = .ok (.putfield 42, 3) := by decide +kernel
theorem dX12_setThrift_5 : decode cX12_setThrift 5 = .ok (.aload_n 0, 1) := by decide +kernel
theorem dX12_setThrift_6 : decode cX12_setThrift 6 = .ok (.iload_n 1, 1) := by decide +kernel
theorem dX12_setThrift_7 : decode cX12_setThrift 7 = .ok (.invokevirtual 274, 3) := by decide +kernel
theorem dX12_setThrift_10 : decode cX12_setThrift 10 = .ok (.ifCond .ne 14, 3) := by decide +kernel
theorem dX12_setThrift_13 : decode cX12_setThrift 13 = .ok (.aload_n 0, 1) := by decide +kernel
theorem dX12_setThrift_14 : decode cX12_setThrift 14 = .ok (.iload_n 2, 1) := by decide +kernel
theorem dX12_setThrift_15 : decode cX12_setThrift 15 = .ok (.iconst 0, 1) := by decide +kernel
theorem dX12_setThrift_16 : decode cX12_setThrift 16 = .ok (.bipush 99, 2) := by decide +kernel
theorem dX12_setThrift_18 : decode cX12_setThrift 18 = .ok (.invokevirtual 268, 3) := by decide +kernel
theorem dX12_setThrift_21 : decode cX12_setThrift 21 = .ok (.ifCond .eq 5, 3) := by decide +kernel
theorem dX12_setThrift_24 : decode cX12_setThrift 24 = .ok (.iconst 0, 1) := by decide +kernel
theorem dX12_setThrift_25 : decode cX12_setThrift 25 = .ok (.ireturn, 1) := by decide +kernel
theorem dX12_setThrift_26 : decode cX12_setThrift 26 = .ok (.aload_n 0, 1) := by decide +kernel
theorem dX12_setThrift_27 : decode cX12_setThrift 27 = .ok (.invokevirtual 190, 3) := by decide +kernel
theorem dX12_setThrift_30 : decode cX12_setThrift 30 = .ok (.aload_n 0, 1) := by decide +kernel
theorem dX12_setThrift_31 : decode cX12_setThrift 31 = .ok (.iload_n 1, 1) := by decide +kernel
theorem dX12_setThrift_32 : decode cX12_setThrift 32 = .ok (.iconst 1, 1) := by decide +kernel
theorem dX12_setThrift_33 : decode cX12_setThrift 33 = .ok (.invokevirtual 200, 3) := by decide +kernel
theorem dX12_setThrift_36 : decode cX12_setThrift 36 = .ok (.istore_n 3, 1) := by decide +kernel
theorem dX12_setThrift_37 : decode cX12_setThrift 37 = .ok (.aload_n 0, 1) := by decide +kernel
theorem dX12_setThrift_38 : decode cX12_setThrift 38 = .ok (.getfield 17, 3) := by decide +kernel
theorem dX12_setThrift_41 : decode cX12_setThrift 41 = .ok (.bipush 33, 2) := by decide +kernel
theorem dX12_setThrift_43 : decode cX12_setThrift 43 = .ok (.bipush 8, 2) := by decide +kernel
theorem dX12_setThrift_45 : decode cX12_setThrift 45 = .ok (.iload_n 1, 1) := by decide +kernel
theorem dX12_setThrift_46 : decode cX12_setThrift 46 = .ok (.imul, 1) := by decide +kernel
theorem dX12_setThrift_47 : decode cX12_setThrift 47 = .ok (.iadd, 1) := by decide +kernel
theorem dX12_setThrift_48 : decode cX12_setThrift 48 = .ok (.iconst 1, 1) := by decide +kernel
theorem dX12_setThrift_49 : decode cX12_setThrift 49 = .ok (.iadd, 1) := by decide +kernel
theorem dX12_setThrift_50 : decode cX12_setThrift 50 = .ok (.iload_n 2, 1) := by decide +kernel
theorem dX12_setThrift_51 : decode cX12_setThrift 51 = .ok (.iastore, 1) := by decide +kernel
theorem dX12_setThrift_52 : decode cX12_setThrift 52 = .ok (.iload_n 3, 1) := by decide +kernel
theorem dX12_setThrift_53 : decode cX12_setThrift 53 = .ok (.ireturn, 1) := by decide +kernel
theorem dX12_undo_0 : decode cX12_undo 0 = .ok (.aload_n 0, 1) := by decide +kernel
theorem dX12_undo_1 : decode cX12_undo 1 = .ok (.iconst 0, 1) := by decide +kernel
theorem dX12_undo_2 : decode cX12_undo 2 = .ok (.putfield 42, 3) := by decide +kernel
theorem dX12_undo_5 : decode cX12_undo 5 = .ok (.aload_n 0, 1) := by decide +kernel
theorem dX12_undo_6 : decode cX12_undo 6 = .ok (.getfield 301, 3) := by decide +kernel
theorem dX12_undo_9 : decode cX12_undo 9 = .ok (.ifCond .ne 5, 3) := by decide +kernel
theorem dX12_undo_12 : decode cX12_undo 12 = .ok (.iconst (-1), 1) := by decide +kernel
theorem dX12_undo_13 : decode cX12_undo 13 = .ok (.ireturn, 1) := by decide +kernel
theorem dX12_undo_14 : decode cX12_undo 14 = .ok (.aload_n 0, 1) := by decide +kernel
theorem dX12_undo_15 : decode cX12_undo 15 = .ok (.dup, 1) := by decide +kernel
theorem dX12_undo_16 : decode cX12_undo 16 = .ok (.getfield 301, 3) := by decide +kernel
theorem dX12_undo_19 : decode cX12_undo 19 = .ok (.iconst 1, 1) := by decide +kernel
theorem dX12_undo_20 : decode cX12_undo 20 = .ok (.isub, 1) := by decide +kernel
theorem dX12_undo_21 : decode cX12_undo 21 = .ok (.putfield 301, 3) := by decide +kernel
theorem dX12_undo_24 : decode cX12_undo 24 = .ok (.aload_n 0, 1) := by decide +kernel
theorem dX12_undo_25 : decode cX12_undo 25 = .ok (.getfield 31, 3) := by decide +kernel
theorem dX12_undo_28 : decode cX12_undo 28 = .ok (.aload_n 0, 1) := by decide +kernel
theorem dX12_undo_29 : decode cX12_undo 29 = .ok (.getfield 301, 3) := by decide +kernel
theorem dX12_undo_32 : decode cX12_undo 32 = .ok (.aaload, 1) := by decide +kernel
theorem dX12_undo_33 : decode cX12_undo 33 = .ok (.aload_n 0, 1) := by decide +kernel
theorem dX12_undo_34 : decode cX12_undo 34 = .ok (.getfield 17, 3) := by decide +kernel
theorem dX12_undo_37 : decode cX12_undo 37 = .ok (.sipush 2105, 3) := by decide +kernel
theorem dX12_undo_40 : decode cX12_undo 40 = .ok (.invokestatic 193, 3) := by decide +kernel
theorem dX12_undo_43 : decode cX12_undo 43 = .ok (.aload_n 0, 1) := by decide +kernel
theorem dX12_undo_44 : decode cX12_undo 44 = .ok (.getfield 301, 3) := by decide +kernel
theorem dX12_undo_47 : decode cX12_undo 47 = .ok (.ireturn, 1) := by decide +kernel
theorem dX12_checksum_0 : decode cX12_checksum 0 = .ok (.aload_n 0, 1) := by decide +kernel
theorem dX12_checksum_1 : decode cX12_checksum 1 = .ok (.iconst 0, 1) := by decide +kernel
theorem dX12_checksum_2 : decode cX12_checksum 2 = .ok (.putfield 42, 3) := by decide +kernel
theorem dX12_checksum_5 : decode cX12_checksum 5 = .ok (.lconst 0, 1) := by decide +kernel
theorem dX12_checksum_6 : decode cX12_checksum 6 = .ok (.lstore_n 1, 1) := by decide +kernel
theorem dX12_checksum_7 : decode cX12_checksum 7 = .ok (.iconst 0, 1) := by decide +kernel
theorem dX12_checksum_8 : decode cX12_checksum 8 = .ok (.istore_n 3, 1) := by decide +kernel
theorem dX12_checksum_9 : decode cX12_checksum 9 = .ok (.iload_n 3, 1) := by decide +kernel
theorem dX12_checksum_10 : decode cX12_checksum 10 = .ok (.bipush 9, 2) := by decide +kernel
theorem dX12_checksum_12 : decode cX12_checksum 12 = .ok (.if_icmp .gt 23, 3) := by decide +kernel
theorem dX12_checksum_15 : decode cX12_checksum 15 = .ok (.ldc2_w 304, 3) := by decide +kernel
theorem dX12_checksum_18 : decode cX12_checksum 18 = .ok (.lload_n 1, 1) := by decide +kernel
theorem dX12_checksum_19 : decode cX12_checksum 19 = .ok (.lmul, 1) := by decide +kernel
theorem dX12_checksum_20 : decode cX12_checksum 20 = .ok (.aload_n 0, 1) := by decide +kernel
theorem dX12_checksum_21 : decode cX12_checksum 21 = .ok (.getfield 17, 3) := by decide +kernel
theorem dX12_checksum_24 : decode cX12_checksum 24 = .ok (.iload_n 3, 1) := by decide +kernel
theorem dX12_checksum_25 : decode cX12_checksum 25 = .ok (.iaload, 1) := by decide +kernel
theorem dX12_checksum_26 : decode cX12_checksum 26 = .ok (.i2l, 1) := by decide +kernel
theorem dX12_checksum_27 : decode cX12_checksum 27 = .ok (.ladd, 1) := by decide +kernel
theorem dX12_checksum_28 : decode cX12_checksum 28 = .ok (.lstore_n 1, 1) := by decide +kernel
theorem dX12_checksum_29 : decode cX12_checksum 29 = .ok (.iinc 3 1, 3) := by decide +kernel
theorem dX12_checksum_32 : decode cX12_checksum 32 = .ok (.goto (-23), 3) := by decide +kernel
theorem dX12_checksum_35 : decode cX12_checksum 35 = .ok (.iconst 0, 1) := by decide +kernel
theorem dX12_checksum_36 : decode cX12_checksum 36 = .ok (.istore_n 3, 1) := by decide +kernel
theorem dX12_checksum_37 : decode cX12_checksum 37 = .ok (.iload_n 3, 1) := by decide +kernel
theorem dX12_checksum_38 : decode cX12_checksum 38 = .ok (.aload_n 0, 1) := by decide +kernel
theorem dX12_checksum_39 : decode cX12_checksum 39 = .ok (.getfield 17, 3) := by decide +kernel
theorem dX12_checksum_42 : decode cX12_checksum 42 = .ok (.iconst 2, 1) := by decide +kernel
theorem dX12_checksum_43 : decode cX12_checksum 43 = .ok (.iaload, 1) := by decide +kernel
theorem dX12_checksum_44 : decode cX12_checksum 44 = .ok (.if_icmp .ge 40, 3) := by decide +kernel
theorem dX12_checksum_47 : decode cX12_checksum 47 = .ok (.iconst 0, 1) := by decide +kernel
theorem dX12_checksum_48 : decode cX12_checksum 48 = .ok (.istore 4, 2) := by decide +kernel
theorem dX12_checksum_50 : decode cX12_checksum 50 = .ok (.iload 4, 2) := by decide +kernel
theorem dX12_checksum_52 : decode cX12_checksum 52 = .ok (.bipush 6, 2) := by decide +kernel
theorem dX12_checksum_54 : decode cX12_checksum 54 = .ok (.if_icmp .ge 24, 3) := by decide +kernel
theorem dX12_checksum_57 : decode cX12_checksum 57 = .ok (.ldc2_w 304, 3) := by decide +kernel
theorem dX12_checksum_60 : decode cX12_checksum 60 = .ok (.lload_n 1, 1) := by decide +kernel
theorem dX12_checksum_61 : decode cX12_checksum 61 = .ok (.lmul, 1) := by decide +kernel
theorem dX12_checksum_62 : decode cX12_checksum 62 = .ok (.aload_n 0, 1) := by decide +kernel
theorem dX12_checksum_63 : decode cX12_checksum 63 = .ok (.iload_n 3, 1) := by decide +kernel
theorem dX12_checksum_64 : decode cX12_checksum 64 = .ok (.iload 4, 2) := by decide +kernel
theorem dX12_checksum_66 : decode cX12_checksum 66 = .ok (.invokevirtual 277, 3) := by decide +kernel
theorem dX12_checksum_69 : decode cX12_checksum 69 = .ok (.i2l, 1) := by decide +kernel
theorem dX12_checksum_70 : decode cX12_checksum 70 = .ok (.ladd, 1) := by decide +kernel
theorem dX12_checksum_71 : decode cX12_checksum 71 = .ok (.lstore_n 1, 1) := by decide +kernel
theorem dX12_checksum_72 : decode cX12_checksum 72 = .ok (.iinc 4 1, 3) := by decide +kernel
theorem dX12_checksum_75 : decode cX12_checksum 75 = .ok (.goto (-25), 3) := by decide +kernel
theorem dX12_checksum_78 : decode cX12_checksum 78 = .ok (.iinc 3 1, 3) := by decide +kernel
theorem dX12_checksum_81 : decode cX12_checksum 81 = .ok (.goto (-44), 3) := by decide +kernel
theorem dX12_checksum_84 : decode cX12_checksum 84 = .ok (.iconst 0, 1) := by decide +kernel
theorem dX12_checksum_85 : decode cX12_checksum 85 = .ok (.istore_n 3, 1) := by decide +kernel
theorem dX12_checksum_86 : decode cX12_checksum 86 = .ok (.iload_n 3, 1) := by decide +kernel
theorem dX12_checksum_87 : decode cX12_checksum 87 = .ok (.aload_n 0, 1) := by decide +kernel
theorem dX12_checksum_88 : decode cX12_checksum 88 = .ok (.getfield 17, 3) := by decide +kernel
theorem dX12_checksum_91 : decode cX12_checksum 91 = .ok (.iconst 3, 1) := by decide +kernel
theorem dX12_checksum_92 : decode cX12_checksum 92 = .ok (.iaload, 1) := by decide +kernel
theorem dX12_checksum_93 : decode cX12_checksum 93 = .ok (.if_icmp .ge 40, 3) := by decide +kernel
theorem dX12_checksum_96 : decode cX12_checksum 96 = .ok (.iconst 0, 1) := by decide +kernel
theorem dX12_checksum_97 : decode cX12_checksum 97 = .ok (.istore 4, 2) := by decide +kernel
theorem dX12_checksum_99 : decode cX12_checksum 99 = .ok (.iload 4, 2) := by decide +kernel
theorem dX12_checksum_101 : decode cX12_checksum 101 = .ok (.bipush 7, 2) := by decide +kernel
theorem dX12_checksum_103 : decode cX12_checksum 103 = .ok (.if_icmp .ge 24, 3) := by decide +kernel
theorem dX12_checksum_106 : decode cX12_checksum 106 = .ok (.ldc2_w 304, 3) := by decide +kernel
theorem dX12_checksum_109 : decode cX12_checksum 109 = .ok (.lload_n 1, 1) := by decide +kernel
theorem dX12_checksum_110 : decode cX12_checksum 110 = .ok (.lmul, 1) := by decide +kernel
theorem dX12_checksum_111 : decode cX12_checksum 111 = .ok (.aload_n 0, 1) := by decide +kernel
theorem dX12_checksum_112 : decode cX12_checksum 112 = .ok (.iload_n 3, 1) := by decide +kernel
theorem dX12_checksum_113 : decode cX12_checksum 113 = .ok (.iload 4, 2) := by decide +kernel
theorem dX12_checksum_115 : decode cX12_checksum 115 = .ok (.invokevirtual 283, 3) := by decide +kernel
theorem dX12_checksum_118 : decode cX12_checksum 118 = .ok (.i2l, 1) := by decide +kernel
theorem dX12_checksum_119 : decode cX12_checksum 119 = .ok (.ladd, 1) := by decide +kernel
theorem dX12_checksum_120 : decode cX12_checksum 120 = .ok (.lstore_n 1, 1) := by decide +kernel
theorem dX12_checksum_121 : decode cX12_checksum 121 = .ok (.iinc 4 1, 3) := by decide +kernel
theorem dX12_checksum_124 : decode cX12_checksum 124 = .ok (.goto (-25), 3) := by decide +kernel
theorem dX12_checksum_127 : decode cX12_checksum 127 = .ok (.iinc 3 1, 3) := by decide +kernel
theorem dX12_checksum_130 : decode cX12_checksum 130 = .ok (.goto (-44), 3) := by decide +kernel
theorem dX12_checksum_133 : decode cX12_checksum 133 = .ok (.iconst 0, 1) := by decide +kernel
theorem dX12_checksum_134 : decode cX12_checksum 134 = .ok (.istore_n 3, 1) := by decide +kernel
theorem dX12_checksum_135 : decode cX12_checksum 135 = .ok (.iload_n 3, 1) := by decide +kernel
theorem dX12_checksum_136 : decode cX12_checksum 136 = .ok (.iconst 4, 1) := by decide +kernel
theorem dX12_checksum_137 : decode cX12_checksum 137 = .ok (.aload_n 0, 1) := by decide +kernel
theorem dX12_checksum_138 : decode cX12_checksum 138 = .ok (.getfield 17, 3) := by decide +kernel
theorem dX12_checksum_141 : decode cX12_checksum 141 = .ok (.iconst 4, 1) := by decide +kernel
theorem dX12_checksum_142 : decode cX12_checksum 142 = .ok (.iaload, 1) := by decide +kernel
theorem dX12_checksum_143 : decode cX12_checksum 143 = .ok (.imul, 1) := by decide +kernel
theorem dX12_checksum_144 : decode cX12_checksum 144 = .ok (.if_icmp .ge 27, 3) := by decide +kernel
theorem dX12_checksum_147 : decode cX12_checksum 147 = .ok (.ldc2_w 304, 3) := by decide +kernel
theorem dX12_checksum_150 : decode cX12_checksum 150 = .ok (.lload_n 1, 1) := by decide +kernel
theorem dX12_checksum_151 : decode cX12_checksum 151 = .ok (.lmul, 1) := by decide +kernel
theorem dX12_checksum_152 : decode cX12_checksum 152 = .ok (.aload_n 0, 1) := by decide +kernel
theorem dX12_checksum_153 : decode cX12_checksum 153 = .ok (.getfield 17, 3) := by decide +kernel
theorem dX12_checksum_156 : decode cX12_checksum 156 = .ok (.sipush 441, 3) := by decide +kernel
theorem dX12_checksum_159 : decode cX12_checksum 159 = .ok (.iload_n 3, 1) := by decide +kernel
theorem dX12_checksum_160 : decode cX12_checksum 160 = .ok (.iadd, 1) := by decide +kernel
theorem dX12_checksum_161 : decode cX12_checksum 161 = .ok (.iaload, 1) := by decide +kernel
theorem dX12_checksum_162 : decode cX12_checksum 162 = .ok (.i2l, 1) := by decide +kernel
theorem dX12_checksum_163 : decode cX12_checksum 163 = .ok (.ladd, 1) := by decide +kernel
theorem dX12_checksum_164 : decode cX12_checksum 164 = .ok (.lstore_n 1, 1) := by decide +kernel
theorem dX12_checksum_165 : decode cX12_checksum 165 = .ok (.iinc 3 1, 3) := by decide +kernel
theorem dX12_checksum_168 : decode cX12_checksum 168 = .ok (.goto (-33), 3) := by decide +kernel
theorem dX12_checksum_171 : decode cX12_checksum 171 = .ok (.iconst 0, 1) := by decide +kernel
theorem dX12_checksum_172 : decode cX12_checksum 172 = .ok (.istore_n 3, 1) := by decide +kernel
theorem dX12_checksum_173 : decode cX12_checksum 173 = .ok (.iload_n 3, 1) := by decide +kernel
theorem dX12_checksum_174 : decode cX12_checksum 174 = .ok (.aload_n 0, 1) := by decide +kernel
theorem dX12_checksum_175 : decode cX12_checksum 175 = .ok (.getfield 17, 3) := by decide +kernel
theorem dX12_checksum_178 : decode cX12_checksum 178 = .ok (.iconst 1, 1) := by decide +kernel
theorem dX12_checksum_179 : decode cX12_checksum 179 = .ok (.iaload, 1) := by decide +kernel
theorem dX12_checksum_180 : decode cX12_checksum 180 = .ok (.if_icmp .ge 69, 3) := by decide +kernel
theorem dX12_checksum_183 : decode cX12_checksum 183 = .ok (.iconst 0, 1) := by decide +kernel
theorem dX12_checksum_184 : decode cX12_checksum 184 = .ok (.istore 4, 2) := by decide +kernel
theorem dX12_checksum_186 : decode cX12_checksum 186 = .ok (.iload 4, 2) := by decide +kernel
theorem dX12_checksum_188 : decode cX12_checksum 188 = .ok (.aload_n 0, 1) := by decide +kernel
theorem dX12_checksum_189 : decode cX12_checksum 189 = .ok (.getfield 17, 3) := by decide +kernel
theorem dX12_checksum_192 : decode cX12_checksum 192 = .ok (.iconst 2, 1) := by decide +kernel
theorem dX12_checksum_193 : decode cX12_checksum 193 = .ok (.iaload, 1) := by decide +kernel
theorem dX12_checksum_194 : decode cX12_checksum 194 = .ok (.if_icmp .ge 49, 3) := by decide +kernel
theorem dX12_checksum_197 : decode cX12_checksum 197 = .ok (.ldc2_w 304, 3) := by decide +kernel
theorem dX12_checksum_200 : decode cX12_checksum 200 = .ok (.ldc2_w 304, 3) := by decide +kernel
theorem dX12_checksum_203 : decode cX12_checksum 203 = .ok (.lload_n 1, 1) := by decide +kernel
theorem dX12_checksum_204 : decode cX12_checksum 204 = .ok (.lmul, 1) := by decide +kernel
theorem dX12_checksum_205 : decode cX12_checksum 205 = .ok (.aload_n 0, 1) := by decide +kernel
theorem dX12_checksum_206 : decode cX12_checksum 206 = .ok (.getfield 17, 3) := by decide +kernel
theorem dX12_checksum_209 : decode cX12_checksum 209 = .ok (.iload_n 3, 1) := by decide +kernel
theorem dX12_checksum_210 : decode cX12_checksum 210 = .ok (.iload 4, 2) := by decide +kernel
theorem dX12_checksum_212 : decode cX12_checksum 212 = .ok (.invokestatic 187, 3) := by decide +kernel
theorem dX12_checksum_215 : decode cX12_checksum 215 = .ok (.iconst 0, 1) := by decide +kernel
theorem dX12_checksum_216 : decode cX12_checksum 216 = .ok (.iadd, 1) := by decide +kernel
theorem dX12_checksum_217 : decode cX12_checksum 217 = .ok (.iaload, 1) := by decide +kernel
theorem dX12_checksum_218 : decode cX12_checksum 218 = .ok (.i2l, 1) := by decide +kernel
theorem dX12_checksum_219 : decode cX12_checksum 219 = .ok (.ladd, 1) := by decide +kernel
theorem dX12_checksum_220 : decode cX12_checksum 220 = .ok (.lmul, 1) := by decide +kernel
theorem dX12_checksum_221 : decode cX12_checksum 221 = .ok (.aload_n 0, 1) := by decide +kernel
theorem dX12_checksum_222 : decode cX12_checksum 222 = .ok (.getfield 17, 3) := by decide +kernel
theorem dX12_checksum_225 : decode cX12_checksum 225 = .ok (.iload_n 3, 1) := by decide +kernel
theorem dX12_checksum_226 : decode cX12_checksum 226 = .ok (.iload 4, 2) := by decide +kernel
theorem dX12_checksum_228 : decode cX12_checksum 228 = .ok (.invokestatic 187, 3) := by decide +kernel
theorem dX12_checksum_231 : decode cX12_checksum 231 = .ok (.iconst 1, 1) := by decide +kernel
theorem dX12_checksum_232 : decode cX12_checksum 232 = .ok (.iadd, 1) := by decide +kernel
theorem dX12_checksum_233 : decode cX12_checksum 233 = .ok (.iaload, 1) := by decide +kernel
theorem dX12_checksum_234 : decode cX12_checksum 234 = .ok (.i2l, 1) := by decide +kernel
theorem dX12_checksum_235 : decode cX12_checksum 235 = .ok (.ladd, 1) := by decide +kernel
theorem dX12_checksum_236 : decode cX12_checksum 236 = .ok (.lstore_n 1, 1) := by decide +kernel
theorem dX12_checksum_237 : decode cX12_checksum 237 = .ok (.iinc 4 1, 3) := by decide +kernel
theorem dX12_checksum_240 : decode cX12_checksum 240 = .ok (.goto (-54), 3) := by decide +kernel
theorem dX12_checksum_243 : decode cX12_checksum 243 = .ok (.iinc 3 1, 3) := by decide +kernel
theorem dX12_checksum_246 : decode cX12_checksum 246 = .ok (.goto (-73), 3) := by decide +kernel
theorem dX12_checksum_249 : decode cX12_checksum 249 = .ok (.lload_n 1, 1) := by decide +kernel
theorem dX12_checksum_250 : decode cX12_checksum 250 = .ok (.lreturn, 1) := by decide +kernel
theorem dJ9_max_7cf53_0 : decode cJ9_max_7cf53 0 = .ok (.iload_n 0, 1) := by decide +kernel
theorem dJ9_max_7cf53_1 : decode cJ9_max_7cf53 1 = .ok (.iload_n 1, 1) := by decide +kernel
theorem dJ9_max_7cf53_2 : decode cJ9_max_7cf53 2 = .ok (.if_icmp .lt 7, 3) := by decide +kernel
theorem dJ9_max_7cf53_5 : decode cJ9_max_7cf53 5 = .ok (.iload_n 0, 1) := by decide +kernel
theorem dJ9_max_7cf53_6 : decode cJ9_max_7cf53 6 = .ok (.goto 4, 3) := by decide +kernel
theorem dJ9_max_7cf53_9 : decode cJ9_max_7cf53 9 = .ok (.iload_n 1, 1) := by decide +kernel
theorem dJ9_max_7cf53_10 : decode cJ9_max_7cf53 10 = .ok (.ireturn, 1) := by decide +kernel
theorem dJ9_max_f86c9_0 : decode cJ9_max_f86c9 0 = .ok (.lload_n 0, 1) := by decide +kernel
theorem dJ9_max_f86c9_1 : decode cJ9_max_f86c9 1 = .ok (.lload_n 2, 1) := by decide +kernel
theorem dJ9_max_f86c9_2 : decode cJ9_max_f86c9 2 = .ok (.lcmp, 1) := by decide +kernel
theorem dJ9_max_f86c9_3 : decode cJ9_max_f86c9 3 = .ok (.ifCond .lt 7, 3) := by decide +kernel
theorem dJ9_max_f86c9_6 : decode cJ9_max_f86c9 6 = .ok (.lload_n 0, 1) := by decide +kernel
theorem dJ9_max_f86c9_7 : decode cJ9_max_f86c9 7 = .ok (.goto 4, 3) := by decide +kernel
theorem dJ9_max_f86c9_10 : decode cJ9_max_f86c9 10 = .ok (.lload_n 2, 1) := by decide +kernel
theorem dJ9_max_f86c9_11 : decode cJ9_max_f86c9 11 = .ok (.lreturn, 1) := by decide +kernel
theorem dJ9_min_7cf53_0 : decode cJ9_min_7cf53 0 = .ok (.iload_n 0, 1) := by decide +kernel
theorem dJ9_min_7cf53_1 : decode cJ9_min_7cf53 1 = .ok (.iload_n 1, 1) := by decide +kernel
theorem dJ9_min_7cf53_2 : decode cJ9_min_7cf53 2 = .ok (.if_icmp .gt 7, 3) := by decide +kernel
theorem dJ9_min_7cf53_5 : decode cJ9_min_7cf53 5 = .ok (.iload_n 0, 1) := by decide +kernel
theorem dJ9_min_7cf53_6 : decode cJ9_min_7cf53 6 = .ok (.goto 4, 3) := by decide +kernel
theorem dJ9_min_7cf53_9 : decode cJ9_min_7cf53 9 = .ok (.iload_n 1, 1) := by decide +kernel
theorem dJ9_min_7cf53_10 : decode cJ9_min_7cf53 10 = .ok (.ireturn, 1) := by decide +kernel
theorem dJ9_min_f86c9_0 : decode cJ9_min_f86c9 0 = .ok (.lload_n 0, 1) := by decide +kernel
theorem dJ9_min_f86c9_1 : decode cJ9_min_f86c9 1 = .ok (.lload_n 2, 1) := by decide +kernel
theorem dJ9_min_f86c9_2 : decode cJ9_min_f86c9 2 = .ok (.lcmp, 1) := by decide +kernel
theorem dJ9_min_f86c9_3 : decode cJ9_min_f86c9 3 = .ok (.ifCond .gt 7, 3) := by decide +kernel
theorem dJ9_min_f86c9_6 : decode cJ9_min_f86c9 6 = .ok (.lload_n 0, 1) := by decide +kernel
theorem dJ9_min_f86c9_7 : decode cJ9_min_f86c9 7 = .ok (.goto 4, 3) := by decide +kernel
theorem dJ9_min_f86c9_10 : decode cJ9_min_f86c9 10 = .ok (.lload_n 2, 1) := by decide +kernel
theorem dJ9_min_f86c9_11 : decode cJ9_min_f86c9 11 = .ok (.lreturn, 1) := by decide +kernel
theorem dJ0_length_8abf5_0 : decode cJ0_length_8abf5 0 = .ok (.aload_n 0, 1) := by decide +kernel
theorem dJ0_length_8abf5_1 : decode cJ0_length_8abf5 1 = .ok (.getfield 9, 3) := by decide +kernel
theorem dJ0_length_8abf5_4 : decode cJ0_length_8abf5 4 = .ok (.arraylength, 1) := by decide +kernel
theorem dJ0_length_8abf5_5 : decode cJ0_length_8abf5 5 = .ok (.aload_n 0, 1) := by decide +kernel
theorem dJ0_length_8abf5_6 : decode cJ0_length_8abf5 6 = .ok (.invokevirtual 335, 3) := by decide +kernel
theorem dJ0_length_8abf5_9 : decode cJ0_length_8abf5 9 = .ok (.ishr, 1) := by decide +kernel
theorem dJ0_length_8abf5_10 : decode cJ0_length_8abf5 10 = .ok (.ireturn, 1) := by decide +kernel
theorem dJ0_charAt_5068e_0 : decode cJ0_charAt_5068e 0 = .ok (.aload_n 0, 1) := by decide +kernel
theorem dJ0_charAt_5068e_1 : decode cJ0_charAt_5068e 1 = .ok (.invokevirtual 492, 3) := by decide +kernel
theorem dJ0_charAt_5068e_4 : decode cJ0_charAt_5068e 4 = .ok (.ifCond .eq 12, 3) := by decide +kernel
theorem dJ0_charAt_5068e_7 : decode cJ0_charAt_5068e 7 = .ok (.aload_n 0, 1) := by decide +kernel
theorem dJ0_charAt_5068e_8 : decode cJ0_charAt_5068e 8 = .ok (.getfield 9, 3) := by decide +kernel
theorem dJ0_charAt_5068e_11 : decode cJ0_charAt_5068e 11 = .ok (.iload_n 1, 1) := by decide +kernel
theorem dJ0_charAt_5068e_12 : decode cJ0_charAt_5068e 12 = .ok (.invokestatic 495, 3) := by decide +kernel
theorem dJ0_charAt_5068e_15 : decode cJ0_charAt_5068e 15 = .ok (.ireturn, 1) := by decide +kernel
theorem dJ0_charAt_5068e_16 : decode cJ0_charAt_5068e 16 = .ok (.aload_n 0, 1) := by decide +kernel
theorem dJ0_charAt_5068e_17 : decode cJ0_charAt_5068e 17 = .ok (.getfield 9, 3) := by decide +kernel
theorem dJ0_charAt_5068e_20 : decode cJ0_charAt_5068e 20 = .ok (.iload_n 1, 1) := by decide +kernel
theorem dJ0_charAt_5068e_21 : decode cJ0_charAt_5068e 21 = .ok (.invokestatic 498, 3) := by decide +kernel
theorem dJ0_charAt_5068e_24 : decode cJ0_charAt_5068e 24 = .ok (.ireturn, 1) := by decide +kernel
theorem dJ0_coder_7d493_0 : decode cJ0_coder_7d493 0 = .ok (.getstatic 38, 3) := by decide +kernel
theorem dJ0_coder_7d493_3 : decode cJ0_coder_7d493 3 = .ok (.ifCond .eq 10, 3) := by decide +kernel
theorem dJ0_coder_7d493_6 : decode cJ0_coder_7d493 6 = .ok (.aload_n 0, 1) := by decide +kernel
theorem dJ0_coder_7d493_7 : decode cJ0_coder_7d493 7 = .ok (.getfield 15, 3) := by decide +kernel
theorem dJ0_coder_7d493_10 : decode cJ0_coder_7d493 10 = .ok (.goto 4, 3) := by decide +kernel
theorem dJ0_coder_7d493_13 : decode cJ0_coder_7d493 13 = .ok (.iconst 1, 1) := by decide +kernel
theorem dJ0_coder_7d493_14 : decode cJ0_coder_7d493 14 = .ok (.ireturn, 1) := by decide +kernel
theorem dJ0_isLatin1_aae02_0 : decode cJ0_isLatin1_aae02 0 = .ok (.getstatic 38, 3) := by decide +kernel
theorem dJ0_isLatin1_aae02_3 : decode cJ0_isLatin1_aae02 3 = .ok (.ifCond .eq 14, 3) := by decide +kernel
theorem dJ0_isLatin1_aae02_6 : decode cJ0_isLatin1_aae02 6 = .ok (.aload_n 0, 1) := by decide +kernel
theorem dJ0_isLatin1_aae02_7 : decode cJ0_isLatin1_aae02 7 = .ok (.getfield 15, 3) := by decide +kernel
theorem dJ0_isLatin1_aae02_10 : decode cJ0_isLatin1_aae02 10 = .ok (.ifCond .ne 7, 3) := by decide +kernel
theorem dJ0_isLatin1_aae02_13 : decode cJ0_isLatin1_aae02 13 = .ok (.iconst 1, 1) := by decide +kernel
theorem dJ0_isLatin1_aae02_14 : decode cJ0_isLatin1_aae02 14 = .ok (.goto 4, 3) := by decide +kernel
theorem dJ0_isLatin1_aae02_17 : decode cJ0_isLatin1_aae02 17 = .ok (.iconst 0, 1) := by decide +kernel
theorem dJ0_isLatin1_aae02_18 : decode cJ0_isLatin1_aae02 18 = .ok (.ireturn, 1) := by decide +kernel
theorem dJ0_checkIndex_df160_0 : decode cJ0_checkIndex_df160 0 = .ok (.iload_n 0, 1) := by decide +kernel
theorem dJ0_checkIndex_df160_1 : decode cJ0_checkIndex_df160 1 = .ok (.iload_n 1, 1) := by decide +kernel
theorem dJ0_checkIndex_df160_2 : decode cJ0_checkIndex_df160 2 = .ok (.getstatic 1053, 3) := by decide +kernel
theorem dJ0_checkIndex_df160_5 : decode cJ0_checkIndex_df160 5 = .ok (.invokestatic 1059, 3) := by decide +kernel
theorem dJ0_checkIndex_df160_8 : decode cJ0_checkIndex_df160 8 = .ok (.pop, 1) := by decide +kernel
theorem dJ0_checkIndex_df160_9 : decode cJ0_checkIndex_df160 9 = .ok (.return_, 1) := by decide +kernel
theorem dJ1_charAt_3b067_0 : decode cJ1_charAt_3b067 0 = .ok (.iload_n 1, 1) := by decide +kernel
theorem dJ1_charAt_3b067_1 : decode cJ1_charAt_3b067 1 = .ok (.aload_n 0, 1) := by decide +kernel
theorem dJ1_charAt_3b067_2 : decode cJ1_charAt_3b067 2 = .ok (.arraylength, 1) := by decide +kernel
theorem dJ1_charAt_3b067_3 : decode cJ1_charAt_3b067 3 = .ok (.invokestatic 9, 3) := by decide +kernel
theorem dJ1_charAt_3b067_6 : decode cJ1_charAt_3b067 6 = .ok (.aload_n 0, 1) := by decide +kernel
theorem dJ1_charAt_3b067_7 : decode cJ1_charAt_3b067 7 = .ok (.iload_n 1, 1) := by decide +kernel
theorem dJ1_charAt_3b067_8 : decode cJ1_charAt_3b067 8 = .ok (.baload, 1) := by decide +kernel
theorem dJ1_charAt_3b067_9 : decode cJ1_charAt_3b067 9 = .ok (.sipush 255, 3) := by decide +kernel
theorem dJ1_charAt_3b067_12 : decode cJ1_charAt_3b067 12 = .ok (.iand, 1) := by decide +kernel
theorem dJ1_charAt_3b067_13 : decode cJ1_charAt_3b067 13 = .ok (.i2c, 1) := by decide +kernel
theorem dJ1_charAt_3b067_14 : decode cJ1_charAt_3b067 14 = .ok (.ireturn, 1) := by decide +kernel
theorem dJ2_getChar_3b067_0 : decode cJ2_getChar_3b067 0 = .ok (.getstatic 44, 3) := by decide +kernel
theorem dJ2_getChar_3b067_3 : decode cJ2_getChar_3b067 3 = .ok (.ifCond .ne 25, 3) := by decide +kernel
theorem dJ2_getChar_3b067_6 : decode cJ2_getChar_3b067 6 = .ok (.iload_n 1, 1) := by decide +kernel
theorem dJ2_getChar_3b067_7 : decode cJ2_getChar_3b067 7 = .ok (.ifCond .lt 11, 3) := by decide +kernel
theorem dJ2_getChar_3b067_10 : decode cJ2_getChar_3b067 10 = .ok (.iload_n 1, 1) := by decide +kernel
theorem dJ2_getChar_3b067_11 : decode cJ2_getChar_3b067 11 = .ok (.aload_n 0, 1) := by decide +kernel
theorem dJ2_getChar_3b067_12 : decode cJ2_getChar_3b067 12 = .ok (.invokestatic 48, 3) := by decide +kernel
theorem dJ2_getChar_3b067_15 : decode cJ2_getChar_3b067 15 = .ok (.if_icmp .lt 13, 3) := by decide +kernel
theorem dJ2_getChar_3b067_18 : decode cJ2_getChar_3b067 18 = .ok (.new 52, 3) := by decide +kernel
theorem dJ2_getChar_3b067_21 : decode cJ2_getChar_3b067 21 = .ok (.dup, 1) := by decide +kernel
theorem dJ2_getChar_3b067_22 : decode cJ2_getChar_3b067 22 = .ok (.ldc 54, 2) := by decide +kernel
theorem dJ2_getChar_3b067_24 : decode cJ2_getChar_3b067 24 = .ok (.invokespecial 56, 3) := by decide +kernel
theorem dJ2_getChar_3b067_27 : decode cJ2_getChar_3b067 27 = .ok (.athrow, 1) := by decide +kernel
theorem dJ2_getChar_3b067_28 : decode cJ2_getChar_3b067 28 = .ok (.iload_n 1, 1) := by decide +kernel
theorem dJ2_getChar_3b067_29 : decode cJ2_getChar_3b067 29 = .ok (.iconst 1, 1) := by decide +kernel
theorem dJ2_getChar_3b067_30 : decode cJ2_getChar_3b067 30 = .ok (.ishl, 1) := by decide +kernel
theorem dJ2_getChar_3b067_31 : decode cJ2_getChar_3b067 31 = .ok (.istore_n 1, 1) := by decide +kernel
theorem dJ2_getChar_3b067_32 : decode cJ2_getChar_3b067 32 = .ok (.aload_n 0, 1) := by decide +kernel
theorem dJ2_getChar_3b067_33 : decode cJ2_getChar_3b067 33 = .ok (.iload_n 1, 1) := by decide +kernel
theorem dJ2_getChar_3b067_34 : decode cJ2_getChar_3b067 34 = .ok (.iinc 1 1, 3) := by decide +kernel
theorem dJ2_getChar_3b067_37 : decode cJ2_getChar_3b067 37 = .ok (.baload, 1) := by decide +kernel
theorem dJ2_getChar_3b067_38 : decode cJ2_getChar_3b067 38 = .ok (.sipush 255, 3) := by decide +kernel
theorem dJ2_getChar_3b067_41 : decode cJ2_getChar_3b067 41 = .ok (.iand, 1) := by decide +kernel
theorem dJ2_getChar_3b067_42 : decode cJ2_getChar_3b067 42 = .ok (.getstatic 59, 3) := by decide +kernel
theorem dJ2_getChar_3b067_45 : decode cJ2_getChar_3b067 45 = .ok (.ishl, 1) := by decide +kernel
theorem dJ2_getChar_3b067_46 : decode cJ2_getChar_3b067 46 = .ok (.aload_n 0, 1) := by decide +kernel
theorem dJ2_getChar_3b067_47 : decode cJ2_getChar_3b067 47 = .ok (.iload_n 1, 1) := by decide +kernel
theorem dJ2_getChar_3b067_48 : decode cJ2_getChar_3b067 48 = .ok (.baload, 1) := by decide +kernel
theorem dJ2_getChar_3b067_49 : decode cJ2_getChar_3b067 49 = .ok (.sipush 255, 3) := by decide +kernel
theorem dJ2_getChar_3b067_52 : decode cJ2_getChar_3b067 52 = .ok (.iand, 1) := by decide +kernel
theorem dJ2_getChar_3b067_53 : decode cJ2_getChar_3b067 53 = .ok (.getstatic 63, 3) := by decide +kernel
theorem dJ2_getChar_3b067_56 : decode cJ2_getChar_3b067 56 = .ok (.ishl, 1) := by decide +kernel
theorem dJ2_getChar_3b067_57 : decode cJ2_getChar_3b067 57 = .ok (.ior, 1) := by decide +kernel
theorem dJ2_getChar_3b067_58 : decode cJ2_getChar_3b067 58 = .ok (.i2c, 1) := by decide +kernel
theorem dJ2_getChar_3b067_59 : decode cJ2_getChar_3b067 59 = .ok (.ireturn, 1) := by decide +kernel
theorem dJ2_length_9d52b_0 : decode cJ2_length_9d52b 0 = .ok (.aload_n 0, 1) := by decide +kernel
theorem dJ2_length_9d52b_1 : decode cJ2_length_9d52b 1 = .ok (.arraylength, 1) := by decide +kernel
theorem dJ2_length_9d52b_2 : decode cJ2_length_9d52b 2 = .ok (.iconst 1, 1) := by decide +kernel
theorem dJ2_length_9d52b_3 : decode cJ2_length_9d52b 3 = .ok (.ishr, 1) := by decide +kernel
theorem dJ2_length_9d52b_4 : decode cJ2_length_9d52b 4 = .ok (.ireturn, 1) := by decide +kernel
theorem dJ2_charAt_3b067_0 : decode cJ2_charAt_3b067 0 = .ok (.iload_n 1, 1) := by decide +kernel
theorem dJ2_charAt_3b067_1 : decode cJ2_charAt_3b067 1 = .ok (.aload_n 0, 1) := by decide +kernel
theorem dJ2_charAt_3b067_2 : decode cJ2_charAt_3b067 2 = .ok (.invokestatic 67, 3) := by decide +kernel
theorem dJ2_charAt_3b067_5 : decode cJ2_charAt_3b067 5 = .ok (.aload_n 0, 1) := by decide +kernel
theorem dJ2_charAt_3b067_6 : decode cJ2_charAt_3b067 6 = .ok (.iload_n 1, 1) := by decide +kernel
theorem dJ2_charAt_3b067_7 : decode cJ2_charAt_3b067 7 = .ok (.invokestatic 71, 3) := by decide +kernel
theorem dJ2_charAt_3b067_10 : decode cJ2_charAt_3b067 10 = .ok (.ireturn, 1) := by decide +kernel
theorem dJ2_checkIndex_2214a_0 : decode cJ2_checkIndex_2214a 0 = .ok (.iload_n 0, 1) := by decide +kernel
theorem dJ2_checkIndex_2214a_1 : decode cJ2_checkIndex_2214a 1 = .ok (.aload_n 1, 1) := by decide +kernel
theorem dJ2_checkIndex_2214a_2 : decode cJ2_checkIndex_2214a 2 = .ok (.invokestatic 48, 3) := by decide +kernel
theorem dJ2_checkIndex_2214a_5 : decode cJ2_checkIndex_2214a 5 = .ok (.invokestatic 414, 3) := by decide +kernel
theorem dJ2_checkIndex_2214a_8 : decode cJ2_checkIndex_2214a 8 = .ok (.return_, 1) := by decide +kernel
theorem dJ7_copyOf_59c91_0 : decode cJ7_copyOf_59c91 0 = .ok (.iload_n 1, 1) := by decide +kernel
theorem dJ7_copyOf_59c91_1 : decode cJ7_copyOf_59c91 1 = .ok (.aload_n 0, 1) := by decide +kernel
theorem dJ7_copyOf_59c91_2 : decode cJ7_copyOf_59c91 2 = .ok (.arraylength, 1) := by decide +kernel
theorem dJ7_copyOf_59c91_3 : decode cJ7_copyOf_59c91 3 = .ok (.if_icmp .ne 11, 3) := by decide +kernel
theorem dJ7_copyOf_59c91_6 : decode cJ7_copyOf_59c91 6 = .ok (.aload_n 0, 1) := by decide +kernel
theorem dJ7_copyOf_59c91_7 : decode cJ7_copyOf_59c91 7 = .ok (.invokevirtual 316, 3) := by decide +kernel
theorem dJ7_copyOf_59c91_10 : decode cJ7_copyOf_59c91 10 = .ok (.checkcast 317, 3) := by decide +kernel
theorem dJ7_copyOf_59c91_13 : decode cJ7_copyOf_59c91 13 = .ok (.areturn, 1) := by decide +kernel
theorem dJ7_copyOf_59c91_14 : decode cJ7_copyOf_59c91 14 = .ok (.iload_n 1, 1) := by decide +kernel
theorem dJ7_copyOf_59c91_15 : decode cJ7_copyOf_59c91 15 = .ok (.newarray .int, 2) := by decide +kernel
theorem dJ7_copyOf_59c91_17 : decode cJ7_copyOf_59c91 17 = .ok (.astore_n 2, 1) := by decide +kernel
theorem dJ7_copyOf_59c91_18 : decode cJ7_copyOf_59c91 18 = .ok (.aload_n 0, 1) := by decide +kernel
theorem dJ7_copyOf_59c91_19 : decode cJ7_copyOf_59c91 19 = .ok (.iconst 0, 1) := by decide +kernel
theorem dJ7_copyOf_59c91_20 : decode cJ7_copyOf_59c91 20 = .ok (.aload_n 2, 1) := by decide +kernel
theorem dJ7_copyOf_59c91_21 : decode cJ7_copyOf_59c91 21 = .ok (.iconst 0, 1) := by decide +kernel
theorem dJ7_copyOf_59c91_22 : decode cJ7_copyOf_59c91 22 = .ok (.aload_n 0, 1) := by decide +kernel
theorem dJ7_copyOf_59c91_23 : decode cJ7_copyOf_59c91 23 = .ok (.arraylength, 1) := by decide +kernel
theorem dJ7_copyOf_59c91_24 : decode cJ7_copyOf_59c91 24 = .ok (.iload_n 1, 1) := by decide +kernel
theorem dJ7_copyOf_59c91_25 : decode cJ7_copyOf_59c91 25 = .ok (.invokestatic 304, 3) := by decide +kernel
theorem dJ7_copyOf_59c91_28 : decode cJ7_copyOf_59c91 28 = .ok (.invokestatic 150, 3) := by decide +kernel
theorem dJ7_copyOf_59c91_31 : decode cJ7_copyOf_59c91 31 = .ok (.aload_n 2, 1) := by decide +kernel
theorem dJ7_copyOf_59c91_32 : decode cJ7_copyOf_59c91 32 = .ok (.areturn, 1) := by decide +kernel
theorem dJ3_checkIndex_8e157_0 : decode cJ3_checkIndex_8e157 0 = .ok (.iload_n 0, 1) := by decide +kernel
theorem dJ3_checkIndex_8e157_1 : decode cJ3_checkIndex_8e157 1 = .ok (.ifCond .lt 8, 3) := by decide +kernel
theorem dJ3_checkIndex_8e157_4 : decode cJ3_checkIndex_8e157 4 = .ok (.iload_n 0, 1) := by decide +kernel
theorem dJ3_checkIndex_8e157_5 : decode cJ3_checkIndex_8e157 5 = .ok (.iload_n 1, 1) := by decide +kernel
theorem dJ3_checkIndex_8e157_6 : decode cJ3_checkIndex_8e157 6 = .ok (.if_icmp .lt 10, 3) := by decide +kernel
theorem dJ3_checkIndex_8e157_9 : decode cJ3_checkIndex_8e157 9 = .ok (.aload_n 2, 1) := by decide +kernel
theorem dJ3_checkIndex_8e157_10 : decode cJ3_checkIndex_8e157 10 = .ok (.iload_n 0, 1) := by decide +kernel
theorem dJ3_checkIndex_8e157_11 : decode cJ3_checkIndex_8e157 11 = .ok (.iload_n 1, 1) := by decide +kernel
theorem dJ3_checkIndex_8e157_12 : decode cJ3_checkIndex_8e157 12 = .ok (.invokestatic 95, 3) := by decide +kernel
theorem dJ3_checkIndex_8e157_15 : decode cJ3_checkIndex_8e157 15 = .ok (.athrow, 1) := by decide +kernel
theorem dJ3_checkIndex_8e157_16 : decode cJ3_checkIndex_8e157 16 = .ok (.iload_n 0, 1) := by decide +kernel
theorem dJ3_checkIndex_8e157_17 : decode cJ3_checkIndex_8e157 17 = .ok (.ireturn, 1) := by decide +kernel
theorem dL_load_0 : decode cL_load 0 = .ok (.aload_n 2, 1) := by decide +kernel
theorem dL_load_1 : decode cL_load 1 = .ok (.iconst 0, 1) := by decide +kernel
theorem dL_load_2 : decode cL_load 2 = .ok (.aload_n 0, 1) := by decide +kernel
theorem dL_load_3 : decode cL_load 3 = .ok (.iload_n 1, 1) := by decide +kernel
theorem dL_load_4 : decode cL_load 4 = .ok (.invokevirtual 7, 3) := by decide +kernel
theorem dL_load_7 : decode cL_load 7 = .ok (.i2l, 1) := by decide +kernel
theorem dL_load_8 : decode cL_load 8 = .ok (.lastore, 1) := by decide +kernel
theorem dL_load_9 : decode cL_load 9 = .ok (.goto 6, 3) := by decide +kernel
theorem dL_load_12 : decode cL_load 12 = .ok (.astore_n 3, 1) := by decide +kernel
theorem dL_load_13 : decode cL_load 13 = .ok (.iconst 1, 1) := by decide +kernel
theorem dL_load_14 : decode cL_load 14 = .ok (.ireturn, 1) := by decide +kernel
theorem dL_load_15 : decode cL_load 15 = .ok (.iconst 0, 1) := by decide +kernel
theorem dL_load_16 : decode cL_load 16 = .ok (.ireturn, 1) := by decide +kernel
theorem dL_state_0 : decode cL_state 0 = .ok (.aload_n 2, 1) := by decide +kernel
theorem dL_state_1 : decode cL_state 1 = .ok (.iconst 0, 1) := by decide +kernel
theorem dL_state_2 : decode cL_state 2 = .ok (.aload_n 0, 1) := by decide +kernel
theorem dL_state_3 : decode cL_state 3 = .ok (.iload_n 1, 1) := by decide +kernel
theorem dL_state_4 : decode cL_state 4 = .ok (.invokevirtual 15, 3) := by decide +kernel
theorem dL_state_7 : decode cL_state 7 = .ok (.i2l, 1) := by decide +kernel
theorem dL_state_8 : decode cL_state 8 = .ok (.lastore, 1) := by decide +kernel
theorem dL_state_9 : decode cL_state 9 = .ok (.goto 6, 3) := by decide +kernel
theorem dL_state_12 : decode cL_state 12 = .ok (.astore_n 3, 1) := by decide +kernel
theorem dL_state_13 : decode cL_state 13 = .ok (.iconst 1, 1) := by decide +kernel
theorem dL_state_14 : decode cL_state 14 = .ok (.ireturn, 1) := by decide +kernel
theorem dL_state_15 : decode cL_state 15 = .ok (.iconst 0, 1) := by decide +kernel
theorem dL_state_16 : decode cL_state 16 = .ok (.ireturn, 1) := by decide +kernel
theorem dL_gate_0 : decode cL_gate 0 = .ok (.aload_n 3, 1) := by decide +kernel
theorem dL_gate_1 : decode cL_gate 1 = .ok (.iconst 0, 1) := by decide +kernel
theorem dL_gate_2 : decode cL_gate 2 = .ok (.aload_n 0, 1) := by decide +kernel
theorem dL_gate_3 : decode cL_gate 3 = .ok (.iload_n 1, 1) := by decide +kernel
theorem dL_gate_4 : decode cL_gate 4 = .ok (.iload_n 2, 1) := by decide +kernel
theorem dL_gate_5 : decode cL_gate 5 = .ok (.invokevirtual 18, 3) := by decide +kernel
theorem dL_gate_8 : decode cL_gate 8 = .ok (.i2l, 1) := by decide +kernel
theorem dL_gate_9 : decode cL_gate 9 = .ok (.lastore, 1) := by decide +kernel
theorem dL_gate_10 : decode cL_gate 10 = .ok (.goto 11, 3) := by decide +kernel
theorem dL_gate_13 : decode cL_gate 13 = .ok (.astore 4, 2) := by decide +kernel
theorem dL_gate_15 : decode cL_gate 15 = .ok (.iconst 1, 1) := by decide +kernel
theorem dL_gate_16 : decode cL_gate 16 = .ok (.ireturn, 1) := by decide +kernel
theorem dL_gate_17 : decode cL_gate 17 = .ok (.astore 4, 2) := by decide +kernel
theorem dL_gate_19 : decode cL_gate 19 = .ok (.iconst 2, 1) := by decide +kernel
theorem dL_gate_20 : decode cL_gate 20 = .ok (.ireturn, 1) := by decide +kernel
theorem dL_gate_21 : decode cL_gate 21 = .ok (.iconst 0, 1) := by decide +kernel
theorem dL_gate_22 : decode cL_gate 22 = .ok (.ireturn, 1) := by decide +kernel
theorem dL_flow_0 : decode cL_flow 0 = .ok (.aload_n 3, 1) := by decide +kernel
theorem dL_flow_1 : decode cL_flow 1 = .ok (.iconst 0, 1) := by decide +kernel
theorem dL_flow_2 : decode cL_flow 2 = .ok (.aload_n 0, 1) := by decide +kernel
theorem dL_flow_3 : decode cL_flow 3 = .ok (.iload_n 1, 1) := by decide +kernel
theorem dL_flow_4 : decode cL_flow 4 = .ok (.iload_n 2, 1) := by decide +kernel
theorem dL_flow_5 : decode cL_flow 5 = .ok (.invokevirtual 24, 3) := by decide +kernel
theorem dL_flow_8 : decode cL_flow 8 = .ok (.i2l, 1) := by decide +kernel
theorem dL_flow_9 : decode cL_flow 9 = .ok (.lastore, 1) := by decide +kernel
theorem dL_flow_10 : decode cL_flow 10 = .ok (.goto 11, 3) := by decide +kernel
theorem dL_flow_13 : decode cL_flow 13 = .ok (.astore 4, 2) := by decide +kernel
theorem dL_flow_15 : decode cL_flow 15 = .ok (.iconst 1, 1) := by decide +kernel
theorem dL_flow_16 : decode cL_flow 16 = .ok (.ireturn, 1) := by decide +kernel
theorem dL_flow_17 : decode cL_flow 17 = .ok (.astore 4, 2) := by decide +kernel
theorem dL_flow_19 : decode cL_flow 19 = .ok (.iconst 2, 1) := by decide +kernel
theorem dL_flow_20 : decode cL_flow 20 = .ok (.ireturn, 1) := by decide +kernel
theorem dL_flow_21 : decode cL_flow 21 = .ok (.iconst 0, 1) := by decide +kernel
theorem dL_flow_22 : decode cL_flow 22 = .ok (.ireturn, 1) := by decide +kernel
theorem dL_route_0 : decode cL_route 0 = .ok (.aload_n 3, 1) := by decide +kernel
theorem dL_route_1 : decode cL_route 1 = .ok (.iconst 0, 1) := by decide +kernel
theorem dL_route_2 : decode cL_route 2 = .ok (.aload_n 0, 1) := by decide +kernel
theorem dL_route_3 : decode cL_route 3 = .ok (.iload_n 1, 1) := by decide +kernel
theorem dL_route_4 : decode cL_route 4 = .ok (.iload_n 2, 1) := by decide +kernel
theorem dL_route_5 : decode cL_route 5 = .ok (.invokevirtual 27, 3) := by decide +kernel
theorem dL_route_8 : decode cL_route 8 = .ok (.i2l, 1) := by decide +kernel
theorem dL_route_9 : decode cL_route 9 = .ok (.lastore, 1) := by decide +kernel
theorem dL_route_10 : decode cL_route 10 = .ok (.goto 11, 3) := by decide +kernel
theorem dL_route_13 : decode cL_route 13 = .ok (.astore 4, 2) := by decide +kernel
theorem dL_route_15 : decode cL_route 15 = .ok (.iconst 1, 1) := by decide +kernel
theorem dL_route_16 : decode cL_route 16 = .ok (.ireturn, 1) := by decide +kernel
theorem dL_route_17 : decode cL_route 17 = .ok (.astore 4, 2) := by decide +kernel
theorem dL_route_19 : decode cL_route 19 = .ok (.iconst 2, 1) := by decide +kernel
theorem dL_route_20 : decode cL_route 20 = .ok (.ireturn, 1) := by decide +kernel
theorem dL_route_21 : decode cL_route 21 = .ok (.iconst 0, 1) := by decide +kernel
theorem dL_route_22 : decode cL_route 22 = .ok (.ireturn, 1) := by decide +kernel
theorem dL_tokens_0 : decode cL_tokens 0 = .ok (.aload_n 3, 1) := by decide +kernel
theorem dL_tokens_1 : decode cL_tokens 1 = .ok (.iconst 0, 1) := by decide +kernel
theorem dL_tokens_2 : decode cL_tokens 2 = .ok (.aload_n 0, 1) := by decide +kernel
theorem dL_tokens_3 : decode cL_tokens 3 = .ok (.iload_n 1, 1) := by decide +kernel
theorem dL_tokens_4 : decode cL_tokens 4 = .ok (.iload_n 2, 1) := by decide +kernel
theorem dL_tokens_5 : decode cL_tokens 5 = .ok (.invokevirtual 32, 3) := by decide +kernel
theorem dL_tokens_8 : decode cL_tokens 8 = .ok (.i2l, 1) := by decide +kernel
theorem dL_tokens_9 : decode cL_tokens 9 = .ok (.lastore, 1) := by decide +kernel
theorem dL_tokens_10 : decode cL_tokens 10 = .ok (.goto 7, 3) := by decide +kernel
theorem dL_tokens_13 : decode cL_tokens 13 = .ok (.astore 4, 2) := by decide +kernel
theorem dL_tokens_15 : decode cL_tokens 15 = .ok (.iconst 1, 1) := by decide +kernel
theorem dL_tokens_16 : decode cL_tokens 16 = .ok (.ireturn, 1) := by decide +kernel
theorem dL_tokens_17 : decode cL_tokens 17 = .ok (.iconst 0, 1) := by decide +kernel
theorem dL_tokens_18 : decode cL_tokens 18 = .ok (.ireturn, 1) := by decide +kernel
theorem dL_queue_0 : decode cL_queue 0 = .ok (.aload_n 3, 1) := by decide +kernel
theorem dL_queue_1 : decode cL_queue 1 = .ok (.iconst 0, 1) := by decide +kernel
theorem dL_queue_2 : decode cL_queue 2 = .ok (.aload_n 0, 1) := by decide +kernel
theorem dL_queue_3 : decode cL_queue 3 = .ok (.iload_n 1, 1) := by decide +kernel
theorem dL_queue_4 : decode cL_queue 4 = .ok (.iload_n 2, 1) := by decide +kernel
theorem dL_queue_5 : decode cL_queue 5 = .ok (.invokevirtual 35, 3) := by decide +kernel
theorem dL_queue_8 : decode cL_queue 8 = .ok (.i2l, 1) := by decide +kernel
theorem dL_queue_9 : decode cL_queue 9 = .ok (.lastore, 1) := by decide +kernel
theorem dL_queue_10 : decode cL_queue 10 = .ok (.goto 7, 3) := by decide +kernel
theorem dL_queue_13 : decode cL_queue 13 = .ok (.astore 4, 2) := by decide +kernel
theorem dL_queue_15 : decode cL_queue 15 = .ok (.iconst 1, 1) := by decide +kernel
theorem dL_queue_16 : decode cL_queue 16 = .ok (.ireturn, 1) := by decide +kernel
theorem dL_queue_17 : decode cL_queue 17 = .ok (.iconst 0, 1) := by decide +kernel
theorem dL_queue_18 : decode cL_queue 18 = .ok (.ireturn, 1) := by decide +kernel
theorem dL_packet_0 : decode cL_packet 0 = .ok (.aload_n 3, 1) := by decide +kernel
theorem dL_packet_1 : decode cL_packet 1 = .ok (.iconst 0, 1) := by decide +kernel
theorem dL_packet_2 : decode cL_packet 2 = .ok (.aload_n 0, 1) := by decide +kernel
theorem dL_packet_3 : decode cL_packet 3 = .ok (.iload_n 1, 1) := by decide +kernel
theorem dL_packet_4 : decode cL_packet 4 = .ok (.iload_n 2, 1) := by decide +kernel
theorem dL_packet_5 : decode cL_packet 5 = .ok (.invokevirtual 38, 3) := by decide +kernel
theorem dL_packet_8 : decode cL_packet 8 = .ok (.i2l, 1) := by decide +kernel
theorem dL_packet_9 : decode cL_packet 9 = .ok (.lastore, 1) := by decide +kernel
theorem dL_packet_10 : decode cL_packet 10 = .ok (.goto 11, 3) := by decide +kernel
theorem dL_packet_13 : decode cL_packet 13 = .ok (.astore 4, 2) := by decide +kernel
theorem dL_packet_15 : decode cL_packet 15 = .ok (.iconst 1, 1) := by decide +kernel
theorem dL_packet_16 : decode cL_packet 16 = .ok (.ireturn, 1) := by decide +kernel
theorem dL_packet_17 : decode cL_packet 17 = .ok (.astore 4, 2) := by decide +kernel
theorem dL_packet_19 : decode cL_packet 19 = .ok (.iconst 2, 1) := by decide +kernel
theorem dL_packet_20 : decode cL_packet 20 = .ok (.ireturn, 1) := by decide +kernel
theorem dL_packet_21 : decode cL_packet 21 = .ok (.iconst 0, 1) := by decide +kernel
theorem dL_packet_22 : decode cL_packet 22 = .ok (.ireturn, 1) := by decide +kernel
theorem dL_coupon_0 : decode cL_coupon 0 = .ok (.aload_n 3, 1) := by decide +kernel
theorem dL_coupon_1 : decode cL_coupon 1 = .ok (.iconst 0, 1) := by decide +kernel
theorem dL_coupon_2 : decode cL_coupon 2 = .ok (.aload_n 0, 1) := by decide +kernel
theorem dL_coupon_3 : decode cL_coupon 3 = .ok (.iload_n 1, 1) := by decide +kernel
theorem dL_coupon_4 : decode cL_coupon 4 = .ok (.iload_n 2, 1) := by decide +kernel
theorem dL_coupon_5 : decode cL_coupon 5 = .ok (.invokevirtual 41, 3) := by decide +kernel
theorem dL_coupon_8 : decode cL_coupon 8 = .ok (.i2l, 1) := by decide +kernel
theorem dL_coupon_9 : decode cL_coupon 9 = .ok (.lastore, 1) := by decide +kernel
theorem dL_coupon_10 : decode cL_coupon 10 = .ok (.goto 11, 3) := by decide +kernel
theorem dL_coupon_13 : decode cL_coupon 13 = .ok (.astore 4, 2) := by decide +kernel
theorem dL_coupon_15 : decode cL_coupon 15 = .ok (.iconst 1, 1) := by decide +kernel
theorem dL_coupon_16 : decode cL_coupon 16 = .ok (.ireturn, 1) := by decide +kernel
theorem dL_coupon_17 : decode cL_coupon 17 = .ok (.astore 4, 2) := by decide +kernel
theorem dL_coupon_19 : decode cL_coupon 19 = .ok (.iconst 2, 1) := by decide +kernel
theorem dL_coupon_20 : decode cL_coupon 20 = .ok (.ireturn, 1) := by decide +kernel
theorem dL_coupon_21 : decode cL_coupon 21 = .ok (.iconst 0, 1) := by decide +kernel
theorem dL_coupon_22 : decode cL_coupon 22 = .ok (.ireturn, 1) := by decide +kernel
theorem dL_loadOver_0 : decode cL_loadOver 0 = .ok (.aload 4, 2) := by decide +kernel
theorem dL_loadOver_2 : decode cL_loadOver 2 = .ok (.iconst 0, 1) := by decide +kernel
theorem dL_loadOver_3 : decode cL_loadOver 3 = .ok (.aload_n 0, 1) := by decide +kernel
theorem dL_loadOver_4 : decode cL_loadOver 4 = .ok (.iload_n 1, 1) := by decide +kernel
theorem dL_loadOver_5 : decode cL_loadOver 5 = .ok (.iload_n 2, 1) := by decide +kernel
theorem dL_loadOver_6 : decode cL_loadOver 6 = .ok (.iload_n 3, 1) := by decide +kernel
theorem dL_loadOver_7 : decode cL_loadOver 7 = .ok (.invokevirtual 44, 3) := by decide +kernel
theorem dL_loadOver_10 : decode cL_loadOver 10 = .ok (.i2l, 1) := by decide +kernel
theorem dL_loadOver_11 : decode cL_loadOver 11 = .ok (.lastore, 1) := by decide +kernel
theorem dL_loadOver_12 : decode cL_loadOver 12 = .ok (.goto 11, 3) := by decide +kernel
theorem dL_loadOver_15 : decode cL_loadOver 15 = .ok (.astore 5, 2) := by decide +kernel
theorem dL_loadOver_17 : decode cL_loadOver 17 = .ok (.iconst 1, 1) := by decide +kernel
theorem dL_loadOver_18 : decode cL_loadOver 18 = .ok (.ireturn, 1) := by decide +kernel
theorem dL_loadOver_19 : decode cL_loadOver 19 = .ok (.astore 5, 2) := by decide +kernel
theorem dL_loadOver_21 : decode cL_loadOver 21 = .ok (.iconst 2, 1) := by decide +kernel
theorem dL_loadOver_22 : decode cL_loadOver 22 = .ok (.ireturn, 1) := by decide +kernel
theorem dL_loadOver_23 : decode cL_loadOver 23 = .ok (.iconst 0, 1) := by decide +kernel
theorem dL_loadOver_24 : decode cL_loadOver 24 = .ok (.ireturn, 1) := by decide +kernel
theorem dL_curve_0 : decode cL_curve 0 = .ok (.aload_n 3, 1) := by decide +kernel
theorem dL_curve_1 : decode cL_curve 1 = .ok (.iconst 0, 1) := by decide +kernel
theorem dL_curve_2 : decode cL_curve 2 = .ok (.aload_n 0, 1) := by decide +kernel
theorem dL_curve_3 : decode cL_curve 3 = .ok (.iload_n 1, 1) := by decide +kernel
theorem dL_curve_4 : decode cL_curve 4 = .ok (.iload_n 2, 1) := by decide +kernel
theorem dL_curve_5 : decode cL_curve 5 = .ok (.invokevirtual 48, 3) := by decide +kernel
theorem dL_curve_8 : decode cL_curve 8 = .ok (.i2l, 1) := by decide +kernel
theorem dL_curve_9 : decode cL_curve 9 = .ok (.lastore, 1) := by decide +kernel
theorem dL_curve_10 : decode cL_curve 10 = .ok (.goto 11, 3) := by decide +kernel
theorem dL_curve_13 : decode cL_curve 13 = .ok (.astore 4, 2) := by decide +kernel
theorem dL_curve_15 : decode cL_curve 15 = .ok (.iconst 1, 1) := by decide +kernel
theorem dL_curve_16 : decode cL_curve 16 = .ok (.ireturn, 1) := by decide +kernel
theorem dL_curve_17 : decode cL_curve 17 = .ok (.astore 4, 2) := by decide +kernel
theorem dL_curve_19 : decode cL_curve 19 = .ok (.iconst 2, 1) := by decide +kernel
theorem dL_curve_20 : decode cL_curve 20 = .ok (.ireturn, 1) := by decide +kernel
theorem dL_curve_21 : decode cL_curve 21 = .ok (.iconst 0, 1) := by decide +kernel
theorem dL_curve_22 : decode cL_curve 22 = .ok (.ireturn, 1) := by decide +kernel
theorem dL_endsAt_0 : decode cL_endsAt 0 = .ok (.aload_n 2, 1) := by decide +kernel
theorem dL_endsAt_1 : decode cL_endsAt 1 = .ok (.iconst 0, 1) := by decide +kernel
theorem dL_endsAt_2 : decode cL_endsAt 2 = .ok (.aload_n 0, 1) := by decide +kernel
theorem dL_endsAt_3 : decode cL_endsAt 3 = .ok (.iload_n 1, 1) := by decide +kernel
theorem dL_endsAt_4 : decode cL_endsAt 4 = .ok (.invokevirtual 51, 3) := by decide +kernel
theorem dL_endsAt_7 : decode cL_endsAt 7 = .ok (.i2l, 1) := by decide +kernel
theorem dL_endsAt_8 : decode cL_endsAt 8 = .ok (.lastore, 1) := by decide +kernel
theorem dL_endsAt_9 : decode cL_endsAt 9 = .ok (.goto 6, 3) := by decide +kernel
theorem dL_endsAt_12 : decode cL_endsAt 12 = .ok (.astore_n 3, 1) := by decide +kernel
theorem dL_endsAt_13 : decode cL_endsAt 13 = .ok (.iconst 1, 1) := by decide +kernel
theorem dL_endsAt_14 : decode cL_endsAt 14 = .ok (.ireturn, 1) := by decide +kernel
theorem dL_endsAt_15 : decode cL_endsAt 15 = .ok (.iconst 0, 1) := by decide +kernel
theorem dL_endsAt_16 : decode cL_endsAt 16 = .ok (.ireturn, 1) := by decide +kernel
theorem dL_billAfter_0 : decode cL_billAfter 0 = .ok (.aload_n 3, 1) := by decide +kernel
theorem dL_billAfter_1 : decode cL_billAfter 1 = .ok (.iconst 0, 1) := by decide +kernel
theorem dL_billAfter_2 : decode cL_billAfter 2 = .ok (.aload_n 0, 1) := by decide +kernel
theorem dL_billAfter_3 : decode cL_billAfter 3 = .ok (.iload_n 1, 1) := by decide +kernel
theorem dL_billAfter_4 : decode cL_billAfter 4 = .ok (.iload_n 2, 1) := by decide +kernel
theorem dL_billAfter_5 : decode cL_billAfter 5 = .ok (.invokevirtual 54, 3) := by decide +kernel
theorem dL_billAfter_8 : decode cL_billAfter 8 = .ok (.i2l, 1) := by decide +kernel
theorem dL_billAfter_9 : decode cL_billAfter 9 = .ok (.lastore, 1) := by decide +kernel
theorem dL_billAfter_10 : decode cL_billAfter 10 = .ok (.goto 11, 3) := by decide +kernel
theorem dL_billAfter_13 : decode cL_billAfter 13 = .ok (.astore 4, 2) := by decide +kernel
theorem dL_billAfter_15 : decode cL_billAfter 15 = .ok (.iconst 1, 1) := by decide +kernel
theorem dL_billAfter_16 : decode cL_billAfter 16 = .ok (.ireturn, 1) := by decide +kernel
theorem dL_billAfter_17 : decode cL_billAfter 17 = .ok (.astore 4, 2) := by decide +kernel
theorem dL_billAfter_19 : decode cL_billAfter 19 = .ok (.iconst 2, 1) := by decide +kernel
theorem dL_billAfter_20 : decode cL_billAfter 20 = .ok (.ireturn, 1) := by decide +kernel
theorem dL_billAfter_21 : decode cL_billAfter 21 = .ok (.iconst 0, 1) := by decide +kernel
theorem dL_billAfter_22 : decode cL_billAfter 22 = .ok (.ireturn, 1) := by decide +kernel
theorem dL_help_0 : decode cL_help 0 = .ok (.aload_n 2, 1) := by decide +kernel
theorem dL_help_1 : decode cL_help 1 = .ok (.iconst 0, 1) := by decide +kernel
theorem dL_help_2 : decode cL_help 2 = .ok (.aload_n 0, 1) := by decide +kernel
theorem dL_help_3 : decode cL_help 3 = .ok (.iload_n 1, 1) := by decide +kernel
theorem dL_help_4 : decode cL_help 4 = .ok (.invokevirtual 57, 3) := by decide +kernel
theorem dL_help_7 : decode cL_help 7 = .ok (.i2l, 1) := by decide +kernel
theorem dL_help_8 : decode cL_help 8 = .ok (.lastore, 1) := by decide +kernel
theorem dL_help_9 : decode cL_help 9 = .ok (.goto 6, 3) := by decide +kernel
theorem dL_help_12 : decode cL_help 12 = .ok (.astore_n 3, 1) := by decide +kernel
theorem dL_help_13 : decode cL_help 13 = .ok (.iconst 1, 1) := by decide +kernel
theorem dL_help_14 : decode cL_help 14 = .ok (.ireturn, 1) := by decide +kernel
theorem dL_help_15 : decode cL_help 15 = .ok (.iconst 0, 1) := by decide +kernel
theorem dL_help_16 : decode cL_help 16 = .ok (.ireturn, 1) := by decide +kernel
theorem dL_pass_0 : decode cL_pass 0 = .ok (.aload_n 2, 1) := by decide +kernel
theorem dL_pass_1 : decode cL_pass 1 = .ok (.iconst 0, 1) := by decide +kernel
theorem dL_pass_2 : decode cL_pass 2 = .ok (.aload_n 0, 1) := by decide +kernel
theorem dL_pass_3 : decode cL_pass 3 = .ok (.iload_n 1, 1) := by decide +kernel
theorem dL_pass_4 : decode cL_pass 4 = .ok (.invokevirtual 60, 3) := by decide +kernel
theorem dL_pass_7 : decode cL_pass 7 = .ok (.i2l, 1) := by decide +kernel
theorem dL_pass_8 : decode cL_pass 8 = .ok (.lastore, 1) := by decide +kernel
theorem dL_pass_9 : decode cL_pass 9 = .ok (.goto 6, 3) := by decide +kernel
theorem dL_pass_12 : decode cL_pass 12 = .ok (.astore_n 3, 1) := by decide +kernel
theorem dL_pass_13 : decode cL_pass 13 = .ok (.iconst 1, 1) := by decide +kernel
theorem dL_pass_14 : decode cL_pass 14 = .ok (.ireturn, 1) := by decide +kernel
theorem dL_pass_15 : decode cL_pass 15 = .ok (.iconst 0, 1) := by decide +kernel
theorem dL_pass_16 : decode cL_pass 16 = .ok (.ireturn, 1) := by decide +kernel
theorem dL_forward_0 : decode cL_forward 0 = .ok (.aload_n 3, 1) := by decide +kernel
theorem dL_forward_1 : decode cL_forward 1 = .ok (.iconst 0, 1) := by decide +kernel
theorem dL_forward_2 : decode cL_forward 2 = .ok (.aload_n 0, 1) := by decide +kernel
theorem dL_forward_3 : decode cL_forward 3 = .ok (.iload_n 1, 1) := by decide +kernel
theorem dL_forward_4 : decode cL_forward 4 = .ok (.iload_n 2, 1) := by decide +kernel
theorem dL_forward_5 : decode cL_forward 5 = .ok (.invokevirtual 63, 3) := by decide +kernel
theorem dL_forward_8 : decode cL_forward 8 = .ok (.i2l, 1) := by decide +kernel
theorem dL_forward_9 : decode cL_forward 9 = .ok (.lastore, 1) := by decide +kernel
theorem dL_forward_10 : decode cL_forward 10 = .ok (.goto 7, 3) := by decide +kernel
theorem dL_forward_13 : decode cL_forward 13 = .ok (.astore 4, 2) := by decide +kernel
theorem dL_forward_15 : decode cL_forward 15 = .ok (.iconst 1, 1) := by decide +kernel
theorem dL_forward_16 : decode cL_forward 16 = .ok (.ireturn, 1) := by decide +kernel
theorem dL_forward_17 : decode cL_forward 17 = .ok (.iconst 0, 1) := by decide +kernel
theorem dL_forward_18 : decode cL_forward 18 = .ok (.ireturn, 1) := by decide +kernel
theorem dL_grant_0 : decode cL_grant 0 = .ok (.aload 4, 2) := by decide +kernel
theorem dL_grant_2 : decode cL_grant 2 = .ok (.iconst 0, 1) := by decide +kernel
theorem dL_grant_3 : decode cL_grant 3 = .ok (.aload_n 0, 1) := by decide +kernel
theorem dL_grant_4 : decode cL_grant 4 = .ok (.iload_n 1, 1) := by decide +kernel
theorem dL_grant_5 : decode cL_grant 5 = .ok (.iload_n 2, 1) := by decide +kernel
theorem dL_grant_6 : decode cL_grant 6 = .ok (.iload_n 3, 1) := by decide +kernel
theorem dL_grant_7 : decode cL_grant 7 = .ok (.invokevirtual 66, 3) := by decide +kernel
theorem dL_grant_10 : decode cL_grant 10 = .ok (.i2l, 1) := by decide +kernel
theorem dL_grant_11 : decode cL_grant 11 = .ok (.lastore, 1) := by decide +kernel
theorem dL_grant_12 : decode cL_grant 12 = .ok (.goto 15, 3) := by decide +kernel
theorem dL_grant_15 : decode cL_grant 15 = .ok (.astore 5, 2) := by decide +kernel
theorem dL_grant_17 : decode cL_grant 17 = .ok (.iconst 1, 1) := by decide +kernel
theorem dL_grant_18 : decode cL_grant 18 = .ok (.ireturn, 1) := by decide +kernel
theorem dL_grant_19 : decode cL_grant 19 = .ok (.astore 5, 2) := by decide +kernel
theorem dL_grant_21 : decode cL_grant 21 = .ok (.iconst 2, 1) := by decide +kernel
theorem dL_grant_22 : decode cL_grant 22 = .ok (.ireturn, 1) := by decide +kernel
theorem dL_grant_23 : decode cL_grant 23 = .ok (.astore 5, 2) := by decide +kernel
theorem dL_grant_25 : decode cL_grant 25 = .ok (.iconst 3, 1) := by decide +kernel
theorem dL_grant_26 : decode cL_grant 26 = .ok (.ireturn, 1) := by decide +kernel
theorem dL_grant_27 : decode cL_grant 27 = .ok (.iconst 0, 1) := by decide +kernel
theorem dL_grant_28 : decode cL_grant 28 = .ok (.ireturn, 1) := by decide +kernel
theorem dL_send_0 : decode cL_send 0 = .ok (.aload_n 3, 1) := by decide +kernel
theorem dL_send_1 : decode cL_send 1 = .ok (.iconst 0, 1) := by decide +kernel
theorem dL_send_2 : decode cL_send 2 = .ok (.aload_n 0, 1) := by decide +kernel
theorem dL_send_3 : decode cL_send 3 = .ok (.iload_n 1, 1) := by decide +kernel
theorem dL_send_4 : decode cL_send 4 = .ok (.iload_n 2, 1) := by decide +kernel
theorem dL_send_5 : decode cL_send 5 = .ok (.invokevirtual 71, 3) := by decide +kernel
theorem dL_send_8 : decode cL_send 8 = .ok (.i2l, 1) := by decide +kernel
theorem dL_send_9 : decode cL_send 9 = .ok (.lastore, 1) := by decide +kernel
theorem dL_send_10 : decode cL_send 10 = .ok (.goto 15, 3) := by decide +kernel
theorem dL_send_13 : decode cL_send 13 = .ok (.astore 4, 2) := by decide +kernel
theorem dL_send_15 : decode cL_send 15 = .ok (.iconst 1, 1) := by decide +kernel
theorem dL_send_16 : decode cL_send 16 = .ok (.ireturn, 1) := by decide +kernel
theorem dL_send_17 : decode cL_send 17 = .ok (.astore 4, 2) := by decide +kernel
theorem dL_send_19 : decode cL_send 19 = .ok (.iconst 2, 1) := by decide +kernel
theorem dL_send_20 : decode cL_send 20 = .ok (.ireturn, 1) := by decide +kernel
theorem dL_send_21 : decode cL_send 21 = .ok (.astore 4, 2) := by decide +kernel
theorem dL_send_23 : decode cL_send 23 = .ok (.iconst 3, 1) := by decide +kernel
theorem dL_send_24 : decode cL_send 24 = .ok (.ireturn, 1) := by decide +kernel
theorem dL_send_25 : decode cL_send 25 = .ok (.iconst 0, 1) := by decide +kernel
theorem dL_send_26 : decode cL_send 26 = .ok (.ireturn, 1) := by decide +kernel
theorem dL_setThrift_0 : decode cL_setThrift 0 = .ok (.aload_n 3, 1) := by decide +kernel
theorem dL_setThrift_1 : decode cL_setThrift 1 = .ok (.iconst 0, 1) := by decide +kernel
theorem dL_setThrift_2 : decode cL_setThrift 2 = .ok (.aload_n 0, 1) := by decide +kernel
theorem dL_setThrift_3 : decode cL_setThrift 3 = .ok (.iload_n 1, 1) := by decide +kernel
theorem dL_setThrift_4 : decode cL_setThrift 4 = .ok (.iload_n 2, 1) := by decide +kernel
theorem dL_setThrift_5 : decode cL_setThrift 5 = .ok (.invokevirtual 74, 3) := by decide +kernel
theorem dL_setThrift_8 : decode cL_setThrift 8 = .ok (.i2l, 1) := by decide +kernel
theorem dL_setThrift_9 : decode cL_setThrift 9 = .ok (.lastore, 1) := by decide +kernel
theorem dL_setThrift_10 : decode cL_setThrift 10 = .ok (.goto 11, 3) := by decide +kernel
theorem dL_setThrift_13 : decode cL_setThrift 13 = .ok (.astore 4, 2) := by decide +kernel
theorem dL_setThrift_15 : decode cL_setThrift 15 = .ok (.iconst 1, 1) := by decide +kernel
theorem dL_setThrift_16 : decode cL_setThrift 16 = .ok (.ireturn, 1) := by decide +kernel
theorem dL_setThrift_17 : decode cL_setThrift 17 = .ok (.astore 4, 2) := by decide +kernel
theorem dL_setThrift_19 : decode cL_setThrift 19 = .ok (.iconst 2, 1) := by decide +kernel
theorem dL_setThrift_20 : decode cL_setThrift 20 = .ok (.ireturn, 1) := by decide +kernel
theorem dL_setThrift_21 : decode cL_setThrift 21 = .ok (.iconst 0, 1) := by decide +kernel
theorem dL_setThrift_22 : decode cL_setThrift 22 = .ok (.ireturn, 1) := by decide +kernel
theorem dL_law_0 : decode cL_law 0 = .ok (.new 8, 3) := by decide +kernel
theorem dL_law_3 : decode cL_law 3 = .ok (.dup, 1) := by decide +kernel
theorem dL_law_4 : decode cL_law 4 = .ok (.invokespecial 77, 3) := by decide +kernel
theorem dL_law_7 : decode cL_law 7 = .ok (.astore_n 1, 1) := by decide +kernel
theorem dL_law_8 : decode cL_law 8 = .ok (.new 78, 3) := by decide +kernel
theorem dL_law_11 : decode cL_law 11 = .ok (.dup, 1) := by decide +kernel
theorem dL_law_12 : decode cL_law 12 = .ok (.invokespecial 80, 3) := by decide +kernel
theorem dL_law_15 : decode cL_law 15 = .ok (.astore_n 2, 1) := by decide +kernel
theorem dL_law_16 : decode cL_law 16 = .ok (.iconst 1, 1) := by decide +kernel
theorem dL_law_17 : decode cL_law 17 = .ok (.newarray .long, 2) := by decide +kernel
theorem dL_law_19 : decode cL_law 19 = .ok (.astore_n 3, 1) := by decide +kernel
theorem dL_law_20 : decode cL_law 20 = .ok (.iconst 0, 1) := by decide +kernel
theorem dL_law_21 : decode cL_law 21 = .ok (.istore 4, 2) := by decide +kernel
theorem dL_law_23 : decode cL_law 23 = .ok (.iload 4, 2) := by decide +kernel
theorem dL_law_25 : decode cL_law 25 = .ok (.aload_n 0, 1) := by decide +kernel
theorem dL_law_26 : decode cL_law 26 = .ok (.arraylength, 1) := by decide +kernel
theorem dL_law_27 : decode cL_law 27 = .ok (.bipush 6, 2) := by decide +kernel
theorem dL_law_29 : decode cL_law 29 = .ok (.isub, 1) := by decide +kernel
theorem dL_law_30 : decode cL_law 30 = .ok (.if_icmp .gt 1493, 3) := by decide +kernel
theorem dL_law_33 : decode cL_law 33 = .ok (.aload_n 0, 1) := by decide +kernel
theorem dL_law_34 : decode cL_law 34 = .ok (.iload 4, 2) := by decide +kernel
theorem dL_law_36 : decode cL_law 36 = .ok (.iaload, 1) := by decide +kernel
theorem dL_law_37 : decode cL_law 37 = .ok (.bipush 31, 2) := by decide +kernel
theorem dL_law_39 : decode cL_law 39 = .ok (.iand, 1) := by decide +kernel
theorem dL_law_40 : decode cL_law 40 = .ok (.tableswitch 1477 0 22 #[108, 181, 237, 250, 306, 374, 442, 510, 578, 646, 714, 782, 862, 930, 986, 1054, 1110, 1166, 1234, 1314, 1382, 1450, 1463], 108) := by decide +kernel
theorem dL_law_148 : decode cL_law 148 = .ok (.aload_n 1, 1) := by decide +kernel
theorem dL_law_149 : decode cL_law 149 = .ok (.aload_n 0, 1) := by decide +kernel
theorem dL_law_150 : decode cL_law 150 = .ok (.iload 4, 2) := by decide +kernel
theorem dL_law_152 : decode cL_law 152 = .ok (.iconst 1, 1) := by decide +kernel
theorem dL_law_153 : decode cL_law 153 = .ok (.iadd, 1) := by decide +kernel
theorem dL_law_154 : decode cL_law 154 = .ok (.iaload, 1) := by decide +kernel
theorem dL_law_155 : decode cL_law 155 = .ok (.aload_n 0, 1) := by decide +kernel
theorem dL_law_156 : decode cL_law 156 = .ok (.iload 4, 2) := by decide +kernel
theorem dL_law_158 : decode cL_law 158 = .ok (.iconst 2, 1) := by decide +kernel
theorem dL_law_159 : decode cL_law 159 = .ok (.iadd, 1) := by decide +kernel
theorem dL_law_160 : decode cL_law 160 = .ok (.iaload, 1) := by decide +kernel
theorem dL_law_161 : decode cL_law 161 = .ok (.aload_n 0, 1) := by decide +kernel
theorem dL_law_162 : decode cL_law 162 = .ok (.iload 4, 2) := by decide +kernel
theorem dL_law_164 : decode cL_law 164 = .ok (.iconst 3, 1) := by decide +kernel
theorem dL_law_165 : decode cL_law 165 = .ok (.iadd, 1) := by decide +kernel
theorem dL_law_166 : decode cL_law 166 = .ok (.iaload, 1) := by decide +kernel
theorem dL_law_167 : decode cL_law 167 = .ok (.aload_n 0, 1) := by decide +kernel
theorem dL_law_168 : decode cL_law 168 = .ok (.iload 4, 2) := by decide +kernel
theorem dL_law_170 : decode cL_law 170 = .ok (.iconst 4, 1) := by decide +kernel
theorem dL_law_171 : decode cL_law 171 = .ok (.iadd, 1) := by decide +kernel
theorem dL_law_172 : decode cL_law 172 = .ok (.iaload, 1) := by decide +kernel
theorem dL_law_173 : decode cL_law 173 = .ok (.aload_n 0, 1) := by decide +kernel
theorem dL_law_174 : decode cL_law 174 = .ok (.iload 4, 2) := by decide +kernel
theorem dL_law_176 : decode cL_law 176 = .ok (.iconst 5, 1) := by decide +kernel
theorem dL_law_177 : decode cL_law 177 = .ok (.iadd, 1) := by decide +kernel
theorem dL_law_178 : decode cL_law 178 = .ok (.iaload, 1) := by decide +kernel
theorem dL_law_179 : decode cL_law 179 = .ok (.invokevirtual 81, 3) := by decide +kernel
theorem dL_law_182 : decode cL_law 182 = .ok (.aload_n 2, 1) := by decide +kernel
theorem dL_law_183 : decode cL_law 183 = .ok (.aload_n 0, 1) := by decide +kernel
theorem dL_law_184 : decode cL_law 184 = .ok (.iload 4, 2) := by decide +kernel
theorem dL_law_186 : decode cL_law 186 = .ok (.iconst 1, 1) := by decide +kernel
theorem dL_law_187 : decode cL_law 187 = .ok (.iadd, 1) := by decide +kernel
theorem dL_law_188 : decode cL_law 188 = .ok (.iaload, 1) := by decide +kernel
theorem dL_law_189 : decode cL_law 189 = .ok (.aload_n 0, 1) := by decide +kernel
theorem dL_law_190 : decode cL_law 190 = .ok (.iload 4, 2) := by decide +kernel
theorem dL_law_192 : decode cL_law 192 = .ok (.iconst 2, 1) := by decide +kernel
theorem dL_law_193 : decode cL_law 193 = .ok (.iadd, 1) := by decide +kernel
theorem dL_law_194 : decode cL_law 194 = .ok (.iaload, 1) := by decide +kernel
theorem dL_law_195 : decode cL_law 195 = .ok (.aload_n 0, 1) := by decide +kernel
theorem dL_law_196 : decode cL_law 196 = .ok (.iload 4, 2) := by decide +kernel
theorem dL_law_198 : decode cL_law 198 = .ok (.iconst 3, 1) := by decide +kernel
theorem dL_law_199 : decode cL_law 199 = .ok (.iadd, 1) := by decide +kernel
theorem dL_law_200 : decode cL_law 200 = .ok (.iaload, 1) := by decide +kernel
theorem dL_law_201 : decode cL_law 201 = .ok (.aload_n 0, 1) := by decide +kernel
theorem dL_law_202 : decode cL_law 202 = .ok (.iload 4, 2) := by decide +kernel
theorem dL_law_204 : decode cL_law 204 = .ok (.iconst 4, 1) := by decide +kernel
theorem dL_law_205 : decode cL_law 205 = .ok (.iadd, 1) := by decide +kernel
theorem dL_law_206 : decode cL_law 206 = .ok (.iaload, 1) := by decide +kernel
theorem dL_law_207 : decode cL_law 207 = .ok (.aload_n 0, 1) := by decide +kernel
theorem dL_law_208 : decode cL_law 208 = .ok (.iload 4, 2) := by decide +kernel
theorem dL_law_210 : decode cL_law 210 = .ok (.iconst 5, 1) := by decide +kernel
theorem dL_law_211 : decode cL_law 211 = .ok (.iadd, 1) := by decide +kernel
theorem dL_law_212 : decode cL_law 212 = .ok (.iaload, 1) := by decide +kernel
theorem dL_law_213 : decode cL_law 213 = .ok (.invokevirtual 85, 3) := by decide +kernel
theorem dL_law_216 : decode cL_law 216 = .ok (.if_icmp .eq 1301, 3) := by decide +kernel
theorem dL_law_219 : decode cL_law 219 = .ok (.iconst 0, 1) := by decide +kernel
theorem dL_law_220 : decode cL_law 220 = .ok (.ireturn, 1) := by decide +kernel
theorem dL_law_221 : decode cL_law 221 = .ok (.aload_n 1, 1) := by decide +kernel
theorem dL_law_222 : decode cL_law 222 = .ok (.aload_n 0, 1) := by decide +kernel
theorem dL_law_223 : decode cL_law 223 = .ok (.iload 4, 2) := by decide +kernel
theorem dL_law_225 : decode cL_law 225 = .ok (.iconst 1, 1) := by decide +kernel
theorem dL_law_226 : decode cL_law 226 = .ok (.iadd, 1) := by decide +kernel
theorem dL_law_227 : decode cL_law 227 = .ok (.iaload, 1) := by decide +kernel
theorem dL_law_228 : decode cL_law 228 = .ok (.aload_n 3, 1) := by decide +kernel
theorem dL_law_229 : decode cL_law 229 = .ok (.invokestatic 86, 3) := by decide +kernel
theorem dL_law_232 : decode cL_law 232 = .ok (.istore 5, 2) := by decide +kernel
theorem dL_law_234 : decode cL_law 234 = .ok (.aload_n 2, 1) := by decide +kernel
theorem dL_law_235 : decode cL_law 235 = .ok (.aload_n 0, 1) := by decide +kernel
theorem dL_law_236 : decode cL_law 236 = .ok (.iload 4, 2) := by decide +kernel
theorem dL_law_238 : decode cL_law 238 = .ok (.iconst 1, 1) := by decide +kernel
theorem dL_law_239 : decode cL_law 239 = .ok (.iadd, 1) := by decide +kernel
theorem dL_law_240 : decode cL_law 240 = .ok (.iaload, 1) := by decide +kernel
theorem dL_law_241 : decode cL_law 241 = .ok (.invokevirtual 91, 3) := by decide +kernel
theorem dL_law_244 : decode cL_law 244 = .ok (.istore 6, 2) := by decide +kernel
theorem dL_law_246 : decode cL_law 246 = .ok (.aload_n 2, 1) := by decide +kernel
theorem dL_law_247 : decode cL_law 247 = .ok (.invokevirtual 92, 3) := by decide +kernel
theorem dL_law_250 : decode cL_law 250 = .ok (.iload 5, 2) := by decide +kernel
theorem dL_law_252 : decode cL_law 252 = .ok (.if_icmp .eq 5, 3) := by decide +kernel
theorem dL_law_255 : decode cL_law 255 = .ok (.iconst 0, 1) := by decide +kernel
theorem dL_law_256 : decode cL_law 256 = .ok (.ireturn, 1) := by decide +kernel
theorem dL_law_257 : decode cL_law 257 = .ok (.iload 5, 2) := by decide +kernel
theorem dL_law_259 : decode cL_law 259 = .ok (.ifCond .ne 15, 3) := by decide +kernel
theorem dL_law_262 : decode cL_law 262 = .ok (.aload_n 3, 1) := by decide +kernel
theorem dL_law_263 : decode cL_law 263 = .ok (.iconst 0, 1) := by decide +kernel
theorem dL_law_264 : decode cL_law 264 = .ok (.laload, 1) := by decide +kernel
theorem dL_law_265 : decode cL_law 265 = .ok (.iload 6, 2) := by decide +kernel
theorem dL_law_267 : decode cL_law 267 = .ok (.i2l, 1) := by decide +kernel
theorem dL_law_268 : decode cL_law 268 = .ok (.lcmp, 1) := by decide +kernel
theorem dL_law_269 : decode cL_law 269 = .ok (.ifCond .eq 5, 3) := by decide +kernel
theorem dL_law_272 : decode cL_law 272 = .ok (.iconst 0, 1) := by decide +kernel
theorem dL_law_273 : decode cL_law 273 = .ok (.ireturn, 1) := by decide +kernel
theorem dL_law_274 : decode cL_law 274 = .ok (.goto 1243, 3) := by decide +kernel
theorem dL_law_277 : decode cL_law 277 = .ok (.aload_n 1, 1) := by decide +kernel
theorem dL_law_278 : decode cL_law 278 = .ok (.invokevirtual 96, 3) := by decide +kernel
theorem dL_law_281 : decode cL_law 281 = .ok (.aload_n 2, 1) := by decide +kernel
theorem dL_law_282 : decode cL_law 282 = .ok (.invokevirtual 99, 3) := by decide +kernel
theorem dL_law_285 : decode cL_law 285 = .ok (.if_icmp .eq 1232, 3) := by decide +kernel
theorem dL_law_288 : decode cL_law 288 = .ok (.iconst 0, 1) := by decide +kernel
theorem dL_law_289 : decode cL_law 289 = .ok (.ireturn, 1) := by decide +kernel
theorem dL_law_290 : decode cL_law 290 = .ok (.aload_n 1, 1) := by decide +kernel
theorem dL_law_291 : decode cL_law 291 = .ok (.aload_n 0, 1) := by decide +kernel
theorem dL_law_292 : decode cL_law 292 = .ok (.iload 4, 2) := by decide +kernel
theorem dL_law_294 : decode cL_law 294 = .ok (.iconst 1, 1) := by decide +kernel
theorem dL_law_295 : decode cL_law 295 = .ok (.iadd, 1) := by decide +kernel
theorem dL_law_296 : decode cL_law 296 = .ok (.iaload, 1) := by decide +kernel
theorem dL_law_297 : decode cL_law 297 = .ok (.aload_n 3, 1) := by decide +kernel
theorem dL_law_298 : decode cL_law 298 = .ok (.invokestatic 100, 3) := by decide +kernel
theorem dL_law_301 : decode cL_law 301 = .ok (.istore 5, 2) := by decide +kernel
theorem dL_law_303 : decode cL_law 303 = .ok (.aload_n 2, 1) := by decide +kernel
theorem dL_law_304 : decode cL_law 304 = .ok (.aload_n 0, 1) := by decide +kernel
theorem dL_law_305 : decode cL_law 305 = .ok (.iload 4, 2) := by decide +kernel
theorem dL_law_307 : decode cL_law 307 = .ok (.iconst 1, 1) := by decide +kernel
theorem dL_law_308 : decode cL_law 308 = .ok (.iadd, 1) := by decide +kernel
theorem dL_law_309 : decode cL_law 309 = .ok (.iaload, 1) := by decide +kernel
theorem dL_law_310 : decode cL_law 310 = .ok (.invokevirtual 102, 3) := by decide +kernel
theorem dL_law_313 : decode cL_law 313 = .ok (.istore 6, 2) := by decide +kernel
theorem dL_law_315 : decode cL_law 315 = .ok (.aload_n 2, 1) := by decide +kernel
theorem dL_law_316 : decode cL_law 316 = .ok (.invokevirtual 92, 3) := by decide +kernel
theorem dL_law_319 : decode cL_law 319 = .ok (.iload 5, 2) := by decide +kernel
theorem dL_law_321 : decode cL_law 321 = .ok (.if_icmp .eq 5, 3) := by decide +kernel
theorem dL_law_324 : decode cL_law 324 = .ok (.iconst 0, 1) := by decide +kernel
theorem dL_law_325 : decode cL_law 325 = .ok (.ireturn, 1) := by decide +kernel
theorem dL_law_326 : decode cL_law 326 = .ok (.iload 5, 2) := by decide +kernel
theorem dL_law_328 : decode cL_law 328 = .ok (.ifCond .ne 15, 3) := by decide +kernel
theorem dL_law_331 : decode cL_law 331 = .ok (.aload_n 3, 1) := by decide +kernel
theorem dL_law_332 : decode cL_law 332 = .ok (.iconst 0, 1) := by decide +kernel
theorem dL_law_333 : decode cL_law 333 = .ok (.laload, 1) := by decide +kernel
theorem dL_law_334 : decode cL_law 334 = .ok (.iload 6, 2) := by decide +kernel
theorem dL_law_336 : decode cL_law 336 = .ok (.i2l, 1) := by decide +kernel
theorem dL_law_337 : decode cL_law 337 = .ok (.lcmp, 1) := by decide +kernel
theorem dL_law_338 : decode cL_law 338 = .ok (.ifCond .eq 5, 3) := by decide +kernel
theorem dL_law_341 : decode cL_law 341 = .ok (.iconst 0, 1) := by decide +kernel
theorem dL_law_342 : decode cL_law 342 = .ok (.ireturn, 1) := by decide +kernel
theorem dL_law_343 : decode cL_law 343 = .ok (.goto 1174, 3) := by decide +kernel
theorem dL_law_346 : decode cL_law 346 = .ok (.aload_n 1, 1) := by decide +kernel
theorem dL_law_347 : decode cL_law 347 = .ok (.aload_n 0, 1) := by decide +kernel
theorem dL_law_348 : decode cL_law 348 = .ok (.iload 4, 2) := by decide +kernel
theorem dL_law_350 : decode cL_law 350 = .ok (.iconst 1, 1) := by decide +kernel
theorem dL_law_351 : decode cL_law 351 = .ok (.iadd, 1) := by decide +kernel
theorem dL_law_352 : decode cL_law 352 = .ok (.iaload, 1) := by decide +kernel
theorem dL_law_353 : decode cL_law 353 = .ok (.aload_n 0, 1) := by decide +kernel
theorem dL_law_354 : decode cL_law 354 = .ok (.iload 4, 2) := by decide +kernel
theorem dL_law_356 : decode cL_law 356 = .ok (.iconst 2, 1) := by decide +kernel
theorem dL_law_357 : decode cL_law 357 = .ok (.iadd, 1) := by decide +kernel
theorem dL_law_358 : decode cL_law 358 = .ok (.iaload, 1) := by decide +kernel
theorem dL_law_359 : decode cL_law 359 = .ok (.aload_n 3, 1) := by decide +kernel
theorem dL_law_360 : decode cL_law 360 = .ok (.invokestatic 103, 3) := by decide +kernel
theorem dL_law_363 : decode cL_law 363 = .ok (.istore 5, 2) := by decide +kernel
theorem dL_law_365 : decode cL_law 365 = .ok (.aload_n 2, 1) := by decide +kernel
theorem dL_law_366 : decode cL_law 366 = .ok (.aload_n 0, 1) := by decide +kernel
theorem dL_law_367 : decode cL_law 367 = .ok (.iload 4, 2) := by decide +kernel
theorem dL_law_369 : decode cL_law 369 = .ok (.iconst 1, 1) := by decide +kernel
theorem dL_law_370 : decode cL_law 370 = .ok (.iadd, 1) := by decide +kernel
theorem dL_law_371 : decode cL_law 371 = .ok (.iaload, 1) := by decide +kernel
theorem dL_law_372 : decode cL_law 372 = .ok (.aload_n 0, 1) := by decide +kernel
theorem dL_law_373 : decode cL_law 373 = .ok (.iload 4, 2) := by decide +kernel
theorem dL_law_375 : decode cL_law 375 = .ok (.iconst 2, 1) := by decide +kernel
theorem dL_law_376 : decode cL_law 376 = .ok (.iadd, 1) := by decide +kernel
theorem dL_law_377 : decode cL_law 377 = .ok (.iaload, 1) := by decide +kernel
theorem dL_law_378 : decode cL_law 378 = .ok (.invokevirtual 106, 3) := by decide +kernel
theorem dL_law_381 : decode cL_law 381 = .ok (.istore 6, 2) := by decide +kernel
theorem dL_law_383 : decode cL_law 383 = .ok (.aload_n 2, 1) := by decide +kernel
theorem dL_law_384 : decode cL_law 384 = .ok (.invokevirtual 92, 3) := by decide +kernel
theorem dL_law_387 : decode cL_law 387 = .ok (.iload 5, 2) := by decide +kernel
theorem dL_law_389 : decode cL_law 389 = .ok (.if_icmp .eq 5, 3) := by decide +kernel
theorem dL_law_392 : decode cL_law 392 = .ok (.iconst 0, 1) := by decide +kernel
theorem dL_law_393 : decode cL_law 393 = .ok (.ireturn, 1) := by decide +kernel
theorem dL_law_394 : decode cL_law 394 = .ok (.iload 5, 2) := by decide +kernel
theorem dL_law_396 : decode cL_law 396 = .ok (.ifCond .ne 15, 3) := by decide +kernel
theorem dL_law_399 : decode cL_law 399 = .ok (.aload_n 3, 1) := by decide +kernel
theorem dL_law_400 : decode cL_law 400 = .ok (.iconst 0, 1) := by decide +kernel
theorem dL_law_401 : decode cL_law 401 = .ok (.laload, 1) := by decide +kernel
theorem dL_law_402 : decode cL_law 402 = .ok (.iload 6, 2) := by decide +kernel
theorem dL_law_404 : decode cL_law 404 = .ok (.i2l, 1) := by decide +kernel
theorem dL_law_405 : decode cL_law 405 = .ok (.lcmp, 1) := by decide +kernel
theorem dL_law_406 : decode cL_law 406 = .ok (.ifCond .eq 5, 3) := by decide +kernel
theorem dL_law_409 : decode cL_law 409 = .ok (.iconst 0, 1) := by decide +kernel
theorem dL_law_410 : decode cL_law 410 = .ok (.ireturn, 1) := by decide +kernel
theorem dL_law_411 : decode cL_law 411 = .ok (.goto 1106, 3) := by decide +kernel
theorem dL_law_414 : decode cL_law 414 = .ok (.aload_n 1, 1) := by decide +kernel
theorem dL_law_415 : decode cL_law 415 = .ok (.aload_n 0, 1) := by decide +kernel
theorem dL_law_416 : decode cL_law 416 = .ok (.iload 4, 2) := by decide +kernel
theorem dL_law_418 : decode cL_law 418 = .ok (.iconst 1, 1) := by decide +kernel
theorem dL_law_419 : decode cL_law 419 = .ok (.iadd, 1) := by decide +kernel
theorem dL_law_420 : decode cL_law 420 = .ok (.iaload, 1) := by decide +kernel
theorem dL_law_421 : decode cL_law 421 = .ok (.aload_n 0, 1) := by decide +kernel
theorem dL_law_422 : decode cL_law 422 = .ok (.iload 4, 2) := by decide +kernel
theorem dL_law_424 : decode cL_law 424 = .ok (.iconst 2, 1) := by decide +kernel
theorem dL_law_425 : decode cL_law 425 = .ok (.iadd, 1) := by decide +kernel
theorem dL_law_426 : decode cL_law 426 = .ok (.iaload, 1) := by decide +kernel
theorem dL_law_427 : decode cL_law 427 = .ok (.aload_n 3, 1) := by decide +kernel
theorem dL_law_428 : decode cL_law 428 = .ok (.invokestatic 107, 3) := by decide +kernel
theorem dL_law_431 : decode cL_law 431 = .ok (.istore 5, 2) := by decide +kernel
theorem dL_law_433 : decode cL_law 433 = .ok (.aload_n 2, 1) := by decide +kernel
theorem dL_law_434 : decode cL_law 434 = .ok (.aload_n 0, 1) := by decide +kernel
theorem dL_law_435 : decode cL_law 435 = .ok (.iload 4, 2) := by decide +kernel
theorem dL_law_437 : decode cL_law 437 = .ok (.iconst 1, 1) := by decide +kernel
theorem dL_law_438 : decode cL_law 438 = .ok (.iadd, 1) := by decide +kernel
theorem dL_law_439 : decode cL_law 439 = .ok (.iaload, 1) := by decide +kernel
theorem dL_law_440 : decode cL_law 440 = .ok (.aload_n 0, 1) := by decide +kernel
theorem dL_law_441 : decode cL_law 441 = .ok (.iload 4, 2) := by decide +kernel
theorem dL_law_443 : decode cL_law 443 = .ok (.iconst 2, 1) := by decide +kernel
theorem dL_law_444 : decode cL_law 444 = .ok (.iadd, 1) := by decide +kernel
theorem dL_law_445 : decode cL_law 445 = .ok (.iaload, 1) := by decide +kernel
theorem dL_law_446 : decode cL_law 446 = .ok (.invokevirtual 109, 3) := by decide +kernel
theorem dL_law_449 : decode cL_law 449 = .ok (.istore 6, 2) := by decide +kernel
theorem dL_law_451 : decode cL_law 451 = .ok (.aload_n 2, 1) := by decide +kernel
theorem dL_law_452 : decode cL_law 452 = .ok (.invokevirtual 92, 3) := by decide +kernel
theorem dL_law_455 : decode cL_law 455 = .ok (.iload 5, 2) := by decide +kernel
theorem dL_law_457 : decode cL_law 457 = .ok (.if_icmp .eq 5, 3) := by decide +kernel
theorem dL_law_460 : decode cL_law 460 = .ok (.iconst 0, 1) := by decide +kernel
theorem dL_law_461 : decode cL_law 461 = .ok (.ireturn, 1) := by decide +kernel
theorem dL_law_462 : decode cL_law 462 = .ok (.iload 5, 2) := by decide +kernel
theorem dL_law_464 : decode cL_law 464 = .ok (.ifCond .ne 15, 3) := by decide +kernel
theorem dL_law_467 : decode cL_law 467 = .ok (.aload_n 3, 1) := by decide +kernel
theorem dL_law_468 : decode cL_law 468 = .ok (.iconst 0, 1) := by decide +kernel
theorem dL_law_469 : decode cL_law 469 = .ok (.laload, 1) := by decide +kernel
theorem dL_law_470 : decode cL_law 470 = .ok (.iload 6, 2) := by decide +kernel
theorem dL_law_472 : decode cL_law 472 = .ok (.i2l, 1) := by decide +kernel
theorem dL_law_473 : decode cL_law 473 = .ok (.lcmp, 1) := by decide +kernel
theorem dL_law_474 : decode cL_law 474 = .ok (.ifCond .eq 5, 3) := by decide +kernel
theorem dL_law_477 : decode cL_law 477 = .ok (.iconst 0, 1) := by decide +kernel
theorem dL_law_478 : decode cL_law 478 = .ok (.ireturn, 1) := by decide +kernel
theorem dL_law_479 : decode cL_law 479 = .ok (.goto 1038, 3) := by decide +kernel
theorem dL_law_482 : decode cL_law 482 = .ok (.aload_n 1, 1) := by decide +kernel
theorem dL_law_483 : decode cL_law 483 = .ok (.aload_n 0, 1) := by decide +kernel
theorem dL_law_484 : decode cL_law 484 = .ok (.iload 4, 2) := by decide +kernel
theorem dL_law_486 : decode cL_law 486 = .ok (.iconst 1, 1) := by decide +kernel
theorem dL_law_487 : decode cL_law 487 = .ok (.iadd, 1) := by decide +kernel
theorem dL_law_488 : decode cL_law 488 = .ok (.iaload, 1) := by decide +kernel
theorem dL_law_489 : decode cL_law 489 = .ok (.aload_n 0, 1) := by decide +kernel
theorem dL_law_490 : decode cL_law 490 = .ok (.iload 4, 2) := by decide +kernel
theorem dL_law_492 : decode cL_law 492 = .ok (.iconst 2, 1) := by decide +kernel
theorem dL_law_493 : decode cL_law 493 = .ok (.iadd, 1) := by decide +kernel
theorem dL_law_494 : decode cL_law 494 = .ok (.iaload, 1) := by decide +kernel
theorem dL_law_495 : decode cL_law 495 = .ok (.aload_n 3, 1) := by decide +kernel
theorem dL_law_496 : decode cL_law 496 = .ok (.invokestatic 110, 3) := by decide +kernel
theorem dL_law_499 : decode cL_law 499 = .ok (.istore 5, 2) := by decide +kernel
theorem dL_law_501 : decode cL_law 501 = .ok (.aload_n 2, 1) := by decide +kernel
theorem dL_law_502 : decode cL_law 502 = .ok (.aload_n 0, 1) := by decide +kernel
theorem dL_law_503 : decode cL_law 503 = .ok (.iload 4, 2) := by decide +kernel
theorem dL_law_505 : decode cL_law 505 = .ok (.iconst 1, 1) := by decide +kernel
theorem dL_law_506 : decode cL_law 506 = .ok (.iadd, 1) := by decide +kernel
theorem dL_law_507 : decode cL_law 507 = .ok (.iaload, 1) := by decide +kernel
theorem dL_law_508 : decode cL_law 508 = .ok (.aload_n 0, 1) := by decide +kernel
theorem dL_law_509 : decode cL_law 509 = .ok (.iload 4, 2) := by decide +kernel
theorem dL_law_511 : decode cL_law 511 = .ok (.iconst 2, 1) := by decide +kernel
theorem dL_law_512 : decode cL_law 512 = .ok (.iadd, 1) := by decide +kernel
theorem dL_law_513 : decode cL_law 513 = .ok (.iaload, 1) := by decide +kernel
theorem dL_law_514 : decode cL_law 514 = .ok (.invokevirtual 112, 3) := by decide +kernel
theorem dL_law_517 : decode cL_law 517 = .ok (.istore 6, 2) := by decide +kernel
theorem dL_law_519 : decode cL_law 519 = .ok (.aload_n 2, 1) := by decide +kernel
theorem dL_law_520 : decode cL_law 520 = .ok (.invokevirtual 92, 3) := by decide +kernel
theorem dL_law_523 : decode cL_law 523 = .ok (.iload 5, 2) := by decide +kernel
theorem dL_law_525 : decode cL_law 525 = .ok (.if_icmp .eq 5, 3) := by decide +kernel
theorem dL_law_528 : decode cL_law 528 = .ok (.iconst 0, 1) := by decide +kernel
theorem dL_law_529 : decode cL_law 529 = .ok (.ireturn, 1) := by decide +kernel
theorem dL_law_530 : decode cL_law 530 = .ok (.iload 5, 2) := by decide +kernel
theorem dL_law_532 : decode cL_law 532 = .ok (.ifCond .ne 15, 3) := by decide +kernel
theorem dL_law_535 : decode cL_law 535 = .ok (.aload_n 3, 1) := by decide +kernel
theorem dL_law_536 : decode cL_law 536 = .ok (.iconst 0, 1) := by decide +kernel
theorem dL_law_537 : decode cL_law 537 = .ok (.laload, 1) := by decide +kernel
theorem dL_law_538 : decode cL_law 538 = .ok (.iload 6, 2) := by decide +kernel
theorem dL_law_540 : decode cL_law 540 = .ok (.i2l, 1) := by decide +kernel
theorem dL_law_541 : decode cL_law 541 = .ok (.lcmp, 1) := by decide +kernel
theorem dL_law_542 : decode cL_law 542 = .ok (.ifCond .eq 5, 3) := by decide +kernel
theorem dL_law_545 : decode cL_law 545 = .ok (.iconst 0, 1) := by decide +kernel
theorem dL_law_546 : decode cL_law 546 = .ok (.ireturn, 1) := by decide +kernel
theorem dL_law_547 : decode cL_law 547 = .ok (.goto 970, 3) := by decide +kernel
theorem dL_law_550 : decode cL_law 550 = .ok (.aload_n 1, 1) := by decide +kernel
theorem dL_law_551 : decode cL_law 551 = .ok (.aload_n 0, 1) := by decide +kernel
theorem dL_law_552 : decode cL_law 552 = .ok (.iload 4, 2) := by decide +kernel
theorem dL_law_554 : decode cL_law 554 = .ok (.iconst 1, 1) := by decide +kernel
theorem dL_law_555 : decode cL_law 555 = .ok (.iadd, 1) := by decide +kernel
theorem dL_law_556 : decode cL_law 556 = .ok (.iaload, 1) := by decide +kernel
theorem dL_law_557 : decode cL_law 557 = .ok (.aload_n 0, 1) := by decide +kernel
theorem dL_law_558 : decode cL_law 558 = .ok (.iload 4, 2) := by decide +kernel
theorem dL_law_560 : decode cL_law 560 = .ok (.iconst 2, 1) := by decide +kernel
theorem dL_law_561 : decode cL_law 561 = .ok (.iadd, 1) := by decide +kernel
theorem dL_law_562 : decode cL_law 562 = .ok (.iaload, 1) := by decide +kernel
theorem dL_law_563 : decode cL_law 563 = .ok (.aload_n 3, 1) := by decide +kernel
theorem dL_law_564 : decode cL_law 564 = .ok (.invokestatic 113, 3) := by decide +kernel
theorem dL_law_567 : decode cL_law 567 = .ok (.istore 5, 2) := by decide +kernel
theorem dL_law_569 : decode cL_law 569 = .ok (.aload_n 2, 1) := by decide +kernel
theorem dL_law_570 : decode cL_law 570 = .ok (.aload_n 0, 1) := by decide +kernel
theorem dL_law_571 : decode cL_law 571 = .ok (.iload 4, 2) := by decide +kernel
theorem dL_law_573 : decode cL_law 573 = .ok (.iconst 1, 1) := by decide +kernel
theorem dL_law_574 : decode cL_law 574 = .ok (.iadd, 1) := by decide +kernel
theorem dL_law_575 : decode cL_law 575 = .ok (.iaload, 1) := by decide +kernel
theorem dL_law_576 : decode cL_law 576 = .ok (.aload_n 0, 1) := by decide +kernel
theorem dL_law_577 : decode cL_law 577 = .ok (.iload 4, 2) := by decide +kernel
theorem dL_law_579 : decode cL_law 579 = .ok (.iconst 2, 1) := by decide +kernel
theorem dL_law_580 : decode cL_law 580 = .ok (.iadd, 1) := by decide +kernel
theorem dL_law_581 : decode cL_law 581 = .ok (.iaload, 1) := by decide +kernel
theorem dL_law_582 : decode cL_law 582 = .ok (.invokevirtual 115, 3) := by decide +kernel
theorem dL_law_585 : decode cL_law 585 = .ok (.istore 6, 2) := by decide +kernel
theorem dL_law_587 : decode cL_law 587 = .ok (.aload_n 2, 1) := by decide +kernel
theorem dL_law_588 : decode cL_law 588 = .ok (.invokevirtual 92, 3) := by decide +kernel
theorem dL_law_591 : decode cL_law 591 = .ok (.iload 5, 2) := by decide +kernel
theorem dL_law_593 : decode cL_law 593 = .ok (.if_icmp .eq 5, 3) := by decide +kernel
theorem dL_law_596 : decode cL_law 596 = .ok (.iconst 0, 1) := by decide +kernel
theorem dL_law_597 : decode cL_law 597 = .ok (.ireturn, 1) := by decide +kernel
theorem dL_law_598 : decode cL_law 598 = .ok (.iload 5, 2) := by decide +kernel
theorem dL_law_600 : decode cL_law 600 = .ok (.ifCond .ne 15, 3) := by decide +kernel
theorem dL_law_603 : decode cL_law 603 = .ok (.aload_n 3, 1) := by decide +kernel
theorem dL_law_604 : decode cL_law 604 = .ok (.iconst 0, 1) := by decide +kernel
theorem dL_law_605 : decode cL_law 605 = .ok (.laload, 1) := by decide +kernel
theorem dL_law_606 : decode cL_law 606 = .ok (.iload 6, 2) := by decide +kernel
theorem dL_law_608 : decode cL_law 608 = .ok (.i2l, 1) := by decide +kernel
theorem dL_law_609 : decode cL_law 609 = .ok (.lcmp, 1) := by decide +kernel
theorem dL_law_610 : decode cL_law 610 = .ok (.ifCond .eq 5, 3) := by decide +kernel
theorem dL_law_613 : decode cL_law 613 = .ok (.iconst 0, 1) := by decide +kernel
theorem dL_law_614 : decode cL_law 614 = .ok (.ireturn, 1) := by decide +kernel
theorem dL_law_615 : decode cL_law 615 = .ok (.goto 902, 3) := by decide +kernel
theorem dL_law_618 : decode cL_law 618 = .ok (.aload_n 1, 1) := by decide +kernel
theorem dL_law_619 : decode cL_law 619 = .ok (.aload_n 0, 1) := by decide +kernel
theorem dL_law_620 : decode cL_law 620 = .ok (.iload 4, 2) := by decide +kernel
theorem dL_law_622 : decode cL_law 622 = .ok (.iconst 1, 1) := by decide +kernel
theorem dL_law_623 : decode cL_law 623 = .ok (.iadd, 1) := by decide +kernel
theorem dL_law_624 : decode cL_law 624 = .ok (.iaload, 1) := by decide +kernel
theorem dL_law_625 : decode cL_law 625 = .ok (.aload_n 0, 1) := by decide +kernel
theorem dL_law_626 : decode cL_law 626 = .ok (.iload 4, 2) := by decide +kernel
theorem dL_law_628 : decode cL_law 628 = .ok (.iconst 2, 1) := by decide +kernel
theorem dL_law_629 : decode cL_law 629 = .ok (.iadd, 1) := by decide +kernel
theorem dL_law_630 : decode cL_law 630 = .ok (.iaload, 1) := by decide +kernel
theorem dL_law_631 : decode cL_law 631 = .ok (.aload_n 3, 1) := by decide +kernel
theorem dL_law_632 : decode cL_law 632 = .ok (.invokestatic 116, 3) := by decide +kernel
theorem dL_law_635 : decode cL_law 635 = .ok (.istore 5, 2) := by decide +kernel
theorem dL_law_637 : decode cL_law 637 = .ok (.aload_n 2, 1) := by decide +kernel
theorem dL_law_638 : decode cL_law 638 = .ok (.aload_n 0, 1) := by decide +kernel
theorem dL_law_639 : decode cL_law 639 = .ok (.iload 4, 2) := by decide +kernel
theorem dL_law_641 : decode cL_law 641 = .ok (.iconst 1, 1) := by decide +kernel
theorem dL_law_642 : decode cL_law 642 = .ok (.iadd, 1) := by decide +kernel
theorem dL_law_643 : decode cL_law 643 = .ok (.iaload, 1) := by decide +kernel
theorem dL_law_644 : decode cL_law 644 = .ok (.aload_n 0, 1) := by decide +kernel
theorem dL_law_645 : decode cL_law 645 = .ok (.iload 4, 2) := by decide +kernel
theorem dL_law_647 : decode cL_law 647 = .ok (.iconst 2, 1) := by decide +kernel
theorem dL_law_648 : decode cL_law 648 = .ok (.iadd, 1) := by decide +kernel
theorem dL_law_649 : decode cL_law 649 = .ok (.iaload, 1) := by decide +kernel
theorem dL_law_650 : decode cL_law 650 = .ok (.invokevirtual 118, 3) := by decide +kernel
theorem dL_law_653 : decode cL_law 653 = .ok (.istore 6, 2) := by decide +kernel
theorem dL_law_655 : decode cL_law 655 = .ok (.aload_n 2, 1) := by decide +kernel
theorem dL_law_656 : decode cL_law 656 = .ok (.invokevirtual 92, 3) := by decide +kernel
theorem dL_law_659 : decode cL_law 659 = .ok (.iload 5, 2) := by decide +kernel
theorem dL_law_661 : decode cL_law 661 = .ok (.if_icmp .eq 5, 3) := by decide +kernel
theorem dL_law_664 : decode cL_law 664 = .ok (.iconst 0, 1) := by decide +kernel
theorem dL_law_665 : decode cL_law 665 = .ok (.ireturn, 1) := by decide +kernel
theorem dL_law_666 : decode cL_law 666 = .ok (.iload 5, 2) := by decide +kernel
theorem dL_law_668 : decode cL_law 668 = .ok (.ifCond .ne 15, 3) := by decide +kernel
theorem dL_law_671 : decode cL_law 671 = .ok (.aload_n 3, 1) := by decide +kernel
theorem dL_law_672 : decode cL_law 672 = .ok (.iconst 0, 1) := by decide +kernel
theorem dL_law_673 : decode cL_law 673 = .ok (.laload, 1) := by decide +kernel
theorem dL_law_674 : decode cL_law 674 = .ok (.iload 6, 2) := by decide +kernel
theorem dL_law_676 : decode cL_law 676 = .ok (.i2l, 1) := by decide +kernel
theorem dL_law_677 : decode cL_law 677 = .ok (.lcmp, 1) := by decide +kernel
theorem dL_law_678 : decode cL_law 678 = .ok (.ifCond .eq 5, 3) := by decide +kernel
theorem dL_law_681 : decode cL_law 681 = .ok (.iconst 0, 1) := by decide +kernel
theorem dL_law_682 : decode cL_law 682 = .ok (.ireturn, 1) := by decide +kernel
theorem dL_law_683 : decode cL_law 683 = .ok (.goto 834, 3) := by decide +kernel
theorem dL_law_686 : decode cL_law 686 = .ok (.aload_n 1, 1) := by decide +kernel
theorem dL_law_687 : decode cL_law 687 = .ok (.aload_n 0, 1) := by decide +kernel
theorem dL_law_688 : decode cL_law 688 = .ok (.iload 4, 2) := by decide +kernel
theorem dL_law_690 : decode cL_law 690 = .ok (.iconst 1, 1) := by decide +kernel
theorem dL_law_691 : decode cL_law 691 = .ok (.iadd, 1) := by decide +kernel
theorem dL_law_692 : decode cL_law 692 = .ok (.iaload, 1) := by decide +kernel
theorem dL_law_693 : decode cL_law 693 = .ok (.aload_n 0, 1) := by decide +kernel
theorem dL_law_694 : decode cL_law 694 = .ok (.iload 4, 2) := by decide +kernel
theorem dL_law_696 : decode cL_law 696 = .ok (.iconst 2, 1) := by decide +kernel
theorem dL_law_697 : decode cL_law 697 = .ok (.iadd, 1) := by decide +kernel
theorem dL_law_698 : decode cL_law 698 = .ok (.iaload, 1) := by decide +kernel
theorem dL_law_699 : decode cL_law 699 = .ok (.aload_n 3, 1) := by decide +kernel
theorem dL_law_700 : decode cL_law 700 = .ok (.invokestatic 119, 3) := by decide +kernel
theorem dL_law_703 : decode cL_law 703 = .ok (.istore 5, 2) := by decide +kernel
theorem dL_law_705 : decode cL_law 705 = .ok (.aload_n 2, 1) := by decide +kernel
theorem dL_law_706 : decode cL_law 706 = .ok (.aload_n 0, 1) := by decide +kernel
theorem dL_law_707 : decode cL_law 707 = .ok (.iload 4, 2) := by decide +kernel
theorem dL_law_709 : decode cL_law 709 = .ok (.iconst 1, 1) := by decide +kernel
theorem dL_law_710 : decode cL_law 710 = .ok (.iadd, 1) := by decide +kernel
theorem dL_law_711 : decode cL_law 711 = .ok (.iaload, 1) := by decide +kernel
theorem dL_law_712 : decode cL_law 712 = .ok (.aload_n 0, 1) := by decide +kernel
theorem dL_law_713 : decode cL_law 713 = .ok (.iload 4, 2) := by decide +kernel
theorem dL_law_715 : decode cL_law 715 = .ok (.iconst 2, 1) := by decide +kernel
theorem dL_law_716 : decode cL_law 716 = .ok (.iadd, 1) := by decide +kernel
theorem dL_law_717 : decode cL_law 717 = .ok (.iaload, 1) := by decide +kernel
theorem dL_law_718 : decode cL_law 718 = .ok (.invokevirtual 121, 3) := by decide +kernel
theorem dL_law_721 : decode cL_law 721 = .ok (.istore 6, 2) := by decide +kernel
theorem dL_law_723 : decode cL_law 723 = .ok (.aload_n 2, 1) := by decide +kernel
theorem dL_law_724 : decode cL_law 724 = .ok (.invokevirtual 92, 3) := by decide +kernel
theorem dL_law_727 : decode cL_law 727 = .ok (.iload 5, 2) := by decide +kernel
theorem dL_law_729 : decode cL_law 729 = .ok (.if_icmp .eq 5, 3) := by decide +kernel
theorem dL_law_732 : decode cL_law 732 = .ok (.iconst 0, 1) := by decide +kernel
theorem dL_law_733 : decode cL_law 733 = .ok (.ireturn, 1) := by decide +kernel
theorem dL_law_734 : decode cL_law 734 = .ok (.iload 5, 2) := by decide +kernel
theorem dL_law_736 : decode cL_law 736 = .ok (.ifCond .ne 15, 3) := by decide +kernel
theorem dL_law_739 : decode cL_law 739 = .ok (.aload_n 3, 1) := by decide +kernel
theorem dL_law_740 : decode cL_law 740 = .ok (.iconst 0, 1) := by decide +kernel
theorem dL_law_741 : decode cL_law 741 = .ok (.laload, 1) := by decide +kernel
theorem dL_law_742 : decode cL_law 742 = .ok (.iload 6, 2) := by decide +kernel
theorem dL_law_744 : decode cL_law 744 = .ok (.i2l, 1) := by decide +kernel
theorem dL_law_745 : decode cL_law 745 = .ok (.lcmp, 1) := by decide +kernel
theorem dL_law_746 : decode cL_law 746 = .ok (.ifCond .eq 5, 3) := by decide +kernel
theorem dL_law_749 : decode cL_law 749 = .ok (.iconst 0, 1) := by decide +kernel
theorem dL_law_750 : decode cL_law 750 = .ok (.ireturn, 1) := by decide +kernel
theorem dL_law_751 : decode cL_law 751 = .ok (.goto 766, 3) := by decide +kernel
theorem dL_law_754 : decode cL_law 754 = .ok (.aload_n 1, 1) := by decide +kernel
theorem dL_law_755 : decode cL_law 755 = .ok (.aload_n 0, 1) := by decide +kernel
theorem dL_law_756 : decode cL_law 756 = .ok (.iload 4, 2) := by decide +kernel
theorem dL_law_758 : decode cL_law 758 = .ok (.iconst 1, 1) := by decide +kernel
theorem dL_law_759 : decode cL_law 759 = .ok (.iadd, 1) := by decide +kernel
theorem dL_law_760 : decode cL_law 760 = .ok (.iaload, 1) := by decide +kernel
theorem dL_law_761 : decode cL_law 761 = .ok (.aload_n 0, 1) := by decide +kernel
theorem dL_law_762 : decode cL_law 762 = .ok (.iload 4, 2) := by decide +kernel
theorem dL_law_764 : decode cL_law 764 = .ok (.iconst 2, 1) := by decide +kernel
theorem dL_law_765 : decode cL_law 765 = .ok (.iadd, 1) := by decide +kernel
theorem dL_law_766 : decode cL_law 766 = .ok (.iaload, 1) := by decide +kernel
theorem dL_law_767 : decode cL_law 767 = .ok (.aload_n 3, 1) := by decide +kernel
theorem dL_law_768 : decode cL_law 768 = .ok (.invokestatic 122, 3) := by decide +kernel
theorem dL_law_771 : decode cL_law 771 = .ok (.istore 5, 2) := by decide +kernel
theorem dL_law_773 : decode cL_law 773 = .ok (.aload_n 2, 1) := by decide +kernel
theorem dL_law_774 : decode cL_law 774 = .ok (.aload_n 0, 1) := by decide +kernel
theorem dL_law_775 : decode cL_law 775 = .ok (.iload 4, 2) := by decide +kernel
theorem dL_law_777 : decode cL_law 777 = .ok (.iconst 1, 1) := by decide +kernel
theorem dL_law_778 : decode cL_law 778 = .ok (.iadd, 1) := by decide +kernel
theorem dL_law_779 : decode cL_law 779 = .ok (.iaload, 1) := by decide +kernel
theorem dL_law_780 : decode cL_law 780 = .ok (.aload_n 0, 1) := by decide +kernel
theorem dL_law_781 : decode cL_law 781 = .ok (.iload 4, 2) := by decide +kernel
theorem dL_law_783 : decode cL_law 783 = .ok (.iconst 2, 1) := by decide +kernel
theorem dL_law_784 : decode cL_law 784 = .ok (.iadd, 1) := by decide +kernel
theorem dL_law_785 : decode cL_law 785 = .ok (.iaload, 1) := by decide +kernel
theorem dL_law_786 : decode cL_law 786 = .ok (.invokevirtual 124, 3) := by decide +kernel
theorem dL_law_789 : decode cL_law 789 = .ok (.istore 6, 2) := by decide +kernel
theorem dL_law_791 : decode cL_law 791 = .ok (.aload_n 2, 1) := by decide +kernel
theorem dL_law_792 : decode cL_law 792 = .ok (.invokevirtual 92, 3) := by decide +kernel
theorem dL_law_795 : decode cL_law 795 = .ok (.iload 5, 2) := by decide +kernel
theorem dL_law_797 : decode cL_law 797 = .ok (.if_icmp .eq 5, 3) := by decide +kernel
theorem dL_law_800 : decode cL_law 800 = .ok (.iconst 0, 1) := by decide +kernel
theorem dL_law_801 : decode cL_law 801 = .ok (.ireturn, 1) := by decide +kernel
theorem dL_law_802 : decode cL_law 802 = .ok (.iload 5, 2) := by decide +kernel
theorem dL_law_804 : decode cL_law 804 = .ok (.ifCond .ne 15, 3) := by decide +kernel
theorem dL_law_807 : decode cL_law 807 = .ok (.aload_n 3, 1) := by decide +kernel
theorem dL_law_808 : decode cL_law 808 = .ok (.iconst 0, 1) := by decide +kernel
theorem dL_law_809 : decode cL_law 809 = .ok (.laload, 1) := by decide +kernel
theorem dL_law_810 : decode cL_law 810 = .ok (.iload 6, 2) := by decide +kernel
theorem dL_law_812 : decode cL_law 812 = .ok (.i2l, 1) := by decide +kernel
theorem dL_law_813 : decode cL_law 813 = .ok (.lcmp, 1) := by decide +kernel
theorem dL_law_814 : decode cL_law 814 = .ok (.ifCond .eq 5, 3) := by decide +kernel
theorem dL_law_817 : decode cL_law 817 = .ok (.iconst 0, 1) := by decide +kernel
theorem dL_law_818 : decode cL_law 818 = .ok (.ireturn, 1) := by decide +kernel
theorem dL_law_819 : decode cL_law 819 = .ok (.goto 698, 3) := by decide +kernel
theorem dL_law_822 : decode cL_law 822 = .ok (.aload_n 1, 1) := by decide +kernel
theorem dL_law_823 : decode cL_law 823 = .ok (.aload_n 0, 1) := by decide +kernel
theorem dL_law_824 : decode cL_law 824 = .ok (.iload 4, 2) := by decide +kernel
theorem dL_law_826 : decode cL_law 826 = .ok (.iconst 1, 1) := by decide +kernel
theorem dL_law_827 : decode cL_law 827 = .ok (.iadd, 1) := by decide +kernel
theorem dL_law_828 : decode cL_law 828 = .ok (.iaload, 1) := by decide +kernel
theorem dL_law_829 : decode cL_law 829 = .ok (.aload_n 0, 1) := by decide +kernel
theorem dL_law_830 : decode cL_law 830 = .ok (.iload 4, 2) := by decide +kernel
theorem dL_law_832 : decode cL_law 832 = .ok (.iconst 2, 1) := by decide +kernel
theorem dL_law_833 : decode cL_law 833 = .ok (.iadd, 1) := by decide +kernel
theorem dL_law_834 : decode cL_law 834 = .ok (.iaload, 1) := by decide +kernel
theorem dL_law_835 : decode cL_law 835 = .ok (.aload_n 0, 1) := by decide +kernel
theorem dL_law_836 : decode cL_law 836 = .ok (.iload 4, 2) := by decide +kernel
theorem dL_law_838 : decode cL_law 838 = .ok (.iconst 3, 1) := by decide +kernel
theorem dL_law_839 : decode cL_law 839 = .ok (.iadd, 1) := by decide +kernel
theorem dL_law_840 : decode cL_law 840 = .ok (.iaload, 1) := by decide +kernel
theorem dL_law_841 : decode cL_law 841 = .ok (.aload_n 3, 1) := by decide +kernel
theorem dL_law_842 : decode cL_law 842 = .ok (.invokestatic 125, 3) := by decide +kernel
theorem dL_law_845 : decode cL_law 845 = .ok (.istore 5, 2) := by decide +kernel
theorem dL_law_847 : decode cL_law 847 = .ok (.aload_n 2, 1) := by decide +kernel
theorem dL_law_848 : decode cL_law 848 = .ok (.aload_n 0, 1) := by decide +kernel
theorem dL_law_849 : decode cL_law 849 = .ok (.iload 4, 2) := by decide +kernel
theorem dL_law_851 : decode cL_law 851 = .ok (.iconst 1, 1) := by decide +kernel
theorem dL_law_852 : decode cL_law 852 = .ok (.iadd, 1) := by decide +kernel
theorem dL_law_853 : decode cL_law 853 = .ok (.iaload, 1) := by decide +kernel
theorem dL_law_854 : decode cL_law 854 = .ok (.aload_n 0, 1) := by decide +kernel
theorem dL_law_855 : decode cL_law 855 = .ok (.iload 4, 2) := by decide +kernel
theorem dL_law_857 : decode cL_law 857 = .ok (.iconst 2, 1) := by decide +kernel
theorem dL_law_858 : decode cL_law 858 = .ok (.iadd, 1) := by decide +kernel
theorem dL_law_859 : decode cL_law 859 = .ok (.iaload, 1) := by decide +kernel
theorem dL_law_860 : decode cL_law 860 = .ok (.aload_n 0, 1) := by decide +kernel
theorem dL_law_861 : decode cL_law 861 = .ok (.iload 4, 2) := by decide +kernel
theorem dL_law_863 : decode cL_law 863 = .ok (.iconst 3, 1) := by decide +kernel
theorem dL_law_864 : decode cL_law 864 = .ok (.iadd, 1) := by decide +kernel
theorem dL_law_865 : decode cL_law 865 = .ok (.iaload, 1) := by decide +kernel
theorem dL_law_866 : decode cL_law 866 = .ok (.invokevirtual 128, 3) := by decide +kernel
theorem dL_law_869 : decode cL_law 869 = .ok (.istore 6, 2) := by decide +kernel
theorem dL_law_871 : decode cL_law 871 = .ok (.aload_n 2, 1) := by decide +kernel
theorem dL_law_872 : decode cL_law 872 = .ok (.invokevirtual 92, 3) := by decide +kernel
theorem dL_law_875 : decode cL_law 875 = .ok (.iload 5, 2) := by decide +kernel
theorem dL_law_877 : decode cL_law 877 = .ok (.if_icmp .eq 5, 3) := by decide +kernel
theorem dL_law_880 : decode cL_law 880 = .ok (.iconst 0, 1) := by decide +kernel
theorem dL_law_881 : decode cL_law 881 = .ok (.ireturn, 1) := by decide +kernel
theorem dL_law_882 : decode cL_law 882 = .ok (.iload 5, 2) := by decide +kernel
theorem dL_law_884 : decode cL_law 884 = .ok (.ifCond .ne 15, 3) := by decide +kernel
theorem dL_law_887 : decode cL_law 887 = .ok (.aload_n 3, 1) := by decide +kernel
theorem dL_law_888 : decode cL_law 888 = .ok (.iconst 0, 1) := by decide +kernel
theorem dL_law_889 : decode cL_law 889 = .ok (.laload, 1) := by decide +kernel
theorem dL_law_890 : decode cL_law 890 = .ok (.iload 6, 2) := by decide +kernel
theorem dL_law_892 : decode cL_law 892 = .ok (.i2l, 1) := by decide +kernel
theorem dL_law_893 : decode cL_law 893 = .ok (.lcmp, 1) := by decide +kernel
theorem dL_law_894 : decode cL_law 894 = .ok (.ifCond .eq 5, 3) := by decide +kernel
theorem dL_law_897 : decode cL_law 897 = .ok (.iconst 0, 1) := by decide +kernel
theorem dL_law_898 : decode cL_law 898 = .ok (.ireturn, 1) := by decide +kernel
theorem dL_law_899 : decode cL_law 899 = .ok (.goto 618, 3) := by decide +kernel
theorem dL_law_902 : decode cL_law 902 = .ok (.aload_n 1, 1) := by decide +kernel
theorem dL_law_903 : decode cL_law 903 = .ok (.aload_n 0, 1) := by decide +kernel
theorem dL_law_904 : decode cL_law 904 = .ok (.iload 4, 2) := by decide +kernel
theorem dL_law_906 : decode cL_law 906 = .ok (.iconst 1, 1) := by decide +kernel
theorem dL_law_907 : decode cL_law 907 = .ok (.iadd, 1) := by decide +kernel
theorem dL_law_908 : decode cL_law 908 = .ok (.iaload, 1) := by decide +kernel
theorem dL_law_909 : decode cL_law 909 = .ok (.aload_n 0, 1) := by decide +kernel
theorem dL_law_910 : decode cL_law 910 = .ok (.iload 4, 2) := by decide +kernel
theorem dL_law_912 : decode cL_law 912 = .ok (.iconst 2, 1) := by decide +kernel
theorem dL_law_913 : decode cL_law 913 = .ok (.iadd, 1) := by decide +kernel
theorem dL_law_914 : decode cL_law 914 = .ok (.iaload, 1) := by decide +kernel
theorem dL_law_915 : decode cL_law 915 = .ok (.aload_n 3, 1) := by decide +kernel
theorem dL_law_916 : decode cL_law 916 = .ok (.invokestatic 129, 3) := by decide +kernel
theorem dL_law_919 : decode cL_law 919 = .ok (.istore 5, 2) := by decide +kernel
theorem dL_law_921 : decode cL_law 921 = .ok (.aload_n 2, 1) := by decide +kernel
theorem dL_law_922 : decode cL_law 922 = .ok (.aload_n 0, 1) := by decide +kernel
theorem dL_law_923 : decode cL_law 923 = .ok (.iload 4, 2) := by decide +kernel
theorem dL_law_925 : decode cL_law 925 = .ok (.iconst 1, 1) := by decide +kernel
theorem dL_law_926 : decode cL_law 926 = .ok (.iadd, 1) := by decide +kernel
theorem dL_law_927 : decode cL_law 927 = .ok (.iaload, 1) := by decide +kernel
theorem dL_law_928 : decode cL_law 928 = .ok (.aload_n 0, 1) := by decide +kernel
theorem dL_law_929 : decode cL_law 929 = .ok (.iload 4, 2) := by decide +kernel
theorem dL_law_931 : decode cL_law 931 = .ok (.iconst 2, 1) := by decide +kernel
theorem dL_law_932 : decode cL_law 932 = .ok (.iadd, 1) := by decide +kernel
theorem dL_law_933 : decode cL_law 933 = .ok (.iaload, 1) := by decide +kernel
theorem dL_law_934 : decode cL_law 934 = .ok (.invokevirtual 131, 3) := by decide +kernel
theorem dL_law_937 : decode cL_law 937 = .ok (.istore 6, 2) := by decide +kernel
theorem dL_law_939 : decode cL_law 939 = .ok (.aload_n 2, 1) := by decide +kernel
theorem dL_law_940 : decode cL_law 940 = .ok (.invokevirtual 92, 3) := by decide +kernel
theorem dL_law_943 : decode cL_law 943 = .ok (.iload 5, 2) := by decide +kernel
theorem dL_law_945 : decode cL_law 945 = .ok (.if_icmp .eq 5, 3) := by decide +kernel
theorem dL_law_948 : decode cL_law 948 = .ok (.iconst 0, 1) := by decide +kernel
theorem dL_law_949 : decode cL_law 949 = .ok (.ireturn, 1) := by decide +kernel
theorem dL_law_950 : decode cL_law 950 = .ok (.iload 5, 2) := by decide +kernel
theorem dL_law_952 : decode cL_law 952 = .ok (.ifCond .ne 15, 3) := by decide +kernel
theorem dL_law_955 : decode cL_law 955 = .ok (.aload_n 3, 1) := by decide +kernel
theorem dL_law_956 : decode cL_law 956 = .ok (.iconst 0, 1) := by decide +kernel
theorem dL_law_957 : decode cL_law 957 = .ok (.laload, 1) := by decide +kernel
theorem dL_law_958 : decode cL_law 958 = .ok (.iload 6, 2) := by decide +kernel
theorem dL_law_960 : decode cL_law 960 = .ok (.i2l, 1) := by decide +kernel
theorem dL_law_961 : decode cL_law 961 = .ok (.lcmp, 1) := by decide +kernel
theorem dL_law_962 : decode cL_law 962 = .ok (.ifCond .eq 5, 3) := by decide +kernel
theorem dL_law_965 : decode cL_law 965 = .ok (.iconst 0, 1) := by decide +kernel
theorem dL_law_966 : decode cL_law 966 = .ok (.ireturn, 1) := by decide +kernel
theorem dL_law_967 : decode cL_law 967 = .ok (.goto 550, 3) := by decide +kernel
theorem dL_law_970 : decode cL_law 970 = .ok (.aload_n 1, 1) := by decide +kernel
theorem dL_law_971 : decode cL_law 971 = .ok (.aload_n 0, 1) := by decide +kernel
theorem dL_law_972 : decode cL_law 972 = .ok (.iload 4, 2) := by decide +kernel
theorem dL_law_974 : decode cL_law 974 = .ok (.iconst 1, 1) := by decide +kernel
theorem dL_law_975 : decode cL_law 975 = .ok (.iadd, 1) := by decide +kernel
theorem dL_law_976 : decode cL_law 976 = .ok (.iaload, 1) := by decide +kernel
theorem dL_law_977 : decode cL_law 977 = .ok (.aload_n 3, 1) := by decide +kernel
theorem dL_law_978 : decode cL_law 978 = .ok (.invokestatic 132, 3) := by decide +kernel
theorem dL_law_981 : decode cL_law 981 = .ok (.istore 5, 2) := by decide +kernel
theorem dL_law_983 : decode cL_law 983 = .ok (.aload_n 2, 1) := by decide +kernel
theorem dL_law_984 : decode cL_law 984 = .ok (.aload_n 0, 1) := by decide +kernel
theorem dL_law_985 : decode cL_law 985 = .ok (.iload 4, 2) := by decide +kernel
theorem dL_law_987 : decode cL_law 987 = .ok (.iconst 1, 1) := by decide +kernel
theorem dL_law_988 : decode cL_law 988 = .ok (.iadd, 1) := by decide +kernel
theorem dL_law_989 : decode cL_law 989 = .ok (.iaload, 1) := by decide +kernel
theorem dL_law_990 : decode cL_law 990 = .ok (.invokevirtual 134, 3) := by decide +kernel
theorem dL_law_993 : decode cL_law 993 = .ok (.istore 6, 2) := by decide +kernel
theorem dL_law_995 : decode cL_law 995 = .ok (.aload_n 2, 1) := by decide +kernel
theorem dL_law_996 : decode cL_law 996 = .ok (.invokevirtual 92, 3) := by decide +kernel
theorem dL_law_999 : decode cL_law 999 = .ok (.iload 5, 2) := by decide +kernel
theorem dL_law_1001 : decode cL_law 1001 = .ok (.if_icmp .eq 5, 3) := by decide +kernel
theorem dL_law_1004 : decode cL_law 1004 = .ok (.iconst 0, 1) := by decide +kernel
theorem dL_law_1005 : decode cL_law 1005 = .ok (.ireturn, 1) := by decide +kernel
theorem dL_law_1006 : decode cL_law 1006 = .ok (.iload 5, 2) := by decide +kernel
theorem dL_law_1008 : decode cL_law 1008 = .ok (.ifCond .ne 15, 3) := by decide +kernel
theorem dL_law_1011 : decode cL_law 1011 = .ok (.aload_n 3, 1) := by decide +kernel
theorem dL_law_1012 : decode cL_law 1012 = .ok (.iconst 0, 1) := by decide +kernel
theorem dL_law_1013 : decode cL_law 1013 = .ok (.laload, 1) := by decide +kernel
theorem dL_law_1014 : decode cL_law 1014 = .ok (.iload 6, 2) := by decide +kernel
theorem dL_law_1016 : decode cL_law 1016 = .ok (.i2l, 1) := by decide +kernel
theorem dL_law_1017 : decode cL_law 1017 = .ok (.lcmp, 1) := by decide +kernel
theorem dL_law_1018 : decode cL_law 1018 = .ok (.ifCond .eq 5, 3) := by decide +kernel
theorem dL_law_1021 : decode cL_law 1021 = .ok (.iconst 0, 1) := by decide +kernel
theorem dL_law_1022 : decode cL_law 1022 = .ok (.ireturn, 1) := by decide +kernel
theorem dL_law_1023 : decode cL_law 1023 = .ok (.goto 494, 3) := by decide +kernel
theorem dL_law_1026 : decode cL_law 1026 = .ok (.aload_n 1, 1) := by decide +kernel
theorem dL_law_1027 : decode cL_law 1027 = .ok (.aload_n 0, 1) := by decide +kernel
theorem dL_law_1028 : decode cL_law 1028 = .ok (.iload 4, 2) := by decide +kernel
theorem dL_law_1030 : decode cL_law 1030 = .ok (.iconst 1, 1) := by decide +kernel
theorem dL_law_1031 : decode cL_law 1031 = .ok (.iadd, 1) := by decide +kernel
theorem dL_law_1032 : decode cL_law 1032 = .ok (.iaload, 1) := by decide +kernel
theorem dL_law_1033 : decode cL_law 1033 = .ok (.aload_n 0, 1) := by decide +kernel
theorem dL_law_1034 : decode cL_law 1034 = .ok (.iload 4, 2) := by decide +kernel
theorem dL_law_1036 : decode cL_law 1036 = .ok (.iconst 2, 1) := by decide +kernel
theorem dL_law_1037 : decode cL_law 1037 = .ok (.iadd, 1) := by decide +kernel
theorem dL_law_1038 : decode cL_law 1038 = .ok (.iaload, 1) := by decide +kernel
theorem dL_law_1039 : decode cL_law 1039 = .ok (.aload_n 3, 1) := by decide +kernel
theorem dL_law_1040 : decode cL_law 1040 = .ok (.invokestatic 135, 3) := by decide +kernel
theorem dL_law_1043 : decode cL_law 1043 = .ok (.istore 5, 2) := by decide +kernel
theorem dL_law_1045 : decode cL_law 1045 = .ok (.aload_n 2, 1) := by decide +kernel
theorem dL_law_1046 : decode cL_law 1046 = .ok (.aload_n 0, 1) := by decide +kernel
theorem dL_law_1047 : decode cL_law 1047 = .ok (.iload 4, 2) := by decide +kernel
theorem dL_law_1049 : decode cL_law 1049 = .ok (.iconst 1, 1) := by decide +kernel
theorem dL_law_1050 : decode cL_law 1050 = .ok (.iadd, 1) := by decide +kernel
theorem dL_law_1051 : decode cL_law 1051 = .ok (.iaload, 1) := by decide +kernel
theorem dL_law_1052 : decode cL_law 1052 = .ok (.aload_n 0, 1) := by decide +kernel
theorem dL_law_1053 : decode cL_law 1053 = .ok (.iload 4, 2) := by decide +kernel
theorem dL_law_1055 : decode cL_law 1055 = .ok (.iconst 2, 1) := by decide +kernel
theorem dL_law_1056 : decode cL_law 1056 = .ok (.iadd, 1) := by decide +kernel
theorem dL_law_1057 : decode cL_law 1057 = .ok (.iaload, 1) := by decide +kernel
theorem dL_law_1058 : decode cL_law 1058 = .ok (.invokevirtual 137, 3) := by decide +kernel
theorem dL_law_1061 : decode cL_law 1061 = .ok (.istore 6, 2) := by decide +kernel
theorem dL_law_1063 : decode cL_law 1063 = .ok (.aload_n 2, 1) := by decide +kernel
theorem dL_law_1064 : decode cL_law 1064 = .ok (.invokevirtual 92, 3) := by decide +kernel
theorem dL_law_1067 : decode cL_law 1067 = .ok (.iload 5, 2) := by decide +kernel
theorem dL_law_1069 : decode cL_law 1069 = .ok (.if_icmp .eq 5, 3) := by decide +kernel
theorem dL_law_1072 : decode cL_law 1072 = .ok (.iconst 0, 1) := by decide +kernel
theorem dL_law_1073 : decode cL_law 1073 = .ok (.ireturn, 1) := by decide +kernel
theorem dL_law_1074 : decode cL_law 1074 = .ok (.iload 5, 2) := by decide +kernel
theorem dL_law_1076 : decode cL_law 1076 = .ok (.ifCond .ne 15, 3) := by decide +kernel
theorem dL_law_1079 : decode cL_law 1079 = .ok (.aload_n 3, 1) := by decide +kernel
theorem dL_law_1080 : decode cL_law 1080 = .ok (.iconst 0, 1) := by decide +kernel
theorem dL_law_1081 : decode cL_law 1081 = .ok (.laload, 1) := by decide +kernel
theorem dL_law_1082 : decode cL_law 1082 = .ok (.iload 6, 2) := by decide +kernel
theorem dL_law_1084 : decode cL_law 1084 = .ok (.i2l, 1) := by decide +kernel
theorem dL_law_1085 : decode cL_law 1085 = .ok (.lcmp, 1) := by decide +kernel
theorem dL_law_1086 : decode cL_law 1086 = .ok (.ifCond .eq 5, 3) := by decide +kernel
theorem dL_law_1089 : decode cL_law 1089 = .ok (.iconst 0, 1) := by decide +kernel
theorem dL_law_1090 : decode cL_law 1090 = .ok (.ireturn, 1) := by decide +kernel
theorem dL_law_1091 : decode cL_law 1091 = .ok (.goto 426, 3) := by decide +kernel
theorem dL_law_1094 : decode cL_law 1094 = .ok (.aload_n 1, 1) := by decide +kernel
theorem dL_law_1095 : decode cL_law 1095 = .ok (.aload_n 0, 1) := by decide +kernel
theorem dL_law_1096 : decode cL_law 1096 = .ok (.iload 4, 2) := by decide +kernel
theorem dL_law_1098 : decode cL_law 1098 = .ok (.iconst 1, 1) := by decide +kernel
theorem dL_law_1099 : decode cL_law 1099 = .ok (.iadd, 1) := by decide +kernel
theorem dL_law_1100 : decode cL_law 1100 = .ok (.iaload, 1) := by decide +kernel
theorem dL_law_1101 : decode cL_law 1101 = .ok (.aload_n 3, 1) := by decide +kernel
theorem dL_law_1102 : decode cL_law 1102 = .ok (.invokestatic 138, 3) := by decide +kernel
theorem dL_law_1105 : decode cL_law 1105 = .ok (.istore 5, 2) := by decide +kernel
theorem dL_law_1107 : decode cL_law 1107 = .ok (.aload_n 2, 1) := by decide +kernel
theorem dL_law_1108 : decode cL_law 1108 = .ok (.aload_n 0, 1) := by decide +kernel
theorem dL_law_1109 : decode cL_law 1109 = .ok (.iload 4, 2) := by decide +kernel
theorem dL_law_1111 : decode cL_law 1111 = .ok (.iconst 1, 1) := by decide +kernel
theorem dL_law_1112 : decode cL_law 1112 = .ok (.iadd, 1) := by decide +kernel
theorem dL_law_1113 : decode cL_law 1113 = .ok (.iaload, 1) := by decide +kernel
theorem dL_law_1114 : decode cL_law 1114 = .ok (.invokevirtual 140, 3) := by decide +kernel
theorem dL_law_1117 : decode cL_law 1117 = .ok (.istore 6, 2) := by decide +kernel
theorem dL_law_1119 : decode cL_law 1119 = .ok (.aload_n 2, 1) := by decide +kernel
theorem dL_law_1120 : decode cL_law 1120 = .ok (.invokevirtual 92, 3) := by decide +kernel
theorem dL_law_1123 : decode cL_law 1123 = .ok (.iload 5, 2) := by decide +kernel
theorem dL_law_1125 : decode cL_law 1125 = .ok (.if_icmp .eq 5, 3) := by decide +kernel
theorem dL_law_1128 : decode cL_law 1128 = .ok (.iconst 0, 1) := by decide +kernel
theorem dL_law_1129 : decode cL_law 1129 = .ok (.ireturn, 1) := by decide +kernel
theorem dL_law_1130 : decode cL_law 1130 = .ok (.iload 5, 2) := by decide +kernel
theorem dL_law_1132 : decode cL_law 1132 = .ok (.ifCond .ne 15, 3) := by decide +kernel
theorem dL_law_1135 : decode cL_law 1135 = .ok (.aload_n 3, 1) := by decide +kernel
theorem dL_law_1136 : decode cL_law 1136 = .ok (.iconst 0, 1) := by decide +kernel
theorem dL_law_1137 : decode cL_law 1137 = .ok (.laload, 1) := by decide +kernel
theorem dL_law_1138 : decode cL_law 1138 = .ok (.iload 6, 2) := by decide +kernel
theorem dL_law_1140 : decode cL_law 1140 = .ok (.i2l, 1) := by decide +kernel
theorem dL_law_1141 : decode cL_law 1141 = .ok (.lcmp, 1) := by decide +kernel
theorem dL_law_1142 : decode cL_law 1142 = .ok (.ifCond .eq 5, 3) := by decide +kernel
theorem dL_law_1145 : decode cL_law 1145 = .ok (.iconst 0, 1) := by decide +kernel
theorem dL_law_1146 : decode cL_law 1146 = .ok (.ireturn, 1) := by decide +kernel
theorem dL_law_1147 : decode cL_law 1147 = .ok (.goto 370, 3) := by decide +kernel
theorem dL_law_1150 : decode cL_law 1150 = .ok (.aload_n 1, 1) := by decide +kernel
theorem dL_law_1151 : decode cL_law 1151 = .ok (.aload_n 0, 1) := by decide +kernel
theorem dL_law_1152 : decode cL_law 1152 = .ok (.iload 4, 2) := by decide +kernel
theorem dL_law_1154 : decode cL_law 1154 = .ok (.iconst 1, 1) := by decide +kernel
theorem dL_law_1155 : decode cL_law 1155 = .ok (.iadd, 1) := by decide +kernel
theorem dL_law_1156 : decode cL_law 1156 = .ok (.iaload, 1) := by decide +kernel
theorem dL_law_1157 : decode cL_law 1157 = .ok (.aload_n 3, 1) := by decide +kernel
theorem dL_law_1158 : decode cL_law 1158 = .ok (.invokestatic 141, 3) := by decide +kernel
theorem dL_law_1161 : decode cL_law 1161 = .ok (.istore 5, 2) := by decide +kernel
theorem dL_law_1163 : decode cL_law 1163 = .ok (.aload_n 2, 1) := by decide +kernel
theorem dL_law_1164 : decode cL_law 1164 = .ok (.aload_n 0, 1) := by decide +kernel
theorem dL_law_1165 : decode cL_law 1165 = .ok (.iload 4, 2) := by decide +kernel
theorem dL_law_1167 : decode cL_law 1167 = .ok (.iconst 1, 1) := by decide +kernel
theorem dL_law_1168 : decode cL_law 1168 = .ok (.iadd, 1) := by decide +kernel
theorem dL_law_1169 : decode cL_law 1169 = .ok (.iaload, 1) := by decide +kernel
theorem dL_law_1170 : decode cL_law 1170 = .ok (.invokevirtual 143, 3) := by decide +kernel
theorem dL_law_1173 : decode cL_law 1173 = .ok (.istore 6, 2) := by decide +kernel
theorem dL_law_1175 : decode cL_law 1175 = .ok (.aload_n 2, 1) := by decide +kernel
theorem dL_law_1176 : decode cL_law 1176 = .ok (.invokevirtual 92, 3) := by decide +kernel
theorem dL_law_1179 : decode cL_law 1179 = .ok (.iload 5, 2) := by decide +kernel
theorem dL_law_1181 : decode cL_law 1181 = .ok (.if_icmp .eq 5, 3) := by decide +kernel
theorem dL_law_1184 : decode cL_law 1184 = .ok (.iconst 0, 1) := by decide +kernel
theorem dL_law_1185 : decode cL_law 1185 = .ok (.ireturn, 1) := by decide +kernel
theorem dL_law_1186 : decode cL_law 1186 = .ok (.iload 5, 2) := by decide +kernel
theorem dL_law_1188 : decode cL_law 1188 = .ok (.ifCond .ne 15, 3) := by decide +kernel
theorem dL_law_1191 : decode cL_law 1191 = .ok (.aload_n 3, 1) := by decide +kernel
theorem dL_law_1192 : decode cL_law 1192 = .ok (.iconst 0, 1) := by decide +kernel
theorem dL_law_1193 : decode cL_law 1193 = .ok (.laload, 1) := by decide +kernel
theorem dL_law_1194 : decode cL_law 1194 = .ok (.iload 6, 2) := by decide +kernel
theorem dL_law_1196 : decode cL_law 1196 = .ok (.i2l, 1) := by decide +kernel
theorem dL_law_1197 : decode cL_law 1197 = .ok (.lcmp, 1) := by decide +kernel
theorem dL_law_1198 : decode cL_law 1198 = .ok (.ifCond .eq 5, 3) := by decide +kernel
theorem dL_law_1201 : decode cL_law 1201 = .ok (.iconst 0, 1) := by decide +kernel
theorem dL_law_1202 : decode cL_law 1202 = .ok (.ireturn, 1) := by decide +kernel
theorem dL_law_1203 : decode cL_law 1203 = .ok (.goto 314, 3) := by decide +kernel
theorem dL_law_1206 : decode cL_law 1206 = .ok (.aload_n 1, 1) := by decide +kernel
theorem dL_law_1207 : decode cL_law 1207 = .ok (.aload_n 0, 1) := by decide +kernel
theorem dL_law_1208 : decode cL_law 1208 = .ok (.iload 4, 2) := by decide +kernel
theorem dL_law_1210 : decode cL_law 1210 = .ok (.iconst 1, 1) := by decide +kernel
theorem dL_law_1211 : decode cL_law 1211 = .ok (.iadd, 1) := by decide +kernel
theorem dL_law_1212 : decode cL_law 1212 = .ok (.iaload, 1) := by decide +kernel
theorem dL_law_1213 : decode cL_law 1213 = .ok (.aload_n 0, 1) := by decide +kernel
theorem dL_law_1214 : decode cL_law 1214 = .ok (.iload 4, 2) := by decide +kernel
theorem dL_law_1216 : decode cL_law 1216 = .ok (.iconst 2, 1) := by decide +kernel
theorem dL_law_1217 : decode cL_law 1217 = .ok (.iadd, 1) := by decide +kernel
theorem dL_law_1218 : decode cL_law 1218 = .ok (.iaload, 1) := by decide +kernel
theorem dL_law_1219 : decode cL_law 1219 = .ok (.aload_n 3, 1) := by decide +kernel
theorem dL_law_1220 : decode cL_law 1220 = .ok (.invokestatic 144, 3) := by decide +kernel
theorem dL_law_1223 : decode cL_law 1223 = .ok (.istore 5, 2) := by decide +kernel
theorem dL_law_1225 : decode cL_law 1225 = .ok (.aload_n 2, 1) := by decide +kernel
theorem dL_law_1226 : decode cL_law 1226 = .ok (.aload_n 0, 1) := by decide +kernel
theorem dL_law_1227 : decode cL_law 1227 = .ok (.iload 4, 2) := by decide +kernel
theorem dL_law_1229 : decode cL_law 1229 = .ok (.iconst 1, 1) := by decide +kernel
theorem dL_law_1230 : decode cL_law 1230 = .ok (.iadd, 1) := by decide +kernel
theorem dL_law_1231 : decode cL_law 1231 = .ok (.iaload, 1) := by decide +kernel
theorem dL_law_1232 : decode cL_law 1232 = .ok (.aload_n 0, 1) := by decide +kernel
theorem dL_law_1233 : decode cL_law 1233 = .ok (.iload 4, 2) := by decide +kernel
theorem dL_law_1235 : decode cL_law 1235 = .ok (.iconst 2, 1) := by decide +kernel
theorem dL_law_1236 : decode cL_law 1236 = .ok (.iadd, 1) := by decide +kernel
theorem dL_law_1237 : decode cL_law 1237 = .ok (.iaload, 1) := by decide +kernel
theorem dL_law_1238 : decode cL_law 1238 = .ok (.invokevirtual 146, 3) := by decide +kernel
theorem dL_law_1241 : decode cL_law 1241 = .ok (.istore 6, 2) := by decide +kernel
theorem dL_law_1243 : decode cL_law 1243 = .ok (.aload_n 2, 1) := by decide +kernel
theorem dL_law_1244 : decode cL_law 1244 = .ok (.invokevirtual 92, 3) := by decide +kernel
theorem dL_law_1247 : decode cL_law 1247 = .ok (.iload 5, 2) := by decide +kernel
theorem dL_law_1249 : decode cL_law 1249 = .ok (.if_icmp .eq 5, 3) := by decide +kernel
theorem dL_law_1252 : decode cL_law 1252 = .ok (.iconst 0, 1) := by decide +kernel
theorem dL_law_1253 : decode cL_law 1253 = .ok (.ireturn, 1) := by decide +kernel
theorem dL_law_1254 : decode cL_law 1254 = .ok (.iload 5, 2) := by decide +kernel
theorem dL_law_1256 : decode cL_law 1256 = .ok (.ifCond .ne 15, 3) := by decide +kernel
theorem dL_law_1259 : decode cL_law 1259 = .ok (.aload_n 3, 1) := by decide +kernel
theorem dL_law_1260 : decode cL_law 1260 = .ok (.iconst 0, 1) := by decide +kernel
theorem dL_law_1261 : decode cL_law 1261 = .ok (.laload, 1) := by decide +kernel
theorem dL_law_1262 : decode cL_law 1262 = .ok (.iload 6, 2) := by decide +kernel
theorem dL_law_1264 : decode cL_law 1264 = .ok (.i2l, 1) := by decide +kernel
theorem dL_law_1265 : decode cL_law 1265 = .ok (.lcmp, 1) := by decide +kernel
theorem dL_law_1266 : decode cL_law 1266 = .ok (.ifCond .eq 5, 3) := by decide +kernel
theorem dL_law_1269 : decode cL_law 1269 = .ok (.iconst 0, 1) := by decide +kernel
theorem dL_law_1270 : decode cL_law 1270 = .ok (.ireturn, 1) := by decide +kernel
theorem dL_law_1271 : decode cL_law 1271 = .ok (.goto 246, 3) := by decide +kernel
theorem dL_law_1274 : decode cL_law 1274 = .ok (.aload_n 1, 1) := by decide +kernel
theorem dL_law_1275 : decode cL_law 1275 = .ok (.aload_n 0, 1) := by decide +kernel
theorem dL_law_1276 : decode cL_law 1276 = .ok (.iload 4, 2) := by decide +kernel
theorem dL_law_1278 : decode cL_law 1278 = .ok (.iconst 1, 1) := by decide +kernel
theorem dL_law_1279 : decode cL_law 1279 = .ok (.iadd, 1) := by decide +kernel
theorem dL_law_1280 : decode cL_law 1280 = .ok (.iaload, 1) := by decide +kernel
theorem dL_law_1281 : decode cL_law 1281 = .ok (.aload_n 0, 1) := by decide +kernel
theorem dL_law_1282 : decode cL_law 1282 = .ok (.iload 4, 2) := by decide +kernel
theorem dL_law_1284 : decode cL_law 1284 = .ok (.iconst 2, 1) := by decide +kernel
theorem dL_law_1285 : decode cL_law 1285 = .ok (.iadd, 1) := by decide +kernel
theorem dL_law_1286 : decode cL_law 1286 = .ok (.iaload, 1) := by decide +kernel
theorem dL_law_1287 : decode cL_law 1287 = .ok (.aload_n 0, 1) := by decide +kernel
theorem dL_law_1288 : decode cL_law 1288 = .ok (.iload 4, 2) := by decide +kernel
theorem dL_law_1290 : decode cL_law 1290 = .ok (.iconst 3, 1) := by decide +kernel
theorem dL_law_1291 : decode cL_law 1291 = .ok (.iadd, 1) := by decide +kernel
theorem dL_law_1292 : decode cL_law 1292 = .ok (.iaload, 1) := by decide +kernel
theorem dL_law_1293 : decode cL_law 1293 = .ok (.aload_n 3, 1) := by decide +kernel
theorem dL_law_1294 : decode cL_law 1294 = .ok (.invokestatic 147, 3) := by decide +kernel
theorem dL_law_1297 : decode cL_law 1297 = .ok (.istore 5, 2) := by decide +kernel
theorem dL_law_1299 : decode cL_law 1299 = .ok (.aload_n 2, 1) := by decide +kernel
theorem dL_law_1300 : decode cL_law 1300 = .ok (.aload_n 0, 1) := by decide +kernel
theorem dL_law_1301 : decode cL_law 1301 = .ok (.iload 4, 2) := by decide +kernel
theorem dL_law_1303 : decode cL_law 1303 = .ok (.iconst 1, 1) := by decide +kernel
theorem dL_law_1304 : decode cL_law 1304 = .ok (.iadd, 1) := by decide +kernel
theorem dL_law_1305 : decode cL_law 1305 = .ok (.iaload, 1) := by decide +kernel
theorem dL_law_1306 : decode cL_law 1306 = .ok (.aload_n 0, 1) := by decide +kernel
theorem dL_law_1307 : decode cL_law 1307 = .ok (.iload 4, 2) := by decide +kernel
theorem dL_law_1309 : decode cL_law 1309 = .ok (.iconst 2, 1) := by decide +kernel
theorem dL_law_1310 : decode cL_law 1310 = .ok (.iadd, 1) := by decide +kernel
theorem dL_law_1311 : decode cL_law 1311 = .ok (.iaload, 1) := by decide +kernel
theorem dL_law_1312 : decode cL_law 1312 = .ok (.aload_n 0, 1) := by decide +kernel
theorem dL_law_1313 : decode cL_law 1313 = .ok (.iload 4, 2) := by decide +kernel
theorem dL_law_1315 : decode cL_law 1315 = .ok (.iconst 3, 1) := by decide +kernel
theorem dL_law_1316 : decode cL_law 1316 = .ok (.iadd, 1) := by decide +kernel
theorem dL_law_1317 : decode cL_law 1317 = .ok (.iaload, 1) := by decide +kernel
theorem dL_law_1318 : decode cL_law 1318 = .ok (.invokevirtual 149, 3) := by decide +kernel
theorem dL_law_1321 : decode cL_law 1321 = .ok (.istore 6, 2) := by decide +kernel
theorem dL_law_1323 : decode cL_law 1323 = .ok (.aload_n 2, 1) := by decide +kernel
theorem dL_law_1324 : decode cL_law 1324 = .ok (.invokevirtual 92, 3) := by decide +kernel
theorem dL_law_1327 : decode cL_law 1327 = .ok (.iload 5, 2) := by decide +kernel
theorem dL_law_1329 : decode cL_law 1329 = .ok (.if_icmp .eq 5, 3) := by decide +kernel
theorem dL_law_1332 : decode cL_law 1332 = .ok (.iconst 0, 1) := by decide +kernel
theorem dL_law_1333 : decode cL_law 1333 = .ok (.ireturn, 1) := by decide +kernel
theorem dL_law_1334 : decode cL_law 1334 = .ok (.iload 5, 2) := by decide +kernel
theorem dL_law_1336 : decode cL_law 1336 = .ok (.ifCond .ne 15, 3) := by decide +kernel
theorem dL_law_1339 : decode cL_law 1339 = .ok (.aload_n 3, 1) := by decide +kernel
theorem dL_law_1340 : decode cL_law 1340 = .ok (.iconst 0, 1) := by decide +kernel
theorem dL_law_1341 : decode cL_law 1341 = .ok (.laload, 1) := by decide +kernel
theorem dL_law_1342 : decode cL_law 1342 = .ok (.iload 6, 2) := by decide +kernel
theorem dL_law_1344 : decode cL_law 1344 = .ok (.i2l, 1) := by decide +kernel
theorem dL_law_1345 : decode cL_law 1345 = .ok (.lcmp, 1) := by decide +kernel
theorem dL_law_1346 : decode cL_law 1346 = .ok (.ifCond .eq 5, 3) := by decide +kernel
theorem dL_law_1349 : decode cL_law 1349 = .ok (.iconst 0, 1) := by decide +kernel
theorem dL_law_1350 : decode cL_law 1350 = .ok (.ireturn, 1) := by decide +kernel
theorem dL_law_1351 : decode cL_law 1351 = .ok (.goto 166, 3) := by decide +kernel
theorem dL_law_1354 : decode cL_law 1354 = .ok (.aload_n 1, 1) := by decide +kernel
theorem dL_law_1355 : decode cL_law 1355 = .ok (.aload_n 0, 1) := by decide +kernel
theorem dL_law_1356 : decode cL_law 1356 = .ok (.iload 4, 2) := by decide +kernel
theorem dL_law_1358 : decode cL_law 1358 = .ok (.iconst 1, 1) := by decide +kernel
theorem dL_law_1359 : decode cL_law 1359 = .ok (.iadd, 1) := by decide +kernel
theorem dL_law_1360 : decode cL_law 1360 = .ok (.iaload, 1) := by decide +kernel
theorem dL_law_1361 : decode cL_law 1361 = .ok (.aload_n 0, 1) := by decide +kernel
theorem dL_law_1362 : decode cL_law 1362 = .ok (.iload 4, 2) := by decide +kernel
theorem dL_law_1364 : decode cL_law 1364 = .ok (.iconst 2, 1) := by decide +kernel
theorem dL_law_1365 : decode cL_law 1365 = .ok (.iadd, 1) := by decide +kernel
theorem dL_law_1366 : decode cL_law 1366 = .ok (.iaload, 1) := by decide +kernel
theorem dL_law_1367 : decode cL_law 1367 = .ok (.aload_n 3, 1) := by decide +kernel
theorem dL_law_1368 : decode cL_law 1368 = .ok (.invokestatic 150, 3) := by decide +kernel
theorem dL_law_1371 : decode cL_law 1371 = .ok (.istore 5, 2) := by decide +kernel
theorem dL_law_1373 : decode cL_law 1373 = .ok (.aload_n 2, 1) := by decide +kernel
theorem dL_law_1374 : decode cL_law 1374 = .ok (.aload_n 0, 1) := by decide +kernel
theorem dL_law_1375 : decode cL_law 1375 = .ok (.iload 4, 2) := by decide +kernel
theorem dL_law_1377 : decode cL_law 1377 = .ok (.iconst 1, 1) := by decide +kernel
theorem dL_law_1378 : decode cL_law 1378 = .ok (.iadd, 1) := by decide +kernel
theorem dL_law_1379 : decode cL_law 1379 = .ok (.iaload, 1) := by decide +kernel
theorem dL_law_1380 : decode cL_law 1380 = .ok (.aload_n 0, 1) := by decide +kernel
theorem dL_law_1381 : decode cL_law 1381 = .ok (.iload 4, 2) := by decide +kernel
theorem dL_law_1383 : decode cL_law 1383 = .ok (.iconst 2, 1) := by decide +kernel
theorem dL_law_1384 : decode cL_law 1384 = .ok (.iadd, 1) := by decide +kernel
theorem dL_law_1385 : decode cL_law 1385 = .ok (.iaload, 1) := by decide +kernel
theorem dL_law_1386 : decode cL_law 1386 = .ok (.invokevirtual 152, 3) := by decide +kernel
theorem dL_law_1389 : decode cL_law 1389 = .ok (.istore 6, 2) := by decide +kernel
theorem dL_law_1391 : decode cL_law 1391 = .ok (.aload_n 2, 1) := by decide +kernel
theorem dL_law_1392 : decode cL_law 1392 = .ok (.invokevirtual 92, 3) := by decide +kernel
theorem dL_law_1395 : decode cL_law 1395 = .ok (.iload 5, 2) := by decide +kernel
theorem dL_law_1397 : decode cL_law 1397 = .ok (.if_icmp .eq 5, 3) := by decide +kernel
theorem dL_law_1400 : decode cL_law 1400 = .ok (.iconst 0, 1) := by decide +kernel
theorem dL_law_1401 : decode cL_law 1401 = .ok (.ireturn, 1) := by decide +kernel
theorem dL_law_1402 : decode cL_law 1402 = .ok (.iload 5, 2) := by decide +kernel
theorem dL_law_1404 : decode cL_law 1404 = .ok (.ifCond .ne 15, 3) := by decide +kernel
theorem dL_law_1407 : decode cL_law 1407 = .ok (.aload_n 3, 1) := by decide +kernel
theorem dL_law_1408 : decode cL_law 1408 = .ok (.iconst 0, 1) := by decide +kernel
theorem dL_law_1409 : decode cL_law 1409 = .ok (.laload, 1) := by decide +kernel
theorem dL_law_1410 : decode cL_law 1410 = .ok (.iload 6, 2) := by decide +kernel
theorem dL_law_1412 : decode cL_law 1412 = .ok (.i2l, 1) := by decide +kernel
theorem dL_law_1413 : decode cL_law 1413 = .ok (.lcmp, 1) := by decide +kernel
theorem dL_law_1414 : decode cL_law 1414 = .ok (.ifCond .eq 5, 3) := by decide +kernel
theorem dL_law_1417 : decode cL_law 1417 = .ok (.iconst 0, 1) := by decide +kernel
theorem dL_law_1418 : decode cL_law 1418 = .ok (.ireturn, 1) := by decide +kernel
theorem dL_law_1419 : decode cL_law 1419 = .ok (.goto 98, 3) := by decide +kernel
theorem dL_law_1422 : decode cL_law 1422 = .ok (.aload_n 1, 1) := by decide +kernel
theorem dL_law_1423 : decode cL_law 1423 = .ok (.aload_n 0, 1) := by decide +kernel
theorem dL_law_1424 : decode cL_law 1424 = .ok (.iload 4, 2) := by decide +kernel
theorem dL_law_1426 : decode cL_law 1426 = .ok (.iconst 1, 1) := by decide +kernel
theorem dL_law_1427 : decode cL_law 1427 = .ok (.iadd, 1) := by decide +kernel
theorem dL_law_1428 : decode cL_law 1428 = .ok (.iaload, 1) := by decide +kernel
theorem dL_law_1429 : decode cL_law 1429 = .ok (.aload_n 0, 1) := by decide +kernel
theorem dL_law_1430 : decode cL_law 1430 = .ok (.iload 4, 2) := by decide +kernel
theorem dL_law_1432 : decode cL_law 1432 = .ok (.iconst 2, 1) := by decide +kernel
theorem dL_law_1433 : decode cL_law 1433 = .ok (.iadd, 1) := by decide +kernel
theorem dL_law_1434 : decode cL_law 1434 = .ok (.iaload, 1) := by decide +kernel
theorem dL_law_1435 : decode cL_law 1435 = .ok (.aload_n 3, 1) := by decide +kernel
theorem dL_law_1436 : decode cL_law 1436 = .ok (.invokestatic 153, 3) := by decide +kernel
theorem dL_law_1439 : decode cL_law 1439 = .ok (.istore 5, 2) := by decide +kernel
theorem dL_law_1441 : decode cL_law 1441 = .ok (.aload_n 2, 1) := by decide +kernel
theorem dL_law_1442 : decode cL_law 1442 = .ok (.aload_n 0, 1) := by decide +kernel
theorem dL_law_1443 : decode cL_law 1443 = .ok (.iload 4, 2) := by decide +kernel
theorem dL_law_1445 : decode cL_law 1445 = .ok (.iconst 1, 1) := by decide +kernel
theorem dL_law_1446 : decode cL_law 1446 = .ok (.iadd, 1) := by decide +kernel
theorem dL_law_1447 : decode cL_law 1447 = .ok (.iaload, 1) := by decide +kernel
theorem dL_law_1448 : decode cL_law 1448 = .ok (.aload_n 0, 1) := by decide +kernel
theorem dL_law_1449 : decode cL_law 1449 = .ok (.iload 4, 2) := by decide +kernel
theorem dL_law_1451 : decode cL_law 1451 = .ok (.iconst 2, 1) := by decide +kernel
theorem dL_law_1452 : decode cL_law 1452 = .ok (.iadd, 1) := by decide +kernel
theorem dL_law_1453 : decode cL_law 1453 = .ok (.iaload, 1) := by decide +kernel
theorem dL_law_1454 : decode cL_law 1454 = .ok (.invokevirtual 155, 3) := by decide +kernel
theorem dL_law_1457 : decode cL_law 1457 = .ok (.istore 6, 2) := by decide +kernel
theorem dL_law_1459 : decode cL_law 1459 = .ok (.aload_n 2, 1) := by decide +kernel
theorem dL_law_1460 : decode cL_law 1460 = .ok (.invokevirtual 92, 3) := by decide +kernel
theorem dL_law_1463 : decode cL_law 1463 = .ok (.iload 5, 2) := by decide +kernel
theorem dL_law_1465 : decode cL_law 1465 = .ok (.if_icmp .eq 5, 3) := by decide +kernel
theorem dL_law_1468 : decode cL_law 1468 = .ok (.iconst 0, 1) := by decide +kernel
theorem dL_law_1469 : decode cL_law 1469 = .ok (.ireturn, 1) := by decide +kernel
theorem dL_law_1470 : decode cL_law 1470 = .ok (.iload 5, 2) := by decide +kernel
theorem dL_law_1472 : decode cL_law 1472 = .ok (.ifCond .ne 15, 3) := by decide +kernel
theorem dL_law_1475 : decode cL_law 1475 = .ok (.aload_n 3, 1) := by decide +kernel
theorem dL_law_1476 : decode cL_law 1476 = .ok (.iconst 0, 1) := by decide +kernel
theorem dL_law_1477 : decode cL_law 1477 = .ok (.laload, 1) := by decide +kernel
theorem dL_law_1478 : decode cL_law 1478 = .ok (.iload 6, 2) := by decide +kernel
theorem dL_law_1480 : decode cL_law 1480 = .ok (.i2l, 1) := by decide +kernel
theorem dL_law_1481 : decode cL_law 1481 = .ok (.lcmp, 1) := by decide +kernel
theorem dL_law_1482 : decode cL_law 1482 = .ok (.ifCond .eq 5, 3) := by decide +kernel
theorem dL_law_1485 : decode cL_law 1485 = .ok (.iconst 0, 1) := by decide +kernel
theorem dL_law_1486 : decode cL_law 1486 = .ok (.ireturn, 1) := by decide +kernel
theorem dL_law_1487 : decode cL_law 1487 = .ok (.goto 30, 3) := by decide +kernel
theorem dL_law_1490 : decode cL_law 1490 = .ok (.aload_n 1, 1) := by decide +kernel
theorem dL_law_1491 : decode cL_law 1491 = .ok (.invokevirtual 156, 3) := by decide +kernel
theorem dL_law_1494 : decode cL_law 1494 = .ok (.aload_n 2, 1) := by decide +kernel
theorem dL_law_1495 : decode cL_law 1495 = .ok (.invokevirtual 159, 3) := by decide +kernel
theorem dL_law_1498 : decode cL_law 1498 = .ok (.if_icmp .eq 19, 3) := by decide +kernel
theorem dL_law_1501 : decode cL_law 1501 = .ok (.iconst 0, 1) := by decide +kernel
theorem dL_law_1502 : decode cL_law 1502 = .ok (.ireturn, 1) := by decide +kernel
theorem dL_law_1503 : decode cL_law 1503 = .ok (.aload_n 1, 1) := by decide +kernel
theorem dL_law_1504 : decode cL_law 1504 = .ok (.invokevirtual 160, 3) := by decide +kernel
theorem dL_law_1507 : decode cL_law 1507 = .ok (.aload_n 2, 1) := by decide +kernel
theorem dL_law_1508 : decode cL_law 1508 = .ok (.invokevirtual 164, 3) := by decide +kernel
theorem dL_law_1511 : decode cL_law 1511 = .ok (.lcmp, 1) := by decide +kernel
theorem dL_law_1512 : decode cL_law 1512 = .ok (.ifCond .eq 5, 3) := by decide +kernel
theorem dL_law_1515 : decode cL_law 1515 = .ok (.iconst 0, 1) := by decide +kernel
theorem dL_law_1516 : decode cL_law 1516 = .ok (.ireturn, 1) := by decide +kernel
theorem dL_law_1517 : decode cL_law 1517 = .ok (.iinc 4 6, 3) := by decide +kernel
theorem dL_law_1520 : decode cL_law 1520 = .ok (.goto (-1497), 3) := by decide +kernel
theorem dL_law_1523 : decode cL_law 1523 = .ok (.iconst 1, 1) := by decide +kernel
theorem dL_law_1524 : decode cL_law 1524 = .ok (.ireturn, 1) := by decide +kernel
