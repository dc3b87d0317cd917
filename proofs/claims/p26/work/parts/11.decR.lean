/-! DECODE ROWS of the law and of the JDK -/
theorem dX12_init_0 : decode cX12_init 0 = .ok (.aload_n 0, 1) := by decide +kernel
theorem dX12_init_1 : decode cX12_init 1 = .ok (.invokespecial 1, 3) := by decide +kernel
theorem dX12_init_4 : decode cX12_init 4 = .ok (.return_, 1) := by decide +kernel
theorem dX12_random_0 : decode cX12_random 0 = .ok (.new 7, 3) := by decide +kernel
theorem dX12_random_3 : decode cX12_random 3 = .ok (.dup, 1) := by decide +kernel
theorem dX12_random_4 : decode cX12_random 4 = .ok (.invokespecial 9, 3) := by decide +kernel
theorem dX12_random_7 : decode cX12_random 7 = .ok (.astore_n 2, 1) := by decide +kernel
theorem dX12_random_8 : decode cX12_random 8 = .ok (.aload_n 2, 1) := by decide +kernel
theorem dX12_random_9 : decode cX12_random 9 = .ok (.iload_n 1, 1) := by decide +kernel
theorem dX12_random_10 : decode cX12_random 10 = .ok (.ifCond .ne 11, 3) := by decide +kernel
theorem dX12_random_13 : decode cX12_random 13 = .ok (.aload_n 0, 1) := by decide +kernel
theorem dX12_random_14 : decode cX12_random 14 = .ok (.iconst 2, 1) := by decide +kernel
theorem dX12_random_15 : decode cX12_random 15 = .ok (.invokevirtual 10, 3) := by decide +kernel
theorem dX12_random_18 : decode cX12_random 18 = .ok (.goto 9, 3) := by decide +kernel
theorem dX12_random_21 : decode cX12_random 21 = .ok (.aload_n 0, 1) := by decide +kernel
theorem dX12_random_22 : decode cX12_random 22 = .ok (.bipush 6, 2) := by decide +kernel
theorem dX12_random_24 : decode cX12_random 24 = .ok (.invokevirtual 10, 3) := by decide +kernel
theorem dX12_random_27 : decode cX12_random 27 = .ok (.putfield 16, 3) := by decide +kernel
theorem dX12_random_30 : decode cX12_random 30 = .ok (.aload_n 2, 1) := by decide +kernel
theorem dX12_random_31 : decode cX12_random 31 = .ok (.aload_n 2, 1) := by decide +kernel
theorem dX12_random_32 : decode cX12_random 32 = .ok (.getfield 16, 3) := by decide +kernel
theorem dX12_random_35 : decode cX12_random 35 = .ok (.ifCond .ne 27, 3) := by decide +kernel
theorem dX12_random_38 : decode cX12_random 38 = .ok (.aload_n 0, 1) := by decide +kernel
theorem dX12_random_39 : decode cX12_random 39 = .ok (.aload_n 0, 1) := by decide +kernel
theorem dX12_random_40 : decode cX12_random 40 = .ok (.bipush 8, 2) := by decide +kernel
theorem dX12_random_42 : decode cX12_random 42 = .ok (.invokevirtual 10, 3) := by decide +kernel
theorem dX12_random_45 : decode cX12_random 45 = .ok (.ifCond .ne 9, 3) := by decide +kernel
theorem dX12_random_48 : decode cX12_random 48 = .ok (.sipush 10000, 3) := by decide +kernel
theorem dX12_random_51 : decode cX12_random 51 = .ok (.goto 5, 3) := by decide +kernel
theorem dX12_random_54 : decode cX12_random 54 = .ok (.bipush 9, 2) := by decide +kernel
theorem dX12_random_56 : decode cX12_random 56 = .ok (.invokevirtual 10, 3) := by decide +kernel
theorem dX12_random_59 : decode cX12_random 59 = .ok (.goto 8, 3) := by decide +kernel
theorem dX12_random_62 : decode cX12_random 62 = .ok (.aload_n 0, 1) := by decide +kernel
theorem dX12_random_63 : decode cX12_random 63 = .ok (.iconst 4, 1) := by decide +kernel
theorem dX12_random_64 : decode cX12_random 64 = .ok (.invokevirtual 10, 3) := by decide +kernel
theorem dX12_random_67 : decode cX12_random 67 = .ok (.putfield 20, 3) := by decide +kernel
theorem dX12_random_70 : decode cX12_random 70 = .ok (.aload_n 2, 1) := by decide +kernel
theorem dX12_random_71 : decode cX12_random 71 = .ok (.getfield 16, 3) := by decide +kernel
theorem dX12_random_74 : decode cX12_random 74 = .ok (.iconst 1, 1) := by decide +kernel
theorem dX12_random_75 : decode cX12_random 75 = .ok (.if_icmp .le 25, 3) := by decide +kernel
theorem dX12_random_78 : decode cX12_random 78 = .ok (.aload_n 2, 1) := by decide +kernel
theorem dX12_random_79 : decode cX12_random 79 = .ok (.aload_n 0, 1) := by decide +kernel
theorem dX12_random_80 : decode cX12_random 80 = .ok (.iload_n 1, 1) := by decide +kernel
theorem dX12_random_81 : decode cX12_random 81 = .ok (.iconst 1, 1) := by decide +kernel
theorem dX12_random_82 : decode cX12_random 82 = .ok (.isub, 1) := by decide +kernel
theorem dX12_random_83 : decode cX12_random 83 = .ok (.invokestatic 23, 3) := by decide +kernel
theorem dX12_random_86 : decode cX12_random 86 = .ok (.putfield 27, 3) := by decide +kernel
theorem dX12_random_89 : decode cX12_random 89 = .ok (.aload_n 2, 1) := by decide +kernel
theorem dX12_random_90 : decode cX12_random 90 = .ok (.aload_n 0, 1) := by decide +kernel
theorem dX12_random_91 : decode cX12_random 91 = .ok (.iload_n 1, 1) := by decide +kernel
theorem dX12_random_92 : decode cX12_random 92 = .ok (.iconst 1, 1) := by decide +kernel
theorem dX12_random_93 : decode cX12_random 93 = .ok (.isub, 1) := by decide +kernel
theorem dX12_random_94 : decode cX12_random 94 = .ok (.invokestatic 23, 3) := by decide +kernel
theorem dX12_random_97 : decode cX12_random 97 = .ok (.putfield 31, 3) := by decide +kernel
theorem dX12_random_100 : decode cX12_random 100 = .ok (.aload_n 2, 1) := by decide +kernel
theorem dX12_random_101 : decode cX12_random 101 = .ok (.areturn, 1) := by decide +kernel
theorem dX12_text_0 : decode cX12_text 0 = .ok (.aload_n 0, 1) := by decide +kernel
theorem dX12_text_1 : decode cX12_text 1 = .ok (.getfield 16, 3) := by decide +kernel
theorem dX12_text_4 : decode cX12_text 4 = .ok (.ifCond .ne 26, 3) := by decide +kernel
theorem dX12_text_7 : decode cX12_text 7 = .ok (.new 34, 3) := by decide +kernel
theorem dX12_text_10 : decode cX12_text 10 = .ok (.dup, 1) := by decide +kernel
theorem dX12_text_11 : decode cX12_text 11 = .ok (.invokespecial 36, 3) := by decide +kernel
theorem dX12_text_14 : decode cX12_text 14 = .ok (.ldc 37, 2) := by decide +kernel
theorem dX12_text_16 : decode cX12_text 16 = .ok (.invokevirtual 39, 3) := by decide +kernel
theorem dX12_text_19 : decode cX12_text 19 = .ok (.aload_n 0, 1) := by decide +kernel
theorem dX12_text_20 : decode cX12_text 20 = .ok (.getfield 20, 3) := by decide +kernel
theorem dX12_text_23 : decode cX12_text 23 = .ok (.invokevirtual 43, 3) := by decide +kernel
theorem dX12_text_26 : decode cX12_text 26 = .ok (.invokevirtual 46, 3) := by decide +kernel
theorem dX12_text_29 : decode cX12_text 29 = .ok (.areturn, 1) := by decide +kernel
theorem dX12_text_30 : decode cX12_text 30 = .ok (.aload_n 0, 1) := by decide +kernel
theorem dX12_text_31 : decode cX12_text 31 = .ok (.getfield 16, 3) := by decide +kernel
theorem dX12_text_34 : decode cX12_text 34 = .ok (.iconst 1, 1) := by decide +kernel
theorem dX12_text_35 : decode cX12_text 35 = .ok (.if_icmp .ne 12, 3) := by decide +kernel
theorem dX12_text_38 : decode cX12_text 38 = .ok (.getstatic 50, 3) := by decide +kernel
theorem dX12_text_41 : decode cX12_text 41 = .ok (.aload_n 0, 1) := by decide +kernel
theorem dX12_text_42 : decode cX12_text 42 = .ok (.getfield 20, 3) := by decide +kernel
theorem dX12_text_45 : decode cX12_text 45 = .ok (.aaload, 1) := by decide +kernel
theorem dX12_text_46 : decode cX12_text 46 = .ok (.areturn, 1) := by decide +kernel
theorem dX12_text_47 : decode cX12_text 47 = .ok (.aload_n 0, 1) := by decide +kernel
theorem dX12_text_48 : decode cX12_text 48 = .ok (.getfield 16, 3) := by decide +kernel
theorem dX12_text_51 : decode cX12_text 51 = .ok (.iconst 4, 1) := by decide +kernel
theorem dX12_text_52 : decode cX12_text 52 = .ok (.if_icmp .ge 7, 3) := by decide +kernel
theorem dX12_text_55 : decode cX12_text 55 = .ok (.iconst 1, 1) := by decide +kernel
theorem dX12_text_56 : decode cX12_text 56 = .ok (.goto 4, 3) := by decide +kernel
theorem dX12_text_59 : decode cX12_text 59 = .ok (.iconst 2, 1) := by decide +kernel
theorem dX12_text_60 : decode cX12_text 60 = .ok (.istore_n 2, 1) := by decide +kernel
theorem dX12_text_61 : decode cX12_text 61 = .ok (.new 34, 3) := by decide +kernel
theorem dX12_text_64 : decode cX12_text 64 = .ok (.dup, 1) := by decide +kernel
theorem dX12_text_65 : decode cX12_text 65 = .ok (.invokespecial 36, 3) := by decide +kernel
theorem dX12_text_68 : decode cX12_text 68 = .ok (.aload_n 0, 1) := by decide +kernel
theorem dX12_text_69 : decode cX12_text 69 = .ok (.getfield 27, 3) := by decide +kernel
theorem dX12_text_72 : decode cX12_text 72 = .ok (.iload_n 2, 1) := by decide +kernel
theorem dX12_text_73 : decode cX12_text 73 = .ok (.invokevirtual 56, 3) := by decide +kernel
theorem dX12_text_76 : decode cX12_text 76 = .ok (.invokevirtual 39, 3) := by decide +kernel
theorem dX12_text_79 : decode cX12_text 79 = .ok (.aload_n 0, 1) := by decide +kernel
theorem dX12_text_80 : decode cX12_text 80 = .ok (.getfield 16, 3) := by decide +kernel
theorem dX12_text_83 : decode cX12_text 83 = .ok (.iconst 2, 1) := by decide +kernel
theorem dX12_text_84 : decode cX12_text 84 = .ok (.if_icmp .ne 8, 3) := by decide +kernel
theorem dX12_text_87 : decode cX12_text 87 = .ok (.ldc 60, 2) := by decide +kernel
theorem dX12_text_89 : decode cX12_text 89 = .ok (.goto 31, 3) := by decide +kernel
theorem dX12_text_92 : decode cX12_text 92 = .ok (.aload_n 0, 1) := by decide +kernel
theorem dX12_text_93 : decode cX12_text 93 = .ok (.getfield 16, 3) := by decide +kernel
theorem dX12_text_96 : decode cX12_text 96 = .ok (.iconst 3, 1) := by decide +kernel
theorem dX12_text_97 : decode cX12_text 97 = .ok (.if_icmp .ne 8, 3) := by decide +kernel
theorem dX12_text_100 : decode cX12_text 100 = .ok (.ldc 62, 2) := by decide +kernel
theorem dX12_text_102 : decode cX12_text 102 = .ok (.goto 18, 3) := by decide +kernel
theorem dX12_text_105 : decode cX12_text 105 = .ok (.aload_n 0, 1) := by decide +kernel
theorem dX12_text_106 : decode cX12_text 106 = .ok (.getfield 16, 3) := by decide +kernel
theorem dX12_text_109 : decode cX12_text 109 = .ok (.iconst 4, 1) := by decide +kernel
theorem dX12_text_110 : decode cX12_text 110 = .ok (.if_icmp .ne 8, 3) := by decide +kernel
theorem dX12_text_113 : decode cX12_text 113 = .ok (.ldc 64, 2) := by decide +kernel
theorem dX12_text_115 : decode cX12_text 115 = .ok (.goto 5, 3) := by decide +kernel
theorem dX12_text_118 : decode cX12_text 118 = .ok (.ldc 66, 2) := by decide +kernel
theorem dX12_text_120 : decode cX12_text 120 = .ok (.invokevirtual 39, 3) := by decide +kernel
theorem dX12_text_123 : decode cX12_text 123 = .ok (.aload_n 0, 1) := by decide +kernel
theorem dX12_text_124 : decode cX12_text 124 = .ok (.getfield 31, 3) := by decide +kernel
theorem dX12_text_127 : decode cX12_text 127 = .ok (.iload_n 2, 1) := by decide +kernel
theorem dX12_text_128 : decode cX12_text 128 = .ok (.iconst 1, 1) := by decide +kernel
theorem dX12_text_129 : decode cX12_text 129 = .ok (.iadd, 1) := by decide +kernel
theorem dX12_text_130 : decode cX12_text 130 = .ok (.invokevirtual 56, 3) := by decide +kernel
theorem dX12_text_133 : decode cX12_text 133 = .ok (.invokevirtual 39, 3) := by decide +kernel
theorem dX12_text_136 : decode cX12_text 136 = .ok (.invokevirtual 46, 3) := by decide +kernel
theorem dX12_text_139 : decode cX12_text 139 = .ok (.astore_n 3, 1) := by decide +kernel
theorem dX12_text_140 : decode cX12_text 140 = .ok (.iload_n 2, 1) := by decide +kernel
theorem dX12_text_141 : decode cX12_text 141 = .ok (.iload_n 1, 1) := by decide +kernel
theorem dX12_text_142 : decode cX12_text 142 = .ok (.if_icmp .ge 30, 3) := by decide +kernel
theorem dX12_text_145 : decode cX12_text 145 = .ok (.new 34, 3) := by decide +kernel
theorem dX12_text_148 : decode cX12_text 148 = .ok (.dup, 1) := by decide +kernel
theorem dX12_text_149 : decode cX12_text 149 = .ok (.invokespecial 36, 3) := by decide +kernel
theorem dX12_text_152 : decode cX12_text 152 = .ok (.ldc 68, 2) := by decide +kernel
theorem dX12_text_154 : decode cX12_text 154 = .ok (.invokevirtual 39, 3) := by decide +kernel
theorem dX12_text_157 : decode cX12_text 157 = .ok (.aload_n 3, 1) := by decide +kernel
theorem dX12_text_158 : decode cX12_text 158 = .ok (.invokevirtual 39, 3) := by decide +kernel
theorem dX12_text_161 : decode cX12_text 161 = .ok (.ldc 70, 2) := by decide +kernel
theorem dX12_text_163 : decode cX12_text 163 = .ok (.invokevirtual 39, 3) := by decide +kernel
theorem dX12_text_166 : decode cX12_text 166 = .ok (.invokevirtual 46, 3) := by decide +kernel
theorem dX12_text_169 : decode cX12_text 169 = .ok (.goto 4, 3) := by decide +kernel
theorem dX12_text_172 : decode cX12_text 172 = .ok (.aload_n 3, 1) := by decide +kernel
theorem dX12_text_173 : decode cX12_text 173 = .ok (.areturn, 1) := by decide +kernel
theorem dX12_value_0 : decode cX12_value 0 = .ok (.aload_n 0, 1) := by decide +kernel
theorem dX12_value_1 : decode cX12_value 1 = .ok (.getfield 16, 3) := by decide +kernel
theorem dX12_value_4 : decode cX12_value 4 = .ok (.iconst 2, 1) := by decide +kernel
theorem dX12_value_5 : decode cX12_value 5 = .ok (.if_icmp .ge 25, 3) := by decide +kernel
theorem dX12_value_8 : decode cX12_value 8 = .ok (.aload_n 0, 1) := by decide +kernel
theorem dX12_value_9 : decode cX12_value 9 = .ok (.getfield 16, 3) := by decide +kernel
theorem dX12_value_12 : decode cX12_value 12 = .ok (.ifCond .ne 11, 3) := by decide +kernel
theorem dX12_value_15 : decode cX12_value 15 = .ok (.aload_n 0, 1) := by decide +kernel
theorem dX12_value_16 : decode cX12_value 16 = .ok (.getfield 20, 3) := by decide +kernel
theorem dX12_value_19 : decode cX12_value 19 = .ok (.i2l, 1) := by decide +kernel
theorem dX12_value_20 : decode cX12_value 20 = .ok (.goto 9, 3) := by decide +kernel
theorem dX12_value_23 : decode cX12_value 23 = .ok (.aload_n 1, 1) := by decide +kernel
theorem dX12_value_24 : decode cX12_value 24 = .ok (.aload_n 0, 1) := by decide +kernel
theorem dX12_value_25 : decode cX12_value 25 = .ok (.getfield 20, 3) := by decide +kernel
theorem dX12_value_28 : decode cX12_value 28 = .ok (.laload, 1) := by decide +kernel
theorem dX12_value_29 : decode cX12_value 29 = .ok (.lreturn, 1) := by decide +kernel
theorem dX12_value_30 : decode cX12_value 30 = .ok (.aload_n 0, 1) := by decide +kernel
theorem dX12_value_31 : decode cX12_value 31 = .ok (.getfield 27, 3) := by decide +kernel
theorem dX12_value_34 : decode cX12_value 34 = .ok (.aload_n 1, 1) := by decide +kernel
theorem dX12_value_35 : decode cX12_value 35 = .ok (.invokevirtual 72, 3) := by decide +kernel
theorem dX12_value_38 : decode cX12_value 38 = .ok (.lstore_n 2, 1) := by decide +kernel
theorem dX12_value_39 : decode cX12_value 39 = .ok (.aload_n 0, 1) := by decide +kernel
theorem dX12_value_40 : decode cX12_value 40 = .ok (.getfield 31, 3) := by decide +kernel
theorem dX12_value_43 : decode cX12_value 43 = .ok (.aload_n 1, 1) := by decide +kernel
theorem dX12_value_44 : decode cX12_value 44 = .ok (.invokevirtual 72, 3) := by decide +kernel
theorem dX12_value_47 : decode cX12_value 47 = .ok (.lstore 4, 2) := by decide +kernel
theorem dX12_value_49 : decode cX12_value 49 = .ok (.aload_n 0, 1) := by decide +kernel
theorem dX12_value_50 : decode cX12_value 50 = .ok (.getfield 16, 3) := by decide +kernel
theorem dX12_value_53 : decode cX12_value 53 = .ok (.iconst 2, 1) := by decide +kernel
theorem dX12_value_54 : decode cX12_value 54 = .ok (.if_icmp .ne 10, 3) := by decide +kernel
theorem dX12_value_57 : decode cX12_value 57 = .ok (.lload_n 2, 1) := by decide +kernel
theorem dX12_value_58 : decode cX12_value 58 = .ok (.lload 4, 2) := by decide +kernel
theorem dX12_value_60 : decode cX12_value 60 = .ok (.ladd, 1) := by decide +kernel
theorem dX12_value_61 : decode cX12_value 61 = .ok (.goto 48, 3) := by decide +kernel
theorem dX12_value_64 : decode cX12_value 64 = .ok (.aload_n 0, 1) := by decide +kernel
theorem dX12_value_65 : decode cX12_value 65 = .ok (.getfield 16, 3) := by decide +kernel
theorem dX12_value_68 : decode cX12_value 68 = .ok (.iconst 3, 1) := by decide +kernel
theorem dX12_value_69 : decode cX12_value 69 = .ok (.if_icmp .ne 10, 3) := by decide +kernel
theorem dX12_value_72 : decode cX12_value 72 = .ok (.lload_n 2, 1) := by decide +kernel
theorem dX12_value_73 : decode cX12_value 73 = .ok (.lload 4, 2) := by decide +kernel
theorem dX12_value_75 : decode cX12_value 75 = .ok (.lsub, 1) := by decide +kernel
theorem dX12_value_76 : decode cX12_value 76 = .ok (.goto 33, 3) := by decide +kernel
theorem dX12_value_79 : decode cX12_value 79 = .ok (.aload_n 0, 1) := by decide +kernel
theorem dX12_value_80 : decode cX12_value 80 = .ok (.getfield 16, 3) := by decide +kernel
theorem dX12_value_83 : decode cX12_value 83 = .ok (.iconst 4, 1) := by decide +kernel
theorem dX12_value_84 : decode cX12_value 84 = .ok (.if_icmp .ne 10, 3) := by decide +kernel
theorem dX12_value_87 : decode cX12_value 87 = .ok (.lload_n 2, 1) := by decide +kernel
theorem dX12_value_88 : decode cX12_value 88 = .ok (.lload 4, 2) := by decide +kernel
theorem dX12_value_90 : decode cX12_value 90 = .ok (.lmul, 1) := by decide +kernel
theorem dX12_value_91 : decode cX12_value 91 = .ok (.goto 18, 3) := by decide +kernel
theorem dX12_value_94 : decode cX12_value 94 = .ok (.lload 4, 2) := by decide +kernel
theorem dX12_value_96 : decode cX12_value 96 = .ok (.lconst 0, 1) := by decide +kernel
theorem dX12_value_97 : decode cX12_value 97 = .ok (.lcmp, 1) := by decide +kernel
theorem dX12_value_98 : decode cX12_value 98 = .ok (.ifCond .ne 7, 3) := by decide +kernel
theorem dX12_value_101 : decode cX12_value 101 = .ok (.lconst 0, 1) := by decide +kernel
theorem dX12_value_102 : decode cX12_value 102 = .ok (.goto 7, 3) := by decide +kernel
theorem dX12_value_105 : decode cX12_value 105 = .ok (.lload_n 2, 1) := by decide +kernel
theorem dX12_value_106 : decode cX12_value 106 = .ok (.lload 4, 2) := by decide +kernel
theorem dX12_value_108 : decode cX12_value 108 = .ok (.ldiv, 1) := by decide +kernel
theorem dX12_value_109 : decode cX12_value 109 = .ok (.lstore 6, 2) := by decide +kernel
theorem dX12_value_111 : decode cX12_value 111 = .ok (.ldc2_w 76, 3) := by decide +kernel
theorem dX12_value_114 : decode cX12_value 114 = .ok (.ldc2_w 78, 3) := by decide +kernel
theorem dX12_value_117 : decode cX12_value 117 = .ok (.lload 6, 2) := by decide +kernel
theorem dX12_value_119 : decode cX12_value 119 = .ok (.invokestatic 80, 3) := by decide +kernel
theorem dX12_value_122 : decode cX12_value 122 = .ok (.invokestatic 86, 3) := by decide +kernel
theorem dX12_value_125 : decode cX12_value 125 = .ok (.lreturn, 1) := by decide +kernel
theorem dX13_init_0 : decode cX13_init 0 = .ok (.aload_n 0, 1) := by decide +kernel
theorem dX13_init_1 : decode cX13_init 1 = .ok (.invokespecial 1, 3) := by decide +kernel
theorem dX13_init_4 : decode cX13_init 4 = .ok (.aload_n 0, 1) := by decide +kernel
theorem dX13_init_5 : decode cX13_init 5 = .ok (.iload_n 1, 1) := by decide +kernel
theorem dX13_init_6 : decode cX13_init 6 = .ok (.putfield 7, 3) := by decide +kernel
theorem dX13_init_9 : decode cX13_init 9 = .ok (.return_, 1) := by decide +kernel
theorem dX13_below_0 : decode cX13_below 0 = .ok (.aload_n 0, 1) := by decide +kernel
theorem dX13_below_1 : decode cX13_below 1 = .ok (.ldc 13, 2) := by decide +kernel
theorem dX13_below_3 : decode cX13_below 3 = .ok (.aload_n 0, 1) := by decide +kernel
theorem dX13_below_4 : decode cX13_below 4 = .ok (.getfield 7, 3) := by decide +kernel
theorem dX13_below_7 : decode cX13_below 7 = .ok (.imul, 1) := by decide +kernel
theorem dX13_below_8 : decode cX13_below 8 = .ok (.sipush 12345, 3) := by decide +kernel
theorem dX13_below_11 : decode cX13_below 11 = .ok (.iadd, 1) := by decide +kernel
theorem dX13_below_12 : decode cX13_below 12 = .ok (.putfield 7, 3) := by decide +kernel
theorem dX13_below_15 : decode cX13_below 15 = .ok (.aload_n 0, 1) := by decide +kernel
theorem dX13_below_16 : decode cX13_below 16 = .ok (.getfield 7, 3) := by decide +kernel
theorem dX13_below_19 : decode cX13_below 19 = .ok (.bipush 16, 2) := by decide +kernel
theorem dX13_below_21 : decode cX13_below 21 = .ok (.iushr, 1) := by decide +kernel
theorem dX13_below_22 : decode cX13_below 22 = .ok (.iload_n 1, 1) := by decide +kernel
theorem dX13_below_23 : decode cX13_below 23 = .ok (.irem, 1) := by decide +kernel
theorem dX13_below_24 : decode cX13_below 24 = .ok (.ireturn, 1) := by decide +kernel
theorem dX14_init_0 : decode cX14_init 0 = .ok (.aload_n 0, 1) := by decide +kernel
theorem dX14_init_1 : decode cX14_init 1 = .ok (.invokespecial 1, 3) := by decide +kernel
theorem dX14_init_4 : decode cX14_init 4 = .ok (.aload_n 0, 1) := by decide +kernel
theorem dX14_init_5 : decode cX14_init 5 = .ok (.iconst 0, 1) := by decide +kernel
theorem dX14_init_6 : decode cX14_init 6 = .ok (.anewarray 7, 3) := by decide +kernel
theorem dX14_init_9 : decode cX14_init 9 = .ok (.putfield 9, 3) := by decide +kernel
theorem dX14_init_12 : decode cX14_init 12 = .ok (.aload_n 0, 1) := by decide +kernel
theorem dX14_init_13 : decode cX14_init 13 = .ok (.iconst 0, 1) := by decide +kernel
theorem dX14_init_14 : decode cX14_init 14 = .ok (.anewarray 7, 3) := by decide +kernel
theorem dX14_init_17 : decode cX14_init 17 = .ok (.putfield 15, 3) := by decide +kernel
theorem dX14_init_20 : decode cX14_init 20 = .ok (.aload_n 0, 1) := by decide +kernel
theorem dX14_init_21 : decode cX14_init 21 = .ok (.iconst 0, 1) := by decide +kernel
theorem dX14_init_22 : decode cX14_init 22 = .ok (.anewarray 7, 3) := by decide +kernel
theorem dX14_init_25 : decode cX14_init 25 = .ok (.putfield 18, 3) := by decide +kernel
theorem dX14_init_28 : decode cX14_init 28 = .ok (.aload_n 0, 1) := by decide +kernel
theorem dX14_init_29 : decode cX14_init 29 = .ok (.iconst 0, 1) := by decide +kernel
theorem dX14_init_30 : decode cX14_init 30 = .ok (.anewarray 7, 3) := by decide +kernel
theorem dX14_init_33 : decode cX14_init 33 = .ok (.putfield 21, 3) := by decide +kernel
theorem dX14_init_36 : decode cX14_init 36 = .ok (.aload_n 0, 1) := by decide +kernel
theorem dX14_init_37 : decode cX14_init 37 = .ok (.iconst 0, 1) := by decide +kernel
theorem dX14_init_38 : decode cX14_init 38 = .ok (.anewarray 7, 3) := by decide +kernel
theorem dX14_init_41 : decode cX14_init 41 = .ok (.putfield 24, 3) := by decide +kernel
theorem dX14_init_44 : decode cX14_init 44 = .ok (.aload_n 0, 1) := by decide +kernel
theorem dX14_init_45 : decode cX14_init 45 = .ok (.iconst 0, 1) := by decide +kernel
theorem dX14_init_46 : decode cX14_init 46 = .ok (.anewarray 7, 3) := by decide +kernel
theorem dX14_init_49 : decode cX14_init 49 = .ok (.putfield 27, 3) := by decide +kernel
theorem dX14_init_52 : decode cX14_init 52 = .ok (.aload_n 0, 1) := by decide +kernel
theorem dX14_init_53 : decode cX14_init 53 = .ok (.bipush 6, 2) := by decide +kernel
theorem dX14_init_55 : decode cX14_init 55 = .ok (.bipush 6, 2) := by decide +kernel
theorem dX14_init_57 : decode cX14_init 57 = .ok (.multianewarray 30 2, 4) := by decide +kernel
theorem dX14_init_61 : decode cX14_init 61 = .ok (.putfield 31, 3) := by decide +kernel
theorem dX14_init_64 : decode cX14_init 64 = .ok (.aload_n 0, 1) := by decide +kernel
theorem dX14_init_65 : decode cX14_init 65 = .ok (.iconst 1, 1) := by decide +kernel
theorem dX14_init_66 : decode cX14_init 66 = .ok (.putfield 34, 3) := by decide +kernel
theorem dX14_init_69 : decode cX14_init 69 = .ok (.aload_n 0, 1) := by decide +kernel
theorem dX14_init_70 : decode cX14_init 70 = .ok (.bipush 50, 2) := by decide +kernel
theorem dX14_init_72 : decode cX14_init 72 = .ok (.putfield 38, 3) := by decide +kernel
theorem dX14_init_75 : decode cX14_init 75 = .ok (.aload_n 0, 1) := by decide +kernel
theorem dX14_init_76 : decode cX14_init 76 = .ok (.bipush 10, 2) := by decide +kernel
theorem dX14_init_78 : decode cX14_init 78 = .ok (.putfield 41, 3) := by decide +kernel
theorem dX14_init_81 : decode cX14_init 81 = .ok (.return_, 1) := by decide +kernel
theorem dX14_copy_0 : decode cX14_copy 0 = .ok (.new 10, 3) := by decide +kernel
theorem dX14_copy_3 : decode cX14_copy 3 = .ok (.dup, 1) := by decide +kernel
theorem dX14_copy_4 : decode cX14_copy 4 = .ok (.invokespecial 44, 3) := by decide +kernel
theorem dX14_copy_7 : decode cX14_copy 7 = .ok (.astore_n 1, 1) := by decide +kernel
theorem dX14_copy_8 : decode cX14_copy 8 = .ok (.aload_n 1, 1) := by decide +kernel
theorem dX14_copy_9 : decode cX14_copy 9 = .ok (.aload_n 0, 1) := by decide +kernel
theorem dX14_copy_10 : decode cX14_copy 10 = .ok (.getfield 45, 3) := by decide +kernel
theorem dX14_copy_13 : decode cX14_copy 13 = .ok (.putfield 45, 3) := by decide +kernel
theorem dX14_copy_16 : decode cX14_copy 16 = .ok (.aload_n 1, 1) := by decide +kernel
theorem dX14_copy_17 : decode cX14_copy 17 = .ok (.aload_n 0, 1) := by decide +kernel
theorem dX14_copy_18 : decode cX14_copy 18 = .ok (.getfield 9, 3) := by decide +kernel
theorem dX14_copy_21 : decode cX14_copy 21 = .ok (.putfield 9, 3) := by decide +kernel
theorem dX14_copy_24 : decode cX14_copy 24 = .ok (.aload_n 1, 1) := by decide +kernel
theorem dX14_copy_25 : decode cX14_copy 25 = .ok (.aload_n 0, 1) := by decide +kernel
theorem dX14_copy_26 : decode cX14_copy 26 = .ok (.getfield 18, 3) := by decide +kernel
theorem dX14_copy_29 : decode cX14_copy 29 = .ok (.putfield 18, 3) := by decide +kernel
theorem dX14_copy_32 : decode cX14_copy 32 = .ok (.aload_n 1, 1) := by decide +kernel
theorem dX14_copy_33 : decode cX14_copy 33 = .ok (.aload_n 0, 1) := by decide +kernel
theorem dX14_copy_34 : decode cX14_copy 34 = .ok (.getfield 15, 3) := by decide +kernel
theorem dX14_copy_37 : decode cX14_copy 37 = .ok (.invokestatic 48, 3) := by decide +kernel
theorem dX14_copy_40 : decode cX14_copy 40 = .ok (.putfield 15, 3) := by decide +kernel
theorem dX14_copy_43 : decode cX14_copy 43 = .ok (.aload_n 1, 1) := by decide +kernel
theorem dX14_copy_44 : decode cX14_copy 44 = .ok (.aload_n 0, 1) := by decide +kernel
theorem dX14_copy_45 : decode cX14_copy 45 = .ok (.getfield 21, 3) := by decide +kernel
theorem dX14_copy_48 : decode cX14_copy 48 = .ok (.invokestatic 48, 3) := by decide +kernel
theorem dX14_copy_51 : decode cX14_copy 51 = .ok (.putfield 21, 3) := by decide +kernel
theorem dX14_copy_54 : decode cX14_copy 54 = .ok (.aload_n 1, 1) := by decide +kernel
theorem dX14_copy_55 : decode cX14_copy 55 = .ok (.aload_n 0, 1) := by decide +kernel
theorem dX14_copy_56 : decode cX14_copy 56 = .ok (.getfield 24, 3) := by decide +kernel
theorem dX14_copy_59 : decode cX14_copy 59 = .ok (.invokestatic 48, 3) := by decide +kernel
theorem dX14_copy_62 : decode cX14_copy 62 = .ok (.putfield 24, 3) := by decide +kernel
theorem dX14_copy_65 : decode cX14_copy 65 = .ok (.aload_n 1, 1) := by decide +kernel
theorem dX14_copy_66 : decode cX14_copy 66 = .ok (.aload_n 0, 1) := by decide +kernel
theorem dX14_copy_67 : decode cX14_copy 67 = .ok (.getfield 27, 3) := by decide +kernel
theorem dX14_copy_70 : decode cX14_copy 70 = .ok (.putfield 27, 3) := by decide +kernel
theorem dX14_copy_73 : decode cX14_copy 73 = .ok (.aload_n 1, 1) := by decide +kernel
theorem dX14_copy_74 : decode cX14_copy 74 = .ok (.aload_n 0, 1) := by decide +kernel
theorem dX14_copy_75 : decode cX14_copy 75 = .ok (.getfield 31, 3) := by decide +kernel
theorem dX14_copy_78 : decode cX14_copy 78 = .ok (.invokestatic 48, 3) := by decide +kernel
theorem dX14_copy_81 : decode cX14_copy 81 = .ok (.putfield 31, 3) := by decide +kernel
theorem dX14_copy_84 : decode cX14_copy 84 = .ok (.aload_n 1, 1) := by decide +kernel
theorem dX14_copy_85 : decode cX14_copy 85 = .ok (.aload_n 0, 1) := by decide +kernel
theorem dX14_copy_86 : decode cX14_copy 86 = .ok (.getfield 54, 3) := by decide +kernel
theorem dX14_copy_89 : decode cX14_copy 89 = .ok (.putfield 54, 3) := by decide +kernel
theorem dX14_copy_92 : decode cX14_copy 92 = .ok (.aload_n 1, 1) := by decide +kernel
theorem dX14_copy_93 : decode cX14_copy 93 = .ok (.aload_n 0, 1) := by decide +kernel
theorem dX14_copy_94 : decode cX14_copy 94 = .ok (.getfield 57, 3) := by decide +kernel
theorem dX14_copy_97 : decode cX14_copy 97 = .ok (.putfield 57, 3) := by decide +kernel
theorem dX14_copy_100 : decode cX14_copy 100 = .ok (.aload_n 1, 1) := by decide +kernel
theorem dX14_copy_101 : decode cX14_copy 101 = .ok (.aload_n 0, 1) := by decide +kernel
theorem dX14_copy_102 : decode cX14_copy 102 = .ok (.getfield 34, 3) := by decide +kernel
theorem dX14_copy_105 : decode cX14_copy 105 = .ok (.putfield 34, 3) := by decide +kernel
theorem dX14_copy_108 : decode cX14_copy 108 = .ok (.aload_n 1, 1) := by decide +kernel
theorem dX14_copy_109 : decode cX14_copy 109 = .ok (.aload_n 0, 1) := by decide +kernel
theorem dX14_copy_110 : decode cX14_copy 110 = .ok (.getfield 38, 3) := by decide +kernel
theorem dX14_copy_113 : decode cX14_copy 113 = .ok (.putfield 38, 3) := by decide +kernel
theorem dX14_copy_116 : decode cX14_copy 116 = .ok (.aload_n 1, 1) := by decide +kernel
theorem dX14_copy_117 : decode cX14_copy 117 = .ok (.aload_n 0, 1) := by decide +kernel
theorem dX14_copy_118 : decode cX14_copy 118 = .ok (.getfield 41, 3) := by decide +kernel
theorem dX14_copy_121 : decode cX14_copy 121 = .ok (.putfield 41, 3) := by decide +kernel
theorem dX14_copy_124 : decode cX14_copy 124 = .ok (.aload_n 1, 1) := by decide +kernel
theorem dX14_copy_125 : decode cX14_copy 125 = .ok (.aload_n 0, 1) := by decide +kernel
theorem dX14_copy_126 : decode cX14_copy 126 = .ok (.getfield 60, 3) := by decide +kernel
theorem dX14_copy_129 : decode cX14_copy 129 = .ok (.putfield 60, 3) := by decide +kernel
theorem dX14_copy_132 : decode cX14_copy 132 = .ok (.aload_n 1, 1) := by decide +kernel
theorem dX14_copy_133 : decode cX14_copy 133 = .ok (.areturn, 1) := by decide +kernel
theorem dX14_gateOf_0 : decode cX14_gateOf 0 = .ok (.aload_n 0, 1) := by decide +kernel
theorem dX14_gateOf_1 : decode cX14_gateOf 1 = .ok (.getfield 18, 3) := by decide +kernel
theorem dX14_gateOf_4 : decode cX14_gateOf 4 = .ok (.aload_n 1, 1) := by decide +kernel
theorem dX14_gateOf_5 : decode cX14_gateOf 5 = .ok (.iconst 0, 1) := by decide +kernel
theorem dX14_gateOf_6 : decode cX14_gateOf 6 = .ok (.iaload, 1) := by decide +kernel
theorem dX14_gateOf_7 : decode cX14_gateOf 7 = .ok (.aaload, 1) := by decide +kernel
theorem dX14_gateOf_8 : decode cX14_gateOf 8 = .ok (.aload_n 1, 1) := by decide +kernel
theorem dX14_gateOf_9 : decode cX14_gateOf 9 = .ok (.iconst 4, 1) := by decide +kernel
theorem dX14_gateOf_10 : decode cX14_gateOf 10 = .ok (.iaload, 1) := by decide +kernel
theorem dX14_gateOf_11 : decode cX14_gateOf 11 = .ok (.iaload, 1) := by decide +kernel
theorem dX14_gateOf_12 : decode cX14_gateOf 12 = .ok (.ireturn, 1) := by decide +kernel
theorem dX14_queue_0 : decode cX14_queue 0 = .ok (.iconst 0, 1) := by decide +kernel
theorem dX14_queue_1 : decode cX14_queue 1 = .ok (.istore_n 3, 1) := by decide +kernel
theorem dX14_queue_2 : decode cX14_queue 2 = .ok (.aload_n 0, 1) := by decide +kernel
theorem dX14_queue_3 : decode cX14_queue 3 = .ok (.getfield 21, 3) := by decide +kernel
theorem dX14_queue_6 : decode cX14_queue 6 = .ok (.astore 4, 2) := by decide +kernel
theorem dX14_queue_8 : decode cX14_queue 8 = .ok (.aload 4, 2) := by decide +kernel
theorem dX14_queue_10 : decode cX14_queue 10 = .ok (.arraylength, 1) := by decide +kernel
theorem dX14_queue_11 : decode cX14_queue 11 = .ok (.istore 5, 2) := by decide +kernel
theorem dX14_queue_13 : decode cX14_queue 13 = .ok (.iconst 0, 1) := by decide +kernel
theorem dX14_queue_14 : decode cX14_queue 14 = .ok (.istore 6, 2) := by decide +kernel
theorem dX14_queue_16 : decode cX14_queue 16 = .ok (.iload 6, 2) := by decide +kernel
theorem dX14_queue_18 : decode cX14_queue 18 = .ok (.iload 5, 2) := by decide +kernel
theorem dX14_queue_20 : decode cX14_queue 20 = .ok (.if_icmp .ge 45, 3) := by decide +kernel
theorem dX14_queue_23 : decode cX14_queue 23 = .ok (.aload 4, 2) := by decide +kernel
theorem dX14_queue_25 : decode cX14_queue 25 = .ok (.iload 6, 2) := by decide +kernel
theorem dX14_queue_27 : decode cX14_queue 27 = .ok (.aaload, 1) := by decide +kernel
theorem dX14_queue_28 : decode cX14_queue 28 = .ok (.astore 7, 2) := by decide +kernel
theorem dX14_queue_30 : decode cX14_queue 30 = .ok (.aload 7, 2) := by decide +kernel
theorem dX14_queue_32 : decode cX14_queue 32 = .ok (.iconst 3, 1) := by decide +kernel
theorem dX14_queue_33 : decode cX14_queue 33 = .ok (.iaload, 1) := by decide +kernel
theorem dX14_queue_34 : decode cX14_queue 34 = .ok (.iconst 1, 1) := by decide +kernel
theorem dX14_queue_35 : decode cX14_queue 35 = .ok (.if_icmp .ne 24, 3) := by decide +kernel
theorem dX14_queue_38 : decode cX14_queue 38 = .ok (.aload 7, 2) := by decide +kernel
theorem dX14_queue_40 : decode cX14_queue 40 = .ok (.iconst 0, 1) := by decide +kernel
theorem dX14_queue_41 : decode cX14_queue 41 = .ok (.iaload, 1) := by decide +kernel
theorem dX14_queue_42 : decode cX14_queue 42 = .ok (.iload_n 2, 1) := by decide +kernel
theorem dX14_queue_43 : decode cX14_queue 43 = .ok (.if_icmp .ne 16, 3) := by decide +kernel
theorem dX14_queue_46 : decode cX14_queue 46 = .ok (.aload_n 0, 1) := by decide +kernel
theorem dX14_queue_47 : decode cX14_queue 47 = .ok (.aload 7, 2) := by decide +kernel
theorem dX14_queue_49 : decode cX14_queue 49 = .ok (.invokevirtual 64, 3) := by decide +kernel
theorem dX14_queue_52 : decode cX14_queue 52 = .ok (.iload_n 1, 1) := by decide +kernel
theorem dX14_queue_53 : decode cX14_queue 53 = .ok (.if_icmp .ne 6, 3) := by decide +kernel
theorem dX14_queue_56 : decode cX14_queue 56 = .ok (.iinc 3 1, 3) := by decide +kernel
theorem dX14_queue_59 : decode cX14_queue 59 = .ok (.iinc 6 1, 3) := by decide +kernel
theorem dX14_queue_62 : decode cX14_queue 62 = .ok (.goto (-46), 3) := by decide +kernel
theorem dX14_queue_65 : decode cX14_queue 65 = .ok (.iload_n 3, 1) := by decide +kernel
theorem dX14_queue_66 : decode cX14_queue 66 = .ok (.ireturn, 1) := by decide +kernel
theorem dX14_sum_0 : decode cX14_sum 0 = .ok (.iconst 0, 1) := by decide +kernel
theorem dX14_sum_1 : decode cX14_sum 1 = .ok (.istore_n 2, 1) := by decide +kernel
theorem dX14_sum_2 : decode cX14_sum 2 = .ok (.aload_n 0, 1) := by decide +kernel
theorem dX14_sum_3 : decode cX14_sum 3 = .ok (.getfield 24, 3) := by decide +kernel
theorem dX14_sum_6 : decode cX14_sum 6 = .ok (.astore_n 3, 1) := by decide +kernel
theorem dX14_sum_7 : decode cX14_sum 7 = .ok (.aload_n 3, 1) := by decide +kernel
theorem dX14_sum_8 : decode cX14_sum 8 = .ok (.arraylength, 1) := by decide +kernel
theorem dX14_sum_9 : decode cX14_sum 9 = .ok (.istore 4, 2) := by decide +kernel
theorem dX14_sum_11 : decode cX14_sum 11 = .ok (.iconst 0, 1) := by decide +kernel
theorem dX14_sum_12 : decode cX14_sum 12 = .ok (.istore 5, 2) := by decide +kernel
theorem dX14_sum_14 : decode cX14_sum 14 = .ok (.iload 5, 2) := by decide +kernel
theorem dX14_sum_16 : decode cX14_sum 16 = .ok (.iload 4, 2) := by decide +kernel
theorem dX14_sum_18 : decode cX14_sum 18 = .ok (.if_icmp .ge 30, 3) := by decide +kernel
theorem dX14_sum_21 : decode cX14_sum 21 = .ok (.aload_n 3, 1) := by decide +kernel
theorem dX14_sum_22 : decode cX14_sum 22 = .ok (.iload 5, 2) := by decide +kernel
theorem dX14_sum_24 : decode cX14_sum 24 = .ok (.aaload, 1) := by decide +kernel
theorem dX14_sum_25 : decode cX14_sum 25 = .ok (.astore 6, 2) := by decide +kernel
theorem dX14_sum_27 : decode cX14_sum 27 = .ok (.aload 6, 2) := by decide +kernel
theorem dX14_sum_29 : decode cX14_sum 29 = .ok (.iconst 0, 1) := by decide +kernel
theorem dX14_sum_30 : decode cX14_sum 30 = .ok (.iaload, 1) := by decide +kernel
theorem dX14_sum_31 : decode cX14_sum 31 = .ok (.iload_n 1, 1) := by decide +kernel
theorem dX14_sum_32 : decode cX14_sum 32 = .ok (.if_icmp .ne 10, 3) := by decide +kernel
theorem dX14_sum_35 : decode cX14_sum 35 = .ok (.iload_n 2, 1) := by decide +kernel
theorem dX14_sum_36 : decode cX14_sum 36 = .ok (.aload 6, 2) := by decide +kernel
theorem dX14_sum_38 : decode cX14_sum 38 = .ok (.iconst 1, 1) := by decide +kernel
theorem dX14_sum_39 : decode cX14_sum 39 = .ok (.iaload, 1) := by decide +kernel
theorem dX14_sum_40 : decode cX14_sum 40 = .ok (.iadd, 1) := by decide +kernel
theorem dX14_sum_41 : decode cX14_sum 41 = .ok (.istore_n 2, 1) := by decide +kernel
theorem dX14_sum_42 : decode cX14_sum 42 = .ok (.iinc 5 1, 3) := by decide +kernel
theorem dX14_sum_45 : decode cX14_sum 45 = .ok (.goto (-31), 3) := by decide +kernel
theorem dX14_sum_48 : decode cX14_sum 48 = .ok (.iload_n 2, 1) := by decide +kernel
theorem dX14_sum_49 : decode cX14_sum 49 = .ok (.ireturn, 1) := by decide +kernel
theorem dX14_arrives_0 : decode cX14_arrives 0 = .ok (.aload_n 0, 1) := by decide +kernel
theorem dX14_arrives_1 : decode cX14_arrives 1 = .ok (.aload_n 0, 1) := by decide +kernel
theorem dX14_arrives_2 : decode cX14_arrives 2 = .ok (.aload_n 1, 1) := by decide +kernel
theorem dX14_arrives_3 : decode cX14_arrives 3 = .ok (.invokevirtual 64, 3) := by decide +kernel
theorem dX14_arrives_6 : decode cX14_arrives 6 = .ok (.aload_n 1, 1) := by decide +kernel
theorem dX14_arrives_7 : decode cX14_arrives 7 = .ok (.iconst 0, 1) := by decide +kernel
theorem dX14_arrives_8 : decode cX14_arrives 8 = .ok (.iaload, 1) := by decide +kernel
theorem dX14_arrives_9 : decode cX14_arrives 9 = .ok (.invokevirtual 68, 3) := by decide +kernel
theorem dX14_arrives_12 : decode cX14_arrives 12 = .ok (.aload_n 0, 1) := by decide +kernel
theorem dX14_arrives_13 : decode cX14_arrives 13 = .ok (.getfield 9, 3) := by decide +kernel
theorem dX14_arrives_16 : decode cX14_arrives 16 = .ok (.aload_n 0, 1) := by decide +kernel
theorem dX14_arrives_17 : decode cX14_arrives 17 = .ok (.aload_n 1, 1) := by decide +kernel
theorem dX14_arrives_18 : decode cX14_arrives 18 = .ok (.invokevirtual 64, 3) := by decide +kernel
theorem dX14_arrives_21 : decode cX14_arrives 21 = .ok (.aaload, 1) := by decide +kernel
theorem dX14_arrives_22 : decode cX14_arrives 22 = .ok (.iconst 2, 1) := by decide +kernel
theorem dX14_arrives_23 : decode cX14_arrives 23 = .ok (.iaload, 1) := by decide +kernel
theorem dX14_arrives_24 : decode cX14_arrives 24 = .ok (.if_icmp .ne 88, 3) := by decide +kernel
theorem dX14_arrives_27 : decode cX14_arrives 27 = .ok (.aload_n 1, 1) := by decide +kernel
theorem dX14_arrives_28 : decode cX14_arrives 28 = .ok (.iconst 3, 1) := by decide +kernel
theorem dX14_arrives_29 : decode cX14_arrives 29 = .ok (.iconst 4, 1) := by decide +kernel
theorem dX14_arrives_30 : decode cX14_arrives 30 = .ok (.iastore, 1) := by decide +kernel
theorem dX14_arrives_31 : decode cX14_arrives 31 = .ok (.aload_n 1, 1) := by decide +kernel
theorem dX14_arrives_32 : decode cX14_arrives 32 = .ok (.bipush 6, 2) := by decide +kernel
theorem dX14_arrives_34 : decode cX14_arrives 34 = .ok (.aload_n 0, 1) := by decide +kernel
theorem dX14_arrives_35 : decode cX14_arrives 35 = .ok (.getfield 45, 3) := by decide +kernel
theorem dX14_arrives_38 : decode cX14_arrives 38 = .ok (.iastore, 1) := by decide +kernel
theorem dX14_arrives_39 : decode cX14_arrives 39 = .ok (.aload_n 1, 1) := by decide +kernel
theorem dX14_arrives_40 : decode cX14_arrives 40 = .ok (.iconst 5, 1) := by decide +kernel
theorem dX14_arrives_41 : decode cX14_arrives 41 = .ok (.iaload, 1) := by decide +kernel
theorem dX14_arrives_42 : decode cX14_arrives 42 = .ok (.aload_n 0, 1) := by decide +kernel
theorem dX14_arrives_43 : decode cX14_arrives 43 = .ok (.getfield 38, 3) := by decide +kernel
theorem dX14_arrives_46 : decode cX14_arrives 46 = .ok (.imul, 1) := by decide +kernel
theorem dX14_arrives_47 : decode cX14_arrives 47 = .ok (.bipush 100, 2) := by decide +kernel
theorem dX14_arrives_49 : decode cX14_arrives 49 = .ok (.idiv, 1) := by decide +kernel
theorem dX14_arrives_50 : decode cX14_arrives 50 = .ok (.istore_n 2, 1) := by decide +kernel
theorem dX14_arrives_51 : decode cX14_arrives 51 = .ok (.iload_n 2, 1) := by decide +kernel
theorem dX14_arrives_52 : decode cX14_arrives 52 = .ok (.ifCond .le 59, 3) := by decide +kernel
theorem dX14_arrives_55 : decode cX14_arrives 55 = .ok (.aload_n 0, 1) := by decide +kernel
theorem dX14_arrives_56 : decode cX14_arrives 56 = .ok (.getfield 24, 3) := by decide +kernel
theorem dX14_arrives_59 : decode cX14_arrives 59 = .ok (.arraylength, 1) := by decide +kernel
theorem dX14_arrives_60 : decode cX14_arrives 60 = .ok (.bipush 30, 2) := by decide +kernel
theorem dX14_arrives_62 : decode cX14_arrives 62 = .ok (.if_icmp .ge 49, 3) := by decide +kernel
theorem dX14_arrives_65 : decode cX14_arrives 65 = .ok (.aload_n 0, 1) := by decide +kernel
theorem dX14_arrives_66 : decode cX14_arrives 66 = .ok (.aload_n 0, 1) := by decide +kernel
theorem dX14_arrives_67 : decode cX14_arrives 67 = .ok (.getfield 24, 3) := by decide +kernel
theorem dX14_arrives_70 : decode cX14_arrives 70 = .ok (.iconst 4, 1) := by decide +kernel
theorem dX14_arrives_71 : decode cX14_arrives 71 = .ok (.newarray .int, 2) := by decide +kernel
theorem dX14_arrives_73 : decode cX14_arrives 73 = .ok (.dup, 1) := by decide +kernel
theorem dX14_arrives_74 : decode cX14_arrives 74 = .ok (.iconst 0, 1) := by decide +kernel
theorem dX14_arrives_75 : decode cX14_arrives 75 = .ok (.aload_n 1, 1) := by decide +kernel
theorem dX14_arrives_76 : decode cX14_arrives 76 = .ok (.iconst 0, 1) := by decide +kernel
theorem dX14_arrives_77 : decode cX14_arrives 77 = .ok (.iaload, 1) := by decide +kernel
theorem dX14_arrives_78 : decode cX14_arrives 78 = .ok (.iastore, 1) := by decide +kernel
theorem dX14_arrives_79 : decode cX14_arrives 79 = .ok (.dup, 1) := by decide +kernel
theorem dX14_arrives_80 : decode cX14_arrives 80 = .ok (.iconst 1, 1) := by decide +kernel
theorem dX14_arrives_81 : decode cX14_arrives 81 = .ok (.sipush 9999, 3) := by decide +kernel
theorem dX14_arrives_84 : decode cX14_arrives 84 = .ok (.iload_n 2, 1) := by decide +kernel
theorem dX14_arrives_85 : decode cX14_arrives 85 = .ok (.invokestatic 72, 3) := by decide +kernel
theorem dX14_arrives_88 : decode cX14_arrives 88 = .ok (.iastore, 1) := by decide +kernel
theorem dX14_arrives_89 : decode cX14_arrives 89 = .ok (.dup, 1) := by decide +kernel
theorem dX14_arrives_90 : decode cX14_arrives 90 = .ok (.iconst 2, 1) := by decide +kernel
theorem dX14_arrives_91 : decode cX14_arrives 91 = .ok (.aload_n 0, 1) := by decide +kernel
theorem dX14_arrives_92 : decode cX14_arrives 92 = .ok (.getfield 45, 3) := by decide +kernel
theorem dX14_arrives_95 : decode cX14_arrives 95 = .ok (.aload_n 0, 1) := by decide +kernel
theorem dX14_arrives_96 : decode cX14_arrives 96 = .ok (.getfield 41, 3) := by decide +kernel
theorem dX14_arrives_99 : decode cX14_arrives 99 = .ok (.iadd, 1) := by decide +kernel
theorem dX14_arrives_100 : decode cX14_arrives 100 = .ok (.iastore, 1) := by decide +kernel
theorem dX14_arrives_101 : decode cX14_arrives 101 = .ok (.dup, 1) := by decide +kernel
theorem dX14_arrives_102 : decode cX14_arrives 102 = .ok (.iconst 3, 1) := by decide +kernel
theorem dX14_arrives_103 : decode cX14_arrives 103 = .ok (.iconst 0, 1) := by decide +kernel
theorem dX14_arrives_104 : decode cX14_arrives 104 = .ok (.iastore, 1) := by decide +kernel
theorem dX14_arrives_105 : decode cX14_arrives 105 = .ok (.invokestatic 77, 3) := by decide +kernel
theorem dX14_arrives_108 : decode cX14_arrives 108 = .ok (.putfield 24, 3) := by decide +kernel
theorem dX14_arrives_111 : decode cX14_arrives 111 = .ok (.return_, 1) := by decide +kernel
theorem dX14_arrives_112 : decode cX14_arrives 112 = .ok (.aload_n 1, 1) := by decide +kernel
theorem dX14_arrives_113 : decode cX14_arrives 113 = .ok (.iconst 3, 1) := by decide +kernel
theorem dX14_arrives_114 : decode cX14_arrives 114 = .ok (.iconst 1, 1) := by decide +kernel
theorem dX14_arrives_115 : decode cX14_arrives 115 = .ok (.iastore, 1) := by decide +kernel
theorem dX14_arrives_116 : decode cX14_arrives 116 = .ok (.aload_n 1, 1) := by decide +kernel
theorem dX14_arrives_117 : decode cX14_arrives 117 = .ok (.bipush 7, 2) := by decide +kernel
theorem dX14_arrives_119 : decode cX14_arrives 119 = .ok (.aload_n 0, 1) := by decide +kernel
theorem dX14_arrives_120 : decode cX14_arrives 120 = .ok (.getfield 45, 3) := by decide +kernel
theorem dX14_arrives_123 : decode cX14_arrives 123 = .ok (.iastore, 1) := by decide +kernel
theorem dX14_arrives_124 : decode cX14_arrives 124 = .ok (.return_, 1) := by decide +kernel
theorem dX14_first_0 : decode cX14_first 0 = .ok (.aconst_null, 1) := by decide +kernel
theorem dX14_first_1 : decode cX14_first 1 = .ok (.astore_n 3, 1) := by decide +kernel
theorem dX14_first_2 : decode cX14_first 2 = .ok (.aload_n 0, 1) := by decide +kernel
theorem dX14_first_3 : decode cX14_first 3 = .ok (.getfield 21, 3) := by decide +kernel
theorem dX14_first_6 : decode cX14_first 6 = .ok (.astore 4, 2) := by decide +kernel
theorem dX14_first_8 : decode cX14_first 8 = .ok (.aload 4, 2) := by decide +kernel
theorem dX14_first_10 : decode cX14_first 10 = .ok (.arraylength, 1) := by decide +kernel
theorem dX14_first_11 : decode cX14_first 11 = .ok (.istore 5, 2) := by decide +kernel
theorem dX14_first_13 : decode cX14_first 13 = .ok (.iconst 0, 1) := by decide +kernel
theorem dX14_first_14 : decode cX14_first 14 = .ok (.istore 6, 2) := by decide +kernel
theorem dX14_first_16 : decode cX14_first 16 = .ok (.iload 6, 2) := by decide +kernel
theorem dX14_first_18 : decode cX14_first 18 = .ok (.iload 5, 2) := by decide +kernel
theorem dX14_first_20 : decode cX14_first 20 = .ok (.if_icmp .ge 61, 3) := by decide +kernel
theorem dX14_first_23 : decode cX14_first 23 = .ok (.aload 4, 2) := by decide +kernel
theorem dX14_first_25 : decode cX14_first 25 = .ok (.iload 6, 2) := by decide +kernel
theorem dX14_first_27 : decode cX14_first 27 = .ok (.aaload, 1) := by decide +kernel
theorem dX14_first_28 : decode cX14_first 28 = .ok (.astore 7, 2) := by decide +kernel
theorem dX14_first_30 : decode cX14_first 30 = .ok (.aload 7, 2) := by decide +kernel
theorem dX14_first_32 : decode cX14_first 32 = .ok (.iconst 3, 1) := by decide +kernel
theorem dX14_first_33 : decode cX14_first 33 = .ok (.iaload, 1) := by decide +kernel
theorem dX14_first_34 : decode cX14_first 34 = .ok (.iconst 1, 1) := by decide +kernel
theorem dX14_first_35 : decode cX14_first 35 = .ok (.if_icmp .ne 40, 3) := by decide +kernel
theorem dX14_first_38 : decode cX14_first 38 = .ok (.aload 7, 2) := by decide +kernel
theorem dX14_first_40 : decode cX14_first 40 = .ok (.iconst 0, 1) := by decide +kernel
theorem dX14_first_41 : decode cX14_first 41 = .ok (.iaload, 1) := by decide +kernel
theorem dX14_first_42 : decode cX14_first 42 = .ok (.iload_n 2, 1) := by decide +kernel
theorem dX14_first_43 : decode cX14_first 43 = .ok (.if_icmp .ne 32, 3) := by decide +kernel
theorem dX14_first_46 : decode cX14_first 46 = .ok (.aload_n 0, 1) := by decide +kernel
theorem dX14_first_47 : decode cX14_first 47 = .ok (.aload 7, 2) := by decide +kernel
theorem dX14_first_49 : decode cX14_first 49 = .ok (.invokevirtual 64, 3) := by decide +kernel
theorem dX14_first_52 : decode cX14_first 52 = .ok (.iload_n 1, 1) := by decide +kernel
theorem dX14_first_53 : decode cX14_first 53 = .ok (.if_icmp .ne 22, 3) := by decide +kernel
theorem dX14_first_56 : decode cX14_first 56 = .ok (.aload_n 3, 1) := by decide +kernel
theorem dX14_first_57 : decode cX14_first 57 = .ok (.ifnull 15, 3) := by decide +kernel
theorem dX14_first_60 : decode cX14_first 60 = .ok (.aload 7, 2) := by decide +kernel
theorem dX14_first_62 : decode cX14_first 62 = .ok (.bipush 7, 2) := by decide +kernel
theorem dX14_first_64 : decode cX14_first 64 = .ok (.iaload, 1) := by decide +kernel
theorem dX14_first_65 : decode cX14_first 65 = .ok (.aload_n 3, 1) := by decide +kernel
theorem dX14_first_66 : decode cX14_first 66 = .ok (.bipush 7, 2) := by decide +kernel
theorem dX14_first_68 : decode cX14_first 68 = .ok (.iaload, 1) := by decide +kernel
theorem dX14_first_69 : decode cX14_first 69 = .ok (.if_icmp .ge 6, 3) := by decide +kernel
theorem dX14_first_72 : decode cX14_first 72 = .ok (.aload 7, 2) := by decide +kernel
theorem dX14_first_74 : decode cX14_first 74 = .ok (.astore_n 3, 1) := by decide +kernel
theorem dX14_first_75 : decode cX14_first 75 = .ok (.iinc 6 1, 3) := by decide +kernel
theorem dX14_first_78 : decode cX14_first 78 = .ok (.goto (-62), 3) := by decide +kernel
theorem dX14_first_81 : decode cX14_first 81 = .ok (.aload_n 3, 1) := by decide +kernel
theorem dX14_first_82 : decode cX14_first 82 = .ok (.areturn, 1) := by decide +kernel
theorem dX14_passes_0 : decode cX14_passes 0 = .ok (.aload_n 0, 1) := by decide +kernel
theorem dX14_passes_1 : decode cX14_passes 1 = .ok (.iload_n 1, 1) := by decide +kernel
theorem dX14_passes_2 : decode cX14_passes 2 = .ok (.iload_n 2, 1) := by decide +kernel
theorem dX14_passes_3 : decode cX14_passes 3 = .ok (.invokevirtual 81, 3) := by decide +kernel
theorem dX14_passes_6 : decode cX14_passes 6 = .ok (.astore_n 3, 1) := by decide +kernel
theorem dX14_passes_7 : decode cX14_passes 7 = .ok (.aload_n 3, 1) := by decide +kernel
theorem dX14_passes_8 : decode cX14_passes 8 = .ok (.ifnonnull 5, 3) := by decide +kernel
theorem dX14_passes_11 : decode cX14_passes 11 = .ok (.iconst 0, 1) := by decide +kernel
theorem dX14_passes_12 : decode cX14_passes 12 = .ok (.ireturn, 1) := by decide +kernel
theorem dX14_passes_13 : decode cX14_passes 13 = .ok (.aload_n 0, 1) := by decide +kernel
theorem dX14_passes_14 : decode cX14_passes 14 = .ok (.getfield 31, 3) := by decide +kernel
theorem dX14_passes_17 : decode cX14_passes 17 = .ok (.iload_n 1, 1) := by decide +kernel
theorem dX14_passes_18 : decode cX14_passes 18 = .ok (.aaload, 1) := by decide +kernel
theorem dX14_passes_19 : decode cX14_passes 19 = .ok (.iload_n 2, 1) := by decide +kernel
theorem dX14_passes_20 : decode cX14_passes 20 = .ok (.iaload, 1) := by decide +kernel
theorem dX14_passes_21 : decode cX14_passes 21 = .ok (.istore 4, 2) := by decide +kernel
theorem dX14_passes_23 : decode cX14_passes 23 = .ok (.aload_n 0, 1) := by decide +kernel
theorem dX14_passes_24 : decode cX14_passes 24 = .ok (.getfield 45, 3) := by decide +kernel
theorem dX14_passes_27 : decode cX14_passes 27 = .ok (.aload_n 3, 1) := by decide +kernel
theorem dX14_passes_28 : decode cX14_passes 28 = .ok (.bipush 7, 2) := by decide +kernel
theorem dX14_passes_30 : decode cX14_passes 30 = .ok (.iaload, 1) := by decide +kernel
theorem dX14_passes_31 : decode cX14_passes 31 = .ok (.isub, 1) := by decide +kernel
theorem dX14_passes_32 : decode cX14_passes 32 = .ok (.aload_n 0, 1) := by decide +kernel
theorem dX14_passes_33 : decode cX14_passes 33 = .ok (.getfield 15, 3) := by decide +kernel
theorem dX14_passes_36 : decode cX14_passes 36 = .ok (.iload_n 2, 1) := by decide +kernel
theorem dX14_passes_37 : decode cX14_passes 37 = .ok (.aaload, 1) := by decide +kernel
theorem dX14_passes_38 : decode cX14_passes 38 = .ok (.iconst 0, 1) := by decide +kernel
theorem dX14_passes_39 : decode cX14_passes 39 = .ok (.iaload, 1) := by decide +kernel
theorem dX14_passes_40 : decode cX14_passes 40 = .ok (.if_icmp .lt 21, 3) := by decide +kernel
theorem dX14_passes_43 : decode cX14_passes 43 = .ok (.aload_n 3, 1) := by decide +kernel
theorem dX14_passes_44 : decode cX14_passes 44 = .ok (.iconst 2, 1) := by decide +kernel
theorem dX14_passes_45 : decode cX14_passes 45 = .ok (.iaload, 1) := by decide +kernel
theorem dX14_passes_46 : decode cX14_passes 46 = .ok (.iload 4, 2) := by decide +kernel
theorem dX14_passes_48 : decode cX14_passes 48 = .ok (.aload_n 0, 1) := by decide +kernel
theorem dX14_passes_49 : decode cX14_passes 49 = .ok (.iload_n 2, 1) := by decide +kernel
theorem dX14_passes_50 : decode cX14_passes 50 = .ok (.invokevirtual 85, 3) := by decide +kernel
theorem dX14_passes_53 : decode cX14_passes 53 = .ok (.iadd, 1) := by decide +kernel
theorem dX14_passes_54 : decode cX14_passes 54 = .ok (.if_icmp .gt 7, 3) := by decide +kernel
theorem dX14_passes_57 : decode cX14_passes 57 = .ok (.iconst 1, 1) := by decide +kernel
theorem dX14_passes_58 : decode cX14_passes 58 = .ok (.goto 4, 3) := by decide +kernel
theorem dX14_passes_61 : decode cX14_passes 61 = .ok (.iconst 0, 1) := by decide +kernel
theorem dX14_passes_62 : decode cX14_passes 62 = .ok (.istore 5, 2) := by decide +kernel
theorem dX14_passes_64 : decode cX14_passes 64 = .ok (.aload_n 3, 1) := by decide +kernel
theorem dX14_passes_65 : decode cX14_passes 65 = .ok (.iconst 2, 1) := by decide +kernel
theorem dX14_passes_66 : decode cX14_passes 66 = .ok (.iaload, 1) := by decide +kernel
theorem dX14_passes_67 : decode cX14_passes 67 = .ok (.iload 4, 2) := by decide +kernel
theorem dX14_passes_69 : decode cX14_passes 69 = .ok (.if_icmp .le 10, 3) := by decide +kernel
theorem dX14_passes_72 : decode cX14_passes 72 = .ok (.iload 5, 2) := by decide +kernel
theorem dX14_passes_74 : decode cX14_passes 74 = .ok (.ifCond .ne 5, 3) := by decide +kernel
theorem dX14_passes_77 : decode cX14_passes 77 = .ok (.iconst 0, 1) := by decide +kernel
theorem dX14_passes_78 : decode cX14_passes 78 = .ok (.ireturn, 1) := by decide +kernel
theorem dX14_passes_79 : decode cX14_passes 79 = .ok (.iconst 0, 1) := by decide +kernel
theorem dX14_passes_80 : decode cX14_passes 80 = .ok (.aload_n 3, 1) := by decide +kernel
theorem dX14_passes_81 : decode cX14_passes 81 = .ok (.iconst 2, 1) := by decide +kernel
theorem dX14_passes_82 : decode cX14_passes 82 = .ok (.iaload, 1) := by decide +kernel
theorem dX14_passes_83 : decode cX14_passes 83 = .ok (.iload 4, 2) := by decide +kernel
theorem dX14_passes_85 : decode cX14_passes 85 = .ok (.isub, 1) := by decide +kernel
theorem dX14_passes_86 : decode cX14_passes 86 = .ok (.invokestatic 89, 3) := by decide +kernel
theorem dX14_passes_89 : decode cX14_passes 89 = .ok (.istore 6, 2) := by decide +kernel
theorem dX14_passes_91 : decode cX14_passes 91 = .ok (.aload_n 0, 1) := by decide +kernel
theorem dX14_passes_92 : decode cX14_passes 92 = .ok (.getfield 31, 3) := by decide +kernel
theorem dX14_passes_95 : decode cX14_passes 95 = .ok (.iload_n 1, 1) := by decide +kernel
theorem dX14_passes_96 : decode cX14_passes 96 = .ok (.aaload, 1) := by decide +kernel
theorem dX14_passes_97 : decode cX14_passes 97 = .ok (.iload_n 2, 1) := by decide +kernel
theorem dX14_passes_98 : decode cX14_passes 98 = .ok (.iconst 0, 1) := by decide +kernel
theorem dX14_passes_99 : decode cX14_passes 99 = .ok (.iload 4, 2) := by decide +kernel
theorem dX14_passes_101 : decode cX14_passes 101 = .ok (.aload_n 3, 1) := by decide +kernel
theorem dX14_passes_102 : decode cX14_passes 102 = .ok (.iconst 2, 1) := by decide +kernel
theorem dX14_passes_103 : decode cX14_passes 103 = .ok (.iaload, 1) := by decide +kernel
theorem dX14_passes_104 : decode cX14_passes 104 = .ok (.isub, 1) := by decide +kernel
theorem dX14_passes_105 : decode cX14_passes 105 = .ok (.invokestatic 89, 3) := by decide +kernel
theorem dX14_passes_108 : decode cX14_passes 108 = .ok (.iastore, 1) := by decide +kernel
theorem dX14_passes_109 : decode cX14_passes 109 = .ok (.aload_n 3, 1) := by decide +kernel
theorem dX14_passes_110 : decode cX14_passes 110 = .ok (.iconst 5, 1) := by decide +kernel
theorem dX14_passes_111 : decode cX14_passes 111 = .ok (.dup2, 1) := by decide +kernel
theorem dX14_passes_112 : decode cX14_passes 112 = .ok (.iaload, 1) := by decide +kernel
theorem dX14_passes_113 : decode cX14_passes 113 = .ok (.iload 6, 2) := by decide +kernel
theorem dX14_passes_115 : decode cX14_passes 115 = .ok (.iadd, 1) := by decide +kernel
theorem dX14_passes_116 : decode cX14_passes 116 = .ok (.iastore, 1) := by decide +kernel
theorem dX14_passes_117 : decode cX14_passes 117 = .ok (.aload_n 0, 1) := by decide +kernel
theorem dX14_passes_118 : decode cX14_passes 118 = .ok (.dup, 1) := by decide +kernel
theorem dX14_passes_119 : decode cX14_passes 119 = .ok (.getfield 57, 3) := by decide +kernel
theorem dX14_passes_122 : decode cX14_passes 122 = .ok (.iload 6, 2) := by decide +kernel
theorem dX14_passes_124 : decode cX14_passes 124 = .ok (.iadd, 1) := by decide +kernel
theorem dX14_passes_125 : decode cX14_passes 125 = .ok (.putfield 57, 3) := by decide +kernel
theorem dX14_passes_128 : decode cX14_passes 128 = .ok (.aload_n 0, 1) := by decide +kernel
theorem dX14_passes_129 : decode cX14_passes 129 = .ok (.getfield 60, 3) := by decide +kernel
theorem dX14_passes_132 : decode cX14_passes 132 = .ok (.ifnonnull 10, 3) := by decide +kernel
theorem dX14_passes_135 : decode cX14_passes 135 = .ok (.aload_n 3, 1) := by decide +kernel
theorem dX14_passes_136 : decode cX14_passes 136 = .ok (.iconst 2, 1) := by decide +kernel
theorem dX14_passes_137 : decode cX14_passes 137 = .ok (.iaload, 1) := by decide +kernel
theorem dX14_passes_138 : decode cX14_passes 138 = .ok (.i2l, 1) := by decide +kernel
theorem dX14_passes_139 : decode cX14_passes 139 = .ok (.goto 44, 3) := by decide +kernel
theorem dX14_passes_142 : decode cX14_passes 142 = .ok (.aload_n 0, 1) := by decide +kernel
theorem dX14_passes_143 : decode cX14_passes 143 = .ok (.getfield 60, 3) := by decide +kernel
theorem dX14_passes_146 : decode cX14_passes 146 = .ok (.iconst 4, 1) := by decide +kernel
theorem dX14_passes_147 : decode cX14_passes 147 = .ok (.newarray .long, 2) := by decide +kernel
theorem dX14_passes_149 : decode cX14_passes 149 = .ok (.dup, 1) := by decide +kernel
theorem dX14_passes_150 : decode cX14_passes 150 = .ok (.iconst 0, 1) := by decide +kernel
theorem dX14_passes_151 : decode cX14_passes 151 = .ok (.aload_n 3, 1) := by decide +kernel
theorem dX14_passes_152 : decode cX14_passes 152 = .ok (.iconst 2, 1) := by decide +kernel
theorem dX14_passes_153 : decode cX14_passes 153 = .ok (.iaload, 1) := by decide +kernel
theorem dX14_passes_154 : decode cX14_passes 154 = .ok (.i2l, 1) := by decide +kernel
theorem dX14_passes_155 : decode cX14_passes 155 = .ok (.lastore, 1) := by decide +kernel
theorem dX14_passes_156 : decode cX14_passes 156 = .ok (.dup, 1) := by decide +kernel
theorem dX14_passes_157 : decode cX14_passes 157 = .ok (.iconst 1, 1) := by decide +kernel
theorem dX14_passes_158 : decode cX14_passes 158 = .ok (.iload_n 1, 1) := by decide +kernel
theorem dX14_passes_159 : decode cX14_passes 159 = .ok (.i2l, 1) := by decide +kernel
theorem dX14_passes_160 : decode cX14_passes 160 = .ok (.lastore, 1) := by decide +kernel
theorem dX14_passes_161 : decode cX14_passes 161 = .ok (.dup, 1) := by decide +kernel
theorem dX14_passes_162 : decode cX14_passes 162 = .ok (.iconst 2, 1) := by decide +kernel
theorem dX14_passes_163 : decode cX14_passes 163 = .ok (.iload 6, 2) := by decide +kernel
theorem dX14_passes_165 : decode cX14_passes 165 = .ok (.i2l, 1) := by decide +kernel
theorem dX14_passes_166 : decode cX14_passes 166 = .ok (.lastore, 1) := by decide +kernel
theorem dX14_passes_167 : decode cX14_passes 167 = .ok (.dup, 1) := by decide +kernel
theorem dX14_passes_168 : decode cX14_passes 168 = .ok (.iconst 3, 1) := by decide +kernel
theorem dX14_passes_169 : decode cX14_passes 169 = .ok (.aload_n 0, 1) := by decide +kernel
theorem dX14_passes_170 : decode cX14_passes 170 = .ok (.getfield 45, 3) := by decide +kernel
theorem dX14_passes_173 : decode cX14_passes 173 = .ok (.aload_n 3, 1) := by decide +kernel
theorem dX14_passes_174 : decode cX14_passes 174 = .ok (.bipush 7, 2) := by decide +kernel
theorem dX14_passes_176 : decode cX14_passes 176 = .ok (.iaload, 1) := by decide +kernel
theorem dX14_passes_177 : decode cX14_passes 177 = .ok (.isub, 1) := by decide +kernel
theorem dX14_passes_178 : decode cX14_passes 178 = .ok (.i2l, 1) := by decide +kernel
theorem dX14_passes_179 : decode cX14_passes 179 = .ok (.lastore, 1) := by decide +kernel
theorem dX14_passes_180 : decode cX14_passes 180 = .ok (.invokevirtual 92, 3) := by decide +kernel
theorem dX14_passes_183 : decode cX14_passes 183 = .ok (.lstore 7, 2) := by decide +kernel
theorem dX14_passes_185 : decode cX14_passes 185 = .ok (.aload_n 0, 1) := by decide +kernel
theorem dX14_passes_186 : decode cX14_passes 186 = .ok (.getfield 15, 3) := by decide +kernel
theorem dX14_passes_189 : decode cX14_passes 189 = .ok (.iload_n 2, 1) := by decide +kernel
theorem dX14_passes_190 : decode cX14_passes 190 = .ok (.aaload, 1) := by decide +kernel
theorem dX14_passes_191 : decode cX14_passes 191 = .ok (.iconst 1, 1) := by decide +kernel
theorem dX14_passes_192 : decode cX14_passes 192 = .ok (.dup2, 1) := by decide +kernel
theorem dX14_passes_193 : decode cX14_passes 193 = .ok (.iaload, 1) := by decide +kernel
theorem dX14_passes_194 : decode cX14_passes 194 = .ok (.lconst 0, 1) := by decide +kernel
theorem dX14_passes_195 : decode cX14_passes 195 = .ok (.ldc2_w 98, 3) := by decide +kernel
theorem dX14_passes_198 : decode cX14_passes 198 = .ok (.lload 7, 2) := by decide +kernel
theorem dX14_passes_200 : decode cX14_passes 200 = .ok (.invokestatic 100, 3) := by decide +kernel
theorem dX14_passes_203 : decode cX14_passes 203 = .ok (.invokestatic 103, 3) := by decide +kernel
theorem dX14_passes_206 : decode cX14_passes 206 = .ok (.l2i, 1) := by decide +kernel
theorem dX14_passes_207 : decode cX14_passes 207 = .ok (.iadd, 1) := by decide +kernel
theorem dX14_passes_208 : decode cX14_passes 208 = .ok (.iastore, 1) := by decide +kernel
theorem dX14_passes_209 : decode cX14_passes 209 = .ok (.aload_n 0, 1) := by decide +kernel
theorem dX14_passes_210 : decode cX14_passes 210 = .ok (.aload_n 0, 1) := by decide +kernel
theorem dX14_passes_211 : decode cX14_passes 211 = .ok (.getfield 27, 3) := by decide +kernel
theorem dX14_passes_214 : decode cX14_passes 214 = .ok (.iconst 5, 1) := by decide +kernel
theorem dX14_passes_215 : decode cX14_passes 215 = .ok (.newarray .int, 2) := by decide +kernel
theorem dX14_passes_217 : decode cX14_passes 217 = .ok (.dup, 1) := by decide +kernel
theorem dX14_passes_218 : decode cX14_passes 218 = .ok (.iconst 0, 1) := by decide +kernel
theorem dX14_passes_219 : decode cX14_passes 219 = .ok (.aload_n 0, 1) := by decide +kernel
theorem dX14_passes_220 : decode cX14_passes 220 = .ok (.getfield 45, 3) := by decide +kernel
theorem dX14_passes_223 : decode cX14_passes 223 = .ok (.iastore, 1) := by decide +kernel
theorem dX14_passes_224 : decode cX14_passes 224 = .ok (.dup, 1) := by decide +kernel
theorem dX14_passes_225 : decode cX14_passes 225 = .ok (.iconst 1, 1) := by decide +kernel
theorem dX14_passes_226 : decode cX14_passes 226 = .ok (.iload_n 1, 1) := by decide +kernel
theorem dX14_passes_227 : decode cX14_passes 227 = .ok (.iastore, 1) := by decide +kernel
theorem dX14_passes_228 : decode cX14_passes 228 = .ok (.dup, 1) := by decide +kernel
theorem dX14_passes_229 : decode cX14_passes 229 = .ok (.iconst 2, 1) := by decide +kernel
theorem dX14_passes_230 : decode cX14_passes 230 = .ok (.iload_n 2, 1) := by decide +kernel
theorem dX14_passes_231 : decode cX14_passes 231 = .ok (.iastore, 1) := by decide +kernel
theorem dX14_passes_232 : decode cX14_passes 232 = .ok (.dup, 1) := by decide +kernel
theorem dX14_passes_233 : decode cX14_passes 233 = .ok (.iconst 3, 1) := by decide +kernel
theorem dX14_passes_234 : decode cX14_passes 234 = .ok (.aload_n 3, 1) := by decide +kernel
theorem dX14_passes_235 : decode cX14_passes 235 = .ok (.iconst 2, 1) := by decide +kernel
theorem dX14_passes_236 : decode cX14_passes 236 = .ok (.iaload, 1) := by decide +kernel
theorem dX14_passes_237 : decode cX14_passes 237 = .ok (.iastore, 1) := by decide +kernel
theorem dX14_passes_238 : decode cX14_passes 238 = .ok (.dup, 1) := by decide +kernel
theorem dX14_passes_239 : decode cX14_passes 239 = .ok (.iconst 4, 1) := by decide +kernel
theorem dX14_passes_240 : decode cX14_passes 240 = .ok (.iload 6, 2) := by decide +kernel
theorem dX14_passes_242 : decode cX14_passes 242 = .ok (.iastore, 1) := by decide +kernel
theorem dX14_passes_243 : decode cX14_passes 243 = .ok (.invokestatic 77, 3) := by decide +kernel
theorem dX14_passes_246 : decode cX14_passes 246 = .ok (.putfield 27, 3) := by decide +kernel
theorem dX14_passes_249 : decode cX14_passes 249 = .ok (.aload_n 0, 1) := by decide +kernel
theorem dX14_passes_250 : decode cX14_passes 250 = .ok (.getfield 27, 3) := by decide +kernel
theorem dX14_passes_253 : decode cX14_passes 253 = .ok (.arraylength, 1) := by decide +kernel
theorem dX14_passes_254 : decode cX14_passes 254 = .ok (.bipush 40, 2) := by decide +kernel
theorem dX14_passes_256 : decode cX14_passes 256 = .ok (.if_icmp .le 15, 3) := by decide +kernel
theorem dX14_passes_259 : decode cX14_passes 259 = .ok (.aload_n 0, 1) := by decide +kernel
theorem dX14_passes_260 : decode cX14_passes 260 = .ok (.aload_n 0, 1) := by decide +kernel
theorem dX14_passes_261 : decode cX14_passes 261 = .ok (.getfield 27, 3) := by decide +kernel
theorem dX14_passes_264 : decode cX14_passes 264 = .ok (.iconst 0, 1) := by decide +kernel
theorem dX14_passes_265 : decode cX14_passes 265 = .ok (.invokestatic 105, 3) := by decide +kernel
theorem dX14_passes_268 : decode cX14_passes 268 = .ok (.putfield 27, 3) := by decide +kernel
theorem dX14_passes_271 : decode cX14_passes 271 = .ok (.iload 6, 2) := by decide +kernel
theorem dX14_passes_273 : decode cX14_passes 273 = .ok (.istore 9, 2) := by decide +kernel
theorem dX14_passes_275 : decode cX14_passes 275 = .ok (.iload 9, 2) := by decide +kernel
theorem dX14_passes_277 : decode cX14_passes 277 = .ok (.ifCond .le 133, 3) := by decide +kernel
theorem dX14_passes_280 : decode cX14_passes 280 = .ok (.iconst (-1), 1) := by decide +kernel
theorem dX14_passes_281 : decode cX14_passes 281 = .ok (.istore 10, 2) := by decide +kernel
theorem dX14_passes_283 : decode cX14_passes 283 = .ok (.iconst 0, 1) := by decide +kernel
theorem dX14_passes_284 : decode cX14_passes 284 = .ok (.istore 11, 2) := by decide +kernel
theorem dX14_passes_286 : decode cX14_passes 286 = .ok (.iload 11, 2) := by decide +kernel
theorem dX14_passes_288 : decode cX14_passes 288 = .ok (.aload_n 0, 1) := by decide +kernel
theorem dX14_passes_289 : decode cX14_passes 289 = .ok (.getfield 24, 3) := by decide +kernel
theorem dX14_passes_292 : decode cX14_passes 292 = .ok (.arraylength, 1) := by decide +kernel
theorem dX14_passes_293 : decode cX14_passes 293 = .ok (.if_icmp .ge 52, 3) := by decide +kernel
theorem dX14_passes_296 : decode cX14_passes 296 = .ok (.aload_n 0, 1) := by decide +kernel
theorem dX14_passes_297 : decode cX14_passes 297 = .ok (.getfield 24, 3) := by decide +kernel
theorem dX14_passes_300 : decode cX14_passes 300 = .ok (.iload 11, 2) := by decide +kernel
theorem dX14_passes_302 : decode cX14_passes 302 = .ok (.aaload, 1) := by decide +kernel
theorem dX14_passes_303 : decode cX14_passes 303 = .ok (.iconst 0, 1) := by decide +kernel
theorem dX14_passes_304 : decode cX14_passes 304 = .ok (.iaload, 1) := by decide +kernel
theorem dX14_passes_305 : decode cX14_passes 305 = .ok (.iload_n 2, 1) := by decide +kernel
theorem dX14_passes_306 : decode cX14_passes 306 = .ok (.if_icmp .ne 33, 3) := by decide +kernel
theorem dX14_passes_309 : decode cX14_passes 309 = .ok (.iload 10, 2) := by decide +kernel
theorem dX14_passes_311 : decode cX14_passes 311 = .ok (.ifCond .lt 24, 3) := by decide +kernel
theorem dX14_passes_314 : decode cX14_passes 314 = .ok (.aload_n 0, 1) := by decide +kernel
theorem dX14_passes_315 : decode cX14_passes 315 = .ok (.getfield 24, 3) := by decide +kernel
theorem dX14_passes_318 : decode cX14_passes 318 = .ok (.iload 11, 2) := by decide +kernel
theorem dX14_passes_320 : decode cX14_passes 320 = .ok (.aaload, 1) := by decide +kernel
theorem dX14_passes_321 : decode cX14_passes 321 = .ok (.iconst 2, 1) := by decide +kernel
theorem dX14_passes_322 : decode cX14_passes 322 = .ok (.iaload, 1) := by decide +kernel
theorem dX14_passes_323 : decode cX14_passes 323 = .ok (.aload_n 0, 1) := by decide +kernel
theorem dX14_passes_324 : decode cX14_passes 324 = .ok (.getfield 24, 3) := by decide +kernel
theorem dX14_passes_327 : decode cX14_passes 327 = .ok (.iload 10, 2) := by decide +kernel
theorem dX14_passes_329 : decode cX14_passes 329 = .ok (.aaload, 1) := by decide +kernel
theorem dX14_passes_330 : decode cX14_passes 330 = .ok (.iconst 2, 1) := by decide +kernel
theorem dX14_passes_331 : decode cX14_passes 331 = .ok (.iaload, 1) := by decide +kernel
theorem dX14_passes_332 : decode cX14_passes 332 = .ok (.if_icmp .ge 7, 3) := by decide +kernel
theorem dX14_passes_335 : decode cX14_passes 335 = .ok (.iload 11, 2) := by decide +kernel
theorem dX14_passes_337 : decode cX14_passes 337 = .ok (.istore 10, 2) := by decide +kernel
theorem dX14_passes_339 : decode cX14_passes 339 = .ok (.iinc 11 1, 3) := by decide +kernel
theorem dX14_passes_342 : decode cX14_passes 342 = .ok (.goto (-56), 3) := by decide +kernel
theorem dX14_passes_345 : decode cX14_passes 345 = .ok (.iload 9, 2) := by decide +kernel
theorem dX14_passes_347 : decode cX14_passes 347 = .ok (.aload_n 0, 1) := by decide +kernel
theorem dX14_passes_348 : decode cX14_passes 348 = .ok (.getfield 24, 3) := by decide +kernel
theorem dX14_passes_351 : decode cX14_passes 351 = .ok (.iload 10, 2) := by decide +kernel
theorem dX14_passes_353 : decode cX14_passes 353 = .ok (.aaload, 1) := by decide +kernel
theorem dX14_passes_354 : decode cX14_passes 354 = .ok (.iconst 1, 1) := by decide +kernel
theorem dX14_passes_355 : decode cX14_passes 355 = .ok (.iaload, 1) := by decide +kernel
theorem dX14_passes_356 : decode cX14_passes 356 = .ok (.invokestatic 72, 3) := by decide +kernel
theorem dX14_passes_359 : decode cX14_passes 359 = .ok (.istore 11, 2) := by decide +kernel
theorem dX14_passes_361 : decode cX14_passes 361 = .ok (.iload 9, 2) := by decide +kernel
theorem dX14_passes_363 : decode cX14_passes 363 = .ok (.iload 11, 2) := by decide +kernel
theorem dX14_passes_365 : decode cX14_passes 365 = .ok (.isub, 1) := by decide +kernel
theorem dX14_passes_366 : decode cX14_passes 366 = .ok (.istore 9, 2) := by decide +kernel
theorem dX14_passes_368 : decode cX14_passes 368 = .ok (.aload_n 0, 1) := by decide +kernel
theorem dX14_passes_369 : decode cX14_passes 369 = .ok (.getfield 24, 3) := by decide +kernel
theorem dX14_passes_372 : decode cX14_passes 372 = .ok (.iload 10, 2) := by decide +kernel
theorem dX14_passes_374 : decode cX14_passes 374 = .ok (.aaload, 1) := by decide +kernel
theorem dX14_passes_375 : decode cX14_passes 375 = .ok (.iconst 1, 1) := by decide +kernel
theorem dX14_passes_376 : decode cX14_passes 376 = .ok (.dup2, 1) := by decide +kernel
theorem dX14_passes_377 : decode cX14_passes 377 = .ok (.iaload, 1) := by decide +kernel
theorem dX14_passes_378 : decode cX14_passes 378 = .ok (.iload 11, 2) := by decide +kernel
theorem dX14_passes_380 : decode cX14_passes 380 = .ok (.isub, 1) := by decide +kernel
theorem dX14_passes_381 : decode cX14_passes 381 = .ok (.iastore, 1) := by decide +kernel
theorem dX14_passes_382 : decode cX14_passes 382 = .ok (.aload_n 0, 1) := by decide +kernel
theorem dX14_passes_383 : decode cX14_passes 383 = .ok (.getfield 24, 3) := by decide +kernel
theorem dX14_passes_386 : decode cX14_passes 386 = .ok (.iload 10, 2) := by decide +kernel
theorem dX14_passes_388 : decode cX14_passes 388 = .ok (.aaload, 1) := by decide +kernel
theorem dX14_passes_389 : decode cX14_passes 389 = .ok (.iconst 1, 1) := by decide +kernel
theorem dX14_passes_390 : decode cX14_passes 390 = .ok (.iaload, 1) := by decide +kernel
theorem dX14_passes_391 : decode cX14_passes 391 = .ok (.ifCond .ne 16, 3) := by decide +kernel
theorem dX14_passes_394 : decode cX14_passes 394 = .ok (.aload_n 0, 1) := by decide +kernel
theorem dX14_passes_395 : decode cX14_passes 395 = .ok (.aload_n 0, 1) := by decide +kernel
theorem dX14_passes_396 : decode cX14_passes 396 = .ok (.getfield 24, 3) := by decide +kernel
theorem dX14_passes_399 : decode cX14_passes 399 = .ok (.iload 10, 2) := by decide +kernel
theorem dX14_passes_401 : decode cX14_passes 401 = .ok (.invokestatic 105, 3) := by decide +kernel
theorem dX14_passes_404 : decode cX14_passes 404 = .ok (.putfield 24, 3) := by decide +kernel
theorem dX14_passes_407 : decode cX14_passes 407 = .ok (.goto (-132), 3) := by decide +kernel
theorem dX14_passes_410 : decode cX14_passes 410 = .ok (.aload_n 3, 1) := by decide +kernel
theorem dX14_passes_411 : decode cX14_passes 411 = .ok (.iconst 4, 1) := by decide +kernel
theorem dX14_passes_412 : decode cX14_passes 412 = .ok (.dup2, 1) := by decide +kernel
theorem dX14_passes_413 : decode cX14_passes 413 = .ok (.iaload, 1) := by decide +kernel
theorem dX14_passes_414 : decode cX14_passes 414 = .ok (.iconst 1, 1) := by decide +kernel
theorem dX14_passes_415 : decode cX14_passes 415 = .ok (.iadd, 1) := by decide +kernel
theorem dX14_passes_416 : decode cX14_passes 416 = .ok (.iastore, 1) := by decide +kernel
theorem dX14_passes_417 : decode cX14_passes 417 = .ok (.aload_n 3, 1) := by decide +kernel
theorem dX14_passes_418 : decode cX14_passes 418 = .ok (.iconst 3, 1) := by decide +kernel
theorem dX14_passes_419 : decode cX14_passes 419 = .ok (.iconst 2, 1) := by decide +kernel
theorem dX14_passes_420 : decode cX14_passes 420 = .ok (.iastore, 1) := by decide +kernel
theorem dX14_passes_421 : decode cX14_passes 421 = .ok (.aload_n 3, 1) := by decide +kernel
theorem dX14_passes_422 : decode cX14_passes 422 = .ok (.iconst 4, 1) := by decide +kernel
theorem dX14_passes_423 : decode cX14_passes 423 = .ok (.iaload, 1) := by decide +kernel
theorem dX14_passes_424 : decode cX14_passes 424 = .ok (.aload_n 0, 1) := by decide +kernel
theorem dX14_passes_425 : decode cX14_passes 425 = .ok (.getfield 18, 3) := by decide +kernel
theorem dX14_passes_428 : decode cX14_passes 428 = .ok (.iload_n 2, 1) := by decide +kernel
theorem dX14_passes_429 : decode cX14_passes 429 = .ok (.aaload, 1) := by decide +kernel
theorem dX14_passes_430 : decode cX14_passes 430 = .ok (.arraylength, 1) := by decide +kernel
theorem dX14_passes_431 : decode cX14_passes 431 = .ok (.if_icmp .ne 29, 3) := by decide +kernel
theorem dX14_passes_434 : decode cX14_passes 434 = .ok (.aload_n 3, 1) := by decide +kernel
theorem dX14_passes_435 : decode cX14_passes 435 = .ok (.iconst 3, 1) := by decide +kernel
theorem dX14_passes_436 : decode cX14_passes 436 = .ok (.iconst 3, 1) := by decide +kernel
theorem dX14_passes_437 : decode cX14_passes 437 = .ok (.iastore, 1) := by decide +kernel
theorem dX14_passes_438 : decode cX14_passes 438 = .ok (.aload_n 3, 1) := by decide +kernel
theorem dX14_passes_439 : decode cX14_passes 439 = .ok (.bipush 6, 2) := by decide +kernel
theorem dX14_passes_441 : decode cX14_passes 441 = .ok (.aload_n 0, 1) := by decide +kernel
theorem dX14_passes_442 : decode cX14_passes 442 = .ok (.getfield 45, 3) := by decide +kernel
theorem dX14_passes_445 : decode cX14_passes 445 = .ok (.iastore, 1) := by decide +kernel
theorem dX14_passes_446 : decode cX14_passes 446 = .ok (.aload_n 0, 1) := by decide +kernel
theorem dX14_passes_447 : decode cX14_passes 447 = .ok (.getfield 15, 3) := by decide +kernel
theorem dX14_passes_450 : decode cX14_passes 450 = .ok (.iload_n 2, 1) := by decide +kernel
theorem dX14_passes_451 : decode cX14_passes 451 = .ok (.aaload, 1) := by decide +kernel
theorem dX14_passes_452 : decode cX14_passes 452 = .ok (.iconst 2, 1) := by decide +kernel
theorem dX14_passes_453 : decode cX14_passes 453 = .ok (.dup2, 1) := by decide +kernel
theorem dX14_passes_454 : decode cX14_passes 454 = .ok (.iaload, 1) := by decide +kernel
theorem dX14_passes_455 : decode cX14_passes 455 = .ok (.aload_n 3, 1) := by decide +kernel
theorem dX14_passes_456 : decode cX14_passes 456 = .ok (.iconst 2, 1) := by decide +kernel
theorem dX14_passes_457 : decode cX14_passes 457 = .ok (.iaload, 1) := by decide +kernel
theorem dX14_passes_458 : decode cX14_passes 458 = .ok (.iadd, 1) := by decide +kernel
theorem dX14_passes_459 : decode cX14_passes 459 = .ok (.iastore, 1) := by decide +kernel
theorem dX14_passes_460 : decode cX14_passes 460 = .ok (.iconst 1, 1) := by decide +kernel
theorem dX14_passes_461 : decode cX14_passes 461 = .ok (.ireturn, 1) := by decide +kernel
theorem dX14_tick_0 : decode cX14_tick 0 = .ok (.iconst 0, 1) := by decide +kernel
theorem dX14_tick_1 : decode cX14_tick 1 = .ok (.istore_n 1, 1) := by decide +kernel
theorem dX14_tick_2 : decode cX14_tick 2 = .ok (.iload_n 1, 1) := by decide +kernel
theorem dX14_tick_3 : decode cX14_tick 3 = .ok (.aload_n 0, 1) := by decide +kernel
theorem dX14_tick_4 : decode cX14_tick 4 = .ok (.getfield 9, 3) := by decide +kernel
theorem dX14_tick_7 : decode cX14_tick 7 = .ok (.arraylength, 1) := by decide +kernel
theorem dX14_tick_8 : decode cX14_tick 8 = .ok (.if_icmp .ge 62, 3) := by decide +kernel
theorem dX14_tick_11 : decode cX14_tick 11 = .ok (.iconst 0, 1) := by decide +kernel
theorem dX14_tick_12 : decode cX14_tick 12 = .ok (.istore_n 2, 1) := by decide +kernel
theorem dX14_tick_13 : decode cX14_tick 13 = .ok (.iload_n 2, 1) := by decide +kernel
theorem dX14_tick_14 : decode cX14_tick 14 = .ok (.aload_n 0, 1) := by decide +kernel
theorem dX14_tick_15 : decode cX14_tick 15 = .ok (.getfield 15, 3) := by decide +kernel
theorem dX14_tick_18 : decode cX14_tick 18 = .ok (.arraylength, 1) := by decide +kernel
theorem dX14_tick_19 : decode cX14_tick 19 = .ok (.if_icmp .ge 45, 3) := by decide +kernel
theorem dX14_tick_22 : decode cX14_tick 22 = .ok (.aload_n 0, 1) := by decide +kernel
theorem dX14_tick_23 : decode cX14_tick 23 = .ok (.getfield 31, 3) := by decide +kernel
theorem dX14_tick_26 : decode cX14_tick 26 = .ok (.iload_n 1, 1) := by decide +kernel
theorem dX14_tick_27 : decode cX14_tick 27 = .ok (.aaload, 1) := by decide +kernel
theorem dX14_tick_28 : decode cX14_tick 28 = .ok (.iload_n 2, 1) := by decide +kernel
theorem dX14_tick_29 : decode cX14_tick 29 = .ok (.aload_n 0, 1) := by decide +kernel
theorem dX14_tick_30 : decode cX14_tick 30 = .ok (.getfield 9, 3) := by decide +kernel
theorem dX14_tick_33 : decode cX14_tick 33 = .ok (.iload_n 1, 1) := by decide +kernel
theorem dX14_tick_34 : decode cX14_tick 34 = .ok (.aaload, 1) := by decide +kernel
theorem dX14_tick_35 : decode cX14_tick 35 = .ok (.iconst 1, 1) := by decide +kernel
theorem dX14_tick_36 : decode cX14_tick 36 = .ok (.iaload, 1) := by decide +kernel
theorem dX14_tick_37 : decode cX14_tick 37 = .ok (.aload_n 0, 1) := by decide +kernel
theorem dX14_tick_38 : decode cX14_tick 38 = .ok (.getfield 31, 3) := by decide +kernel
theorem dX14_tick_41 : decode cX14_tick 41 = .ok (.iload_n 1, 1) := by decide +kernel
theorem dX14_tick_42 : decode cX14_tick 42 = .ok (.aaload, 1) := by decide +kernel
theorem dX14_tick_43 : decode cX14_tick 43 = .ok (.iload_n 2, 1) := by decide +kernel
theorem dX14_tick_44 : decode cX14_tick 44 = .ok (.iaload, 1) := by decide +kernel
theorem dX14_tick_45 : decode cX14_tick 45 = .ok (.aload_n 0, 1) := by decide +kernel
theorem dX14_tick_46 : decode cX14_tick 46 = .ok (.getfield 9, 3) := by decide +kernel
theorem dX14_tick_49 : decode cX14_tick 49 = .ok (.iload_n 1, 1) := by decide +kernel
theorem dX14_tick_50 : decode cX14_tick 50 = .ok (.aaload, 1) := by decide +kernel
theorem dX14_tick_51 : decode cX14_tick 51 = .ok (.iconst 0, 1) := by decide +kernel
theorem dX14_tick_52 : decode cX14_tick 52 = .ok (.iaload, 1) := by decide +kernel
theorem dX14_tick_53 : decode cX14_tick 53 = .ok (.iadd, 1) := by decide +kernel
theorem dX14_tick_54 : decode cX14_tick 54 = .ok (.invokestatic 72, 3) := by decide +kernel
theorem dX14_tick_57 : decode cX14_tick 57 = .ok (.iastore, 1) := by decide +kernel
theorem dX14_tick_58 : decode cX14_tick 58 = .ok (.iinc 2 1, 3) := by decide +kernel
theorem dX14_tick_61 : decode cX14_tick 61 = .ok (.goto (-48), 3) := by decide +kernel
theorem dX14_tick_64 : decode cX14_tick 64 = .ok (.iinc 1 1, 3) := by decide +kernel
theorem dX14_tick_67 : decode cX14_tick 67 = .ok (.goto (-65), 3) := by decide +kernel
theorem dX14_tick_70 : decode cX14_tick 70 = .ok (.aload_n 0, 1) := by decide +kernel
theorem dX14_tick_71 : decode cX14_tick 71 = .ok (.getfield 24, 3) := by decide +kernel
theorem dX14_tick_74 : decode cX14_tick 74 = .ok (.arraylength, 1) := by decide +kernel
theorem dX14_tick_75 : decode cX14_tick 75 = .ok (.iconst 1, 1) := by decide +kernel
theorem dX14_tick_76 : decode cX14_tick 76 = .ok (.isub, 1) := by decide +kernel
theorem dX14_tick_77 : decode cX14_tick 77 = .ok (.istore_n 1, 1) := by decide +kernel
theorem dX14_tick_78 : decode cX14_tick 78 = .ok (.iload_n 1, 1) := by decide +kernel
theorem dX14_tick_79 : decode cX14_tick 79 = .ok (.ifCond .lt 49, 3) := by decide +kernel
theorem dX14_tick_82 : decode cX14_tick 82 = .ok (.aload_n 0, 1) := by decide +kernel
theorem dX14_tick_83 : decode cX14_tick 83 = .ok (.getfield 24, 3) := by decide +kernel
theorem dX14_tick_86 : decode cX14_tick 86 = .ok (.iload_n 1, 1) := by decide +kernel
theorem dX14_tick_87 : decode cX14_tick 87 = .ok (.aaload, 1) := by decide +kernel
theorem dX14_tick_88 : decode cX14_tick 88 = .ok (.iconst 2, 1) := by decide +kernel
theorem dX14_tick_89 : decode cX14_tick 89 = .ok (.iaload, 1) := by decide +kernel
theorem dX14_tick_90 : decode cX14_tick 90 = .ok (.aload_n 0, 1) := by decide +kernel
theorem dX14_tick_91 : decode cX14_tick 91 = .ok (.getfield 45, 3) := by decide +kernel
theorem dX14_tick_94 : decode cX14_tick 94 = .ok (.if_icmp .eq 6, 3) := by decide +kernel
theorem dX14_tick_97 : decode cX14_tick 97 = .ok (.goto 25, 3) := by decide +kernel
theorem dX14_tick_100 : decode cX14_tick 100 = .ok (.aload_n 0, 1) := by decide +kernel
theorem dX14_tick_101 : decode cX14_tick 101 = .ok (.aload_n 0, 1) := by decide +kernel
theorem dX14_tick_102 : decode cX14_tick 102 = .ok (.getfield 24, 3) := by decide +kernel
theorem dX14_tick_105 : decode cX14_tick 105 = .ok (.iload_n 1, 1) := by decide +kernel
theorem dX14_tick_106 : decode cX14_tick 106 = .ok (.invokestatic 105, 3) := by decide +kernel
theorem dX14_tick_109 : decode cX14_tick 109 = .ok (.putfield 24, 3) := by decide +kernel
theorem dX14_tick_112 : decode cX14_tick 112 = .ok (.aload_n 0, 1) := by decide +kernel
theorem dX14_tick_113 : decode cX14_tick 113 = .ok (.dup, 1) := by decide +kernel
theorem dX14_tick_114 : decode cX14_tick 114 = .ok (.getfield 54, 3) := by decide +kernel
theorem dX14_tick_117 : decode cX14_tick 117 = .ok (.iconst 1, 1) := by decide +kernel
theorem dX14_tick_118 : decode cX14_tick 118 = .ok (.iadd, 1) := by decide +kernel
theorem dX14_tick_119 : decode cX14_tick 119 = .ok (.putfield 54, 3) := by decide +kernel
theorem dX14_tick_122 : decode cX14_tick 122 = .ok (.iinc 1 (-1), 3) := by decide +kernel
theorem dX14_tick_125 : decode cX14_tick 125 = .ok (.goto (-47), 3) := by decide +kernel
theorem dX14_tick_128 : decode cX14_tick 128 = .ok (.aload_n 0, 1) := by decide +kernel
theorem dX14_tick_129 : decode cX14_tick 129 = .ok (.getfield 21, 3) := by decide +kernel
theorem dX14_tick_132 : decode cX14_tick 132 = .ok (.astore_n 1, 1) := by decide +kernel
theorem dX14_tick_133 : decode cX14_tick 133 = .ok (.aload_n 1, 1) := by decide +kernel
theorem dX14_tick_134 : decode cX14_tick 134 = .ok (.arraylength, 1) := by decide +kernel
theorem dX14_tick_135 : decode cX14_tick 135 = .ok (.istore_n 2, 1) := by decide +kernel
theorem dX14_tick_136 : decode cX14_tick 136 = .ok (.iconst 0, 1) := by decide +kernel
theorem dX14_tick_137 : decode cX14_tick 137 = .ok (.istore_n 3, 1) := by decide +kernel
theorem dX14_tick_138 : decode cX14_tick 138 = .ok (.iload_n 3, 1) := by decide +kernel
theorem dX14_tick_139 : decode cX14_tick 139 = .ok (.iload_n 2, 1) := by decide +kernel
theorem dX14_tick_140 : decode cX14_tick 140 = .ok (.if_icmp .ge 46, 3) := by decide +kernel
theorem dX14_tick_143 : decode cX14_tick 143 = .ok (.aload_n 1, 1) := by decide +kernel
theorem dX14_tick_144 : decode cX14_tick 144 = .ok (.iload_n 3, 1) := by decide +kernel
theorem dX14_tick_145 : decode cX14_tick 145 = .ok (.aaload, 1) := by decide +kernel
theorem dX14_tick_146 : decode cX14_tick 146 = .ok (.astore 4, 2) := by decide +kernel
theorem dX14_tick_148 : decode cX14_tick 148 = .ok (.aload 4, 2) := by decide +kernel
theorem dX14_tick_150 : decode cX14_tick 150 = .ok (.iconst 3, 1) := by decide +kernel
theorem dX14_tick_151 : decode cX14_tick 151 = .ok (.iaload, 1) := by decide +kernel
theorem dX14_tick_152 : decode cX14_tick 152 = .ok (.iconst 2, 1) := by decide +kernel
theorem dX14_tick_153 : decode cX14_tick 153 = .ok (.if_icmp .eq 21, 3) := by decide +kernel
theorem dX14_tick_156 : decode cX14_tick 156 = .ok (.aload 4, 2) := by decide +kernel
theorem dX14_tick_158 : decode cX14_tick 158 = .ok (.iconst 3, 1) := by decide +kernel
theorem dX14_tick_159 : decode cX14_tick 159 = .ok (.iaload, 1) := by decide +kernel
theorem dX14_tick_160 : decode cX14_tick 160 = .ok (.ifCond .ne 20, 3) := by decide +kernel
theorem dX14_tick_163 : decode cX14_tick 163 = .ok (.aload 4, 2) := by decide +kernel
theorem dX14_tick_165 : decode cX14_tick 165 = .ok (.iconst 1, 1) := by decide +kernel
theorem dX14_tick_166 : decode cX14_tick 166 = .ok (.iaload, 1) := by decide +kernel
theorem dX14_tick_167 : decode cX14_tick 167 = .ok (.aload_n 0, 1) := by decide +kernel
theorem dX14_tick_168 : decode cX14_tick 168 = .ok (.getfield 45, 3) := by decide +kernel
theorem dX14_tick_171 : decode cX14_tick 171 = .ok (.if_icmp .ne 9, 3) := by decide +kernel
theorem dX14_tick_174 : decode cX14_tick 174 = .ok (.aload_n 0, 1) := by decide +kernel
theorem dX14_tick_175 : decode cX14_tick 175 = .ok (.aload 4, 2) := by decide +kernel
theorem dX14_tick_177 : decode cX14_tick 177 = .ok (.invokevirtual 109, 3) := by decide +kernel
theorem dX14_tick_180 : decode cX14_tick 180 = .ok (.iinc 3 1, 3) := by decide +kernel
theorem dX14_tick_183 : decode cX14_tick 183 = .ok (.goto (-45), 3) := by decide +kernel
theorem dX14_tick_186 : decode cX14_tick 186 = .ok (.iconst 0, 1) := by decide +kernel
theorem dX14_tick_187 : decode cX14_tick 187 = .ok (.istore_n 1, 1) := by decide +kernel
theorem dX14_tick_188 : decode cX14_tick 188 = .ok (.iload_n 1, 1) := by decide +kernel
theorem dX14_tick_189 : decode cX14_tick 189 = .ok (.aload_n 0, 1) := by decide +kernel
theorem dX14_tick_190 : decode cX14_tick 190 = .ok (.getfield 9, 3) := by decide +kernel
theorem dX14_tick_193 : decode cX14_tick 193 = .ok (.arraylength, 1) := by decide +kernel
theorem dX14_tick_194 : decode cX14_tick 194 = .ok (.if_icmp .ge 42, 3) := by decide +kernel
theorem dX14_tick_197 : decode cX14_tick 197 = .ok (.iconst 0, 1) := by decide +kernel
theorem dX14_tick_198 : decode cX14_tick 198 = .ok (.istore_n 2, 1) := by decide +kernel
theorem dX14_tick_199 : decode cX14_tick 199 = .ok (.iload_n 2, 1) := by decide +kernel
theorem dX14_tick_200 : decode cX14_tick 200 = .ok (.aload_n 0, 1) := by decide +kernel
theorem dX14_tick_201 : decode cX14_tick 201 = .ok (.getfield 15, 3) := by decide +kernel
theorem dX14_tick_204 : decode cX14_tick 204 = .ok (.arraylength, 1) := by decide +kernel
theorem dX14_tick_205 : decode cX14_tick 205 = .ok (.if_icmp .ge 25, 3) := by decide +kernel
theorem dX14_tick_208 : decode cX14_tick 208 = .ok (.iconst 1, 1) := by decide +kernel
theorem dX14_tick_209 : decode cX14_tick 209 = .ok (.istore_n 3, 1) := by decide +kernel
theorem dX14_tick_210 : decode cX14_tick 210 = .ok (.iload_n 3, 1) := by decide +kernel
theorem dX14_tick_211 : decode cX14_tick 211 = .ok (.ifCond .eq 13, 3) := by decide +kernel
theorem dX14_tick_214 : decode cX14_tick 214 = .ok (.aload_n 0, 1) := by decide +kernel
theorem dX14_tick_215 : decode cX14_tick 215 = .ok (.iload_n 1, 1) := by decide +kernel
theorem dX14_tick_216 : decode cX14_tick 216 = .ok (.iload_n 2, 1) := by decide +kernel
theorem dX14_tick_217 : decode cX14_tick 217 = .ok (.invokevirtual 113, 3) := by decide +kernel
theorem dX14_tick_220 : decode cX14_tick 220 = .ok (.istore_n 3, 1) := by decide +kernel
theorem dX14_tick_221 : decode cX14_tick 221 = .ok (.goto (-11), 3) := by decide +kernel
theorem dX14_tick_224 : decode cX14_tick 224 = .ok (.iinc 2 1, 3) := by decide +kernel
theorem dX14_tick_227 : decode cX14_tick 227 = .ok (.goto (-28), 3) := by decide +kernel
theorem dX14_tick_230 : decode cX14_tick 230 = .ok (.iinc 1 1, 3) := by decide +kernel
theorem dX14_tick_233 : decode cX14_tick 233 = .ok (.goto (-45), 3) := by decide +kernel
theorem dX14_tick_236 : decode cX14_tick 236 = .ok (.aload_n 0, 1) := by decide +kernel
theorem dX14_tick_237 : decode cX14_tick 237 = .ok (.dup, 1) := by decide +kernel
theorem dX14_tick_238 : decode cX14_tick 238 = .ok (.getfield 45, 3) := by decide +kernel
theorem dX14_tick_241 : decode cX14_tick 241 = .ok (.iconst 1, 1) := by decide +kernel
theorem dX14_tick_242 : decode cX14_tick 242 = .ok (.iadd, 1) := by decide +kernel
theorem dX14_tick_243 : decode cX14_tick 243 = .ok (.putfield 45, 3) := by decide +kernel
theorem dX14_tick_246 : decode cX14_tick 246 = .ok (.return_, 1) := by decide +kernel
theorem dX14_count_0 : decode cX14_count 0 = .ok (.iconst 0, 1) := by decide +kernel
theorem dX14_count_1 : decode cX14_count 1 = .ok (.istore_n 2, 1) := by decide +kernel
theorem dX14_count_2 : decode cX14_count 2 = .ok (.aload_n 0, 1) := by decide +kernel
theorem dX14_count_3 : decode cX14_count 3 = .ok (.getfield 21, 3) := by decide +kernel
theorem dX14_count_6 : decode cX14_count 6 = .ok (.astore_n 3, 1) := by decide +kernel
theorem dX14_count_7 : decode cX14_count 7 = .ok (.aload_n 3, 1) := by decide +kernel
theorem dX14_count_8 : decode cX14_count 8 = .ok (.arraylength, 1) := by decide +kernel
theorem dX14_count_9 : decode cX14_count 9 = .ok (.istore 4, 2) := by decide +kernel
theorem dX14_count_11 : decode cX14_count 11 = .ok (.iconst 0, 1) := by decide +kernel
theorem dX14_count_12 : decode cX14_count 12 = .ok (.istore 5, 2) := by decide +kernel
theorem dX14_count_14 : decode cX14_count 14 = .ok (.iload 5, 2) := by decide +kernel
theorem dX14_count_16 : decode cX14_count 16 = .ok (.iload 4, 2) := by decide +kernel
theorem dX14_count_18 : decode cX14_count 18 = .ok (.if_icmp .ge 26, 3) := by decide +kernel
theorem dX14_count_21 : decode cX14_count 21 = .ok (.aload_n 3, 1) := by decide +kernel
theorem dX14_count_22 : decode cX14_count 22 = .ok (.iload 5, 2) := by decide +kernel
theorem dX14_count_24 : decode cX14_count 24 = .ok (.aaload, 1) := by decide +kernel
theorem dX14_count_25 : decode cX14_count 25 = .ok (.astore 6, 2) := by decide +kernel
theorem dX14_count_27 : decode cX14_count 27 = .ok (.aload 6, 2) := by decide +kernel
theorem dX14_count_29 : decode cX14_count 29 = .ok (.iconst 3, 1) := by decide +kernel
theorem dX14_count_30 : decode cX14_count 30 = .ok (.iaload, 1) := by decide +kernel
theorem dX14_count_31 : decode cX14_count 31 = .ok (.iload_n 1, 1) := by decide +kernel
theorem dX14_count_32 : decode cX14_count 32 = .ok (.if_icmp .ne 6, 3) := by decide +kernel
theorem dX14_count_35 : decode cX14_count 35 = .ok (.iinc 2 1, 3) := by decide +kernel
theorem dX14_count_38 : decode cX14_count 38 = .ok (.iinc 5 1, 3) := by decide +kernel
theorem dX14_count_41 : decode cX14_count 41 = .ok (.goto (-27), 3) := by decide +kernel
theorem dX14_count_44 : decode cX14_count 44 = .ok (.iload_n 2, 1) := by decide +kernel
theorem dX14_count_45 : decode cX14_count 45 = .ok (.ireturn, 1) := by decide +kernel
theorem dX14_told_0 : decode cX14_told 0 = .ok (.iload_n 1, 1) := by decide +kernel
theorem dX14_told_1 : decode cX14_told 1 = .ok (.ifCond .ne 10, 3) := by decide +kernel
theorem dX14_told_4 : decode cX14_told 4 = .ok (.aload_n 0, 1) := by decide +kernel
theorem dX14_told_5 : decode cX14_told 5 = .ok (.getfield 45, 3) := by decide +kernel
theorem dX14_told_8 : decode cX14_told 8 = .ok (.goto 112, 3) := by decide +kernel
theorem dX14_told_11 : decode cX14_told 11 = .ok (.iload_n 1, 1) := by decide +kernel
theorem dX14_told_12 : decode cX14_told 12 = .ok (.iconst 1, 1) := by decide +kernel
theorem dX14_told_13 : decode cX14_told 13 = .ok (.if_icmp .ne 11, 3) := by decide +kernel
theorem dX14_told_16 : decode cX14_told 16 = .ok (.aload_n 0, 1) := by decide +kernel
theorem dX14_told_17 : decode cX14_told 17 = .ok (.getfield 9, 3) := by decide +kernel
theorem dX14_told_20 : decode cX14_told 20 = .ok (.arraylength, 1) := by decide +kernel
theorem dX14_told_21 : decode cX14_told 21 = .ok (.goto 99, 3) := by decide +kernel
theorem dX14_told_24 : decode cX14_told 24 = .ok (.iload_n 1, 1) := by decide +kernel
theorem dX14_told_25 : decode cX14_told 25 = .ok (.iconst 2, 1) := by decide +kernel
theorem dX14_told_26 : decode cX14_told 26 = .ok (.if_icmp .ne 11, 3) := by decide +kernel
theorem dX14_told_29 : decode cX14_told 29 = .ok (.aload_n 0, 1) := by decide +kernel
theorem dX14_told_30 : decode cX14_told 30 = .ok (.getfield 15, 3) := by decide +kernel
theorem dX14_told_33 : decode cX14_told 33 = .ok (.arraylength, 1) := by decide +kernel
theorem dX14_told_34 : decode cX14_told 34 = .ok (.goto 86, 3) := by decide +kernel
theorem dX14_told_37 : decode cX14_told 37 = .ok (.iload_n 1, 1) := by decide +kernel
theorem dX14_told_38 : decode cX14_told 38 = .ok (.iconst 3, 1) := by decide +kernel
theorem dX14_told_39 : decode cX14_told 39 = .ok (.if_icmp .ne 11, 3) := by decide +kernel
theorem dX14_told_42 : decode cX14_told 42 = .ok (.aload_n 0, 1) := by decide +kernel
theorem dX14_told_43 : decode cX14_told 43 = .ok (.getfield 21, 3) := by decide +kernel
theorem dX14_told_46 : decode cX14_told 46 = .ok (.arraylength, 1) := by decide +kernel
theorem dX14_told_47 : decode cX14_told 47 = .ok (.goto 73, 3) := by decide +kernel
theorem dX14_told_50 : decode cX14_told 50 = .ok (.iload_n 1, 1) := by decide +kernel
theorem dX14_told_51 : decode cX14_told 51 = .ok (.iconst 4, 1) := by decide +kernel
theorem dX14_told_52 : decode cX14_told 52 = .ok (.if_icmp .ne 11, 3) := by decide +kernel
theorem dX14_told_55 : decode cX14_told 55 = .ok (.aload_n 0, 1) := by decide +kernel
theorem dX14_told_56 : decode cX14_told 56 = .ok (.getfield 24, 3) := by decide +kernel
theorem dX14_told_59 : decode cX14_told 59 = .ok (.arraylength, 1) := by decide +kernel
theorem dX14_told_60 : decode cX14_told 60 = .ok (.goto 60, 3) := by decide +kernel
theorem dX14_told_63 : decode cX14_told 63 = .ok (.iload_n 1, 1) := by decide +kernel
theorem dX14_told_64 : decode cX14_told 64 = .ok (.iconst 5, 1) := by decide +kernel
theorem dX14_told_65 : decode cX14_told 65 = .ok (.if_icmp .ne 11, 3) := by decide +kernel
theorem dX14_told_68 : decode cX14_told 68 = .ok (.aload_n 0, 1) := by decide +kernel
theorem dX14_told_69 : decode cX14_told 69 = .ok (.iconst 3, 1) := by decide +kernel
theorem dX14_told_70 : decode cX14_told 70 = .ok (.invokevirtual 124, 3) := by decide +kernel
theorem dX14_told_73 : decode cX14_told 73 = .ok (.goto 47, 3) := by decide +kernel
theorem dX14_told_76 : decode cX14_told 76 = .ok (.iload_n 1, 1) := by decide +kernel
theorem dX14_told_77 : decode cX14_told 77 = .ok (.bipush 6, 2) := by decide +kernel
theorem dX14_told_79 : decode cX14_told 79 = .ok (.if_icmp .ne 11, 3) := by decide +kernel
theorem dX14_told_82 : decode cX14_told 82 = .ok (.aload_n 0, 1) := by decide +kernel
theorem dX14_told_83 : decode cX14_told 83 = .ok (.iconst 4, 1) := by decide +kernel
theorem dX14_told_84 : decode cX14_told 84 = .ok (.invokevirtual 124, 3) := by decide +kernel
theorem dX14_told_87 : decode cX14_told 87 = .ok (.goto 33, 3) := by decide +kernel
theorem dX14_told_90 : decode cX14_told 90 = .ok (.iload_n 1, 1) := by decide +kernel
theorem dX14_told_91 : decode cX14_told 91 = .ok (.bipush 7, 2) := by decide +kernel
theorem dX14_told_93 : decode cX14_told 93 = .ok (.if_icmp .ne 10, 3) := by decide +kernel
theorem dX14_told_96 : decode cX14_told 96 = .ok (.aload_n 0, 1) := by decide +kernel
theorem dX14_told_97 : decode cX14_told 97 = .ok (.getfield 54, 3) := by decide +kernel
theorem dX14_told_100 : decode cX14_told 100 = .ok (.goto 20, 3) := by decide +kernel
theorem dX14_told_103 : decode cX14_told 103 = .ok (.iload_n 1, 1) := by decide +kernel
theorem dX14_told_104 : decode cX14_told 104 = .ok (.bipush 8, 2) := by decide +kernel
theorem dX14_told_106 : decode cX14_told 106 = .ok (.if_icmp .ne 10, 3) := by decide +kernel
theorem dX14_told_109 : decode cX14_told 109 = .ok (.aload_n 0, 1) := by decide +kernel
theorem dX14_told_110 : decode cX14_told 110 = .ok (.getfield 57, 3) := by decide +kernel
theorem dX14_told_113 : decode cX14_told 113 = .ok (.goto 7, 3) := by decide +kernel
theorem dX14_told_116 : decode cX14_told 116 = .ok (.aload_n 0, 1) := by decide +kernel
theorem dX14_told_117 : decode cX14_told 117 = .ok (.getfield 34, 3) := by decide +kernel
theorem dX14_told_120 : decode cX14_told 120 = .ok (.ireturn, 1) := by decide +kernel
theorem dX14_flow_0 : decode cX14_flow 0 = .ok (.iconst 0, 1) := by decide +kernel
theorem dX14_flow_1 : decode cX14_flow 1 = .ok (.istore_n 3, 1) := by decide +kernel
theorem dX14_flow_2 : decode cX14_flow 2 = .ok (.aload_n 0, 1) := by decide +kernel
theorem dX14_flow_3 : decode cX14_flow 3 = .ok (.getfield 24, 3) := by decide +kernel
theorem dX14_flow_6 : decode cX14_flow 6 = .ok (.astore 4, 2) := by decide +kernel
theorem dX14_flow_8 : decode cX14_flow 8 = .ok (.aload 4, 2) := by decide +kernel
theorem dX14_flow_10 : decode cX14_flow 10 = .ok (.arraylength, 1) := by decide +kernel
theorem dX14_flow_11 : decode cX14_flow 11 = .ok (.istore 5, 2) := by decide +kernel
theorem dX14_flow_13 : decode cX14_flow 13 = .ok (.iconst 0, 1) := by decide +kernel
theorem dX14_flow_14 : decode cX14_flow 14 = .ok (.istore 6, 2) := by decide +kernel
theorem dX14_flow_16 : decode cX14_flow 16 = .ok (.iload 6, 2) := by decide +kernel
theorem dX14_flow_18 : decode cX14_flow 18 = .ok (.iload 5, 2) := by decide +kernel
theorem dX14_flow_20 : decode cX14_flow 20 = .ok (.if_icmp .ge 27, 3) := by decide +kernel
theorem dX14_flow_23 : decode cX14_flow 23 = .ok (.aload 4, 2) := by decide +kernel
theorem dX14_flow_25 : decode cX14_flow 25 = .ok (.iload 6, 2) := by decide +kernel
theorem dX14_flow_27 : decode cX14_flow 27 = .ok (.aaload, 1) := by decide +kernel
theorem dX14_flow_28 : decode cX14_flow 28 = .ok (.astore 7, 2) := by decide +kernel
theorem dX14_flow_30 : decode cX14_flow 30 = .ok (.aload 7, 2) := by decide +kernel
theorem dX14_flow_32 : decode cX14_flow 32 = .ok (.iconst 0, 1) := by decide +kernel
theorem dX14_flow_33 : decode cX14_flow 33 = .ok (.iaload, 1) := by decide +kernel
theorem dX14_flow_34 : decode cX14_flow 34 = .ok (.iload_n 1, 1) := by decide +kernel
theorem dX14_flow_35 : decode cX14_flow 35 = .ok (.if_icmp .ne 6, 3) := by decide +kernel
theorem dX14_flow_38 : decode cX14_flow 38 = .ok (.iinc 3 1, 3) := by decide +kernel
theorem dX14_flow_41 : decode cX14_flow 41 = .ok (.iinc 6 1, 3) := by decide +kernel
theorem dX14_flow_44 : decode cX14_flow 44 = .ok (.goto (-28), 3) := by decide +kernel
theorem dX14_flow_47 : decode cX14_flow 47 = .ok (.iload_n 2, 1) := by decide +kernel
theorem dX14_flow_48 : decode cX14_flow 48 = .ok (.ifCond .ne 13, 3) := by decide +kernel
theorem dX14_flow_51 : decode cX14_flow 51 = .ok (.aload_n 0, 1) := by decide +kernel
theorem dX14_flow_52 : decode cX14_flow 52 = .ok (.getfield 18, 3) := by decide +kernel
theorem dX14_flow_55 : decode cX14_flow 55 = .ok (.iload_n 1, 1) := by decide +kernel
theorem dX14_flow_56 : decode cX14_flow 56 = .ok (.aaload, 1) := by decide +kernel
theorem dX14_flow_57 : decode cX14_flow 57 = .ok (.arraylength, 1) := by decide +kernel
theorem dX14_flow_58 : decode cX14_flow 58 = .ok (.goto 65, 3) := by decide +kernel
theorem dX14_flow_61 : decode cX14_flow 61 = .ok (.iload_n 2, 1) := by decide +kernel
theorem dX14_flow_62 : decode cX14_flow 62 = .ok (.iconst 1, 1) := by decide +kernel
theorem dX14_flow_63 : decode cX14_flow 63 = .ok (.if_icmp .ne 14, 3) := by decide +kernel
theorem dX14_flow_66 : decode cX14_flow 66 = .ok (.aload_n 0, 1) := by decide +kernel
theorem dX14_flow_67 : decode cX14_flow 67 = .ok (.getfield 15, 3) := by decide +kernel
theorem dX14_flow_70 : decode cX14_flow 70 = .ok (.iload_n 1, 1) := by decide +kernel
theorem dX14_flow_71 : decode cX14_flow 71 = .ok (.aaload, 1) := by decide +kernel
theorem dX14_flow_72 : decode cX14_flow 72 = .ok (.iconst 0, 1) := by decide +kernel
theorem dX14_flow_73 : decode cX14_flow 73 = .ok (.iaload, 1) := by decide +kernel
theorem dX14_flow_74 : decode cX14_flow 74 = .ok (.goto 49, 3) := by decide +kernel
theorem dX14_flow_77 : decode cX14_flow 77 = .ok (.iload_n 2, 1) := by decide +kernel
theorem dX14_flow_78 : decode cX14_flow 78 = .ok (.iconst 2, 1) := by decide +kernel
theorem dX14_flow_79 : decode cX14_flow 79 = .ok (.if_icmp .ne 14, 3) := by decide +kernel
theorem dX14_flow_82 : decode cX14_flow 82 = .ok (.aload_n 0, 1) := by decide +kernel
theorem dX14_flow_83 : decode cX14_flow 83 = .ok (.getfield 15, 3) := by decide +kernel
theorem dX14_flow_86 : decode cX14_flow 86 = .ok (.iload_n 1, 1) := by decide +kernel
theorem dX14_flow_87 : decode cX14_flow 87 = .ok (.aaload, 1) := by decide +kernel
theorem dX14_flow_88 : decode cX14_flow 88 = .ok (.iconst 1, 1) := by decide +kernel
theorem dX14_flow_89 : decode cX14_flow 89 = .ok (.iaload, 1) := by decide +kernel
theorem dX14_flow_90 : decode cX14_flow 90 = .ok (.goto 33, 3) := by decide +kernel
theorem dX14_flow_93 : decode cX14_flow 93 = .ok (.iload_n 2, 1) := by decide +kernel
theorem dX14_flow_94 : decode cX14_flow 94 = .ok (.iconst 3, 1) := by decide +kernel
theorem dX14_flow_95 : decode cX14_flow 95 = .ok (.if_icmp .ne 7, 3) := by decide +kernel
theorem dX14_flow_98 : decode cX14_flow 98 = .ok (.iload_n 3, 1) := by decide +kernel
theorem dX14_flow_99 : decode cX14_flow 99 = .ok (.goto 24, 3) := by decide +kernel
theorem dX14_flow_102 : decode cX14_flow 102 = .ok (.iload_n 2, 1) := by decide +kernel
theorem dX14_flow_103 : decode cX14_flow 103 = .ok (.iconst 4, 1) := by decide +kernel
theorem dX14_flow_104 : decode cX14_flow 104 = .ok (.if_icmp .ne 11, 3) := by decide +kernel
theorem dX14_flow_107 : decode cX14_flow 107 = .ok (.aload_n 0, 1) := by decide +kernel
theorem dX14_flow_108 : decode cX14_flow 108 = .ok (.iload_n 1, 1) := by decide +kernel
theorem dX14_flow_109 : decode cX14_flow 109 = .ok (.invokevirtual 85, 3) := by decide +kernel
theorem dX14_flow_112 : decode cX14_flow 112 = .ok (.goto 11, 3) := by decide +kernel
theorem dX14_flow_115 : decode cX14_flow 115 = .ok (.aload_n 0, 1) := by decide +kernel
theorem dX14_flow_116 : decode cX14_flow 116 = .ok (.getfield 15, 3) := by decide +kernel
theorem dX14_flow_119 : decode cX14_flow 119 = .ok (.iload_n 1, 1) := by decide +kernel
theorem dX14_flow_120 : decode cX14_flow 120 = .ok (.aaload, 1) := by decide +kernel
theorem dX14_flow_121 : decode cX14_flow 121 = .ok (.iconst 2, 1) := by decide +kernel
theorem dX14_flow_122 : decode cX14_flow 122 = .ok (.iaload, 1) := by decide +kernel
theorem dX14_flow_123 : decode cX14_flow 123 = .ok (.ireturn, 1) := by decide +kernel
theorem dX14_packet_0 : decode cX14_packet 0 = .ok (.aload_n 0, 1) := by decide +kernel
theorem dX14_packet_1 : decode cX14_packet 1 = .ok (.getfield 21, 3) := by decide +kernel
theorem dX14_packet_4 : decode cX14_packet 4 = .ok (.iload_n 1, 1) := by decide +kernel
theorem dX14_packet_5 : decode cX14_packet 5 = .ok (.aaload, 1) := by decide +kernel
theorem dX14_packet_6 : decode cX14_packet 6 = .ok (.astore_n 3, 1) := by decide +kernel
theorem dX14_packet_7 : decode cX14_packet 7 = .ok (.iload_n 2, 1) := by decide +kernel
theorem dX14_packet_8 : decode cX14_packet 8 = .ok (.iconst 4, 1) := by decide +kernel
theorem dX14_packet_9 : decode cX14_packet 9 = .ok (.if_icmp .ge 9, 3) := by decide +kernel
theorem dX14_packet_12 : decode cX14_packet 12 = .ok (.aload_n 3, 1) := by decide +kernel
theorem dX14_packet_13 : decode cX14_packet 13 = .ok (.iload_n 2, 1) := by decide +kernel
theorem dX14_packet_14 : decode cX14_packet 14 = .ok (.iaload, 1) := by decide +kernel
theorem dX14_packet_15 : decode cX14_packet 15 = .ok (.goto 49, 3) := by decide +kernel
theorem dX14_packet_18 : decode cX14_packet 18 = .ok (.iload_n 2, 1) := by decide +kernel
theorem dX14_packet_19 : decode cX14_packet 19 = .ok (.iconst 4, 1) := by decide +kernel
theorem dX14_packet_20 : decode cX14_packet 20 = .ok (.if_icmp .ne 29, 3) := by decide +kernel
theorem dX14_packet_23 : decode cX14_packet 23 = .ok (.aload_n 3, 1) := by decide +kernel
theorem dX14_packet_24 : decode cX14_packet 24 = .ok (.iconst 3, 1) := by decide +kernel
theorem dX14_packet_25 : decode cX14_packet 25 = .ok (.iaload, 1) := by decide +kernel
theorem dX14_packet_26 : decode cX14_packet 26 = .ok (.iconst 1, 1) := by decide +kernel
theorem dX14_packet_27 : decode cX14_packet 27 = .ok (.if_icmp .eq 10, 3) := by decide +kernel
theorem dX14_packet_30 : decode cX14_packet 30 = .ok (.aload_n 3, 1) := by decide +kernel
theorem dX14_packet_31 : decode cX14_packet 31 = .ok (.iconst 3, 1) := by decide +kernel
theorem dX14_packet_32 : decode cX14_packet 32 = .ok (.iaload, 1) := by decide +kernel
theorem dX14_packet_33 : decode cX14_packet 33 = .ok (.iconst 2, 1) := by decide +kernel
theorem dX14_packet_34 : decode cX14_packet 34 = .ok (.if_icmp .ne 11, 3) := by decide +kernel
theorem dX14_packet_37 : decode cX14_packet 37 = .ok (.aload_n 0, 1) := by decide +kernel
theorem dX14_packet_38 : decode cX14_packet 38 = .ok (.aload_n 3, 1) := by decide +kernel
theorem dX14_packet_39 : decode cX14_packet 39 = .ok (.invokevirtual 64, 3) := by decide +kernel
theorem dX14_packet_42 : decode cX14_packet 42 = .ok (.goto 22, 3) := by decide +kernel
theorem dX14_packet_45 : decode cX14_packet 45 = .ok (.iconst (-1), 1) := by decide +kernel
theorem dX14_packet_46 : decode cX14_packet 46 = .ok (.goto 18, 3) := by decide +kernel
theorem dX14_packet_49 : decode cX14_packet 49 = .ok (.iload_n 2, 1) := by decide +kernel
theorem dX14_packet_50 : decode cX14_packet 50 = .ok (.iconst 5, 1) := by decide +kernel
theorem dX14_packet_51 : decode cX14_packet 51 = .ok (.if_icmp .ne 9, 3) := by decide +kernel
theorem dX14_packet_54 : decode cX14_packet 54 = .ok (.aload_n 3, 1) := by decide +kernel
theorem dX14_packet_55 : decode cX14_packet 55 = .ok (.iconst 5, 1) := by decide +kernel
theorem dX14_packet_56 : decode cX14_packet 56 = .ok (.iaload, 1) := by decide +kernel
theorem dX14_packet_57 : decode cX14_packet 57 = .ok (.goto 7, 3) := by decide +kernel
theorem dX14_packet_60 : decode cX14_packet 60 = .ok (.aload_n 3, 1) := by decide +kernel
theorem dX14_packet_61 : decode cX14_packet 61 = .ok (.bipush 6, 2) := by decide +kernel
theorem dX14_packet_63 : decode cX14_packet 63 = .ok (.iaload, 1) := by decide +kernel
theorem dX14_packet_64 : decode cX14_packet 64 = .ok (.ireturn, 1) := by decide +kernel
theorem dX14_checksum_0 : decode cX14_checksum 0 = .ok (.lconst 0, 1) := by decide +kernel
theorem dX14_checksum_1 : decode cX14_checksum 1 = .ok (.lstore_n 1, 1) := by decide +kernel
theorem dX14_checksum_2 : decode cX14_checksum 2 = .ok (.iconst 0, 1) := by decide +kernel
theorem dX14_checksum_3 : decode cX14_checksum 3 = .ok (.istore_n 3, 1) := by decide +kernel
theorem dX14_checksum_4 : decode cX14_checksum 4 = .ok (.iload_n 3, 1) := by decide +kernel
theorem dX14_checksum_5 : decode cX14_checksum 5 = .ok (.bipush 10, 2) := by decide +kernel
theorem dX14_checksum_7 : decode cX14_checksum 7 = .ok (.if_icmp .ge 22, 3) := by decide +kernel
theorem dX14_checksum_10 : decode cX14_checksum 10 = .ok (.ldc2_w 127, 3) := by decide +kernel
theorem dX14_checksum_13 : decode cX14_checksum 13 = .ok (.lload_n 1, 1) := by decide +kernel
theorem dX14_checksum_14 : decode cX14_checksum 14 = .ok (.lmul, 1) := by decide +kernel
theorem dX14_checksum_15 : decode cX14_checksum 15 = .ok (.aload_n 0, 1) := by decide +kernel
theorem dX14_checksum_16 : decode cX14_checksum 16 = .ok (.iload_n 3, 1) := by decide +kernel
theorem dX14_checksum_17 : decode cX14_checksum 17 = .ok (.invokevirtual 129, 3) := by decide +kernel
theorem dX14_checksum_20 : decode cX14_checksum 20 = .ok (.i2l, 1) := by decide +kernel
theorem dX14_checksum_21 : decode cX14_checksum 21 = .ok (.ladd, 1) := by decide +kernel
theorem dX14_checksum_22 : decode cX14_checksum 22 = .ok (.lstore_n 1, 1) := by decide +kernel
theorem dX14_checksum_23 : decode cX14_checksum 23 = .ok (.iinc 3 1, 3) := by decide +kernel
theorem dX14_checksum_26 : decode cX14_checksum 26 = .ok (.goto (-22), 3) := by decide +kernel
theorem dX14_checksum_29 : decode cX14_checksum 29 = .ok (.iconst 0, 1) := by decide +kernel
theorem dX14_checksum_30 : decode cX14_checksum 30 = .ok (.istore_n 3, 1) := by decide +kernel
theorem dX14_checksum_31 : decode cX14_checksum 31 = .ok (.iload_n 3, 1) := by decide +kernel
theorem dX14_checksum_32 : decode cX14_checksum 32 = .ok (.aload_n 0, 1) := by decide +kernel
theorem dX14_checksum_33 : decode cX14_checksum 33 = .ok (.getfield 15, 3) := by decide +kernel
theorem dX14_checksum_36 : decode cX14_checksum 36 = .ok (.arraylength, 1) := by decide +kernel
theorem dX14_checksum_37 : decode cX14_checksum 37 = .ok (.if_icmp .ge 40, 3) := by decide +kernel
theorem dX14_checksum_40 : decode cX14_checksum 40 = .ok (.iconst 0, 1) := by decide +kernel
theorem dX14_checksum_41 : decode cX14_checksum 41 = .ok (.istore 4, 2) := by decide +kernel
theorem dX14_checksum_43 : decode cX14_checksum 43 = .ok (.iload 4, 2) := by decide +kernel
theorem dX14_checksum_45 : decode cX14_checksum 45 = .ok (.bipush 6, 2) := by decide +kernel
theorem dX14_checksum_47 : decode cX14_checksum 47 = .ok (.if_icmp .ge 24, 3) := by decide +kernel
theorem dX14_checksum_50 : decode cX14_checksum 50 = .ok (.ldc2_w 127, 3) := by decide +kernel
theorem dX14_checksum_53 : decode cX14_checksum 53 = .ok (.lload_n 1, 1) := by decide +kernel
theorem dX14_checksum_54 : decode cX14_checksum 54 = .ok (.lmul, 1) := by decide +kernel
theorem dX14_checksum_55 : decode cX14_checksum 55 = .ok (.aload_n 0, 1) := by decide +kernel
theorem dX14_checksum_56 : decode cX14_checksum 56 = .ok (.iload_n 3, 1) := by decide +kernel
theorem dX14_checksum_57 : decode cX14_checksum 57 = .ok (.iload 4, 2) := by decide +kernel
theorem dX14_checksum_59 : decode cX14_checksum 59 = .ok (.invokevirtual 132, 3) := by decide +kernel
theorem dX14_checksum_62 : decode cX14_checksum 62 = .ok (.i2l, 1) := by decide +kernel
theorem dX14_checksum_63 : decode cX14_checksum 63 = .ok (.ladd, 1) := by decide +kernel
theorem dX14_checksum_64 : decode cX14_checksum 64 = .ok (.lstore_n 1, 1) := by decide +kernel
theorem dX14_checksum_65 : decode cX14_checksum 65 = .ok (.iinc 4 1, 3) := by decide +kernel
theorem dX14_checksum_68 : decode cX14_checksum 68 = .ok (.goto (-25), 3) := by decide +kernel
theorem dX14_checksum_71 : decode cX14_checksum 71 = .ok (.iinc 3 1, 3) := by decide +kernel
theorem dX14_checksum_74 : decode cX14_checksum 74 = .ok (.goto (-43), 3) := by decide +kernel
theorem dX14_checksum_77 : decode cX14_checksum 77 = .ok (.iconst 0, 1) := by decide +kernel
theorem dX14_checksum_78 : decode cX14_checksum 78 = .ok (.istore_n 3, 1) := by decide +kernel
theorem dX14_checksum_79 : decode cX14_checksum 79 = .ok (.iload_n 3, 1) := by decide +kernel
theorem dX14_checksum_80 : decode cX14_checksum 80 = .ok (.aload_n 0, 1) := by decide +kernel
theorem dX14_checksum_81 : decode cX14_checksum 81 = .ok (.getfield 21, 3) := by decide +kernel
theorem dX14_checksum_84 : decode cX14_checksum 84 = .ok (.arraylength, 1) := by decide +kernel
theorem dX14_checksum_85 : decode cX14_checksum 85 = .ok (.if_icmp .ge 40, 3) := by decide +kernel
theorem dX14_checksum_88 : decode cX14_checksum 88 = .ok (.iconst 0, 1) := by decide +kernel
theorem dX14_checksum_89 : decode cX14_checksum 89 = .ok (.istore 4, 2) := by decide +kernel
theorem dX14_checksum_91 : decode cX14_checksum 91 = .ok (.iload 4, 2) := by decide +kernel
theorem dX14_checksum_93 : decode cX14_checksum 93 = .ok (.bipush 7, 2) := by decide +kernel
theorem dX14_checksum_95 : decode cX14_checksum 95 = .ok (.if_icmp .ge 24, 3) := by decide +kernel
theorem dX14_checksum_98 : decode cX14_checksum 98 = .ok (.ldc2_w 127, 3) := by decide +kernel
theorem dX14_checksum_101 : decode cX14_checksum 101 = .ok (.lload_n 1, 1) := by decide +kernel
theorem dX14_checksum_102 : decode cX14_checksum 102 = .ok (.lmul, 1) := by decide +kernel
theorem dX14_checksum_103 : decode cX14_checksum 103 = .ok (.aload_n 0, 1) := by decide +kernel
theorem dX14_checksum_104 : decode cX14_checksum 104 = .ok (.iload_n 3, 1) := by decide +kernel
theorem dX14_checksum_105 : decode cX14_checksum 105 = .ok (.iload 4, 2) := by decide +kernel
theorem dX14_checksum_107 : decode cX14_checksum 107 = .ok (.invokevirtual 135, 3) := by decide +kernel
theorem dX14_checksum_110 : decode cX14_checksum 110 = .ok (.i2l, 1) := by decide +kernel
theorem dX14_checksum_111 : decode cX14_checksum 111 = .ok (.ladd, 1) := by decide +kernel
theorem dX14_checksum_112 : decode cX14_checksum 112 = .ok (.lstore_n 1, 1) := by decide +kernel
theorem dX14_checksum_113 : decode cX14_checksum 113 = .ok (.iinc 4 1, 3) := by decide +kernel
theorem dX14_checksum_116 : decode cX14_checksum 116 = .ok (.goto (-25), 3) := by decide +kernel
theorem dX14_checksum_119 : decode cX14_checksum 119 = .ok (.iinc 3 1, 3) := by decide +kernel
theorem dX14_checksum_122 : decode cX14_checksum 122 = .ok (.goto (-43), 3) := by decide +kernel
theorem dX14_checksum_125 : decode cX14_checksum 125 = .ok (.aload_n 0, 1) := by decide +kernel
theorem dX14_checksum_126 : decode cX14_checksum 126 = .ok (.getfield 24, 3) := by decide +kernel
theorem dX14_checksum_129 : decode cX14_checksum 129 = .ok (.astore_n 3, 1) := by decide +kernel
theorem dX14_checksum_130 : decode cX14_checksum 130 = .ok (.aload_n 3, 1) := by decide +kernel
theorem dX14_checksum_131 : decode cX14_checksum 131 = .ok (.arraylength, 1) := by decide +kernel
theorem dX14_checksum_132 : decode cX14_checksum 132 = .ok (.istore 4, 2) := by decide +kernel
theorem dX14_checksum_134 : decode cX14_checksum 134 = .ok (.iconst 0, 1) := by decide +kernel
theorem dX14_checksum_135 : decode cX14_checksum 135 = .ok (.istore 5, 2) := by decide +kernel
theorem dX14_checksum_137 : decode cX14_checksum 137 = .ok (.iload 5, 2) := by decide +kernel
theorem dX14_checksum_139 : decode cX14_checksum 139 = .ok (.iload 4, 2) := by decide +kernel
theorem dX14_checksum_141 : decode cX14_checksum 141 = .ok (.if_icmp .ge 57, 3) := by decide +kernel
theorem dX14_checksum_144 : decode cX14_checksum 144 = .ok (.aload_n 3, 1) := by decide +kernel
theorem dX14_checksum_145 : decode cX14_checksum 145 = .ok (.iload 5, 2) := by decide +kernel
theorem dX14_checksum_147 : decode cX14_checksum 147 = .ok (.aaload, 1) := by decide +kernel
theorem dX14_checksum_148 : decode cX14_checksum 148 = .ok (.astore 6, 2) := by decide +kernel
theorem dX14_checksum_150 : decode cX14_checksum 150 = .ok (.aload 6, 2) := by decide +kernel
theorem dX14_checksum_152 : decode cX14_checksum 152 = .ok (.astore 7, 2) := by decide +kernel
theorem dX14_checksum_154 : decode cX14_checksum 154 = .ok (.aload 7, 2) := by decide +kernel
theorem dX14_checksum_156 : decode cX14_checksum 156 = .ok (.arraylength, 1) := by decide +kernel
theorem dX14_checksum_157 : decode cX14_checksum 157 = .ok (.istore 8, 2) := by decide +kernel
theorem dX14_checksum_159 : decode cX14_checksum 159 = .ok (.iconst 0, 1) := by decide +kernel
theorem dX14_checksum_160 : decode cX14_checksum 160 = .ok (.istore 9, 2) := by decide +kernel
theorem dX14_checksum_162 : decode cX14_checksum 162 = .ok (.iload 9, 2) := by decide +kernel
theorem dX14_checksum_164 : decode cX14_checksum 164 = .ok (.iload 8, 2) := by decide +kernel
theorem dX14_checksum_166 : decode cX14_checksum 166 = .ok (.if_icmp .ge 26, 3) := by decide +kernel
theorem dX14_checksum_169 : decode cX14_checksum 169 = .ok (.aload 7, 2) := by decide +kernel
theorem dX14_checksum_171 : decode cX14_checksum 171 = .ok (.iload 9, 2) := by decide +kernel
theorem dX14_checksum_173 : decode cX14_checksum 173 = .ok (.iaload, 1) := by decide +kernel
theorem dX14_checksum_174 : decode cX14_checksum 174 = .ok (.istore 10, 2) := by decide +kernel
theorem dX14_checksum_176 : decode cX14_checksum 176 = .ok (.ldc2_w 127, 3) := by decide +kernel
theorem dX14_checksum_179 : decode cX14_checksum 179 = .ok (.lload_n 1, 1) := by decide +kernel
theorem dX14_checksum_180 : decode cX14_checksum 180 = .ok (.lmul, 1) := by decide +kernel
theorem dX14_checksum_181 : decode cX14_checksum 181 = .ok (.iload 10, 2) := by decide +kernel
theorem dX14_checksum_183 : decode cX14_checksum 183 = .ok (.i2l, 1) := by decide +kernel
theorem dX14_checksum_184 : decode cX14_checksum 184 = .ok (.ladd, 1) := by decide +kernel
theorem dX14_checksum_185 : decode cX14_checksum 185 = .ok (.lstore_n 1, 1) := by decide +kernel
theorem dX14_checksum_186 : decode cX14_checksum 186 = .ok (.iinc 9 1, 3) := by decide +kernel
theorem dX14_checksum_189 : decode cX14_checksum 189 = .ok (.goto (-27), 3) := by decide +kernel
theorem dX14_checksum_192 : decode cX14_checksum 192 = .ok (.iinc 5 1, 3) := by decide +kernel
theorem dX14_checksum_195 : decode cX14_checksum 195 = .ok (.goto (-58), 3) := by decide +kernel
theorem dX14_checksum_198 : decode cX14_checksum 198 = .ok (.iconst 0, 1) := by decide +kernel
theorem dX14_checksum_199 : decode cX14_checksum 199 = .ok (.istore_n 3, 1) := by decide +kernel
theorem dX14_checksum_200 : decode cX14_checksum 200 = .ok (.iload_n 3, 1) := by decide +kernel
theorem dX14_checksum_201 : decode cX14_checksum 201 = .ok (.aload_n 0, 1) := by decide +kernel
theorem dX14_checksum_202 : decode cX14_checksum 202 = .ok (.getfield 9, 3) := by decide +kernel
theorem dX14_checksum_205 : decode cX14_checksum 205 = .ok (.arraylength, 1) := by decide +kernel
theorem dX14_checksum_206 : decode cX14_checksum 206 = .ok (.if_icmp .ge 58, 3) := by decide +kernel
theorem dX14_checksum_209 : decode cX14_checksum 209 = .ok (.iconst 0, 1) := by decide +kernel
theorem dX14_checksum_210 : decode cX14_checksum 210 = .ok (.istore 4, 2) := by decide +kernel
theorem dX14_checksum_212 : decode cX14_checksum 212 = .ok (.iload 4, 2) := by decide +kernel
theorem dX14_checksum_214 : decode cX14_checksum 214 = .ok (.aload_n 0, 1) := by decide +kernel
theorem dX14_checksum_215 : decode cX14_checksum 215 = .ok (.getfield 15, 3) := by decide +kernel
theorem dX14_checksum_218 : decode cX14_checksum 218 = .ok (.arraylength, 1) := by decide +kernel
theorem dX14_checksum_219 : decode cX14_checksum 219 = .ok (.if_icmp .ge 39, 3) := by decide +kernel
theorem dX14_checksum_222 : decode cX14_checksum 222 = .ok (.ldc2_w 127, 3) := by decide +kernel
theorem dX14_checksum_225 : decode cX14_checksum 225 = .ok (.ldc2_w 127, 3) := by decide +kernel
theorem dX14_checksum_228 : decode cX14_checksum 228 = .ok (.lload_n 1, 1) := by decide +kernel
theorem dX14_checksum_229 : decode cX14_checksum 229 = .ok (.lmul, 1) := by decide +kernel
theorem dX14_checksum_230 : decode cX14_checksum 230 = .ok (.aload_n 0, 1) := by decide +kernel
theorem dX14_checksum_231 : decode cX14_checksum 231 = .ok (.getfield 31, 3) := by decide +kernel
theorem dX14_checksum_234 : decode cX14_checksum 234 = .ok (.iload_n 3, 1) := by decide +kernel
theorem dX14_checksum_235 : decode cX14_checksum 235 = .ok (.aaload, 1) := by decide +kernel
theorem dX14_checksum_236 : decode cX14_checksum 236 = .ok (.iload 4, 2) := by decide +kernel
theorem dX14_checksum_238 : decode cX14_checksum 238 = .ok (.iaload, 1) := by decide +kernel
theorem dX14_checksum_239 : decode cX14_checksum 239 = .ok (.i2l, 1) := by decide +kernel
theorem dX14_checksum_240 : decode cX14_checksum 240 = .ok (.ladd, 1) := by decide +kernel
theorem dX14_checksum_241 : decode cX14_checksum 241 = .ok (.lmul, 1) := by decide +kernel
theorem dX14_checksum_242 : decode cX14_checksum 242 = .ok (.aload_n 0, 1) := by decide +kernel
theorem dX14_checksum_243 : decode cX14_checksum 243 = .ok (.iload_n 3, 1) := by decide +kernel
theorem dX14_checksum_244 : decode cX14_checksum 244 = .ok (.iload 4, 2) := by decide +kernel
theorem dX14_checksum_246 : decode cX14_checksum 246 = .ok (.invokevirtual 68, 3) := by decide +kernel
theorem dX14_checksum_249 : decode cX14_checksum 249 = .ok (.i2l, 1) := by decide +kernel
theorem dX14_checksum_250 : decode cX14_checksum 250 = .ok (.ladd, 1) := by decide +kernel
theorem dX14_checksum_251 : decode cX14_checksum 251 = .ok (.lstore_n 1, 1) := by decide +kernel
theorem dX14_checksum_252 : decode cX14_checksum 252 = .ok (.iinc 4 1, 3) := by decide +kernel
theorem dX14_checksum_255 : decode cX14_checksum 255 = .ok (.goto (-43), 3) := by decide +kernel
theorem dX14_checksum_258 : decode cX14_checksum 258 = .ok (.iinc 3 1, 3) := by decide +kernel
theorem dX14_checksum_261 : decode cX14_checksum 261 = .ok (.goto (-61), 3) := by decide +kernel
theorem dX14_checksum_264 : decode cX14_checksum 264 = .ok (.lload_n 1, 1) := by decide +kernel
theorem dX14_checksum_265 : decode cX14_checksum 265 = .ok (.lreturn, 1) := by decide +kernel
theorem dL_put_0 : decode cL_put 0 = .ok (.aload_n 1, 1) := by decide +kernel
theorem dL_put_1 : decode cL_put 1 = .ok (.iconst 1, 1) := by decide +kernel
theorem dL_put_2 : decode cL_put 2 = .ok (.aload_n 1, 1) := by decide +kernel
theorem dL_put_3 : decode cL_put 3 = .ok (.iconst 0, 1) := by decide +kernel
theorem dL_put_4 : decode cL_put 4 = .ok (.iaload, 1) := by decide +kernel
theorem dL_put_5 : decode cL_put 5 = .ok (.bipush 20, 2) := by decide +kernel
theorem dL_put_7 : decode cL_put 7 = .ok (.irem, 1) := by decide +kernel
theorem dL_put_8 : decode cL_put 8 = .ok (.iconst 4, 1) := by decide +kernel
theorem dL_put_9 : decode cL_put 9 = .ok (.idiv, 1) := by decide +kernel
theorem dL_put_10 : decode cL_put 10 = .ok (.iadd, 1) := by decide +kernel
theorem dL_put_11 : decode cL_put 11 = .ok (.dup2, 1) := by decide +kernel
theorem dL_put_12 : decode cL_put 12 = .ok (.iaload, 1) := by decide +kernel
theorem dL_put_13 : decode cL_put 13 = .ok (.iload_n 2, 1) := by decide +kernel
theorem dL_put_14 : decode cL_put 14 = .ok (.bipush 24, 2) := by decide +kernel
theorem dL_put_16 : decode cL_put 16 = .ok (.bipush 8, 2) := by decide +kernel
theorem dL_put_18 : decode cL_put 18 = .ok (.aload_n 1, 1) := by decide +kernel
theorem dL_put_19 : decode cL_put 19 = .ok (.iconst 0, 1) := by decide +kernel
theorem dL_put_20 : decode cL_put 20 = .ok (.iaload, 1) := by decide +kernel
theorem dL_put_21 : decode cL_put 21 = .ok (.iconst 4, 1) := by decide +kernel
theorem dL_put_22 : decode cL_put 22 = .ok (.irem, 1) := by decide +kernel
theorem dL_put_23 : decode cL_put 23 = .ok (.imul, 1) := by decide +kernel
theorem dL_put_24 : decode cL_put 24 = .ok (.isub, 1) := by decide +kernel
theorem dL_put_25 : decode cL_put 25 = .ok (.ishl, 1) := by decide +kernel
theorem dL_put_26 : decode cL_put 26 = .ok (.ior, 1) := by decide +kernel
theorem dL_put_27 : decode cL_put 27 = .ok (.iastore, 1) := by decide +kernel
theorem dL_put_28 : decode cL_put 28 = .ok (.aload_n 1, 1) := by decide +kernel
theorem dL_put_29 : decode cL_put 29 = .ok (.iconst 0, 1) := by decide +kernel
theorem dL_put_30 : decode cL_put 30 = .ok (.dup2, 1) := by decide +kernel
theorem dL_put_31 : decode cL_put 31 = .ok (.iaload, 1) := by decide +kernel
theorem dL_put_32 : decode cL_put 32 = .ok (.iconst 1, 1) := by decide +kernel
theorem dL_put_33 : decode cL_put 33 = .ok (.iadd, 1) := by decide +kernel
theorem dL_put_34 : decode cL_put 34 = .ok (.iastore, 1) := by decide +kernel
theorem dL_put_35 : decode cL_put 35 = .ok (.aload_n 1, 1) := by decide +kernel
theorem dL_put_36 : decode cL_put 36 = .ok (.iconst 0, 1) := by decide +kernel
theorem dL_put_37 : decode cL_put 37 = .ok (.iaload, 1) := by decide +kernel
theorem dL_put_38 : decode cL_put 38 = .ok (.bipush 20, 2) := by decide +kernel
theorem dL_put_40 : decode cL_put 40 = .ok (.irem, 1) := by decide +kernel
theorem dL_put_41 : decode cL_put 41 = .ok (.ifCond .ne 8, 3) := by decide +kernel
theorem dL_put_44 : decode cL_put 44 = .ok (.aload_n 0, 1) := by decide +kernel
theorem dL_put_45 : decode cL_put 45 = .ok (.aload_n 1, 1) := by decide +kernel
theorem dL_put_46 : decode cL_put 46 = .ok (.invokestatic 7, 3) := by decide +kernel
theorem dL_put_49 : decode cL_put 49 = .ok (.return_, 1) := by decide +kernel
theorem dL_flush_0 : decode cL_flush 0 = .ok (.aload_n 0, 1) := by decide +kernel
theorem dL_flush_1 : decode cL_flush 1 = .ok (.aload_n 1, 1) := by decide +kernel
theorem dL_flush_2 : decode cL_flush 2 = .ok (.iconst 1, 1) := by decide +kernel
theorem dL_flush_3 : decode cL_flush 3 = .ok (.iaload, 1) := by decide +kernel
theorem dL_flush_4 : decode cL_flush 4 = .ok (.aload_n 1, 1) := by decide +kernel
theorem dL_flush_5 : decode cL_flush 5 = .ok (.iconst 2, 1) := by decide +kernel
theorem dL_flush_6 : decode cL_flush 6 = .ok (.iaload, 1) := by decide +kernel
theorem dL_flush_7 : decode cL_flush 7 = .ok (.aload_n 1, 1) := by decide +kernel
theorem dL_flush_8 : decode cL_flush 8 = .ok (.iconst 3, 1) := by decide +kernel
theorem dL_flush_9 : decode cL_flush 9 = .ok (.iaload, 1) := by decide +kernel
theorem dL_flush_10 : decode cL_flush 10 = .ok (.aload_n 1, 1) := by decide +kernel
theorem dL_flush_11 : decode cL_flush 11 = .ok (.iconst 4, 1) := by decide +kernel
theorem dL_flush_12 : decode cL_flush 12 = .ok (.iaload, 1) := by decide +kernel
theorem dL_flush_13 : decode cL_flush 13 = .ok (.aload_n 1, 1) := by decide +kernel
theorem dL_flush_14 : decode cL_flush 14 = .ok (.iconst 5, 1) := by decide +kernel
theorem dL_flush_15 : decode cL_flush 15 = .ok (.iaload, 1) := by decide +kernel
theorem dL_flush_16 : decode cL_flush 16 = .ok (.invokevirtual 13, 3) := by decide +kernel
theorem dL_flush_19 : decode cL_flush 19 = .ok (.pop, 1) := by decide +kernel
theorem dL_flush_20 : decode cL_flush 20 = .ok (.iconst 1, 1) := by decide +kernel
theorem dL_flush_21 : decode cL_flush 21 = .ok (.istore_n 2, 1) := by decide +kernel
theorem dL_flush_22 : decode cL_flush 22 = .ok (.iload_n 2, 1) := by decide +kernel
theorem dL_flush_23 : decode cL_flush 23 = .ok (.bipush 6, 2) := by decide +kernel
theorem dL_flush_25 : decode cL_flush 25 = .ok (.if_icmp .ge 13, 3) := by decide +kernel
theorem dL_flush_28 : decode cL_flush 28 = .ok (.aload_n 1, 1) := by decide +kernel
theorem dL_flush_29 : decode cL_flush 29 = .ok (.iload_n 2, 1) := by decide +kernel
theorem dL_flush_30 : decode cL_flush 30 = .ok (.iconst 0, 1) := by decide +kernel
theorem dL_flush_31 : decode cL_flush 31 = .ok (.iastore, 1) := by decide +kernel
theorem dL_flush_32 : decode cL_flush 32 = .ok (.iinc 2 1, 3) := by decide +kernel
theorem dL_flush_35 : decode cL_flush 35 = .ok (.goto (-13), 3) := by decide +kernel
theorem dL_flush_38 : decode cL_flush 38 = .ok (.return_, 1) := by decide +kernel
theorem dL_loadText_0 : decode cL_loadText 0 = .ok (.aload_n 1, 1) := by decide +kernel
theorem dL_loadText_1 : decode cL_loadText 1 = .ok (.iconst 0, 1) := by decide +kernel
theorem dL_loadText_2 : decode cL_loadText 2 = .ok (.iaload, 1) := by decide +kernel
theorem dL_loadText_3 : decode cL_loadText 3 = .ok (.istore_n 2, 1) := by decide +kernel
theorem dL_loadText_4 : decode cL_loadText 4 = .ok (.iload_n 2, 1) := by decide +kernel
theorem dL_loadText_5 : decode cL_loadText 5 = .ok (.bipush 20, 2) := by decide +kernel
theorem dL_loadText_7 : decode cL_loadText 7 = .ok (.irem, 1) := by decide +kernel
theorem dL_loadText_8 : decode cL_loadText 8 = .ok (.ifCond .le 8, 3) := by decide +kernel
theorem dL_loadText_11 : decode cL_loadText 11 = .ok (.aload_n 0, 1) := by decide +kernel
theorem dL_loadText_12 : decode cL_loadText 12 = .ok (.aload_n 1, 1) := by decide +kernel
theorem dL_loadText_13 : decode cL_loadText 13 = .ok (.invokestatic 7, 3) := by decide +kernel
theorem dL_loadText_16 : decode cL_loadText 16 = .ok (.aload_n 1, 1) := by decide +kernel
theorem dL_loadText_17 : decode cL_loadText 17 = .ok (.iconst 0, 1) := by decide +kernel
theorem dL_loadText_18 : decode cL_loadText 18 = .ok (.iconst 0, 1) := by decide +kernel
theorem dL_loadText_19 : decode cL_loadText 19 = .ok (.iastore, 1) := by decide +kernel
theorem dL_loadText_20 : decode cL_loadText 20 = .ok (.aload_n 0, 1) := by decide +kernel
theorem dL_loadText_21 : decode cL_loadText 21 = .ok (.iload_n 2, 1) := by decide +kernel
theorem dL_loadText_22 : decode cL_loadText 22 = .ok (.invokestatic 19, 3) := by decide +kernel
theorem dL_loadText_25 : decode cL_loadText 25 = .ok (.ireturn, 1) := by decide +kernel
theorem dL_write_0 : decode cL_write 0 = .ok (.iconst 0, 1) := by decide +kernel
theorem dL_write_1 : decode cL_write 1 = .ok (.istore_n 3, 1) := by decide +kernel
theorem dL_write_2 : decode cL_write 2 = .ok (.iload_n 3, 1) := by decide +kernel
theorem dL_write_3 : decode cL_write 3 = .ok (.aload_n 2, 1) := by decide +kernel
theorem dL_write_4 : decode cL_write 4 = .ok (.invokevirtual 23, 3) := by decide +kernel
theorem dL_write_7 : decode cL_write 7 = .ok (.if_icmp .ge 19, 3) := by decide +kernel
theorem dL_write_10 : decode cL_write 10 = .ok (.aload_n 0, 1) := by decide +kernel
theorem dL_write_11 : decode cL_write 11 = .ok (.aload_n 1, 1) := by decide +kernel
theorem dL_write_12 : decode cL_write 12 = .ok (.aload_n 2, 1) := by decide +kernel
theorem dL_write_13 : decode cL_write 13 = .ok (.iload_n 3, 1) := by decide +kernel
theorem dL_write_14 : decode cL_write 14 = .ok (.invokevirtual 29, 3) := by decide +kernel
theorem dL_write_17 : decode cL_write 17 = .ok (.invokestatic 33, 3) := by decide +kernel
theorem dL_write_20 : decode cL_write 20 = .ok (.iinc 3 1, 3) := by decide +kernel
theorem dL_write_23 : decode cL_write 23 = .ok (.goto (-21), 3) := by decide +kernel
theorem dL_write_26 : decode cL_write 26 = .ok (.return_, 1) := by decide +kernel
theorem dL_writeNumber_0 : decode cL_writeNumber 0 = .ok (.iconst 1, 1) := by decide +kernel
theorem dL_writeNumber_1 : decode cL_writeNumber 1 = .ok (.istore_n 3, 1) := by decide +kernel
theorem dL_writeNumber_2 : decode cL_writeNumber 2 = .ok (.iload_n 3, 1) := by decide +kernel
theorem dL_writeNumber_3 : decode cL_writeNumber 3 = .ok (.iload_n 2, 1) := by decide +kernel
theorem dL_writeNumber_4 : decode cL_writeNumber 4 = .ok (.bipush 10, 2) := by decide +kernel
theorem dL_writeNumber_6 : decode cL_writeNumber 6 = .ok (.idiv, 1) := by decide +kernel
theorem dL_writeNumber_7 : decode cL_writeNumber 7 = .ok (.if_icmp .gt 11, 3) := by decide +kernel
theorem dL_writeNumber_10 : decode cL_writeNumber 10 = .ok (.iload_n 3, 1) := by decide +kernel
theorem dL_writeNumber_11 : decode cL_writeNumber 11 = .ok (.bipush 10, 2) := by decide +kernel
theorem dL_writeNumber_13 : decode cL_writeNumber 13 = .ok (.imul, 1) := by decide +kernel
theorem dL_writeNumber_14 : decode cL_writeNumber 14 = .ok (.istore_n 3, 1) := by decide +kernel
theorem dL_writeNumber_15 : decode cL_writeNumber 15 = .ok (.goto (-13), 3) := by decide +kernel
theorem dL_writeNumber_18 : decode cL_writeNumber 18 = .ok (.iload_n 3, 1) := by decide +kernel
theorem dL_writeNumber_19 : decode cL_writeNumber 19 = .ok (.ifCond .le 25, 3) := by decide +kernel
theorem dL_writeNumber_22 : decode cL_writeNumber 22 = .ok (.aload_n 0, 1) := by decide +kernel
theorem dL_writeNumber_23 : decode cL_writeNumber 23 = .ok (.aload_n 1, 1) := by decide +kernel
theorem dL_writeNumber_24 : decode cL_writeNumber 24 = .ok (.bipush 48, 2) := by decide +kernel
theorem dL_writeNumber_26 : decode cL_writeNumber 26 = .ok (.iload_n 2, 1) := by decide +kernel
theorem dL_writeNumber_27 : decode cL_writeNumber 27 = .ok (.iload_n 3, 1) := by decide +kernel
theorem dL_writeNumber_28 : decode cL_writeNumber 28 = .ok (.idiv, 1) := by decide +kernel
theorem dL_writeNumber_29 : decode cL_writeNumber 29 = .ok (.bipush 10, 2) := by decide +kernel
theorem dL_writeNumber_31 : decode cL_writeNumber 31 = .ok (.irem, 1) := by decide +kernel
theorem dL_writeNumber_32 : decode cL_writeNumber 32 = .ok (.iadd, 1) := by decide +kernel
theorem dL_writeNumber_33 : decode cL_writeNumber 33 = .ok (.invokestatic 33, 3) := by decide +kernel
theorem dL_writeNumber_36 : decode cL_writeNumber 36 = .ok (.iload_n 3, 1) := by decide +kernel
theorem dL_writeNumber_37 : decode cL_writeNumber 37 = .ok (.bipush 10, 2) := by decide +kernel
theorem dL_writeNumber_39 : decode cL_writeNumber 39 = .ok (.idiv, 1) := by decide +kernel
theorem dL_writeNumber_40 : decode cL_writeNumber 40 = .ok (.istore_n 3, 1) := by decide +kernel
theorem dL_writeNumber_41 : decode cL_writeNumber 41 = .ok (.goto (-23), 3) := by decide +kernel
theorem dL_writeNumber_44 : decode cL_writeNumber 44 = .ok (.return_, 1) := by decide +kernel
theorem dL_load_0 : decode cL_load 0 = .ok (.aload_n 0, 1) := by decide +kernel
theorem dL_load_1 : decode cL_load 1 = .ok (.iload_n 1, 1) := by decide +kernel
theorem dL_load_2 : decode cL_load 2 = .ok (.invokevirtual 37, 3) := by decide +kernel
theorem dL_load_5 : decode cL_load 5 = .ok (.ireturn, 1) := by decide +kernel
theorem dL_load_6 : decode cL_load 6 = .ok (.astore_n 2, 1) := by decide +kernel
theorem dL_load_7 : decode cL_load 7 = .ok (.ldc 42, 2) := by decide +kernel
theorem dL_load_9 : decode cL_load 9 = .ok (.ireturn, 1) := by decide +kernel
theorem dL_state_0 : decode cL_state 0 = .ok (.aload_n 0, 1) := by decide +kernel
theorem dL_state_1 : decode cL_state 1 = .ok (.iload_n 1, 1) := by decide +kernel
theorem dL_state_2 : decode cL_state 2 = .ok (.invokevirtual 43, 3) := by decide +kernel
theorem dL_state_5 : decode cL_state 5 = .ok (.ireturn, 1) := by decide +kernel
theorem dL_state_6 : decode cL_state 6 = .ok (.astore_n 2, 1) := by decide +kernel
theorem dL_state_7 : decode cL_state 7 = .ok (.ldc 42, 2) := by decide +kernel
theorem dL_state_9 : decode cL_state 9 = .ok (.ireturn, 1) := by decide +kernel
theorem dL_gate_0 : decode cL_gate 0 = .ok (.aload_n 0, 1) := by decide +kernel
theorem dL_gate_1 : decode cL_gate 1 = .ok (.iload_n 1, 1) := by decide +kernel
theorem dL_gate_2 : decode cL_gate 2 = .ok (.iload_n 2, 1) := by decide +kernel
theorem dL_gate_3 : decode cL_gate 3 = .ok (.invokevirtual 46, 3) := by decide +kernel
theorem dL_gate_6 : decode cL_gate 6 = .ok (.ireturn, 1) := by decide +kernel
theorem dL_gate_7 : decode cL_gate 7 = .ok (.astore_n 3, 1) := by decide +kernel
theorem dL_gate_8 : decode cL_gate 8 = .ok (.ldc 52, 2) := by decide +kernel
theorem dL_gate_10 : decode cL_gate 10 = .ok (.ireturn, 1) := by decide +kernel
theorem dL_gate_11 : decode cL_gate 11 = .ok (.astore_n 3, 1) := by decide +kernel
theorem dL_gate_12 : decode cL_gate 12 = .ok (.ldc 42, 2) := by decide +kernel
theorem dL_gate_14 : decode cL_gate 14 = .ok (.ireturn, 1) := by decide +kernel
theorem dL_flow_0 : decode cL_flow 0 = .ok (.aload_n 0, 1) := by decide +kernel
theorem dL_flow_1 : decode cL_flow 1 = .ok (.iload_n 1, 1) := by decide +kernel
theorem dL_flow_2 : decode cL_flow 2 = .ok (.iload_n 2, 1) := by decide +kernel
theorem dL_flow_3 : decode cL_flow 3 = .ok (.invokevirtual 53, 3) := by decide +kernel
theorem dL_flow_6 : decode cL_flow 6 = .ok (.ireturn, 1) := by decide +kernel
theorem dL_flow_7 : decode cL_flow 7 = .ok (.astore_n 3, 1) := by decide +kernel
theorem dL_flow_8 : decode cL_flow 8 = .ok (.ldc 52, 2) := by decide +kernel
theorem dL_flow_10 : decode cL_flow 10 = .ok (.ireturn, 1) := by decide +kernel
theorem dL_flow_11 : decode cL_flow 11 = .ok (.astore_n 3, 1) := by decide +kernel
theorem dL_flow_12 : decode cL_flow 12 = .ok (.ldc 42, 2) := by decide +kernel
theorem dL_flow_14 : decode cL_flow 14 = .ok (.ireturn, 1) := by decide +kernel
theorem dL_route_0 : decode cL_route 0 = .ok (.aload_n 0, 1) := by decide +kernel
theorem dL_route_1 : decode cL_route 1 = .ok (.iload_n 1, 1) := by decide +kernel
theorem dL_route_2 : decode cL_route 2 = .ok (.iload_n 2, 1) := by decide +kernel
theorem dL_route_3 : decode cL_route 3 = .ok (.invokevirtual 56, 3) := by decide +kernel
theorem dL_route_6 : decode cL_route 6 = .ok (.ireturn, 1) := by decide +kernel
theorem dL_route_7 : decode cL_route 7 = .ok (.astore_n 3, 1) := by decide +kernel
theorem dL_route_8 : decode cL_route 8 = .ok (.ldc 52, 2) := by decide +kernel
theorem dL_route_10 : decode cL_route 10 = .ok (.ireturn, 1) := by decide +kernel
theorem dL_route_11 : decode cL_route 11 = .ok (.astore_n 3, 1) := by decide +kernel
theorem dL_route_12 : decode cL_route 12 = .ok (.ldc 61, 2) := by decide +kernel
theorem dL_route_14 : decode cL_route 14 = .ok (.ireturn, 1) := by decide +kernel
theorem dL_tokens_0 : decode cL_tokens 0 = .ok (.aload_n 0, 1) := by decide +kernel
theorem dL_tokens_1 : decode cL_tokens 1 = .ok (.iload_n 1, 1) := by decide +kernel
theorem dL_tokens_2 : decode cL_tokens 2 = .ok (.iload_n 2, 1) := by decide +kernel
theorem dL_tokens_3 : decode cL_tokens 3 = .ok (.invokevirtual 62, 3) := by decide +kernel
theorem dL_tokens_6 : decode cL_tokens 6 = .ok (.ireturn, 1) := by decide +kernel
theorem dL_tokens_7 : decode cL_tokens 7 = .ok (.astore_n 3, 1) := by decide +kernel
theorem dL_tokens_8 : decode cL_tokens 8 = .ok (.ldc 52, 2) := by decide +kernel
theorem dL_tokens_10 : decode cL_tokens 10 = .ok (.ireturn, 1) := by decide +kernel
theorem dL_queue_0 : decode cL_queue 0 = .ok (.aload_n 0, 1) := by decide +kernel
theorem dL_queue_1 : decode cL_queue 1 = .ok (.iload_n 1, 1) := by decide +kernel
theorem dL_queue_2 : decode cL_queue 2 = .ok (.iload_n 2, 1) := by decide +kernel
theorem dL_queue_3 : decode cL_queue 3 = .ok (.invokevirtual 65, 3) := by decide +kernel
theorem dL_queue_6 : decode cL_queue 6 = .ok (.ireturn, 1) := by decide +kernel
theorem dL_queue_7 : decode cL_queue 7 = .ok (.astore_n 3, 1) := by decide +kernel
theorem dL_queue_8 : decode cL_queue 8 = .ok (.ldc 52, 2) := by decide +kernel
theorem dL_queue_10 : decode cL_queue 10 = .ok (.ireturn, 1) := by decide +kernel
theorem dL_packet_0 : decode cL_packet 0 = .ok (.aload_n 0, 1) := by decide +kernel
theorem dL_packet_1 : decode cL_packet 1 = .ok (.iload_n 1, 1) := by decide +kernel
theorem dL_packet_2 : decode cL_packet 2 = .ok (.iload_n 2, 1) := by decide +kernel
theorem dL_packet_3 : decode cL_packet 3 = .ok (.invokevirtual 68, 3) := by decide +kernel
theorem dL_packet_6 : decode cL_packet 6 = .ok (.ireturn, 1) := by decide +kernel
theorem dL_packet_7 : decode cL_packet 7 = .ok (.astore_n 3, 1) := by decide +kernel
theorem dL_packet_8 : decode cL_packet 8 = .ok (.ldc 52, 2) := by decide +kernel
theorem dL_packet_10 : decode cL_packet 10 = .ok (.ireturn, 1) := by decide +kernel
theorem dL_packet_11 : decode cL_packet 11 = .ok (.astore_n 3, 1) := by decide +kernel
theorem dL_packet_12 : decode cL_packet 12 = .ok (.ldc 42, 2) := by decide +kernel
theorem dL_packet_14 : decode cL_packet 14 = .ok (.ireturn, 1) := by decide +kernel
theorem dL_coupon_0 : decode cL_coupon 0 = .ok (.aload_n 0, 1) := by decide +kernel
theorem dL_coupon_1 : decode cL_coupon 1 = .ok (.iload_n 1, 1) := by decide +kernel
theorem dL_coupon_2 : decode cL_coupon 2 = .ok (.iload_n 2, 1) := by decide +kernel
theorem dL_coupon_3 : decode cL_coupon 3 = .ok (.invokevirtual 71, 3) := by decide +kernel
theorem dL_coupon_6 : decode cL_coupon 6 = .ok (.ireturn, 1) := by decide +kernel
theorem dL_coupon_7 : decode cL_coupon 7 = .ok (.astore_n 3, 1) := by decide +kernel
theorem dL_coupon_8 : decode cL_coupon 8 = .ok (.ldc 52, 2) := by decide +kernel
theorem dL_coupon_10 : decode cL_coupon 10 = .ok (.ireturn, 1) := by decide +kernel
theorem dL_coupon_11 : decode cL_coupon 11 = .ok (.astore_n 3, 1) := by decide +kernel
theorem dL_coupon_12 : decode cL_coupon 12 = .ok (.ldc 42, 2) := by decide +kernel
theorem dL_coupon_14 : decode cL_coupon 14 = .ok (.ireturn, 1) := by decide +kernel
theorem dL_curve_0 : decode cL_curve 0 = .ok (.aload_n 0, 1) := by decide +kernel
theorem dL_curve_1 : decode cL_curve 1 = .ok (.iload_n 1, 1) := by decide +kernel
theorem dL_curve_2 : decode cL_curve 2 = .ok (.iload_n 2, 1) := by decide +kernel
theorem dL_curve_3 : decode cL_curve 3 = .ok (.invokevirtual 78, 3) := by decide +kernel
theorem dL_curve_6 : decode cL_curve 6 = .ok (.ireturn, 1) := by decide +kernel
theorem dL_curve_7 : decode cL_curve 7 = .ok (.astore_n 3, 1) := by decide +kernel
theorem dL_curve_8 : decode cL_curve 8 = .ok (.ldc 52, 2) := by decide +kernel
theorem dL_curve_10 : decode cL_curve 10 = .ok (.ireturn, 1) := by decide +kernel
theorem dL_curve_11 : decode cL_curve 11 = .ok (.astore_n 3, 1) := by decide +kernel
theorem dL_curve_12 : decode cL_curve 12 = .ok (.ldc 42, 2) := by decide +kernel
theorem dL_curve_14 : decode cL_curve 14 = .ok (.ireturn, 1) := by decide +kernel
theorem dL_endsAt_0 : decode cL_endsAt 0 = .ok (.aload_n 0, 1) := by decide +kernel
theorem dL_endsAt_1 : decode cL_endsAt 1 = .ok (.iload_n 1, 1) := by decide +kernel
theorem dL_endsAt_2 : decode cL_endsAt 2 = .ok (.invokevirtual 81, 3) := by decide +kernel
theorem dL_endsAt_5 : decode cL_endsAt 5 = .ok (.ireturn, 1) := by decide +kernel
theorem dL_endsAt_6 : decode cL_endsAt 6 = .ok (.astore_n 2, 1) := by decide +kernel
theorem dL_endsAt_7 : decode cL_endsAt 7 = .ok (.ldc 52, 2) := by decide +kernel
theorem dL_endsAt_9 : decode cL_endsAt 9 = .ok (.ireturn, 1) := by decide +kernel
theorem dL_help_0 : decode cL_help 0 = .ok (.aload_n 0, 1) := by decide +kernel
theorem dL_help_1 : decode cL_help 1 = .ok (.iload_n 1, 1) := by decide +kernel
theorem dL_help_2 : decode cL_help 2 = .ok (.invokevirtual 87, 3) := by decide +kernel
theorem dL_help_5 : decode cL_help 5 = .ok (.ireturn, 1) := by decide +kernel
theorem dL_help_6 : decode cL_help 6 = .ok (.astore_n 2, 1) := by decide +kernel
theorem dL_help_7 : decode cL_help 7 = .ok (.ldc 52, 2) := by decide +kernel
theorem dL_help_9 : decode cL_help 9 = .ok (.ireturn, 1) := by decide +kernel
theorem dL_pass_0 : decode cL_pass 0 = .ok (.aload_n 0, 1) := by decide +kernel
theorem dL_pass_1 : decode cL_pass 1 = .ok (.iload_n 1, 1) := by decide +kernel
theorem dL_pass_2 : decode cL_pass 2 = .ok (.invokevirtual 90, 3) := by decide +kernel
theorem dL_pass_5 : decode cL_pass 5 = .ok (.ireturn, 1) := by decide +kernel
theorem dL_pass_6 : decode cL_pass 6 = .ok (.astore_n 2, 1) := by decide +kernel
theorem dL_pass_7 : decode cL_pass 7 = .ok (.ldc 42, 2) := by decide +kernel
theorem dL_pass_9 : decode cL_pass 9 = .ok (.ireturn, 1) := by decide +kernel
theorem dL_forward_0 : decode cL_forward 0 = .ok (.aload_n 0, 1) := by decide +kernel
theorem dL_forward_1 : decode cL_forward 1 = .ok (.iload_n 1, 1) := by decide +kernel
theorem dL_forward_2 : decode cL_forward 2 = .ok (.iload_n 2, 1) := by decide +kernel
theorem dL_forward_3 : decode cL_forward 3 = .ok (.invokevirtual 93, 3) := by decide +kernel
theorem dL_forward_6 : decode cL_forward 6 = .ok (.ireturn, 1) := by decide +kernel
theorem dL_forward_7 : decode cL_forward 7 = .ok (.astore_n 3, 1) := by decide +kernel
theorem dL_forward_8 : decode cL_forward 8 = .ok (.ldc 52, 2) := by decide +kernel
theorem dL_forward_10 : decode cL_forward 10 = .ok (.ireturn, 1) := by decide +kernel
theorem dL_grant_0 : decode cL_grant 0 = .ok (.aload_n 0, 1) := by decide +kernel
theorem dL_grant_1 : decode cL_grant 1 = .ok (.iload_n 1, 1) := by decide +kernel
theorem dL_grant_2 : decode cL_grant 2 = .ok (.iload_n 2, 1) := by decide +kernel
theorem dL_grant_3 : decode cL_grant 3 = .ok (.iload_n 3, 1) := by decide +kernel
theorem dL_grant_4 : decode cL_grant 4 = .ok (.invokevirtual 96, 3) := by decide +kernel
theorem dL_grant_7 : decode cL_grant 7 = .ok (.ireturn, 1) := by decide +kernel
theorem dL_grant_8 : decode cL_grant 8 = .ok (.astore 4, 2) := by decide +kernel
theorem dL_grant_10 : decode cL_grant 10 = .ok (.ldc 52, 2) := by decide +kernel
theorem dL_grant_12 : decode cL_grant 12 = .ok (.ireturn, 1) := by decide +kernel
theorem dL_grant_13 : decode cL_grant 13 = .ok (.astore 4, 2) := by decide +kernel
theorem dL_grant_15 : decode cL_grant 15 = .ok (.ldc 42, 2) := by decide +kernel
theorem dL_grant_17 : decode cL_grant 17 = .ok (.ireturn, 1) := by decide +kernel
theorem dL_grant_18 : decode cL_grant 18 = .ok (.astore 4, 2) := by decide +kernel
theorem dL_grant_20 : decode cL_grant 20 = .ok (.ldc 101, 2) := by decide +kernel
theorem dL_grant_22 : decode cL_grant 22 = .ok (.ireturn, 1) := by decide +kernel
theorem dL_send_0 : decode cL_send 0 = .ok (.aload_n 0, 1) := by decide +kernel
theorem dL_send_1 : decode cL_send 1 = .ok (.iload_n 1, 1) := by decide +kernel
theorem dL_send_2 : decode cL_send 2 = .ok (.iload_n 2, 1) := by decide +kernel
theorem dL_send_3 : decode cL_send 3 = .ok (.invokevirtual 102, 3) := by decide +kernel
theorem dL_send_6 : decode cL_send 6 = .ok (.ireturn, 1) := by decide +kernel
theorem dL_send_7 : decode cL_send 7 = .ok (.astore_n 3, 1) := by decide +kernel
theorem dL_send_8 : decode cL_send 8 = .ok (.ldc 52, 2) := by decide +kernel
theorem dL_send_10 : decode cL_send 10 = .ok (.ireturn, 1) := by decide +kernel
theorem dL_send_11 : decode cL_send 11 = .ok (.astore_n 3, 1) := by decide +kernel
theorem dL_send_12 : decode cL_send 12 = .ok (.ldc 42, 2) := by decide +kernel
theorem dL_send_14 : decode cL_send 14 = .ok (.ireturn, 1) := by decide +kernel
theorem dL_send_15 : decode cL_send 15 = .ok (.astore_n 3, 1) := by decide +kernel
theorem dL_send_16 : decode cL_send 16 = .ok (.ldc 101, 2) := by decide +kernel
theorem dL_send_18 : decode cL_send 18 = .ok (.ireturn, 1) := by decide +kernel
theorem dL_setThrift_0 : decode cL_setThrift 0 = .ok (.aload_n 0, 1) := by decide +kernel
theorem dL_setThrift_1 : decode cL_setThrift 1 = .ok (.iload_n 1, 1) := by decide +kernel
theorem dL_setThrift_2 : decode cL_setThrift 2 = .ok (.iload_n 2, 1) := by decide +kernel
theorem dL_setThrift_3 : decode cL_setThrift 3 = .ok (.invokevirtual 105, 3) := by decide +kernel
theorem dL_setThrift_6 : decode cL_setThrift 6 = .ok (.ireturn, 1) := by decide +kernel
theorem dL_setThrift_7 : decode cL_setThrift 7 = .ok (.astore_n 3, 1) := by decide +kernel
theorem dL_setThrift_8 : decode cL_setThrift 8 = .ok (.ldc 52, 2) := by decide +kernel
theorem dL_setThrift_10 : decode cL_setThrift 10 = .ok (.ireturn, 1) := by decide +kernel
theorem dL_setThrift_11 : decode cL_setThrift 11 = .ok (.astore_n 3, 1) := by decide +kernel
theorem dL_setThrift_12 : decode cL_setThrift 12 = .ok (.ldc 42, 2) := by decide +kernel
theorem dL_setThrift_14 : decode cL_setThrift 14 = .ok (.ireturn, 1) := by decide +kernel
theorem dL_with_0 : decode cL_with 0 = .ok (.aload_n 0, 1) := by decide +kernel
theorem dL_with_1 : decode cL_with 1 = .ok (.arraylength, 1) := by decide +kernel
theorem dL_with_2 : decode cL_with 2 = .ok (.iconst 1, 1) := by decide +kernel
theorem dL_with_3 : decode cL_with 3 = .ok (.iadd, 1) := by decide +kernel
theorem dL_with_4 : decode cL_with 4 = .ok (.anewarray 108, 3) := by decide +kernel
theorem dL_with_7 : decode cL_with 7 = .ok (.astore_n 2, 1) := by decide +kernel
theorem dL_with_8 : decode cL_with 8 = .ok (.iconst 0, 1) := by decide +kernel
theorem dL_with_9 : decode cL_with 9 = .ok (.istore_n 3, 1) := by decide +kernel
theorem dL_with_10 : decode cL_with 10 = .ok (.iload_n 3, 1) := by decide +kernel
theorem dL_with_11 : decode cL_with 11 = .ok (.aload_n 0, 1) := by decide +kernel
theorem dL_with_12 : decode cL_with 12 = .ok (.arraylength, 1) := by decide +kernel
theorem dL_with_13 : decode cL_with 13 = .ok (.if_icmp .ge 15, 3) := by decide +kernel
theorem dL_with_16 : decode cL_with 16 = .ok (.aload_n 2, 1) := by decide +kernel
theorem dL_with_17 : decode cL_with 17 = .ok (.iload_n 3, 1) := by decide +kernel
theorem dL_with_18 : decode cL_with 18 = .ok (.aload_n 0, 1) := by decide +kernel
theorem dL_with_19 : decode cL_with 19 = .ok (.iload_n 3, 1) := by decide +kernel
theorem dL_with_20 : decode cL_with 20 = .ok (.aaload, 1) := by decide +kernel
theorem dL_with_21 : decode cL_with 21 = .ok (.aastore, 1) := by decide +kernel
theorem dL_with_22 : decode cL_with 22 = .ok (.iinc 3 1, 3) := by decide +kernel
theorem dL_with_25 : decode cL_with 25 = .ok (.goto (-15), 3) := by decide +kernel
theorem dL_with_28 : decode cL_with 28 = .ok (.aload_n 2, 1) := by decide +kernel
theorem dL_with_29 : decode cL_with 29 = .ok (.aload_n 0, 1) := by decide +kernel
theorem dL_with_30 : decode cL_with 30 = .ok (.arraylength, 1) := by decide +kernel
theorem dL_with_31 : decode cL_with 31 = .ok (.aload_n 1, 1) := by decide +kernel
theorem dL_with_32 : decode cL_with 32 = .ok (.aastore, 1) := by decide +kernel
theorem dL_with_33 : decode cL_with 33 = .ok (.aload_n 2, 1) := by decide +kernel
theorem dL_with_34 : decode cL_with 34 = .ok (.areturn, 1) := by decide +kernel
theorem dL_without_0 : decode cL_without 0 = .ok (.aload_n 0, 1) := by decide +kernel
theorem dL_without_1 : decode cL_without 1 = .ok (.arraylength, 1) := by decide +kernel
theorem dL_without_2 : decode cL_without 2 = .ok (.iconst 1, 1) := by decide +kernel
theorem dL_without_3 : decode cL_without 3 = .ok (.isub, 1) := by decide +kernel
theorem dL_without_4 : decode cL_without 4 = .ok (.anewarray 108, 3) := by decide +kernel
theorem dL_without_7 : decode cL_without 7 = .ok (.astore_n 2, 1) := by decide +kernel
theorem dL_without_8 : decode cL_without 8 = .ok (.iconst 0, 1) := by decide +kernel
theorem dL_without_9 : decode cL_without 9 = .ok (.istore_n 3, 1) := by decide +kernel
theorem dL_without_10 : decode cL_without 10 = .ok (.iload_n 3, 1) := by decide +kernel
theorem dL_without_11 : decode cL_without 11 = .ok (.aload_n 2, 1) := by decide +kernel
theorem dL_without_12 : decode cL_without 12 = .ok (.arraylength, 1) := by decide +kernel
theorem dL_without_13 : decode cL_without 13 = .ok (.if_icmp .ge 26, 3) := by decide +kernel
theorem dL_without_16 : decode cL_without 16 = .ok (.aload_n 2, 1) := by decide +kernel
theorem dL_without_17 : decode cL_without 17 = .ok (.iload_n 3, 1) := by decide +kernel
theorem dL_without_18 : decode cL_without 18 = .ok (.aload_n 0, 1) := by decide +kernel
theorem dL_without_19 : decode cL_without 19 = .ok (.iload_n 3, 1) := by decide +kernel
theorem dL_without_20 : decode cL_without 20 = .ok (.iload_n 1, 1) := by decide +kernel
theorem dL_without_21 : decode cL_without 21 = .ok (.if_icmp .ge 7, 3) := by decide +kernel
theorem dL_without_24 : decode cL_without 24 = .ok (.iload_n 3, 1) := by decide +kernel
theorem dL_without_25 : decode cL_without 25 = .ok (.goto 6, 3) := by decide +kernel
theorem dL_without_28 : decode cL_without 28 = .ok (.iload_n 3, 1) := by decide +kernel
theorem dL_without_29 : decode cL_without 29 = .ok (.iconst 1, 1) := by decide +kernel
theorem dL_without_30 : decode cL_without 30 = .ok (.iadd, 1) := by decide +kernel
theorem dL_without_31 : decode cL_without 31 = .ok (.aaload, 1) := by decide +kernel
theorem dL_without_32 : decode cL_without 32 = .ok (.aastore, 1) := by decide +kernel
theorem dL_without_33 : decode cL_without 33 = .ok (.iinc 3 1, 3) := by decide +kernel
theorem dL_without_36 : decode cL_without 36 = .ok (.goto (-26), 3) := by decide +kernel
theorem dL_without_39 : decode cL_without 39 = .ok (.aload_n 2, 1) := by decide +kernel
theorem dL_without_40 : decode cL_without 40 = .ok (.areturn, 1) := by decide +kernel
theorem dL_copied_0 : decode cL_copied 0 = .ok (.aload_n 0, 1) := by decide +kernel
theorem dL_copied_1 : decode cL_copied 1 = .ok (.arraylength, 1) := by decide +kernel
theorem dL_copied_2 : decode cL_copied 2 = .ok (.anewarray 108, 3) := by decide +kernel
theorem dL_copied_5 : decode cL_copied 5 = .ok (.astore_n 1, 1) := by decide +kernel
theorem dL_copied_6 : decode cL_copied 6 = .ok (.iconst 0, 1) := by decide +kernel
theorem dL_copied_7 : decode cL_copied 7 = .ok (.istore_n 2, 1) := by decide +kernel
theorem dL_copied_8 : decode cL_copied 8 = .ok (.iload_n 2, 1) := by decide +kernel
theorem dL_copied_9 : decode cL_copied 9 = .ok (.aload_n 0, 1) := by decide +kernel
theorem dL_copied_10 : decode cL_copied 10 = .ok (.arraylength, 1) := by decide +kernel
theorem dL_copied_11 : decode cL_copied 11 = .ok (.if_icmp .ge 21, 3) := by decide +kernel
theorem dL_copied_14 : decode cL_copied 14 = .ok (.aload_n 1, 1) := by decide +kernel
theorem dL_copied_15 : decode cL_copied 15 = .ok (.iload_n 2, 1) := by decide +kernel
theorem dL_copied_16 : decode cL_copied 16 = .ok (.aload_n 0, 1) := by decide +kernel
theorem dL_copied_17 : decode cL_copied 17 = .ok (.iload_n 2, 1) := by decide +kernel
theorem dL_copied_18 : decode cL_copied 18 = .ok (.aaload, 1) := by decide +kernel
theorem dL_copied_19 : decode cL_copied 19 = .ok (.invokevirtual 110, 3) := by decide +kernel
theorem dL_copied_22 : decode cL_copied 22 = .ok (.checkcast 108, 3) := by decide +kernel
theorem dL_copied_25 : decode cL_copied 25 = .ok (.aastore, 1) := by decide +kernel
theorem dL_copied_26 : decode cL_copied 26 = .ok (.iinc 2 1, 3) := by decide +kernel
theorem dL_copied_29 : decode cL_copied 29 = .ok (.goto (-21), 3) := by decide +kernel
theorem dL_copied_32 : decode cL_copied 32 = .ok (.aload_n 1, 1) := by decide +kernel
theorem dL_copied_33 : decode cL_copied 33 = .ok (.areturn, 1) := by decide +kernel
theorem dL_writeNumbers_0 : decode cL_writeNumbers 0 = .ok (.aload_n 0, 1) := by decide +kernel
theorem dL_writeNumbers_1 : decode cL_writeNumbers 1 = .ok (.aload_n 1, 1) := by decide +kernel
theorem dL_writeNumbers_2 : decode cL_writeNumbers 2 = .ok (.aload_n 2, 1) := by decide +kernel
theorem dL_writeNumbers_3 : decode cL_writeNumbers 3 = .ok (.invokestatic 114, 3) := by decide +kernel
theorem dL_writeNumbers_6 : decode cL_writeNumbers 6 = .ok (.aload_n 3, 1) := by decide +kernel
theorem dL_writeNumbers_7 : decode cL_writeNumbers 7 = .ok (.astore 4, 2) := by decide +kernel
theorem dL_writeNumbers_9 : decode cL_writeNumbers 9 = .ok (.aload 4, 2) := by decide +kernel
theorem dL_writeNumbers_11 : decode cL_writeNumbers 11 = .ok (.arraylength, 1) := by decide +kernel
theorem dL_writeNumbers_12 : decode cL_writeNumbers 12 = .ok (.istore 5, 2) := by decide +kernel
theorem dL_writeNumbers_14 : decode cL_writeNumbers 14 = .ok (.iconst 0, 1) := by decide +kernel
theorem dL_writeNumbers_15 : decode cL_writeNumbers 15 = .ok (.istore 6, 2) := by decide +kernel
theorem dL_writeNumbers_17 : decode cL_writeNumbers 17 = .ok (.iload 6, 2) := by decide +kernel
theorem dL_writeNumbers_19 : decode cL_writeNumbers 19 = .ok (.iload 5, 2) := by decide +kernel
theorem dL_writeNumbers_21 : decode cL_writeNumbers 21 = .ok (.if_icmp .ge 30, 3) := by decide +kernel
theorem dL_writeNumbers_24 : decode cL_writeNumbers 24 = .ok (.aload 4, 2) := by decide +kernel
theorem dL_writeNumbers_26 : decode cL_writeNumbers 26 = .ok (.iload 6, 2) := by decide +kernel
theorem dL_writeNumbers_28 : decode cL_writeNumbers 28 = .ok (.iaload, 1) := by decide +kernel
theorem dL_writeNumbers_29 : decode cL_writeNumbers 29 = .ok (.istore 7, 2) := by decide +kernel
theorem dL_writeNumbers_31 : decode cL_writeNumbers 31 = .ok (.aload_n 0, 1) := by decide +kernel
theorem dL_writeNumbers_32 : decode cL_writeNumbers 32 = .ok (.aload_n 1, 1) := by decide +kernel
theorem dL_writeNumbers_33 : decode cL_writeNumbers 33 = .ok (.ldc 118, 2) := by decide +kernel
theorem dL_writeNumbers_35 : decode cL_writeNumbers 35 = .ok (.invokestatic 114, 3) := by decide +kernel
theorem dL_writeNumbers_38 : decode cL_writeNumbers 38 = .ok (.aload_n 0, 1) := by decide +kernel
theorem dL_writeNumbers_39 : decode cL_writeNumbers 39 = .ok (.aload_n 1, 1) := by decide +kernel
theorem dL_writeNumbers_40 : decode cL_writeNumbers 40 = .ok (.iload 7, 2) := by decide +kernel
theorem dL_writeNumbers_42 : decode cL_writeNumbers 42 = .ok (.invokestatic 120, 3) := by decide +kernel
theorem dL_writeNumbers_45 : decode cL_writeNumbers 45 = .ok (.iinc 6 1, 3) := by decide +kernel
theorem dL_writeNumbers_48 : decode cL_writeNumbers 48 = .ok (.goto (-31), 3) := by decide +kernel
theorem dL_writeNumbers_51 : decode cL_writeNumbers 51 = .ok (.return_, 1) := by decide +kernel
theorem dL_randomRoad_0 : decode cL_randomRoad 0 = .ok (.new 123, 3) := by decide +kernel
theorem dL_randomRoad_3 : decode cL_randomRoad 3 = .ok (.dup, 1) := by decide +kernel
theorem dL_randomRoad_4 : decode cL_randomRoad 4 = .ok (.invokespecial 125, 3) := by decide +kernel
theorem dL_randomRoad_7 : decode cL_randomRoad 7 = .ok (.astore_n 3, 1) := by decide +kernel
theorem dL_randomRoad_8 : decode cL_randomRoad 8 = .ok (.aload_n 0, 1) := by decide +kernel
theorem dL_randomRoad_9 : decode cL_randomRoad 9 = .ok (.aload_n 1, 1) := by decide +kernel
theorem dL_randomRoad_10 : decode cL_randomRoad 10 = .ok (.ldc 126, 2) := by decide +kernel
theorem dL_randomRoad_12 : decode cL_randomRoad 12 = .ok (.invokestatic 114, 3) := by decide +kernel
theorem dL_randomRoad_15 : decode cL_randomRoad 15 = .ok (.aload_n 2, 1) := by decide +kernel
theorem dL_randomRoad_16 : decode cL_randomRoad 16 = .ok (.iconst 4, 1) := by decide +kernel
theorem dL_randomRoad_17 : decode cL_randomRoad 17 = .ok (.invokevirtual 128, 3) := by decide +kernel
theorem dL_randomRoad_20 : decode cL_randomRoad 20 = .ok (.istore 4, 2) := by decide +kernel
theorem dL_randomRoad_22 : decode cL_randomRoad 22 = .ok (.iload 4, 2) := by decide +kernel
theorem dL_randomRoad_24 : decode cL_randomRoad 24 = .ok (.ifCond .le 119, 3) := by decide +kernel
theorem dL_randomRoad_27 : decode cL_randomRoad 27 = .ok (.aload_n 3, 1) := by decide +kernel
theorem dL_randomRoad_28 : decode cL_randomRoad 28 = .ok (.aload_n 3, 1) := by decide +kernel
theorem dL_randomRoad_29 : decode cL_randomRoad 29 = .ok (.getfield 133, 3) := by decide +kernel
theorem dL_randomRoad_32 : decode cL_randomRoad 32 = .ok (.iconst 3, 1) := by decide +kernel
theorem dL_randomRoad_33 : decode cL_randomRoad 33 = .ok (.newarray .int, 2) := by decide +kernel
theorem dL_randomRoad_35 : decode cL_randomRoad 35 = .ok (.dup, 1) := by decide +kernel
theorem dL_randomRoad_36 : decode cL_randomRoad 36 = .ok (.iconst 0, 1) := by decide +kernel
theorem dL_randomRoad_37 : decode cL_randomRoad 37 = .ok (.aload_n 2, 1) := by decide +kernel
theorem dL_randomRoad_38 : decode cL_randomRoad 38 = .ok (.aload_n 2, 1) := by decide +kernel
theorem dL_randomRoad_39 : decode cL_randomRoad 39 = .ok (.iconst 3, 1) := by decide +kernel
theorem dL_randomRoad_40 : decode cL_randomRoad 40 = .ok (.invokevirtual 128, 3) := by decide +kernel
theorem dL_randomRoad_43 : decode cL_randomRoad 43 = .ok (.ifCond .ne 8, 3) := by decide +kernel
theorem dL_randomRoad_46 : decode cL_randomRoad 46 = .ok (.bipush 100, 2) := by decide +kernel
theorem dL_randomRoad_48 : decode cL_randomRoad 48 = .ok (.goto 5, 3) := by decide +kernel
theorem dL_randomRoad_51 : decode cL_randomRoad 51 = .ok (.bipush 6, 2) := by decide +kernel
theorem dL_randomRoad_53 : decode cL_randomRoad 53 = .ok (.invokevirtual 128, 3) := by decide +kernel
theorem dL_randomRoad_56 : decode cL_randomRoad 56 = .ok (.iastore, 1) := by decide +kernel
theorem dL_randomRoad_57 : decode cL_randomRoad 57 = .ok (.dup, 1) := by decide +kernel
theorem dL_randomRoad_58 : decode cL_randomRoad 58 = .ok (.iconst 1, 1) := by decide +kernel
theorem dL_randomRoad_59 : decode cL_randomRoad 59 = .ok (.iconst 1, 1) := by decide +kernel
theorem dL_randomRoad_60 : decode cL_randomRoad 60 = .ok (.aload_n 2, 1) := by decide +kernel
theorem dL_randomRoad_61 : decode cL_randomRoad 61 = .ok (.aload_n 2, 1) := by decide +kernel
theorem dL_randomRoad_62 : decode cL_randomRoad 62 = .ok (.iconst 3, 1) := by decide +kernel
theorem dL_randomRoad_63 : decode cL_randomRoad 63 = .ok (.invokevirtual 128, 3) := by decide +kernel
theorem dL_randomRoad_66 : decode cL_randomRoad 66 = .ok (.ifCond .ne 9, 3) := by decide +kernel
theorem dL_randomRoad_69 : decode cL_randomRoad 69 = .ok (.sipush 999, 3) := by decide +kernel
theorem dL_randomRoad_72 : decode cL_randomRoad 72 = .ok (.goto 5, 3) := by decide +kernel
theorem dL_randomRoad_75 : decode cL_randomRoad 75 = .ok (.bipush 20, 2) := by decide +kernel
theorem dL_randomRoad_77 : decode cL_randomRoad 77 = .ok (.invokevirtual 128, 3) := by decide +kernel
theorem dL_randomRoad_80 : decode cL_randomRoad 80 = .ok (.iadd, 1) := by decide +kernel
theorem dL_randomRoad_81 : decode cL_randomRoad 81 = .ok (.iastore, 1) := by decide +kernel
theorem dL_randomRoad_82 : decode cL_randomRoad 82 = .ok (.dup, 1) := by decide +kernel
theorem dL_randomRoad_83 : decode cL_randomRoad 83 = .ok (.iconst 2, 1) := by decide +kernel
theorem dL_randomRoad_84 : decode cL_randomRoad 84 = .ok (.iconst 1, 1) := by decide +kernel
theorem dL_randomRoad_85 : decode cL_randomRoad 85 = .ok (.aload_n 2, 1) := by decide +kernel
theorem dL_randomRoad_86 : decode cL_randomRoad 86 = .ok (.aload_n 2, 1) := by decide +kernel
theorem dL_randomRoad_87 : decode cL_randomRoad 87 = .ok (.iconst 3, 1) := by decide +kernel
theorem dL_randomRoad_88 : decode cL_randomRoad 88 = .ok (.invokevirtual 128, 3) := by decide +kernel
theorem dL_randomRoad_91 : decode cL_randomRoad 91 = .ok (.ifCond .ne 8, 3) := by decide +kernel
theorem dL_randomRoad_94 : decode cL_randomRoad 94 = .ok (.bipush 20, 2) := by decide +kernel
theorem dL_randomRoad_96 : decode cL_randomRoad 96 = .ok (.goto 4, 3) := by decide +kernel
theorem dL_randomRoad_99 : decode cL_randomRoad 99 = .ok (.iconst 3, 1) := by decide +kernel
theorem dL_randomRoad_100 : decode cL_randomRoad 100 = .ok (.invokevirtual 128, 3) := by decide +kernel
theorem dL_randomRoad_103 : decode cL_randomRoad 103 = .ok (.iadd, 1) := by decide +kernel
theorem dL_randomRoad_104 : decode cL_randomRoad 104 = .ok (.iastore, 1) := by decide +kernel
theorem dL_randomRoad_105 : decode cL_randomRoad 105 = .ok (.invokestatic 137, 3) := by decide +kernel
theorem dL_randomRoad_108 : decode cL_randomRoad 108 = .ok (.putfield 133, 3) := by decide +kernel
theorem dL_randomRoad_111 : decode cL_randomRoad 111 = .ok (.aload_n 0, 1) := by decide +kernel
theorem dL_randomRoad_112 : decode cL_randomRoad 112 = .ok (.aload_n 1, 1) := by decide +kernel
theorem dL_randomRoad_113 : decode cL_randomRoad 113 = .ok (.ldc 141, 2) := by decide +kernel
theorem dL_randomRoad_115 : decode cL_randomRoad 115 = .ok (.aload_n 3, 1) := by decide +kernel
theorem dL_randomRoad_116 : decode cL_randomRoad 116 = .ok (.getfield 133, 3) := by decide +kernel
theorem dL_randomRoad_119 : decode cL_randomRoad 119 = .ok (.aload_n 3, 1) := by decide +kernel
theorem dL_randomRoad_120 : decode cL_randomRoad 120 = .ok (.getfield 133, 3) := by decide +kernel
theorem dL_randomRoad_123 : decode cL_randomRoad 123 = .ok (.arraylength, 1) := by decide +kernel
theorem dL_randomRoad_124 : decode cL_randomRoad 124 = .ok (.iconst 1, 1) := by decide +kernel
theorem dL_randomRoad_125 : decode cL_randomRoad 125 = .ok (.isub, 1) := by decide +kernel
theorem dL_randomRoad_126 : decode cL_randomRoad 126 = .ok (.aaload, 1) := by decide +kernel
theorem dL_randomRoad_127 : decode cL_randomRoad 127 = .ok (.invokestatic 142, 3) := by decide +kernel
theorem dL_randomRoad_130 : decode cL_randomRoad 130 = .ok (.aload_n 0, 1) := by decide +kernel
theorem dL_randomRoad_131 : decode cL_randomRoad 131 = .ok (.aload_n 1, 1) := by decide +kernel
theorem dL_randomRoad_132 : decode cL_randomRoad 132 = .ok (.ldc 146, 2) := by decide +kernel
theorem dL_randomRoad_134 : decode cL_randomRoad 134 = .ok (.invokestatic 114, 3) := by decide +kernel
theorem dL_randomRoad_137 : decode cL_randomRoad 137 = .ok (.iinc 4 (-1), 3) := by decide +kernel
theorem dL_randomRoad_140 : decode cL_randomRoad 140 = .ok (.goto (-118), 3) := by decide +kernel
theorem dL_randomRoad_143 : decode cL_randomRoad 143 = .ok (.aload_n 3, 1) := by decide +kernel
theorem dL_randomRoad_144 : decode cL_randomRoad 144 = .ok (.getfield 133, 3) := by decide +kernel
theorem dL_randomRoad_147 : decode cL_randomRoad 147 = .ok (.arraylength, 1) := by decide +kernel
theorem dL_randomRoad_148 : decode cL_randomRoad 148 = .ok (.istore 4, 2) := by decide +kernel
theorem dL_randomRoad_150 : decode cL_randomRoad 150 = .ok (.iload 4, 2) := by decide +kernel
theorem dL_randomRoad_152 : decode cL_randomRoad 152 = .ok (.ifCond .ne 7, 3) := by decide +kernel
theorem dL_randomRoad_155 : decode cL_randomRoad 155 = .ok (.iconst 0, 1) := by decide +kernel
theorem dL_randomRoad_156 : decode cL_randomRoad 156 = .ok (.goto 8, 3) := by decide +kernel
theorem dL_randomRoad_159 : decode cL_randomRoad 159 = .ok (.aload_n 2, 1) := by decide +kernel
theorem dL_randomRoad_160 : decode cL_randomRoad 160 = .ok (.iconst 4, 1) := by decide +kernel
theorem dL_randomRoad_161 : decode cL_randomRoad 161 = .ok (.invokevirtual 128, 3) := by decide +kernel
theorem dL_randomRoad_164 : decode cL_randomRoad 164 = .ok (.istore 5, 2) := by decide +kernel
theorem dL_randomRoad_166 : decode cL_randomRoad 166 = .ok (.iload 5, 2) := by decide +kernel
theorem dL_randomRoad_168 : decode cL_randomRoad 168 = .ok (.ifCond .le 183, 3) := by decide +kernel
theorem dL_randomRoad_171 : decode cL_randomRoad 171 = .ok (.aload_n 2, 1) := by decide +kernel
theorem dL_randomRoad_172 : decode cL_randomRoad 172 = .ok (.iload 4, 2) := by decide +kernel
theorem dL_randomRoad_174 : decode cL_randomRoad 174 = .ok (.invokevirtual 128, 3) := by decide +kernel
theorem dL_randomRoad_177 : decode cL_randomRoad 177 = .ok (.istore 6, 2) := by decide +kernel
theorem dL_randomRoad_179 : decode cL_randomRoad 179 = .ok (.iconst 1, 1) := by decide +kernel
theorem dL_randomRoad_180 : decode cL_randomRoad 180 = .ok (.aload_n 2, 1) := by decide +kernel
theorem dL_randomRoad_181 : decode cL_randomRoad 181 = .ok (.iload 4, 2) := by decide +kernel
theorem dL_randomRoad_183 : decode cL_randomRoad 183 = .ok (.invokevirtual 128, 3) := by decide +kernel
theorem dL_randomRoad_186 : decode cL_randomRoad 186 = .ok (.iadd, 1) := by decide +kernel
theorem dL_randomRoad_187 : decode cL_randomRoad 187 = .ok (.newarray .int, 2) := by decide +kernel
theorem dL_randomRoad_189 : decode cL_randomRoad 189 = .ok (.astore 7, 2) := by decide +kernel
theorem dL_randomRoad_191 : decode cL_randomRoad 191 = .ok (.iconst 0, 1) := by decide +kernel
theorem dL_randomRoad_192 : decode cL_randomRoad 192 = .ok (.istore 8, 2) := by decide +kernel
theorem dL_randomRoad_194 : decode cL_randomRoad 194 = .ok (.iload 8, 2) := by decide +kernel
theorem dL_randomRoad_196 : decode cL_randomRoad 196 = .ok (.aload 7, 2) := by decide +kernel
theorem dL_randomRoad_198 : decode cL_randomRoad 198 = .ok (.arraylength, 1) := by decide +kernel
theorem dL_randomRoad_199 : decode cL_randomRoad 199 = .ok (.if_icmp .ge 22, 3) := by decide +kernel
theorem dL_randomRoad_202 : decode cL_randomRoad 202 = .ok (.aload 7, 2) := by decide +kernel
theorem dL_randomRoad_204 : decode cL_randomRoad 204 = .ok (.iload 8, 2) := by decide +kernel
theorem dL_randomRoad_206 : decode cL_randomRoad 206 = .ok (.iload 6, 2) := by decide +kernel
theorem dL_randomRoad_208 : decode cL_randomRoad 208 = .ok (.iload 8, 2) := by decide +kernel
theorem dL_randomRoad_210 : decode cL_randomRoad 210 = .ok (.iadd, 1) := by decide +kernel
theorem dL_randomRoad_211 : decode cL_randomRoad 211 = .ok (.iload 4, 2) := by decide +kernel
theorem dL_randomRoad_213 : decode cL_randomRoad 213 = .ok (.irem, 1) := by decide +kernel
theorem dL_randomRoad_214 : decode cL_randomRoad 214 = .ok (.iastore, 1) := by decide +kernel
theorem dL_randomRoad_215 : decode cL_randomRoad 215 = .ok (.iinc 8 1, 3) := by decide +kernel
theorem dL_randomRoad_218 : decode cL_randomRoad 218 = .ok (.goto (-24), 3) := by decide +kernel
theorem dL_randomRoad_221 : decode cL_randomRoad 221 = .ok (.aload_n 3, 1) := by decide +kernel
theorem dL_randomRoad_222 : decode cL_randomRoad 222 = .ok (.aload_n 3, 1) := by decide +kernel
theorem dL_randomRoad_223 : decode cL_randomRoad 223 = .ok (.getfield 148, 3) := by decide +kernel
theorem dL_randomRoad_226 : decode cL_randomRoad 226 = .ok (.aload 7, 2) := by decide +kernel
theorem dL_randomRoad_228 : decode cL_randomRoad 228 = .ok (.invokestatic 137, 3) := by decide +kernel
theorem dL_randomRoad_231 : decode cL_randomRoad 231 = .ok (.putfield 148, 3) := by decide +kernel
theorem dL_randomRoad_234 : decode cL_randomRoad 234 = .ok (.aload_n 3, 1) := by decide +kernel
theorem dL_randomRoad_235 : decode cL_randomRoad 235 = .ok (.aload_n 3, 1) := by decide +kernel
theorem dL_randomRoad_236 : decode cL_randomRoad 236 = .ok (.getfield 151, 3) := by decide +kernel
theorem dL_randomRoad_239 : decode cL_randomRoad 239 = .ok (.iconst 3, 1) := by decide +kernel
theorem dL_randomRoad_240 : decode cL_randomRoad 240 = .ok (.newarray .int, 2) := by decide +kernel
theorem dL_randomRoad_242 : decode cL_randomRoad 242 = .ok (.dup, 1) := by decide +kernel
theorem dL_randomRoad_243 : decode cL_randomRoad 243 = .ok (.iconst 0, 1) := by decide +kernel
theorem dL_randomRoad_244 : decode cL_randomRoad 244 = .ok (.aload_n 2, 1) := by decide +kernel
theorem dL_randomRoad_245 : decode cL_randomRoad 245 = .ok (.iconst 2, 1) := by decide +kernel
theorem dL_randomRoad_246 : decode cL_randomRoad 246 = .ok (.invokevirtual 128, 3) := by decide +kernel
theorem dL_randomRoad_249 : decode cL_randomRoad 249 = .ok (.ifCond .ne 7, 3) := by decide +kernel
theorem dL_randomRoad_252 : decode cL_randomRoad 252 = .ok (.iconst 0, 1) := by decide +kernel
theorem dL_randomRoad_253 : decode cL_randomRoad 253 = .ok (.goto 9, 3) := by decide +kernel
theorem dL_randomRoad_256 : decode cL_randomRoad 256 = .ok (.aload_n 2, 1) := by decide +kernel
theorem dL_randomRoad_257 : decode cL_randomRoad 257 = .ok (.bipush 7, 2) := by decide +kernel
theorem dL_randomRoad_259 : decode cL_randomRoad 259 = .ok (.invokevirtual 128, 3) := by decide +kernel
theorem dL_randomRoad_262 : decode cL_randomRoad 262 = .ok (.iastore, 1) := by decide +kernel
theorem dL_randomRoad_263 : decode cL_randomRoad 263 = .ok (.dup, 1) := by decide +kernel
theorem dL_randomRoad_264 : decode cL_randomRoad 264 = .ok (.iconst 1, 1) := by decide +kernel
theorem dL_randomRoad_265 : decode cL_randomRoad 265 = .ok (.iconst 0, 1) := by decide +kernel
theorem dL_randomRoad_266 : decode cL_randomRoad 266 = .ok (.iastore, 1) := by decide +kernel
theorem dL_randomRoad_267 : decode cL_randomRoad 267 = .ok (.dup, 1) := by decide +kernel
theorem dL_randomRoad_268 : decode cL_randomRoad 268 = .ok (.iconst 2, 1) := by decide +kernel
theorem dL_randomRoad_269 : decode cL_randomRoad 269 = .ok (.iconst 0, 1) := by decide +kernel
theorem dL_randomRoad_270 : decode cL_randomRoad 270 = .ok (.iastore, 1) := by decide +kernel
theorem dL_randomRoad_271 : decode cL_randomRoad 271 = .ok (.invokestatic 137, 3) := by decide +kernel
theorem dL_randomRoad_274 : decode cL_randomRoad 274 = .ok (.putfield 151, 3) := by decide +kernel
theorem dL_randomRoad_277 : decode cL_randomRoad 277 = .ok (.aload_n 0, 1) := by decide +kernel
theorem dL_randomRoad_278 : decode cL_randomRoad 278 = .ok (.aload_n 1, 1) := by decide +kernel
theorem dL_randomRoad_279 : decode cL_randomRoad 279 = .ok (.ldc 154, 2) := by decide +kernel
theorem dL_randomRoad_281 : decode cL_randomRoad 281 = .ok (.aload 7, 2) := by decide +kernel
theorem dL_randomRoad_283 : decode cL_randomRoad 283 = .ok (.invokestatic 142, 3) := by decide +kernel
theorem dL_randomRoad_286 : decode cL_randomRoad 286 = .ok (.aload_n 3, 1) := by decide +kernel
theorem dL_randomRoad_287 : decode cL_randomRoad 287 = .ok (.getfield 151, 3) := by decide +kernel
theorem dL_randomRoad_290 : decode cL_randomRoad 290 = .ok (.aload_n 3, 1) := by decide +kernel
theorem dL_randomRoad_291 : decode cL_randomRoad 291 = .ok (.getfield 151, 3) := by decide +kernel
theorem dL_randomRoad_294 : decode cL_randomRoad 294 = .ok (.arraylength, 1) := by decide +kernel
theorem dL_randomRoad_295 : decode cL_randomRoad 295 = .ok (.iconst 1, 1) := by decide +kernel
theorem dL_randomRoad_296 : decode cL_randomRoad 296 = .ok (.isub, 1) := by decide +kernel
theorem dL_randomRoad_297 : decode cL_randomRoad 297 = .ok (.aaload, 1) := by decide +kernel
theorem dL_randomRoad_298 : decode cL_randomRoad 298 = .ok (.iconst 0, 1) := by decide +kernel
theorem dL_randomRoad_299 : decode cL_randomRoad 299 = .ok (.iaload, 1) := by decide +kernel
theorem dL_randomRoad_300 : decode cL_randomRoad 300 = .ok (.ifCond .gt 11, 3) := by decide +kernel
theorem dL_randomRoad_303 : decode cL_randomRoad 303 = .ok (.aload_n 2, 1) := by decide +kernel
theorem dL_randomRoad_304 : decode cL_randomRoad 304 = .ok (.iconst 2, 1) := by decide +kernel
theorem dL_randomRoad_305 : decode cL_randomRoad 305 = .ok (.invokevirtual 128, 3) := by decide +kernel
theorem dL_randomRoad_308 : decode cL_randomRoad 308 = .ok (.ifCond .ne 30, 3) := by decide +kernel
theorem dL_randomRoad_311 : decode cL_randomRoad 311 = .ok (.aload_n 0, 1) := by decide +kernel
theorem dL_randomRoad_312 : decode cL_randomRoad 312 = .ok (.aload_n 1, 1) := by decide +kernel
theorem dL_randomRoad_313 : decode cL_randomRoad 313 = .ok (.ldc 155, 2) := by decide +kernel
theorem dL_randomRoad_315 : decode cL_randomRoad 315 = .ok (.iconst 1, 1) := by decide +kernel
theorem dL_randomRoad_316 : decode cL_randomRoad 316 = .ok (.newarray .int, 2) := by decide +kernel
theorem dL_randomRoad_318 : decode cL_randomRoad 318 = .ok (.dup, 1) := by decide +kernel
theorem dL_randomRoad_319 : decode cL_randomRoad 319 = .ok (.iconst 0, 1) := by decide +kernel
theorem dL_randomRoad_320 : decode cL_randomRoad 320 = .ok (.aload_n 3, 1) := by decide +kernel
theorem dL_randomRoad_321 : decode cL_randomRoad 321 = .ok (.getfield 151, 3) := by decide +kernel
theorem dL_randomRoad_324 : decode cL_randomRoad 324 = .ok (.aload_n 3, 1) := by decide +kernel
theorem dL_randomRoad_325 : decode cL_randomRoad 325 = .ok (.getfield 151, 3) := by decide +kernel
theorem dL_randomRoad_328 : decode cL_randomRoad 328 = .ok (.arraylength, 1) := by decide +kernel
theorem dL_randomRoad_329 : decode cL_randomRoad 329 = .ok (.iconst 1, 1) := by decide +kernel
theorem dL_randomRoad_330 : decode cL_randomRoad 330 = .ok (.isub, 1) := by decide +kernel
theorem dL_randomRoad_331 : decode cL_randomRoad 331 = .ok (.aaload, 1) := by decide +kernel
theorem dL_randomRoad_332 : decode cL_randomRoad 332 = .ok (.iconst 0, 1) := by decide +kernel
theorem dL_randomRoad_333 : decode cL_randomRoad 333 = .ok (.iaload, 1) := by decide +kernel
theorem dL_randomRoad_334 : decode cL_randomRoad 334 = .ok (.iastore, 1) := by decide +kernel
theorem dL_randomRoad_335 : decode cL_randomRoad 335 = .ok (.invokestatic 142, 3) := by decide +kernel
theorem dL_randomRoad_338 : decode cL_randomRoad 338 = .ok (.aload_n 0, 1) := by decide +kernel
theorem dL_randomRoad_339 : decode cL_randomRoad 339 = .ok (.aload_n 1, 1) := by decide +kernel
theorem dL_randomRoad_340 : decode cL_randomRoad 340 = .ok (.ldc 146, 2) := by decide +kernel
theorem dL_randomRoad_342 : decode cL_randomRoad 342 = .ok (.invokestatic 114, 3) := by decide +kernel
theorem dL_randomRoad_345 : decode cL_randomRoad 345 = .ok (.iinc 5 (-1), 3) := by decide +kernel
theorem dL_randomRoad_348 : decode cL_randomRoad 348 = .ok (.goto (-182), 3) := by decide +kernel
theorem dL_randomRoad_351 : decode cL_randomRoad 351 = .ok (.aload_n 3, 1) := by decide +kernel
theorem dL_randomRoad_352 : decode cL_randomRoad 352 = .ok (.getfield 151, 3) := by decide +kernel
theorem dL_randomRoad_355 : decode cL_randomRoad 355 = .ok (.arraylength, 1) := by decide +kernel
theorem dL_randomRoad_356 : decode cL_randomRoad 356 = .ok (.istore 5, 2) := by decide +kernel
theorem dL_randomRoad_358 : decode cL_randomRoad 358 = .ok (.iload 5, 2) := by decide +kernel
theorem dL_randomRoad_360 : decode cL_randomRoad 360 = .ok (.ifCond .ne 7, 3) := by decide +kernel
theorem dL_randomRoad_363 : decode cL_randomRoad 363 = .ok (.iconst 0, 1) := by decide +kernel
theorem dL_randomRoad_364 : decode cL_randomRoad 364 = .ok (.goto 9, 3) := by decide +kernel
theorem dL_randomRoad_367 : decode cL_randomRoad 367 = .ok (.aload_n 2, 1) := by decide +kernel
theorem dL_randomRoad_368 : decode cL_randomRoad 368 = .ok (.bipush 10, 2) := by decide +kernel
theorem dL_randomRoad_370 : decode cL_randomRoad 370 = .ok (.invokevirtual 128, 3) := by decide +kernel
theorem dL_randomRoad_373 : decode cL_randomRoad 373 = .ok (.istore 6, 2) := by decide +kernel
theorem dL_randomRoad_375 : decode cL_randomRoad 375 = .ok (.iload 6, 2) := by decide +kernel
theorem dL_randomRoad_377 : decode cL_randomRoad 377 = .ok (.ifCond .le 153, 3) := by decide +kernel
theorem dL_randomRoad_380 : decode cL_randomRoad 380 = .ok (.aload_n 3, 1) := by decide +kernel
theorem dL_randomRoad_381 : decode cL_randomRoad 381 = .ok (.aload_n 3, 1) := by decide +kernel
theorem dL_randomRoad_382 : decode cL_randomRoad 382 = .ok (.getfield 157, 3) := by decide +kernel
theorem dL_randomRoad_385 : decode cL_randomRoad 385 = .ok (.bipush 8, 2) := by decide +kernel
theorem dL_randomRoad_387 : decode cL_randomRoad 387 = .ok (.newarray .int, 2) := by decide +kernel
theorem dL_randomRoad_389 : decode cL_randomRoad 389 = .ok (.dup, 1) := by decide +kernel
theorem dL_randomRoad_390 : decode cL_randomRoad 390 = .ok (.iconst 0, 1) := by decide +kernel
theorem dL_randomRoad_391 : decode cL_randomRoad 391 = .ok (.aload_n 2, 1) := by decide +kernel
theorem dL_randomRoad_392 : decode cL_randomRoad 392 = .ok (.iload 5, 2) := by decide +kernel
theorem dL_randomRoad_394 : decode cL_randomRoad 394 = .ok (.invokevirtual 128, 3) := by decide +kernel
theorem dL_randomRoad_397 : decode cL_randomRoad 397 = .ok (.iastore, 1) := by decide +kernel
theorem dL_randomRoad_398 : decode cL_randomRoad 398 = .ok (.dup, 1) := by decide +kernel
theorem dL_randomRoad_399 : decode cL_randomRoad 399 = .ok (.iconst 1, 1) := by decide +kernel
theorem dL_randomRoad_400 : decode cL_randomRoad 400 = .ok (.aload_n 2, 1) := by decide +kernel
theorem dL_randomRoad_401 : decode cL_randomRoad 401 = .ok (.aload_n 2, 1) := by decide +kernel
theorem dL_randomRoad_402 : decode cL_randomRoad 402 = .ok (.iconst 4, 1) := by decide +kernel
theorem dL_randomRoad_403 : decode cL_randomRoad 403 = .ok (.invokevirtual 128, 3) := by decide +kernel
theorem dL_randomRoad_406 : decode cL_randomRoad 406 = .ok (.ifCond .ne 8, 3) := by decide +kernel
theorem dL_randomRoad_409 : decode cL_randomRoad 409 = .ok (.bipush 50, 2) := by decide +kernel
theorem dL_randomRoad_411 : decode cL_randomRoad 411 = .ok (.goto 5, 3) := by decide +kernel
theorem dL_randomRoad_414 : decode cL_randomRoad 414 = .ok (.bipush 6, 2) := by decide +kernel
theorem dL_randomRoad_416 : decode cL_randomRoad 416 = .ok (.invokevirtual 128, 3) := by decide +kernel
theorem dL_randomRoad_419 : decode cL_randomRoad 419 = .ok (.iastore, 1) := by decide +kernel
theorem dL_randomRoad_420 : decode cL_randomRoad 420 = .ok (.dup, 1) := by decide +kernel
theorem dL_randomRoad_421 : decode cL_randomRoad 421 = .ok (.iconst 2, 1) := by decide +kernel
theorem dL_randomRoad_422 : decode cL_randomRoad 422 = .ok (.iconst 1, 1) := by decide +kernel
theorem dL_randomRoad_423 : decode cL_randomRoad 423 = .ok (.aload_n 2, 1) := by decide +kernel
theorem dL_randomRoad_424 : decode cL_randomRoad 424 = .ok (.aload_n 2, 1) := by decide +kernel
theorem dL_randomRoad_425 : decode cL_randomRoad 425 = .ok (.iconst 4, 1) := by decide +kernel
theorem dL_randomRoad_426 : decode cL_randomRoad 426 = .ok (.invokevirtual 128, 3) := by decide +kernel
theorem dL_randomRoad_429 : decode cL_randomRoad 429 = .ok (.ifCond .ne 8, 3) := by decide +kernel
theorem dL_randomRoad_432 : decode cL_randomRoad 432 = .ok (.bipush 60, 2) := by decide +kernel
theorem dL_randomRoad_434 : decode cL_randomRoad 434 = .ok (.goto 5, 3) := by decide +kernel
theorem dL_randomRoad_437 : decode cL_randomRoad 437 = .ok (.bipush 20, 2) := by decide +kernel
theorem dL_randomRoad_439 : decode cL_randomRoad 439 = .ok (.invokevirtual 128, 3) := by decide +kernel
theorem dL_randomRoad_442 : decode cL_randomRoad 442 = .ok (.iadd, 1) := by decide +kernel
theorem dL_randomRoad_443 : decode cL_randomRoad 443 = .ok (.iastore, 1) := by decide +kernel
theorem dL_randomRoad_444 : decode cL_randomRoad 444 = .ok (.dup, 1) := by decide +kernel
theorem dL_randomRoad_445 : decode cL_randomRoad 445 = .ok (.iconst 3, 1) := by decide +kernel
theorem dL_randomRoad_446 : decode cL_randomRoad 446 = .ok (.iconst 0, 1) := by decide +kernel
theorem dL_randomRoad_447 : decode cL_randomRoad 447 = .ok (.iastore, 1) := by decide +kernel
theorem dL_randomRoad_448 : decode cL_randomRoad 448 = .ok (.dup, 1) := by decide +kernel
theorem dL_randomRoad_449 : decode cL_randomRoad 449 = .ok (.iconst 4, 1) := by decide +kernel
theorem dL_randomRoad_450 : decode cL_randomRoad 450 = .ok (.iconst 0, 1) := by decide +kernel
theorem dL_randomRoad_451 : decode cL_randomRoad 451 = .ok (.iastore, 1) := by decide +kernel
theorem dL_randomRoad_452 : decode cL_randomRoad 452 = .ok (.dup, 1) := by decide +kernel
theorem dL_randomRoad_453 : decode cL_randomRoad 453 = .ok (.iconst 5, 1) := by decide +kernel
theorem dL_randomRoad_454 : decode cL_randomRoad 454 = .ok (.iconst 0, 1) := by decide +kernel
theorem dL_randomRoad_455 : decode cL_randomRoad 455 = .ok (.iastore, 1) := by decide +kernel
theorem dL_randomRoad_456 : decode cL_randomRoad 456 = .ok (.dup, 1) := by decide +kernel
theorem dL_randomRoad_457 : decode cL_randomRoad 457 = .ok (.bipush 6, 2) := by decide +kernel
theorem dL_randomRoad_459 : decode cL_randomRoad 459 = .ok (.iconst (-1), 1) := by decide +kernel
theorem dL_randomRoad_460 : decode cL_randomRoad 460 = .ok (.iastore, 1) := by decide +kernel
theorem dL_randomRoad_461 : decode cL_randomRoad 461 = .ok (.dup, 1) := by decide +kernel
theorem dL_randomRoad_462 : decode cL_randomRoad 462 = .ok (.bipush 7, 2) := by decide +kernel
theorem dL_randomRoad_464 : decode cL_randomRoad 464 = .ok (.iconst 0, 1) := by decide +kernel
theorem dL_randomRoad_465 : decode cL_randomRoad 465 = .ok (.iastore, 1) := by decide +kernel
theorem dL_randomRoad_466 : decode cL_randomRoad 466 = .ok (.invokestatic 137, 3) := by decide +kernel
theorem dL_randomRoad_469 : decode cL_randomRoad 469 = .ok (.putfield 157, 3) := by decide +kernel
theorem dL_randomRoad_472 : decode cL_randomRoad 472 = .ok (.aload_n 3, 1) := by decide +kernel
theorem dL_randomRoad_473 : decode cL_randomRoad 473 = .ok (.getfield 157, 3) := by decide +kernel
theorem dL_randomRoad_476 : decode cL_randomRoad 476 = .ok (.aload_n 3, 1) := by decide +kernel
theorem dL_randomRoad_477 : decode cL_randomRoad 477 = .ok (.getfield 157, 3) := by decide +kernel
theorem dL_randomRoad_480 : decode cL_randomRoad 480 = .ok (.arraylength, 1) := by decide +kernel
theorem dL_randomRoad_481 : decode cL_randomRoad 481 = .ok (.iconst 1, 1) := by decide +kernel
theorem dL_randomRoad_482 : decode cL_randomRoad 482 = .ok (.isub, 1) := by decide +kernel
theorem dL_randomRoad_483 : decode cL_randomRoad 483 = .ok (.aaload, 1) := by decide +kernel
theorem dL_randomRoad_484 : decode cL_randomRoad 484 = .ok (.astore 7, 2) := by decide +kernel
theorem dL_randomRoad_486 : decode cL_randomRoad 486 = .ok (.aload_n 0, 1) := by decide +kernel
theorem dL_randomRoad_487 : decode cL_randomRoad 487 = .ok (.aload_n 1, 1) := by decide +kernel
theorem dL_randomRoad_488 : decode cL_randomRoad 488 = .ok (.ldc 160, 2) := by decide +kernel
theorem dL_randomRoad_490 : decode cL_randomRoad 490 = .ok (.iconst 3, 1) := by decide +kernel
theorem dL_randomRoad_491 : decode cL_randomRoad 491 = .ok (.newarray .int, 2) := by decide +kernel
theorem dL_randomRoad_493 : decode cL_randomRoad 493 = .ok (.dup, 1) := by decide +kernel
theorem dL_randomRoad_494 : decode cL_randomRoad 494 = .ok (.iconst 0, 1) := by decide +kernel
theorem dL_randomRoad_495 : decode cL_randomRoad 495 = .ok (.aload 7, 2) := by decide +kernel
theorem dL_randomRoad_497 : decode cL_randomRoad 497 = .ok (.iconst 0, 1) := by decide +kernel
theorem dL_randomRoad_498 : decode cL_randomRoad 498 = .ok (.iaload, 1) := by decide +kernel
theorem dL_randomRoad_499 : decode cL_randomRoad 499 = .ok (.iastore, 1) := by decide +kernel
theorem dL_randomRoad_500 : decode cL_randomRoad 500 = .ok (.dup, 1) := by decide +kernel
theorem dL_randomRoad_501 : decode cL_randomRoad 501 = .ok (.iconst 1, 1) := by decide +kernel
theorem dL_randomRoad_502 : decode cL_randomRoad 502 = .ok (.aload 7, 2) := by decide +kernel
theorem dL_randomRoad_504 : decode cL_randomRoad 504 = .ok (.iconst 1, 1) := by decide +kernel
theorem dL_randomRoad_505 : decode cL_randomRoad 505 = .ok (.iaload, 1) := by decide +kernel
theorem dL_randomRoad_506 : decode cL_randomRoad 506 = .ok (.iastore, 1) := by decide +kernel
theorem dL_randomRoad_507 : decode cL_randomRoad 507 = .ok (.dup, 1) := by decide +kernel
theorem dL_randomRoad_508 : decode cL_randomRoad 508 = .ok (.iconst 2, 1) := by decide +kernel
theorem dL_randomRoad_509 : decode cL_randomRoad 509 = .ok (.aload 7, 2) := by decide +kernel
theorem dL_randomRoad_511 : decode cL_randomRoad 511 = .ok (.iconst 2, 1) := by decide +kernel
theorem dL_randomRoad_512 : decode cL_randomRoad 512 = .ok (.iaload, 1) := by decide +kernel
theorem dL_randomRoad_513 : decode cL_randomRoad 513 = .ok (.iastore, 1) := by decide +kernel
theorem dL_randomRoad_514 : decode cL_randomRoad 514 = .ok (.invokestatic 142, 3) := by decide +kernel
theorem dL_randomRoad_517 : decode cL_randomRoad 517 = .ok (.aload_n 0, 1) := by decide +kernel
theorem dL_randomRoad_518 : decode cL_randomRoad 518 = .ok (.aload_n 1, 1) := by decide +kernel
theorem dL_randomRoad_519 : decode cL_randomRoad 519 = .ok (.ldc 146, 2) := by decide +kernel
theorem dL_randomRoad_521 : decode cL_randomRoad 521 = .ok (.invokestatic 114, 3) := by decide +kernel
theorem dL_randomRoad_524 : decode cL_randomRoad 524 = .ok (.iinc 6 (-1), 3) := by decide +kernel
theorem dL_randomRoad_527 : decode cL_randomRoad 527 = .ok (.goto (-152), 3) := by decide +kernel
theorem dL_randomRoad_530 : decode cL_randomRoad 530 = .ok (.iload 5, 2) := by decide +kernel
theorem dL_randomRoad_532 : decode cL_randomRoad 532 = .ok (.ifCond .ne 7, 3) := by decide +kernel
theorem dL_randomRoad_535 : decode cL_randomRoad 535 = .ok (.iconst 0, 1) := by decide +kernel
theorem dL_randomRoad_536 : decode cL_randomRoad 536 = .ok (.goto 9, 3) := by decide +kernel
theorem dL_randomRoad_539 : decode cL_randomRoad 539 = .ok (.aload_n 2, 1) := by decide +kernel
theorem dL_randomRoad_540 : decode cL_randomRoad 540 = .ok (.bipush 6, 2) := by decide +kernel
theorem dL_randomRoad_542 : decode cL_randomRoad 542 = .ok (.invokevirtual 128, 3) := by decide +kernel
theorem dL_randomRoad_545 : decode cL_randomRoad 545 = .ok (.istore 6, 2) := by decide +kernel
theorem dL_randomRoad_547 : decode cL_randomRoad 547 = .ok (.iload 6, 2) := by decide +kernel
theorem dL_randomRoad_549 : decode cL_randomRoad 549 = .ok (.ifCond .le 110, 3) := by decide +kernel
theorem dL_randomRoad_552 : decode cL_randomRoad 552 = .ok (.aload_n 3, 1) := by decide +kernel
theorem dL_randomRoad_553 : decode cL_randomRoad 553 = .ok (.aload_n 3, 1) := by decide +kernel
theorem dL_randomRoad_554 : decode cL_randomRoad 554 = .ok (.getfield 161, 3) := by decide +kernel
theorem dL_randomRoad_557 : decode cL_randomRoad 557 = .ok (.iconst 4, 1) := by decide +kernel
theorem dL_randomRoad_558 : decode cL_randomRoad 558 = .ok (.newarray .int, 2) := by decide +kernel
theorem dL_randomRoad_560 : decode cL_randomRoad 560 = .ok (.dup, 1) := by decide +kernel
theorem dL_randomRoad_561 : decode cL_randomRoad 561 = .ok (.iconst 0, 1) := by decide +kernel
theorem dL_randomRoad_562 : decode cL_randomRoad 562 = .ok (.aload_n 2, 1) := by decide +kernel
theorem dL_randomRoad_563 : decode cL_randomRoad 563 = .ok (.iload 5, 2) := by decide +kernel
theorem dL_randomRoad_565 : decode cL_randomRoad 565 = .ok (.invokevirtual 128, 3) := by decide +kernel
theorem dL_randomRoad_568 : decode cL_randomRoad 568 = .ok (.iastore, 1) := by decide +kernel
theorem dL_randomRoad_569 : decode cL_randomRoad 569 = .ok (.dup, 1) := by decide +kernel
theorem dL_randomRoad_570 : decode cL_randomRoad 570 = .ok (.iconst 1, 1) := by decide +kernel
theorem dL_randomRoad_571 : decode cL_randomRoad 571 = .ok (.iconst 1, 1) := by decide +kernel
theorem dL_randomRoad_572 : decode cL_randomRoad 572 = .ok (.aload_n 2, 1) := by decide +kernel
theorem dL_randomRoad_573 : decode cL_randomRoad 573 = .ok (.bipush 30, 2) := by decide +kernel
theorem dL_randomRoad_575 : decode cL_randomRoad 575 = .ok (.invokevirtual 128, 3) := by decide +kernel
theorem dL_randomRoad_578 : decode cL_randomRoad 578 = .ok (.iadd, 1) := by decide +kernel
theorem dL_randomRoad_579 : decode cL_randomRoad 579 = .ok (.iastore, 1) := by decide +kernel
theorem dL_randomRoad_580 : decode cL_randomRoad 580 = .ok (.dup, 1) := by decide +kernel
theorem dL_randomRoad_581 : decode cL_randomRoad 581 = .ok (.iconst 2, 1) := by decide +kernel
theorem dL_randomRoad_582 : decode cL_randomRoad 582 = .ok (.iconst 1, 1) := by decide +kernel
theorem dL_randomRoad_583 : decode cL_randomRoad 583 = .ok (.aload_n 2, 1) := by decide +kernel
theorem dL_randomRoad_584 : decode cL_randomRoad 584 = .ok (.bipush 20, 2) := by decide +kernel
theorem dL_randomRoad_586 : decode cL_randomRoad 586 = .ok (.invokevirtual 128, 3) := by decide +kernel
theorem dL_randomRoad_589 : decode cL_randomRoad 589 = .ok (.iadd, 1) := by decide +kernel
theorem dL_randomRoad_590 : decode cL_randomRoad 590 = .ok (.iastore, 1) := by decide +kernel
theorem dL_randomRoad_591 : decode cL_randomRoad 591 = .ok (.dup, 1) := by decide +kernel
theorem dL_randomRoad_592 : decode cL_randomRoad 592 = .ok (.iconst 3, 1) := by decide +kernel
theorem dL_randomRoad_593 : decode cL_randomRoad 593 = .ok (.iconst 0, 1) := by decide +kernel
theorem dL_randomRoad_594 : decode cL_randomRoad 594 = .ok (.iastore, 1) := by decide +kernel
theorem dL_randomRoad_595 : decode cL_randomRoad 595 = .ok (.invokestatic 137, 3) := by decide +kernel
theorem dL_randomRoad_598 : decode cL_randomRoad 598 = .ok (.putfield 161, 3) := by decide +kernel
theorem dL_randomRoad_601 : decode cL_randomRoad 601 = .ok (.aload_n 3, 1) := by decide +kernel
theorem dL_randomRoad_602 : decode cL_randomRoad 602 = .ok (.getfield 161, 3) := by decide +kernel
theorem dL_randomRoad_605 : decode cL_randomRoad 605 = .ok (.aload_n 3, 1) := by decide +kernel
theorem dL_randomRoad_606 : decode cL_randomRoad 606 = .ok (.getfield 161, 3) := by decide +kernel
theorem dL_randomRoad_609 : decode cL_randomRoad 609 = .ok (.arraylength, 1) := by decide +kernel
theorem dL_randomRoad_610 : decode cL_randomRoad 610 = .ok (.iconst 1, 1) := by decide +kernel
theorem dL_randomRoad_611 : decode cL_randomRoad 611 = .ok (.isub, 1) := by decide +kernel
theorem dL_randomRoad_612 : decode cL_randomRoad 612 = .ok (.aaload, 1) := by decide +kernel
theorem dL_randomRoad_613 : decode cL_randomRoad 613 = .ok (.astore 7, 2) := by decide +kernel
theorem dL_randomRoad_615 : decode cL_randomRoad 615 = .ok (.aload_n 0, 1) := by decide +kernel
theorem dL_randomRoad_616 : decode cL_randomRoad 616 = .ok (.aload_n 1, 1) := by decide +kernel
theorem dL_randomRoad_617 : decode cL_randomRoad 617 = .ok (.ldc 164, 2) := by decide +kernel
theorem dL_randomRoad_619 : decode cL_randomRoad 619 = .ok (.iconst 3, 1) := by decide +kernel
theorem dL_randomRoad_620 : decode cL_randomRoad 620 = .ok (.newarray .int, 2) := by decide +kernel
theorem dL_randomRoad_622 : decode cL_randomRoad 622 = .ok (.dup, 1) := by decide +kernel
theorem dL_randomRoad_623 : decode cL_randomRoad 623 = .ok (.iconst 0, 1) := by decide +kernel
theorem dL_randomRoad_624 : decode cL_randomRoad 624 = .ok (.aload 7, 2) := by decide +kernel
theorem dL_randomRoad_626 : decode cL_randomRoad 626 = .ok (.iconst 0, 1) := by decide +kernel
theorem dL_randomRoad_627 : decode cL_randomRoad 627 = .ok (.iaload, 1) := by decide +kernel
theorem dL_randomRoad_628 : decode cL_randomRoad 628 = .ok (.iastore, 1) := by decide +kernel
theorem dL_randomRoad_629 : decode cL_randomRoad 629 = .ok (.dup, 1) := by decide +kernel
theorem dL_randomRoad_630 : decode cL_randomRoad 630 = .ok (.iconst 1, 1) := by decide +kernel
theorem dL_randomRoad_631 : decode cL_randomRoad 631 = .ok (.aload 7, 2) := by decide +kernel
theorem dL_randomRoad_633 : decode cL_randomRoad 633 = .ok (.iconst 1, 1) := by decide +kernel
theorem dL_randomRoad_634 : decode cL_randomRoad 634 = .ok (.iaload, 1) := by decide +kernel
theorem dL_randomRoad_635 : decode cL_randomRoad 635 = .ok (.iastore, 1) := by decide +kernel
theorem dL_randomRoad_636 : decode cL_randomRoad 636 = .ok (.dup, 1) := by decide +kernel
theorem dL_randomRoad_637 : decode cL_randomRoad 637 = .ok (.iconst 2, 1) := by decide +kernel
theorem dL_randomRoad_638 : decode cL_randomRoad 638 = .ok (.aload 7, 2) := by decide +kernel
theorem dL_randomRoad_640 : decode cL_randomRoad 640 = .ok (.iconst 2, 1) := by decide +kernel
theorem dL_randomRoad_641 : decode cL_randomRoad 641 = .ok (.iaload, 1) := by decide +kernel
theorem dL_randomRoad_642 : decode cL_randomRoad 642 = .ok (.iastore, 1) := by decide +kernel
theorem dL_randomRoad_643 : decode cL_randomRoad 643 = .ok (.invokestatic 142, 3) := by decide +kernel
theorem dL_randomRoad_646 : decode cL_randomRoad 646 = .ok (.aload_n 0, 1) := by decide +kernel
theorem dL_randomRoad_647 : decode cL_randomRoad 647 = .ok (.aload_n 1, 1) := by decide +kernel
theorem dL_randomRoad_648 : decode cL_randomRoad 648 = .ok (.ldc 146, 2) := by decide +kernel
theorem dL_randomRoad_650 : decode cL_randomRoad 650 = .ok (.invokestatic 114, 3) := by decide +kernel
theorem dL_randomRoad_653 : decode cL_randomRoad 653 = .ok (.iinc 6 (-1), 3) := by decide +kernel
theorem dL_randomRoad_656 : decode cL_randomRoad 656 = .ok (.goto (-109), 3) := by decide +kernel
theorem dL_randomRoad_659 : decode cL_randomRoad 659 = .ok (.aload_n 2, 1) := by decide +kernel
theorem dL_randomRoad_660 : decode cL_randomRoad 660 = .ok (.iconst 2, 1) := by decide +kernel
theorem dL_randomRoad_661 : decode cL_randomRoad 661 = .ok (.invokevirtual 128, 3) := by decide +kernel
theorem dL_randomRoad_664 : decode cL_randomRoad 664 = .ok (.ifCond .ne 37, 3) := by decide +kernel
theorem dL_randomRoad_667 : decode cL_randomRoad 667 = .ok (.aload_n 3, 1) := by decide +kernel
theorem dL_randomRoad_668 : decode cL_randomRoad 668 = .ok (.aload_n 2, 1) := by decide +kernel
theorem dL_randomRoad_669 : decode cL_randomRoad 669 = .ok (.bipush 6, 2) := by decide +kernel
theorem dL_randomRoad_671 : decode cL_randomRoad 671 = .ok (.invokevirtual 128, 3) := by decide +kernel
theorem dL_randomRoad_674 : decode cL_randomRoad 674 = .ok (.putfield 165, 3) := by decide +kernel
theorem dL_randomRoad_677 : decode cL_randomRoad 677 = .ok (.aload_n 0, 1) := by decide +kernel
theorem dL_randomRoad_678 : decode cL_randomRoad 678 = .ok (.aload_n 1, 1) := by decide +kernel
theorem dL_randomRoad_679 : decode cL_randomRoad 679 = .ok (.ldc 169, 2) := by decide +kernel
theorem dL_randomRoad_681 : decode cL_randomRoad 681 = .ok (.iconst 1, 1) := by decide +kernel
theorem dL_randomRoad_682 : decode cL_randomRoad 682 = .ok (.newarray .int, 2) := by decide +kernel
theorem dL_randomRoad_684 : decode cL_randomRoad 684 = .ok (.dup, 1) := by decide +kernel
theorem dL_randomRoad_685 : decode cL_randomRoad 685 = .ok (.iconst 0, 1) := by decide +kernel
theorem dL_randomRoad_686 : decode cL_randomRoad 686 = .ok (.aload_n 3, 1) := by decide +kernel
theorem dL_randomRoad_687 : decode cL_randomRoad 687 = .ok (.getfield 165, 3) := by decide +kernel
theorem dL_randomRoad_690 : decode cL_randomRoad 690 = .ok (.iastore, 1) := by decide +kernel
theorem dL_randomRoad_691 : decode cL_randomRoad 691 = .ok (.invokestatic 142, 3) := by decide +kernel
theorem dL_randomRoad_694 : decode cL_randomRoad 694 = .ok (.aload_n 0, 1) := by decide +kernel
theorem dL_randomRoad_695 : decode cL_randomRoad 695 = .ok (.aload_n 1, 1) := by decide +kernel
theorem dL_randomRoad_696 : decode cL_randomRoad 696 = .ok (.ldc 146, 2) := by decide +kernel
theorem dL_randomRoad_698 : decode cL_randomRoad 698 = .ok (.invokestatic 114, 3) := by decide +kernel
theorem dL_randomRoad_701 : decode cL_randomRoad 701 = .ok (.aload_n 2, 1) := by decide +kernel
theorem dL_randomRoad_702 : decode cL_randomRoad 702 = .ok (.iconst 2, 1) := by decide +kernel
theorem dL_randomRoad_703 : decode cL_randomRoad 703 = .ok (.invokevirtual 128, 3) := by decide +kernel
theorem dL_randomRoad_706 : decode cL_randomRoad 706 = .ok (.ifCond .ne 56, 3) := by decide +kernel
theorem dL_randomRoad_709 : decode cL_randomRoad 709 = .ok (.aload_n 3, 1) := by decide +kernel
theorem dL_randomRoad_710 : decode cL_randomRoad 710 = .ok (.aload_n 2, 1) := by decide +kernel
theorem dL_randomRoad_711 : decode cL_randomRoad 711 = .ok (.bipush 101, 2) := by decide +kernel
theorem dL_randomRoad_713 : decode cL_randomRoad 713 = .ok (.invokevirtual 128, 3) := by decide +kernel
theorem dL_randomRoad_716 : decode cL_randomRoad 716 = .ok (.putfield 170, 3) := by decide +kernel
theorem dL_randomRoad_719 : decode cL_randomRoad 719 = .ok (.aload_n 3, 1) := by decide +kernel
theorem dL_randomRoad_720 : decode cL_randomRoad 720 = .ok (.iconst 1, 1) := by decide +kernel
theorem dL_randomRoad_721 : decode cL_randomRoad 721 = .ok (.aload_n 2, 1) := by decide +kernel
theorem dL_randomRoad_722 : decode cL_randomRoad 722 = .ok (.bipush 12, 2) := by decide +kernel
theorem dL_randomRoad_724 : decode cL_randomRoad 724 = .ok (.invokevirtual 128, 3) := by decide +kernel
theorem dL_randomRoad_727 : decode cL_randomRoad 727 = .ok (.iadd, 1) := by decide +kernel
theorem dL_randomRoad_728 : decode cL_randomRoad 728 = .ok (.putfield 173, 3) := by decide +kernel
theorem dL_randomRoad_731 : decode cL_randomRoad 731 = .ok (.aload_n 0, 1) := by decide +kernel
theorem dL_randomRoad_732 : decode cL_randomRoad 732 = .ok (.aload_n 1, 1) := by decide +kernel
theorem dL_randomRoad_733 : decode cL_randomRoad 733 = .ok (.ldc 176, 2) := by decide +kernel
theorem dL_randomRoad_735 : decode cL_randomRoad 735 = .ok (.iconst 2, 1) := by decide +kernel
theorem dL_randomRoad_736 : decode cL_randomRoad 736 = .ok (.newarray .int, 2) := by decide +kernel
theorem dL_randomRoad_738 : decode cL_randomRoad 738 = .ok (.dup, 1) := by decide +kernel
theorem dL_randomRoad_739 : decode cL_randomRoad 739 = .ok (.iconst 0, 1) := by decide +kernel
theorem dL_randomRoad_740 : decode cL_randomRoad 740 = .ok (.aload_n 3, 1) := by decide +kernel
theorem dL_randomRoad_741 : decode cL_randomRoad 741 = .ok (.getfield 170, 3) := by decide +kernel
theorem dL_randomRoad_744 : decode cL_randomRoad 744 = .ok (.iastore, 1) := by decide +kernel
theorem dL_randomRoad_745 : decode cL_randomRoad 745 = .ok (.dup, 1) := by decide +kernel
theorem dL_randomRoad_746 : decode cL_randomRoad 746 = .ok (.iconst 1, 1) := by decide +kernel
theorem dL_randomRoad_747 : decode cL_randomRoad 747 = .ok (.aload_n 3, 1) := by decide +kernel
theorem dL_randomRoad_748 : decode cL_randomRoad 748 = .ok (.getfield 173, 3) := by decide +kernel
theorem dL_randomRoad_751 : decode cL_randomRoad 751 = .ok (.iastore, 1) := by decide +kernel
theorem dL_randomRoad_752 : decode cL_randomRoad 752 = .ok (.invokestatic 142, 3) := by decide +kernel
theorem dL_randomRoad_755 : decode cL_randomRoad 755 = .ok (.aload_n 0, 1) := by decide +kernel
theorem dL_randomRoad_756 : decode cL_randomRoad 756 = .ok (.aload_n 1, 1) := by decide +kernel
theorem dL_randomRoad_757 : decode cL_randomRoad 757 = .ok (.ldc 146, 2) := by decide +kernel
theorem dL_randomRoad_759 : decode cL_randomRoad 759 = .ok (.invokestatic 114, 3) := by decide +kernel
theorem dL_randomRoad_762 : decode cL_randomRoad 762 = .ok (.aload_n 2, 1) := by decide +kernel
theorem dL_randomRoad_763 : decode cL_randomRoad 763 = .ok (.iconst 2, 1) := by decide +kernel
theorem dL_randomRoad_764 : decode cL_randomRoad 764 = .ok (.invokevirtual 128, 3) := by decide +kernel
theorem dL_randomRoad_767 : decode cL_randomRoad 767 = .ok (.ifCond .ne 43, 3) := by decide +kernel
theorem dL_randomRoad_770 : decode cL_randomRoad 770 = .ok (.aload_n 3, 1) := by decide +kernel
theorem dL_randomRoad_771 : decode cL_randomRoad 771 = .ok (.aload_n 2, 1) := by decide +kernel
theorem dL_randomRoad_772 : decode cL_randomRoad 772 = .ok (.aload_n 2, 1) := by decide +kernel
theorem dL_randomRoad_773 : decode cL_randomRoad 773 = .ok (.iconst 3, 1) := by decide +kernel
theorem dL_randomRoad_774 : decode cL_randomRoad 774 = .ok (.invokevirtual 128, 3) := by decide +kernel
theorem dL_randomRoad_777 : decode cL_randomRoad 777 = .ok (.invokestatic 177, 3) := by decide +kernel
theorem dL_randomRoad_780 : decode cL_randomRoad 780 = .ok (.putfield 183, 3) := by decide +kernel
theorem dL_randomRoad_783 : decode cL_randomRoad 783 = .ok (.aload_n 0, 1) := by decide +kernel
theorem dL_randomRoad_784 : decode cL_randomRoad 784 = .ok (.aload_n 1, 1) := by decide +kernel
theorem dL_randomRoad_785 : decode cL_randomRoad 785 = .ok (.ldc 187, 2) := by decide +kernel
theorem dL_randomRoad_787 : decode cL_randomRoad 787 = .ok (.invokestatic 114, 3) := by decide +kernel
theorem dL_randomRoad_790 : decode cL_randomRoad 790 = .ok (.aload_n 0, 1) := by decide +kernel
theorem dL_randomRoad_791 : decode cL_randomRoad 791 = .ok (.aload_n 1, 1) := by decide +kernel
theorem dL_randomRoad_792 : decode cL_randomRoad 792 = .ok (.aload_n 3, 1) := by decide +kernel
theorem dL_randomRoad_793 : decode cL_randomRoad 793 = .ok (.getfield 183, 3) := by decide +kernel
theorem dL_randomRoad_796 : decode cL_randomRoad 796 = .ok (.iconst 0, 1) := by decide +kernel
theorem dL_randomRoad_797 : decode cL_randomRoad 797 = .ok (.invokevirtual 189, 3) := by decide +kernel
theorem dL_randomRoad_800 : decode cL_randomRoad 800 = .ok (.invokestatic 114, 3) := by decide +kernel
theorem dL_randomRoad_803 : decode cL_randomRoad 803 = .ok (.aload_n 0, 1) := by decide +kernel
theorem dL_randomRoad_804 : decode cL_randomRoad 804 = .ok (.aload_n 1, 1) := by decide +kernel
theorem dL_randomRoad_805 : decode cL_randomRoad 805 = .ok (.ldc 193, 2) := by decide +kernel
theorem dL_randomRoad_807 : decode cL_randomRoad 807 = .ok (.invokestatic 114, 3) := by decide +kernel
theorem dL_randomRoad_810 : decode cL_randomRoad 810 = .ok (.iconst 0, 1) := by decide +kernel
theorem dL_randomRoad_811 : decode cL_randomRoad 811 = .ok (.istore 6, 2) := by decide +kernel
theorem dL_randomRoad_813 : decode cL_randomRoad 813 = .ok (.iload 6, 2) := by decide +kernel
theorem dL_randomRoad_815 : decode cL_randomRoad 815 = .ok (.iload 4, 2) := by decide +kernel
theorem dL_randomRoad_817 : decode cL_randomRoad 817 = .ok (.if_icmp .ge 44, 3) := by decide +kernel
theorem dL_randomRoad_820 : decode cL_randomRoad 820 = .ok (.iconst 0, 1) := by decide +kernel
theorem dL_randomRoad_821 : decode cL_randomRoad 821 = .ok (.istore 7, 2) := by decide +kernel
theorem dL_randomRoad_823 : decode cL_randomRoad 823 = .ok (.iload 7, 2) := by decide +kernel
theorem dL_randomRoad_825 : decode cL_randomRoad 825 = .ok (.iload 5, 2) := by decide +kernel
theorem dL_randomRoad_827 : decode cL_randomRoad 827 = .ok (.if_icmp .ge 28, 3) := by decide +kernel
theorem dL_randomRoad_830 : decode cL_randomRoad 830 = .ok (.aload_n 3, 1) := by decide +kernel
theorem dL_randomRoad_831 : decode cL_randomRoad 831 = .ok (.getfield 195, 3) := by decide +kernel
theorem dL_randomRoad_834 : decode cL_randomRoad 834 = .ok (.iload 6, 2) := by decide +kernel
theorem dL_randomRoad_836 : decode cL_randomRoad 836 = .ok (.aaload, 1) := by decide +kernel
theorem dL_randomRoad_837 : decode cL_randomRoad 837 = .ok (.iload 7, 2) := by decide +kernel
theorem dL_randomRoad_839 : decode cL_randomRoad 839 = .ok (.aload_n 3, 1) := by decide +kernel
theorem dL_randomRoad_840 : decode cL_randomRoad 840 = .ok (.getfield 133, 3) := by decide +kernel
theorem dL_randomRoad_843 : decode cL_randomRoad 843 = .ok (.iload 6, 2) := by decide +kernel
theorem dL_randomRoad_845 : decode cL_randomRoad 845 = .ok (.aaload, 1) := by decide +kernel
theorem dL_randomRoad_846 : decode cL_randomRoad 846 = .ok (.iconst 1, 1) := by decide +kernel
theorem dL_randomRoad_847 : decode cL_randomRoad 847 = .ok (.iaload, 1) := by decide +kernel
theorem dL_randomRoad_848 : decode cL_randomRoad 848 = .ok (.iastore, 1) := by decide +kernel
theorem dL_randomRoad_849 : decode cL_randomRoad 849 = .ok (.iinc 7 1, 3) := by decide +kernel
theorem dL_randomRoad_852 : decode cL_randomRoad 852 = .ok (.goto (-29), 3) := by decide +kernel
theorem dL_randomRoad_855 : decode cL_randomRoad 855 = .ok (.iinc 6 1, 3) := by decide +kernel
theorem dL_randomRoad_858 : decode cL_randomRoad 858 = .ok (.goto (-45), 3) := by decide +kernel
theorem dL_randomRoad_861 : decode cL_randomRoad 861 = .ok (.aload_n 0, 1) := by decide +kernel
theorem dL_randomRoad_862 : decode cL_randomRoad 862 = .ok (.aload_n 1, 1) := by decide +kernel
theorem dL_randomRoad_863 : decode cL_randomRoad 863 = .ok (.invokestatic 197, 3) := by decide +kernel
theorem dL_randomRoad_866 : decode cL_randomRoad 866 = .ok (.aload_n 3, 1) := by decide +kernel
theorem dL_randomRoad_867 : decode cL_randomRoad 867 = .ok (.getfield 157, 3) := by decide +kernel
theorem dL_randomRoad_870 : decode cL_randomRoad 870 = .ok (.arraylength, 1) := by decide +kernel
theorem dL_randomRoad_871 : decode cL_randomRoad 871 = .ok (.if_icmp .ne 7, 3) := by decide +kernel
theorem dL_randomRoad_874 : decode cL_randomRoad 874 = .ok (.aload_n 3, 1) := by decide +kernel
theorem dL_randomRoad_875 : decode cL_randomRoad 875 = .ok (.goto 4, 3) := by decide +kernel
theorem dL_randomRoad_878 : decode cL_randomRoad 878 = .ok (.aconst_null, 1) := by decide +kernel
theorem dL_randomRoad_879 : decode cL_randomRoad 879 = .ok (.areturn, 1) := by decide +kernel
theorem dL_agrees_0 : decode cL_agrees 0 = .ok (.aload_n 0, 1) := by decide +kernel
theorem dL_agrees_1 : decode cL_agrees 1 = .ok (.invokevirtual 201, 3) := by decide +kernel
theorem dL_agrees_4 : decode cL_agrees 4 = .ok (.aload_n 1, 1) := by decide +kernel
theorem dL_agrees_5 : decode cL_agrees 5 = .ok (.invokevirtual 205, 3) := by decide +kernel
theorem dL_agrees_8 : decode cL_agrees 8 = .ok (.lcmp, 1) := by decide +kernel
theorem dL_agrees_9 : decode cL_agrees 9 = .ok (.ifCond .ne 18, 3) := by decide +kernel
theorem dL_agrees_12 : decode cL_agrees 12 = .ok (.aload_n 0, 1) := by decide +kernel
theorem dL_agrees_13 : decode cL_agrees 13 = .ok (.bipush 10, 2) := by decide +kernel
theorem dL_agrees_15 : decode cL_agrees 15 = .ok (.invokestatic 206, 3) := by decide +kernel
theorem dL_agrees_18 : decode cL_agrees 18 = .ok (.ldc 42, 2) := by decide +kernel
theorem dL_agrees_20 : decode cL_agrees 20 = .ok (.if_icmp .ne 7, 3) := by decide +kernel
theorem dL_agrees_23 : decode cL_agrees 23 = .ok (.iconst 1, 1) := by decide +kernel
theorem dL_agrees_24 : decode cL_agrees 24 = .ok (.goto 4, 3) := by decide +kernel
theorem dL_agrees_27 : decode cL_agrees 27 = .ok (.iconst 0, 1) := by decide +kernel
theorem dL_agrees_28 : decode cL_agrees 28 = .ok (.istore_n 2, 1) := by decide +kernel
theorem dL_agrees_29 : decode cL_agrees 29 = .ok (.iconst 0, 1) := by decide +kernel
theorem dL_agrees_30 : decode cL_agrees 30 = .ok (.istore_n 3, 1) := by decide +kernel
theorem dL_agrees_31 : decode cL_agrees 31 = .ok (.iload_n 3, 1) := by decide +kernel
theorem dL_agrees_32 : decode cL_agrees 32 = .ok (.bipush 10, 2) := by decide +kernel
theorem dL_agrees_34 : decode cL_agrees 34 = .ok (.if_icmp .ge 32, 3) := by decide +kernel
theorem dL_agrees_37 : decode cL_agrees 37 = .ok (.iload_n 2, 1) := by decide +kernel
theorem dL_agrees_38 : decode cL_agrees 38 = .ok (.ifCond .eq 28, 3) := by decide +kernel
theorem dL_agrees_41 : decode cL_agrees 41 = .ok (.aload_n 0, 1) := by decide +kernel
theorem dL_agrees_42 : decode cL_agrees 42 = .ok (.iload_n 3, 1) := by decide +kernel
theorem dL_agrees_43 : decode cL_agrees 43 = .ok (.invokestatic 206, 3) := by decide +kernel
theorem dL_agrees_46 : decode cL_agrees 46 = .ok (.aload_n 1, 1) := by decide +kernel
theorem dL_agrees_47 : decode cL_agrees 47 = .ok (.iload_n 3, 1) := by decide +kernel
theorem dL_agrees_48 : decode cL_agrees 48 = .ok (.invokevirtual 208, 3) := by decide +kernel
theorem dL_agrees_51 : decode cL_agrees 51 = .ok (.if_icmp .ne 7, 3) := by decide +kernel
theorem dL_agrees_54 : decode cL_agrees 54 = .ok (.iconst 1, 1) := by decide +kernel
theorem dL_agrees_55 : decode cL_agrees 55 = .ok (.goto 4, 3) := by decide +kernel
theorem dL_agrees_58 : decode cL_agrees 58 = .ok (.iconst 0, 1) := by decide +kernel
theorem dL_agrees_59 : decode cL_agrees 59 = .ok (.istore_n 2, 1) := by decide +kernel
theorem dL_agrees_60 : decode cL_agrees 60 = .ok (.iinc 3 1, 3) := by decide +kernel
theorem dL_agrees_63 : decode cL_agrees 63 = .ok (.goto (-32), 3) := by decide +kernel
theorem dL_agrees_66 : decode cL_agrees 66 = .ok (.iconst 0, 1) := by decide +kernel
theorem dL_agrees_67 : decode cL_agrees 67 = .ok (.istore_n 3, 1) := by decide +kernel
theorem dL_agrees_68 : decode cL_agrees 68 = .ok (.iload_n 3, 1) := by decide +kernel
theorem dL_agrees_69 : decode cL_agrees 69 = .ok (.aload_n 1, 1) := by decide +kernel
theorem dL_agrees_70 : decode cL_agrees 70 = .ok (.getfield 151, 3) := by decide +kernel
theorem dL_agrees_73 : decode cL_agrees 73 = .ok (.arraylength, 1) := by decide +kernel
theorem dL_agrees_74 : decode cL_agrees 74 = .ok (.if_icmp .ge 56, 3) := by decide +kernel
theorem dL_agrees_77 : decode cL_agrees 77 = .ok (.iload_n 2, 1) := by decide +kernel
theorem dL_agrees_78 : decode cL_agrees 78 = .ok (.ifCond .eq 52, 3) := by decide +kernel
theorem dL_agrees_81 : decode cL_agrees 81 = .ok (.iconst 0, 1) := by decide +kernel
theorem dL_agrees_82 : decode cL_agrees 82 = .ok (.istore 4, 2) := by decide +kernel
theorem dL_agrees_84 : decode cL_agrees 84 = .ok (.iload 4, 2) := by decide +kernel
theorem dL_agrees_86 : decode cL_agrees 86 = .ok (.bipush 6, 2) := by decide +kernel
theorem dL_agrees_88 : decode cL_agrees 88 = .ok (.if_icmp .ge 36, 3) := by decide +kernel
theorem dL_agrees_91 : decode cL_agrees 91 = .ok (.iload_n 2, 1) := by decide +kernel
theorem dL_agrees_92 : decode cL_agrees 92 = .ok (.ifCond .eq 32, 3) := by decide +kernel
theorem dL_agrees_95 : decode cL_agrees 95 = .ok (.aload_n 0, 1) := by decide +kernel
theorem dL_agrees_96 : decode cL_agrees 96 = .ok (.iload_n 3, 1) := by decide +kernel
theorem dL_agrees_97 : decode cL_agrees 97 = .ok (.iload 4, 2) := by decide +kernel
theorem dL_agrees_99 : decode cL_agrees 99 = .ok (.invokestatic 211, 3) := by decide +kernel
theorem dL_agrees_102 : decode cL_agrees 102 = .ok (.aload_n 1, 1) := by decide +kernel
theorem dL_agrees_103 : decode cL_agrees 103 = .ok (.iload_n 3, 1) := by decide +kernel
theorem dL_agrees_104 : decode cL_agrees 104 = .ok (.iload 4, 2) := by decide +kernel
theorem dL_agrees_106 : decode cL_agrees 106 = .ok (.invokevirtual 214, 3) := by decide +kernel
theorem dL_agrees_109 : decode cL_agrees 109 = .ok (.if_icmp .ne 7, 3) := by decide +kernel
theorem dL_agrees_112 : decode cL_agrees 112 = .ok (.iconst 1, 1) := by decide +kernel
theorem dL_agrees_113 : decode cL_agrees 113 = .ok (.goto 4, 3) := by decide +kernel
theorem dL_agrees_116 : decode cL_agrees 116 = .ok (.iconst 0, 1) := by decide +kernel
theorem dL_agrees_117 : decode cL_agrees 117 = .ok (.istore_n 2, 1) := by decide +kernel
theorem dL_agrees_118 : decode cL_agrees 118 = .ok (.iinc 4 1, 3) := by decide +kernel
theorem dL_agrees_121 : decode cL_agrees 121 = .ok (.goto (-37), 3) := by decide +kernel
theorem dL_agrees_124 : decode cL_agrees 124 = .ok (.iinc 3 1, 3) := by decide +kernel
theorem dL_agrees_127 : decode cL_agrees 127 = .ok (.goto (-59), 3) := by decide +kernel
theorem dL_agrees_130 : decode cL_agrees 130 = .ok (.iconst 0, 1) := by decide +kernel
theorem dL_agrees_131 : decode cL_agrees 131 = .ok (.istore_n 3, 1) := by decide +kernel
theorem dL_agrees_132 : decode cL_agrees 132 = .ok (.iload_n 3, 1) := by decide +kernel
theorem dL_agrees_133 : decode cL_agrees 133 = .ok (.aload_n 1, 1) := by decide +kernel
theorem dL_agrees_134 : decode cL_agrees 134 = .ok (.getfield 157, 3) := by decide +kernel
theorem dL_agrees_137 : decode cL_agrees 137 = .ok (.arraylength, 1) := by decide +kernel
theorem dL_agrees_138 : decode cL_agrees 138 = .ok (.if_icmp .ge 56, 3) := by decide +kernel
theorem dL_agrees_141 : decode cL_agrees 141 = .ok (.iload_n 2, 1) := by decide +kernel
theorem dL_agrees_142 : decode cL_agrees 142 = .ok (.ifCond .eq 52, 3) := by decide +kernel
theorem dL_agrees_145 : decode cL_agrees 145 = .ok (.iconst 0, 1) := by decide +kernel
theorem dL_agrees_146 : decode cL_agrees 146 = .ok (.istore 4, 2) := by decide +kernel
theorem dL_agrees_148 : decode cL_agrees 148 = .ok (.iload 4, 2) := by decide +kernel
theorem dL_agrees_150 : decode cL_agrees 150 = .ok (.bipush 7, 2) := by decide +kernel
theorem dL_agrees_152 : decode cL_agrees 152 = .ok (.if_icmp .ge 36, 3) := by decide +kernel
theorem dL_agrees_155 : decode cL_agrees 155 = .ok (.iload_n 2, 1) := by decide +kernel
theorem dL_agrees_156 : decode cL_agrees 156 = .ok (.ifCond .eq 32, 3) := by decide +kernel
theorem dL_agrees_159 : decode cL_agrees 159 = .ok (.aload_n 0, 1) := by decide +kernel
theorem dL_agrees_160 : decode cL_agrees 160 = .ok (.iload_n 3, 1) := by decide +kernel
theorem dL_agrees_161 : decode cL_agrees 161 = .ok (.iload 4, 2) := by decide +kernel
theorem dL_agrees_163 : decode cL_agrees 163 = .ok (.invokestatic 215, 3) := by decide +kernel
theorem dL_agrees_166 : decode cL_agrees 166 = .ok (.aload_n 1, 1) := by decide +kernel
theorem dL_agrees_167 : decode cL_agrees 167 = .ok (.iload_n 3, 1) := by decide +kernel
theorem dL_agrees_168 : decode cL_agrees 168 = .ok (.iload 4, 2) := by decide +kernel
theorem dL_agrees_170 : decode cL_agrees 170 = .ok (.invokevirtual 217, 3) := by decide +kernel
theorem dL_agrees_173 : decode cL_agrees 173 = .ok (.if_icmp .ne 7, 3) := by decide +kernel
theorem dL_agrees_176 : decode cL_agrees 176 = .ok (.iconst 1, 1) := by decide +kernel
theorem dL_agrees_177 : decode cL_agrees 177 = .ok (.goto 4, 3) := by decide +kernel
theorem dL_agrees_180 : decode cL_agrees 180 = .ok (.iconst 0, 1) := by decide +kernel
theorem dL_agrees_181 : decode cL_agrees 181 = .ok (.istore_n 2, 1) := by decide +kernel
theorem dL_agrees_182 : decode cL_agrees 182 = .ok (.iinc 4 1, 3) := by decide +kernel
theorem dL_agrees_185 : decode cL_agrees 185 = .ok (.goto (-37), 3) := by decide +kernel
theorem dL_agrees_188 : decode cL_agrees 188 = .ok (.iinc 3 1, 3) := by decide +kernel
theorem dL_agrees_191 : decode cL_agrees 191 = .ok (.goto (-59), 3) := by decide +kernel
theorem dL_agrees_194 : decode cL_agrees 194 = .ok (.iconst 0, 1) := by decide +kernel
theorem dL_agrees_195 : decode cL_agrees 195 = .ok (.istore_n 3, 1) := by decide +kernel
theorem dL_agrees_196 : decode cL_agrees 196 = .ok (.iload_n 3, 1) := by decide +kernel
theorem dL_agrees_197 : decode cL_agrees 197 = .ok (.aload_n 1, 1) := by decide +kernel
theorem dL_agrees_198 : decode cL_agrees 198 = .ok (.getfield 161, 3) := by decide +kernel
theorem dL_agrees_201 : decode cL_agrees 201 = .ok (.arraylength, 1) := by decide +kernel
theorem dL_agrees_202 : decode cL_agrees 202 = .ok (.if_icmp .ge 57, 3) := by decide +kernel
theorem dL_agrees_205 : decode cL_agrees 205 = .ok (.iload_n 2, 1) := by decide +kernel
theorem dL_agrees_206 : decode cL_agrees 206 = .ok (.ifCond .eq 53, 3) := by decide +kernel
theorem dL_agrees_209 : decode cL_agrees 209 = .ok (.iconst 0, 1) := by decide +kernel
theorem dL_agrees_210 : decode cL_agrees 210 = .ok (.istore 4, 2) := by decide +kernel
theorem dL_agrees_212 : decode cL_agrees 212 = .ok (.iload 4, 2) := by decide +kernel
theorem dL_agrees_214 : decode cL_agrees 214 = .ok (.iconst 4, 1) := by decide +kernel
theorem dL_agrees_215 : decode cL_agrees 215 = .ok (.if_icmp .ge 38, 3) := by decide +kernel
theorem dL_agrees_218 : decode cL_agrees 218 = .ok (.iload_n 2, 1) := by decide +kernel
theorem dL_agrees_219 : decode cL_agrees 219 = .ok (.ifCond .eq 34, 3) := by decide +kernel
theorem dL_agrees_222 : decode cL_agrees 222 = .ok (.aload_n 0, 1) := by decide +kernel
theorem dL_agrees_223 : decode cL_agrees 223 = .ok (.iload_n 3, 1) := by decide +kernel
theorem dL_agrees_224 : decode cL_agrees 224 = .ok (.iload 4, 2) := by decide +kernel
theorem dL_agrees_226 : decode cL_agrees 226 = .ok (.invokestatic 218, 3) := by decide +kernel
theorem dL_agrees_229 : decode cL_agrees 229 = .ok (.aload_n 1, 1) := by decide +kernel
theorem dL_agrees_230 : decode cL_agrees 230 = .ok (.getfield 161, 3) := by decide +kernel
theorem dL_agrees_233 : decode cL_agrees 233 = .ok (.iload_n 3, 1) := by decide +kernel
theorem dL_agrees_234 : decode cL_agrees 234 = .ok (.aaload, 1) := by decide +kernel
theorem dL_agrees_235 : decode cL_agrees 235 = .ok (.iload 4, 2) := by decide +kernel
theorem dL_agrees_237 : decode cL_agrees 237 = .ok (.iaload, 1) := by decide +kernel
theorem dL_agrees_238 : decode cL_agrees 238 = .ok (.if_icmp .ne 7, 3) := by decide +kernel
theorem dL_agrees_241 : decode cL_agrees 241 = .ok (.iconst 1, 1) := by decide +kernel
theorem dL_agrees_242 : decode cL_agrees 242 = .ok (.goto 4, 3) := by decide +kernel
theorem dL_agrees_245 : decode cL_agrees 245 = .ok (.iconst 0, 1) := by decide +kernel
theorem dL_agrees_246 : decode cL_agrees 246 = .ok (.istore_n 2, 1) := by decide +kernel
theorem dL_agrees_247 : decode cL_agrees 247 = .ok (.iinc 4 1, 3) := by decide +kernel
theorem dL_agrees_250 : decode cL_agrees 250 = .ok (.goto (-38), 3) := by decide +kernel
theorem dL_agrees_253 : decode cL_agrees 253 = .ok (.iinc 3 1, 3) := by decide +kernel
theorem dL_agrees_256 : decode cL_agrees 256 = .ok (.goto (-60), 3) := by decide +kernel
theorem dL_agrees_259 : decode cL_agrees 259 = .ok (.iconst 0, 1) := by decide +kernel
theorem dL_agrees_260 : decode cL_agrees 260 = .ok (.istore_n 3, 1) := by decide +kernel
theorem dL_agrees_261 : decode cL_agrees 261 = .ok (.iload_n 3, 1) := by decide +kernel
theorem dL_agrees_262 : decode cL_agrees 262 = .ok (.aload_n 1, 1) := by decide +kernel
theorem dL_agrees_263 : decode cL_agrees 263 = .ok (.getfield 133, 3) := by decide +kernel
theorem dL_agrees_266 : decode cL_agrees 266 = .ok (.arraylength, 1) := by decide +kernel
theorem dL_agrees_267 : decode cL_agrees 267 = .ok (.if_icmp .ge 78, 3) := by decide +kernel
theorem dL_agrees_270 : decode cL_agrees 270 = .ok (.iload_n 2, 1) := by decide +kernel
theorem dL_agrees_271 : decode cL_agrees 271 = .ok (.ifCond .eq 74, 3) := by decide +kernel
theorem dL_agrees_274 : decode cL_agrees 274 = .ok (.iconst 0, 1) := by decide +kernel
theorem dL_agrees_275 : decode cL_agrees 275 = .ok (.istore 4, 2) := by decide +kernel
theorem dL_agrees_277 : decode cL_agrees 277 = .ok (.iload 4, 2) := by decide +kernel
theorem dL_agrees_279 : decode cL_agrees 279 = .ok (.aload_n 1, 1) := by decide +kernel
theorem dL_agrees_280 : decode cL_agrees 280 = .ok (.getfield 151, 3) := by decide +kernel
theorem dL_agrees_283 : decode cL_agrees 283 = .ok (.arraylength, 1) := by decide +kernel
theorem dL_agrees_284 : decode cL_agrees 284 = .ok (.if_icmp .ge 55, 3) := by decide +kernel
theorem dL_agrees_287 : decode cL_agrees 287 = .ok (.iload_n 2, 1) := by decide +kernel
theorem dL_agrees_288 : decode cL_agrees 288 = .ok (.ifCond .eq 51, 3) := by decide +kernel
theorem dL_agrees_291 : decode cL_agrees 291 = .ok (.aload_n 0, 1) := by decide +kernel
theorem dL_agrees_292 : decode cL_agrees 292 = .ok (.iload_n 3, 1) := by decide +kernel
theorem dL_agrees_293 : decode cL_agrees 293 = .ok (.iload 4, 2) := by decide +kernel
theorem dL_agrees_295 : decode cL_agrees 295 = .ok (.invokestatic 220, 3) := by decide +kernel
theorem dL_agrees_298 : decode cL_agrees 298 = .ok (.aload_n 1, 1) := by decide +kernel
theorem dL_agrees_299 : decode cL_agrees 299 = .ok (.getfield 195, 3) := by decide +kernel
theorem dL_agrees_302 : decode cL_agrees 302 = .ok (.iload_n 3, 1) := by decide +kernel
theorem dL_agrees_303 : decode cL_agrees 303 = .ok (.aaload, 1) := by decide +kernel
theorem dL_agrees_304 : decode cL_agrees 304 = .ok (.iload 4, 2) := by decide +kernel
theorem dL_agrees_306 : decode cL_agrees 306 = .ok (.iaload, 1) := by decide +kernel
theorem dL_agrees_307 : decode cL_agrees 307 = .ok (.if_icmp .ne 24, 3) := by decide +kernel
theorem dL_agrees_310 : decode cL_agrees 310 = .ok (.aload_n 0, 1) := by decide +kernel
theorem dL_agrees_311 : decode cL_agrees 311 = .ok (.iload_n 3, 1) := by decide +kernel
theorem dL_agrees_312 : decode cL_agrees 312 = .ok (.iload 4, 2) := by decide +kernel
theorem dL_agrees_314 : decode cL_agrees 314 = .ok (.invokestatic 222, 3) := by decide +kernel
theorem dL_agrees_317 : decode cL_agrees 317 = .ok (.aload_n 1, 1) := by decide +kernel
theorem dL_agrees_318 : decode cL_agrees 318 = .ok (.iload_n 3, 1) := by decide +kernel
theorem dL_agrees_319 : decode cL_agrees 319 = .ok (.iload 4, 2) := by decide +kernel
theorem dL_agrees_321 : decode cL_agrees 321 = .ok (.invokevirtual 224, 3) := by decide +kernel
theorem dL_agrees_324 : decode cL_agrees 324 = .ok (.if_icmp .ne 7, 3) := by decide +kernel
theorem dL_agrees_327 : decode cL_agrees 327 = .ok (.iconst 1, 1) := by decide +kernel
theorem dL_agrees_328 : decode cL_agrees 328 = .ok (.goto 4, 3) := by decide +kernel
theorem dL_agrees_331 : decode cL_agrees 331 = .ok (.iconst 0, 1) := by decide +kernel
theorem dL_agrees_332 : decode cL_agrees 332 = .ok (.istore_n 2, 1) := by decide +kernel
theorem dL_agrees_333 : decode cL_agrees 333 = .ok (.iinc 4 1, 3) := by decide +kernel
theorem dL_agrees_336 : decode cL_agrees 336 = .ok (.goto (-59), 3) := by decide +kernel
theorem dL_agrees_339 : decode cL_agrees 339 = .ok (.iinc 3 1, 3) := by decide +kernel
theorem dL_agrees_342 : decode cL_agrees 342 = .ok (.goto (-81), 3) := by decide +kernel
theorem dL_agrees_345 : decode cL_agrees 345 = .ok (.iload_n 2, 1) := by decide +kernel
theorem dL_agrees_346 : decode cL_agrees 346 = .ok (.ifCond .eq 67, 3) := by decide +kernel
theorem dL_agrees_349 : decode cL_agrees 349 = .ok (.aload_n 0, 1) := by decide +kernel
theorem dL_agrees_350 : decode cL_agrees 350 = .ok (.aload_n 1, 1) := by decide +kernel
theorem dL_agrees_351 : decode cL_agrees 351 = .ok (.getfield 133, 3) := by decide +kernel
theorem dL_agrees_354 : decode cL_agrees 354 = .ok (.arraylength, 1) := by decide +kernel
theorem dL_agrees_355 : decode cL_agrees 355 = .ok (.iconst 0, 1) := by decide +kernel
theorem dL_agrees_356 : decode cL_agrees 356 = .ok (.invokestatic 225, 3) := by decide +kernel
theorem dL_agrees_359 : decode cL_agrees 359 = .ok (.ldc 52, 2) := by decide +kernel
theorem dL_agrees_361 : decode cL_agrees 361 = .ok (.if_icmp .ne 52, 3) := by decide +kernel
theorem dL_agrees_364 : decode cL_agrees 364 = .ok (.aload_n 0, 1) := by decide +kernel
theorem dL_agrees_365 : decode cL_agrees 365 = .ok (.aload_n 1, 1) := by decide +kernel
theorem dL_agrees_366 : decode cL_agrees 366 = .ok (.getfield 151, 3) := by decide +kernel
theorem dL_agrees_369 : decode cL_agrees 369 = .ok (.arraylength, 1) := by decide +kernel
theorem dL_agrees_370 : decode cL_agrees 370 = .ok (.iconst 0, 1) := by decide +kernel
theorem dL_agrees_371 : decode cL_agrees 371 = .ok (.invokestatic 211, 3) := by decide +kernel
theorem dL_agrees_374 : decode cL_agrees 374 = .ok (.ldc 52, 2) := by decide +kernel
theorem dL_agrees_376 : decode cL_agrees 376 = .ok (.if_icmp .ne 37, 3) := by decide +kernel
theorem dL_agrees_379 : decode cL_agrees 379 = .ok (.aload_n 0, 1) := by decide +kernel
theorem dL_agrees_380 : decode cL_agrees 380 = .ok (.aload_n 1, 1) := by decide +kernel
theorem dL_agrees_381 : decode cL_agrees 381 = .ok (.getfield 157, 3) := by decide +kernel
theorem dL_agrees_384 : decode cL_agrees 384 = .ok (.arraylength, 1) := by decide +kernel
theorem dL_agrees_385 : decode cL_agrees 385 = .ok (.iconst 0, 1) := by decide +kernel
theorem dL_agrees_386 : decode cL_agrees 386 = .ok (.invokestatic 215, 3) := by decide +kernel
theorem dL_agrees_389 : decode cL_agrees 389 = .ok (.ldc 52, 2) := by decide +kernel
theorem dL_agrees_391 : decode cL_agrees 391 = .ok (.if_icmp .ne 22, 3) := by decide +kernel
theorem dL_agrees_394 : decode cL_agrees 394 = .ok (.aload_n 0, 1) := by decide +kernel
theorem dL_agrees_395 : decode cL_agrees 395 = .ok (.aload_n 1, 1) := by decide +kernel
theorem dL_agrees_396 : decode cL_agrees 396 = .ok (.getfield 161, 3) := by decide +kernel
theorem dL_agrees_399 : decode cL_agrees 399 = .ok (.arraylength, 1) := by decide +kernel
theorem dL_agrees_400 : decode cL_agrees 400 = .ok (.iconst 0, 1) := by decide +kernel
theorem dL_agrees_401 : decode cL_agrees 401 = .ok (.invokestatic 218, 3) := by decide +kernel
theorem dL_agrees_404 : decode cL_agrees 404 = .ok (.ldc 52, 2) := by decide +kernel
theorem dL_agrees_406 : decode cL_agrees 406 = .ok (.if_icmp .ne 7, 3) := by decide +kernel
theorem dL_agrees_409 : decode cL_agrees 409 = .ok (.iconst 1, 1) := by decide +kernel
theorem dL_agrees_410 : decode cL_agrees 410 = .ok (.goto 4, 3) := by decide +kernel
theorem dL_agrees_413 : decode cL_agrees 413 = .ok (.iconst 0, 1) := by decide +kernel
theorem dL_agrees_414 : decode cL_agrees 414 = .ok (.ireturn, 1) := by decide +kernel
theorem dL_law_0 : decode cL_law 0 = .ok (.iconst 1, 1) := by decide +kernel
theorem dL_law_1 : decode cL_law 1 = .ok (.istore_n 1, 1) := by decide +kernel
theorem dL_law_2 : decode cL_law 2 = .ok (.iconst 0, 1) := by decide +kernel
theorem dL_law_3 : decode cL_law 3 = .ok (.istore_n 2, 1) := by decide +kernel
theorem dL_law_4 : decode cL_law 4 = .ok (.iload_n 2, 1) := by decide +kernel
theorem dL_law_5 : decode cL_law 5 = .ok (.aload_n 0, 1) := by decide +kernel
theorem dL_law_6 : decode cL_law 6 = .ok (.arraylength, 1) := by decide +kernel
theorem dL_law_7 : decode cL_law 7 = .ok (.if_icmp .ge 1224, 3) := by decide +kernel
theorem dL_law_10 : decode cL_law 10 = .ok (.iload_n 2, 1) := by decide +kernel
theorem dL_law_11 : decode cL_law 11 = .ok (.iconst 2, 1) := by decide +kernel
theorem dL_law_12 : decode cL_law 12 = .ok (.if_icmp .ge 1219, 3) := by decide +kernel
theorem dL_law_15 : decode cL_law 15 = .ok (.iload_n 1, 1) := by decide +kernel
theorem dL_law_16 : decode cL_law 16 = .ok (.ifCond .eq 1215, 3) := by decide +kernel
theorem dL_law_19 : decode cL_law 19 = .ok (.new 14, 3) := by decide +kernel
theorem dL_law_22 : decode cL_law 22 = .ok (.dup, 1) := by decide +kernel
theorem dL_law_23 : decode cL_law 23 = .ok (.invokespecial 227, 3) := by decide +kernel
theorem dL_law_26 : decode cL_law 26 = .ok (.astore_n 3, 1) := by decide +kernel
theorem dL_law_27 : decode cL_law 27 = .ok (.bipush 8, 2) := by decide +kernel
theorem dL_law_29 : decode cL_law 29 = .ok (.newarray .int, 2) := by decide +kernel
theorem dL_law_31 : decode cL_law 31 = .ok (.astore 4, 2) := by decide +kernel
theorem dL_law_33 : decode cL_law 33 = .ok (.new 129, 3) := by decide +kernel
theorem dL_law_36 : decode cL_law 36 = .ok (.dup, 1) := by decide +kernel
theorem dL_law_37 : decode cL_law 37 = .ok (.aload_n 0, 1) := by decide +kernel
theorem dL_law_38 : decode cL_law 38 = .ok (.iload_n 2, 1) := by decide +kernel
theorem dL_law_39 : decode cL_law 39 = .ok (.iaload, 1) := by decide +kernel
theorem dL_law_40 : decode cL_law 40 = .ok (.invokespecial 228, 3) := by decide +kernel
theorem dL_law_43 : decode cL_law 43 = .ok (.astore 5, 2) := by decide +kernel
theorem dL_law_45 : decode cL_law 45 = .ok (.aload_n 3, 1) := by decide +kernel
theorem dL_law_46 : decode cL_law 46 = .ok (.new 123, 3) := by decide +kernel
theorem dL_law_49 : decode cL_law 49 = .ok (.dup, 1) := by decide +kernel
theorem dL_law_50 : decode cL_law 50 = .ok (.invokespecial 125, 3) := by decide +kernel
theorem dL_law_53 : decode cL_law 53 = .ok (.invokestatic 231, 3) := by decide +kernel
theorem dL_law_56 : decode cL_law 56 = .ok (.ifCond .eq 74, 3) := by decide +kernel
theorem dL_law_59 : decode cL_law 59 = .ok (.aload_n 3, 1) := by decide +kernel
theorem dL_law_60 : decode cL_law 60 = .ok (.invokevirtual 235, 3) := by decide +kernel
theorem dL_law_63 : decode cL_law 63 = .ok (.iconst (-1), 1) := by decide +kernel
theorem dL_law_64 : decode cL_law 64 = .ok (.if_icmp .ne 66, 3) := by decide +kernel
theorem dL_law_67 : decode cL_law 67 = .ok (.aload_n 3, 1) := by decide +kernel
theorem dL_law_68 : decode cL_law 68 = .ok (.invokevirtual 238, 3) := by decide +kernel
theorem dL_law_71 : decode cL_law 71 = .ok (.iconst (-1), 1) := by decide +kernel
theorem dL_law_72 : decode cL_law 72 = .ok (.if_icmp .ne 58, 3) := by decide +kernel
theorem dL_law_75 : decode cL_law 75 = .ok (.aload_n 3, 1) := by decide +kernel
theorem dL_law_76 : decode cL_law 76 = .ok (.sipush 201, 3) := by decide +kernel
theorem dL_law_79 : decode cL_law 79 = .ok (.invokestatic 241, 3) := by decide +kernel
theorem dL_law_82 : decode cL_law 82 = .ok (.ldc 42, 2) := by decide +kernel
theorem dL_law_84 : decode cL_law 84 = .ok (.if_icmp .ne 46, 3) := by decide +kernel
theorem dL_law_87 : decode cL_law 87 = .ok (.aload_n 3, 1) := by decide +kernel
theorem dL_law_88 : decode cL_law 88 = .ok (.bipush 7, 2) := by decide +kernel
theorem dL_law_90 : decode cL_law 90 = .ok (.invokestatic 241, 3) := by decide +kernel
theorem dL_law_93 : decode cL_law 93 = .ok (.ifCond .ne 37, 3) := by decide +kernel
theorem dL_law_96 : decode cL_law 96 = .ok (.aload_n 3, 1) := by decide +kernel
theorem dL_law_97 : decode cL_law 97 = .ok (.invokevirtual 238, 3) := by decide +kernel
theorem dL_law_100 : decode cL_law 100 = .ok (.ifCond .ne 30, 3) := by decide +kernel
theorem dL_law_103 : decode cL_law 103 = .ok (.aload_n 3, 1) := by decide +kernel
theorem dL_law_104 : decode cL_law 104 = .ok (.iconst 0, 1) := by decide +kernel
theorem dL_law_105 : decode cL_law 105 = .ok (.iconst 1, 1) := by decide +kernel
theorem dL_law_106 : decode cL_law 106 = .ok (.invokestatic 243, 3) := by decide +kernel
theorem dL_law_109 : decode cL_law 109 = .ok (.ldc 52, 2) := by decide +kernel
theorem dL_law_111 : decode cL_law 111 = .ok (.if_icmp .ne 19, 3) := by decide +kernel
theorem dL_law_114 : decode cL_law 114 = .ok (.aload_n 3, 1) := by decide +kernel
theorem dL_law_115 : decode cL_law 115 = .ok (.iconst 0, 1) := by decide +kernel
theorem dL_law_116 : decode cL_law 116 = .ok (.iconst 0, 1) := by decide +kernel
theorem dL_law_117 : decode cL_law 117 = .ok (.iconst 0, 1) := by decide +kernel
theorem dL_law_118 : decode cL_law 118 = .ok (.invokestatic 245, 3) := by decide +kernel
theorem dL_law_121 : decode cL_law 121 = .ok (.ldc 52, 2) := by decide +kernel
theorem dL_law_123 : decode cL_law 123 = .ok (.if_icmp .ne 7, 3) := by decide +kernel
theorem dL_law_126 : decode cL_law 126 = .ok (.iconst 1, 1) := by decide +kernel
theorem dL_law_127 : decode cL_law 127 = .ok (.goto 4, 3) := by decide +kernel
theorem dL_law_130 : decode cL_law 130 = .ok (.iconst 0, 1) := by decide +kernel
theorem dL_law_131 : decode cL_law 131 = .ok (.istore_n 1, 1) := by decide +kernel
theorem dL_law_132 : decode cL_law 132 = .ok (.aload_n 3, 1) := by decide +kernel
theorem dL_law_133 : decode cL_law 133 = .ok (.aload 4, 2) := by decide +kernel
theorem dL_law_135 : decode cL_law 135 = .ok (.aload 5, 2) := by decide +kernel
theorem dL_law_137 : decode cL_law 137 = .ok (.invokestatic 248, 3) := by decide +kernel
theorem dL_law_140 : decode cL_law 140 = .ok (.astore 6, 2) := by decide +kernel
theorem dL_law_142 : decode cL_law 142 = .ok (.aload 6, 2) := by decide +kernel
theorem dL_law_144 : decode cL_law 144 = .ok (.ifnonnull 5, 3) := by decide +kernel
theorem dL_law_147 : decode cL_law 147 = .ok (.iconst 0, 1) := by decide +kernel
theorem dL_law_148 : decode cL_law 148 = .ok (.ireturn, 1) := by decide +kernel
theorem dL_law_149 : decode cL_law 149 = .ok (.iload_n 1, 1) := by decide +kernel
theorem dL_law_150 : decode cL_law 150 = .ok (.ifCond .eq 16, 3) := by decide +kernel
theorem dL_law_153 : decode cL_law 153 = .ok (.aload_n 3, 1) := by decide +kernel
theorem dL_law_154 : decode cL_law 154 = .ok (.aload 6, 2) := by decide +kernel
theorem dL_law_156 : decode cL_law 156 = .ok (.invokestatic 231, 3) := by decide +kernel
theorem dL_law_159 : decode cL_law 159 = .ok (.ifCond .eq 7, 3) := by decide +kernel
theorem dL_law_162 : decode cL_law 162 = .ok (.iconst 1, 1) := by decide +kernel
theorem dL_law_163 : decode cL_law 163 = .ok (.goto 4, 3) := by decide +kernel
theorem dL_law_166 : decode cL_law 166 = .ok (.iconst 0, 1) := by decide +kernel
theorem dL_law_167 : decode cL_law 167 = .ok (.istore_n 1, 1) := by decide +kernel
theorem dL_law_168 : decode cL_law 168 = .ok (.bipush 9, 2) := by decide +kernel
theorem dL_law_170 : decode cL_law 170 = .ok (.anewarray 123, 3) := by decide +kernel
theorem dL_law_173 : decode cL_law 173 = .ok (.astore 7, 2) := by decide +kernel
theorem dL_law_175 : decode cL_law 175 = .ok (.iconst 0, 1) := by decide +kernel
theorem dL_law_176 : decode cL_law 176 = .ok (.istore 8, 2) := by decide +kernel
theorem dL_law_178 : decode cL_law 178 = .ok (.iconst 0, 1) := by decide +kernel
theorem dL_law_179 : decode cL_law 179 = .ok (.istore 9, 2) := by decide +kernel
theorem dL_law_181 : decode cL_law 181 = .ok (.iload 9, 2) := by decide +kernel
theorem dL_law_183 : decode cL_law 183 = .ok (.bipush 35, 2) := by decide +kernel
theorem dL_law_185 : decode cL_law 185 = .ok (.if_icmp .ge 924, 3) := by decide +kernel
theorem dL_law_188 : decode cL_law 188 = .ok (.iload_n 1, 1) := by decide +kernel
theorem dL_law_189 : decode cL_law 189 = .ok (.ifCond .eq 920, 3) := by decide +kernel
theorem dL_law_192 : decode cL_law 192 = .ok (.aload 6, 2) := by decide +kernel
theorem dL_law_194 : decode cL_law 194 = .ok (.invokevirtual 252, 3) := by decide +kernel
theorem dL_law_197 : decode cL_law 197 = .ok (.astore 10, 2) := by decide +kernel
theorem dL_law_199 : decode cL_law 199 = .ok (.iconst 1, 1) := by decide +kernel
theorem dL_law_200 : decode cL_law 200 = .ok (.istore 11, 2) := by decide +kernel
theorem dL_law_202 : decode cL_law 202 = .ok (.ldc 52, 2) := by decide +kernel
theorem dL_law_204 : decode cL_law 204 = .ok (.istore 12, 2) := by decide +kernel
theorem dL_law_206 : decode cL_law 206 = .ok (.aload 6, 2) := by decide +kernel
theorem dL_law_208 : decode cL_law 208 = .ok (.getfield 151, 3) := by decide +kernel
theorem dL_law_211 : decode cL_law 211 = .ok (.arraylength, 1) := by decide +kernel
theorem dL_law_212 : decode cL_law 212 = .ok (.istore 13, 2) := by decide +kernel
theorem dL_law_214 : decode cL_law 214 = .ok (.aload 5, 2) := by decide +kernel
theorem dL_law_216 : decode cL_law 216 = .ok (.iload 13, 2) := by decide +kernel
theorem dL_law_218 : decode cL_law 218 = .ok (.aload 5, 2) := by decide +kernel
theorem dL_law_220 : decode cL_law 220 = .ok (.bipush 12, 2) := by decide +kernel
theorem dL_law_222 : decode cL_law 222 = .ok (.invokevirtual 128, 3) := by decide +kernel
theorem dL_law_225 : decode cL_law 225 = .ok (.ifCond .eq 8, 3) := by decide +kernel
theorem dL_law_228 : decode cL_law 228 = .ok (.iload 13, 2) := by decide +kernel
theorem dL_law_230 : decode cL_law 230 = .ok (.ifCond .ne 7, 3) := by decide +kernel
theorem dL_law_233 : decode cL_law 233 = .ok (.iconst 1, 1) := by decide +kernel
theorem dL_law_234 : decode cL_law 234 = .ok (.goto 4, 3) := by decide +kernel
theorem dL_law_237 : decode cL_law 237 = .ok (.iconst 0, 1) := by decide +kernel
theorem dL_law_238 : decode cL_law 238 = .ok (.iadd, 1) := by decide +kernel
theorem dL_law_239 : decode cL_law 239 = .ok (.invokevirtual 128, 3) := by decide +kernel
theorem dL_law_242 : decode cL_law 242 = .ok (.istore 14, 2) := by decide +kernel
theorem dL_law_244 : decode cL_law 244 = .ok (.iload 14, 2) := by decide +kernel
theorem dL_law_246 : decode cL_law 246 = .ok (.iload 13, 2) := by decide +kernel
theorem dL_law_248 : decode cL_law 248 = .ok (.if_icmp .ge 7, 3) := by decide +kernel
theorem dL_law_251 : decode cL_law 251 = .ok (.iconst 1, 1) := by decide +kernel
theorem dL_law_252 : decode cL_law 252 = .ok (.goto 4, 3) := by decide +kernel
theorem dL_law_255 : decode cL_law 255 = .ok (.iconst 0, 1) := by decide +kernel
theorem dL_law_256 : decode cL_law 256 = .ok (.istore 15, 2) := by decide +kernel
theorem dL_law_258 : decode cL_law 258 = .ok (.aload 5, 2) := by decide +kernel
theorem dL_law_260 : decode cL_law 260 = .ok (.bipush 9, 2) := by decide +kernel
theorem dL_law_262 : decode cL_law 262 = .ok (.invokevirtual 128, 3) := by decide +kernel
theorem dL_law_265 : decode cL_law 265 = .ok (.tableswitch 681 0 4 #[35, 144, 144, 334, 524], 35) := by decide +kernel
theorem dL_law_300 : decode cL_law 300 = .ok (.aload 5, 2) := by decide +kernel
theorem dL_law_302 : decode cL_law 302 = .ok (.aload 5, 2) := by decide +kernel
theorem dL_law_304 : decode cL_law 304 = .ok (.bipush 6, 2) := by decide +kernel
theorem dL_law_306 : decode cL_law 306 = .ok (.invokevirtual 128, 3) := by decide +kernel
theorem dL_law_309 : decode cL_law 309 = .ok (.ifCond .ne 8, 3) := by decide +kernel
theorem dL_law_312 : decode cL_law 312 = .ok (.bipush 120, 2) := by decide +kernel
theorem dL_law_314 : decode cL_law 314 = .ok (.goto 5, 3) := by decide +kernel
theorem dL_law_317 : decode cL_law 317 = .ok (.bipush 8, 2) := by decide +kernel
theorem dL_law_319 : decode cL_law 319 = .ok (.invokevirtual 128, 3) := by decide +kernel
theorem dL_law_322 : decode cL_law 322 = .ok (.istore 16, 2) := by decide +kernel
theorem dL_law_324 : decode cL_law 324 = .ok (.iload 15, 2) := by decide +kernel
theorem dL_law_326 : decode cL_law 326 = .ok (.ifCond .eq 14, 3) := by decide +kernel
theorem dL_law_329 : decode cL_law 329 = .ok (.iload 16, 2) := by decide +kernel
theorem dL_law_331 : decode cL_law 331 = .ok (.bipush 100, 2) := by decide +kernel
theorem dL_law_333 : decode cL_law 333 = .ok (.if_icmp .ge 7, 3) := by decide +kernel
theorem dL_law_336 : decode cL_law 336 = .ok (.iconst 1, 1) := by decide +kernel
theorem dL_law_337 : decode cL_law 337 = .ok (.goto 4, 3) := by decide +kernel
theorem dL_law_340 : decode cL_law 340 = .ok (.iconst 0, 1) := by decide +kernel
theorem dL_law_341 : decode cL_law 341 = .ok (.istore 11, 2) := by decide +kernel
theorem dL_law_343 : decode cL_law 343 = .ok (.iload 15, 2) := by decide +kernel
theorem dL_law_345 : decode cL_law 345 = .ok (.ifCond .eq 25, 3) := by decide +kernel
theorem dL_law_348 : decode cL_law 348 = .ok (.iload 11, 2) := by decide +kernel
theorem dL_law_350 : decode cL_law 350 = .ok (.ifCond .eq 16, 3) := by decide +kernel
theorem dL_law_353 : decode cL_law 353 = .ok (.aload 6, 2) := by decide +kernel
theorem dL_law_355 : decode cL_law 355 = .ok (.getfield 151, 3) := by decide +kernel
theorem dL_law_358 : decode cL_law 358 = .ok (.iload 14, 2) := by decide +kernel
theorem dL_law_360 : decode cL_law 360 = .ok (.aaload, 1) := by decide +kernel
theorem dL_law_361 : decode cL_law 361 = .ok (.iconst 0, 1) := by decide +kernel
theorem dL_law_362 : decode cL_law 362 = .ok (.iaload, 1) := by decide +kernel
theorem dL_law_363 : decode cL_law 363 = .ok (.goto 5, 3) := by decide +kernel
theorem dL_law_366 : decode cL_law 366 = .ok (.ldc 42, 2) := by decide +kernel
theorem dL_law_368 : decode cL_law 368 = .ok (.istore 12, 2) := by decide +kernel
theorem dL_law_370 : decode cL_law 370 = .ok (.iload 11, 2) := by decide +kernel
theorem dL_law_372 : decode cL_law 372 = .ok (.ifCond .eq 15, 3) := by decide +kernel
theorem dL_law_375 : decode cL_law 375 = .ok (.aload 6, 2) := by decide +kernel
theorem dL_law_377 : decode cL_law 377 = .ok (.getfield 151, 3) := by decide +kernel
theorem dL_law_380 : decode cL_law 380 = .ok (.iload 14, 2) := by decide +kernel
theorem dL_law_382 : decode cL_law 382 = .ok (.aaload, 1) := by decide +kernel
theorem dL_law_383 : decode cL_law 383 = .ok (.iconst 0, 1) := by decide +kernel
theorem dL_law_384 : decode cL_law 384 = .ok (.iload 16, 2) := by decide +kernel
theorem dL_law_386 : decode cL_law 386 = .ok (.iastore, 1) := by decide +kernel
theorem dL_law_387 : decode cL_law 387 = .ok (.aload_n 3, 1) := by decide +kernel
theorem dL_law_388 : decode cL_law 388 = .ok (.iload 14, 2) := by decide +kernel
theorem dL_law_390 : decode cL_law 390 = .ok (.iload 16, 2) := by decide +kernel
theorem dL_law_392 : decode cL_law 392 = .ok (.invokestatic 256, 3) := by decide +kernel
theorem dL_law_395 : decode cL_law 395 = .ok (.iload 12, 2) := by decide +kernel
theorem dL_law_397 : decode cL_law 397 = .ok (.if_icmp .ne 7, 3) := by decide +kernel
theorem dL_law_400 : decode cL_law 400 = .ok (.iconst 1, 1) := by decide +kernel
theorem dL_law_401 : decode cL_law 401 = .ok (.goto 4, 3) := by decide +kernel
theorem dL_law_404 : decode cL_law 404 = .ok (.iconst 0, 1) := by decide +kernel
theorem dL_law_405 : decode cL_law 405 = .ok (.istore_n 1, 1) := by decide +kernel
theorem dL_law_406 : decode cL_law 406 = .ok (.goto 637, 3) := by decide +kernel
theorem dL_law_409 : decode cL_law 409 = .ok (.aload 5, 2) := by decide +kernel
theorem dL_law_411 : decode cL_law 411 = .ok (.aload 5, 2) := by decide +kernel
theorem dL_law_413 : decode cL_law 413 = .ok (.bipush 6, 2) := by decide +kernel
theorem dL_law_415 : decode cL_law 415 = .ok (.invokevirtual 128, 3) := by decide +kernel
theorem dL_law_418 : decode cL_law 418 = .ok (.ifCond .ne 9, 3) := by decide +kernel
theorem dL_law_421 : decode cL_law 421 = .ok (.sipush 1100, 3) := by decide +kernel
theorem dL_law_424 : decode cL_law 424 = .ok (.goto 5, 3) := by decide +kernel
theorem dL_law_427 : decode cL_law 427 = .ok (.bipush 25, 2) := by decide +kernel
theorem dL_law_429 : decode cL_law 429 = .ok (.invokevirtual 128, 3) := by decide +kernel
theorem dL_law_432 : decode cL_law 432 = .ok (.istore 17, 2) := by decide +kernel
theorem dL_law_434 : decode cL_law 434 = .ok (.iload 17, 2) := by decide +kernel
theorem dL_law_436 : decode cL_law 436 = .ok (.ifCond .le 15, 3) := by decide +kernel
theorem dL_law_439 : decode cL_law 439 = .ok (.iload 17, 2) := by decide +kernel
theorem dL_law_441 : decode cL_law 441 = .ok (.sipush 1000, 3) := by decide +kernel
theorem dL_law_444 : decode cL_law 444 = .ok (.if_icmp .ge 7, 3) := by decide +kernel
theorem dL_law_447 : decode cL_law 447 = .ok (.iconst 1, 1) := by decide +kernel
theorem dL_law_448 : decode cL_law 448 = .ok (.goto 4, 3) := by decide +kernel
theorem dL_law_451 : decode cL_law 451 = .ok (.iconst 0, 1) := by decide +kernel
theorem dL_law_452 : decode cL_law 452 = .ok (.istore 18, 2) := by decide +kernel
theorem dL_law_454 : decode cL_law 454 = .ok (.iload 15, 2) := by decide +kernel
theorem dL_law_456 : decode cL_law 456 = .ok (.ifCond .eq 23, 3) := by decide +kernel
theorem dL_law_459 : decode cL_law 459 = .ok (.iload 18, 2) := by decide +kernel
theorem dL_law_461 : decode cL_law 461 = .ok (.ifCond .eq 18, 3) := by decide +kernel
theorem dL_law_464 : decode cL_law 464 = .ok (.aload 6, 2) := by decide +kernel
theorem dL_law_466 : decode cL_law 466 = .ok (.getfield 157, 3) := by decide +kernel
theorem dL_law_469 : decode cL_law 469 = .ok (.arraylength, 1) := by decide +kernel
theorem dL_law_470 : decode cL_law 470 = .ok (.bipush 40, 2) := by decide +kernel
theorem dL_law_472 : decode cL_law 472 = .ok (.if_icmp .ge 7, 3) := by decide +kernel
theorem dL_law_475 : decode cL_law 475 = .ok (.iconst 1, 1) := by decide +kernel
theorem dL_law_476 : decode cL_law 476 = .ok (.goto 4, 3) := by decide +kernel
theorem dL_law_479 : decode cL_law 479 = .ok (.iconst 0, 1) := by decide +kernel
theorem dL_law_480 : decode cL_law 480 = .ok (.istore 11, 2) := by decide +kernel
theorem dL_law_482 : decode cL_law 482 = .ok (.iload 15, 2) := by decide +kernel
theorem dL_law_484 : decode cL_law 484 = .ok (.ifCond .eq 31, 3) := by decide +kernel
theorem dL_law_487 : decode cL_law 487 = .ok (.iload 18, 2) := by decide +kernel
theorem dL_law_489 : decode cL_law 489 = .ok (.ifCond .ne 8, 3) := by decide +kernel
theorem dL_law_492 : decode cL_law 492 = .ok (.ldc 42, 2) := by decide +kernel
theorem dL_law_494 : decode cL_law 494 = .ok (.goto 19, 3) := by decide +kernel
theorem dL_law_497 : decode cL_law 497 = .ok (.iload 11, 2) := by decide +kernel
theorem dL_law_499 : decode cL_law 499 = .ok (.ifCond .eq 12, 3) := by decide +kernel
theorem dL_law_502 : decode cL_law 502 = .ok (.aload 6, 2) := by decide +kernel
theorem dL_law_504 : decode cL_law 504 = .ok (.getfield 157, 3) := by decide +kernel
theorem dL_law_507 : decode cL_law 507 = .ok (.arraylength, 1) := by decide +kernel
theorem dL_law_508 : decode cL_law 508 = .ok (.goto 5, 3) := by decide +kernel
theorem dL_law_511 : decode cL_law 511 = .ok (.ldc 101, 2) := by decide +kernel
theorem dL_law_513 : decode cL_law 513 = .ok (.istore 12, 2) := by decide +kernel
theorem dL_law_515 : decode cL_law 515 = .ok (.iload 11, 2) := by decide +kernel
theorem dL_law_517 : decode cL_law 517 = .ok (.ifCond .eq 60, 3) := by decide +kernel
theorem dL_law_520 : decode cL_law 520 = .ok (.aload 6, 2) := by decide +kernel
theorem dL_law_522 : decode cL_law 522 = .ok (.aload 6, 2) := by decide +kernel
theorem dL_law_524 : decode cL_law 524 = .ok (.getfield 157, 3) := by decide +kernel
theorem dL_law_527 : decode cL_law 527 = .ok (.bipush 8, 2) := by decide +kernel
theorem dL_law_529 : decode cL_law 529 = .ok (.newarray .int, 2) := by decide +kernel
theorem dL_law_531 : decode cL_law 531 = .ok (.dup, 1) := by decide +kernel
theorem dL_law_532 : decode cL_law 532 = .ok (.iconst 0, 1) := by decide +kernel
theorem dL_law_533 : decode cL_law 533 = .ok (.iload 14, 2) := by decide +kernel
theorem dL_law_535 : decode cL_law 535 = .ok (.iastore, 1) := by decide +kernel
theorem dL_law_536 : decode cL_law 536 = .ok (.dup, 1) := by decide +kernel
theorem dL_law_537 : decode cL_law 537 = .ok (.iconst 1, 1) := by decide +kernel
theorem dL_law_538 : decode cL_law 538 = .ok (.aload 6, 2) := by decide +kernel
theorem dL_law_540 : decode cL_law 540 = .ok (.getfield 258, 3) := by decide +kernel
theorem dL_law_543 : decode cL_law 543 = .ok (.iastore, 1) := by decide +kernel
theorem dL_law_544 : decode cL_law 544 = .ok (.dup, 1) := by decide +kernel
theorem dL_law_545 : decode cL_law 545 = .ok (.iconst 2, 1) := by decide +kernel
theorem dL_law_546 : decode cL_law 546 = .ok (.iload 17, 2) := by decide +kernel
theorem dL_law_548 : decode cL_law 548 = .ok (.iastore, 1) := by decide +kernel
theorem dL_law_549 : decode cL_law 549 = .ok (.dup, 1) := by decide +kernel
theorem dL_law_550 : decode cL_law 550 = .ok (.iconst 3, 1) := by decide +kernel
theorem dL_law_551 : decode cL_law 551 = .ok (.iconst 0, 1) := by decide +kernel
theorem dL_law_552 : decode cL_law 552 = .ok (.iastore, 1) := by decide +kernel
theorem dL_law_553 : decode cL_law 553 = .ok (.dup, 1) := by decide +kernel
theorem dL_law_554 : decode cL_law 554 = .ok (.iconst 4, 1) := by decide +kernel
theorem dL_law_555 : decode cL_law 555 = .ok (.iconst 0, 1) := by decide +kernel
theorem dL_law_556 : decode cL_law 556 = .ok (.iastore, 1) := by decide +kernel
theorem dL_law_557 : decode cL_law 557 = .ok (.dup, 1) := by decide +kernel
theorem dL_law_558 : decode cL_law 558 = .ok (.iconst 5, 1) := by decide +kernel
theorem dL_law_559 : decode cL_law 559 = .ok (.iconst 0, 1) := by decide +kernel
theorem dL_law_560 : decode cL_law 560 = .ok (.iastore, 1) := by decide +kernel
theorem dL_law_561 : decode cL_law 561 = .ok (.dup, 1) := by decide +kernel
theorem dL_law_562 : decode cL_law 562 = .ok (.bipush 6, 2) := by decide +kernel
theorem dL_law_564 : decode cL_law 564 = .ok (.iconst (-1), 1) := by decide +kernel
theorem dL_law_565 : decode cL_law 565 = .ok (.iastore, 1) := by decide +kernel
theorem dL_law_566 : decode cL_law 566 = .ok (.dup, 1) := by decide +kernel
theorem dL_law_567 : decode cL_law 567 = .ok (.bipush 7, 2) := by decide +kernel
theorem dL_law_569 : decode cL_law 569 = .ok (.iconst 0, 1) := by decide +kernel
theorem dL_law_570 : decode cL_law 570 = .ok (.iastore, 1) := by decide +kernel
theorem dL_law_571 : decode cL_law 571 = .ok (.invokestatic 137, 3) := by decide +kernel
theorem dL_law_574 : decode cL_law 574 = .ok (.putfield 157, 3) := by decide +kernel
theorem dL_law_577 : decode cL_law 577 = .ok (.aload_n 3, 1) := by decide +kernel
theorem dL_law_578 : decode cL_law 578 = .ok (.iload 14, 2) := by decide +kernel
theorem dL_law_580 : decode cL_law 580 = .ok (.iload 17, 2) := by decide +kernel
theorem dL_law_582 : decode cL_law 582 = .ok (.invokestatic 243, 3) := by decide +kernel
theorem dL_law_585 : decode cL_law 585 = .ok (.iload 12, 2) := by decide +kernel
theorem dL_law_587 : decode cL_law 587 = .ok (.if_icmp .ne 7, 3) := by decide +kernel
theorem dL_law_590 : decode cL_law 590 = .ok (.iconst 1, 1) := by decide +kernel
theorem dL_law_591 : decode cL_law 591 = .ok (.goto 4, 3) := by decide +kernel
theorem dL_law_594 : decode cL_law 594 = .ok (.iconst 0, 1) := by decide +kernel
theorem dL_law_595 : decode cL_law 595 = .ok (.istore_n 1, 1) := by decide +kernel
theorem dL_law_596 : decode cL_law 596 = .ok (.goto 447, 3) := by decide +kernel
theorem dL_law_599 : decode cL_law 599 = .ok (.aload 5, 2) := by decide +kernel
theorem dL_law_601 : decode cL_law 601 = .ok (.bipush 40, 2) := by decide +kernel
theorem dL_law_603 : decode cL_law 603 = .ok (.invokevirtual 128, 3) := by decide +kernel
theorem dL_law_606 : decode cL_law 606 = .ok (.istore 19, 2) := by decide +kernel
theorem dL_law_608 : decode cL_law 608 = .ok (.aload 5, 2) := by decide +kernel
theorem dL_law_610 : decode cL_law 610 = .ok (.aload 5, 2) := by decide +kernel
theorem dL_law_612 : decode cL_law 612 = .ok (.bipush 9, 2) := by decide +kernel
theorem dL_law_614 : decode cL_law 614 = .ok (.invokevirtual 128, 3) := by decide +kernel
theorem dL_law_617 : decode cL_law 617 = .ok (.ifCond .ne 9, 3) := by decide +kernel
theorem dL_law_620 : decode cL_law 620 = .ok (.sipush 10050, 3) := by decide +kernel
theorem dL_law_623 : decode cL_law 623 = .ok (.goto 5, 3) := by decide +kernel
theorem dL_law_626 : decode cL_law 626 = .ok (.bipush 12, 2) := by decide +kernel
theorem dL_law_628 : decode cL_law 628 = .ok (.invokevirtual 128, 3) := by decide +kernel
theorem dL_law_631 : decode cL_law 631 = .ok (.istore 20, 2) := by decide +kernel
theorem dL_law_633 : decode cL_law 633 = .ok (.iload 19, 2) := by decide +kernel
theorem dL_law_635 : decode cL_law 635 = .ok (.ifCond .le 20, 3) := by decide +kernel
theorem dL_law_638 : decode cL_law 638 = .ok (.iload 20, 2) := by decide +kernel
theorem dL_law_640 : decode cL_law 640 = .ok (.ifCond .le 15, 3) := by decide +kernel
theorem dL_law_643 : decode cL_law 643 = .ok (.iload 20, 2) := by decide +kernel
theorem dL_law_645 : decode cL_law 645 = .ok (.sipush 10000, 3) := by decide +kernel
theorem dL_law_648 : decode cL_law 648 = .ok (.if_icmp .ge 7, 3) := by decide +kernel
theorem dL_law_651 : decode cL_law 651 = .ok (.iconst 1, 1) := by decide +kernel
theorem dL_law_652 : decode cL_law 652 = .ok (.goto 4, 3) := by decide +kernel
theorem dL_law_655 : decode cL_law 655 = .ok (.iconst 0, 1) := by decide +kernel
theorem dL_law_656 : decode cL_law 656 = .ok (.istore 21, 2) := by decide +kernel
theorem dL_law_658 : decode cL_law 658 = .ok (.iload 15, 2) := by decide +kernel
theorem dL_law_660 : decode cL_law 660 = .ok (.ifCond .eq 23, 3) := by decide +kernel
theorem dL_law_663 : decode cL_law 663 = .ok (.iload 21, 2) := by decide +kernel
theorem dL_law_665 : decode cL_law 665 = .ok (.ifCond .eq 18, 3) := by decide +kernel
theorem dL_law_668 : decode cL_law 668 = .ok (.aload 6, 2) := by decide +kernel
theorem dL_law_670 : decode cL_law 670 = .ok (.getfield 161, 3) := by decide +kernel
theorem dL_law_673 : decode cL_law 673 = .ok (.arraylength, 1) := by decide +kernel
theorem dL_law_674 : decode cL_law 674 = .ok (.bipush 30, 2) := by decide +kernel
theorem dL_law_676 : decode cL_law 676 = .ok (.if_icmp .ge 7, 3) := by decide +kernel
theorem dL_law_679 : decode cL_law 679 = .ok (.iconst 1, 1) := by decide +kernel
theorem dL_law_680 : decode cL_law 680 = .ok (.goto 4, 3) := by decide +kernel
theorem dL_law_683 : decode cL_law 683 = .ok (.iconst 0, 1) := by decide +kernel
theorem dL_law_684 : decode cL_law 684 = .ok (.istore 11, 2) := by decide +kernel
theorem dL_law_686 : decode cL_law 686 = .ok (.iload 15, 2) := by decide +kernel
theorem dL_law_688 : decode cL_law 688 = .ok (.ifCond .eq 31, 3) := by decide +kernel
theorem dL_law_691 : decode cL_law 691 = .ok (.iload 21, 2) := by decide +kernel
theorem dL_law_693 : decode cL_law 693 = .ok (.ifCond .ne 8, 3) := by decide +kernel
theorem dL_law_696 : decode cL_law 696 = .ok (.ldc 42, 2) := by decide +kernel
theorem dL_law_698 : decode cL_law 698 = .ok (.goto 19, 3) := by decide +kernel
theorem dL_law_701 : decode cL_law 701 = .ok (.iload 11, 2) := by decide +kernel
theorem dL_law_703 : decode cL_law 703 = .ok (.ifCond .eq 12, 3) := by decide +kernel
theorem dL_law_706 : decode cL_law 706 = .ok (.aload 6, 2) := by decide +kernel
theorem dL_law_708 : decode cL_law 708 = .ok (.getfield 161, 3) := by decide +kernel
theorem dL_law_711 : decode cL_law 711 = .ok (.arraylength, 1) := by decide +kernel
theorem dL_law_712 : decode cL_law 712 = .ok (.goto 5, 3) := by decide +kernel
theorem dL_law_715 : decode cL_law 715 = .ok (.ldc 101, 2) := by decide +kernel
theorem dL_law_717 : decode cL_law 717 = .ok (.istore 12, 2) := by decide +kernel
theorem dL_law_719 : decode cL_law 719 = .ok (.iload 11, 2) := by decide +kernel
theorem dL_law_721 : decode cL_law 721 = .ok (.ifCond .eq 44, 3) := by decide +kernel
theorem dL_law_724 : decode cL_law 724 = .ok (.aload 6, 2) := by decide +kernel
theorem dL_law_726 : decode cL_law 726 = .ok (.aload 6, 2) := by decide +kernel
theorem dL_law_728 : decode cL_law 728 = .ok (.getfield 161, 3) := by decide +kernel
theorem dL_law_731 : decode cL_law 731 = .ok (.iconst 4, 1) := by decide +kernel
theorem dL_law_732 : decode cL_law 732 = .ok (.newarray .int, 2) := by decide +kernel
theorem dL_law_734 : decode cL_law 734 = .ok (.dup, 1) := by decide +kernel
theorem dL_law_735 : decode cL_law 735 = .ok (.iconst 0, 1) := by decide +kernel
theorem dL_law_736 : decode cL_law 736 = .ok (.iload 14, 2) := by decide +kernel
theorem dL_law_738 : decode cL_law 738 = .ok (.iastore, 1) := by decide +kernel
theorem dL_law_739 : decode cL_law 739 = .ok (.dup, 1) := by decide +kernel
theorem dL_law_740 : decode cL_law 740 = .ok (.iconst 1, 1) := by decide +kernel
theorem dL_law_741 : decode cL_law 741 = .ok (.iload 19, 2) := by decide +kernel
theorem dL_law_743 : decode cL_law 743 = .ok (.iastore, 1) := by decide +kernel
theorem dL_law_744 : decode cL_law 744 = .ok (.dup, 1) := by decide +kernel
theorem dL_law_745 : decode cL_law 745 = .ok (.iconst 2, 1) := by decide +kernel
theorem dL_law_746 : decode cL_law 746 = .ok (.aload 6, 2) := by decide +kernel
theorem dL_law_748 : decode cL_law 748 = .ok (.getfield 258, 3) := by decide +kernel
theorem dL_law_751 : decode cL_law 751 = .ok (.iload 20, 2) := by decide +kernel
theorem dL_law_753 : decode cL_law 753 = .ok (.iadd, 1) := by decide +kernel
theorem dL_law_754 : decode cL_law 754 = .ok (.iastore, 1) := by decide +kernel
theorem dL_law_755 : decode cL_law 755 = .ok (.dup, 1) := by decide +kernel
theorem dL_law_756 : decode cL_law 756 = .ok (.iconst 3, 1) := by decide +kernel
theorem dL_law_757 : decode cL_law 757 = .ok (.iconst 0, 1) := by decide +kernel
theorem dL_law_758 : decode cL_law 758 = .ok (.iastore, 1) := by decide +kernel
theorem dL_law_759 : decode cL_law 759 = .ok (.invokestatic 137, 3) := by decide +kernel
theorem dL_law_762 : decode cL_law 762 = .ok (.putfield 161, 3) := by decide +kernel
theorem dL_law_765 : decode cL_law 765 = .ok (.aload_n 3, 1) := by decide +kernel
theorem dL_law_766 : decode cL_law 766 = .ok (.iload 14, 2) := by decide +kernel
theorem dL_law_768 : decode cL_law 768 = .ok (.iload 19, 2) := by decide +kernel
theorem dL_law_770 : decode cL_law 770 = .ok (.iload 20, 2) := by decide +kernel
theorem dL_law_772 : decode cL_law 772 = .ok (.invokestatic 245, 3) := by decide +kernel
theorem dL_law_775 : decode cL_law 775 = .ok (.iload 12, 2) := by decide +kernel
theorem dL_law_777 : decode cL_law 777 = .ok (.if_icmp .ne 7, 3) := by decide +kernel
theorem dL_law_780 : decode cL_law 780 = .ok (.iconst 1, 1) := by decide +kernel
theorem dL_law_781 : decode cL_law 781 = .ok (.goto 4, 3) := by decide +kernel
theorem dL_law_784 : decode cL_law 784 = .ok (.iconst 0, 1) := by decide +kernel
theorem dL_law_785 : decode cL_law 785 = .ok (.istore_n 1, 1) := by decide +kernel
theorem dL_law_786 : decode cL_law 786 = .ok (.goto 257, 3) := by decide +kernel
theorem dL_law_789 : decode cL_law 789 = .ok (.aload 5, 2) := by decide +kernel
theorem dL_law_791 : decode cL_law 791 = .ok (.aload 6, 2) := by decide +kernel
theorem dL_law_793 : decode cL_law 793 = .ok (.getfield 161, 3) := by decide +kernel
theorem dL_law_796 : decode cL_law 796 = .ok (.arraylength, 1) := by decide +kernel
theorem dL_law_797 : decode cL_law 797 = .ok (.iconst 1, 1) := by decide +kernel
theorem dL_law_798 : decode cL_law 798 = .ok (.iadd, 1) := by decide +kernel
theorem dL_law_799 : decode cL_law 799 = .ok (.invokevirtual 128, 3) := by decide +kernel
theorem dL_law_802 : decode cL_law 802 = .ok (.istore 22, 2) := by decide +kernel
theorem dL_law_804 : decode cL_law 804 = .ok (.iload 15, 2) := by decide +kernel
theorem dL_law_806 : decode cL_law 806 = .ok (.ifCond .eq 18, 3) := by decide +kernel
theorem dL_law_809 : decode cL_law 809 = .ok (.iload 22, 2) := by decide +kernel
theorem dL_law_811 : decode cL_law 811 = .ok (.aload 6, 2) := by decide +kernel
theorem dL_law_813 : decode cL_law 813 = .ok (.getfield 161, 3) := by decide +kernel
theorem dL_law_816 : decode cL_law 816 = .ok (.arraylength, 1) := by decide +kernel
theorem dL_law_817 : decode cL_law 817 = .ok (.if_icmp .ge 7, 3) := by decide +kernel
theorem dL_law_820 : decode cL_law 820 = .ok (.iconst 1, 1) := by decide +kernel
theorem dL_law_821 : decode cL_law 821 = .ok (.goto 4, 3) := by decide +kernel
theorem dL_law_824 : decode cL_law 824 = .ok (.iconst 0, 1) := by decide +kernel
theorem dL_law_825 : decode cL_law 825 = .ok (.istore 11, 2) := by decide +kernel
theorem dL_law_827 : decode cL_law 827 = .ok (.iload 11, 2) := by decide +kernel
theorem dL_law_829 : decode cL_law 829 = .ok (.ifCond .eq 95, 3) := by decide +kernel
theorem dL_law_832 : decode cL_law 832 = .ok (.aload 6, 2) := by decide +kernel
theorem dL_law_834 : decode cL_law 834 = .ok (.getfield 161, 3) := by decide +kernel
theorem dL_law_837 : decode cL_law 837 = .ok (.iload 22, 2) := by decide +kernel
theorem dL_law_839 : decode cL_law 839 = .ok (.aaload, 1) := by decide +kernel
theorem dL_law_840 : decode cL_law 840 = .ok (.astore 23, 2) := by decide +kernel
theorem dL_law_842 : decode cL_law 842 = .ok (.aload 23, 2) := by decide +kernel
theorem dL_law_844 : decode cL_law 844 = .ok (.iconst 0, 1) := by decide +kernel
theorem dL_law_845 : decode cL_law 845 = .ok (.iaload, 1) := by decide +kernel
theorem dL_law_846 : decode cL_law 846 = .ok (.iload 14, 2) := by decide +kernel
theorem dL_law_848 : decode cL_law 848 = .ok (.if_icmp .eq 23, 3) := by decide +kernel
theorem dL_law_851 : decode cL_law 851 = .ok (.aload 23, 2) := by decide +kernel
theorem dL_law_853 : decode cL_law 853 = .ok (.iconst 3, 1) := by decide +kernel
theorem dL_law_854 : decode cL_law 854 = .ok (.iaload, 1) := by decide +kernel
theorem dL_law_855 : decode cL_law 855 = .ok (.iconst 2, 1) := by decide +kernel
theorem dL_law_856 : decode cL_law 856 = .ok (.if_icmp .eq 15, 3) := by decide +kernel
theorem dL_law_859 : decode cL_law 859 = .ok (.aload 23, 2) := by decide +kernel
theorem dL_law_861 : decode cL_law 861 = .ok (.iconst 1, 1) := by decide +kernel
theorem dL_law_862 : decode cL_law 862 = .ok (.iaload, 1) := by decide +kernel
theorem dL_law_863 : decode cL_law 863 = .ok (.aload 6, 2) := by decide +kernel
theorem dL_law_865 : decode cL_law 865 = .ok (.getfield 165, 3) := by decide +kernel
theorem dL_law_868 : decode cL_law 868 = .ok (.if_icmp .gt 7, 3) := by decide +kernel
theorem dL_law_871 : decode cL_law 871 = .ok (.iconst 1, 1) := by decide +kernel
theorem dL_law_872 : decode cL_law 872 = .ok (.goto 4, 3) := by decide +kernel
theorem dL_law_875 : decode cL_law 875 = .ok (.iconst 0, 1) := by decide +kernel
theorem dL_law_876 : decode cL_law 876 = .ok (.istore 24, 2) := by decide +kernel
theorem dL_law_878 : decode cL_law 878 = .ok (.iload 24, 2) := by decide +kernel
theorem dL_law_880 : decode cL_law 880 = .ok (.ifCond .ne 29, 3) := by decide +kernel
theorem dL_law_883 : decode cL_law 883 = .ok (.aload 23, 2) := by decide +kernel
theorem dL_law_885 : decode cL_law 885 = .ok (.iconst 0, 1) := by decide +kernel
theorem dL_law_886 : decode cL_law 886 = .ok (.iload 14, 2) := by decide +kernel
theorem dL_law_888 : decode cL_law 888 = .ok (.iastore, 1) := by decide +kernel
theorem dL_law_889 : decode cL_law 889 = .ok (.aload 23, 2) := by decide +kernel
theorem dL_law_891 : decode cL_law 891 = .ok (.iconst 1, 1) := by decide +kernel
theorem dL_law_892 : decode cL_law 892 = .ok (.dup2, 1) := by decide +kernel
theorem dL_law_893 : decode cL_law 893 = .ok (.iaload, 1) := by decide +kernel
theorem dL_law_894 : decode cL_law 894 = .ok (.aload 6, 2) := by decide +kernel
theorem dL_law_896 : decode cL_law 896 = .ok (.getfield 165, 3) := by decide +kernel
theorem dL_law_899 : decode cL_law 899 = .ok (.isub, 1) := by decide +kernel
theorem dL_law_900 : decode cL_law 900 = .ok (.iastore, 1) := by decide +kernel
theorem dL_law_901 : decode cL_law 901 = .ok (.aload 23, 2) := by decide +kernel
theorem dL_law_903 : decode cL_law 903 = .ok (.iconst 3, 1) := by decide +kernel
theorem dL_law_904 : decode cL_law 904 = .ok (.dup2, 1) := by decide +kernel
theorem dL_law_905 : decode cL_law 905 = .ok (.iaload, 1) := by decide +kernel
theorem dL_law_906 : decode cL_law 906 = .ok (.iconst 1, 1) := by decide +kernel
theorem dL_law_907 : decode cL_law 907 = .ok (.iadd, 1) := by decide +kernel
theorem dL_law_908 : decode cL_law 908 = .ok (.iastore, 1) := by decide +kernel
theorem dL_law_909 : decode cL_law 909 = .ok (.iload 24, 2) := by decide +kernel
theorem dL_law_911 : decode cL_law 911 = .ok (.ifCond .eq 7, 3) := by decide +kernel
theorem dL_law_914 : decode cL_law 914 = .ok (.iconst (-1), 1) := by decide +kernel
theorem dL_law_915 : decode cL_law 915 = .ok (.goto 7, 3) := by decide +kernel
theorem dL_law_918 : decode cL_law 918 = .ok (.aload 23, 2) := by decide +kernel
theorem dL_law_920 : decode cL_law 920 = .ok (.iconst 1, 1) := by decide +kernel
theorem dL_law_921 : decode cL_law 921 = .ok (.iaload, 1) := by decide +kernel
theorem dL_law_922 : decode cL_law 922 = .ok (.istore 12, 2) := by decide +kernel
theorem dL_law_924 : decode cL_law 924 = .ok (.aload_n 3, 1) := by decide +kernel
theorem dL_law_925 : decode cL_law 925 = .ok (.iload 22, 2) := by decide +kernel
theorem dL_law_927 : decode cL_law 927 = .ok (.iload 14, 2) := by decide +kernel
theorem dL_law_929 : decode cL_law 929 = .ok (.invokestatic 261, 3) := by decide +kernel
theorem dL_law_932 : decode cL_law 932 = .ok (.iload 12, 2) := by decide +kernel
theorem dL_law_934 : decode cL_law 934 = .ok (.if_icmp .ne 7, 3) := by decide +kernel
theorem dL_law_937 : decode cL_law 937 = .ok (.iconst 1, 1) := by decide +kernel
theorem dL_law_938 : decode cL_law 938 = .ok (.goto 4, 3) := by decide +kernel
theorem dL_law_941 : decode cL_law 941 = .ok (.iconst 0, 1) := by decide +kernel
theorem dL_law_942 : decode cL_law 942 = .ok (.istore_n 1, 1) := by decide +kernel
theorem dL_law_943 : decode cL_law 943 = .ok (.goto 100, 3) := by decide +kernel
theorem dL_law_946 : decode cL_law 946 = .ok (.aload 5, 2) := by decide +kernel
theorem dL_law_948 : decode cL_law 948 = .ok (.aload 5, 2) := by decide +kernel
theorem dL_law_950 : decode cL_law 950 = .ok (.iconst 5, 1) := by decide +kernel
theorem dL_law_951 : decode cL_law 951 = .ok (.invokevirtual 128, 3) := by decide +kernel
theorem dL_law_954 : decode cL_law 954 = .ok (.ifCond .ne 8, 3) := by decide +kernel
theorem dL_law_957 : decode cL_law 957 = .ok (.bipush 20, 2) := by decide +kernel
theorem dL_law_959 : decode cL_law 959 = .ok (.goto 4, 3) := by decide +kernel
theorem dL_law_962 : decode cL_law 962 = .ok (.iconst 4, 1) := by decide +kernel
theorem dL_law_963 : decode cL_law 963 = .ok (.invokevirtual 128, 3) := by decide +kernel
theorem dL_law_966 : decode cL_law 966 = .ok (.istore 23, 2) := by decide +kernel
theorem dL_law_968 : decode cL_law 968 = .ok (.iload 23, 2) := by decide +kernel
theorem dL_law_970 : decode cL_law 970 = .ok (.ifCond .le 7, 3) := by decide +kernel
theorem dL_law_973 : decode cL_law 973 = .ok (.iconst 1, 1) := by decide +kernel
theorem dL_law_974 : decode cL_law 974 = .ok (.goto 4, 3) := by decide +kernel
theorem dL_law_977 : decode cL_law 977 = .ok (.iconst 0, 1) := by decide +kernel
theorem dL_law_978 : decode cL_law 978 = .ok (.istore 11, 2) := by decide +kernel
theorem dL_law_980 : decode cL_law 980 = .ok (.aload 6, 2) := by decide +kernel
theorem dL_law_982 : decode cL_law 982 = .ok (.iconst 3, 1) := by decide +kernel
theorem dL_law_983 : decode cL_law 983 = .ok (.invokevirtual 263, 3) := by decide +kernel
theorem dL_law_986 : decode cL_law 986 = .ok (.istore 24, 2) := by decide +kernel
theorem dL_law_988 : decode cL_law 988 = .ok (.iconst 0, 1) := by decide +kernel
theorem dL_law_989 : decode cL_law 989 = .ok (.istore 25, 2) := by decide +kernel
theorem dL_law_991 : decode cL_law 991 = .ok (.iload 25, 2) := by decide +kernel
theorem dL_law_993 : decode cL_law 993 = .ok (.iload 23, 2) := by decide +kernel
theorem dL_law_995 : decode cL_law 995 = .ok (.if_icmp .ge 14, 3) := by decide +kernel
theorem dL_law_998 : decode cL_law 998 = .ok (.aload 6, 2) := by decide +kernel
theorem dL_law_1000 : decode cL_law 1000 = .ok (.invokevirtual 266, 3) := by decide +kernel
theorem dL_law_1003 : decode cL_law 1003 = .ok (.iinc 25 1, 3) := by decide +kernel
theorem dL_law_1006 : decode cL_law 1006 = .ok (.goto (-15), 3) := by decide +kernel
theorem dL_law_1009 : decode cL_law 1009 = .ok (.aload_n 3, 1) := by decide +kernel
theorem dL_law_1010 : decode cL_law 1010 = .ok (.iload 23, 2) := by decide +kernel
theorem dL_law_1012 : decode cL_law 1012 = .ok (.invokestatic 241, 3) := by decide +kernel
theorem dL_law_1015 : decode cL_law 1015 = .ok (.iload 11, 2) := by decide +kernel
theorem dL_law_1017 : decode cL_law 1017 = .ok (.ifCond .eq 15, 3) := by decide +kernel
theorem dL_law_1020 : decode cL_law 1020 = .ok (.aload 6, 2) := by decide +kernel
theorem dL_law_1022 : decode cL_law 1022 = .ok (.iconst 3, 1) := by decide +kernel
theorem dL_law_1023 : decode cL_law 1023 = .ok (.invokevirtual 263, 3) := by decide +kernel
theorem dL_law_1026 : decode cL_law 1026 = .ok (.iload 24, 2) := by decide +kernel
theorem dL_law_1028 : decode cL_law 1028 = .ok (.isub, 1) := by decide +kernel
theorem dL_law_1029 : decode cL_law 1029 = .ok (.goto 5, 3) := by decide +kernel
theorem dL_law_1032 : decode cL_law 1032 = .ok (.ldc 42, 2) := by decide +kernel
theorem dL_law_1034 : decode cL_law 1034 = .ok (.if_icmp .ne 7, 3) := by decide +kernel
theorem dL_law_1037 : decode cL_law 1037 = .ok (.iconst 1, 1) := by decide +kernel
theorem dL_law_1038 : decode cL_law 1038 = .ok (.goto 4, 3) := by decide +kernel
theorem dL_law_1041 : decode cL_law 1041 = .ok (.iconst 0, 1) := by decide +kernel
theorem dL_law_1042 : decode cL_law 1042 = .ok (.istore_n 1, 1) := by decide +kernel
theorem dL_law_1043 : decode cL_law 1043 = .ok (.iload 11, 2) := by decide +kernel
theorem dL_law_1045 : decode cL_law 1045 = .ok (.ifCond .eq 39, 3) := by decide +kernel
theorem dL_law_1048 : decode cL_law 1048 = .ok (.bipush 8, 2) := by decide +kernel
theorem dL_law_1050 : decode cL_law 1050 = .ok (.istore 16, 2) := by decide +kernel
theorem dL_law_1052 : decode cL_law 1052 = .ok (.iload 16, 2) := by decide +kernel
theorem dL_law_1054 : decode cL_law 1054 = .ok (.ifCond .le 21, 3) := by decide +kernel
theorem dL_law_1057 : decode cL_law 1057 = .ok (.aload 7, 2) := by decide +kernel
theorem dL_law_1059 : decode cL_law 1059 = .ok (.iload 16, 2) := by decide +kernel
theorem dL_law_1061 : decode cL_law 1061 = .ok (.aload 7, 2) := by decide +kernel
theorem dL_law_1063 : decode cL_law 1063 = .ok (.iload 16, 2) := by decide +kernel
theorem dL_law_1065 : decode cL_law 1065 = .ok (.iconst 1, 1) := by decide +kernel
theorem dL_law_1066 : decode cL_law 1066 = .ok (.isub, 1) := by decide +kernel
theorem dL_law_1067 : decode cL_law 1067 = .ok (.aaload, 1) := by decide +kernel
theorem dL_law_1068 : decode cL_law 1068 = .ok (.aastore, 1) := by decide +kernel
theorem dL_law_1069 : decode cL_law 1069 = .ok (.iinc 16 (-1), 3) := by decide +kernel
theorem dL_law_1072 : decode cL_law 1072 = .ok (.goto (-20), 3) := by decide +kernel
theorem dL_law_1075 : decode cL_law 1075 = .ok (.aload 7, 2) := by decide +kernel
theorem dL_law_1077 : decode cL_law 1077 = .ok (.iconst 0, 1) := by decide +kernel
theorem dL_law_1078 : decode cL_law 1078 = .ok (.aload 10, 2) := by decide +kernel
theorem dL_law_1080 : decode cL_law 1080 = .ok (.aastore, 1) := by decide +kernel
theorem dL_law_1081 : decode cL_law 1081 = .ok (.iinc 8 1, 3) := by decide +kernel
theorem dL_law_1084 : decode cL_law 1084 = .ok (.iload_n 1, 1) := by decide +kernel
theorem dL_law_1085 : decode cL_law 1085 = .ok (.ifCond .eq 16, 3) := by decide +kernel
theorem dL_law_1088 : decode cL_law 1088 = .ok (.aload_n 3, 1) := by decide +kernel
theorem dL_law_1089 : decode cL_law 1089 = .ok (.aload 6, 2) := by decide +kernel
theorem dL_law_1091 : decode cL_law 1091 = .ok (.invokestatic 231, 3) := by decide +kernel
theorem dL_law_1094 : decode cL_law 1094 = .ok (.ifCond .eq 7, 3) := by decide +kernel
theorem dL_law_1097 : decode cL_law 1097 = .ok (.iconst 1, 1) := by decide +kernel
theorem dL_law_1098 : decode cL_law 1098 = .ok (.goto 4, 3) := by decide +kernel
theorem dL_law_1101 : decode cL_law 1101 = .ok (.iconst 0, 1) := by decide +kernel
theorem dL_law_1102 : decode cL_law 1102 = .ok (.istore_n 1, 1) := by decide +kernel
theorem dL_law_1103 : decode cL_law 1103 = .ok (.iinc 9 1, 3) := by decide +kernel
theorem dL_law_1106 : decode cL_law 1106 = .ok (.goto (-925), 3) := by decide +kernel
theorem dL_law_1109 : decode cL_law 1109 = .ok (.iconst 0, 1) := by decide +kernel
theorem dL_law_1110 : decode cL_law 1110 = .ok (.istore 9, 2) := by decide +kernel
theorem dL_law_1112 : decode cL_law 1112 = .ok (.iload 9, 2) := by decide +kernel
theorem dL_law_1114 : decode cL_law 1114 = .ok (.bipush 8, 2) := by decide +kernel
theorem dL_law_1116 : decode cL_law 1116 = .ok (.if_icmp .ge 45, 3) := by decide +kernel
theorem dL_law_1119 : decode cL_law 1119 = .ok (.iload 9, 2) := by decide +kernel
theorem dL_law_1121 : decode cL_law 1121 = .ok (.iload 8, 2) := by decide +kernel
theorem dL_law_1123 : decode cL_law 1123 = .ok (.if_icmp .ge 38, 3) := by decide +kernel
theorem dL_law_1126 : decode cL_law 1126 = .ok (.iload_n 1, 1) := by decide +kernel
theorem dL_law_1127 : decode cL_law 1127 = .ok (.ifCond .eq 34, 3) := by decide +kernel
theorem dL_law_1130 : decode cL_law 1130 = .ok (.aload_n 3, 1) := by decide +kernel
theorem dL_law_1131 : decode cL_law 1131 = .ok (.invokevirtual 238, 3) := by decide +kernel
theorem dL_law_1134 : decode cL_law 1134 = .ok (.ifCond .lt 19, 3) := by decide +kernel
theorem dL_law_1137 : decode cL_law 1137 = .ok (.aload_n 3, 1) := by decide +kernel
theorem dL_law_1138 : decode cL_law 1138 = .ok (.aload 7, 2) := by decide +kernel
theorem dL_law_1140 : decode cL_law 1140 = .ok (.iload 9, 2) := by decide +kernel
theorem dL_law_1142 : decode cL_law 1142 = .ok (.aaload, 1) := by decide +kernel
theorem dL_law_1143 : decode cL_law 1143 = .ok (.invokestatic 231, 3) := by decide +kernel
theorem dL_law_1146 : decode cL_law 1146 = .ok (.ifCond .eq 7, 3) := by decide +kernel
theorem dL_law_1149 : decode cL_law 1149 = .ok (.iconst 1, 1) := by decide +kernel
theorem dL_law_1150 : decode cL_law 1150 = .ok (.goto 4, 3) := by decide +kernel
theorem dL_law_1153 : decode cL_law 1153 = .ok (.iconst 0, 1) := by decide +kernel
theorem dL_law_1154 : decode cL_law 1154 = .ok (.istore_n 1, 1) := by decide +kernel
theorem dL_law_1155 : decode cL_law 1155 = .ok (.iinc 9 1, 3) := by decide +kernel
theorem dL_law_1158 : decode cL_law 1158 = .ok (.goto (-46), 3) := by decide +kernel
theorem dL_law_1161 : decode cL_law 1161 = .ok (.iload_n 1, 1) := by decide +kernel
theorem dL_law_1162 : decode cL_law 1162 = .ok (.ifCond .eq 61, 3) := by decide +kernel
theorem dL_law_1165 : decode cL_law 1165 = .ok (.aload_n 3, 1) := by decide +kernel
theorem dL_law_1166 : decode cL_law 1166 = .ok (.iconst 1, 1) := by decide +kernel
theorem dL_law_1167 : decode cL_law 1167 = .ok (.invokestatic 19, 3) := by decide +kernel
theorem dL_law_1170 : decode cL_law 1170 = .ok (.ldc 42, 2) := by decide +kernel
theorem dL_law_1172 : decode cL_law 1172 = .ok (.if_icmp .ne 51, 3) := by decide +kernel
theorem dL_law_1175 : decode cL_law 1175 = .ok (.aload_n 3, 1) := by decide +kernel
theorem dL_law_1176 : decode cL_law 1176 = .ok (.iconst (-1), 1) := by decide +kernel
theorem dL_law_1177 : decode cL_law 1177 = .ok (.iconst 0, 1) := by decide +kernel
theorem dL_law_1178 : decode cL_law 1178 = .ok (.invokestatic 269, 3) := by decide +kernel
theorem dL_law_1181 : decode cL_law 1181 = .ok (.ldc 52, 2) := by decide +kernel
theorem dL_law_1183 : decode cL_law 1183 = .ok (.if_icmp .ne 40, 3) := by decide +kernel
theorem dL_law_1186 : decode cL_law 1186 = .ok (.aload_n 3, 1) := by decide +kernel
theorem dL_law_1187 : decode cL_law 1187 = .ok (.bipush 6, 2) := by decide +kernel
theorem dL_law_1189 : decode cL_law 1189 = .ok (.iconst 0, 1) := by decide +kernel
theorem dL_law_1190 : decode cL_law 1190 = .ok (.invokestatic 271, 3) := by decide +kernel
theorem dL_law_1193 : decode cL_law 1193 = .ok (.ldc 52, 2) := by decide +kernel
theorem dL_law_1195 : decode cL_law 1195 = .ok (.if_icmp .ne 28, 3) := by decide +kernel
theorem dL_law_1198 : decode cL_law 1198 = .ok (.aload_n 3, 1) := by decide +kernel
theorem dL_law_1199 : decode cL_law 1199 = .ok (.iconst (-1), 1) := by decide +kernel
theorem dL_law_1200 : decode cL_law 1200 = .ok (.invokestatic 273, 3) := by decide +kernel
theorem dL_law_1203 : decode cL_law 1203 = .ok (.ldc 52, 2) := by decide +kernel
theorem dL_law_1205 : decode cL_law 1205 = .ok (.if_icmp .ne 18, 3) := by decide +kernel
theorem dL_law_1208 : decode cL_law 1208 = .ok (.aload_n 3, 1) := by decide +kernel
theorem dL_law_1209 : decode cL_law 1209 = .ok (.bipush 40, 2) := by decide +kernel
theorem dL_law_1211 : decode cL_law 1211 = .ok (.invokestatic 275, 3) := by decide +kernel
theorem dL_law_1214 : decode cL_law 1214 = .ok (.ldc 52, 2) := by decide +kernel
theorem dL_law_1216 : decode cL_law 1216 = .ok (.if_icmp .ne 7, 3) := by decide +kernel
theorem dL_law_1219 : decode cL_law 1219 = .ok (.iconst 1, 1) := by decide +kernel
theorem dL_law_1220 : decode cL_law 1220 = .ok (.goto 4, 3) := by decide +kernel
theorem dL_law_1223 : decode cL_law 1223 = .ok (.iconst 0, 1) := by decide +kernel
theorem dL_law_1224 : decode cL_law 1224 = .ok (.istore_n 1, 1) := by decide +kernel
theorem dL_law_1225 : decode cL_law 1225 = .ok (.iinc 2 1, 3) := by decide +kernel
theorem dL_law_1228 : decode cL_law 1228 = .ok (.goto (-1224), 3) := by decide +kernel
theorem dL_law_1231 : decode cL_law 1231 = .ok (.iload_n 1, 1) := by decide +kernel
theorem dL_law_1232 : decode cL_law 1232 = .ok (.ireturn, 1) := by decide +kernel
theorem dJ5_init_d00df_0 : decode cJ5_init_d00df 0 = .ok (.aload_n 0, 1) := by decide +kernel
theorem dJ5_init_d00df_1 : decode cJ5_init_d00df 1 = .ok (.invokespecial 3, 3) := by decide +kernel
theorem dJ5_init_d00df_4 : decode cJ5_init_d00df 4 = .ok (.getstatic 18, 3) := by decide +kernel
theorem dJ5_init_d00df_7 : decode cJ5_init_d00df 7 = .ok (.ifCond .eq 18, 3) := by decide +kernel
theorem dJ5_init_d00df_10 : decode cJ5_init_d00df 10 = .ok (.aload_n 0, 1) := by decide +kernel
theorem dJ5_init_d00df_11 : decode cJ5_init_d00df 11 = .ok (.iload_n 1, 1) := by decide +kernel
theorem dJ5_init_d00df_12 : decode cJ5_init_d00df 12 = .ok (.newarray .byte, 2) := by decide +kernel
theorem dJ5_init_d00df_14 : decode cJ5_init_d00df 14 = .ok (.putfield 15, 3) := by decide +kernel
theorem dJ5_init_d00df_17 : decode cJ5_init_d00df 17 = .ok (.aload_n 0, 1) := by decide +kernel
theorem dJ5_init_d00df_18 : decode cJ5_init_d00df 18 = .ok (.iconst 0, 1) := by decide +kernel
theorem dJ5_init_d00df_19 : decode cJ5_init_d00df 19 = .ok (.putfield 22, 3) := by decide +kernel
theorem dJ5_init_d00df_22 : decode cJ5_init_d00df 22 = .ok (.goto 16, 3) := by decide +kernel
theorem dJ5_init_d00df_25 : decode cJ5_init_d00df 25 = .ok (.aload_n 0, 1) := by decide +kernel
theorem dJ5_init_d00df_26 : decode cJ5_init_d00df 26 = .ok (.iload_n 1, 1) := by decide +kernel
theorem dJ5_init_d00df_27 : decode cJ5_init_d00df 27 = .ok (.invokestatic 26, 3) := by decide +kernel
theorem dJ5_init_d00df_30 : decode cJ5_init_d00df 30 = .ok (.putfield 15, 3) := by decide +kernel
theorem dJ5_init_d00df_33 : decode cJ5_init_d00df 33 = .ok (.aload_n 0, 1) := by decide +kernel
theorem dJ5_init_d00df_34 : decode cJ5_init_d00df 34 = .ok (.iconst 1, 1) := by decide +kernel
theorem dJ5_init_d00df_35 : decode cJ5_init_d00df 35 = .ok (.putfield 22, 3) := by decide +kernel
theorem dJ5_init_d00df_38 : decode cJ5_init_d00df 38 = .ok (.return_, 1) := by decide +kernel
theorem dJ5_length_8abf5_0 : decode cJ5_length_8abf5 0 = .ok (.aload_n 0, 1) := by decide +kernel
theorem dJ5_length_8abf5_1 : decode cJ5_length_8abf5 1 = .ok (.getfield 79, 3) := by decide +kernel
theorem dJ5_length_8abf5_4 : decode cJ5_length_8abf5 4 = .ok (.ireturn, 1) := by decide +kernel
theorem dJ5_ensureCapacityInternal_d00df_0 : decode cJ5_ensureCapacityInternal_d00df 0 = .ok (.aload_n 0, 1) := by decide +kernel
theorem dJ5_ensureCapacityInternal_d00df_1 : decode cJ5_ensureCapacityInternal_d00df 1 = .ok (.getfield 15, 3) := by decide +kernel
theorem dJ5_ensureCapacityInternal_d00df_4 : decode cJ5_ensureCapacityInternal_d00df 4 = .ok (.arraylength, 1) := by decide +kernel
theorem dJ5_ensureCapacityInternal_d00df_5 : decode cJ5_ensureCapacityInternal_d00df 5 = .ok (.aload_n 0, 1) := by decide +kernel
theorem dJ5_ensureCapacityInternal_d00df_6 : decode cJ5_ensureCapacityInternal_d00df 6 = .ok (.getfield 22, 3) := by decide +kernel
theorem dJ5_ensureCapacityInternal_d00df_9 : decode cJ5_ensureCapacityInternal_d00df 9 = .ok (.ishr, 1) := by decide +kernel
theorem dJ5_ensureCapacityInternal_d00df_10 : decode cJ5_ensureCapacityInternal_d00df 10 = .ok (.istore_n 2, 1) := by decide +kernel
theorem dJ5_ensureCapacityInternal_d00df_11 : decode cJ5_ensureCapacityInternal_d00df 11 = .ok (.iload_n 1, 1) := by decide +kernel
theorem dJ5_ensureCapacityInternal_d00df_12 : decode cJ5_ensureCapacityInternal_d00df 12 = .ok (.iload_n 2, 1) := by decide +kernel
theorem dJ5_ensureCapacityInternal_d00df_13 : decode cJ5_ensureCapacityInternal_d00df 13 = .ok (.isub, 1) := by decide +kernel
theorem dJ5_ensureCapacityInternal_d00df_14 : decode cJ5_ensureCapacityInternal_d00df 14 = .ok (.ifCond .le 24, 3) := by decide +kernel
theorem dJ5_ensureCapacityInternal_d00df_17 : decode cJ5_ensureCapacityInternal_d00df 17 = .ok (.aload_n 0, 1) := by decide +kernel
theorem dJ5_ensureCapacityInternal_d00df_18 : decode cJ5_ensureCapacityInternal_d00df 18 = .ok (.aload_n 0, 1) := by decide +kernel
theorem dJ5_ensureCapacityInternal_d00df_19 : decode cJ5_ensureCapacityInternal_d00df 19 = .ok (.getfield 15, 3) := by decide +kernel
theorem dJ5_ensureCapacityInternal_d00df_22 : decode cJ5_ensureCapacityInternal_d00df 22 = .ok (.aload_n 0, 1) := by decide +kernel
theorem dJ5_ensureCapacityInternal_d00df_23 : decode cJ5_ensureCapacityInternal_d00df 23 = .ok (.iload_n 1, 1) := by decide +kernel
theorem dJ5_ensureCapacityInternal_d00df_24 : decode cJ5_ensureCapacityInternal_d00df 24 = .ok (.invokevirtual 104, 3) := by decide +kernel
theorem dJ5_ensureCapacityInternal_d00df_27 : decode cJ5_ensureCapacityInternal_d00df 27 = .ok (.aload_n 0, 1) := by decide +kernel
theorem dJ5_ensureCapacityInternal_d00df_28 : decode cJ5_ensureCapacityInternal_d00df 28 = .ok (.getfield 22, 3) := by decide +kernel
theorem dJ5_ensureCapacityInternal_d00df_31 : decode cJ5_ensureCapacityInternal_d00df 31 = .ok (.ishl, 1) := by decide +kernel
theorem dJ5_ensureCapacityInternal_d00df_32 : decode cJ5_ensureCapacityInternal_d00df 32 = .ok (.invokestatic 108, 3) := by decide +kernel
theorem dJ5_ensureCapacityInternal_d00df_35 : decode cJ5_ensureCapacityInternal_d00df 35 = .ok (.putfield 15, 3) := by decide +kernel
theorem dJ5_ensureCapacityInternal_d00df_38 : decode cJ5_ensureCapacityInternal_d00df 38 = .ok (.return_, 1) := by decide +kernel
theorem dJ5_newCapacity_0f7a4_0 : decode cJ5_newCapacity_0f7a4 0 = .ok (.aload_n 0, 1) := by decide +kernel
theorem dJ5_newCapacity_0f7a4_1 : decode cJ5_newCapacity_0f7a4 1 = .ok (.getfield 15, 3) := by decide +kernel
theorem dJ5_newCapacity_0f7a4_4 : decode cJ5_newCapacity_0f7a4 4 = .ok (.arraylength, 1) := by decide +kernel
theorem dJ5_newCapacity_0f7a4_5 : decode cJ5_newCapacity_0f7a4 5 = .ok (.istore_n 2, 1) := by decide +kernel
theorem dJ5_newCapacity_0f7a4_6 : decode cJ5_newCapacity_0f7a4 6 = .ok (.iload_n 1, 1) := by decide +kernel
theorem dJ5_newCapacity_0f7a4_7 : decode cJ5_newCapacity_0f7a4 7 = .ok (.aload_n 0, 1) := by decide +kernel
theorem dJ5_newCapacity_0f7a4_8 : decode cJ5_newCapacity_0f7a4 8 = .ok (.getfield 22, 3) := by decide +kernel
theorem dJ5_newCapacity_0f7a4_11 : decode cJ5_newCapacity_0f7a4 11 = .ok (.ishl, 1) := by decide +kernel
theorem dJ5_newCapacity_0f7a4_12 : decode cJ5_newCapacity_0f7a4 12 = .ok (.istore_n 3, 1) := by decide +kernel
theorem dJ5_newCapacity_0f7a4_13 : decode cJ5_newCapacity_0f7a4 13 = .ok (.iload_n 3, 1) := by decide +kernel
theorem dJ5_newCapacity_0f7a4_14 : decode cJ5_newCapacity_0f7a4 14 = .ok (.iload_n 2, 1) := by decide +kernel
theorem dJ5_newCapacity_0f7a4_15 : decode cJ5_newCapacity_0f7a4 15 = .ok (.isub, 1) := by decide +kernel
theorem dJ5_newCapacity_0f7a4_16 : decode cJ5_newCapacity_0f7a4 16 = .ok (.istore 4, 2) := by decide +kernel
theorem dJ5_newCapacity_0f7a4_18 : decode cJ5_newCapacity_0f7a4 18 = .ok (.iload_n 2, 1) := by decide +kernel
theorem dJ5_newCapacity_0f7a4_19 : decode cJ5_newCapacity_0f7a4 19 = .ok (.iload 4, 2) := by decide +kernel
theorem dJ5_newCapacity_0f7a4_21 : decode cJ5_newCapacity_0f7a4 21 = .ok (.iload_n 2, 1) := by decide +kernel
theorem dJ5_newCapacity_0f7a4_22 : decode cJ5_newCapacity_0f7a4 22 = .ok (.iconst 2, 1) := by decide +kernel
theorem dJ5_newCapacity_0f7a4_23 : decode cJ5_newCapacity_0f7a4 23 = .ok (.aload_n 0, 1) := by decide +kernel
theorem dJ5_newCapacity_0f7a4_24 : decode cJ5_newCapacity_0f7a4 24 = .ok (.getfield 22, 3) := by decide +kernel
theorem dJ5_newCapacity_0f7a4_27 : decode cJ5_newCapacity_0f7a4 27 = .ok (.ishl, 1) := by decide +kernel
theorem dJ5_newCapacity_0f7a4_28 : decode cJ5_newCapacity_0f7a4 28 = .ok (.iadd, 1) := by decide +kernel
theorem dJ5_newCapacity_0f7a4_29 : decode cJ5_newCapacity_0f7a4 29 = .ok (.invokestatic 114, 3) := by decide +kernel
theorem dJ5_newCapacity_0f7a4_32 : decode cJ5_newCapacity_0f7a4 32 = .ok (.istore 5, 2) := by decide +kernel
theorem dJ5_newCapacity_0f7a4_34 : decode cJ5_newCapacity_0f7a4 34 = .ok (.iload 5, 2) := by decide +kernel
theorem dJ5_newCapacity_0f7a4_36 : decode cJ5_newCapacity_0f7a4 36 = .ok (.ldc 39, 2) := by decide +kernel
theorem dJ5_newCapacity_0f7a4_38 : decode cJ5_newCapacity_0f7a4 38 = .ok (.if_icmp .ne 13, 3) := by decide +kernel
theorem dJ5_newCapacity_0f7a4_41 : decode cJ5_newCapacity_0f7a4 41 = .ok (.new 120, 3) := by decide +kernel
theorem dJ5_newCapacity_0f7a4_44 : decode cJ5_newCapacity_0f7a4 44 = .ok (.dup, 1) := by decide +kernel
theorem dJ5_newCapacity_0f7a4_45 : decode cJ5_newCapacity_0f7a4 45 = .ok (.ldc 122, 2) := by decide +kernel
theorem dJ5_newCapacity_0f7a4_47 : decode cJ5_newCapacity_0f7a4 47 = .ok (.invokespecial 124, 3) := by decide +kernel
theorem dJ5_newCapacity_0f7a4_50 : decode cJ5_newCapacity_0f7a4 50 = .ok (.athrow, 1) := by decide +kernel
theorem dJ5_newCapacity_0f7a4_51 : decode cJ5_newCapacity_0f7a4 51 = .ok (.iload 5, 2) := by decide +kernel
theorem dJ5_newCapacity_0f7a4_53 : decode cJ5_newCapacity_0f7a4 53 = .ok (.aload_n 0, 1) := by decide +kernel
theorem dJ5_newCapacity_0f7a4_54 : decode cJ5_newCapacity_0f7a4 54 = .ok (.getfield 22, 3) := by decide +kernel
theorem dJ5_newCapacity_0f7a4_57 : decode cJ5_newCapacity_0f7a4 57 = .ok (.ishr, 1) := by decide +kernel
theorem dJ5_newCapacity_0f7a4_58 : decode cJ5_newCapacity_0f7a4 58 = .ok (.ireturn, 1) := by decide +kernel
theorem dJ5_inflate_da8c8_0 : decode cJ5_inflate_da8c8 0 = .ok (.aload_n 0, 1) := by decide +kernel
theorem dJ5_inflate_da8c8_1 : decode cJ5_inflate_da8c8 1 = .ok (.invokevirtual 83, 3) := by decide +kernel
theorem dJ5_inflate_da8c8_4 : decode cJ5_inflate_da8c8 4 = .ok (.ifCond .ne 4, 3) := by decide +kernel
theorem dJ5_inflate_da8c8_7 : decode cJ5_inflate_da8c8 7 = .ok (.return_, 1) := by decide +kernel
theorem dJ5_inflate_da8c8_8 : decode cJ5_inflate_da8c8 8 = .ok (.aload_n 0, 1) := by decide +kernel
theorem dJ5_inflate_da8c8_9 : decode cJ5_inflate_da8c8 9 = .ok (.getfield 15, 3) := by decide +kernel
theorem dJ5_inflate_da8c8_12 : decode cJ5_inflate_da8c8 12 = .ok (.arraylength, 1) := by decide +kernel
theorem dJ5_inflate_da8c8_13 : decode cJ5_inflate_da8c8 13 = .ok (.invokestatic 26, 3) := by decide +kernel
theorem dJ5_inflate_da8c8_16 : decode cJ5_inflate_da8c8 16 = .ok (.astore_n 1, 1) := by decide +kernel
theorem dJ5_inflate_da8c8_17 : decode cJ5_inflate_da8c8 17 = .ok (.aload_n 0, 1) := by decide +kernel
theorem dJ5_inflate_da8c8_18 : decode cJ5_inflate_da8c8 18 = .ok (.getfield 15, 3) := by decide +kernel
theorem dJ5_inflate_da8c8_21 : decode cJ5_inflate_da8c8 21 = .ok (.iconst 0, 1) := by decide +kernel
theorem dJ5_inflate_da8c8_22 : decode cJ5_inflate_da8c8 22 = .ok (.aload_n 1, 1) := by decide +kernel
theorem dJ5_inflate_da8c8_23 : decode cJ5_inflate_da8c8 23 = .ok (.iconst 0, 1) := by decide +kernel
theorem dJ5_inflate_da8c8_24 : decode cJ5_inflate_da8c8 24 = .ok (.aload_n 0, 1) := by decide +kernel
theorem dJ5_inflate_da8c8_25 : decode cJ5_inflate_da8c8 25 = .ok (.getfield 79, 3) := by decide +kernel
theorem dJ5_inflate_da8c8_28 : decode cJ5_inflate_da8c8 28 = .ok (.invokestatic 125, 3) := by decide +kernel
theorem dJ5_inflate_da8c8_31 : decode cJ5_inflate_da8c8 31 = .ok (.aload_n 0, 1) := by decide +kernel
theorem dJ5_inflate_da8c8_32 : decode cJ5_inflate_da8c8 32 = .ok (.aload_n 1, 1) := by decide +kernel
theorem dJ5_inflate_da8c8_33 : decode cJ5_inflate_da8c8 33 = .ok (.putfield 15, 3) := by decide +kernel
theorem dJ5_inflate_da8c8_36 : decode cJ5_inflate_da8c8 36 = .ok (.aload_n 0, 1) := by decide +kernel
theorem dJ5_inflate_da8c8_37 : decode cJ5_inflate_da8c8 37 = .ok (.iconst 1, 1) := by decide +kernel
theorem dJ5_inflate_da8c8_38 : decode cJ5_inflate_da8c8 38 = .ok (.putfield 22, 3) := by decide +kernel
theorem dJ5_inflate_da8c8_41 : decode cJ5_inflate_da8c8 41 = .ok (.return_, 1) := by decide +kernel
theorem dJ5_append_cf1ce_0 : decode cJ5_append_cf1ce 0 = .ok (.aload_n 1, 1) := by decide +kernel
theorem dJ5_append_cf1ce_1 : decode cJ5_append_cf1ce 1 = .ok (.ifnonnull 8, 3) := by decide +kernel
theorem dJ5_append_cf1ce_4 : decode cJ5_append_cf1ce 4 = .ok (.aload_n 0, 1) := by decide +kernel
theorem dJ5_append_cf1ce_5 : decode cJ5_append_cf1ce 5 = .ok (.invokevirtual 204, 3) := by decide +kernel
theorem dJ5_append_cf1ce_8 : decode cJ5_append_cf1ce 8 = .ok (.areturn, 1) := by decide +kernel
theorem dJ5_append_cf1ce_9 : decode cJ5_append_cf1ce 9 = .ok (.aload_n 1, 1) := by decide +kernel
theorem dJ5_append_cf1ce_10 : decode cJ5_append_cf1ce 10 = .ok (.invokevirtual 32, 3) := by decide +kernel
theorem dJ5_append_cf1ce_13 : decode cJ5_append_cf1ce 13 = .ok (.istore_n 2, 1) := by decide +kernel
theorem dJ5_append_cf1ce_14 : decode cJ5_append_cf1ce 14 = .ok (.aload_n 0, 1) := by decide +kernel
theorem dJ5_append_cf1ce_15 : decode cJ5_append_cf1ce 15 = .ok (.aload_n 0, 1) := by decide +kernel
theorem dJ5_append_cf1ce_16 : decode cJ5_append_cf1ce 16 = .ok (.getfield 79, 3) := by decide +kernel
theorem dJ5_append_cf1ce_19 : decode cJ5_append_cf1ce 19 = .ok (.iload_n 2, 1) := by decide +kernel
theorem dJ5_append_cf1ce_20 : decode cJ5_append_cf1ce 20 = .ok (.iadd, 1) := by decide +kernel
theorem dJ5_append_cf1ce_21 : decode cJ5_append_cf1ce 21 = .ok (.invokevirtual 100, 3) := by decide +kernel
theorem dJ5_append_cf1ce_24 : decode cJ5_append_cf1ce 24 = .ok (.aload_n 0, 1) := by decide +kernel
theorem dJ5_append_cf1ce_25 : decode cJ5_append_cf1ce 25 = .ok (.aload_n 0, 1) := by decide +kernel
theorem dJ5_append_cf1ce_26 : decode cJ5_append_cf1ce 26 = .ok (.getfield 79, 3) := by decide +kernel
theorem dJ5_append_cf1ce_29 : decode cJ5_append_cf1ce 29 = .ok (.aload_n 1, 1) := by decide +kernel
theorem dJ5_append_cf1ce_30 : decode cJ5_append_cf1ce 30 = .ok (.invokevirtual 208, 3) := by decide +kernel
theorem dJ5_append_cf1ce_33 : decode cJ5_append_cf1ce 33 = .ok (.aload_n 0, 1) := by decide +kernel
theorem dJ5_append_cf1ce_34 : decode cJ5_append_cf1ce 34 = .ok (.dup, 1) := by decide +kernel
theorem dJ5_append_cf1ce_35 : decode cJ5_append_cf1ce 35 = .ok (.getfield 79, 3) := by decide +kernel
theorem dJ5_append_cf1ce_38 : decode cJ5_append_cf1ce 38 = .ok (.iload_n 2, 1) := by decide +kernel
theorem dJ5_append_cf1ce_39 : decode cJ5_append_cf1ce 39 = .ok (.iadd, 1) := by decide +kernel
theorem dJ5_append_cf1ce_40 : decode cJ5_append_cf1ce 40 = .ok (.putfield 79, 3) := by decide +kernel
theorem dJ5_append_cf1ce_43 : decode cJ5_append_cf1ce 43 = .ok (.aload_n 0, 1) := by decide +kernel
theorem dJ5_append_cf1ce_44 : decode cJ5_append_cf1ce 44 = .ok (.areturn, 1) := by decide +kernel
theorem dJ5_appendNull_278bc_0 : decode cJ5_appendNull_278bc 0 = .ok (.aload_n 0, 1) := by decide +kernel
theorem dJ5_appendNull_278bc_1 : decode cJ5_appendNull_278bc 1 = .ok (.aload_n 0, 1) := by decide +kernel
theorem dJ5_appendNull_278bc_2 : decode cJ5_appendNull_278bc 2 = .ok (.getfield 79, 3) := by decide +kernel
theorem dJ5_appendNull_278bc_5 : decode cJ5_appendNull_278bc 5 = .ok (.iconst 4, 1) := by decide +kernel
theorem dJ5_appendNull_278bc_6 : decode cJ5_appendNull_278bc 6 = .ok (.iadd, 1) := by decide +kernel
theorem dJ5_appendNull_278bc_7 : decode cJ5_appendNull_278bc 7 = .ok (.invokevirtual 100, 3) := by decide +kernel
theorem dJ5_appendNull_278bc_10 : decode cJ5_appendNull_278bc 10 = .ok (.aload_n 0, 1) := by decide +kernel
theorem dJ5_appendNull_278bc_11 : decode cJ5_appendNull_278bc 11 = .ok (.getfield 79, 3) := by decide +kernel
theorem dJ5_appendNull_278bc_14 : decode cJ5_appendNull_278bc 14 = .ok (.istore_n 1, 1) := by decide +kernel
theorem dJ5_appendNull_278bc_15 : decode cJ5_appendNull_278bc 15 = .ok (.aload_n 0, 1) := by decide +kernel
theorem dJ5_appendNull_278bc_16 : decode cJ5_appendNull_278bc 16 = .ok (.getfield 15, 3) := by decide +kernel
theorem dJ5_appendNull_278bc_19 : decode cJ5_appendNull_278bc 19 = .ok (.astore_n 2, 1) := by decide +kernel
theorem dJ5_appendNull_278bc_20 : decode cJ5_appendNull_278bc 20 = .ok (.aload_n 0, 1) := by decide +kernel
theorem dJ5_appendNull_278bc_21 : decode cJ5_appendNull_278bc 21 = .ok (.invokevirtual 83, 3) := by decide +kernel
theorem dJ5_appendNull_278bc_24 : decode cJ5_appendNull_278bc 24 = .ok (.ifCond .eq 38, 3) := by decide +kernel
theorem dJ5_appendNull_278bc_27 : decode cJ5_appendNull_278bc 27 = .ok (.aload_n 2, 1) := by decide +kernel
theorem dJ5_appendNull_278bc_28 : decode cJ5_appendNull_278bc 28 = .ok (.iload_n 1, 1) := by decide +kernel
theorem dJ5_appendNull_278bc_29 : decode cJ5_appendNull_278bc 29 = .ok (.iinc 1 1, 3) := by decide +kernel
theorem dJ5_appendNull_278bc_32 : decode cJ5_appendNull_278bc 32 = .ok (.bipush 110, 2) := by decide +kernel
theorem dJ5_appendNull_278bc_34 : decode cJ5_appendNull_278bc 34 = .ok (.bastore, 1) := by decide +kernel
theorem dJ5_appendNull_278bc_35 : decode cJ5_appendNull_278bc 35 = .ok (.aload_n 2, 1) := by decide +kernel
theorem dJ5_appendNull_278bc_36 : decode cJ5_appendNull_278bc 36 = .ok (.iload_n 1, 1) := by decide +kernel
theorem dJ5_appendNull_278bc_37 : decode cJ5_appendNull_278bc 37 = .ok (.iinc 1 1, 3) := by decide +kernel
theorem dJ5_appendNull_278bc_40 : decode cJ5_appendNull_278bc 40 = .ok (.bipush 117, 2) := by decide +kernel
theorem dJ5_appendNull_278bc_42 : decode cJ5_appendNull_278bc 42 = .ok (.bastore, 1) := by decide +kernel
theorem dJ5_appendNull_278bc_43 : decode cJ5_appendNull_278bc 43 = .ok (.aload_n 2, 1) := by decide +kernel
theorem dJ5_appendNull_278bc_44 : decode cJ5_appendNull_278bc 44 = .ok (.iload_n 1, 1) := by decide +kernel
theorem dJ5_appendNull_278bc_45 : decode cJ5_appendNull_278bc 45 = .ok (.iinc 1 1, 3) := by decide +kernel
theorem dJ5_appendNull_278bc_48 : decode cJ5_appendNull_278bc 48 = .ok (.bipush 108, 2) := by decide +kernel
theorem dJ5_appendNull_278bc_50 : decode cJ5_appendNull_278bc 50 = .ok (.bastore, 1) := by decide +kernel
theorem dJ5_appendNull_278bc_51 : decode cJ5_appendNull_278bc 51 = .ok (.aload_n 2, 1) := by decide +kernel
theorem dJ5_appendNull_278bc_52 : decode cJ5_appendNull_278bc 52 = .ok (.iload_n 1, 1) := by decide +kernel
theorem dJ5_appendNull_278bc_53 : decode cJ5_appendNull_278bc 53 = .ok (.iinc 1 1, 3) := by decide +kernel
theorem dJ5_appendNull_278bc_56 : decode cJ5_appendNull_278bc 56 = .ok (.bipush 108, 2) := by decide +kernel
theorem dJ5_appendNull_278bc_58 : decode cJ5_appendNull_278bc 58 = .ok (.bastore, 1) := by decide +kernel
theorem dJ5_appendNull_278bc_59 : decode cJ5_appendNull_278bc 59 = .ok (.goto 17, 3) := by decide +kernel
theorem dJ5_appendNull_278bc_62 : decode cJ5_appendNull_278bc 62 = .ok (.aload_n 2, 1) := by decide +kernel
theorem dJ5_appendNull_278bc_63 : decode cJ5_appendNull_278bc 63 = .ok (.iload_n 1, 1) := by decide +kernel
theorem dJ5_appendNull_278bc_64 : decode cJ5_appendNull_278bc 64 = .ok (.bipush 110, 2) := by decide +kernel
theorem dJ5_appendNull_278bc_66 : decode cJ5_appendNull_278bc 66 = .ok (.bipush 117, 2) := by decide +kernel
theorem dJ5_appendNull_278bc_68 : decode cJ5_appendNull_278bc 68 = .ok (.bipush 108, 2) := by decide +kernel
theorem dJ5_appendNull_278bc_70 : decode cJ5_appendNull_278bc 70 = .ok (.bipush 108, 2) := by decide +kernel
theorem dJ5_appendNull_278bc_72 : decode cJ5_appendNull_278bc 72 = .ok (.invokestatic 226, 3) := by decide +kernel
theorem dJ5_appendNull_278bc_75 : decode cJ5_appendNull_278bc 75 = .ok (.istore_n 1, 1) := by decide +kernel
theorem dJ5_appendNull_278bc_76 : decode cJ5_appendNull_278bc 76 = .ok (.aload_n 0, 1) := by decide +kernel
theorem dJ5_appendNull_278bc_77 : decode cJ5_appendNull_278bc 77 = .ok (.iload_n 1, 1) := by decide +kernel
theorem dJ5_appendNull_278bc_78 : decode cJ5_appendNull_278bc 78 = .ok (.putfield 79, 3) := by decide +kernel
theorem dJ5_appendNull_278bc_81 : decode cJ5_appendNull_278bc 81 = .ok (.aload_n 0, 1) := by decide +kernel
theorem dJ5_appendNull_278bc_82 : decode cJ5_appendNull_278bc 82 = .ok (.areturn, 1) := by decide +kernel
theorem dJ5_append_c97b9_0 : decode cJ5_append_c97b9 0 = .ok (.aload_n 0, 1) := by decide +kernel
theorem dJ5_append_c97b9_1 : decode cJ5_append_c97b9 1 = .ok (.getfield 79, 3) := by decide +kernel
theorem dJ5_append_c97b9_4 : decode cJ5_append_c97b9 4 = .ok (.istore_n 2, 1) := by decide +kernel
theorem dJ5_append_c97b9_5 : decode cJ5_append_c97b9 5 = .ok (.iload_n 2, 1) := by decide +kernel
theorem dJ5_append_c97b9_6 : decode cJ5_append_c97b9 6 = .ok (.iload_n 1, 1) := by decide +kernel
theorem dJ5_append_c97b9_7 : decode cJ5_append_c97b9 7 = .ok (.invokestatic 245, 3) := by decide +kernel
theorem dJ5_append_c97b9_10 : decode cJ5_append_c97b9 10 = .ok (.iadd, 1) := by decide +kernel
theorem dJ5_append_c97b9_11 : decode cJ5_append_c97b9 11 = .ok (.istore_n 3, 1) := by decide +kernel
theorem dJ5_append_c97b9_12 : decode cJ5_append_c97b9 12 = .ok (.aload_n 0, 1) := by decide +kernel
theorem dJ5_append_c97b9_13 : decode cJ5_append_c97b9 13 = .ok (.iload_n 3, 1) := by decide +kernel
theorem dJ5_append_c97b9_14 : decode cJ5_append_c97b9 14 = .ok (.invokevirtual 100, 3) := by decide +kernel
theorem dJ5_append_c97b9_17 : decode cJ5_append_c97b9 17 = .ok (.aload_n 0, 1) := by decide +kernel
theorem dJ5_append_c97b9_18 : decode cJ5_append_c97b9 18 = .ok (.invokevirtual 83, 3) := by decide +kernel
theorem dJ5_append_c97b9_21 : decode cJ5_append_c97b9 21 = .ok (.ifCond .eq 16, 3) := by decide +kernel
theorem dJ5_append_c97b9_24 : decode cJ5_append_c97b9 24 = .ok (.iload_n 1, 1) := by decide +kernel
theorem dJ5_append_c97b9_25 : decode cJ5_append_c97b9 25 = .ok (.iload_n 3, 1) := by decide +kernel
theorem dJ5_append_c97b9_26 : decode cJ5_append_c97b9 26 = .ok (.aload_n 0, 1) := by decide +kernel
theorem dJ5_append_c97b9_27 : decode cJ5_append_c97b9 27 = .ok (.getfield 15, 3) := by decide +kernel
theorem dJ5_append_c97b9_30 : decode cJ5_append_c97b9 30 = .ok (.invokestatic 248, 3) := by decide +kernel
theorem dJ5_append_c97b9_33 : decode cJ5_append_c97b9 33 = .ok (.pop, 1) := by decide +kernel
theorem dJ5_append_c97b9_34 : decode cJ5_append_c97b9 34 = .ok (.goto 14, 3) := by decide +kernel
theorem dJ5_append_c97b9_37 : decode cJ5_append_c97b9 37 = .ok (.iload_n 1, 1) := by decide +kernel
theorem dJ5_append_c97b9_38 : decode cJ5_append_c97b9 38 = .ok (.iload_n 2, 1) := by decide +kernel
theorem dJ5_append_c97b9_39 : decode cJ5_append_c97b9 39 = .ok (.iload_n 3, 1) := by decide +kernel
theorem dJ5_append_c97b9_40 : decode cJ5_append_c97b9 40 = .ok (.aload_n 0, 1) := by decide +kernel
theorem dJ5_append_c97b9_41 : decode cJ5_append_c97b9 41 = .ok (.getfield 15, 3) := by decide +kernel
theorem dJ5_append_c97b9_44 : decode cJ5_append_c97b9 44 = .ok (.invokestatic 251, 3) := by decide +kernel
theorem dJ5_append_c97b9_47 : decode cJ5_append_c97b9 47 = .ok (.pop, 1) := by decide +kernel
theorem dJ5_append_c97b9_48 : decode cJ5_append_c97b9 48 = .ok (.aload_n 0, 1) := by decide +kernel
theorem dJ5_append_c97b9_49 : decode cJ5_append_c97b9 49 = .ok (.iload_n 3, 1) := by decide +kernel
theorem dJ5_append_c97b9_50 : decode cJ5_append_c97b9 50 = .ok (.putfield 79, 3) := by decide +kernel
theorem dJ5_append_c97b9_53 : decode cJ5_append_c97b9 53 = .ok (.aload_n 0, 1) := by decide +kernel
theorem dJ5_append_c97b9_54 : decode cJ5_append_c97b9 54 = .ok (.areturn, 1) := by decide +kernel
theorem dJ5_getValue_6d5f1_0 : decode cJ5_getValue_6d5f1 0 = .ok (.aload_n 0, 1) := by decide +kernel
theorem dJ5_getValue_6d5f1_1 : decode cJ5_getValue_6d5f1 1 = .ok (.getfield 15, 3) := by decide +kernel
theorem dJ5_getValue_6d5f1_4 : decode cJ5_getValue_6d5f1 4 = .ok (.areturn, 1) := by decide +kernel
theorem dJ5_isLatin1_aae02_0 : decode cJ5_isLatin1_aae02 0 = .ok (.getstatic 18, 3) := by decide +kernel
theorem dJ5_isLatin1_aae02_3 : decode cJ5_isLatin1_aae02 3 = .ok (.ifCond .eq 14, 3) := by decide +kernel
theorem dJ5_isLatin1_aae02_6 : decode cJ5_isLatin1_aae02 6 = .ok (.aload_n 0, 1) := by decide +kernel
theorem dJ5_isLatin1_aae02_7 : decode cJ5_isLatin1_aae02 7 = .ok (.getfield 22, 3) := by decide +kernel
theorem dJ5_isLatin1_aae02_10 : decode cJ5_isLatin1_aae02 10 = .ok (.ifCond .ne 7, 3) := by decide +kernel
theorem dJ5_isLatin1_aae02_13 : decode cJ5_isLatin1_aae02 13 = .ok (.iconst 1, 1) := by decide +kernel
theorem dJ5_isLatin1_aae02_14 : decode cJ5_isLatin1_aae02 14 = .ok (.goto 4, 3) := by decide +kernel
theorem dJ5_isLatin1_aae02_17 : decode cJ5_isLatin1_aae02 17 = .ok (.iconst 0, 1) := by decide +kernel
theorem dJ5_isLatin1_aae02_18 : decode cJ5_isLatin1_aae02 18 = .ok (.ireturn, 1) := by decide +kernel
theorem dJ5_inflateIfNeededFor_a7421_0 : decode cJ5_inflateIfNeededFor_a7421 0 = .ok (.getstatic 18, 3) := by decide +kernel
theorem dJ5_inflateIfNeededFor_a7421_3 : decode cJ5_inflateIfNeededFor_a7421 3 = .ok (.ifCond .eq 18, 3) := by decide +kernel
theorem dJ5_inflateIfNeededFor_a7421_6 : decode cJ5_inflateIfNeededFor_a7421 6 = .ok (.aload_n 0, 1) := by decide +kernel
theorem dJ5_inflateIfNeededFor_a7421_7 : decode cJ5_inflateIfNeededFor_a7421 7 = .ok (.getfield 22, 3) := by decide +kernel
theorem dJ5_inflateIfNeededFor_a7421_10 : decode cJ5_inflateIfNeededFor_a7421 10 = .ok (.aload_n 1, 1) := by decide +kernel
theorem dJ5_inflateIfNeededFor_a7421_11 : decode cJ5_inflateIfNeededFor_a7421 11 = .ok (.invokevirtual 40, 3) := by decide +kernel
theorem dJ5_inflateIfNeededFor_a7421_14 : decode cJ5_inflateIfNeededFor_a7421 14 = .ok (.if_icmp .eq 7, 3) := by decide +kernel
theorem dJ5_inflateIfNeededFor_a7421_17 : decode cJ5_inflateIfNeededFor_a7421 17 = .ok (.aload_n 0, 1) := by decide +kernel
theorem dJ5_inflateIfNeededFor_a7421_18 : decode cJ5_inflateIfNeededFor_a7421 18 = .ok (.invokevirtual 195, 3) := by decide +kernel
theorem dJ5_inflateIfNeededFor_a7421_21 : decode cJ5_inflateIfNeededFor_a7421 21 = .ok (.return_, 1) := by decide +kernel
theorem dJ5_putStringAt_47b60_0 : decode cJ5_putStringAt_47b60 0 = .ok (.aload_n 0, 1) := by decide +kernel
theorem dJ5_putStringAt_47b60_1 : decode cJ5_putStringAt_47b60 1 = .ok (.aload_n 2, 1) := by decide +kernel
theorem dJ5_putStringAt_47b60_2 : decode cJ5_putStringAt_47b60 2 = .ok (.invokevirtual 397, 3) := by decide +kernel
theorem dJ5_putStringAt_47b60_5 : decode cJ5_putStringAt_47b60 5 = .ok (.aload_n 2, 1) := by decide +kernel
theorem dJ5_putStringAt_47b60_6 : decode cJ5_putStringAt_47b60 6 = .ok (.aload_n 0, 1) := by decide +kernel
theorem dJ5_putStringAt_47b60_7 : decode cJ5_putStringAt_47b60 7 = .ok (.getfield 15, 3) := by decide +kernel
theorem dJ5_putStringAt_47b60_10 : decode cJ5_putStringAt_47b60 10 = .ok (.iload_n 1, 1) := by decide +kernel
theorem dJ5_putStringAt_47b60_11 : decode cJ5_putStringAt_47b60 11 = .ok (.aload_n 0, 1) := by decide +kernel
theorem dJ5_putStringAt_47b60_12 : decode cJ5_putStringAt_47b60 12 = .ok (.getfield 22, 3) := by decide +kernel
theorem dJ5_putStringAt_47b60_15 : decode cJ5_putStringAt_47b60 15 = .ok (.invokevirtual 399, 3) := by decide +kernel
theorem dJ5_putStringAt_47b60_18 : decode cJ5_putStringAt_47b60 18 = .ok (.return_, 1) := by decide +kernel
theorem dJ6_getChars_ba4f3_0 : decode cJ6_getChars_ba4f3 0 = .ok (.iload_n 1, 1) := by decide +kernel
theorem dJ6_getChars_ba4f3_1 : decode cJ6_getChars_ba4f3 1 = .ok (.istore 5, 2) := by decide +kernel
theorem dJ6_getChars_ba4f3_3 : decode cJ6_getChars_ba4f3 3 = .ok (.iload_n 0, 1) := by decide +kernel
theorem dJ6_getChars_ba4f3_4 : decode cJ6_getChars_ba4f3 4 = .ok (.ifCond .ge 7, 3) := by decide +kernel
theorem dJ6_getChars_ba4f3_7 : decode cJ6_getChars_ba4f3 7 = .ok (.iconst 1, 1) := by decide +kernel
theorem dJ6_getChars_ba4f3_8 : decode cJ6_getChars_ba4f3 8 = .ok (.goto 4, 3) := by decide +kernel
theorem dJ6_getChars_ba4f3_11 : decode cJ6_getChars_ba4f3 11 = .ok (.iconst 0, 1) := by decide +kernel
theorem dJ6_getChars_ba4f3_12 : decode cJ6_getChars_ba4f3 12 = .ok (.istore 6, 2) := by decide +kernel
theorem dJ6_getChars_ba4f3_14 : decode cJ6_getChars_ba4f3 14 = .ok (.iload 6, 2) := by decide +kernel
theorem dJ6_getChars_ba4f3_16 : decode cJ6_getChars_ba4f3 16 = .ok (.ifCond .ne 6, 3) := by decide +kernel
theorem dJ6_getChars_ba4f3_19 : decode cJ6_getChars_ba4f3 19 = .ok (.iload_n 0, 1) := by decide +kernel
theorem dJ6_getChars_ba4f3_20 : decode cJ6_getChars_ba4f3 20 = .ok (.ineg, 1) := by decide +kernel
theorem dJ6_getChars_ba4f3_21 : decode cJ6_getChars_ba4f3 21 = .ok (.istore_n 0, 1) := by decide +kernel
theorem dJ6_getChars_ba4f3_22 : decode cJ6_getChars_ba4f3 22 = .ok (.iload_n 0, 1) := by decide +kernel
theorem dJ6_getChars_ba4f3_23 : decode cJ6_getChars_ba4f3 23 = .ok (.bipush (-100), 2) := by decide +kernel
theorem dJ6_getChars_ba4f3_25 : decode cJ6_getChars_ba4f3 25 = .ok (.if_icmp .gt 47, 3) := by decide +kernel
theorem dJ6_getChars_ba4f3_28 : decode cJ6_getChars_ba4f3 28 = .ok (.iload_n 0, 1) := by decide +kernel
theorem dJ6_getChars_ba4f3_29 : decode cJ6_getChars_ba4f3 29 = .ok (.bipush 100, 2) := by decide +kernel
theorem dJ6_getChars_ba4f3_31 : decode cJ6_getChars_ba4f3 31 = .ok (.idiv, 1) := by decide +kernel
theorem dJ6_getChars_ba4f3_32 : decode cJ6_getChars_ba4f3 32 = .ok (.istore_n 3, 1) := by decide +kernel
theorem dJ6_getChars_ba4f3_33 : decode cJ6_getChars_ba4f3 33 = .ok (.iload_n 3, 1) := by decide +kernel
theorem dJ6_getChars_ba4f3_34 : decode cJ6_getChars_ba4f3 34 = .ok (.bipush 100, 2) := by decide +kernel
theorem dJ6_getChars_ba4f3_36 : decode cJ6_getChars_ba4f3 36 = .ok (.imul, 1) := by decide +kernel
theorem dJ6_getChars_ba4f3_37 : decode cJ6_getChars_ba4f3 37 = .ok (.iload_n 0, 1) := by decide +kernel
theorem dJ6_getChars_ba4f3_38 : decode cJ6_getChars_ba4f3 38 = .ok (.isub, 1) := by decide +kernel
theorem dJ6_getChars_ba4f3_39 : decode cJ6_getChars_ba4f3 39 = .ok (.istore 4, 2) := by decide +kernel
theorem dJ6_getChars_ba4f3_41 : decode cJ6_getChars_ba4f3 41 = .ok (.iload_n 3, 1) := by decide +kernel
theorem dJ6_getChars_ba4f3_42 : decode cJ6_getChars_ba4f3 42 = .ok (.istore_n 0, 1) := by decide +kernel
theorem dJ6_getChars_ba4f3_43 : decode cJ6_getChars_ba4f3 43 = .ok (.aload_n 2, 1) := by decide +kernel
theorem dJ6_getChars_ba4f3_44 : decode cJ6_getChars_ba4f3 44 = .ok (.iinc 5 (-1), 3) := by decide +kernel
theorem dJ6_getChars_ba4f3_47 : decode cJ6_getChars_ba4f3 47 = .ok (.iload 5, 2) := by decide +kernel
theorem dJ6_getChars_ba4f3_49 : decode cJ6_getChars_ba4f3 49 = .ok (.getstatic 83, 3) := by decide +kernel
theorem dJ6_getChars_ba4f3_52 : decode cJ6_getChars_ba4f3 52 = .ok (.iload 4, 2) := by decide +kernel
theorem dJ6_getChars_ba4f3_54 : decode cJ6_getChars_ba4f3 54 = .ok (.baload, 1) := by decide +kernel
theorem dJ6_getChars_ba4f3_55 : decode cJ6_getChars_ba4f3 55 = .ok (.bastore, 1) := by decide +kernel
theorem dJ6_getChars_ba4f3_56 : decode cJ6_getChars_ba4f3 56 = .ok (.aload_n 2, 1) := by decide +kernel
theorem dJ6_getChars_ba4f3_57 : decode cJ6_getChars_ba4f3 57 = .ok (.iinc 5 (-1), 3) := by decide +kernel
theorem dJ6_getChars_ba4f3_60 : decode cJ6_getChars_ba4f3 60 = .ok (.iload 5, 2) := by decide +kernel
theorem dJ6_getChars_ba4f3_62 : decode cJ6_getChars_ba4f3 62 = .ok (.getstatic 87, 3) := by decide +kernel
theorem dJ6_getChars_ba4f3_65 : decode cJ6_getChars_ba4f3 65 = .ok (.iload 4, 2) := by decide +kernel
theorem dJ6_getChars_ba4f3_67 : decode cJ6_getChars_ba4f3 67 = .ok (.baload, 1) := by decide +kernel
theorem dJ6_getChars_ba4f3_68 : decode cJ6_getChars_ba4f3 68 = .ok (.bastore, 1) := by decide +kernel
theorem dJ6_getChars_ba4f3_69 : decode cJ6_getChars_ba4f3 69 = .ok (.goto (-47), 3) := by decide +kernel
theorem dJ6_getChars_ba4f3_72 : decode cJ6_getChars_ba4f3 72 = .ok (.aload_n 2, 1) := by decide +kernel
theorem dJ6_getChars_ba4f3_73 : decode cJ6_getChars_ba4f3 73 = .ok (.iinc 5 (-1), 3) := by decide +kernel
theorem dJ6_getChars_ba4f3_76 : decode cJ6_getChars_ba4f3 76 = .ok (.iload 5, 2) := by decide +kernel
theorem dJ6_getChars_ba4f3_78 : decode cJ6_getChars_ba4f3 78 = .ok (.getstatic 83, 3) := by decide +kernel
theorem dJ6_getChars_ba4f3_81 : decode cJ6_getChars_ba4f3 81 = .ok (.iload_n 0, 1) := by decide +kernel
theorem dJ6_getChars_ba4f3_82 : decode cJ6_getChars_ba4f3 82 = .ok (.ineg, 1) := by decide +kernel
theorem dJ6_getChars_ba4f3_83 : decode cJ6_getChars_ba4f3 83 = .ok (.baload, 1) := by decide +kernel
theorem dJ6_getChars_ba4f3_84 : decode cJ6_getChars_ba4f3 84 = .ok (.bastore, 1) := by decide +kernel
theorem dJ6_getChars_ba4f3_85 : decode cJ6_getChars_ba4f3 85 = .ok (.iload_n 0, 1) := by decide +kernel
theorem dJ6_getChars_ba4f3_86 : decode cJ6_getChars_ba4f3 86 = .ok (.bipush (-9), 2) := by decide +kernel
theorem dJ6_getChars_ba4f3_88 : decode cJ6_getChars_ba4f3 88 = .ok (.if_icmp .ge 16, 3) := by decide +kernel
theorem dJ6_getChars_ba4f3_91 : decode cJ6_getChars_ba4f3 91 = .ok (.aload_n 2, 1) := by decide +kernel
theorem dJ6_getChars_ba4f3_92 : decode cJ6_getChars_ba4f3 92 = .ok (.iinc 5 (-1), 3) := by decide +kernel
theorem dJ6_getChars_ba4f3_95 : decode cJ6_getChars_ba4f3 95 = .ok (.iload 5, 2) := by decide +kernel
theorem dJ6_getChars_ba4f3_97 : decode cJ6_getChars_ba4f3 97 = .ok (.getstatic 87, 3) := by decide +kernel
theorem dJ6_getChars_ba4f3_100 : decode cJ6_getChars_ba4f3 100 = .ok (.iload_n 0, 1) := by decide +kernel
theorem dJ6_getChars_ba4f3_101 : decode cJ6_getChars_ba4f3 101 = .ok (.ineg, 1) := by decide +kernel
theorem dJ6_getChars_ba4f3_102 : decode cJ6_getChars_ba4f3 102 = .ok (.baload, 1) := by decide +kernel
theorem dJ6_getChars_ba4f3_103 : decode cJ6_getChars_ba4f3 103 = .ok (.bastore, 1) := by decide +kernel
theorem dJ6_getChars_ba4f3_104 : decode cJ6_getChars_ba4f3 104 = .ok (.iload 6, 2) := by decide +kernel
theorem dJ6_getChars_ba4f3_106 : decode cJ6_getChars_ba4f3 106 = .ok (.ifCond .eq 12, 3) := by decide +kernel
theorem dJ6_getChars_ba4f3_109 : decode cJ6_getChars_ba4f3 109 = .ok (.aload_n 2, 1) := by decide +kernel
theorem dJ6_getChars_ba4f3_110 : decode cJ6_getChars_ba4f3 110 = .ok (.iinc 5 (-1), 3) := by decide +kernel
theorem dJ6_getChars_ba4f3_113 : decode cJ6_getChars_ba4f3 113 = .ok (.iload 5, 2) := by decide +kernel
theorem dJ6_getChars_ba4f3_115 : decode cJ6_getChars_ba4f3 115 = .ok (.bipush 45, 2) := by decide +kernel
theorem dJ6_getChars_ba4f3_117 : decode cJ6_getChars_ba4f3 117 = .ok (.bastore, 1) := by decide +kernel
theorem dJ6_getChars_ba4f3_118 : decode cJ6_getChars_ba4f3 118 = .ok (.iload 5, 2) := by decide +kernel
theorem dJ6_getChars_ba4f3_120 : decode cJ6_getChars_ba4f3 120 = .ok (.ireturn, 1) := by decide +kernel
theorem dJ6_stringSize_0f7a4_0 : decode cJ6_stringSize_0f7a4 0 = .ok (.iconst 1, 1) := by decide +kernel
theorem dJ6_stringSize_0f7a4_1 : decode cJ6_stringSize_0f7a4 1 = .ok (.istore_n 1, 1) := by decide +kernel
theorem dJ6_stringSize_0f7a4_2 : decode cJ6_stringSize_0f7a4 2 = .ok (.iload_n 0, 1) := by decide +kernel
theorem dJ6_stringSize_0f7a4_3 : decode cJ6_stringSize_0f7a4 3 = .ok (.ifCond .lt 8, 3) := by decide +kernel
theorem dJ6_stringSize_0f7a4_6 : decode cJ6_stringSize_0f7a4 6 = .ok (.iconst 0, 1) := by decide +kernel
theorem dJ6_stringSize_0f7a4_7 : decode cJ6_stringSize_0f7a4 7 = .ok (.istore_n 1, 1) := by decide +kernel
theorem dJ6_stringSize_0f7a4_8 : decode cJ6_stringSize_0f7a4 8 = .ok (.iload_n 0, 1) := by decide +kernel
theorem dJ6_stringSize_0f7a4_9 : decode cJ6_stringSize_0f7a4 9 = .ok (.ineg, 1) := by decide +kernel
theorem dJ6_stringSize_0f7a4_10 : decode cJ6_stringSize_0f7a4 10 = .ok (.istore_n 0, 1) := by decide +kernel
theorem dJ6_stringSize_0f7a4_11 : decode cJ6_stringSize_0f7a4 11 = .ok (.bipush (-10), 2) := by decide +kernel
theorem dJ6_stringSize_0f7a4_13 : decode cJ6_stringSize_0f7a4 13 = .ok (.istore_n 2, 1) := by decide +kernel
theorem dJ6_stringSize_0f7a4_14 : decode cJ6_stringSize_0f7a4 14 = .ok (.iconst 1, 1) := by decide +kernel
theorem dJ6_stringSize_0f7a4_15 : decode cJ6_stringSize_0f7a4 15 = .ok (.istore_n 3, 1) := by decide +kernel
theorem dJ6_stringSize_0f7a4_16 : decode cJ6_stringSize_0f7a4 16 = .ok (.iload_n 3, 1) := by decide +kernel
theorem dJ6_stringSize_0f7a4_17 : decode cJ6_stringSize_0f7a4 17 = .ok (.bipush 10, 2) := by decide +kernel
theorem dJ6_stringSize_0f7a4_19 : decode cJ6_stringSize_0f7a4 19 = .ok (.if_icmp .ge 23, 3) := by decide +kernel
theorem dJ6_stringSize_0f7a4_22 : decode cJ6_stringSize_0f7a4 22 = .ok (.iload_n 0, 1) := by decide +kernel
theorem dJ6_stringSize_0f7a4_23 : decode cJ6_stringSize_0f7a4 23 = .ok (.iload_n 2, 1) := by decide +kernel
theorem dJ6_stringSize_0f7a4_24 : decode cJ6_stringSize_0f7a4 24 = .ok (.if_icmp .le 7, 3) := by decide +kernel
theorem dJ6_stringSize_0f7a4_27 : decode cJ6_stringSize_0f7a4 27 = .ok (.iload_n 3, 1) := by decide +kernel
theorem dJ6_stringSize_0f7a4_28 : decode cJ6_stringSize_0f7a4 28 = .ok (.iload_n 1, 1) := by decide +kernel
theorem dJ6_stringSize_0f7a4_29 : decode cJ6_stringSize_0f7a4 29 = .ok (.iadd, 1) := by decide +kernel
theorem dJ6_stringSize_0f7a4_30 : decode cJ6_stringSize_0f7a4 30 = .ok (.ireturn, 1) := by decide +kernel
theorem dJ6_stringSize_0f7a4_31 : decode cJ6_stringSize_0f7a4 31 = .ok (.bipush 10, 2) := by decide +kernel
theorem dJ6_stringSize_0f7a4_33 : decode cJ6_stringSize_0f7a4 33 = .ok (.iload_n 2, 1) := by decide +kernel
theorem dJ6_stringSize_0f7a4_34 : decode cJ6_stringSize_0f7a4 34 = .ok (.imul, 1) := by decide +kernel
theorem dJ6_stringSize_0f7a4_35 : decode cJ6_stringSize_0f7a4 35 = .ok (.istore_n 2, 1) := by decide +kernel
theorem dJ6_stringSize_0f7a4_36 : decode cJ6_stringSize_0f7a4 36 = .ok (.iinc 3 1, 3) := by decide +kernel
theorem dJ6_stringSize_0f7a4_39 : decode cJ6_stringSize_0f7a4 39 = .ok (.goto (-23), 3) := by decide +kernel
theorem dJ6_stringSize_0f7a4_42 : decode cJ6_stringSize_0f7a4 42 = .ok (.bipush 10, 2) := by decide +kernel
theorem dJ6_stringSize_0f7a4_44 : decode cJ6_stringSize_0f7a4 44 = .ok (.iload_n 1, 1) := by decide +kernel
theorem dJ6_stringSize_0f7a4_45 : decode cJ6_stringSize_0f7a4 45 = .ok (.iadd, 1) := by decide +kernel
theorem dJ6_stringSize_0f7a4_46 : decode cJ6_stringSize_0f7a4 46 = .ok (.ireturn, 1) := by decide +kernel
theorem dJ9_max_7cf53_0 : decode cJ9_max_7cf53 0 = .ok (.iload_n 0, 1) := by decide +kernel
theorem dJ9_max_7cf53_1 : decode cJ9_max_7cf53 1 = .ok (.iload_n 1, 1) := by decide +kernel
theorem dJ9_max_7cf53_2 : decode cJ9_max_7cf53 2 = .ok (.if_icmp .lt 7, 3) := by decide +kernel
theorem dJ9_max_7cf53_5 : decode cJ9_max_7cf53 5 = .ok (.iload_n 0, 1) := by decide +kernel
theorem dJ9_max_7cf53_6 : decode cJ9_max_7cf53 6 = .ok (.goto 4, 3) := by decide +kernel
theorem dJ9_max_7cf53_9 : decode cJ9_max_7cf53 9 = .ok (.iload_n 1, 1) := by decide +kernel
theorem dJ9_max_7cf53_10 : decode cJ9_max_7cf53 10 = .ok (.ireturn, 1) := by decide +kernel
theorem dJ9_max_f86c9_0 : decode cJ9_max_f86c9 0 = .ok (.lload_n 0, 1) := by decide +kernel
theorem dJ9_max_f86c9_1 : decode cJ9_max_f86c9 1 = .ok (.lload_n 2, 1) := by decide +kernel
theorem dJ9_max_f86c9_2 : decode cJ9_max_f86c9 2 = .ok (.lcmp, 1) := by decide +kernel
theorem dJ9_max_f86c9_3 : decode cJ9_max_f86c9 3 = .ok (.ifCond .lt 7, 3) := by decide +kernel
theorem dJ9_max_f86c9_6 : decode cJ9_max_f86c9 6 = .ok (.lload_n 0, 1) := by decide +kernel
theorem dJ9_max_f86c9_7 : decode cJ9_max_f86c9 7 = .ok (.goto 4, 3) := by decide +kernel
theorem dJ9_max_f86c9_10 : decode cJ9_max_f86c9 10 = .ok (.lload_n 2, 1) := by decide +kernel
theorem dJ9_max_f86c9_11 : decode cJ9_max_f86c9 11 = .ok (.lreturn, 1) := by decide +kernel
theorem dJ9_min_7cf53_0 : decode cJ9_min_7cf53 0 = .ok (.iload_n 0, 1) := by decide +kernel
theorem dJ9_min_7cf53_1 : decode cJ9_min_7cf53 1 = .ok (.iload_n 1, 1) := by decide +kernel
theorem dJ9_min_7cf53_2 : decode cJ9_min_7cf53 2 = .ok (.if_icmp .gt 7, 3) := by decide +kernel
theorem dJ9_min_7cf53_5 : decode cJ9_min_7cf53 5 = .ok (.iload_n 0, 1) := by decide +kernel
theorem dJ9_min_7cf53_6 : decode cJ9_min_7cf53 6 = .ok (.goto 4, 3) := by decide +kernel
theorem dJ9_min_7cf53_9 : decode cJ9_min_7cf53 9 = .ok (.iload_n 1, 1) := by decide +kernel
theorem dJ9_min_7cf53_10 : decode cJ9_min_7cf53 10 = .ok (.ireturn, 1) := by decide +kernel
theorem dJ9_min_f86c9_0 : decode cJ9_min_f86c9 0 = .ok (.lload_n 0, 1) := by decide +kernel
theorem dJ9_min_f86c9_1 : decode cJ9_min_f86c9 1 = .ok (.lload_n 2, 1) := by decide +kernel
theorem dJ9_min_f86c9_2 : decode cJ9_min_f86c9 2 = .ok (.lcmp, 1) := by decide +kernel
theorem dJ9_min_f86c9_3 : decode cJ9_min_f86c9 3 = .ok (.ifCond .gt 7, 3) := by decide +kernel
theorem dJ9_min_f86c9_6 : decode cJ9_min_f86c9 6 = .ok (.lload_n 0, 1) := by decide +kernel
theorem dJ9_min_f86c9_7 : decode cJ9_min_f86c9 7 = .ok (.goto 4, 3) := by decide +kernel
theorem dJ9_min_f86c9_10 : decode cJ9_min_f86c9 10 = .ok (.lload_n 2, 1) := by decide +kernel
theorem dJ9_min_f86c9_11 : decode cJ9_min_f86c9 11 = .ok (.lreturn, 1) := by decide +kernel
theorem dJ0_init_81219_0 : decode cJ0_init_81219 0 = .ok (.aload_n 0, 1) := by decide +kernel
theorem dJ0_init_81219_1 : decode cJ0_init_81219 1 = .ok (.aload_n 1, 1) := by decide +kernel
theorem dJ0_init_81219_2 : decode cJ0_init_81219 2 = .ok (.aconst_null, 1) := by decide +kernel
theorem dJ0_init_81219_3 : decode cJ0_init_81219 3 = .ok (.invokespecial 489, 3) := by decide +kernel
theorem dJ0_init_81219_6 : decode cJ0_init_81219 6 = .ok (.return_, 1) := by decide +kernel
theorem dJ0_length_8abf5_0 : decode cJ0_length_8abf5 0 = .ok (.aload_n 0, 1) := by decide +kernel
theorem dJ0_length_8abf5_1 : decode cJ0_length_8abf5 1 = .ok (.getfield 9, 3) := by decide +kernel
theorem dJ0_length_8abf5_4 : decode cJ0_length_8abf5 4 = .ok (.arraylength, 1) := by decide +kernel
theorem dJ0_length_8abf5_5 : decode cJ0_length_8abf5 5 = .ok (.aload_n 0, 1) := by decide +kernel
theorem dJ0_length_8abf5_6 : decode cJ0_length_8abf5 6 = .ok (.invokevirtual 335, 3) := by decide +kernel
theorem dJ0_length_8abf5_9 : decode cJ0_length_8abf5 9 = .ok (.ishr, 1) := by decide +kernel
theorem dJ0_length_8abf5_10 : decode cJ0_length_8abf5 10 = .ok (.ireturn, 1) := by decide +kernel
theorem dJ0_charAt_5068e_0 : decode cJ0_charAt_5068e 0 = .ok (.aload_n 0, 1) := by decide +kernel
theorem dJ0_charAt_5068e_1 : decode cJ0_charAt_5068e 1 = .ok (.invokevirtual 492, 3) := by decide +kernel
theorem dJ0_charAt_5068e_4 : decode cJ0_charAt_5068e 4 = .ok (.ifCond .eq 12, 3) := by decide +kernel
theorem dJ0_charAt_5068e_7 : decode cJ0_charAt_5068e 7 = .ok (.aload_n 0, 1) := by decide +kernel
theorem dJ0_charAt_5068e_8 : decode cJ0_charAt_5068e 8 = .ok (.getfield 9, 3) := by decide +kernel
theorem dJ0_charAt_5068e_11 : decode cJ0_charAt_5068e 11 = .ok (.iload_n 1, 1) := by decide +kernel
theorem dJ0_charAt_5068e_12 : decode cJ0_charAt_5068e 12 = .ok (.invokestatic 495, 3) := by decide +kernel
theorem dJ0_charAt_5068e_15 : decode cJ0_charAt_5068e 15 = .ok (.ireturn, 1) := by decide +kernel
theorem dJ0_charAt_5068e_16 : decode cJ0_charAt_5068e 16 = .ok (.aload_n 0, 1) := by decide +kernel
theorem dJ0_charAt_5068e_17 : decode cJ0_charAt_5068e 17 = .ok (.getfield 9, 3) := by decide +kernel
theorem dJ0_charAt_5068e_20 : decode cJ0_charAt_5068e 20 = .ok (.iload_n 1, 1) := by decide +kernel
theorem dJ0_charAt_5068e_21 : decode cJ0_charAt_5068e 21 = .ok (.invokestatic 498, 3) := by decide +kernel
theorem dJ0_charAt_5068e_24 : decode cJ0_charAt_5068e 24 = .ok (.ireturn, 1) := by decide +kernel
theorem dJ0_getBytes_840e7_0 : decode cJ0_getBytes_840e7 0 = .ok (.aload_n 0, 1) := by decide +kernel
theorem dJ0_getBytes_840e7_1 : decode cJ0_getBytes_840e7 1 = .ok (.invokevirtual 335, 3) := by decide +kernel
theorem dJ0_getBytes_840e7_4 : decode cJ0_getBytes_840e7 4 = .ok (.iload_n 3, 1) := by decide +kernel
theorem dJ0_getBytes_840e7_5 : decode cJ0_getBytes_840e7 5 = .ok (.if_icmp .ne 23, 3) := by decide +kernel
theorem dJ0_getBytes_840e7_8 : decode cJ0_getBytes_840e7 8 = .ok (.aload_n 0, 1) := by decide +kernel
theorem dJ0_getBytes_840e7_9 : decode cJ0_getBytes_840e7 9 = .ok (.getfield 9, 3) := by decide +kernel
theorem dJ0_getBytes_840e7_12 : decode cJ0_getBytes_840e7 12 = .ok (.iconst 0, 1) := by decide +kernel
theorem dJ0_getBytes_840e7_13 : decode cJ0_getBytes_840e7 13 = .ok (.aload_n 1, 1) := by decide +kernel
theorem dJ0_getBytes_840e7_14 : decode cJ0_getBytes_840e7 14 = .ok (.iload_n 2, 1) := by decide +kernel
theorem dJ0_getBytes_840e7_15 : decode cJ0_getBytes_840e7 15 = .ok (.iload_n 3, 1) := by decide +kernel
theorem dJ0_getBytes_840e7_16 : decode cJ0_getBytes_840e7 16 = .ok (.ishl, 1) := by decide +kernel
theorem dJ0_getBytes_840e7_17 : decode cJ0_getBytes_840e7 17 = .ok (.aload_n 0, 1) := by decide +kernel
theorem dJ0_getBytes_840e7_18 : decode cJ0_getBytes_840e7 18 = .ok (.getfield 9, 3) := by decide +kernel
theorem dJ0_getBytes_840e7_21 : decode cJ0_getBytes_840e7 21 = .ok (.arraylength, 1) := by decide +kernel
theorem dJ0_getBytes_840e7_22 : decode cJ0_getBytes_840e7 22 = .ok (.invokestatic 212, 3) := by decide +kernel
theorem dJ0_getBytes_840e7_25 : decode cJ0_getBytes_840e7 25 = .ok (.goto 18, 3) := by decide +kernel
theorem dJ0_getBytes_840e7_28 : decode cJ0_getBytes_840e7 28 = .ok (.aload_n 0, 1) := by decide +kernel
theorem dJ0_getBytes_840e7_29 : decode cJ0_getBytes_840e7 29 = .ok (.getfield 9, 3) := by decide +kernel
theorem dJ0_getBytes_840e7_32 : decode cJ0_getBytes_840e7 32 = .ok (.iconst 0, 1) := by decide +kernel
theorem dJ0_getBytes_840e7_33 : decode cJ0_getBytes_840e7 33 = .ok (.aload_n 1, 1) := by decide +kernel
theorem dJ0_getBytes_840e7_34 : decode cJ0_getBytes_840e7 34 = .ok (.iload_n 2, 1) := by decide +kernel
theorem dJ0_getBytes_840e7_35 : decode cJ0_getBytes_840e7 35 = .ok (.aload_n 0, 1) := by decide +kernel
theorem dJ0_getBytes_840e7_36 : decode cJ0_getBytes_840e7 36 = .ok (.getfield 9, 3) := by decide +kernel
theorem dJ0_getBytes_840e7_39 : decode cJ0_getBytes_840e7 39 = .ok (.arraylength, 1) := by decide +kernel
theorem dJ0_getBytes_840e7_40 : decode cJ0_getBytes_840e7 40 = .ok (.invokestatic 106, 3) := by decide +kernel
theorem dJ0_getBytes_840e7_43 : decode cJ0_getBytes_840e7 43 = .ok (.return_, 1) := by decide +kernel
theorem dJ0_init_db425_0 : decode cJ0_init_db425 0 = .ok (.aload_n 0, 1) := by decide +kernel
theorem dJ0_init_db425_1 : decode cJ0_init_db425 1 = .ok (.invokespecial 1, 3) := by decide +kernel
theorem dJ0_init_db425_4 : decode cJ0_init_db425 4 = .ok (.aload_n 1, 1) := by decide +kernel
theorem dJ0_init_db425_5 : decode cJ0_init_db425 5 = .ok (.invokevirtual 552, 3) := by decide +kernel
theorem dJ0_init_db425_8 : decode cJ0_init_db425 8 = .ok (.astore_n 3, 1) := by decide +kernel
theorem dJ0_init_db425_9 : decode cJ0_init_db425 9 = .ok (.aload_n 1, 1) := by decide +kernel
theorem dJ0_init_db425_10 : decode cJ0_init_db425 10 = .ok (.invokevirtual 549, 3) := by decide +kernel
theorem dJ0_init_db425_13 : decode cJ0_init_db425 13 = .ok (.istore 4, 2) := by decide +kernel
theorem dJ0_init_db425_15 : decode cJ0_init_db425 15 = .ok (.aload_n 1, 1) := by decide +kernel
theorem dJ0_init_db425_16 : decode cJ0_init_db425 16 = .ok (.invokevirtual 1047, 3) := by decide +kernel
theorem dJ0_init_db425_19 : decode cJ0_init_db425 19 = .ok (.ifCond .eq 22, 3) := by decide +kernel
theorem dJ0_init_db425_22 : decode cJ0_init_db425 22 = .ok (.aload_n 0, 1) := by decide +kernel
theorem dJ0_init_db425_23 : decode cJ0_init_db425 23 = .ok (.iconst 0, 1) := by decide +kernel
theorem dJ0_init_db425_24 : decode cJ0_init_db425 24 = .ok (.putfield 15, 3) := by decide +kernel
theorem dJ0_init_db425_27 : decode cJ0_init_db425 27 = .ok (.aload_n 0, 1) := by decide +kernel
theorem dJ0_init_db425_28 : decode cJ0_init_db425 28 = .ok (.aload_n 3, 1) := by decide +kernel
theorem dJ0_init_db425_29 : decode cJ0_init_db425 29 = .ok (.iconst 0, 1) := by decide +kernel
theorem dJ0_init_db425_30 : decode cJ0_init_db425 30 = .ok (.iload 4, 2) := by decide +kernel
theorem dJ0_init_db425_32 : decode cJ0_init_db425 32 = .ok (.invokestatic 54, 3) := by decide +kernel
theorem dJ0_init_db425_35 : decode cJ0_init_db425 35 = .ok (.putfield 9, 3) := by decide +kernel
theorem dJ0_init_db425_38 : decode cJ0_init_db425 38 = .ok (.goto 59, 3) := by decide +kernel
theorem dJ0_init_db425_41 : decode cJ0_init_db425 41 = .ok (.getstatic 38, 3) := by decide +kernel
theorem dJ0_init_db425_44 : decode cJ0_init_db425 44 = .ok (.ifCond .eq 35, 3) := by decide +kernel
theorem dJ0_init_db425_47 : decode cJ0_init_db425 47 = .ok (.aload_n 1, 1) := by decide +kernel
theorem dJ0_init_db425_48 : decode cJ0_init_db425 48 = .ok (.getfield 1048, 3) := by decide +kernel
theorem dJ0_init_db425_51 : decode cJ0_init_db425 51 = .ok (.ifCond .eq 28, 3) := by decide +kernel
theorem dJ0_init_db425_54 : decode cJ0_init_db425 54 = .ok (.aload_n 0, 1) := by decide +kernel
theorem dJ0_init_db425_55 : decode cJ0_init_db425 55 = .ok (.aload_n 3, 1) := by decide +kernel
theorem dJ0_init_db425_56 : decode cJ0_init_db425 56 = .ok (.iconst 0, 1) := by decide +kernel
theorem dJ0_init_db425_57 : decode cJ0_init_db425 57 = .ok (.iload 4, 2) := by decide +kernel
theorem dJ0_init_db425_59 : decode cJ0_init_db425 59 = .ok (.invokestatic 1051, 3) := by decide +kernel
theorem dJ0_init_db425_62 : decode cJ0_init_db425 62 = .ok (.putfield 9, 3) := by decide +kernel
theorem dJ0_init_db425_65 : decode cJ0_init_db425 65 = .ok (.aload_n 0, 1) := by decide +kernel
theorem dJ0_init_db425_66 : decode cJ0_init_db425 66 = .ok (.aload_n 0, 1) := by decide +kernel
theorem dJ0_init_db425_67 : decode cJ0_init_db425 67 = .ok (.getfield 9, 3) := by decide +kernel
theorem dJ0_init_db425_70 : decode cJ0_init_db425 70 = .ok (.iload 4, 2) := by decide +kernel
theorem dJ0_init_db425_72 : decode cJ0_init_db425 72 = .ok (.invokestatic 47, 3) := by decide +kernel
theorem dJ0_init_db425_75 : decode cJ0_init_db425 75 = .ok (.putfield 15, 3) := by decide +kernel
theorem dJ0_init_db425_78 : decode cJ0_init_db425 78 = .ok (.return_, 1) := by decide +kernel
theorem dJ0_init_db425_79 : decode cJ0_init_db425 79 = .ok (.aload_n 0, 1) := by decide +kernel
theorem dJ0_init_db425_80 : decode cJ0_init_db425 80 = .ok (.iconst 1, 1) := by decide +kernel
theorem dJ0_init_db425_81 : decode cJ0_init_db425 81 = .ok (.putfield 15, 3) := by decide +kernel
theorem dJ0_init_db425_84 : decode cJ0_init_db425 84 = .ok (.aload_n 0, 1) := by decide +kernel
theorem dJ0_init_db425_85 : decode cJ0_init_db425 85 = .ok (.aload_n 3, 1) := by decide +kernel
theorem dJ0_init_db425_86 : decode cJ0_init_db425 86 = .ok (.iconst 0, 1) := by decide +kernel
theorem dJ0_init_db425_87 : decode cJ0_init_db425 87 = .ok (.iload 4, 2) := by decide +kernel
theorem dJ0_init_db425_89 : decode cJ0_init_db425 89 = .ok (.iconst 1, 1) := by decide +kernel
theorem dJ0_init_db425_90 : decode cJ0_init_db425 90 = .ok (.ishl, 1) := by decide +kernel
theorem dJ0_init_db425_91 : decode cJ0_init_db425 91 = .ok (.invokestatic 54, 3) := by decide +kernel
theorem dJ0_init_db425_94 : decode cJ0_init_db425 94 = .ok (.putfield 9, 3) := by decide +kernel
theorem dJ0_init_db425_97 : decode cJ0_init_db425 97 = .ok (.return_, 1) := by decide +kernel
theorem dJ0_coder_7d493_0 : decode cJ0_coder_7d493 0 = .ok (.getstatic 38, 3) := by decide +kernel
theorem dJ0_coder_7d493_3 : decode cJ0_coder_7d493 3 = .ok (.ifCond .eq 10, 3) := by decide +kernel
theorem dJ0_coder_7d493_6 : decode cJ0_coder_7d493 6 = .ok (.aload_n 0, 1) := by decide +kernel
theorem dJ0_coder_7d493_7 : decode cJ0_coder_7d493 7 = .ok (.getfield 15, 3) := by decide +kernel
theorem dJ0_coder_7d493_10 : decode cJ0_coder_7d493 10 = .ok (.goto 4, 3) := by decide +kernel
theorem dJ0_coder_7d493_13 : decode cJ0_coder_7d493 13 = .ok (.iconst 1, 1) := by decide +kernel
theorem dJ0_coder_7d493_14 : decode cJ0_coder_7d493 14 = .ok (.ireturn, 1) := by decide +kernel
theorem dJ0_isLatin1_aae02_0 : decode cJ0_isLatin1_aae02 0 = .ok (.getstatic 38, 3) := by decide +kernel
theorem dJ0_isLatin1_aae02_3 : decode cJ0_isLatin1_aae02 3 = .ok (.ifCond .eq 14, 3) := by decide +kernel
theorem dJ0_isLatin1_aae02_6 : decode cJ0_isLatin1_aae02 6 = .ok (.aload_n 0, 1) := by decide +kernel
theorem dJ0_isLatin1_aae02_7 : decode cJ0_isLatin1_aae02 7 = .ok (.getfield 15, 3) := by decide +kernel
theorem dJ0_isLatin1_aae02_10 : decode cJ0_isLatin1_aae02 10 = .ok (.ifCond .ne 7, 3) := by decide +kernel
theorem dJ0_isLatin1_aae02_13 : decode cJ0_isLatin1_aae02 13 = .ok (.iconst 1, 1) := by decide +kernel
theorem dJ0_isLatin1_aae02_14 : decode cJ0_isLatin1_aae02 14 = .ok (.goto 4, 3) := by decide +kernel
theorem dJ0_isLatin1_aae02_17 : decode cJ0_isLatin1_aae02 17 = .ok (.iconst 0, 1) := by decide +kernel
theorem dJ0_isLatin1_aae02_18 : decode cJ0_isLatin1_aae02 18 = .ok (.ireturn, 1) := by decide +kernel
theorem dJ0_checkIndex_df160_0 : decode cJ0_checkIndex_df160 0 = .ok (.iload_n 0, 1) := by decide +kernel
theorem dJ0_checkIndex_df160_1 : decode cJ0_checkIndex_df160 1 = .ok (.iload_n 1, 1) := by decide +kernel
theorem dJ0_checkIndex_df160_2 : decode cJ0_checkIndex_df160 2 = .ok (.getstatic 1053, 3) := by decide +kernel
theorem dJ0_checkIndex_df160_5 : decode cJ0_checkIndex_df160 5 = .ok (.invokestatic 1059, 3) := by decide +kernel
theorem dJ0_checkIndex_df160_8 : decode cJ0_checkIndex_df160 8 = .ok (.pop, 1) := by decide +kernel
theorem dJ0_checkIndex_df160_9 : decode cJ0_checkIndex_df160 9 = .ok (.return_, 1) := by decide +kernel
theorem dJ0_checkBoundsOffCount_cabcc_0 : decode cJ0_checkBoundsOffCount_cabcc 0 = .ok (.iload_n 0, 1) := by decide +kernel
theorem dJ0_checkBoundsOffCount_cabcc_1 : decode cJ0_checkBoundsOffCount_cabcc 1 = .ok (.iload_n 1, 1) := by decide +kernel
theorem dJ0_checkBoundsOffCount_cabcc_2 : decode cJ0_checkBoundsOffCount_cabcc 2 = .ok (.iload_n 2, 1) := by decide +kernel
theorem dJ0_checkBoundsOffCount_cabcc_3 : decode cJ0_checkBoundsOffCount_cabcc 3 = .ok (.getstatic 1053, 3) := by decide +kernel
theorem dJ0_checkBoundsOffCount_cabcc_6 : decode cJ0_checkBoundsOffCount_cabcc 6 = .ok (.invokestatic 1065, 3) := by decide +kernel
theorem dJ0_checkBoundsOffCount_cabcc_9 : decode cJ0_checkBoundsOffCount_cabcc 9 = .ok (.ireturn, 1) := by decide +kernel
theorem dJ0_checkBoundsBeginEnd_23922_0 : decode cJ0_checkBoundsBeginEnd_23922 0 = .ok (.iload_n 0, 1) := by decide +kernel
theorem dJ0_checkBoundsBeginEnd_23922_1 : decode cJ0_checkBoundsBeginEnd_23922 1 = .ok (.iload_n 1, 1) := by decide +kernel
theorem dJ0_checkBoundsBeginEnd_23922_2 : decode cJ0_checkBoundsBeginEnd_23922 2 = .ok (.iload_n 2, 1) := by decide +kernel
theorem dJ0_checkBoundsBeginEnd_23922_3 : decode cJ0_checkBoundsBeginEnd_23922 3 = .ok (.getstatic 1053, 3) := by decide +kernel
theorem dJ0_checkBoundsBeginEnd_23922_6 : decode cJ0_checkBoundsBeginEnd_23922 6 = .ok (.invokestatic 1062, 3) := by decide +kernel
theorem dJ0_checkBoundsBeginEnd_23922_9 : decode cJ0_checkBoundsBeginEnd_23922 9 = .ok (.pop, 1) := by decide +kernel
theorem dJ0_checkBoundsBeginEnd_23922_10 : decode cJ0_checkBoundsBeginEnd_23922 10 = .ok (.return_, 1) := by decide +kernel
theorem dJ4_init_da8c8_0 : decode cJ4_init_da8c8 0 = .ok (.aload_n 0, 1) := by decide +kernel
theorem dJ4_init_da8c8_1 : decode cJ4_init_da8c8 1 = .ok (.bipush 16, 2) := by decide +kernel
theorem dJ4_init_da8c8_3 : decode cJ4_init_da8c8 3 = .ok (.invokespecial 1, 3) := by decide +kernel
theorem dJ4_init_da8c8_6 : decode cJ4_init_da8c8 6 = .ok (.return_, 1) := by decide +kernel
theorem dJ4_append_15ec4_0 : decode cJ4_append_15ec4 0 = .ok (.aload_n 0, 1) := by decide +kernel
theorem dJ4_append_15ec4_1 : decode cJ4_append_15ec4 1 = .ok (.aload_n 1, 1) := by decide +kernel
theorem dJ4_append_15ec4_2 : decode cJ4_append_15ec4 2 = .ok (.invokespecial 29, 3) := by decide +kernel
theorem dJ4_append_15ec4_5 : decode cJ4_append_15ec4 5 = .ok (.pop, 1) := by decide +kernel
theorem dJ4_append_15ec4_6 : decode cJ4_append_15ec4 6 = .ok (.aload_n 0, 1) := by decide +kernel
theorem dJ4_append_15ec4_7 : decode cJ4_append_15ec4 7 = .ok (.areturn, 1) := by decide +kernel
theorem dJ4_append_bf812_0 : decode cJ4_append_bf812 0 = .ok (.aload_n 0, 1) := by decide +kernel
theorem dJ4_append_bf812_1 : decode cJ4_append_bf812 1 = .ok (.iload_n 1, 1) := by decide +kernel
theorem dJ4_append_bf812_2 : decode cJ4_append_bf812 2 = .ok (.invokespecial 53, 3) := by decide +kernel
theorem dJ4_append_bf812_5 : decode cJ4_append_bf812 5 = .ok (.pop, 1) := by decide +kernel
theorem dJ4_append_bf812_6 : decode cJ4_append_bf812 6 = .ok (.aload_n 0, 1) := by decide +kernel
theorem dJ4_append_bf812_7 : decode cJ4_append_bf812 7 = .ok (.areturn, 1) := by decide +kernel
theorem dJ4_toString_0e30d_0 : decode cJ4_toString_0e30d 0 = .ok (.new 18, 3) := by decide +kernel
theorem dJ4_toString_0e30d_3 : decode cJ4_toString_0e30d 3 = .ok (.dup, 1) := by decide +kernel
theorem dJ4_toString_0e30d_4 : decode cJ4_toString_0e30d 4 = .ok (.aload_n 0, 1) := by decide +kernel
theorem dJ4_toString_0e30d_5 : decode cJ4_toString_0e30d 5 = .ok (.invokespecial 137, 3) := by decide +kernel
theorem dJ4_toString_0e30d_8 : decode cJ4_toString_0e30d 8 = .ok (.areturn, 1) := by decide +kernel
theorem dJ4_length_8abf5_0 : decode cJ4_length_8abf5 0 = .ok (.aload_n 0, 1) := by decide +kernel
theorem dJ4_length_8abf5_1 : decode cJ4_length_8abf5 1 = .ok (.invokespecial 343, 3) := by decide +kernel
theorem dJ4_length_8abf5_4 : decode cJ4_length_8abf5 4 = .ok (.ireturn, 1) := by decide +kernel
theorem dJ1_charAt_3b067_0 : decode cJ1_charAt_3b067 0 = .ok (.iload_n 1, 1) := by decide +kernel
theorem dJ1_charAt_3b067_1 : decode cJ1_charAt_3b067 1 = .ok (.aload_n 0, 1) := by decide +kernel
theorem dJ1_charAt_3b067_2 : decode cJ1_charAt_3b067 2 = .ok (.arraylength, 1) := by decide +kernel
theorem dJ1_charAt_3b067_3 : decode cJ1_charAt_3b067 3 = .ok (.invokestatic 9, 3) := by decide +kernel
theorem dJ1_charAt_3b067_6 : decode cJ1_charAt_3b067 6 = .ok (.aload_n 0, 1) := by decide +kernel
theorem dJ1_charAt_3b067_7 : decode cJ1_charAt_3b067 7 = .ok (.iload_n 1, 1) := by decide +kernel
theorem dJ1_charAt_3b067_8 : decode cJ1_charAt_3b067 8 = .ok (.baload, 1) := by decide +kernel
theorem dJ1_charAt_3b067_9 : decode cJ1_charAt_3b067 9 = .ok (.sipush 255, 3) := by decide +kernel
theorem dJ1_charAt_3b067_12 : decode cJ1_charAt_3b067 12 = .ok (.iand, 1) := by decide +kernel
theorem dJ1_charAt_3b067_13 : decode cJ1_charAt_3b067 13 = .ok (.i2c, 1) := by decide +kernel
theorem dJ1_charAt_3b067_14 : decode cJ1_charAt_3b067 14 = .ok (.ireturn, 1) := by decide +kernel
theorem dJ1_inflate_0e8fd_0 : decode cJ1_inflate_0e8fd 0 = .ok (.aload_n 0, 1) := by decide +kernel
theorem dJ1_inflate_0e8fd_1 : decode cJ1_inflate_0e8fd 1 = .ok (.iload_n 1, 1) := by decide +kernel
theorem dJ1_inflate_0e8fd_2 : decode cJ1_inflate_0e8fd 2 = .ok (.aload_n 2, 1) := by decide +kernel
theorem dJ1_inflate_0e8fd_3 : decode cJ1_inflate_0e8fd 3 = .ok (.iload_n 3, 1) := by decide +kernel
theorem dJ1_inflate_0e8fd_4 : decode cJ1_inflate_0e8fd 4 = .ok (.iload 4, 2) := by decide +kernel
theorem dJ1_inflate_0e8fd_6 : decode cJ1_inflate_0e8fd 6 = .ok (.invokestatic 240, 3) := by decide +kernel
theorem dJ1_inflate_0e8fd_9 : decode cJ1_inflate_0e8fd 9 = .ok (.return_, 1) := by decide +kernel
theorem dJ2_coderFromArrayLen_85cad_0 : decode cJ2_coderFromArrayLen_85cad 0 = .ok (.iload_n 1, 1) := by decide +kernel
theorem dJ2_coderFromArrayLen_85cad_1 : decode cJ2_coderFromArrayLen_85cad 1 = .ok (.aload_n 0, 1) := by decide +kernel
theorem dJ2_coderFromArrayLen_85cad_2 : decode cJ2_coderFromArrayLen_85cad 2 = .ok (.arraylength, 1) := by decide +kernel
theorem dJ2_coderFromArrayLen_85cad_3 : decode cJ2_coderFromArrayLen_85cad 3 = .ok (.isub, 1) := by decide +kernel
theorem dJ2_coderFromArrayLen_85cad_4 : decode cJ2_coderFromArrayLen_85cad 4 = .ok (.bipush 31, 2) := by decide +kernel
theorem dJ2_coderFromArrayLen_85cad_6 : decode cJ2_coderFromArrayLen_85cad 6 = .ok (.iushr, 1) := by decide +kernel
theorem dJ2_coderFromArrayLen_85cad_7 : decode cJ2_coderFromArrayLen_85cad 7 = .ok (.i2b, 1) := by decide +kernel
theorem dJ2_coderFromArrayLen_85cad_8 : decode cJ2_coderFromArrayLen_85cad 8 = .ok (.ireturn, 1) := by decide +kernel
theorem dJ7_copyOf_9075b_0 : decode cJ7_copyOf_9075b 0 = .ok (.iload_n 1, 1) := by decide +kernel
theorem dJ7_copyOf_9075b_1 : decode cJ7_copyOf_9075b 1 = .ok (.aload_n 0, 1) := by decide +kernel
theorem dJ7_copyOf_9075b_2 : decode cJ7_copyOf_9075b 2 = .ok (.arraylength, 1) := by decide +kernel
theorem dJ7_copyOf_9075b_3 : decode cJ7_copyOf_9075b 3 = .ok (.if_icmp .ne 11, 3) := by decide +kernel
theorem dJ7_copyOf_9075b_6 : decode cJ7_copyOf_9075b 6 = .ok (.aload_n 0, 1) := by decide +kernel
theorem dJ7_copyOf_9075b_7 : decode cJ7_copyOf_9075b 7 = .ok (.invokevirtual 310, 3) := by decide +kernel
theorem dJ7_copyOf_9075b_10 : decode cJ7_copyOf_9075b 10 = .ok (.checkcast 311, 3) := by decide +kernel
theorem dJ7_copyOf_9075b_13 : decode cJ7_copyOf_9075b 13 = .ok (.areturn, 1) := by decide +kernel
theorem dJ7_copyOf_9075b_14 : decode cJ7_copyOf_9075b 14 = .ok (.iload_n 1, 1) := by decide +kernel
theorem dJ7_copyOf_9075b_15 : decode cJ7_copyOf_9075b 15 = .ok (.newarray .byte, 2) := by decide +kernel
theorem dJ7_copyOf_9075b_17 : decode cJ7_copyOf_9075b 17 = .ok (.astore_n 2, 1) := by decide +kernel
theorem dJ7_copyOf_9075b_18 : decode cJ7_copyOf_9075b 18 = .ok (.aload_n 0, 1) := by decide +kernel
theorem dJ7_copyOf_9075b_19 : decode cJ7_copyOf_9075b 19 = .ok (.iconst 0, 1) := by decide +kernel
theorem dJ7_copyOf_9075b_20 : decode cJ7_copyOf_9075b 20 = .ok (.aload_n 2, 1) := by decide +kernel
theorem dJ7_copyOf_9075b_21 : decode cJ7_copyOf_9075b 21 = .ok (.iconst 0, 1) := by decide +kernel
theorem dJ7_copyOf_9075b_22 : decode cJ7_copyOf_9075b 22 = .ok (.aload_n 0, 1) := by decide +kernel
theorem dJ7_copyOf_9075b_23 : decode cJ7_copyOf_9075b 23 = .ok (.arraylength, 1) := by decide +kernel
theorem dJ7_copyOf_9075b_24 : decode cJ7_copyOf_9075b 24 = .ok (.iload_n 1, 1) := by decide +kernel
theorem dJ7_copyOf_9075b_25 : decode cJ7_copyOf_9075b 25 = .ok (.invokestatic 304, 3) := by decide +kernel
theorem dJ7_copyOf_9075b_28 : decode cJ7_copyOf_9075b 28 = .ok (.invokestatic 150, 3) := by decide +kernel
theorem dJ7_copyOf_9075b_31 : decode cJ7_copyOf_9075b 31 = .ok (.aload_n 2, 1) := by decide +kernel
theorem dJ7_copyOf_9075b_32 : decode cJ7_copyOf_9075b 32 = .ok (.areturn, 1) := by decide +kernel
theorem dJ7_copyOf_59c91_0 : decode cJ7_copyOf_59c91 0 = .ok (.iload_n 1, 1) := by decide +kernel
theorem dJ7_copyOf_59c91_1 : decode cJ7_copyOf_59c91 1 = .ok (.aload_n 0, 1) := by decide +kernel
theorem dJ7_copyOf_59c91_2 : decode cJ7_copyOf_59c91 2 = .ok (.arraylength, 1) := by decide +kernel
theorem dJ7_copyOf_59c91_3 : decode cJ7_copyOf_59c91 3 = .ok (.if_icmp .ne 11, 3) := by decide +kernel
theorem dJ7_copyOf_59c91_6 : decode cJ7_copyOf_59c91 6 = .ok (.aload_n 0, 1) := by decide +kernel
theorem dJ7_copyOf_59c91_7 : decode cJ7_copyOf_59c91 7 = .ok (.invokevirtual 316, 3) := by decide +kernel
theorem dJ7_copyOf_59c91_10 : decode cJ7_copyOf_59c91 10 = .ok (.checkcast 317, 3) := by decide +kernel
theorem dJ7_copyOf_59c91_13 : decode cJ7_copyOf_59c91 13 = .ok (.areturn, 1) := by decide +kernel
theorem dJ7_copyOf_59c91_14 : decode cJ7_copyOf_59c91 14 = .ok (.iload_n 1, 1) := by decide +kernel
theorem dJ7_copyOf_59c91_15 : decode cJ7_copyOf_59c91 15 = .ok (.newarray .int, 2) := by decide +kernel
theorem dJ7_copyOf_59c91_17 : decode cJ7_copyOf_59c91 17 = .ok (.astore_n 2, 1) := by decide +kernel
theorem dJ7_copyOf_59c91_18 : decode cJ7_copyOf_59c91 18 = .ok (.aload_n 0, 1) := by decide +kernel
theorem dJ7_copyOf_59c91_19 : decode cJ7_copyOf_59c91 19 = .ok (.iconst 0, 1) := by decide +kernel
theorem dJ7_copyOf_59c91_20 : decode cJ7_copyOf_59c91 20 = .ok (.aload_n 2, 1) := by decide +kernel
theorem dJ7_copyOf_59c91_21 : decode cJ7_copyOf_59c91 21 = .ok (.iconst 0, 1) := by decide +kernel
theorem dJ7_copyOf_59c91_22 : decode cJ7_copyOf_59c91 22 = .ok (.aload_n 0, 1) := by decide +kernel
theorem dJ7_copyOf_59c91_23 : decode cJ7_copyOf_59c91 23 = .ok (.arraylength, 1) := by decide +kernel
theorem dJ7_copyOf_59c91_24 : decode cJ7_copyOf_59c91 24 = .ok (.iload_n 1, 1) := by decide +kernel
theorem dJ7_copyOf_59c91_25 : decode cJ7_copyOf_59c91 25 = .ok (.invokestatic 304, 3) := by decide +kernel
theorem dJ7_copyOf_59c91_28 : decode cJ7_copyOf_59c91 28 = .ok (.invokestatic 150, 3) := by decide +kernel
theorem dJ7_copyOf_59c91_31 : decode cJ7_copyOf_59c91 31 = .ok (.aload_n 2, 1) := by decide +kernel
theorem dJ7_copyOf_59c91_32 : decode cJ7_copyOf_59c91 32 = .ok (.areturn, 1) := by decide +kernel
theorem dJ7_checkLength_df160_0 : decode cJ7_checkLength_df160 0 = .ok (.iload_n 1, 1) := by decide +kernel
theorem dJ7_checkLength_df160_1 : decode cJ7_checkLength_df160 1 = .ok (.iload_n 0, 1) := by decide +kernel
theorem dJ7_checkLength_df160_2 : decode cJ7_checkLength_df160 2 = .ok (.if_icmp .ge 35, 3) := by decide +kernel
theorem dJ7_checkLength_df160_5 : decode cJ7_checkLength_df160 5 = .ok (.new 43, 3) := by decide +kernel
theorem dJ7_checkLength_df160_8 : decode cJ7_checkLength_df160 8 = .ok (.dup, 1) := by decide +kernel
theorem dJ7_checkLength_df160_9 : decode cJ7_checkLength_df160 9 = .ok (.new 45, 3) := by decide +kernel
theorem dJ7_checkLength_df160_12 : decode cJ7_checkLength_df160 12 = .ok (.dup, 1) := by decide +kernel
theorem dJ7_checkLength_df160_13 : decode cJ7_checkLength_df160 13 = .ok (.invokespecial 47, 3) := by decide +kernel
theorem dJ7_checkLength_df160_16 : decode cJ7_checkLength_df160 16 = .ok (.iload_n 0, 1) := by decide +kernel
theorem dJ7_checkLength_df160_17 : decode cJ7_checkLength_df160 17 = .ok (.invokevirtual 54, 3) := by decide +kernel
theorem dJ7_checkLength_df160_20 : decode cJ7_checkLength_df160 20 = .ok (.ldc_w 337, 3) := by decide +kernel
theorem dJ7_checkLength_df160_23 : decode cJ7_checkLength_df160 23 = .ok (.invokevirtual 50, 3) := by decide +kernel
theorem dJ7_checkLength_df160_26 : decode cJ7_checkLength_df160 26 = .ok (.iload_n 1, 1) := by decide +kernel
theorem dJ7_checkLength_df160_27 : decode cJ7_checkLength_df160 27 = .ok (.invokevirtual 54, 3) := by decide +kernel
theorem dJ7_checkLength_df160_30 : decode cJ7_checkLength_df160 30 = .ok (.invokevirtual 61, 3) := by decide +kernel
theorem dJ7_checkLength_df160_33 : decode cJ7_checkLength_df160 33 = .ok (.invokespecial 65, 3) := by decide +kernel
theorem dJ7_checkLength_df160_36 : decode cJ7_checkLength_df160 36 = .ok (.athrow, 1) := by decide +kernel
theorem dJ7_checkLength_df160_37 : decode cJ7_checkLength_df160 37 = .ok (.return_, 1) := by decide +kernel
theorem dJ7_copyOfRange_39247_0 : decode cJ7_copyOfRange_39247 0 = .ok (.iload_n 1, 1) := by decide +kernel
theorem dJ7_copyOfRange_39247_1 : decode cJ7_copyOfRange_39247 1 = .ok (.ifCond .ne 9, 3) := by decide +kernel
theorem dJ7_copyOfRange_39247_4 : decode cJ7_copyOfRange_39247 4 = .ok (.iload_n 2, 1) := by decide +kernel
theorem dJ7_copyOfRange_39247_5 : decode cJ7_copyOfRange_39247 5 = .ok (.aload_n 0, 1) := by decide +kernel
theorem dJ7_copyOfRange_39247_6 : decode cJ7_copyOfRange_39247 6 = .ok (.arraylength, 1) := by decide +kernel
theorem dJ7_copyOfRange_39247_7 : decode cJ7_copyOfRange_39247 7 = .ok (.if_icmp .eq 10, 3) := by decide +kernel
theorem dJ7_copyOfRange_39247_10 : decode cJ7_copyOfRange_39247 10 = .ok (.aload_n 0, 1) := by decide +kernel
theorem dJ7_copyOfRange_39247_11 : decode cJ7_copyOfRange_39247 11 = .ok (.iload_n 1, 1) := by decide +kernel
theorem dJ7_copyOfRange_39247_12 : decode cJ7_copyOfRange_39247 12 = .ok (.iload_n 2, 1) := by decide +kernel
theorem dJ7_copyOfRange_39247_13 : decode cJ7_copyOfRange_39247 13 = .ok (.invokestatic 339, 3) := by decide +kernel
theorem dJ7_copyOfRange_39247_16 : decode cJ7_copyOfRange_39247 16 = .ok (.areturn, 1) := by decide +kernel
theorem dJ7_copyOfRange_39247_17 : decode cJ7_copyOfRange_39247 17 = .ok (.aload_n 0, 1) := by decide +kernel
theorem dJ7_copyOfRange_39247_18 : decode cJ7_copyOfRange_39247 18 = .ok (.invokevirtual 310, 3) := by decide +kernel
theorem dJ7_copyOfRange_39247_21 : decode cJ7_copyOfRange_39247 21 = .ok (.checkcast 311, 3) := by decide +kernel
theorem dJ7_copyOfRange_39247_24 : decode cJ7_copyOfRange_39247 24 = .ok (.areturn, 1) := by decide +kernel
theorem dJ7_copyOfRangeByte_39247_0 : decode cJ7_copyOfRangeByte_39247 0 = .ok (.iload_n 1, 1) := by decide +kernel
theorem dJ7_copyOfRangeByte_39247_1 : decode cJ7_copyOfRangeByte_39247 1 = .ok (.iload_n 2, 1) := by decide +kernel
theorem dJ7_copyOfRangeByte_39247_2 : decode cJ7_copyOfRangeByte_39247 2 = .ok (.invokestatic 343, 3) := by decide +kernel
theorem dJ7_copyOfRangeByte_39247_5 : decode cJ7_copyOfRangeByte_39247 5 = .ok (.iload_n 2, 1) := by decide +kernel
theorem dJ7_copyOfRangeByte_39247_6 : decode cJ7_copyOfRangeByte_39247 6 = .ok (.iload_n 1, 1) := by decide +kernel
theorem dJ7_copyOfRangeByte_39247_7 : decode cJ7_copyOfRangeByte_39247 7 = .ok (.isub, 1) := by decide +kernel
theorem dJ7_copyOfRangeByte_39247_8 : decode cJ7_copyOfRangeByte_39247 8 = .ok (.istore_n 3, 1) := by decide +kernel
theorem dJ7_copyOfRangeByte_39247_9 : decode cJ7_copyOfRangeByte_39247 9 = .ok (.iload_n 3, 1) := by decide +kernel
theorem dJ7_copyOfRangeByte_39247_10 : decode cJ7_copyOfRangeByte_39247 10 = .ok (.newarray .byte, 2) := by decide +kernel
theorem dJ7_copyOfRangeByte_39247_12 : decode cJ7_copyOfRangeByte_39247 12 = .ok (.astore 4, 2) := by decide +kernel
theorem dJ7_copyOfRangeByte_39247_14 : decode cJ7_copyOfRangeByte_39247 14 = .ok (.aload_n 0, 1) := by decide +kernel
theorem dJ7_copyOfRangeByte_39247_15 : decode cJ7_copyOfRangeByte_39247 15 = .ok (.iload_n 1, 1) := by decide +kernel
theorem dJ7_copyOfRangeByte_39247_16 : decode cJ7_copyOfRangeByte_39247 16 = .ok (.aload 4, 2) := by decide +kernel
theorem dJ7_copyOfRangeByte_39247_18 : decode cJ7_copyOfRangeByte_39247 18 = .ok (.iconst 0, 1) := by decide +kernel
theorem dJ7_copyOfRangeByte_39247_19 : decode cJ7_copyOfRangeByte_39247 19 = .ok (.aload_n 0, 1) := by decide +kernel
theorem dJ7_copyOfRangeByte_39247_20 : decode cJ7_copyOfRangeByte_39247 20 = .ok (.arraylength, 1) := by decide +kernel
theorem dJ7_copyOfRangeByte_39247_21 : decode cJ7_copyOfRangeByte_39247 21 = .ok (.iload_n 1, 1) := by decide +kernel
theorem dJ7_copyOfRangeByte_39247_22 : decode cJ7_copyOfRangeByte_39247 22 = .ok (.isub, 1) := by decide +kernel
theorem dJ7_copyOfRangeByte_39247_23 : decode cJ7_copyOfRangeByte_39247 23 = .ok (.iload_n 3, 1) := by decide +kernel
theorem dJ7_copyOfRangeByte_39247_24 : decode cJ7_copyOfRangeByte_39247 24 = .ok (.invokestatic 304, 3) := by decide +kernel
theorem dJ7_copyOfRangeByte_39247_27 : decode cJ7_copyOfRangeByte_39247 27 = .ok (.invokestatic 150, 3) := by decide +kernel
theorem dJ7_copyOfRangeByte_39247_30 : decode cJ7_copyOfRangeByte_39247 30 = .ok (.aload 4, 2) := by decide +kernel
theorem dJ7_copyOfRangeByte_39247_32 : decode cJ7_copyOfRangeByte_39247 32 = .ok (.areturn, 1) := by decide +kernel
theorem dJ8_newLength_cabcc_0 : decode cJ8_newLength_cabcc 0 = .ok (.iload_n 0, 1) := by decide +kernel
theorem dJ8_newLength_cabcc_1 : decode cJ8_newLength_cabcc 1 = .ok (.iload_n 1, 1) := by decide +kernel
theorem dJ8_newLength_cabcc_2 : decode cJ8_newLength_cabcc 2 = .ok (.iload_n 2, 1) := by decide +kernel
theorem dJ8_newLength_cabcc_3 : decode cJ8_newLength_cabcc 3 = .ok (.invokestatic 194, 3) := by decide +kernel
theorem dJ8_newLength_cabcc_6 : decode cJ8_newLength_cabcc 6 = .ok (.iadd, 1) := by decide +kernel
theorem dJ8_newLength_cabcc_7 : decode cJ8_newLength_cabcc 7 = .ok (.istore_n 3, 1) := by decide +kernel
theorem dJ8_newLength_cabcc_8 : decode cJ8_newLength_cabcc 8 = .ok (.iconst 0, 1) := by decide +kernel
theorem dJ8_newLength_cabcc_9 : decode cJ8_newLength_cabcc 9 = .ok (.iload_n 3, 1) := by decide +kernel
theorem dJ8_newLength_cabcc_10 : decode cJ8_newLength_cabcc 10 = .ok (.if_icmp .ge 11, 3) := by decide +kernel
theorem dJ8_newLength_cabcc_13 : decode cJ8_newLength_cabcc 13 = .ok (.iload_n 3, 1) := by decide +kernel
theorem dJ8_newLength_cabcc_14 : decode cJ8_newLength_cabcc 14 = .ok (.ldc 200, 2) := by decide +kernel
theorem dJ8_newLength_cabcc_16 : decode cJ8_newLength_cabcc 16 = .ok (.if_icmp .gt 5, 3) := by decide +kernel
theorem dJ8_newLength_cabcc_19 : decode cJ8_newLength_cabcc 19 = .ok (.iload_n 3, 1) := by decide +kernel
theorem dJ8_newLength_cabcc_20 : decode cJ8_newLength_cabcc 20 = .ok (.ireturn, 1) := by decide +kernel
theorem dJ8_newLength_cabcc_21 : decode cJ8_newLength_cabcc 21 = .ok (.iload_n 0, 1) := by decide +kernel
theorem dJ8_newLength_cabcc_22 : decode cJ8_newLength_cabcc 22 = .ok (.iload_n 1, 1) := by decide +kernel
theorem dJ8_newLength_cabcc_23 : decode cJ8_newLength_cabcc 23 = .ok (.invokestatic 201, 3) := by decide +kernel
theorem dJ8_newLength_cabcc_26 : decode cJ8_newLength_cabcc 26 = .ok (.ireturn, 1) := by decide +kernel
theorem dJ8_hugeLength_7cf53_0 : decode cJ8_hugeLength_7cf53 0 = .ok (.iload_n 0, 1) := by decide +kernel
theorem dJ8_hugeLength_7cf53_1 : decode cJ8_hugeLength_7cf53 1 = .ok (.iload_n 1, 1) := by decide +kernel
theorem dJ8_hugeLength_7cf53_2 : decode cJ8_hugeLength_7cf53 2 = .ok (.iadd, 1) := by decide +kernel
theorem dJ8_hugeLength_7cf53_3 : decode cJ8_hugeLength_7cf53 3 = .ok (.istore_n 2, 1) := by decide +kernel
theorem dJ8_hugeLength_7cf53_4 : decode cJ8_hugeLength_7cf53 4 = .ok (.iload_n 2, 1) := by decide +kernel
theorem dJ8_hugeLength_7cf53_5 : decode cJ8_hugeLength_7cf53 5 = .ok (.ifCond .ge 44, 3) := by decide +kernel
theorem dJ8_hugeLength_7cf53_8 : decode cJ8_hugeLength_7cf53 8 = .ok (.new 204, 3) := by decide +kernel
theorem dJ8_hugeLength_7cf53_11 : decode cJ8_hugeLength_7cf53 11 = .ok (.dup, 1) := by decide +kernel
theorem dJ8_hugeLength_7cf53_12 : decode cJ8_hugeLength_7cf53 12 = .ok (.new 89, 3) := by decide +kernel
theorem dJ8_hugeLength_7cf53_15 : decode cJ8_hugeLength_7cf53 15 = .ok (.dup, 1) := by decide +kernel
theorem dJ8_hugeLength_7cf53_16 : decode cJ8_hugeLength_7cf53 16 = .ok (.invokespecial 91, 3) := by decide +kernel
theorem dJ8_hugeLength_7cf53_19 : decode cJ8_hugeLength_7cf53 19 = .ok (.ldc 206, 2) := by decide +kernel
theorem dJ8_hugeLength_7cf53_21 : decode cJ8_hugeLength_7cf53 21 = .ok (.invokevirtual 94, 3) := by decide +kernel
theorem dJ8_hugeLength_7cf53_24 : decode cJ8_hugeLength_7cf53 24 = .ok (.iload_n 0, 1) := by decide +kernel
theorem dJ8_hugeLength_7cf53_25 : decode cJ8_hugeLength_7cf53 25 = .ok (.invokevirtual 98, 3) := by decide +kernel
theorem dJ8_hugeLength_7cf53_28 : decode cJ8_hugeLength_7cf53 28 = .ok (.ldc 208, 2) := by decide +kernel
theorem dJ8_hugeLength_7cf53_30 : decode cJ8_hugeLength_7cf53 30 = .ok (.invokevirtual 94, 3) := by decide +kernel
theorem dJ8_hugeLength_7cf53_33 : decode cJ8_hugeLength_7cf53 33 = .ok (.iload_n 1, 1) := by decide +kernel
theorem dJ8_hugeLength_7cf53_34 : decode cJ8_hugeLength_7cf53 34 = .ok (.invokevirtual 98, 3) := by decide +kernel
theorem dJ8_hugeLength_7cf53_37 : decode cJ8_hugeLength_7cf53 37 = .ok (.ldc 210, 2) := by decide +kernel
theorem dJ8_hugeLength_7cf53_39 : decode cJ8_hugeLength_7cf53 39 = .ok (.invokevirtual 94, 3) := by decide +kernel
theorem dJ8_hugeLength_7cf53_42 : decode cJ8_hugeLength_7cf53 42 = .ok (.invokevirtual 101, 3) := by decide +kernel
theorem dJ8_hugeLength_7cf53_45 : decode cJ8_hugeLength_7cf53 45 = .ok (.invokespecial 212, 3) := by decide +kernel
theorem dJ8_hugeLength_7cf53_48 : decode cJ8_hugeLength_7cf53 48 = .ok (.athrow, 1) := by decide +kernel
theorem dJ8_hugeLength_7cf53_49 : decode cJ8_hugeLength_7cf53 49 = .ok (.iload_n 2, 1) := by decide +kernel
theorem dJ8_hugeLength_7cf53_50 : decode cJ8_hugeLength_7cf53 50 = .ok (.ldc 200, 2) := by decide +kernel
theorem dJ8_hugeLength_7cf53_52 : decode cJ8_hugeLength_7cf53 52 = .ok (.if_icmp .gt 6, 3) := by decide +kernel
theorem dJ8_hugeLength_7cf53_55 : decode cJ8_hugeLength_7cf53 55 = .ok (.ldc 200, 2) := by decide +kernel
theorem dJ8_hugeLength_7cf53_57 : decode cJ8_hugeLength_7cf53 57 = .ok (.ireturn, 1) := by decide +kernel
theorem dJ8_hugeLength_7cf53_58 : decode cJ8_hugeLength_7cf53 58 = .ok (.iload_n 2, 1) := by decide +kernel
theorem dJ8_hugeLength_7cf53_59 : decode cJ8_hugeLength_7cf53 59 = .ok (.ireturn, 1) := by decide +kernel
theorem dJ3_checkIndex_8e157_0 : decode cJ3_checkIndex_8e157 0 = .ok (.iload_n 0, 1) := by decide +kernel
theorem dJ3_checkIndex_8e157_1 : decode cJ3_checkIndex_8e157 1 = .ok (.ifCond .lt 8, 3) := by decide +kernel
theorem dJ3_checkIndex_8e157_4 : decode cJ3_checkIndex_8e157 4 = .ok (.iload_n 0, 1) := by decide +kernel
theorem dJ3_checkIndex_8e157_5 : decode cJ3_checkIndex_8e157 5 = .ok (.iload_n 1, 1) := by decide +kernel
theorem dJ3_checkIndex_8e157_6 : decode cJ3_checkIndex_8e157 6 = .ok (.if_icmp .lt 10, 3) := by decide +kernel
theorem dJ3_checkIndex_8e157_9 : decode cJ3_checkIndex_8e157 9 = .ok (.aload_n 2, 1) := by decide +kernel
theorem dJ3_checkIndex_8e157_10 : decode cJ3_checkIndex_8e157 10 = .ok (.iload_n 0, 1) := by decide +kernel
theorem dJ3_checkIndex_8e157_11 : decode cJ3_checkIndex_8e157 11 = .ok (.iload_n 1, 1) := by decide +kernel
theorem dJ3_checkIndex_8e157_12 : decode cJ3_checkIndex_8e157 12 = .ok (.invokestatic 95, 3) := by decide +kernel
theorem dJ3_checkIndex_8e157_15 : decode cJ3_checkIndex_8e157 15 = .ok (.athrow, 1) := by decide +kernel
theorem dJ3_checkIndex_8e157_16 : decode cJ3_checkIndex_8e157 16 = .ok (.iload_n 0, 1) := by decide +kernel
theorem dJ3_checkIndex_8e157_17 : decode cJ3_checkIndex_8e157 17 = .ok (.ireturn, 1) := by decide +kernel
theorem dJ3_checkFromToIndex_8c36e_0 : decode cJ3_checkFromToIndex_8c36e 0 = .ok (.iload_n 0, 1) := by decide +kernel
theorem dJ3_checkFromToIndex_8c36e_1 : decode cJ3_checkFromToIndex_8c36e 1 = .ok (.ifCond .lt 13, 3) := by decide +kernel
theorem dJ3_checkFromToIndex_8c36e_4 : decode cJ3_checkFromToIndex_8c36e 4 = .ok (.iload_n 0, 1) := by decide +kernel
theorem dJ3_checkFromToIndex_8c36e_5 : decode cJ3_checkFromToIndex_8c36e 5 = .ok (.iload_n 1, 1) := by decide +kernel
theorem dJ3_checkFromToIndex_8c36e_6 : decode cJ3_checkFromToIndex_8c36e 6 = .ok (.if_icmp .gt 8, 3) := by decide +kernel
theorem dJ3_checkFromToIndex_8c36e_9 : decode cJ3_checkFromToIndex_8c36e 9 = .ok (.iload_n 1, 1) := by decide +kernel
theorem dJ3_checkFromToIndex_8c36e_10 : decode cJ3_checkFromToIndex_8c36e 10 = .ok (.iload_n 2, 1) := by decide +kernel
theorem dJ3_checkFromToIndex_8c36e_11 : decode cJ3_checkFromToIndex_8c36e 11 = .ok (.if_icmp .le 11, 3) := by decide +kernel
theorem dJ3_checkFromToIndex_8c36e_14 : decode cJ3_checkFromToIndex_8c36e 14 = .ok (.aload_n 3, 1) := by decide +kernel
theorem dJ3_checkFromToIndex_8c36e_15 : decode cJ3_checkFromToIndex_8c36e 15 = .ok (.iload_n 0, 1) := by decide +kernel
theorem dJ3_checkFromToIndex_8c36e_16 : decode cJ3_checkFromToIndex_8c36e 16 = .ok (.iload_n 1, 1) := by decide +kernel
theorem dJ3_checkFromToIndex_8c36e_17 : decode cJ3_checkFromToIndex_8c36e 17 = .ok (.iload_n 2, 1) := by decide +kernel
theorem dJ3_checkFromToIndex_8c36e_18 : decode cJ3_checkFromToIndex_8c36e 18 = .ok (.invokestatic 99, 3) := by decide +kernel
theorem dJ3_checkFromToIndex_8c36e_21 : decode cJ3_checkFromToIndex_8c36e 21 = .ok (.athrow, 1) := by decide +kernel
theorem dJ3_checkFromToIndex_8c36e_22 : decode cJ3_checkFromToIndex_8c36e 22 = .ok (.iload_n 0, 1) := by decide +kernel
theorem dJ3_checkFromToIndex_8c36e_23 : decode cJ3_checkFromToIndex_8c36e 23 = .ok (.ireturn, 1) := by decide +kernel
theorem dJ3_checkFromIndexSize_8c36e_0 : decode cJ3_checkFromIndexSize_8c36e 0 = .ok (.iload_n 2, 1) := by decide +kernel
theorem dJ3_checkFromIndexSize_8c36e_1 : decode cJ3_checkFromIndexSize_8c36e 1 = .ok (.iload_n 0, 1) := by decide +kernel
theorem dJ3_checkFromIndexSize_8c36e_2 : decode cJ3_checkFromIndexSize_8c36e 2 = .ok (.ior, 1) := by decide +kernel
theorem dJ3_checkFromIndexSize_8c36e_3 : decode cJ3_checkFromIndexSize_8c36e 3 = .ok (.iload_n 1, 1) := by decide +kernel
theorem dJ3_checkFromIndexSize_8c36e_4 : decode cJ3_checkFromIndexSize_8c36e 4 = .ok (.ior, 1) := by decide +kernel
theorem dJ3_checkFromIndexSize_8c36e_5 : decode cJ3_checkFromIndexSize_8c36e 5 = .ok (.ifCond .lt 10, 3) := by decide +kernel
theorem dJ3_checkFromIndexSize_8c36e_8 : decode cJ3_checkFromIndexSize_8c36e 8 = .ok (.iload_n 1, 1) := by decide +kernel
theorem dJ3_checkFromIndexSize_8c36e_9 : decode cJ3_checkFromIndexSize_8c36e 9 = .ok (.iload_n 2, 1) := by decide +kernel
theorem dJ3_checkFromIndexSize_8c36e_10 : decode cJ3_checkFromIndexSize_8c36e 10 = .ok (.iload_n 0, 1) := by decide +kernel
theorem dJ3_checkFromIndexSize_8c36e_11 : decode cJ3_checkFromIndexSize_8c36e 11 = .ok (.isub, 1) := by decide +kernel
theorem dJ3_checkFromIndexSize_8c36e_12 : decode cJ3_checkFromIndexSize_8c36e 12 = .ok (.if_icmp .le 11, 3) := by decide +kernel
theorem dJ3_checkFromIndexSize_8c36e_15 : decode cJ3_checkFromIndexSize_8c36e 15 = .ok (.aload_n 3, 1) := by decide +kernel
theorem dJ3_checkFromIndexSize_8c36e_16 : decode cJ3_checkFromIndexSize_8c36e 16 = .ok (.iload_n 0, 1) := by decide +kernel
theorem dJ3_checkFromIndexSize_8c36e_17 : decode cJ3_checkFromIndexSize_8c36e 17 = .ok (.iload_n 1, 1) := by decide +kernel
theorem dJ3_checkFromIndexSize_8c36e_18 : decode cJ3_checkFromIndexSize_8c36e 18 = .ok (.iload_n 2, 1) := by decide +kernel
theorem dJ3_checkFromIndexSize_8c36e_19 : decode cJ3_checkFromIndexSize_8c36e 19 = .ok (.invokestatic 103, 3) := by decide +kernel
theorem dJ3_checkFromIndexSize_8c36e_22 : decode cJ3_checkFromIndexSize_8c36e 22 = .ok (.athrow, 1) := by decide +kernel
theorem dJ3_checkFromIndexSize_8c36e_23 : decode cJ3_checkFromIndexSize_8c36e 23 = .ok (.iload_n 0, 1) := by decide +kernel
theorem dJ3_checkFromIndexSize_8c36e_24 : decode cJ3_checkFromIndexSize_8c36e 24 = .ok (.ireturn, 1) := by decide +kernel
