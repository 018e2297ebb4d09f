theorem dX7_init_0 : decode cX7_init 0 = .ok (.aload_n 0, 1) := by decide +kernel
theorem dX7_init_1 : decode cX7_init 1 = .ok (.invokespecial 3, 3) := by decide +kernel
theorem dX7_init_4 : decode cX7_init 4 = .ok (.aload_n 0, 1) := by decide +kernel
theorem dX7_init_5 : decode cX7_init 5 = .ok (.iconst 3, 1) := by decide +kernel
theorem dX7_init_6 : decode cX7_init 6 = .ok (.putfield 9, 3) := by decide +kernel
theorem dX7_init_9 : decode cX7_init 9 = .ok (.aload_n 0, 1) := by decide +kernel
theorem dX7_init_10 : decode cX7_init 10 = .ok (.iconst 4, 1) := by decide +kernel
theorem dX7_init_11 : decode cX7_init 11 = .ok (.newarray .int, 2) := by decide +kernel
theorem dX7_init_13 : decode cX7_init 13 = .ok (.putfield 15, 3) := by decide +kernel
theorem dX7_init_16 : decode cX7_init 16 = .ok (.aload_n 0, 1) := by decide +kernel
theorem dX7_init_17 : decode cX7_init 17 = .ok (.iconst 4, 1) := by decide +kernel
theorem dX7_init_18 : decode cX7_init 18 = .ok (.newarray .int, 2) := by decide +kernel
theorem dX7_init_20 : decode cX7_init 20 = .ok (.putfield 19, 3) := by decide +kernel
theorem dX7_init_23 : decode cX7_init 23 = .ok (.aload_n 0, 1) := by decide +kernel
theorem dX7_init_24 : decode cX7_init 24 = .ok (.bipush 10, 2) := by decide +kernel
theorem dX7_init_26 : decode cX7_init 26 = .ok (.newarray .int, 2) := by decide +kernel
theorem dX7_init_28 : decode cX7_init 28 = .ok (.putfield 22, 3) := by decide +kernel
theorem dX7_init_31 : decode cX7_init 31 = .ok (.aload_n 0, 1) := by decide +kernel
theorem dX7_init_32 : decode cX7_init 32 = .ok (.bipush 10, 2) := by decide +kernel
theorem dX7_init_34 : decode cX7_init 34 = .ok (.newarray .int, 2) := by decide +kernel
theorem dX7_init_36 : decode cX7_init 36 = .ok (.putfield 25, 3) := by decide +kernel
theorem dX7_init_39 : decode cX7_init 39 = .ok (.aload_n 0, 1) := by decide +kernel
theorem dX7_init_40 : decode cX7_init 40 = .ok (.bipush 60, 2) := by decide +kernel
theorem dX7_init_42 : decode cX7_init 42 = .ok (.newarray .long, 2) := by decide +kernel
theorem dX7_init_44 : decode cX7_init 44 = .ok (.putfield 28, 3) := by decide +kernel
theorem dX7_init_47 : decode cX7_init 47 = .ok (.aload_n 0, 1) := by decide +kernel
theorem dX7_init_48 : decode cX7_init 48 = .ok (.iconst 3, 1) := by decide +kernel
theorem dX7_init_49 : decode cX7_init 49 = .ok (.newarray .int, 2) := by decide +kernel
theorem dX7_init_51 : decode cX7_init 51 = .ok (.dup, 1) := by decide +kernel
theorem dX7_init_52 : decode cX7_init 52 = .ok (.iconst 0, 1) := by decide +kernel
theorem dX7_init_53 : decode cX7_init 53 = .ok (.iconst (-1), 1) := by decide +kernel
theorem dX7_init_54 : decode cX7_init 54 = .ok (.iastore, 1) := by decide +kernel
theorem dX7_init_55 : decode cX7_init 55 = .ok (.dup, 1) := by decide +kernel
theorem dX7_init_56 : decode cX7_init 56 = .ok (.iconst 1, 1) := by decide +kernel
theorem dX7_init_57 : decode cX7_init 57 = .ok (.iconst (-1), 1) := by decide +kernel
theorem dX7_init_58 : decode cX7_init 58 = .ok (.iastore, 1) := by decide +kernel
theorem dX7_init_59 : decode cX7_init 59 = .ok (.dup, 1) := by decide +kernel
theorem dX7_init_60 : decode cX7_init 60 = .ok (.iconst 2, 1) := by decide +kernel
theorem dX7_init_61 : decode cX7_init 61 = .ok (.iconst (-1), 1) := by decide +kernel
theorem dX7_init_62 : decode cX7_init 62 = .ok (.iastore, 1) := by decide +kernel
theorem dX7_init_63 : decode cX7_init 63 = .ok (.putfield 32, 3) := by decide +kernel
theorem dX7_init_66 : decode cX7_init 66 = .ok (.aload_n 0, 1) := by decide +kernel
theorem dX7_init_67 : decode cX7_init 67 = .ok (.bipush 60, 2) := by decide +kernel
theorem dX7_init_69 : decode cX7_init 69 = .ok (.newarray .int, 2) := by decide +kernel
theorem dX7_init_71 : decode cX7_init 71 = .ok (.putfield 35, 3) := by decide +kernel
theorem dX7_init_74 : decode cX7_init 74 = .ok (.aload_n 0, 1) := by decide +kernel
theorem dX7_init_75 : decode cX7_init 75 = .ok (.iconst 4, 1) := by decide +kernel
theorem dX7_init_76 : decode cX7_init 76 = .ok (.newarray .int, 2) := by decide +kernel
theorem dX7_init_78 : decode cX7_init 78 = .ok (.putfield 38, 3) := by decide +kernel
theorem dX7_init_81 : decode cX7_init 81 = .ok (.aload_n 0, 1) := by decide +kernel
theorem dX7_init_82 : decode cX7_init 82 = .ok (.iconst 4, 1) := by decide +kernel
theorem dX7_init_83 : decode cX7_init 83 = .ok (.newarray .int, 2) := by decide +kernel
theorem dX7_init_85 : decode cX7_init 85 = .ok (.putfield 41, 3) := by decide +kernel
theorem dX7_init_88 : decode cX7_init 88 = .ok (.aload_n 0, 1) := by decide +kernel
theorem dX7_init_89 : decode cX7_init 89 = .ok (.sipush 429, 3) := by decide +kernel
theorem dX7_init_92 : decode cX7_init 92 = .ok (.newarray .int, 2) := by decide +kernel
theorem dX7_init_94 : decode cX7_init 94 = .ok (.putfield 44, 3) := by decide +kernel
theorem dX7_init_97 : decode cX7_init 97 = .ok (.aload_n 0, 1) := by decide +kernel
theorem dX7_init_98 : decode cX7_init 98 = .ok (.bipush 7, 2) := by decide +kernel
theorem dX7_init_100 : decode cX7_init 100 = .ok (.newarray .int, 2) := by decide +kernel
theorem dX7_init_102 : decode cX7_init 102 = .ok (.putfield 47, 3) := by decide +kernel
theorem dX7_init_105 : decode cX7_init 105 = .ok (.aload_n 0, 1) := by decide +kernel
theorem dX7_init_106 : decode cX7_init 106 = .ok (.bipush 7, 2) := by decide +kernel
theorem dX7_init_108 : decode cX7_init 108 = .ok (.newarray .int, 2) := by decide +kernel
theorem dX7_init_110 : decode cX7_init 110 = .ok (.putfield 50, 3) := by decide +kernel
theorem dX7_init_113 : decode cX7_init 113 = .ok (.aload_n 0, 1) := by decide +kernel
theorem dX7_init_114 : decode cX7_init 114 = .ok (.bipush 7, 2) := by decide +kernel
theorem dX7_init_116 : decode cX7_init 116 = .ok (.newarray .int, 2) := by decide +kernel
theorem dX7_init_118 : decode cX7_init 118 = .ok (.putfield 53, 3) := by decide +kernel
theorem dX7_init_121 : decode cX7_init 121 = .ok (.aload_n 0, 1) := by decide +kernel
theorem dX7_init_122 : decode cX7_init 122 = .ok (.bipush 7, 2) := by decide +kernel
theorem dX7_init_124 : decode cX7_init 124 = .ok (.newarray .int, 2) := by decide +kernel
theorem dX7_init_126 : decode cX7_init 126 = .ok (.putfield 56, 3) := by decide +kernel
theorem dX7_init_129 : decode cX7_init 129 = .ok (.aload_n 0, 1) := by decide +kernel
theorem dX7_init_130 : decode cX7_init 130 = .ok (.bipush 7, 2) := by decide +kernel
theorem dX7_init_132 : decode cX7_init 132 = .ok (.newarray .int, 2) := by decide +kernel
theorem dX7_init_134 : decode cX7_init 134 = .ok (.putfield 59, 3) := by decide +kernel
theorem dX7_init_137 : decode cX7_init 137 = .ok (.aload_n 0, 1) := by decide +kernel
theorem dX7_init_138 : decode cX7_init 138 = .ok (.sipush 429, 3) := by decide +kernel
theorem dX7_init_141 : decode cX7_init 141 = .ok (.newarray .int, 2) := by decide +kernel
theorem dX7_init_143 : decode cX7_init 143 = .ok (.putfield 62, 3) := by decide +kernel
theorem dX7_init_146 : decode cX7_init 146 = .ok (.aload_n 0, 1) := by decide +kernel
theorem dX7_init_147 : decode cX7_init 147 = .ok (.sipush 429, 3) := by decide +kernel
theorem dX7_init_150 : decode cX7_init 150 = .ok (.newarray .int, 2) := by decide +kernel
theorem dX7_init_152 : decode cX7_init 152 = .ok (.putfield 65, 3) := by decide +kernel
theorem dX7_init_155 : decode cX7_init 155 = .ok (.aload_n 0, 1) := by decide +kernel
theorem dX7_init_156 : decode cX7_init 156 = .ok (.sipush 429, 3) := by decide +kernel
theorem dX7_init_159 : decode cX7_init 159 = .ok (.newarray .int, 2) := by decide +kernel
theorem dX7_init_161 : decode cX7_init 161 = .ok (.putfield 68, 3) := by decide +kernel
theorem dX7_init_164 : decode cX7_init 164 = .ok (.aload_n 0, 1) := by decide +kernel
theorem dX7_init_165 : decode cX7_init 165 = .ok (.bipush 60, 2) := by decide +kernel
theorem dX7_init_167 : decode cX7_init 167 = .ok (.newarray .int, 2) := by decide +kernel
theorem dX7_init_169 : decode cX7_init 169 = .ok (.putfield 71, 3) := by decide +kernel
theorem dX7_init_172 : decode cX7_init 172 = .ok (.aload_n 0, 1) := by decide +kernel
theorem dX7_init_173 : decode cX7_init 173 = .ok (.bipush 7, 2) := by decide +kernel
theorem dX7_init_175 : decode cX7_init 175 = .ok (.newarray .int, 2) := by decide +kernel
theorem dX7_init_177 : decode cX7_init 177 = .ok (.putfield 74, 3) := by decide +kernel
theorem dX7_init_180 : decode cX7_init 180 = .ok (.return_, 1) := by decide +kernel
theorem dX7_in_0 : decode cX7_in 0 = .ok (.lload_n 0, 1) := by decide +kernel
theorem dX7_in_1 : decode cX7_in 1 = .ok (.lload_n 2, 1) := by decide +kernel
theorem dX7_in_2 : decode cX7_in 2 = .ok (.lcmp, 1) := by decide +kernel
theorem dX7_in_3 : decode cX7_in 3 = .ok (.ifCond .lt 14, 3) := by decide +kernel
theorem dX7_in_6 : decode cX7_in 6 = .ok (.lload_n 0, 1) := by decide +kernel
theorem dX7_in_7 : decode cX7_in 7 = .ok (.lload 4, 2) := by decide +kernel
theorem dX7_in_9 : decode cX7_in 9 = .ok (.lcmp, 1) := by decide +kernel
theorem dX7_in_10 : decode cX7_in 10 = .ok (.ifCond .gt 7, 3) := by decide +kernel
theorem dX7_in_13 : decode cX7_in 13 = .ok (.iconst 1, 1) := by decide +kernel
theorem dX7_in_14 : decode cX7_in 14 = .ok (.goto 4, 3) := by decide +kernel
theorem dX7_in_17 : decode cX7_in 17 = .ok (.iconst 0, 1) := by decide +kernel
theorem dX7_in_18 : decode cX7_in 18 = .ok (.ireturn, 1) := by decide +kernel
theorem dX7_ten_0 : decode cX7_ten 0 = .ok (.iconst 1, 1) := by decide +kernel
theorem dX7_ten_1 : decode cX7_ten 1 = .ok (.istore_n 1, 1) := by decide +kernel
theorem dX7_ten_2 : decode cX7_ten 2 = .ok (.iconst 0, 1) := by decide +kernel
theorem dX7_ten_3 : decode cX7_ten 3 = .ok (.istore_n 2, 1) := by decide +kernel
theorem dX7_ten_4 : decode cX7_ten 4 = .ok (.iload_n 2, 1) := by decide +kernel
theorem dX7_ten_5 : decode cX7_ten 5 = .ok (.iload_n 0, 1) := by decide +kernel
theorem dX7_ten_6 : decode cX7_ten 6 = .ok (.if_icmp .ge 14, 3) := by decide +kernel
theorem dX7_ten_9 : decode cX7_ten 9 = .ok (.iload_n 1, 1) := by decide +kernel
theorem dX7_ten_10 : decode cX7_ten 10 = .ok (.bipush 10, 2) := by decide +kernel
theorem dX7_ten_12 : decode cX7_ten 12 = .ok (.imul, 1) := by decide +kernel
theorem dX7_ten_13 : decode cX7_ten 13 = .ok (.istore_n 1, 1) := by decide +kernel
theorem dX7_ten_14 : decode cX7_ten 14 = .ok (.iinc 2 1, 3) := by decide +kernel
theorem dX7_ten_17 : decode cX7_ten 17 = .ok (.goto (-13), 3) := by decide +kernel
theorem dX7_ten_20 : decode cX7_ten 20 = .ok (.iload_n 1, 1) := by decide +kernel
theorem dX7_ten_21 : decode cX7_ten 21 = .ok (.ireturn, 1) := by decide +kernel
theorem dX7_at_0 : decode cX7_at 0 = .ok (.iload_n 0, 1) := by decide +kernel
theorem dX7_at_1 : decode cX7_at 1 = .ok (.iload_n 1, 1) := by decide +kernel
theorem dX7_at_2 : decode cX7_at 2 = .ok (.iconst 1, 1) := by decide +kernel
theorem dX7_at_3 : decode cX7_at 3 = .ok (.isub, 1) := by decide +kernel
theorem dX7_at_4 : decode cX7_at 4 = .ok (.iload_n 2, 1) := by decide +kernel
theorem dX7_at_5 : decode cX7_at 5 = .ok (.isub, 1) := by decide +kernel
theorem dX7_at_6 : decode cX7_at 6 = .ok (.invokestatic 77, 3) := by decide +kernel
theorem dX7_at_9 : decode cX7_at 9 = .ok (.idiv, 1) := by decide +kernel
theorem dX7_at_10 : decode cX7_at 10 = .ok (.bipush 10, 2) := by decide +kernel
theorem dX7_at_12 : decode cX7_at 12 = .ok (.irem, 1) := by decide +kernel
theorem dX7_at_13 : decode cX7_at 13 = .ok (.ireturn, 1) := by decide +kernel
theorem dX7_with_0 : decode cX7_with 0 = .ok (.iload_n 0, 1) := by decide +kernel
theorem dX7_with_1 : decode cX7_with 1 = .ok (.iload_n 3, 1) := by decide +kernel
theorem dX7_with_2 : decode cX7_with 2 = .ok (.iload_n 0, 1) := by decide +kernel
theorem dX7_with_3 : decode cX7_with 3 = .ok (.iload_n 1, 1) := by decide +kernel
theorem dX7_with_4 : decode cX7_with 4 = .ok (.iload_n 2, 1) := by decide +kernel
theorem dX7_with_5 : decode cX7_with 5 = .ok (.invokestatic 81, 3) := by decide +kernel
theorem dX7_with_8 : decode cX7_with 8 = .ok (.isub, 1) := by decide +kernel
theorem dX7_with_9 : decode cX7_with 9 = .ok (.iload_n 1, 1) := by decide +kernel
theorem dX7_with_10 : decode cX7_with 10 = .ok (.iconst 1, 1) := by decide +kernel
theorem dX7_with_11 : decode cX7_with 11 = .ok (.isub, 1) := by decide +kernel
theorem dX7_with_12 : decode cX7_with 12 = .ok (.iload_n 2, 1) := by decide +kernel
theorem dX7_with_13 : decode cX7_with 13 = .ok (.isub, 1) := by decide +kernel
theorem dX7_with_14 : decode cX7_with 14 = .ok (.invokestatic 77, 3) := by decide +kernel
theorem dX7_with_17 : decode cX7_with 17 = .ok (.imul, 1) := by decide +kernel
theorem dX7_with_18 : decode cX7_with 18 = .ok (.iadd, 1) := by decide +kernel
theorem dX7_with_19 : decode cX7_with 19 = .ok (.ireturn, 1) := by decide +kernel
theorem dX7_isTree_0 : decode cX7_isTree 0 = .ok (.iload_n 0, 1) := by decide +kernel
theorem dX7_isTree_1 : decode cX7_isTree 1 = .ok (.i2l, 1) := by decide +kernel
theorem dX7_isTree_2 : decode cX7_isTree 2 = .ok (.lconst 0, 1) := by decide +kernel
theorem dX7_isTree_3 : decode cX7_isTree 3 = .ok (.iload_n 1, 1) := by decide +kernel
theorem dX7_isTree_4 : decode cX7_isTree 4 = .ok (.invokestatic 77, 3) := by decide +kernel
theorem dX7_isTree_7 : decode cX7_isTree 7 = .ok (.iconst 1, 1) := by decide +kernel
theorem dX7_isTree_8 : decode cX7_isTree 8 = .ok (.isub, 1) := by decide +kernel
theorem dX7_isTree_9 : decode cX7_isTree 9 = .ok (.i2l, 1) := by decide +kernel
theorem dX7_isTree_10 : decode cX7_isTree 10 = .ok (.invokestatic 85, 3) := by decide +kernel
theorem dX7_isTree_13 : decode cX7_isTree 13 = .ok (.ifCond .ne 5, 3) := by decide +kernel
theorem dX7_isTree_16 : decode cX7_isTree 16 = .ok (.iconst 0, 1) := by decide +kernel
theorem dX7_isTree_17 : decode cX7_isTree 17 = .ok (.ireturn, 1) := by decide +kernel
theorem dX7_isTree_18 : decode cX7_isTree 18 = .ok (.iconst 0, 1) := by decide +kernel
theorem dX7_isTree_19 : decode cX7_isTree 19 = .ok (.istore_n 2, 1) := by decide +kernel
theorem dX7_isTree_20 : decode cX7_isTree 20 = .ok (.iload_n 2, 1) := by decide +kernel
theorem dX7_isTree_21 : decode cX7_isTree 21 = .ok (.iload_n 1, 1) := by decide +kernel
theorem dX7_isTree_22 : decode cX7_isTree 22 = .ok (.if_icmp .ge 64, 3) := by decide +kernel
theorem dX7_isTree_25 : decode cX7_isTree 25 = .ok (.iload_n 0, 1) := by decide +kernel
theorem dX7_isTree_26 : decode cX7_isTree 26 = .ok (.iload_n 1, 1) := by decide +kernel
theorem dX7_isTree_27 : decode cX7_isTree 27 = .ok (.iload_n 2, 1) := by decide +kernel
theorem dX7_isTree_28 : decode cX7_isTree 28 = .ok (.invokestatic 81, 3) := by decide +kernel
theorem dX7_isTree_31 : decode cX7_isTree 31 = .ok (.istore_n 3, 1) := by decide +kernel
theorem dX7_isTree_32 : decode cX7_isTree 32 = .ok (.iload_n 3, 1) := by decide +kernel
theorem dX7_isTree_33 : decode cX7_isTree 33 = .ok (.iload_n 1, 1) := by decide +kernel
theorem dX7_isTree_34 : decode cX7_isTree 34 = .ok (.iconst 1, 1) := by decide +kernel
theorem dX7_isTree_35 : decode cX7_isTree 35 = .ok (.isub, 1) := by decide +kernel
theorem dX7_isTree_36 : decode cX7_isTree 36 = .ok (.iload_n 2, 1) := by decide +kernel
theorem dX7_isTree_37 : decode cX7_isTree 37 = .ok (.isub, 1) := by decide +kernel
theorem dX7_isTree_38 : decode cX7_isTree 38 = .ok (.if_icmp .le 5, 3) := by decide +kernel
theorem dX7_isTree_41 : decode cX7_isTree 41 = .ok (.iconst 0, 1) := by decide +kernel
theorem dX7_isTree_42 : decode cX7_isTree 42 = .ok (.ireturn, 1) := by decide +kernel
theorem dX7_isTree_43 : decode cX7_isTree 43 = .ok (.iload_n 2, 1) := by decide +kernel
theorem dX7_isTree_44 : decode cX7_isTree 44 = .ok (.iconst 1, 1) := by decide +kernel
theorem dX7_isTree_45 : decode cX7_isTree 45 = .ok (.iadd, 1) := by decide +kernel
theorem dX7_isTree_46 : decode cX7_isTree 46 = .ok (.istore 4, 2) := by decide +kernel
theorem dX7_isTree_48 : decode cX7_isTree 48 = .ok (.iload 4, 2) := by decide +kernel
theorem dX7_isTree_50 : decode cX7_isTree 50 = .ok (.iload_n 2, 1) := by decide +kernel
theorem dX7_isTree_51 : decode cX7_isTree 51 = .ok (.iload_n 3, 1) := by decide +kernel
theorem dX7_isTree_52 : decode cX7_isTree 52 = .ok (.iadd, 1) := by decide +kernel
theorem dX7_isTree_53 : decode cX7_isTree 53 = .ok (.if_icmp .gt 27, 3) := by decide +kernel
theorem dX7_isTree_56 : decode cX7_isTree 56 = .ok (.iload 4, 2) := by decide +kernel
theorem dX7_isTree_58 : decode cX7_isTree 58 = .ok (.iload_n 0, 1) := by decide +kernel
theorem dX7_isTree_59 : decode cX7_isTree 59 = .ok (.iload_n 1, 1) := by decide +kernel
theorem dX7_isTree_60 : decode cX7_isTree 60 = .ok (.iload 4, 2) := by decide +kernel
theorem dX7_isTree_62 : decode cX7_isTree 62 = .ok (.invokestatic 81, 3) := by decide +kernel
theorem dX7_isTree_65 : decode cX7_isTree 65 = .ok (.iadd, 1) := by decide +kernel
theorem dX7_isTree_66 : decode cX7_isTree 66 = .ok (.iload_n 2, 1) := by decide +kernel
theorem dX7_isTree_67 : decode cX7_isTree 67 = .ok (.iload_n 3, 1) := by decide +kernel
theorem dX7_isTree_68 : decode cX7_isTree 68 = .ok (.iadd, 1) := by decide +kernel
theorem dX7_isTree_69 : decode cX7_isTree 69 = .ok (.if_icmp .le 5, 3) := by decide +kernel
theorem dX7_isTree_72 : decode cX7_isTree 72 = .ok (.iconst 0, 1) := by decide +kernel
theorem dX7_isTree_73 : decode cX7_isTree 73 = .ok (.ireturn, 1) := by decide +kernel
theorem dX7_isTree_74 : decode cX7_isTree 74 = .ok (.iinc 4 1, 3) := by decide +kernel
theorem dX7_isTree_77 : decode cX7_isTree 77 = .ok (.goto (-29), 3) := by decide +kernel
theorem dX7_isTree_80 : decode cX7_isTree 80 = .ok (.iinc 2 1, 3) := by decide +kernel
theorem dX7_isTree_83 : decode cX7_isTree 83 = .ok (.goto (-63), 3) := by decide +kernel
theorem dX7_isTree_86 : decode cX7_isTree 86 = .ok (.iconst 1, 1) := by decide +kernel
theorem dX7_isTree_87 : decode cX7_isTree 87 = .ok (.ireturn, 1) := by decide +kernel
theorem dX7_table_0 : decode cX7_table 0 = .ok (.aload_n 0, 1) := by decide +kernel
theorem dX7_table_1 : decode cX7_table 1 = .ok (.getfield 89, 3) := by decide +kernel
theorem dX7_table_4 : decode cX7_table 4 = .ok (.iload_n 1, 1) := by decide +kernel
theorem dX7_table_5 : decode cX7_table 5 = .ok (.if_icmp .ne 4, 3) := by decide +kernel
theorem dX7_table_8 : decode cX7_table 8 = .ok (.return_, 1) := by decide +kernel
theorem dX7_table_9 : decode cX7_table 9 = .ok (.aload_n 0, 1) := by decide +kernel
theorem dX7_table_10 : decode cX7_table 10 = .ok (.iload_n 1, 1) := by decide +kernel
theorem dX7_table_11 : decode cX7_table 11 = .ok (.putfield 89, 3) := by decide +kernel
theorem dX7_table_14 : decode cX7_table 14 = .ok (.aload_n 0, 1) := by decide +kernel
theorem dX7_table_15 : decode cX7_table 15 = .ok (.iconst 0, 1) := by decide +kernel
theorem dX7_table_16 : decode cX7_table 16 = .ok (.putfield 92, 3) := by decide +kernel
theorem dX7_table_19 : decode cX7_table 19 = .ok (.iconst 0, 1) := by decide +kernel
theorem dX7_table_20 : decode cX7_table 20 = .ok (.istore_n 2, 1) := by decide +kernel
theorem dX7_table_21 : decode cX7_table 21 = .ok (.iload_n 2, 1) := by decide +kernel
theorem dX7_table_22 : decode cX7_table 22 = .ok (.iload_n 1, 1) := by decide +kernel
theorem dX7_table_23 : decode cX7_table 23 = .ok (.invokestatic 77, 3) := by decide +kernel
theorem dX7_table_26 : decode cX7_table 26 = .ok (.if_icmp .ge 127, 3) := by decide +kernel
theorem dX7_table_29 : decode cX7_table 29 = .ok (.iconst 1, 1) := by decide +kernel
theorem dX7_table_30 : decode cX7_table 30 = .ok (.istore_n 3, 1) := by decide +kernel
theorem dX7_table_31 : decode cX7_table 31 = .ok (.iconst 0, 1) := by decide +kernel
theorem dX7_table_32 : decode cX7_table 32 = .ok (.istore 4, 2) := by decide +kernel
theorem dX7_table_34 : decode cX7_table 34 = .ok (.iconst 0, 1) := by decide +kernel
theorem dX7_table_35 : decode cX7_table 35 = .ok (.istore 5, 2) := by decide +kernel
theorem dX7_table_37 : decode cX7_table 37 = .ok (.iload 5, 2) := by decide +kernel
theorem dX7_table_39 : decode cX7_table 39 = .ok (.iload_n 1, 1) := by decide +kernel
theorem dX7_table_40 : decode cX7_table 40 = .ok (.if_icmp .ge 68, 3) := by decide +kernel
theorem dX7_table_43 : decode cX7_table 43 = .ok (.iload_n 3, 1) := by decide +kernel
theorem dX7_table_44 : decode cX7_table 44 = .ok (.ifCond .eq 64, 3) := by decide +kernel
theorem dX7_table_47 : decode cX7_table 47 = .ok (.iload_n 2, 1) := by decide +kernel
theorem dX7_table_48 : decode cX7_table 48 = .ok (.iload_n 1, 1) := by decide +kernel
theorem dX7_table_49 : decode cX7_table 49 = .ok (.iload 5, 2) := by decide +kernel
theorem dX7_table_51 : decode cX7_table 51 = .ok (.invokestatic 81, 3) := by decide +kernel
theorem dX7_table_54 : decode cX7_table 54 = .ok (.iload_n 1, 1) := by decide +kernel
theorem dX7_table_55 : decode cX7_table 55 = .ok (.iconst 1, 1) := by decide +kernel
theorem dX7_table_56 : decode cX7_table 56 = .ok (.isub, 1) := by decide +kernel
theorem dX7_table_57 : decode cX7_table 57 = .ok (.iload 5, 2) := by decide +kernel
theorem dX7_table_59 : decode cX7_table 59 = .ok (.isub, 1) := by decide +kernel
theorem dX7_table_60 : decode cX7_table 60 = .ok (.if_icmp .gt 6, 3) := by decide +kernel
theorem dX7_table_63 : decode cX7_table 63 = .ok (.goto 39, 3) := by decide +kernel
theorem dX7_table_66 : decode cX7_table 66 = .ok (.iconst 0, 1) := by decide +kernel
theorem dX7_table_67 : decode cX7_table 67 = .ok (.istore_n 3, 1) := by decide +kernel
theorem dX7_table_68 : decode cX7_table 68 = .ok (.iload_n 1, 1) := by decide +kernel
theorem dX7_table_69 : decode cX7_table 69 = .ok (.iconst 1, 1) := by decide +kernel
theorem dX7_table_70 : decode cX7_table 70 = .ok (.isub, 1) := by decide +kernel
theorem dX7_table_71 : decode cX7_table 71 = .ok (.iload 5, 2) := by decide +kernel
theorem dX7_table_73 : decode cX7_table 73 = .ok (.isub, 1) := by decide +kernel
theorem dX7_table_74 : decode cX7_table 74 = .ok (.invokestatic 77, 3) := by decide +kernel
theorem dX7_table_77 : decode cX7_table 77 = .ok (.bipush 10, 2) := by decide +kernel
theorem dX7_table_79 : decode cX7_table 79 = .ok (.iload_n 2, 1) := by decide +kernel
theorem dX7_table_80 : decode cX7_table 80 = .ok (.iload_n 1, 1) := by decide +kernel
theorem dX7_table_81 : decode cX7_table 81 = .ok (.iload 5, 2) := by decide +kernel
theorem dX7_table_83 : decode cX7_table 83 = .ok (.invokestatic 81, 3) := by decide +kernel
theorem dX7_table_86 : decode cX7_table 86 = .ok (.isub, 1) := by decide +kernel
theorem dX7_table_87 : decode cX7_table 87 = .ok (.imul, 1) := by decide +kernel
theorem dX7_table_88 : decode cX7_table 88 = .ok (.iload_n 2, 1) := by decide +kernel
theorem dX7_table_89 : decode cX7_table 89 = .ok (.iload_n 1, 1) := by decide +kernel
theorem dX7_table_90 : decode cX7_table 90 = .ok (.iconst 1, 1) := by decide +kernel
theorem dX7_table_91 : decode cX7_table 91 = .ok (.isub, 1) := by decide +kernel
theorem dX7_table_92 : decode cX7_table 92 = .ok (.iload 5, 2) := by decide +kernel
theorem dX7_table_94 : decode cX7_table 94 = .ok (.isub, 1) := by decide +kernel
theorem dX7_table_95 : decode cX7_table 95 = .ok (.invokestatic 77, 3) := by decide +kernel
theorem dX7_table_98 : decode cX7_table 98 = .ok (.irem, 1) := by decide +kernel
theorem dX7_table_99 : decode cX7_table 99 = .ok (.isub, 1) := by decide +kernel
theorem dX7_table_100 : decode cX7_table 100 = .ok (.istore 4, 2) := by decide +kernel
theorem dX7_table_102 : decode cX7_table 102 = .ok (.iinc 5 1, 3) := by decide +kernel
theorem dX7_table_105 : decode cX7_table 105 = .ok (.goto (-68), 3) := by decide +kernel
theorem dX7_table_108 : decode cX7_table 108 = .ok (.iload_n 3, 1) := by decide +kernel
theorem dX7_table_109 : decode cX7_table 109 = .ok (.ifCond .ne 13, 3) := by decide +kernel
theorem dX7_table_112 : decode cX7_table 112 = .ok (.iload_n 2, 1) := by decide +kernel
theorem dX7_table_113 : decode cX7_table 113 = .ok (.iload 4, 2) := by decide +kernel
theorem dX7_table_115 : decode cX7_table 115 = .ok (.iconst 1, 1) := by decide +kernel
theorem dX7_table_116 : decode cX7_table 116 = .ok (.isub, 1) := by decide +kernel
theorem dX7_table_117 : decode cX7_table 117 = .ok (.iadd, 1) := by decide +kernel
theorem dX7_table_118 : decode cX7_table 118 = .ok (.istore_n 2, 1) := by decide +kernel
theorem dX7_table_119 : decode cX7_table 119 = .ok (.goto 28, 3) := by decide +kernel
theorem dX7_table_122 : decode cX7_table 122 = .ok (.iload_n 2, 1) := by decide +kernel
theorem dX7_table_123 : decode cX7_table 123 = .ok (.iload_n 1, 1) := by decide +kernel
theorem dX7_table_124 : decode cX7_table 124 = .ok (.invokestatic 95, 3) := by decide +kernel
theorem dX7_table_127 : decode cX7_table 127 = .ok (.ifCond .eq 20, 3) := by decide +kernel
theorem dX7_table_130 : decode cX7_table 130 = .ok (.aload_n 0, 1) := by decide +kernel
theorem dX7_table_131 : decode cX7_table 131 = .ok (.getfield 44, 3) := by decide +kernel
theorem dX7_table_134 : decode cX7_table 134 = .ok (.aload_n 0, 1) := by decide +kernel
theorem dX7_table_135 : decode cX7_table 135 = .ok (.dup, 1) := by decide +kernel
theorem dX7_table_136 : decode cX7_table 136 = .ok (.getfield 92, 3) := by decide +kernel
theorem dX7_table_139 : decode cX7_table 139 = .ok (.dup_x1, 1) := by decide +kernel
theorem dX7_table_140 : decode cX7_table 140 = .ok (.iconst 1, 1) := by decide +kernel
theorem dX7_table_141 : decode cX7_table 141 = .ok (.iadd, 1) := by decide +kernel
theorem dX7_table_142 : decode cX7_table 142 = .ok (.putfield 92, 3) := by decide +kernel
theorem dX7_table_145 : decode cX7_table 145 = .ok (.iload_n 2, 1) := by decide +kernel
theorem dX7_table_146 : decode cX7_table 146 = .ok (.iastore, 1) := by decide +kernel
theorem dX7_table_147 : decode cX7_table 147 = .ok (.iinc 2 1, 3) := by decide +kernel
theorem dX7_table_150 : decode cX7_table 150 = .ok (.goto (-129), 3) := by decide +kernel
theorem dX7_table_153 : decode cX7_table 153 = .ok (.return_, 1) := by decide +kernel
theorem dX7_numberOf_0 : decode cX7_numberOf 0 = .ok (.aload_n 0, 1) := by decide +kernel
theorem dX7_numberOf_1 : decode cX7_numberOf 1 = .ok (.iload_n 2, 1) := by decide +kernel
theorem dX7_numberOf_2 : decode cX7_numberOf 2 = .ok (.invokevirtual 99, 3) := by decide +kernel
theorem dX7_numberOf_5 : decode cX7_numberOf 5 = .ok (.iconst 0, 1) := by decide +kernel
theorem dX7_numberOf_6 : decode cX7_numberOf 6 = .ok (.istore_n 3, 1) := by decide +kernel
theorem dX7_numberOf_7 : decode cX7_numberOf 7 = .ok (.iload_n 3, 1) := by decide +kernel
theorem dX7_numberOf_8 : decode cX7_numberOf 8 = .ok (.aload_n 0, 1) := by decide +kernel
theorem dX7_numberOf_9 : decode cX7_numberOf 9 = .ok (.getfield 92, 3) := by decide +kernel
theorem dX7_numberOf_12 : decode cX7_numberOf 12 = .ok (.if_icmp .ge 21, 3) := by decide +kernel
theorem dX7_numberOf_15 : decode cX7_numberOf 15 = .ok (.aload_n 0, 1) := by decide +kernel
theorem dX7_numberOf_16 : decode cX7_numberOf 16 = .ok (.getfield 44, 3) := by decide +kernel
theorem dX7_numberOf_19 : decode cX7_numberOf 19 = .ok (.iload_n 3, 1) := by decide +kernel
theorem dX7_numberOf_20 : decode cX7_numberOf 20 = .ok (.iaload, 1) := by decide +kernel
theorem dX7_numberOf_21 : decode cX7_numberOf 21 = .ok (.iload_n 1, 1) := by decide +kernel
theorem dX7_numberOf_22 : decode cX7_numberOf 22 = .ok (.if_icmp .ne 5, 3) := by decide +kernel
theorem dX7_numberOf_25 : decode cX7_numberOf 25 = .ok (.iload_n 3, 1) := by decide +kernel
theorem dX7_numberOf_26 : decode cX7_numberOf 26 = .ok (.ireturn, 1) := by decide +kernel
theorem dX7_numberOf_27 : decode cX7_numberOf 27 = .ok (.iinc 3 1, 3) := by decide +kernel
theorem dX7_numberOf_30 : decode cX7_numberOf 30 = .ok (.goto (-23), 3) := by decide +kernel
theorem dX7_numberOf_33 : decode cX7_numberOf 33 = .ok (.iconst (-1), 1) := by decide +kernel
theorem dX7_numberOf_34 : decode cX7_numberOf 34 = .ok (.ireturn, 1) := by decide +kernel
theorem dX7_reads_0 : decode cX7_reads 0 = .ok (.iload_n 3, 1) := by decide +kernel
theorem dX7_reads_1 : decode cX7_reads 1 = .ok (.iload 4, 2) := by decide +kernel
theorem dX7_reads_3 : decode cX7_reads 3 = .ok (.if_icmp .le 6, 3) := by decide +kernel
theorem dX7_reads_6 : decode cX7_reads 6 = .ok (.bipush (-5), 2) := by decide +kernel
theorem dX7_reads_8 : decode cX7_reads 8 = .ok (.ireturn, 1) := by decide +kernel
theorem dX7_reads_9 : decode cX7_reads 9 = .ok (.iload_n 3, 1) := by decide +kernel
theorem dX7_reads_10 : decode cX7_reads 10 = .ok (.istore 7, 2) := by decide +kernel
theorem dX7_reads_12 : decode cX7_reads 12 = .ok (.iload 7, 2) := by decide +kernel
theorem dX7_reads_14 : decode cX7_reads 14 = .ok (.iload_n 1, 1) := by decide +kernel
theorem dX7_reads_15 : decode cX7_reads 15 = .ok (.iload_n 2, 1) := by decide +kernel
theorem dX7_reads_16 : decode cX7_reads 16 = .ok (.iload 7, 2) := by decide +kernel
theorem dX7_reads_18 : decode cX7_reads 18 = .ok (.invokestatic 81, 3) := by decide +kernel
theorem dX7_reads_21 : decode cX7_reads 21 = .ok (.iadd, 1) := by decide +kernel
theorem dX7_reads_22 : decode cX7_reads 22 = .ok (.iconst 1, 1) := by decide +kernel
theorem dX7_reads_23 : decode cX7_reads 23 = .ok (.iadd, 1) := by decide +kernel
theorem dX7_reads_24 : decode cX7_reads 24 = .ok (.iload 4, 2) := by decide +kernel
theorem dX7_reads_26 : decode cX7_reads 26 = .ok (.if_icmp .gt 20, 3) := by decide +kernel
theorem dX7_reads_29 : decode cX7_reads 29 = .ok (.iload 7, 2) := by decide +kernel
theorem dX7_reads_31 : decode cX7_reads 31 = .ok (.iload_n 1, 1) := by decide +kernel
theorem dX7_reads_32 : decode cX7_reads 32 = .ok (.iload_n 2, 1) := by decide +kernel
theorem dX7_reads_33 : decode cX7_reads 33 = .ok (.iload 7, 2) := by decide +kernel
theorem dX7_reads_35 : decode cX7_reads 35 = .ok (.invokestatic 81, 3) := by decide +kernel
theorem dX7_reads_38 : decode cX7_reads 38 = .ok (.iconst 1, 1) := by decide +kernel
theorem dX7_reads_39 : decode cX7_reads 39 = .ok (.iadd, 1) := by decide +kernel
theorem dX7_reads_40 : decode cX7_reads 40 = .ok (.iadd, 1) := by decide +kernel
theorem dX7_reads_41 : decode cX7_reads 41 = .ok (.istore 7, 2) := by decide +kernel
theorem dX7_reads_43 : decode cX7_reads 43 = .ok (.goto (-31), 3) := by decide +kernel
theorem dX7_reads_46 : decode cX7_reads 46 = .ok (.aload_n 0, 1) := by decide +kernel
theorem dX7_reads_47 : decode cX7_reads 47 = .ok (.getfield 47, 3) := by decide +kernel
theorem dX7_reads_50 : decode cX7_reads 50 = .ok (.iload 7, 2) := by decide +kernel
theorem dX7_reads_52 : decode cX7_reads 52 = .ok (.iload 5, 2) := by decide +kernel
theorem dX7_reads_54 : decode cX7_reads 54 = .ok (.iastore, 1) := by decide +kernel
theorem dX7_reads_55 : decode cX7_reads 55 = .ok (.aload_n 0, 1) := by decide +kernel
theorem dX7_reads_56 : decode cX7_reads 56 = .ok (.getfield 59, 3) := by decide +kernel
theorem dX7_reads_59 : decode cX7_reads 59 = .ok (.iload 7, 2) := by decide +kernel
theorem dX7_reads_61 : decode cX7_reads 61 = .ok (.iload 6, 2) := by decide +kernel
theorem dX7_reads_63 : decode cX7_reads 63 = .ok (.iastore, 1) := by decide +kernel
theorem dX7_reads_64 : decode cX7_reads 64 = .ok (.aload_n 0, 1) := by decide +kernel
theorem dX7_reads_65 : decode cX7_reads 65 = .ok (.getfield 56, 3) := by decide +kernel
theorem dX7_reads_68 : decode cX7_reads 68 = .ok (.iload 7, 2) := by decide +kernel
theorem dX7_reads_70 : decode cX7_reads 70 = .ok (.iload 7, 2) := by decide +kernel
theorem dX7_reads_72 : decode cX7_reads 72 = .ok (.iload_n 3, 1) := by decide +kernel
theorem dX7_reads_73 : decode cX7_reads 73 = .ok (.isub, 1) := by decide +kernel
theorem dX7_reads_74 : decode cX7_reads 74 = .ok (.iastore, 1) := by decide +kernel
theorem dX7_reads_75 : decode cX7_reads 75 = .ok (.aload_n 0, 1) := by decide +kernel
theorem dX7_reads_76 : decode cX7_reads 76 = .ok (.getfield 50, 3) := by decide +kernel
theorem dX7_reads_79 : decode cX7_reads 79 = .ok (.iload 7, 2) := by decide +kernel
theorem dX7_reads_81 : decode cX7_reads 81 = .ok (.aload_n 0, 1) := by decide +kernel
theorem dX7_reads_82 : decode cX7_reads 82 = .ok (.iload_n 1, 1) := by decide +kernel
theorem dX7_reads_83 : decode cX7_reads 83 = .ok (.iload_n 2, 1) := by decide +kernel
theorem dX7_reads_84 : decode cX7_reads 84 = .ok (.iload_n 3, 1) := by decide +kernel
theorem dX7_reads_85 : decode cX7_reads 85 = .ok (.iload 7, 2) := by decide +kernel
theorem dX7_reads_87 : decode cX7_reads 87 = .ok (.iconst 1, 1) := by decide +kernel
theorem dX7_reads_88 : decode cX7_reads 88 = .ok (.isub, 1) := by decide +kernel
theorem dX7_reads_89 : decode cX7_reads 89 = .ok (.iload 7, 2) := by decide +kernel
theorem dX7_reads_91 : decode cX7_reads 91 = .ok (.iload 6, 2) := by decide +kernel
theorem dX7_reads_93 : decode cX7_reads 93 = .ok (.iconst 1, 1) := by decide +kernel
theorem dX7_reads_94 : decode cX7_reads 94 = .ok (.iadd, 1) := by decide +kernel
theorem dX7_reads_95 : decode cX7_reads 95 = .ok (.invokevirtual 103, 3) := by decide +kernel
theorem dX7_reads_98 : decode cX7_reads 98 = .ok (.iastore, 1) := by decide +kernel
theorem dX7_reads_99 : decode cX7_reads 99 = .ok (.aload_n 0, 1) := by decide +kernel
theorem dX7_reads_100 : decode cX7_reads 100 = .ok (.getfield 53, 3) := by decide +kernel
theorem dX7_reads_103 : decode cX7_reads 103 = .ok (.iload 7, 2) := by decide +kernel
theorem dX7_reads_105 : decode cX7_reads 105 = .ok (.aload_n 0, 1) := by decide +kernel
theorem dX7_reads_106 : decode cX7_reads 106 = .ok (.iload_n 1, 1) := by decide +kernel
theorem dX7_reads_107 : decode cX7_reads 107 = .ok (.iload_n 2, 1) := by decide +kernel
theorem dX7_reads_108 : decode cX7_reads 108 = .ok (.iload 7, 2) := by decide +kernel
theorem dX7_reads_110 : decode cX7_reads 110 = .ok (.iconst 1, 1) := by decide +kernel
theorem dX7_reads_111 : decode cX7_reads 111 = .ok (.iadd, 1) := by decide +kernel
theorem dX7_reads_112 : decode cX7_reads 112 = .ok (.iload 4, 2) := by decide +kernel
theorem dX7_reads_114 : decode cX7_reads 114 = .ok (.iload 7, 2) := by decide +kernel
theorem dX7_reads_116 : decode cX7_reads 116 = .ok (.iload 6, 2) := by decide +kernel
theorem dX7_reads_118 : decode cX7_reads 118 = .ok (.iconst 1, 1) := by decide +kernel
theorem dX7_reads_119 : decode cX7_reads 119 = .ok (.iadd, 1) := by decide +kernel
theorem dX7_reads_120 : decode cX7_reads 120 = .ok (.invokevirtual 103, 3) := by decide +kernel
theorem dX7_reads_123 : decode cX7_reads 123 = .ok (.iastore, 1) := by decide +kernel
theorem dX7_reads_124 : decode cX7_reads 124 = .ok (.iload 7, 2) := by decide +kernel
theorem dX7_reads_126 : decode cX7_reads 126 = .ok (.ireturn, 1) := by decide +kernel
theorem dX7_looks_0 : decode cX7_looks 0 = .ok (.aload_n 0, 1) := by decide +kernel
theorem dX7_looks_1 : decode cX7_looks 1 = .ok (.aload_n 0, 1) := by decide +kernel
theorem dX7_looks_2 : decode cX7_looks 2 = .ok (.iload_n 1, 1) := by decide +kernel
theorem dX7_looks_3 : decode cX7_looks 3 = .ok (.iload_n 2, 1) := by decide +kernel
theorem dX7_looks_4 : decode cX7_looks 4 = .ok (.iconst 0, 1) := by decide +kernel
theorem dX7_looks_5 : decode cX7_looks 5 = .ok (.iload_n 2, 1) := by decide +kernel
theorem dX7_looks_6 : decode cX7_looks 6 = .ok (.iconst 1, 1) := by decide +kernel
theorem dX7_looks_7 : decode cX7_looks 7 = .ok (.isub, 1) := by decide +kernel
theorem dX7_looks_8 : decode cX7_looks 8 = .ok (.bipush (-5), 2) := by decide +kernel
theorem dX7_looks_10 : decode cX7_looks 10 = .ok (.iconst 0, 1) := by decide +kernel
theorem dX7_looks_11 : decode cX7_looks 11 = .ok (.invokevirtual 103, 3) := by decide +kernel
theorem dX7_looks_14 : decode cX7_looks 14 = .ok (.putfield 107, 3) := by decide +kernel
theorem dX7_looks_17 : decode cX7_looks 17 = .ok (.return_, 1) := by decide +kernel
theorem dX7_up_0 : decode cX7_up 0 = .ok (.aload_n 0, 1) := by decide +kernel
theorem dX7_up_1 : decode cX7_up 1 = .ok (.iload_n 1, 1) := by decide +kernel
theorem dX7_up_2 : decode cX7_up 2 = .ok (.iload_n 2, 1) := by decide +kernel
theorem dX7_up_3 : decode cX7_up 3 = .ok (.invokevirtual 110, 3) := by decide +kernel
theorem dX7_up_6 : decode cX7_up 6 = .ok (.aload_n 0, 1) := by decide +kernel
theorem dX7_up_7 : decode cX7_up 7 = .ok (.getfield 47, 3) := by decide +kernel
theorem dX7_up_10 : decode cX7_up 10 = .ok (.iload_n 3, 1) := by decide +kernel
theorem dX7_up_11 : decode cX7_up 11 = .ok (.iaload, 1) := by decide +kernel
theorem dX7_up_12 : decode cX7_up 12 = .ok (.istore 4, 2) := by decide +kernel
theorem dX7_up_14 : decode cX7_up 14 = .ok (.iload 4, 2) := by decide +kernel
theorem dX7_up_16 : decode cX7_up 16 = .ok (.bipush (-5), 2) := by decide +kernel
theorem dX7_up_18 : decode cX7_up 18 = .ok (.if_icmp .eq 14, 3) := by decide +kernel
theorem dX7_up_21 : decode cX7_up 21 = .ok (.aload_n 0, 1) := by decide +kernel
theorem dX7_up_22 : decode cX7_up 22 = .ok (.getfield 50, 3) := by decide +kernel
theorem dX7_up_25 : decode cX7_up 25 = .ok (.iload 4, 2) := by decide +kernel
theorem dX7_up_27 : decode cX7_up 27 = .ok (.iaload, 1) := by decide +kernel
theorem dX7_up_28 : decode cX7_up 28 = .ok (.iload_n 3, 1) := by decide +kernel
theorem dX7_up_29 : decode cX7_up 29 = .ok (.if_icmp .eq 6, 3) := by decide +kernel
theorem dX7_up_32 : decode cX7_up 32 = .ok (.bipush (-5), 2) := by decide +kernel
theorem dX7_up_34 : decode cX7_up 34 = .ok (.ireturn, 1) := by decide +kernel
theorem dX7_up_35 : decode cX7_up 35 = .ok (.iload_n 1, 1) := by decide +kernel
theorem dX7_up_36 : decode cX7_up 36 = .ok (.iload_n 2, 1) := by decide +kernel
theorem dX7_up_37 : decode cX7_up 37 = .ok (.iload_n 3, 1) := by decide +kernel
theorem dX7_up_38 : decode cX7_up 38 = .ok (.iload_n 1, 1) := by decide +kernel
theorem dX7_up_39 : decode cX7_up 39 = .ok (.iload_n 2, 1) := by decide +kernel
theorem dX7_up_40 : decode cX7_up 40 = .ok (.iload_n 3, 1) := by decide +kernel
theorem dX7_up_41 : decode cX7_up 41 = .ok (.invokestatic 81, 3) := by decide +kernel
theorem dX7_up_44 : decode cX7_up 44 = .ok (.iconst 1, 1) := by decide +kernel
theorem dX7_up_45 : decode cX7_up 45 = .ok (.iadd, 1) := by decide +kernel
theorem dX7_up_46 : decode cX7_up 46 = .ok (.iload_n 1, 1) := by decide +kernel
theorem dX7_up_47 : decode cX7_up 47 = .ok (.iload_n 2, 1) := by decide +kernel
theorem dX7_up_48 : decode cX7_up 48 = .ok (.iload 4, 2) := by decide +kernel
theorem dX7_up_50 : decode cX7_up 50 = .ok (.invokestatic 81, 3) := by decide +kernel
theorem dX7_up_53 : decode cX7_up 53 = .ok (.iadd, 1) := by decide +kernel
theorem dX7_up_54 : decode cX7_up 54 = .ok (.invokestatic 114, 3) := by decide +kernel
theorem dX7_up_57 : decode cX7_up 57 = .ok (.ireturn, 1) := by decide +kernel
theorem dX7_down_0 : decode cX7_down 0 = .ok (.aload_n 0, 1) := by decide +kernel
theorem dX7_down_1 : decode cX7_down 1 = .ok (.iload_n 1, 1) := by decide +kernel
theorem dX7_down_2 : decode cX7_down 2 = .ok (.iload_n 2, 1) := by decide +kernel
theorem dX7_down_3 : decode cX7_down 3 = .ok (.invokevirtual 110, 3) := by decide +kernel
theorem dX7_down_6 : decode cX7_down 6 = .ok (.aload_n 0, 1) := by decide +kernel
theorem dX7_down_7 : decode cX7_down 7 = .ok (.getfield 53, 3) := by decide +kernel
theorem dX7_down_10 : decode cX7_down 10 = .ok (.iload_n 3, 1) := by decide +kernel
theorem dX7_down_11 : decode cX7_down 11 = .ok (.iaload, 1) := by decide +kernel
theorem dX7_down_12 : decode cX7_down 12 = .ok (.bipush (-5), 2) := by decide +kernel
theorem dX7_down_14 : decode cX7_down 14 = .ok (.if_icmp .ne 8, 3) := by decide +kernel
theorem dX7_down_17 : decode cX7_down 17 = .ok (.bipush (-5), 2) := by decide +kernel
theorem dX7_down_19 : decode cX7_down 19 = .ok (.goto 19, 3) := by decide +kernel
theorem dX7_down_22 : decode cX7_down 22 = .ok (.iload_n 1, 1) := by decide +kernel
theorem dX7_down_23 : decode cX7_down 23 = .ok (.iload_n 2, 1) := by decide +kernel
theorem dX7_down_24 : decode cX7_down 24 = .ok (.iload_n 3, 1) := by decide +kernel
theorem dX7_down_25 : decode cX7_down 25 = .ok (.aload_n 0, 1) := by decide +kernel
theorem dX7_down_26 : decode cX7_down 26 = .ok (.getfield 53, 3) := by decide +kernel
theorem dX7_down_29 : decode cX7_down 29 = .ok (.iload_n 3, 1) := by decide +kernel
theorem dX7_down_30 : decode cX7_down 30 = .ok (.iaload, 1) := by decide +kernel
theorem dX7_down_31 : decode cX7_down 31 = .ok (.iload_n 3, 1) := by decide +kernel
theorem dX7_down_32 : decode cX7_down 32 = .ok (.isub, 1) := by decide +kernel
theorem dX7_down_33 : decode cX7_down 33 = .ok (.iconst 1, 1) := by decide +kernel
theorem dX7_down_34 : decode cX7_down 34 = .ok (.isub, 1) := by decide +kernel
theorem dX7_down_35 : decode cX7_down 35 = .ok (.invokestatic 114, 3) := by decide +kernel
theorem dX7_down_38 : decode cX7_down 38 = .ok (.ireturn, 1) := by decide +kernel
theorem dX7_mirrored_0 : decode cX7_mirrored 0 = .ok (.aload_n 0, 1) := by decide +kernel
theorem dX7_mirrored_1 : decode cX7_mirrored 1 = .ok (.iload_n 1, 1) := by decide +kernel
theorem dX7_mirrored_2 : decode cX7_mirrored 2 = .ok (.iload_n 2, 1) := by decide +kernel
theorem dX7_mirrored_3 : decode cX7_mirrored 3 = .ok (.invokevirtual 110, 3) := by decide +kernel
theorem dX7_mirrored_6 : decode cX7_mirrored 6 = .ok (.iconst 0, 1) := by decide +kernel
theorem dX7_mirrored_7 : decode cX7_mirrored 7 = .ok (.istore_n 3, 1) := by decide +kernel
theorem dX7_mirrored_8 : decode cX7_mirrored 8 = .ok (.iconst 0, 1) := by decide +kernel
theorem dX7_mirrored_9 : decode cX7_mirrored 9 = .ok (.istore 4, 2) := by decide +kernel
theorem dX7_mirrored_11 : decode cX7_mirrored 11 = .ok (.iload 4, 2) := by decide +kernel
theorem dX7_mirrored_13 : decode cX7_mirrored 13 = .ok (.iload_n 2, 1) := by decide +kernel
theorem dX7_mirrored_14 : decode cX7_mirrored 14 = .ok (.if_icmp .ge 26, 3) := by decide +kernel
theorem dX7_mirrored_17 : decode cX7_mirrored 17 = .ok (.bipush 10, 2) := by decide +kernel
theorem dX7_mirrored_19 : decode cX7_mirrored 19 = .ok (.iload_n 3, 1) := by decide +kernel
theorem dX7_mirrored_20 : decode cX7_mirrored 20 = .ok (.imul, 1) := by decide +kernel
theorem dX7_mirrored_21 : decode cX7_mirrored 21 = .ok (.aload_n 0, 1) := by decide +kernel
theorem dX7_mirrored_22 : decode cX7_mirrored 22 = .ok (.getfield 56, 3) := by decide +kernel
theorem dX7_mirrored_25 : decode cX7_mirrored 25 = .ok (.iload_n 2, 1) := by decide +kernel
theorem dX7_mirrored_26 : decode cX7_mirrored 26 = .ok (.iconst 1, 1) := by decide +kernel
theorem dX7_mirrored_27 : decode cX7_mirrored 27 = .ok (.isub, 1) := by decide +kernel
theorem dX7_mirrored_28 : decode cX7_mirrored 28 = .ok (.iload 4, 2) := by decide +kernel
theorem dX7_mirrored_30 : decode cX7_mirrored 30 = .ok (.isub, 1) := by decide +kernel
theorem dX7_mirrored_31 : decode cX7_mirrored 31 = .ok (.iaload, 1) := by decide +kernel
theorem dX7_mirrored_32 : decode cX7_mirrored 32 = .ok (.iadd, 1) := by decide +kernel
theorem dX7_mirrored_33 : decode cX7_mirrored 33 = .ok (.istore_n 3, 1) := by decide +kernel
theorem dX7_mirrored_34 : decode cX7_mirrored 34 = .ok (.iinc 4 1, 3) := by decide +kernel
theorem dX7_mirrored_37 : decode cX7_mirrored 37 = .ok (.goto (-26), 3) := by decide +kernel
theorem dX7_mirrored_40 : decode cX7_mirrored 40 = .ok (.iload_n 3, 1) := by decide +kernel
theorem dX7_mirrored_41 : decode cX7_mirrored 41 = .ok (.ireturn, 1) := by decide +kernel
theorem dX7_isBelow_0 : decode cX7_isBelow 0 = .ok (.iconst 0, 1) := by decide +kernel
theorem dX7_isBelow_1 : decode cX7_isBelow 1 = .ok (.istore_n 3, 1) := by decide +kernel
theorem dX7_isBelow_2 : decode cX7_isBelow 2 = .ok (.iload_n 3, 1) := by decide +kernel
theorem dX7_isBelow_3 : decode cX7_isBelow 3 = .ok (.iload_n 2, 1) := by decide +kernel
theorem dX7_isBelow_4 : decode cX7_isBelow 4 = .ok (.if_icmp .ge 26, 3) := by decide +kernel
theorem dX7_isBelow_7 : decode cX7_isBelow 7 = .ok (.iload_n 0, 1) := by decide +kernel
theorem dX7_isBelow_8 : decode cX7_isBelow 8 = .ok (.iload_n 2, 1) := by decide +kernel
theorem dX7_isBelow_9 : decode cX7_isBelow 9 = .ok (.iload_n 3, 1) := by decide +kernel
theorem dX7_isBelow_10 : decode cX7_isBelow 10 = .ok (.invokestatic 81, 3) := by decide +kernel
theorem dX7_isBelow_13 : decode cX7_isBelow 13 = .ok (.iload_n 1, 1) := by decide +kernel
theorem dX7_isBelow_14 : decode cX7_isBelow 14 = .ok (.iload_n 2, 1) := by decide +kernel
theorem dX7_isBelow_15 : decode cX7_isBelow 15 = .ok (.iload_n 3, 1) := by decide +kernel
theorem dX7_isBelow_16 : decode cX7_isBelow 16 = .ok (.invokestatic 81, 3) := by decide +kernel
theorem dX7_isBelow_19 : decode cX7_isBelow 19 = .ok (.if_icmp .le 5, 3) := by decide +kernel
theorem dX7_isBelow_22 : decode cX7_isBelow 22 = .ok (.iconst 0, 1) := by decide +kernel
theorem dX7_isBelow_23 : decode cX7_isBelow 23 = .ok (.ireturn, 1) := by decide +kernel
theorem dX7_isBelow_24 : decode cX7_isBelow 24 = .ok (.iinc 3 1, 3) := by decide +kernel
theorem dX7_isBelow_27 : decode cX7_isBelow 27 = .ok (.goto (-25), 3) := by decide +kernel
theorem dX7_isBelow_30 : decode cX7_isBelow 30 = .ok (.iconst 1, 1) := by decide +kernel
theorem dX7_isBelow_31 : decode cX7_isBelow 31 = .ok (.ireturn, 1) := by decide +kernel
theorem dX7_becomes_0 : decode cX7_becomes 0 = .ok (.iload_n 1, 1) := by decide +kernel
theorem dX7_becomes_1 : decode cX7_becomes 1 = .ok (.aload_n 0, 1) := by decide +kernel
theorem dX7_becomes_2 : decode cX7_becomes 2 = .ok (.getfield 9, 3) := by decide +kernel
theorem dX7_becomes_5 : decode cX7_becomes 5 = .ok (.if_icmp .ne 12, 3) := by decide +kernel
theorem dX7_becomes_8 : decode cX7_becomes 8 = .ok (.iload_n 2, 1) := by decide +kernel
theorem dX7_becomes_9 : decode cX7_becomes 9 = .ok (.aload_n 0, 1) := by decide +kernel
theorem dX7_becomes_10 : decode cX7_becomes 10 = .ok (.getfield 118, 3) := by decide +kernel
theorem dX7_becomes_13 : decode cX7_becomes 13 = .ok (.if_icmp .ne 4, 3) := by decide +kernel
theorem dX7_becomes_16 : decode cX7_becomes 16 = .ok (.return_, 1) := by decide +kernel
theorem dX7_becomes_17 : decode cX7_becomes 17 = .ok (.aload_n 0, 1) := by decide +kernel
theorem dX7_becomes_18 : decode cX7_becomes 18 = .ok (.getfield 121, 3) := by decide +kernel
theorem dX7_becomes_21 : decode cX7_becomes 21 = .ok (.bipush 10, 2) := by decide +kernel
theorem dX7_becomes_23 : decode cX7_becomes 23 = .ok (.if_icmp .ne 55, 3) := by decide +kernel
theorem dX7_becomes_26 : decode cX7_becomes 26 = .ok (.iconst 1, 1) := by decide +kernel
theorem dX7_becomes_27 : decode cX7_becomes 27 = .ok (.istore_n 3, 1) := by decide +kernel
theorem dX7_becomes_28 : decode cX7_becomes 28 = .ok (.iload_n 3, 1) := by decide +kernel
theorem dX7_becomes_29 : decode cX7_becomes 29 = .ok (.bipush 10, 2) := by decide +kernel
theorem dX7_becomes_31 : decode cX7_becomes 31 = .ok (.if_icmp .ge 37, 3) := by decide +kernel
theorem dX7_becomes_34 : decode cX7_becomes 34 = .ok (.aload_n 0, 1) := by decide +kernel
theorem dX7_becomes_35 : decode cX7_becomes 35 = .ok (.getfield 22, 3) := by decide +kernel
theorem dX7_becomes_38 : decode cX7_becomes 38 = .ok (.iload_n 3, 1) := by decide +kernel
theorem dX7_becomes_39 : decode cX7_becomes 39 = .ok (.iconst 1, 1) := by decide +kernel
theorem dX7_becomes_40 : decode cX7_becomes 40 = .ok (.isub, 1) := by decide +kernel
theorem dX7_becomes_41 : decode cX7_becomes 41 = .ok (.aload_n 0, 1) := by decide +kernel
theorem dX7_becomes_42 : decode cX7_becomes 42 = .ok (.getfield 22, 3) := by decide +kernel
theorem dX7_becomes_45 : decode cX7_becomes 45 = .ok (.iload_n 3, 1) := by decide +kernel
theorem dX7_becomes_46 : decode cX7_becomes 46 = .ok (.iaload, 1) := by decide +kernel
theorem dX7_becomes_47 : decode cX7_becomes 47 = .ok (.iastore, 1) := by decide +kernel
theorem dX7_becomes_48 : decode cX7_becomes 48 = .ok (.aload_n 0, 1) := by decide +kernel
theorem dX7_becomes_49 : decode cX7_becomes 49 = .ok (.getfield 25, 3) := by decide +kernel
theorem dX7_becomes_52 : decode cX7_becomes 52 = .ok (.iload_n 3, 1) := by decide +kernel
theorem dX7_becomes_53 : decode cX7_becomes 53 = .ok (.iconst 1, 1) := by decide +kernel
theorem dX7_becomes_54 : decode cX7_becomes 54 = .ok (.isub, 1) := by decide +kernel
theorem dX7_becomes_55 : decode cX7_becomes 55 = .ok (.aload_n 0, 1) := by decide +kernel
theorem dX7_becomes_56 : decode cX7_becomes 56 = .ok (.getfield 25, 3) := by decide +kernel
theorem dX7_becomes_59 : decode cX7_becomes 59 = .ok (.iload_n 3, 1) := by decide +kernel
theorem dX7_becomes_60 : decode cX7_becomes 60 = .ok (.iaload, 1) := by decide +kernel
theorem dX7_becomes_61 : decode cX7_becomes 61 = .ok (.iastore, 1) := by decide +kernel
theorem dX7_becomes_62 : decode cX7_becomes 62 = .ok (.iinc 3 1, 3) := by decide +kernel
theorem dX7_becomes_65 : decode cX7_becomes 65 = .ok (.goto (-37), 3) := by decide +kernel
theorem dX7_becomes_68 : decode cX7_becomes 68 = .ok (.aload_n 0, 1) := by decide +kernel
theorem dX7_becomes_69 : decode cX7_becomes 69 = .ok (.dup, 1) := by decide +kernel
theorem dX7_becomes_70 : decode cX7_becomes 70 = .ok (.getfield 121, 3) := by decide +kernel
theorem dX7_becomes_73 : decode cX7_becomes 73 = .ok (.iconst 1, 1) := by decide +kernel
theorem dX7_becomes_74 : decode cX7_becomes 74 = .ok (.isub, 1) := by decide +kernel
theorem dX7_becomes_75 : decode cX7_becomes 75 = .ok (.putfield 121, 3) := by decide +kernel
theorem dX7_becomes_78 : decode cX7_becomes 78 = .ok (.aload_n 0, 1) := by decide +kernel
theorem dX7_becomes_79 : decode cX7_becomes 79 = .ok (.getfield 22, 3) := by decide +kernel
theorem dX7_becomes_82 : decode cX7_becomes 82 = .ok (.aload_n 0, 1) := by decide +kernel
theorem dX7_becomes_83 : decode cX7_becomes 83 = .ok (.getfield 121, 3) := by decide +kernel
theorem dX7_becomes_86 : decode cX7_becomes 86 = .ok (.aload_n 0, 1) := by decide +kernel
theorem dX7_becomes_87 : decode cX7_becomes 87 = .ok (.getfield 9, 3) := by decide +kernel
theorem dX7_becomes_90 : decode cX7_becomes 90 = .ok (.iastore, 1) := by decide +kernel
theorem dX7_becomes_91 : decode cX7_becomes 91 = .ok (.aload_n 0, 1) := by decide +kernel
theorem dX7_becomes_92 : decode cX7_becomes 92 = .ok (.getfield 25, 3) := by decide +kernel
theorem dX7_becomes_95 : decode cX7_becomes 95 = .ok (.aload_n 0, 1) := by decide +kernel
theorem dX7_becomes_96 : decode cX7_becomes 96 = .ok (.getfield 121, 3) := by decide +kernel
theorem dX7_becomes_99 : decode cX7_becomes 99 = .ok (.aload_n 0, 1) := by decide +kernel
theorem dX7_becomes_100 : decode cX7_becomes 100 = .ok (.getfield 118, 3) := by decide +kernel
theorem dX7_becomes_103 : decode cX7_becomes 103 = .ok (.iastore, 1) := by decide +kernel
theorem dX7_becomes_104 : decode cX7_becomes 104 = .ok (.aload_n 0, 1) := by decide +kernel
theorem dX7_becomes_105 : decode cX7_becomes 105 = .ok (.dup, 1) := by decide +kernel
theorem dX7_becomes_106 : decode cX7_becomes 106 = .ok (.getfield 121, 3) := by decide +kernel
theorem dX7_becomes_109 : decode cX7_becomes 109 = .ok (.iconst 1, 1) := by decide +kernel
theorem dX7_becomes_110 : decode cX7_becomes 110 = .ok (.iadd, 1) := by decide +kernel
theorem dX7_becomes_111 : decode cX7_becomes 111 = .ok (.putfield 121, 3) := by decide +kernel
theorem dX7_becomes_114 : decode cX7_becomes 114 = .ok (.aload_n 0, 1) := by decide +kernel
theorem dX7_becomes_115 : decode cX7_becomes 115 = .ok (.iload_n 1, 1) := by decide +kernel
theorem dX7_becomes_116 : decode cX7_becomes 116 = .ok (.putfield 9, 3) := by decide +kernel
theorem dX7_becomes_119 : decode cX7_becomes 119 = .ok (.aload_n 0, 1) := by decide +kernel
theorem dX7_becomes_120 : decode cX7_becomes 120 = .ok (.iload_n 2, 1) := by decide +kernel
theorem dX7_becomes_121 : decode cX7_becomes 121 = .ok (.putfield 118, 3) := by decide +kernel
theorem dX7_becomes_124 : decode cX7_becomes 124 = .ok (.return_, 1) := by decide +kernel
theorem dX7_isNode_0 : decode cX7_isNode 0 = .ok (.iload_n 1, 1) := by decide +kernel
theorem dX7_isNode_1 : decode cX7_isNode 1 = .ok (.i2l, 1) := by decide +kernel
theorem dX7_isNode_2 : decode cX7_isNode 2 = .ok (.lconst 0, 1) := by decide +kernel
theorem dX7_isNode_3 : decode cX7_isNode 3 = .ok (.aload_n 0, 1) := by decide +kernel
theorem dX7_isNode_4 : decode cX7_isNode 4 = .ok (.getfield 9, 3) := by decide +kernel
theorem dX7_isNode_7 : decode cX7_isNode 7 = .ok (.iconst 1, 1) := by decide +kernel
theorem dX7_isNode_8 : decode cX7_isNode 8 = .ok (.isub, 1) := by decide +kernel
theorem dX7_isNode_9 : decode cX7_isNode 9 = .ok (.i2l, 1) := by decide +kernel
theorem dX7_isNode_10 : decode cX7_isNode 10 = .ok (.invokestatic 85, 3) := by decide +kernel
theorem dX7_isNode_13 : decode cX7_isNode 13 = .ok (.ireturn, 1) := by decide +kernel
theorem dX7_nodes_0 : decode cX7_nodes 0 = .ok (.iload_n 1, 1) := by decide +kernel
theorem dX7_nodes_1 : decode cX7_nodes 1 = .ok (.i2l, 1) := by decide +kernel
theorem dX7_nodes_2 : decode cX7_nodes 2 = .ok (.lconst 1, 1) := by decide +kernel
theorem dX7_nodes_3 : decode cX7_nodes 3 = .ok (.ldc2_w 124, 3) := by decide +kernel
theorem dX7_nodes_6 : decode cX7_nodes 6 = .ok (.invokestatic 85, 3) := by decide +kernel
theorem dX7_nodes_9 : decode cX7_nodes 9 = .ok (.ifCond .ne 6, 3) := by decide +kernel
theorem dX7_nodes_12 : decode cX7_nodes 12 = .ok (.bipush (-2), 2) := by decide +kernel
theorem dX7_nodes_14 : decode cX7_nodes 14 = .ok (.ireturn, 1) := by decide +kernel
theorem dX7_nodes_15 : decode cX7_nodes 15 = .ok (.aload_n 0, 1) := by decide +kernel
theorem dX7_nodes_16 : decode cX7_nodes 16 = .ok (.getfield 9, 3) := by decide +kernel
theorem dX7_nodes_19 : decode cX7_nodes 19 = .ok (.istore_n 2, 1) := by decide +kernel
theorem dX7_nodes_20 : decode cX7_nodes 20 = .ok (.aload_n 0, 1) := by decide +kernel
theorem dX7_nodes_21 : decode cX7_nodes 21 = .ok (.iload_n 1, 1) := by decide +kernel
theorem dX7_nodes_22 : decode cX7_nodes 22 = .ok (.putfield 9, 3) := by decide +kernel
theorem dX7_nodes_25 : decode cX7_nodes 25 = .ok (.aload_n 0, 1) := by decide +kernel
theorem dX7_nodes_26 : decode cX7_nodes 26 = .ok (.iconst 0, 1) := by decide +kernel
theorem dX7_nodes_27 : decode cX7_nodes 27 = .ok (.putfield 118, 3) := by decide +kernel
theorem dX7_nodes_30 : decode cX7_nodes 30 = .ok (.aload_n 0, 1) := by decide +kernel
theorem dX7_nodes_31 : decode cX7_nodes 31 = .ok (.iconst 0, 1) := by decide +kernel
theorem dX7_nodes_32 : decode cX7_nodes 32 = .ok (.putfield 121, 3) := by decide +kernel
theorem dX7_nodes_35 : decode cX7_nodes 35 = .ok (.iload_n 2, 1) := by decide +kernel
theorem dX7_nodes_36 : decode cX7_nodes 36 = .ok (.ireturn, 1) := by decide +kernel
theorem dX7_row_0 : decode cX7_row 0 = .ok (.iload_n 1, 1) := by decide +kernel
theorem dX7_row_1 : decode cX7_row 1 = .ok (.aload_n 0, 1) := by decide +kernel
theorem dX7_row_2 : decode cX7_row 2 = .ok (.getfield 9, 3) := by decide +kernel
theorem dX7_row_5 : decode cX7_row 5 = .ok (.invokestatic 95, 3) := by decide +kernel
theorem dX7_row_8 : decode cX7_row 8 = .ok (.ifCond .ne 6, 3) := by decide +kernel
theorem dX7_row_11 : decode cX7_row 11 = .ok (.bipush (-2), 2) := by decide +kernel
theorem dX7_row_13 : decode cX7_row 13 = .ok (.ireturn, 1) := by decide +kernel
theorem dX7_row_14 : decode cX7_row 14 = .ok (.aload_n 0, 1) := by decide +kernel
theorem dX7_row_15 : decode cX7_row 15 = .ok (.aload_n 0, 1) := by decide +kernel
theorem dX7_row_16 : decode cX7_row 16 = .ok (.getfield 9, 3) := by decide +kernel
theorem dX7_row_19 : decode cX7_row 19 = .ok (.iload_n 1, 1) := by decide +kernel
theorem dX7_row_20 : decode cX7_row 20 = .ok (.invokevirtual 126, 3) := by decide +kernel
theorem dX7_row_23 : decode cX7_row 23 = .ok (.aload_n 0, 1) := by decide +kernel
theorem dX7_row_24 : decode cX7_row 24 = .ok (.invokevirtual 129, 3) := by decide +kernel
theorem dX7_row_27 : decode cX7_row 27 = .ok (.ireturn, 1) := by decide +kernel
theorem dX7_of_0 : decode cX7_of 0 = .ok (.aload_n 0, 1) := by decide +kernel
theorem dX7_of_1 : decode cX7_of 1 = .ok (.iload_n 1, 1) := by decide +kernel
theorem dX7_of_2 : decode cX7_of 2 = .ok (.invokevirtual 133, 3) := by decide +kernel
theorem dX7_of_5 : decode cX7_of 5 = .ok (.ifCond .eq 15, 3) := by decide +kernel
theorem dX7_of_8 : decode cX7_of 8 = .ok (.iload_n 2, 1) := by decide +kernel
theorem dX7_of_9 : decode cX7_of 9 = .ok (.i2l, 1) := by decide +kernel
theorem dX7_of_10 : decode cX7_of 10 = .ok (.lconst 0, 1) := by decide +kernel
theorem dX7_of_11 : decode cX7_of 11 = .ok (.ldc2_w 137, 3) := by decide +kernel
theorem dX7_of_14 : decode cX7_of 14 = .ok (.invokestatic 85, 3) := by decide +kernel
theorem dX7_of_17 : decode cX7_of 17 = .ok (.ifCond .ne 5, 3) := by decide +kernel
theorem dX7_of_20 : decode cX7_of 20 = .ok (.iconst (-1), 1) := by decide +kernel
theorem dX7_of_21 : decode cX7_of 21 = .ok (.ireturn, 1) := by decide +kernel
theorem dX7_of_22 : decode cX7_of 22 = .ok (.aload_n 0, 1) := by decide +kernel
theorem dX7_of_23 : decode cX7_of 23 = .ok (.aload_n 0, 1) := by decide +kernel
theorem dX7_of_24 : decode cX7_of 24 = .ok (.getfield 118, 3) := by decide +kernel
theorem dX7_of_27 : decode cX7_of 27 = .ok (.aload_n 0, 1) := by decide +kernel
theorem dX7_of_28 : decode cX7_of 28 = .ok (.getfield 9, 3) := by decide +kernel
theorem dX7_of_31 : decode cX7_of 31 = .ok (.invokevirtual 110, 3) := by decide +kernel
theorem dX7_of_34 : decode cX7_of 34 = .ok (.iload_n 2, 1) := by decide +kernel
theorem dX7_of_35 : decode cX7_of 35 = .ok (.tableswitch 74 0 4 #[33, 46, 53, 60, 67], 33) := by decide +kernel
theorem dX7_of_68 : decode cX7_of 68 = .ok (.aload_n 0, 1) := by decide +kernel
theorem dX7_of_69 : decode cX7_of 69 = .ok (.getfield 118, 3) := by decide +kernel
theorem dX7_of_72 : decode cX7_of 72 = .ok (.aload_n 0, 1) := by decide +kernel
theorem dX7_of_73 : decode cX7_of 73 = .ok (.getfield 9, 3) := by decide +kernel
theorem dX7_of_76 : decode cX7_of 76 = .ok (.iload_n 1, 1) := by decide +kernel
theorem dX7_of_77 : decode cX7_of 77 = .ok (.invokestatic 81, 3) := by decide +kernel
theorem dX7_of_80 : decode cX7_of 80 = .ok (.ireturn, 1) := by decide +kernel
theorem dX7_of_81 : decode cX7_of 81 = .ok (.aload_n 0, 1) := by decide +kernel
theorem dX7_of_82 : decode cX7_of 82 = .ok (.getfield 47, 3) := by decide +kernel
theorem dX7_of_85 : decode cX7_of 85 = .ok (.iload_n 1, 1) := by decide +kernel
theorem dX7_of_86 : decode cX7_of 86 = .ok (.iaload, 1) := by decide +kernel
theorem dX7_of_87 : decode cX7_of 87 = .ok (.ireturn, 1) := by decide +kernel
theorem dX7_of_88 : decode cX7_of 88 = .ok (.aload_n 0, 1) := by decide +kernel
theorem dX7_of_89 : decode cX7_of 89 = .ok (.getfield 50, 3) := by decide +kernel
theorem dX7_of_92 : decode cX7_of 92 = .ok (.iload_n 1, 1) := by decide +kernel
theorem dX7_of_93 : decode cX7_of 93 = .ok (.iaload, 1) := by decide +kernel
theorem dX7_of_94 : decode cX7_of 94 = .ok (.ireturn, 1) := by decide +kernel
theorem dX7_of_95 : decode cX7_of 95 = .ok (.aload_n 0, 1) := by decide +kernel
theorem dX7_of_96 : decode cX7_of 96 = .ok (.getfield 53, 3) := by decide +kernel
theorem dX7_of_99 : decode cX7_of 99 = .ok (.iload_n 1, 1) := by decide +kernel
theorem dX7_of_100 : decode cX7_of 100 = .ok (.iaload, 1) := by decide +kernel
theorem dX7_of_101 : decode cX7_of 101 = .ok (.ireturn, 1) := by decide +kernel
theorem dX7_of_102 : decode cX7_of 102 = .ok (.aload_n 0, 1) := by decide +kernel
theorem dX7_of_103 : decode cX7_of 103 = .ok (.getfield 56, 3) := by decide +kernel
theorem dX7_of_106 : decode cX7_of 106 = .ok (.iload_n 1, 1) := by decide +kernel
theorem dX7_of_107 : decode cX7_of 107 = .ok (.iaload, 1) := by decide +kernel
theorem dX7_of_108 : decode cX7_of 108 = .ok (.ireturn, 1) := by decide +kernel
theorem dX7_of_109 : decode cX7_of 109 = .ok (.aload_n 0, 1) := by decide +kernel
theorem dX7_of_110 : decode cX7_of 110 = .ok (.getfield 59, 3) := by decide +kernel
theorem dX7_of_113 : decode cX7_of 113 = .ok (.iload_n 1, 1) := by decide +kernel
theorem dX7_of_114 : decode cX7_of 114 = .ok (.iaload, 1) := by decide +kernel
theorem dX7_of_115 : decode cX7_of 115 = .ok (.ireturn, 1) := by decide +kernel
theorem dX7_number_0 : decode cX7_number 0 = .ok (.aload_n 0, 1) := by decide +kernel
theorem dX7_number_1 : decode cX7_number 1 = .ok (.aload_n 0, 1) := by decide +kernel
theorem dX7_number_2 : decode cX7_number 2 = .ok (.getfield 9, 3) := by decide +kernel
theorem dX7_number_5 : decode cX7_number 5 = .ok (.invokevirtual 99, 3) := by decide +kernel
theorem dX7_number_8 : decode cX7_number 8 = .ok (.iload_n 1, 1) := by decide +kernel
theorem dX7_number_9 : decode cX7_number 9 = .ok (.i2l, 1) := by decide +kernel
theorem dX7_number_10 : decode cX7_number 10 = .ok (.lconst 0, 1) := by decide +kernel
theorem dX7_number_11 : decode cX7_number 11 = .ok (.aload_n 0, 1) := by decide +kernel
theorem dX7_number_12 : decode cX7_number 12 = .ok (.getfield 92, 3) := by decide +kernel
theorem dX7_number_15 : decode cX7_number 15 = .ok (.iconst 1, 1) := by decide +kernel
theorem dX7_number_16 : decode cX7_number 16 = .ok (.isub, 1) := by decide +kernel
theorem dX7_number_17 : decode cX7_number 17 = .ok (.i2l, 1) := by decide +kernel
theorem dX7_number_18 : decode cX7_number 18 = .ok (.invokestatic 85, 3) := by decide +kernel
theorem dX7_number_21 : decode cX7_number 21 = .ok (.ifCond .ne 5, 3) := by decide +kernel
theorem dX7_number_24 : decode cX7_number 24 = .ok (.iconst (-1), 1) := by decide +kernel
theorem dX7_number_25 : decode cX7_number 25 = .ok (.ireturn, 1) := by decide +kernel
theorem dX7_number_26 : decode cX7_number 26 = .ok (.aload_n 0, 1) := by decide +kernel
theorem dX7_number_27 : decode cX7_number 27 = .ok (.invokevirtual 129, 3) := by decide +kernel
theorem dX7_number_30 : decode cX7_number 30 = .ok (.istore_n 2, 1) := by decide +kernel
theorem dX7_number_31 : decode cX7_number 31 = .ok (.aload_n 0, 1) := by decide +kernel
theorem dX7_number_32 : decode cX7_number 32 = .ok (.aload_n 0, 1) := by decide +kernel
theorem dX7_number_33 : decode cX7_number 33 = .ok (.getfield 9, 3) := by decide +kernel
theorem dX7_number_36 : decode cX7_number 36 = .ok (.aload_n 0, 1) := by decide +kernel
theorem dX7_number_37 : decode cX7_number 37 = .ok (.getfield 44, 3) := by decide +kernel
theorem dX7_number_40 : decode cX7_number 40 = .ok (.iload_n 1, 1) := by decide +kernel
theorem dX7_number_41 : decode cX7_number 41 = .ok (.iaload, 1) := by decide +kernel
theorem dX7_number_42 : decode cX7_number 42 = .ok (.invokevirtual 126, 3) := by decide +kernel
theorem dX7_number_45 : decode cX7_number 45 = .ok (.iload_n 2, 1) := by decide +kernel
theorem dX7_number_46 : decode cX7_number 46 = .ok (.ireturn, 1) := by decide +kernel
theorem dX7_which_0 : decode cX7_which 0 = .ok (.aload_n 0, 1) := by decide +kernel
theorem dX7_which_1 : decode cX7_which 1 = .ok (.aload_n 0, 1) := by decide +kernel
theorem dX7_which_2 : decode cX7_which 2 = .ok (.getfield 118, 3) := by decide +kernel
theorem dX7_which_5 : decode cX7_which 5 = .ok (.aload_n 0, 1) := by decide +kernel
theorem dX7_which_6 : decode cX7_which 6 = .ok (.getfield 9, 3) := by decide +kernel
theorem dX7_which_9 : decode cX7_which 9 = .ok (.invokevirtual 139, 3) := by decide +kernel
theorem dX7_which_12 : decode cX7_which 12 = .ok (.ireturn, 1) := by decide +kernel
theorem dX7_many_0 : decode cX7_many 0 = .ok (.iload_n 1, 1) := by decide +kernel
theorem dX7_many_1 : decode cX7_many 1 = .ok (.i2l, 1) := by decide +kernel
theorem dX7_many_2 : decode cX7_many 2 = .ok (.lconst 1, 1) := by decide +kernel
theorem dX7_many_3 : decode cX7_many 3 = .ok (.ldc2_w 124, 3) := by decide +kernel
theorem dX7_many_6 : decode cX7_many 6 = .ok (.invokestatic 85, 3) := by decide +kernel
theorem dX7_many_9 : decode cX7_many 9 = .ok (.ifCond .ne 6, 3) := by decide +kernel
theorem dX7_many_12 : decode cX7_many 12 = .ok (.bipush (-2), 2) := by decide +kernel
theorem dX7_many_14 : decode cX7_many 14 = .ok (.ireturn, 1) := by decide +kernel
theorem dX7_many_15 : decode cX7_many 15 = .ok (.aload_n 0, 1) := by decide +kernel
theorem dX7_many_16 : decode cX7_many 16 = .ok (.iload_n 1, 1) := by decide +kernel
theorem dX7_many_17 : decode cX7_many 17 = .ok (.invokevirtual 99, 3) := by decide +kernel
theorem dX7_many_20 : decode cX7_many 20 = .ok (.aload_n 0, 1) := by decide +kernel
theorem dX7_many_21 : decode cX7_many 21 = .ok (.getfield 92, 3) := by decide +kernel
theorem dX7_many_24 : decode cX7_many 24 = .ok (.ireturn, 1) := by decide +kernel
theorem dX7_digits_0 : decode cX7_digits 0 = .ok (.aload_n 0, 1) := by decide +kernel
theorem dX7_digits_1 : decode cX7_digits 1 = .ok (.getfield 118, 3) := by decide +kernel
theorem dX7_digits_4 : decode cX7_digits 4 = .ok (.ireturn, 1) := by decide +kernel
theorem dX7_turn_0 : decode cX7_turn 0 = .ok (.aload_n 0, 1) := by decide +kernel
theorem dX7_turn_1 : decode cX7_turn 1 = .ok (.iload_n 1, 1) := by decide +kernel
theorem dX7_turn_2 : decode cX7_turn 2 = .ok (.invokevirtual 133, 3) := by decide +kernel
theorem dX7_turn_5 : decode cX7_turn 5 = .ok (.ifCond .ne 5, 3) := by decide +kernel
theorem dX7_turn_8 : decode cX7_turn 8 = .ok (.iconst (-1), 1) := by decide +kernel
theorem dX7_turn_9 : decode cX7_turn 9 = .ok (.ireturn, 1) := by decide +kernel
theorem dX7_turn_10 : decode cX7_turn 10 = .ok (.aload_n 0, 1) := by decide +kernel
theorem dX7_turn_11 : decode cX7_turn 11 = .ok (.aload_n 0, 1) := by decide +kernel
theorem dX7_turn_12 : decode cX7_turn 12 = .ok (.getfield 118, 3) := by decide +kernel
theorem dX7_turn_15 : decode cX7_turn 15 = .ok (.aload_n 0, 1) := by decide +kernel
theorem dX7_turn_16 : decode cX7_turn 16 = .ok (.getfield 9, 3) := by decide +kernel
theorem dX7_turn_19 : decode cX7_turn 19 = .ok (.iload_n 1, 1) := by decide +kernel
theorem dX7_turn_20 : decode cX7_turn 20 = .ok (.invokevirtual 143, 3) := by decide +kernel
theorem dX7_turn_23 : decode cX7_turn 23 = .ok (.istore_n 2, 1) := by decide +kernel
theorem dX7_turn_24 : decode cX7_turn 24 = .ok (.iload_n 2, 1) := by decide +kernel
theorem dX7_turn_25 : decode cX7_turn 25 = .ok (.bipush (-5), 2) := by decide +kernel
theorem dX7_turn_27 : decode cX7_turn 27 = .ok (.if_icmp .ne 6, 3) := by decide +kernel
theorem dX7_turn_30 : decode cX7_turn 30 = .ok (.bipush (-5), 2) := by decide +kernel
theorem dX7_turn_32 : decode cX7_turn 32 = .ok (.ireturn, 1) := by decide +kernel
theorem dX7_turn_33 : decode cX7_turn 33 = .ok (.aload_n 0, 1) := by decide +kernel
theorem dX7_turn_34 : decode cX7_turn 34 = .ok (.aload_n 0, 1) := by decide +kernel
theorem dX7_turn_35 : decode cX7_turn 35 = .ok (.getfield 9, 3) := by decide +kernel
theorem dX7_turn_38 : decode cX7_turn 38 = .ok (.iload_n 2, 1) := by decide +kernel
theorem dX7_turn_39 : decode cX7_turn 39 = .ok (.invokevirtual 126, 3) := by decide +kernel
theorem dX7_turn_42 : decode cX7_turn 42 = .ok (.aload_n 0, 1) := by decide +kernel
theorem dX7_turn_43 : decode cX7_turn 43 = .ok (.invokevirtual 129, 3) := by decide +kernel
theorem dX7_turn_46 : decode cX7_turn 46 = .ok (.ireturn, 1) := by decide +kernel
theorem dX7_back_0 : decode cX7_back 0 = .ok (.aload_n 0, 1) := by decide +kernel
theorem dX7_back_1 : decode cX7_back 1 = .ok (.iload_n 1, 1) := by decide +kernel
theorem dX7_back_2 : decode cX7_back 2 = .ok (.invokevirtual 133, 3) := by decide +kernel
theorem dX7_back_5 : decode cX7_back 5 = .ok (.ifCond .ne 5, 3) := by decide +kernel
theorem dX7_back_8 : decode cX7_back 8 = .ok (.iconst (-1), 1) := by decide +kernel
theorem dX7_back_9 : decode cX7_back 9 = .ok (.ireturn, 1) := by decide +kernel
theorem dX7_back_10 : decode cX7_back 10 = .ok (.aload_n 0, 1) := by decide +kernel
theorem dX7_back_11 : decode cX7_back 11 = .ok (.aload_n 0, 1) := by decide +kernel
theorem dX7_back_12 : decode cX7_back 12 = .ok (.getfield 118, 3) := by decide +kernel
theorem dX7_back_15 : decode cX7_back 15 = .ok (.aload_n 0, 1) := by decide +kernel
theorem dX7_back_16 : decode cX7_back 16 = .ok (.getfield 9, 3) := by decide +kernel
theorem dX7_back_19 : decode cX7_back 19 = .ok (.iload_n 1, 1) := by decide +kernel
theorem dX7_back_20 : decode cX7_back 20 = .ok (.invokevirtual 146, 3) := by decide +kernel
theorem dX7_back_23 : decode cX7_back 23 = .ok (.istore_n 2, 1) := by decide +kernel
theorem dX7_back_24 : decode cX7_back 24 = .ok (.iload_n 2, 1) := by decide +kernel
theorem dX7_back_25 : decode cX7_back 25 = .ok (.bipush (-5), 2) := by decide +kernel
theorem dX7_back_27 : decode cX7_back 27 = .ok (.if_icmp .ne 6, 3) := by decide +kernel
theorem dX7_back_30 : decode cX7_back 30 = .ok (.bipush (-5), 2) := by decide +kernel
theorem dX7_back_32 : decode cX7_back 32 = .ok (.ireturn, 1) := by decide +kernel
theorem dX7_back_33 : decode cX7_back 33 = .ok (.aload_n 0, 1) := by decide +kernel
theorem dX7_back_34 : decode cX7_back 34 = .ok (.aload_n 0, 1) := by decide +kernel
theorem dX7_back_35 : decode cX7_back 35 = .ok (.getfield 9, 3) := by decide +kernel
theorem dX7_back_38 : decode cX7_back 38 = .ok (.iload_n 2, 1) := by decide +kernel
theorem dX7_back_39 : decode cX7_back 39 = .ok (.invokevirtual 126, 3) := by decide +kernel
theorem dX7_back_42 : decode cX7_back 42 = .ok (.aload_n 0, 1) := by decide +kernel
theorem dX7_back_43 : decode cX7_back 43 = .ok (.invokevirtual 129, 3) := by decide +kernel
theorem dX7_back_46 : decode cX7_back 46 = .ok (.ireturn, 1) := by decide +kernel
theorem dX7_mayTurn_0 : decode cX7_mayTurn 0 = .ok (.iload_n 1, 1) := by decide +kernel
theorem dX7_mayTurn_1 : decode cX7_mayTurn 1 = .ok (.i2l, 1) := by decide +kernel
theorem dX7_mayTurn_2 : decode cX7_mayTurn 2 = .ok (.lconst 0, 1) := by decide +kernel
theorem dX7_mayTurn_3 : decode cX7_mayTurn 3 = .ok (.ldc2_w 149, 3) := by decide +kernel
theorem dX7_mayTurn_6 : decode cX7_mayTurn 6 = .ok (.invokestatic 85, 3) := by decide +kernel
theorem dX7_mayTurn_9 : decode cX7_mayTurn 9 = .ok (.ifCond .ne 5, 3) := by decide +kernel
theorem dX7_mayTurn_12 : decode cX7_mayTurn 12 = .ok (.iconst (-1), 1) := by decide +kernel
theorem dX7_mayTurn_13 : decode cX7_mayTurn 13 = .ok (.ireturn, 1) := by decide +kernel
theorem dX7_mayTurn_14 : decode cX7_mayTurn 14 = .ok (.iconst 0, 1) := by decide +kernel
theorem dX7_mayTurn_15 : decode cX7_mayTurn 15 = .ok (.istore_n 2, 1) := by decide +kernel
theorem dX7_mayTurn_16 : decode cX7_mayTurn 16 = .ok (.iconst 0, 1) := by decide +kernel
theorem dX7_mayTurn_17 : decode cX7_mayTurn 17 = .ok (.istore_n 3, 1) := by decide +kernel
theorem dX7_mayTurn_18 : decode cX7_mayTurn 18 = .ok (.iload_n 3, 1) := by decide +kernel
theorem dX7_mayTurn_19 : decode cX7_mayTurn 19 = .ok (.aload_n 0, 1) := by decide +kernel
theorem dX7_mayTurn_20 : decode cX7_mayTurn 20 = .ok (.getfield 9, 3) := by decide +kernel
theorem dX7_mayTurn_23 : decode cX7_mayTurn 23 = .ok (.if_icmp .ge 55, 3) := by decide +kernel
theorem dX7_mayTurn_26 : decode cX7_mayTurn 26 = .ok (.iload_n 1, 1) := by decide +kernel
theorem dX7_mayTurn_27 : decode cX7_mayTurn 27 = .ok (.iconst 2, 1) := by decide +kernel
theorem dX7_mayTurn_28 : decode cX7_mayTurn 28 = .ok (.irem, 1) := by decide +kernel
theorem dX7_mayTurn_29 : decode cX7_mayTurn 29 = .ok (.ifCond .ne 19, 3) := by decide +kernel
theorem dX7_mayTurn_32 : decode cX7_mayTurn 32 = .ok (.aload_n 0, 1) := by decide +kernel
theorem dX7_mayTurn_33 : decode cX7_mayTurn 33 = .ok (.aload_n 0, 1) := by decide +kernel
theorem dX7_mayTurn_34 : decode cX7_mayTurn 34 = .ok (.getfield 118, 3) := by decide +kernel
theorem dX7_mayTurn_37 : decode cX7_mayTurn 37 = .ok (.aload_n 0, 1) := by decide +kernel
theorem dX7_mayTurn_38 : decode cX7_mayTurn 38 = .ok (.getfield 9, 3) := by decide +kernel
theorem dX7_mayTurn_41 : decode cX7_mayTurn 41 = .ok (.iload_n 3, 1) := by decide +kernel
theorem dX7_mayTurn_42 : decode cX7_mayTurn 42 = .ok (.invokevirtual 143, 3) := by decide +kernel
theorem dX7_mayTurn_45 : decode cX7_mayTurn 45 = .ok (.goto 16, 3) := by decide +kernel
theorem dX7_mayTurn_48 : decode cX7_mayTurn 48 = .ok (.aload_n 0, 1) := by decide +kernel
theorem dX7_mayTurn_49 : decode cX7_mayTurn 49 = .ok (.aload_n 0, 1) := by decide +kernel
theorem dX7_mayTurn_50 : decode cX7_mayTurn 50 = .ok (.getfield 118, 3) := by decide +kernel
theorem dX7_mayTurn_53 : decode cX7_mayTurn 53 = .ok (.aload_n 0, 1) := by decide +kernel
theorem dX7_mayTurn_54 : decode cX7_mayTurn 54 = .ok (.getfield 9, 3) := by decide +kernel
theorem dX7_mayTurn_57 : decode cX7_mayTurn 57 = .ok (.iload_n 3, 1) := by decide +kernel
theorem dX7_mayTurn_58 : decode cX7_mayTurn 58 = .ok (.invokevirtual 146, 3) := by decide +kernel
theorem dX7_mayTurn_61 : decode cX7_mayTurn 61 = .ok (.bipush (-5), 2) := by decide +kernel
theorem dX7_mayTurn_63 : decode cX7_mayTurn 63 = .ok (.if_icmp .eq 9, 3) := by decide +kernel
theorem dX7_mayTurn_66 : decode cX7_mayTurn 66 = .ok (.iload_n 2, 1) := by decide +kernel
theorem dX7_mayTurn_67 : decode cX7_mayTurn 67 = .ok (.iconst 1, 1) := by decide +kernel
theorem dX7_mayTurn_68 : decode cX7_mayTurn 68 = .ok (.iload_n 3, 1) := by decide +kernel
theorem dX7_mayTurn_69 : decode cX7_mayTurn 69 = .ok (.ishl, 1) := by decide +kernel
theorem dX7_mayTurn_70 : decode cX7_mayTurn 70 = .ok (.ior, 1) := by decide +kernel
theorem dX7_mayTurn_71 : decode cX7_mayTurn 71 = .ok (.istore_n 2, 1) := by decide +kernel
theorem dX7_mayTurn_72 : decode cX7_mayTurn 72 = .ok (.iinc 3 1, 3) := by decide +kernel
theorem dX7_mayTurn_75 : decode cX7_mayTurn 75 = .ok (.goto (-57), 3) := by decide +kernel
theorem dX7_mayTurn_78 : decode cX7_mayTurn 78 = .ok (.iload_n 1, 1) := by decide +kernel
theorem dX7_mayTurn_79 : decode cX7_mayTurn 79 = .ok (.iconst 2, 1) := by decide +kernel
theorem dX7_mayTurn_80 : decode cX7_mayTurn 80 = .ok (.if_icmp .ge 10, 3) := by decide +kernel
theorem dX7_mayTurn_83 : decode cX7_mayTurn 83 = .ok (.iload_n 2, 1) := by decide +kernel
theorem dX7_mayTurn_84 : decode cX7_mayTurn 84 = .ok (.invokestatic 151, 3) := by decide +kernel
theorem dX7_mayTurn_87 : decode cX7_mayTurn 87 = .ok (.goto 4, 3) := by decide +kernel
theorem dX7_mayTurn_90 : decode cX7_mayTurn 90 = .ok (.iload_n 2, 1) := by decide +kernel
theorem dX7_mayTurn_91 : decode cX7_mayTurn 91 = .ok (.ireturn, 1) := by decide +kernel
theorem dX7_mirror_0 : decode cX7_mirror 0 = .ok (.aload_n 0, 1) := by decide +kernel
theorem dX7_mirror_1 : decode cX7_mirror 1 = .ok (.aload_n 0, 1) := by decide +kernel
theorem dX7_mirror_2 : decode cX7_mirror 2 = .ok (.getfield 9, 3) := by decide +kernel
theorem dX7_mirror_5 : decode cX7_mirror 5 = .ok (.aload_n 0, 1) := by decide +kernel
theorem dX7_mirror_6 : decode cX7_mirror 6 = .ok (.aload_n 0, 1) := by decide +kernel
theorem dX7_mirror_7 : decode cX7_mirror 7 = .ok (.getfield 118, 3) := by decide +kernel
theorem dX7_mirror_10 : decode cX7_mirror 10 = .ok (.aload_n 0, 1) := by decide +kernel
theorem dX7_mirror_11 : decode cX7_mirror 11 = .ok (.getfield 9, 3) := by decide +kernel
theorem dX7_mirror_14 : decode cX7_mirror 14 = .ok (.invokevirtual 156, 3) := by decide +kernel
theorem dX7_mirror_17 : decode cX7_mirror 17 = .ok (.invokevirtual 126, 3) := by decide +kernel
theorem dX7_mirror_20 : decode cX7_mirror 20 = .ok (.aload_n 0, 1) := by decide +kernel
theorem dX7_mirror_21 : decode cX7_mirror 21 = .ok (.invokevirtual 129, 3) := by decide +kernel
theorem dX7_mirror_24 : decode cX7_mirror 24 = .ok (.ireturn, 1) := by decide +kernel
theorem dX7_off_0 : decode cX7_off 0 = .ok (.aload_n 0, 1) := by decide +kernel
theorem dX7_off_1 : decode cX7_off 1 = .ok (.getfield 121, 3) := by decide +kernel
theorem dX7_off_4 : decode cX7_off 4 = .ok (.ifCond .ne 6, 3) := by decide +kernel
theorem dX7_off_7 : decode cX7_off 7 = .ok (.bipush (-3), 2) := by decide +kernel
theorem dX7_off_9 : decode cX7_off 9 = .ok (.ireturn, 1) := by decide +kernel
theorem dX7_off_10 : decode cX7_off 10 = .ok (.aload_n 0, 1) := by decide +kernel
theorem dX7_off_11 : decode cX7_off 11 = .ok (.dup, 1) := by decide +kernel
theorem dX7_off_12 : decode cX7_off 12 = .ok (.getfield 121, 3) := by decide +kernel
theorem dX7_off_15 : decode cX7_off 15 = .ok (.iconst 1, 1) := by decide +kernel
theorem dX7_off_16 : decode cX7_off 16 = .ok (.isub, 1) := by decide +kernel
theorem dX7_off_17 : decode cX7_off 17 = .ok (.putfield 121, 3) := by decide +kernel
theorem dX7_off_20 : decode cX7_off 20 = .ok (.aload_n 0, 1) := by decide +kernel
theorem dX7_off_21 : decode cX7_off 21 = .ok (.aload_n 0, 1) := by decide +kernel
theorem dX7_off_22 : decode cX7_off 22 = .ok (.getfield 22, 3) := by decide +kernel
theorem dX7_off_25 : decode cX7_off 25 = .ok (.aload_n 0, 1) := by decide +kernel
theorem dX7_off_26 : decode cX7_off 26 = .ok (.getfield 121, 3) := by decide +kernel
theorem dX7_off_29 : decode cX7_off 29 = .ok (.iaload, 1) := by decide +kernel
theorem dX7_off_30 : decode cX7_off 30 = .ok (.putfield 9, 3) := by decide +kernel
theorem dX7_off_33 : decode cX7_off 33 = .ok (.aload_n 0, 1) := by decide +kernel
theorem dX7_off_34 : decode cX7_off 34 = .ok (.aload_n 0, 1) := by decide +kernel
theorem dX7_off_35 : decode cX7_off 35 = .ok (.getfield 25, 3) := by decide +kernel
theorem dX7_off_38 : decode cX7_off 38 = .ok (.aload_n 0, 1) := by decide +kernel
theorem dX7_off_39 : decode cX7_off 39 = .ok (.getfield 121, 3) := by decide +kernel
theorem dX7_off_42 : decode cX7_off 42 = .ok (.iaload, 1) := by decide +kernel
theorem dX7_off_43 : decode cX7_off 43 = .ok (.putfield 118, 3) := by decide +kernel
theorem dX7_off_46 : decode cX7_off 46 = .ok (.aload_n 0, 1) := by decide +kernel
theorem dX7_off_47 : decode cX7_off 47 = .ok (.getfield 121, 3) := by decide +kernel
theorem dX7_off_50 : decode cX7_off 50 = .ok (.ireturn, 1) := by decide +kernel
theorem dX7_isShelf_0 : decode cX7_isShelf 0 = .ok (.iload_n 0, 1) := by decide +kernel
theorem dX7_isShelf_1 : decode cX7_isShelf 1 = .ok (.i2l, 1) := by decide +kernel
theorem dX7_isShelf_2 : decode cX7_isShelf 2 = .ok (.lconst 0, 1) := by decide +kernel
theorem dX7_isShelf_3 : decode cX7_isShelf 3 = .ok (.ldc2_w 149, 3) := by decide +kernel
theorem dX7_isShelf_6 : decode cX7_isShelf 6 = .ok (.invokestatic 85, 3) := by decide +kernel
theorem dX7_isShelf_9 : decode cX7_isShelf 9 = .ok (.ireturn, 1) := by decide +kernel
theorem dX7_barOf_0 : decode cX7_barOf 0 = .ok (.aload_n 0, 1) := by decide +kernel
theorem dX7_barOf_1 : decode cX7_barOf 1 = .ok (.getfield 15, 3) := by decide +kernel
theorem dX7_barOf_4 : decode cX7_barOf 4 = .ok (.iload_n 1, 1) := by decide +kernel
theorem dX7_barOf_5 : decode cX7_barOf 5 = .ok (.iaload, 1) := by decide +kernel
theorem dX7_barOf_6 : decode cX7_barOf 6 = .ok (.ifCond .ne 6, 3) := by decide +kernel
theorem dX7_barOf_9 : decode cX7_barOf 9 = .ok (.bipush (-6), 2) := by decide +kernel
theorem dX7_barOf_11 : decode cX7_barOf 11 = .ok (.ireturn, 1) := by decide +kernel
theorem dX7_barOf_12 : decode cX7_barOf 12 = .ok (.aload_n 0, 1) := by decide +kernel
theorem dX7_barOf_13 : decode cX7_barOf 13 = .ok (.getfield 15, 3) := by decide +kernel
theorem dX7_barOf_16 : decode cX7_barOf 16 = .ok (.iload_n 1, 1) := by decide +kernel
theorem dX7_barOf_17 : decode cX7_barOf 17 = .ok (.iaload, 1) := by decide +kernel
theorem dX7_barOf_18 : decode cX7_barOf 18 = .ok (.aload_n 0, 1) := by decide +kernel
theorem dX7_barOf_19 : decode cX7_barOf 19 = .ok (.getfield 9, 3) := by decide +kernel
theorem dX7_barOf_22 : decode cX7_barOf 22 = .ok (.if_icmp .ne 7, 3) := by decide +kernel
theorem dX7_barOf_25 : decode cX7_barOf 25 = .ok (.iconst 0, 1) := by decide +kernel
theorem dX7_barOf_26 : decode cX7_barOf 26 = .ok (.goto 5, 3) := by decide +kernel
theorem dX7_barOf_29 : decode cX7_barOf 29 = .ok (.bipush (-7), 2) := by decide +kernel
theorem dX7_barOf_31 : decode cX7_barOf 31 = .ok (.ireturn, 1) := by decide +kernel
theorem dX7_below_0 : decode cX7_below 0 = .ok (.iload_n 1, 1) := by decide +kernel
theorem dX7_below_1 : decode cX7_below 1 = .ok (.invokestatic 159, 3) := by decide +kernel
theorem dX7_below_4 : decode cX7_below 4 = .ok (.ifCond .eq 13, 3) := by decide +kernel
theorem dX7_below_7 : decode cX7_below 7 = .ok (.iload_n 2, 1) := by decide +kernel
theorem dX7_below_8 : decode cX7_below 8 = .ok (.i2l, 1) := by decide +kernel
theorem dX7_below_9 : decode cX7_below 9 = .ok (.lconst 0, 1) := by decide +kernel
theorem dX7_below_10 : decode cX7_below 10 = .ok (.lconst 1, 1) := by decide +kernel
theorem dX7_below_11 : decode cX7_below 11 = .ok (.invokestatic 85, 3) := by decide +kernel
theorem dX7_below_14 : decode cX7_below 14 = .ok (.ifCond .ne 5, 3) := by decide +kernel
theorem dX7_below_17 : decode cX7_below 17 = .ok (.iconst (-1), 1) := by decide +kernel
theorem dX7_below_18 : decode cX7_below 18 = .ok (.ireturn, 1) := by decide +kernel
theorem dX7_below_19 : decode cX7_below 19 = .ok (.aload_n 0, 1) := by decide +kernel
theorem dX7_below_20 : decode cX7_below 20 = .ok (.iload_n 1, 1) := by decide +kernel
theorem dX7_below_21 : decode cX7_below 21 = .ok (.invokevirtual 162, 3) := by decide +kernel
theorem dX7_below_24 : decode cX7_below 24 = .ok (.istore_n 3, 1) := by decide +kernel
theorem dX7_below_25 : decode cX7_below 25 = .ok (.iload_n 3, 1) := by decide +kernel
theorem dX7_below_26 : decode cX7_below 26 = .ok (.ifCond .eq 5, 3) := by decide +kernel
theorem dX7_below_29 : decode cX7_below 29 = .ok (.iload_n 3, 1) := by decide +kernel
theorem dX7_below_30 : decode cX7_below 30 = .ok (.ireturn, 1) := by decide +kernel
theorem dX7_below_31 : decode cX7_below 31 = .ok (.iload_n 2, 1) := by decide +kernel
theorem dX7_below_32 : decode cX7_below 32 = .ok (.ifCond .ne 23, 3) := by decide +kernel
theorem dX7_below_35 : decode cX7_below 35 = .ok (.aload_n 0, 1) := by decide +kernel
theorem dX7_below_36 : decode cX7_below 36 = .ok (.getfield 118, 3) := by decide +kernel
theorem dX7_below_39 : decode cX7_below 39 = .ok (.aload_n 0, 1) := by decide +kernel
theorem dX7_below_40 : decode cX7_below 40 = .ok (.getfield 19, 3) := by decide +kernel
theorem dX7_below_43 : decode cX7_below 43 = .ok (.iload_n 1, 1) := by decide +kernel
theorem dX7_below_44 : decode cX7_below 44 = .ok (.iaload, 1) := by decide +kernel
theorem dX7_below_45 : decode cX7_below 45 = .ok (.aload_n 0, 1) := by decide +kernel
theorem dX7_below_46 : decode cX7_below 46 = .ok (.getfield 9, 3) := by decide +kernel
theorem dX7_below_49 : decode cX7_below 49 = .ok (.invokestatic 165, 3) := by decide +kernel
theorem dX7_below_52 : decode cX7_below 52 = .ok (.goto 20, 3) := by decide +kernel
theorem dX7_below_55 : decode cX7_below 55 = .ok (.aload_n 0, 1) := by decide +kernel
theorem dX7_below_56 : decode cX7_below 56 = .ok (.getfield 19, 3) := by decide +kernel
theorem dX7_below_59 : decode cX7_below 59 = .ok (.iload_n 1, 1) := by decide +kernel
theorem dX7_below_60 : decode cX7_below 60 = .ok (.iaload, 1) := by decide +kernel
theorem dX7_below_61 : decode cX7_below 61 = .ok (.aload_n 0, 1) := by decide +kernel
theorem dX7_below_62 : decode cX7_below 62 = .ok (.getfield 118, 3) := by decide +kernel
theorem dX7_below_65 : decode cX7_below 65 = .ok (.aload_n 0, 1) := by decide +kernel
theorem dX7_below_66 : decode cX7_below 66 = .ok (.getfield 9, 3) := by decide +kernel
theorem dX7_below_69 : decode cX7_below 69 = .ok (.invokestatic 165, 3) := by decide +kernel
theorem dX7_below_72 : decode cX7_below 72 = .ok (.istore 4, 2) := by decide +kernel
theorem dX7_below_74 : decode cX7_below 74 = .ok (.iload 4, 2) := by decide +kernel
theorem dX7_below_76 : decode cX7_below 76 = .ok (.ifCond .eq 7, 3) := by decide +kernel
theorem dX7_below_79 : decode cX7_below 79 = .ok (.iconst 1, 1) := by decide +kernel
theorem dX7_below_80 : decode cX7_below 80 = .ok (.goto 4, 3) := by decide +kernel
theorem dX7_below_83 : decode cX7_below 83 = .ok (.iconst 0, 1) := by decide +kernel
theorem dX7_below_84 : decode cX7_below 84 = .ok (.ireturn, 1) := by decide +kernel
theorem dX7_bound_0 : decode cX7_bound 0 = .ok (.aload_n 0, 1) := by decide +kernel
theorem dX7_bound_1 : decode cX7_bound 1 = .ok (.aload_n 0, 1) := by decide +kernel
theorem dX7_bound_2 : decode cX7_bound 2 = .ok (.getfield 9, 3) := by decide +kernel
theorem dX7_bound_5 : decode cX7_bound 5 = .ok (.invokevirtual 99, 3) := by decide +kernel
theorem dX7_bound_8 : decode cX7_bound 8 = .ok (.iconst (-1), 1) := by decide +kernel
theorem dX7_bound_9 : decode cX7_bound 9 = .ok (.istore 4, 2) := by decide +kernel
theorem dX7_bound_11 : decode cX7_bound 11 = .ok (.iconst 0, 1) := by decide +kernel
theorem dX7_bound_12 : decode cX7_bound 12 = .ok (.istore 5, 2) := by decide +kernel
theorem dX7_bound_14 : decode cX7_bound 14 = .ok (.iload 5, 2) := by decide +kernel
theorem dX7_bound_16 : decode cX7_bound 16 = .ok (.aload_n 0, 1) := by decide +kernel
theorem dX7_bound_17 : decode cX7_bound 17 = .ok (.getfield 92, 3) := by decide +kernel
theorem dX7_bound_20 : decode cX7_bound 20 = .ok (.if_icmp .ge 139, 3) := by decide +kernel
theorem dX7_bound_23 : decode cX7_bound 23 = .ok (.aload_n 0, 1) := by decide +kernel
theorem dX7_bound_24 : decode cX7_bound 24 = .ok (.getfield 44, 3) := by decide +kernel
theorem dX7_bound_27 : decode cX7_bound 27 = .ok (.iload 5, 2) := by decide +kernel
theorem dX7_bound_29 : decode cX7_bound 29 = .ok (.iaload, 1) := by decide +kernel
theorem dX7_bound_30 : decode cX7_bound 30 = .ok (.istore 6, 2) := by decide +kernel
theorem dX7_bound_32 : decode cX7_bound 32 = .ok (.iload_n 3, 1) := by decide +kernel
theorem dX7_bound_33 : decode cX7_bound 33 = .ok (.ifCond .eq 37, 3) := by decide +kernel
theorem dX7_bound_36 : decode cX7_bound 36 = .ok (.iload 6, 2) := by decide +kernel
theorem dX7_bound_38 : decode cX7_bound 38 = .ok (.iload_n 1, 1) := by decide +kernel
theorem dX7_bound_39 : decode cX7_bound 39 = .ok (.aload_n 0, 1) := by decide +kernel
theorem dX7_bound_40 : decode cX7_bound 40 = .ok (.getfield 9, 3) := by decide +kernel
theorem dX7_bound_43 : decode cX7_bound 43 = .ok (.invokestatic 165, 3) := by decide +kernel
theorem dX7_bound_46 : decode cX7_bound 46 = .ok (.ifCond .eq 20, 3) := by decide +kernel
theorem dX7_bound_49 : decode cX7_bound 49 = .ok (.iload 6, 2) := by decide +kernel
theorem dX7_bound_51 : decode cX7_bound 51 = .ok (.iload_n 2, 1) := by decide +kernel
theorem dX7_bound_52 : decode cX7_bound 52 = .ok (.aload_n 0, 1) := by decide +kernel
theorem dX7_bound_53 : decode cX7_bound 53 = .ok (.getfield 9, 3) := by decide +kernel
theorem dX7_bound_56 : decode cX7_bound 56 = .ok (.invokestatic 165, 3) := by decide +kernel
theorem dX7_bound_59 : decode cX7_bound 59 = .ok (.ifCond .eq 7, 3) := by decide +kernel
theorem dX7_bound_62 : decode cX7_bound 62 = .ok (.iconst 1, 1) := by decide +kernel
theorem dX7_bound_63 : decode cX7_bound 63 = .ok (.goto 38, 3) := by decide +kernel
theorem dX7_bound_66 : decode cX7_bound 66 = .ok (.iconst 0, 1) := by decide +kernel
theorem dX7_bound_67 : decode cX7_bound 67 = .ok (.goto 34, 3) := by decide +kernel
theorem dX7_bound_70 : decode cX7_bound 70 = .ok (.iload_n 1, 1) := by decide +kernel
theorem dX7_bound_71 : decode cX7_bound 71 = .ok (.iload 6, 2) := by decide +kernel
theorem dX7_bound_73 : decode cX7_bound 73 = .ok (.aload_n 0, 1) := by decide +kernel
theorem dX7_bound_74 : decode cX7_bound 74 = .ok (.getfield 9, 3) := by decide +kernel
theorem dX7_bound_77 : decode cX7_bound 77 = .ok (.invokestatic 165, 3) := by decide +kernel
theorem dX7_bound_80 : decode cX7_bound 80 = .ok (.ifCond .eq 20, 3) := by decide +kernel
theorem dX7_bound_83 : decode cX7_bound 83 = .ok (.iload_n 2, 1) := by decide +kernel
theorem dX7_bound_84 : decode cX7_bound 84 = .ok (.iload 6, 2) := by decide +kernel
theorem dX7_bound_86 : decode cX7_bound 86 = .ok (.aload_n 0, 1) := by decide +kernel
theorem dX7_bound_87 : decode cX7_bound 87 = .ok (.getfield 9, 3) := by decide +kernel
theorem dX7_bound_90 : decode cX7_bound 90 = .ok (.invokestatic 165, 3) := by decide +kernel
theorem dX7_bound_93 : decode cX7_bound 93 = .ok (.ifCond .eq 7, 3) := by decide +kernel
theorem dX7_bound_96 : decode cX7_bound 96 = .ok (.iconst 1, 1) := by decide +kernel
theorem dX7_bound_97 : decode cX7_bound 97 = .ok (.goto 4, 3) := by decide +kernel
theorem dX7_bound_100 : decode cX7_bound 100 = .ok (.iconst 0, 1) := by decide +kernel
theorem dX7_bound_101 : decode cX7_bound 101 = .ok (.istore 7, 2) := by decide +kernel
theorem dX7_bound_103 : decode cX7_bound 103 = .ok (.iload 7, 2) := by decide +kernel
theorem dX7_bound_105 : decode cX7_bound 105 = .ok (.ifCond .eq 48, 3) := by decide +kernel
theorem dX7_bound_108 : decode cX7_bound 108 = .ok (.iload 4, 2) := by decide +kernel
theorem dX7_bound_110 : decode cX7_bound 110 = .ok (.iconst (-1), 1) := by decide +kernel
theorem dX7_bound_111 : decode cX7_bound 111 = .ok (.if_icmp .eq 38, 3) := by decide +kernel
theorem dX7_bound_114 : decode cX7_bound 114 = .ok (.iload_n 3, 1) := by decide +kernel
theorem dX7_bound_115 : decode cX7_bound 115 = .ok (.ifCond .eq 20, 3) := by decide +kernel
theorem dX7_bound_118 : decode cX7_bound 118 = .ok (.iload 4, 2) := by decide +kernel
theorem dX7_bound_120 : decode cX7_bound 120 = .ok (.iload 6, 2) := by decide +kernel
theorem dX7_bound_122 : decode cX7_bound 122 = .ok (.aload_n 0, 1) := by decide +kernel
theorem dX7_bound_123 : decode cX7_bound 123 = .ok (.getfield 9, 3) := by decide +kernel
theorem dX7_bound_126 : decode cX7_bound 126 = .ok (.invokestatic 165, 3) := by decide +kernel
theorem dX7_bound_129 : decode cX7_bound 129 = .ok (.ifCond .eq 24, 3) := by decide +kernel
theorem dX7_bound_132 : decode cX7_bound 132 = .ok (.goto 17, 3) := by decide +kernel
theorem dX7_bound_135 : decode cX7_bound 135 = .ok (.iload 6, 2) := by decide +kernel
theorem dX7_bound_137 : decode cX7_bound 137 = .ok (.iload 4, 2) := by decide +kernel
theorem dX7_bound_139 : decode cX7_bound 139 = .ok (.aload_n 0, 1) := by decide +kernel
theorem dX7_bound_140 : decode cX7_bound 140 = .ok (.getfield 9, 3) := by decide +kernel
theorem dX7_bound_143 : decode cX7_bound 143 = .ok (.invokestatic 165, 3) := by decide +kernel
theorem dX7_bound_146 : decode cX7_bound 146 = .ok (.ifCond .eq 7, 3) := by decide +kernel
theorem dX7_bound_149 : decode cX7_bound 149 = .ok (.iload 6, 2) := by decide +kernel
theorem dX7_bound_151 : decode cX7_bound 151 = .ok (.istore 4, 2) := by decide +kernel
theorem dX7_bound_153 : decode cX7_bound 153 = .ok (.iinc 5 1, 3) := by decide +kernel
theorem dX7_bound_156 : decode cX7_bound 156 = .ok (.goto (-142), 3) := by decide +kernel
theorem dX7_bound_159 : decode cX7_bound 159 = .ok (.iload 4, 2) := by decide +kernel
theorem dX7_bound_161 : decode cX7_bound 161 = .ok (.ireturn, 1) := by decide +kernel
theorem dX7_meet_0 : decode cX7_meet 0 = .ok (.iload_n 1, 1) := by decide +kernel
theorem dX7_meet_1 : decode cX7_meet 1 = .ok (.invokestatic 159, 3) := by decide +kernel
theorem dX7_meet_4 : decode cX7_meet 4 = .ok (.ifCond .eq 13, 3) := by decide +kernel
theorem dX7_meet_7 : decode cX7_meet 7 = .ok (.iload_n 2, 1) := by decide +kernel
theorem dX7_meet_8 : decode cX7_meet 8 = .ok (.i2l, 1) := by decide +kernel
theorem dX7_meet_9 : decode cX7_meet 9 = .ok (.lconst 0, 1) := by decide +kernel
theorem dX7_meet_10 : decode cX7_meet 10 = .ok (.lconst 1, 1) := by decide +kernel
theorem dX7_meet_11 : decode cX7_meet 11 = .ok (.invokestatic 85, 3) := by decide +kernel
theorem dX7_meet_14 : decode cX7_meet 14 = .ok (.ifCond .ne 5, 3) := by decide +kernel
theorem dX7_meet_17 : decode cX7_meet 17 = .ok (.iconst (-1), 1) := by decide +kernel
theorem dX7_meet_18 : decode cX7_meet 18 = .ok (.ireturn, 1) := by decide +kernel
theorem dX7_meet_19 : decode cX7_meet 19 = .ok (.aload_n 0, 1) := by decide +kernel
theorem dX7_meet_20 : decode cX7_meet 20 = .ok (.iload_n 1, 1) := by decide +kernel
theorem dX7_meet_21 : decode cX7_meet 21 = .ok (.invokevirtual 162, 3) := by decide +kernel
theorem dX7_meet_24 : decode cX7_meet 24 = .ok (.istore_n 3, 1) := by decide +kernel
theorem dX7_meet_25 : decode cX7_meet 25 = .ok (.iload_n 3, 1) := by decide +kernel
theorem dX7_meet_26 : decode cX7_meet 26 = .ok (.ifCond .eq 5, 3) := by decide +kernel
theorem dX7_meet_29 : decode cX7_meet 29 = .ok (.iload_n 3, 1) := by decide +kernel
theorem dX7_meet_30 : decode cX7_meet 30 = .ok (.ireturn, 1) := by decide +kernel
theorem dX7_meet_31 : decode cX7_meet 31 = .ok (.aload_n 0, 1) := by decide +kernel
theorem dX7_meet_32 : decode cX7_meet 32 = .ok (.aload_n 0, 1) := by decide +kernel
theorem dX7_meet_33 : decode cX7_meet 33 = .ok (.aload_n 0, 1) := by decide +kernel
theorem dX7_meet_34 : decode cX7_meet 34 = .ok (.getfield 118, 3) := by decide +kernel
theorem dX7_meet_37 : decode cX7_meet 37 = .ok (.aload_n 0, 1) := by decide +kernel
theorem dX7_meet_38 : decode cX7_meet 38 = .ok (.getfield 19, 3) := by decide +kernel
theorem dX7_meet_41 : decode cX7_meet 41 = .ok (.iload_n 1, 1) := by decide +kernel
theorem dX7_meet_42 : decode cX7_meet 42 = .ok (.iaload, 1) := by decide +kernel
theorem dX7_meet_43 : decode cX7_meet 43 = .ok (.iload_n 2, 1) := by decide +kernel
theorem dX7_meet_44 : decode cX7_meet 44 = .ok (.ifCond .ne 7, 3) := by decide +kernel
theorem dX7_meet_47 : decode cX7_meet 47 = .ok (.iconst 1, 1) := by decide +kernel
theorem dX7_meet_48 : decode cX7_meet 48 = .ok (.goto 4, 3) := by decide +kernel
theorem dX7_meet_51 : decode cX7_meet 51 = .ok (.iconst 0, 1) := by decide +kernel
theorem dX7_meet_52 : decode cX7_meet 52 = .ok (.invokevirtual 169, 3) := by decide +kernel
theorem dX7_meet_55 : decode cX7_meet 55 = .ok (.aload_n 0, 1) := by decide +kernel
theorem dX7_meet_56 : decode cX7_meet 56 = .ok (.getfield 9, 3) := by decide +kernel
theorem dX7_meet_59 : decode cX7_meet 59 = .ok (.invokevirtual 139, 3) := by decide +kernel
theorem dX7_meet_62 : decode cX7_meet 62 = .ok (.ireturn, 1) := by decide +kernel
theorem dX7_meetAll_0 : decode cX7_meetAll 0 = .ok (.iload_n 1, 1) := by decide +kernel
theorem dX7_meetAll_1 : decode cX7_meetAll 1 = .ok (.i2l, 1) := by decide +kernel
theorem dX7_meetAll_2 : decode cX7_meetAll 2 = .ok (.lconst 0, 1) := by decide +kernel
theorem dX7_meetAll_3 : decode cX7_meetAll 3 = .ok (.lconst 1, 1) := by decide +kernel
theorem dX7_meetAll_4 : decode cX7_meetAll 4 = .ok (.invokestatic 85, 3) := by decide +kernel
theorem dX7_meetAll_7 : decode cX7_meetAll 7 = .ok (.ifCond .ne 5, 3) := by decide +kernel
theorem dX7_meetAll_10 : decode cX7_meetAll 10 = .ok (.iconst (-1), 1) := by decide +kernel
theorem dX7_meetAll_11 : decode cX7_meetAll 11 = .ok (.ireturn, 1) := by decide +kernel
theorem dX7_meetAll_12 : decode cX7_meetAll 12 = .ok (.aload_n 0, 1) := by decide +kernel
theorem dX7_meetAll_13 : decode cX7_meetAll 13 = .ok (.getfield 118, 3) := by decide +kernel
theorem dX7_meetAll_16 : decode cX7_meetAll 16 = .ok (.istore_n 2, 1) := by decide +kernel
theorem dX7_meetAll_17 : decode cX7_meetAll 17 = .ok (.iconst 0, 1) := by decide +kernel
theorem dX7_meetAll_18 : decode cX7_meetAll 18 = .ok (.istore_n 3, 1) := by decide +kernel
theorem dX7_meetAll_19 : decode cX7_meetAll 19 = .ok (.iload_n 3, 1) := by decide +kernel
theorem dX7_meetAll_20 : decode cX7_meetAll 20 = .ok (.iconst 4, 1) := by decide +kernel
theorem dX7_meetAll_21 : decode cX7_meetAll 21 = .ok (.if_icmp .ge 43, 3) := by decide +kernel
theorem dX7_meetAll_24 : decode cX7_meetAll 24 = .ok (.aload_n 0, 1) := by decide +kernel
theorem dX7_meetAll_25 : decode cX7_meetAll 25 = .ok (.getfield 15, 3) := by decide +kernel
theorem dX7_meetAll_28 : decode cX7_meetAll 28 = .ok (.iload_n 3, 1) := by decide +kernel
theorem dX7_meetAll_29 : decode cX7_meetAll 29 = .ok (.iaload, 1) := by decide +kernel
theorem dX7_meetAll_30 : decode cX7_meetAll 30 = .ok (.aload_n 0, 1) := by decide +kernel
theorem dX7_meetAll_31 : decode cX7_meetAll 31 = .ok (.getfield 9, 3) := by decide +kernel
theorem dX7_meetAll_34 : decode cX7_meetAll 34 = .ok (.if_icmp .ne 24, 3) := by decide +kernel
theorem dX7_meetAll_37 : decode cX7_meetAll 37 = .ok (.aload_n 0, 1) := by decide +kernel
theorem dX7_meetAll_38 : decode cX7_meetAll 38 = .ok (.iload_n 2, 1) := by decide +kernel
theorem dX7_meetAll_39 : decode cX7_meetAll 39 = .ok (.aload_n 0, 1) := by decide +kernel
theorem dX7_meetAll_40 : decode cX7_meetAll 40 = .ok (.getfield 19, 3) := by decide +kernel
theorem dX7_meetAll_43 : decode cX7_meetAll 43 = .ok (.iload_n 3, 1) := by decide +kernel
theorem dX7_meetAll_44 : decode cX7_meetAll 44 = .ok (.iaload, 1) := by decide +kernel
theorem dX7_meetAll_45 : decode cX7_meetAll 45 = .ok (.iload_n 1, 1) := by decide +kernel
theorem dX7_meetAll_46 : decode cX7_meetAll 46 = .ok (.ifCond .ne 7, 3) := by decide +kernel
theorem dX7_meetAll_49 : decode cX7_meetAll 49 = .ok (.iconst 1, 1) := by decide +kernel
theorem dX7_meetAll_50 : decode cX7_meetAll 50 = .ok (.goto 4, 3) := by decide +kernel
theorem dX7_meetAll_53 : decode cX7_meetAll 53 = .ok (.iconst 0, 1) := by decide +kernel
theorem dX7_meetAll_54 : decode cX7_meetAll 54 = .ok (.invokevirtual 169, 3) := by decide +kernel
theorem dX7_meetAll_57 : decode cX7_meetAll 57 = .ok (.istore_n 2, 1) := by decide +kernel
theorem dX7_meetAll_58 : decode cX7_meetAll 58 = .ok (.iinc 3 1, 3) := by decide +kernel
theorem dX7_meetAll_61 : decode cX7_meetAll 61 = .ok (.goto (-42), 3) := by decide +kernel
theorem dX7_meetAll_64 : decode cX7_meetAll 64 = .ok (.aload_n 0, 1) := by decide +kernel
theorem dX7_meetAll_65 : decode cX7_meetAll 65 = .ok (.iload_n 2, 1) := by decide +kernel
theorem dX7_meetAll_66 : decode cX7_meetAll 66 = .ok (.aload_n 0, 1) := by decide +kernel
theorem dX7_meetAll_67 : decode cX7_meetAll 67 = .ok (.getfield 9, 3) := by decide +kernel
theorem dX7_meetAll_70 : decode cX7_meetAll 70 = .ok (.invokevirtual 139, 3) := by decide +kernel
theorem dX7_meetAll_73 : decode cX7_meetAll 73 = .ok (.ireturn, 1) := by decide +kernel
theorem dX7_isBetween_0 : decode cX7_isBetween 0 = .ok (.iload_n 2, 1) := by decide +kernel
theorem dX7_isBetween_1 : decode cX7_isBetween 1 = .ok (.iload_n 1, 1) := by decide +kernel
theorem dX7_isBetween_2 : decode cX7_isBetween 2 = .ok (.aload_n 0, 1) := by decide +kernel
theorem dX7_isBetween_3 : decode cX7_isBetween 3 = .ok (.getfield 9, 3) := by decide +kernel
theorem dX7_isBetween_6 : decode cX7_isBetween 6 = .ok (.invokestatic 165, 3) := by decide +kernel
theorem dX7_isBetween_9 : decode cX7_isBetween 9 = .ok (.ifCond .eq 19, 3) := by decide +kernel
theorem dX7_isBetween_12 : decode cX7_isBetween 12 = .ok (.iload_n 1, 1) := by decide +kernel
theorem dX7_isBetween_13 : decode cX7_isBetween 13 = .ok (.iload_n 3, 1) := by decide +kernel
theorem dX7_isBetween_14 : decode cX7_isBetween 14 = .ok (.aload_n 0, 1) := by decide +kernel
theorem dX7_isBetween_15 : decode cX7_isBetween 15 = .ok (.getfield 9, 3) := by decide +kernel
theorem dX7_isBetween_18 : decode cX7_isBetween 18 = .ok (.invokestatic 165, 3) := by decide +kernel
theorem dX7_isBetween_21 : decode cX7_isBetween 21 = .ok (.ifCond .eq 7, 3) := by decide +kernel
theorem dX7_isBetween_24 : decode cX7_isBetween 24 = .ok (.iconst 1, 1) := by decide +kernel
theorem dX7_isBetween_25 : decode cX7_isBetween 25 = .ok (.goto 4, 3) := by decide +kernel
theorem dX7_isBetween_28 : decode cX7_isBetween 28 = .ok (.iconst 0, 1) := by decide +kernel
theorem dX7_isBetween_29 : decode cX7_isBetween 29 = .ok (.ireturn, 1) := by decide +kernel
theorem dX7_between_0 : decode cX7_between 0 = .ok (.iload_n 1, 1) := by decide +kernel
theorem dX7_between_1 : decode cX7_between 1 = .ok (.invokestatic 159, 3) := by decide +kernel
theorem dX7_between_4 : decode cX7_between 4 = .ok (.ifCond .eq 8, 3) := by decide +kernel
theorem dX7_between_7 : decode cX7_between 7 = .ok (.iload_n 2, 1) := by decide +kernel
theorem dX7_between_8 : decode cX7_between 8 = .ok (.iconst (-1), 1) := by decide +kernel
theorem dX7_between_9 : decode cX7_between 9 = .ok (.if_icmp .ge 5, 3) := by decide +kernel
theorem dX7_between_12 : decode cX7_between 12 = .ok (.iconst (-1), 1) := by decide +kernel
theorem dX7_between_13 : decode cX7_between 13 = .ok (.ireturn, 1) := by decide +kernel
theorem dX7_between_14 : decode cX7_between 14 = .ok (.aload_n 0, 1) := by decide +kernel
theorem dX7_between_15 : decode cX7_between 15 = .ok (.iload_n 1, 1) := by decide +kernel
theorem dX7_between_16 : decode cX7_between 16 = .ok (.invokevirtual 162, 3) := by decide +kernel
theorem dX7_between_19 : decode cX7_between 19 = .ok (.istore_n 3, 1) := by decide +kernel
theorem dX7_between_20 : decode cX7_between 20 = .ok (.iload_n 3, 1) := by decide +kernel
theorem dX7_between_21 : decode cX7_between 21 = .ok (.ifCond .eq 5, 3) := by decide +kernel
theorem dX7_between_24 : decode cX7_between 24 = .ok (.iload_n 3, 1) := by decide +kernel
theorem dX7_between_25 : decode cX7_between 25 = .ok (.ireturn, 1) := by decide +kernel
theorem dX7_between_26 : decode cX7_between 26 = .ok (.aload_n 0, 1) := by decide +kernel
theorem dX7_between_27 : decode cX7_between 27 = .ok (.aload_n 0, 1) := by decide +kernel
theorem dX7_between_28 : decode cX7_between 28 = .ok (.getfield 9, 3) := by decide +kernel
theorem dX7_between_31 : decode cX7_between 31 = .ok (.invokevirtual 99, 3) := by decide +kernel
theorem dX7_between_34 : decode cX7_between 34 = .ok (.iconst 0, 1) := by decide +kernel
theorem dX7_between_35 : decode cX7_between 35 = .ok (.istore 4, 2) := by decide +kernel
theorem dX7_between_37 : decode cX7_between 37 = .ok (.iconst 0, 1) := by decide +kernel
theorem dX7_between_38 : decode cX7_between 38 = .ok (.istore 5, 2) := by decide +kernel
theorem dX7_between_40 : decode cX7_between 40 = .ok (.iload 5, 2) := by decide +kernel
theorem dX7_between_42 : decode cX7_between 42 = .ok (.aload_n 0, 1) := by decide +kernel
theorem dX7_between_43 : decode cX7_between 43 = .ok (.getfield 92, 3) := by decide +kernel
theorem dX7_between_46 : decode cX7_between 46 = .ok (.if_icmp .ge 48, 3) := by decide +kernel
theorem dX7_between_49 : decode cX7_between 49 = .ok (.aload_n 0, 1) := by decide +kernel
theorem dX7_between_50 : decode cX7_between 50 = .ok (.aload_n 0, 1) := by decide +kernel
theorem dX7_between_51 : decode cX7_between 51 = .ok (.getfield 44, 3) := by decide +kernel
theorem dX7_between_54 : decode cX7_between 54 = .ok (.iload 5, 2) := by decide +kernel
theorem dX7_between_56 : decode cX7_between 56 = .ok (.iaload, 1) := by decide +kernel
theorem dX7_between_57 : decode cX7_between 57 = .ok (.aload_n 0, 1) := by decide +kernel
theorem dX7_between_58 : decode cX7_between 58 = .ok (.getfield 118, 3) := by decide +kernel
theorem dX7_between_61 : decode cX7_between 61 = .ok (.aload_n 0, 1) := by decide +kernel
theorem dX7_between_62 : decode cX7_between 62 = .ok (.getfield 19, 3) := by decide +kernel
theorem dX7_between_65 : decode cX7_between 65 = .ok (.iload_n 1, 1) := by decide +kernel
theorem dX7_between_66 : decode cX7_between 66 = .ok (.iaload, 1) := by decide +kernel
theorem dX7_between_67 : decode cX7_between 67 = .ok (.invokevirtual 173, 3) := by decide +kernel
theorem dX7_between_70 : decode cX7_between 70 = .ok (.ifCond .ne 6, 3) := by decide +kernel
theorem dX7_between_73 : decode cX7_between 73 = .ok (.goto 15, 3) := by decide +kernel
theorem dX7_between_76 : decode cX7_between 76 = .ok (.iload 4, 2) := by decide +kernel
theorem dX7_between_78 : decode cX7_between 78 = .ok (.iload_n 2, 1) := by decide +kernel
theorem dX7_between_79 : decode cX7_between 79 = .ok (.if_icmp .ne 6, 3) := by decide +kernel
theorem dX7_between_82 : decode cX7_between 82 = .ok (.iload 5, 2) := by decide +kernel
theorem dX7_between_84 : decode cX7_between 84 = .ok (.ireturn, 1) := by decide +kernel
theorem dX7_between_85 : decode cX7_between 85 = .ok (.iinc 4 1, 3) := by decide +kernel
theorem dX7_between_88 : decode cX7_between 88 = .ok (.iinc 5 1, 3) := by decide +kernel
theorem dX7_between_91 : decode cX7_between 91 = .ok (.goto (-51), 3) := by decide +kernel
theorem dX7_between_94 : decode cX7_between 94 = .ok (.iload_n 2, 1) := by decide +kernel
theorem dX7_between_95 : decode cX7_between 95 = .ok (.iconst (-1), 1) := by decide +kernel
theorem dX7_between_96 : decode cX7_between 96 = .ok (.if_icmp .ne 8, 3) := by decide +kernel
theorem dX7_between_99 : decode cX7_between 99 = .ok (.iload 4, 2) := by decide +kernel
theorem dX7_between_101 : decode cX7_between 101 = .ok (.goto 4, 3) := by decide +kernel
theorem dX7_between_104 : decode cX7_between 104 = .ok (.iconst (-1), 1) := by decide +kernel
theorem dX7_between_105 : decode cX7_between 105 = .ok (.ireturn, 1) := by decide +kernel
theorem dX7_measure_0 : decode cX7_measure 0 = .ok (.aload_n 0, 1) := by decide +kernel
theorem dX7_measure_1 : decode cX7_measure 1 = .ok (.aload_n 0, 1) := by decide +kernel
theorem dX7_measure_2 : decode cX7_measure 2 = .ok (.getfield 9, 3) := by decide +kernel
theorem dX7_measure_5 : decode cX7_measure 5 = .ok (.invokevirtual 99, 3) := by decide +kernel
theorem dX7_measure_8 : decode cX7_measure 8 = .ok (.iconst 0, 1) := by decide +kernel
theorem dX7_measure_9 : decode cX7_measure 9 = .ok (.istore_n 3, 1) := by decide +kernel
theorem dX7_measure_10 : decode cX7_measure 10 = .ok (.iload_n 3, 1) := by decide +kernel
theorem dX7_measure_11 : decode cX7_measure 11 = .ok (.aload_n 0, 1) := by decide +kernel
theorem dX7_measure_12 : decode cX7_measure 12 = .ok (.getfield 92, 3) := by decide +kernel
theorem dX7_measure_15 : decode cX7_measure 15 = .ok (.if_icmp .ge 16, 3) := by decide +kernel
theorem dX7_measure_18 : decode cX7_measure 18 = .ok (.aload_n 0, 1) := by decide +kernel
theorem dX7_measure_19 : decode cX7_measure 19 = .ok (.getfield 62, 3) := by decide +kernel
theorem dX7_measure_22 : decode cX7_measure 22 = .ok (.iload_n 3, 1) := by decide +kernel
theorem dX7_measure_23 : decode cX7_measure 23 = .ok (.iconst (-1), 1) := by decide +kernel
theorem dX7_measure_24 : decode cX7_measure 24 = .ok (.iastore, 1) := by decide +kernel
theorem dX7_measure_25 : decode cX7_measure 25 = .ok (.iinc 3 1, 3) := by decide +kernel
theorem dX7_measure_28 : decode cX7_measure 28 = .ok (.goto (-18), 3) := by decide +kernel
theorem dX7_measure_31 : decode cX7_measure 31 = .ok (.aload_n 0, 1) := by decide +kernel
theorem dX7_measure_32 : decode cX7_measure 32 = .ok (.iload_n 1, 1) := by decide +kernel
theorem dX7_measure_33 : decode cX7_measure 33 = .ok (.aload_n 0, 1) := by decide +kernel
theorem dX7_measure_34 : decode cX7_measure 34 = .ok (.getfield 9, 3) := by decide +kernel
theorem dX7_measure_37 : decode cX7_measure 37 = .ok (.invokevirtual 139, 3) := by decide +kernel
theorem dX7_measure_40 : decode cX7_measure 40 = .ok (.istore_n 3, 1) := by decide +kernel
theorem dX7_measure_41 : decode cX7_measure 41 = .ok (.aload_n 0, 1) := by decide +kernel
theorem dX7_measure_42 : decode cX7_measure 42 = .ok (.getfield 62, 3) := by decide +kernel
theorem dX7_measure_45 : decode cX7_measure 45 = .ok (.iload_n 3, 1) := by decide +kernel
theorem dX7_measure_46 : decode cX7_measure 46 = .ok (.iconst 0, 1) := by decide +kernel
theorem dX7_measure_47 : decode cX7_measure 47 = .ok (.iastore, 1) := by decide +kernel
theorem dX7_measure_48 : decode cX7_measure 48 = .ok (.aload_n 0, 1) := by decide +kernel
theorem dX7_measure_49 : decode cX7_measure 49 = .ok (.getfield 65, 3) := by decide +kernel
theorem dX7_measure_52 : decode cX7_measure 52 = .ok (.iconst 0, 1) := by decide +kernel
theorem dX7_measure_53 : decode cX7_measure 53 = .ok (.iload_n 3, 1) := by decide +kernel
theorem dX7_measure_54 : decode cX7_measure 54 = .ok (.iastore, 1) := by decide +kernel
theorem dX7_measure_55 : decode cX7_measure 55 = .ok (.iconst 1, 1) := by decide +kernel
theorem dX7_measure_56 : decode cX7_measure 56 = .ok (.istore 4, 2) := by decide +kernel
theorem dX7_measure_58 : decode cX7_measure 58 = .ok (.iconst 0, 1) := by decide +kernel
theorem dX7_measure_59 : decode cX7_measure 59 = .ok (.istore 5, 2) := by decide +kernel
theorem dX7_measure_61 : decode cX7_measure 61 = .ok (.iload 5, 2) := by decide +kernel
theorem dX7_measure_63 : decode cX7_measure 63 = .ok (.iload 4, 2) := by decide +kernel
theorem dX7_measure_65 : decode cX7_measure 65 = .ok (.if_icmp .ge 174, 3) := by decide +kernel
theorem dX7_measure_68 : decode cX7_measure 68 = .ok (.aload_n 0, 1) := by decide +kernel
theorem dX7_measure_69 : decode cX7_measure 69 = .ok (.getfield 65, 3) := by decide +kernel
theorem dX7_measure_72 : decode cX7_measure 72 = .ok (.iload 5, 2) := by decide +kernel
theorem dX7_measure_74 : decode cX7_measure 74 = .ok (.iaload, 1) := by decide +kernel
theorem dX7_measure_75 : decode cX7_measure 75 = .ok (.istore 6, 2) := by decide +kernel
theorem dX7_measure_77 : decode cX7_measure 77 = .ok (.iconst 0, 1) := by decide +kernel
theorem dX7_measure_78 : decode cX7_measure 78 = .ok (.istore 7, 2) := by decide +kernel
theorem dX7_measure_80 : decode cX7_measure 80 = .ok (.iload 7, 2) := by decide +kernel
theorem dX7_measure_82 : decode cX7_measure 82 = .ok (.aload_n 0, 1) := by decide +kernel
theorem dX7_measure_83 : decode cX7_measure 83 = .ok (.getfield 9, 3) := by decide +kernel
theorem dX7_measure_86 : decode cX7_measure 86 = .ok (.if_icmp .ge 147, 3) := by decide +kernel
theorem dX7_measure_89 : decode cX7_measure 89 = .ok (.iconst 0, 1) := by decide +kernel
theorem dX7_measure_90 : decode cX7_measure 90 = .ok (.istore 8, 2) := by decide +kernel
theorem dX7_measure_92 : decode cX7_measure 92 = .ok (.iload 8, 2) := by decide +kernel
theorem dX7_measure_94 : decode cX7_measure 94 = .ok (.iload_n 2, 1) := by decide +kernel
theorem dX7_measure_95 : decode cX7_measure 95 = .ok (.ifCond .eq 7, 3) := by decide +kernel
theorem dX7_measure_98 : decode cX7_measure 98 = .ok (.iconst 1, 1) := by decide +kernel
theorem dX7_measure_99 : decode cX7_measure 99 = .ok (.goto 4, 3) := by decide +kernel
theorem dX7_measure_102 : decode cX7_measure 102 = .ok (.iconst 2, 1) := by decide +kernel
theorem dX7_measure_103 : decode cX7_measure 103 = .ok (.if_icmp .ge 124, 3) := by decide +kernel
theorem dX7_measure_106 : decode cX7_measure 106 = .ok (.iload 8, 2) := by decide +kernel
theorem dX7_measure_108 : decode cX7_measure 108 = .ok (.ifCond .ne 23, 3) := by decide +kernel
theorem dX7_measure_111 : decode cX7_measure 111 = .ok (.aload_n 0, 1) := by decide +kernel
theorem dX7_measure_112 : decode cX7_measure 112 = .ok (.aload_n 0, 1) := by decide +kernel
theorem dX7_measure_113 : decode cX7_measure 113 = .ok (.getfield 44, 3) := by decide +kernel
theorem dX7_measure_116 : decode cX7_measure 116 = .ok (.iload 6, 2) := by decide +kernel
theorem dX7_measure_118 : decode cX7_measure 118 = .ok (.iaload, 1) := by decide +kernel
theorem dX7_measure_119 : decode cX7_measure 119 = .ok (.aload_n 0, 1) := by decide +kernel
theorem dX7_measure_120 : decode cX7_measure 120 = .ok (.getfield 9, 3) := by decide +kernel
theorem dX7_measure_123 : decode cX7_measure 123 = .ok (.iload 7, 2) := by decide +kernel
theorem dX7_measure_125 : decode cX7_measure 125 = .ok (.invokevirtual 143, 3) := by decide +kernel
theorem dX7_measure_128 : decode cX7_measure 128 = .ok (.goto 20, 3) := by decide +kernel
theorem dX7_measure_131 : decode cX7_measure 131 = .ok (.aload_n 0, 1) := by decide +kernel
theorem dX7_measure_132 : decode cX7_measure 132 = .ok (.aload_n 0, 1) := by decide +kernel
theorem dX7_measure_133 : decode cX7_measure 133 = .ok (.getfield 44, 3) := by decide +kernel
theorem dX7_measure_136 : decode cX7_measure 136 = .ok (.iload 6, 2) := by decide +kernel
theorem dX7_measure_138 : decode cX7_measure 138 = .ok (.iaload, 1) := by decide +kernel
theorem dX7_measure_139 : decode cX7_measure 139 = .ok (.aload_n 0, 1) := by decide +kernel
theorem dX7_measure_140 : decode cX7_measure 140 = .ok (.getfield 9, 3) := by decide +kernel
theorem dX7_measure_143 : decode cX7_measure 143 = .ok (.iload 7, 2) := by decide +kernel
theorem dX7_measure_145 : decode cX7_measure 145 = .ok (.invokevirtual 146, 3) := by decide +kernel
theorem dX7_measure_148 : decode cX7_measure 148 = .ok (.istore 9, 2) := by decide +kernel
theorem dX7_measure_150 : decode cX7_measure 150 = .ok (.iload 9, 2) := by decide +kernel
theorem dX7_measure_152 : decode cX7_measure 152 = .ok (.bipush (-5), 2) := by decide +kernel
theorem dX7_measure_154 : decode cX7_measure 154 = .ok (.if_icmp .ne 7, 3) := by decide +kernel
theorem dX7_measure_157 : decode cX7_measure 157 = .ok (.iconst (-1), 1) := by decide +kernel
theorem dX7_measure_158 : decode cX7_measure 158 = .ok (.goto 13, 3) := by decide +kernel
theorem dX7_measure_161 : decode cX7_measure 161 = .ok (.aload_n 0, 1) := by decide +kernel
theorem dX7_measure_162 : decode cX7_measure 162 = .ok (.iload 9, 2) := by decide +kernel
theorem dX7_measure_164 : decode cX7_measure 164 = .ok (.aload_n 0, 1) := by decide +kernel
theorem dX7_measure_165 : decode cX7_measure 165 = .ok (.getfield 9, 3) := by decide +kernel
theorem dX7_measure_168 : decode cX7_measure 168 = .ok (.invokevirtual 139, 3) := by decide +kernel
theorem dX7_measure_171 : decode cX7_measure 171 = .ok (.istore 10, 2) := by decide +kernel
theorem dX7_measure_173 : decode cX7_measure 173 = .ok (.iload 10, 2) := by decide +kernel
theorem dX7_measure_175 : decode cX7_measure 175 = .ok (.iconst (-1), 1) := by decide +kernel
theorem dX7_measure_176 : decode cX7_measure 176 = .ok (.if_icmp .eq 45, 3) := by decide +kernel
theorem dX7_measure_179 : decode cX7_measure 179 = .ok (.aload_n 0, 1) := by decide +kernel
theorem dX7_measure_180 : decode cX7_measure 180 = .ok (.getfield 62, 3) := by decide +kernel
theorem dX7_measure_183 : decode cX7_measure 183 = .ok (.iload 10, 2) := by decide +kernel
theorem dX7_measure_185 : decode cX7_measure 185 = .ok (.iaload, 1) := by decide +kernel
theorem dX7_measure_186 : decode cX7_measure 186 = .ok (.iconst (-1), 1) := by decide +kernel
theorem dX7_measure_187 : decode cX7_measure 187 = .ok (.if_icmp .eq 6, 3) := by decide +kernel
theorem dX7_measure_190 : decode cX7_measure 190 = .ok (.goto 31, 3) := by decide +kernel
theorem dX7_measure_193 : decode cX7_measure 193 = .ok (.aload_n 0, 1) := by decide +kernel
theorem dX7_measure_194 : decode cX7_measure 194 = .ok (.getfield 62, 3) := by decide +kernel
theorem dX7_measure_197 : decode cX7_measure 197 = .ok (.iload 10, 2) := by decide +kernel
theorem dX7_measure_199 : decode cX7_measure 199 = .ok (.aload_n 0, 1) := by decide +kernel
theorem dX7_measure_200 : decode cX7_measure 200 = .ok (.getfield 62, 3) := by decide +kernel
theorem dX7_measure_203 : decode cX7_measure 203 = .ok (.iload 6, 2) := by decide +kernel
theorem dX7_measure_205 : decode cX7_measure 205 = .ok (.iaload, 1) := by decide +kernel
theorem dX7_measure_206 : decode cX7_measure 206 = .ok (.iconst 1, 1) := by decide +kernel
theorem dX7_measure_207 : decode cX7_measure 207 = .ok (.iadd, 1) := by decide +kernel
theorem dX7_measure_208 : decode cX7_measure 208 = .ok (.iastore, 1) := by decide +kernel
theorem dX7_measure_209 : decode cX7_measure 209 = .ok (.aload_n 0, 1) := by decide +kernel
theorem dX7_measure_210 : decode cX7_measure 210 = .ok (.getfield 65, 3) := by decide +kernel
theorem dX7_measure_213 : decode cX7_measure 213 = .ok (.iload 4, 2) := by decide +kernel
theorem dX7_measure_215 : decode cX7_measure 215 = .ok (.iinc 4 1, 3) := by decide +kernel
theorem dX7_measure_218 : decode cX7_measure 218 = .ok (.iload 10, 2) := by decide +kernel
theorem dX7_measure_220 : decode cX7_measure 220 = .ok (.iastore, 1) := by decide +kernel
theorem dX7_measure_221 : decode cX7_measure 221 = .ok (.iinc 8 1, 3) := by decide +kernel
theorem dX7_measure_224 : decode cX7_measure 224 = .ok (.goto (-132), 3) := by decide +kernel
theorem dX7_measure_227 : decode cX7_measure 227 = .ok (.iinc 7 1, 3) := by decide +kernel
theorem dX7_measure_230 : decode cX7_measure 230 = .ok (.goto (-150), 3) := by decide +kernel
theorem dX7_measure_233 : decode cX7_measure 233 = .ok (.iinc 5 1, 3) := by decide +kernel
theorem dX7_measure_236 : decode cX7_measure 236 = .ok (.goto (-175), 3) := by decide +kernel
theorem dX7_measure_239 : decode cX7_measure 239 = .ok (.return_, 1) := by decide +kernel
theorem dX7_firstTurn_0 : decode cX7_firstTurn 0 = .ok (.aload_n 0, 1) := by decide +kernel
theorem dX7_firstTurn_1 : decode cX7_firstTurn 1 = .ok (.getfield 62, 3) := by decide +kernel
theorem dX7_firstTurn_4 : decode cX7_firstTurn 4 = .ok (.aload_n 0, 1) := by decide +kernel
theorem dX7_firstTurn_5 : decode cX7_firstTurn 5 = .ok (.iload_n 1, 1) := by decide +kernel
theorem dX7_firstTurn_6 : decode cX7_firstTurn 6 = .ok (.aload_n 0, 1) := by decide +kernel
theorem dX7_firstTurn_7 : decode cX7_firstTurn 7 = .ok (.getfield 9, 3) := by decide +kernel
theorem dX7_firstTurn_10 : decode cX7_firstTurn 10 = .ok (.invokevirtual 139, 3) := by decide +kernel
theorem dX7_firstTurn_13 : decode cX7_firstTurn 13 = .ok (.iaload, 1) := by decide +kernel
theorem dX7_firstTurn_14 : decode cX7_firstTurn 14 = .ok (.istore_n 2, 1) := by decide +kernel
theorem dX7_firstTurn_15 : decode cX7_firstTurn 15 = .ok (.iload_n 2, 1) := by decide +kernel
theorem dX7_firstTurn_16 : decode cX7_firstTurn 16 = .ok (.ifCond .ne 6, 3) := by decide +kernel
theorem dX7_firstTurn_19 : decode cX7_firstTurn 19 = .ok (.bipush (-5), 2) := by decide +kernel
theorem dX7_firstTurn_21 : decode cX7_firstTurn 21 = .ok (.ireturn, 1) := by decide +kernel
theorem dX7_firstTurn_22 : decode cX7_firstTurn 22 = .ok (.iconst 0, 1) := by decide +kernel
theorem dX7_firstTurn_23 : decode cX7_firstTurn 23 = .ok (.istore_n 3, 1) := by decide +kernel
theorem dX7_firstTurn_24 : decode cX7_firstTurn 24 = .ok (.iload_n 3, 1) := by decide +kernel
theorem dX7_firstTurn_25 : decode cX7_firstTurn 25 = .ok (.iconst 2, 1) := by decide +kernel
theorem dX7_firstTurn_26 : decode cX7_firstTurn 26 = .ok (.if_icmp .ge 94, 3) := by decide +kernel
theorem dX7_firstTurn_29 : decode cX7_firstTurn 29 = .ok (.iconst 0, 1) := by decide +kernel
theorem dX7_firstTurn_30 : decode cX7_firstTurn 30 = .ok (.istore 4, 2) := by decide +kernel
theorem dX7_firstTurn_32 : decode cX7_firstTurn 32 = .ok (.iload 4, 2) := by decide +kernel
theorem dX7_firstTurn_34 : decode cX7_firstTurn 34 = .ok (.aload_n 0, 1) := by decide +kernel
theorem dX7_firstTurn_35 : decode cX7_firstTurn 35 = .ok (.getfield 9, 3) := by decide +kernel
theorem dX7_firstTurn_38 : decode cX7_firstTurn 38 = .ok (.if_icmp .ge 76, 3) := by decide +kernel
theorem dX7_firstTurn_41 : decode cX7_firstTurn 41 = .ok (.iload_n 3, 1) := by decide +kernel
theorem dX7_firstTurn_42 : decode cX7_firstTurn 42 = .ok (.ifCond .ne 17, 3) := by decide +kernel
theorem dX7_firstTurn_45 : decode cX7_firstTurn 45 = .ok (.aload_n 0, 1) := by decide +kernel
theorem dX7_firstTurn_46 : decode cX7_firstTurn 46 = .ok (.iload_n 1, 1) := by decide +kernel
theorem dX7_firstTurn_47 : decode cX7_firstTurn 47 = .ok (.aload_n 0, 1) := by decide +kernel
theorem dX7_firstTurn_48 : decode cX7_firstTurn 48 = .ok (.getfield 9, 3) := by decide +kernel
theorem dX7_firstTurn_51 : decode cX7_firstTurn 51 = .ok (.iload 4, 2) := by decide +kernel
theorem dX7_firstTurn_53 : decode cX7_firstTurn 53 = .ok (.invokevirtual 143, 3) := by decide +kernel
theorem dX7_firstTurn_56 : decode cX7_firstTurn 56 = .ok (.goto 14, 3) := by decide +kernel
theorem dX7_firstTurn_59 : decode cX7_firstTurn 59 = .ok (.aload_n 0, 1) := by decide +kernel
theorem dX7_firstTurn_60 : decode cX7_firstTurn 60 = .ok (.iload_n 1, 1) := by decide +kernel
theorem dX7_firstTurn_61 : decode cX7_firstTurn 61 = .ok (.aload_n 0, 1) := by decide +kernel
theorem dX7_firstTurn_62 : decode cX7_firstTurn 62 = .ok (.getfield 9, 3) := by decide +kernel
theorem dX7_firstTurn_65 : decode cX7_firstTurn 65 = .ok (.iload 4, 2) := by decide +kernel
theorem dX7_firstTurn_67 : decode cX7_firstTurn 67 = .ok (.invokevirtual 146, 3) := by decide +kernel
theorem dX7_firstTurn_70 : decode cX7_firstTurn 70 = .ok (.istore 5, 2) := by decide +kernel
theorem dX7_firstTurn_72 : decode cX7_firstTurn 72 = .ok (.iload 5, 2) := by decide +kernel
theorem dX7_firstTurn_74 : decode cX7_firstTurn 74 = .ok (.bipush (-5), 2) := by decide +kernel
theorem dX7_firstTurn_76 : decode cX7_firstTurn 76 = .ok (.if_icmp .eq 32, 3) := by decide +kernel
theorem dX7_firstTurn_79 : decode cX7_firstTurn 79 = .ok (.aload_n 0, 1) := by decide +kernel
theorem dX7_firstTurn_80 : decode cX7_firstTurn 80 = .ok (.getfield 62, 3) := by decide +kernel
theorem dX7_firstTurn_83 : decode cX7_firstTurn 83 = .ok (.aload_n 0, 1) := by decide +kernel
theorem dX7_firstTurn_84 : decode cX7_firstTurn 84 = .ok (.iload 5, 2) := by decide +kernel
theorem dX7_firstTurn_86 : decode cX7_firstTurn 86 = .ok (.aload_n 0, 1) := by decide +kernel
theorem dX7_firstTurn_87 : decode cX7_firstTurn 87 = .ok (.getfield 9, 3) := by decide +kernel
theorem dX7_firstTurn_90 : decode cX7_firstTurn 90 = .ok (.invokevirtual 139, 3) := by decide +kernel
theorem dX7_firstTurn_93 : decode cX7_firstTurn 93 = .ok (.iaload, 1) := by decide +kernel
theorem dX7_firstTurn_94 : decode cX7_firstTurn 94 = .ok (.iload_n 2, 1) := by decide +kernel
theorem dX7_firstTurn_95 : decode cX7_firstTurn 95 = .ok (.iconst 1, 1) := by decide +kernel
theorem dX7_firstTurn_96 : decode cX7_firstTurn 96 = .ok (.isub, 1) := by decide +kernel
theorem dX7_firstTurn_97 : decode cX7_firstTurn 97 = .ok (.if_icmp .ne 11, 3) := by decide +kernel
theorem dX7_firstTurn_100 : decode cX7_firstTurn 100 = .ok (.bipush 100, 2) := by decide +kernel
theorem dX7_firstTurn_102 : decode cX7_firstTurn 102 = .ok (.iload_n 3, 1) := by decide +kernel
theorem dX7_firstTurn_103 : decode cX7_firstTurn 103 = .ok (.imul, 1) := by decide +kernel
theorem dX7_firstTurn_104 : decode cX7_firstTurn 104 = .ok (.iload 4, 2) := by decide +kernel
theorem dX7_firstTurn_106 : decode cX7_firstTurn 106 = .ok (.iadd, 1) := by decide +kernel
theorem dX7_firstTurn_107 : decode cX7_firstTurn 107 = .ok (.ireturn, 1) := by decide +kernel
theorem dX7_firstTurn_108 : decode cX7_firstTurn 108 = .ok (.iinc 4 1, 3) := by decide +kernel
theorem dX7_firstTurn_111 : decode cX7_firstTurn 111 = .ok (.goto (-79), 3) := by decide +kernel
theorem dX7_firstTurn_114 : decode cX7_firstTurn 114 = .ok (.iinc 3 1, 3) := by decide +kernel
theorem dX7_firstTurn_117 : decode cX7_firstTurn 117 = .ok (.goto (-93), 3) := by decide +kernel
theorem dX7_firstTurn_120 : decode cX7_firstTurn 120 = .ok (.bipush (-5), 2) := by decide +kernel
theorem dX7_firstTurn_122 : decode cX7_firstTurn 122 = .ok (.ireturn, 1) := by decide +kernel
theorem dX7_way_0 : decode cX7_way 0 = .ok (.iload_n 1, 1) := by decide +kernel
theorem dX7_way_1 : decode cX7_way 1 = .ok (.invokestatic 159, 3) := by decide +kernel
theorem dX7_way_4 : decode cX7_way 4 = .ok (.ifCond .eq 13, 3) := by decide +kernel
theorem dX7_way_7 : decode cX7_way 7 = .ok (.iload_n 2, 1) := by decide +kernel
theorem dX7_way_8 : decode cX7_way 8 = .ok (.i2l, 1) := by decide +kernel
theorem dX7_way_9 : decode cX7_way 9 = .ok (.lconst 0, 1) := by decide +kernel
theorem dX7_way_10 : decode cX7_way 10 = .ok (.lconst 1, 1) := by decide +kernel
theorem dX7_way_11 : decode cX7_way 11 = .ok (.invokestatic 85, 3) := by decide +kernel
theorem dX7_way_14 : decode cX7_way 14 = .ok (.ifCond .ne 5, 3) := by decide +kernel
theorem dX7_way_17 : decode cX7_way 17 = .ok (.iconst (-1), 1) := by decide +kernel
theorem dX7_way_18 : decode cX7_way 18 = .ok (.ireturn, 1) := by decide +kernel
theorem dX7_way_19 : decode cX7_way 19 = .ok (.aload_n 0, 1) := by decide +kernel
theorem dX7_way_20 : decode cX7_way 20 = .ok (.iload_n 1, 1) := by decide +kernel
theorem dX7_way_21 : decode cX7_way 21 = .ok (.invokevirtual 162, 3) := by decide +kernel
theorem dX7_way_24 : decode cX7_way 24 = .ok (.istore_n 3, 1) := by decide +kernel
theorem dX7_way_25 : decode cX7_way 25 = .ok (.iload_n 3, 1) := by decide +kernel
theorem dX7_way_26 : decode cX7_way 26 = .ok (.ifCond .eq 5, 3) := by decide +kernel
theorem dX7_way_29 : decode cX7_way 29 = .ok (.iload_n 3, 1) := by decide +kernel
theorem dX7_way_30 : decode cX7_way 30 = .ok (.ireturn, 1) := by decide +kernel
theorem dX7_way_31 : decode cX7_way 31 = .ok (.aload_n 0, 1) := by decide +kernel
theorem dX7_way_32 : decode cX7_way 32 = .ok (.aload_n 0, 1) := by decide +kernel
theorem dX7_way_33 : decode cX7_way 33 = .ok (.getfield 19, 3) := by decide +kernel
theorem dX7_way_36 : decode cX7_way 36 = .ok (.iload_n 1, 1) := by decide +kernel
theorem dX7_way_37 : decode cX7_way 37 = .ok (.iaload, 1) := by decide +kernel
theorem dX7_way_38 : decode cX7_way 38 = .ok (.iconst 0, 1) := by decide +kernel
theorem dX7_way_39 : decode cX7_way 39 = .ok (.invokevirtual 176, 3) := by decide +kernel
theorem dX7_way_42 : decode cX7_way 42 = .ok (.iload_n 2, 1) := by decide +kernel
theorem dX7_way_43 : decode cX7_way 43 = .ok (.ifCond .ne 15, 3) := by decide +kernel
theorem dX7_way_46 : decode cX7_way 46 = .ok (.aload_n 0, 1) := by decide +kernel
theorem dX7_way_47 : decode cX7_way 47 = .ok (.getfield 62, 3) := by decide +kernel
theorem dX7_way_50 : decode cX7_way 50 = .ok (.aload_n 0, 1) := by decide +kernel
theorem dX7_way_51 : decode cX7_way 51 = .ok (.invokevirtual 129, 3) := by decide +kernel
theorem dX7_way_54 : decode cX7_way 54 = .ok (.iaload, 1) := by decide +kernel
theorem dX7_way_55 : decode cX7_way 55 = .ok (.goto 11, 3) := by decide +kernel
theorem dX7_way_58 : decode cX7_way 58 = .ok (.aload_n 0, 1) := by decide +kernel
theorem dX7_way_59 : decode cX7_way 59 = .ok (.aload_n 0, 1) := by decide +kernel
theorem dX7_way_60 : decode cX7_way 60 = .ok (.getfield 118, 3) := by decide +kernel
theorem dX7_way_63 : decode cX7_way 63 = .ok (.invokevirtual 180, 3) := by decide +kernel
theorem dX7_way_66 : decode cX7_way 66 = .ok (.ireturn, 1) := by decide +kernel
theorem dX7_longest_0 : decode cX7_longest 0 = .ok (.iconst 0, 1) := by decide +kernel
theorem dX7_longest_1 : decode cX7_longest 1 = .ok (.istore_n 2, 1) := by decide +kernel
theorem dX7_longest_2 : decode cX7_longest 2 = .ok (.iload_n 2, 1) := by decide +kernel
theorem dX7_longest_3 : decode cX7_longest 3 = .ok (.aload_n 0, 1) := by decide +kernel
theorem dX7_longest_4 : decode cX7_longest 4 = .ok (.getfield 92, 3) := by decide +kernel
theorem dX7_longest_7 : decode cX7_longest 7 = .ok (.if_icmp .ge 33, 3) := by decide +kernel
theorem dX7_longest_10 : decode cX7_longest 10 = .ok (.aload_n 0, 1) := by decide +kernel
theorem dX7_longest_11 : decode cX7_longest 11 = .ok (.getfield 65, 3) := by decide +kernel
theorem dX7_longest_14 : decode cX7_longest 14 = .ok (.iload_n 2, 1) := by decide +kernel
theorem dX7_longest_15 : decode cX7_longest 15 = .ok (.aload_n 0, 1) := by decide +kernel
theorem dX7_longest_16 : decode cX7_longest 16 = .ok (.getfield 44, 3) := by decide +kernel
theorem dX7_longest_19 : decode cX7_longest 19 = .ok (.iload_n 2, 1) := by decide +kernel
theorem dX7_longest_20 : decode cX7_longest 20 = .ok (.iaload, 1) := by decide +kernel
theorem dX7_longest_21 : decode cX7_longest 21 = .ok (.aload_n 0, 1) := by decide +kernel
theorem dX7_longest_22 : decode cX7_longest 22 = .ok (.getfield 118, 3) := by decide +kernel
theorem dX7_longest_25 : decode cX7_longest 25 = .ok (.if_icmp .ne 7, 3) := by decide +kernel
theorem dX7_longest_28 : decode cX7_longest 28 = .ok (.iconst 0, 1) := by decide +kernel
theorem dX7_longest_29 : decode cX7_longest 29 = .ok (.goto 4, 3) := by decide +kernel
theorem dX7_longest_32 : decode cX7_longest 32 = .ok (.iconst (-1), 1) := by decide +kernel
theorem dX7_longest_33 : decode cX7_longest 33 = .ok (.iastore, 1) := by decide +kernel
theorem dX7_longest_34 : decode cX7_longest 34 = .ok (.iinc 2 1, 3) := by decide +kernel
theorem dX7_longest_37 : decode cX7_longest 37 = .ok (.goto (-35), 3) := by decide +kernel
theorem dX7_longest_40 : decode cX7_longest 40 = .ok (.iconst 0, 1) := by decide +kernel
theorem dX7_longest_41 : decode cX7_longest 41 = .ok (.istore_n 2, 1) := by decide +kernel
theorem dX7_longest_42 : decode cX7_longest 42 = .ok (.iload_n 2, 1) := by decide +kernel
theorem dX7_longest_43 : decode cX7_longest 43 = .ok (.aload_n 0, 1) := by decide +kernel
theorem dX7_longest_44 : decode cX7_longest 44 = .ok (.getfield 92, 3) := by decide +kernel
theorem dX7_longest_47 : decode cX7_longest 47 = .ok (.if_icmp .ge 102, 3) := by decide +kernel
theorem dX7_longest_50 : decode cX7_longest 50 = .ok (.aload_n 0, 1) := by decide +kernel
theorem dX7_longest_51 : decode cX7_longest 51 = .ok (.getfield 65, 3) := by decide +kernel
theorem dX7_longest_54 : decode cX7_longest 54 = .ok (.iload_n 2, 1) := by decide +kernel
theorem dX7_longest_55 : decode cX7_longest 55 = .ok (.iaload, 1) := by decide +kernel
theorem dX7_longest_56 : decode cX7_longest 56 = .ok (.iconst (-1), 1) := by decide +kernel
theorem dX7_longest_57 : decode cX7_longest 57 = .ok (.if_icmp .ne 6, 3) := by decide +kernel
theorem dX7_longest_60 : decode cX7_longest 60 = .ok (.goto 83, 3) := by decide +kernel
theorem dX7_longest_63 : decode cX7_longest 63 = .ok (.iconst 0, 1) := by decide +kernel
theorem dX7_longest_64 : decode cX7_longest 64 = .ok (.istore_n 3, 1) := by decide +kernel
theorem dX7_longest_65 : decode cX7_longest 65 = .ok (.iload_n 3, 1) := by decide +kernel
theorem dX7_longest_66 : decode cX7_longest 66 = .ok (.aload_n 0, 1) := by decide +kernel
theorem dX7_longest_67 : decode cX7_longest 67 = .ok (.getfield 9, 3) := by decide +kernel
theorem dX7_longest_70 : decode cX7_longest 70 = .ok (.if_icmp .ge 73, 3) := by decide +kernel
theorem dX7_longest_73 : decode cX7_longest 73 = .ok (.aload_n 0, 1) := by decide +kernel
theorem dX7_longest_74 : decode cX7_longest 74 = .ok (.aload_n 0, 1) := by decide +kernel
theorem dX7_longest_75 : decode cX7_longest 75 = .ok (.getfield 44, 3) := by decide +kernel
theorem dX7_longest_78 : decode cX7_longest 78 = .ok (.iload_n 2, 1) := by decide +kernel
theorem dX7_longest_79 : decode cX7_longest 79 = .ok (.iaload, 1) := by decide +kernel
theorem dX7_longest_80 : decode cX7_longest 80 = .ok (.aload_n 0, 1) := by decide +kernel
theorem dX7_longest_81 : decode cX7_longest 81 = .ok (.getfield 9, 3) := by decide +kernel
theorem dX7_longest_84 : decode cX7_longest 84 = .ok (.iload_n 3, 1) := by decide +kernel
theorem dX7_longest_85 : decode cX7_longest 85 = .ok (.invokevirtual 143, 3) := by decide +kernel
theorem dX7_longest_88 : decode cX7_longest 88 = .ok (.istore 4, 2) := by decide +kernel
theorem dX7_longest_90 : decode cX7_longest 90 = .ok (.iload 4, 2) := by decide +kernel
theorem dX7_longest_92 : decode cX7_longest 92 = .ok (.bipush (-5), 2) := by decide +kernel
theorem dX7_longest_94 : decode cX7_longest 94 = .ok (.if_icmp .ne 6, 3) := by decide +kernel
theorem dX7_longest_97 : decode cX7_longest 97 = .ok (.goto 40, 3) := by decide +kernel
theorem dX7_longest_100 : decode cX7_longest 100 = .ok (.aload_n 0, 1) := by decide +kernel
theorem dX7_longest_101 : decode cX7_longest 101 = .ok (.iload 4, 2) := by decide +kernel
theorem dX7_longest_103 : decode cX7_longest 103 = .ok (.aload_n 0, 1) := by decide +kernel
theorem dX7_longest_104 : decode cX7_longest 104 = .ok (.getfield 9, 3) := by decide +kernel
theorem dX7_longest_107 : decode cX7_longest 107 = .ok (.invokevirtual 139, 3) := by decide +kernel
theorem dX7_longest_110 : decode cX7_longest 110 = .ok (.istore 5, 2) := by decide +kernel
theorem dX7_longest_112 : decode cX7_longest 112 = .ok (.aload_n 0, 1) := by decide +kernel
theorem dX7_longest_113 : decode cX7_longest 113 = .ok (.getfield 65, 3) := by decide +kernel
theorem dX7_longest_116 : decode cX7_longest 116 = .ok (.iload 5, 2) := by decide +kernel
theorem dX7_longest_118 : decode cX7_longest 118 = .ok (.aload_n 0, 1) := by decide +kernel
theorem dX7_longest_119 : decode cX7_longest 119 = .ok (.getfield 65, 3) := by decide +kernel
theorem dX7_longest_122 : decode cX7_longest 122 = .ok (.iload 5, 2) := by decide +kernel
theorem dX7_longest_124 : decode cX7_longest 124 = .ok (.iaload, 1) := by decide +kernel
theorem dX7_longest_125 : decode cX7_longest 125 = .ok (.aload_n 0, 1) := by decide +kernel
theorem dX7_longest_126 : decode cX7_longest 126 = .ok (.getfield 65, 3) := by decide +kernel
theorem dX7_longest_129 : decode cX7_longest 129 = .ok (.iload_n 2, 1) := by decide +kernel
theorem dX7_longest_130 : decode cX7_longest 130 = .ok (.iaload, 1) := by decide +kernel
theorem dX7_longest_131 : decode cX7_longest 131 = .ok (.iconst 1, 1) := by decide +kernel
theorem dX7_longest_132 : decode cX7_longest 132 = .ok (.iadd, 1) := by decide +kernel
theorem dX7_longest_133 : decode cX7_longest 133 = .ok (.invokestatic 183, 3) := by decide +kernel
theorem dX7_longest_136 : decode cX7_longest 136 = .ok (.iastore, 1) := by decide +kernel
theorem dX7_longest_137 : decode cX7_longest 137 = .ok (.iinc 3 1, 3) := by decide +kernel
theorem dX7_longest_140 : decode cX7_longest 140 = .ok (.goto (-75), 3) := by decide +kernel
theorem dX7_longest_143 : decode cX7_longest 143 = .ok (.iinc 2 1, 3) := by decide +kernel
theorem dX7_longest_146 : decode cX7_longest 146 = .ok (.goto (-104), 3) := by decide +kernel
theorem dX7_longest_149 : decode cX7_longest 149 = .ok (.aload_n 0, 1) := by decide +kernel
theorem dX7_longest_150 : decode cX7_longest 150 = .ok (.getfield 65, 3) := by decide +kernel
theorem dX7_longest_153 : decode cX7_longest 153 = .ok (.aload_n 0, 1) := by decide +kernel
theorem dX7_longest_154 : decode cX7_longest 154 = .ok (.iload_n 1, 1) := by decide +kernel
theorem dX7_longest_155 : decode cX7_longest 155 = .ok (.aload_n 0, 1) := by decide +kernel
theorem dX7_longest_156 : decode cX7_longest 156 = .ok (.getfield 9, 3) := by decide +kernel
theorem dX7_longest_159 : decode cX7_longest 159 = .ok (.invokevirtual 139, 3) := by decide +kernel
theorem dX7_longest_162 : decode cX7_longest 162 = .ok (.iaload, 1) := by decide +kernel
theorem dX7_longest_163 : decode cX7_longest 163 = .ok (.ireturn, 1) := by decide +kernel
theorem dX7_chain_0 : decode cX7_chain 0 = .ok (.iload_n 1, 1) := by decide +kernel
theorem dX7_chain_1 : decode cX7_chain 1 = .ok (.invokestatic 159, 3) := by decide +kernel
theorem dX7_chain_4 : decode cX7_chain 4 = .ok (.ifCond .eq 13, 3) := by decide +kernel
theorem dX7_chain_7 : decode cX7_chain 7 = .ok (.iload_n 2, 1) := by decide +kernel
theorem dX7_chain_8 : decode cX7_chain 8 = .ok (.i2l, 1) := by decide +kernel
theorem dX7_chain_9 : decode cX7_chain 9 = .ok (.lconst 0, 1) := by decide +kernel
theorem dX7_chain_10 : decode cX7_chain 10 = .ok (.lconst 1, 1) := by decide +kernel
theorem dX7_chain_11 : decode cX7_chain 11 = .ok (.invokestatic 85, 3) := by decide +kernel
theorem dX7_chain_14 : decode cX7_chain 14 = .ok (.ifCond .ne 5, 3) := by decide +kernel
theorem dX7_chain_17 : decode cX7_chain 17 = .ok (.iconst (-1), 1) := by decide +kernel
theorem dX7_chain_18 : decode cX7_chain 18 = .ok (.ireturn, 1) := by decide +kernel
theorem dX7_chain_19 : decode cX7_chain 19 = .ok (.aload_n 0, 1) := by decide +kernel
theorem dX7_chain_20 : decode cX7_chain 20 = .ok (.iload_n 1, 1) := by decide +kernel
theorem dX7_chain_21 : decode cX7_chain 21 = .ok (.invokevirtual 162, 3) := by decide +kernel
theorem dX7_chain_24 : decode cX7_chain 24 = .ok (.istore_n 3, 1) := by decide +kernel
theorem dX7_chain_25 : decode cX7_chain 25 = .ok (.iload_n 3, 1) := by decide +kernel
theorem dX7_chain_26 : decode cX7_chain 26 = .ok (.ifCond .eq 5, 3) := by decide +kernel
theorem dX7_chain_29 : decode cX7_chain 29 = .ok (.iload_n 3, 1) := by decide +kernel
theorem dX7_chain_30 : decode cX7_chain 30 = .ok (.ireturn, 1) := by decide +kernel
theorem dX7_chain_31 : decode cX7_chain 31 = .ok (.aload_n 0, 1) := by decide +kernel
theorem dX7_chain_32 : decode cX7_chain 32 = .ok (.getfield 118, 3) := by decide +kernel
theorem dX7_chain_35 : decode cX7_chain 35 = .ok (.aload_n 0, 1) := by decide +kernel
theorem dX7_chain_36 : decode cX7_chain 36 = .ok (.getfield 19, 3) := by decide +kernel
theorem dX7_chain_39 : decode cX7_chain 39 = .ok (.iload_n 1, 1) := by decide +kernel
theorem dX7_chain_40 : decode cX7_chain 40 = .ok (.iaload, 1) := by decide +kernel
theorem dX7_chain_41 : decode cX7_chain 41 = .ok (.aload_n 0, 1) := by decide +kernel
theorem dX7_chain_42 : decode cX7_chain 42 = .ok (.getfield 9, 3) := by decide +kernel
theorem dX7_chain_45 : decode cX7_chain 45 = .ok (.invokestatic 165, 3) := by decide +kernel
theorem dX7_chain_48 : decode cX7_chain 48 = .ok (.ifCond .ne 6, 3) := by decide +kernel
theorem dX7_chain_51 : decode cX7_chain 51 = .ok (.bipush (-5), 2) := by decide +kernel
theorem dX7_chain_53 : decode cX7_chain 53 = .ok (.ireturn, 1) := by decide +kernel
theorem dX7_chain_54 : decode cX7_chain 54 = .ok (.aload_n 0, 1) := by decide +kernel
theorem dX7_chain_55 : decode cX7_chain 55 = .ok (.aload_n 0, 1) := by decide +kernel
theorem dX7_chain_56 : decode cX7_chain 56 = .ok (.getfield 9, 3) := by decide +kernel
theorem dX7_chain_59 : decode cX7_chain 59 = .ok (.invokevirtual 99, 3) := by decide +kernel
theorem dX7_chain_62 : decode cX7_chain 62 = .ok (.iload_n 2, 1) := by decide +kernel
theorem dX7_chain_63 : decode cX7_chain 63 = .ok (.iconst 1, 1) := by decide +kernel
theorem dX7_chain_64 : decode cX7_chain 64 = .ok (.if_icmp .ne 14, 3) := by decide +kernel
theorem dX7_chain_67 : decode cX7_chain 67 = .ok (.aload_n 0, 1) := by decide +kernel
theorem dX7_chain_68 : decode cX7_chain 68 = .ok (.aload_n 0, 1) := by decide +kernel
theorem dX7_chain_69 : decode cX7_chain 69 = .ok (.getfield 19, 3) := by decide +kernel
theorem dX7_chain_72 : decode cX7_chain 72 = .ok (.iload_n 1, 1) := by decide +kernel
theorem dX7_chain_73 : decode cX7_chain 73 = .ok (.iaload, 1) := by decide +kernel
theorem dX7_chain_74 : decode cX7_chain 74 = .ok (.invokevirtual 188, 3) := by decide +kernel
theorem dX7_chain_77 : decode cX7_chain 77 = .ok (.ireturn, 1) := by decide +kernel
theorem dX7_chain_78 : decode cX7_chain 78 = .ok (.aload_n 0, 1) := by decide +kernel
theorem dX7_chain_79 : decode cX7_chain 79 = .ok (.aload_n 0, 1) := by decide +kernel
theorem dX7_chain_80 : decode cX7_chain 80 = .ok (.getfield 118, 3) := by decide +kernel
theorem dX7_chain_83 : decode cX7_chain 83 = .ok (.iconst 1, 1) := by decide +kernel
theorem dX7_chain_84 : decode cX7_chain 84 = .ok (.invokevirtual 176, 3) := by decide +kernel
theorem dX7_chain_87 : decode cX7_chain 87 = .ok (.aload_n 0, 1) := by decide +kernel
theorem dX7_chain_88 : decode cX7_chain 88 = .ok (.getfield 62, 3) := by decide +kernel
theorem dX7_chain_91 : decode cX7_chain 91 = .ok (.aload_n 0, 1) := by decide +kernel
theorem dX7_chain_92 : decode cX7_chain 92 = .ok (.aload_n 0, 1) := by decide +kernel
theorem dX7_chain_93 : decode cX7_chain 93 = .ok (.getfield 19, 3) := by decide +kernel
theorem dX7_chain_96 : decode cX7_chain 96 = .ok (.iload_n 1, 1) := by decide +kernel
theorem dX7_chain_97 : decode cX7_chain 97 = .ok (.iaload, 1) := by decide +kernel
theorem dX7_chain_98 : decode cX7_chain 98 = .ok (.aload_n 0, 1) := by decide +kernel
theorem dX7_chain_99 : decode cX7_chain 99 = .ok (.getfield 9, 3) := by decide +kernel
theorem dX7_chain_102 : decode cX7_chain 102 = .ok (.invokevirtual 139, 3) := by decide +kernel
theorem dX7_chain_105 : decode cX7_chain 105 = .ok (.iaload, 1) := by decide +kernel
theorem dX7_chain_106 : decode cX7_chain 106 = .ok (.ireturn, 1) := by decide +kernel
theorem dX7_mark_0 : decode cX7_mark 0 = .ok (.iload_n 1, 1) := by decide +kernel
theorem dX7_mark_1 : decode cX7_mark 1 = .ok (.invokestatic 159, 3) := by decide +kernel
theorem dX7_mark_4 : decode cX7_mark 4 = .ok (.ifCond .ne 6, 3) := by decide +kernel
theorem dX7_mark_7 : decode cX7_mark 7 = .ok (.bipush (-99), 2) := by decide +kernel
theorem dX7_mark_9 : decode cX7_mark 9 = .ok (.ireturn, 1) := by decide +kernel
theorem dX7_mark_10 : decode cX7_mark 10 = .ok (.aload_n 0, 1) := by decide +kernel
theorem dX7_mark_11 : decode cX7_mark 11 = .ok (.iload_n 1, 1) := by decide +kernel
theorem dX7_mark_12 : decode cX7_mark 12 = .ok (.invokevirtual 162, 3) := by decide +kernel
theorem dX7_mark_15 : decode cX7_mark 15 = .ok (.istore_n 2, 1) := by decide +kernel
theorem dX7_mark_16 : decode cX7_mark 16 = .ok (.iload_n 2, 1) := by decide +kernel
theorem dX7_mark_17 : decode cX7_mark 17 = .ok (.ifCond .eq 8, 3) := by decide +kernel
theorem dX7_mark_20 : decode cX7_mark 20 = .ok (.bipush (-100), 2) := by decide +kernel
theorem dX7_mark_22 : decode cX7_mark 22 = .ok (.iload_n 2, 1) := by decide +kernel
theorem dX7_mark_23 : decode cX7_mark 23 = .ok (.isub, 1) := by decide +kernel
theorem dX7_mark_24 : decode cX7_mark 24 = .ok (.ireturn, 1) := by decide +kernel
theorem dX7_mark_25 : decode cX7_mark 25 = .ok (.aload_n 0, 1) := by decide +kernel
theorem dX7_mark_26 : decode cX7_mark 26 = .ok (.getfield 19, 3) := by decide +kernel
theorem dX7_mark_29 : decode cX7_mark 29 = .ok (.iload_n 1, 1) := by decide +kernel
theorem dX7_mark_30 : decode cX7_mark 30 = .ok (.iaload, 1) := by decide +kernel
theorem dX7_mark_31 : decode cX7_mark 31 = .ok (.istore_n 3, 1) := by decide +kernel
theorem dX7_mark_32 : decode cX7_mark 32 = .ok (.aload_n 0, 1) := by decide +kernel
theorem dX7_mark_33 : decode cX7_mark 33 = .ok (.getfield 118, 3) := by decide +kernel
theorem dX7_mark_36 : decode cX7_mark 36 = .ok (.iload_n 3, 1) := by decide +kernel
theorem dX7_mark_37 : decode cX7_mark 37 = .ok (.aload_n 0, 1) := by decide +kernel
theorem dX7_mark_38 : decode cX7_mark 38 = .ok (.getfield 9, 3) := by decide +kernel
theorem dX7_mark_41 : decode cX7_mark 41 = .ok (.invokestatic 165, 3) := by decide +kernel
theorem dX7_mark_44 : decode cX7_mark 44 = .ok (.ifCond .ne 6, 3) := by decide +kernel
theorem dX7_mark_47 : decode cX7_mark 47 = .ok (.bipush (-95), 2) := by decide +kernel
theorem dX7_mark_49 : decode cX7_mark 49 = .ok (.ireturn, 1) := by decide +kernel
theorem dX7_mark_50 : decode cX7_mark 50 = .ok (.aload_n 0, 1) := by decide +kernel
theorem dX7_mark_51 : decode cX7_mark 51 = .ok (.aload_n 0, 1) := by decide +kernel
theorem dX7_mark_52 : decode cX7_mark 52 = .ok (.getfield 9, 3) := by decide +kernel
theorem dX7_mark_55 : decode cX7_mark 55 = .ok (.invokevirtual 99, 3) := by decide +kernel
theorem dX7_mark_58 : decode cX7_mark 58 = .ok (.iconst 0, 1) := by decide +kernel
theorem dX7_mark_59 : decode cX7_mark 59 = .ok (.istore 4, 2) := by decide +kernel
theorem dX7_mark_61 : decode cX7_mark 61 = .ok (.iload 4, 2) := by decide +kernel
theorem dX7_mark_63 : decode cX7_mark 63 = .ok (.aload_n 0, 1) := by decide +kernel
theorem dX7_mark_64 : decode cX7_mark 64 = .ok (.getfield 92, 3) := by decide +kernel
theorem dX7_mark_67 : decode cX7_mark 67 = .ok (.if_icmp .ge 129, 3) := by decide +kernel
theorem dX7_mark_70 : decode cX7_mark 70 = .ok (.aload_n 0, 1) := by decide +kernel
theorem dX7_mark_71 : decode cX7_mark 71 = .ok (.getfield 68, 3) := by decide +kernel
theorem dX7_mark_74 : decode cX7_mark 74 = .ok (.iload 4, 2) := by decide +kernel
theorem dX7_mark_76 : decode cX7_mark 76 = .ok (.aload_n 0, 1) := by decide +kernel
theorem dX7_mark_77 : decode cX7_mark 77 = .ok (.getfield 44, 3) := by decide +kernel
theorem dX7_mark_80 : decode cX7_mark 80 = .ok (.iload 4, 2) := by decide +kernel
theorem dX7_mark_82 : decode cX7_mark 82 = .ok (.iaload, 1) := by decide +kernel
theorem dX7_mark_83 : decode cX7_mark 83 = .ok (.aload_n 0, 1) := by decide +kernel
theorem dX7_mark_84 : decode cX7_mark 84 = .ok (.getfield 118, 3) := by decide +kernel
theorem dX7_mark_87 : decode cX7_mark 87 = .ok (.if_icmp .ne 7, 3) := by decide +kernel
theorem dX7_mark_90 : decode cX7_mark 90 = .ok (.iconst 1, 1) := by decide +kernel
theorem dX7_mark_91 : decode cX7_mark 91 = .ok (.goto 4, 3) := by decide +kernel
theorem dX7_mark_94 : decode cX7_mark 94 = .ok (.iconst 0, 1) := by decide +kernel
theorem dX7_mark_95 : decode cX7_mark 95 = .ok (.iastore, 1) := by decide +kernel
theorem dX7_mark_96 : decode cX7_mark 96 = .ok (.aload_n 0, 1) := by decide +kernel
theorem dX7_mark_97 : decode cX7_mark 97 = .ok (.getfield 44, 3) := by decide +kernel
theorem dX7_mark_100 : decode cX7_mark 100 = .ok (.iload 4, 2) := by decide +kernel
theorem dX7_mark_102 : decode cX7_mark 102 = .ok (.iaload, 1) := by decide +kernel
theorem dX7_mark_103 : decode cX7_mark 103 = .ok (.aload_n 0, 1) := by decide +kernel
theorem dX7_mark_104 : decode cX7_mark 104 = .ok (.getfield 118, 3) := by decide +kernel
theorem dX7_mark_107 : decode cX7_mark 107 = .ok (.if_icmp .eq 83, 3) := by decide +kernel
theorem dX7_mark_110 : decode cX7_mark 110 = .ok (.aload_n 0, 1) := by decide +kernel
theorem dX7_mark_111 : decode cX7_mark 111 = .ok (.aload_n 0, 1) := by decide +kernel
theorem dX7_mark_112 : decode cX7_mark 112 = .ok (.getfield 44, 3) := by decide +kernel
theorem dX7_mark_115 : decode cX7_mark 115 = .ok (.iload 4, 2) := by decide +kernel
theorem dX7_mark_117 : decode cX7_mark 117 = .ok (.iaload, 1) := by decide +kernel
theorem dX7_mark_118 : decode cX7_mark 118 = .ok (.aload_n 0, 1) := by decide +kernel
theorem dX7_mark_119 : decode cX7_mark 119 = .ok (.getfield 118, 3) := by decide +kernel
theorem dX7_mark_122 : decode cX7_mark 122 = .ok (.iload_n 3, 1) := by decide +kernel
theorem dX7_mark_123 : decode cX7_mark 123 = .ok (.invokevirtual 173, 3) := by decide +kernel
theorem dX7_mark_126 : decode cX7_mark 126 = .ok (.ifCond .ne 6, 3) := by decide +kernel
theorem dX7_mark_129 : decode cX7_mark 129 = .ok (.goto 61, 3) := by decide +kernel
theorem dX7_mark_132 : decode cX7_mark 132 = .ok (.iconst 0, 1) := by decide +kernel
theorem dX7_mark_133 : decode cX7_mark 133 = .ok (.istore 5, 2) := by decide +kernel
theorem dX7_mark_135 : decode cX7_mark 135 = .ok (.iload 5, 2) := by decide +kernel
theorem dX7_mark_137 : decode cX7_mark 137 = .ok (.iload 4, 2) := by decide +kernel
theorem dX7_mark_139 : decode cX7_mark 139 = .ok (.if_icmp .ge 51, 3) := by decide +kernel
theorem dX7_mark_142 : decode cX7_mark 142 = .ok (.aload_n 0, 1) := by decide +kernel
theorem dX7_mark_143 : decode cX7_mark 143 = .ok (.aload_n 0, 1) := by decide +kernel
theorem dX7_mark_144 : decode cX7_mark 144 = .ok (.getfield 44, 3) := by decide +kernel
theorem dX7_mark_147 : decode cX7_mark 147 = .ok (.iload 5, 2) := by decide +kernel
theorem dX7_mark_149 : decode cX7_mark 149 = .ok (.iaload, 1) := by decide +kernel
theorem dX7_mark_150 : decode cX7_mark 150 = .ok (.aload_n 0, 1) := by decide +kernel
theorem dX7_mark_151 : decode cX7_mark 151 = .ok (.getfield 118, 3) := by decide +kernel
theorem dX7_mark_154 : decode cX7_mark 154 = .ok (.aload_n 0, 1) := by decide +kernel
theorem dX7_mark_155 : decode cX7_mark 155 = .ok (.getfield 44, 3) := by decide +kernel
theorem dX7_mark_158 : decode cX7_mark 158 = .ok (.iload 4, 2) := by decide +kernel
theorem dX7_mark_160 : decode cX7_mark 160 = .ok (.iaload, 1) := by decide +kernel
theorem dX7_mark_161 : decode cX7_mark 161 = .ok (.invokevirtual 173, 3) := by decide +kernel
theorem dX7_mark_164 : decode cX7_mark 164 = .ok (.ifCond .eq 20, 3) := by decide +kernel
theorem dX7_mark_167 : decode cX7_mark 167 = .ok (.aload_n 0, 1) := by decide +kernel
theorem dX7_mark_168 : decode cX7_mark 168 = .ok (.getfield 68, 3) := by decide +kernel
theorem dX7_mark_171 : decode cX7_mark 171 = .ok (.iload 4, 2) := by decide +kernel
theorem dX7_mark_173 : decode cX7_mark 173 = .ok (.dup2, 1) := by decide +kernel
theorem dX7_mark_174 : decode cX7_mark 174 = .ok (.iaload, 1) := by decide +kernel
theorem dX7_mark_175 : decode cX7_mark 175 = .ok (.aload_n 0, 1) := by decide +kernel
theorem dX7_mark_176 : decode cX7_mark 176 = .ok (.getfield 68, 3) := by decide +kernel
theorem dX7_mark_179 : decode cX7_mark 179 = .ok (.iload 5, 2) := by decide +kernel
theorem dX7_mark_181 : decode cX7_mark 181 = .ok (.iaload, 1) := by decide +kernel
theorem dX7_mark_182 : decode cX7_mark 182 = .ok (.isub, 1) := by decide +kernel
theorem dX7_mark_183 : decode cX7_mark 183 = .ok (.iastore, 1) := by decide +kernel
theorem dX7_mark_184 : decode cX7_mark 184 = .ok (.iinc 5 1, 3) := by decide +kernel
theorem dX7_mark_187 : decode cX7_mark 187 = .ok (.goto (-52), 3) := by decide +kernel
theorem dX7_mark_190 : decode cX7_mark 190 = .ok (.iinc 4 1, 3) := by decide +kernel
theorem dX7_mark_193 : decode cX7_mark 193 = .ok (.goto (-132), 3) := by decide +kernel
theorem dX7_mark_196 : decode cX7_mark 196 = .ok (.aload_n 0, 1) := by decide +kernel
theorem dX7_mark_197 : decode cX7_mark 197 = .ok (.getfield 68, 3) := by decide +kernel
theorem dX7_mark_200 : decode cX7_mark 200 = .ok (.aload_n 0, 1) := by decide +kernel
theorem dX7_mark_201 : decode cX7_mark 201 = .ok (.iload_n 3, 1) := by decide +kernel
theorem dX7_mark_202 : decode cX7_mark 202 = .ok (.aload_n 0, 1) := by decide +kernel
theorem dX7_mark_203 : decode cX7_mark 203 = .ok (.getfield 9, 3) := by decide +kernel
theorem dX7_mark_206 : decode cX7_mark 206 = .ok (.invokevirtual 139, 3) := by decide +kernel
theorem dX7_mark_209 : decode cX7_mark 209 = .ok (.iaload, 1) := by decide +kernel
theorem dX7_mark_210 : decode cX7_mark 210 = .ok (.ireturn, 1) := by decide +kernel
theorem dX7_pairs_0 : decode cX7_pairs 0 = .ok (.iload_n 1, 1) := by decide +kernel
theorem dX7_pairs_1 : decode cX7_pairs 1 = .ok (.i2l, 1) := by decide +kernel
theorem dX7_pairs_2 : decode cX7_pairs 2 = .ok (.lconst 1, 1) := by decide +kernel
theorem dX7_pairs_3 : decode cX7_pairs 3 = .ok (.ldc2_w 191, 3) := by decide +kernel
theorem dX7_pairs_6 : decode cX7_pairs 6 = .ok (.invokestatic 85, 3) := by decide +kernel
theorem dX7_pairs_9 : decode cX7_pairs 9 = .ok (.ifCond .ne 6, 3) := by decide +kernel
theorem dX7_pairs_12 : decode cX7_pairs 12 = .ok (.bipush (-2), 2) := by decide +kernel
theorem dX7_pairs_14 : decode cX7_pairs 14 = .ok (.ireturn, 1) := by decide +kernel
theorem dX7_pairs_15 : decode cX7_pairs 15 = .ok (.aload_n 0, 1) := by decide +kernel
theorem dX7_pairs_16 : decode cX7_pairs 16 = .ok (.iload_n 1, 1) := by decide +kernel
theorem dX7_pairs_17 : decode cX7_pairs 17 = .ok (.invokevirtual 99, 3) := by decide +kernel
theorem dX7_pairs_20 : decode cX7_pairs 20 = .ok (.iconst 0, 1) := by decide +kernel
theorem dX7_pairs_21 : decode cX7_pairs 21 = .ok (.istore_n 2, 1) := by decide +kernel
theorem dX7_pairs_22 : decode cX7_pairs 22 = .ok (.iconst 0, 1) := by decide +kernel
theorem dX7_pairs_23 : decode cX7_pairs 23 = .ok (.istore_n 3, 1) := by decide +kernel
theorem dX7_pairs_24 : decode cX7_pairs 24 = .ok (.iload_n 3, 1) := by decide +kernel
theorem dX7_pairs_25 : decode cX7_pairs 25 = .ok (.aload_n 0, 1) := by decide +kernel
theorem dX7_pairs_26 : decode cX7_pairs 26 = .ok (.getfield 92, 3) := by decide +kernel
theorem dX7_pairs_29 : decode cX7_pairs 29 = .ok (.if_icmp .ge 50, 3) := by decide +kernel
theorem dX7_pairs_32 : decode cX7_pairs 32 = .ok (.iload_n 3, 1) := by decide +kernel
theorem dX7_pairs_33 : decode cX7_pairs 33 = .ok (.istore 4, 2) := by decide +kernel
theorem dX7_pairs_35 : decode cX7_pairs 35 = .ok (.iload 4, 2) := by decide +kernel
theorem dX7_pairs_37 : decode cX7_pairs 37 = .ok (.aload_n 0, 1) := by decide +kernel
theorem dX7_pairs_38 : decode cX7_pairs 38 = .ok (.getfield 92, 3) := by decide +kernel
theorem dX7_pairs_41 : decode cX7_pairs 41 = .ok (.if_icmp .ge 32, 3) := by decide +kernel
theorem dX7_pairs_44 : decode cX7_pairs 44 = .ok (.aload_n 0, 1) := by decide +kernel
theorem dX7_pairs_45 : decode cX7_pairs 45 = .ok (.getfield 44, 3) := by decide +kernel
theorem dX7_pairs_48 : decode cX7_pairs 48 = .ok (.iload_n 3, 1) := by decide +kernel
theorem dX7_pairs_49 : decode cX7_pairs 49 = .ok (.iaload, 1) := by decide +kernel
theorem dX7_pairs_50 : decode cX7_pairs 50 = .ok (.aload_n 0, 1) := by decide +kernel
theorem dX7_pairs_51 : decode cX7_pairs 51 = .ok (.getfield 44, 3) := by decide +kernel
theorem dX7_pairs_54 : decode cX7_pairs 54 = .ok (.iload 4, 2) := by decide +kernel
theorem dX7_pairs_56 : decode cX7_pairs 56 = .ok (.iaload, 1) := by decide +kernel
theorem dX7_pairs_57 : decode cX7_pairs 57 = .ok (.iload_n 1, 1) := by decide +kernel
theorem dX7_pairs_58 : decode cX7_pairs 58 = .ok (.invokestatic 165, 3) := by decide +kernel
theorem dX7_pairs_61 : decode cX7_pairs 61 = .ok (.ifCond .eq 6, 3) := by decide +kernel
theorem dX7_pairs_64 : decode cX7_pairs 64 = .ok (.iinc 2 1, 3) := by decide +kernel
theorem dX7_pairs_67 : decode cX7_pairs 67 = .ok (.iinc 4 1, 3) := by decide +kernel
theorem dX7_pairs_70 : decode cX7_pairs 70 = .ok (.goto (-35), 3) := by decide +kernel
theorem dX7_pairs_73 : decode cX7_pairs 73 = .ok (.iinc 3 1, 3) := by decide +kernel
theorem dX7_pairs_76 : decode cX7_pairs 76 = .ok (.goto (-52), 3) := by decide +kernel
theorem dX7_pairs_79 : decode cX7_pairs 79 = .ok (.iload_n 2, 1) := by decide +kernel
theorem dX7_pairs_80 : decode cX7_pairs 80 = .ok (.ireturn, 1) := by decide +kernel
theorem dX7_far_0 : decode cX7_far 0 = .ok (.iload_n 1, 1) := by decide +kernel
theorem dX7_far_1 : decode cX7_far 1 = .ok (.i2l, 1) := by decide +kernel
theorem dX7_far_2 : decode cX7_far 2 = .ok (.lconst 0, 1) := by decide +kernel
theorem dX7_far_3 : decode cX7_far 3 = .ok (.ldc2_w 193, 3) := by decide +kernel
theorem dX7_far_6 : decode cX7_far 6 = .ok (.invokestatic 85, 3) := by decide +kernel
theorem dX7_far_9 : decode cX7_far 9 = .ok (.ifCond .ne 5, 3) := by decide +kernel
theorem dX7_far_12 : decode cX7_far 12 = .ok (.iconst (-1), 1) := by decide +kernel
theorem dX7_far_13 : decode cX7_far 13 = .ok (.ireturn, 1) := by decide +kernel
theorem dX7_far_14 : decode cX7_far 14 = .ok (.aload_n 0, 1) := by decide +kernel
theorem dX7_far_15 : decode cX7_far 15 = .ok (.aload_n 0, 1) := by decide +kernel
theorem dX7_far_16 : decode cX7_far 16 = .ok (.getfield 118, 3) := by decide +kernel
theorem dX7_far_19 : decode cX7_far 19 = .ok (.iconst 0, 1) := by decide +kernel
theorem dX7_far_20 : decode cX7_far 20 = .ok (.invokevirtual 176, 3) := by decide +kernel
theorem dX7_far_23 : decode cX7_far 23 = .ok (.iconst 0, 1) := by decide +kernel
theorem dX7_far_24 : decode cX7_far 24 = .ok (.istore_n 2, 1) := by decide +kernel
theorem dX7_far_25 : decode cX7_far 25 = .ok (.iconst 0, 1) := by decide +kernel
theorem dX7_far_26 : decode cX7_far 26 = .ok (.istore_n 3, 1) := by decide +kernel
theorem dX7_far_27 : decode cX7_far 27 = .ok (.iconst (-1), 1) := by decide +kernel
theorem dX7_far_28 : decode cX7_far 28 = .ok (.istore 4, 2) := by decide +kernel
theorem dX7_far_30 : decode cX7_far 30 = .ok (.iconst 0, 1) := by decide +kernel
theorem dX7_far_31 : decode cX7_far 31 = .ok (.istore 5, 2) := by decide +kernel
theorem dX7_far_33 : decode cX7_far 33 = .ok (.iload 5, 2) := by decide +kernel
theorem dX7_far_35 : decode cX7_far 35 = .ok (.aload_n 0, 1) := by decide +kernel
theorem dX7_far_36 : decode cX7_far 36 = .ok (.getfield 92, 3) := by decide +kernel
theorem dX7_far_39 : decode cX7_far 39 = .ok (.if_icmp .ge 57, 3) := by decide +kernel
theorem dX7_far_42 : decode cX7_far 42 = .ok (.aload_n 0, 1) := by decide +kernel
theorem dX7_far_43 : decode cX7_far 43 = .ok (.getfield 62, 3) := by decide +kernel
theorem dX7_far_46 : decode cX7_far 46 = .ok (.iload 5, 2) := by decide +kernel
theorem dX7_far_48 : decode cX7_far 48 = .ok (.iaload, 1) := by decide +kernel
theorem dX7_far_49 : decode cX7_far 49 = .ok (.iload_n 2, 1) := by decide +kernel
theorem dX7_far_50 : decode cX7_far 50 = .ok (.if_icmp .ge 6, 3) := by decide +kernel
theorem dX7_far_53 : decode cX7_far 53 = .ok (.goto 37, 3) := by decide +kernel
theorem dX7_far_56 : decode cX7_far 56 = .ok (.aload_n 0, 1) := by decide +kernel
theorem dX7_far_57 : decode cX7_far 57 = .ok (.getfield 62, 3) := by decide +kernel
theorem dX7_far_60 : decode cX7_far 60 = .ok (.iload 5, 2) := by decide +kernel
theorem dX7_far_62 : decode cX7_far 62 = .ok (.iaload, 1) := by decide +kernel
theorem dX7_far_63 : decode cX7_far 63 = .ok (.iload_n 2, 1) := by decide +kernel
theorem dX7_far_64 : decode cX7_far 64 = .ok (.if_icmp .gt 9, 3) := by decide +kernel
theorem dX7_far_67 : decode cX7_far 67 = .ok (.iload 4, 2) := by decide +kernel
theorem dX7_far_69 : decode cX7_far 69 = .ok (.iconst (-1), 1) := by decide +kernel
theorem dX7_far_70 : decode cX7_far 70 = .ok (.if_icmp .ne 17, 3) := by decide +kernel
theorem dX7_far_73 : decode cX7_far 73 = .ok (.aload_n 0, 1) := by decide +kernel
theorem dX7_far_74 : decode cX7_far 74 = .ok (.getfield 62, 3) := by decide +kernel
theorem dX7_far_77 : decode cX7_far 77 = .ok (.iload 5, 2) := by decide +kernel
theorem dX7_far_79 : decode cX7_far 79 = .ok (.iaload, 1) := by decide +kernel
theorem dX7_far_80 : decode cX7_far 80 = .ok (.istore_n 2, 1) := by decide +kernel
theorem dX7_far_81 : decode cX7_far 81 = .ok (.iconst 0, 1) := by decide +kernel
theorem dX7_far_82 : decode cX7_far 82 = .ok (.istore_n 3, 1) := by decide +kernel
theorem dX7_far_83 : decode cX7_far 83 = .ok (.iload 5, 2) := by decide +kernel
theorem dX7_far_85 : decode cX7_far 85 = .ok (.istore 4, 2) := by decide +kernel
theorem dX7_far_87 : decode cX7_far 87 = .ok (.iinc 3 1, 3) := by decide +kernel
theorem dX7_far_90 : decode cX7_far 90 = .ok (.iinc 5 1, 3) := by decide +kernel
theorem dX7_far_93 : decode cX7_far 93 = .ok (.goto (-60), 3) := by decide +kernel
theorem dX7_far_96 : decode cX7_far 96 = .ok (.iload_n 1, 1) := by decide +kernel
theorem dX7_far_97 : decode cX7_far 97 = .ok (.ifCond .ne 7, 3) := by decide +kernel
theorem dX7_far_100 : decode cX7_far 100 = .ok (.iload_n 2, 1) := by decide +kernel
theorem dX7_far_101 : decode cX7_far 101 = .ok (.goto 14, 3) := by decide +kernel
theorem dX7_far_104 : decode cX7_far 104 = .ok (.iload_n 1, 1) := by decide +kernel
theorem dX7_far_105 : decode cX7_far 105 = .ok (.iconst 1, 1) := by decide +kernel
theorem dX7_far_106 : decode cX7_far 106 = .ok (.if_icmp .ne 7, 3) := by decide +kernel
theorem dX7_far_109 : decode cX7_far 109 = .ok (.iload_n 3, 1) := by decide +kernel
theorem dX7_far_110 : decode cX7_far 110 = .ok (.goto 5, 3) := by decide +kernel
theorem dX7_far_113 : decode cX7_far 113 = .ok (.iload 4, 2) := by decide +kernel
theorem dX7_far_115 : decode cX7_far 115 = .ok (.ireturn, 1) := by decide +kernel
theorem dX7_canopyOf_0 : decode cX7_canopyOf 0 = .ok (.iconst 0, 1) := by decide +kernel
theorem dX7_canopyOf_1 : decode cX7_canopyOf 1 = .ok (.istore_n 2, 1) := by decide +kernel
theorem dX7_canopyOf_2 : decode cX7_canopyOf 2 = .ok (.iconst 0, 1) := by decide +kernel
theorem dX7_canopyOf_3 : decode cX7_canopyOf 3 = .ok (.istore_n 3, 1) := by decide +kernel
theorem dX7_canopyOf_4 : decode cX7_canopyOf 4 = .ok (.iload_n 3, 1) := by decide +kernel
theorem dX7_canopyOf_5 : decode cX7_canopyOf 5 = .ok (.iload_n 1, 1) := by decide +kernel
theorem dX7_canopyOf_6 : decode cX7_canopyOf 6 = .ok (.iconst 1, 1) := by decide +kernel
theorem dX7_canopyOf_7 : decode cX7_canopyOf 7 = .ok (.isub, 1) := by decide +kernel
theorem dX7_canopyOf_8 : decode cX7_canopyOf 8 = .ok (.if_icmp .ge 24, 3) := by decide +kernel
theorem dX7_canopyOf_11 : decode cX7_canopyOf 11 = .ok (.iload_n 0, 1) := by decide +kernel
theorem dX7_canopyOf_12 : decode cX7_canopyOf 12 = .ok (.iload_n 1, 1) := by decide +kernel
theorem dX7_canopyOf_13 : decode cX7_canopyOf 13 = .ok (.iload_n 3, 1) := by decide +kernel
theorem dX7_canopyOf_14 : decode cX7_canopyOf 14 = .ok (.invokestatic 81, 3) := by decide +kernel
theorem dX7_canopyOf_17 : decode cX7_canopyOf 17 = .ok (.ifCond .le 9, 3) := by decide +kernel
theorem dX7_canopyOf_20 : decode cX7_canopyOf 20 = .ok (.iload_n 2, 1) := by decide +kernel
theorem dX7_canopyOf_21 : decode cX7_canopyOf 21 = .ok (.iconst 1, 1) := by decide +kernel
theorem dX7_canopyOf_22 : decode cX7_canopyOf 22 = .ok (.iload_n 3, 1) := by decide +kernel
theorem dX7_canopyOf_23 : decode cX7_canopyOf 23 = .ok (.ishl, 1) := by decide +kernel
theorem dX7_canopyOf_24 : decode cX7_canopyOf 24 = .ok (.ior, 1) := by decide +kernel
theorem dX7_canopyOf_25 : decode cX7_canopyOf 25 = .ok (.istore_n 2, 1) := by decide +kernel
theorem dX7_canopyOf_26 : decode cX7_canopyOf 26 = .ok (.iinc 3 1, 3) := by decide +kernel
theorem dX7_canopyOf_29 : decode cX7_canopyOf 29 = .ok (.goto (-25), 3) := by decide +kernel
theorem dX7_canopyOf_32 : decode cX7_canopyOf 32 = .ok (.iload_n 2, 1) := by decide +kernel
theorem dX7_canopyOf_33 : decode cX7_canopyOf 33 = .ok (.ireturn, 1) := by decide +kernel
theorem dX7_canopy_0 : decode cX7_canopy 0 = .ok (.aload_n 0, 1) := by decide +kernel
theorem dX7_canopy_1 : decode cX7_canopy 1 = .ok (.getfield 118, 3) := by decide +kernel
theorem dX7_canopy_4 : decode cX7_canopy 4 = .ok (.aload_n 0, 1) := by decide +kernel
theorem dX7_canopy_5 : decode cX7_canopy 5 = .ok (.getfield 9, 3) := by decide +kernel
theorem dX7_canopy_8 : decode cX7_canopy 8 = .ok (.invokestatic 195, 3) := by decide +kernel
theorem dX7_canopy_11 : decode cX7_canopy 11 = .ok (.ireturn, 1) := by decide +kernel
theorem dX7_inClass_0 : decode cX7_inClass 0 = .ok (.iload_n 1, 1) := by decide +kernel
theorem dX7_inClass_1 : decode cX7_inClass 1 = .ok (.i2l, 1) := by decide +kernel
theorem dX7_inClass_2 : decode cX7_inClass 2 = .ok (.lconst 0, 1) := by decide +kernel
theorem dX7_inClass_3 : decode cX7_inClass 3 = .ok (.iconst 1, 1) := by decide +kernel
theorem dX7_inClass_4 : decode cX7_inClass 4 = .ok (.aload_n 0, 1) := by decide +kernel
theorem dX7_inClass_5 : decode cX7_inClass 5 = .ok (.getfield 9, 3) := by decide +kernel
theorem dX7_inClass_8 : decode cX7_inClass 8 = .ok (.iconst 1, 1) := by decide +kernel
theorem dX7_inClass_9 : decode cX7_inClass 9 = .ok (.isub, 1) := by decide +kernel
theorem dX7_inClass_10 : decode cX7_inClass 10 = .ok (.ishl, 1) := by decide +kernel
theorem dX7_inClass_11 : decode cX7_inClass 11 = .ok (.iconst 1, 1) := by decide +kernel
theorem dX7_inClass_12 : decode cX7_inClass 12 = .ok (.isub, 1) := by decide +kernel
theorem dX7_inClass_13 : decode cX7_inClass 13 = .ok (.i2l, 1) := by decide +kernel
theorem dX7_inClass_14 : decode cX7_inClass 14 = .ok (.invokestatic 85, 3) := by decide +kernel
theorem dX7_inClass_17 : decode cX7_inClass 17 = .ok (.ifCond .ne 6, 3) := by decide +kernel
theorem dX7_inClass_20 : decode cX7_inClass 20 = .ok (.bipush (-2), 2) := by decide +kernel
theorem dX7_inClass_22 : decode cX7_inClass 22 = .ok (.ireturn, 1) := by decide +kernel
theorem dX7_inClass_23 : decode cX7_inClass 23 = .ok (.iload_n 2, 1) := by decide +kernel
theorem dX7_inClass_24 : decode cX7_inClass 24 = .ok (.i2l, 1) := by decide +kernel
theorem dX7_inClass_25 : decode cX7_inClass 25 = .ok (.lconst 0, 1) := by decide +kernel
theorem dX7_inClass_26 : decode cX7_inClass 26 = .ok (.ldc2_w 193, 3) := by decide +kernel
theorem dX7_inClass_29 : decode cX7_inClass 29 = .ok (.invokestatic 85, 3) := by decide +kernel
theorem dX7_inClass_32 : decode cX7_inClass 32 = .ok (.ifCond .ne 5, 3) := by decide +kernel
theorem dX7_inClass_35 : decode cX7_inClass 35 = .ok (.iconst (-1), 1) := by decide +kernel
theorem dX7_inClass_36 : decode cX7_inClass 36 = .ok (.ireturn, 1) := by decide +kernel
theorem dX7_inClass_37 : decode cX7_inClass 37 = .ok (.aload_n 0, 1) := by decide +kernel
theorem dX7_inClass_38 : decode cX7_inClass 38 = .ok (.aload_n 0, 1) := by decide +kernel
theorem dX7_inClass_39 : decode cX7_inClass 39 = .ok (.getfield 9, 3) := by decide +kernel
theorem dX7_inClass_42 : decode cX7_inClass 42 = .ok (.invokevirtual 99, 3) := by decide +kernel
theorem dX7_inClass_45 : decode cX7_inClass 45 = .ok (.iconst 0, 1) := by decide +kernel
theorem dX7_inClass_46 : decode cX7_inClass 46 = .ok (.istore_n 3, 1) := by decide +kernel
theorem dX7_inClass_47 : decode cX7_inClass 47 = .ok (.iconst (-1), 1) := by decide +kernel
theorem dX7_inClass_48 : decode cX7_inClass 48 = .ok (.istore 4, 2) := by decide +kernel
theorem dX7_inClass_50 : decode cX7_inClass 50 = .ok (.iconst (-1), 1) := by decide +kernel
theorem dX7_inClass_51 : decode cX7_inClass 51 = .ok (.istore 5, 2) := by decide +kernel
theorem dX7_inClass_53 : decode cX7_inClass 53 = .ok (.iconst 0, 1) := by decide +kernel
theorem dX7_inClass_54 : decode cX7_inClass 54 = .ok (.istore 6, 2) := by decide +kernel
theorem dX7_inClass_56 : decode cX7_inClass 56 = .ok (.iload 6, 2) := by decide +kernel
theorem dX7_inClass_58 : decode cX7_inClass 58 = .ok (.aload_n 0, 1) := by decide +kernel
theorem dX7_inClass_59 : decode cX7_inClass 59 = .ok (.getfield 92, 3) := by decide +kernel
theorem dX7_inClass_62 : decode cX7_inClass 62 = .ok (.if_icmp .ge 45, 3) := by decide +kernel
theorem dX7_inClass_65 : decode cX7_inClass 65 = .ok (.aload_n 0, 1) := by decide +kernel
theorem dX7_inClass_66 : decode cX7_inClass 66 = .ok (.getfield 44, 3) := by decide +kernel
theorem dX7_inClass_69 : decode cX7_inClass 69 = .ok (.iload 6, 2) := by decide +kernel
theorem dX7_inClass_71 : decode cX7_inClass 71 = .ok (.iaload, 1) := by decide +kernel
theorem dX7_inClass_72 : decode cX7_inClass 72 = .ok (.aload_n 0, 1) := by decide +kernel
theorem dX7_inClass_73 : decode cX7_inClass 73 = .ok (.getfield 9, 3) := by decide +kernel
theorem dX7_inClass_76 : decode cX7_inClass 76 = .ok (.invokestatic 195, 3) := by decide +kernel
theorem dX7_inClass_79 : decode cX7_inClass 79 = .ok (.iload_n 1, 1) := by decide +kernel
theorem dX7_inClass_80 : decode cX7_inClass 80 = .ok (.if_icmp .eq 6, 3) := by decide +kernel
theorem dX7_inClass_83 : decode cX7_inClass 83 = .ok (.goto 18, 3) := by decide +kernel
theorem dX7_inClass_86 : decode cX7_inClass 86 = .ok (.iload_n 3, 1) := by decide +kernel
theorem dX7_inClass_87 : decode cX7_inClass 87 = .ok (.ifCond .ne 7, 3) := by decide +kernel
theorem dX7_inClass_90 : decode cX7_inClass 90 = .ok (.iload 6, 2) := by decide +kernel
theorem dX7_inClass_92 : decode cX7_inClass 92 = .ok (.istore 4, 2) := by decide +kernel
theorem dX7_inClass_94 : decode cX7_inClass 94 = .ok (.iload 6, 2) := by decide +kernel
theorem dX7_inClass_96 : decode cX7_inClass 96 = .ok (.istore 5, 2) := by decide +kernel
theorem dX7_inClass_98 : decode cX7_inClass 98 = .ok (.iinc 3 1, 3) := by decide +kernel
theorem dX7_inClass_101 : decode cX7_inClass 101 = .ok (.iinc 6 1, 3) := by decide +kernel
theorem dX7_inClass_104 : decode cX7_inClass 104 = .ok (.goto (-48), 3) := by decide +kernel
theorem dX7_inClass_107 : decode cX7_inClass 107 = .ok (.iload_n 2, 1) := by decide +kernel
theorem dX7_inClass_108 : decode cX7_inClass 108 = .ok (.ifCond .ne 7, 3) := by decide +kernel
theorem dX7_inClass_111 : decode cX7_inClass 111 = .ok (.iload_n 3, 1) := by decide +kernel
theorem dX7_inClass_112 : decode cX7_inClass 112 = .ok (.goto 15, 3) := by decide +kernel
theorem dX7_inClass_115 : decode cX7_inClass 115 = .ok (.iload_n 2, 1) := by decide +kernel
theorem dX7_inClass_116 : decode cX7_inClass 116 = .ok (.iconst 1, 1) := by decide +kernel
theorem dX7_inClass_117 : decode cX7_inClass 117 = .ok (.if_icmp .ne 8, 3) := by decide +kernel
theorem dX7_inClass_120 : decode cX7_inClass 120 = .ok (.iload 4, 2) := by decide +kernel
theorem dX7_inClass_122 : decode cX7_inClass 122 = .ok (.goto 5, 3) := by decide +kernel
theorem dX7_inClass_125 : decode cX7_inClass 125 = .ok (.iload 5, 2) := by decide +kernel
theorem dX7_inClass_127 : decode cX7_inClass 127 = .ok (.ireturn, 1) := by decide +kernel
theorem dX7_likeness_0 : decode cX7_likeness 0 = .ok (.iload_n 1, 1) := by decide +kernel
theorem dX7_likeness_1 : decode cX7_likeness 1 = .ok (.invokestatic 159, 3) := by decide +kernel
theorem dX7_likeness_4 : decode cX7_likeness 4 = .ok (.ifCond .ne 5, 3) := by decide +kernel
theorem dX7_likeness_7 : decode cX7_likeness 7 = .ok (.iconst (-1), 1) := by decide +kernel
theorem dX7_likeness_8 : decode cX7_likeness 8 = .ok (.ireturn, 1) := by decide +kernel
theorem dX7_likeness_9 : decode cX7_likeness 9 = .ok (.aload_n 0, 1) := by decide +kernel
theorem dX7_likeness_10 : decode cX7_likeness 10 = .ok (.iload_n 1, 1) := by decide +kernel
theorem dX7_likeness_11 : decode cX7_likeness 11 = .ok (.invokevirtual 162, 3) := by decide +kernel
theorem dX7_likeness_14 : decode cX7_likeness 14 = .ok (.istore_n 2, 1) := by decide +kernel
theorem dX7_likeness_15 : decode cX7_likeness 15 = .ok (.iload_n 2, 1) := by decide +kernel
theorem dX7_likeness_16 : decode cX7_likeness 16 = .ok (.ifCond .eq 7, 3) := by decide +kernel
theorem dX7_likeness_19 : decode cX7_likeness 19 = .ok (.iload_n 2, 1) := by decide +kernel
theorem dX7_likeness_20 : decode cX7_likeness 20 = .ok (.goto 24, 3) := by decide +kernel
theorem dX7_likeness_23 : decode cX7_likeness 23 = .ok (.aload_n 0, 1) := by decide +kernel
theorem dX7_likeness_24 : decode cX7_likeness 24 = .ok (.invokevirtual 198, 3) := by decide +kernel
theorem dX7_likeness_27 : decode cX7_likeness 27 = .ok (.aload_n 0, 1) := by decide +kernel
theorem dX7_likeness_28 : decode cX7_likeness 28 = .ok (.getfield 19, 3) := by decide +kernel
theorem dX7_likeness_31 : decode cX7_likeness 31 = .ok (.iload_n 1, 1) := by decide +kernel
theorem dX7_likeness_32 : decode cX7_likeness 32 = .ok (.iaload, 1) := by decide +kernel
theorem dX7_likeness_33 : decode cX7_likeness 33 = .ok (.aload_n 0, 1) := by decide +kernel
theorem dX7_likeness_34 : decode cX7_likeness 34 = .ok (.getfield 9, 3) := by decide +kernel
theorem dX7_likeness_37 : decode cX7_likeness 37 = .ok (.invokestatic 195, 3) := by decide +kernel
theorem dX7_likeness_40 : decode cX7_likeness 40 = .ok (.ixor, 1) := by decide +kernel
theorem dX7_likeness_41 : decode cX7_likeness 41 = .ok (.invokestatic 151, 3) := by decide +kernel
theorem dX7_likeness_44 : decode cX7_likeness 44 = .ok (.ireturn, 1) := by decide +kernel
theorem dX7_keep_0 : decode cX7_keep 0 = .ok (.iload_n 1, 1) := by decide +kernel
theorem dX7_keep_1 : decode cX7_keep 1 = .ok (.invokestatic 159, 3) := by decide +kernel
theorem dX7_keep_4 : decode cX7_keep 4 = .ok (.ifCond .ne 5, 3) := by decide +kernel
theorem dX7_keep_7 : decode cX7_keep 7 = .ok (.iconst (-1), 1) := by decide +kernel
theorem dX7_keep_8 : decode cX7_keep 8 = .ok (.ireturn, 1) := by decide +kernel
theorem dX7_keep_9 : decode cX7_keep 9 = .ok (.aload_n 0, 1) := by decide +kernel
theorem dX7_keep_10 : decode cX7_keep 10 = .ok (.getfield 15, 3) := by decide +kernel
theorem dX7_keep_13 : decode cX7_keep 13 = .ok (.iload_n 1, 1) := by decide +kernel
theorem dX7_keep_14 : decode cX7_keep 14 = .ok (.aload_n 0, 1) := by decide +kernel
theorem dX7_keep_15 : decode cX7_keep 15 = .ok (.getfield 9, 3) := by decide +kernel
theorem dX7_keep_18 : decode cX7_keep 18 = .ok (.iastore, 1) := by decide +kernel
theorem dX7_keep_19 : decode cX7_keep 19 = .ok (.aload_n 0, 1) := by decide +kernel
theorem dX7_keep_20 : decode cX7_keep 20 = .ok (.getfield 19, 3) := by decide +kernel
theorem dX7_keep_23 : decode cX7_keep 23 = .ok (.iload_n 1, 1) := by decide +kernel
theorem dX7_keep_24 : decode cX7_keep 24 = .ok (.aload_n 0, 1) := by decide +kernel
theorem dX7_keep_25 : decode cX7_keep 25 = .ok (.getfield 118, 3) := by decide +kernel
theorem dX7_keep_28 : decode cX7_keep 28 = .ok (.iastore, 1) := by decide +kernel
theorem dX7_keep_29 : decode cX7_keep 29 = .ok (.aload_n 0, 1) := by decide +kernel
theorem dX7_keep_30 : decode cX7_keep 30 = .ok (.invokevirtual 129, 3) := by decide +kernel
theorem dX7_keep_33 : decode cX7_keep 33 = .ok (.ireturn, 1) := by decide +kernel
theorem dX7_lay_0 : decode cX7_lay 0 = .ok (.iload_n 1, 1) := by decide +kernel
theorem dX7_lay_1 : decode cX7_lay 1 = .ok (.invokestatic 159, 3) := by decide +kernel
theorem dX7_lay_4 : decode cX7_lay 4 = .ok (.ifCond .ne 5, 3) := by decide +kernel
theorem dX7_lay_7 : decode cX7_lay 7 = .ok (.iconst (-1), 1) := by decide +kernel
theorem dX7_lay_8 : decode cX7_lay 8 = .ok (.ireturn, 1) := by decide +kernel
theorem dX7_lay_9 : decode cX7_lay 9 = .ok (.aload_n 0, 1) := by decide +kernel
theorem dX7_lay_10 : decode cX7_lay 10 = .ok (.getfield 15, 3) := by decide +kernel
theorem dX7_lay_13 : decode cX7_lay 13 = .ok (.iload_n 1, 1) := by decide +kernel
theorem dX7_lay_14 : decode cX7_lay 14 = .ok (.iaload, 1) := by decide +kernel
theorem dX7_lay_15 : decode cX7_lay 15 = .ok (.ifCond .ne 6, 3) := by decide +kernel
theorem dX7_lay_18 : decode cX7_lay 18 = .ok (.bipush (-6), 2) := by decide +kernel
theorem dX7_lay_20 : decode cX7_lay 20 = .ok (.ireturn, 1) := by decide +kernel
theorem dX7_lay_21 : decode cX7_lay 21 = .ok (.aload_n 0, 1) := by decide +kernel
theorem dX7_lay_22 : decode cX7_lay 22 = .ok (.aload_n 0, 1) := by decide +kernel
theorem dX7_lay_23 : decode cX7_lay 23 = .ok (.getfield 15, 3) := by decide +kernel
theorem dX7_lay_26 : decode cX7_lay 26 = .ok (.iload_n 1, 1) := by decide +kernel
theorem dX7_lay_27 : decode cX7_lay 27 = .ok (.iaload, 1) := by decide +kernel
theorem dX7_lay_28 : decode cX7_lay 28 = .ok (.aload_n 0, 1) := by decide +kernel
theorem dX7_lay_29 : decode cX7_lay 29 = .ok (.getfield 19, 3) := by decide +kernel
theorem dX7_lay_32 : decode cX7_lay 32 = .ok (.iload_n 1, 1) := by decide +kernel
theorem dX7_lay_33 : decode cX7_lay 33 = .ok (.iaload, 1) := by decide +kernel
theorem dX7_lay_34 : decode cX7_lay 34 = .ok (.invokevirtual 126, 3) := by decide +kernel
theorem dX7_lay_37 : decode cX7_lay 37 = .ok (.aload_n 0, 1) := by decide +kernel
theorem dX7_lay_38 : decode cX7_lay 38 = .ok (.getfield 9, 3) := by decide +kernel
theorem dX7_lay_41 : decode cX7_lay 41 = .ok (.ireturn, 1) := by decide +kernel
theorem dX7_lose_0 : decode cX7_lose 0 = .ok (.iload_n 1, 1) := by decide +kernel
theorem dX7_lose_1 : decode cX7_lose 1 = .ok (.invokestatic 159, 3) := by decide +kernel
theorem dX7_lose_4 : decode cX7_lose 4 = .ok (.ifCond .ne 5, 3) := by decide +kernel
theorem dX7_lose_7 : decode cX7_lose 7 = .ok (.iconst (-1), 1) := by decide +kernel
theorem dX7_lose_8 : decode cX7_lose 8 = .ok (.ireturn, 1) := by decide +kernel
theorem dX7_lose_9 : decode cX7_lose 9 = .ok (.aload_n 0, 1) := by decide +kernel
theorem dX7_lose_10 : decode cX7_lose 10 = .ok (.getfield 15, 3) := by decide +kernel
theorem dX7_lose_13 : decode cX7_lose 13 = .ok (.iload_n 1, 1) := by decide +kernel
theorem dX7_lose_14 : decode cX7_lose 14 = .ok (.iaload, 1) := by decide +kernel
theorem dX7_lose_15 : decode cX7_lose 15 = .ok (.ifCond .ne 6, 3) := by decide +kernel
theorem dX7_lose_18 : decode cX7_lose 18 = .ok (.bipush (-6), 2) := by decide +kernel
theorem dX7_lose_20 : decode cX7_lose 20 = .ok (.ireturn, 1) := by decide +kernel
theorem dX7_lose_21 : decode cX7_lose 21 = .ok (.aload_n 0, 1) := by decide +kernel
theorem dX7_lose_22 : decode cX7_lose 22 = .ok (.getfield 15, 3) := by decide +kernel
theorem dX7_lose_25 : decode cX7_lose 25 = .ok (.iload_n 1, 1) := by decide +kernel
theorem dX7_lose_26 : decode cX7_lose 26 = .ok (.iaload, 1) := by decide +kernel
theorem dX7_lose_27 : decode cX7_lose 27 = .ok (.istore_n 2, 1) := by decide +kernel
theorem dX7_lose_28 : decode cX7_lose 28 = .ok (.aload_n 0, 1) := by decide +kernel
theorem dX7_lose_29 : decode cX7_lose 29 = .ok (.getfield 15, 3) := by decide +kernel
theorem dX7_lose_32 : decode cX7_lose 32 = .ok (.iload_n 1, 1) := by decide +kernel
theorem dX7_lose_33 : decode cX7_lose 33 = .ok (.iconst 0, 1) := by decide +kernel
theorem dX7_lose_34 : decode cX7_lose 34 = .ok (.iastore, 1) := by decide +kernel
theorem dX7_lose_35 : decode cX7_lose 35 = .ok (.iload_n 2, 1) := by decide +kernel
theorem dX7_lose_36 : decode cX7_lose 36 = .ok (.ireturn, 1) := by decide +kernel
theorem dX7_over_0 : decode cX7_over 0 = .ok (.iload_n 1, 1) := by decide +kernel
theorem dX7_over_1 : decode cX7_over 1 = .ok (.invokestatic 159, 3) := by decide +kernel
theorem dX7_over_4 : decode cX7_over 4 = .ok (.ifCond .ne 5, 3) := by decide +kernel
theorem dX7_over_7 : decode cX7_over 7 = .ok (.iconst (-1), 1) := by decide +kernel
theorem dX7_over_8 : decode cX7_over 8 = .ok (.ireturn, 1) := by decide +kernel
theorem dX7_over_9 : decode cX7_over 9 = .ok (.aload_n 0, 1) := by decide +kernel
theorem dX7_over_10 : decode cX7_over 10 = .ok (.getfield 15, 3) := by decide +kernel
theorem dX7_over_13 : decode cX7_over 13 = .ok (.iload_n 1, 1) := by decide +kernel
theorem dX7_over_14 : decode cX7_over 14 = .ok (.iaload, 1) := by decide +kernel
theorem dX7_over_15 : decode cX7_over 15 = .ok (.ifCond .ne 6, 3) := by decide +kernel
theorem dX7_over_18 : decode cX7_over 18 = .ok (.bipush (-6), 2) := by decide +kernel
theorem dX7_over_20 : decode cX7_over 20 = .ok (.ireturn, 1) := by decide +kernel
theorem dX7_over_21 : decode cX7_over 21 = .ok (.aload_n 0, 1) := by decide +kernel
theorem dX7_over_22 : decode cX7_over 22 = .ok (.getfield 15, 3) := by decide +kernel
theorem dX7_over_25 : decode cX7_over 25 = .ok (.iload_n 1, 1) := by decide +kernel
theorem dX7_over_26 : decode cX7_over 26 = .ok (.iaload, 1) := by decide +kernel
theorem dX7_over_27 : decode cX7_over 27 = .ok (.aload_n 0, 1) := by decide +kernel
theorem dX7_over_28 : decode cX7_over 28 = .ok (.getfield 9, 3) := by decide +kernel
theorem dX7_over_31 : decode cX7_over 31 = .ok (.iadd, 1) := by decide +kernel
theorem dX7_over_32 : decode cX7_over 32 = .ok (.bipush 7, 2) := by decide +kernel
theorem dX7_over_34 : decode cX7_over 34 = .ok (.if_icmp .le 6, 3) := by decide +kernel
theorem dX7_over_37 : decode cX7_over 37 = .ok (.bipush (-4), 2) := by decide +kernel
theorem dX7_over_39 : decode cX7_over 39 = .ok (.ireturn, 1) := by decide +kernel
theorem dX7_over_40 : decode cX7_over 40 = .ok (.aload_n 0, 1) := by decide +kernel
theorem dX7_over_41 : decode cX7_over 41 = .ok (.aload_n 0, 1) := by decide +kernel
theorem dX7_over_42 : decode cX7_over 42 = .ok (.getfield 15, 3) := by decide +kernel
theorem dX7_over_45 : decode cX7_over 45 = .ok (.iload_n 1, 1) := by decide +kernel
theorem dX7_over_46 : decode cX7_over 46 = .ok (.iaload, 1) := by decide +kernel
theorem dX7_over_47 : decode cX7_over 47 = .ok (.aload_n 0, 1) := by decide +kernel
theorem dX7_over_48 : decode cX7_over 48 = .ok (.getfield 9, 3) := by decide +kernel
theorem dX7_over_51 : decode cX7_over 51 = .ok (.iadd, 1) := by decide +kernel
theorem dX7_over_52 : decode cX7_over 52 = .ok (.aload_n 0, 1) := by decide +kernel
theorem dX7_over_53 : decode cX7_over 53 = .ok (.getfield 19, 3) := by decide +kernel
theorem dX7_over_56 : decode cX7_over 56 = .ok (.iload_n 1, 1) := by decide +kernel
theorem dX7_over_57 : decode cX7_over 57 = .ok (.iaload, 1) := by decide +kernel
theorem dX7_over_58 : decode cX7_over 58 = .ok (.aload_n 0, 1) := by decide +kernel
theorem dX7_over_59 : decode cX7_over 59 = .ok (.getfield 9, 3) := by decide +kernel
theorem dX7_over_62 : decode cX7_over 62 = .ok (.invokestatic 77, 3) := by decide +kernel
theorem dX7_over_65 : decode cX7_over 65 = .ok (.imul, 1) := by decide +kernel
theorem dX7_over_66 : decode cX7_over 66 = .ok (.aload_n 0, 1) := by decide +kernel
theorem dX7_over_67 : decode cX7_over 67 = .ok (.getfield 118, 3) := by decide +kernel
theorem dX7_over_70 : decode cX7_over 70 = .ok (.iadd, 1) := by decide +kernel
theorem dX7_over_71 : decode cX7_over 71 = .ok (.invokevirtual 126, 3) := by decide +kernel
theorem dX7_over_74 : decode cX7_over 74 = .ok (.aload_n 0, 1) := by decide +kernel
theorem dX7_over_75 : decode cX7_over 75 = .ok (.getfield 9, 3) := by decide +kernel
theorem dX7_over_78 : decode cX7_over 78 = .ok (.ireturn, 1) := by decide +kernel
theorem dX7_under_0 : decode cX7_under 0 = .ok (.iload_n 1, 1) := by decide +kernel
theorem dX7_under_1 : decode cX7_under 1 = .ok (.invokestatic 159, 3) := by decide +kernel
theorem dX7_under_4 : decode cX7_under 4 = .ok (.ifCond .ne 5, 3) := by decide +kernel
theorem dX7_under_7 : decode cX7_under 7 = .ok (.iconst (-1), 1) := by decide +kernel
theorem dX7_under_8 : decode cX7_under 8 = .ok (.ireturn, 1) := by decide +kernel
theorem dX7_under_9 : decode cX7_under 9 = .ok (.aload_n 0, 1) := by decide +kernel
theorem dX7_under_10 : decode cX7_under 10 = .ok (.getfield 15, 3) := by decide +kernel
theorem dX7_under_13 : decode cX7_under 13 = .ok (.iload_n 1, 1) := by decide +kernel
theorem dX7_under_14 : decode cX7_under 14 = .ok (.iaload, 1) := by decide +kernel
theorem dX7_under_15 : decode cX7_under 15 = .ok (.istore_n 2, 1) := by decide +kernel
theorem dX7_under_16 : decode cX7_under 16 = .ok (.iload_n 2, 1) := by decide +kernel
theorem dX7_under_17 : decode cX7_under 17 = .ok (.ifCond .ne 6, 3) := by decide +kernel
theorem dX7_under_20 : decode cX7_under 20 = .ok (.bipush (-6), 2) := by decide +kernel
theorem dX7_under_22 : decode cX7_under 22 = .ok (.ireturn, 1) := by decide +kernel
theorem dX7_under_23 : decode cX7_under 23 = .ok (.iload_n 2, 1) := by decide +kernel
theorem dX7_under_24 : decode cX7_under 24 = .ok (.aload_n 0, 1) := by decide +kernel
theorem dX7_under_25 : decode cX7_under 25 = .ok (.getfield 9, 3) := by decide +kernel
theorem dX7_under_28 : decode cX7_under 28 = .ok (.iadd, 1) := by decide +kernel
theorem dX7_under_29 : decode cX7_under 29 = .ok (.bipush 7, 2) := by decide +kernel
theorem dX7_under_31 : decode cX7_under 31 = .ok (.if_icmp .le 6, 3) := by decide +kernel
theorem dX7_under_34 : decode cX7_under 34 = .ok (.bipush (-4), 2) := by decide +kernel
theorem dX7_under_36 : decode cX7_under 36 = .ok (.ireturn, 1) := by decide +kernel
theorem dX7_under_37 : decode cX7_under 37 = .ok (.aload_n 0, 1) := by decide +kernel
theorem dX7_under_38 : decode cX7_under 38 = .ok (.getfield 118, 3) := by decide +kernel
theorem dX7_under_41 : decode cX7_under 41 = .ok (.istore_n 3, 1) := by decide +kernel
theorem dX7_under_42 : decode cX7_under 42 = .ok (.iconst 0, 1) := by decide +kernel
theorem dX7_under_43 : decode cX7_under 43 = .ok (.istore 4, 2) := by decide +kernel
theorem dX7_under_45 : decode cX7_under 45 = .ok (.iload 4, 2) := by decide +kernel
theorem dX7_under_47 : decode cX7_under 47 = .ok (.aload_n 0, 1) := by decide +kernel
theorem dX7_under_48 : decode cX7_under 48 = .ok (.getfield 9, 3) := by decide +kernel
theorem dX7_under_51 : decode cX7_under 51 = .ok (.if_icmp .ge 60, 3) := by decide +kernel
theorem dX7_under_54 : decode cX7_under 54 = .ok (.iload 4, 2) := by decide +kernel
theorem dX7_under_56 : decode cX7_under 56 = .ok (.aload_n 0, 1) := by decide +kernel
theorem dX7_under_57 : decode cX7_under 57 = .ok (.getfield 118, 3) := by decide +kernel
theorem dX7_under_60 : decode cX7_under 60 = .ok (.aload_n 0, 1) := by decide +kernel
theorem dX7_under_61 : decode cX7_under 61 = .ok (.getfield 9, 3) := by decide +kernel
theorem dX7_under_64 : decode cX7_under 64 = .ok (.iload 4, 2) := by decide +kernel
theorem dX7_under_66 : decode cX7_under 66 = .ok (.invokestatic 81, 3) := by decide +kernel
theorem dX7_under_69 : decode cX7_under 69 = .ok (.iadd, 1) := by decide +kernel
theorem dX7_under_70 : decode cX7_under 70 = .ok (.aload_n 0, 1) := by decide +kernel
theorem dX7_under_71 : decode cX7_under 71 = .ok (.getfield 9, 3) := by decide +kernel
theorem dX7_under_74 : decode cX7_under 74 = .ok (.iconst 1, 1) := by decide +kernel
theorem dX7_under_75 : decode cX7_under 75 = .ok (.isub, 1) := by decide +kernel
theorem dX7_under_76 : decode cX7_under 76 = .ok (.if_icmp .ne 29, 3) := by decide +kernel
theorem dX7_under_79 : decode cX7_under 79 = .ok (.iload_n 3, 1) := by decide +kernel
theorem dX7_under_80 : decode cX7_under 80 = .ok (.aload_n 0, 1) := by decide +kernel
theorem dX7_under_81 : decode cX7_under 81 = .ok (.getfield 9, 3) := by decide +kernel
theorem dX7_under_84 : decode cX7_under 84 = .ok (.iload 4, 2) := by decide +kernel
theorem dX7_under_86 : decode cX7_under 86 = .ok (.aload_n 0, 1) := by decide +kernel
theorem dX7_under_87 : decode cX7_under 87 = .ok (.getfield 118, 3) := by decide +kernel
theorem dX7_under_90 : decode cX7_under 90 = .ok (.aload_n 0, 1) := by decide +kernel
theorem dX7_under_91 : decode cX7_under 91 = .ok (.getfield 9, 3) := by decide +kernel
theorem dX7_under_94 : decode cX7_under 94 = .ok (.iload 4, 2) := by decide +kernel
theorem dX7_under_96 : decode cX7_under 96 = .ok (.invokestatic 81, 3) := by decide +kernel
theorem dX7_under_99 : decode cX7_under 99 = .ok (.iload_n 2, 1) := by decide +kernel
theorem dX7_under_100 : decode cX7_under 100 = .ok (.iadd, 1) := by decide +kernel
theorem dX7_under_101 : decode cX7_under 101 = .ok (.invokestatic 114, 3) := by decide +kernel
theorem dX7_under_104 : decode cX7_under 104 = .ok (.istore_n 3, 1) := by decide +kernel
theorem dX7_under_105 : decode cX7_under 105 = .ok (.iinc 4 1, 3) := by decide +kernel
theorem dX7_under_108 : decode cX7_under 108 = .ok (.goto (-63), 3) := by decide +kernel
theorem dX7_under_111 : decode cX7_under 111 = .ok (.aload_n 0, 1) := by decide +kernel
theorem dX7_under_112 : decode cX7_under 112 = .ok (.aload_n 0, 1) := by decide +kernel
theorem dX7_under_113 : decode cX7_under 113 = .ok (.getfield 9, 3) := by decide +kernel
theorem dX7_under_116 : decode cX7_under 116 = .ok (.iload_n 2, 1) := by decide +kernel
theorem dX7_under_117 : decode cX7_under 117 = .ok (.iadd, 1) := by decide +kernel
theorem dX7_under_118 : decode cX7_under 118 = .ok (.iload_n 3, 1) := by decide +kernel
theorem dX7_under_119 : decode cX7_under 119 = .ok (.iload_n 2, 1) := by decide +kernel
theorem dX7_under_120 : decode cX7_under 120 = .ok (.invokestatic 77, 3) := by decide +kernel
theorem dX7_under_123 : decode cX7_under 123 = .ok (.imul, 1) := by decide +kernel
theorem dX7_under_124 : decode cX7_under 124 = .ok (.aload_n 0, 1) := by decide +kernel
theorem dX7_under_125 : decode cX7_under 125 = .ok (.getfield 19, 3) := by decide +kernel
theorem dX7_under_128 : decode cX7_under 128 = .ok (.iload_n 1, 1) := by decide +kernel
theorem dX7_under_129 : decode cX7_under 129 = .ok (.iaload, 1) := by decide +kernel
theorem dX7_under_130 : decode cX7_under 130 = .ok (.iadd, 1) := by decide +kernel
theorem dX7_under_131 : decode cX7_under 131 = .ok (.invokevirtual 126, 3) := by decide +kernel
theorem dX7_under_134 : decode cX7_under 134 = .ok (.aload_n 0, 1) := by decide +kernel
theorem dX7_under_135 : decode cX7_under 135 = .ok (.getfield 9, 3) := by decide +kernel
theorem dX7_under_138 : decode cX7_under 138 = .ok (.ireturn, 1) := by decide +kernel
theorem dX7_shelf_0 : decode cX7_shelf 0 = .ok (.iload_n 1, 1) := by decide +kernel
theorem dX7_shelf_1 : decode cX7_shelf 1 = .ok (.invokestatic 159, 3) := by decide +kernel
theorem dX7_shelf_4 : decode cX7_shelf 4 = .ok (.ifCond .eq 15, 3) := by decide +kernel
theorem dX7_shelf_7 : decode cX7_shelf 7 = .ok (.iload_n 2, 1) := by decide +kernel
theorem dX7_shelf_8 : decode cX7_shelf 8 = .ok (.i2l, 1) := by decide +kernel
theorem dX7_shelf_9 : decode cX7_shelf 9 = .ok (.lconst 0, 1) := by decide +kernel
theorem dX7_shelf_10 : decode cX7_shelf 10 = .ok (.ldc2_w 193, 3) := by decide +kernel
theorem dX7_shelf_13 : decode cX7_shelf 13 = .ok (.invokestatic 85, 3) := by decide +kernel
theorem dX7_shelf_16 : decode cX7_shelf 16 = .ok (.ifCond .ne 5, 3) := by decide +kernel
theorem dX7_shelf_19 : decode cX7_shelf 19 = .ok (.iconst (-1), 1) := by decide +kernel
theorem dX7_shelf_20 : decode cX7_shelf 20 = .ok (.ireturn, 1) := by decide +kernel
theorem dX7_shelf_21 : decode cX7_shelf 21 = .ok (.aload_n 0, 1) := by decide +kernel
theorem dX7_shelf_22 : decode cX7_shelf 22 = .ok (.getfield 15, 3) := by decide +kernel
theorem dX7_shelf_25 : decode cX7_shelf 25 = .ok (.iload_n 1, 1) := by decide +kernel
theorem dX7_shelf_26 : decode cX7_shelf 26 = .ok (.iaload, 1) := by decide +kernel
theorem dX7_shelf_27 : decode cX7_shelf 27 = .ok (.ifCond .ne 6, 3) := by decide +kernel
theorem dX7_shelf_30 : decode cX7_shelf 30 = .ok (.bipush (-6), 2) := by decide +kernel
theorem dX7_shelf_32 : decode cX7_shelf 32 = .ok (.ireturn, 1) := by decide +kernel
theorem dX7_shelf_33 : decode cX7_shelf 33 = .ok (.iload_n 2, 1) := by decide +kernel
theorem dX7_shelf_34 : decode cX7_shelf 34 = .ok (.ifCond .ne 12, 3) := by decide +kernel
theorem dX7_shelf_37 : decode cX7_shelf 37 = .ok (.aload_n 0, 1) := by decide +kernel
theorem dX7_shelf_38 : decode cX7_shelf 38 = .ok (.getfield 15, 3) := by decide +kernel
theorem dX7_shelf_41 : decode cX7_shelf 41 = .ok (.iload_n 1, 1) := by decide +kernel
theorem dX7_shelf_42 : decode cX7_shelf 42 = .ok (.iaload, 1) := by decide +kernel
theorem dX7_shelf_43 : decode cX7_shelf 43 = .ok (.goto 33, 3) := by decide +kernel
theorem dX7_shelf_46 : decode cX7_shelf 46 = .ok (.iload_n 2, 1) := by decide +kernel
theorem dX7_shelf_47 : decode cX7_shelf 47 = .ok (.iconst 1, 1) := by decide +kernel
theorem dX7_shelf_48 : decode cX7_shelf 48 = .ok (.if_icmp .ne 22, 3) := by decide +kernel
theorem dX7_shelf_51 : decode cX7_shelf 51 = .ok (.aload_n 0, 1) := by decide +kernel
theorem dX7_shelf_52 : decode cX7_shelf 52 = .ok (.aload_n 0, 1) := by decide +kernel
theorem dX7_shelf_53 : decode cX7_shelf 53 = .ok (.getfield 19, 3) := by decide +kernel
theorem dX7_shelf_56 : decode cX7_shelf 56 = .ok (.iload_n 1, 1) := by decide +kernel
theorem dX7_shelf_57 : decode cX7_shelf 57 = .ok (.iaload, 1) := by decide +kernel
theorem dX7_shelf_58 : decode cX7_shelf 58 = .ok (.aload_n 0, 1) := by decide +kernel
theorem dX7_shelf_59 : decode cX7_shelf 59 = .ok (.getfield 15, 3) := by decide +kernel
theorem dX7_shelf_62 : decode cX7_shelf 62 = .ok (.iload_n 1, 1) := by decide +kernel
theorem dX7_shelf_63 : decode cX7_shelf 63 = .ok (.iaload, 1) := by decide +kernel
theorem dX7_shelf_64 : decode cX7_shelf 64 = .ok (.invokevirtual 139, 3) := by decide +kernel
theorem dX7_shelf_67 : decode cX7_shelf 67 = .ok (.goto 9, 3) := by decide +kernel
theorem dX7_shelf_70 : decode cX7_shelf 70 = .ok (.aload_n 0, 1) := by decide +kernel
theorem dX7_shelf_71 : decode cX7_shelf 71 = .ok (.getfield 19, 3) := by decide +kernel
theorem dX7_shelf_74 : decode cX7_shelf 74 = .ok (.iload_n 1, 1) := by decide +kernel
theorem dX7_shelf_75 : decode cX7_shelf 75 = .ok (.iaload, 1) := by decide +kernel
theorem dX7_shelf_76 : decode cX7_shelf 76 = .ok (.ireturn, 1) := by decide +kernel
theorem dX7_isList_0 : decode cX7_isList 0 = .ok (.iload_n 0, 1) := by decide +kernel
theorem dX7_isList_1 : decode cX7_isList 1 = .ok (.i2l, 1) := by decide +kernel
theorem dX7_isList_2 : decode cX7_isList 2 = .ok (.lconst 0, 1) := by decide +kernel
theorem dX7_isList_3 : decode cX7_isList 3 = .ok (.ldc2_w 193, 3) := by decide +kernel
theorem dX7_isList_6 : decode cX7_isList 6 = .ok (.invokestatic 85, 3) := by decide +kernel
theorem dX7_isList_9 : decode cX7_isList 9 = .ok (.ireturn, 1) := by decide +kernel
theorem dX7_makes_0 : decode cX7_makes 0 = .ok (.aload_n 0, 1) := by decide +kernel
theorem dX7_makes_1 : decode cX7_makes 1 = .ok (.getfield 32, 3) := by decide +kernel
theorem dX7_makes_4 : decode cX7_makes 4 = .ok (.iload_n 1, 1) := by decide +kernel
theorem dX7_makes_5 : decode cX7_makes 5 = .ok (.iload_n 2, 1) := by decide +kernel
theorem dX7_makes_6 : decode cX7_makes 6 = .ok (.iastore, 1) := by decide +kernel
theorem dX7_makes_7 : decode cX7_makes 7 = .ok (.iconst 0, 1) := by decide +kernel
theorem dX7_makes_8 : decode cX7_makes 8 = .ok (.istore_n 3, 1) := by decide +kernel
theorem dX7_makes_9 : decode cX7_makes 9 = .ok (.iload_n 3, 1) := by decide +kernel
theorem dX7_makes_10 : decode cX7_makes 10 = .ok (.bipush 20, 2) := by decide +kernel
theorem dX7_makes_12 : decode cX7_makes 12 = .ok (.if_icmp .ge 21, 3) := by decide +kernel
theorem dX7_makes_15 : decode cX7_makes 15 = .ok (.aload_n 0, 1) := by decide +kernel
theorem dX7_makes_16 : decode cX7_makes 16 = .ok (.getfield 28, 3) := by decide +kernel
theorem dX7_makes_19 : decode cX7_makes 19 = .ok (.bipush 20, 2) := by decide +kernel
theorem dX7_makes_21 : decode cX7_makes 21 = .ok (.iload_n 1, 1) := by decide +kernel
theorem dX7_makes_22 : decode cX7_makes 22 = .ok (.imul, 1) := by decide +kernel
theorem dX7_makes_23 : decode cX7_makes 23 = .ok (.iload_n 3, 1) := by decide +kernel
theorem dX7_makes_24 : decode cX7_makes 24 = .ok (.iadd, 1) := by decide +kernel
theorem dX7_makes_25 : decode cX7_makes 25 = .ok (.lconst 0, 1) := by decide +kernel
theorem dX7_makes_26 : decode cX7_makes 26 = .ok (.lastore, 1) := by decide +kernel
theorem dX7_makes_27 : decode cX7_makes 27 = .ok (.iinc 3 1, 3) := by decide +kernel
theorem dX7_makes_30 : decode cX7_makes 30 = .ok (.goto (-21), 3) := by decide +kernel
theorem dX7_makes_33 : decode cX7_makes 33 = .ok (.return_, 1) := by decide +kernel
theorem dX7_list_0 : decode cX7_list 0 = .ok (.iload_n 1, 1) := by decide +kernel
theorem dX7_list_1 : decode cX7_list 1 = .ok (.invokestatic 201, 3) := by decide +kernel
theorem dX7_list_4 : decode cX7_list 4 = .ok (.ifCond .ne 5, 3) := by decide +kernel
theorem dX7_list_7 : decode cX7_list 7 = .ok (.iconst (-1), 1) := by decide +kernel
theorem dX7_list_8 : decode cX7_list 8 = .ok (.ireturn, 1) := by decide +kernel
theorem dX7_list_9 : decode cX7_list 9 = .ok (.iload_n 2, 1) := by decide +kernel
theorem dX7_list_10 : decode cX7_list 10 = .ok (.bipush 20, 2) := by decide +kernel
theorem dX7_list_12 : decode cX7_list 12 = .ok (.if_icmp .le 6, 3) := by decide +kernel
theorem dX7_list_15 : decode cX7_list 15 = .ok (.bipush (-2), 2) := by decide +kernel
theorem dX7_list_17 : decode cX7_list 17 = .ok (.ireturn, 1) := by decide +kernel
theorem dX7_list_18 : decode cX7_list 18 = .ok (.iload_n 2, 1) := by decide +kernel
theorem dX7_list_19 : decode cX7_list 19 = .ok (.iconst (-1), 1) := by decide +kernel
theorem dX7_list_20 : decode cX7_list 20 = .ok (.if_icmp .ge 6, 3) := by decide +kernel
theorem dX7_list_23 : decode cX7_list 23 = .ok (.bipush (-14), 2) := by decide +kernel
theorem dX7_list_25 : decode cX7_list 25 = .ok (.ireturn, 1) := by decide +kernel
theorem dX7_list_26 : decode cX7_list 26 = .ok (.aload_n 0, 1) := by decide +kernel
theorem dX7_list_27 : decode cX7_list 27 = .ok (.iload_n 1, 1) := by decide +kernel
theorem dX7_list_28 : decode cX7_list 28 = .ok (.iload_n 2, 1) := by decide +kernel
theorem dX7_list_29 : decode cX7_list 29 = .ok (.invokevirtual 204, 3) := by decide +kernel
theorem dX7_list_32 : decode cX7_list 32 = .ok (.iconst 1, 1) := by decide +kernel
theorem dX7_list_33 : decode cX7_list 33 = .ok (.ireturn, 1) := by decide +kernel
theorem dX7_put_0 : decode cX7_put 0 = .ok (.iload_n 1, 1) := by decide +kernel
theorem dX7_put_1 : decode cX7_put 1 = .ok (.invokestatic 201, 3) := by decide +kernel
theorem dX7_put_4 : decode cX7_put 4 = .ok (.ifCond .ne 5, 3) := by decide +kernel
theorem dX7_put_7 : decode cX7_put 7 = .ok (.iconst (-1), 1) := by decide +kernel
theorem dX7_put_8 : decode cX7_put 8 = .ok (.ireturn, 1) := by decide +kernel
theorem dX7_put_9 : decode cX7_put 9 = .ok (.aload_n 0, 1) := by decide +kernel
theorem dX7_put_10 : decode cX7_put 10 = .ok (.getfield 32, 3) := by decide +kernel
theorem dX7_put_13 : decode cX7_put 13 = .ok (.iload_n 1, 1) := by decide +kernel
theorem dX7_put_14 : decode cX7_put 14 = .ok (.iaload, 1) := by decide +kernel
theorem dX7_put_15 : decode cX7_put 15 = .ok (.ifCond .ge 6, 3) := by decide +kernel
theorem dX7_put_18 : decode cX7_put 18 = .ok (.bipush (-11), 2) := by decide +kernel
theorem dX7_put_20 : decode cX7_put 20 = .ok (.ireturn, 1) := by decide +kernel
theorem dX7_put_21 : decode cX7_put 21 = .ok (.iload_n 2, 1) := by decide +kernel
theorem dX7_put_22 : decode cX7_put 22 = .ok (.i2l, 1) := by decide +kernel
theorem dX7_put_23 : decode cX7_put 23 = .ok (.lconst 0, 1) := by decide +kernel
theorem dX7_put_24 : decode cX7_put 24 = .ok (.aload_n 0, 1) := by decide +kernel
theorem dX7_put_25 : decode cX7_put 25 = .ok (.getfield 32, 3) := by decide +kernel
theorem dX7_put_28 : decode cX7_put 28 = .ok (.iload_n 1, 1) := by decide +kernel
theorem dX7_put_29 : decode cX7_put 29 = .ok (.iaload, 1) := by decide +kernel
theorem dX7_put_30 : decode cX7_put 30 = .ok (.iconst 1, 1) := by decide +kernel
theorem dX7_put_31 : decode cX7_put 31 = .ok (.isub, 1) := by decide +kernel
theorem dX7_put_32 : decode cX7_put 32 = .ok (.i2l, 1) := by decide +kernel
theorem dX7_put_33 : decode cX7_put 33 = .ok (.invokestatic 85, 3) := by decide +kernel
theorem dX7_put_36 : decode cX7_put 36 = .ok (.ifCond .ne 6, 3) := by decide +kernel
theorem dX7_put_39 : decode cX7_put 39 = .ok (.bipush (-13), 2) := by decide +kernel
theorem dX7_put_41 : decode cX7_put 41 = .ok (.ireturn, 1) := by decide +kernel
theorem dX7_put_42 : decode cX7_put 42 = .ok (.aload_n 0, 1) := by decide +kernel
theorem dX7_put_43 : decode cX7_put 43 = .ok (.getfield 28, 3) := by decide +kernel
theorem dX7_put_46 : decode cX7_put 46 = .ok (.bipush 20, 2) := by decide +kernel
theorem dX7_put_48 : decode cX7_put 48 = .ok (.iload_n 1, 1) := by decide +kernel
theorem dX7_put_49 : decode cX7_put 49 = .ok (.imul, 1) := by decide +kernel
theorem dX7_put_50 : decode cX7_put 50 = .ok (.iload_n 2, 1) := by decide +kernel
theorem dX7_put_51 : decode cX7_put 51 = .ok (.iadd, 1) := by decide +kernel
theorem dX7_put_52 : decode cX7_put 52 = .ok (.lload_n 3, 1) := by decide +kernel
theorem dX7_put_53 : decode cX7_put 53 = .ok (.lastore, 1) := by decide +kernel
theorem dX7_put_54 : decode cX7_put 54 = .ok (.iconst 1, 1) := by decide +kernel
theorem dX7_put_55 : decode cX7_put 55 = .ok (.ireturn, 1) := by decide +kernel
theorem dX7_get_0 : decode cX7_get 0 = .ok (.iload_n 1, 1) := by decide +kernel
theorem dX7_get_1 : decode cX7_get 1 = .ok (.invokestatic 201, 3) := by decide +kernel
theorem dX7_get_4 : decode cX7_get 4 = .ok (.ifCond .eq 35, 3) := by decide +kernel
theorem dX7_get_7 : decode cX7_get 7 = .ok (.iload_n 2, 1) := by decide +kernel
theorem dX7_get_8 : decode cX7_get 8 = .ok (.i2l, 1) := by decide +kernel
theorem dX7_get_9 : decode cX7_get 9 = .ok (.lconst 0, 1) := by decide +kernel
theorem dX7_get_10 : decode cX7_get 10 = .ok (.aload_n 0, 1) := by decide +kernel
theorem dX7_get_11 : decode cX7_get 11 = .ok (.getfield 32, 3) := by decide +kernel
theorem dX7_get_14 : decode cX7_get 14 = .ok (.iload_n 1, 1) := by decide +kernel
theorem dX7_get_15 : decode cX7_get 15 = .ok (.iaload, 1) := by decide +kernel
theorem dX7_get_16 : decode cX7_get 16 = .ok (.iconst 1, 1) := by decide +kernel
theorem dX7_get_17 : decode cX7_get 17 = .ok (.isub, 1) := by decide +kernel
theorem dX7_get_18 : decode cX7_get 18 = .ok (.i2l, 1) := by decide +kernel
theorem dX7_get_19 : decode cX7_get 19 = .ok (.invokestatic 85, 3) := by decide +kernel
theorem dX7_get_22 : decode cX7_get 22 = .ok (.ifCond .eq 17, 3) := by decide +kernel
theorem dX7_get_25 : decode cX7_get 25 = .ok (.aload_n 0, 1) := by decide +kernel
theorem dX7_get_26 : decode cX7_get 26 = .ok (.getfield 28, 3) := by decide +kernel
theorem dX7_get_29 : decode cX7_get 29 = .ok (.bipush 20, 2) := by decide +kernel
theorem dX7_get_31 : decode cX7_get 31 = .ok (.iload_n 1, 1) := by decide +kernel
theorem dX7_get_32 : decode cX7_get 32 = .ok (.imul, 1) := by decide +kernel
theorem dX7_get_33 : decode cX7_get 33 = .ok (.iload_n 2, 1) := by decide +kernel
theorem dX7_get_34 : decode cX7_get 34 = .ok (.iadd, 1) := by decide +kernel
theorem dX7_get_35 : decode cX7_get 35 = .ok (.laload, 1) := by decide +kernel
theorem dX7_get_36 : decode cX7_get 36 = .ok (.goto 6, 3) := by decide +kernel
theorem dX7_get_39 : decode cX7_get 39 = .ok (.ldc2_w 207, 3) := by decide +kernel
theorem dX7_get_42 : decode cX7_get 42 = .ok (.lreturn, 1) := by decide +kernel
theorem dX7_play_0 : decode cX7_play 0 = .ok (.iload_n 1, 1) := by decide +kernel
theorem dX7_play_1 : decode cX7_play 1 = .ok (.invokestatic 201, 3) := by decide +kernel
theorem dX7_play_4 : decode cX7_play 4 = .ok (.ifCond .ne 5, 3) := by decide +kernel
theorem dX7_play_7 : decode cX7_play 7 = .ok (.iconst (-1), 1) := by decide +kernel
theorem dX7_play_8 : decode cX7_play 8 = .ok (.ireturn, 1) := by decide +kernel
theorem dX7_play_9 : decode cX7_play 9 = .ok (.aload_n 0, 1) := by decide +kernel
theorem dX7_play_10 : decode cX7_play 10 = .ok (.getfield 32, 3) := by decide +kernel
theorem dX7_play_13 : decode cX7_play 13 = .ok (.iload_n 1, 1) := by decide +kernel
theorem dX7_play_14 : decode cX7_play 14 = .ok (.iaload, 1) := by decide +kernel
theorem dX7_play_15 : decode cX7_play 15 = .ok (.ifCond .ge 6, 3) := by decide +kernel
theorem dX7_play_18 : decode cX7_play 18 = .ok (.bipush (-11), 2) := by decide +kernel
theorem dX7_play_20 : decode cX7_play 20 = .ok (.ireturn, 1) := by decide +kernel
theorem dX7_play_21 : decode cX7_play 21 = .ok (.iconst 0, 1) := by decide +kernel
theorem dX7_play_22 : decode cX7_play 22 = .ok (.istore_n 2, 1) := by decide +kernel
theorem dX7_play_23 : decode cX7_play 23 = .ok (.iload_n 2, 1) := by decide +kernel
theorem dX7_play_24 : decode cX7_play 24 = .ok (.aload_n 0, 1) := by decide +kernel
theorem dX7_play_25 : decode cX7_play 25 = .ok (.getfield 32, 3) := by decide +kernel
theorem dX7_play_28 : decode cX7_play 28 = .ok (.iload_n 1, 1) := by decide +kernel
theorem dX7_play_29 : decode cX7_play 29 = .ok (.iaload, 1) := by decide +kernel
theorem dX7_play_30 : decode cX7_play 30 = .ok (.if_icmp .ge 105, 3) := by decide +kernel
theorem dX7_play_33 : decode cX7_play 33 = .ok (.aload_n 0, 1) := by decide +kernel
theorem dX7_play_34 : decode cX7_play 34 = .ok (.getfield 28, 3) := by decide +kernel
theorem dX7_play_37 : decode cX7_play 37 = .ok (.bipush 20, 2) := by decide +kernel
theorem dX7_play_39 : decode cX7_play 39 = .ok (.iload_n 1, 1) := by decide +kernel
theorem dX7_play_40 : decode cX7_play 40 = .ok (.imul, 1) := by decide +kernel
theorem dX7_play_41 : decode cX7_play 41 = .ok (.iload_n 2, 1) := by decide +kernel
theorem dX7_play_42 : decode cX7_play 42 = .ok (.iadd, 1) := by decide +kernel
theorem dX7_play_43 : decode cX7_play 43 = .ok (.laload, 1) := by decide +kernel
theorem dX7_play_44 : decode cX7_play 44 = .ok (.lstore_n 3, 1) := by decide +kernel
theorem dX7_play_45 : decode cX7_play 45 = .ok (.lload_n 3, 1) := by decide +kernel
theorem dX7_play_46 : decode cX7_play 46 = .ok (.aload_n 0, 1) := by decide +kernel
theorem dX7_play_47 : decode cX7_play 47 = .ok (.getfield 9, 3) := by decide +kernel
theorem dX7_play_50 : decode cX7_play 50 = .ok (.ineg, 1) := by decide +kernel
theorem dX7_play_51 : decode cX7_play 51 = .ok (.i2l, 1) := by decide +kernel
theorem dX7_play_52 : decode cX7_play 52 = .ok (.aload_n 0, 1) := by decide +kernel
theorem dX7_play_53 : decode cX7_play 53 = .ok (.getfield 9, 3) := by decide +kernel
theorem dX7_play_56 : decode cX7_play 56 = .ok (.iconst 1, 1) := by decide +kernel
theorem dX7_play_57 : decode cX7_play 57 = .ok (.isub, 1) := by decide +kernel
theorem dX7_play_58 : decode cX7_play 58 = .ok (.i2l, 1) := by decide +kernel
theorem dX7_play_59 : decode cX7_play 59 = .ok (.invokestatic 85, 3) := by decide +kernel
theorem dX7_play_62 : decode cX7_play 62 = .ok (.ifCond .ne 5, 3) := by decide +kernel
theorem dX7_play_65 : decode cX7_play 65 = .ok (.iload_n 2, 1) := by decide +kernel
theorem dX7_play_66 : decode cX7_play 66 = .ok (.ireturn, 1) := by decide +kernel
theorem dX7_play_67 : decode cX7_play 67 = .ok (.lload_n 3, 1) := by decide +kernel
theorem dX7_play_68 : decode cX7_play 68 = .ok (.lconst 0, 1) := by decide +kernel
theorem dX7_play_69 : decode cX7_play 69 = .ok (.lcmp, 1) := by decide +kernel
theorem dX7_play_70 : decode cX7_play 70 = .ok (.ifCond .lt 20, 3) := by decide +kernel
theorem dX7_play_73 : decode cX7_play 73 = .ok (.aload_n 0, 1) := by decide +kernel
theorem dX7_play_74 : decode cX7_play 74 = .ok (.aload_n 0, 1) := by decide +kernel
theorem dX7_play_75 : decode cX7_play 75 = .ok (.getfield 118, 3) := by decide +kernel
theorem dX7_play_78 : decode cX7_play 78 = .ok (.aload_n 0, 1) := by decide +kernel
theorem dX7_play_79 : decode cX7_play 79 = .ok (.getfield 9, 3) := by decide +kernel
theorem dX7_play_82 : decode cX7_play 82 = .ok (.lload_n 3, 1) := by decide +kernel
theorem dX7_play_83 : decode cX7_play 83 = .ok (.l2i, 1) := by decide +kernel
theorem dX7_play_84 : decode cX7_play 84 = .ok (.invokevirtual 143, 3) := by decide +kernel
theorem dX7_play_87 : decode cX7_play 87 = .ok (.goto 21, 3) := by decide +kernel
theorem dX7_play_90 : decode cX7_play 90 = .ok (.aload_n 0, 1) := by decide +kernel
theorem dX7_play_91 : decode cX7_play 91 = .ok (.aload_n 0, 1) := by decide +kernel
theorem dX7_play_92 : decode cX7_play 92 = .ok (.getfield 118, 3) := by decide +kernel
theorem dX7_play_95 : decode cX7_play 95 = .ok (.aload_n 0, 1) := by decide +kernel
theorem dX7_play_96 : decode cX7_play 96 = .ok (.getfield 9, 3) := by decide +kernel
theorem dX7_play_99 : decode cX7_play 99 = .ok (.ldc2_w 209, 3) := by decide +kernel
theorem dX7_play_102 : decode cX7_play 102 = .ok (.lload_n 3, 1) := by decide +kernel
theorem dX7_play_103 : decode cX7_play 103 = .ok (.lsub, 1) := by decide +kernel
theorem dX7_play_104 : decode cX7_play 104 = .ok (.l2i, 1) := by decide +kernel
theorem dX7_play_105 : decode cX7_play 105 = .ok (.invokevirtual 146, 3) := by decide +kernel
theorem dX7_play_108 : decode cX7_play 108 = .ok (.istore 5, 2) := by decide +kernel
theorem dX7_play_110 : decode cX7_play 110 = .ok (.iload 5, 2) := by decide +kernel
theorem dX7_play_112 : decode cX7_play 112 = .ok (.bipush (-5), 2) := by decide +kernel
theorem dX7_play_114 : decode cX7_play 114 = .ok (.if_icmp .ne 5, 3) := by decide +kernel
theorem dX7_play_117 : decode cX7_play 117 = .ok (.iload_n 2, 1) := by decide +kernel
theorem dX7_play_118 : decode cX7_play 118 = .ok (.ireturn, 1) := by decide +kernel
theorem dX7_play_119 : decode cX7_play 119 = .ok (.aload_n 0, 1) := by decide +kernel
theorem dX7_play_120 : decode cX7_play 120 = .ok (.aload_n 0, 1) := by decide +kernel
theorem dX7_play_121 : decode cX7_play 121 = .ok (.getfield 9, 3) := by decide +kernel
theorem dX7_play_124 : decode cX7_play 124 = .ok (.iload 5, 2) := by decide +kernel
theorem dX7_play_126 : decode cX7_play 126 = .ok (.invokevirtual 126, 3) := by decide +kernel
theorem dX7_play_129 : decode cX7_play 129 = .ok (.iinc 2 1, 3) := by decide +kernel
theorem dX7_play_132 : decode cX7_play 132 = .ok (.goto (-109), 3) := by decide +kernel
theorem dX7_play_135 : decode cX7_play 135 = .ok (.aload_n 0, 1) := by decide +kernel
theorem dX7_play_136 : decode cX7_play 136 = .ok (.getfield 32, 3) := by decide +kernel
theorem dX7_play_139 : decode cX7_play 139 = .ok (.iload_n 1, 1) := by decide +kernel
theorem dX7_play_140 : decode cX7_play 140 = .ok (.iaload, 1) := by decide +kernel
theorem dX7_play_141 : decode cX7_play 141 = .ok (.ireturn, 1) := by decide +kernel
theorem dX7_film_0 : decode cX7_film 0 = .ok (.iload_n 1, 1) := by decide +kernel
theorem dX7_film_1 : decode cX7_film 1 = .ok (.invokestatic 201, 3) := by decide +kernel
theorem dX7_film_4 : decode cX7_film 4 = .ok (.ifCond .eq 10, 3) := by decide +kernel
theorem dX7_film_7 : decode cX7_film 7 = .ok (.iload_n 2, 1) := by decide +kernel
theorem dX7_film_8 : decode cX7_film 8 = .ok (.invokestatic 159, 3) := by decide +kernel
theorem dX7_film_11 : decode cX7_film 11 = .ok (.ifCond .ne 5, 3) := by decide +kernel
theorem dX7_film_14 : decode cX7_film 14 = .ok (.iconst (-1), 1) := by decide +kernel
theorem dX7_film_15 : decode cX7_film 15 = .ok (.ireturn, 1) := by decide +kernel
theorem dX7_film_16 : decode cX7_film 16 = .ok (.aload_n 0, 1) := by decide +kernel
theorem dX7_film_17 : decode cX7_film 17 = .ok (.iload_n 2, 1) := by decide +kernel
theorem dX7_film_18 : decode cX7_film 18 = .ok (.invokevirtual 162, 3) := by decide +kernel
theorem dX7_film_21 : decode cX7_film 21 = .ok (.istore_n 3, 1) := by decide +kernel
theorem dX7_film_22 : decode cX7_film 22 = .ok (.iload_n 3, 1) := by decide +kernel
theorem dX7_film_23 : decode cX7_film 23 = .ok (.ifCond .eq 5, 3) := by decide +kernel
theorem dX7_film_26 : decode cX7_film 26 = .ok (.iload_n 3, 1) := by decide +kernel
theorem dX7_film_27 : decode cX7_film 27 = .ok (.ireturn, 1) := by decide +kernel
theorem dX7_film_28 : decode cX7_film 28 = .ok (.aload_n 0, 1) := by decide +kernel
theorem dX7_film_29 : decode cX7_film 29 = .ok (.aload_n 0, 1) := by decide +kernel
theorem dX7_film_30 : decode cX7_film 30 = .ok (.getfield 19, 3) := by decide +kernel
theorem dX7_film_33 : decode cX7_film 33 = .ok (.iload_n 2, 1) := by decide +kernel
theorem dX7_film_34 : decode cX7_film 34 = .ok (.iaload, 1) := by decide +kernel
theorem dX7_film_35 : decode cX7_film 35 = .ok (.iconst 0, 1) := by decide +kernel
theorem dX7_film_36 : decode cX7_film 36 = .ok (.invokevirtual 176, 3) := by decide +kernel
theorem dX7_film_39 : decode cX7_film 39 = .ok (.aload_n 0, 1) := by decide +kernel
theorem dX7_film_40 : decode cX7_film 40 = .ok (.getfield 62, 3) := by decide +kernel
theorem dX7_film_43 : decode cX7_film 43 = .ok (.aload_n 0, 1) := by decide +kernel
theorem dX7_film_44 : decode cX7_film 44 = .ok (.invokevirtual 129, 3) := by decide +kernel
theorem dX7_film_47 : decode cX7_film 47 = .ok (.iaload, 1) := by decide +kernel
theorem dX7_film_48 : decode cX7_film 48 = .ok (.istore 4, 2) := by decide +kernel
theorem dX7_film_50 : decode cX7_film 50 = .ok (.iload 4, 2) := by decide +kernel
theorem dX7_film_52 : decode cX7_film 52 = .ok (.bipush 20, 2) := by decide +kernel
theorem dX7_film_54 : decode cX7_film 54 = .ok (.if_icmp .le 6, 3) := by decide +kernel
theorem dX7_film_57 : decode cX7_film 57 = .ok (.bipush (-4), 2) := by decide +kernel
theorem dX7_film_59 : decode cX7_film 59 = .ok (.ireturn, 1) := by decide +kernel
theorem dX7_film_60 : decode cX7_film 60 = .ok (.aload_n 0, 1) := by decide +kernel
theorem dX7_film_61 : decode cX7_film 61 = .ok (.iload_n 1, 1) := by decide +kernel
theorem dX7_film_62 : decode cX7_film 62 = .ok (.iload 4, 2) := by decide +kernel
theorem dX7_film_64 : decode cX7_film 64 = .ok (.invokevirtual 204, 3) := by decide +kernel
theorem dX7_film_67 : decode cX7_film 67 = .ok (.aload_n 0, 1) := by decide +kernel
theorem dX7_film_68 : decode cX7_film 68 = .ok (.getfield 118, 3) := by decide +kernel
theorem dX7_film_71 : decode cX7_film 71 = .ok (.istore 5, 2) := by decide +kernel
theorem dX7_film_73 : decode cX7_film 73 = .ok (.iconst 0, 1) := by decide +kernel
theorem dX7_film_74 : decode cX7_film 74 = .ok (.istore 6, 2) := by decide +kernel
theorem dX7_film_76 : decode cX7_film 76 = .ok (.iload 6, 2) := by decide +kernel
theorem dX7_film_78 : decode cX7_film 78 = .ok (.iload 4, 2) := by decide +kernel
theorem dX7_film_80 : decode cX7_film 80 = .ok (.if_icmp .ge 90, 3) := by decide +kernel
theorem dX7_film_83 : decode cX7_film 83 = .ok (.aload_n 0, 1) := by decide +kernel
theorem dX7_film_84 : decode cX7_film 84 = .ok (.iload 5, 2) := by decide +kernel
theorem dX7_film_86 : decode cX7_film 86 = .ok (.invokevirtual 180, 3) := by decide +kernel
theorem dX7_film_89 : decode cX7_film 89 = .ok (.istore 7, 2) := by decide +kernel
theorem dX7_film_91 : decode cX7_film 91 = .ok (.iload 7, 2) := by decide +kernel
theorem dX7_film_93 : decode cX7_film 93 = .ok (.bipush 100, 2) := by decide +kernel
theorem dX7_film_95 : decode cX7_film 95 = .ok (.irem, 1) := by decide +kernel
theorem dX7_film_96 : decode cX7_film 96 = .ok (.istore 8, 2) := by decide +kernel
theorem dX7_film_98 : decode cX7_film 98 = .ok (.aload_n 0, 1) := by decide +kernel
theorem dX7_film_99 : decode cX7_film 99 = .ok (.getfield 28, 3) := by decide +kernel
theorem dX7_film_102 : decode cX7_film 102 = .ok (.bipush 20, 2) := by decide +kernel
theorem dX7_film_104 : decode cX7_film 104 = .ok (.iload_n 1, 1) := by decide +kernel
theorem dX7_film_105 : decode cX7_film 105 = .ok (.imul, 1) := by decide +kernel
theorem dX7_film_106 : decode cX7_film 106 = .ok (.iload 6, 2) := by decide +kernel
theorem dX7_film_108 : decode cX7_film 108 = .ok (.iadd, 1) := by decide +kernel
theorem dX7_film_109 : decode cX7_film 109 = .ok (.iload 7, 2) := by decide +kernel
theorem dX7_film_111 : decode cX7_film 111 = .ok (.bipush 100, 2) := by decide +kernel
theorem dX7_film_113 : decode cX7_film 113 = .ok (.if_icmp .ge 9, 3) := by decide +kernel
theorem dX7_film_116 : decode cX7_film 116 = .ok (.iload 8, 2) := by decide +kernel
theorem dX7_film_118 : decode cX7_film 118 = .ok (.i2l, 1) := by decide +kernel
theorem dX7_film_119 : decode cX7_film 119 = .ok (.goto 8, 3) := by decide +kernel
theorem dX7_film_122 : decode cX7_film 122 = .ok (.iconst (-1), 1) := by decide +kernel
theorem dX7_film_123 : decode cX7_film 123 = .ok (.iload 8, 2) := by decide +kernel
theorem dX7_film_125 : decode cX7_film 125 = .ok (.isub, 1) := by decide +kernel
theorem dX7_film_126 : decode cX7_film 126 = .ok (.i2l, 1) := by decide +kernel
theorem dX7_film_127 : decode cX7_film 127 = .ok (.lastore, 1) := by decide +kernel
theorem dX7_film_128 : decode cX7_film 128 = .ok (.iload 7, 2) := by decide +kernel
theorem dX7_film_130 : decode cX7_film 130 = .ok (.bipush 100, 2) := by decide +kernel
theorem dX7_film_132 : decode cX7_film 132 = .ok (.if_icmp .ge 18, 3) := by decide +kernel
theorem dX7_film_135 : decode cX7_film 135 = .ok (.aload_n 0, 1) := by decide +kernel
theorem dX7_film_136 : decode cX7_film 136 = .ok (.iload 5, 2) := by decide +kernel
theorem dX7_film_138 : decode cX7_film 138 = .ok (.aload_n 0, 1) := by decide +kernel
theorem dX7_film_139 : decode cX7_film 139 = .ok (.getfield 9, 3) := by decide +kernel
theorem dX7_film_142 : decode cX7_film 142 = .ok (.iload 8, 2) := by decide +kernel
theorem dX7_film_144 : decode cX7_film 144 = .ok (.invokevirtual 143, 3) := by decide +kernel
theorem dX7_film_147 : decode cX7_film 147 = .ok (.goto 15, 3) := by decide +kernel
theorem dX7_film_150 : decode cX7_film 150 = .ok (.aload_n 0, 1) := by decide +kernel
theorem dX7_film_151 : decode cX7_film 151 = .ok (.iload 5, 2) := by decide +kernel
theorem dX7_film_153 : decode cX7_film 153 = .ok (.aload_n 0, 1) := by decide +kernel
theorem dX7_film_154 : decode cX7_film 154 = .ok (.getfield 9, 3) := by decide +kernel
theorem dX7_film_157 : decode cX7_film 157 = .ok (.iload 8, 2) := by decide +kernel
theorem dX7_film_159 : decode cX7_film 159 = .ok (.invokevirtual 146, 3) := by decide +kernel
theorem dX7_film_162 : decode cX7_film 162 = .ok (.istore 5, 2) := by decide +kernel
theorem dX7_film_164 : decode cX7_film 164 = .ok (.iinc 6 1, 3) := by decide +kernel
theorem dX7_film_167 : decode cX7_film 167 = .ok (.goto (-91), 3) := by decide +kernel
theorem dX7_film_170 : decode cX7_film 170 = .ok (.iload 4, 2) := by decide +kernel
theorem dX7_film_172 : decode cX7_film 172 = .ok (.ireturn, 1) := by decide +kernel
theorem dX7_feed_0 : decode cX7_feed 0 = .ok (.iload_n 1, 1) := by decide +kernel
theorem dX7_feed_1 : decode cX7_feed 1 = .ok (.i2l, 1) := by decide +kernel
theorem dX7_feed_2 : decode cX7_feed 2 = .ok (.ldc2_w 211, 3) := by decide +kernel
theorem dX7_feed_5 : decode cX7_feed 5 = .ok (.ldc2_w 213, 3) := by decide +kernel
theorem dX7_feed_8 : decode cX7_feed 8 = .ok (.invokestatic 85, 3) := by decide +kernel
theorem dX7_feed_11 : decode cX7_feed 11 = .ok (.ifCond .ne 6, 3) := by decide +kernel
theorem dX7_feed_14 : decode cX7_feed 14 = .ok (.bipush (-2), 2) := by decide +kernel
theorem dX7_feed_16 : decode cX7_feed 16 = .ok (.ireturn, 1) := by decide +kernel
theorem dX7_feed_17 : decode cX7_feed 17 = .ok (.aload_n 0, 1) := by decide +kernel
theorem dX7_feed_18 : decode cX7_feed 18 = .ok (.getfield 215, 3) := by decide +kernel
theorem dX7_feed_21 : decode cX7_feed 21 = .ok (.bipush 60, 2) := by decide +kernel
theorem dX7_feed_23 : decode cX7_feed 23 = .ok (.if_icmp .ne 6, 3) := by decide +kernel
theorem dX7_feed_26 : decode cX7_feed 26 = .ok (.bipush (-4), 2) := by decide +kernel
theorem dX7_feed_28 : decode cX7_feed 28 = .ok (.ireturn, 1) := by decide +kernel
theorem dX7_feed_29 : decode cX7_feed 29 = .ok (.aload_n 0, 1) := by decide +kernel
theorem dX7_feed_30 : decode cX7_feed 30 = .ok (.getfield 35, 3) := by decide +kernel
theorem dX7_feed_33 : decode cX7_feed 33 = .ok (.aload_n 0, 1) := by decide +kernel
theorem dX7_feed_34 : decode cX7_feed 34 = .ok (.dup, 1) := by decide +kernel
theorem dX7_feed_35 : decode cX7_feed 35 = .ok (.getfield 215, 3) := by decide +kernel
theorem dX7_feed_38 : decode cX7_feed 38 = .ok (.dup_x1, 1) := by decide +kernel
theorem dX7_feed_39 : decode cX7_feed 39 = .ok (.iconst 1, 1) := by decide +kernel
theorem dX7_feed_40 : decode cX7_feed 40 = .ok (.iadd, 1) := by decide +kernel
theorem dX7_feed_41 : decode cX7_feed 41 = .ok (.putfield 215, 3) := by decide +kernel
theorem dX7_feed_44 : decode cX7_feed 44 = .ok (.iload_n 1, 1) := by decide +kernel
theorem dX7_feed_45 : decode cX7_feed 45 = .ok (.iastore, 1) := by decide +kernel
theorem dX7_feed_46 : decode cX7_feed 46 = .ok (.aload_n 0, 1) := by decide +kernel
theorem dX7_feed_47 : decode cX7_feed 47 = .ok (.getfield 215, 3) := by decide +kernel
theorem dX7_feed_50 : decode cX7_feed 50 = .ok (.ireturn, 1) := by decide +kernel
theorem dX7_wipe_0 : decode cX7_wipe 0 = .ok (.aload_n 0, 1) := by decide +kernel
theorem dX7_wipe_1 : decode cX7_wipe 1 = .ok (.getfield 215, 3) := by decide +kernel
theorem dX7_wipe_4 : decode cX7_wipe 4 = .ok (.istore_n 1, 1) := by decide +kernel
theorem dX7_wipe_5 : decode cX7_wipe 5 = .ok (.aload_n 0, 1) := by decide +kernel
theorem dX7_wipe_6 : decode cX7_wipe 6 = .ok (.iconst 0, 1) := by decide +kernel
theorem dX7_wipe_7 : decode cX7_wipe 7 = .ok (.putfield 215, 3) := by decide +kernel
theorem dX7_wipe_10 : decode cX7_wipe 10 = .ok (.iload_n 1, 1) := by decide +kernel
theorem dX7_wipe_11 : decode cX7_wipe 11 = .ok (.ireturn, 1) := by decide +kernel
theorem dX7_sign_0 : decode cX7_sign 0 = .ok (.aload_n 0, 1) := by decide +kernel
theorem dX7_sign_1 : decode cX7_sign 1 = .ok (.getfield 218, 3) := by decide +kernel
theorem dX7_sign_4 : decode cX7_sign 4 = .ok (.aload_n 0, 1) := by decide +kernel
theorem dX7_sign_5 : decode cX7_sign 5 = .ok (.getfield 215, 3) := by decide +kernel
theorem dX7_sign_8 : decode cX7_sign 8 = .ok (.if_icmp .ge 15, 3) := by decide +kernel
theorem dX7_sign_11 : decode cX7_sign 11 = .ok (.aload_n 0, 1) := by decide +kernel
theorem dX7_sign_12 : decode cX7_sign 12 = .ok (.getfield 35, 3) := by decide +kernel
theorem dX7_sign_15 : decode cX7_sign 15 = .ok (.aload_n 0, 1) := by decide +kernel
theorem dX7_sign_16 : decode cX7_sign 16 = .ok (.getfield 218, 3) := by decide +kernel
theorem dX7_sign_19 : decode cX7_sign 19 = .ok (.iaload, 1) := by decide +kernel
theorem dX7_sign_20 : decode cX7_sign 20 = .ok (.goto 4, 3) := by decide +kernel
theorem dX7_sign_23 : decode cX7_sign 23 = .ok (.iconst (-1), 1) := by decide +kernel
theorem dX7_sign_24 : decode cX7_sign 24 = .ok (.ireturn, 1) := by decide +kernel
theorem dX7_sees_0 : decode cX7_sees 0 = .ok (.aload_n 0, 1) := by decide +kernel
theorem dX7_sees_1 : decode cX7_sees 1 = .ok (.invokevirtual 220, 3) := by decide +kernel
theorem dX7_sees_4 : decode cX7_sees 4 = .ok (.bipush 46, 2) := by decide +kernel
theorem dX7_sees_6 : decode cX7_sees 6 = .ok (.if_icmp .ne 24, 3) := by decide +kernel
theorem dX7_sees_9 : decode cX7_sees 9 = .ok (.iload_n 1, 1) := by decide +kernel
theorem dX7_sees_10 : decode cX7_sees 10 = .ok (.ifCond .eq 20, 3) := by decide +kernel
theorem dX7_sees_13 : decode cX7_sees 13 = .ok (.aload_n 0, 1) := by decide +kernel
theorem dX7_sees_14 : decode cX7_sees 14 = .ok (.dup, 1) := by decide +kernel
theorem dX7_sees_15 : decode cX7_sees 15 = .ok (.getfield 218, 3) := by decide +kernel
theorem dX7_sees_18 : decode cX7_sees 18 = .ok (.iconst 1, 1) := by decide +kernel
theorem dX7_sees_19 : decode cX7_sees 19 = .ok (.iadd, 1) := by decide +kernel
theorem dX7_sees_20 : decode cX7_sees 20 = .ok (.putfield 218, 3) := by decide +kernel
theorem dX7_sees_23 : decode cX7_sees 23 = .ok (.aload_n 0, 1) := by decide +kernel
theorem dX7_sees_24 : decode cX7_sees 24 = .ok (.iconst 0, 1) := by decide +kernel
theorem dX7_sees_25 : decode cX7_sees 25 = .ok (.putfield 223, 3) := by decide +kernel
theorem dX7_sees_28 : decode cX7_sees 28 = .ok (.iconst 1, 1) := by decide +kernel
theorem dX7_sees_29 : decode cX7_sees 29 = .ok (.ireturn, 1) := by decide +kernel
theorem dX7_sees_30 : decode cX7_sees 30 = .ok (.aload_n 0, 1) := by decide +kernel
theorem dX7_sees_31 : decode cX7_sees 31 = .ok (.invokevirtual 220, 3) := by decide +kernel
theorem dX7_sees_34 : decode cX7_sees 34 = .ok (.bipush 40, 2) := by decide +kernel
theorem dX7_sees_36 : decode cX7_sees 36 = .ok (.if_icmp .ne 12, 3) := by decide +kernel
theorem dX7_sees_39 : decode cX7_sees 39 = .ok (.aload_n 0, 1) := by decide +kernel
theorem dX7_sees_40 : decode cX7_sees 40 = .ok (.getfield 226, 3) := by decide +kernel
theorem dX7_sees_43 : decode cX7_sees 43 = .ok (.bipush 7, 2) := by decide +kernel
theorem dX7_sees_45 : decode cX7_sees 45 = .ok (.if_icmp .ne 5, 3) := by decide +kernel
theorem dX7_sees_48 : decode cX7_sees 48 = .ok (.iconst 0, 1) := by decide +kernel
theorem dX7_sees_49 : decode cX7_sees 49 = .ok (.ireturn, 1) := by decide +kernel
theorem dX7_sees_50 : decode cX7_sees 50 = .ok (.aload_n 0, 1) := by decide +kernel
theorem dX7_sees_51 : decode cX7_sees 51 = .ok (.dup, 1) := by decide +kernel
theorem dX7_sees_52 : decode cX7_sees 52 = .ok (.getfield 226, 3) := by decide +kernel
theorem dX7_sees_55 : decode cX7_sees 55 = .ok (.iconst 1, 1) := by decide +kernel
theorem dX7_sees_56 : decode cX7_sees 56 = .ok (.iadd, 1) := by decide +kernel
theorem dX7_sees_57 : decode cX7_sees 57 = .ok (.putfield 226, 3) := by decide +kernel
theorem dX7_sees_60 : decode cX7_sees 60 = .ok (.aload_n 0, 1) := by decide +kernel
theorem dX7_sees_61 : decode cX7_sees 61 = .ok (.dup, 1) := by decide +kernel
theorem dX7_sees_62 : decode cX7_sees 62 = .ok (.getfield 218, 3) := by decide +kernel
theorem dX7_sees_65 : decode cX7_sees 65 = .ok (.iconst 1, 1) := by decide +kernel
theorem dX7_sees_66 : decode cX7_sees 66 = .ok (.iadd, 1) := by decide +kernel
theorem dX7_sees_67 : decode cX7_sees 67 = .ok (.putfield 218, 3) := by decide +kernel
theorem dX7_sees_70 : decode cX7_sees 70 = .ok (.aload_n 0, 1) := by decide +kernel
theorem dX7_sees_71 : decode cX7_sees 71 = .ok (.iconst 1, 1) := by decide +kernel
theorem dX7_sees_72 : decode cX7_sees 72 = .ok (.invokevirtual 229, 3) := by decide +kernel
theorem dX7_sees_75 : decode cX7_sees 75 = .ok (.ifCond .ne 5, 3) := by decide +kernel
theorem dX7_sees_78 : decode cX7_sees 78 = .ok (.iconst 0, 1) := by decide +kernel
theorem dX7_sees_79 : decode cX7_sees 79 = .ok (.ireturn, 1) := by decide +kernel
theorem dX7_sees_80 : decode cX7_sees 80 = .ok (.aload_n 0, 1) := by decide +kernel
theorem dX7_sees_81 : decode cX7_sees 81 = .ok (.getfield 223, 3) := by decide +kernel
theorem dX7_sees_84 : decode cX7_sees 84 = .ok (.istore_n 2, 1) := by decide +kernel
theorem dX7_sees_85 : decode cX7_sees 85 = .ok (.aload_n 0, 1) := by decide +kernel
theorem dX7_sees_86 : decode cX7_sees 86 = .ok (.dup, 1) := by decide +kernel
theorem dX7_sees_87 : decode cX7_sees 87 = .ok (.getfield 233, 3) := by decide +kernel
theorem dX7_sees_90 : decode cX7_sees 90 = .ok (.dup_x1, 1) := by decide +kernel
theorem dX7_sees_91 : decode cX7_sees 91 = .ok (.iconst 1, 1) := by decide +kernel
theorem dX7_sees_92 : decode cX7_sees 92 = .ok (.iadd, 1) := by decide +kernel
theorem dX7_sees_93 : decode cX7_sees 93 = .ok (.putfield 233, 3) := by decide +kernel
theorem dX7_sees_96 : decode cX7_sees 96 = .ok (.istore_n 3, 1) := by decide +kernel
theorem dX7_sees_97 : decode cX7_sees 97 = .ok (.aload_n 0, 1) := by decide +kernel
theorem dX7_sees_98 : decode cX7_sees 98 = .ok (.iconst 1, 1) := by decide +kernel
theorem dX7_sees_99 : decode cX7_sees 99 = .ok (.invokevirtual 229, 3) := by decide +kernel
theorem dX7_sees_102 : decode cX7_sees 102 = .ok (.ifCond .ne 5, 3) := by decide +kernel
theorem dX7_sees_105 : decode cX7_sees 105 = .ok (.iconst 0, 1) := by decide +kernel
theorem dX7_sees_106 : decode cX7_sees 106 = .ok (.ireturn, 1) := by decide +kernel
theorem dX7_sees_107 : decode cX7_sees 107 = .ok (.aload_n 0, 1) := by decide +kernel
theorem dX7_sees_108 : decode cX7_sees 108 = .ok (.invokevirtual 220, 3) := by decide +kernel
theorem dX7_sees_111 : decode cX7_sees 111 = .ok (.bipush 41, 2) := by decide +kernel
theorem dX7_sees_113 : decode cX7_sees 113 = .ok (.if_icmp .eq 5, 3) := by decide +kernel
theorem dX7_sees_116 : decode cX7_sees 116 = .ok (.iconst 0, 1) := by decide +kernel
theorem dX7_sees_117 : decode cX7_sees 117 = .ok (.ireturn, 1) := by decide +kernel
theorem dX7_sees_118 : decode cX7_sees 118 = .ok (.aload_n 0, 1) := by decide +kernel
theorem dX7_sees_119 : decode cX7_sees 119 = .ok (.dup, 1) := by decide +kernel
theorem dX7_sees_120 : decode cX7_sees 120 = .ok (.getfield 218, 3) := by decide +kernel
theorem dX7_sees_123 : decode cX7_sees 123 = .ok (.iconst 1, 1) := by decide +kernel
theorem dX7_sees_124 : decode cX7_sees 124 = .ok (.iadd, 1) := by decide +kernel
theorem dX7_sees_125 : decode cX7_sees 125 = .ok (.putfield 218, 3) := by decide +kernel
theorem dX7_sees_128 : decode cX7_sees 128 = .ok (.aload_n 0, 1) := by decide +kernel
theorem dX7_sees_129 : decode cX7_sees 129 = .ok (.getfield 74, 3) := by decide +kernel
theorem dX7_sees_132 : decode cX7_sees 132 = .ok (.iload_n 3, 1) := by decide +kernel
theorem dX7_sees_133 : decode cX7_sees 133 = .ok (.aload_n 0, 1) := by decide +kernel
theorem dX7_sees_134 : decode cX7_sees 134 = .ok (.getfield 223, 3) := by decide +kernel
theorem dX7_sees_137 : decode cX7_sees 137 = .ok (.iastore, 1) := by decide +kernel
theorem dX7_sees_138 : decode cX7_sees 138 = .ok (.aload_n 0, 1) := by decide +kernel
theorem dX7_sees_139 : decode cX7_sees 139 = .ok (.dup, 1) := by decide +kernel
theorem dX7_sees_140 : decode cX7_sees 140 = .ok (.getfield 223, 3) := by decide +kernel
theorem dX7_sees_143 : decode cX7_sees 143 = .ok (.iload_n 2, 1) := by decide +kernel
theorem dX7_sees_144 : decode cX7_sees 144 = .ok (.iconst 1, 1) := by decide +kernel
theorem dX7_sees_145 : decode cX7_sees 145 = .ok (.iadd, 1) := by decide +kernel
theorem dX7_sees_146 : decode cX7_sees 146 = .ok (.iadd, 1) := by decide +kernel
theorem dX7_sees_147 : decode cX7_sees 147 = .ok (.putfield 223, 3) := by decide +kernel
theorem dX7_sees_150 : decode cX7_sees 150 = .ok (.iconst 1, 1) := by decide +kernel
theorem dX7_sees_151 : decode cX7_sees 151 = .ok (.ireturn, 1) := by decide +kernel
theorem dX7_read_0 : decode cX7_read 0 = .ok (.aload_n 0, 1) := by decide +kernel
theorem dX7_read_1 : decode cX7_read 1 = .ok (.iconst 0, 1) := by decide +kernel
theorem dX7_read_2 : decode cX7_read 2 = .ok (.putfield 218, 3) := by decide +kernel
theorem dX7_read_5 : decode cX7_read 5 = .ok (.aload_n 0, 1) := by decide +kernel
theorem dX7_read_6 : decode cX7_read 6 = .ok (.iconst 0, 1) := by decide +kernel
theorem dX7_read_7 : decode cX7_read 7 = .ok (.putfield 226, 3) := by decide +kernel
theorem dX7_read_10 : decode cX7_read 10 = .ok (.aload_n 0, 1) := by decide +kernel
theorem dX7_read_11 : decode cX7_read 11 = .ok (.iconst 0, 1) := by decide +kernel
theorem dX7_read_12 : decode cX7_read 12 = .ok (.putfield 233, 3) := by decide +kernel
theorem dX7_read_15 : decode cX7_read 15 = .ok (.aload_n 0, 1) := by decide +kernel
theorem dX7_read_16 : decode cX7_read 16 = .ok (.iconst 0, 1) := by decide +kernel
theorem dX7_read_17 : decode cX7_read 17 = .ok (.invokevirtual 229, 3) := by decide +kernel
theorem dX7_read_20 : decode cX7_read 20 = .ok (.ifCond .eq 18, 3) := by decide +kernel
theorem dX7_read_23 : decode cX7_read 23 = .ok (.aload_n 0, 1) := by decide +kernel
theorem dX7_read_24 : decode cX7_read 24 = .ok (.getfield 218, 3) := by decide +kernel
theorem dX7_read_27 : decode cX7_read 27 = .ok (.aload_n 0, 1) := by decide +kernel
theorem dX7_read_28 : decode cX7_read 28 = .ok (.getfield 215, 3) := by decide +kernel
theorem dX7_read_31 : decode cX7_read 31 = .ok (.if_icmp .ne 7, 3) := by decide +kernel
theorem dX7_read_34 : decode cX7_read 34 = .ok (.iconst 1, 1) := by decide +kernel
theorem dX7_read_35 : decode cX7_read 35 = .ok (.goto 4, 3) := by decide +kernel
theorem dX7_read_38 : decode cX7_read 38 = .ok (.iconst 0, 1) := by decide +kernel
theorem dX7_read_39 : decode cX7_read 39 = .ok (.istore_n 1, 1) := by decide +kernel
theorem dX7_read_40 : decode cX7_read 40 = .ok (.aload_n 0, 1) := by decide +kernel
theorem dX7_read_41 : decode cX7_read 41 = .ok (.iconst 0, 1) := by decide +kernel
theorem dX7_read_42 : decode cX7_read 42 = .ok (.putfield 215, 3) := by decide +kernel
theorem dX7_read_45 : decode cX7_read 45 = .ok (.iload_n 1, 1) := by decide +kernel
theorem dX7_read_46 : decode cX7_read 46 = .ok (.ifCond .ne 11, 3) := by decide +kernel
theorem dX7_read_49 : decode cX7_read 49 = .ok (.bipush (-100), 2) := by decide +kernel
theorem dX7_read_51 : decode cX7_read 51 = .ok (.aload_n 0, 1) := by decide +kernel
theorem dX7_read_52 : decode cX7_read 52 = .ok (.getfield 218, 3) := by decide +kernel
theorem dX7_read_55 : decode cX7_read 55 = .ok (.isub, 1) := by decide +kernel
theorem dX7_read_56 : decode cX7_read 56 = .ok (.ireturn, 1) := by decide +kernel
theorem dX7_read_57 : decode cX7_read 57 = .ok (.iconst 0, 1) := by decide +kernel
theorem dX7_read_58 : decode cX7_read 58 = .ok (.istore_n 2, 1) := by decide +kernel
theorem dX7_read_59 : decode cX7_read 59 = .ok (.iconst 0, 1) := by decide +kernel
theorem dX7_read_60 : decode cX7_read 60 = .ok (.istore_n 3, 1) := by decide +kernel
theorem dX7_read_61 : decode cX7_read 61 = .ok (.iload_n 3, 1) := by decide +kernel
theorem dX7_read_62 : decode cX7_read 62 = .ok (.aload_n 0, 1) := by decide +kernel
theorem dX7_read_63 : decode cX7_read 63 = .ok (.getfield 233, 3) := by decide +kernel
theorem dX7_read_66 : decode cX7_read 66 = .ok (.if_icmp .ge 21, 3) := by decide +kernel
theorem dX7_read_69 : decode cX7_read 69 = .ok (.bipush 10, 2) := by decide +kernel
theorem dX7_read_71 : decode cX7_read 71 = .ok (.iload_n 2, 1) := by decide +kernel
theorem dX7_read_72 : decode cX7_read 72 = .ok (.imul, 1) := by decide +kernel
theorem dX7_read_73 : decode cX7_read 73 = .ok (.aload_n 0, 1) := by decide +kernel
theorem dX7_read_74 : decode cX7_read 74 = .ok (.getfield 74, 3) := by decide +kernel
theorem dX7_read_77 : decode cX7_read 77 = .ok (.iload_n 3, 1) := by decide +kernel
theorem dX7_read_78 : decode cX7_read 78 = .ok (.iaload, 1) := by decide +kernel
theorem dX7_read_79 : decode cX7_read 79 = .ok (.iadd, 1) := by decide +kernel
theorem dX7_read_80 : decode cX7_read 80 = .ok (.istore_n 2, 1) := by decide +kernel
theorem dX7_read_81 : decode cX7_read 81 = .ok (.iinc 3 1, 3) := by decide +kernel
theorem dX7_read_84 : decode cX7_read 84 = .ok (.goto (-23), 3) := by decide +kernel
theorem dX7_read_87 : decode cX7_read 87 = .ok (.aload_n 0, 1) := by decide +kernel
theorem dX7_read_88 : decode cX7_read 88 = .ok (.aload_n 0, 1) := by decide +kernel
theorem dX7_read_89 : decode cX7_read 89 = .ok (.getfield 233, 3) := by decide +kernel
theorem dX7_read_92 : decode cX7_read 92 = .ok (.putfield 9, 3) := by decide +kernel
theorem dX7_read_95 : decode cX7_read 95 = .ok (.aload_n 0, 1) := by decide +kernel
theorem dX7_read_96 : decode cX7_read 96 = .ok (.iload_n 2, 1) := by decide +kernel
theorem dX7_read_97 : decode cX7_read 97 = .ok (.putfield 118, 3) := by decide +kernel
theorem dX7_read_100 : decode cX7_read 100 = .ok (.aload_n 0, 1) := by decide +kernel
theorem dX7_read_101 : decode cX7_read 101 = .ok (.iconst 0, 1) := by decide +kernel
theorem dX7_read_102 : decode cX7_read 102 = .ok (.putfield 121, 3) := by decide +kernel
theorem dX7_read_105 : decode cX7_read 105 = .ok (.aload_n 0, 1) := by decide +kernel
theorem dX7_read_106 : decode cX7_read 106 = .ok (.getfield 9, 3) := by decide +kernel
theorem dX7_read_109 : decode cX7_read 109 = .ok (.ireturn, 1) := by decide +kernel
theorem dX7_write_0 : decode cX7_write 0 = .ok (.iload_n 1, 1) := by decide +kernel
theorem dX7_write_1 : decode cX7_write 1 = .ok (.bipush (-5), 2) := by decide +kernel
theorem dX7_write_3 : decode cX7_write 3 = .ok (.if_icmp .ne 22, 3) := by decide +kernel
theorem dX7_write_6 : decode cX7_write 6 = .ok (.aload_n 0, 1) := by decide +kernel
theorem dX7_write_7 : decode cX7_write 7 = .ok (.getfield 71, 3) := by decide +kernel
theorem dX7_write_10 : decode cX7_write 10 = .ok (.aload_n 0, 1) := by decide +kernel
theorem dX7_write_11 : decode cX7_write 11 = .ok (.dup, 1) := by decide +kernel
theorem dX7_write_12 : decode cX7_write 12 = .ok (.getfield 236, 3) := by decide +kernel
theorem dX7_write_15 : decode cX7_write 15 = .ok (.dup_x1, 1) := by decide +kernel
theorem dX7_write_16 : decode cX7_write 16 = .ok (.iconst 1, 1) := by decide +kernel
theorem dX7_write_17 : decode cX7_write 17 = .ok (.iadd, 1) := by decide +kernel
theorem dX7_write_18 : decode cX7_write 18 = .ok (.putfield 236, 3) := by decide +kernel
theorem dX7_write_21 : decode cX7_write 21 = .ok (.bipush 46, 2) := by decide +kernel
theorem dX7_write_23 : decode cX7_write 23 = .ok (.iastore, 1) := by decide +kernel
theorem dX7_write_24 : decode cX7_write 24 = .ok (.return_, 1) := by decide +kernel
theorem dX7_write_25 : decode cX7_write 25 = .ok (.aload_n 0, 1) := by decide +kernel
theorem dX7_write_26 : decode cX7_write 26 = .ok (.getfield 71, 3) := by decide +kernel
theorem dX7_write_29 : decode cX7_write 29 = .ok (.aload_n 0, 1) := by decide +kernel
theorem dX7_write_30 : decode cX7_write 30 = .ok (.dup, 1) := by decide +kernel
theorem dX7_write_31 : decode cX7_write 31 = .ok (.getfield 236, 3) := by decide +kernel
theorem dX7_write_34 : decode cX7_write 34 = .ok (.dup_x1, 1) := by decide +kernel
theorem dX7_write_35 : decode cX7_write 35 = .ok (.iconst 1, 1) := by decide +kernel
theorem dX7_write_36 : decode cX7_write 36 = .ok (.iadd, 1) := by decide +kernel
theorem dX7_write_37 : decode cX7_write 37 = .ok (.putfield 236, 3) := by decide +kernel
theorem dX7_write_40 : decode cX7_write 40 = .ok (.bipush 40, 2) := by decide +kernel
theorem dX7_write_42 : decode cX7_write 42 = .ok (.iastore, 1) := by decide +kernel
theorem dX7_write_43 : decode cX7_write 43 = .ok (.aload_n 0, 1) := by decide +kernel
theorem dX7_write_44 : decode cX7_write 44 = .ok (.aload_n 0, 1) := by decide +kernel
theorem dX7_write_45 : decode cX7_write 45 = .ok (.getfield 50, 3) := by decide +kernel
theorem dX7_write_48 : decode cX7_write 48 = .ok (.iload_n 1, 1) := by decide +kernel
theorem dX7_write_49 : decode cX7_write 49 = .ok (.iaload, 1) := by decide +kernel
theorem dX7_write_50 : decode cX7_write 50 = .ok (.invokevirtual 239, 3) := by decide +kernel
theorem dX7_write_53 : decode cX7_write 53 = .ok (.aload_n 0, 1) := by decide +kernel
theorem dX7_write_54 : decode cX7_write 54 = .ok (.aload_n 0, 1) := by decide +kernel
theorem dX7_write_55 : decode cX7_write 55 = .ok (.getfield 53, 3) := by decide +kernel
theorem dX7_write_58 : decode cX7_write 58 = .ok (.iload_n 1, 1) := by decide +kernel
theorem dX7_write_59 : decode cX7_write 59 = .ok (.iaload, 1) := by decide +kernel
theorem dX7_write_60 : decode cX7_write 60 = .ok (.invokevirtual 239, 3) := by decide +kernel
theorem dX7_write_63 : decode cX7_write 63 = .ok (.aload_n 0, 1) := by decide +kernel
theorem dX7_write_64 : decode cX7_write 64 = .ok (.getfield 71, 3) := by decide +kernel
theorem dX7_write_67 : decode cX7_write 67 = .ok (.aload_n 0, 1) := by decide +kernel
theorem dX7_write_68 : decode cX7_write 68 = .ok (.dup, 1) := by decide +kernel
theorem dX7_write_69 : decode cX7_write 69 = .ok (.getfield 236, 3) := by decide +kernel
theorem dX7_write_72 : decode cX7_write 72 = .ok (.dup_x1, 1) := by decide +kernel
theorem dX7_write_73 : decode cX7_write 73 = .ok (.iconst 1, 1) := by decide +kernel
theorem dX7_write_74 : decode cX7_write 74 = .ok (.iadd, 1) := by decide +kernel
theorem dX7_write_75 : decode cX7_write 75 = .ok (.putfield 236, 3) := by decide +kernel
theorem dX7_write_78 : decode cX7_write 78 = .ok (.bipush 41, 2) := by decide +kernel
theorem dX7_write_80 : decode cX7_write 80 = .ok (.iastore, 1) := by decide +kernel
theorem dX7_write_81 : decode cX7_write 81 = .ok (.return_, 1) := by decide +kernel
theorem dX7_written_0 : decode cX7_written 0 = .ok (.aload_n 0, 1) := by decide +kernel
theorem dX7_written_1 : decode cX7_written 1 = .ok (.aload_n 0, 1) := by decide +kernel
theorem dX7_written_2 : decode cX7_written 2 = .ok (.getfield 118, 3) := by decide +kernel
theorem dX7_written_5 : decode cX7_written 5 = .ok (.aload_n 0, 1) := by decide +kernel
theorem dX7_written_6 : decode cX7_written 6 = .ok (.getfield 9, 3) := by decide +kernel
theorem dX7_written_9 : decode cX7_written 9 = .ok (.invokevirtual 110, 3) := by decide +kernel
theorem dX7_written_12 : decode cX7_written 12 = .ok (.aload_n 0, 1) := by decide +kernel
theorem dX7_written_13 : decode cX7_written 13 = .ok (.iconst 0, 1) := by decide +kernel
theorem dX7_written_14 : decode cX7_written 14 = .ok (.putfield 236, 3) := by decide +kernel
theorem dX7_written_17 : decode cX7_written 17 = .ok (.aload_n 0, 1) := by decide +kernel
theorem dX7_written_18 : decode cX7_written 18 = .ok (.aload_n 0, 1) := by decide +kernel
theorem dX7_written_19 : decode cX7_written 19 = .ok (.getfield 107, 3) := by decide +kernel
theorem dX7_written_22 : decode cX7_written 22 = .ok (.invokevirtual 239, 3) := by decide +kernel
theorem dX7_written_25 : decode cX7_written 25 = .ok (.iload_n 1, 1) := by decide +kernel
theorem dX7_written_26 : decode cX7_written 26 = .ok (.iconst (-1), 1) := by decide +kernel
theorem dX7_written_27 : decode cX7_written 27 = .ok (.if_icmp .ne 8, 3) := by decide +kernel
theorem dX7_written_30 : decode cX7_written 30 = .ok (.aload_n 0, 1) := by decide +kernel
theorem dX7_written_31 : decode cX7_written 31 = .ok (.getfield 236, 3) := by decide +kernel
theorem dX7_written_34 : decode cX7_written 34 = .ok (.ireturn, 1) := by decide +kernel
theorem dX7_written_35 : decode cX7_written 35 = .ok (.iload_n 1, 1) := by decide +kernel
theorem dX7_written_36 : decode cX7_written 36 = .ok (.i2l, 1) := by decide +kernel
theorem dX7_written_37 : decode cX7_written 37 = .ok (.lconst 0, 1) := by decide +kernel
theorem dX7_written_38 : decode cX7_written 38 = .ok (.aload_n 0, 1) := by decide +kernel
theorem dX7_written_39 : decode cX7_written 39 = .ok (.getfield 236, 3) := by decide +kernel
theorem dX7_written_42 : decode cX7_written 42 = .ok (.iconst 1, 1) := by decide +kernel
theorem dX7_written_43 : decode cX7_written 43 = .ok (.isub, 1) := by decide +kernel
theorem dX7_written_44 : decode cX7_written 44 = .ok (.i2l, 1) := by decide +kernel
theorem dX7_written_45 : decode cX7_written 45 = .ok (.invokestatic 85, 3) := by decide +kernel
theorem dX7_written_48 : decode cX7_written 48 = .ok (.ifCond .eq 12, 3) := by decide +kernel
theorem dX7_written_51 : decode cX7_written 51 = .ok (.aload_n 0, 1) := by decide +kernel
theorem dX7_written_52 : decode cX7_written 52 = .ok (.getfield 71, 3) := by decide +kernel
theorem dX7_written_55 : decode cX7_written 55 = .ok (.iload_n 1, 1) := by decide +kernel
theorem dX7_written_56 : decode cX7_written 56 = .ok (.iaload, 1) := by decide +kernel
theorem dX7_written_57 : decode cX7_written 57 = .ok (.goto 4, 3) := by decide +kernel
theorem dX7_written_60 : decode cX7_written 60 = .ok (.iconst (-1), 1) := by decide +kernel
theorem dX7_written_61 : decode cX7_written 61 = .ok (.ireturn, 1) := by decide +kernel
theorem dX7_image_0 : decode cX7_image 0 = .ok (.aload_n 0, 1) := by decide +kernel
theorem dX7_image_1 : decode cX7_image 1 = .ok (.iconst 1, 1) := by decide +kernel
theorem dX7_image_2 : decode cX7_image 2 = .ok (.putfield 242, 3) := by decide +kernel
theorem dX7_image_5 : decode cX7_image 5 = .ok (.aload_n 0, 1) := by decide +kernel
theorem dX7_image_6 : decode cX7_image 6 = .ok (.aload_n 0, 1) := by decide +kernel
theorem dX7_image_7 : decode cX7_image 7 = .ok (.getfield 9, 3) := by decide +kernel
theorem dX7_image_10 : decode cX7_image 10 = .ok (.putfield 246, 3) := by decide +kernel
theorem dX7_image_13 : decode cX7_image 13 = .ok (.aload_n 0, 1) := by decide +kernel
theorem dX7_image_14 : decode cX7_image 14 = .ok (.aload_n 0, 1) := by decide +kernel
theorem dX7_image_15 : decode cX7_image 15 = .ok (.getfield 118, 3) := by decide +kernel
theorem dX7_image_18 : decode cX7_image 18 = .ok (.putfield 249, 3) := by decide +kernel
theorem dX7_image_21 : decode cX7_image 21 = .ok (.iconst 0, 1) := by decide +kernel
theorem dX7_image_22 : decode cX7_image 22 = .ok (.istore_n 1, 1) := by decide +kernel
theorem dX7_image_23 : decode cX7_image 23 = .ok (.iload_n 1, 1) := by decide +kernel
theorem dX7_image_24 : decode cX7_image 24 = .ok (.iconst 4, 1) := by decide +kernel
theorem dX7_image_25 : decode cX7_image 25 = .ok (.if_icmp .ge 33, 3) := by decide +kernel
theorem dX7_image_28 : decode cX7_image 28 = .ok (.aload_n 0, 1) := by decide +kernel
theorem dX7_image_29 : decode cX7_image 29 = .ok (.getfield 38, 3) := by decide +kernel
theorem dX7_image_32 : decode cX7_image 32 = .ok (.iload_n 1, 1) := by decide +kernel
theorem dX7_image_33 : decode cX7_image 33 = .ok (.aload_n 0, 1) := by decide +kernel
theorem dX7_image_34 : decode cX7_image 34 = .ok (.getfield 15, 3) := by decide +kernel
theorem dX7_image_37 : decode cX7_image 37 = .ok (.iload_n 1, 1) := by decide +kernel
theorem dX7_image_38 : decode cX7_image 38 = .ok (.iaload, 1) := by decide +kernel
theorem dX7_image_39 : decode cX7_image 39 = .ok (.iastore, 1) := by decide +kernel
theorem dX7_image_40 : decode cX7_image 40 = .ok (.aload_n 0, 1) := by decide +kernel
theorem dX7_image_41 : decode cX7_image 41 = .ok (.getfield 41, 3) := by decide +kernel
theorem dX7_image_44 : decode cX7_image 44 = .ok (.iload_n 1, 1) := by decide +kernel
theorem dX7_image_45 : decode cX7_image 45 = .ok (.aload_n 0, 1) := by decide +kernel
theorem dX7_image_46 : decode cX7_image 46 = .ok (.getfield 19, 3) := by decide +kernel
theorem dX7_image_49 : decode cX7_image 49 = .ok (.iload_n 1, 1) := by decide +kernel
theorem dX7_image_50 : decode cX7_image 50 = .ok (.iaload, 1) := by decide +kernel
theorem dX7_image_51 : decode cX7_image 51 = .ok (.iastore, 1) := by decide +kernel
theorem dX7_image_52 : decode cX7_image 52 = .ok (.iinc 1 1, 3) := by decide +kernel
theorem dX7_image_55 : decode cX7_image 55 = .ok (.goto (-32), 3) := by decide +kernel
theorem dX7_image_58 : decode cX7_image 58 = .ok (.aload_n 0, 1) := by decide +kernel
theorem dX7_image_59 : decode cX7_image 59 = .ok (.getfield 9, 3) := by decide +kernel
theorem dX7_image_62 : decode cX7_image 62 = .ok (.ireturn, 1) := by decide +kernel
theorem dX7_undo_0 : decode cX7_undo 0 = .ok (.aload_n 0, 1) := by decide +kernel
theorem dX7_undo_1 : decode cX7_undo 1 = .ok (.getfield 242, 3) := by decide +kernel
theorem dX7_undo_4 : decode cX7_undo 4 = .ok (.ifCond .ne 6, 3) := by decide +kernel
theorem dX7_undo_7 : decode cX7_undo 7 = .ok (.bipush (-3), 2) := by decide +kernel
theorem dX7_undo_9 : decode cX7_undo 9 = .ok (.ireturn, 1) := by decide +kernel
theorem dX7_undo_10 : decode cX7_undo 10 = .ok (.aload_n 0, 1) := by decide +kernel
theorem dX7_undo_11 : decode cX7_undo 11 = .ok (.aload_n 0, 1) := by decide +kernel
theorem dX7_undo_12 : decode cX7_undo 12 = .ok (.getfield 246, 3) := by decide +kernel
theorem dX7_undo_15 : decode cX7_undo 15 = .ok (.putfield 9, 3) := by decide +kernel
theorem dX7_undo_18 : decode cX7_undo 18 = .ok (.aload_n 0, 1) := by decide +kernel
theorem dX7_undo_19 : decode cX7_undo 19 = .ok (.aload_n 0, 1) := by decide +kernel
theorem dX7_undo_20 : decode cX7_undo 20 = .ok (.getfield 249, 3) := by decide +kernel
theorem dX7_undo_23 : decode cX7_undo 23 = .ok (.putfield 118, 3) := by decide +kernel
theorem dX7_undo_26 : decode cX7_undo 26 = .ok (.iconst 0, 1) := by decide +kernel
theorem dX7_undo_27 : decode cX7_undo 27 = .ok (.istore_n 1, 1) := by decide +kernel
theorem dX7_undo_28 : decode cX7_undo 28 = .ok (.iload_n 1, 1) := by decide +kernel
theorem dX7_undo_29 : decode cX7_undo 29 = .ok (.iconst 4, 1) := by decide +kernel
theorem dX7_undo_30 : decode cX7_undo 30 = .ok (.if_icmp .ge 33, 3) := by decide +kernel
theorem dX7_undo_33 : decode cX7_undo 33 = .ok (.aload_n 0, 1) := by decide +kernel
theorem dX7_undo_34 : decode cX7_undo 34 = .ok (.getfield 15, 3) := by decide +kernel
theorem dX7_undo_37 : decode cX7_undo 37 = .ok (.iload_n 1, 1) := by decide +kernel
theorem dX7_undo_38 : decode cX7_undo 38 = .ok (.aload_n 0, 1) := by decide +kernel
theorem dX7_undo_39 : decode cX7_undo 39 = .ok (.getfield 38, 3) := by decide +kernel
theorem dX7_undo_42 : decode cX7_undo 42 = .ok (.iload_n 1, 1) := by decide +kernel
theorem dX7_undo_43 : decode cX7_undo 43 = .ok (.iaload, 1) := by decide +kernel
theorem dX7_undo_44 : decode cX7_undo 44 = .ok (.iastore, 1) := by decide +kernel
theorem dX7_undo_45 : decode cX7_undo 45 = .ok (.aload_n 0, 1) := by decide +kernel
theorem dX7_undo_46 : decode cX7_undo 46 = .ok (.getfield 19, 3) := by decide +kernel
theorem dX7_undo_49 : decode cX7_undo 49 = .ok (.iload_n 1, 1) := by decide +kernel
theorem dX7_undo_50 : decode cX7_undo 50 = .ok (.aload_n 0, 1) := by decide +kernel
theorem dX7_undo_51 : decode cX7_undo 51 = .ok (.getfield 41, 3) := by decide +kernel
theorem dX7_undo_54 : decode cX7_undo 54 = .ok (.iload_n 1, 1) := by decide +kernel
theorem dX7_undo_55 : decode cX7_undo 55 = .ok (.iaload, 1) := by decide +kernel
theorem dX7_undo_56 : decode cX7_undo 56 = .ok (.iastore, 1) := by decide +kernel
theorem dX7_undo_57 : decode cX7_undo 57 = .ok (.iinc 1 1, 3) := by decide +kernel
theorem dX7_undo_60 : decode cX7_undo 60 = .ok (.goto (-32), 3) := by decide +kernel
theorem dX7_undo_63 : decode cX7_undo 63 = .ok (.aload_n 0, 1) := by decide +kernel
theorem dX7_undo_64 : decode cX7_undo 64 = .ok (.iconst 0, 1) := by decide +kernel
theorem dX7_undo_65 : decode cX7_undo 65 = .ok (.putfield 121, 3) := by decide +kernel
theorem dX7_undo_68 : decode cX7_undo 68 = .ok (.aload_n 0, 1) := by decide +kernel
theorem dX7_undo_69 : decode cX7_undo 69 = .ok (.getfield 9, 3) := by decide +kernel
theorem dX7_undo_72 : decode cX7_undo 72 = .ok (.ireturn, 1) := by decide +kernel
theorem dX7_count_0 : decode cX7_count 0 = .ok (.iconst 0, 1) := by decide +kernel
theorem dX7_count_1 : decode cX7_count 1 = .ok (.istore_n 2, 1) := by decide +kernel
theorem dX7_count_2 : decode cX7_count 2 = .ok (.iload_n 1, 1) := by decide +kernel
theorem dX7_count_3 : decode cX7_count 3 = .ok (.tableswitch 102 0 4 #[33, 38, 43, 48, 75], 33) := by decide +kernel
theorem dX7_count_36 : decode cX7_count 36 = .ok (.aload_n 0, 1) := by decide +kernel
theorem dX7_count_37 : decode cX7_count 37 = .ok (.getfield 9, 3) := by decide +kernel
theorem dX7_count_40 : decode cX7_count 40 = .ok (.ireturn, 1) := by decide +kernel
theorem dX7_count_41 : decode cX7_count 41 = .ok (.aload_n 0, 1) := by decide +kernel
theorem dX7_count_42 : decode cX7_count 42 = .ok (.getfield 121, 3) := by decide +kernel
theorem dX7_count_45 : decode cX7_count 45 = .ok (.ireturn, 1) := by decide +kernel
theorem dX7_count_46 : decode cX7_count 46 = .ok (.aload_n 0, 1) := by decide +kernel
theorem dX7_count_47 : decode cX7_count 47 = .ok (.getfield 215, 3) := by decide +kernel
theorem dX7_count_50 : decode cX7_count 50 = .ok (.ireturn, 1) := by decide +kernel
theorem dX7_count_51 : decode cX7_count 51 = .ok (.iconst 0, 1) := by decide +kernel
theorem dX7_count_52 : decode cX7_count 52 = .ok (.istore_n 3, 1) := by decide +kernel
theorem dX7_count_53 : decode cX7_count 53 = .ok (.iload_n 3, 1) := by decide +kernel
theorem dX7_count_54 : decode cX7_count 54 = .ok (.iconst 4, 1) := by decide +kernel
theorem dX7_count_55 : decode cX7_count 55 = .ok (.if_icmp .ge 21, 3) := by decide +kernel
theorem dX7_count_58 : decode cX7_count 58 = .ok (.aload_n 0, 1) := by decide +kernel
theorem dX7_count_59 : decode cX7_count 59 = .ok (.getfield 15, 3) := by decide +kernel
theorem dX7_count_62 : decode cX7_count 62 = .ok (.iload_n 3, 1) := by decide +kernel
theorem dX7_count_63 : decode cX7_count 63 = .ok (.iaload, 1) := by decide +kernel
theorem dX7_count_64 : decode cX7_count 64 = .ok (.ifCond .le 6, 3) := by decide +kernel
theorem dX7_count_67 : decode cX7_count 67 = .ok (.iinc 2 1, 3) := by decide +kernel
theorem dX7_count_70 : decode cX7_count 70 = .ok (.iinc 3 1, 3) := by decide +kernel
theorem dX7_count_73 : decode cX7_count 73 = .ok (.goto (-20), 3) := by decide +kernel
theorem dX7_count_76 : decode cX7_count 76 = .ok (.iload_n 2, 1) := by decide +kernel
theorem dX7_count_77 : decode cX7_count 77 = .ok (.ireturn, 1) := by decide +kernel
theorem dX7_count_78 : decode cX7_count 78 = .ok (.iconst 0, 1) := by decide +kernel
theorem dX7_count_79 : decode cX7_count 79 = .ok (.istore_n 3, 1) := by decide +kernel
theorem dX7_count_80 : decode cX7_count 80 = .ok (.iload_n 3, 1) := by decide +kernel
theorem dX7_count_81 : decode cX7_count 81 = .ok (.iconst 3, 1) := by decide +kernel
theorem dX7_count_82 : decode cX7_count 82 = .ok (.if_icmp .ge 21, 3) := by decide +kernel
theorem dX7_count_85 : decode cX7_count 85 = .ok (.aload_n 0, 1) := by decide +kernel
theorem dX7_count_86 : decode cX7_count 86 = .ok (.getfield 32, 3) := by decide +kernel
theorem dX7_count_89 : decode cX7_count 89 = .ok (.iload_n 3, 1) := by decide +kernel
theorem dX7_count_90 : decode cX7_count 90 = .ok (.iaload, 1) := by decide +kernel
theorem dX7_count_91 : decode cX7_count 91 = .ok (.ifCond .lt 6, 3) := by decide +kernel
theorem dX7_count_94 : decode cX7_count 94 = .ok (.iinc 2 1, 3) := by decide +kernel
theorem dX7_count_97 : decode cX7_count 97 = .ok (.iinc 3 1, 3) := by decide +kernel
theorem dX7_count_100 : decode cX7_count 100 = .ok (.goto (-20), 3) := by decide +kernel
theorem dX7_count_103 : decode cX7_count 103 = .ok (.iload_n 2, 1) := by decide +kernel
theorem dX7_count_104 : decode cX7_count 104 = .ok (.ireturn, 1) := by decide +kernel
theorem dX7_count_105 : decode cX7_count 105 = .ok (.iconst (-1), 1) := by decide +kernel
theorem dX7_count_106 : decode cX7_count 106 = .ok (.ireturn, 1) := by decide +kernel
