theorem dX0_init_0 : decode cX0_init 0 = .ok (.aload_n 0, 1) := by decide +kernel
theorem dX0_init_1 : decode cX0_init 1 = .ok (.invokespecial 3, 3) := by decide +kernel
theorem dX0_init_4 : decode cX0_init 4 = .ok (.aload_n 0, 1) := by decide +kernel
theorem dX0_init_5 : decode cX0_init 5 = .ok (.sipush 626, 3) := by decide +kernel
theorem dX0_init_8 : decode cX0_init 8 = .ok (.newarray .int, 2) := by decide +kernel
theorem dX0_init_10 : decode cX0_init 10 = .ok (.putfield 11, 3) := by decide +kernel
theorem dX0_init_13 : decode cX0_init 13 = .ok (.aload_n 0, 1) := by decide +kernel
theorem dX0_init_14 : decode cX0_init 14 = .ok (.sipush 626, 3) := by decide +kernel
theorem dX0_init_17 : decode cX0_init 17 = .ok (.newarray .int, 2) := by decide +kernel
theorem dX0_init_19 : decode cX0_init 19 = .ok (.putfield 15, 3) := by decide +kernel
theorem dX0_init_22 : decode cX0_init 22 = .ok (.getstatic 18, 3) := by decide +kernel
theorem dX0_init_25 : decode cX0_init 25 = .ok (.iconst 1, 1) := by decide +kernel
theorem dX0_init_26 : decode cX0_init 26 = .ok (.iaload, 1) := by decide +kernel
theorem dX0_init_27 : decode cX0_init 27 = .ok (.istore_n 1, 1) := by decide +kernel
theorem dX0_init_28 : decode cX0_init 28 = .ok (.iconst 1, 1) := by decide +kernel
theorem dX0_init_29 : decode cX0_init 29 = .ok (.istore_n 2, 1) := by decide +kernel
theorem dX0_init_30 : decode cX0_init 30 = .ok (.iload_n 2, 1) := by decide +kernel
theorem dX0_init_31 : decode cX0_init 31 = .ok (.bipush 7, 2) := by decide +kernel
theorem dX0_init_33 : decode cX0_init 33 = .ok (.if_icmp .gt 30, 3) := by decide +kernel
theorem dX0_init_36 : decode cX0_init 36 = .ok (.iconst 0, 1) := by decide +kernel
theorem dX0_init_37 : decode cX0_init 37 = .ok (.istore_n 3, 1) := by decide +kernel
theorem dX0_init_38 : decode cX0_init 38 = .ok (.iload_n 3, 1) := by decide +kernel
theorem dX0_init_39 : decode cX0_init 39 = .ok (.iload_n 2, 1) := by decide +kernel
theorem dX0_init_40 : decode cX0_init 40 = .ok (.if_icmp .ge 17, 3) := by decide +kernel
theorem dX0_init_43 : decode cX0_init 43 = .ok (.aload_n 0, 1) := by decide +kernel
theorem dX0_init_44 : decode cX0_init 44 = .ok (.iload_n 1, 1) := by decide +kernel
theorem dX0_init_45 : decode cX0_init 45 = .ok (.iload_n 2, 1) := by decide +kernel
theorem dX0_init_46 : decode cX0_init 46 = .ok (.iload_n 3, 1) := by decide +kernel
theorem dX0_init_47 : decode cX0_init 47 = .ok (.invokevirtual 21, 3) := by decide +kernel
theorem dX0_init_50 : decode cX0_init 50 = .ok (.istore_n 1, 1) := by decide +kernel
theorem dX0_init_51 : decode cX0_init 51 = .ok (.iinc 3 1, 3) := by decide +kernel
theorem dX0_init_54 : decode cX0_init 54 = .ok (.goto (-16), 3) := by decide +kernel
theorem dX0_init_57 : decode cX0_init 57 = .ok (.iinc 2 1, 3) := by decide +kernel
theorem dX0_init_60 : decode cX0_init 60 = .ok (.goto (-30), 3) := by decide +kernel
theorem dX0_init_63 : decode cX0_init 63 = .ok (.return_, 1) := by decide +kernel
theorem dX0_growAll_0 : decode cX0_growAll 0 = .ok (.iload_n 2, 1) := by decide +kernel
theorem dX0_growAll_1 : decode cX0_growAll 1 = .ok (.iconst 1, 1) := by decide +kernel
theorem dX0_growAll_2 : decode cX0_growAll 2 = .ok (.isub, 1) := by decide +kernel
theorem dX0_growAll_3 : decode cX0_growAll 3 = .ok (.iload_n 3, 1) := by decide +kernel
theorem dX0_growAll_4 : decode cX0_growAll 4 = .ok (.isub, 1) := by decide +kernel
theorem dX0_growAll_5 : decode cX0_growAll 5 = .ok (.istore 4, 2) := by decide +kernel
theorem dX0_growAll_7 : decode cX0_growAll 7 = .ok (.iload_n 1, 1) := by decide +kernel
theorem dX0_growAll_8 : decode cX0_growAll 8 = .ok (.istore 5, 2) := by decide +kernel
theorem dX0_growAll_10 : decode cX0_growAll 10 = .ok (.getstatic 18, 3) := by decide +kernel
theorem dX0_growAll_13 : decode cX0_growAll 13 = .ok (.iload_n 3, 1) := by decide +kernel
theorem dX0_growAll_14 : decode cX0_growAll 14 = .ok (.iaload, 1) := by decide +kernel
theorem dX0_growAll_15 : decode cX0_growAll 15 = .ok (.istore 6, 2) := by decide +kernel
theorem dX0_growAll_17 : decode cX0_growAll 17 = .ok (.iload 6, 2) := by decide +kernel
theorem dX0_growAll_19 : decode cX0_growAll 19 = .ok (.getstatic 18, 3) := by decide +kernel
theorem dX0_growAll_22 : decode cX0_growAll 22 = .ok (.iload_n 3, 1) := by decide +kernel
theorem dX0_growAll_23 : decode cX0_growAll 23 = .ok (.iconst 1, 1) := by decide +kernel
theorem dX0_growAll_24 : decode cX0_growAll 24 = .ok (.iadd, 1) := by decide +kernel
theorem dX0_growAll_25 : decode cX0_growAll 25 = .ok (.iaload, 1) := by decide +kernel
theorem dX0_growAll_26 : decode cX0_growAll 26 = .ok (.if_icmp .ge 92, 3) := by decide +kernel
theorem dX0_growAll_29 : decode cX0_growAll 29 = .ok (.iload_n 3, 1) := by decide +kernel
theorem dX0_growAll_30 : decode cX0_growAll 30 = .ok (.iconst 4, 1) := by decide +kernel
theorem dX0_growAll_31 : decode cX0_growAll 31 = .ok (.iload_n 3, 1) := by decide +kernel
theorem dX0_growAll_32 : decode cX0_growAll 32 = .ok (.imul, 1) := by decide +kernel
theorem dX0_growAll_33 : decode cX0_growAll 33 = .ok (.ishl, 1) := by decide +kernel
theorem dX0_growAll_34 : decode cX0_growAll 34 = .ok (.aload_n 0, 1) := by decide +kernel
theorem dX0_growAll_35 : decode cX0_growAll 35 = .ok (.getfield 11, 3) := by decide +kernel
theorem dX0_growAll_38 : decode cX0_growAll 38 = .ok (.iload 6, 2) := by decide +kernel
theorem dX0_growAll_40 : decode cX0_growAll 40 = .ok (.iaload, 1) := by decide +kernel
theorem dX0_growAll_41 : decode cX0_growAll 41 = .ok (.ior, 1) := by decide +kernel
theorem dX0_growAll_42 : decode cX0_growAll 42 = .ok (.iconst 4, 1) := by decide +kernel
theorem dX0_growAll_43 : decode cX0_growAll 43 = .ok (.iload 4, 2) := by decide +kernel
theorem dX0_growAll_45 : decode cX0_growAll 45 = .ok (.imul, 1) := by decide +kernel
theorem dX0_growAll_46 : decode cX0_growAll 46 = .ok (.ishl, 1) := by decide +kernel
theorem dX0_growAll_47 : decode cX0_growAll 47 = .ok (.istore 7, 2) := by decide +kernel
theorem dX0_growAll_49 : decode cX0_growAll 49 = .ok (.getstatic 18, 3) := by decide +kernel
theorem dX0_growAll_52 : decode cX0_growAll 52 = .ok (.iload 4, 2) := by decide +kernel
theorem dX0_growAll_54 : decode cX0_growAll 54 = .ok (.iaload, 1) := by decide +kernel
theorem dX0_growAll_55 : decode cX0_growAll 55 = .ok (.istore 8, 2) := by decide +kernel
theorem dX0_growAll_57 : decode cX0_growAll 57 = .ok (.iload 8, 2) := by decide +kernel
theorem dX0_growAll_59 : decode cX0_growAll 59 = .ok (.getstatic 18, 3) := by decide +kernel
theorem dX0_growAll_62 : decode cX0_growAll 62 = .ok (.iload 4, 2) := by decide +kernel
theorem dX0_growAll_64 : decode cX0_growAll 64 = .ok (.iconst 1, 1) := by decide +kernel
theorem dX0_growAll_65 : decode cX0_growAll 65 = .ok (.iadd, 1) := by decide +kernel
theorem dX0_growAll_66 : decode cX0_growAll 66 = .ok (.iaload, 1) := by decide +kernel
theorem dX0_growAll_67 : decode cX0_growAll 67 = .ok (.if_icmp .ge 45, 3) := by decide +kernel
theorem dX0_growAll_70 : decode cX0_growAll 70 = .ok (.iload 5, 2) := by decide +kernel
theorem dX0_growAll_72 : decode cX0_growAll 72 = .ok (.sipush 626, 3) := by decide +kernel
theorem dX0_growAll_75 : decode cX0_growAll 75 = .ok (.if_icmp .ge 37, 3) := by decide +kernel
theorem dX0_growAll_78 : decode cX0_growAll 78 = .ok (.aload_n 0, 1) := by decide +kernel
theorem dX0_growAll_79 : decode cX0_growAll 79 = .ok (.getfield 11, 3) := by decide +kernel
theorem dX0_growAll_82 : decode cX0_growAll 82 = .ok (.iload 5, 2) := by decide +kernel
theorem dX0_growAll_84 : decode cX0_growAll 84 = .ok (.iload 7, 2) := by decide +kernel
theorem dX0_growAll_86 : decode cX0_growAll 86 = .ok (.aload_n 0, 1) := by decide +kernel
theorem dX0_growAll_87 : decode cX0_growAll 87 = .ok (.getfield 11, 3) := by decide +kernel
theorem dX0_growAll_90 : decode cX0_growAll 90 = .ok (.iload 8, 2) := by decide +kernel
theorem dX0_growAll_92 : decode cX0_growAll 92 = .ok (.iaload, 1) := by decide +kernel
theorem dX0_growAll_93 : decode cX0_growAll 93 = .ok (.ior, 1) := by decide +kernel
theorem dX0_growAll_94 : decode cX0_growAll 94 = .ok (.iastore, 1) := by decide +kernel
theorem dX0_growAll_95 : decode cX0_growAll 95 = .ok (.aload_n 0, 1) := by decide +kernel
theorem dX0_growAll_96 : decode cX0_growAll 96 = .ok (.getfield 15, 3) := by decide +kernel
theorem dX0_growAll_99 : decode cX0_growAll 99 = .ok (.iload 5, 2) := by decide +kernel
theorem dX0_growAll_101 : decode cX0_growAll 101 = .ok (.iload_n 2, 1) := by decide +kernel
theorem dX0_growAll_102 : decode cX0_growAll 102 = .ok (.iastore, 1) := by decide +kernel
theorem dX0_growAll_103 : decode cX0_growAll 103 = .ok (.iinc 5 1, 3) := by decide +kernel
theorem dX0_growAll_106 : decode cX0_growAll 106 = .ok (.iinc 8 1, 3) := by decide +kernel
theorem dX0_growAll_109 : decode cX0_growAll 109 = .ok (.goto (-52), 3) := by decide +kernel
theorem dX0_growAll_112 : decode cX0_growAll 112 = .ok (.iinc 6 1, 3) := by decide +kernel
theorem dX0_growAll_115 : decode cX0_growAll 115 = .ok (.goto (-98), 3) := by decide +kernel
theorem dX0_growAll_118 : decode cX0_growAll 118 = .ok (.iload 5, 2) := by decide +kernel
theorem dX0_growAll_120 : decode cX0_growAll 120 = .ok (.ireturn, 1) := by decide +kernel
theorem dX0_isSize_0 : decode cX0_isSize 0 = .ok (.iload_n 0, 1) := by decide +kernel
theorem dX0_isSize_1 : decode cX0_isSize 1 = .ok (.iconst 1, 1) := by decide +kernel
theorem dX0_isSize_2 : decode cX0_isSize 2 = .ok (.if_icmp .lt 13, 3) := by decide +kernel
theorem dX0_isSize_5 : decode cX0_isSize 5 = .ok (.iload_n 0, 1) := by decide +kernel
theorem dX0_isSize_6 : decode cX0_isSize 6 = .ok (.bipush 7, 2) := by decide +kernel
theorem dX0_isSize_8 : decode cX0_isSize 8 = .ok (.if_icmp .gt 7, 3) := by decide +kernel
theorem dX0_isSize_11 : decode cX0_isSize 11 = .ok (.iconst 1, 1) := by decide +kernel
theorem dX0_isSize_12 : decode cX0_isSize 12 = .ok (.goto 4, 3) := by decide +kernel
theorem dX0_isSize_15 : decode cX0_isSize 15 = .ok (.iconst 0, 1) := by decide +kernel
theorem dX0_isSize_16 : decode cX0_isSize 16 = .ok (.ireturn, 1) := by decide +kernel
theorem dX0_firstOf_0 : decode cX0_firstOf 0 = .ok (.iload_n 1, 1) := by decide +kernel
theorem dX0_firstOf_1 : decode cX0_firstOf 1 = .ok (.invokestatic 25, 3) := by decide +kernel
theorem dX0_firstOf_4 : decode cX0_firstOf 4 = .ok (.ifCond .eq 11, 3) := by decide +kernel
theorem dX0_firstOf_7 : decode cX0_firstOf 7 = .ok (.getstatic 18, 3) := by decide +kernel
theorem dX0_firstOf_10 : decode cX0_firstOf 10 = .ok (.iload_n 1, 1) := by decide +kernel
theorem dX0_firstOf_11 : decode cX0_firstOf 11 = .ok (.iaload, 1) := by decide +kernel
theorem dX0_firstOf_12 : decode cX0_firstOf 12 = .ok (.goto 4, 3) := by decide +kernel
theorem dX0_firstOf_15 : decode cX0_firstOf 15 = .ok (.iconst 0, 1) := by decide +kernel
theorem dX0_firstOf_16 : decode cX0_firstOf 16 = .ok (.ireturn, 1) := by decide +kernel
theorem dX0_lastOf_0 : decode cX0_lastOf 0 = .ok (.iload_n 1, 1) := by decide +kernel
theorem dX0_lastOf_1 : decode cX0_lastOf 1 = .ok (.invokestatic 25, 3) := by decide +kernel
theorem dX0_lastOf_4 : decode cX0_lastOf 4 = .ok (.ifCond .eq 15, 3) := by decide +kernel
theorem dX0_lastOf_7 : decode cX0_lastOf 7 = .ok (.getstatic 18, 3) := by decide +kernel
theorem dX0_lastOf_10 : decode cX0_lastOf 10 = .ok (.iload_n 1, 1) := by decide +kernel
theorem dX0_lastOf_11 : decode cX0_lastOf 11 = .ok (.iconst 1, 1) := by decide +kernel
theorem dX0_lastOf_12 : decode cX0_lastOf 12 = .ok (.iadd, 1) := by decide +kernel
theorem dX0_lastOf_13 : decode cX0_lastOf 13 = .ok (.iaload, 1) := by decide +kernel
theorem dX0_lastOf_14 : decode cX0_lastOf 14 = .ok (.iconst 1, 1) := by decide +kernel
theorem dX0_lastOf_15 : decode cX0_lastOf 15 = .ok (.isub, 1) := by decide +kernel
theorem dX0_lastOf_16 : decode cX0_lastOf 16 = .ok (.goto 4, 3) := by decide +kernel
theorem dX0_lastOf_19 : decode cX0_lastOf 19 = .ok (.iconst 0, 1) := by decide +kernel
theorem dX0_lastOf_20 : decode cX0_lastOf 20 = .ok (.ireturn, 1) := by decide +kernel
theorem dX0_howMany_0 : decode cX0_howMany 0 = .ok (.aload_n 0, 1) := by decide +kernel
theorem dX0_howMany_1 : decode cX0_howMany 1 = .ok (.iload_n 1, 1) := by decide +kernel
theorem dX0_howMany_2 : decode cX0_howMany 2 = .ok (.invokevirtual 29, 3) := by decide +kernel
theorem dX0_howMany_5 : decode cX0_howMany 5 = .ok (.aload_n 0, 1) := by decide +kernel
theorem dX0_howMany_6 : decode cX0_howMany 6 = .ok (.iload_n 1, 1) := by decide +kernel
theorem dX0_howMany_7 : decode cX0_howMany 7 = .ok (.invokevirtual 33, 3) := by decide +kernel
theorem dX0_howMany_10 : decode cX0_howMany 10 = .ok (.isub, 1) := by decide +kernel
theorem dX0_howMany_11 : decode cX0_howMany 11 = .ok (.iconst 1, 1) := by decide +kernel
theorem dX0_howMany_12 : decode cX0_howMany 12 = .ok (.iadd, 1) := by decide +kernel
theorem dX0_howMany_13 : decode cX0_howMany 13 = .ok (.ireturn, 1) := by decide +kernel
theorem dX0_sizeOf_0 : decode cX0_sizeOf 0 = .ok (.iload_n 1, 1) := by decide +kernel
theorem dX0_sizeOf_1 : decode cX0_sizeOf 1 = .ok (.ifCond .lt 19, 3) := by decide +kernel
theorem dX0_sizeOf_4 : decode cX0_sizeOf 4 = .ok (.iload_n 1, 1) := by decide +kernel
theorem dX0_sizeOf_5 : decode cX0_sizeOf 5 = .ok (.sipush 626, 3) := by decide +kernel
theorem dX0_sizeOf_8 : decode cX0_sizeOf 8 = .ok (.if_icmp .ge 12, 3) := by decide +kernel
theorem dX0_sizeOf_11 : decode cX0_sizeOf 11 = .ok (.aload_n 0, 1) := by decide +kernel
theorem dX0_sizeOf_12 : decode cX0_sizeOf 12 = .ok (.getfield 15, 3) := by decide +kernel
theorem dX0_sizeOf_15 : decode cX0_sizeOf 15 = .ok (.iload_n 1, 1) := by decide +kernel
theorem dX0_sizeOf_16 : decode cX0_sizeOf 16 = .ok (.iaload, 1) := by decide +kernel
theorem dX0_sizeOf_17 : decode cX0_sizeOf 17 = .ok (.goto 4, 3) := by decide +kernel
theorem dX0_sizeOf_20 : decode cX0_sizeOf 20 = .ok (.iconst 0, 1) := by decide +kernel
theorem dX0_sizeOf_21 : decode cX0_sizeOf 21 = .ok (.ireturn, 1) := by decide +kernel
theorem dX0_codeOf_0 : decode cX0_codeOf 0 = .ok (.iload_n 1, 1) := by decide +kernel
theorem dX0_codeOf_1 : decode cX0_codeOf 1 = .ok (.ifCond .lt 19, 3) := by decide +kernel
theorem dX0_codeOf_4 : decode cX0_codeOf 4 = .ok (.iload_n 1, 1) := by decide +kernel
theorem dX0_codeOf_5 : decode cX0_codeOf 5 = .ok (.sipush 626, 3) := by decide +kernel
theorem dX0_codeOf_8 : decode cX0_codeOf 8 = .ok (.if_icmp .ge 12, 3) := by decide +kernel
theorem dX0_codeOf_11 : decode cX0_codeOf 11 = .ok (.aload_n 0, 1) := by decide +kernel
theorem dX0_codeOf_12 : decode cX0_codeOf 12 = .ok (.getfield 11, 3) := by decide +kernel
theorem dX0_codeOf_15 : decode cX0_codeOf 15 = .ok (.iload_n 1, 1) := by decide +kernel
theorem dX0_codeOf_16 : decode cX0_codeOf 16 = .ok (.iaload, 1) := by decide +kernel
theorem dX0_codeOf_17 : decode cX0_codeOf 17 = .ok (.goto 4, 3) := by decide +kernel
theorem dX0_codeOf_20 : decode cX0_codeOf 20 = .ok (.iconst 0, 1) := by decide +kernel
theorem dX0_codeOf_21 : decode cX0_codeOf 21 = .ok (.ireturn, 1) := by decide +kernel
theorem dX0_numberOf_0 : decode cX0_numberOf 0 = .ok (.iload_n 1, 1) := by decide +kernel
theorem dX0_numberOf_1 : decode cX0_numberOf 1 = .ok (.aload_n 0, 1) := by decide +kernel
theorem dX0_numberOf_2 : decode cX0_numberOf 2 = .ok (.aload_n 0, 1) := by decide +kernel
theorem dX0_numberOf_3 : decode cX0_numberOf 3 = .ok (.iload_n 1, 1) := by decide +kernel
theorem dX0_numberOf_4 : decode cX0_numberOf 4 = .ok (.invokevirtual 36, 3) := by decide +kernel
theorem dX0_numberOf_7 : decode cX0_numberOf 7 = .ok (.invokevirtual 33, 3) := by decide +kernel
theorem dX0_numberOf_10 : decode cX0_numberOf 10 = .ok (.isub, 1) := by decide +kernel
theorem dX0_numberOf_11 : decode cX0_numberOf 11 = .ok (.ireturn, 1) := by decide +kernel
theorem dX0_find_0 : decode cX0_find 0 = .ok (.aload_n 0, 1) := by decide +kernel
theorem dX0_find_1 : decode cX0_find 1 = .ok (.iload_n 1, 1) := by decide +kernel
theorem dX0_find_2 : decode cX0_find 2 = .ok (.invokevirtual 29, 3) := by decide +kernel
theorem dX0_find_5 : decode cX0_find 5 = .ok (.istore_n 3, 1) := by decide +kernel
theorem dX0_find_6 : decode cX0_find 6 = .ok (.aload_n 0, 1) := by decide +kernel
theorem dX0_find_7 : decode cX0_find 7 = .ok (.iload_n 1, 1) := by decide +kernel
theorem dX0_find_8 : decode cX0_find 8 = .ok (.invokevirtual 33, 3) := by decide +kernel
theorem dX0_find_11 : decode cX0_find 11 = .ok (.istore 4, 2) := by decide +kernel
theorem dX0_find_13 : decode cX0_find 13 = .ok (.sipush 256, 3) := by decide +kernel
theorem dX0_find_16 : decode cX0_find 16 = .ok (.istore 5, 2) := by decide +kernel
theorem dX0_find_18 : decode cX0_find 18 = .ok (.iload 5, 2) := by decide +kernel
theorem dX0_find_20 : decode cX0_find 20 = .ok (.ifCond .le 41, 3) := by decide +kernel
theorem dX0_find_23 : decode cX0_find 23 = .ok (.iload 4, 2) := by decide +kernel
theorem dX0_find_25 : decode cX0_find 25 = .ok (.iload 5, 2) := by decide +kernel
theorem dX0_find_27 : decode cX0_find 27 = .ok (.iadd, 1) := by decide +kernel
theorem dX0_find_28 : decode cX0_find 28 = .ok (.iload_n 3, 1) := by decide +kernel
theorem dX0_find_29 : decode cX0_find 29 = .ok (.if_icmp .gt 23, 3) := by decide +kernel
theorem dX0_find_32 : decode cX0_find 32 = .ok (.aload_n 0, 1) := by decide +kernel
theorem dX0_find_33 : decode cX0_find 33 = .ok (.iload 4, 2) := by decide +kernel
theorem dX0_find_35 : decode cX0_find 35 = .ok (.iload 5, 2) := by decide +kernel
theorem dX0_find_37 : decode cX0_find 37 = .ok (.iadd, 1) := by decide +kernel
theorem dX0_find_38 : decode cX0_find 38 = .ok (.invokevirtual 39, 3) := by decide +kernel
theorem dX0_find_41 : decode cX0_find 41 = .ok (.iload_n 2, 1) := by decide +kernel
theorem dX0_find_42 : decode cX0_find 42 = .ok (.if_icmp .gt 10, 3) := by decide +kernel
theorem dX0_find_45 : decode cX0_find 45 = .ok (.iload 4, 2) := by decide +kernel
theorem dX0_find_47 : decode cX0_find 47 = .ok (.iload 5, 2) := by decide +kernel
theorem dX0_find_49 : decode cX0_find 49 = .ok (.iadd, 1) := by decide +kernel
theorem dX0_find_50 : decode cX0_find 50 = .ok (.istore 4, 2) := by decide +kernel
theorem dX0_find_52 : decode cX0_find 52 = .ok (.iload 5, 2) := by decide +kernel
theorem dX0_find_54 : decode cX0_find 54 = .ok (.iconst 1, 1) := by decide +kernel
theorem dX0_find_55 : decode cX0_find 55 = .ok (.ishr, 1) := by decide +kernel
theorem dX0_find_56 : decode cX0_find 56 = .ok (.istore 5, 2) := by decide +kernel
theorem dX0_find_58 : decode cX0_find 58 = .ok (.goto (-40), 3) := by decide +kernel
theorem dX0_find_61 : decode cX0_find 61 = .ok (.aload_n 0, 1) := by decide +kernel
theorem dX0_find_62 : decode cX0_find 62 = .ok (.iload 4, 2) := by decide +kernel
theorem dX0_find_64 : decode cX0_find 64 = .ok (.invokevirtual 39, 3) := by decide +kernel
theorem dX0_find_67 : decode cX0_find 67 = .ok (.iload_n 2, 1) := by decide +kernel
theorem dX0_find_68 : decode cX0_find 68 = .ok (.if_icmp .ne 8, 3) := by decide +kernel
theorem dX0_find_71 : decode cX0_find 71 = .ok (.iload 4, 2) := by decide +kernel
theorem dX0_find_73 : decode cX0_find 73 = .ok (.goto 4, 3) := by decide +kernel
theorem dX0_find_76 : decode cX0_find 76 = .ok (.iconst 0, 1) := by decide +kernel
theorem dX0_find_77 : decode cX0_find 77 = .ok (.ireturn, 1) := by decide +kernel
theorem dX0_findDigits_0 : decode cX0_findDigits 0 = .ok (.iload_n 2, 1) := by decide +kernel
theorem dX0_findDigits_1 : decode cX0_findDigits 1 = .ok (.ifCond .ge 5, 3) := by decide +kernel
theorem dX0_findDigits_4 : decode cX0_findDigits 4 = .ok (.iconst 0, 1) := by decide +kernel
theorem dX0_findDigits_5 : decode cX0_findDigits 5 = .ok (.ireturn, 1) := by decide +kernel
theorem dX0_findDigits_6 : decode cX0_findDigits 6 = .ok (.iconst 0, 1) := by decide +kernel
theorem dX0_findDigits_7 : decode cX0_findDigits 7 = .ok (.istore_n 3, 1) := by decide +kernel
theorem dX0_findDigits_8 : decode cX0_findDigits 8 = .ok (.iload_n 2, 1) := by decide +kernel
theorem dX0_findDigits_9 : decode cX0_findDigits 9 = .ok (.istore 4, 2) := by decide +kernel
theorem dX0_findDigits_11 : decode cX0_findDigits 11 = .ok (.iconst 0, 1) := by decide +kernel
theorem dX0_findDigits_12 : decode cX0_findDigits 12 = .ok (.istore 5, 2) := by decide +kernel
theorem dX0_findDigits_14 : decode cX0_findDigits 14 = .ok (.iload 5, 2) := by decide +kernel
theorem dX0_findDigits_16 : decode cX0_findDigits 16 = .ok (.iload_n 1, 1) := by decide +kernel
theorem dX0_findDigits_17 : decode cX0_findDigits 17 = .ok (.if_icmp .ge 29, 3) := by decide +kernel
theorem dX0_findDigits_20 : decode cX0_findDigits 20 = .ok (.iload_n 3, 1) := by decide +kernel
theorem dX0_findDigits_21 : decode cX0_findDigits 21 = .ok (.iload 4, 2) := by decide +kernel
theorem dX0_findDigits_23 : decode cX0_findDigits 23 = .ok (.bipush 10, 2) := by decide +kernel
theorem dX0_findDigits_25 : decode cX0_findDigits 25 = .ok (.irem, 1) := by decide +kernel
theorem dX0_findDigits_26 : decode cX0_findDigits 26 = .ok (.iconst 4, 1) := by decide +kernel
theorem dX0_findDigits_27 : decode cX0_findDigits 27 = .ok (.iload 5, 2) := by decide +kernel
theorem dX0_findDigits_29 : decode cX0_findDigits 29 = .ok (.imul, 1) := by decide +kernel
theorem dX0_findDigits_30 : decode cX0_findDigits 30 = .ok (.ishl, 1) := by decide +kernel
theorem dX0_findDigits_31 : decode cX0_findDigits 31 = .ok (.ior, 1) := by decide +kernel
theorem dX0_findDigits_32 : decode cX0_findDigits 32 = .ok (.istore_n 3, 1) := by decide +kernel
theorem dX0_findDigits_33 : decode cX0_findDigits 33 = .ok (.iload 4, 2) := by decide +kernel
theorem dX0_findDigits_35 : decode cX0_findDigits 35 = .ok (.bipush 10, 2) := by decide +kernel
theorem dX0_findDigits_37 : decode cX0_findDigits 37 = .ok (.idiv, 1) := by decide +kernel
theorem dX0_findDigits_38 : decode cX0_findDigits 38 = .ok (.istore 4, 2) := by decide +kernel
theorem dX0_findDigits_40 : decode cX0_findDigits 40 = .ok (.iinc 5 1, 3) := by decide +kernel
theorem dX0_findDigits_43 : decode cX0_findDigits 43 = .ok (.goto (-29), 3) := by decide +kernel
theorem dX0_findDigits_46 : decode cX0_findDigits 46 = .ok (.iload 4, 2) := by decide +kernel
theorem dX0_findDigits_48 : decode cX0_findDigits 48 = .ok (.ifCond .ne 12, 3) := by decide +kernel
theorem dX0_findDigits_51 : decode cX0_findDigits 51 = .ok (.aload_n 0, 1) := by decide +kernel
theorem dX0_findDigits_52 : decode cX0_findDigits 52 = .ok (.iload_n 1, 1) := by decide +kernel
theorem dX0_findDigits_53 : decode cX0_findDigits 53 = .ok (.iload_n 3, 1) := by decide +kernel
theorem dX0_findDigits_54 : decode cX0_findDigits 54 = .ok (.invokevirtual 42, 3) := by decide +kernel
theorem dX0_findDigits_57 : decode cX0_findDigits 57 = .ok (.goto 4, 3) := by decide +kernel
theorem dX0_findDigits_60 : decode cX0_findDigits 60 = .ok (.iconst 0, 1) := by decide +kernel
theorem dX0_findDigits_61 : decode cX0_findDigits 61 = .ok (.ireturn, 1) := by decide +kernel
theorem dX0_asDigits_0 : decode cX0_asDigits 0 = .ok (.iconst 0, 1) := by decide +kernel
theorem dX0_asDigits_1 : decode cX0_asDigits 1 = .ok (.istore_n 2, 1) := by decide +kernel
theorem dX0_asDigits_2 : decode cX0_asDigits 2 = .ok (.iconst 0, 1) := by decide +kernel
theorem dX0_asDigits_3 : decode cX0_asDigits 3 = .ok (.istore_n 3, 1) := by decide +kernel
theorem dX0_asDigits_4 : decode cX0_asDigits 4 = .ok (.iload_n 3, 1) := by decide +kernel
theorem dX0_asDigits_5 : decode cX0_asDigits 5 = .ok (.aload_n 0, 1) := by decide +kernel
theorem dX0_asDigits_6 : decode cX0_asDigits 6 = .ok (.iload_n 1, 1) := by decide +kernel
theorem dX0_asDigits_7 : decode cX0_asDigits 7 = .ok (.invokevirtual 36, 3) := by decide +kernel
theorem dX0_asDigits_10 : decode cX0_asDigits 10 = .ok (.if_icmp .ge 21, 3) := by decide +kernel
theorem dX0_asDigits_13 : decode cX0_asDigits 13 = .ok (.iload_n 2, 1) := by decide +kernel
theorem dX0_asDigits_14 : decode cX0_asDigits 14 = .ok (.bipush 10, 2) := by decide +kernel
theorem dX0_asDigits_16 : decode cX0_asDigits 16 = .ok (.imul, 1) := by decide +kernel
theorem dX0_asDigits_17 : decode cX0_asDigits 17 = .ok (.aload_n 0, 1) := by decide +kernel
theorem dX0_asDigits_18 : decode cX0_asDigits 18 = .ok (.iload_n 1, 1) := by decide +kernel
theorem dX0_asDigits_19 : decode cX0_asDigits 19 = .ok (.iload_n 3, 1) := by decide +kernel
theorem dX0_asDigits_20 : decode cX0_asDigits 20 = .ok (.invokevirtual 46, 3) := by decide +kernel
theorem dX0_asDigits_23 : decode cX0_asDigits 23 = .ok (.iadd, 1) := by decide +kernel
theorem dX0_asDigits_24 : decode cX0_asDigits 24 = .ok (.istore_n 2, 1) := by decide +kernel
theorem dX0_asDigits_25 : decode cX0_asDigits 25 = .ok (.iinc 3 1, 3) := by decide +kernel
theorem dX0_asDigits_28 : decode cX0_asDigits 28 = .ok (.goto (-24), 3) := by decide +kernel
theorem dX0_asDigits_31 : decode cX0_asDigits 31 = .ok (.iload_n 2, 1) := by decide +kernel
theorem dX0_asDigits_32 : decode cX0_asDigits 32 = .ok (.ireturn, 1) := by decide +kernel
theorem dX0_digitOf_0 : decode cX0_digitOf 0 = .ok (.iload_n 0, 1) := by decide +kernel
theorem dX0_digitOf_1 : decode cX0_digitOf 1 = .ok (.iconst 4, 1) := by decide +kernel
theorem dX0_digitOf_2 : decode cX0_digitOf 2 = .ok (.iload_n 1, 1) := by decide +kernel
theorem dX0_digitOf_3 : decode cX0_digitOf 3 = .ok (.iconst 1, 1) := by decide +kernel
theorem dX0_digitOf_4 : decode cX0_digitOf 4 = .ok (.isub, 1) := by decide +kernel
theorem dX0_digitOf_5 : decode cX0_digitOf 5 = .ok (.iload_n 2, 1) := by decide +kernel
theorem dX0_digitOf_6 : decode cX0_digitOf 6 = .ok (.isub, 1) := by decide +kernel
theorem dX0_digitOf_7 : decode cX0_digitOf 7 = .ok (.imul, 1) := by decide +kernel
theorem dX0_digitOf_8 : decode cX0_digitOf 8 = .ok (.ishr, 1) := by decide +kernel
theorem dX0_digitOf_9 : decode cX0_digitOf 9 = .ok (.bipush 15, 2) := by decide +kernel
theorem dX0_digitOf_11 : decode cX0_digitOf 11 = .ok (.iand, 1) := by decide +kernel
theorem dX0_digitOf_12 : decode cX0_digitOf 12 = .ok (.ireturn, 1) := by decide +kernel
theorem dX0_digitAt_0 : decode cX0_digitAt 0 = .ok (.iload_n 0, 1) := by decide +kernel
theorem dX0_digitAt_1 : decode cX0_digitAt 1 = .ok (.iconst 4, 1) := by decide +kernel
theorem dX0_digitAt_2 : decode cX0_digitAt 2 = .ok (.iload_n 1, 1) := by decide +kernel
theorem dX0_digitAt_3 : decode cX0_digitAt 3 = .ok (.iconst 1, 1) := by decide +kernel
theorem dX0_digitAt_4 : decode cX0_digitAt 4 = .ok (.isub, 1) := by decide +kernel
theorem dX0_digitAt_5 : decode cX0_digitAt 5 = .ok (.iload_n 2, 1) := by decide +kernel
theorem dX0_digitAt_6 : decode cX0_digitAt 6 = .ok (.isub, 1) := by decide +kernel
theorem dX0_digitAt_7 : decode cX0_digitAt 7 = .ok (.imul, 1) := by decide +kernel
theorem dX0_digitAt_8 : decode cX0_digitAt 8 = .ok (.ishl, 1) := by decide +kernel
theorem dX0_digitAt_9 : decode cX0_digitAt 9 = .ok (.ireturn, 1) := by decide +kernel
theorem dX0_rightSize_0 : decode cX0_rightSize 0 = .ok (.iload_n 1, 1) := by decide +kernel
theorem dX0_rightSize_1 : decode cX0_rightSize 1 = .ok (.ifCond .lt 10, 3) := by decide +kernel
theorem dX0_rightSize_4 : decode cX0_rightSize 4 = .ok (.iload_n 1, 1) := by decide +kernel
theorem dX0_rightSize_5 : decode cX0_rightSize 5 = .ok (.sipush 626, 3) := by decide +kernel
theorem dX0_rightSize_8 : decode cX0_rightSize 8 = .ok (.if_icmp .lt 5, 3) := by decide +kernel
theorem dX0_rightSize_11 : decode cX0_rightSize 11 = .ok (.iconst 0, 1) := by decide +kernel
theorem dX0_rightSize_12 : decode cX0_rightSize 12 = .ok (.ireturn, 1) := by decide +kernel
theorem dX0_rightSize_13 : decode cX0_rightSize 13 = .ok (.aload_n 0, 1) := by decide +kernel
theorem dX0_rightSize_14 : decode cX0_rightSize 14 = .ok (.getfield 11, 3) := by decide +kernel
theorem dX0_rightSize_17 : decode cX0_rightSize 17 = .ok (.iload_n 1, 1) := by decide +kernel
theorem dX0_rightSize_18 : decode cX0_rightSize 18 = .ok (.iaload, 1) := by decide +kernel
theorem dX0_rightSize_19 : decode cX0_rightSize 19 = .ok (.iconst 4, 1) := by decide +kernel
theorem dX0_rightSize_20 : decode cX0_rightSize 20 = .ok (.aload_n 0, 1) := by decide +kernel
theorem dX0_rightSize_21 : decode cX0_rightSize 21 = .ok (.getfield 15, 3) := by decide +kernel
theorem dX0_rightSize_24 : decode cX0_rightSize 24 = .ok (.iload_n 1, 1) := by decide +kernel
theorem dX0_rightSize_25 : decode cX0_rightSize 25 = .ok (.iaload, 1) := by decide +kernel
theorem dX0_rightSize_26 : decode cX0_rightSize 26 = .ok (.iconst 1, 1) := by decide +kernel
theorem dX0_rightSize_27 : decode cX0_rightSize 27 = .ok (.isub, 1) := by decide +kernel
theorem dX0_rightSize_28 : decode cX0_rightSize 28 = .ok (.iload_n 2, 1) := by decide +kernel
theorem dX0_rightSize_29 : decode cX0_rightSize 29 = .ok (.isub, 1) := by decide +kernel
theorem dX0_rightSize_30 : decode cX0_rightSize 30 = .ok (.imul, 1) := by decide +kernel
theorem dX0_rightSize_31 : decode cX0_rightSize 31 = .ok (.ishr, 1) := by decide +kernel
theorem dX0_rightSize_32 : decode cX0_rightSize 32 = .ok (.bipush 15, 2) := by decide +kernel
theorem dX0_rightSize_34 : decode cX0_rightSize 34 = .ok (.iand, 1) := by decide +kernel
theorem dX0_rightSize_35 : decode cX0_rightSize 35 = .ok (.ireturn, 1) := by decide +kernel
theorem dX0_end_0 : decode cX0_end 0 = .ok (.iload_n 2, 1) := by decide +kernel
theorem dX0_end_1 : decode cX0_end 1 = .ok (.aload_n 0, 1) := by decide +kernel
theorem dX0_end_2 : decode cX0_end 2 = .ok (.iload_n 1, 1) := by decide +kernel
theorem dX0_end_3 : decode cX0_end 3 = .ok (.iload_n 2, 1) := by decide +kernel
theorem dX0_end_4 : decode cX0_end 4 = .ok (.invokevirtual 46, 3) := by decide +kernel
theorem dX0_end_7 : decode cX0_end 7 = .ok (.iadd, 1) := by decide +kernel
theorem dX0_end_8 : decode cX0_end 8 = .ok (.ireturn, 1) := by decide +kernel
theorem dX0_leftSize_0 : decode cX0_leftSize 0 = .ok (.iconst 0, 1) := by decide +kernel
theorem dX0_leftSize_1 : decode cX0_leftSize 1 = .ok (.istore_n 3, 1) := by decide +kernel
theorem dX0_leftSize_2 : decode cX0_leftSize 2 = .ok (.iload_n 2, 1) := by decide +kernel
theorem dX0_leftSize_3 : decode cX0_leftSize 3 = .ok (.iconst 1, 1) := by decide +kernel
theorem dX0_leftSize_4 : decode cX0_leftSize 4 = .ok (.isub, 1) := by decide +kernel
theorem dX0_leftSize_5 : decode cX0_leftSize 5 = .ok (.istore 4, 2) := by decide +kernel
theorem dX0_leftSize_7 : decode cX0_leftSize 7 = .ok (.iload 4, 2) := by decide +kernel
theorem dX0_leftSize_9 : decode cX0_leftSize 9 = .ok (.ifCond .lt 23, 3) := by decide +kernel
theorem dX0_leftSize_12 : decode cX0_leftSize 12 = .ok (.aload_n 0, 1) := by decide +kernel
theorem dX0_leftSize_13 : decode cX0_leftSize 13 = .ok (.iload_n 1, 1) := by decide +kernel
theorem dX0_leftSize_14 : decode cX0_leftSize 14 = .ok (.iload 4, 2) := by decide +kernel
theorem dX0_leftSize_16 : decode cX0_leftSize 16 = .ok (.invokevirtual 49, 3) := by decide +kernel
theorem dX0_leftSize_19 : decode cX0_leftSize 19 = .ok (.iload_n 2, 1) := by decide +kernel
theorem dX0_leftSize_20 : decode cX0_leftSize 20 = .ok (.if_icmp .ge 12, 3) := by decide +kernel
theorem dX0_leftSize_23 : decode cX0_leftSize 23 = .ok (.iinc 3 1, 3) := by decide +kernel
theorem dX0_leftSize_26 : decode cX0_leftSize 26 = .ok (.iinc 4 (-1), 3) := by decide +kernel
theorem dX0_leftSize_29 : decode cX0_leftSize 29 = .ok (.goto (-22), 3) := by decide +kernel
theorem dX0_leftSize_32 : decode cX0_leftSize 32 = .ok (.iload_n 3, 1) := by decide +kernel
theorem dX0_leftSize_33 : decode cX0_leftSize 33 = .ok (.ireturn, 1) := by decide +kernel
theorem dX0_parent_0 : decode cX0_parent 0 = .ok (.aload_n 0, 1) := by decide +kernel
theorem dX0_parent_1 : decode cX0_parent 1 = .ok (.iload_n 1, 1) := by decide +kernel
theorem dX0_parent_2 : decode cX0_parent 2 = .ok (.iload_n 2, 1) := by decide +kernel
theorem dX0_parent_3 : decode cX0_parent 3 = .ok (.invokevirtual 49, 3) := by decide +kernel
theorem dX0_parent_6 : decode cX0_parent 6 = .ok (.istore_n 3, 1) := by decide +kernel
theorem dX0_parent_7 : decode cX0_parent 7 = .ok (.iload_n 2, 1) := by decide +kernel
theorem dX0_parent_8 : decode cX0_parent 8 = .ok (.aload_n 0, 1) := by decide +kernel
theorem dX0_parent_9 : decode cX0_parent 9 = .ok (.iload_n 1, 1) := by decide +kernel
theorem dX0_parent_10 : decode cX0_parent 10 = .ok (.iload_n 2, 1) := by decide +kernel
theorem dX0_parent_11 : decode cX0_parent 11 = .ok (.invokevirtual 52, 3) := by decide +kernel
theorem dX0_parent_14 : decode cX0_parent 14 = .ok (.isub, 1) := by decide +kernel
theorem dX0_parent_15 : decode cX0_parent 15 = .ok (.iconst 1, 1) := by decide +kernel
theorem dX0_parent_16 : decode cX0_parent 16 = .ok (.isub, 1) := by decide +kernel
theorem dX0_parent_17 : decode cX0_parent 17 = .ok (.istore 4, 2) := by decide +kernel
theorem dX0_parent_19 : decode cX0_parent 19 = .ok (.iload 4, 2) := by decide +kernel
theorem dX0_parent_21 : decode cX0_parent 21 = .ok (.ifCond .lt 17, 3) := by decide +kernel
theorem dX0_parent_24 : decode cX0_parent 24 = .ok (.aload_n 0, 1) := by decide +kernel
theorem dX0_parent_25 : decode cX0_parent 25 = .ok (.iload_n 1, 1) := by decide +kernel
theorem dX0_parent_26 : decode cX0_parent 26 = .ok (.iload 4, 2) := by decide +kernel
theorem dX0_parent_28 : decode cX0_parent 28 = .ok (.invokevirtual 49, 3) := by decide +kernel
theorem dX0_parent_31 : decode cX0_parent 31 = .ok (.iload_n 3, 1) := by decide +kernel
theorem dX0_parent_32 : decode cX0_parent 32 = .ok (.if_icmp .ne 6, 3) := by decide +kernel
theorem dX0_parent_35 : decode cX0_parent 35 = .ok (.iload 4, 2) := by decide +kernel
theorem dX0_parent_37 : decode cX0_parent 37 = .ok (.ireturn, 1) := by decide +kernel
theorem dX0_parent_38 : decode cX0_parent 38 = .ok (.iload_n 3, 1) := by decide +kernel
theorem dX0_parent_39 : decode cX0_parent 39 = .ok (.iconst 1, 1) := by decide +kernel
theorem dX0_parent_40 : decode cX0_parent 40 = .ok (.iadd, 1) := by decide +kernel
theorem dX0_parent_41 : decode cX0_parent 41 = .ok (.aload_n 0, 1) := by decide +kernel
theorem dX0_parent_42 : decode cX0_parent 42 = .ok (.iload_n 1, 1) := by decide +kernel
theorem dX0_parent_43 : decode cX0_parent 43 = .ok (.invokevirtual 36, 3) := by decide +kernel
theorem dX0_parent_46 : decode cX0_parent 46 = .ok (.if_icmp .ge 9, 3) := by decide +kernel
theorem dX0_parent_49 : decode cX0_parent 49 = .ok (.iload_n 3, 1) := by decide +kernel
theorem dX0_parent_50 : decode cX0_parent 50 = .ok (.iconst 1, 1) := by decide +kernel
theorem dX0_parent_51 : decode cX0_parent 51 = .ok (.iadd, 1) := by decide +kernel
theorem dX0_parent_52 : decode cX0_parent 52 = .ok (.goto 5, 3) := by decide +kernel
theorem dX0_parent_55 : decode cX0_parent 55 = .ok (.bipush (-5), 2) := by decide +kernel
theorem dX0_parent_57 : decode cX0_parent 57 = .ok (.ireturn, 1) := by decide +kernel
theorem dX0_isLeftChild_0 : decode cX0_isLeftChild 0 = .ok (.aload_n 0, 1) := by decide +kernel
theorem dX0_isLeftChild_1 : decode cX0_isLeftChild 1 = .ok (.iload_n 1, 1) := by decide +kernel
theorem dX0_isLeftChild_2 : decode cX0_isLeftChild 2 = .ok (.iload_n 2, 1) := by decide +kernel
theorem dX0_isLeftChild_3 : decode cX0_isLeftChild 3 = .ok (.invokevirtual 49, 3) := by decide +kernel
theorem dX0_isLeftChild_6 : decode cX0_isLeftChild 6 = .ok (.istore_n 3, 1) := by decide +kernel
theorem dX0_isLeftChild_7 : decode cX0_isLeftChild 7 = .ok (.iload_n 3, 1) := by decide +kernel
theorem dX0_isLeftChild_8 : decode cX0_isLeftChild 8 = .ok (.iconst 1, 1) := by decide +kernel
theorem dX0_isLeftChild_9 : decode cX0_isLeftChild 9 = .ok (.iadd, 1) := by decide +kernel
theorem dX0_isLeftChild_10 : decode cX0_isLeftChild 10 = .ok (.aload_n 0, 1) := by decide +kernel
theorem dX0_isLeftChild_11 : decode cX0_isLeftChild 11 = .ok (.iload_n 1, 1) := by decide +kernel
theorem dX0_isLeftChild_12 : decode cX0_isLeftChild 12 = .ok (.invokevirtual 36, 3) := by decide +kernel
theorem dX0_isLeftChild_15 : decode cX0_isLeftChild 15 = .ok (.if_icmp .lt 5, 3) := by decide +kernel
theorem dX0_isLeftChild_18 : decode cX0_isLeftChild 18 = .ok (.iconst 0, 1) := by decide +kernel
theorem dX0_isLeftChild_19 : decode cX0_isLeftChild 19 = .ok (.ireturn, 1) := by decide +kernel
theorem dX0_isLeftChild_20 : decode cX0_isLeftChild 20 = .ok (.iconst 0, 1) := by decide +kernel
theorem dX0_isLeftChild_21 : decode cX0_isLeftChild 21 = .ok (.istore 4, 2) := by decide +kernel
theorem dX0_isLeftChild_23 : decode cX0_isLeftChild 23 = .ok (.iload 4, 2) := by decide +kernel
theorem dX0_isLeftChild_25 : decode cX0_isLeftChild 25 = .ok (.iload_n 2, 1) := by decide +kernel
theorem dX0_isLeftChild_26 : decode cX0_isLeftChild 26 = .ok (.if_icmp .ge 22, 3) := by decide +kernel
theorem dX0_isLeftChild_29 : decode cX0_isLeftChild 29 = .ok (.aload_n 0, 1) := by decide +kernel
theorem dX0_isLeftChild_30 : decode cX0_isLeftChild 30 = .ok (.iload_n 1, 1) := by decide +kernel
theorem dX0_isLeftChild_31 : decode cX0_isLeftChild 31 = .ok (.iload 4, 2) := by decide +kernel
theorem dX0_isLeftChild_33 : decode cX0_isLeftChild 33 = .ok (.invokevirtual 49, 3) := by decide +kernel
theorem dX0_isLeftChild_36 : decode cX0_isLeftChild 36 = .ok (.iload_n 3, 1) := by decide +kernel
theorem dX0_isLeftChild_37 : decode cX0_isLeftChild 37 = .ok (.if_icmp .ne 5, 3) := by decide +kernel
theorem dX0_isLeftChild_40 : decode cX0_isLeftChild 40 = .ok (.iconst 0, 1) := by decide +kernel
theorem dX0_isLeftChild_41 : decode cX0_isLeftChild 41 = .ok (.ireturn, 1) := by decide +kernel
theorem dX0_isLeftChild_42 : decode cX0_isLeftChild 42 = .ok (.iinc 4 1, 3) := by decide +kernel
theorem dX0_isLeftChild_45 : decode cX0_isLeftChild 45 = .ok (.goto (-22), 3) := by decide +kernel
theorem dX0_isLeftChild_48 : decode cX0_isLeftChild 48 = .ok (.iconst 1, 1) := by decide +kernel
theorem dX0_isLeftChild_49 : decode cX0_isLeftChild 49 = .ok (.ireturn, 1) := by decide +kernel
theorem dX0_leftChild_0 : decode cX0_leftChild 0 = .ok (.aload_n 0, 1) := by decide +kernel
theorem dX0_leftChild_1 : decode cX0_leftChild 1 = .ok (.iload_n 1, 1) := by decide +kernel
theorem dX0_leftChild_2 : decode cX0_leftChild 2 = .ok (.iload_n 2, 1) := by decide +kernel
theorem dX0_leftChild_3 : decode cX0_leftChild 3 = .ok (.aload_n 0, 1) := by decide +kernel
theorem dX0_leftChild_4 : decode cX0_leftChild 4 = .ok (.iload_n 1, 1) := by decide +kernel
theorem dX0_leftChild_5 : decode cX0_leftChild 5 = .ok (.iload_n 2, 1) := by decide +kernel
theorem dX0_leftChild_6 : decode cX0_leftChild 6 = .ok (.invokevirtual 52, 3) := by decide +kernel
theorem dX0_leftChild_9 : decode cX0_leftChild 9 = .ok (.isub, 1) := by decide +kernel
theorem dX0_leftChild_10 : decode cX0_leftChild 10 = .ok (.iload_n 2, 1) := by decide +kernel
theorem dX0_leftChild_11 : decode cX0_leftChild 11 = .ok (.iconst 1, 1) := by decide +kernel
theorem dX0_leftChild_12 : decode cX0_leftChild 12 = .ok (.isub, 1) := by decide +kernel
theorem dX0_leftChild_13 : decode cX0_leftChild 13 = .ok (.invokevirtual 55, 3) := by decide +kernel
theorem dX0_leftChild_16 : decode cX0_leftChild 16 = .ok (.ireturn, 1) := by decide +kernel
theorem dX0_rightChild_0 : decode cX0_rightChild 0 = .ok (.aload_n 0, 1) := by decide +kernel
theorem dX0_rightChild_1 : decode cX0_rightChild 1 = .ok (.iload_n 1, 1) := by decide +kernel
theorem dX0_rightChild_2 : decode cX0_rightChild 2 = .ok (.iload_n 2, 1) := by decide +kernel
theorem dX0_rightChild_3 : decode cX0_rightChild 3 = .ok (.iconst 1, 1) := by decide +kernel
theorem dX0_rightChild_4 : decode cX0_rightChild 4 = .ok (.iadd, 1) := by decide +kernel
theorem dX0_rightChild_5 : decode cX0_rightChild 5 = .ok (.aload_n 0, 1) := by decide +kernel
theorem dX0_rightChild_6 : decode cX0_rightChild 6 = .ok (.iload_n 1, 1) := by decide +kernel
theorem dX0_rightChild_7 : decode cX0_rightChild 7 = .ok (.iload_n 2, 1) := by decide +kernel
theorem dX0_rightChild_8 : decode cX0_rightChild 8 = .ok (.invokevirtual 49, 3) := by decide +kernel
theorem dX0_rightChild_11 : decode cX0_rightChild 11 = .ok (.invokevirtual 55, 3) := by decide +kernel
theorem dX0_rightChild_14 : decode cX0_rightChild 14 = .ok (.ireturn, 1) := by decide +kernel
theorem dX0_top_0 : decode cX0_top 0 = .ok (.iload_n 2, 1) := by decide +kernel
theorem dX0_top_1 : decode cX0_top 1 = .ok (.istore 4, 2) := by decide +kernel
theorem dX0_top_3 : decode cX0_top 3 = .ok (.iload 4, 2) := by decide +kernel
theorem dX0_top_5 : decode cX0_top 5 = .ok (.iload_n 3, 1) := by decide +kernel
theorem dX0_top_6 : decode cX0_top 6 = .ok (.if_icmp .gt 23, 3) := by decide +kernel
theorem dX0_top_9 : decode cX0_top 9 = .ok (.aload_n 0, 1) := by decide +kernel
theorem dX0_top_10 : decode cX0_top 10 = .ok (.iload_n 1, 1) := by decide +kernel
theorem dX0_top_11 : decode cX0_top 11 = .ok (.iload 4, 2) := by decide +kernel
theorem dX0_top_13 : decode cX0_top 13 = .ok (.invokevirtual 49, 3) := by decide +kernel
theorem dX0_top_16 : decode cX0_top 16 = .ok (.iload_n 3, 1) := by decide +kernel
theorem dX0_top_17 : decode cX0_top 17 = .ok (.if_icmp .ne 6, 3) := by decide +kernel
theorem dX0_top_20 : decode cX0_top 20 = .ok (.iload 4, 2) := by decide +kernel
theorem dX0_top_22 : decode cX0_top 22 = .ok (.ireturn, 1) := by decide +kernel
theorem dX0_top_23 : decode cX0_top 23 = .ok (.iinc 4 1, 3) := by decide +kernel
theorem dX0_top_26 : decode cX0_top 26 = .ok (.goto (-23), 3) := by decide +kernel
theorem dX0_top_29 : decode cX0_top 29 = .ok (.bipush (-5), 2) := by decide +kernel
theorem dX0_top_31 : decode cX0_top 31 = .ok (.ireturn, 1) := by decide +kernel
theorem dX0_depth_0 : decode cX0_depth 0 = .ok (.iconst 0, 1) := by decide +kernel
theorem dX0_depth_1 : decode cX0_depth 1 = .ok (.istore_n 3, 1) := by decide +kernel
theorem dX0_depth_2 : decode cX0_depth 2 = .ok (.iconst 0, 1) := by decide +kernel
theorem dX0_depth_3 : decode cX0_depth 3 = .ok (.istore 4, 2) := by decide +kernel
theorem dX0_depth_5 : decode cX0_depth 5 = .ok (.iload 4, 2) := by decide +kernel
theorem dX0_depth_7 : decode cX0_depth 7 = .ok (.aload_n 0, 1) := by decide +kernel
theorem dX0_depth_8 : decode cX0_depth 8 = .ok (.iload_n 1, 1) := by decide +kernel
theorem dX0_depth_9 : decode cX0_depth 9 = .ok (.invokevirtual 36, 3) := by decide +kernel
theorem dX0_depth_12 : decode cX0_depth 12 = .ok (.if_icmp .ge 43, 3) := by decide +kernel
theorem dX0_depth_15 : decode cX0_depth 15 = .ok (.iload 4, 2) := by decide +kernel
theorem dX0_depth_17 : decode cX0_depth 17 = .ok (.iload_n 2, 1) := by decide +kernel
theorem dX0_depth_18 : decode cX0_depth 18 = .ok (.if_icmp .eq 31, 3) := by decide +kernel
theorem dX0_depth_21 : decode cX0_depth 21 = .ok (.iload 4, 2) := by decide +kernel
theorem dX0_depth_23 : decode cX0_depth 23 = .ok (.aload_n 0, 1) := by decide +kernel
theorem dX0_depth_24 : decode cX0_depth 24 = .ok (.iload_n 1, 1) := by decide +kernel
theorem dX0_depth_25 : decode cX0_depth 25 = .ok (.iload 4, 2) := by decide +kernel
theorem dX0_depth_27 : decode cX0_depth 27 = .ok (.invokevirtual 52, 3) := by decide +kernel
theorem dX0_depth_30 : decode cX0_depth 30 = .ok (.isub, 1) := by decide +kernel
theorem dX0_depth_31 : decode cX0_depth 31 = .ok (.iload_n 2, 1) := by decide +kernel
theorem dX0_depth_32 : decode cX0_depth 32 = .ok (.if_icmp .gt 17, 3) := by decide +kernel
theorem dX0_depth_35 : decode cX0_depth 35 = .ok (.iload_n 2, 1) := by decide +kernel
theorem dX0_depth_36 : decode cX0_depth 36 = .ok (.aload_n 0, 1) := by decide +kernel
theorem dX0_depth_37 : decode cX0_depth 37 = .ok (.iload_n 1, 1) := by decide +kernel
theorem dX0_depth_38 : decode cX0_depth 38 = .ok (.iload 4, 2) := by decide +kernel
theorem dX0_depth_40 : decode cX0_depth 40 = .ok (.invokevirtual 49, 3) := by decide +kernel
theorem dX0_depth_43 : decode cX0_depth 43 = .ok (.if_icmp .gt 6, 3) := by decide +kernel
theorem dX0_depth_46 : decode cX0_depth 46 = .ok (.iinc 3 1, 3) := by decide +kernel
theorem dX0_depth_49 : decode cX0_depth 49 = .ok (.iinc 4 1, 3) := by decide +kernel
theorem dX0_depth_52 : decode cX0_depth 52 = .ok (.goto (-47), 3) := by decide +kernel
theorem dX0_depth_55 : decode cX0_depth 55 = .ok (.iload_n 3, 1) := by decide +kernel
theorem dX0_depth_56 : decode cX0_depth 56 = .ok (.ireturn, 1) := by decide +kernel
theorem dX0_turnedUp_0 : decode cX0_turnedUp 0 = .ok (.aload_n 0, 1) := by decide +kernel
theorem dX0_turnedUp_1 : decode cX0_turnedUp 1 = .ok (.iload_n 1, 1) := by decide +kernel
theorem dX0_turnedUp_2 : decode cX0_turnedUp 2 = .ok (.iload_n 2, 1) := by decide +kernel
theorem dX0_turnedUp_3 : decode cX0_turnedUp 3 = .ok (.invokevirtual 58, 3) := by decide +kernel
theorem dX0_turnedUp_6 : decode cX0_turnedUp 6 = .ok (.ifCond .ne 5, 3) := by decide +kernel
theorem dX0_turnedUp_9 : decode cX0_turnedUp 9 = .ok (.iconst 0, 1) := by decide +kernel
theorem dX0_turnedUp_10 : decode cX0_turnedUp 10 = .ok (.ireturn, 1) := by decide +kernel
theorem dX0_turnedUp_11 : decode cX0_turnedUp 11 = .ok (.aload_n 0, 1) := by decide +kernel
theorem dX0_turnedUp_12 : decode cX0_turnedUp 12 = .ok (.iload_n 1, 1) := by decide +kernel
theorem dX0_turnedUp_13 : decode cX0_turnedUp 13 = .ok (.invokevirtual 36, 3) := by decide +kernel
theorem dX0_turnedUp_16 : decode cX0_turnedUp 16 = .ok (.istore_n 3, 1) := by decide +kernel
theorem dX0_turnedUp_17 : decode cX0_turnedUp 17 = .ok (.aload_n 0, 1) := by decide +kernel
theorem dX0_turnedUp_18 : decode cX0_turnedUp 18 = .ok (.iload_n 1, 1) := by decide +kernel
theorem dX0_turnedUp_19 : decode cX0_turnedUp 19 = .ok (.iload_n 2, 1) := by decide +kernel
theorem dX0_turnedUp_20 : decode cX0_turnedUp 20 = .ok (.invokevirtual 49, 3) := by decide +kernel
theorem dX0_turnedUp_23 : decode cX0_turnedUp 23 = .ok (.iconst 1, 1) := by decide +kernel
theorem dX0_turnedUp_24 : decode cX0_turnedUp 24 = .ok (.iadd, 1) := by decide +kernel
theorem dX0_turnedUp_25 : decode cX0_turnedUp 25 = .ok (.istore 4, 2) := by decide +kernel
theorem dX0_turnedUp_27 : decode cX0_turnedUp 27 = .ok (.aload_n 0, 1) := by decide +kernel
theorem dX0_turnedUp_28 : decode cX0_turnedUp 28 = .ok (.iload_n 3, 1) := by decide +kernel
theorem dX0_turnedUp_29 : decode cX0_turnedUp 29 = .ok (.aload_n 0, 1) := by decide +kernel
theorem dX0_turnedUp_30 : decode cX0_turnedUp 30 = .ok (.iload_n 1, 1) := by decide +kernel
theorem dX0_turnedUp_31 : decode cX0_turnedUp 31 = .ok (.invokevirtual 39, 3) := by decide +kernel
theorem dX0_turnedUp_34 : decode cX0_turnedUp 34 = .ok (.iconst 1, 1) := by decide +kernel
theorem dX0_turnedUp_35 : decode cX0_turnedUp 35 = .ok (.aload_n 0, 1) := by decide +kernel
theorem dX0_turnedUp_36 : decode cX0_turnedUp 36 = .ok (.iload_n 1, 1) := by decide +kernel
theorem dX0_turnedUp_37 : decode cX0_turnedUp 37 = .ok (.iload 4, 2) := by decide +kernel
theorem dX0_turnedUp_39 : decode cX0_turnedUp 39 = .ok (.invokevirtual 46, 3) := by decide +kernel
theorem dX0_turnedUp_42 : decode cX0_turnedUp 42 = .ok (.iadd, 1) := by decide +kernel
theorem dX0_turnedUp_43 : decode cX0_turnedUp 43 = .ok (.iload_n 3, 1) := by decide +kernel
theorem dX0_turnedUp_44 : decode cX0_turnedUp 44 = .ok (.iload_n 2, 1) := by decide +kernel
theorem dX0_turnedUp_45 : decode cX0_turnedUp 45 = .ok (.invokestatic 62, 3) := by decide +kernel
theorem dX0_turnedUp_48 : decode cX0_turnedUp 48 = .ok (.iadd, 1) := by decide +kernel
theorem dX0_turnedUp_49 : decode cX0_turnedUp 49 = .ok (.invokevirtual 42, 3) := by decide +kernel
theorem dX0_turnedUp_52 : decode cX0_turnedUp 52 = .ok (.ireturn, 1) := by decide +kernel
theorem dX0_turnedBack_0 : decode cX0_turnedBack 0 = .ok (.aload_n 0, 1) := by decide +kernel
theorem dX0_turnedBack_1 : decode cX0_turnedBack 1 = .ok (.iload_n 1, 1) := by decide +kernel
theorem dX0_turnedBack_2 : decode cX0_turnedBack 2 = .ok (.iload_n 2, 1) := by decide +kernel
theorem dX0_turnedBack_3 : decode cX0_turnedBack 3 = .ok (.iconst 1, 1) := by decide +kernel
theorem dX0_turnedBack_4 : decode cX0_turnedBack 4 = .ok (.iadd, 1) := by decide +kernel
theorem dX0_turnedBack_5 : decode cX0_turnedBack 5 = .ok (.aload_n 0, 1) := by decide +kernel
theorem dX0_turnedBack_6 : decode cX0_turnedBack 6 = .ok (.iload_n 1, 1) := by decide +kernel
theorem dX0_turnedBack_7 : decode cX0_turnedBack 7 = .ok (.iload_n 2, 1) := by decide +kernel
theorem dX0_turnedBack_8 : decode cX0_turnedBack 8 = .ok (.invokevirtual 49, 3) := by decide +kernel
theorem dX0_turnedBack_11 : decode cX0_turnedBack 11 = .ok (.invokevirtual 55, 3) := by decide +kernel
theorem dX0_turnedBack_14 : decode cX0_turnedBack 14 = .ok (.istore_n 3, 1) := by decide +kernel
theorem dX0_turnedBack_15 : decode cX0_turnedBack 15 = .ok (.iload_n 3, 1) := by decide +kernel
theorem dX0_turnedBack_16 : decode cX0_turnedBack 16 = .ok (.bipush (-5), 2) := by decide +kernel
theorem dX0_turnedBack_18 : decode cX0_turnedBack 18 = .ok (.if_icmp .ne 5, 3) := by decide +kernel
theorem dX0_turnedBack_21 : decode cX0_turnedBack 21 = .ok (.iconst 0, 1) := by decide +kernel
theorem dX0_turnedBack_22 : decode cX0_turnedBack 22 = .ok (.ireturn, 1) := by decide +kernel
theorem dX0_turnedBack_23 : decode cX0_turnedBack 23 = .ok (.aload_n 0, 1) := by decide +kernel
theorem dX0_turnedBack_24 : decode cX0_turnedBack 24 = .ok (.iload_n 1, 1) := by decide +kernel
theorem dX0_turnedBack_25 : decode cX0_turnedBack 25 = .ok (.invokevirtual 36, 3) := by decide +kernel
theorem dX0_turnedBack_28 : decode cX0_turnedBack 28 = .ok (.istore 4, 2) := by decide +kernel
theorem dX0_turnedBack_30 : decode cX0_turnedBack 30 = .ok (.aload_n 0, 1) := by decide +kernel
theorem dX0_turnedBack_31 : decode cX0_turnedBack 31 = .ok (.iload 4, 2) := by decide +kernel
theorem dX0_turnedBack_33 : decode cX0_turnedBack 33 = .ok (.aload_n 0, 1) := by decide +kernel
theorem dX0_turnedBack_34 : decode cX0_turnedBack 34 = .ok (.iload_n 1, 1) := by decide +kernel
theorem dX0_turnedBack_35 : decode cX0_turnedBack 35 = .ok (.invokevirtual 39, 3) := by decide +kernel
theorem dX0_turnedBack_38 : decode cX0_turnedBack 38 = .ok (.iconst 1, 1) := by decide +kernel
theorem dX0_turnedBack_39 : decode cX0_turnedBack 39 = .ok (.aload_n 0, 1) := by decide +kernel
theorem dX0_turnedBack_40 : decode cX0_turnedBack 40 = .ok (.iload_n 1, 1) := by decide +kernel
theorem dX0_turnedBack_41 : decode cX0_turnedBack 41 = .ok (.iload_n 3, 1) := by decide +kernel
theorem dX0_turnedBack_42 : decode cX0_turnedBack 42 = .ok (.invokevirtual 46, 3) := by decide +kernel
theorem dX0_turnedBack_45 : decode cX0_turnedBack 45 = .ok (.iadd, 1) := by decide +kernel
theorem dX0_turnedBack_46 : decode cX0_turnedBack 46 = .ok (.iload 4, 2) := by decide +kernel
theorem dX0_turnedBack_48 : decode cX0_turnedBack 48 = .ok (.iload_n 2, 1) := by decide +kernel
theorem dX0_turnedBack_49 : decode cX0_turnedBack 49 = .ok (.invokestatic 62, 3) := by decide +kernel
theorem dX0_turnedBack_52 : decode cX0_turnedBack 52 = .ok (.isub, 1) := by decide +kernel
theorem dX0_turnedBack_53 : decode cX0_turnedBack 53 = .ok (.invokevirtual 42, 3) := by decide +kernel
theorem dX0_turnedBack_56 : decode cX0_turnedBack 56 = .ok (.ireturn, 1) := by decide +kernel
theorem dX0_turnedAsTold_0 : decode cX0_turnedAsTold 0 = .ok (.aload_n 0, 1) := by decide +kernel
theorem dX0_turnedAsTold_1 : decode cX0_turnedAsTold 1 = .ok (.iload_n 1, 1) := by decide +kernel
theorem dX0_turnedAsTold_2 : decode cX0_turnedAsTold 2 = .ok (.invokevirtual 36, 3) := by decide +kernel
theorem dX0_turnedAsTold_5 : decode cX0_turnedAsTold 5 = .ok (.istore 4, 2) := by decide +kernel
theorem dX0_turnedAsTold_7 : decode cX0_turnedAsTold 7 = .ok (.lload_n 2, 1) := by decide +kernel
theorem dX0_turnedAsTold_8 : decode cX0_turnedAsTold 8 = .ok (.iload 4, 2) := by decide +kernel
theorem dX0_turnedAsTold_10 : decode cX0_turnedAsTold 10 = .ok (.i2l, 1) := by decide +kernel
theorem dX0_turnedAsTold_11 : decode cX0_turnedAsTold 11 = .ok (.lcmp, 1) := by decide +kernel
theorem dX0_turnedAsTold_12 : decode cX0_turnedAsTold 12 = .ok (.ifCond .ge 12, 3) := by decide +kernel
theorem dX0_turnedAsTold_15 : decode cX0_turnedAsTold 15 = .ok (.lload_n 2, 1) := by decide +kernel
theorem dX0_turnedAsTold_16 : decode cX0_turnedAsTold 16 = .ok (.iload 4, 2) := by decide +kernel
theorem dX0_turnedAsTold_18 : decode cX0_turnedAsTold 18 = .ok (.ineg, 1) := by decide +kernel
theorem dX0_turnedAsTold_19 : decode cX0_turnedAsTold 19 = .ok (.i2l, 1) := by decide +kernel
theorem dX0_turnedAsTold_20 : decode cX0_turnedAsTold 20 = .ok (.lcmp, 1) := by decide +kernel
theorem dX0_turnedAsTold_21 : decode cX0_turnedAsTold 21 = .ok (.ifCond .ge 5, 3) := by decide +kernel
theorem dX0_turnedAsTold_24 : decode cX0_turnedAsTold 24 = .ok (.iconst 0, 1) := by decide +kernel
theorem dX0_turnedAsTold_25 : decode cX0_turnedAsTold 25 = .ok (.ireturn, 1) := by decide +kernel
theorem dX0_turnedAsTold_26 : decode cX0_turnedAsTold 26 = .ok (.lload_n 2, 1) := by decide +kernel
theorem dX0_turnedAsTold_27 : decode cX0_turnedAsTold 27 = .ok (.lconst 0, 1) := by decide +kernel
theorem dX0_turnedAsTold_28 : decode cX0_turnedAsTold 28 = .ok (.lcmp, 1) := by decide +kernel
theorem dX0_turnedAsTold_29 : decode cX0_turnedAsTold 29 = .ok (.ifCond .lt 13, 3) := by decide +kernel
theorem dX0_turnedAsTold_32 : decode cX0_turnedAsTold 32 = .ok (.aload_n 0, 1) := by decide +kernel
theorem dX0_turnedAsTold_33 : decode cX0_turnedAsTold 33 = .ok (.iload_n 1, 1) := by decide +kernel
theorem dX0_turnedAsTold_34 : decode cX0_turnedAsTold 34 = .ok (.lload_n 2, 1) := by decide +kernel
theorem dX0_turnedAsTold_35 : decode cX0_turnedAsTold 35 = .ok (.l2i, 1) := by decide +kernel
theorem dX0_turnedAsTold_36 : decode cX0_turnedAsTold 36 = .ok (.invokevirtual 65, 3) := by decide +kernel
theorem dX0_turnedAsTold_39 : decode cX0_turnedAsTold 39 = .ok (.goto 14, 3) := by decide +kernel
theorem dX0_turnedAsTold_42 : decode cX0_turnedAsTold 42 = .ok (.aload_n 0, 1) := by decide +kernel
theorem dX0_turnedAsTold_43 : decode cX0_turnedAsTold 43 = .ok (.iload_n 1, 1) := by decide +kernel
theorem dX0_turnedAsTold_44 : decode cX0_turnedAsTold 44 = .ok (.ldc2_w 68, 3) := by decide +kernel
theorem dX0_turnedAsTold_47 : decode cX0_turnedAsTold 47 = .ok (.lload_n 2, 1) := by decide +kernel
theorem dX0_turnedAsTold_48 : decode cX0_turnedAsTold 48 = .ok (.lsub, 1) := by decide +kernel
theorem dX0_turnedAsTold_49 : decode cX0_turnedAsTold 49 = .ok (.l2i, 1) := by decide +kernel
theorem dX0_turnedAsTold_50 : decode cX0_turnedAsTold 50 = .ok (.invokevirtual 70, 3) := by decide +kernel
theorem dX0_turnedAsTold_53 : decode cX0_turnedAsTold 53 = .ok (.ireturn, 1) := by decide +kernel
theorem dX0_leftChildren_0 : decode cX0_leftChildren 0 = .ok (.iconst 0, 1) := by decide +kernel
theorem dX0_leftChildren_1 : decode cX0_leftChildren 1 = .ok (.istore_n 2, 1) := by decide +kernel
theorem dX0_leftChildren_2 : decode cX0_leftChildren 2 = .ok (.iconst 0, 1) := by decide +kernel
theorem dX0_leftChildren_3 : decode cX0_leftChildren 3 = .ok (.istore_n 3, 1) := by decide +kernel
theorem dX0_leftChildren_4 : decode cX0_leftChildren 4 = .ok (.iload_n 3, 1) := by decide +kernel
theorem dX0_leftChildren_5 : decode cX0_leftChildren 5 = .ok (.aload_n 0, 1) := by decide +kernel
theorem dX0_leftChildren_6 : decode cX0_leftChildren 6 = .ok (.iload_n 1, 1) := by decide +kernel
theorem dX0_leftChildren_7 : decode cX0_leftChildren 7 = .ok (.invokevirtual 36, 3) := by decide +kernel
theorem dX0_leftChildren_10 : decode cX0_leftChildren 10 = .ok (.if_icmp .ge 24, 3) := by decide +kernel
theorem dX0_leftChildren_13 : decode cX0_leftChildren 13 = .ok (.aload_n 0, 1) := by decide +kernel
theorem dX0_leftChildren_14 : decode cX0_leftChildren 14 = .ok (.iload_n 1, 1) := by decide +kernel
theorem dX0_leftChildren_15 : decode cX0_leftChildren 15 = .ok (.iload_n 3, 1) := by decide +kernel
theorem dX0_leftChildren_16 : decode cX0_leftChildren 16 = .ok (.invokevirtual 58, 3) := by decide +kernel
theorem dX0_leftChildren_19 : decode cX0_leftChildren 19 = .ok (.ifCond .eq 9, 3) := by decide +kernel
theorem dX0_leftChildren_22 : decode cX0_leftChildren 22 = .ok (.iload_n 2, 1) := by decide +kernel
theorem dX0_leftChildren_23 : decode cX0_leftChildren 23 = .ok (.iconst 1, 1) := by decide +kernel
theorem dX0_leftChildren_24 : decode cX0_leftChildren 24 = .ok (.iload_n 3, 1) := by decide +kernel
theorem dX0_leftChildren_25 : decode cX0_leftChildren 25 = .ok (.ishl, 1) := by decide +kernel
theorem dX0_leftChildren_26 : decode cX0_leftChildren 26 = .ok (.ior, 1) := by decide +kernel
theorem dX0_leftChildren_27 : decode cX0_leftChildren 27 = .ok (.istore_n 2, 1) := by decide +kernel
theorem dX0_leftChildren_28 : decode cX0_leftChildren 28 = .ok (.iinc 3 1, 3) := by decide +kernel
theorem dX0_leftChildren_31 : decode cX0_leftChildren 31 = .ok (.goto (-27), 3) := by decide +kernel
theorem dX0_leftChildren_34 : decode cX0_leftChildren 34 = .ok (.iload_n 2, 1) := by decide +kernel
theorem dX0_leftChildren_35 : decode cX0_leftChildren 35 = .ok (.ireturn, 1) := by decide +kernel
theorem dX0_withRightChild_0 : decode cX0_withRightChild 0 = .ok (.iconst 0, 1) := by decide +kernel
theorem dX0_withRightChild_1 : decode cX0_withRightChild 1 = .ok (.istore_n 2, 1) := by decide +kernel
theorem dX0_withRightChild_2 : decode cX0_withRightChild 2 = .ok (.aload_n 0, 1) := by decide +kernel
theorem dX0_withRightChild_3 : decode cX0_withRightChild 3 = .ok (.iload_n 1, 1) := by decide +kernel
theorem dX0_withRightChild_4 : decode cX0_withRightChild 4 = .ok (.invokevirtual 39, 3) := by decide +kernel
theorem dX0_withRightChild_7 : decode cX0_withRightChild 7 = .ok (.istore_n 3, 1) := by decide +kernel
theorem dX0_withRightChild_8 : decode cX0_withRightChild 8 = .ok (.aload_n 0, 1) := by decide +kernel
theorem dX0_withRightChild_9 : decode cX0_withRightChild 9 = .ok (.iload_n 1, 1) := by decide +kernel
theorem dX0_withRightChild_10 : decode cX0_withRightChild 10 = .ok (.invokevirtual 36, 3) := by decide +kernel
theorem dX0_withRightChild_13 : decode cX0_withRightChild 13 = .ok (.istore 4, 2) := by decide +kernel
theorem dX0_withRightChild_15 : decode cX0_withRightChild 15 = .ok (.iload 4, 2) := by decide +kernel
theorem dX0_withRightChild_17 : decode cX0_withRightChild 17 = .ok (.ifCond .le 30, 3) := by decide +kernel
theorem dX0_withRightChild_20 : decode cX0_withRightChild 20 = .ok (.iload_n 2, 1) := by decide +kernel
theorem dX0_withRightChild_21 : decode cX0_withRightChild 21 = .ok (.iconst 1, 1) := by decide +kernel
theorem dX0_withRightChild_22 : decode cX0_withRightChild 22 = .ok (.ishl, 1) := by decide +kernel
theorem dX0_withRightChild_23 : decode cX0_withRightChild 23 = .ok (.iload_n 3, 1) := by decide +kernel
theorem dX0_withRightChild_24 : decode cX0_withRightChild 24 = .ok (.bipush 15, 2) := by decide +kernel
theorem dX0_withRightChild_26 : decode cX0_withRightChild 26 = .ok (.iand, 1) := by decide +kernel
theorem dX0_withRightChild_27 : decode cX0_withRightChild 27 = .ok (.ifCond .le 7, 3) := by decide +kernel
theorem dX0_withRightChild_30 : decode cX0_withRightChild 30 = .ok (.iconst 1, 1) := by decide +kernel
theorem dX0_withRightChild_31 : decode cX0_withRightChild 31 = .ok (.goto 4, 3) := by decide +kernel
theorem dX0_withRightChild_34 : decode cX0_withRightChild 34 = .ok (.iconst 0, 1) := by decide +kernel
theorem dX0_withRightChild_35 : decode cX0_withRightChild 35 = .ok (.ior, 1) := by decide +kernel
theorem dX0_withRightChild_36 : decode cX0_withRightChild 36 = .ok (.istore_n 2, 1) := by decide +kernel
theorem dX0_withRightChild_37 : decode cX0_withRightChild 37 = .ok (.iload_n 3, 1) := by decide +kernel
theorem dX0_withRightChild_38 : decode cX0_withRightChild 38 = .ok (.iconst 4, 1) := by decide +kernel
theorem dX0_withRightChild_39 : decode cX0_withRightChild 39 = .ok (.ishr, 1) := by decide +kernel
theorem dX0_withRightChild_40 : decode cX0_withRightChild 40 = .ok (.istore_n 3, 1) := by decide +kernel
theorem dX0_withRightChild_41 : decode cX0_withRightChild 41 = .ok (.iinc 4 (-1), 3) := by decide +kernel
theorem dX0_withRightChild_44 : decode cX0_withRightChild 44 = .ok (.goto (-29), 3) := by decide +kernel
theorem dX0_withRightChild_47 : decode cX0_withRightChild 47 = .ok (.iload_n 2, 1) := by decide +kernel
theorem dX0_withRightChild_48 : decode cX0_withRightChild 48 = .ok (.ireturn, 1) := by decide +kernel
theorem dX0_howManyWith_0 : decode cX0_howManyWith 0 = .ok (.iconst 0, 1) := by decide +kernel
theorem dX0_howManyWith_1 : decode cX0_howManyWith 1 = .ok (.istore_n 3, 1) := by decide +kernel
theorem dX0_howManyWith_2 : decode cX0_howManyWith 2 = .ok (.aload_n 0, 1) := by decide +kernel
theorem dX0_howManyWith_3 : decode cX0_howManyWith 3 = .ok (.iload_n 1, 1) := by decide +kernel
theorem dX0_howManyWith_4 : decode cX0_howManyWith 4 = .ok (.invokevirtual 33, 3) := by decide +kernel
theorem dX0_howManyWith_7 : decode cX0_howManyWith 7 = .ok (.istore 4, 2) := by decide +kernel
theorem dX0_howManyWith_9 : decode cX0_howManyWith 9 = .ok (.iload 4, 2) := by decide +kernel
theorem dX0_howManyWith_11 : decode cX0_howManyWith 11 = .ok (.aload_n 0, 1) := by decide +kernel
theorem dX0_howManyWith_12 : decode cX0_howManyWith 12 = .ok (.iload_n 1, 1) := by decide +kernel
theorem dX0_howManyWith_13 : decode cX0_howManyWith 13 = .ok (.invokevirtual 29, 3) := by decide +kernel
theorem dX0_howManyWith_16 : decode cX0_howManyWith 16 = .ok (.if_icmp .gt 22, 3) := by decide +kernel
theorem dX0_howManyWith_19 : decode cX0_howManyWith 19 = .ok (.aload_n 0, 1) := by decide +kernel
theorem dX0_howManyWith_20 : decode cX0_howManyWith 20 = .ok (.iload 4, 2) := by decide +kernel
theorem dX0_howManyWith_22 : decode cX0_howManyWith 22 = .ok (.invokevirtual 73, 3) := by decide +kernel
theorem dX0_howManyWith_25 : decode cX0_howManyWith 25 = .ok (.iload_n 2, 1) := by decide +kernel
theorem dX0_howManyWith_26 : decode cX0_howManyWith 26 = .ok (.if_icmp .ne 6, 3) := by decide +kernel
theorem dX0_howManyWith_29 : decode cX0_howManyWith 29 = .ok (.iinc 3 1, 3) := by decide +kernel
theorem dX0_howManyWith_32 : decode cX0_howManyWith 32 = .ok (.iinc 4 1, 3) := by decide +kernel
theorem dX0_howManyWith_35 : decode cX0_howManyWith 35 = .ok (.goto (-26), 3) := by decide +kernel
theorem dX0_howManyWith_38 : decode cX0_howManyWith 38 = .ok (.iload_n 3, 1) := by decide +kernel
theorem dX0_howManyWith_39 : decode cX0_howManyWith 39 = .ok (.ireturn, 1) := by decide +kernel
theorem dX0_leastWith_0 : decode cX0_leastWith 0 = .ok (.aload_n 0, 1) := by decide +kernel
theorem dX0_leastWith_1 : decode cX0_leastWith 1 = .ok (.iload_n 1, 1) := by decide +kernel
theorem dX0_leastWith_2 : decode cX0_leastWith 2 = .ok (.invokevirtual 33, 3) := by decide +kernel
theorem dX0_leastWith_5 : decode cX0_leastWith 5 = .ok (.istore_n 3, 1) := by decide +kernel
theorem dX0_leastWith_6 : decode cX0_leastWith 6 = .ok (.iload_n 3, 1) := by decide +kernel
theorem dX0_leastWith_7 : decode cX0_leastWith 7 = .ok (.aload_n 0, 1) := by decide +kernel
theorem dX0_leastWith_8 : decode cX0_leastWith 8 = .ok (.iload_n 1, 1) := by decide +kernel
theorem dX0_leastWith_9 : decode cX0_leastWith 9 = .ok (.invokevirtual 29, 3) := by decide +kernel
theorem dX0_leastWith_12 : decode cX0_leastWith 12 = .ok (.if_icmp .gt 20, 3) := by decide +kernel
theorem dX0_leastWith_15 : decode cX0_leastWith 15 = .ok (.aload_n 0, 1) := by decide +kernel
theorem dX0_leastWith_16 : decode cX0_leastWith 16 = .ok (.iload_n 3, 1) := by decide +kernel
theorem dX0_leastWith_17 : decode cX0_leastWith 17 = .ok (.invokevirtual 73, 3) := by decide +kernel
theorem dX0_leastWith_20 : decode cX0_leastWith 20 = .ok (.iload_n 2, 1) := by decide +kernel
theorem dX0_leastWith_21 : decode cX0_leastWith 21 = .ok (.if_icmp .ne 5, 3) := by decide +kernel
theorem dX0_leastWith_24 : decode cX0_leastWith 24 = .ok (.iload_n 3, 1) := by decide +kernel
theorem dX0_leastWith_25 : decode cX0_leastWith 25 = .ok (.ireturn, 1) := by decide +kernel
theorem dX0_leastWith_26 : decode cX0_leastWith 26 = .ok (.iinc 3 1, 3) := by decide +kernel
theorem dX0_leastWith_29 : decode cX0_leastWith 29 = .ok (.goto (-23), 3) := by decide +kernel
theorem dX0_leastWith_32 : decode cX0_leastWith 32 = .ok (.iconst 0, 1) := by decide +kernel
theorem dX0_leastWith_33 : decode cX0_leastWith 33 = .ok (.ireturn, 1) := by decide +kernel
theorem dX0_greatestWith_0 : decode cX0_greatestWith 0 = .ok (.aload_n 0, 1) := by decide +kernel
theorem dX0_greatestWith_1 : decode cX0_greatestWith 1 = .ok (.iload_n 1, 1) := by decide +kernel
theorem dX0_greatestWith_2 : decode cX0_greatestWith 2 = .ok (.invokevirtual 29, 3) := by decide +kernel
theorem dX0_greatestWith_5 : decode cX0_greatestWith 5 = .ok (.istore_n 3, 1) := by decide +kernel
theorem dX0_greatestWith_6 : decode cX0_greatestWith 6 = .ok (.iload_n 3, 1) := by decide +kernel
theorem dX0_greatestWith_7 : decode cX0_greatestWith 7 = .ok (.aload_n 0, 1) := by decide +kernel
theorem dX0_greatestWith_8 : decode cX0_greatestWith 8 = .ok (.iload_n 1, 1) := by decide +kernel
theorem dX0_greatestWith_9 : decode cX0_greatestWith 9 = .ok (.invokevirtual 33, 3) := by decide +kernel
theorem dX0_greatestWith_12 : decode cX0_greatestWith 12 = .ok (.if_icmp .lt 20, 3) := by decide +kernel
theorem dX0_greatestWith_15 : decode cX0_greatestWith 15 = .ok (.aload_n 0, 1) := by decide +kernel
theorem dX0_greatestWith_16 : decode cX0_greatestWith 16 = .ok (.iload_n 3, 1) := by decide +kernel
theorem dX0_greatestWith_17 : decode cX0_greatestWith 17 = .ok (.invokevirtual 73, 3) := by decide +kernel
theorem dX0_greatestWith_20 : decode cX0_greatestWith 20 = .ok (.iload_n 2, 1) := by decide +kernel
theorem dX0_greatestWith_21 : decode cX0_greatestWith 21 = .ok (.if_icmp .ne 5, 3) := by decide +kernel
theorem dX0_greatestWith_24 : decode cX0_greatestWith 24 = .ok (.iload_n 3, 1) := by decide +kernel
theorem dX0_greatestWith_25 : decode cX0_greatestWith 25 = .ok (.ireturn, 1) := by decide +kernel
theorem dX0_greatestWith_26 : decode cX0_greatestWith 26 = .ok (.iinc 3 (-1), 3) := by decide +kernel
theorem dX0_greatestWith_29 : decode cX0_greatestWith 29 = .ok (.goto (-23), 3) := by decide +kernel
theorem dX0_greatestWith_32 : decode cX0_greatestWith 32 = .ok (.iconst 0, 1) := by decide +kernel
theorem dX0_greatestWith_33 : decode cX0_greatestWith 33 = .ok (.ireturn, 1) := by decide +kernel
theorem dX0_mirrored_0 : decode cX0_mirrored 0 = .ok (.aload_n 0, 1) := by decide +kernel
theorem dX0_mirrored_1 : decode cX0_mirrored 1 = .ok (.iload_n 1, 1) := by decide +kernel
theorem dX0_mirrored_2 : decode cX0_mirrored 2 = .ok (.invokevirtual 36, 3) := by decide +kernel
theorem dX0_mirrored_5 : decode cX0_mirrored 5 = .ok (.istore_n 2, 1) := by decide +kernel
theorem dX0_mirrored_6 : decode cX0_mirrored 6 = .ok (.iconst 0, 1) := by decide +kernel
theorem dX0_mirrored_7 : decode cX0_mirrored 7 = .ok (.istore_n 3, 1) := by decide +kernel
theorem dX0_mirrored_8 : decode cX0_mirrored 8 = .ok (.iconst 0, 1) := by decide +kernel
theorem dX0_mirrored_9 : decode cX0_mirrored 9 = .ok (.istore 4, 2) := by decide +kernel
theorem dX0_mirrored_11 : decode cX0_mirrored 11 = .ok (.iload 4, 2) := by decide +kernel
theorem dX0_mirrored_13 : decode cX0_mirrored 13 = .ok (.iload_n 2, 1) := by decide +kernel
theorem dX0_mirrored_14 : decode cX0_mirrored 14 = .ok (.if_icmp .ge 29, 3) := by decide +kernel
theorem dX0_mirrored_17 : decode cX0_mirrored 17 = .ok (.iload_n 3, 1) := by decide +kernel
theorem dX0_mirrored_18 : decode cX0_mirrored 18 = .ok (.aload_n 0, 1) := by decide +kernel
theorem dX0_mirrored_19 : decode cX0_mirrored 19 = .ok (.iload_n 1, 1) := by decide +kernel
theorem dX0_mirrored_20 : decode cX0_mirrored 20 = .ok (.iload 4, 2) := by decide +kernel
theorem dX0_mirrored_22 : decode cX0_mirrored 22 = .ok (.invokevirtual 52, 3) := by decide +kernel
theorem dX0_mirrored_25 : decode cX0_mirrored 25 = .ok (.iload_n 2, 1) := by decide +kernel
theorem dX0_mirrored_26 : decode cX0_mirrored 26 = .ok (.iload_n 2, 1) := by decide +kernel
theorem dX0_mirrored_27 : decode cX0_mirrored 27 = .ok (.iconst 1, 1) := by decide +kernel
theorem dX0_mirrored_28 : decode cX0_mirrored 28 = .ok (.isub, 1) := by decide +kernel
theorem dX0_mirrored_29 : decode cX0_mirrored 29 = .ok (.iload 4, 2) := by decide +kernel
theorem dX0_mirrored_31 : decode cX0_mirrored 31 = .ok (.isub, 1) := by decide +kernel
theorem dX0_mirrored_32 : decode cX0_mirrored 32 = .ok (.invokestatic 62, 3) := by decide +kernel
theorem dX0_mirrored_35 : decode cX0_mirrored 35 = .ok (.ior, 1) := by decide +kernel
theorem dX0_mirrored_36 : decode cX0_mirrored 36 = .ok (.istore_n 3, 1) := by decide +kernel
theorem dX0_mirrored_37 : decode cX0_mirrored 37 = .ok (.iinc 4 1, 3) := by decide +kernel
theorem dX0_mirrored_40 : decode cX0_mirrored 40 = .ok (.goto (-29), 3) := by decide +kernel
theorem dX0_mirrored_43 : decode cX0_mirrored 43 = .ok (.aload_n 0, 1) := by decide +kernel
theorem dX0_mirrored_44 : decode cX0_mirrored 44 = .ok (.iload_n 2, 1) := by decide +kernel
theorem dX0_mirrored_45 : decode cX0_mirrored 45 = .ok (.iload_n 3, 1) := by decide +kernel
theorem dX0_mirrored_46 : decode cX0_mirrored 46 = .ok (.invokevirtual 42, 3) := by decide +kernel
theorem dX0_mirrored_49 : decode cX0_mirrored 49 = .ok (.ireturn, 1) := by decide +kernel
theorem dX0_setOver_0 : decode cX0_setOver 0 = .ok (.aload_n 0, 1) := by decide +kernel
theorem dX0_setOver_1 : decode cX0_setOver 1 = .ok (.aload_n 0, 1) := by decide +kernel
theorem dX0_setOver_2 : decode cX0_setOver 2 = .ok (.iload_n 1, 1) := by decide +kernel
theorem dX0_setOver_3 : decode cX0_setOver 3 = .ok (.invokevirtual 39, 3) := by decide +kernel
theorem dX0_setOver_6 : decode cX0_setOver 6 = .ok (.iload_n 1, 1) := by decide +kernel
theorem dX0_setOver_7 : decode cX0_setOver 7 = .ok (.iload_n 2, 1) := by decide +kernel
theorem dX0_setOver_8 : decode cX0_setOver 8 = .ok (.invokevirtual 76, 3) := by decide +kernel
theorem dX0_setOver_11 : decode cX0_setOver 11 = .ok (.ireturn, 1) := by decide +kernel
theorem dX0_setUnder_0 : decode cX0_setUnder 0 = .ok (.aload_n 0, 1) := by decide +kernel
theorem dX0_setUnder_1 : decode cX0_setUnder 1 = .ok (.iload_n 1, 1) := by decide +kernel
theorem dX0_setUnder_2 : decode cX0_setUnder 2 = .ok (.invokevirtual 36, 3) := by decide +kernel
theorem dX0_setUnder_5 : decode cX0_setUnder 5 = .ok (.istore_n 3, 1) := by decide +kernel
theorem dX0_setUnder_6 : decode cX0_setUnder 6 = .ok (.aload_n 0, 1) := by decide +kernel
theorem dX0_setUnder_7 : decode cX0_setUnder 7 = .ok (.iload_n 1, 1) := by decide +kernel
theorem dX0_setUnder_8 : decode cX0_setUnder 8 = .ok (.invokevirtual 39, 3) := by decide +kernel
theorem dX0_setUnder_11 : decode cX0_setUnder 11 = .ok (.istore 4, 2) := by decide +kernel
theorem dX0_setUnder_13 : decode cX0_setUnder 13 = .ok (.iconst 0, 1) := by decide +kernel
theorem dX0_setUnder_14 : decode cX0_setUnder 14 = .ok (.istore 5, 2) := by decide +kernel
theorem dX0_setUnder_16 : decode cX0_setUnder 16 = .ok (.iload 5, 2) := by decide +kernel
theorem dX0_setUnder_18 : decode cX0_setUnder 18 = .ok (.iload_n 3, 1) := by decide +kernel
theorem dX0_setUnder_19 : decode cX0_setUnder 19 = .ok (.if_icmp .ge 38, 3) := by decide +kernel
theorem dX0_setUnder_22 : decode cX0_setUnder 22 = .ok (.aload_n 0, 1) := by decide +kernel
theorem dX0_setUnder_23 : decode cX0_setUnder 23 = .ok (.iload_n 1, 1) := by decide +kernel
theorem dX0_setUnder_24 : decode cX0_setUnder 24 = .ok (.iload 5, 2) := by decide +kernel
theorem dX0_setUnder_26 : decode cX0_setUnder 26 = .ok (.invokevirtual 49, 3) := by decide +kernel
theorem dX0_setUnder_29 : decode cX0_setUnder 29 = .ok (.iload_n 3, 1) := by decide +kernel
theorem dX0_setUnder_30 : decode cX0_setUnder 30 = .ok (.iconst 1, 1) := by decide +kernel
theorem dX0_setUnder_31 : decode cX0_setUnder 31 = .ok (.isub, 1) := by decide +kernel
theorem dX0_setUnder_32 : decode cX0_setUnder 32 = .ok (.if_icmp .ne 19, 3) := by decide +kernel
theorem dX0_setUnder_35 : decode cX0_setUnder 35 = .ok (.iload 4, 2) := by decide +kernel
theorem dX0_setUnder_37 : decode cX0_setUnder 37 = .ok (.aload_n 0, 1) := by decide +kernel
theorem dX0_setUnder_38 : decode cX0_setUnder 38 = .ok (.iload_n 2, 1) := by decide +kernel
theorem dX0_setUnder_39 : decode cX0_setUnder 39 = .ok (.invokevirtual 36, 3) := by decide +kernel
theorem dX0_setUnder_42 : decode cX0_setUnder 42 = .ok (.iload_n 3, 1) := by decide +kernel
theorem dX0_setUnder_43 : decode cX0_setUnder 43 = .ok (.iload 5, 2) := by decide +kernel
theorem dX0_setUnder_45 : decode cX0_setUnder 45 = .ok (.invokestatic 62, 3) := by decide +kernel
theorem dX0_setUnder_48 : decode cX0_setUnder 48 = .ok (.iadd, 1) := by decide +kernel
theorem dX0_setUnder_49 : decode cX0_setUnder 49 = .ok (.istore 4, 2) := by decide +kernel
theorem dX0_setUnder_51 : decode cX0_setUnder 51 = .ok (.iinc 5 1, 3) := by decide +kernel
theorem dX0_setUnder_54 : decode cX0_setUnder 54 = .ok (.goto (-38), 3) := by decide +kernel
theorem dX0_setUnder_57 : decode cX0_setUnder 57 = .ok (.aload_n 0, 1) := by decide +kernel
theorem dX0_setUnder_58 : decode cX0_setUnder 58 = .ok (.iload 4, 2) := by decide +kernel
theorem dX0_setUnder_60 : decode cX0_setUnder 60 = .ok (.iload_n 1, 1) := by decide +kernel
theorem dX0_setUnder_61 : decode cX0_setUnder 61 = .ok (.iload_n 2, 1) := by decide +kernel
theorem dX0_setUnder_62 : decode cX0_setUnder 62 = .ok (.invokevirtual 76, 3) := by decide +kernel
theorem dX0_setUnder_65 : decode cX0_setUnder 65 = .ok (.ireturn, 1) := by decide +kernel
theorem dX0_sideBySide_0 : decode cX0_sideBySide 0 = .ok (.aload_n 0, 1) := by decide +kernel
theorem dX0_sideBySide_1 : decode cX0_sideBySide 1 = .ok (.aload_n 0, 1) := by decide +kernel
theorem dX0_sideBySide_2 : decode cX0_sideBySide 2 = .ok (.iload_n 2, 1) := by decide +kernel
theorem dX0_sideBySide_3 : decode cX0_sideBySide 3 = .ok (.invokevirtual 36, 3) := by decide +kernel
theorem dX0_sideBySide_6 : decode cX0_sideBySide 6 = .ok (.aload_n 0, 1) := by decide +kernel
theorem dX0_sideBySide_7 : decode cX0_sideBySide 7 = .ok (.iload_n 3, 1) := by decide +kernel
theorem dX0_sideBySide_8 : decode cX0_sideBySide 8 = .ok (.invokevirtual 36, 3) := by decide +kernel
theorem dX0_sideBySide_11 : decode cX0_sideBySide 11 = .ok (.iadd, 1) := by decide +kernel
theorem dX0_sideBySide_12 : decode cX0_sideBySide 12 = .ok (.iload_n 1, 1) := by decide +kernel
theorem dX0_sideBySide_13 : decode cX0_sideBySide 13 = .ok (.iconst 4, 1) := by decide +kernel
theorem dX0_sideBySide_14 : decode cX0_sideBySide 14 = .ok (.aload_n 0, 1) := by decide +kernel
theorem dX0_sideBySide_15 : decode cX0_sideBySide 15 = .ok (.iload_n 3, 1) := by decide +kernel
theorem dX0_sideBySide_16 : decode cX0_sideBySide 16 = .ok (.invokevirtual 36, 3) := by decide +kernel
theorem dX0_sideBySide_19 : decode cX0_sideBySide 19 = .ok (.imul, 1) := by decide +kernel
theorem dX0_sideBySide_20 : decode cX0_sideBySide 20 = .ok (.ishl, 1) := by decide +kernel
theorem dX0_sideBySide_21 : decode cX0_sideBySide 21 = .ok (.aload_n 0, 1) := by decide +kernel
theorem dX0_sideBySide_22 : decode cX0_sideBySide 22 = .ok (.iload_n 3, 1) := by decide +kernel
theorem dX0_sideBySide_23 : decode cX0_sideBySide 23 = .ok (.invokevirtual 39, 3) := by decide +kernel
theorem dX0_sideBySide_26 : decode cX0_sideBySide 26 = .ok (.ior, 1) := by decide +kernel
theorem dX0_sideBySide_27 : decode cX0_sideBySide 27 = .ok (.invokevirtual 42, 3) := by decide +kernel
theorem dX0_sideBySide_30 : decode cX0_sideBySide 30 = .ok (.ireturn, 1) := by decide +kernel
theorem dX0_textLength_0 : decode cX0_textLength 0 = .ok (.iconst 3, 1) := by decide +kernel
theorem dX0_textLength_1 : decode cX0_textLength 1 = .ok (.aload_n 0, 1) := by decide +kernel
theorem dX0_textLength_2 : decode cX0_textLength 2 = .ok (.iload_n 1, 1) := by decide +kernel
theorem dX0_textLength_3 : decode cX0_textLength 3 = .ok (.invokevirtual 36, 3) := by decide +kernel
theorem dX0_textLength_6 : decode cX0_textLength 6 = .ok (.imul, 1) := by decide +kernel
theorem dX0_textLength_7 : decode cX0_textLength 7 = .ok (.iconst 1, 1) := by decide +kernel
theorem dX0_textLength_8 : decode cX0_textLength 8 = .ok (.iadd, 1) := by decide +kernel
theorem dX0_textLength_9 : decode cX0_textLength 9 = .ok (.ireturn, 1) := by decide +kernel
theorem dX0_textByte_0 : decode cX0_textByte 0 = .ok (.iload_n 2, 1) := by decide +kernel
theorem dX0_textByte_1 : decode cX0_textByte 1 = .ok (.ifCond .ge 5, 3) := by decide +kernel
theorem dX0_textByte_4 : decode cX0_textByte 4 = .ok (.iconst (-1), 1) := by decide +kernel
theorem dX0_textByte_5 : decode cX0_textByte 5 = .ok (.ireturn, 1) := by decide +kernel
theorem dX0_textByte_6 : decode cX0_textByte 6 = .ok (.iconst 0, 1) := by decide +kernel
theorem dX0_textByte_7 : decode cX0_textByte 7 = .ok (.istore_n 3, 1) := by decide +kernel
theorem dX0_textByte_8 : decode cX0_textByte 8 = .ok (.iconst 0, 1) := by decide +kernel
theorem dX0_textByte_9 : decode cX0_textByte 9 = .ok (.istore 4, 2) := by decide +kernel
theorem dX0_textByte_11 : decode cX0_textByte 11 = .ok (.iload 4, 2) := by decide +kernel
theorem dX0_textByte_13 : decode cX0_textByte 13 = .ok (.aload_n 0, 1) := by decide +kernel
theorem dX0_textByte_14 : decode cX0_textByte 14 = .ok (.iload_n 1, 1) := by decide +kernel
theorem dX0_textByte_15 : decode cX0_textByte 15 = .ok (.invokevirtual 36, 3) := by decide +kernel
theorem dX0_textByte_18 : decode cX0_textByte 18 = .ok (.if_icmp .gt 55, 3) := by decide +kernel
theorem dX0_textByte_21 : decode cX0_textByte 21 = .ok (.iload_n 3, 1) := by decide +kernel
theorem dX0_textByte_22 : decode cX0_textByte 22 = .ok (.aload_n 0, 1) := by decide +kernel
theorem dX0_textByte_23 : decode cX0_textByte 23 = .ok (.iload_n 1, 1) := by decide +kernel
theorem dX0_textByte_24 : decode cX0_textByte 24 = .ok (.iload 4, 2) := by decide +kernel
theorem dX0_textByte_26 : decode cX0_textByte 26 = .ok (.invokevirtual 79, 3) := by decide +kernel
theorem dX0_textByte_29 : decode cX0_textByte 29 = .ok (.iadd, 1) := by decide +kernel
theorem dX0_textByte_30 : decode cX0_textByte 30 = .ok (.istore_n 3, 1) := by decide +kernel
theorem dX0_textByte_31 : decode cX0_textByte 31 = .ok (.iload_n 2, 1) := by decide +kernel
theorem dX0_textByte_32 : decode cX0_textByte 32 = .ok (.iload_n 3, 1) := by decide +kernel
theorem dX0_textByte_33 : decode cX0_textByte 33 = .ok (.if_icmp .ge 6, 3) := by decide +kernel
theorem dX0_textByte_36 : decode cX0_textByte 36 = .ok (.bipush 40, 2) := by decide +kernel
theorem dX0_textByte_38 : decode cX0_textByte 38 = .ok (.ireturn, 1) := by decide +kernel
theorem dX0_textByte_39 : decode cX0_textByte 39 = .ok (.iload_n 2, 1) := by decide +kernel
theorem dX0_textByte_40 : decode cX0_textByte 40 = .ok (.iload_n 3, 1) := by decide +kernel
theorem dX0_textByte_41 : decode cX0_textByte 41 = .ok (.if_icmp .ne 6, 3) := by decide +kernel
theorem dX0_textByte_44 : decode cX0_textByte 44 = .ok (.bipush 46, 2) := by decide +kernel
theorem dX0_textByte_46 : decode cX0_textByte 46 = .ok (.ireturn, 1) := by decide +kernel
theorem dX0_textByte_47 : decode cX0_textByte 47 = .ok (.iload_n 3, 1) := by decide +kernel
theorem dX0_textByte_48 : decode cX0_textByte 48 = .ok (.iconst 1, 1) := by decide +kernel
theorem dX0_textByte_49 : decode cX0_textByte 49 = .ok (.aload_n 0, 1) := by decide +kernel
theorem dX0_textByte_50 : decode cX0_textByte 50 = .ok (.iload_n 1, 1) := by decide +kernel
theorem dX0_textByte_51 : decode cX0_textByte 51 = .ok (.iload 4, 2) := by decide +kernel
theorem dX0_textByte_53 : decode cX0_textByte 53 = .ok (.invokevirtual 82, 3) := by decide +kernel
theorem dX0_textByte_56 : decode cX0_textByte 56 = .ok (.iadd, 1) := by decide +kernel
theorem dX0_textByte_57 : decode cX0_textByte 57 = .ok (.iadd, 1) := by decide +kernel
theorem dX0_textByte_58 : decode cX0_textByte 58 = .ok (.istore_n 3, 1) := by decide +kernel
theorem dX0_textByte_59 : decode cX0_textByte 59 = .ok (.iload_n 2, 1) := by decide +kernel
theorem dX0_textByte_60 : decode cX0_textByte 60 = .ok (.iload_n 3, 1) := by decide +kernel
theorem dX0_textByte_61 : decode cX0_textByte 61 = .ok (.if_icmp .ge 6, 3) := by decide +kernel
theorem dX0_textByte_64 : decode cX0_textByte 64 = .ok (.bipush 41, 2) := by decide +kernel
theorem dX0_textByte_66 : decode cX0_textByte 66 = .ok (.ireturn, 1) := by decide +kernel
theorem dX0_textByte_67 : decode cX0_textByte 67 = .ok (.iinc 4 1, 3) := by decide +kernel
theorem dX0_textByte_70 : decode cX0_textByte 70 = .ok (.goto (-59), 3) := by decide +kernel
theorem dX0_textByte_73 : decode cX0_textByte 73 = .ok (.iconst (-1), 1) := by decide +kernel
theorem dX0_textByte_74 : decode cX0_textByte 74 = .ok (.ireturn, 1) := by decide +kernel
theorem dX0_opening_0 : decode cX0_opening 0 = .ok (.iconst 0, 1) := by decide +kernel
theorem dX0_opening_1 : decode cX0_opening 1 = .ok (.istore_n 3, 1) := by decide +kernel
theorem dX0_opening_2 : decode cX0_opening 2 = .ok (.iload_n 2, 1) := by decide +kernel
theorem dX0_opening_3 : decode cX0_opening 3 = .ok (.istore 4, 2) := by decide +kernel
theorem dX0_opening_5 : decode cX0_opening 5 = .ok (.iload 4, 2) := by decide +kernel
theorem dX0_opening_7 : decode cX0_opening 7 = .ok (.aload_n 0, 1) := by decide +kernel
theorem dX0_opening_8 : decode cX0_opening 8 = .ok (.iload_n 1, 1) := by decide +kernel
theorem dX0_opening_9 : decode cX0_opening 9 = .ok (.invokevirtual 36, 3) := by decide +kernel
theorem dX0_opening_12 : decode cX0_opening 12 = .ok (.if_icmp .ge 26, 3) := by decide +kernel
theorem dX0_opening_15 : decode cX0_opening 15 = .ok (.iload 4, 2) := by decide +kernel
theorem dX0_opening_17 : decode cX0_opening 17 = .ok (.aload_n 0, 1) := by decide +kernel
theorem dX0_opening_18 : decode cX0_opening 18 = .ok (.iload_n 1, 1) := by decide +kernel
theorem dX0_opening_19 : decode cX0_opening 19 = .ok (.iload 4, 2) := by decide +kernel
theorem dX0_opening_21 : decode cX0_opening 21 = .ok (.invokevirtual 52, 3) := by decide +kernel
theorem dX0_opening_24 : decode cX0_opening 24 = .ok (.isub, 1) := by decide +kernel
theorem dX0_opening_25 : decode cX0_opening 25 = .ok (.iload_n 2, 1) := by decide +kernel
theorem dX0_opening_26 : decode cX0_opening 26 = .ok (.if_icmp .ne 6, 3) := by decide +kernel
theorem dX0_opening_29 : decode cX0_opening 29 = .ok (.iinc 3 1, 3) := by decide +kernel
theorem dX0_opening_32 : decode cX0_opening 32 = .ok (.iinc 4 1, 3) := by decide +kernel
theorem dX0_opening_35 : decode cX0_opening 35 = .ok (.goto (-30), 3) := by decide +kernel
theorem dX0_opening_38 : decode cX0_opening 38 = .ok (.iload_n 3, 1) := by decide +kernel
theorem dX0_opening_39 : decode cX0_opening 39 = .ok (.ireturn, 1) := by decide +kernel
theorem dX0_closing_0 : decode cX0_closing 0 = .ok (.iconst 0, 1) := by decide +kernel
theorem dX0_closing_1 : decode cX0_closing 1 = .ok (.istore_n 3, 1) := by decide +kernel
theorem dX0_closing_2 : decode cX0_closing 2 = .ok (.iconst 0, 1) := by decide +kernel
theorem dX0_closing_3 : decode cX0_closing 3 = .ok (.istore 4, 2) := by decide +kernel
theorem dX0_closing_5 : decode cX0_closing 5 = .ok (.iload 4, 2) := by decide +kernel
theorem dX0_closing_7 : decode cX0_closing 7 = .ok (.iload_n 2, 1) := by decide +kernel
theorem dX0_closing_8 : decode cX0_closing 8 = .ok (.if_icmp .ge 25, 3) := by decide +kernel
theorem dX0_closing_11 : decode cX0_closing 11 = .ok (.aload_n 0, 1) := by decide +kernel
theorem dX0_closing_12 : decode cX0_closing 12 = .ok (.iload_n 1, 1) := by decide +kernel
theorem dX0_closing_13 : decode cX0_closing 13 = .ok (.iload 4, 2) := by decide +kernel
theorem dX0_closing_15 : decode cX0_closing 15 = .ok (.invokevirtual 49, 3) := by decide +kernel
theorem dX0_closing_18 : decode cX0_closing 18 = .ok (.iconst 1, 1) := by decide +kernel
theorem dX0_closing_19 : decode cX0_closing 19 = .ok (.iadd, 1) := by decide +kernel
theorem dX0_closing_20 : decode cX0_closing 20 = .ok (.iload_n 2, 1) := by decide +kernel
theorem dX0_closing_21 : decode cX0_closing 21 = .ok (.if_icmp .ne 6, 3) := by decide +kernel
theorem dX0_closing_24 : decode cX0_closing 24 = .ok (.iinc 3 1, 3) := by decide +kernel
theorem dX0_closing_27 : decode cX0_closing 27 = .ok (.iinc 4 1, 3) := by decide +kernel
theorem dX0_closing_30 : decode cX0_closing 30 = .ok (.goto (-25), 3) := by decide +kernel
theorem dX0_closing_33 : decode cX0_closing 33 = .ok (.iload_n 3, 1) := by decide +kernel
theorem dX0_closing_34 : decode cX0_closing 34 = .ok (.ireturn, 1) := by decide +kernel
theorem dX1_init_0 : decode cX1_init 0 = .ok (.aload_n 0, 1) := by decide +kernel
theorem dX1_init_1 : decode cX1_init 1 = .ok (.invokespecial 3, 3) := by decide +kernel
theorem dX1_init_4 : decode cX1_init 4 = .ok (.aload_n 0, 1) := by decide +kernel
theorem dX1_init_5 : decode cX1_init 5 = .ok (.iconst 3, 1) := by decide +kernel
theorem dX1_init_6 : decode cX1_init 6 = .ok (.bipush 20, 2) := by decide +kernel
theorem dX1_init_8 : decode cX1_init 8 = .ok (.multianewarray 11 2, 4) := by decide +kernel
theorem dX1_init_12 : decode cX1_init 12 = .ok (.putfield 13, 3) := by decide +kernel
theorem dX1_init_15 : decode cX1_init 15 = .ok (.aload_n 0, 1) := by decide +kernel
theorem dX1_init_16 : decode cX1_init 16 = .ok (.iconst 3, 1) := by decide +kernel
theorem dX1_init_17 : decode cX1_init 17 = .ok (.newarray .int, 2) := by decide +kernel
theorem dX1_init_19 : decode cX1_init 19 = .ok (.putfield 16, 3) := by decide +kernel
theorem dX1_init_22 : decode cX1_init 22 = .ok (.aload_n 0, 1) := by decide +kernel
theorem dX1_init_23 : decode cX1_init 23 = .ok (.getfield 16, 3) := by decide +kernel
theorem dX1_init_26 : decode cX1_init 26 = .ok (.iconst (-1), 1) := by decide +kernel
theorem dX1_init_27 : decode cX1_init 27 = .ok (.invokestatic 20, 3) := by decide +kernel
theorem dX1_init_30 : decode cX1_init 30 = .ok (.return_, 1) := by decide +kernel
theorem dX1_isList_0 : decode cX1_isList 0 = .ok (.iload_n 0, 1) := by decide +kernel
theorem dX1_isList_1 : decode cX1_isList 1 = .ok (.ifCond .lt 12, 3) := by decide +kernel
theorem dX1_isList_4 : decode cX1_isList 4 = .ok (.iload_n 0, 1) := by decide +kernel
theorem dX1_isList_5 : decode cX1_isList 5 = .ok (.iconst 3, 1) := by decide +kernel
theorem dX1_isList_6 : decode cX1_isList 6 = .ok (.if_icmp .ge 7, 3) := by decide +kernel
theorem dX1_isList_9 : decode cX1_isList 9 = .ok (.iconst 1, 1) := by decide +kernel
theorem dX1_isList_10 : decode cX1_isList 10 = .ok (.goto 4, 3) := by decide +kernel
theorem dX1_isList_13 : decode cX1_isList 13 = .ok (.iconst 0, 1) := by decide +kernel
theorem dX1_isList_14 : decode cX1_isList 14 = .ok (.ireturn, 1) := by decide +kernel
theorem dX1_lengthOf_0 : decode cX1_lengthOf 0 = .ok (.iload_n 1, 1) := by decide +kernel
theorem dX1_lengthOf_1 : decode cX1_lengthOf 1 = .ok (.invokestatic 26, 3) := by decide +kernel
theorem dX1_lengthOf_4 : decode cX1_lengthOf 4 = .ok (.ifCond .eq 12, 3) := by decide +kernel
theorem dX1_lengthOf_7 : decode cX1_lengthOf 7 = .ok (.aload_n 0, 1) := by decide +kernel
theorem dX1_lengthOf_8 : decode cX1_lengthOf 8 = .ok (.getfield 16, 3) := by decide +kernel
theorem dX1_lengthOf_11 : decode cX1_lengthOf 11 = .ok (.iload_n 1, 1) := by decide +kernel
theorem dX1_lengthOf_12 : decode cX1_lengthOf 12 = .ok (.iaload, 1) := by decide +kernel
theorem dX1_lengthOf_13 : decode cX1_lengthOf 13 = .ok (.goto 4, 3) := by decide +kernel
theorem dX1_lengthOf_16 : decode cX1_lengthOf 16 = .ok (.iconst (-1), 1) := by decide +kernel
theorem dX1_lengthOf_17 : decode cX1_lengthOf 17 = .ok (.ireturn, 1) := by decide +kernel
theorem dX1_isThere_0 : decode cX1_isThere 0 = .ok (.aload_n 0, 1) := by decide +kernel
theorem dX1_isThere_1 : decode cX1_isThere 1 = .ok (.iload_n 1, 1) := by decide +kernel
theorem dX1_isThere_2 : decode cX1_isThere 2 = .ok (.invokevirtual 30, 3) := by decide +kernel
theorem dX1_isThere_5 : decode cX1_isThere 5 = .ok (.iconst (-1), 1) := by decide +kernel
theorem dX1_isThere_6 : decode cX1_isThere 6 = .ok (.if_icmp .eq 7, 3) := by decide +kernel
theorem dX1_isThere_9 : decode cX1_isThere 9 = .ok (.iconst 1, 1) := by decide +kernel
theorem dX1_isThere_10 : decode cX1_isThere 10 = .ok (.goto 4, 3) := by decide +kernel
theorem dX1_isThere_13 : decode cX1_isThere 13 = .ok (.iconst 0, 1) := by decide +kernel
theorem dX1_isThere_14 : decode cX1_isThere 14 = .ok (.ireturn, 1) := by decide +kernel
theorem dX1_isPlace_0 : decode cX1_isPlace 0 = .ok (.iload_n 2, 1) := by decide +kernel
theorem dX1_isPlace_1 : decode cX1_isPlace 1 = .ok (.ifCond .lt 16, 3) := by decide +kernel
theorem dX1_isPlace_4 : decode cX1_isPlace 4 = .ok (.iload_n 2, 1) := by decide +kernel
theorem dX1_isPlace_5 : decode cX1_isPlace 5 = .ok (.aload_n 0, 1) := by decide +kernel
theorem dX1_isPlace_6 : decode cX1_isPlace 6 = .ok (.iload_n 1, 1) := by decide +kernel
theorem dX1_isPlace_7 : decode cX1_isPlace 7 = .ok (.invokevirtual 30, 3) := by decide +kernel
theorem dX1_isPlace_10 : decode cX1_isPlace 10 = .ok (.if_icmp .ge 7, 3) := by decide +kernel
theorem dX1_isPlace_13 : decode cX1_isPlace 13 = .ok (.iconst 1, 1) := by decide +kernel
theorem dX1_isPlace_14 : decode cX1_isPlace 14 = .ok (.goto 4, 3) := by decide +kernel
theorem dX1_isPlace_17 : decode cX1_isPlace 17 = .ok (.iconst 0, 1) := by decide +kernel
theorem dX1_isPlace_18 : decode cX1_isPlace 18 = .ok (.ireturn, 1) := by decide +kernel
theorem dX1_renew_0 : decode cX1_renew 0 = .ok (.iload_n 1, 1) := by decide +kernel
theorem dX1_renew_1 : decode cX1_renew 1 = .ok (.invokestatic 26, 3) := by decide +kernel
theorem dX1_renew_4 : decode cX1_renew 4 = .ok (.ifCond .eq 31, 3) := by decide +kernel
theorem dX1_renew_7 : decode cX1_renew 7 = .ok (.iload_n 2, 1) := by decide +kernel
theorem dX1_renew_8 : decode cX1_renew 8 = .ok (.iconst (-1), 1) := by decide +kernel
theorem dX1_renew_9 : decode cX1_renew 9 = .ok (.if_icmp .lt 26, 3) := by decide +kernel
theorem dX1_renew_12 : decode cX1_renew 12 = .ok (.iload_n 2, 1) := by decide +kernel
theorem dX1_renew_13 : decode cX1_renew 13 = .ok (.bipush 20, 2) := by decide +kernel
theorem dX1_renew_15 : decode cX1_renew 15 = .ok (.if_icmp .gt 20, 3) := by decide +kernel
theorem dX1_renew_18 : decode cX1_renew 18 = .ok (.aload_n 0, 1) := by decide +kernel
theorem dX1_renew_19 : decode cX1_renew 19 = .ok (.getfield 13, 3) := by decide +kernel
theorem dX1_renew_22 : decode cX1_renew 22 = .ok (.iload_n 1, 1) := by decide +kernel
theorem dX1_renew_23 : decode cX1_renew 23 = .ok (.aaload, 1) := by decide +kernel
theorem dX1_renew_24 : decode cX1_renew 24 = .ok (.lconst 0, 1) := by decide +kernel
theorem dX1_renew_25 : decode cX1_renew 25 = .ok (.invokestatic 34, 3) := by decide +kernel
theorem dX1_renew_28 : decode cX1_renew 28 = .ok (.aload_n 0, 1) := by decide +kernel
theorem dX1_renew_29 : decode cX1_renew 29 = .ok (.getfield 16, 3) := by decide +kernel
theorem dX1_renew_32 : decode cX1_renew 32 = .ok (.iload_n 1, 1) := by decide +kernel
theorem dX1_renew_33 : decode cX1_renew 33 = .ok (.iload_n 2, 1) := by decide +kernel
theorem dX1_renew_34 : decode cX1_renew 34 = .ok (.iastore, 1) := by decide +kernel
theorem dX1_renew_35 : decode cX1_renew 35 = .ok (.return_, 1) := by decide +kernel
theorem dX1_store_0 : decode cX1_store 0 = .ok (.aload_n 0, 1) := by decide +kernel
theorem dX1_store_1 : decode cX1_store 1 = .ok (.iload_n 1, 1) := by decide +kernel
theorem dX1_store_2 : decode cX1_store 2 = .ok (.iload_n 2, 1) := by decide +kernel
theorem dX1_store_3 : decode cX1_store 3 = .ok (.invokevirtual 37, 3) := by decide +kernel
theorem dX1_store_6 : decode cX1_store 6 = .ok (.ifCond .eq 12, 3) := by decide +kernel
theorem dX1_store_9 : decode cX1_store 9 = .ok (.aload_n 0, 1) := by decide +kernel
theorem dX1_store_10 : decode cX1_store 10 = .ok (.getfield 13, 3) := by decide +kernel
theorem dX1_store_13 : decode cX1_store 13 = .ok (.iload_n 1, 1) := by decide +kernel
theorem dX1_store_14 : decode cX1_store 14 = .ok (.aaload, 1) := by decide +kernel
theorem dX1_store_15 : decode cX1_store 15 = .ok (.iload_n 2, 1) := by decide +kernel
theorem dX1_store_16 : decode cX1_store 16 = .ok (.lload_n 3, 1) := by decide +kernel
theorem dX1_store_17 : decode cX1_store 17 = .ok (.lastore, 1) := by decide +kernel
theorem dX1_store_18 : decode cX1_store 18 = .ok (.return_, 1) := by decide +kernel
theorem dX1_valueAt_0 : decode cX1_valueAt 0 = .ok (.aload_n 0, 1) := by decide +kernel
theorem dX1_valueAt_1 : decode cX1_valueAt 1 = .ok (.iload_n 1, 1) := by decide +kernel
theorem dX1_valueAt_2 : decode cX1_valueAt 2 = .ok (.iload_n 2, 1) := by decide +kernel
theorem dX1_valueAt_3 : decode cX1_valueAt 3 = .ok (.invokevirtual 37, 3) := by decide +kernel
theorem dX1_valueAt_6 : decode cX1_valueAt 6 = .ok (.ifCond .eq 14, 3) := by decide +kernel
theorem dX1_valueAt_9 : decode cX1_valueAt 9 = .ok (.aload_n 0, 1) := by decide +kernel
theorem dX1_valueAt_10 : decode cX1_valueAt 10 = .ok (.getfield 13, 3) := by decide +kernel
theorem dX1_valueAt_13 : decode cX1_valueAt 13 = .ok (.iload_n 1, 1) := by decide +kernel
theorem dX1_valueAt_14 : decode cX1_valueAt 14 = .ok (.aaload, 1) := by decide +kernel
theorem dX1_valueAt_15 : decode cX1_valueAt 15 = .ok (.iload_n 2, 1) := by decide +kernel
theorem dX1_valueAt_16 : decode cX1_valueAt 16 = .ok (.laload, 1) := by decide +kernel
theorem dX1_valueAt_17 : decode cX1_valueAt 17 = .ok (.goto 6, 3) := by decide +kernel
theorem dX1_valueAt_20 : decode cX1_valueAt 20 = .ok (.ldc2_w 41, 3) := by decide +kernel
theorem dX1_valueAt_23 : decode cX1_valueAt 23 = .ok (.lreturn, 1) := by decide +kernel
theorem dX1_howManyThere_0 : decode cX1_howManyThere 0 = .ok (.iconst 0, 1) := by decide +kernel
theorem dX1_howManyThere_1 : decode cX1_howManyThere 1 = .ok (.istore_n 1, 1) := by decide +kernel
theorem dX1_howManyThere_2 : decode cX1_howManyThere 2 = .ok (.aload_n 0, 1) := by decide +kernel
theorem dX1_howManyThere_3 : decode cX1_howManyThere 3 = .ok (.getfield 16, 3) := by decide +kernel
theorem dX1_howManyThere_6 : decode cX1_howManyThere 6 = .ok (.astore_n 2, 1) := by decide +kernel
theorem dX1_howManyThere_7 : decode cX1_howManyThere 7 = .ok (.aload_n 2, 1) := by decide +kernel
theorem dX1_howManyThere_8 : decode cX1_howManyThere 8 = .ok (.arraylength, 1) := by decide +kernel
theorem dX1_howManyThere_9 : decode cX1_howManyThere 9 = .ok (.istore_n 3, 1) := by decide +kernel
theorem dX1_howManyThere_10 : decode cX1_howManyThere 10 = .ok (.iconst 0, 1) := by decide +kernel
theorem dX1_howManyThere_11 : decode cX1_howManyThere 11 = .ok (.istore 4, 2) := by decide +kernel
theorem dX1_howManyThere_13 : decode cX1_howManyThere 13 = .ok (.iload 4, 2) := by decide +kernel
theorem dX1_howManyThere_15 : decode cX1_howManyThere 15 = .ok (.iload_n 3, 1) := by decide +kernel
theorem dX1_howManyThere_16 : decode cX1_howManyThere 16 = .ok (.if_icmp .ge 24, 3) := by decide +kernel
theorem dX1_howManyThere_19 : decode cX1_howManyThere 19 = .ok (.aload_n 2, 1) := by decide +kernel
theorem dX1_howManyThere_20 : decode cX1_howManyThere 20 = .ok (.iload 4, 2) := by decide +kernel
theorem dX1_howManyThere_22 : decode cX1_howManyThere 22 = .ok (.iaload, 1) := by decide +kernel
theorem dX1_howManyThere_23 : decode cX1_howManyThere 23 = .ok (.istore 5, 2) := by decide +kernel
theorem dX1_howManyThere_25 : decode cX1_howManyThere 25 = .ok (.iload 5, 2) := by decide +kernel
theorem dX1_howManyThere_27 : decode cX1_howManyThere 27 = .ok (.iconst (-1), 1) := by decide +kernel
theorem dX1_howManyThere_28 : decode cX1_howManyThere 28 = .ok (.if_icmp .eq 6, 3) := by decide +kernel
theorem dX1_howManyThere_31 : decode cX1_howManyThere 31 = .ok (.iinc 1 1, 3) := by decide +kernel
theorem dX1_howManyThere_34 : decode cX1_howManyThere 34 = .ok (.iinc 4 1, 3) := by decide +kernel
theorem dX1_howManyThere_37 : decode cX1_howManyThere 37 = .ok (.goto (-24), 3) := by decide +kernel
theorem dX1_howManyThere_40 : decode cX1_howManyThere 40 = .ok (.iload_n 1, 1) := by decide +kernel
theorem dX1_howManyThere_41 : decode cX1_howManyThere 41 = .ok (.ireturn, 1) := by decide +kernel
theorem dX2_init_0 : decode cX2_init 0 = .ok (.aload_n 0, 1) := by decide +kernel
theorem dX2_init_1 : decode cX2_init 1 = .ok (.invokespecial 3, 3) := by decide +kernel
theorem dX2_init_4 : decode cX2_init 4 = .ok (.aload_n 0, 1) := by decide +kernel
theorem dX2_init_5 : decode cX2_init 5 = .ok (.aload_n 1, 1) := by decide +kernel
theorem dX2_init_6 : decode cX2_init 6 = .ok (.putfield 9, 3) := by decide +kernel
theorem dX2_init_9 : decode cX2_init 9 = .ok (.aload_n 0, 1) := by decide +kernel
theorem dX2_init_10 : decode cX2_init 10 = .ok (.sipush 429, 3) := by decide +kernel
theorem dX2_init_13 : decode cX2_init 13 = .ok (.newarray .int, 2) := by decide +kernel
theorem dX2_init_15 : decode cX2_init 15 = .ok (.putfield 17, 3) := by decide +kernel
theorem dX2_init_18 : decode cX2_init 18 = .ok (.aload_n 0, 1) := by decide +kernel
theorem dX2_init_19 : decode cX2_init 19 = .ok (.sipush 429, 3) := by decide +kernel
theorem dX2_init_22 : decode cX2_init 22 = .ok (.newarray .int, 2) := by decide +kernel
theorem dX2_init_24 : decode cX2_init 24 = .ok (.putfield 21, 3) := by decide +kernel
theorem dX2_init_27 : decode cX2_init 27 = .ok (.return_, 1) := by decide +kernel
theorem dX2_noMore_0 : decode cX2_noMore 0 = .ok (.iload_n 1, 1) := by decide +kernel
theorem dX2_noMore_1 : decode cX2_noMore 1 = .ok (.ldc 24, 2) := by decide +kernel
theorem dX2_noMore_3 : decode cX2_noMore 3 = .ok (.ior, 1) := by decide +kernel
theorem dX2_noMore_4 : decode cX2_noMore 4 = .ok (.iload_n 0, 1) := by decide +kernel
theorem dX2_noMore_5 : decode cX2_noMore 5 = .ok (.isub, 1) := by decide +kernel
theorem dX2_noMore_6 : decode cX2_noMore 6 = .ok (.ldc 24, 2) := by decide +kernel
theorem dX2_noMore_8 : decode cX2_noMore 8 = .ok (.iand, 1) := by decide +kernel
theorem dX2_noMore_9 : decode cX2_noMore 9 = .ok (.ldc 24, 2) := by decide +kernel
theorem dX2_noMore_11 : decode cX2_noMore 11 = .ok (.if_icmp .ne 7, 3) := by decide +kernel
theorem dX2_noMore_14 : decode cX2_noMore 14 = .ok (.iconst 1, 1) := by decide +kernel
theorem dX2_noMore_15 : decode cX2_noMore 15 = .ok (.goto 4, 3) := by decide +kernel
theorem dX2_noMore_18 : decode cX2_noMore 18 = .ok (.iconst 0, 1) := by decide +kernel
theorem dX2_noMore_19 : decode cX2_noMore 19 = .ok (.ireturn, 1) := by decide +kernel
theorem dX2_isBelow_0 : decode cX2_isBelow 0 = .ok (.aload_n 0, 1) := by decide +kernel
theorem dX2_isBelow_1 : decode cX2_isBelow 1 = .ok (.getfield 9, 3) := by decide +kernel
theorem dX2_isBelow_4 : decode cX2_isBelow 4 = .ok (.iload_n 1, 1) := by decide +kernel
theorem dX2_isBelow_5 : decode cX2_isBelow 5 = .ok (.invokevirtual 25, 3) := by decide +kernel
theorem dX2_isBelow_8 : decode cX2_isBelow 8 = .ok (.aload_n 0, 1) := by decide +kernel
theorem dX2_isBelow_9 : decode cX2_isBelow 9 = .ok (.getfield 9, 3) := by decide +kernel
theorem dX2_isBelow_12 : decode cX2_isBelow 12 = .ok (.iload_n 2, 1) := by decide +kernel
theorem dX2_isBelow_13 : decode cX2_isBelow 13 = .ok (.invokevirtual 25, 3) := by decide +kernel
theorem dX2_isBelow_16 : decode cX2_isBelow 16 = .ok (.invokestatic 29, 3) := by decide +kernel
theorem dX2_isBelow_19 : decode cX2_isBelow 19 = .ok (.ireturn, 1) := by decide +kernel
theorem dX2_isWithin_0 : decode cX2_isWithin 0 = .ok (.iload_n 0, 1) := by decide +kernel
theorem dX2_isWithin_1 : decode cX2_isWithin 1 = .ok (.iload_n 1, 1) := by decide +kernel
theorem dX2_isWithin_2 : decode cX2_isWithin 2 = .ok (.invokestatic 29, 3) := by decide +kernel
theorem dX2_isWithin_5 : decode cX2_isWithin 5 = .ok (.ifCond .eq 15, 3) := by decide +kernel
theorem dX2_isWithin_8 : decode cX2_isWithin 8 = .ok (.iload_n 1, 1) := by decide +kernel
theorem dX2_isWithin_9 : decode cX2_isWithin 9 = .ok (.iload_n 2, 1) := by decide +kernel
theorem dX2_isWithin_10 : decode cX2_isWithin 10 = .ok (.invokestatic 29, 3) := by decide +kernel
theorem dX2_isWithin_13 : decode cX2_isWithin 13 = .ok (.ifCond .eq 7, 3) := by decide +kernel
theorem dX2_isWithin_16 : decode cX2_isWithin 16 = .ok (.iconst 1, 1) := by decide +kernel
theorem dX2_isWithin_17 : decode cX2_isWithin 17 = .ok (.goto 4, 3) := by decide +kernel
theorem dX2_isWithin_20 : decode cX2_isWithin 20 = .ok (.iconst 0, 1) := by decide +kernel
theorem dX2_isWithin_21 : decode cX2_isWithin 21 = .ok (.ireturn, 1) := by decide +kernel
theorem dX2_meetOrJoin_0 : decode cX2_meetOrJoin 0 = .ok (.iload_n 3, 1) := by decide +kernel
theorem dX2_meetOrJoin_1 : decode cX2_meetOrJoin 1 = .ok (.ifCond .eq 12, 3) := by decide +kernel
theorem dX2_meetOrJoin_4 : decode cX2_meetOrJoin 4 = .ok (.aload_n 0, 1) := by decide +kernel
theorem dX2_meetOrJoin_5 : decode cX2_meetOrJoin 5 = .ok (.iload_n 1, 1) := by decide +kernel
theorem dX2_meetOrJoin_6 : decode cX2_meetOrJoin 6 = .ok (.iload_n 2, 1) := by decide +kernel
theorem dX2_meetOrJoin_7 : decode cX2_meetOrJoin 7 = .ok (.invokevirtual 33, 3) := by decide +kernel
theorem dX2_meetOrJoin_10 : decode cX2_meetOrJoin 10 = .ok (.goto 9, 3) := by decide +kernel
theorem dX2_meetOrJoin_13 : decode cX2_meetOrJoin 13 = .ok (.aload_n 0, 1) := by decide +kernel
theorem dX2_meetOrJoin_14 : decode cX2_meetOrJoin 14 = .ok (.iload_n 1, 1) := by decide +kernel
theorem dX2_meetOrJoin_15 : decode cX2_meetOrJoin 15 = .ok (.iload_n 2, 1) := by decide +kernel
theorem dX2_meetOrJoin_16 : decode cX2_meetOrJoin 16 = .ok (.invokevirtual 37, 3) := by decide +kernel
theorem dX2_meetOrJoin_19 : decode cX2_meetOrJoin 19 = .ok (.ireturn, 1) := by decide +kernel
theorem dX2_meetOf_0 : decode cX2_meetOf 0 = .ok (.aload_n 0, 1) := by decide +kernel
theorem dX2_meetOf_1 : decode cX2_meetOf 1 = .ok (.getfield 9, 3) := by decide +kernel
theorem dX2_meetOf_4 : decode cX2_meetOf 4 = .ok (.iload_n 1, 1) := by decide +kernel
theorem dX2_meetOf_5 : decode cX2_meetOf 5 = .ok (.invokevirtual 40, 3) := by decide +kernel
theorem dX2_meetOf_8 : decode cX2_meetOf 8 = .ok (.istore_n 3, 1) := by decide +kernel
theorem dX2_meetOf_9 : decode cX2_meetOf 9 = .ok (.iconst 0, 1) := by decide +kernel
theorem dX2_meetOf_10 : decode cX2_meetOf 10 = .ok (.istore 4, 2) := by decide +kernel
theorem dX2_meetOf_12 : decode cX2_meetOf 12 = .ok (.iconst 0, 1) := by decide +kernel
theorem dX2_meetOf_13 : decode cX2_meetOf 13 = .ok (.istore 5, 2) := by decide +kernel
theorem dX2_meetOf_15 : decode cX2_meetOf 15 = .ok (.iload 5, 2) := by decide +kernel
theorem dX2_meetOf_17 : decode cX2_meetOf 17 = .ok (.iload_n 3, 1) := by decide +kernel
theorem dX2_meetOf_18 : decode cX2_meetOf 18 = .ok (.if_icmp .ge 47, 3) := by decide +kernel
theorem dX2_meetOf_21 : decode cX2_meetOf 21 = .ok (.aload_n 0, 1) := by decide +kernel
theorem dX2_meetOf_22 : decode cX2_meetOf 22 = .ok (.getfield 9, 3) := by decide +kernel
theorem dX2_meetOf_25 : decode cX2_meetOf 25 = .ok (.iload_n 1, 1) := by decide +kernel
theorem dX2_meetOf_26 : decode cX2_meetOf 26 = .ok (.iload 5, 2) := by decide +kernel
theorem dX2_meetOf_28 : decode cX2_meetOf 28 = .ok (.invokevirtual 43, 3) := by decide +kernel
theorem dX2_meetOf_31 : decode cX2_meetOf 31 = .ok (.aload_n 0, 1) := by decide +kernel
theorem dX2_meetOf_32 : decode cX2_meetOf 32 = .ok (.getfield 9, 3) := by decide +kernel
theorem dX2_meetOf_35 : decode cX2_meetOf 35 = .ok (.iload_n 2, 1) := by decide +kernel
theorem dX2_meetOf_36 : decode cX2_meetOf 36 = .ok (.iload 5, 2) := by decide +kernel
theorem dX2_meetOf_38 : decode cX2_meetOf 38 = .ok (.invokevirtual 43, 3) := by decide +kernel
theorem dX2_meetOf_41 : decode cX2_meetOf 41 = .ok (.invokestatic 46, 3) := by decide +kernel
theorem dX2_meetOf_44 : decode cX2_meetOf 44 = .ok (.istore 6, 2) := by decide +kernel
theorem dX2_meetOf_46 : decode cX2_meetOf 46 = .ok (.iload 4, 2) := by decide +kernel
theorem dX2_meetOf_48 : decode cX2_meetOf 48 = .ok (.iload 6, 2) := by decide +kernel
theorem dX2_meetOf_50 : decode cX2_meetOf 50 = .ok (.iload_n 3, 1) := by decide +kernel
theorem dX2_meetOf_51 : decode cX2_meetOf 51 = .ok (.iload 5, 2) := by decide +kernel
theorem dX2_meetOf_53 : decode cX2_meetOf 53 = .ok (.invokestatic 51, 3) := by decide +kernel
theorem dX2_meetOf_56 : decode cX2_meetOf 56 = .ok (.ior, 1) := by decide +kernel
theorem dX2_meetOf_57 : decode cX2_meetOf 57 = .ok (.istore 4, 2) := by decide +kernel
theorem dX2_meetOf_59 : decode cX2_meetOf 59 = .ok (.iinc 5 1, 3) := by decide +kernel
theorem dX2_meetOf_62 : decode cX2_meetOf 62 = .ok (.goto (-47), 3) := by decide +kernel
theorem dX2_meetOf_65 : decode cX2_meetOf 65 = .ok (.aload_n 0, 1) := by decide +kernel
theorem dX2_meetOf_66 : decode cX2_meetOf 66 = .ok (.getfield 9, 3) := by decide +kernel
theorem dX2_meetOf_69 : decode cX2_meetOf 69 = .ok (.iload_n 3, 1) := by decide +kernel
theorem dX2_meetOf_70 : decode cX2_meetOf 70 = .ok (.iload 4, 2) := by decide +kernel
theorem dX2_meetOf_72 : decode cX2_meetOf 72 = .ok (.invokevirtual 55, 3) := by decide +kernel
theorem dX2_meetOf_75 : decode cX2_meetOf 75 = .ok (.ireturn, 1) := by decide +kernel
theorem dX2_joinOf_0 : decode cX2_joinOf 0 = .ok (.aload_n 0, 1) := by decide +kernel
theorem dX2_joinOf_1 : decode cX2_joinOf 1 = .ok (.getfield 9, 3) := by decide +kernel
theorem dX2_joinOf_4 : decode cX2_joinOf 4 = .ok (.iload_n 1, 1) := by decide +kernel
theorem dX2_joinOf_5 : decode cX2_joinOf 5 = .ok (.invokevirtual 40, 3) := by decide +kernel
theorem dX2_joinOf_8 : decode cX2_joinOf 8 = .ok (.istore_n 3, 1) := by decide +kernel
theorem dX2_joinOf_9 : decode cX2_joinOf 9 = .ok (.iconst 0, 1) := by decide +kernel
theorem dX2_joinOf_10 : decode cX2_joinOf 10 = .ok (.istore 4, 2) := by decide +kernel
theorem dX2_joinOf_12 : decode cX2_joinOf 12 = .ok (.iload_n 3, 1) := by decide +kernel
theorem dX2_joinOf_13 : decode cX2_joinOf 13 = .ok (.iconst 1, 1) := by decide +kernel
theorem dX2_joinOf_14 : decode cX2_joinOf 14 = .ok (.isub, 1) := by decide +kernel
theorem dX2_joinOf_15 : decode cX2_joinOf 15 = .ok (.istore 5, 2) := by decide +kernel
theorem dX2_joinOf_17 : decode cX2_joinOf 17 = .ok (.iload 5, 2) := by decide +kernel
theorem dX2_joinOf_19 : decode cX2_joinOf 19 = .ok (.ifCond .lt 93, 3) := by decide +kernel
theorem dX2_joinOf_22 : decode cX2_joinOf 22 = .ok (.aload_n 0, 1) := by decide +kernel
theorem dX2_joinOf_23 : decode cX2_joinOf 23 = .ok (.getfield 9, 3) := by decide +kernel
theorem dX2_joinOf_26 : decode cX2_joinOf 26 = .ok (.iload_n 1, 1) := by decide +kernel
theorem dX2_joinOf_27 : decode cX2_joinOf 27 = .ok (.iload 5, 2) := by decide +kernel
theorem dX2_joinOf_29 : decode cX2_joinOf 29 = .ok (.invokevirtual 58, 3) := by decide +kernel
theorem dX2_joinOf_32 : decode cX2_joinOf 32 = .ok (.aload_n 0, 1) := by decide +kernel
theorem dX2_joinOf_33 : decode cX2_joinOf 33 = .ok (.getfield 9, 3) := by decide +kernel
theorem dX2_joinOf_36 : decode cX2_joinOf 36 = .ok (.iload_n 2, 1) := by decide +kernel
theorem dX2_joinOf_37 : decode cX2_joinOf 37 = .ok (.iload 5, 2) := by decide +kernel
theorem dX2_joinOf_39 : decode cX2_joinOf 39 = .ok (.invokevirtual 58, 3) := by decide +kernel
theorem dX2_joinOf_42 : decode cX2_joinOf 42 = .ok (.invokestatic 61, 3) := by decide +kernel
theorem dX2_joinOf_45 : decode cX2_joinOf 45 = .ok (.istore 6, 2) := by decide +kernel
theorem dX2_joinOf_47 : decode cX2_joinOf 47 = .ok (.iload 5, 2) := by decide +kernel
theorem dX2_joinOf_49 : decode cX2_joinOf 49 = .ok (.iconst 1, 1) := by decide +kernel
theorem dX2_joinOf_50 : decode cX2_joinOf 50 = .ok (.iadd, 1) := by decide +kernel
theorem dX2_joinOf_51 : decode cX2_joinOf 51 = .ok (.istore 7, 2) := by decide +kernel
theorem dX2_joinOf_53 : decode cX2_joinOf 53 = .ok (.iload 7, 2) := by decide +kernel
theorem dX2_joinOf_55 : decode cX2_joinOf 55 = .ok (.iload_n 3, 1) := by decide +kernel
theorem dX2_joinOf_56 : decode cX2_joinOf 56 = .ok (.if_icmp .ge 34, 3) := by decide +kernel
theorem dX2_joinOf_59 : decode cX2_joinOf 59 = .ok (.iload 7, 2) := by decide +kernel
theorem dX2_joinOf_61 : decode cX2_joinOf 61 = .ok (.iload 6, 2) := by decide +kernel
theorem dX2_joinOf_63 : decode cX2_joinOf 63 = .ok (.if_icmp .gt 27, 3) := by decide +kernel
theorem dX2_joinOf_66 : decode cX2_joinOf 66 = .ok (.iload 6, 2) := by decide +kernel
theorem dX2_joinOf_68 : decode cX2_joinOf 68 = .ok (.iload 7, 2) := by decide +kernel
theorem dX2_joinOf_70 : decode cX2_joinOf 70 = .ok (.iload 4, 2) := by decide +kernel
theorem dX2_joinOf_72 : decode cX2_joinOf 72 = .ok (.iload_n 3, 1) := by decide +kernel
theorem dX2_joinOf_73 : decode cX2_joinOf 73 = .ok (.iload 7, 2) := by decide +kernel
theorem dX2_joinOf_75 : decode cX2_joinOf 75 = .ok (.invokestatic 64, 3) := by decide +kernel
theorem dX2_joinOf_78 : decode cX2_joinOf 78 = .ok (.iadd, 1) := by decide +kernel
theorem dX2_joinOf_79 : decode cX2_joinOf 79 = .ok (.invokestatic 61, 3) := by decide +kernel
theorem dX2_joinOf_82 : decode cX2_joinOf 82 = .ok (.istore 6, 2) := by decide +kernel
theorem dX2_joinOf_84 : decode cX2_joinOf 84 = .ok (.iinc 7 1, 3) := by decide +kernel
theorem dX2_joinOf_87 : decode cX2_joinOf 87 = .ok (.goto (-34), 3) := by decide +kernel
theorem dX2_joinOf_90 : decode cX2_joinOf 90 = .ok (.iload 4, 2) := by decide +kernel
theorem dX2_joinOf_92 : decode cX2_joinOf 92 = .ok (.iload 6, 2) := by decide +kernel
theorem dX2_joinOf_94 : decode cX2_joinOf 94 = .ok (.iload 5, 2) := by decide +kernel
theorem dX2_joinOf_96 : decode cX2_joinOf 96 = .ok (.isub, 1) := by decide +kernel
theorem dX2_joinOf_97 : decode cX2_joinOf 97 = .ok (.iload_n 3, 1) := by decide +kernel
theorem dX2_joinOf_98 : decode cX2_joinOf 98 = .ok (.iload 5, 2) := by decide +kernel
theorem dX2_joinOf_100 : decode cX2_joinOf 100 = .ok (.invokestatic 51, 3) := by decide +kernel
theorem dX2_joinOf_103 : decode cX2_joinOf 103 = .ok (.ior, 1) := by decide +kernel
theorem dX2_joinOf_104 : decode cX2_joinOf 104 = .ok (.istore 4, 2) := by decide +kernel
theorem dX2_joinOf_106 : decode cX2_joinOf 106 = .ok (.iinc 5 (-1), 3) := by decide +kernel
theorem dX2_joinOf_109 : decode cX2_joinOf 109 = .ok (.goto (-92), 3) := by decide +kernel
theorem dX2_joinOf_112 : decode cX2_joinOf 112 = .ok (.aload_n 0, 1) := by decide +kernel
theorem dX2_joinOf_113 : decode cX2_joinOf 113 = .ok (.getfield 9, 3) := by decide +kernel
theorem dX2_joinOf_116 : decode cX2_joinOf 116 = .ok (.iload_n 3, 1) := by decide +kernel
theorem dX2_joinOf_117 : decode cX2_joinOf 117 = .ok (.iload 4, 2) := by decide +kernel
theorem dX2_joinOf_119 : decode cX2_joinOf 119 = .ok (.invokevirtual 55, 3) := by decide +kernel
theorem dX2_joinOf_122 : decode cX2_joinOf 122 = .ok (.ireturn, 1) := by decide +kernel
theorem dX2_howManyBetween_0 : decode cX2_howManyBetween 0 = .ok (.aload_n 0, 1) := by decide +kernel
theorem dX2_howManyBetween_1 : decode cX2_howManyBetween 1 = .ok (.getfield 9, 3) := by decide +kernel
theorem dX2_howManyBetween_4 : decode cX2_howManyBetween 4 = .ok (.iload_n 1, 1) := by decide +kernel
theorem dX2_howManyBetween_5 : decode cX2_howManyBetween 5 = .ok (.invokevirtual 25, 3) := by decide +kernel
theorem dX2_howManyBetween_8 : decode cX2_howManyBetween 8 = .ok (.istore_n 3, 1) := by decide +kernel
theorem dX2_howManyBetween_9 : decode cX2_howManyBetween 9 = .ok (.aload_n 0, 1) := by decide +kernel
theorem dX2_howManyBetween_10 : decode cX2_howManyBetween 10 = .ok (.getfield 9, 3) := by decide +kernel
theorem dX2_howManyBetween_13 : decode cX2_howManyBetween 13 = .ok (.iload_n 2, 1) := by decide +kernel
theorem dX2_howManyBetween_14 : decode cX2_howManyBetween 14 = .ok (.invokevirtual 25, 3) := by decide +kernel
theorem dX2_howManyBetween_17 : decode cX2_howManyBetween 17 = .ok (.istore 4, 2) := by decide +kernel
theorem dX2_howManyBetween_19 : decode cX2_howManyBetween 19 = .ok (.iconst 0, 1) := by decide +kernel
theorem dX2_howManyBetween_20 : decode cX2_howManyBetween 20 = .ok (.istore 5, 2) := by decide +kernel
theorem dX2_howManyBetween_22 : decode cX2_howManyBetween 22 = .ok (.iload_n 1, 1) := by decide +kernel
theorem dX2_howManyBetween_23 : decode cX2_howManyBetween 23 = .ok (.istore 6, 2) := by decide +kernel
theorem dX2_howManyBetween_25 : decode cX2_howManyBetween 25 = .ok (.iload 6, 2) := by decide +kernel
theorem dX2_howManyBetween_27 : decode cX2_howManyBetween 27 = .ok (.iload_n 2, 1) := by decide +kernel
theorem dX2_howManyBetween_28 : decode cX2_howManyBetween 28 = .ok (.if_icmp .gt 30, 3) := by decide +kernel
theorem dX2_howManyBetween_31 : decode cX2_howManyBetween 31 = .ok (.iload_n 3, 1) := by decide +kernel
theorem dX2_howManyBetween_32 : decode cX2_howManyBetween 32 = .ok (.aload_n 0, 1) := by decide +kernel
theorem dX2_howManyBetween_33 : decode cX2_howManyBetween 33 = .ok (.getfield 9, 3) := by decide +kernel
theorem dX2_howManyBetween_36 : decode cX2_howManyBetween 36 = .ok (.iload 6, 2) := by decide +kernel
theorem dX2_howManyBetween_38 : decode cX2_howManyBetween 38 = .ok (.invokevirtual 25, 3) := by decide +kernel
theorem dX2_howManyBetween_41 : decode cX2_howManyBetween 41 = .ok (.iload 4, 2) := by decide +kernel
theorem dX2_howManyBetween_43 : decode cX2_howManyBetween 43 = .ok (.invokestatic 67, 3) := by decide +kernel
theorem dX2_howManyBetween_46 : decode cX2_howManyBetween 46 = .ok (.ifCond .eq 6, 3) := by decide +kernel
theorem dX2_howManyBetween_49 : decode cX2_howManyBetween 49 = .ok (.iinc 5 1, 3) := by decide +kernel
theorem dX2_howManyBetween_52 : decode cX2_howManyBetween 52 = .ok (.iinc 6 1, 3) := by decide +kernel
theorem dX2_howManyBetween_55 : decode cX2_howManyBetween 55 = .ok (.goto (-30), 3) := by decide +kernel
theorem dX2_howManyBetween_58 : decode cX2_howManyBetween 58 = .ok (.iload 5, 2) := by decide +kernel
theorem dX2_howManyBetween_60 : decode cX2_howManyBetween 60 = .ok (.ireturn, 1) := by decide +kernel
theorem dX2_nthBetween_0 : decode cX2_nthBetween 0 = .ok (.aload_n 0, 1) := by decide +kernel
theorem dX2_nthBetween_1 : decode cX2_nthBetween 1 = .ok (.getfield 9, 3) := by decide +kernel
theorem dX2_nthBetween_4 : decode cX2_nthBetween 4 = .ok (.iload_n 1, 1) := by decide +kernel
theorem dX2_nthBetween_5 : decode cX2_nthBetween 5 = .ok (.invokevirtual 25, 3) := by decide +kernel
theorem dX2_nthBetween_8 : decode cX2_nthBetween 8 = .ok (.istore 4, 2) := by decide +kernel
theorem dX2_nthBetween_10 : decode cX2_nthBetween 10 = .ok (.aload_n 0, 1) := by decide +kernel
theorem dX2_nthBetween_11 : decode cX2_nthBetween 11 = .ok (.getfield 9, 3) := by decide +kernel
theorem dX2_nthBetween_14 : decode cX2_nthBetween 14 = .ok (.iload_n 2, 1) := by decide +kernel
theorem dX2_nthBetween_15 : decode cX2_nthBetween 15 = .ok (.invokevirtual 25, 3) := by decide +kernel
theorem dX2_nthBetween_18 : decode cX2_nthBetween 18 = .ok (.istore 5, 2) := by decide +kernel
theorem dX2_nthBetween_20 : decode cX2_nthBetween 20 = .ok (.iconst 0, 1) := by decide +kernel
theorem dX2_nthBetween_21 : decode cX2_nthBetween 21 = .ok (.istore 6, 2) := by decide +kernel
theorem dX2_nthBetween_23 : decode cX2_nthBetween 23 = .ok (.iload_n 1, 1) := by decide +kernel
theorem dX2_nthBetween_24 : decode cX2_nthBetween 24 = .ok (.istore 7, 2) := by decide +kernel
theorem dX2_nthBetween_26 : decode cX2_nthBetween 26 = .ok (.iload 7, 2) := by decide +kernel
theorem dX2_nthBetween_28 : decode cX2_nthBetween 28 = .ok (.iload_n 2, 1) := by decide +kernel
theorem dX2_nthBetween_29 : decode cX2_nthBetween 29 = .ok (.if_icmp .gt 40, 3) := by decide +kernel
theorem dX2_nthBetween_32 : decode cX2_nthBetween 32 = .ok (.iload 4, 2) := by decide +kernel
theorem dX2_nthBetween_34 : decode cX2_nthBetween 34 = .ok (.aload_n 0, 1) := by decide +kernel
theorem dX2_nthBetween_35 : decode cX2_nthBetween 35 = .ok (.getfield 9, 3) := by decide +kernel
theorem dX2_nthBetween_38 : decode cX2_nthBetween 38 = .ok (.iload 7, 2) := by decide +kernel
theorem dX2_nthBetween_40 : decode cX2_nthBetween 40 = .ok (.invokevirtual 25, 3) := by decide +kernel
theorem dX2_nthBetween_43 : decode cX2_nthBetween 43 = .ok (.iload 5, 2) := by decide +kernel
theorem dX2_nthBetween_45 : decode cX2_nthBetween 45 = .ok (.invokestatic 67, 3) := by decide +kernel
theorem dX2_nthBetween_48 : decode cX2_nthBetween 48 = .ok (.ifCond .eq 15, 3) := by decide +kernel
theorem dX2_nthBetween_51 : decode cX2_nthBetween 51 = .ok (.iload 6, 2) := by decide +kernel
theorem dX2_nthBetween_53 : decode cX2_nthBetween 53 = .ok (.iload_n 3, 1) := by decide +kernel
theorem dX2_nthBetween_54 : decode cX2_nthBetween 54 = .ok (.if_icmp .ne 6, 3) := by decide +kernel
theorem dX2_nthBetween_57 : decode cX2_nthBetween 57 = .ok (.iload 7, 2) := by decide +kernel
theorem dX2_nthBetween_59 : decode cX2_nthBetween 59 = .ok (.ireturn, 1) := by decide +kernel
theorem dX2_nthBetween_60 : decode cX2_nthBetween 60 = .ok (.iinc 6 1, 3) := by decide +kernel
theorem dX2_nthBetween_63 : decode cX2_nthBetween 63 = .ok (.iinc 7 1, 3) := by decide +kernel
theorem dX2_nthBetween_66 : decode cX2_nthBetween 66 = .ok (.goto (-40), 3) := by decide +kernel
theorem dX2_nthBetween_69 : decode cX2_nthBetween 69 = .ok (.iconst 0, 1) := by decide +kernel
theorem dX2_nthBetween_70 : decode cX2_nthBetween 70 = .ok (.ireturn, 1) := by decide +kernel
theorem dX2_markOf_0 : decode cX2_markOf 0 = .ok (.aload_n 0, 1) := by decide +kernel
theorem dX2_markOf_1 : decode cX2_markOf 1 = .ok (.getfield 9, 3) := by decide +kernel
theorem dX2_markOf_4 : decode cX2_markOf 4 = .ok (.iload_n 1, 1) := by decide +kernel
theorem dX2_markOf_5 : decode cX2_markOf 5 = .ok (.invokevirtual 25, 3) := by decide +kernel
theorem dX2_markOf_8 : decode cX2_markOf 8 = .ok (.istore_n 3, 1) := by decide +kernel
theorem dX2_markOf_9 : decode cX2_markOf 9 = .ok (.aload_n 0, 1) := by decide +kernel
theorem dX2_markOf_10 : decode cX2_markOf 10 = .ok (.getfield 9, 3) := by decide +kernel
theorem dX2_markOf_13 : decode cX2_markOf 13 = .ok (.iload_n 2, 1) := by decide +kernel
theorem dX2_markOf_14 : decode cX2_markOf 14 = .ok (.invokevirtual 25, 3) := by decide +kernel
theorem dX2_markOf_17 : decode cX2_markOf 17 = .ok (.istore 4, 2) := by decide +kernel
theorem dX2_markOf_19 : decode cX2_markOf 19 = .ok (.iconst 0, 1) := by decide +kernel
theorem dX2_markOf_20 : decode cX2_markOf 20 = .ok (.istore 5, 2) := by decide +kernel
theorem dX2_markOf_22 : decode cX2_markOf 22 = .ok (.iconst 0, 1) := by decide +kernel
theorem dX2_markOf_23 : decode cX2_markOf 23 = .ok (.istore 6, 2) := by decide +kernel
theorem dX2_markOf_25 : decode cX2_markOf 25 = .ok (.iload_n 1, 1) := by decide +kernel
theorem dX2_markOf_26 : decode cX2_markOf 26 = .ok (.istore 7, 2) := by decide +kernel
theorem dX2_markOf_28 : decode cX2_markOf 28 = .ok (.iload 7, 2) := by decide +kernel
theorem dX2_markOf_30 : decode cX2_markOf 30 = .ok (.iload_n 2, 1) := by decide +kernel
theorem dX2_markOf_31 : decode cX2_markOf 31 = .ok (.if_icmp .gt 89, 3) := by decide +kernel
theorem dX2_markOf_34 : decode cX2_markOf 34 = .ok (.aload_n 0, 1) := by decide +kernel
theorem dX2_markOf_35 : decode cX2_markOf 35 = .ok (.getfield 9, 3) := by decide +kernel
theorem dX2_markOf_38 : decode cX2_markOf 38 = .ok (.iload 7, 2) := by decide +kernel
theorem dX2_markOf_40 : decode cX2_markOf 40 = .ok (.invokevirtual 25, 3) := by decide +kernel
theorem dX2_markOf_43 : decode cX2_markOf 43 = .ok (.istore 8, 2) := by decide +kernel
theorem dX2_markOf_45 : decode cX2_markOf 45 = .ok (.iload_n 3, 1) := by decide +kernel
theorem dX2_markOf_46 : decode cX2_markOf 46 = .ok (.iload 8, 2) := by decide +kernel
theorem dX2_markOf_48 : decode cX2_markOf 48 = .ok (.iload 4, 2) := by decide +kernel
theorem dX2_markOf_50 : decode cX2_markOf 50 = .ok (.invokestatic 67, 3) := by decide +kernel
theorem dX2_markOf_53 : decode cX2_markOf 53 = .ok (.ifCond .ne 6, 3) := by decide +kernel
theorem dX2_markOf_56 : decode cX2_markOf 56 = .ok (.goto 58, 3) := by decide +kernel
theorem dX2_markOf_59 : decode cX2_markOf 59 = .ok (.iload 7, 2) := by decide +kernel
theorem dX2_markOf_61 : decode cX2_markOf 61 = .ok (.iload_n 1, 1) := by decide +kernel
theorem dX2_markOf_62 : decode cX2_markOf 62 = .ok (.if_icmp .ne 7, 3) := by decide +kernel
theorem dX2_markOf_65 : decode cX2_markOf 65 = .ok (.iconst 1, 1) := by decide +kernel
theorem dX2_markOf_66 : decode cX2_markOf 66 = .ok (.goto 12, 3) := by decide +kernel
theorem dX2_markOf_69 : decode cX2_markOf 69 = .ok (.aload_n 0, 1) := by decide +kernel
theorem dX2_markOf_70 : decode cX2_markOf 70 = .ok (.iload 8, 2) := by decide +kernel
theorem dX2_markOf_72 : decode cX2_markOf 72 = .ok (.iload 5, 2) := by decide +kernel
theorem dX2_markOf_74 : decode cX2_markOf 74 = .ok (.invokevirtual 71, 3) := by decide +kernel
theorem dX2_markOf_77 : decode cX2_markOf 77 = .ok (.ineg, 1) := by decide +kernel
theorem dX2_markOf_78 : decode cX2_markOf 78 = .ok (.istore 6, 2) := by decide +kernel
theorem dX2_markOf_80 : decode cX2_markOf 80 = .ok (.iload 6, 2) := by decide +kernel
theorem dX2_markOf_82 : decode cX2_markOf 82 = .ok (.ifCond .eq 32, 3) := by decide +kernel
theorem dX2_markOf_85 : decode cX2_markOf 85 = .ok (.iload 5, 2) := by decide +kernel
theorem dX2_markOf_87 : decode cX2_markOf 87 = .ok (.sipush 429, 3) := by decide +kernel
theorem dX2_markOf_90 : decode cX2_markOf 90 = .ok (.if_icmp .ge 24, 3) := by decide +kernel
theorem dX2_markOf_93 : decode cX2_markOf 93 = .ok (.aload_n 0, 1) := by decide +kernel
theorem dX2_markOf_94 : decode cX2_markOf 94 = .ok (.getfield 17, 3) := by decide +kernel
theorem dX2_markOf_97 : decode cX2_markOf 97 = .ok (.iload 5, 2) := by decide +kernel
theorem dX2_markOf_99 : decode cX2_markOf 99 = .ok (.iload 8, 2) := by decide +kernel
theorem dX2_markOf_101 : decode cX2_markOf 101 = .ok (.iastore, 1) := by decide +kernel
theorem dX2_markOf_102 : decode cX2_markOf 102 = .ok (.aload_n 0, 1) := by decide +kernel
theorem dX2_markOf_103 : decode cX2_markOf 103 = .ok (.getfield 21, 3) := by decide +kernel
theorem dX2_markOf_106 : decode cX2_markOf 106 = .ok (.iload 5, 2) := by decide +kernel
theorem dX2_markOf_108 : decode cX2_markOf 108 = .ok (.iload 6, 2) := by decide +kernel
theorem dX2_markOf_110 : decode cX2_markOf 110 = .ok (.iastore, 1) := by decide +kernel
theorem dX2_markOf_111 : decode cX2_markOf 111 = .ok (.iinc 5 1, 3) := by decide +kernel
theorem dX2_markOf_114 : decode cX2_markOf 114 = .ok (.iinc 7 1, 3) := by decide +kernel
theorem dX2_markOf_117 : decode cX2_markOf 117 = .ok (.goto (-89), 3) := by decide +kernel
theorem dX2_markOf_120 : decode cX2_markOf 120 = .ok (.iload 6, 2) := by decide +kernel
theorem dX2_markOf_122 : decode cX2_markOf 122 = .ok (.ireturn, 1) := by decide +kernel
theorem dX2_sumBelow_0 : decode cX2_sumBelow 0 = .ok (.iconst 0, 1) := by decide +kernel
theorem dX2_sumBelow_1 : decode cX2_sumBelow 1 = .ok (.istore_n 3, 1) := by decide +kernel
theorem dX2_sumBelow_2 : decode cX2_sumBelow 2 = .ok (.iconst 0, 1) := by decide +kernel
theorem dX2_sumBelow_3 : decode cX2_sumBelow 3 = .ok (.istore 4, 2) := by decide +kernel
theorem dX2_sumBelow_5 : decode cX2_sumBelow 5 = .ok (.iload 4, 2) := by decide +kernel
theorem dX2_sumBelow_7 : decode cX2_sumBelow 7 = .ok (.iload_n 2, 1) := by decide +kernel
theorem dX2_sumBelow_8 : decode cX2_sumBelow 8 = .ok (.if_icmp .ge 41, 3) := by decide +kernel
theorem dX2_sumBelow_11 : decode cX2_sumBelow 11 = .ok (.iload 4, 2) := by decide +kernel
theorem dX2_sumBelow_13 : decode cX2_sumBelow 13 = .ok (.sipush 429, 3) := by decide +kernel
theorem dX2_sumBelow_16 : decode cX2_sumBelow 16 = .ok (.if_icmp .ge 33, 3) := by decide +kernel
theorem dX2_sumBelow_19 : decode cX2_sumBelow 19 = .ok (.aload_n 0, 1) := by decide +kernel
theorem dX2_sumBelow_20 : decode cX2_sumBelow 20 = .ok (.getfield 17, 3) := by decide +kernel
theorem dX2_sumBelow_23 : decode cX2_sumBelow 23 = .ok (.iload 4, 2) := by decide +kernel
theorem dX2_sumBelow_25 : decode cX2_sumBelow 25 = .ok (.iaload, 1) := by decide +kernel
theorem dX2_sumBelow_26 : decode cX2_sumBelow 26 = .ok (.iload_n 1, 1) := by decide +kernel
theorem dX2_sumBelow_27 : decode cX2_sumBelow 27 = .ok (.invokestatic 29, 3) := by decide +kernel
theorem dX2_sumBelow_30 : decode cX2_sumBelow 30 = .ok (.ifCond .eq 13, 3) := by decide +kernel
theorem dX2_sumBelow_33 : decode cX2_sumBelow 33 = .ok (.iload_n 3, 1) := by decide +kernel
theorem dX2_sumBelow_34 : decode cX2_sumBelow 34 = .ok (.aload_n 0, 1) := by decide +kernel
theorem dX2_sumBelow_35 : decode cX2_sumBelow 35 = .ok (.getfield 21, 3) := by decide +kernel
theorem dX2_sumBelow_38 : decode cX2_sumBelow 38 = .ok (.iload 4, 2) := by decide +kernel
theorem dX2_sumBelow_40 : decode cX2_sumBelow 40 = .ok (.iaload, 1) := by decide +kernel
theorem dX2_sumBelow_41 : decode cX2_sumBelow 41 = .ok (.iadd, 1) := by decide +kernel
theorem dX2_sumBelow_42 : decode cX2_sumBelow 42 = .ok (.istore_n 3, 1) := by decide +kernel
theorem dX2_sumBelow_43 : decode cX2_sumBelow 43 = .ok (.iinc 4 1, 3) := by decide +kernel
theorem dX2_sumBelow_46 : decode cX2_sumBelow 46 = .ok (.goto (-41), 3) := by decide +kernel
theorem dX2_sumBelow_49 : decode cX2_sumBelow 49 = .ok (.iload_n 3, 1) := by decide +kernel
theorem dX2_sumBelow_50 : decode cX2_sumBelow 50 = .ok (.ireturn, 1) := by decide +kernel
theorem dX2_howManyPairs_0 : decode cX2_howManyPairs 0 = .ok (.aload_n 0, 1) := by decide +kernel
theorem dX2_howManyPairs_1 : decode cX2_howManyPairs 1 = .ok (.getfield 9, 3) := by decide +kernel
theorem dX2_howManyPairs_4 : decode cX2_howManyPairs 4 = .ok (.iload_n 1, 1) := by decide +kernel
theorem dX2_howManyPairs_5 : decode cX2_howManyPairs 5 = .ok (.invokevirtual 74, 3) := by decide +kernel
theorem dX2_howManyPairs_8 : decode cX2_howManyPairs 8 = .ok (.istore_n 2, 1) := by decide +kernel
theorem dX2_howManyPairs_9 : decode cX2_howManyPairs 9 = .ok (.iconst 0, 1) := by decide +kernel
theorem dX2_howManyPairs_10 : decode cX2_howManyPairs 10 = .ok (.istore_n 3, 1) := by decide +kernel
theorem dX2_howManyPairs_11 : decode cX2_howManyPairs 11 = .ok (.aload_n 0, 1) := by decide +kernel
theorem dX2_howManyPairs_12 : decode cX2_howManyPairs 12 = .ok (.getfield 9, 3) := by decide +kernel
theorem dX2_howManyPairs_15 : decode cX2_howManyPairs 15 = .ok (.iload_n 1, 1) := by decide +kernel
theorem dX2_howManyPairs_16 : decode cX2_howManyPairs 16 = .ok (.invokevirtual 77, 3) := by decide +kernel
theorem dX2_howManyPairs_19 : decode cX2_howManyPairs 19 = .ok (.istore 4, 2) := by decide +kernel
theorem dX2_howManyPairs_21 : decode cX2_howManyPairs 21 = .ok (.iload 4, 2) := by decide +kernel
theorem dX2_howManyPairs_23 : decode cX2_howManyPairs 23 = .ok (.iload_n 2, 1) := by decide +kernel
theorem dX2_howManyPairs_24 : decode cX2_howManyPairs 24 = .ok (.if_icmp .gt 56, 3) := by decide +kernel
theorem dX2_howManyPairs_27 : decode cX2_howManyPairs 27 = .ok (.aload_n 0, 1) := by decide +kernel
theorem dX2_howManyPairs_28 : decode cX2_howManyPairs 28 = .ok (.getfield 9, 3) := by decide +kernel
theorem dX2_howManyPairs_31 : decode cX2_howManyPairs 31 = .ok (.iload 4, 2) := by decide +kernel
theorem dX2_howManyPairs_33 : decode cX2_howManyPairs 33 = .ok (.invokevirtual 25, 3) := by decide +kernel
theorem dX2_howManyPairs_36 : decode cX2_howManyPairs 36 = .ok (.istore 5, 2) := by decide +kernel
theorem dX2_howManyPairs_38 : decode cX2_howManyPairs 38 = .ok (.iload 4, 2) := by decide +kernel
theorem dX2_howManyPairs_40 : decode cX2_howManyPairs 40 = .ok (.istore 6, 2) := by decide +kernel
theorem dX2_howManyPairs_42 : decode cX2_howManyPairs 42 = .ok (.iload 6, 2) := by decide +kernel
theorem dX2_howManyPairs_44 : decode cX2_howManyPairs 44 = .ok (.iload_n 2, 1) := by decide +kernel
theorem dX2_howManyPairs_45 : decode cX2_howManyPairs 45 = .ok (.if_icmp .gt 29, 3) := by decide +kernel
theorem dX2_howManyPairs_48 : decode cX2_howManyPairs 48 = .ok (.iload 5, 2) := by decide +kernel
theorem dX2_howManyPairs_50 : decode cX2_howManyPairs 50 = .ok (.aload_n 0, 1) := by decide +kernel
theorem dX2_howManyPairs_51 : decode cX2_howManyPairs 51 = .ok (.getfield 9, 3) := by decide +kernel
theorem dX2_howManyPairs_54 : decode cX2_howManyPairs 54 = .ok (.iload 6, 2) := by decide +kernel
theorem dX2_howManyPairs_56 : decode cX2_howManyPairs 56 = .ok (.invokevirtual 25, 3) := by decide +kernel
theorem dX2_howManyPairs_59 : decode cX2_howManyPairs 59 = .ok (.invokestatic 29, 3) := by decide +kernel
theorem dX2_howManyPairs_62 : decode cX2_howManyPairs 62 = .ok (.ifCond .eq 6, 3) := by decide +kernel
theorem dX2_howManyPairs_65 : decode cX2_howManyPairs 65 = .ok (.iinc 3 1, 3) := by decide +kernel
theorem dX2_howManyPairs_68 : decode cX2_howManyPairs 68 = .ok (.iinc 6 1, 3) := by decide +kernel
theorem dX2_howManyPairs_71 : decode cX2_howManyPairs 71 = .ok (.goto (-29), 3) := by decide +kernel
theorem dX2_howManyPairs_74 : decode cX2_howManyPairs 74 = .ok (.iinc 4 1, 3) := by decide +kernel
theorem dX2_howManyPairs_77 : decode cX2_howManyPairs 77 = .ok (.goto (-56), 3) := by decide +kernel
theorem dX2_howManyPairs_80 : decode cX2_howManyPairs 80 = .ok (.iload_n 3, 1) := by decide +kernel
theorem dX2_howManyPairs_81 : decode cX2_howManyPairs 81 = .ok (.ireturn, 1) := by decide +kernel
theorem dX3_init_0 : decode cX3_init 0 = .ok (.aload_n 0, 1) := by decide +kernel
theorem dX3_init_1 : decode cX3_init 1 = .ok (.invokespecial 3, 3) := by decide +kernel
theorem dX3_init_4 : decode cX3_init 4 = .ok (.aload_n 0, 1) := by decide +kernel
theorem dX3_init_5 : decode cX3_init 5 = .ok (.bipush 10, 2) := by decide +kernel
theorem dX3_init_7 : decode cX3_init 7 = .ok (.newarray .int, 2) := by decide +kernel
theorem dX3_init_9 : decode cX3_init 9 = .ok (.putfield 11, 3) := by decide +kernel
theorem dX3_init_12 : decode cX3_init 12 = .ok (.return_, 1) := by decide +kernel
theorem dX3_add_0 : decode cX3_add 0 = .ok (.aload_n 0, 1) := by decide +kernel
theorem dX3_add_1 : decode cX3_add 1 = .ok (.getfield 15, 3) := by decide +kernel
theorem dX3_add_4 : decode cX3_add 4 = .ok (.bipush 10, 2) := by decide +kernel
theorem dX3_add_6 : decode cX3_add 6 = .ok (.if_icmp .lt 24, 3) := by decide +kernel
theorem dX3_add_9 : decode cX3_add 9 = .ok (.aload_n 0, 1) := by decide +kernel
theorem dX3_add_10 : decode cX3_add 10 = .ok (.getfield 11, 3) := by decide +kernel
theorem dX3_add_13 : decode cX3_add 13 = .ok (.iconst 1, 1) := by decide +kernel
theorem dX3_add_14 : decode cX3_add 14 = .ok (.aload_n 0, 1) := by decide +kernel
theorem dX3_add_15 : decode cX3_add 15 = .ok (.getfield 11, 3) := by decide +kernel
theorem dX3_add_18 : decode cX3_add 18 = .ok (.iconst 0, 1) := by decide +kernel
theorem dX3_add_19 : decode cX3_add 19 = .ok (.bipush 9, 2) := by decide +kernel
theorem dX3_add_21 : decode cX3_add 21 = .ok (.invokestatic 19, 3) := by decide +kernel
theorem dX3_add_24 : decode cX3_add 24 = .ok (.aload_n 0, 1) := by decide +kernel
theorem dX3_add_25 : decode cX3_add 25 = .ok (.bipush 9, 2) := by decide +kernel
theorem dX3_add_27 : decode cX3_add 27 = .ok (.putfield 15, 3) := by decide +kernel
theorem dX3_add_30 : decode cX3_add 30 = .ok (.aload_n 0, 1) := by decide +kernel
theorem dX3_add_31 : decode cX3_add 31 = .ok (.getfield 11, 3) := by decide +kernel
theorem dX3_add_34 : decode cX3_add 34 = .ok (.aload_n 0, 1) := by decide +kernel
theorem dX3_add_35 : decode cX3_add 35 = .ok (.getfield 15, 3) := by decide +kernel
theorem dX3_add_38 : decode cX3_add 38 = .ok (.iload_n 1, 1) := by decide +kernel
theorem dX3_add_39 : decode cX3_add 39 = .ok (.iastore, 1) := by decide +kernel
theorem dX3_add_40 : decode cX3_add 40 = .ok (.aload_n 0, 1) := by decide +kernel
theorem dX3_add_41 : decode cX3_add 41 = .ok (.dup, 1) := by decide +kernel
theorem dX3_add_42 : decode cX3_add 42 = .ok (.getfield 15, 3) := by decide +kernel
theorem dX3_add_45 : decode cX3_add 45 = .ok (.iconst 1, 1) := by decide +kernel
theorem dX3_add_46 : decode cX3_add 46 = .ok (.iadd, 1) := by decide +kernel
theorem dX3_add_47 : decode cX3_add 47 = .ok (.putfield 15, 3) := by decide +kernel
theorem dX3_add_50 : decode cX3_add 50 = .ok (.return_, 1) := by decide +kernel
theorem dX3_takeLatest_0 : decode cX3_takeLatest 0 = .ok (.aload_n 0, 1) := by decide +kernel
theorem dX3_takeLatest_1 : decode cX3_takeLatest 1 = .ok (.getfield 15, 3) := by decide +kernel
theorem dX3_takeLatest_4 : decode cX3_takeLatest 4 = .ok (.ifCond .gt 5, 3) := by decide +kernel
theorem dX3_takeLatest_7 : decode cX3_takeLatest 7 = .ok (.iconst 0, 1) := by decide +kernel
theorem dX3_takeLatest_8 : decode cX3_takeLatest 8 = .ok (.ireturn, 1) := by decide +kernel
theorem dX3_takeLatest_9 : decode cX3_takeLatest 9 = .ok (.aload_n 0, 1) := by decide +kernel
theorem dX3_takeLatest_10 : decode cX3_takeLatest 10 = .ok (.dup, 1) := by decide +kernel
theorem dX3_takeLatest_11 : decode cX3_takeLatest 11 = .ok (.getfield 15, 3) := by decide +kernel
theorem dX3_takeLatest_14 : decode cX3_takeLatest 14 = .ok (.iconst 1, 1) := by decide +kernel
theorem dX3_takeLatest_15 : decode cX3_takeLatest 15 = .ok (.isub, 1) := by decide +kernel
theorem dX3_takeLatest_16 : decode cX3_takeLatest 16 = .ok (.putfield 15, 3) := by decide +kernel
theorem dX3_takeLatest_19 : decode cX3_takeLatest 19 = .ok (.aload_n 0, 1) := by decide +kernel
theorem dX3_takeLatest_20 : decode cX3_takeLatest 20 = .ok (.getfield 11, 3) := by decide +kernel
theorem dX3_takeLatest_23 : decode cX3_takeLatest 23 = .ok (.aload_n 0, 1) := by decide +kernel
theorem dX3_takeLatest_24 : decode cX3_takeLatest 24 = .ok (.getfield 15, 3) := by decide +kernel
theorem dX3_takeLatest_27 : decode cX3_takeLatest 27 = .ok (.iaload, 1) := by decide +kernel
theorem dX3_takeLatest_28 : decode cX3_takeLatest 28 = .ok (.ireturn, 1) := by decide +kernel
theorem dX3_clear_0 : decode cX3_clear 0 = .ok (.aload_n 0, 1) := by decide +kernel
theorem dX3_clear_1 : decode cX3_clear 1 = .ok (.iconst 0, 1) := by decide +kernel
theorem dX3_clear_2 : decode cX3_clear 2 = .ok (.putfield 15, 3) := by decide +kernel
theorem dX3_clear_5 : decode cX3_clear 5 = .ok (.return_, 1) := by decide +kernel
theorem dX3_held_0 : decode cX3_held 0 = .ok (.aload_n 0, 1) := by decide +kernel
theorem dX3_held_1 : decode cX3_held 1 = .ok (.getfield 15, 3) := by decide +kernel
theorem dX3_held_4 : decode cX3_held 4 = .ok (.ireturn, 1) := by decide +kernel
def yJ0_bitCount : MethodName := ⟨"java/lang/Integer", "bitCount", "(I)I"⟩
def yJ_fillI : MethodName := ⟨"java/util/Arrays", "fill", "([II)V"⟩
def yJ_fillL : MethodName := ⟨"java/util/Arrays", "fill", "([JJ)V"⟩
theorem dJ0_bitCount_0 : decode prog_10_method_49_code 0 = .ok (.iload_n 0, 1) := by decide +kernel
theorem dJ0_bitCount_1 : decode prog_10_method_49_code 1 = .ok (.iload_n 0, 1) := by decide +kernel
theorem dJ0_bitCount_2 : decode prog_10_method_49_code 2 = .ok (.iconst 1, 1) := by decide +kernel
theorem dJ0_bitCount_3 : decode prog_10_method_49_code 3 = .ok (.iushr, 1) := by decide +kernel
theorem dJ0_bitCount_4 : decode prog_10_method_49_code 4 = .ok (.ldc_w 265, 3) := by decide +kernel
theorem dJ0_bitCount_7 : decode prog_10_method_49_code 7 = .ok (.iand, 1) := by decide +kernel
theorem dJ0_bitCount_8 : decode prog_10_method_49_code 8 = .ok (.isub, 1) := by decide +kernel
theorem dJ0_bitCount_9 : decode prog_10_method_49_code 9 = .ok (.istore_n 0, 1) := by decide +kernel
theorem dJ0_bitCount_10 : decode prog_10_method_49_code 10 = .ok (.iload_n 0, 1) := by decide +kernel
theorem dJ0_bitCount_11 : decode prog_10_method_49_code 11 = .ok (.ldc_w 266, 3) := by decide +kernel
theorem dJ0_bitCount_14 : decode prog_10_method_49_code 14 = .ok (.iand, 1) := by decide +kernel
theorem dJ0_bitCount_15 : decode prog_10_method_49_code 15 = .ok (.iload_n 0, 1) := by decide +kernel
theorem dJ0_bitCount_16 : decode prog_10_method_49_code 16 = .ok (.iconst 2, 1) := by decide +kernel
theorem dJ0_bitCount_17 : decode prog_10_method_49_code 17 = .ok (.iushr, 1) := by decide +kernel
theorem dJ0_bitCount_18 : decode prog_10_method_49_code 18 = .ok (.ldc_w 266, 3) := by decide +kernel
theorem dJ0_bitCount_21 : decode prog_10_method_49_code 21 = .ok (.iand, 1) := by decide +kernel
theorem dJ0_bitCount_22 : decode prog_10_method_49_code 22 = .ok (.iadd, 1) := by decide +kernel
theorem dJ0_bitCount_23 : decode prog_10_method_49_code 23 = .ok (.istore_n 0, 1) := by decide +kernel
theorem dJ0_bitCount_24 : decode prog_10_method_49_code 24 = .ok (.iload_n 0, 1) := by decide +kernel
theorem dJ0_bitCount_25 : decode prog_10_method_49_code 25 = .ok (.iload_n 0, 1) := by decide +kernel
theorem dJ0_bitCount_26 : decode prog_10_method_49_code 26 = .ok (.iconst 4, 1) := by decide +kernel
theorem dJ0_bitCount_27 : decode prog_10_method_49_code 27 = .ok (.iushr, 1) := by decide +kernel
theorem dJ0_bitCount_28 : decode prog_10_method_49_code 28 = .ok (.iadd, 1) := by decide +kernel
theorem dJ0_bitCount_29 : decode prog_10_method_49_code 29 = .ok (.ldc_w 267, 3) := by decide +kernel
theorem dJ0_bitCount_32 : decode prog_10_method_49_code 32 = .ok (.iand, 1) := by decide +kernel
theorem dJ0_bitCount_33 : decode prog_10_method_49_code 33 = .ok (.istore_n 0, 1) := by decide +kernel
theorem dJ0_bitCount_34 : decode prog_10_method_49_code 34 = .ok (.iload_n 0, 1) := by decide +kernel
theorem dJ0_bitCount_35 : decode prog_10_method_49_code 35 = .ok (.iload_n 0, 1) := by decide +kernel
theorem dJ0_bitCount_36 : decode prog_10_method_49_code 36 = .ok (.bipush 8, 2) := by decide +kernel
theorem dJ0_bitCount_38 : decode prog_10_method_49_code 38 = .ok (.iushr, 1) := by decide +kernel
theorem dJ0_bitCount_39 : decode prog_10_method_49_code 39 = .ok (.iadd, 1) := by decide +kernel
theorem dJ0_bitCount_40 : decode prog_10_method_49_code 40 = .ok (.istore_n 0, 1) := by decide +kernel
theorem dJ0_bitCount_41 : decode prog_10_method_49_code 41 = .ok (.iload_n 0, 1) := by decide +kernel
theorem dJ0_bitCount_42 : decode prog_10_method_49_code 42 = .ok (.iload_n 0, 1) := by decide +kernel
theorem dJ0_bitCount_43 : decode prog_10_method_49_code 43 = .ok (.bipush 16, 2) := by decide +kernel
theorem dJ0_bitCount_45 : decode prog_10_method_49_code 45 = .ok (.iushr, 1) := by decide +kernel
theorem dJ0_bitCount_46 : decode prog_10_method_49_code 46 = .ok (.iadd, 1) := by decide +kernel
theorem dJ0_bitCount_47 : decode prog_10_method_49_code 47 = .ok (.istore_n 0, 1) := by decide +kernel
theorem dJ0_bitCount_48 : decode prog_10_method_49_code 48 = .ok (.iload_n 0, 1) := by decide +kernel
theorem dJ0_bitCount_49 : decode prog_10_method_49_code 49 = .ok (.bipush 63, 2) := by decide +kernel
theorem dJ0_bitCount_51 : decode prog_10_method_49_code 51 = .ok (.iand, 1) := by decide +kernel
theorem dJ0_bitCount_52 : decode prog_10_method_49_code 52 = .ok (.ireturn, 1) := by decide +kernel
theorem dJ_fillI_0 : decode prog_13_method_103_code 0 = .ok (.iconst 0, 1) := by decide +kernel
theorem dJ_fillI_1 : decode prog_13_method_103_code 1 = .ok (.istore_n 2, 1) := by decide +kernel
theorem dJ_fillI_2 : decode prog_13_method_103_code 2 = .ok (.aload_n 0, 1) := by decide +kernel
theorem dJ_fillI_3 : decode prog_13_method_103_code 3 = .ok (.arraylength, 1) := by decide +kernel
theorem dJ_fillI_4 : decode prog_13_method_103_code 4 = .ok (.istore_n 3, 1) := by decide +kernel
theorem dJ_fillI_5 : decode prog_13_method_103_code 5 = .ok (.iload_n 2, 1) := by decide +kernel
theorem dJ_fillI_6 : decode prog_13_method_103_code 6 = .ok (.iload_n 3, 1) := by decide +kernel
theorem dJ_fillI_7 : decode prog_13_method_103_code 7 = .ok (.if_icmp .ge 13, 3) := by decide +kernel
theorem dJ_fillI_10 : decode prog_13_method_103_code 10 = .ok (.aload_n 0, 1) := by decide +kernel
theorem dJ_fillI_11 : decode prog_13_method_103_code 11 = .ok (.iload_n 2, 1) := by decide +kernel
theorem dJ_fillI_12 : decode prog_13_method_103_code 12 = .ok (.iload_n 1, 1) := by decide +kernel
theorem dJ_fillI_13 : decode prog_13_method_103_code 13 = .ok (.iastore, 1) := by decide +kernel
theorem dJ_fillI_14 : decode prog_13_method_103_code 14 = .ok (.iinc 2 1, 3) := by decide +kernel
theorem dJ_fillI_17 : decode prog_13_method_103_code 17 = .ok (.goto (-12), 3) := by decide +kernel
theorem dJ_fillI_20 : decode prog_13_method_103_code 20 = .ok (.return_, 1) := by decide +kernel
theorem dJ_fillL_0 : decode prog_13_method_101_code 0 = .ok (.iconst 0, 1) := by decide +kernel
theorem dJ_fillL_1 : decode prog_13_method_101_code 1 = .ok (.istore_n 3, 1) := by decide +kernel
theorem dJ_fillL_2 : decode prog_13_method_101_code 2 = .ok (.aload_n 0, 1) := by decide +kernel
theorem dJ_fillL_3 : decode prog_13_method_101_code 3 = .ok (.arraylength, 1) := by decide +kernel
theorem dJ_fillL_4 : decode prog_13_method_101_code 4 = .ok (.istore 4, 2) := by decide +kernel
theorem dJ_fillL_6 : decode prog_13_method_101_code 6 = .ok (.iload_n 3, 1) := by decide +kernel
theorem dJ_fillL_7 : decode prog_13_method_101_code 7 = .ok (.iload 4, 2) := by decide +kernel
theorem dJ_fillL_9 : decode prog_13_method_101_code 9 = .ok (.if_icmp .ge 13, 3) := by decide +kernel
theorem dJ_fillL_12 : decode prog_13_method_101_code 12 = .ok (.aload_n 0, 1) := by decide +kernel
theorem dJ_fillL_13 : decode prog_13_method_101_code 13 = .ok (.iload_n 3, 1) := by decide +kernel
theorem dJ_fillL_14 : decode prog_13_method_101_code 14 = .ok (.lload_n 1, 1) := by decide +kernel
theorem dJ_fillL_15 : decode prog_13_method_101_code 15 = .ok (.lastore, 1) := by decide +kernel
theorem dJ_fillL_16 : decode prog_13_method_101_code 16 = .ok (.iinc 3 1, 3) := by decide +kernel
theorem dJ_fillL_19 : decode prog_13_method_101_code 19 = .ok (.goto (-13), 3) := by decide +kernel
theorem dJ_fillL_22 : decode prog_13_method_101_code 22 = .ok (.return_, 1) := by decide +kernel
