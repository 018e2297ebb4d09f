theorem dX4_init_0 : decode cX4_init 0 = .ok (.aload_n 0, 1) := by decide +kernel
theorem dX4_init_1 : decode cX4_init 1 = .ok (.invokespecial 3, 3) := by decide +kernel
theorem dX4_init_4 : decode cX4_init 4 = .ok (.aload_n 0, 1) := by decide +kernel
theorem dX4_init_5 : decode cX4_init 5 = .ok (.bipush 60, 2) := by decide +kernel
theorem dX4_init_7 : decode cX4_init 7 = .ok (.newarray .int, 2) := by decide +kernel
theorem dX4_init_9 : decode cX4_init 9 = .ok (.putfield 11, 3) := by decide +kernel
theorem dX4_init_12 : decode cX4_init 12 = .ok (.aload_n 0, 1) := by decide +kernel
theorem dX4_init_13 : decode cX4_init 13 = .ok (.bipush 7, 2) := by decide +kernel
theorem dX4_init_15 : decode cX4_init 15 = .ok (.newarray .int, 2) := by decide +kernel
theorem dX4_init_17 : decode cX4_init 17 = .ok (.putfield 15, 3) := by decide +kernel
theorem dX4_init_20 : decode cX4_init 20 = .ok (.aload_n 0, 1) := by decide +kernel
theorem dX4_init_21 : decode cX4_init 21 = .ok (.bipush 7, 2) := by decide +kernel
theorem dX4_init_23 : decode cX4_init 23 = .ok (.newarray .int, 2) := by decide +kernel
theorem dX4_init_25 : decode cX4_init 25 = .ok (.putfield 18, 3) := by decide +kernel
theorem dX4_init_28 : decode cX4_init 28 = .ok (.aload_n 0, 1) := by decide +kernel
theorem dX4_init_29 : decode cX4_init 29 = .ok (.bipush 7, 2) := by decide +kernel
theorem dX4_init_31 : decode cX4_init 31 = .ok (.newarray .int, 2) := by decide +kernel
theorem dX4_init_33 : decode cX4_init 33 = .ok (.putfield 21, 3) := by decide +kernel
theorem dX4_init_36 : decode cX4_init 36 = .ok (.return_, 1) := by decide +kernel
theorem dX4_length_0 : decode cX4_length 0 = .ok (.aload_n 0, 1) := by decide +kernel
theorem dX4_length_1 : decode cX4_length 1 = .ok (.getfield 24, 3) := by decide +kernel
theorem dX4_length_4 : decode cX4_length 4 = .ok (.ireturn, 1) := by decide +kernel
theorem dX4_clear_0 : decode cX4_clear 0 = .ok (.aload_n 0, 1) := by decide +kernel
theorem dX4_clear_1 : decode cX4_clear 1 = .ok (.iconst 0, 1) := by decide +kernel
theorem dX4_clear_2 : decode cX4_clear 2 = .ok (.putfield 24, 3) := by decide +kernel
theorem dX4_clear_5 : decode cX4_clear 5 = .ok (.return_, 1) := by decide +kernel
theorem dX4_append_0 : decode cX4_append 0 = .ok (.aload_n 0, 1) := by decide +kernel
theorem dX4_append_1 : decode cX4_append 1 = .ok (.getfield 24, 3) := by decide +kernel
theorem dX4_append_4 : decode cX4_append 4 = .ok (.bipush 60, 2) := by decide +kernel
theorem dX4_append_6 : decode cX4_append 6 = .ok (.if_icmp .lt 5, 3) := by decide +kernel
theorem dX4_append_9 : decode cX4_append 9 = .ok (.iconst 0, 1) := by decide +kernel
theorem dX4_append_10 : decode cX4_append 10 = .ok (.ireturn, 1) := by decide +kernel
theorem dX4_append_11 : decode cX4_append 11 = .ok (.aload_n 0, 1) := by decide +kernel
theorem dX4_append_12 : decode cX4_append 12 = .ok (.getfield 11, 3) := by decide +kernel
theorem dX4_append_15 : decode cX4_append 15 = .ok (.aload_n 0, 1) := by decide +kernel
theorem dX4_append_16 : decode cX4_append 16 = .ok (.getfield 24, 3) := by decide +kernel
theorem dX4_append_19 : decode cX4_append 19 = .ok (.iload_n 1, 1) := by decide +kernel
theorem dX4_append_20 : decode cX4_append 20 = .ok (.iastore, 1) := by decide +kernel
theorem dX4_append_21 : decode cX4_append 21 = .ok (.aload_n 0, 1) := by decide +kernel
theorem dX4_append_22 : decode cX4_append 22 = .ok (.dup, 1) := by decide +kernel
theorem dX4_append_23 : decode cX4_append 23 = .ok (.getfield 24, 3) := by decide +kernel
theorem dX4_append_26 : decode cX4_append 26 = .ok (.iconst 1, 1) := by decide +kernel
theorem dX4_append_27 : decode cX4_append 27 = .ok (.iadd, 1) := by decide +kernel
theorem dX4_append_28 : decode cX4_append 28 = .ok (.putfield 24, 3) := by decide +kernel
theorem dX4_append_31 : decode cX4_append 31 = .ok (.iconst 1, 1) := by decide +kernel
theorem dX4_append_32 : decode cX4_append 32 = .ok (.ireturn, 1) := by decide +kernel
theorem dX4_parse_0 : decode cX4_parse 0 = .ok (.aload_n 0, 1) := by decide +kernel
theorem dX4_parse_1 : decode cX4_parse 1 = .ok (.iconst 0, 1) := by decide +kernel
theorem dX4_parse_2 : decode cX4_parse 2 = .ok (.putfield 28, 3) := by decide +kernel
theorem dX4_parse_5 : decode cX4_parse 5 = .ok (.aload_n 0, 1) := by decide +kernel
theorem dX4_parse_6 : decode cX4_parse 6 = .ok (.iconst 0, 1) := by decide +kernel
theorem dX4_parse_7 : decode cX4_parse 7 = .ok (.putfield 31, 3) := by decide +kernel
theorem dX4_parse_10 : decode cX4_parse 10 = .ok (.aload_n 0, 1) := by decide +kernel
theorem dX4_parse_11 : decode cX4_parse 11 = .ok (.iconst 0, 1) := by decide +kernel
theorem dX4_parse_12 : decode cX4_parse 12 = .ok (.putfield 34, 3) := by decide +kernel
theorem dX4_parse_15 : decode cX4_parse 15 = .ok (.iconst 0, 1) := by decide +kernel
theorem dX4_parse_16 : decode cX4_parse 16 = .ok (.istore_n 1, 1) := by decide +kernel
theorem dX4_parse_17 : decode cX4_parse 17 = .ok (.iload_n 1, 1) := by decide +kernel
theorem dX4_parse_18 : decode cX4_parse 18 = .ok (.aload_n 0, 1) := by decide +kernel
theorem dX4_parse_19 : decode cX4_parse 19 = .ok (.getfield 24, 3) := by decide +kernel
theorem dX4_parse_22 : decode cX4_parse 22 = .ok (.if_icmp .ge 30, 3) := by decide +kernel
theorem dX4_parse_25 : decode cX4_parse 25 = .ok (.iload_n 1, 1) := by decide +kernel
theorem dX4_parse_26 : decode cX4_parse 26 = .ok (.bipush 60, 2) := by decide +kernel
theorem dX4_parse_28 : decode cX4_parse 28 = .ok (.if_icmp .ge 24, 3) := by decide +kernel
theorem dX4_parse_31 : decode cX4_parse 31 = .ok (.aload_n 0, 1) := by decide +kernel
theorem dX4_parse_32 : decode cX4_parse 32 = .ok (.aload_n 0, 1) := by decide +kernel
theorem dX4_parse_33 : decode cX4_parse 33 = .ok (.getfield 11, 3) := by decide +kernel
theorem dX4_parse_36 : decode cX4_parse 36 = .ok (.iload_n 1, 1) := by decide +kernel
theorem dX4_parse_37 : decode cX4_parse 37 = .ok (.iaload, 1) := by decide +kernel
theorem dX4_parse_38 : decode cX4_parse 38 = .ok (.invokevirtual 37, 3) := by decide +kernel
theorem dX4_parse_41 : decode cX4_parse 41 = .ok (.ifCond .ne 5, 3) := by decide +kernel
theorem dX4_parse_44 : decode cX4_parse 44 = .ok (.iload_n 1, 1) := by decide +kernel
theorem dX4_parse_45 : decode cX4_parse 45 = .ok (.ireturn, 1) := by decide +kernel
theorem dX4_parse_46 : decode cX4_parse 46 = .ok (.iinc 1 1, 3) := by decide +kernel
theorem dX4_parse_49 : decode cX4_parse 49 = .ok (.goto (-32), 3) := by decide +kernel
theorem dX4_parse_52 : decode cX4_parse 52 = .ok (.aload_n 0, 1) := by decide +kernel
theorem dX4_parse_53 : decode cX4_parse 53 = .ok (.invokevirtual 41, 3) := by decide +kernel
theorem dX4_parse_56 : decode cX4_parse 56 = .ok (.ifCond .eq 7, 3) := by decide +kernel
theorem dX4_parse_59 : decode cX4_parse 59 = .ok (.iconst (-1), 1) := by decide +kernel
theorem dX4_parse_60 : decode cX4_parse 60 = .ok (.goto 7, 3) := by decide +kernel
theorem dX4_parse_63 : decode cX4_parse 63 = .ok (.aload_n 0, 1) := by decide +kernel
theorem dX4_parse_64 : decode cX4_parse 64 = .ok (.getfield 24, 3) := by decide +kernel
theorem dX4_parse_67 : decode cX4_parse 67 = .ok (.ireturn, 1) := by decide +kernel
theorem dX4_parsedNodes_0 : decode cX4_parsedNodes 0 = .ok (.aload_n 0, 1) := by decide +kernel
theorem dX4_parsedNodes_1 : decode cX4_parsedNodes 1 = .ok (.getfield 34, 3) := by decide +kernel
theorem dX4_parsedNodes_4 : decode cX4_parsedNodes 4 = .ok (.ireturn, 1) := by decide +kernel
theorem dX4_parsedCode_0 : decode cX4_parsedCode 0 = .ok (.iconst 0, 1) := by decide +kernel
theorem dX4_parsedCode_1 : decode cX4_parsedCode 1 = .ok (.istore_n 1, 1) := by decide +kernel
theorem dX4_parsedCode_2 : decode cX4_parsedCode 2 = .ok (.iconst 0, 1) := by decide +kernel
theorem dX4_parsedCode_3 : decode cX4_parsedCode 3 = .ok (.istore_n 2, 1) := by decide +kernel
theorem dX4_parsedCode_4 : decode cX4_parsedCode 4 = .ok (.iload_n 2, 1) := by decide +kernel
theorem dX4_parsedCode_5 : decode cX4_parsedCode 5 = .ok (.aload_n 0, 1) := by decide +kernel
theorem dX4_parsedCode_6 : decode cX4_parsedCode 6 = .ok (.getfield 34, 3) := by decide +kernel
theorem dX4_parsedCode_9 : decode cX4_parsedCode 9 = .ok (.if_icmp .ge 32, 3) := by decide +kernel
theorem dX4_parsedCode_12 : decode cX4_parsedCode 12 = .ok (.iload_n 2, 1) := by decide +kernel
theorem dX4_parsedCode_13 : decode cX4_parsedCode 13 = .ok (.bipush 7, 2) := by decide +kernel
theorem dX4_parsedCode_15 : decode cX4_parsedCode 15 = .ok (.if_icmp .ge 26, 3) := by decide +kernel
theorem dX4_parsedCode_18 : decode cX4_parsedCode 18 = .ok (.iload_n 1, 1) := by decide +kernel
theorem dX4_parsedCode_19 : decode cX4_parsedCode 19 = .ok (.aload_n 0, 1) := by decide +kernel
theorem dX4_parsedCode_20 : decode cX4_parsedCode 20 = .ok (.getfield 21, 3) := by decide +kernel
theorem dX4_parsedCode_23 : decode cX4_parsedCode 23 = .ok (.iload_n 2, 1) := by decide +kernel
theorem dX4_parsedCode_24 : decode cX4_parsedCode 24 = .ok (.iaload, 1) := by decide +kernel
theorem dX4_parsedCode_25 : decode cX4_parsedCode 25 = .ok (.aload_n 0, 1) := by decide +kernel
theorem dX4_parsedCode_26 : decode cX4_parsedCode 26 = .ok (.getfield 34, 3) := by decide +kernel
theorem dX4_parsedCode_29 : decode cX4_parsedCode 29 = .ok (.iload_n 2, 1) := by decide +kernel
theorem dX4_parsedCode_30 : decode cX4_parsedCode 30 = .ok (.invokestatic 45, 3) := by decide +kernel
theorem dX4_parsedCode_33 : decode cX4_parsedCode 33 = .ok (.ior, 1) := by decide +kernel
theorem dX4_parsedCode_34 : decode cX4_parsedCode 34 = .ok (.istore_n 1, 1) := by decide +kernel
theorem dX4_parsedCode_35 : decode cX4_parsedCode 35 = .ok (.iinc 2 1, 3) := by decide +kernel
theorem dX4_parsedCode_38 : decode cX4_parsedCode 38 = .ok (.goto (-34), 3) := by decide +kernel
theorem dX4_parsedCode_41 : decode cX4_parsedCode 41 = .ok (.iload_n 1, 1) := by decide +kernel
theorem dX4_parsedCode_42 : decode cX4_parsedCode 42 = .ok (.ireturn, 1) := by decide +kernel
theorem dX4_isWhole_0 : decode cX4_isWhole 0 = .ok (.aload_n 0, 1) := by decide +kernel
theorem dX4_isWhole_1 : decode cX4_isWhole 1 = .ok (.getfield 31, 3) := by decide +kernel
theorem dX4_isWhole_4 : decode cX4_isWhole 4 = .ok (.ifCond .le 14, 3) := by decide +kernel
theorem dX4_isWhole_7 : decode cX4_isWhole 7 = .ok (.aload_n 0, 1) := by decide +kernel
theorem dX4_isWhole_8 : decode cX4_isWhole 8 = .ok (.getfield 28, 3) := by decide +kernel
theorem dX4_isWhole_11 : decode cX4_isWhole 11 = .ok (.ifCond .ne 7, 3) := by decide +kernel
theorem dX4_isWhole_14 : decode cX4_isWhole 14 = .ok (.iconst 1, 1) := by decide +kernel
theorem dX4_isWhole_15 : decode cX4_isWhole 15 = .ok (.goto 4, 3) := by decide +kernel
theorem dX4_isWhole_18 : decode cX4_isWhole 18 = .ok (.iconst 0, 1) := by decide +kernel
theorem dX4_isWhole_19 : decode cX4_isWhole 19 = .ok (.ireturn, 1) := by decide +kernel
theorem dX4_accepts_0 : decode cX4_accepts 0 = .ok (.iload_n 1, 1) := by decide +kernel
theorem dX4_accepts_1 : decode cX4_accepts 1 = .ok (.lookupswitch 50 #[(40, 35), (41, 45), (46, 40)], 35) := by decide +kernel
theorem dX4_accepts_36 : decode cX4_accepts 36 = .ok (.aload_n 0, 1) := by decide +kernel
theorem dX4_accepts_37 : decode cX4_accepts 37 = .ok (.invokevirtual 51, 3) := by decide +kernel
theorem dX4_accepts_40 : decode cX4_accepts 40 = .ok (.ireturn, 1) := by decide +kernel
theorem dX4_accepts_41 : decode cX4_accepts 41 = .ok (.aload_n 0, 1) := by decide +kernel
theorem dX4_accepts_42 : decode cX4_accepts 42 = .ok (.invokevirtual 54, 3) := by decide +kernel
theorem dX4_accepts_45 : decode cX4_accepts 45 = .ok (.ireturn, 1) := by decide +kernel
theorem dX4_accepts_46 : decode cX4_accepts 46 = .ok (.aload_n 0, 1) := by decide +kernel
theorem dX4_accepts_47 : decode cX4_accepts 47 = .ok (.invokevirtual 57, 3) := by decide +kernel
theorem dX4_accepts_50 : decode cX4_accepts 50 = .ok (.ireturn, 1) := by decide +kernel
theorem dX4_accepts_51 : decode cX4_accepts 51 = .ok (.iconst 0, 1) := by decide +kernel
theorem dX4_accepts_52 : decode cX4_accepts 52 = .ok (.ireturn, 1) := by decide +kernel
theorem dX4_awaitedNow_0 : decode cX4_awaitedNow 0 = .ok (.aload_n 0, 1) := by decide +kernel
theorem dX4_awaitedNow_1 : decode cX4_awaitedNow 1 = .ok (.getfield 28, 3) := by decide +kernel
theorem dX4_awaitedNow_4 : decode cX4_awaitedNow 4 = .ok (.ifCond .le 26, 3) := by decide +kernel
theorem dX4_awaitedNow_7 : decode cX4_awaitedNow 7 = .ok (.aload_n 0, 1) := by decide +kernel
theorem dX4_awaitedNow_8 : decode cX4_awaitedNow 8 = .ok (.getfield 28, 3) := by decide +kernel
theorem dX4_awaitedNow_11 : decode cX4_awaitedNow 11 = .ok (.bipush 7, 2) := by decide +kernel
theorem dX4_awaitedNow_13 : decode cX4_awaitedNow 13 = .ok (.if_icmp .gt 17, 3) := by decide +kernel
theorem dX4_awaitedNow_16 : decode cX4_awaitedNow 16 = .ok (.aload_n 0, 1) := by decide +kernel
theorem dX4_awaitedNow_17 : decode cX4_awaitedNow 17 = .ok (.getfield 15, 3) := by decide +kernel
theorem dX4_awaitedNow_20 : decode cX4_awaitedNow 20 = .ok (.aload_n 0, 1) := by decide +kernel
theorem dX4_awaitedNow_21 : decode cX4_awaitedNow 21 = .ok (.getfield 28, 3) := by decide +kernel
theorem dX4_awaitedNow_24 : decode cX4_awaitedNow 24 = .ok (.iconst 1, 1) := by decide +kernel
theorem dX4_awaitedNow_25 : decode cX4_awaitedNow 25 = .ok (.isub, 1) := by decide +kernel
theorem dX4_awaitedNow_26 : decode cX4_awaitedNow 26 = .ok (.iaload, 1) := by decide +kernel
theorem dX4_awaitedNow_27 : decode cX4_awaitedNow 27 = .ok (.goto 4, 3) := by decide +kernel
theorem dX4_awaitedNow_30 : decode cX4_awaitedNow 30 = .ok (.iconst 2, 1) := by decide +kernel
theorem dX4_awaitedNow_31 : decode cX4_awaitedNow 31 = .ok (.ireturn, 1) := by decide +kernel
theorem dX4_opensNode_0 : decode cX4_opensNode 0 = .ok (.aload_n 0, 1) := by decide +kernel
theorem dX4_opensNode_1 : decode cX4_opensNode 1 = .ok (.getfield 31, 3) := by decide +kernel
theorem dX4_opensNode_4 : decode cX4_opensNode 4 = .ok (.ifCond .ne 7, 3) := by decide +kernel
theorem dX4_opensNode_7 : decode cX4_opensNode 7 = .ok (.iconst 1, 1) := by decide +kernel
theorem dX4_opensNode_8 : decode cX4_opensNode 8 = .ok (.goto 4, 3) := by decide +kernel
theorem dX4_opensNode_11 : decode cX4_opensNode 11 = .ok (.iconst 0, 1) := by decide +kernel
theorem dX4_opensNode_12 : decode cX4_opensNode 12 = .ok (.istore_n 1, 1) := by decide +kernel
theorem dX4_opensNode_13 : decode cX4_opensNode 13 = .ok (.aload_n 0, 1) := by decide +kernel
theorem dX4_opensNode_14 : decode cX4_opensNode 14 = .ok (.getfield 31, 3) := by decide +kernel
theorem dX4_opensNode_17 : decode cX4_opensNode 17 = .ok (.bipush 7, 2) := by decide +kernel
theorem dX4_opensNode_19 : decode cX4_opensNode 19 = .ok (.if_icmp .ge 24, 3) := by decide +kernel
theorem dX4_opensNode_22 : decode cX4_opensNode 22 = .ok (.aload_n 0, 1) := by decide +kernel
theorem dX4_opensNode_23 : decode cX4_opensNode 23 = .ok (.getfield 28, 3) := by decide +kernel
theorem dX4_opensNode_26 : decode cX4_opensNode 26 = .ok (.bipush 7, 2) := by decide +kernel
theorem dX4_opensNode_28 : decode cX4_opensNode 28 = .ok (.if_icmp .ge 15, 3) := by decide +kernel
theorem dX4_opensNode_31 : decode cX4_opensNode 31 = .ok (.iload_n 1, 1) := by decide +kernel
theorem dX4_opensNode_32 : decode cX4_opensNode 32 = .ok (.ifCond .ne 13, 3) := by decide +kernel
theorem dX4_opensNode_35 : decode cX4_opensNode 35 = .ok (.aload_n 0, 1) := by decide +kernel
theorem dX4_opensNode_36 : decode cX4_opensNode 36 = .ok (.invokevirtual 60, 3) := by decide +kernel
theorem dX4_opensNode_39 : decode cX4_opensNode 39 = .ok (.iconst 2, 1) := by decide +kernel
theorem dX4_opensNode_40 : decode cX4_opensNode 40 = .ok (.if_icmp .ne 5, 3) := by decide +kernel
theorem dX4_opensNode_43 : decode cX4_opensNode 43 = .ok (.iconst 0, 1) := by decide +kernel
theorem dX4_opensNode_44 : decode cX4_opensNode 44 = .ok (.ireturn, 1) := by decide +kernel
theorem dX4_opensNode_45 : decode cX4_opensNode 45 = .ok (.aload_n 0, 1) := by decide +kernel
theorem dX4_opensNode_46 : decode cX4_opensNode 46 = .ok (.getfield 15, 3) := by decide +kernel
theorem dX4_opensNode_49 : decode cX4_opensNode 49 = .ok (.aload_n 0, 1) := by decide +kernel
theorem dX4_opensNode_50 : decode cX4_opensNode 50 = .ok (.getfield 28, 3) := by decide +kernel
theorem dX4_opensNode_53 : decode cX4_opensNode 53 = .ok (.iconst 0, 1) := by decide +kernel
theorem dX4_opensNode_54 : decode cX4_opensNode 54 = .ok (.iastore, 1) := by decide +kernel
theorem dX4_opensNode_55 : decode cX4_opensNode 55 = .ok (.aload_n 0, 1) := by decide +kernel
theorem dX4_opensNode_56 : decode cX4_opensNode 56 = .ok (.dup, 1) := by decide +kernel
theorem dX4_opensNode_57 : decode cX4_opensNode 57 = .ok (.getfield 28, 3) := by decide +kernel
theorem dX4_opensNode_60 : decode cX4_opensNode 60 = .ok (.iconst 1, 1) := by decide +kernel
theorem dX4_opensNode_61 : decode cX4_opensNode 61 = .ok (.iadd, 1) := by decide +kernel
theorem dX4_opensNode_62 : decode cX4_opensNode 62 = .ok (.putfield 28, 3) := by decide +kernel
theorem dX4_opensNode_65 : decode cX4_opensNode 65 = .ok (.aload_n 0, 1) := by decide +kernel
theorem dX4_opensNode_66 : decode cX4_opensNode 66 = .ok (.dup, 1) := by decide +kernel
theorem dX4_opensNode_67 : decode cX4_opensNode 67 = .ok (.getfield 31, 3) := by decide +kernel
theorem dX4_opensNode_70 : decode cX4_opensNode 70 = .ok (.iconst 1, 1) := by decide +kernel
theorem dX4_opensNode_71 : decode cX4_opensNode 71 = .ok (.iadd, 1) := by decide +kernel
theorem dX4_opensNode_72 : decode cX4_opensNode 72 = .ok (.putfield 31, 3) := by decide +kernel
theorem dX4_opensNode_75 : decode cX4_opensNode 75 = .ok (.iconst 1, 1) := by decide +kernel
theorem dX4_opensNode_76 : decode cX4_opensNode 76 = .ok (.ireturn, 1) := by decide +kernel
theorem dX4_staysNothing_0 : decode cX4_staysNothing 0 = .ok (.aload_n 0, 1) := by decide +kernel
theorem dX4_staysNothing_1 : decode cX4_staysNothing 1 = .ok (.invokevirtual 60, 3) := by decide +kernel
theorem dX4_staysNothing_4 : decode cX4_staysNothing 4 = .ok (.iconst 2, 1) := by decide +kernel
theorem dX4_staysNothing_5 : decode cX4_staysNothing 5 = .ok (.if_icmp .ne 5, 3) := by decide +kernel
theorem dX4_staysNothing_8 : decode cX4_staysNothing 8 = .ok (.iconst 0, 1) := by decide +kernel
theorem dX4_staysNothing_9 : decode cX4_staysNothing 9 = .ok (.ireturn, 1) := by decide +kernel
theorem dX4_staysNothing_10 : decode cX4_staysNothing 10 = .ok (.aload_n 0, 1) := by decide +kernel
theorem dX4_staysNothing_11 : decode cX4_staysNothing 11 = .ok (.invokevirtual 64, 3) := by decide +kernel
theorem dX4_staysNothing_14 : decode cX4_staysNothing 14 = .ok (.iconst 1, 1) := by decide +kernel
theorem dX4_staysNothing_15 : decode cX4_staysNothing 15 = .ok (.ireturn, 1) := by decide +kernel
theorem dX4_closesNode_0 : decode cX4_closesNode 0 = .ok (.aload_n 0, 1) := by decide +kernel
theorem dX4_closesNode_1 : decode cX4_closesNode 1 = .ok (.getfield 28, 3) := by decide +kernel
theorem dX4_closesNode_4 : decode cX4_closesNode 4 = .ok (.ifCond .le 27, 3) := by decide +kernel
theorem dX4_closesNode_7 : decode cX4_closesNode 7 = .ok (.aload_n 0, 1) := by decide +kernel
theorem dX4_closesNode_8 : decode cX4_closesNode 8 = .ok (.getfield 28, 3) := by decide +kernel
theorem dX4_closesNode_11 : decode cX4_closesNode 11 = .ok (.bipush 7, 2) := by decide +kernel
theorem dX4_closesNode_13 : decode cX4_closesNode 13 = .ok (.if_icmp .gt 18, 3) := by decide +kernel
theorem dX4_closesNode_16 : decode cX4_closesNode 16 = .ok (.aload_n 0, 1) := by decide +kernel
theorem dX4_closesNode_17 : decode cX4_closesNode 17 = .ok (.getfield 15, 3) := by decide +kernel
theorem dX4_closesNode_20 : decode cX4_closesNode 20 = .ok (.aload_n 0, 1) := by decide +kernel
theorem dX4_closesNode_21 : decode cX4_closesNode 21 = .ok (.getfield 28, 3) := by decide +kernel
theorem dX4_closesNode_24 : decode cX4_closesNode 24 = .ok (.iconst 1, 1) := by decide +kernel
theorem dX4_closesNode_25 : decode cX4_closesNode 25 = .ok (.isub, 1) := by decide +kernel
theorem dX4_closesNode_26 : decode cX4_closesNode 26 = .ok (.iaload, 1) := by decide +kernel
theorem dX4_closesNode_27 : decode cX4_closesNode 27 = .ok (.iconst 2, 1) := by decide +kernel
theorem dX4_closesNode_28 : decode cX4_closesNode 28 = .ok (.if_icmp .eq 5, 3) := by decide +kernel
theorem dX4_closesNode_31 : decode cX4_closesNode 31 = .ok (.iconst 0, 1) := by decide +kernel
theorem dX4_closesNode_32 : decode cX4_closesNode 32 = .ok (.ireturn, 1) := by decide +kernel
theorem dX4_closesNode_33 : decode cX4_closesNode 33 = .ok (.aload_n 0, 1) := by decide +kernel
theorem dX4_closesNode_34 : decode cX4_closesNode 34 = .ok (.dup, 1) := by decide +kernel
theorem dX4_closesNode_35 : decode cX4_closesNode 35 = .ok (.getfield 28, 3) := by decide +kernel
theorem dX4_closesNode_38 : decode cX4_closesNode 38 = .ok (.iconst 1, 1) := by decide +kernel
theorem dX4_closesNode_39 : decode cX4_closesNode 39 = .ok (.isub, 1) := by decide +kernel
theorem dX4_closesNode_40 : decode cX4_closesNode 40 = .ok (.putfield 28, 3) := by decide +kernel
theorem dX4_closesNode_43 : decode cX4_closesNode 43 = .ok (.aload_n 0, 1) := by decide +kernel
theorem dX4_closesNode_44 : decode cX4_closesNode 44 = .ok (.getfield 18, 3) := by decide +kernel
theorem dX4_closesNode_47 : decode cX4_closesNode 47 = .ok (.aload_n 0, 1) := by decide +kernel
theorem dX4_closesNode_48 : decode cX4_closesNode 48 = .ok (.getfield 28, 3) := by decide +kernel
theorem dX4_closesNode_51 : decode cX4_closesNode 51 = .ok (.iaload, 1) := by decide +kernel
theorem dX4_closesNode_52 : decode cX4_closesNode 52 = .ok (.istore_n 1, 1) := by decide +kernel
theorem dX4_closesNode_53 : decode cX4_closesNode 53 = .ok (.iload_n 1, 1) := by decide +kernel
theorem dX4_closesNode_54 : decode cX4_closesNode 54 = .ok (.ifCond .lt 23, 3) := by decide +kernel
theorem dX4_closesNode_57 : decode cX4_closesNode 57 = .ok (.iload_n 1, 1) := by decide +kernel
theorem dX4_closesNode_58 : decode cX4_closesNode 58 = .ok (.bipush 7, 2) := by decide +kernel
theorem dX4_closesNode_60 : decode cX4_closesNode 60 = .ok (.if_icmp .ge 17, 3) := by decide +kernel
theorem dX4_closesNode_63 : decode cX4_closesNode 63 = .ok (.aload_n 0, 1) := by decide +kernel
theorem dX4_closesNode_64 : decode cX4_closesNode 64 = .ok (.getfield 21, 3) := by decide +kernel
theorem dX4_closesNode_67 : decode cX4_closesNode 67 = .ok (.iload_n 1, 1) := by decide +kernel
theorem dX4_closesNode_68 : decode cX4_closesNode 68 = .ok (.aload_n 0, 1) := by decide +kernel
theorem dX4_closesNode_69 : decode cX4_closesNode 69 = .ok (.getfield 34, 3) := by decide +kernel
theorem dX4_closesNode_72 : decode cX4_closesNode 72 = .ok (.iload_n 1, 1) := by decide +kernel
theorem dX4_closesNode_73 : decode cX4_closesNode 73 = .ok (.isub, 1) := by decide +kernel
theorem dX4_closesNode_74 : decode cX4_closesNode 74 = .ok (.iconst 1, 1) := by decide +kernel
theorem dX4_closesNode_75 : decode cX4_closesNode 75 = .ok (.isub, 1) := by decide +kernel
theorem dX4_closesNode_76 : decode cX4_closesNode 76 = .ok (.iastore, 1) := by decide +kernel
theorem dX4_closesNode_77 : decode cX4_closesNode 77 = .ok (.aload_n 0, 1) := by decide +kernel
theorem dX4_closesNode_78 : decode cX4_closesNode 78 = .ok (.invokevirtual 64, 3) := by decide +kernel
theorem dX4_closesNode_81 : decode cX4_closesNode 81 = .ok (.iconst 1, 1) := by decide +kernel
theorem dX4_closesNode_82 : decode cX4_closesNode 82 = .ok (.ireturn, 1) := by decide +kernel
theorem dX4_endSubtree_0 : decode cX4_endSubtree 0 = .ok (.aload_n 0, 1) := by decide +kernel
theorem dX4_endSubtree_1 : decode cX4_endSubtree 1 = .ok (.getfield 28, 3) := by decide +kernel
theorem dX4_endSubtree_4 : decode cX4_endSubtree 4 = .ok (.ifCond .le 12, 3) := by decide +kernel
theorem dX4_endSubtree_7 : decode cX4_endSubtree 7 = .ok (.aload_n 0, 1) := by decide +kernel
theorem dX4_endSubtree_8 : decode cX4_endSubtree 8 = .ok (.getfield 28, 3) := by decide +kernel
theorem dX4_endSubtree_11 : decode cX4_endSubtree 11 = .ok (.bipush 7, 2) := by decide +kernel
theorem dX4_endSubtree_13 : decode cX4_endSubtree 13 = .ok (.if_icmp .le 4, 3) := by decide +kernel
theorem dX4_endSubtree_16 : decode cX4_endSubtree 16 = .ok (.return_, 1) := by decide +kernel
theorem dX4_endSubtree_17 : decode cX4_endSubtree 17 = .ok (.aload_n 0, 1) := by decide +kernel
theorem dX4_endSubtree_18 : decode cX4_endSubtree 18 = .ok (.getfield 28, 3) := by decide +kernel
theorem dX4_endSubtree_21 : decode cX4_endSubtree 21 = .ok (.iconst 1, 1) := by decide +kernel
theorem dX4_endSubtree_22 : decode cX4_endSubtree 22 = .ok (.isub, 1) := by decide +kernel
theorem dX4_endSubtree_23 : decode cX4_endSubtree 23 = .ok (.istore_n 1, 1) := by decide +kernel
theorem dX4_endSubtree_24 : decode cX4_endSubtree 24 = .ok (.aload_n 0, 1) := by decide +kernel
theorem dX4_endSubtree_25 : decode cX4_endSubtree 25 = .ok (.getfield 15, 3) := by decide +kernel
theorem dX4_endSubtree_28 : decode cX4_endSubtree 28 = .ok (.iload_n 1, 1) := by decide +kernel
theorem dX4_endSubtree_29 : decode cX4_endSubtree 29 = .ok (.iaload, 1) := by decide +kernel
theorem dX4_endSubtree_30 : decode cX4_endSubtree 30 = .ok (.ifCond .ne 33, 3) := by decide +kernel
theorem dX4_endSubtree_33 : decode cX4_endSubtree 33 = .ok (.aload_n 0, 1) := by decide +kernel
theorem dX4_endSubtree_34 : decode cX4_endSubtree 34 = .ok (.getfield 15, 3) := by decide +kernel
theorem dX4_endSubtree_37 : decode cX4_endSubtree 37 = .ok (.iload_n 1, 1) := by decide +kernel
theorem dX4_endSubtree_38 : decode cX4_endSubtree 38 = .ok (.iconst 1, 1) := by decide +kernel
theorem dX4_endSubtree_39 : decode cX4_endSubtree 39 = .ok (.iastore, 1) := by decide +kernel
theorem dX4_endSubtree_40 : decode cX4_endSubtree 40 = .ok (.aload_n 0, 1) := by decide +kernel
theorem dX4_endSubtree_41 : decode cX4_endSubtree 41 = .ok (.getfield 18, 3) := by decide +kernel
theorem dX4_endSubtree_44 : decode cX4_endSubtree 44 = .ok (.iload_n 1, 1) := by decide +kernel
theorem dX4_endSubtree_45 : decode cX4_endSubtree 45 = .ok (.aload_n 0, 1) := by decide +kernel
theorem dX4_endSubtree_46 : decode cX4_endSubtree 46 = .ok (.getfield 34, 3) := by decide +kernel
theorem dX4_endSubtree_49 : decode cX4_endSubtree 49 = .ok (.iastore, 1) := by decide +kernel
theorem dX4_endSubtree_50 : decode cX4_endSubtree 50 = .ok (.aload_n 0, 1) := by decide +kernel
theorem dX4_endSubtree_51 : decode cX4_endSubtree 51 = .ok (.dup, 1) := by decide +kernel
theorem dX4_endSubtree_52 : decode cX4_endSubtree 52 = .ok (.getfield 34, 3) := by decide +kernel
theorem dX4_endSubtree_55 : decode cX4_endSubtree 55 = .ok (.iconst 1, 1) := by decide +kernel
theorem dX4_endSubtree_56 : decode cX4_endSubtree 56 = .ok (.iadd, 1) := by decide +kernel
theorem dX4_endSubtree_57 : decode cX4_endSubtree 57 = .ok (.putfield 34, 3) := by decide +kernel
theorem dX4_endSubtree_60 : decode cX4_endSubtree 60 = .ok (.goto 10, 3) := by decide +kernel
theorem dX4_endSubtree_63 : decode cX4_endSubtree 63 = .ok (.aload_n 0, 1) := by decide +kernel
theorem dX4_endSubtree_64 : decode cX4_endSubtree 64 = .ok (.getfield 15, 3) := by decide +kernel
theorem dX4_endSubtree_67 : decode cX4_endSubtree 67 = .ok (.iload_n 1, 1) := by decide +kernel
theorem dX4_endSubtree_68 : decode cX4_endSubtree 68 = .ok (.iconst 2, 1) := by decide +kernel
theorem dX4_endSubtree_69 : decode cX4_endSubtree 69 = .ok (.iastore, 1) := by decide +kernel
theorem dX4_endSubtree_70 : decode cX4_endSubtree 70 = .ok (.return_, 1) := by decide +kernel
theorem dX5_init_0 : decode cX5_init 0 = .ok (.aload_n 0, 1) := by decide +kernel
theorem dX5_init_1 : decode cX5_init 1 = .ok (.invokespecial 3, 3) := by decide +kernel
theorem dX5_init_4 : decode cX5_init 4 = .ok (.aload_n 0, 1) := by decide +kernel
theorem dX5_init_5 : decode cX5_init 5 = .ok (.aload_n 1, 1) := by decide +kernel
theorem dX5_init_6 : decode cX5_init 6 = .ok (.putfield 9, 3) := by decide +kernel
theorem dX5_init_9 : decode cX5_init 9 = .ok (.aload_n 0, 1) := by decide +kernel
theorem dX5_init_10 : decode cX5_init 10 = .ok (.sipush 4382, 3) := by decide +kernel
theorem dX5_init_13 : decode cX5_init 13 = .ok (.newarray .int, 2) := by decide +kernel
theorem dX5_init_15 : decode cX5_init 15 = .ok (.putfield 17, 3) := by decide +kernel
theorem dX5_init_18 : decode cX5_init 18 = .ok (.aload_n 0, 1) := by decide +kernel
theorem dX5_init_19 : decode cX5_init 19 = .ok (.sipush 4382, 3) := by decide +kernel
theorem dX5_init_22 : decode cX5_init 22 = .ok (.newarray .int, 2) := by decide +kernel
theorem dX5_init_24 : decode cX5_init 24 = .ok (.putfield 21, 3) := by decide +kernel
theorem dX5_init_27 : decode cX5_init 27 = .ok (.aload_n 0, 1) := by decide +kernel
theorem dX5_init_28 : decode cX5_init 28 = .ok (.bipush 8, 2) := by decide +kernel
theorem dX5_init_30 : decode cX5_init 30 = .ok (.newarray .boolean, 2) := by decide +kernel
theorem dX5_init_32 : decode cX5_init 32 = .ok (.putfield 24, 3) := by decide +kernel
theorem dX5_init_35 : decode cX5_init 35 = .ok (.aload_n 0, 1) := by decide +kernel
theorem dX5_init_36 : decode cX5_init 36 = .ok (.sipush 626, 3) := by decide +kernel
theorem dX5_init_39 : decode cX5_init 39 = .ok (.newarray .int, 2) := by decide +kernel
theorem dX5_init_41 : decode cX5_init 41 = .ok (.putfield 28, 3) := by decide +kernel
theorem dX5_init_44 : decode cX5_init 44 = .ok (.aload_n 0, 1) := by decide +kernel
theorem dX5_init_45 : decode cX5_init 45 = .ok (.sipush 429, 3) := by decide +kernel
theorem dX5_init_48 : decode cX5_init 48 = .ok (.newarray .int, 2) := by decide +kernel
theorem dX5_init_50 : decode cX5_init 50 = .ok (.putfield 31, 3) := by decide +kernel
theorem dX5_init_53 : decode cX5_init 53 = .ok (.aload_n 0, 1) := by decide +kernel
theorem dX5_init_54 : decode cX5_init 54 = .ok (.sipush 626, 3) := by decide +kernel
theorem dX5_init_57 : decode cX5_init 57 = .ok (.newarray .int, 2) := by decide +kernel
theorem dX5_init_59 : decode cX5_init 59 = .ok (.putfield 34, 3) := by decide +kernel
theorem dX5_init_62 : decode cX5_init 62 = .ok (.aload_n 0, 1) := by decide +kernel
theorem dX5_init_63 : decode cX5_init 63 = .ok (.iconst 0, 1) := by decide +kernel
theorem dX5_init_64 : decode cX5_init 64 = .ok (.putfield 37, 3) := by decide +kernel
theorem dX5_init_67 : decode cX5_init 67 = .ok (.return_, 1) := by decide +kernel
theorem dX5_isTree_0 : decode cX5_isTree 0 = .ok (.iload_n 0, 1) := by decide +kernel
theorem dX5_isTree_1 : decode cX5_isTree 1 = .ok (.ifCond .le 14, 3) := by decide +kernel
theorem dX5_isTree_4 : decode cX5_isTree 4 = .ok (.iload_n 0, 1) := by decide +kernel
theorem dX5_isTree_5 : decode cX5_isTree 5 = .ok (.sipush 626, 3) := by decide +kernel
theorem dX5_isTree_8 : decode cX5_isTree 8 = .ok (.if_icmp .ge 7, 3) := by decide +kernel
theorem dX5_isTree_11 : decode cX5_isTree 11 = .ok (.iconst 1, 1) := by decide +kernel
theorem dX5_isTree_12 : decode cX5_isTree 12 = .ok (.goto 4, 3) := by decide +kernel
theorem dX5_isTree_15 : decode cX5_isTree 15 = .ok (.iconst 0, 1) := by decide +kernel
theorem dX5_isTree_16 : decode cX5_isTree 16 = .ok (.ireturn, 1) := by decide +kernel
theorem dX5_turnPlace_0 : decode cX5_turnPlace 0 = .ok (.iload_n 0, 1) := by decide +kernel
theorem dX5_turnPlace_1 : decode cX5_turnPlace 1 = .ok (.bipush 7, 2) := by decide +kernel
theorem dX5_turnPlace_3 : decode cX5_turnPlace 3 = .ok (.imul, 1) := by decide +kernel
theorem dX5_turnPlace_4 : decode cX5_turnPlace 4 = .ok (.iload_n 1, 1) := by decide +kernel
theorem dX5_turnPlace_5 : decode cX5_turnPlace 5 = .ok (.iadd, 1) := by decide +kernel
theorem dX5_turnPlace_6 : decode cX5_turnPlace 6 = .ok (.ireturn, 1) := by decide +kernel
theorem dX5_learn_0 : decode cX5_learn 0 = .ok (.iload_n 1, 1) := by decide +kernel
theorem dX5_learn_1 : decode cX5_learn 1 = .ok (.invokestatic 41, 3) := by decide +kernel
theorem dX5_learn_4 : decode cX5_learn 4 = .ok (.ifCond .eq 12, 3) := by decide +kernel
theorem dX5_learn_7 : decode cX5_learn 7 = .ok (.aload_n 0, 1) := by decide +kernel
theorem dX5_learn_8 : decode cX5_learn 8 = .ok (.getfield 24, 3) := by decide +kernel
theorem dX5_learn_11 : decode cX5_learn 11 = .ok (.iload_n 1, 1) := by decide +kernel
theorem dX5_learn_12 : decode cX5_learn 12 = .ok (.baload, 1) := by decide +kernel
theorem dX5_learn_13 : decode cX5_learn 13 = .ok (.ifCond .eq 4, 3) := by decide +kernel
theorem dX5_learn_16 : decode cX5_learn 16 = .ok (.return_, 1) := by decide +kernel
theorem dX5_learn_17 : decode cX5_learn 17 = .ok (.aload_n 0, 1) := by decide +kernel
theorem dX5_learn_18 : decode cX5_learn 18 = .ok (.getfield 9, 3) := by decide +kernel
theorem dX5_learn_21 : decode cX5_learn 21 = .ok (.iload_n 1, 1) := by decide +kernel
theorem dX5_learn_22 : decode cX5_learn 22 = .ok (.invokevirtual 45, 3) := by decide +kernel
theorem dX5_learn_25 : decode cX5_learn 25 = .ok (.istore_n 2, 1) := by decide +kernel
theorem dX5_learn_26 : decode cX5_learn 26 = .ok (.iload_n 2, 1) := by decide +kernel
theorem dX5_learn_27 : decode cX5_learn 27 = .ok (.aload_n 0, 1) := by decide +kernel
theorem dX5_learn_28 : decode cX5_learn 28 = .ok (.getfield 9, 3) := by decide +kernel
theorem dX5_learn_31 : decode cX5_learn 31 = .ok (.iload_n 1, 1) := by decide +kernel
theorem dX5_learn_32 : decode cX5_learn 32 = .ok (.invokevirtual 49, 3) := by decide +kernel
theorem dX5_learn_35 : decode cX5_learn 35 = .ok (.if_icmp .gt 65, 3) := by decide +kernel
theorem dX5_learn_38 : decode cX5_learn 38 = .ok (.iconst 0, 1) := by decide +kernel
theorem dX5_learn_39 : decode cX5_learn 39 = .ok (.istore_n 3, 1) := by decide +kernel
theorem dX5_learn_40 : decode cX5_learn 40 = .ok (.iload_n 3, 1) := by decide +kernel
theorem dX5_learn_41 : decode cX5_learn 41 = .ok (.iload_n 1, 1) := by decide +kernel
theorem dX5_learn_42 : decode cX5_learn 42 = .ok (.if_icmp .ge 52, 3) := by decide +kernel
theorem dX5_learn_45 : decode cX5_learn 45 = .ok (.aload_n 0, 1) := by decide +kernel
theorem dX5_learn_46 : decode cX5_learn 46 = .ok (.getfield 9, 3) := by decide +kernel
theorem dX5_learn_49 : decode cX5_learn 49 = .ok (.iload_n 2, 1) := by decide +kernel
theorem dX5_learn_50 : decode cX5_learn 50 = .ok (.iload_n 3, 1) := by decide +kernel
theorem dX5_learn_51 : decode cX5_learn 51 = .ok (.invokevirtual 52, 3) := by decide +kernel
theorem dX5_learn_54 : decode cX5_learn 54 = .ok (.istore 4, 2) := by decide +kernel
theorem dX5_learn_56 : decode cX5_learn 56 = .ok (.iload 4, 2) := by decide +kernel
theorem dX5_learn_58 : decode cX5_learn 58 = .ok (.invokestatic 56, 3) := by decide +kernel
theorem dX5_learn_61 : decode cX5_learn 61 = .ok (.ifCond .eq 27, 3) := by decide +kernel
theorem dX5_learn_64 : decode cX5_learn 64 = .ok (.aload_n 0, 1) := by decide +kernel
theorem dX5_learn_65 : decode cX5_learn 65 = .ok (.getfield 17, 3) := by decide +kernel
theorem dX5_learn_68 : decode cX5_learn 68 = .ok (.iload_n 2, 1) := by decide +kernel
theorem dX5_learn_69 : decode cX5_learn 69 = .ok (.iload_n 3, 1) := by decide +kernel
theorem dX5_learn_70 : decode cX5_learn 70 = .ok (.invokestatic 59, 3) := by decide +kernel
theorem dX5_learn_73 : decode cX5_learn 73 = .ok (.iload 4, 2) := by decide +kernel
theorem dX5_learn_75 : decode cX5_learn 75 = .ok (.iastore, 1) := by decide +kernel
theorem dX5_learn_76 : decode cX5_learn 76 = .ok (.aload_n 0, 1) := by decide +kernel
theorem dX5_learn_77 : decode cX5_learn 77 = .ok (.getfield 21, 3) := by decide +kernel
theorem dX5_learn_80 : decode cX5_learn 80 = .ok (.iload 4, 2) := by decide +kernel
theorem dX5_learn_82 : decode cX5_learn 82 = .ok (.iload_n 3, 1) := by decide +kernel
theorem dX5_learn_83 : decode cX5_learn 83 = .ok (.invokestatic 59, 3) := by decide +kernel
theorem dX5_learn_86 : decode cX5_learn 86 = .ok (.iload_n 2, 1) := by decide +kernel
theorem dX5_learn_87 : decode cX5_learn 87 = .ok (.iastore, 1) := by decide +kernel
theorem dX5_learn_88 : decode cX5_learn 88 = .ok (.iinc 3 1, 3) := by decide +kernel
theorem dX5_learn_91 : decode cX5_learn 91 = .ok (.goto (-51), 3) := by decide +kernel
theorem dX5_learn_94 : decode cX5_learn 94 = .ok (.iinc 2 1, 3) := by decide +kernel
theorem dX5_learn_97 : decode cX5_learn 97 = .ok (.goto (-71), 3) := by decide +kernel
theorem dX5_learn_100 : decode cX5_learn 100 = .ok (.aload_n 0, 1) := by decide +kernel
theorem dX5_learn_101 : decode cX5_learn 101 = .ok (.getfield 24, 3) := by decide +kernel
theorem dX5_learn_104 : decode cX5_learn 104 = .ok (.iload_n 1, 1) := by decide +kernel
theorem dX5_learn_105 : decode cX5_learn 105 = .ok (.iconst 1, 1) := by decide +kernel
theorem dX5_learn_106 : decode cX5_learn 106 = .ok (.bastore, 1) := by decide +kernel
theorem dX5_learn_107 : decode cX5_learn 107 = .ok (.return_, 1) := by decide +kernel
theorem dX5_measure_0 : decode cX5_measure 0 = .ok (.iload_n 1, 1) := by decide +kernel
theorem dX5_measure_1 : decode cX5_measure 1 = .ok (.aload_n 0, 1) := by decide +kernel
theorem dX5_measure_2 : decode cX5_measure 2 = .ok (.getfield 37, 3) := by decide +kernel
theorem dX5_measure_5 : decode cX5_measure 5 = .ok (.if_icmp .eq 10, 3) := by decide +kernel
theorem dX5_measure_8 : decode cX5_measure 8 = .ok (.iload_n 1, 1) := by decide +kernel
theorem dX5_measure_9 : decode cX5_measure 9 = .ok (.invokestatic 56, 3) := by decide +kernel
theorem dX5_measure_12 : decode cX5_measure 12 = .ok (.ifCond .ne 4, 3) := by decide +kernel
theorem dX5_measure_15 : decode cX5_measure 15 = .ok (.return_, 1) := by decide +kernel
theorem dX5_measure_16 : decode cX5_measure 16 = .ok (.aload_n 0, 1) := by decide +kernel
theorem dX5_measure_17 : decode cX5_measure 17 = .ok (.getfield 9, 3) := by decide +kernel
theorem dX5_measure_20 : decode cX5_measure 20 = .ok (.iload_n 1, 1) := by decide +kernel
theorem dX5_measure_21 : decode cX5_measure 21 = .ok (.invokevirtual 62, 3) := by decide +kernel
theorem dX5_measure_24 : decode cX5_measure 24 = .ok (.istore_n 2, 1) := by decide +kernel
theorem dX5_measure_25 : decode cX5_measure 25 = .ok (.aload_n 0, 1) := by decide +kernel
theorem dX5_measure_26 : decode cX5_measure 26 = .ok (.iload_n 2, 1) := by decide +kernel
theorem dX5_measure_27 : decode cX5_measure 27 = .ok (.invokevirtual 65, 3) := by decide +kernel
theorem dX5_measure_30 : decode cX5_measure 30 = .ok (.aload_n 0, 1) := by decide +kernel
theorem dX5_measure_31 : decode cX5_measure 31 = .ok (.getfield 28, 3) := by decide +kernel
theorem dX5_measure_34 : decode cX5_measure 34 = .ok (.iconst (-1), 1) := by decide +kernel
theorem dX5_measure_35 : decode cX5_measure 35 = .ok (.invokestatic 69, 3) := by decide +kernel
theorem dX5_measure_38 : decode cX5_measure 38 = .ok (.aload_n 0, 1) := by decide +kernel
theorem dX5_measure_39 : decode cX5_measure 39 = .ok (.iconst 0, 1) := by decide +kernel
theorem dX5_measure_40 : decode cX5_measure 40 = .ok (.putfield 75, 3) := by decide +kernel
theorem dX5_measure_43 : decode cX5_measure 43 = .ok (.aload_n 0, 1) := by decide +kernel
theorem dX5_measure_44 : decode cX5_measure 44 = .ok (.iload_n 1, 1) := by decide +kernel
theorem dX5_measure_45 : decode cX5_measure 45 = .ok (.iconst 0, 1) := by decide +kernel
theorem dX5_measure_46 : decode cX5_measure 46 = .ok (.invokevirtual 78, 3) := by decide +kernel
theorem dX5_measure_49 : decode cX5_measure 49 = .ok (.iconst 0, 1) := by decide +kernel
theorem dX5_measure_50 : decode cX5_measure 50 = .ok (.istore_n 3, 1) := by decide +kernel
theorem dX5_measure_51 : decode cX5_measure 51 = .ok (.iload_n 3, 1) := by decide +kernel
theorem dX5_measure_52 : decode cX5_measure 52 = .ok (.aload_n 0, 1) := by decide +kernel
theorem dX5_measure_53 : decode cX5_measure 53 = .ok (.getfield 75, 3) := by decide +kernel
theorem dX5_measure_56 : decode cX5_measure 56 = .ok (.if_icmp .ge 89, 3) := by decide +kernel
theorem dX5_measure_59 : decode cX5_measure 59 = .ok (.iload_n 3, 1) := by decide +kernel
theorem dX5_measure_60 : decode cX5_measure 60 = .ok (.sipush 429, 3) := by decide +kernel
theorem dX5_measure_63 : decode cX5_measure 63 = .ok (.if_icmp .ge 82, 3) := by decide +kernel
theorem dX5_measure_66 : decode cX5_measure 66 = .ok (.aload_n 0, 1) := by decide +kernel
theorem dX5_measure_67 : decode cX5_measure 67 = .ok (.getfield 31, 3) := by decide +kernel
theorem dX5_measure_70 : decode cX5_measure 70 = .ok (.iload_n 3, 1) := by decide +kernel
theorem dX5_measure_71 : decode cX5_measure 71 = .ok (.iaload, 1) := by decide +kernel
theorem dX5_measure_72 : decode cX5_measure 72 = .ok (.istore 4, 2) := by decide +kernel
theorem dX5_measure_74 : decode cX5_measure 74 = .ok (.iconst 0, 1) := by decide +kernel
theorem dX5_measure_75 : decode cX5_measure 75 = .ok (.istore 5, 2) := by decide +kernel
theorem dX5_measure_77 : decode cX5_measure 77 = .ok (.iload 5, 2) := by decide +kernel
theorem dX5_measure_79 : decode cX5_measure 79 = .ok (.iload_n 2, 1) := by decide +kernel
theorem dX5_measure_80 : decode cX5_measure 80 = .ok (.if_icmp .ge 59, 3) := by decide +kernel
theorem dX5_measure_83 : decode cX5_measure 83 = .ok (.aload_n 0, 1) := by decide +kernel
theorem dX5_measure_84 : decode cX5_measure 84 = .ok (.aload_n 0, 1) := by decide +kernel
theorem dX5_measure_85 : decode cX5_measure 85 = .ok (.getfield 17, 3) := by decide +kernel
theorem dX5_measure_88 : decode cX5_measure 88 = .ok (.iload 4, 2) := by decide +kernel
theorem dX5_measure_90 : decode cX5_measure 90 = .ok (.iload 5, 2) := by decide +kernel
theorem dX5_measure_92 : decode cX5_measure 92 = .ok (.invokestatic 59, 3) := by decide +kernel
theorem dX5_measure_95 : decode cX5_measure 95 = .ok (.iaload, 1) := by decide +kernel
theorem dX5_measure_96 : decode cX5_measure 96 = .ok (.aload_n 0, 1) := by decide +kernel
theorem dX5_measure_97 : decode cX5_measure 97 = .ok (.getfield 28, 3) := by decide +kernel
theorem dX5_measure_100 : decode cX5_measure 100 = .ok (.iload 4, 2) := by decide +kernel
theorem dX5_measure_102 : decode cX5_measure 102 = .ok (.iaload, 1) := by decide +kernel
theorem dX5_measure_103 : decode cX5_measure 103 = .ok (.iconst 1, 1) := by decide +kernel
theorem dX5_measure_104 : decode cX5_measure 104 = .ok (.iadd, 1) := by decide +kernel
theorem dX5_measure_105 : decode cX5_measure 105 = .ok (.invokevirtual 78, 3) := by decide +kernel
theorem dX5_measure_108 : decode cX5_measure 108 = .ok (.aload_n 0, 1) := by decide +kernel
theorem dX5_measure_109 : decode cX5_measure 109 = .ok (.aload_n 0, 1) := by decide +kernel
theorem dX5_measure_110 : decode cX5_measure 110 = .ok (.getfield 21, 3) := by decide +kernel
theorem dX5_measure_113 : decode cX5_measure 113 = .ok (.iload 4, 2) := by decide +kernel
theorem dX5_measure_115 : decode cX5_measure 115 = .ok (.iload 5, 2) := by decide +kernel
theorem dX5_measure_117 : decode cX5_measure 117 = .ok (.invokestatic 59, 3) := by decide +kernel
theorem dX5_measure_120 : decode cX5_measure 120 = .ok (.iaload, 1) := by decide +kernel
theorem dX5_measure_121 : decode cX5_measure 121 = .ok (.aload_n 0, 1) := by decide +kernel
theorem dX5_measure_122 : decode cX5_measure 122 = .ok (.getfield 28, 3) := by decide +kernel
theorem dX5_measure_125 : decode cX5_measure 125 = .ok (.iload 4, 2) := by decide +kernel
theorem dX5_measure_127 : decode cX5_measure 127 = .ok (.iaload, 1) := by decide +kernel
theorem dX5_measure_128 : decode cX5_measure 128 = .ok (.iconst 1, 1) := by decide +kernel
theorem dX5_measure_129 : decode cX5_measure 129 = .ok (.iadd, 1) := by decide +kernel
theorem dX5_measure_130 : decode cX5_measure 130 = .ok (.invokevirtual 78, 3) := by decide +kernel
theorem dX5_measure_133 : decode cX5_measure 133 = .ok (.iinc 5 1, 3) := by decide +kernel
theorem dX5_measure_136 : decode cX5_measure 136 = .ok (.goto (-59), 3) := by decide +kernel
theorem dX5_measure_139 : decode cX5_measure 139 = .ok (.iinc 3 1, 3) := by decide +kernel
theorem dX5_measure_142 : decode cX5_measure 142 = .ok (.goto (-91), 3) := by decide +kernel
theorem dX5_measure_145 : decode cX5_measure 145 = .ok (.aload_n 0, 1) := by decide +kernel
theorem dX5_measure_146 : decode cX5_measure 146 = .ok (.iload_n 1, 1) := by decide +kernel
theorem dX5_measure_147 : decode cX5_measure 147 = .ok (.putfield 37, 3) := by decide +kernel
theorem dX5_measure_150 : decode cX5_measure 150 = .ok (.return_, 1) := by decide +kernel
theorem dX5_reach_0 : decode cX5_reach 0 = .ok (.iload_n 1, 1) := by decide +kernel
theorem dX5_reach_1 : decode cX5_reach 1 = .ok (.invokestatic 56, 3) := by decide +kernel
theorem dX5_reach_4 : decode cX5_reach 4 = .ok (.ifCond .eq 50, 3) := by decide +kernel
theorem dX5_reach_7 : decode cX5_reach 7 = .ok (.aload_n 0, 1) := by decide +kernel
theorem dX5_reach_8 : decode cX5_reach 8 = .ok (.getfield 28, 3) := by decide +kernel
theorem dX5_reach_11 : decode cX5_reach 11 = .ok (.iload_n 1, 1) := by decide +kernel
theorem dX5_reach_12 : decode cX5_reach 12 = .ok (.iaload, 1) := by decide +kernel
theorem dX5_reach_13 : decode cX5_reach 13 = .ok (.iconst (-1), 1) := by decide +kernel
theorem dX5_reach_14 : decode cX5_reach 14 = .ok (.if_icmp .ne 40, 3) := by decide +kernel
theorem dX5_reach_17 : decode cX5_reach 17 = .ok (.aload_n 0, 1) := by decide +kernel
theorem dX5_reach_18 : decode cX5_reach 18 = .ok (.getfield 75, 3) := by decide +kernel
theorem dX5_reach_21 : decode cX5_reach 21 = .ok (.sipush 429, 3) := by decide +kernel
theorem dX5_reach_24 : decode cX5_reach 24 = .ok (.if_icmp .ge 30, 3) := by decide +kernel
theorem dX5_reach_27 : decode cX5_reach 27 = .ok (.aload_n 0, 1) := by decide +kernel
theorem dX5_reach_28 : decode cX5_reach 28 = .ok (.getfield 28, 3) := by decide +kernel
theorem dX5_reach_31 : decode cX5_reach 31 = .ok (.iload_n 1, 1) := by decide +kernel
theorem dX5_reach_32 : decode cX5_reach 32 = .ok (.iload_n 2, 1) := by decide +kernel
theorem dX5_reach_33 : decode cX5_reach 33 = .ok (.iastore, 1) := by decide +kernel
theorem dX5_reach_34 : decode cX5_reach 34 = .ok (.aload_n 0, 1) := by decide +kernel
theorem dX5_reach_35 : decode cX5_reach 35 = .ok (.getfield 31, 3) := by decide +kernel
theorem dX5_reach_38 : decode cX5_reach 38 = .ok (.aload_n 0, 1) := by decide +kernel
theorem dX5_reach_39 : decode cX5_reach 39 = .ok (.getfield 75, 3) := by decide +kernel
theorem dX5_reach_42 : decode cX5_reach 42 = .ok (.iload_n 1, 1) := by decide +kernel
theorem dX5_reach_43 : decode cX5_reach 43 = .ok (.iastore, 1) := by decide +kernel
theorem dX5_reach_44 : decode cX5_reach 44 = .ok (.aload_n 0, 1) := by decide +kernel
theorem dX5_reach_45 : decode cX5_reach 45 = .ok (.dup, 1) := by decide +kernel
theorem dX5_reach_46 : decode cX5_reach 46 = .ok (.getfield 75, 3) := by decide +kernel
theorem dX5_reach_49 : decode cX5_reach 49 = .ok (.iconst 1, 1) := by decide +kernel
theorem dX5_reach_50 : decode cX5_reach 50 = .ok (.iadd, 1) := by decide +kernel
theorem dX5_reach_51 : decode cX5_reach 51 = .ok (.putfield 75, 3) := by decide +kernel
theorem dX5_reach_54 : decode cX5_reach 54 = .ok (.return_, 1) := by decide +kernel
theorem dX5_turnsFrom_0 : decode cX5_turnsFrom 0 = .ok (.iload_n 1, 1) := by decide +kernel
theorem dX5_turnsFrom_1 : decode cX5_turnsFrom 1 = .ok (.invokestatic 56, 3) := by decide +kernel
theorem dX5_turnsFrom_4 : decode cX5_turnsFrom 4 = .ok (.ifCond .eq 12, 3) := by decide +kernel
theorem dX5_turnsFrom_7 : decode cX5_turnsFrom 7 = .ok (.aload_n 0, 1) := by decide +kernel
theorem dX5_turnsFrom_8 : decode cX5_turnsFrom 8 = .ok (.getfield 28, 3) := by decide +kernel
theorem dX5_turnsFrom_11 : decode cX5_turnsFrom 11 = .ok (.iload_n 1, 1) := by decide +kernel
theorem dX5_turnsFrom_12 : decode cX5_turnsFrom 12 = .ok (.iaload, 1) := by decide +kernel
theorem dX5_turnsFrom_13 : decode cX5_turnsFrom 13 = .ok (.goto 4, 3) := by decide +kernel
theorem dX5_turnsFrom_16 : decode cX5_turnsFrom 16 = .ok (.iconst (-1), 1) := by decide +kernel
theorem dX5_turnsFrom_17 : decode cX5_turnsFrom 17 = .ok (.ireturn, 1) := by decide +kernel
theorem dX5_firstTurn_0 : decode cX5_firstTurn 0 = .ok (.iload_n 1, 1) := by decide +kernel
theorem dX5_firstTurn_1 : decode cX5_firstTurn 1 = .ok (.invokestatic 56, 3) := by decide +kernel
theorem dX5_firstTurn_4 : decode cX5_firstTurn 4 = .ok (.ifCond .eq 12, 3) := by decide +kernel
theorem dX5_firstTurn_7 : decode cX5_firstTurn 7 = .ok (.aload_n 0, 1) := by decide +kernel
theorem dX5_firstTurn_8 : decode cX5_firstTurn 8 = .ok (.getfield 28, 3) := by decide +kernel
theorem dX5_firstTurn_11 : decode cX5_firstTurn 11 = .ok (.iload_n 1, 1) := by decide +kernel
theorem dX5_firstTurn_12 : decode cX5_firstTurn 12 = .ok (.iaload, 1) := by decide +kernel
theorem dX5_firstTurn_13 : decode cX5_firstTurn 13 = .ok (.ifCond .gt 6, 3) := by decide +kernel
theorem dX5_firstTurn_16 : decode cX5_firstTurn 16 = .ok (.bipush (-5), 2) := by decide +kernel
theorem dX5_firstTurn_18 : decode cX5_firstTurn 18 = .ok (.ireturn, 1) := by decide +kernel
theorem dX5_firstTurn_19 : decode cX5_firstTurn 19 = .ok (.aload_n 0, 1) := by decide +kernel
theorem dX5_firstTurn_20 : decode cX5_firstTurn 20 = .ok (.getfield 28, 3) := by decide +kernel
theorem dX5_firstTurn_23 : decode cX5_firstTurn 23 = .ok (.iload_n 1, 1) := by decide +kernel
theorem dX5_firstTurn_24 : decode cX5_firstTurn 24 = .ok (.iaload, 1) := by decide +kernel
theorem dX5_firstTurn_25 : decode cX5_firstTurn 25 = .ok (.iconst 1, 1) := by decide +kernel
theorem dX5_firstTurn_26 : decode cX5_firstTurn 26 = .ok (.isub, 1) := by decide +kernel
theorem dX5_firstTurn_27 : decode cX5_firstTurn 27 = .ok (.istore_n 2, 1) := by decide +kernel
theorem dX5_firstTurn_28 : decode cX5_firstTurn 28 = .ok (.aload_n 0, 1) := by decide +kernel
theorem dX5_firstTurn_29 : decode cX5_firstTurn 29 = .ok (.getfield 9, 3) := by decide +kernel
theorem dX5_firstTurn_32 : decode cX5_firstTurn 32 = .ok (.iload_n 1, 1) := by decide +kernel
theorem dX5_firstTurn_33 : decode cX5_firstTurn 33 = .ok (.invokevirtual 62, 3) := by decide +kernel
theorem dX5_firstTurn_36 : decode cX5_firstTurn 36 = .ok (.istore_n 3, 1) := by decide +kernel
theorem dX5_firstTurn_37 : decode cX5_firstTurn 37 = .ok (.iconst 0, 1) := by decide +kernel
theorem dX5_firstTurn_38 : decode cX5_firstTurn 38 = .ok (.istore 4, 2) := by decide +kernel
theorem dX5_firstTurn_40 : decode cX5_firstTurn 40 = .ok (.iload 4, 2) := by decide +kernel
theorem dX5_firstTurn_42 : decode cX5_firstTurn 42 = .ok (.iload_n 3, 1) := by decide +kernel
theorem dX5_firstTurn_43 : decode cX5_firstTurn 43 = .ok (.if_icmp .ge 31, 3) := by decide +kernel
theorem dX5_firstTurn_46 : decode cX5_firstTurn 46 = .ok (.aload_n 0, 1) := by decide +kernel
theorem dX5_firstTurn_47 : decode cX5_firstTurn 47 = .ok (.aload_n 0, 1) := by decide +kernel
theorem dX5_firstTurn_48 : decode cX5_firstTurn 48 = .ok (.getfield 17, 3) := by decide +kernel
theorem dX5_firstTurn_51 : decode cX5_firstTurn 51 = .ok (.iload_n 1, 1) := by decide +kernel
theorem dX5_firstTurn_52 : decode cX5_firstTurn 52 = .ok (.iload 4, 2) := by decide +kernel
theorem dX5_firstTurn_54 : decode cX5_firstTurn 54 = .ok (.invokestatic 59, 3) := by decide +kernel
theorem dX5_firstTurn_57 : decode cX5_firstTurn 57 = .ok (.iaload, 1) := by decide +kernel
theorem dX5_firstTurn_58 : decode cX5_firstTurn 58 = .ok (.invokevirtual 82, 3) := by decide +kernel
theorem dX5_firstTurn_61 : decode cX5_firstTurn 61 = .ok (.iload_n 2, 1) := by decide +kernel
theorem dX5_firstTurn_62 : decode cX5_firstTurn 62 = .ok (.if_icmp .ne 6, 3) := by decide +kernel
theorem dX5_firstTurn_65 : decode cX5_firstTurn 65 = .ok (.iload 4, 2) := by decide +kernel
theorem dX5_firstTurn_67 : decode cX5_firstTurn 67 = .ok (.ireturn, 1) := by decide +kernel
theorem dX5_firstTurn_68 : decode cX5_firstTurn 68 = .ok (.iinc 4 1, 3) := by decide +kernel
theorem dX5_firstTurn_71 : decode cX5_firstTurn 71 = .ok (.goto (-31), 3) := by decide +kernel
theorem dX5_firstTurn_74 : decode cX5_firstTurn 74 = .ok (.iconst 0, 1) := by decide +kernel
theorem dX5_firstTurn_75 : decode cX5_firstTurn 75 = .ok (.istore 4, 2) := by decide +kernel
theorem dX5_firstTurn_77 : decode cX5_firstTurn 77 = .ok (.iload 4, 2) := by decide +kernel
theorem dX5_firstTurn_79 : decode cX5_firstTurn 79 = .ok (.iload_n 3, 1) := by decide +kernel
theorem dX5_firstTurn_80 : decode cX5_firstTurn 80 = .ok (.if_icmp .ge 33, 3) := by decide +kernel
theorem dX5_firstTurn_83 : decode cX5_firstTurn 83 = .ok (.aload_n 0, 1) := by decide +kernel
theorem dX5_firstTurn_84 : decode cX5_firstTurn 84 = .ok (.aload_n 0, 1) := by decide +kernel
theorem dX5_firstTurn_85 : decode cX5_firstTurn 85 = .ok (.getfield 21, 3) := by decide +kernel
theorem dX5_firstTurn_88 : decode cX5_firstTurn 88 = .ok (.iload_n 1, 1) := by decide +kernel
theorem dX5_firstTurn_89 : decode cX5_firstTurn 89 = .ok (.iload 4, 2) := by decide +kernel
theorem dX5_firstTurn_91 : decode cX5_firstTurn 91 = .ok (.invokestatic 59, 3) := by decide +kernel
theorem dX5_firstTurn_94 : decode cX5_firstTurn 94 = .ok (.iaload, 1) := by decide +kernel
theorem dX5_firstTurn_95 : decode cX5_firstTurn 95 = .ok (.invokevirtual 82, 3) := by decide +kernel
theorem dX5_firstTurn_98 : decode cX5_firstTurn 98 = .ok (.iload_n 2, 1) := by decide +kernel
theorem dX5_firstTurn_99 : decode cX5_firstTurn 99 = .ok (.if_icmp .ne 8, 3) := by decide +kernel
theorem dX5_firstTurn_102 : decode cX5_firstTurn 102 = .ok (.iconst (-1), 1) := by decide +kernel
theorem dX5_firstTurn_103 : decode cX5_firstTurn 103 = .ok (.iload 4, 2) := by decide +kernel
theorem dX5_firstTurn_105 : decode cX5_firstTurn 105 = .ok (.isub, 1) := by decide +kernel
theorem dX5_firstTurn_106 : decode cX5_firstTurn 106 = .ok (.ireturn, 1) := by decide +kernel
theorem dX5_firstTurn_107 : decode cX5_firstTurn 107 = .ok (.iinc 4 1, 3) := by decide +kernel
theorem dX5_firstTurn_110 : decode cX5_firstTurn 110 = .ok (.goto (-33), 3) := by decide +kernel
theorem dX5_firstTurn_113 : decode cX5_firstTurn 113 = .ok (.bipush (-5), 2) := by decide +kernel
theorem dX5_firstTurn_115 : decode cX5_firstTurn 115 = .ok (.ireturn, 1) := by decide +kernel
theorem dX5_farthest_0 : decode cX5_farthest 0 = .ok (.iconst 0, 1) := by decide +kernel
theorem dX5_farthest_1 : decode cX5_farthest 1 = .ok (.istore_n 1, 1) := by decide +kernel
theorem dX5_farthest_2 : decode cX5_farthest 2 = .ok (.iconst 0, 1) := by decide +kernel
theorem dX5_farthest_3 : decode cX5_farthest 3 = .ok (.istore_n 2, 1) := by decide +kernel
theorem dX5_farthest_4 : decode cX5_farthest 4 = .ok (.iload_n 2, 1) := by decide +kernel
theorem dX5_farthest_5 : decode cX5_farthest 5 = .ok (.sipush 626, 3) := by decide +kernel
theorem dX5_farthest_8 : decode cX5_farthest 8 = .ok (.if_icmp .ge 20, 3) := by decide +kernel
theorem dX5_farthest_11 : decode cX5_farthest 11 = .ok (.iload_n 1, 1) := by decide +kernel
theorem dX5_farthest_12 : decode cX5_farthest 12 = .ok (.aload_n 0, 1) := by decide +kernel
theorem dX5_farthest_13 : decode cX5_farthest 13 = .ok (.getfield 28, 3) := by decide +kernel
theorem dX5_farthest_16 : decode cX5_farthest 16 = .ok (.iload_n 2, 1) := by decide +kernel
theorem dX5_farthest_17 : decode cX5_farthest 17 = .ok (.iaload, 1) := by decide +kernel
theorem dX5_farthest_18 : decode cX5_farthest 18 = .ok (.invokestatic 85, 3) := by decide +kernel
theorem dX5_farthest_21 : decode cX5_farthest 21 = .ok (.istore_n 1, 1) := by decide +kernel
theorem dX5_farthest_22 : decode cX5_farthest 22 = .ok (.iinc 2 1, 3) := by decide +kernel
theorem dX5_farthest_25 : decode cX5_farthest 25 = .ok (.goto (-21), 3) := by decide +kernel
theorem dX5_farthest_28 : decode cX5_farthest 28 = .ok (.iload_n 1, 1) := by decide +kernel
theorem dX5_farthest_29 : decode cX5_farthest 29 = .ok (.ireturn, 1) := by decide +kernel
theorem dX5_howManyFarthest_0 : decode cX5_howManyFarthest 0 = .ok (.aload_n 0, 1) := by decide +kernel
theorem dX5_howManyFarthest_1 : decode cX5_howManyFarthest 1 = .ok (.invokevirtual 90, 3) := by decide +kernel
theorem dX5_howManyFarthest_4 : decode cX5_howManyFarthest 4 = .ok (.istore_n 1, 1) := by decide +kernel
theorem dX5_howManyFarthest_5 : decode cX5_howManyFarthest 5 = .ok (.iconst 0, 1) := by decide +kernel
theorem dX5_howManyFarthest_6 : decode cX5_howManyFarthest 6 = .ok (.istore_n 2, 1) := by decide +kernel
theorem dX5_howManyFarthest_7 : decode cX5_howManyFarthest 7 = .ok (.iconst 0, 1) := by decide +kernel
theorem dX5_howManyFarthest_8 : decode cX5_howManyFarthest 8 = .ok (.istore_n 3, 1) := by decide +kernel
theorem dX5_howManyFarthest_9 : decode cX5_howManyFarthest 9 = .ok (.iload_n 3, 1) := by decide +kernel
theorem dX5_howManyFarthest_10 : decode cX5_howManyFarthest 10 = .ok (.sipush 626, 3) := by decide +kernel
theorem dX5_howManyFarthest_13 : decode cX5_howManyFarthest 13 = .ok (.if_icmp .ge 22, 3) := by decide +kernel
theorem dX5_howManyFarthest_16 : decode cX5_howManyFarthest 16 = .ok (.aload_n 0, 1) := by decide +kernel
theorem dX5_howManyFarthest_17 : decode cX5_howManyFarthest 17 = .ok (.getfield 28, 3) := by decide +kernel
theorem dX5_howManyFarthest_20 : decode cX5_howManyFarthest 20 = .ok (.iload_n 3, 1) := by decide +kernel
theorem dX5_howManyFarthest_21 : decode cX5_howManyFarthest 21 = .ok (.iaload, 1) := by decide +kernel
theorem dX5_howManyFarthest_22 : decode cX5_howManyFarthest 22 = .ok (.iload_n 1, 1) := by decide +kernel
theorem dX5_howManyFarthest_23 : decode cX5_howManyFarthest 23 = .ok (.if_icmp .ne 6, 3) := by decide +kernel
theorem dX5_howManyFarthest_26 : decode cX5_howManyFarthest 26 = .ok (.iinc 2 1, 3) := by decide +kernel
theorem dX5_howManyFarthest_29 : decode cX5_howManyFarthest 29 = .ok (.iinc 3 1, 3) := by decide +kernel
theorem dX5_howManyFarthest_32 : decode cX5_howManyFarthest 32 = .ok (.goto (-23), 3) := by decide +kernel
theorem dX5_howManyFarthest_35 : decode cX5_howManyFarthest 35 = .ok (.iload_n 2, 1) := by decide +kernel
theorem dX5_howManyFarthest_36 : decode cX5_howManyFarthest 36 = .ok (.ireturn, 1) := by decide +kernel
theorem dX5_leastFarthest_0 : decode cX5_leastFarthest 0 = .ok (.aload_n 0, 1) := by decide +kernel
theorem dX5_leastFarthest_1 : decode cX5_leastFarthest 1 = .ok (.invokevirtual 90, 3) := by decide +kernel
theorem dX5_leastFarthest_4 : decode cX5_leastFarthest 4 = .ok (.istore_n 1, 1) := by decide +kernel
theorem dX5_leastFarthest_5 : decode cX5_leastFarthest 5 = .ok (.iconst 0, 1) := by decide +kernel
theorem dX5_leastFarthest_6 : decode cX5_leastFarthest 6 = .ok (.istore_n 2, 1) := by decide +kernel
theorem dX5_leastFarthest_7 : decode cX5_leastFarthest 7 = .ok (.iload_n 2, 1) := by decide +kernel
theorem dX5_leastFarthest_8 : decode cX5_leastFarthest 8 = .ok (.sipush 626, 3) := by decide +kernel
theorem dX5_leastFarthest_11 : decode cX5_leastFarthest 11 = .ok (.if_icmp .ge 21, 3) := by decide +kernel
theorem dX5_leastFarthest_14 : decode cX5_leastFarthest 14 = .ok (.aload_n 0, 1) := by decide +kernel
theorem dX5_leastFarthest_15 : decode cX5_leastFarthest 15 = .ok (.getfield 28, 3) := by decide +kernel
theorem dX5_leastFarthest_18 : decode cX5_leastFarthest 18 = .ok (.iload_n 2, 1) := by decide +kernel
theorem dX5_leastFarthest_19 : decode cX5_leastFarthest 19 = .ok (.iaload, 1) := by decide +kernel
theorem dX5_leastFarthest_20 : decode cX5_leastFarthest 20 = .ok (.iload_n 1, 1) := by decide +kernel
theorem dX5_leastFarthest_21 : decode cX5_leastFarthest 21 = .ok (.if_icmp .ne 5, 3) := by decide +kernel
theorem dX5_leastFarthest_24 : decode cX5_leastFarthest 24 = .ok (.iload_n 2, 1) := by decide +kernel
theorem dX5_leastFarthest_25 : decode cX5_leastFarthest 25 = .ok (.ireturn, 1) := by decide +kernel
theorem dX5_leastFarthest_26 : decode cX5_leastFarthest 26 = .ok (.iinc 2 1, 3) := by decide +kernel
theorem dX5_leastFarthest_29 : decode cX5_leastFarthest 29 = .ok (.goto (-22), 3) := by decide +kernel
theorem dX5_leastFarthest_32 : decode cX5_leastFarthest 32 = .ok (.iconst 0, 1) := by decide +kernel
theorem dX5_leastFarthest_33 : decode cX5_leastFarthest 33 = .ok (.ireturn, 1) := by decide +kernel
theorem dX5_turnsUpAlone_0 : decode cX5_turnsUpAlone 0 = .ok (.iload_n 1, 1) := by decide +kernel
theorem dX5_turnsUpAlone_1 : decode cX5_turnsUpAlone 1 = .ok (.invokestatic 56, 3) := by decide +kernel
theorem dX5_turnsUpAlone_4 : decode cX5_turnsUpAlone 4 = .ok (.ifCond .eq 10, 3) := by decide +kernel
theorem dX5_turnsUpAlone_7 : decode cX5_turnsUpAlone 7 = .ok (.iload_n 2, 1) := by decide +kernel
theorem dX5_turnsUpAlone_8 : decode cX5_turnsUpAlone 8 = .ok (.invokestatic 56, 3) := by decide +kernel
theorem dX5_turnsUpAlone_11 : decode cX5_turnsUpAlone 11 = .ok (.ifCond .ne 6, 3) := by decide +kernel
theorem dX5_turnsUpAlone_14 : decode cX5_turnsUpAlone 14 = .ok (.bipush (-5), 2) := by decide +kernel
theorem dX5_turnsUpAlone_16 : decode cX5_turnsUpAlone 16 = .ok (.ireturn, 1) := by decide +kernel
theorem dX5_turnsUpAlone_17 : decode cX5_turnsUpAlone 17 = .ok (.aload_n 0, 1) := by decide +kernel
theorem dX5_turnsUpAlone_18 : decode cX5_turnsUpAlone 18 = .ok (.getfield 9, 3) := by decide +kernel
theorem dX5_turnsUpAlone_21 : decode cX5_turnsUpAlone 21 = .ok (.iload_n 1, 1) := by decide +kernel
theorem dX5_turnsUpAlone_22 : decode cX5_turnsUpAlone 22 = .ok (.invokevirtual 62, 3) := by decide +kernel
theorem dX5_turnsUpAlone_25 : decode cX5_turnsUpAlone 25 = .ok (.istore 4, 2) := by decide +kernel
theorem dX5_turnsUpAlone_27 : decode cX5_turnsUpAlone 27 = .ok (.aload_n 0, 1) := by decide +kernel
theorem dX5_turnsUpAlone_28 : decode cX5_turnsUpAlone 28 = .ok (.iload 4, 2) := by decide +kernel
theorem dX5_turnsUpAlone_30 : decode cX5_turnsUpAlone 30 = .ok (.invokevirtual 65, 3) := by decide +kernel
theorem dX5_turnsUpAlone_33 : decode cX5_turnsUpAlone 33 = .ok (.aload_n 0, 1) := by decide +kernel
theorem dX5_turnsUpAlone_34 : decode cX5_turnsUpAlone 34 = .ok (.getfield 34, 3) := by decide +kernel
theorem dX5_turnsUpAlone_37 : decode cX5_turnsUpAlone 37 = .ok (.iconst (-1), 1) := by decide +kernel
theorem dX5_turnsUpAlone_38 : decode cX5_turnsUpAlone 38 = .ok (.invokestatic 69, 3) := by decide +kernel
theorem dX5_turnsUpAlone_41 : decode cX5_turnsUpAlone 41 = .ok (.aload_n 0, 1) := by decide +kernel
theorem dX5_turnsUpAlone_42 : decode cX5_turnsUpAlone 42 = .ok (.getfield 34, 3) := by decide +kernel
theorem dX5_turnsUpAlone_45 : decode cX5_turnsUpAlone 45 = .ok (.iload_n 1, 1) := by decide +kernel
theorem dX5_turnsUpAlone_46 : decode cX5_turnsUpAlone 46 = .ok (.iconst 0, 1) := by decide +kernel
theorem dX5_turnsUpAlone_47 : decode cX5_turnsUpAlone 47 = .ok (.iastore, 1) := by decide +kernel
theorem dX5_turnsUpAlone_48 : decode cX5_turnsUpAlone 48 = .ok (.iload_n 1, 1) := by decide +kernel
theorem dX5_turnsUpAlone_49 : decode cX5_turnsUpAlone 49 = .ok (.istore 5, 2) := by decide +kernel
theorem dX5_turnsUpAlone_51 : decode cX5_turnsUpAlone 51 = .ok (.iload 5, 2) := by decide +kernel
theorem dX5_turnsUpAlone_53 : decode cX5_turnsUpAlone 53 = .ok (.iload_n 2, 1) := by decide +kernel
theorem dX5_turnsUpAlone_54 : decode cX5_turnsUpAlone 54 = .ok (.if_icmp .ge 62, 3) := by decide +kernel
theorem dX5_turnsUpAlone_57 : decode cX5_turnsUpAlone 57 = .ok (.iconst 0, 1) := by decide +kernel
theorem dX5_turnsUpAlone_58 : decode cX5_turnsUpAlone 58 = .ok (.istore 6, 2) := by decide +kernel
theorem dX5_turnsUpAlone_60 : decode cX5_turnsUpAlone 60 = .ok (.iload 6, 2) := by decide +kernel
theorem dX5_turnsUpAlone_62 : decode cX5_turnsUpAlone 62 = .ok (.iload 4, 2) := by decide +kernel
theorem dX5_turnsUpAlone_64 : decode cX5_turnsUpAlone 64 = .ok (.if_icmp .ge 46, 3) := by decide +kernel
theorem dX5_turnsUpAlone_67 : decode cX5_turnsUpAlone 67 = .ok (.aload_n 0, 1) := by decide +kernel
theorem dX5_turnsUpAlone_68 : decode cX5_turnsUpAlone 68 = .ok (.getfield 34, 3) := by decide +kernel
theorem dX5_turnsUpAlone_71 : decode cX5_turnsUpAlone 71 = .ok (.iload 5, 2) := by decide +kernel
theorem dX5_turnsUpAlone_73 : decode cX5_turnsUpAlone 73 = .ok (.iaload, 1) := by decide +kernel
theorem dX5_turnsUpAlone_74 : decode cX5_turnsUpAlone 74 = .ok (.iconst (-1), 1) := by decide +kernel
theorem dX5_turnsUpAlone_75 : decode cX5_turnsUpAlone 75 = .ok (.if_icmp .eq 35, 3) := by decide +kernel
theorem dX5_turnsUpAlone_78 : decode cX5_turnsUpAlone 78 = .ok (.aload_n 0, 1) := by decide +kernel
theorem dX5_turnsUpAlone_79 : decode cX5_turnsUpAlone 79 = .ok (.aload_n 0, 1) := by decide +kernel
theorem dX5_turnsUpAlone_80 : decode cX5_turnsUpAlone 80 = .ok (.getfield 17, 3) := by decide +kernel
theorem dX5_turnsUpAlone_83 : decode cX5_turnsUpAlone 83 = .ok (.iload 5, 2) := by decide +kernel
theorem dX5_turnsUpAlone_85 : decode cX5_turnsUpAlone 85 = .ok (.iload 6, 2) := by decide +kernel
theorem dX5_turnsUpAlone_87 : decode cX5_turnsUpAlone 87 = .ok (.invokestatic 59, 3) := by decide +kernel
theorem dX5_turnsUpAlone_90 : decode cX5_turnsUpAlone 90 = .ok (.iaload, 1) := by decide +kernel
theorem dX5_turnsUpAlone_91 : decode cX5_turnsUpAlone 91 = .ok (.aload_n 0, 1) := by decide +kernel
theorem dX5_turnsUpAlone_92 : decode cX5_turnsUpAlone 92 = .ok (.getfield 34, 3) := by decide +kernel
theorem dX5_turnsUpAlone_95 : decode cX5_turnsUpAlone 95 = .ok (.iload 5, 2) := by decide +kernel
theorem dX5_turnsUpAlone_97 : decode cX5_turnsUpAlone 97 = .ok (.iaload, 1) := by decide +kernel
theorem dX5_turnsUpAlone_98 : decode cX5_turnsUpAlone 98 = .ok (.iconst 1, 1) := by decide +kernel
theorem dX5_turnsUpAlone_99 : decode cX5_turnsUpAlone 99 = .ok (.iadd, 1) := by decide +kernel
theorem dX5_turnsUpAlone_100 : decode cX5_turnsUpAlone 100 = .ok (.iload_n 3, 1) := by decide +kernel
theorem dX5_turnsUpAlone_101 : decode cX5_turnsUpAlone 101 = .ok (.invokevirtual 94, 3) := by decide +kernel
theorem dX5_turnsUpAlone_104 : decode cX5_turnsUpAlone 104 = .ok (.iinc 6 1, 3) := by decide +kernel
theorem dX5_turnsUpAlone_107 : decode cX5_turnsUpAlone 107 = .ok (.goto (-47), 3) := by decide +kernel
theorem dX5_turnsUpAlone_110 : decode cX5_turnsUpAlone 110 = .ok (.iinc 5 1, 3) := by decide +kernel
theorem dX5_turnsUpAlone_113 : decode cX5_turnsUpAlone 113 = .ok (.goto (-62), 3) := by decide +kernel
theorem dX5_turnsUpAlone_116 : decode cX5_turnsUpAlone 116 = .ok (.aload_n 0, 1) := by decide +kernel
theorem dX5_turnsUpAlone_117 : decode cX5_turnsUpAlone 117 = .ok (.getfield 34, 3) := by decide +kernel
theorem dX5_turnsUpAlone_120 : decode cX5_turnsUpAlone 120 = .ok (.iload_n 2, 1) := by decide +kernel
theorem dX5_turnsUpAlone_121 : decode cX5_turnsUpAlone 121 = .ok (.iaload, 1) := by decide +kernel
theorem dX5_turnsUpAlone_122 : decode cX5_turnsUpAlone 122 = .ok (.ireturn, 1) := by decide +kernel
theorem dX5_improve_0 : decode cX5_improve 0 = .ok (.iload_n 1, 1) := by decide +kernel
theorem dX5_improve_1 : decode cX5_improve 1 = .ok (.invokestatic 56, 3) := by decide +kernel
theorem dX5_improve_4 : decode cX5_improve 4 = .ok (.ifCond .ne 4, 3) := by decide +kernel
theorem dX5_improve_7 : decode cX5_improve 7 = .ok (.return_, 1) := by decide +kernel
theorem dX5_improve_8 : decode cX5_improve 8 = .ok (.aload_n 0, 1) := by decide +kernel
theorem dX5_improve_9 : decode cX5_improve 9 = .ok (.getfield 34, 3) := by decide +kernel
theorem dX5_improve_12 : decode cX5_improve 12 = .ok (.iload_n 1, 1) := by decide +kernel
theorem dX5_improve_13 : decode cX5_improve 13 = .ok (.iaload, 1) := by decide +kernel
theorem dX5_improve_14 : decode cX5_improve 14 = .ok (.istore 4, 2) := by decide +kernel
theorem dX5_improve_16 : decode cX5_improve 16 = .ok (.iload 4, 2) := by decide +kernel
theorem dX5_improve_18 : decode cX5_improve 18 = .ok (.iconst (-1), 1) := by decide +kernel
theorem dX5_improve_19 : decode cX5_improve 19 = .ok (.if_icmp .eq 22, 3) := by decide +kernel
theorem dX5_improve_22 : decode cX5_improve 22 = .ok (.iload_n 3, 1) := by decide +kernel
theorem dX5_improve_23 : decode cX5_improve 23 = .ok (.ifCond .eq 12, 3) := by decide +kernel
theorem dX5_improve_26 : decode cX5_improve 26 = .ok (.iload_n 2, 1) := by decide +kernel
theorem dX5_improve_27 : decode cX5_improve 27 = .ok (.iload 4, 2) := by decide +kernel
theorem dX5_improve_29 : decode cX5_improve 29 = .ok (.if_icmp .le 19, 3) := by decide +kernel
theorem dX5_improve_32 : decode cX5_improve 32 = .ok (.goto 9, 3) := by decide +kernel
theorem dX5_improve_35 : decode cX5_improve 35 = .ok (.iload_n 2, 1) := by decide +kernel
theorem dX5_improve_36 : decode cX5_improve 36 = .ok (.iload 4, 2) := by decide +kernel
theorem dX5_improve_38 : decode cX5_improve 38 = .ok (.if_icmp .ge 10, 3) := by decide +kernel
theorem dX5_improve_41 : decode cX5_improve 41 = .ok (.aload_n 0, 1) := by decide +kernel
theorem dX5_improve_42 : decode cX5_improve 42 = .ok (.getfield 34, 3) := by decide +kernel
theorem dX5_improve_45 : decode cX5_improve 45 = .ok (.iload_n 1, 1) := by decide +kernel
theorem dX5_improve_46 : decode cX5_improve 46 = .ok (.iload_n 2, 1) := by decide +kernel
theorem dX5_improve_47 : decode cX5_improve 47 = .ok (.iastore, 1) := by decide +kernel
theorem dX5_improve_48 : decode cX5_improve 48 = .ok (.return_, 1) := by decide +kernel
theorem dX6_init_0 : decode cX6_init 0 = .ok (.aload_n 0, 1) := by decide +kernel
theorem dX6_init_1 : decode cX6_init 1 = .ok (.invokespecial 3, 3) := by decide +kernel
theorem dX6_init_4 : decode cX6_init 4 = .ok (.aload_n 0, 1) := by decide +kernel
theorem dX6_init_5 : decode cX6_init 5 = .ok (.new 9, 3) := by decide +kernel
theorem dX6_init_8 : decode cX6_init 8 = .ok (.dup, 1) := by decide +kernel
theorem dX6_init_9 : decode cX6_init 9 = .ok (.invokespecial 11, 3) := by decide +kernel
theorem dX6_init_12 : decode cX6_init 12 = .ok (.putfield 12, 3) := by decide +kernel
theorem dX6_init_15 : decode cX6_init 15 = .ok (.aload_n 0, 1) := by decide +kernel
theorem dX6_init_16 : decode cX6_init 16 = .ok (.new 18, 3) := by decide +kernel
theorem dX6_init_19 : decode cX6_init 19 = .ok (.dup, 1) := by decide +kernel
theorem dX6_init_20 : decode cX6_init 20 = .ok (.aload_n 0, 1) := by decide +kernel
theorem dX6_init_21 : decode cX6_init 21 = .ok (.getfield 12, 3) := by decide +kernel
theorem dX6_init_24 : decode cX6_init 24 = .ok (.invokespecial 20, 3) := by decide +kernel
theorem dX6_init_27 : decode cX6_init 27 = .ok (.putfield 23, 3) := by decide +kernel
theorem dX6_init_30 : decode cX6_init 30 = .ok (.aload_n 0, 1) := by decide +kernel
theorem dX6_init_31 : decode cX6_init 31 = .ok (.new 27, 3) := by decide +kernel
theorem dX6_init_34 : decode cX6_init 34 = .ok (.dup, 1) := by decide +kernel
theorem dX6_init_35 : decode cX6_init 35 = .ok (.aload_n 0, 1) := by decide +kernel
theorem dX6_init_36 : decode cX6_init 36 = .ok (.getfield 12, 3) := by decide +kernel
theorem dX6_init_39 : decode cX6_init 39 = .ok (.invokespecial 29, 3) := by decide +kernel
theorem dX6_init_42 : decode cX6_init 42 = .ok (.putfield 30, 3) := by decide +kernel
theorem dX6_init_45 : decode cX6_init 45 = .ok (.aload_n 0, 1) := by decide +kernel
theorem dX6_init_46 : decode cX6_init 46 = .ok (.new 34, 3) := by decide +kernel
theorem dX6_init_49 : decode cX6_init 49 = .ok (.dup, 1) := by decide +kernel
theorem dX6_init_50 : decode cX6_init 50 = .ok (.invokespecial 36, 3) := by decide +kernel
theorem dX6_init_53 : decode cX6_init 53 = .ok (.putfield 37, 3) := by decide +kernel
theorem dX6_init_56 : decode cX6_init 56 = .ok (.aload_n 0, 1) := by decide +kernel
theorem dX6_init_57 : decode cX6_init 57 = .ok (.new 41, 3) := by decide +kernel
theorem dX6_init_60 : decode cX6_init 60 = .ok (.dup, 1) := by decide +kernel
theorem dX6_init_61 : decode cX6_init 61 = .ok (.invokespecial 43, 3) := by decide +kernel
theorem dX6_init_64 : decode cX6_init 64 = .ok (.putfield 44, 3) := by decide +kernel
theorem dX6_init_67 : decode cX6_init 67 = .ok (.aload_n 0, 1) := by decide +kernel
theorem dX6_init_68 : decode cX6_init 68 = .ok (.new 48, 3) := by decide +kernel
theorem dX6_init_71 : decode cX6_init 71 = .ok (.dup, 1) := by decide +kernel
theorem dX6_init_72 : decode cX6_init 72 = .ok (.invokespecial 50, 3) := by decide +kernel
theorem dX6_init_75 : decode cX6_init 75 = .ok (.putfield 51, 3) := by decide +kernel
theorem dX6_init_78 : decode cX6_init 78 = .ok (.aload_n 0, 1) := by decide +kernel
theorem dX6_init_79 : decode cX6_init 79 = .ok (.iconst 4, 1) := by decide +kernel
theorem dX6_init_80 : decode cX6_init 80 = .ok (.newarray .int, 2) := by decide +kernel
theorem dX6_init_82 : decode cX6_init 82 = .ok (.putfield 55, 3) := by decide +kernel
theorem dX6_init_85 : decode cX6_init 85 = .ok (.aload_n 0, 1) := by decide +kernel
theorem dX6_init_86 : decode cX6_init 86 = .ok (.iconst 4, 1) := by decide +kernel
theorem dX6_init_87 : decode cX6_init 87 = .ok (.newarray .int, 2) := by decide +kernel
theorem dX6_init_89 : decode cX6_init 89 = .ok (.putfield 59, 3) := by decide +kernel
theorem dX6_init_92 : decode cX6_init 92 = .ok (.aload_n 0, 1) := by decide +kernel
theorem dX6_init_93 : decode cX6_init 93 = .ok (.iconst 0, 1) := by decide +kernel
theorem dX6_init_94 : decode cX6_init 94 = .ok (.putfield 62, 3) := by decide +kernel
theorem dX6_init_97 : decode cX6_init 97 = .ok (.aload_n 0, 1) := by decide +kernel
theorem dX6_init_98 : decode cX6_init 98 = .ok (.aload_n 0, 1) := by decide +kernel
theorem dX6_init_99 : decode cX6_init 99 = .ok (.getfield 12, 3) := by decide +kernel
theorem dX6_init_102 : decode cX6_init 102 = .ok (.iconst 3, 1) := by decide +kernel
theorem dX6_init_103 : decode cX6_init 103 = .ok (.invokevirtual 66, 3) := by decide +kernel
theorem dX6_init_106 : decode cX6_init 106 = .ok (.putfield 70, 3) := by decide +kernel
theorem dX6_init_109 : decode cX6_init 109 = .ok (.return_, 1) := by decide +kernel
theorem dX6_nodes_0 : decode cX6_nodes 0 = .ok (.iload_n 1, 1) := by decide +kernel
theorem dX6_nodes_1 : decode cX6_nodes 1 = .ok (.invokestatic 73, 3) := by decide +kernel
theorem dX6_nodes_4 : decode cX6_nodes 4 = .ok (.ifCond .ne 6, 3) := by decide +kernel
theorem dX6_nodes_7 : decode cX6_nodes 7 = .ok (.bipush (-2), 2) := by decide +kernel
theorem dX6_nodes_9 : decode cX6_nodes 9 = .ok (.ireturn, 1) := by decide +kernel
theorem dX6_nodes_10 : decode cX6_nodes 10 = .ok (.aload_n 0, 1) := by decide +kernel
theorem dX6_nodes_11 : decode cX6_nodes 11 = .ok (.invokevirtual 77, 3) := by decide +kernel
theorem dX6_nodes_14 : decode cX6_nodes 14 = .ok (.istore_n 2, 1) := by decide +kernel
theorem dX6_nodes_15 : decode cX6_nodes 15 = .ok (.aload_n 0, 1) := by decide +kernel
theorem dX6_nodes_16 : decode cX6_nodes 16 = .ok (.aload_n 0, 1) := by decide +kernel
theorem dX6_nodes_17 : decode cX6_nodes 17 = .ok (.getfield 12, 3) := by decide +kernel
theorem dX6_nodes_20 : decode cX6_nodes 20 = .ok (.iload_n 1, 1) := by decide +kernel
theorem dX6_nodes_21 : decode cX6_nodes 21 = .ok (.invokevirtual 66, 3) := by decide +kernel
theorem dX6_nodes_24 : decode cX6_nodes 24 = .ok (.putfield 70, 3) := by decide +kernel
theorem dX6_nodes_27 : decode cX6_nodes 27 = .ok (.aload_n 0, 1) := by decide +kernel
theorem dX6_nodes_28 : decode cX6_nodes 28 = .ok (.getfield 37, 3) := by decide +kernel
theorem dX6_nodes_31 : decode cX6_nodes 31 = .ok (.invokevirtual 81, 3) := by decide +kernel
theorem dX6_nodes_34 : decode cX6_nodes 34 = .ok (.iload_n 2, 1) := by decide +kernel
theorem dX6_nodes_35 : decode cX6_nodes 35 = .ok (.ireturn, 1) := by decide +kernel
theorem dX6_row_0 : decode cX6_row 0 = .ok (.aload_n 0, 1) := by decide +kernel
theorem dX6_row_1 : decode cX6_row 1 = .ok (.getfield 12, 3) := by decide +kernel
theorem dX6_row_4 : decode cX6_row 4 = .ok (.aload_n 0, 1) := by decide +kernel
theorem dX6_row_5 : decode cX6_row 5 = .ok (.invokevirtual 77, 3) := by decide +kernel
theorem dX6_row_8 : decode cX6_row 8 = .ok (.iload_n 1, 1) := by decide +kernel
theorem dX6_row_9 : decode cX6_row 9 = .ok (.invokevirtual 84, 3) := by decide +kernel
theorem dX6_row_12 : decode cX6_row 12 = .ok (.istore_n 2, 1) := by decide +kernel
theorem dX6_row_13 : decode cX6_row 13 = .ok (.iload_n 2, 1) := by decide +kernel
theorem dX6_row_14 : decode cX6_row 14 = .ok (.ifCond .ne 6, 3) := by decide +kernel
theorem dX6_row_17 : decode cX6_row 17 = .ok (.bipush (-2), 2) := by decide +kernel
theorem dX6_row_19 : decode cX6_row 19 = .ok (.ireturn, 1) := by decide +kernel
theorem dX6_row_20 : decode cX6_row 20 = .ok (.aload_n 0, 1) := by decide +kernel
theorem dX6_row_21 : decode cX6_row 21 = .ok (.iload_n 2, 1) := by decide +kernel
theorem dX6_row_22 : decode cX6_row 22 = .ok (.invokevirtual 88, 3) := by decide +kernel
theorem dX6_row_25 : decode cX6_row 25 = .ok (.ireturn, 1) := by decide +kernel
theorem dX6_of_0 : decode cX6_of 0 = .ok (.aload_n 0, 1) := by decide +kernel
theorem dX6_of_1 : decode cX6_of 1 = .ok (.iload_n 1, 1) := by decide +kernel
theorem dX6_of_2 : decode cX6_of 2 = .ok (.invokevirtual 91, 3) := by decide +kernel
theorem dX6_of_5 : decode cX6_of 5 = .ok (.ifCond .ne 5, 3) := by decide +kernel
theorem dX6_of_8 : decode cX6_of 8 = .ok (.iconst (-1), 1) := by decide +kernel
theorem dX6_of_9 : decode cX6_of 9 = .ok (.ireturn, 1) := by decide +kernel
theorem dX6_of_10 : decode cX6_of 10 = .ok (.iload_n 2, 1) := by decide +kernel
theorem dX6_of_11 : decode cX6_of 11 = .ok (.tableswitch 115 0 5 #[37, 50, 63, 76, 89, 102], 37) := by decide +kernel
theorem dX6_of_48 : decode cX6_of 48 = .ok (.aload_n 0, 1) := by decide +kernel
theorem dX6_of_49 : decode cX6_of 49 = .ok (.getfield 12, 3) := by decide +kernel
theorem dX6_of_52 : decode cX6_of 52 = .ok (.aload_n 0, 1) := by decide +kernel
theorem dX6_of_53 : decode cX6_of 53 = .ok (.getfield 70, 3) := by decide +kernel
theorem dX6_of_56 : decode cX6_of 56 = .ok (.iload_n 1, 1) := by decide +kernel
theorem dX6_of_57 : decode cX6_of 57 = .ok (.invokevirtual 94, 3) := by decide +kernel
theorem dX6_of_60 : decode cX6_of 60 = .ok (.ireturn, 1) := by decide +kernel
theorem dX6_of_61 : decode cX6_of 61 = .ok (.aload_n 0, 1) := by decide +kernel
theorem dX6_of_62 : decode cX6_of 62 = .ok (.getfield 12, 3) := by decide +kernel
theorem dX6_of_65 : decode cX6_of 65 = .ok (.aload_n 0, 1) := by decide +kernel
theorem dX6_of_66 : decode cX6_of 66 = .ok (.getfield 70, 3) := by decide +kernel
theorem dX6_of_69 : decode cX6_of 69 = .ok (.iload_n 1, 1) := by decide +kernel
theorem dX6_of_70 : decode cX6_of 70 = .ok (.invokevirtual 97, 3) := by decide +kernel
theorem dX6_of_73 : decode cX6_of 73 = .ok (.ireturn, 1) := by decide +kernel
theorem dX6_of_74 : decode cX6_of 74 = .ok (.aload_n 0, 1) := by decide +kernel
theorem dX6_of_75 : decode cX6_of 75 = .ok (.getfield 12, 3) := by decide +kernel
theorem dX6_of_78 : decode cX6_of 78 = .ok (.aload_n 0, 1) := by decide +kernel
theorem dX6_of_79 : decode cX6_of 79 = .ok (.getfield 70, 3) := by decide +kernel
theorem dX6_of_82 : decode cX6_of 82 = .ok (.iload_n 1, 1) := by decide +kernel
theorem dX6_of_83 : decode cX6_of 83 = .ok (.invokevirtual 100, 3) := by decide +kernel
theorem dX6_of_86 : decode cX6_of 86 = .ok (.ireturn, 1) := by decide +kernel
theorem dX6_of_87 : decode cX6_of 87 = .ok (.aload_n 0, 1) := by decide +kernel
theorem dX6_of_88 : decode cX6_of 88 = .ok (.getfield 12, 3) := by decide +kernel
theorem dX6_of_91 : decode cX6_of 91 = .ok (.aload_n 0, 1) := by decide +kernel
theorem dX6_of_92 : decode cX6_of 92 = .ok (.getfield 70, 3) := by decide +kernel
theorem dX6_of_95 : decode cX6_of 95 = .ok (.iload_n 1, 1) := by decide +kernel
theorem dX6_of_96 : decode cX6_of 96 = .ok (.invokevirtual 103, 3) := by decide +kernel
theorem dX6_of_99 : decode cX6_of 99 = .ok (.ireturn, 1) := by decide +kernel
theorem dX6_of_100 : decode cX6_of 100 = .ok (.aload_n 0, 1) := by decide +kernel
theorem dX6_of_101 : decode cX6_of 101 = .ok (.getfield 12, 3) := by decide +kernel
theorem dX6_of_104 : decode cX6_of 104 = .ok (.aload_n 0, 1) := by decide +kernel
theorem dX6_of_105 : decode cX6_of 105 = .ok (.getfield 70, 3) := by decide +kernel
theorem dX6_of_108 : decode cX6_of 108 = .ok (.iload_n 1, 1) := by decide +kernel
theorem dX6_of_109 : decode cX6_of 109 = .ok (.invokevirtual 106, 3) := by decide +kernel
theorem dX6_of_112 : decode cX6_of 112 = .ok (.ireturn, 1) := by decide +kernel
theorem dX6_of_113 : decode cX6_of 113 = .ok (.aload_n 0, 1) := by decide +kernel
theorem dX6_of_114 : decode cX6_of 114 = .ok (.getfield 12, 3) := by decide +kernel
theorem dX6_of_117 : decode cX6_of 117 = .ok (.aload_n 0, 1) := by decide +kernel
theorem dX6_of_118 : decode cX6_of 118 = .ok (.getfield 70, 3) := by decide +kernel
theorem dX6_of_121 : decode cX6_of 121 = .ok (.iload_n 1, 1) := by decide +kernel
theorem dX6_of_122 : decode cX6_of 122 = .ok (.invokevirtual 109, 3) := by decide +kernel
theorem dX6_of_125 : decode cX6_of 125 = .ok (.ireturn, 1) := by decide +kernel
theorem dX6_of_126 : decode cX6_of 126 = .ok (.iconst (-1), 1) := by decide +kernel
theorem dX6_of_127 : decode cX6_of 127 = .ok (.ireturn, 1) := by decide +kernel
theorem dX6_number_0 : decode cX6_number 0 = .ok (.iload_n 1, 1) := by decide +kernel
theorem dX6_number_1 : decode cX6_number 1 = .ok (.ifCond .lt 18, 3) := by decide +kernel
theorem dX6_number_4 : decode cX6_number 4 = .ok (.iload_n 1, 1) := by decide +kernel
theorem dX6_number_5 : decode cX6_number 5 = .ok (.aload_n 0, 1) := by decide +kernel
theorem dX6_number_6 : decode cX6_number 6 = .ok (.getfield 12, 3) := by decide +kernel
theorem dX6_number_9 : decode cX6_number 9 = .ok (.aload_n 0, 1) := by decide +kernel
theorem dX6_number_10 : decode cX6_number 10 = .ok (.invokevirtual 77, 3) := by decide +kernel
theorem dX6_number_13 : decode cX6_number 13 = .ok (.invokevirtual 112, 3) := by decide +kernel
theorem dX6_number_16 : decode cX6_number 16 = .ok (.if_icmp .lt 5, 3) := by decide +kernel
theorem dX6_number_19 : decode cX6_number 19 = .ok (.iconst (-1), 1) := by decide +kernel
theorem dX6_number_20 : decode cX6_number 20 = .ok (.ireturn, 1) := by decide +kernel
theorem dX6_number_21 : decode cX6_number 21 = .ok (.aload_n 0, 1) := by decide +kernel
theorem dX6_number_22 : decode cX6_number 22 = .ok (.getfield 12, 3) := by decide +kernel
theorem dX6_number_25 : decode cX6_number 25 = .ok (.aload_n 0, 1) := by decide +kernel
theorem dX6_number_26 : decode cX6_number 26 = .ok (.getfield 70, 3) := by decide +kernel
theorem dX6_number_29 : decode cX6_number 29 = .ok (.invokevirtual 115, 3) := by decide +kernel
theorem dX6_number_32 : decode cX6_number 32 = .ok (.istore_n 2, 1) := by decide +kernel
theorem dX6_number_33 : decode cX6_number 33 = .ok (.aload_n 0, 1) := by decide +kernel
theorem dX6_number_34 : decode cX6_number 34 = .ok (.aload_n 0, 1) := by decide +kernel
theorem dX6_number_35 : decode cX6_number 35 = .ok (.getfield 12, 3) := by decide +kernel
theorem dX6_number_38 : decode cX6_number 38 = .ok (.aload_n 0, 1) := by decide +kernel
theorem dX6_number_39 : decode cX6_number 39 = .ok (.invokevirtual 77, 3) := by decide +kernel
theorem dX6_number_42 : decode cX6_number 42 = .ok (.invokevirtual 66, 3) := by decide +kernel
theorem dX6_number_45 : decode cX6_number 45 = .ok (.iload_n 1, 1) := by decide +kernel
theorem dX6_number_46 : decode cX6_number 46 = .ok (.iadd, 1) := by decide +kernel
theorem dX6_number_47 : decode cX6_number 47 = .ok (.invokevirtual 118, 3) := by decide +kernel
theorem dX6_number_50 : decode cX6_number 50 = .ok (.iload_n 2, 1) := by decide +kernel
theorem dX6_number_51 : decode cX6_number 51 = .ok (.ireturn, 1) := by decide +kernel
theorem dX6_which_0 : decode cX6_which 0 = .ok (.aload_n 0, 1) := by decide +kernel
theorem dX6_which_1 : decode cX6_which 1 = .ok (.getfield 12, 3) := by decide +kernel
theorem dX6_which_4 : decode cX6_which 4 = .ok (.aload_n 0, 1) := by decide +kernel
theorem dX6_which_5 : decode cX6_which 5 = .ok (.getfield 70, 3) := by decide +kernel
theorem dX6_which_8 : decode cX6_which 8 = .ok (.invokevirtual 115, 3) := by decide +kernel
theorem dX6_which_11 : decode cX6_which 11 = .ok (.ireturn, 1) := by decide +kernel
theorem dX6_many_0 : decode cX6_many 0 = .ok (.iload_n 1, 1) := by decide +kernel
theorem dX6_many_1 : decode cX6_many 1 = .ok (.invokestatic 73, 3) := by decide +kernel
theorem dX6_many_4 : decode cX6_many 4 = .ok (.ifCond .eq 14, 3) := by decide +kernel
theorem dX6_many_7 : decode cX6_many 7 = .ok (.aload_n 0, 1) := by decide +kernel
theorem dX6_many_8 : decode cX6_many 8 = .ok (.getfield 12, 3) := by decide +kernel
theorem dX6_many_11 : decode cX6_many 11 = .ok (.iload_n 1, 1) := by decide +kernel
theorem dX6_many_12 : decode cX6_many 12 = .ok (.invokevirtual 112, 3) := by decide +kernel
theorem dX6_many_15 : decode cX6_many 15 = .ok (.goto 5, 3) := by decide +kernel
theorem dX6_many_18 : decode cX6_many 18 = .ok (.bipush (-2), 2) := by decide +kernel
theorem dX6_many_20 : decode cX6_many 20 = .ok (.ireturn, 1) := by decide +kernel
theorem dX6_digits_0 : decode cX6_digits 0 = .ok (.aload_n 0, 1) := by decide +kernel
theorem dX6_digits_1 : decode cX6_digits 1 = .ok (.getfield 12, 3) := by decide +kernel
theorem dX6_digits_4 : decode cX6_digits 4 = .ok (.aload_n 0, 1) := by decide +kernel
theorem dX6_digits_5 : decode cX6_digits 5 = .ok (.getfield 70, 3) := by decide +kernel
theorem dX6_digits_8 : decode cX6_digits 8 = .ok (.invokevirtual 122, 3) := by decide +kernel
theorem dX6_digits_11 : decode cX6_digits 11 = .ok (.ireturn, 1) := by decide +kernel
theorem dX6_turn_0 : decode cX6_turn 0 = .ok (.aload_n 0, 1) := by decide +kernel
theorem dX6_turn_1 : decode cX6_turn 1 = .ok (.iload_n 1, 1) := by decide +kernel
theorem dX6_turn_2 : decode cX6_turn 2 = .ok (.invokevirtual 91, 3) := by decide +kernel
theorem dX6_turn_5 : decode cX6_turn 5 = .ok (.ifCond .ne 5, 3) := by decide +kernel
theorem dX6_turn_8 : decode cX6_turn 8 = .ok (.iconst (-1), 1) := by decide +kernel
theorem dX6_turn_9 : decode cX6_turn 9 = .ok (.ireturn, 1) := by decide +kernel
theorem dX6_turn_10 : decode cX6_turn 10 = .ok (.aload_n 0, 1) := by decide +kernel
theorem dX6_turn_11 : decode cX6_turn 11 = .ok (.getfield 12, 3) := by decide +kernel
theorem dX6_turn_14 : decode cX6_turn 14 = .ok (.aload_n 0, 1) := by decide +kernel
theorem dX6_turn_15 : decode cX6_turn 15 = .ok (.getfield 70, 3) := by decide +kernel
theorem dX6_turn_18 : decode cX6_turn 18 = .ok (.iload_n 1, 1) := by decide +kernel
theorem dX6_turn_19 : decode cX6_turn 19 = .ok (.invokevirtual 125, 3) := by decide +kernel
theorem dX6_turn_22 : decode cX6_turn 22 = .ok (.istore_n 2, 1) := by decide +kernel
theorem dX6_turn_23 : decode cX6_turn 23 = .ok (.iload_n 2, 1) := by decide +kernel
theorem dX6_turn_24 : decode cX6_turn 24 = .ok (.ifCond .ne 8, 3) := by decide +kernel
theorem dX6_turn_27 : decode cX6_turn 27 = .ok (.bipush (-5), 2) := by decide +kernel
theorem dX6_turn_29 : decode cX6_turn 29 = .ok (.goto 8, 3) := by decide +kernel
theorem dX6_turn_32 : decode cX6_turn 32 = .ok (.aload_n 0, 1) := by decide +kernel
theorem dX6_turn_33 : decode cX6_turn 33 = .ok (.iload_n 2, 1) := by decide +kernel
theorem dX6_turn_34 : decode cX6_turn 34 = .ok (.invokevirtual 88, 3) := by decide +kernel
theorem dX6_turn_37 : decode cX6_turn 37 = .ok (.ireturn, 1) := by decide +kernel
theorem dX6_back_0 : decode cX6_back 0 = .ok (.aload_n 0, 1) := by decide +kernel
theorem dX6_back_1 : decode cX6_back 1 = .ok (.iload_n 1, 1) := by decide +kernel
theorem dX6_back_2 : decode cX6_back 2 = .ok (.invokevirtual 91, 3) := by decide +kernel
theorem dX6_back_5 : decode cX6_back 5 = .ok (.ifCond .ne 5, 3) := by decide +kernel
theorem dX6_back_8 : decode cX6_back 8 = .ok (.iconst (-1), 1) := by decide +kernel
theorem dX6_back_9 : decode cX6_back 9 = .ok (.ireturn, 1) := by decide +kernel
theorem dX6_back_10 : decode cX6_back 10 = .ok (.aload_n 0, 1) := by decide +kernel
theorem dX6_back_11 : decode cX6_back 11 = .ok (.getfield 12, 3) := by decide +kernel
theorem dX6_back_14 : decode cX6_back 14 = .ok (.aload_n 0, 1) := by decide +kernel
theorem dX6_back_15 : decode cX6_back 15 = .ok (.getfield 70, 3) := by decide +kernel
theorem dX6_back_18 : decode cX6_back 18 = .ok (.iload_n 1, 1) := by decide +kernel
theorem dX6_back_19 : decode cX6_back 19 = .ok (.invokevirtual 128, 3) := by decide +kernel
theorem dX6_back_22 : decode cX6_back 22 = .ok (.istore_n 2, 1) := by decide +kernel
theorem dX6_back_23 : decode cX6_back 23 = .ok (.iload_n 2, 1) := by decide +kernel
theorem dX6_back_24 : decode cX6_back 24 = .ok (.ifCond .ne 8, 3) := by decide +kernel
theorem dX6_back_27 : decode cX6_back 27 = .ok (.bipush (-5), 2) := by decide +kernel
theorem dX6_back_29 : decode cX6_back 29 = .ok (.goto 8, 3) := by decide +kernel
theorem dX6_back_32 : decode cX6_back 32 = .ok (.aload_n 0, 1) := by decide +kernel
theorem dX6_back_33 : decode cX6_back 33 = .ok (.iload_n 2, 1) := by decide +kernel
theorem dX6_back_34 : decode cX6_back 34 = .ok (.invokevirtual 88, 3) := by decide +kernel
theorem dX6_back_37 : decode cX6_back 37 = .ok (.ireturn, 1) := by decide +kernel
theorem dX6_mayTurn_0 : decode cX6_mayTurn 0 = .ok (.iload_n 1, 1) := by decide +kernel
theorem dX6_mayTurn_1 : decode cX6_mayTurn 1 = .ok (.tableswitch 85 0 3 #[31, 46, 61, 73], 31) := by decide +kernel
theorem dX6_mayTurn_32 : decode cX6_mayTurn 32 = .ok (.aload_n 0, 1) := by decide +kernel
theorem dX6_mayTurn_33 : decode cX6_mayTurn 33 = .ok (.getfield 12, 3) := by decide +kernel
theorem dX6_mayTurn_36 : decode cX6_mayTurn 36 = .ok (.aload_n 0, 1) := by decide +kernel
theorem dX6_mayTurn_37 : decode cX6_mayTurn 37 = .ok (.getfield 70, 3) := by decide +kernel
theorem dX6_mayTurn_40 : decode cX6_mayTurn 40 = .ok (.invokevirtual 131, 3) := by decide +kernel
theorem dX6_mayTurn_43 : decode cX6_mayTurn 43 = .ok (.invokestatic 134, 3) := by decide +kernel
theorem dX6_mayTurn_46 : decode cX6_mayTurn 46 = .ok (.ireturn, 1) := by decide +kernel
theorem dX6_mayTurn_47 : decode cX6_mayTurn 47 = .ok (.aload_n 0, 1) := by decide +kernel
theorem dX6_mayTurn_48 : decode cX6_mayTurn 48 = .ok (.getfield 12, 3) := by decide +kernel
theorem dX6_mayTurn_51 : decode cX6_mayTurn 51 = .ok (.aload_n 0, 1) := by decide +kernel
theorem dX6_mayTurn_52 : decode cX6_mayTurn 52 = .ok (.getfield 70, 3) := by decide +kernel
theorem dX6_mayTurn_55 : decode cX6_mayTurn 55 = .ok (.invokevirtual 139, 3) := by decide +kernel
theorem dX6_mayTurn_58 : decode cX6_mayTurn 58 = .ok (.invokestatic 134, 3) := by decide +kernel
theorem dX6_mayTurn_61 : decode cX6_mayTurn 61 = .ok (.ireturn, 1) := by decide +kernel
theorem dX6_mayTurn_62 : decode cX6_mayTurn 62 = .ok (.aload_n 0, 1) := by decide +kernel
theorem dX6_mayTurn_63 : decode cX6_mayTurn 63 = .ok (.getfield 12, 3) := by decide +kernel
theorem dX6_mayTurn_66 : decode cX6_mayTurn 66 = .ok (.aload_n 0, 1) := by decide +kernel
theorem dX6_mayTurn_67 : decode cX6_mayTurn 67 = .ok (.getfield 70, 3) := by decide +kernel
theorem dX6_mayTurn_70 : decode cX6_mayTurn 70 = .ok (.invokevirtual 131, 3) := by decide +kernel
theorem dX6_mayTurn_73 : decode cX6_mayTurn 73 = .ok (.ireturn, 1) := by decide +kernel
theorem dX6_mayTurn_74 : decode cX6_mayTurn 74 = .ok (.aload_n 0, 1) := by decide +kernel
theorem dX6_mayTurn_75 : decode cX6_mayTurn 75 = .ok (.getfield 12, 3) := by decide +kernel
theorem dX6_mayTurn_78 : decode cX6_mayTurn 78 = .ok (.aload_n 0, 1) := by decide +kernel
theorem dX6_mayTurn_79 : decode cX6_mayTurn 79 = .ok (.getfield 70, 3) := by decide +kernel
theorem dX6_mayTurn_82 : decode cX6_mayTurn 82 = .ok (.invokevirtual 139, 3) := by decide +kernel
theorem dX6_mayTurn_85 : decode cX6_mayTurn 85 = .ok (.ireturn, 1) := by decide +kernel
theorem dX6_mayTurn_86 : decode cX6_mayTurn 86 = .ok (.iconst (-1), 1) := by decide +kernel
theorem dX6_mayTurn_87 : decode cX6_mayTurn 87 = .ok (.ireturn, 1) := by decide +kernel
theorem dX6_mirror_0 : decode cX6_mirror 0 = .ok (.aload_n 0, 1) := by decide +kernel
theorem dX6_mirror_1 : decode cX6_mirror 1 = .ok (.aload_n 0, 1) := by decide +kernel
theorem dX6_mirror_2 : decode cX6_mirror 2 = .ok (.getfield 12, 3) := by decide +kernel
theorem dX6_mirror_5 : decode cX6_mirror 5 = .ok (.aload_n 0, 1) := by decide +kernel
theorem dX6_mirror_6 : decode cX6_mirror 6 = .ok (.getfield 70, 3) := by decide +kernel
theorem dX6_mirror_9 : decode cX6_mirror 9 = .ok (.invokevirtual 142, 3) := by decide +kernel
theorem dX6_mirror_12 : decode cX6_mirror 12 = .ok (.invokevirtual 88, 3) := by decide +kernel
theorem dX6_mirror_15 : decode cX6_mirror 15 = .ok (.ireturn, 1) := by decide +kernel
theorem dX6_off_0 : decode cX6_off 0 = .ok (.aload_n 0, 1) := by decide +kernel
theorem dX6_off_1 : decode cX6_off 1 = .ok (.getfield 37, 3) := by decide +kernel
theorem dX6_off_4 : decode cX6_off 4 = .ok (.invokevirtual 145, 3) := by decide +kernel
theorem dX6_off_7 : decode cX6_off 7 = .ok (.istore_n 1, 1) := by decide +kernel
theorem dX6_off_8 : decode cX6_off 8 = .ok (.iload_n 1, 1) := by decide +kernel
theorem dX6_off_9 : decode cX6_off 9 = .ok (.ifCond .ne 6, 3) := by decide +kernel
theorem dX6_off_12 : decode cX6_off 12 = .ok (.bipush (-3), 2) := by decide +kernel
theorem dX6_off_14 : decode cX6_off 14 = .ok (.ireturn, 1) := by decide +kernel
theorem dX6_off_15 : decode cX6_off 15 = .ok (.aload_n 0, 1) := by decide +kernel
theorem dX6_off_16 : decode cX6_off 16 = .ok (.iload_n 1, 1) := by decide +kernel
theorem dX6_off_17 : decode cX6_off 17 = .ok (.putfield 70, 3) := by decide +kernel
theorem dX6_off_20 : decode cX6_off 20 = .ok (.aload_n 0, 1) := by decide +kernel
theorem dX6_off_21 : decode cX6_off 21 = .ok (.getfield 37, 3) := by decide +kernel
theorem dX6_off_24 : decode cX6_off 24 = .ok (.invokevirtual 148, 3) := by decide +kernel
theorem dX6_off_27 : decode cX6_off 27 = .ok (.ireturn, 1) := by decide +kernel
theorem dX6_below_0 : decode cX6_below 0 = .ok (.aload_n 0, 1) := by decide +kernel
theorem dX6_below_1 : decode cX6_below 1 = .ok (.iload_n 1, 1) := by decide +kernel
theorem dX6_below_2 : decode cX6_below 2 = .ok (.iload_n 2, 1) := by decide +kernel
theorem dX6_below_3 : decode cX6_below 3 = .ok (.invokevirtual 151, 3) := by decide +kernel
theorem dX6_below_6 : decode cX6_below 6 = .ok (.istore_n 3, 1) := by decide +kernel
theorem dX6_below_7 : decode cX6_below 7 = .ok (.iload_n 3, 1) := by decide +kernel
theorem dX6_below_8 : decode cX6_below 8 = .ok (.ifCond .eq 5, 3) := by decide +kernel
theorem dX6_below_11 : decode cX6_below 11 = .ok (.iload_n 3, 1) := by decide +kernel
theorem dX6_below_12 : decode cX6_below 12 = .ok (.ireturn, 1) := by decide +kernel
theorem dX6_below_13 : decode cX6_below 13 = .ok (.aload_n 0, 1) := by decide +kernel
theorem dX6_below_14 : decode cX6_below 14 = .ok (.getfield 55, 3) := by decide +kernel
theorem dX6_below_17 : decode cX6_below 17 = .ok (.iload_n 1, 1) := by decide +kernel
theorem dX6_below_18 : decode cX6_below 18 = .ok (.iaload, 1) := by decide +kernel
theorem dX6_below_19 : decode cX6_below 19 = .ok (.istore 4, 2) := by decide +kernel
theorem dX6_below_21 : decode cX6_below 21 = .ok (.iload_n 2, 1) := by decide +kernel
theorem dX6_below_22 : decode cX6_below 22 = .ok (.ifCond .ne 19, 3) := by decide +kernel
theorem dX6_below_25 : decode cX6_below 25 = .ok (.aload_n 0, 1) := by decide +kernel
theorem dX6_below_26 : decode cX6_below 26 = .ok (.getfield 23, 3) := by decide +kernel
theorem dX6_below_29 : decode cX6_below 29 = .ok (.aload_n 0, 1) := by decide +kernel
theorem dX6_below_30 : decode cX6_below 30 = .ok (.getfield 70, 3) := by decide +kernel
theorem dX6_below_33 : decode cX6_below 33 = .ok (.iload 4, 2) := by decide +kernel
theorem dX6_below_35 : decode cX6_below 35 = .ok (.invokevirtual 154, 3) := by decide +kernel
theorem dX6_below_38 : decode cX6_below 38 = .ok (.goto 16, 3) := by decide +kernel
theorem dX6_below_41 : decode cX6_below 41 = .ok (.aload_n 0, 1) := by decide +kernel
theorem dX6_below_42 : decode cX6_below 42 = .ok (.getfield 23, 3) := by decide +kernel
theorem dX6_below_45 : decode cX6_below 45 = .ok (.iload 4, 2) := by decide +kernel
theorem dX6_below_47 : decode cX6_below 47 = .ok (.aload_n 0, 1) := by decide +kernel
theorem dX6_below_48 : decode cX6_below 48 = .ok (.getfield 70, 3) := by decide +kernel
theorem dX6_below_51 : decode cX6_below 51 = .ok (.invokevirtual 154, 3) := by decide +kernel
theorem dX6_below_54 : decode cX6_below 54 = .ok (.istore 5, 2) := by decide +kernel
theorem dX6_below_56 : decode cX6_below 56 = .ok (.iload 5, 2) := by decide +kernel
theorem dX6_below_58 : decode cX6_below 58 = .ok (.ifCond .eq 7, 3) := by decide +kernel
theorem dX6_below_61 : decode cX6_below 61 = .ok (.iconst 1, 1) := by decide +kernel
theorem dX6_below_62 : decode cX6_below 62 = .ok (.goto 4, 3) := by decide +kernel
theorem dX6_below_65 : decode cX6_below 65 = .ok (.iconst 0, 1) := by decide +kernel
theorem dX6_below_66 : decode cX6_below 66 = .ok (.ireturn, 1) := by decide +kernel
theorem dX6_meet_0 : decode cX6_meet 0 = .ok (.aload_n 0, 1) := by decide +kernel
theorem dX6_meet_1 : decode cX6_meet 1 = .ok (.iload_n 1, 1) := by decide +kernel
theorem dX6_meet_2 : decode cX6_meet 2 = .ok (.iload_n 2, 1) := by decide +kernel
theorem dX6_meet_3 : decode cX6_meet 3 = .ok (.invokevirtual 151, 3) := by decide +kernel
theorem dX6_meet_6 : decode cX6_meet 6 = .ok (.istore_n 3, 1) := by decide +kernel
theorem dX6_meet_7 : decode cX6_meet 7 = .ok (.iload_n 3, 1) := by decide +kernel
theorem dX6_meet_8 : decode cX6_meet 8 = .ok (.ifCond .eq 5, 3) := by decide +kernel
theorem dX6_meet_11 : decode cX6_meet 11 = .ok (.iload_n 3, 1) := by decide +kernel
theorem dX6_meet_12 : decode cX6_meet 12 = .ok (.ireturn, 1) := by decide +kernel
theorem dX6_meet_13 : decode cX6_meet 13 = .ok (.aload_n 0, 1) := by decide +kernel
theorem dX6_meet_14 : decode cX6_meet 14 = .ok (.getfield 12, 3) := by decide +kernel
theorem dX6_meet_17 : decode cX6_meet 17 = .ok (.aload_n 0, 1) := by decide +kernel
theorem dX6_meet_18 : decode cX6_meet 18 = .ok (.getfield 23, 3) := by decide +kernel
theorem dX6_meet_21 : decode cX6_meet 21 = .ok (.aload_n 0, 1) := by decide +kernel
theorem dX6_meet_22 : decode cX6_meet 22 = .ok (.getfield 70, 3) := by decide +kernel
theorem dX6_meet_25 : decode cX6_meet 25 = .ok (.aload_n 0, 1) := by decide +kernel
theorem dX6_meet_26 : decode cX6_meet 26 = .ok (.getfield 55, 3) := by decide +kernel
theorem dX6_meet_29 : decode cX6_meet 29 = .ok (.iload_n 1, 1) := by decide +kernel
theorem dX6_meet_30 : decode cX6_meet 30 = .ok (.iaload, 1) := by decide +kernel
theorem dX6_meet_31 : decode cX6_meet 31 = .ok (.iload_n 2, 1) := by decide +kernel
theorem dX6_meet_32 : decode cX6_meet 32 = .ok (.iconst 1, 1) := by decide +kernel
theorem dX6_meet_33 : decode cX6_meet 33 = .ok (.if_icmp .ne 7, 3) := by decide +kernel
theorem dX6_meet_36 : decode cX6_meet 36 = .ok (.iconst 1, 1) := by decide +kernel
theorem dX6_meet_37 : decode cX6_meet 37 = .ok (.goto 4, 3) := by decide +kernel
theorem dX6_meet_40 : decode cX6_meet 40 = .ok (.iconst 0, 1) := by decide +kernel
theorem dX6_meet_41 : decode cX6_meet 41 = .ok (.invokevirtual 158, 3) := by decide +kernel
theorem dX6_meet_44 : decode cX6_meet 44 = .ok (.invokevirtual 115, 3) := by decide +kernel
theorem dX6_meet_47 : decode cX6_meet 47 = .ok (.ireturn, 1) := by decide +kernel
theorem dX6_meetAll_0 : decode cX6_meetAll 0 = .ok (.iload_n 1, 1) := by decide +kernel
theorem dX6_meetAll_1 : decode cX6_meetAll 1 = .ok (.ifCond .lt 8, 3) := by decide +kernel
theorem dX6_meetAll_4 : decode cX6_meetAll 4 = .ok (.iload_n 1, 1) := by decide +kernel
theorem dX6_meetAll_5 : decode cX6_meetAll 5 = .ok (.iconst 1, 1) := by decide +kernel
theorem dX6_meetAll_6 : decode cX6_meetAll 6 = .ok (.if_icmp .le 5, 3) := by decide +kernel
theorem dX6_meetAll_9 : decode cX6_meetAll 9 = .ok (.iconst (-1), 1) := by decide +kernel
theorem dX6_meetAll_10 : decode cX6_meetAll 10 = .ok (.ireturn, 1) := by decide +kernel
theorem dX6_meetAll_11 : decode cX6_meetAll 11 = .ok (.aload_n 0, 1) := by decide +kernel
theorem dX6_meetAll_12 : decode cX6_meetAll 12 = .ok (.getfield 70, 3) := by decide +kernel
theorem dX6_meetAll_15 : decode cX6_meetAll 15 = .ok (.istore_n 2, 1) := by decide +kernel
theorem dX6_meetAll_16 : decode cX6_meetAll 16 = .ok (.aload_n 0, 1) := by decide +kernel
theorem dX6_meetAll_17 : decode cX6_meetAll 17 = .ok (.getfield 55, 3) := by decide +kernel
theorem dX6_meetAll_20 : decode cX6_meetAll 20 = .ok (.astore_n 3, 1) := by decide +kernel
theorem dX6_meetAll_21 : decode cX6_meetAll 21 = .ok (.aload_n 3, 1) := by decide +kernel
theorem dX6_meetAll_22 : decode cX6_meetAll 22 = .ok (.arraylength, 1) := by decide +kernel
theorem dX6_meetAll_23 : decode cX6_meetAll 23 = .ok (.istore 4, 2) := by decide +kernel
theorem dX6_meetAll_25 : decode cX6_meetAll 25 = .ok (.iconst 0, 1) := by decide +kernel
theorem dX6_meetAll_26 : decode cX6_meetAll 26 = .ok (.istore 5, 2) := by decide +kernel
theorem dX6_meetAll_28 : decode cX6_meetAll 28 = .ok (.iload 5, 2) := by decide +kernel
theorem dX6_meetAll_30 : decode cX6_meetAll 30 = .ok (.iload 4, 2) := by decide +kernel
theorem dX6_meetAll_32 : decode cX6_meetAll 32 = .ok (.if_icmp .ge 52, 3) := by decide +kernel
theorem dX6_meetAll_35 : decode cX6_meetAll 35 = .ok (.aload_n 3, 1) := by decide +kernel
theorem dX6_meetAll_36 : decode cX6_meetAll 36 = .ok (.iload 5, 2) := by decide +kernel
theorem dX6_meetAll_38 : decode cX6_meetAll 38 = .ok (.iaload, 1) := by decide +kernel
theorem dX6_meetAll_39 : decode cX6_meetAll 39 = .ok (.istore 6, 2) := by decide +kernel
theorem dX6_meetAll_41 : decode cX6_meetAll 41 = .ok (.aload_n 0, 1) := by decide +kernel
theorem dX6_meetAll_42 : decode cX6_meetAll 42 = .ok (.getfield 12, 3) := by decide +kernel
theorem dX6_meetAll_45 : decode cX6_meetAll 45 = .ok (.iload 6, 2) := by decide +kernel
theorem dX6_meetAll_47 : decode cX6_meetAll 47 = .ok (.invokevirtual 162, 3) := by decide +kernel
theorem dX6_meetAll_50 : decode cX6_meetAll 50 = .ok (.aload_n 0, 1) := by decide +kernel
theorem dX6_meetAll_51 : decode cX6_meetAll 51 = .ok (.invokevirtual 77, 3) := by decide +kernel
theorem dX6_meetAll_54 : decode cX6_meetAll 54 = .ok (.if_icmp .ne 24, 3) := by decide +kernel
theorem dX6_meetAll_57 : decode cX6_meetAll 57 = .ok (.aload_n 0, 1) := by decide +kernel
theorem dX6_meetAll_58 : decode cX6_meetAll 58 = .ok (.getfield 23, 3) := by decide +kernel
theorem dX6_meetAll_61 : decode cX6_meetAll 61 = .ok (.iload_n 2, 1) := by decide +kernel
theorem dX6_meetAll_62 : decode cX6_meetAll 62 = .ok (.iload 6, 2) := by decide +kernel
theorem dX6_meetAll_64 : decode cX6_meetAll 64 = .ok (.iload_n 1, 1) := by decide +kernel
theorem dX6_meetAll_65 : decode cX6_meetAll 65 = .ok (.iconst 1, 1) := by decide +kernel
theorem dX6_meetAll_66 : decode cX6_meetAll 66 = .ok (.if_icmp .ne 7, 3) := by decide +kernel
theorem dX6_meetAll_69 : decode cX6_meetAll 69 = .ok (.iconst 1, 1) := by decide +kernel
theorem dX6_meetAll_70 : decode cX6_meetAll 70 = .ok (.goto 4, 3) := by decide +kernel
theorem dX6_meetAll_73 : decode cX6_meetAll 73 = .ok (.iconst 0, 1) := by decide +kernel
theorem dX6_meetAll_74 : decode cX6_meetAll 74 = .ok (.invokevirtual 158, 3) := by decide +kernel
theorem dX6_meetAll_77 : decode cX6_meetAll 77 = .ok (.istore_n 2, 1) := by decide +kernel
theorem dX6_meetAll_78 : decode cX6_meetAll 78 = .ok (.iinc 5 1, 3) := by decide +kernel
theorem dX6_meetAll_81 : decode cX6_meetAll 81 = .ok (.goto (-53), 3) := by decide +kernel
theorem dX6_meetAll_84 : decode cX6_meetAll 84 = .ok (.aload_n 0, 1) := by decide +kernel
theorem dX6_meetAll_85 : decode cX6_meetAll 85 = .ok (.getfield 12, 3) := by decide +kernel
theorem dX6_meetAll_88 : decode cX6_meetAll 88 = .ok (.iload_n 2, 1) := by decide +kernel
theorem dX6_meetAll_89 : decode cX6_meetAll 89 = .ok (.invokevirtual 115, 3) := by decide +kernel
theorem dX6_meetAll_92 : decode cX6_meetAll 92 = .ok (.ireturn, 1) := by decide +kernel
theorem dX6_between_0 : decode cX6_between 0 = .ok (.iload_n 2, 1) := by decide +kernel
theorem dX6_between_1 : decode cX6_between 1 = .ok (.iconst (-1), 1) := by decide +kernel
theorem dX6_between_2 : decode cX6_between 2 = .ok (.if_icmp .ge 5, 3) := by decide +kernel
theorem dX6_between_5 : decode cX6_between 5 = .ok (.iconst (-1), 1) := by decide +kernel
theorem dX6_between_6 : decode cX6_between 6 = .ok (.ireturn, 1) := by decide +kernel
theorem dX6_between_7 : decode cX6_between 7 = .ok (.aload_n 0, 1) := by decide +kernel
theorem dX6_between_8 : decode cX6_between 8 = .ok (.iload_n 1, 1) := by decide +kernel
theorem dX6_between_9 : decode cX6_between 9 = .ok (.invokevirtual 165, 3) := by decide +kernel
theorem dX6_between_12 : decode cX6_between 12 = .ok (.istore_n 3, 1) := by decide +kernel
theorem dX6_between_13 : decode cX6_between 13 = .ok (.iload_n 3, 1) := by decide +kernel
theorem dX6_between_14 : decode cX6_between 14 = .ok (.ifCond .eq 5, 3) := by decide +kernel
theorem dX6_between_17 : decode cX6_between 17 = .ok (.iload_n 3, 1) := by decide +kernel
theorem dX6_between_18 : decode cX6_between 18 = .ok (.ireturn, 1) := by decide +kernel
theorem dX6_between_19 : decode cX6_between 19 = .ok (.iload_n 2, 1) := by decide +kernel
theorem dX6_between_20 : decode cX6_between 20 = .ok (.iconst (-1), 1) := by decide +kernel
theorem dX6_between_21 : decode cX6_between 21 = .ok (.if_icmp .ne 21, 3) := by decide +kernel
theorem dX6_between_24 : decode cX6_between 24 = .ok (.aload_n 0, 1) := by decide +kernel
theorem dX6_between_25 : decode cX6_between 25 = .ok (.getfield 23, 3) := by decide +kernel
theorem dX6_between_28 : decode cX6_between 28 = .ok (.aload_n 0, 1) := by decide +kernel
theorem dX6_between_29 : decode cX6_between 29 = .ok (.getfield 70, 3) := by decide +kernel
theorem dX6_between_32 : decode cX6_between 32 = .ok (.aload_n 0, 1) := by decide +kernel
theorem dX6_between_33 : decode cX6_between 33 = .ok (.getfield 55, 3) := by decide +kernel
theorem dX6_between_36 : decode cX6_between 36 = .ok (.iload_n 1, 1) := by decide +kernel
theorem dX6_between_37 : decode cX6_between 37 = .ok (.iaload, 1) := by decide +kernel
theorem dX6_between_38 : decode cX6_between 38 = .ok (.invokevirtual 168, 3) := by decide +kernel
theorem dX6_between_41 : decode cX6_between 41 = .ok (.ireturn, 1) := by decide +kernel
theorem dX6_between_42 : decode cX6_between 42 = .ok (.aload_n 0, 1) := by decide +kernel
theorem dX6_between_43 : decode cX6_between 43 = .ok (.getfield 23, 3) := by decide +kernel
theorem dX6_between_46 : decode cX6_between 46 = .ok (.aload_n 0, 1) := by decide +kernel
theorem dX6_between_47 : decode cX6_between 47 = .ok (.getfield 70, 3) := by decide +kernel
theorem dX6_between_50 : decode cX6_between 50 = .ok (.aload_n 0, 1) := by decide +kernel
theorem dX6_between_51 : decode cX6_between 51 = .ok (.getfield 55, 3) := by decide +kernel
theorem dX6_between_54 : decode cX6_between 54 = .ok (.iload_n 1, 1) := by decide +kernel
theorem dX6_between_55 : decode cX6_between 55 = .ok (.iaload, 1) := by decide +kernel
theorem dX6_between_56 : decode cX6_between 56 = .ok (.iload_n 2, 1) := by decide +kernel
theorem dX6_between_57 : decode cX6_between 57 = .ok (.invokevirtual 171, 3) := by decide +kernel
theorem dX6_between_60 : decode cX6_between 60 = .ok (.istore 4, 2) := by decide +kernel
theorem dX6_between_62 : decode cX6_between 62 = .ok (.iload 4, 2) := by decide +kernel
theorem dX6_between_64 : decode cX6_between 64 = .ok (.ifCond .ne 7, 3) := by decide +kernel
theorem dX6_between_67 : decode cX6_between 67 = .ok (.iconst (-1), 1) := by decide +kernel
theorem dX6_between_68 : decode cX6_between 68 = .ok (.goto 12, 3) := by decide +kernel
theorem dX6_between_71 : decode cX6_between 71 = .ok (.aload_n 0, 1) := by decide +kernel
theorem dX6_between_72 : decode cX6_between 72 = .ok (.getfield 12, 3) := by decide +kernel
theorem dX6_between_75 : decode cX6_between 75 = .ok (.iload 4, 2) := by decide +kernel
theorem dX6_between_77 : decode cX6_between 77 = .ok (.invokevirtual 115, 3) := by decide +kernel
theorem dX6_between_80 : decode cX6_between 80 = .ok (.ireturn, 1) := by decide +kernel
theorem dX6_way_0 : decode cX6_way 0 = .ok (.aload_n 0, 1) := by decide +kernel
theorem dX6_way_1 : decode cX6_way 1 = .ok (.iload_n 1, 1) := by decide +kernel
theorem dX6_way_2 : decode cX6_way 2 = .ok (.iload_n 2, 1) := by decide +kernel
theorem dX6_way_3 : decode cX6_way 3 = .ok (.invokevirtual 151, 3) := by decide +kernel
theorem dX6_way_6 : decode cX6_way 6 = .ok (.istore_n 3, 1) := by decide +kernel
theorem dX6_way_7 : decode cX6_way 7 = .ok (.iload_n 3, 1) := by decide +kernel
theorem dX6_way_8 : decode cX6_way 8 = .ok (.ifCond .eq 5, 3) := by decide +kernel
theorem dX6_way_11 : decode cX6_way 11 = .ok (.iload_n 3, 1) := by decide +kernel
theorem dX6_way_12 : decode cX6_way 12 = .ok (.ireturn, 1) := by decide +kernel
theorem dX6_way_13 : decode cX6_way 13 = .ok (.aload_n 0, 1) := by decide +kernel
theorem dX6_way_14 : decode cX6_way 14 = .ok (.getfield 30, 3) := by decide +kernel
theorem dX6_way_17 : decode cX6_way 17 = .ok (.aload_n 0, 1) := by decide +kernel
theorem dX6_way_18 : decode cX6_way 18 = .ok (.getfield 55, 3) := by decide +kernel
theorem dX6_way_21 : decode cX6_way 21 = .ok (.iload_n 1, 1) := by decide +kernel
theorem dX6_way_22 : decode cX6_way 22 = .ok (.iaload, 1) := by decide +kernel
theorem dX6_way_23 : decode cX6_way 23 = .ok (.invokevirtual 175, 3) := by decide +kernel
theorem dX6_way_26 : decode cX6_way 26 = .ok (.aload_n 0, 1) := by decide +kernel
theorem dX6_way_27 : decode cX6_way 27 = .ok (.getfield 30, 3) := by decide +kernel
theorem dX6_way_30 : decode cX6_way 30 = .ok (.aload_n 0, 1) := by decide +kernel
theorem dX6_way_31 : decode cX6_way 31 = .ok (.getfield 70, 3) := by decide +kernel
theorem dX6_way_34 : decode cX6_way 34 = .ok (.invokevirtual 178, 3) := by decide +kernel
theorem dX6_way_37 : decode cX6_way 37 = .ok (.istore 4, 2) := by decide +kernel
theorem dX6_way_39 : decode cX6_way 39 = .ok (.iload_n 2, 1) := by decide +kernel
theorem dX6_way_40 : decode cX6_way 40 = .ok (.ifCond .ne 6, 3) := by decide +kernel
theorem dX6_way_43 : decode cX6_way 43 = .ok (.iload 4, 2) := by decide +kernel
theorem dX6_way_45 : decode cX6_way 45 = .ok (.ireturn, 1) := by decide +kernel
theorem dX6_way_46 : decode cX6_way 46 = .ok (.iload 4, 2) := by decide +kernel
theorem dX6_way_48 : decode cX6_way 48 = .ok (.ifCond .ne 6, 3) := by decide +kernel
theorem dX6_way_51 : decode cX6_way 51 = .ok (.bipush (-5), 2) := by decide +kernel
theorem dX6_way_53 : decode cX6_way 53 = .ok (.ireturn, 1) := by decide +kernel
theorem dX6_way_54 : decode cX6_way 54 = .ok (.aload_n 0, 1) := by decide +kernel
theorem dX6_way_55 : decode cX6_way 55 = .ok (.getfield 30, 3) := by decide +kernel
theorem dX6_way_58 : decode cX6_way 58 = .ok (.aload_n 0, 1) := by decide +kernel
theorem dX6_way_59 : decode cX6_way 59 = .ok (.getfield 70, 3) := by decide +kernel
theorem dX6_way_62 : decode cX6_way 62 = .ok (.invokevirtual 181, 3) := by decide +kernel
theorem dX6_way_65 : decode cX6_way 65 = .ok (.istore 5, 2) := by decide +kernel
theorem dX6_way_67 : decode cX6_way 67 = .ok (.iload 5, 2) := by decide +kernel
theorem dX6_way_69 : decode cX6_way 69 = .ok (.ifCond .lt 8, 3) := by decide +kernel
theorem dX6_way_72 : decode cX6_way 72 = .ok (.iload 5, 2) := by decide +kernel
theorem dX6_way_74 : decode cX6_way 74 = .ok (.goto 8, 3) := by decide +kernel
theorem dX6_way_77 : decode cX6_way 77 = .ok (.bipush 99, 2) := by decide +kernel
theorem dX6_way_79 : decode cX6_way 79 = .ok (.iload 5, 2) := by decide +kernel
theorem dX6_way_81 : decode cX6_way 81 = .ok (.isub, 1) := by decide +kernel
theorem dX6_way_82 : decode cX6_way 82 = .ok (.ireturn, 1) := by decide +kernel
theorem dX6_chain_0 : decode cX6_chain 0 = .ok (.aload_n 0, 1) := by decide +kernel
theorem dX6_chain_1 : decode cX6_chain 1 = .ok (.iload_n 1, 1) := by decide +kernel
theorem dX6_chain_2 : decode cX6_chain 2 = .ok (.iload_n 2, 1) := by decide +kernel
theorem dX6_chain_3 : decode cX6_chain 3 = .ok (.invokevirtual 151, 3) := by decide +kernel
theorem dX6_chain_6 : decode cX6_chain 6 = .ok (.istore_n 3, 1) := by decide +kernel
theorem dX6_chain_7 : decode cX6_chain 7 = .ok (.iload_n 3, 1) := by decide +kernel
theorem dX6_chain_8 : decode cX6_chain 8 = .ok (.ifCond .eq 5, 3) := by decide +kernel
theorem dX6_chain_11 : decode cX6_chain 11 = .ok (.iload_n 3, 1) := by decide +kernel
theorem dX6_chain_12 : decode cX6_chain 12 = .ok (.ireturn, 1) := by decide +kernel
theorem dX6_chain_13 : decode cX6_chain 13 = .ok (.aload_n 0, 1) := by decide +kernel
theorem dX6_chain_14 : decode cX6_chain 14 = .ok (.getfield 23, 3) := by decide +kernel
theorem dX6_chain_17 : decode cX6_chain 17 = .ok (.aload_n 0, 1) := by decide +kernel
theorem dX6_chain_18 : decode cX6_chain 18 = .ok (.getfield 70, 3) := by decide +kernel
theorem dX6_chain_21 : decode cX6_chain 21 = .ok (.aload_n 0, 1) := by decide +kernel
theorem dX6_chain_22 : decode cX6_chain 22 = .ok (.getfield 55, 3) := by decide +kernel
theorem dX6_chain_25 : decode cX6_chain 25 = .ok (.iload_n 1, 1) := by decide +kernel
theorem dX6_chain_26 : decode cX6_chain 26 = .ok (.iaload, 1) := by decide +kernel
theorem dX6_chain_27 : decode cX6_chain 27 = .ok (.invokevirtual 154, 3) := by decide +kernel
theorem dX6_chain_30 : decode cX6_chain 30 = .ok (.ifCond .ne 6, 3) := by decide +kernel
theorem dX6_chain_33 : decode cX6_chain 33 = .ok (.bipush (-5), 2) := by decide +kernel
theorem dX6_chain_35 : decode cX6_chain 35 = .ok (.ireturn, 1) := by decide +kernel
theorem dX6_chain_36 : decode cX6_chain 36 = .ok (.aload_n 0, 1) := by decide +kernel
theorem dX6_chain_37 : decode cX6_chain 37 = .ok (.getfield 30, 3) := by decide +kernel
theorem dX6_chain_40 : decode cX6_chain 40 = .ok (.aload_n 0, 1) := by decide +kernel
theorem dX6_chain_41 : decode cX6_chain 41 = .ok (.getfield 70, 3) := by decide +kernel
theorem dX6_chain_44 : decode cX6_chain 44 = .ok (.aload_n 0, 1) := by decide +kernel
theorem dX6_chain_45 : decode cX6_chain 45 = .ok (.getfield 55, 3) := by decide +kernel
theorem dX6_chain_48 : decode cX6_chain 48 = .ok (.iload_n 1, 1) := by decide +kernel
theorem dX6_chain_49 : decode cX6_chain 49 = .ok (.iaload, 1) := by decide +kernel
theorem dX6_chain_50 : decode cX6_chain 50 = .ok (.iload_n 2, 1) := by decide +kernel
theorem dX6_chain_51 : decode cX6_chain 51 = .ok (.iconst 1, 1) := by decide +kernel
theorem dX6_chain_52 : decode cX6_chain 52 = .ok (.if_icmp .ne 7, 3) := by decide +kernel
theorem dX6_chain_55 : decode cX6_chain 55 = .ok (.iconst 1, 1) := by decide +kernel
theorem dX6_chain_56 : decode cX6_chain 56 = .ok (.goto 4, 3) := by decide +kernel
theorem dX6_chain_59 : decode cX6_chain 59 = .ok (.iconst 0, 1) := by decide +kernel
theorem dX6_chain_60 : decode cX6_chain 60 = .ok (.invokevirtual 184, 3) := by decide +kernel
theorem dX6_chain_63 : decode cX6_chain 63 = .ok (.ireturn, 1) := by decide +kernel
theorem dX6_mark_0 : decode cX6_mark 0 = .ok (.aload_n 0, 1) := by decide +kernel
theorem dX6_mark_1 : decode cX6_mark 1 = .ok (.iload_n 1, 1) := by decide +kernel
theorem dX6_mark_2 : decode cX6_mark 2 = .ok (.invokevirtual 165, 3) := by decide +kernel
theorem dX6_mark_5 : decode cX6_mark 5 = .ok (.istore_n 2, 1) := by decide +kernel
theorem dX6_mark_6 : decode cX6_mark 6 = .ok (.iload_n 2, 1) := by decide +kernel
theorem dX6_mark_7 : decode cX6_mark 7 = .ok (.ifCond .eq 8, 3) := by decide +kernel
theorem dX6_mark_10 : decode cX6_mark 10 = .ok (.bipush (-100), 2) := by decide +kernel
theorem dX6_mark_12 : decode cX6_mark 12 = .ok (.iload_n 2, 1) := by decide +kernel
theorem dX6_mark_13 : decode cX6_mark 13 = .ok (.isub, 1) := by decide +kernel
theorem dX6_mark_14 : decode cX6_mark 14 = .ok (.ireturn, 1) := by decide +kernel
theorem dX6_mark_15 : decode cX6_mark 15 = .ok (.aload_n 0, 1) := by decide +kernel
theorem dX6_mark_16 : decode cX6_mark 16 = .ok (.getfield 23, 3) := by decide +kernel
theorem dX6_mark_19 : decode cX6_mark 19 = .ok (.aload_n 0, 1) := by decide +kernel
theorem dX6_mark_20 : decode cX6_mark 20 = .ok (.getfield 70, 3) := by decide +kernel
theorem dX6_mark_23 : decode cX6_mark 23 = .ok (.aload_n 0, 1) := by decide +kernel
theorem dX6_mark_24 : decode cX6_mark 24 = .ok (.getfield 55, 3) := by decide +kernel
theorem dX6_mark_27 : decode cX6_mark 27 = .ok (.iload_n 1, 1) := by decide +kernel
theorem dX6_mark_28 : decode cX6_mark 28 = .ok (.iaload, 1) := by decide +kernel
theorem dX6_mark_29 : decode cX6_mark 29 = .ok (.invokevirtual 154, 3) := by decide +kernel
theorem dX6_mark_32 : decode cX6_mark 32 = .ok (.ifCond .ne 6, 3) := by decide +kernel
theorem dX6_mark_35 : decode cX6_mark 35 = .ok (.bipush (-95), 2) := by decide +kernel
theorem dX6_mark_37 : decode cX6_mark 37 = .ok (.ireturn, 1) := by decide +kernel
theorem dX6_mark_38 : decode cX6_mark 38 = .ok (.aload_n 0, 1) := by decide +kernel
theorem dX6_mark_39 : decode cX6_mark 39 = .ok (.getfield 23, 3) := by decide +kernel
theorem dX6_mark_42 : decode cX6_mark 42 = .ok (.aload_n 0, 1) := by decide +kernel
theorem dX6_mark_43 : decode cX6_mark 43 = .ok (.getfield 70, 3) := by decide +kernel
theorem dX6_mark_46 : decode cX6_mark 46 = .ok (.aload_n 0, 1) := by decide +kernel
theorem dX6_mark_47 : decode cX6_mark 47 = .ok (.getfield 55, 3) := by decide +kernel
theorem dX6_mark_50 : decode cX6_mark 50 = .ok (.iload_n 1, 1) := by decide +kernel
theorem dX6_mark_51 : decode cX6_mark 51 = .ok (.iaload, 1) := by decide +kernel
theorem dX6_mark_52 : decode cX6_mark 52 = .ok (.invokevirtual 187, 3) := by decide +kernel
theorem dX6_mark_55 : decode cX6_mark 55 = .ok (.ireturn, 1) := by decide +kernel
theorem dX6_pairs_0 : decode cX6_pairs 0 = .ok (.iload_n 1, 1) := by decide +kernel
theorem dX6_pairs_1 : decode cX6_pairs 1 = .ok (.invokestatic 73, 3) := by decide +kernel
theorem dX6_pairs_4 : decode cX6_pairs 4 = .ok (.ifCond .eq 20, 3) := by decide +kernel
theorem dX6_pairs_7 : decode cX6_pairs 7 = .ok (.iload_n 1, 1) := by decide +kernel
theorem dX6_pairs_8 : decode cX6_pairs 8 = .ok (.bipush 6, 2) := by decide +kernel
theorem dX6_pairs_10 : decode cX6_pairs 10 = .ok (.if_icmp .gt 14, 3) := by decide +kernel
theorem dX6_pairs_13 : decode cX6_pairs 13 = .ok (.aload_n 0, 1) := by decide +kernel
theorem dX6_pairs_14 : decode cX6_pairs 14 = .ok (.getfield 23, 3) := by decide +kernel
theorem dX6_pairs_17 : decode cX6_pairs 17 = .ok (.iload_n 1, 1) := by decide +kernel
theorem dX6_pairs_18 : decode cX6_pairs 18 = .ok (.invokevirtual 190, 3) := by decide +kernel
theorem dX6_pairs_21 : decode cX6_pairs 21 = .ok (.goto 5, 3) := by decide +kernel
theorem dX6_pairs_24 : decode cX6_pairs 24 = .ok (.bipush (-2), 2) := by decide +kernel
theorem dX6_pairs_26 : decode cX6_pairs 26 = .ok (.ireturn, 1) := by decide +kernel
theorem dX6_far_0 : decode cX6_far 0 = .ok (.aload_n 0, 1) := by decide +kernel
theorem dX6_far_1 : decode cX6_far 1 = .ok (.getfield 30, 3) := by decide +kernel
theorem dX6_far_4 : decode cX6_far 4 = .ok (.aload_n 0, 1) := by decide +kernel
theorem dX6_far_5 : decode cX6_far 5 = .ok (.getfield 70, 3) := by decide +kernel
theorem dX6_far_8 : decode cX6_far 8 = .ok (.invokevirtual 175, 3) := by decide +kernel
theorem dX6_far_11 : decode cX6_far 11 = .ok (.iload_n 1, 1) := by decide +kernel
theorem dX6_far_12 : decode cX6_far 12 = .ok (.tableswitch 59 0 2 #[28, 36, 44], 28) := by decide +kernel
theorem dX6_far_40 : decode cX6_far 40 = .ok (.aload_n 0, 1) := by decide +kernel
theorem dX6_far_41 : decode cX6_far 41 = .ok (.getfield 30, 3) := by decide +kernel
theorem dX6_far_44 : decode cX6_far 44 = .ok (.invokevirtual 193, 3) := by decide +kernel
theorem dX6_far_47 : decode cX6_far 47 = .ok (.ireturn, 1) := by decide +kernel
theorem dX6_far_48 : decode cX6_far 48 = .ok (.aload_n 0, 1) := by decide +kernel
theorem dX6_far_49 : decode cX6_far 49 = .ok (.getfield 30, 3) := by decide +kernel
theorem dX6_far_52 : decode cX6_far 52 = .ok (.invokevirtual 196, 3) := by decide +kernel
theorem dX6_far_55 : decode cX6_far 55 = .ok (.ireturn, 1) := by decide +kernel
theorem dX6_far_56 : decode cX6_far 56 = .ok (.aload_n 0, 1) := by decide +kernel
theorem dX6_far_57 : decode cX6_far 57 = .ok (.getfield 12, 3) := by decide +kernel
theorem dX6_far_60 : decode cX6_far 60 = .ok (.aload_n 0, 1) := by decide +kernel
theorem dX6_far_61 : decode cX6_far 61 = .ok (.getfield 30, 3) := by decide +kernel
theorem dX6_far_64 : decode cX6_far 64 = .ok (.invokevirtual 199, 3) := by decide +kernel
theorem dX6_far_67 : decode cX6_far 67 = .ok (.invokevirtual 115, 3) := by decide +kernel
theorem dX6_far_70 : decode cX6_far 70 = .ok (.ireturn, 1) := by decide +kernel
theorem dX6_far_71 : decode cX6_far 71 = .ok (.iconst (-1), 1) := by decide +kernel
theorem dX6_far_72 : decode cX6_far 72 = .ok (.ireturn, 1) := by decide +kernel
theorem dX6_canopy_0 : decode cX6_canopy 0 = .ok (.aload_n 0, 1) := by decide +kernel
theorem dX6_canopy_1 : decode cX6_canopy 1 = .ok (.getfield 12, 3) := by decide +kernel
theorem dX6_canopy_4 : decode cX6_canopy 4 = .ok (.aload_n 0, 1) := by decide +kernel
theorem dX6_canopy_5 : decode cX6_canopy 5 = .ok (.getfield 70, 3) := by decide +kernel
theorem dX6_canopy_8 : decode cX6_canopy 8 = .ok (.invokevirtual 139, 3) := by decide +kernel
theorem dX6_canopy_11 : decode cX6_canopy 11 = .ok (.ireturn, 1) := by decide +kernel
theorem dX6_inClass_0 : decode cX6_inClass 0 = .ok (.iload_n 1, 1) := by decide +kernel
theorem dX6_inClass_1 : decode cX6_inClass 1 = .ok (.ifCond .lt 15, 3) := by decide +kernel
theorem dX6_inClass_4 : decode cX6_inClass 4 = .ok (.iload_n 1, 1) := by decide +kernel
theorem dX6_inClass_5 : decode cX6_inClass 5 = .ok (.iconst 1, 1) := by decide +kernel
theorem dX6_inClass_6 : decode cX6_inClass 6 = .ok (.aload_n 0, 1) := by decide +kernel
theorem dX6_inClass_7 : decode cX6_inClass 7 = .ok (.invokevirtual 77, 3) := by decide +kernel
theorem dX6_inClass_10 : decode cX6_inClass 10 = .ok (.iconst 1, 1) := by decide +kernel
theorem dX6_inClass_11 : decode cX6_inClass 11 = .ok (.isub, 1) := by decide +kernel
theorem dX6_inClass_12 : decode cX6_inClass 12 = .ok (.ishl, 1) := by decide +kernel
theorem dX6_inClass_13 : decode cX6_inClass 13 = .ok (.if_icmp .lt 6, 3) := by decide +kernel
theorem dX6_inClass_16 : decode cX6_inClass 16 = .ok (.bipush (-2), 2) := by decide +kernel
theorem dX6_inClass_18 : decode cX6_inClass 18 = .ok (.ireturn, 1) := by decide +kernel
theorem dX6_inClass_19 : decode cX6_inClass 19 = .ok (.iload_n 2, 1) := by decide +kernel
theorem dX6_inClass_20 : decode cX6_inClass 20 = .ok (.tableswitch 81 0 2 #[28, 41, 61], 28) := by decide +kernel
theorem dX6_inClass_48 : decode cX6_inClass 48 = .ok (.aload_n 0, 1) := by decide +kernel
theorem dX6_inClass_49 : decode cX6_inClass 49 = .ok (.getfield 12, 3) := by decide +kernel
theorem dX6_inClass_52 : decode cX6_inClass 52 = .ok (.aload_n 0, 1) := by decide +kernel
theorem dX6_inClass_53 : decode cX6_inClass 53 = .ok (.invokevirtual 77, 3) := by decide +kernel
theorem dX6_inClass_56 : decode cX6_inClass 56 = .ok (.iload_n 1, 1) := by decide +kernel
theorem dX6_inClass_57 : decode cX6_inClass 57 = .ok (.invokevirtual 202, 3) := by decide +kernel
theorem dX6_inClass_60 : decode cX6_inClass 60 = .ok (.ireturn, 1) := by decide +kernel
theorem dX6_inClass_61 : decode cX6_inClass 61 = .ok (.aload_n 0, 1) := by decide +kernel
theorem dX6_inClass_62 : decode cX6_inClass 62 = .ok (.getfield 12, 3) := by decide +kernel
theorem dX6_inClass_65 : decode cX6_inClass 65 = .ok (.aload_n 0, 1) := by decide +kernel
theorem dX6_inClass_66 : decode cX6_inClass 66 = .ok (.getfield 12, 3) := by decide +kernel
theorem dX6_inClass_69 : decode cX6_inClass 69 = .ok (.aload_n 0, 1) := by decide +kernel
theorem dX6_inClass_70 : decode cX6_inClass 70 = .ok (.invokevirtual 77, 3) := by decide +kernel
theorem dX6_inClass_73 : decode cX6_inClass 73 = .ok (.iload_n 1, 1) := by decide +kernel
theorem dX6_inClass_74 : decode cX6_inClass 74 = .ok (.invokevirtual 205, 3) := by decide +kernel
theorem dX6_inClass_77 : decode cX6_inClass 77 = .ok (.invokevirtual 115, 3) := by decide +kernel
theorem dX6_inClass_80 : decode cX6_inClass 80 = .ok (.ireturn, 1) := by decide +kernel
theorem dX6_inClass_81 : decode cX6_inClass 81 = .ok (.aload_n 0, 1) := by decide +kernel
theorem dX6_inClass_82 : decode cX6_inClass 82 = .ok (.getfield 12, 3) := by decide +kernel
theorem dX6_inClass_85 : decode cX6_inClass 85 = .ok (.aload_n 0, 1) := by decide +kernel
theorem dX6_inClass_86 : decode cX6_inClass 86 = .ok (.getfield 12, 3) := by decide +kernel
theorem dX6_inClass_89 : decode cX6_inClass 89 = .ok (.aload_n 0, 1) := by decide +kernel
theorem dX6_inClass_90 : decode cX6_inClass 90 = .ok (.invokevirtual 77, 3) := by decide +kernel
theorem dX6_inClass_93 : decode cX6_inClass 93 = .ok (.iload_n 1, 1) := by decide +kernel
theorem dX6_inClass_94 : decode cX6_inClass 94 = .ok (.invokevirtual 208, 3) := by decide +kernel
theorem dX6_inClass_97 : decode cX6_inClass 97 = .ok (.invokevirtual 115, 3) := by decide +kernel
theorem dX6_inClass_100 : decode cX6_inClass 100 = .ok (.ireturn, 1) := by decide +kernel
theorem dX6_inClass_101 : decode cX6_inClass 101 = .ok (.iconst (-1), 1) := by decide +kernel
theorem dX6_inClass_102 : decode cX6_inClass 102 = .ok (.ireturn, 1) := by decide +kernel
theorem dX6_likeness_0 : decode cX6_likeness 0 = .ok (.aload_n 0, 1) := by decide +kernel
theorem dX6_likeness_1 : decode cX6_likeness 1 = .ok (.iload_n 1, 1) := by decide +kernel
theorem dX6_likeness_2 : decode cX6_likeness 2 = .ok (.invokevirtual 165, 3) := by decide +kernel
theorem dX6_likeness_5 : decode cX6_likeness 5 = .ok (.istore_n 2, 1) := by decide +kernel
theorem dX6_likeness_6 : decode cX6_likeness 6 = .ok (.iload_n 2, 1) := by decide +kernel
theorem dX6_likeness_7 : decode cX6_likeness 7 = .ok (.ifCond .eq 5, 3) := by decide +kernel
theorem dX6_likeness_10 : decode cX6_likeness 10 = .ok (.iload_n 2, 1) := by decide +kernel
theorem dX6_likeness_11 : decode cX6_likeness 11 = .ok (.ireturn, 1) := by decide +kernel
theorem dX6_likeness_12 : decode cX6_likeness 12 = .ok (.aload_n 0, 1) := by decide +kernel
theorem dX6_likeness_13 : decode cX6_likeness 13 = .ok (.getfield 12, 3) := by decide +kernel
theorem dX6_likeness_16 : decode cX6_likeness 16 = .ok (.aload_n 0, 1) := by decide +kernel
theorem dX6_likeness_17 : decode cX6_likeness 17 = .ok (.getfield 70, 3) := by decide +kernel
theorem dX6_likeness_20 : decode cX6_likeness 20 = .ok (.invokevirtual 139, 3) := by decide +kernel
theorem dX6_likeness_23 : decode cX6_likeness 23 = .ok (.aload_n 0, 1) := by decide +kernel
theorem dX6_likeness_24 : decode cX6_likeness 24 = .ok (.getfield 12, 3) := by decide +kernel
theorem dX6_likeness_27 : decode cX6_likeness 27 = .ok (.aload_n 0, 1) := by decide +kernel
theorem dX6_likeness_28 : decode cX6_likeness 28 = .ok (.getfield 55, 3) := by decide +kernel
theorem dX6_likeness_31 : decode cX6_likeness 31 = .ok (.iload_n 1, 1) := by decide +kernel
theorem dX6_likeness_32 : decode cX6_likeness 32 = .ok (.iaload, 1) := by decide +kernel
theorem dX6_likeness_33 : decode cX6_likeness 33 = .ok (.invokevirtual 139, 3) := by decide +kernel
theorem dX6_likeness_36 : decode cX6_likeness 36 = .ok (.ixor, 1) := by decide +kernel
theorem dX6_likeness_37 : decode cX6_likeness 37 = .ok (.invokestatic 134, 3) := by decide +kernel
theorem dX6_likeness_40 : decode cX6_likeness 40 = .ok (.ireturn, 1) := by decide +kernel
theorem dX6_keep_0 : decode cX6_keep 0 = .ok (.iload_n 1, 1) := by decide +kernel
theorem dX6_keep_1 : decode cX6_keep 1 = .ok (.invokestatic 211, 3) := by decide +kernel
theorem dX6_keep_4 : decode cX6_keep 4 = .ok (.ifCond .ne 5, 3) := by decide +kernel
theorem dX6_keep_7 : decode cX6_keep 7 = .ok (.iconst (-1), 1) := by decide +kernel
theorem dX6_keep_8 : decode cX6_keep 8 = .ok (.ireturn, 1) := by decide +kernel
theorem dX6_keep_9 : decode cX6_keep 9 = .ok (.aload_n 0, 1) := by decide +kernel
theorem dX6_keep_10 : decode cX6_keep 10 = .ok (.getfield 55, 3) := by decide +kernel
theorem dX6_keep_13 : decode cX6_keep 13 = .ok (.iload_n 1, 1) := by decide +kernel
theorem dX6_keep_14 : decode cX6_keep 14 = .ok (.aload_n 0, 1) := by decide +kernel
theorem dX6_keep_15 : decode cX6_keep 15 = .ok (.getfield 70, 3) := by decide +kernel
theorem dX6_keep_18 : decode cX6_keep 18 = .ok (.iastore, 1) := by decide +kernel
theorem dX6_keep_19 : decode cX6_keep 19 = .ok (.aload_n 0, 1) := by decide +kernel
theorem dX6_keep_20 : decode cX6_keep 20 = .ok (.getfield 12, 3) := by decide +kernel
theorem dX6_keep_23 : decode cX6_keep 23 = .ok (.aload_n 0, 1) := by decide +kernel
theorem dX6_keep_24 : decode cX6_keep 24 = .ok (.getfield 70, 3) := by decide +kernel
theorem dX6_keep_27 : decode cX6_keep 27 = .ok (.invokevirtual 115, 3) := by decide +kernel
theorem dX6_keep_30 : decode cX6_keep 30 = .ok (.ireturn, 1) := by decide +kernel
theorem dX6_lay_0 : decode cX6_lay 0 = .ok (.aload_n 0, 1) := by decide +kernel
theorem dX6_lay_1 : decode cX6_lay 1 = .ok (.iload_n 1, 1) := by decide +kernel
theorem dX6_lay_2 : decode cX6_lay 2 = .ok (.invokevirtual 214, 3) := by decide +kernel
theorem dX6_lay_5 : decode cX6_lay 5 = .ok (.istore_n 2, 1) := by decide +kernel
theorem dX6_lay_6 : decode cX6_lay 6 = .ok (.iload_n 2, 1) := by decide +kernel
theorem dX6_lay_7 : decode cX6_lay 7 = .ok (.ifCond .eq 5, 3) := by decide +kernel
theorem dX6_lay_10 : decode cX6_lay 10 = .ok (.iload_n 2, 1) := by decide +kernel
theorem dX6_lay_11 : decode cX6_lay 11 = .ok (.ireturn, 1) := by decide +kernel
theorem dX6_lay_12 : decode cX6_lay 12 = .ok (.aload_n 0, 1) := by decide +kernel
theorem dX6_lay_13 : decode cX6_lay 13 = .ok (.aload_n 0, 1) := by decide +kernel
theorem dX6_lay_14 : decode cX6_lay 14 = .ok (.getfield 55, 3) := by decide +kernel
theorem dX6_lay_17 : decode cX6_lay 17 = .ok (.iload_n 1, 1) := by decide +kernel
theorem dX6_lay_18 : decode cX6_lay 18 = .ok (.iaload, 1) := by decide +kernel
theorem dX6_lay_19 : decode cX6_lay 19 = .ok (.invokevirtual 118, 3) := by decide +kernel
theorem dX6_lay_22 : decode cX6_lay 22 = .ok (.aload_n 0, 1) := by decide +kernel
theorem dX6_lay_23 : decode cX6_lay 23 = .ok (.invokevirtual 77, 3) := by decide +kernel
theorem dX6_lay_26 : decode cX6_lay 26 = .ok (.ireturn, 1) := by decide +kernel
theorem dX6_lose_0 : decode cX6_lose 0 = .ok (.aload_n 0, 1) := by decide +kernel
theorem dX6_lose_1 : decode cX6_lose 1 = .ok (.iload_n 1, 1) := by decide +kernel
theorem dX6_lose_2 : decode cX6_lose 2 = .ok (.invokevirtual 214, 3) := by decide +kernel
theorem dX6_lose_5 : decode cX6_lose 5 = .ok (.istore_n 2, 1) := by decide +kernel
theorem dX6_lose_6 : decode cX6_lose 6 = .ok (.iload_n 2, 1) := by decide +kernel
theorem dX6_lose_7 : decode cX6_lose 7 = .ok (.ifCond .eq 5, 3) := by decide +kernel
theorem dX6_lose_10 : decode cX6_lose 10 = .ok (.iload_n 2, 1) := by decide +kernel
theorem dX6_lose_11 : decode cX6_lose 11 = .ok (.ireturn, 1) := by decide +kernel
theorem dX6_lose_12 : decode cX6_lose 12 = .ok (.aload_n 0, 1) := by decide +kernel
theorem dX6_lose_13 : decode cX6_lose 13 = .ok (.getfield 12, 3) := by decide +kernel
theorem dX6_lose_16 : decode cX6_lose 16 = .ok (.aload_n 0, 1) := by decide +kernel
theorem dX6_lose_17 : decode cX6_lose 17 = .ok (.getfield 55, 3) := by decide +kernel
theorem dX6_lose_20 : decode cX6_lose 20 = .ok (.iload_n 1, 1) := by decide +kernel
theorem dX6_lose_21 : decode cX6_lose 21 = .ok (.iaload, 1) := by decide +kernel
theorem dX6_lose_22 : decode cX6_lose 22 = .ok (.invokevirtual 162, 3) := by decide +kernel
theorem dX6_lose_25 : decode cX6_lose 25 = .ok (.istore_n 3, 1) := by decide +kernel
theorem dX6_lose_26 : decode cX6_lose 26 = .ok (.aload_n 0, 1) := by decide +kernel
theorem dX6_lose_27 : decode cX6_lose 27 = .ok (.getfield 55, 3) := by decide +kernel
theorem dX6_lose_30 : decode cX6_lose 30 = .ok (.iload_n 1, 1) := by decide +kernel
theorem dX6_lose_31 : decode cX6_lose 31 = .ok (.iconst 0, 1) := by decide +kernel
theorem dX6_lose_32 : decode cX6_lose 32 = .ok (.iastore, 1) := by decide +kernel
theorem dX6_lose_33 : decode cX6_lose 33 = .ok (.iload_n 3, 1) := by decide +kernel
theorem dX6_lose_34 : decode cX6_lose 34 = .ok (.ireturn, 1) := by decide +kernel
theorem dX6_over_0 : decode cX6_over 0 = .ok (.aload_n 0, 1) := by decide +kernel
theorem dX6_over_1 : decode cX6_over 1 = .ok (.iload_n 1, 1) := by decide +kernel
theorem dX6_over_2 : decode cX6_over 2 = .ok (.invokevirtual 217, 3) := by decide +kernel
theorem dX6_over_5 : decode cX6_over 5 = .ok (.istore_n 2, 1) := by decide +kernel
theorem dX6_over_6 : decode cX6_over 6 = .ok (.iload_n 2, 1) := by decide +kernel
theorem dX6_over_7 : decode cX6_over 7 = .ok (.ifCond .eq 5, 3) := by decide +kernel
theorem dX6_over_10 : decode cX6_over 10 = .ok (.iload_n 2, 1) := by decide +kernel
theorem dX6_over_11 : decode cX6_over 11 = .ok (.ireturn, 1) := by decide +kernel
theorem dX6_over_12 : decode cX6_over 12 = .ok (.aload_n 0, 1) := by decide +kernel
theorem dX6_over_13 : decode cX6_over 13 = .ok (.aload_n 0, 1) := by decide +kernel
theorem dX6_over_14 : decode cX6_over 14 = .ok (.getfield 12, 3) := by decide +kernel
theorem dX6_over_17 : decode cX6_over 17 = .ok (.aload_n 0, 1) := by decide +kernel
theorem dX6_over_18 : decode cX6_over 18 = .ok (.getfield 55, 3) := by decide +kernel
theorem dX6_over_21 : decode cX6_over 21 = .ok (.iload_n 1, 1) := by decide +kernel
theorem dX6_over_22 : decode cX6_over 22 = .ok (.iaload, 1) := by decide +kernel
theorem dX6_over_23 : decode cX6_over 23 = .ok (.aload_n 0, 1) := by decide +kernel
theorem dX6_over_24 : decode cX6_over 24 = .ok (.getfield 70, 3) := by decide +kernel
theorem dX6_over_27 : decode cX6_over 27 = .ok (.invokevirtual 220, 3) := by decide +kernel
theorem dX6_over_30 : decode cX6_over 30 = .ok (.invokevirtual 118, 3) := by decide +kernel
theorem dX6_over_33 : decode cX6_over 33 = .ok (.aload_n 0, 1) := by decide +kernel
theorem dX6_over_34 : decode cX6_over 34 = .ok (.invokevirtual 77, 3) := by decide +kernel
theorem dX6_over_37 : decode cX6_over 37 = .ok (.ireturn, 1) := by decide +kernel
theorem dX6_under_0 : decode cX6_under 0 = .ok (.aload_n 0, 1) := by decide +kernel
theorem dX6_under_1 : decode cX6_under 1 = .ok (.iload_n 1, 1) := by decide +kernel
theorem dX6_under_2 : decode cX6_under 2 = .ok (.invokevirtual 217, 3) := by decide +kernel
theorem dX6_under_5 : decode cX6_under 5 = .ok (.istore_n 2, 1) := by decide +kernel
theorem dX6_under_6 : decode cX6_under 6 = .ok (.iload_n 2, 1) := by decide +kernel
theorem dX6_under_7 : decode cX6_under 7 = .ok (.ifCond .eq 5, 3) := by decide +kernel
theorem dX6_under_10 : decode cX6_under 10 = .ok (.iload_n 2, 1) := by decide +kernel
theorem dX6_under_11 : decode cX6_under 11 = .ok (.ireturn, 1) := by decide +kernel
theorem dX6_under_12 : decode cX6_under 12 = .ok (.aload_n 0, 1) := by decide +kernel
theorem dX6_under_13 : decode cX6_under 13 = .ok (.aload_n 0, 1) := by decide +kernel
theorem dX6_under_14 : decode cX6_under 14 = .ok (.getfield 12, 3) := by decide +kernel
theorem dX6_under_17 : decode cX6_under 17 = .ok (.aload_n 0, 1) := by decide +kernel
theorem dX6_under_18 : decode cX6_under 18 = .ok (.getfield 70, 3) := by decide +kernel
theorem dX6_under_21 : decode cX6_under 21 = .ok (.aload_n 0, 1) := by decide +kernel
theorem dX6_under_22 : decode cX6_under 22 = .ok (.getfield 55, 3) := by decide +kernel
theorem dX6_under_25 : decode cX6_under 25 = .ok (.iload_n 1, 1) := by decide +kernel
theorem dX6_under_26 : decode cX6_under 26 = .ok (.iaload, 1) := by decide +kernel
theorem dX6_under_27 : decode cX6_under 27 = .ok (.invokevirtual 223, 3) := by decide +kernel
theorem dX6_under_30 : decode cX6_under 30 = .ok (.invokevirtual 118, 3) := by decide +kernel
theorem dX6_under_33 : decode cX6_under 33 = .ok (.aload_n 0, 1) := by decide +kernel
theorem dX6_under_34 : decode cX6_under 34 = .ok (.invokevirtual 77, 3) := by decide +kernel
theorem dX6_under_37 : decode cX6_under 37 = .ok (.ireturn, 1) := by decide +kernel
theorem dX6_shelf_0 : decode cX6_shelf 0 = .ok (.iload_n 2, 1) := by decide +kernel
theorem dX6_shelf_1 : decode cX6_shelf 1 = .ok (.ifCond .lt 8, 3) := by decide +kernel
theorem dX6_shelf_4 : decode cX6_shelf 4 = .ok (.iload_n 2, 1) := by decide +kernel
theorem dX6_shelf_5 : decode cX6_shelf 5 = .ok (.iconst 2, 1) := by decide +kernel
theorem dX6_shelf_6 : decode cX6_shelf 6 = .ok (.if_icmp .le 5, 3) := by decide +kernel
theorem dX6_shelf_9 : decode cX6_shelf 9 = .ok (.iconst (-1), 1) := by decide +kernel
theorem dX6_shelf_10 : decode cX6_shelf 10 = .ok (.ireturn, 1) := by decide +kernel
theorem dX6_shelf_11 : decode cX6_shelf 11 = .ok (.aload_n 0, 1) := by decide +kernel
theorem dX6_shelf_12 : decode cX6_shelf 12 = .ok (.iload_n 1, 1) := by decide +kernel
theorem dX6_shelf_13 : decode cX6_shelf 13 = .ok (.invokevirtual 214, 3) := by decide +kernel
theorem dX6_shelf_16 : decode cX6_shelf 16 = .ok (.istore_n 3, 1) := by decide +kernel
theorem dX6_shelf_17 : decode cX6_shelf 17 = .ok (.iload_n 3, 1) := by decide +kernel
theorem dX6_shelf_18 : decode cX6_shelf 18 = .ok (.ifCond .eq 5, 3) := by decide +kernel
theorem dX6_shelf_21 : decode cX6_shelf 21 = .ok (.iload_n 3, 1) := by decide +kernel
theorem dX6_shelf_22 : decode cX6_shelf 22 = .ok (.ireturn, 1) := by decide +kernel
theorem dX6_shelf_23 : decode cX6_shelf 23 = .ok (.iload_n 2, 1) := by decide +kernel
theorem dX6_shelf_24 : decode cX6_shelf 24 = .ok (.lookupswitch 56 #[(0, 28), (1, 42)], 28) := by decide +kernel
theorem dX6_shelf_52 : decode cX6_shelf 52 = .ok (.aload_n 0, 1) := by decide +kernel
theorem dX6_shelf_53 : decode cX6_shelf 53 = .ok (.getfield 12, 3) := by decide +kernel
theorem dX6_shelf_56 : decode cX6_shelf 56 = .ok (.aload_n 0, 1) := by decide +kernel
theorem dX6_shelf_57 : decode cX6_shelf 57 = .ok (.getfield 55, 3) := by decide +kernel
theorem dX6_shelf_60 : decode cX6_shelf 60 = .ok (.iload_n 1, 1) := by decide +kernel
theorem dX6_shelf_61 : decode cX6_shelf 61 = .ok (.iaload, 1) := by decide +kernel
theorem dX6_shelf_62 : decode cX6_shelf 62 = .ok (.invokevirtual 162, 3) := by decide +kernel
theorem dX6_shelf_65 : decode cX6_shelf 65 = .ok (.ireturn, 1) := by decide +kernel
theorem dX6_shelf_66 : decode cX6_shelf 66 = .ok (.aload_n 0, 1) := by decide +kernel
theorem dX6_shelf_67 : decode cX6_shelf 67 = .ok (.getfield 12, 3) := by decide +kernel
theorem dX6_shelf_70 : decode cX6_shelf 70 = .ok (.aload_n 0, 1) := by decide +kernel
theorem dX6_shelf_71 : decode cX6_shelf 71 = .ok (.getfield 55, 3) := by decide +kernel
theorem dX6_shelf_74 : decode cX6_shelf 74 = .ok (.iload_n 1, 1) := by decide +kernel
theorem dX6_shelf_75 : decode cX6_shelf 75 = .ok (.iaload, 1) := by decide +kernel
theorem dX6_shelf_76 : decode cX6_shelf 76 = .ok (.invokevirtual 115, 3) := by decide +kernel
theorem dX6_shelf_79 : decode cX6_shelf 79 = .ok (.ireturn, 1) := by decide +kernel
theorem dX6_shelf_80 : decode cX6_shelf 80 = .ok (.aload_n 0, 1) := by decide +kernel
theorem dX6_shelf_81 : decode cX6_shelf 81 = .ok (.getfield 12, 3) := by decide +kernel
theorem dX6_shelf_84 : decode cX6_shelf 84 = .ok (.aload_n 0, 1) := by decide +kernel
theorem dX6_shelf_85 : decode cX6_shelf 85 = .ok (.getfield 55, 3) := by decide +kernel
theorem dX6_shelf_88 : decode cX6_shelf 88 = .ok (.iload_n 1, 1) := by decide +kernel
theorem dX6_shelf_89 : decode cX6_shelf 89 = .ok (.iaload, 1) := by decide +kernel
theorem dX6_shelf_90 : decode cX6_shelf 90 = .ok (.invokevirtual 122, 3) := by decide +kernel
theorem dX6_shelf_93 : decode cX6_shelf 93 = .ok (.ireturn, 1) := by decide +kernel
theorem dX6_list_0 : decode cX6_list 0 = .ok (.iload_n 1, 1) := by decide +kernel
theorem dX6_list_1 : decode cX6_list 1 = .ok (.invokestatic 226, 3) := by decide +kernel
theorem dX6_list_4 : decode cX6_list 4 = .ok (.ifCond .ne 5, 3) := by decide +kernel
theorem dX6_list_7 : decode cX6_list 7 = .ok (.iconst (-1), 1) := by decide +kernel
theorem dX6_list_8 : decode cX6_list 8 = .ok (.ireturn, 1) := by decide +kernel
theorem dX6_list_9 : decode cX6_list 9 = .ok (.iload_n 2, 1) := by decide +kernel
theorem dX6_list_10 : decode cX6_list 10 = .ok (.bipush 20, 2) := by decide +kernel
theorem dX6_list_12 : decode cX6_list 12 = .ok (.if_icmp .le 6, 3) := by decide +kernel
theorem dX6_list_15 : decode cX6_list 15 = .ok (.bipush (-2), 2) := by decide +kernel
theorem dX6_list_17 : decode cX6_list 17 = .ok (.ireturn, 1) := by decide +kernel
theorem dX6_list_18 : decode cX6_list 18 = .ok (.iload_n 2, 1) := by decide +kernel
theorem dX6_list_19 : decode cX6_list 19 = .ok (.iconst (-1), 1) := by decide +kernel
theorem dX6_list_20 : decode cX6_list 20 = .ok (.if_icmp .ge 6, 3) := by decide +kernel
theorem dX6_list_23 : decode cX6_list 23 = .ok (.bipush (-14), 2) := by decide +kernel
theorem dX6_list_25 : decode cX6_list 25 = .ok (.ireturn, 1) := by decide +kernel
theorem dX6_list_26 : decode cX6_list 26 = .ok (.aload_n 0, 1) := by decide +kernel
theorem dX6_list_27 : decode cX6_list 27 = .ok (.getfield 44, 3) := by decide +kernel
theorem dX6_list_30 : decode cX6_list 30 = .ok (.iload_n 1, 1) := by decide +kernel
theorem dX6_list_31 : decode cX6_list 31 = .ok (.iload_n 2, 1) := by decide +kernel
theorem dX6_list_32 : decode cX6_list 32 = .ok (.invokevirtual 229, 3) := by decide +kernel
theorem dX6_list_35 : decode cX6_list 35 = .ok (.iconst 1, 1) := by decide +kernel
theorem dX6_list_36 : decode cX6_list 36 = .ok (.ireturn, 1) := by decide +kernel
theorem dX6_put_0 : decode cX6_put 0 = .ok (.iload_n 1, 1) := by decide +kernel
theorem dX6_put_1 : decode cX6_put 1 = .ok (.invokestatic 226, 3) := by decide +kernel
theorem dX6_put_4 : decode cX6_put 4 = .ok (.ifCond .ne 5, 3) := by decide +kernel
theorem dX6_put_7 : decode cX6_put 7 = .ok (.iconst (-1), 1) := by decide +kernel
theorem dX6_put_8 : decode cX6_put 8 = .ok (.ireturn, 1) := by decide +kernel
theorem dX6_put_9 : decode cX6_put 9 = .ok (.aload_n 0, 1) := by decide +kernel
theorem dX6_put_10 : decode cX6_put 10 = .ok (.getfield 44, 3) := by decide +kernel
theorem dX6_put_13 : decode cX6_put 13 = .ok (.iload_n 1, 1) := by decide +kernel
theorem dX6_put_14 : decode cX6_put 14 = .ok (.invokevirtual 233, 3) := by decide +kernel
theorem dX6_put_17 : decode cX6_put 17 = .ok (.ifCond .ne 6, 3) := by decide +kernel
theorem dX6_put_20 : decode cX6_put 20 = .ok (.bipush (-11), 2) := by decide +kernel
theorem dX6_put_22 : decode cX6_put 22 = .ok (.ireturn, 1) := by decide +kernel
theorem dX6_put_23 : decode cX6_put 23 = .ok (.aload_n 0, 1) := by decide +kernel
theorem dX6_put_24 : decode cX6_put 24 = .ok (.getfield 44, 3) := by decide +kernel
theorem dX6_put_27 : decode cX6_put 27 = .ok (.iload_n 1, 1) := by decide +kernel
theorem dX6_put_28 : decode cX6_put 28 = .ok (.iload_n 2, 1) := by decide +kernel
theorem dX6_put_29 : decode cX6_put 29 = .ok (.invokevirtual 236, 3) := by decide +kernel
theorem dX6_put_32 : decode cX6_put 32 = .ok (.ifCond .ne 6, 3) := by decide +kernel
theorem dX6_put_35 : decode cX6_put 35 = .ok (.bipush (-13), 2) := by decide +kernel
theorem dX6_put_37 : decode cX6_put 37 = .ok (.ireturn, 1) := by decide +kernel
theorem dX6_put_38 : decode cX6_put 38 = .ok (.aload_n 0, 1) := by decide +kernel
theorem dX6_put_39 : decode cX6_put 39 = .ok (.getfield 44, 3) := by decide +kernel
theorem dX6_put_42 : decode cX6_put 42 = .ok (.iload_n 1, 1) := by decide +kernel
theorem dX6_put_43 : decode cX6_put 43 = .ok (.iload_n 2, 1) := by decide +kernel
theorem dX6_put_44 : decode cX6_put 44 = .ok (.lload_n 3, 1) := by decide +kernel
theorem dX6_put_45 : decode cX6_put 45 = .ok (.invokevirtual 239, 3) := by decide +kernel
theorem dX6_put_48 : decode cX6_put 48 = .ok (.iconst 1, 1) := by decide +kernel
theorem dX6_put_49 : decode cX6_put 49 = .ok (.ireturn, 1) := by decide +kernel
theorem dX6_get_0 : decode cX6_get 0 = .ok (.aload_n 0, 1) := by decide +kernel
theorem dX6_get_1 : decode cX6_get 1 = .ok (.getfield 44, 3) := by decide +kernel
theorem dX6_get_4 : decode cX6_get 4 = .ok (.iload_n 1, 1) := by decide +kernel
theorem dX6_get_5 : decode cX6_get 5 = .ok (.iload_n 2, 1) := by decide +kernel
theorem dX6_get_6 : decode cX6_get 6 = .ok (.invokevirtual 236, 3) := by decide +kernel
theorem dX6_get_9 : decode cX6_get 9 = .ok (.ifCond .eq 15, 3) := by decide +kernel
theorem dX6_get_12 : decode cX6_get 12 = .ok (.aload_n 0, 1) := by decide +kernel
theorem dX6_get_13 : decode cX6_get 13 = .ok (.getfield 44, 3) := by decide +kernel
theorem dX6_get_16 : decode cX6_get 16 = .ok (.iload_n 1, 1) := by decide +kernel
theorem dX6_get_17 : decode cX6_get 17 = .ok (.iload_n 2, 1) := by decide +kernel
theorem dX6_get_18 : decode cX6_get 18 = .ok (.invokevirtual 243, 3) := by decide +kernel
theorem dX6_get_21 : decode cX6_get 21 = .ok (.goto 6, 3) := by decide +kernel
theorem dX6_get_24 : decode cX6_get 24 = .ok (.ldc2_w 247, 3) := by decide +kernel
theorem dX6_get_27 : decode cX6_get 27 = .ok (.lreturn, 1) := by decide +kernel
theorem dX6_play_0 : decode cX6_play 0 = .ok (.iload_n 1, 1) := by decide +kernel
theorem dX6_play_1 : decode cX6_play 1 = .ok (.invokestatic 226, 3) := by decide +kernel
theorem dX6_play_4 : decode cX6_play 4 = .ok (.ifCond .ne 5, 3) := by decide +kernel
theorem dX6_play_7 : decode cX6_play 7 = .ok (.iconst (-1), 1) := by decide +kernel
theorem dX6_play_8 : decode cX6_play 8 = .ok (.ireturn, 1) := by decide +kernel
theorem dX6_play_9 : decode cX6_play 9 = .ok (.aload_n 0, 1) := by decide +kernel
theorem dX6_play_10 : decode cX6_play 10 = .ok (.getfield 44, 3) := by decide +kernel
theorem dX6_play_13 : decode cX6_play 13 = .ok (.iload_n 1, 1) := by decide +kernel
theorem dX6_play_14 : decode cX6_play 14 = .ok (.invokevirtual 233, 3) := by decide +kernel
theorem dX6_play_17 : decode cX6_play 17 = .ok (.ifCond .ne 6, 3) := by decide +kernel
theorem dX6_play_20 : decode cX6_play 20 = .ok (.bipush (-11), 2) := by decide +kernel
theorem dX6_play_22 : decode cX6_play 22 = .ok (.ireturn, 1) := by decide +kernel
theorem dX6_play_23 : decode cX6_play 23 = .ok (.aload_n 0, 1) := by decide +kernel
theorem dX6_play_24 : decode cX6_play 24 = .ok (.getfield 44, 3) := by decide +kernel
theorem dX6_play_27 : decode cX6_play 27 = .ok (.iload_n 1, 1) := by decide +kernel
theorem dX6_play_28 : decode cX6_play 28 = .ok (.invokevirtual 249, 3) := by decide +kernel
theorem dX6_play_31 : decode cX6_play 31 = .ok (.istore_n 2, 1) := by decide +kernel
theorem dX6_play_32 : decode cX6_play 32 = .ok (.iconst 0, 1) := by decide +kernel
theorem dX6_play_33 : decode cX6_play 33 = .ok (.istore_n 3, 1) := by decide +kernel
theorem dX6_play_34 : decode cX6_play 34 = .ok (.iload_n 3, 1) := by decide +kernel
theorem dX6_play_35 : decode cX6_play 35 = .ok (.iload_n 2, 1) := by decide +kernel
theorem dX6_play_36 : decode cX6_play 36 = .ok (.if_icmp .ge 44, 3) := by decide +kernel
theorem dX6_play_39 : decode cX6_play 39 = .ok (.aload_n 0, 1) := by decide +kernel
theorem dX6_play_40 : decode cX6_play 40 = .ok (.getfield 12, 3) := by decide +kernel
theorem dX6_play_43 : decode cX6_play 43 = .ok (.aload_n 0, 1) := by decide +kernel
theorem dX6_play_44 : decode cX6_play 44 = .ok (.getfield 70, 3) := by decide +kernel
theorem dX6_play_47 : decode cX6_play 47 = .ok (.aload_n 0, 1) := by decide +kernel
theorem dX6_play_48 : decode cX6_play 48 = .ok (.getfield 44, 3) := by decide +kernel
theorem dX6_play_51 : decode cX6_play 51 = .ok (.iload_n 1, 1) := by decide +kernel
theorem dX6_play_52 : decode cX6_play 52 = .ok (.iload_n 3, 1) := by decide +kernel
theorem dX6_play_53 : decode cX6_play 53 = .ok (.invokevirtual 243, 3) := by decide +kernel
theorem dX6_play_56 : decode cX6_play 56 = .ok (.invokevirtual 252, 3) := by decide +kernel
theorem dX6_play_59 : decode cX6_play 59 = .ok (.istore 4, 2) := by decide +kernel
theorem dX6_play_61 : decode cX6_play 61 = .ok (.iload 4, 2) := by decide +kernel
theorem dX6_play_63 : decode cX6_play 63 = .ok (.ifCond .ne 5, 3) := by decide +kernel
theorem dX6_play_66 : decode cX6_play 66 = .ok (.iload_n 3, 1) := by decide +kernel
theorem dX6_play_67 : decode cX6_play 67 = .ok (.ireturn, 1) := by decide +kernel
theorem dX6_play_68 : decode cX6_play 68 = .ok (.aload_n 0, 1) := by decide +kernel
theorem dX6_play_69 : decode cX6_play 69 = .ok (.iload 4, 2) := by decide +kernel
theorem dX6_play_71 : decode cX6_play 71 = .ok (.invokevirtual 118, 3) := by decide +kernel
theorem dX6_play_74 : decode cX6_play 74 = .ok (.iinc 3 1, 3) := by decide +kernel
theorem dX6_play_77 : decode cX6_play 77 = .ok (.goto (-43), 3) := by decide +kernel
theorem dX6_play_80 : decode cX6_play 80 = .ok (.iload_n 2, 1) := by decide +kernel
theorem dX6_play_81 : decode cX6_play 81 = .ok (.ireturn, 1) := by decide +kernel
theorem dX6_film_0 : decode cX6_film 0 = .ok (.iload_n 1, 1) := by decide +kernel
theorem dX6_film_1 : decode cX6_film 1 = .ok (.invokestatic 226, 3) := by decide +kernel
theorem dX6_film_4 : decode cX6_film 4 = .ok (.ifCond .ne 5, 3) := by decide +kernel
theorem dX6_film_7 : decode cX6_film 7 = .ok (.iconst (-1), 1) := by decide +kernel
theorem dX6_film_8 : decode cX6_film 8 = .ok (.ireturn, 1) := by decide +kernel
theorem dX6_film_9 : decode cX6_film 9 = .ok (.aload_n 0, 1) := by decide +kernel
theorem dX6_film_10 : decode cX6_film 10 = .ok (.iload_n 2, 1) := by decide +kernel
theorem dX6_film_11 : decode cX6_film 11 = .ok (.invokevirtual 165, 3) := by decide +kernel
theorem dX6_film_14 : decode cX6_film 14 = .ok (.istore_n 3, 1) := by decide +kernel
theorem dX6_film_15 : decode cX6_film 15 = .ok (.iload_n 3, 1) := by decide +kernel
theorem dX6_film_16 : decode cX6_film 16 = .ok (.ifCond .eq 5, 3) := by decide +kernel
theorem dX6_film_19 : decode cX6_film 19 = .ok (.iload_n 3, 1) := by decide +kernel
theorem dX6_film_20 : decode cX6_film 20 = .ok (.ireturn, 1) := by decide +kernel
theorem dX6_film_21 : decode cX6_film 21 = .ok (.aload_n 0, 1) := by decide +kernel
theorem dX6_film_22 : decode cX6_film 22 = .ok (.getfield 30, 3) := by decide +kernel
theorem dX6_film_25 : decode cX6_film 25 = .ok (.aload_n 0, 1) := by decide +kernel
theorem dX6_film_26 : decode cX6_film 26 = .ok (.getfield 55, 3) := by decide +kernel
theorem dX6_film_29 : decode cX6_film 29 = .ok (.iload_n 2, 1) := by decide +kernel
theorem dX6_film_30 : decode cX6_film 30 = .ok (.iaload, 1) := by decide +kernel
theorem dX6_film_31 : decode cX6_film 31 = .ok (.invokevirtual 175, 3) := by decide +kernel
theorem dX6_film_34 : decode cX6_film 34 = .ok (.aload_n 0, 1) := by decide +kernel
theorem dX6_film_35 : decode cX6_film 35 = .ok (.getfield 30, 3) := by decide +kernel
theorem dX6_film_38 : decode cX6_film 38 = .ok (.aload_n 0, 1) := by decide +kernel
theorem dX6_film_39 : decode cX6_film 39 = .ok (.getfield 70, 3) := by decide +kernel
theorem dX6_film_42 : decode cX6_film 42 = .ok (.invokevirtual 178, 3) := by decide +kernel
theorem dX6_film_45 : decode cX6_film 45 = .ok (.istore 4, 2) := by decide +kernel
theorem dX6_film_47 : decode cX6_film 47 = .ok (.iload 4, 2) := by decide +kernel
theorem dX6_film_49 : decode cX6_film 49 = .ok (.bipush 20, 2) := by decide +kernel
theorem dX6_film_51 : decode cX6_film 51 = .ok (.if_icmp .le 6, 3) := by decide +kernel
theorem dX6_film_54 : decode cX6_film 54 = .ok (.bipush (-4), 2) := by decide +kernel
theorem dX6_film_56 : decode cX6_film 56 = .ok (.ireturn, 1) := by decide +kernel
theorem dX6_film_57 : decode cX6_film 57 = .ok (.aload_n 0, 1) := by decide +kernel
theorem dX6_film_58 : decode cX6_film 58 = .ok (.getfield 44, 3) := by decide +kernel
theorem dX6_film_61 : decode cX6_film 61 = .ok (.iload_n 1, 1) := by decide +kernel
theorem dX6_film_62 : decode cX6_film 62 = .ok (.iload 4, 2) := by decide +kernel
theorem dX6_film_64 : decode cX6_film 64 = .ok (.invokevirtual 229, 3) := by decide +kernel
theorem dX6_film_67 : decode cX6_film 67 = .ok (.aload_n 0, 1) := by decide +kernel
theorem dX6_film_68 : decode cX6_film 68 = .ok (.getfield 70, 3) := by decide +kernel
theorem dX6_film_71 : decode cX6_film 71 = .ok (.istore 5, 2) := by decide +kernel
theorem dX6_film_73 : decode cX6_film 73 = .ok (.iconst 0, 1) := by decide +kernel
theorem dX6_film_74 : decode cX6_film 74 = .ok (.istore 6, 2) := by decide +kernel
theorem dX6_film_76 : decode cX6_film 76 = .ok (.iload 6, 2) := by decide +kernel
theorem dX6_film_78 : decode cX6_film 78 = .ok (.iload 4, 2) := by decide +kernel
theorem dX6_film_80 : decode cX6_film 80 = .ok (.if_icmp .ge 47, 3) := by decide +kernel
theorem dX6_film_83 : decode cX6_film 83 = .ok (.aload_n 0, 1) := by decide +kernel
theorem dX6_film_84 : decode cX6_film 84 = .ok (.getfield 30, 3) := by decide +kernel
theorem dX6_film_87 : decode cX6_film 87 = .ok (.iload 5, 2) := by decide +kernel
theorem dX6_film_89 : decode cX6_film 89 = .ok (.invokevirtual 181, 3) := by decide +kernel
theorem dX6_film_92 : decode cX6_film 92 = .ok (.istore 7, 2) := by decide +kernel
theorem dX6_film_94 : decode cX6_film 94 = .ok (.aload_n 0, 1) := by decide +kernel
theorem dX6_film_95 : decode cX6_film 95 = .ok (.getfield 44, 3) := by decide +kernel
theorem dX6_film_98 : decode cX6_film 98 = .ok (.iload_n 1, 1) := by decide +kernel
theorem dX6_film_99 : decode cX6_film 99 = .ok (.iload 6, 2) := by decide +kernel
theorem dX6_film_101 : decode cX6_film 101 = .ok (.iload 7, 2) := by decide +kernel
theorem dX6_film_103 : decode cX6_film 103 = .ok (.i2l, 1) := by decide +kernel
theorem dX6_film_104 : decode cX6_film 104 = .ok (.invokevirtual 239, 3) := by decide +kernel
theorem dX6_film_107 : decode cX6_film 107 = .ok (.aload_n 0, 1) := by decide +kernel
theorem dX6_film_108 : decode cX6_film 108 = .ok (.getfield 12, 3) := by decide +kernel
theorem dX6_film_111 : decode cX6_film 111 = .ok (.iload 5, 2) := by decide +kernel
theorem dX6_film_113 : decode cX6_film 113 = .ok (.iload 7, 2) := by decide +kernel
theorem dX6_film_115 : decode cX6_film 115 = .ok (.i2l, 1) := by decide +kernel
theorem dX6_film_116 : decode cX6_film 116 = .ok (.invokevirtual 252, 3) := by decide +kernel
theorem dX6_film_119 : decode cX6_film 119 = .ok (.istore 5, 2) := by decide +kernel
theorem dX6_film_121 : decode cX6_film 121 = .ok (.iinc 6 1, 3) := by decide +kernel
theorem dX6_film_124 : decode cX6_film 124 = .ok (.goto (-48), 3) := by decide +kernel
theorem dX6_film_127 : decode cX6_film 127 = .ok (.iload 4, 2) := by decide +kernel
theorem dX6_film_129 : decode cX6_film 129 = .ok (.ireturn, 1) := by decide +kernel
theorem dX6_feed_0 : decode cX6_feed 0 = .ok (.iload_n 1, 1) := by decide +kernel
theorem dX6_feed_1 : decode cX6_feed 1 = .ok (.bipush 32, 2) := by decide +kernel
theorem dX6_feed_3 : decode cX6_feed 3 = .ok (.if_icmp .lt 9, 3) := by decide +kernel
theorem dX6_feed_6 : decode cX6_feed 6 = .ok (.iload_n 1, 1) := by decide +kernel
theorem dX6_feed_7 : decode cX6_feed 7 = .ok (.bipush 126, 2) := by decide +kernel
theorem dX6_feed_9 : decode cX6_feed 9 = .ok (.if_icmp .le 6, 3) := by decide +kernel
theorem dX6_feed_12 : decode cX6_feed 12 = .ok (.bipush (-2), 2) := by decide +kernel
theorem dX6_feed_14 : decode cX6_feed 14 = .ok (.ireturn, 1) := by decide +kernel
theorem dX6_feed_15 : decode cX6_feed 15 = .ok (.aload_n 0, 1) := by decide +kernel
theorem dX6_feed_16 : decode cX6_feed 16 = .ok (.getfield 51, 3) := by decide +kernel
theorem dX6_feed_19 : decode cX6_feed 19 = .ok (.iload_n 1, 1) := by decide +kernel
theorem dX6_feed_20 : decode cX6_feed 20 = .ok (.invokevirtual 256, 3) := by decide +kernel
theorem dX6_feed_23 : decode cX6_feed 23 = .ok (.ifCond .eq 13, 3) := by decide +kernel
theorem dX6_feed_26 : decode cX6_feed 26 = .ok (.aload_n 0, 1) := by decide +kernel
theorem dX6_feed_27 : decode cX6_feed 27 = .ok (.getfield 51, 3) := by decide +kernel
theorem dX6_feed_30 : decode cX6_feed 30 = .ok (.invokevirtual 259, 3) := by decide +kernel
theorem dX6_feed_33 : decode cX6_feed 33 = .ok (.goto 5, 3) := by decide +kernel
theorem dX6_feed_36 : decode cX6_feed 36 = .ok (.bipush (-4), 2) := by decide +kernel
theorem dX6_feed_38 : decode cX6_feed 38 = .ok (.ireturn, 1) := by decide +kernel
theorem dX6_wipe_0 : decode cX6_wipe 0 = .ok (.aload_n 0, 1) := by decide +kernel
theorem dX6_wipe_1 : decode cX6_wipe 1 = .ok (.getfield 51, 3) := by decide +kernel
theorem dX6_wipe_4 : decode cX6_wipe 4 = .ok (.invokevirtual 259, 3) := by decide +kernel
theorem dX6_wipe_7 : decode cX6_wipe 7 = .ok (.istore_n 1, 1) := by decide +kernel
theorem dX6_wipe_8 : decode cX6_wipe 8 = .ok (.aload_n 0, 1) := by decide +kernel
theorem dX6_wipe_9 : decode cX6_wipe 9 = .ok (.getfield 51, 3) := by decide +kernel
theorem dX6_wipe_12 : decode cX6_wipe 12 = .ok (.invokevirtual 262, 3) := by decide +kernel
theorem dX6_wipe_15 : decode cX6_wipe 15 = .ok (.iload_n 1, 1) := by decide +kernel
theorem dX6_wipe_16 : decode cX6_wipe 16 = .ok (.ireturn, 1) := by decide +kernel
theorem dX6_read_0 : decode cX6_read 0 = .ok (.aload_n 0, 1) := by decide +kernel
theorem dX6_read_1 : decode cX6_read 1 = .ok (.getfield 51, 3) := by decide +kernel
theorem dX6_read_4 : decode cX6_read 4 = .ok (.invokevirtual 263, 3) := by decide +kernel
theorem dX6_read_7 : decode cX6_read 7 = .ok (.istore_n 1, 1) := by decide +kernel
theorem dX6_read_8 : decode cX6_read 8 = .ok (.aload_n 0, 1) := by decide +kernel
theorem dX6_read_9 : decode cX6_read 9 = .ok (.getfield 51, 3) := by decide +kernel
theorem dX6_read_12 : decode cX6_read 12 = .ok (.invokevirtual 262, 3) := by decide +kernel
theorem dX6_read_15 : decode cX6_read 15 = .ok (.iload_n 1, 1) := by decide +kernel
theorem dX6_read_16 : decode cX6_read 16 = .ok (.iconst (-1), 1) := by decide +kernel
theorem dX6_read_17 : decode cX6_read 17 = .ok (.if_icmp .eq 8, 3) := by decide +kernel
theorem dX6_read_20 : decode cX6_read 20 = .ok (.bipush (-100), 2) := by decide +kernel
theorem dX6_read_22 : decode cX6_read 22 = .ok (.iload_n 1, 1) := by decide +kernel
theorem dX6_read_23 : decode cX6_read 23 = .ok (.isub, 1) := by decide +kernel
theorem dX6_read_24 : decode cX6_read 24 = .ok (.ireturn, 1) := by decide +kernel
theorem dX6_read_25 : decode cX6_read 25 = .ok (.aload_n 0, 1) := by decide +kernel
theorem dX6_read_26 : decode cX6_read 26 = .ok (.aload_n 0, 1) := by decide +kernel
theorem dX6_read_27 : decode cX6_read 27 = .ok (.getfield 12, 3) := by decide +kernel
theorem dX6_read_30 : decode cX6_read 30 = .ok (.aload_n 0, 1) := by decide +kernel
theorem dX6_read_31 : decode cX6_read 31 = .ok (.getfield 51, 3) := by decide +kernel
theorem dX6_read_34 : decode cX6_read 34 = .ok (.invokevirtual 266, 3) := by decide +kernel
theorem dX6_read_37 : decode cX6_read 37 = .ok (.aload_n 0, 1) := by decide +kernel
theorem dX6_read_38 : decode cX6_read 38 = .ok (.getfield 51, 3) := by decide +kernel
theorem dX6_read_41 : decode cX6_read 41 = .ok (.invokevirtual 269, 3) := by decide +kernel
theorem dX6_read_44 : decode cX6_read 44 = .ok (.invokevirtual 272, 3) := by decide +kernel
theorem dX6_read_47 : decode cX6_read 47 = .ok (.putfield 70, 3) := by decide +kernel
theorem dX6_read_50 : decode cX6_read 50 = .ok (.aload_n 0, 1) := by decide +kernel
theorem dX6_read_51 : decode cX6_read 51 = .ok (.getfield 37, 3) := by decide +kernel
theorem dX6_read_54 : decode cX6_read 54 = .ok (.invokevirtual 81, 3) := by decide +kernel
theorem dX6_read_57 : decode cX6_read 57 = .ok (.aload_n 0, 1) := by decide +kernel
theorem dX6_read_58 : decode cX6_read 58 = .ok (.invokevirtual 77, 3) := by decide +kernel
theorem dX6_read_61 : decode cX6_read 61 = .ok (.ireturn, 1) := by decide +kernel
theorem dX6_written_0 : decode cX6_written 0 = .ok (.iload_n 1, 1) := by decide +kernel
theorem dX6_written_1 : decode cX6_written 1 = .ok (.iconst (-1), 1) := by decide +kernel
theorem dX6_written_2 : decode cX6_written 2 = .ok (.if_icmp .ne 17, 3) := by decide +kernel
theorem dX6_written_5 : decode cX6_written 5 = .ok (.aload_n 0, 1) := by decide +kernel
theorem dX6_written_6 : decode cX6_written 6 = .ok (.getfield 12, 3) := by decide +kernel
theorem dX6_written_9 : decode cX6_written 9 = .ok (.aload_n 0, 1) := by decide +kernel
theorem dX6_written_10 : decode cX6_written 10 = .ok (.getfield 70, 3) := by decide +kernel
theorem dX6_written_13 : decode cX6_written 13 = .ok (.invokevirtual 275, 3) := by decide +kernel
theorem dX6_written_16 : decode cX6_written 16 = .ok (.goto 15, 3) := by decide +kernel
theorem dX6_written_19 : decode cX6_written 19 = .ok (.aload_n 0, 1) := by decide +kernel
theorem dX6_written_20 : decode cX6_written 20 = .ok (.getfield 12, 3) := by decide +kernel
theorem dX6_written_23 : decode cX6_written 23 = .ok (.aload_n 0, 1) := by decide +kernel
theorem dX6_written_24 : decode cX6_written 24 = .ok (.getfield 70, 3) := by decide +kernel
theorem dX6_written_27 : decode cX6_written 27 = .ok (.iload_n 1, 1) := by decide +kernel
theorem dX6_written_28 : decode cX6_written 28 = .ok (.invokevirtual 278, 3) := by decide +kernel
theorem dX6_written_31 : decode cX6_written 31 = .ok (.ireturn, 1) := by decide +kernel
theorem dX6_image_0 : decode cX6_image 0 = .ok (.aload_n 0, 1) := by decide +kernel
theorem dX6_image_1 : decode cX6_image 1 = .ok (.aload_n 0, 1) := by decide +kernel
theorem dX6_image_2 : decode cX6_image 2 = .ok (.getfield 70, 3) := by decide +kernel
theorem dX6_image_5 : decode cX6_image 5 = .ok (.putfield 62, 3) := by decide +kernel
theorem dX6_image_8 : decode cX6_image 8 = .ok (.aload_n 0, 1) := by decide +kernel
theorem dX6_image_9 : decode cX6_image 9 = .ok (.getfield 55, 3) := by decide +kernel
theorem dX6_image_12 : decode cX6_image 12 = .ok (.iconst 0, 1) := by decide +kernel
theorem dX6_image_13 : decode cX6_image 13 = .ok (.aload_n 0, 1) := by decide +kernel
theorem dX6_image_14 : decode cX6_image 14 = .ok (.getfield 59, 3) := by decide +kernel
theorem dX6_image_17 : decode cX6_image 17 = .ok (.iconst 0, 1) := by decide +kernel
theorem dX6_image_18 : decode cX6_image 18 = .ok (.iconst 4, 1) := by decide +kernel
theorem dX6_image_19 : decode cX6_image 19 = .ok (.invokestatic 281, 3) := by decide +kernel
theorem dX6_image_22 : decode cX6_image 22 = .ok (.aload_n 0, 1) := by decide +kernel
theorem dX6_image_23 : decode cX6_image 23 = .ok (.invokevirtual 77, 3) := by decide +kernel
theorem dX6_image_26 : decode cX6_image 26 = .ok (.ireturn, 1) := by decide +kernel
theorem dX6_undo_0 : decode cX6_undo 0 = .ok (.aload_n 0, 1) := by decide +kernel
theorem dX6_undo_1 : decode cX6_undo 1 = .ok (.getfield 62, 3) := by decide +kernel
theorem dX6_undo_4 : decode cX6_undo 4 = .ok (.ifCond .ne 6, 3) := by decide +kernel
theorem dX6_undo_7 : decode cX6_undo 7 = .ok (.bipush (-3), 2) := by decide +kernel
theorem dX6_undo_9 : decode cX6_undo 9 = .ok (.ireturn, 1) := by decide +kernel
theorem dX6_undo_10 : decode cX6_undo 10 = .ok (.aload_n 0, 1) := by decide +kernel
theorem dX6_undo_11 : decode cX6_undo 11 = .ok (.aload_n 0, 1) := by decide +kernel
theorem dX6_undo_12 : decode cX6_undo 12 = .ok (.getfield 62, 3) := by decide +kernel
theorem dX6_undo_15 : decode cX6_undo 15 = .ok (.putfield 70, 3) := by decide +kernel
theorem dX6_undo_18 : decode cX6_undo 18 = .ok (.aload_n 0, 1) := by decide +kernel
theorem dX6_undo_19 : decode cX6_undo 19 = .ok (.getfield 59, 3) := by decide +kernel
theorem dX6_undo_22 : decode cX6_undo 22 = .ok (.iconst 0, 1) := by decide +kernel
theorem dX6_undo_23 : decode cX6_undo 23 = .ok (.aload_n 0, 1) := by decide +kernel
theorem dX6_undo_24 : decode cX6_undo 24 = .ok (.getfield 55, 3) := by decide +kernel
theorem dX6_undo_27 : decode cX6_undo 27 = .ok (.iconst 0, 1) := by decide +kernel
theorem dX6_undo_28 : decode cX6_undo 28 = .ok (.iconst 4, 1) := by decide +kernel
theorem dX6_undo_29 : decode cX6_undo 29 = .ok (.invokestatic 281, 3) := by decide +kernel
theorem dX6_undo_32 : decode cX6_undo 32 = .ok (.aload_n 0, 1) := by decide +kernel
theorem dX6_undo_33 : decode cX6_undo 33 = .ok (.getfield 37, 3) := by decide +kernel
theorem dX6_undo_36 : decode cX6_undo 36 = .ok (.invokevirtual 81, 3) := by decide +kernel
theorem dX6_undo_39 : decode cX6_undo 39 = .ok (.aload_n 0, 1) := by decide +kernel
theorem dX6_undo_40 : decode cX6_undo 40 = .ok (.invokevirtual 77, 3) := by decide +kernel
theorem dX6_undo_43 : decode cX6_undo 43 = .ok (.ireturn, 1) := by decide +kernel
theorem dX6_count_0 : decode cX6_count 0 = .ok (.iload_n 1, 1) := by decide +kernel
theorem dX6_count_1 : decode cX6_count 1 = .ok (.tableswitch 69 0 4 #[35, 40, 48, 56, 61], 35) := by decide +kernel
theorem dX6_count_36 : decode cX6_count 36 = .ok (.aload_n 0, 1) := by decide +kernel
theorem dX6_count_37 : decode cX6_count 37 = .ok (.invokevirtual 77, 3) := by decide +kernel
theorem dX6_count_40 : decode cX6_count 40 = .ok (.ireturn, 1) := by decide +kernel
theorem dX6_count_41 : decode cX6_count 41 = .ok (.aload_n 0, 1) := by decide +kernel
theorem dX6_count_42 : decode cX6_count 42 = .ok (.getfield 37, 3) := by decide +kernel
theorem dX6_count_45 : decode cX6_count 45 = .ok (.invokevirtual 148, 3) := by decide +kernel
theorem dX6_count_48 : decode cX6_count 48 = .ok (.ireturn, 1) := by decide +kernel
theorem dX6_count_49 : decode cX6_count 49 = .ok (.aload_n 0, 1) := by decide +kernel
theorem dX6_count_50 : decode cX6_count 50 = .ok (.getfield 51, 3) := by decide +kernel
theorem dX6_count_53 : decode cX6_count 53 = .ok (.invokevirtual 259, 3) := by decide +kernel
theorem dX6_count_56 : decode cX6_count 56 = .ok (.ireturn, 1) := by decide +kernel
theorem dX6_count_57 : decode cX6_count 57 = .ok (.aload_n 0, 1) := by decide +kernel
theorem dX6_count_58 : decode cX6_count 58 = .ok (.invokevirtual 287, 3) := by decide +kernel
theorem dX6_count_61 : decode cX6_count 61 = .ok (.ireturn, 1) := by decide +kernel
theorem dX6_count_62 : decode cX6_count 62 = .ok (.aload_n 0, 1) := by decide +kernel
theorem dX6_count_63 : decode cX6_count 63 = .ok (.getfield 44, 3) := by decide +kernel
theorem dX6_count_66 : decode cX6_count 66 = .ok (.invokevirtual 290, 3) := by decide +kernel
theorem dX6_count_69 : decode cX6_count 69 = .ok (.ireturn, 1) := by decide +kernel
theorem dX6_count_70 : decode cX6_count 70 = .ok (.iconst (-1), 1) := by decide +kernel
theorem dX6_count_71 : decode cX6_count 71 = .ok (.ireturn, 1) := by decide +kernel
theorem dX6_size_0 : decode cX6_size 0 = .ok (.aload_n 0, 1) := by decide +kernel
theorem dX6_size_1 : decode cX6_size 1 = .ok (.getfield 12, 3) := by decide +kernel
theorem dX6_size_4 : decode cX6_size 4 = .ok (.aload_n 0, 1) := by decide +kernel
theorem dX6_size_5 : decode cX6_size 5 = .ok (.getfield 70, 3) := by decide +kernel
theorem dX6_size_8 : decode cX6_size 8 = .ok (.invokevirtual 162, 3) := by decide +kernel
theorem dX6_size_11 : decode cX6_size 11 = .ok (.ireturn, 1) := by decide +kernel
theorem dX6_isNode_0 : decode cX6_isNode 0 = .ok (.iload_n 1, 1) := by decide +kernel
theorem dX6_isNode_1 : decode cX6_isNode 1 = .ok (.ifCond .lt 15, 3) := by decide +kernel
theorem dX6_isNode_4 : decode cX6_isNode 4 = .ok (.iload_n 1, 1) := by decide +kernel
theorem dX6_isNode_5 : decode cX6_isNode 5 = .ok (.aload_n 0, 1) := by decide +kernel
theorem dX6_isNode_6 : decode cX6_isNode 6 = .ok (.invokevirtual 77, 3) := by decide +kernel
theorem dX6_isNode_9 : decode cX6_isNode 9 = .ok (.if_icmp .ge 7, 3) := by decide +kernel
theorem dX6_isNode_12 : decode cX6_isNode 12 = .ok (.iconst 1, 1) := by decide +kernel
theorem dX6_isNode_13 : decode cX6_isNode 13 = .ok (.goto 4, 3) := by decide +kernel
theorem dX6_isNode_16 : decode cX6_isNode 16 = .ok (.iconst 0, 1) := by decide +kernel
theorem dX6_isNode_17 : decode cX6_isNode 17 = .ok (.ireturn, 1) := by decide +kernel
theorem dX6_become_0 : decode cX6_become 0 = .ok (.iload_n 1, 1) := by decide +kernel
theorem dX6_become_1 : decode cX6_become 1 = .ok (.aload_n 0, 1) := by decide +kernel
theorem dX6_become_2 : decode cX6_become 2 = .ok (.getfield 70, 3) := by decide +kernel
theorem dX6_become_5 : decode cX6_become 5 = .ok (.if_icmp .eq 19, 3) := by decide +kernel
theorem dX6_become_8 : decode cX6_become 8 = .ok (.aload_n 0, 1) := by decide +kernel
theorem dX6_become_9 : decode cX6_become 9 = .ok (.getfield 37, 3) := by decide +kernel
theorem dX6_become_12 : decode cX6_become 12 = .ok (.aload_n 0, 1) := by decide +kernel
theorem dX6_become_13 : decode cX6_become 13 = .ok (.getfield 70, 3) := by decide +kernel
theorem dX6_become_16 : decode cX6_become 16 = .ok (.invokevirtual 293, 3) := by decide +kernel
theorem dX6_become_19 : decode cX6_become 19 = .ok (.aload_n 0, 1) := by decide +kernel
theorem dX6_become_20 : decode cX6_become 20 = .ok (.iload_n 1, 1) := by decide +kernel
theorem dX6_become_21 : decode cX6_become 21 = .ok (.putfield 70, 3) := by decide +kernel
theorem dX6_become_24 : decode cX6_become 24 = .ok (.return_, 1) := by decide +kernel
theorem dX6_becomeAndTell_0 : decode cX6_becomeAndTell 0 = .ok (.aload_n 0, 1) := by decide +kernel
theorem dX6_becomeAndTell_1 : decode cX6_becomeAndTell 1 = .ok (.iload_n 1, 1) := by decide +kernel
theorem dX6_becomeAndTell_2 : decode cX6_becomeAndTell 2 = .ok (.invokevirtual 118, 3) := by decide +kernel
theorem dX6_becomeAndTell_5 : decode cX6_becomeAndTell 5 = .ok (.aload_n 0, 1) := by decide +kernel
theorem dX6_becomeAndTell_6 : decode cX6_becomeAndTell 6 = .ok (.getfield 12, 3) := by decide +kernel
theorem dX6_becomeAndTell_9 : decode cX6_becomeAndTell 9 = .ok (.aload_n 0, 1) := by decide +kernel
theorem dX6_becomeAndTell_10 : decode cX6_becomeAndTell 10 = .ok (.getfield 70, 3) := by decide +kernel
theorem dX6_becomeAndTell_13 : decode cX6_becomeAndTell 13 = .ok (.invokevirtual 115, 3) := by decide +kernel
theorem dX6_becomeAndTell_16 : decode cX6_becomeAndTell 16 = .ok (.ireturn, 1) := by decide +kernel
theorem dX6_isShelf_0 : decode cX6_isShelf 0 = .ok (.iload_n 0, 1) := by decide +kernel
theorem dX6_isShelf_1 : decode cX6_isShelf 1 = .ok (.ifCond .lt 12, 3) := by decide +kernel
theorem dX6_isShelf_4 : decode cX6_isShelf 4 = .ok (.iload_n 0, 1) := by decide +kernel
theorem dX6_isShelf_5 : decode cX6_isShelf 5 = .ok (.iconst 4, 1) := by decide +kernel
theorem dX6_isShelf_6 : decode cX6_isShelf 6 = .ok (.if_icmp .ge 7, 3) := by decide +kernel
theorem dX6_isShelf_9 : decode cX6_isShelf 9 = .ok (.iconst 1, 1) := by decide +kernel
theorem dX6_isShelf_10 : decode cX6_isShelf 10 = .ok (.goto 4, 3) := by decide +kernel
theorem dX6_isShelf_13 : decode cX6_isShelf 13 = .ok (.iconst 0, 1) := by decide +kernel
theorem dX6_isShelf_14 : decode cX6_isShelf 14 = .ok (.ireturn, 1) := by decide +kernel
theorem dX6_lack_0 : decode cX6_lack 0 = .ok (.iload_n 1, 1) := by decide +kernel
theorem dX6_lack_1 : decode cX6_lack 1 = .ok (.invokestatic 211, 3) := by decide +kernel
theorem dX6_lack_4 : decode cX6_lack 4 = .ok (.ifCond .ne 5, 3) := by decide +kernel
theorem dX6_lack_7 : decode cX6_lack 7 = .ok (.iconst (-1), 1) := by decide +kernel
theorem dX6_lack_8 : decode cX6_lack 8 = .ok (.ireturn, 1) := by decide +kernel
theorem dX6_lack_9 : decode cX6_lack 9 = .ok (.aload_n 0, 1) := by decide +kernel
theorem dX6_lack_10 : decode cX6_lack 10 = .ok (.getfield 55, 3) := by decide +kernel
theorem dX6_lack_13 : decode cX6_lack 13 = .ok (.iload_n 1, 1) := by decide +kernel
theorem dX6_lack_14 : decode cX6_lack 14 = .ok (.iaload, 1) := by decide +kernel
theorem dX6_lack_15 : decode cX6_lack 15 = .ok (.ifCond .ne 8, 3) := by decide +kernel
theorem dX6_lack_18 : decode cX6_lack 18 = .ok (.bipush (-6), 2) := by decide +kernel
theorem dX6_lack_20 : decode cX6_lack 20 = .ok (.goto 4, 3) := by decide +kernel
theorem dX6_lack_23 : decode cX6_lack 23 = .ok (.iconst 0, 1) := by decide +kernel
theorem dX6_lack_24 : decode cX6_lack 24 = .ok (.ireturn, 1) := by decide +kernel
theorem dX6_lackOrTooMany_0 : decode cX6_lackOrTooMany 0 = .ok (.aload_n 0, 1) := by decide +kernel
theorem dX6_lackOrTooMany_1 : decode cX6_lackOrTooMany 1 = .ok (.iload_n 1, 1) := by decide +kernel
theorem dX6_lackOrTooMany_2 : decode cX6_lackOrTooMany 2 = .ok (.invokevirtual 214, 3) := by decide +kernel
theorem dX6_lackOrTooMany_5 : decode cX6_lackOrTooMany 5 = .ok (.istore_n 2, 1) := by decide +kernel
theorem dX6_lackOrTooMany_6 : decode cX6_lackOrTooMany 6 = .ok (.iload_n 2, 1) := by decide +kernel
theorem dX6_lackOrTooMany_7 : decode cX6_lackOrTooMany 7 = .ok (.ifCond .eq 5, 3) := by decide +kernel
theorem dX6_lackOrTooMany_10 : decode cX6_lackOrTooMany 10 = .ok (.iload_n 2, 1) := by decide +kernel
theorem dX6_lackOrTooMany_11 : decode cX6_lackOrTooMany 11 = .ok (.ireturn, 1) := by decide +kernel
theorem dX6_lackOrTooMany_12 : decode cX6_lackOrTooMany 12 = .ok (.aload_n 0, 1) := by decide +kernel
theorem dX6_lackOrTooMany_13 : decode cX6_lackOrTooMany 13 = .ok (.invokevirtual 77, 3) := by decide +kernel
theorem dX6_lackOrTooMany_16 : decode cX6_lackOrTooMany 16 = .ok (.aload_n 0, 1) := by decide +kernel
theorem dX6_lackOrTooMany_17 : decode cX6_lackOrTooMany 17 = .ok (.getfield 12, 3) := by decide +kernel
theorem dX6_lackOrTooMany_20 : decode cX6_lackOrTooMany 20 = .ok (.aload_n 0, 1) := by decide +kernel
theorem dX6_lackOrTooMany_21 : decode cX6_lackOrTooMany 21 = .ok (.getfield 55, 3) := by decide +kernel
theorem dX6_lackOrTooMany_24 : decode cX6_lackOrTooMany 24 = .ok (.iload_n 1, 1) := by decide +kernel
theorem dX6_lackOrTooMany_25 : decode cX6_lackOrTooMany 25 = .ok (.iaload, 1) := by decide +kernel
theorem dX6_lackOrTooMany_26 : decode cX6_lackOrTooMany 26 = .ok (.invokevirtual 162, 3) := by decide +kernel
theorem dX6_lackOrTooMany_29 : decode cX6_lackOrTooMany 29 = .ok (.iadd, 1) := by decide +kernel
theorem dX6_lackOrTooMany_30 : decode cX6_lackOrTooMany 30 = .ok (.bipush 7, 2) := by decide +kernel
theorem dX6_lackOrTooMany_32 : decode cX6_lackOrTooMany 32 = .ok (.if_icmp .le 8, 3) := by decide +kernel
theorem dX6_lackOrTooMany_35 : decode cX6_lackOrTooMany 35 = .ok (.bipush (-4), 2) := by decide +kernel
theorem dX6_lackOrTooMany_37 : decode cX6_lackOrTooMany 37 = .ok (.goto 4, 3) := by decide +kernel
theorem dX6_lackOrTooMany_40 : decode cX6_lackOrTooMany 40 = .ok (.iconst 0, 1) := by decide +kernel
theorem dX6_lackOrTooMany_41 : decode cX6_lackOrTooMany 41 = .ok (.ireturn, 1) := by decide +kernel
theorem dX6_refusal_0 : decode cX6_refusal 0 = .ok (.aload_n 0, 1) := by decide +kernel
theorem dX6_refusal_1 : decode cX6_refusal 1 = .ok (.iload_n 1, 1) := by decide +kernel
theorem dX6_refusal_2 : decode cX6_refusal 2 = .ok (.invokevirtual 214, 3) := by decide +kernel
theorem dX6_refusal_5 : decode cX6_refusal 5 = .ok (.istore_n 2, 1) := by decide +kernel
theorem dX6_refusal_6 : decode cX6_refusal 6 = .ok (.iload_n 2, 1) := by decide +kernel
theorem dX6_refusal_7 : decode cX6_refusal 7 = .ok (.ifCond .eq 5, 3) := by decide +kernel
theorem dX6_refusal_10 : decode cX6_refusal 10 = .ok (.iload_n 2, 1) := by decide +kernel
theorem dX6_refusal_11 : decode cX6_refusal 11 = .ok (.ireturn, 1) := by decide +kernel
theorem dX6_refusal_12 : decode cX6_refusal 12 = .ok (.aload_n 0, 1) := by decide +kernel
theorem dX6_refusal_13 : decode cX6_refusal 13 = .ok (.getfield 12, 3) := by decide +kernel
theorem dX6_refusal_16 : decode cX6_refusal 16 = .ok (.aload_n 0, 1) := by decide +kernel
theorem dX6_refusal_17 : decode cX6_refusal 17 = .ok (.getfield 55, 3) := by decide +kernel
theorem dX6_refusal_20 : decode cX6_refusal 20 = .ok (.iload_n 1, 1) := by decide +kernel
theorem dX6_refusal_21 : decode cX6_refusal 21 = .ok (.iaload, 1) := by decide +kernel
theorem dX6_refusal_22 : decode cX6_refusal 22 = .ok (.invokevirtual 162, 3) := by decide +kernel
theorem dX6_refusal_25 : decode cX6_refusal 25 = .ok (.aload_n 0, 1) := by decide +kernel
theorem dX6_refusal_26 : decode cX6_refusal 26 = .ok (.invokevirtual 77, 3) := by decide +kernel
theorem dX6_refusal_29 : decode cX6_refusal 29 = .ok (.if_icmp .ne 7, 3) := by decide +kernel
theorem dX6_refusal_32 : decode cX6_refusal 32 = .ok (.iconst 0, 1) := by decide +kernel
theorem dX6_refusal_33 : decode cX6_refusal 33 = .ok (.goto 5, 3) := by decide +kernel
theorem dX6_refusal_36 : decode cX6_refusal 36 = .ok (.bipush (-7), 2) := by decide +kernel
theorem dX6_refusal_38 : decode cX6_refusal 38 = .ok (.ireturn, 1) := by decide +kernel
theorem dX6_refusalOfTwo_0 : decode cX6_refusalOfTwo 0 = .ok (.iload_n 2, 1) := by decide +kernel
theorem dX6_refusalOfTwo_1 : decode cX6_refusalOfTwo 1 = .ok (.ifCond .lt 8, 3) := by decide +kernel
theorem dX6_refusalOfTwo_4 : decode cX6_refusalOfTwo 4 = .ok (.iload_n 2, 1) := by decide +kernel
theorem dX6_refusalOfTwo_5 : decode cX6_refusalOfTwo 5 = .ok (.iconst 1, 1) := by decide +kernel
theorem dX6_refusalOfTwo_6 : decode cX6_refusalOfTwo 6 = .ok (.if_icmp .le 7, 3) := by decide +kernel
theorem dX6_refusalOfTwo_9 : decode cX6_refusalOfTwo 9 = .ok (.iconst (-1), 1) := by decide +kernel
theorem dX6_refusalOfTwo_10 : decode cX6_refusalOfTwo 10 = .ok (.goto 8, 3) := by decide +kernel
theorem dX6_refusalOfTwo_13 : decode cX6_refusalOfTwo 13 = .ok (.aload_n 0, 1) := by decide +kernel
theorem dX6_refusalOfTwo_14 : decode cX6_refusalOfTwo 14 = .ok (.iload_n 1, 1) := by decide +kernel
theorem dX6_refusalOfTwo_15 : decode cX6_refusalOfTwo 15 = .ok (.invokevirtual 165, 3) := by decide +kernel
theorem dX6_refusalOfTwo_18 : decode cX6_refusalOfTwo 18 = .ok (.ireturn, 1) := by decide +kernel
theorem dX6_shelvesInUse_0 : decode cX6_shelvesInUse 0 = .ok (.iconst 0, 1) := by decide +kernel
theorem dX6_shelvesInUse_1 : decode cX6_shelvesInUse 1 = .ok (.istore_n 1, 1) := by decide +kernel
theorem dX6_shelvesInUse_2 : decode cX6_shelvesInUse 2 = .ok (.aload_n 0, 1) := by decide +kernel
theorem dX6_shelvesInUse_3 : decode cX6_shelvesInUse 3 = .ok (.getfield 55, 3) := by decide +kernel
theorem dX6_shelvesInUse_6 : decode cX6_shelvesInUse 6 = .ok (.astore_n 2, 1) := by decide +kernel
theorem dX6_shelvesInUse_7 : decode cX6_shelvesInUse 7 = .ok (.aload_n 2, 1) := by decide +kernel
theorem dX6_shelvesInUse_8 : decode cX6_shelvesInUse 8 = .ok (.arraylength, 1) := by decide +kernel
theorem dX6_shelvesInUse_9 : decode cX6_shelvesInUse 9 = .ok (.istore_n 3, 1) := by decide +kernel
theorem dX6_shelvesInUse_10 : decode cX6_shelvesInUse 10 = .ok (.iconst 0, 1) := by decide +kernel
theorem dX6_shelvesInUse_11 : decode cX6_shelvesInUse 11 = .ok (.istore 4, 2) := by decide +kernel
theorem dX6_shelvesInUse_13 : decode cX6_shelvesInUse 13 = .ok (.iload 4, 2) := by decide +kernel
theorem dX6_shelvesInUse_15 : decode cX6_shelvesInUse 15 = .ok (.iload_n 3, 1) := by decide +kernel
theorem dX6_shelvesInUse_16 : decode cX6_shelvesInUse 16 = .ok (.if_icmp .ge 23, 3) := by decide +kernel
theorem dX6_shelvesInUse_19 : decode cX6_shelvesInUse 19 = .ok (.aload_n 2, 1) := by decide +kernel
theorem dX6_shelvesInUse_20 : decode cX6_shelvesInUse 20 = .ok (.iload 4, 2) := by decide +kernel
theorem dX6_shelvesInUse_22 : decode cX6_shelvesInUse 22 = .ok (.iaload, 1) := by decide +kernel
theorem dX6_shelvesInUse_23 : decode cX6_shelvesInUse 23 = .ok (.istore 5, 2) := by decide +kernel
theorem dX6_shelvesInUse_25 : decode cX6_shelvesInUse 25 = .ok (.iload 5, 2) := by decide +kernel
theorem dX6_shelvesInUse_27 : decode cX6_shelvesInUse 27 = .ok (.ifCond .eq 6, 3) := by decide +kernel
theorem dX6_shelvesInUse_30 : decode cX6_shelvesInUse 30 = .ok (.iinc 1 1, 3) := by decide +kernel
theorem dX6_shelvesInUse_33 : decode cX6_shelvesInUse 33 = .ok (.iinc 4 1, 3) := by decide +kernel
theorem dX6_shelvesInUse_36 : decode cX6_shelvesInUse 36 = .ok (.goto (-23), 3) := by decide +kernel
theorem dX6_shelvesInUse_39 : decode cX6_shelvesInUse 39 = .ok (.iload_n 1, 1) := by decide +kernel
theorem dX6_shelvesInUse_40 : decode cX6_shelvesInUse 40 = .ok (.ireturn, 1) := by decide +kernel
