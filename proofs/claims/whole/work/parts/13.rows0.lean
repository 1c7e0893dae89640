theorem dX0_init_0 : decode cX0_init 0 = .ok (.aload_n 0, 1) := by decide +kernel
theorem dX0_init_1 : decode cX0_init 1 = .ok (.invokespecial 3, 3) := by decide +kernel
theorem dX0_init_4 : decode cX0_init 4 = .ok (.aload_n 0, 1) := by decide +kernel
theorem dX0_init_5 : decode cX0_init 5 = .ok (.bipush 50, 2) := by decide +kernel
theorem dX0_init_7 : decode cX0_init 7 = .ok (.newarray .int, 2) := by decide +kernel
theorem dX0_init_9 : decode cX0_init 9 = .ok (.putfield 11, 3) := by decide +kernel
theorem dX0_init_12 : decode cX0_init 12 = .ok (.aload_n 0, 1) := by decide +kernel
theorem dX0_init_13 : decode cX0_init 13 = .ok (.bipush 24, 2) := by decide +kernel
theorem dX0_init_15 : decode cX0_init 15 = .ok (.newarray .int, 2) := by decide +kernel
theorem dX0_init_17 : decode cX0_init 17 = .ok (.putfield 15, 3) := by decide +kernel
theorem dX0_init_20 : decode cX0_init 20 = .ok (.return_, 1) := by decide +kernel
theorem dX0_bear_0 : decode cX0_bear 0 = .ok (.aload_n 0, 1) := by decide +kernel
theorem dX0_bear_1 : decode cX0_bear 1 = .ok (.getfield 18, 3) := by decide +kernel
theorem dX0_bear_4 : decode cX0_bear 4 = .ok (.bipush 50, 2) := by decide +kernel
theorem dX0_bear_6 : decode cX0_bear 6 = .ok (.if_icmp .lt 6, 3) := by decide +kernel
theorem dX0_bear_9 : decode cX0_bear 9 = .ok (.bipush (-3), 2) := by decide +kernel
theorem dX0_bear_11 : decode cX0_bear 11 = .ok (.ireturn, 1) := by decide +kernel
theorem dX0_bear_12 : decode cX0_bear 12 = .ok (.aload_n 0, 1) := by decide +kernel
theorem dX0_bear_13 : decode cX0_bear 13 = .ok (.getfield 11, 3) := by decide +kernel
theorem dX0_bear_16 : decode cX0_bear 16 = .ok (.aload_n 0, 1) := by decide +kernel
theorem dX0_bear_17 : decode cX0_bear 17 = .ok (.getfield 18, 3) := by decide +kernel
theorem dX0_bear_20 : decode cX0_bear 20 = .ok (.iload_n 1, 1) := by decide +kernel
theorem dX0_bear_21 : decode cX0_bear 21 = .ok (.iastore, 1) := by decide +kernel
theorem dX0_bear_22 : decode cX0_bear 22 = .ok (.aload_n 0, 1) := by decide +kernel
theorem dX0_bear_23 : decode cX0_bear 23 = .ok (.dup, 1) := by decide +kernel
theorem dX0_bear_24 : decode cX0_bear 24 = .ok (.getfield 18, 3) := by decide +kernel
theorem dX0_bear_27 : decode cX0_bear 27 = .ok (.iconst 1, 1) := by decide +kernel
theorem dX0_bear_28 : decode cX0_bear 28 = .ok (.iadd, 1) := by decide +kernel
theorem dX0_bear_29 : decode cX0_bear 29 = .ok (.putfield 18, 3) := by decide +kernel
theorem dX0_bear_32 : decode cX0_bear 32 = .ok (.aload_n 0, 1) := by decide +kernel
theorem dX0_bear_33 : decode cX0_bear 33 = .ok (.getfield 18, 3) := by decide +kernel
theorem dX0_bear_36 : decode cX0_bear 36 = .ok (.iconst 1, 1) := by decide +kernel
theorem dX0_bear_37 : decode cX0_bear 37 = .ok (.isub, 1) := by decide +kernel
theorem dX0_bear_38 : decode cX0_bear 38 = .ok (.ireturn, 1) := by decide +kernel
theorem dX0_isUnder_0 : decode cX0_isUnder 0 = .ok (.iload_n 0, 1) := by decide +kernel
theorem dX0_isUnder_1 : decode cX0_isUnder 1 = .ok (.istore_n 2, 1) := by decide +kernel
theorem dX0_isUnder_2 : decode cX0_isUnder 2 = .ok (.iconst 0, 1) := by decide +kernel
theorem dX0_isUnder_3 : decode cX0_isUnder 3 = .ok (.istore_n 3, 1) := by decide +kernel
theorem dX0_isUnder_4 : decode cX0_isUnder 4 = .ok (.iload_n 3, 1) := by decide +kernel
theorem dX0_isUnder_5 : decode cX0_isUnder 5 = .ok (.bipush 8, 2) := by decide +kernel
theorem dX0_isUnder_7 : decode cX0_isUnder 7 = .ok (.if_icmp .ge 24, 3) := by decide +kernel
theorem dX0_isUnder_10 : decode cX0_isUnder 10 = .ok (.iload_n 2, 1) := by decide +kernel
theorem dX0_isUnder_11 : decode cX0_isUnder 11 = .ok (.ifCond .lt 20, 3) := by decide +kernel
theorem dX0_isUnder_14 : decode cX0_isUnder 14 = .ok (.iload_n 2, 1) := by decide +kernel
theorem dX0_isUnder_15 : decode cX0_isUnder 15 = .ok (.iload_n 1, 1) := by decide +kernel
theorem dX0_isUnder_16 : decode cX0_isUnder 16 = .ok (.if_icmp .eq 15, 3) := by decide +kernel
theorem dX0_isUnder_19 : decode cX0_isUnder 19 = .ok (.getstatic 22, 3) := by decide +kernel
theorem dX0_isUnder_22 : decode cX0_isUnder 22 = .ok (.iload_n 2, 1) := by decide +kernel
theorem dX0_isUnder_23 : decode cX0_isUnder 23 = .ok (.iaload, 1) := by decide +kernel
theorem dX0_isUnder_24 : decode cX0_isUnder 24 = .ok (.istore_n 2, 1) := by decide +kernel
theorem dX0_isUnder_25 : decode cX0_isUnder 25 = .ok (.iinc 3 1, 3) := by decide +kernel
theorem dX0_isUnder_28 : decode cX0_isUnder 28 = .ok (.goto (-24), 3) := by decide +kernel
theorem dX0_isUnder_31 : decode cX0_isUnder 31 = .ok (.iload_n 2, 1) := by decide +kernel
theorem dX0_isUnder_32 : decode cX0_isUnder 32 = .ok (.iload_n 1, 1) := by decide +kernel
theorem dX0_isUnder_33 : decode cX0_isUnder 33 = .ok (.if_icmp .ne 7, 3) := by decide +kernel
theorem dX0_isUnder_36 : decode cX0_isUnder 36 = .ok (.iconst 1, 1) := by decide +kernel
theorem dX0_isUnder_37 : decode cX0_isUnder 37 = .ok (.goto 4, 3) := by decide +kernel
theorem dX0_isUnder_40 : decode cX0_isUnder 40 = .ok (.iconst 0, 1) := by decide +kernel
theorem dX0_isUnder_41 : decode cX0_isUnder 41 = .ok (.ireturn, 1) := by decide +kernel
theorem dX0_tracedBodies_0 : decode cX0_tracedBodies 0 = .ok (.aload_n 0, 1) := by decide +kernel
theorem dX0_tracedBodies_1 : decode cX0_tracedBodies 1 = .ok (.getfield 25, 3) := by decide +kernel
theorem dX0_tracedBodies_4 : decode cX0_tracedBodies 4 = .ok (.bipush 24, 2) := by decide +kernel
theorem dX0_tracedBodies_6 : decode cX0_tracedBodies 6 = .ok (.invokestatic 28, 3) := by decide +kernel
theorem dX0_tracedBodies_9 : decode cX0_tracedBodies 9 = .ok (.ireturn, 1) := by decide +kernel
theorem dX0_perform_0 : decode cX0_perform 0 = .ok (.aload_n 0, 1) := by decide +kernel
theorem dX0_perform_1 : decode cX0_perform 1 = .ok (.iconst 0, 1) := by decide +kernel
theorem dX0_perform_2 : decode cX0_perform 2 = .ok (.putfield 25, 3) := by decide +kernel
theorem dX0_perform_5 : decode cX0_perform 5 = .ok (.iload_n 1, 1) := by decide +kernel
theorem dX0_perform_6 : decode cX0_perform 6 = .ok (.aload_n 0, 1) := by decide +kernel
theorem dX0_perform_7 : decode cX0_perform 7 = .ok (.getfield 18, 3) := by decide +kernel
theorem dX0_perform_10 : decode cX0_perform 10 = .ok (.iconst 1, 1) := by decide +kernel
theorem dX0_perform_11 : decode cX0_perform 11 = .ok (.isub, 1) := by decide +kernel
theorem dX0_perform_12 : decode cX0_perform 12 = .ok (.invokestatic 34, 3) := by decide +kernel
theorem dX0_perform_15 : decode cX0_perform 15 = .ok (.ifCond .ne 11, 3) := by decide +kernel
theorem dX0_perform_18 : decode cX0_perform 18 = .ok (.iload_n 2, 1) := by decide +kernel
theorem dX0_perform_19 : decode cX0_perform 19 = .ok (.iconst 3, 1) := by decide +kernel
theorem dX0_perform_20 : decode cX0_perform 20 = .ok (.invokestatic 34, 3) := by decide +kernel
theorem dX0_perform_23 : decode cX0_perform 23 = .ok (.ifCond .eq 5, 3) := by decide +kernel
theorem dX0_perform_26 : decode cX0_perform 26 = .ok (.iconst 0, 1) := by decide +kernel
theorem dX0_perform_27 : decode cX0_perform 27 = .ok (.ireturn, 1) := by decide +kernel
theorem dX0_perform_28 : decode cX0_perform 28 = .ok (.aload_n 0, 1) := by decide +kernel
theorem dX0_perform_29 : decode cX0_perform 29 = .ok (.iload_n 1, 1) := by decide +kernel
theorem dX0_perform_30 : decode cX0_perform 30 = .ok (.aload_n 0, 1) := by decide +kernel
theorem dX0_perform_31 : decode cX0_perform 31 = .ok (.getfield 11, 3) := by decide +kernel
theorem dX0_perform_34 : decode cX0_perform 34 = .ok (.iload_n 1, 1) := by decide +kernel
theorem dX0_perform_35 : decode cX0_perform 35 = .ok (.iaload, 1) := by decide +kernel
theorem dX0_perform_36 : decode cX0_perform 36 = .ok (.iload_n 2, 1) := by decide +kernel
theorem dX0_perform_37 : decode cX0_perform 37 = .ok (.iload_n 3, 1) := by decide +kernel
theorem dX0_perform_38 : decode cX0_perform 38 = .ok (.iconst 0, 1) := by decide +kernel
theorem dX0_perform_39 : decode cX0_perform 39 = .ok (.invokevirtual 38, 3) := by decide +kernel
theorem dX0_perform_42 : decode cX0_perform 42 = .ok (.ireturn, 1) := by decide +kernel
theorem dX0_run_0 : decode cX0_run 0 = .ok (.iload_n 2, 1) := by decide +kernel
theorem dX0_run_1 : decode cX0_run 1 = .ok (.istore 6, 2) := by decide +kernel
theorem dX0_run_3 : decode cX0_run 3 = .ok (.iconst 0, 1) := by decide +kernel
theorem dX0_run_4 : decode cX0_run 4 = .ok (.istore 7, 2) := by decide +kernel
theorem dX0_run_6 : decode cX0_run 6 = .ok (.iload 7, 2) := by decide +kernel
theorem dX0_run_8 : decode cX0_run 8 = .ok (.bipush 8, 2) := by decide +kernel
theorem dX0_run_10 : decode cX0_run 10 = .ok (.if_icmp .ge 35, 3) := by decide +kernel
theorem dX0_run_13 : decode cX0_run 13 = .ok (.iload 6, 2) := by decide +kernel
theorem dX0_run_15 : decode cX0_run 15 = .ok (.ifCond .lt 30, 3) := by decide +kernel
theorem dX0_run_18 : decode cX0_run 18 = .ok (.getstatic 42, 3) := by decide +kernel
theorem dX0_run_21 : decode cX0_run 21 = .ok (.iload 6, 2) := by decide +kernel
theorem dX0_run_23 : decode cX0_run 23 = .ok (.iconst 4, 1) := by decide +kernel
theorem dX0_run_24 : decode cX0_run 24 = .ok (.imul, 1) := by decide +kernel
theorem dX0_run_25 : decode cX0_run 25 = .ok (.iload_n 3, 1) := by decide +kernel
theorem dX0_run_26 : decode cX0_run 26 = .ok (.iadd, 1) := by decide +kernel
theorem dX0_run_27 : decode cX0_run 27 = .ok (.iaload, 1) := by decide +kernel
theorem dX0_run_28 : decode cX0_run 28 = .ok (.ifCond .ne 17, 3) := by decide +kernel
theorem dX0_run_31 : decode cX0_run 31 = .ok (.getstatic 22, 3) := by decide +kernel
theorem dX0_run_34 : decode cX0_run 34 = .ok (.iload 6, 2) := by decide +kernel
theorem dX0_run_36 : decode cX0_run 36 = .ok (.iaload, 1) := by decide +kernel
theorem dX0_run_37 : decode cX0_run 37 = .ok (.istore 6, 2) := by decide +kernel
theorem dX0_run_39 : decode cX0_run 39 = .ok (.iinc 7 1, 3) := by decide +kernel
theorem dX0_run_42 : decode cX0_run 42 = .ok (.goto (-36), 3) := by decide +kernel
theorem dX0_run_45 : decode cX0_run 45 = .ok (.iload 6, 2) := by decide +kernel
theorem dX0_run_47 : decode cX0_run 47 = .ok (.ifCond .lt 10, 3) := by decide +kernel
theorem dX0_run_50 : decode cX0_run 50 = .ok (.iload 5, 2) := by decide +kernel
theorem dX0_run_52 : decode cX0_run 52 = .ok (.bipush 40, 2) := by decide +kernel
theorem dX0_run_54 : decode cX0_run 54 = .ok (.if_icmp .le 5, 3) := by decide +kernel
theorem dX0_run_57 : decode cX0_run 57 = .ok (.iconst 0, 1) := by decide +kernel
theorem dX0_run_58 : decode cX0_run 58 = .ok (.ireturn, 1) := by decide +kernel
theorem dX0_run_59 : decode cX0_run 59 = .ok (.getstatic 42, 3) := by decide +kernel
theorem dX0_run_62 : decode cX0_run 62 = .ok (.iload 6, 2) := by decide +kernel
theorem dX0_run_64 : decode cX0_run 64 = .ok (.iconst 4, 1) := by decide +kernel
theorem dX0_run_65 : decode cX0_run 65 = .ok (.imul, 1) := by decide +kernel
theorem dX0_run_66 : decode cX0_run 66 = .ok (.iload_n 3, 1) := by decide +kernel
theorem dX0_run_67 : decode cX0_run 67 = .ok (.iadd, 1) := by decide +kernel
theorem dX0_run_68 : decode cX0_run 68 = .ok (.iaload, 1) := by decide +kernel
theorem dX0_run_69 : decode cX0_run 69 = .ok (.istore 7, 2) := by decide +kernel
theorem dX0_run_71 : decode cX0_run 71 = .ok (.aload_n 0, 1) := by decide +kernel
theorem dX0_run_72 : decode cX0_run 72 = .ok (.getfield 25, 3) := by decide +kernel
theorem dX0_run_75 : decode cX0_run 75 = .ok (.bipush 24, 2) := by decide +kernel
theorem dX0_run_77 : decode cX0_run 77 = .ok (.if_icmp .ge 14, 3) := by decide +kernel
theorem dX0_run_80 : decode cX0_run 80 = .ok (.aload_n 0, 1) := by decide +kernel
theorem dX0_run_81 : decode cX0_run 81 = .ok (.getfield 15, 3) := by decide +kernel
theorem dX0_run_84 : decode cX0_run 84 = .ok (.aload_n 0, 1) := by decide +kernel
theorem dX0_run_85 : decode cX0_run 85 = .ok (.getfield 25, 3) := by decide +kernel
theorem dX0_run_88 : decode cX0_run 88 = .ok (.iload 7, 2) := by decide +kernel
theorem dX0_run_90 : decode cX0_run 90 = .ok (.iastore, 1) := by decide +kernel
theorem dX0_run_91 : decode cX0_run 91 = .ok (.aload_n 0, 1) := by decide +kernel
theorem dX0_run_92 : decode cX0_run 92 = .ok (.dup, 1) := by decide +kernel
theorem dX0_run_93 : decode cX0_run 93 = .ok (.getfield 25, 3) := by decide +kernel
theorem dX0_run_96 : decode cX0_run 96 = .ok (.iconst 1, 1) := by decide +kernel
theorem dX0_run_97 : decode cX0_run 97 = .ok (.iadd, 1) := by decide +kernel
theorem dX0_run_98 : decode cX0_run 98 = .ok (.putfield 25, 3) := by decide +kernel
theorem dX0_run_101 : decode cX0_run 101 = .ok (.getstatic 22, 3) := by decide +kernel
theorem dX0_run_104 : decode cX0_run 104 = .ok (.iload 6, 2) := by decide +kernel
theorem dX0_run_106 : decode cX0_run 106 = .ok (.iaload, 1) := by decide +kernel
theorem dX0_run_107 : decode cX0_run 107 = .ok (.ifCond .ge 17, 3) := by decide +kernel
theorem dX0_run_110 : decode cX0_run 110 = .ok (.aload_n 0, 1) := by decide +kernel
theorem dX0_run_111 : decode cX0_run 111 = .ok (.iload 7, 2) := by decide +kernel
theorem dX0_run_113 : decode cX0_run 113 = .ok (.iload_n 1, 1) := by decide +kernel
theorem dX0_run_114 : decode cX0_run 114 = .ok (.iload 4, 2) := by decide +kernel
theorem dX0_run_116 : decode cX0_run 116 = .ok (.iload 5, 2) := by decide +kernel
theorem dX0_run_118 : decode cX0_run 118 = .ok (.invokevirtual 45, 3) := by decide +kernel
theorem dX0_run_121 : decode cX0_run 121 = .ok (.goto 20, 3) := by decide +kernel
theorem dX0_run_124 : decode cX0_run 124 = .ok (.aload_n 0, 1) := by decide +kernel
theorem dX0_run_125 : decode cX0_run 125 = .ok (.iload 7, 2) := by decide +kernel
theorem dX0_run_127 : decode cX0_run 127 = .ok (.iload_n 1, 1) := by decide +kernel
theorem dX0_run_128 : decode cX0_run 128 = .ok (.getstatic 22, 3) := by decide +kernel
theorem dX0_run_131 : decode cX0_run 131 = .ok (.iload 6, 2) := by decide +kernel
theorem dX0_run_133 : decode cX0_run 133 = .ok (.iaload, 1) := by decide +kernel
theorem dX0_run_134 : decode cX0_run 134 = .ok (.iload 4, 2) := by decide +kernel
theorem dX0_run_136 : decode cX0_run 136 = .ok (.iload 5, 2) := by decide +kernel
theorem dX0_run_138 : decode cX0_run 138 = .ok (.invokevirtual 49, 3) := by decide +kernel
theorem dX0_run_141 : decode cX0_run 141 = .ok (.ireturn, 1) := by decide +kernel
theorem dX0_rootWork_0 : decode cX0_rootWork 0 = .ok (.aload_n 0, 1) := by decide +kernel
theorem dX0_rootWork_1 : decode cX0_rootWork 1 = .ok (.getfield 11, 3) := by decide +kernel
theorem dX0_rootWork_4 : decode cX0_rootWork 4 = .ok (.iload_n 2, 1) := by decide +kernel
theorem dX0_rootWork_5 : decode cX0_rootWork 5 = .ok (.iaload, 1) := by decide +kernel
theorem dX0_rootWork_6 : decode cX0_rootWork 6 = .ok (.istore 5, 2) := by decide +kernel
theorem dX0_rootWork_8 : decode cX0_rootWork 8 = .ok (.iload 4, 2) := by decide +kernel
theorem dX0_rootWork_10 : decode cX0_rootWork 10 = .ok (.iconst 1, 1) := by decide +kernel
theorem dX0_rootWork_11 : decode cX0_rootWork 11 = .ok (.iadd, 1) := by decide +kernel
theorem dX0_rootWork_12 : decode cX0_rootWork 12 = .ok (.istore 6, 2) := by decide +kernel
theorem dX0_rootWork_14 : decode cX0_rootWork 14 = .ok (.iload_n 1, 1) := by decide +kernel
theorem dX0_rootWork_15 : decode cX0_rootWork 15 = .ok (.lookupswitch 87 #[(1, 41), (2, 63), (10, 45), (11, 59)], 41) := by decide +kernel
theorem dX0_rootWork_56 : decode cX0_rootWork 56 = .ok (.iload_n 3, 1) := by decide +kernel
theorem dX0_rootWork_57 : decode cX0_rootWork 57 = .ok (.iload_n 2, 1) := by decide +kernel
theorem dX0_rootWork_58 : decode cX0_rootWork 58 = .ok (.iadd, 1) := by decide +kernel
theorem dX0_rootWork_59 : decode cX0_rootWork 59 = .ok (.ireturn, 1) := by decide +kernel
theorem dX0_rootWork_60 : decode cX0_rootWork 60 = .ok (.aload_n 0, 1) := by decide +kernel
theorem dX0_rootWork_61 : decode cX0_rootWork 61 = .ok (.iload_n 2, 1) := by decide +kernel
theorem dX0_rootWork_62 : decode cX0_rootWork 62 = .ok (.iload 5, 2) := by decide +kernel
theorem dX0_rootWork_64 : decode cX0_rootWork 64 = .ok (.iconst 0, 1) := by decide +kernel
theorem dX0_rootWork_65 : decode cX0_rootWork 65 = .ok (.iload_n 3, 1) := by decide +kernel
theorem dX0_rootWork_66 : decode cX0_rootWork 66 = .ok (.iload 6, 2) := by decide +kernel
theorem dX0_rootWork_68 : decode cX0_rootWork 68 = .ok (.invokevirtual 38, 3) := by decide +kernel
theorem dX0_rootWork_71 : decode cX0_rootWork 71 = .ok (.iconst 2, 1) := by decide +kernel
theorem dX0_rootWork_72 : decode cX0_rootWork 72 = .ok (.imul, 1) := by decide +kernel
theorem dX0_rootWork_73 : decode cX0_rootWork 73 = .ok (.ireturn, 1) := by decide +kernel
theorem dX0_rootWork_74 : decode cX0_rootWork 74 = .ok (.iload_n 3, 1) := by decide +kernel
theorem dX0_rootWork_75 : decode cX0_rootWork 75 = .ok (.iload_n 2, 1) := by decide +kernel
theorem dX0_rootWork_76 : decode cX0_rootWork 76 = .ok (.ixor, 1) := by decide +kernel
theorem dX0_rootWork_77 : decode cX0_rootWork 77 = .ok (.ireturn, 1) := by decide +kernel
theorem dX0_rootWork_78 : decode cX0_rootWork 78 = .ok (.aload_n 0, 1) := by decide +kernel
theorem dX0_rootWork_79 : decode cX0_rootWork 79 = .ok (.iload_n 2, 1) := by decide +kernel
theorem dX0_rootWork_80 : decode cX0_rootWork 80 = .ok (.iload 5, 2) := by decide +kernel
theorem dX0_rootWork_82 : decode cX0_rootWork 82 = .ok (.iconst 1, 1) := by decide +kernel
theorem dX0_rootWork_83 : decode cX0_rootWork 83 = .ok (.iload_n 3, 1) := by decide +kernel
theorem dX0_rootWork_84 : decode cX0_rootWork 84 = .ok (.iload 6, 2) := by decide +kernel
theorem dX0_rootWork_86 : decode cX0_rootWork 86 = .ok (.invokevirtual 38, 3) := by decide +kernel
theorem dX0_rootWork_89 : decode cX0_rootWork 89 = .ok (.aload_n 0, 1) := by decide +kernel
theorem dX0_rootWork_90 : decode cX0_rootWork 90 = .ok (.iload_n 2, 1) := by decide +kernel
theorem dX0_rootWork_91 : decode cX0_rootWork 91 = .ok (.iload 5, 2) := by decide +kernel
theorem dX0_rootWork_93 : decode cX0_rootWork 93 = .ok (.iconst 2, 1) := by decide +kernel
theorem dX0_rootWork_94 : decode cX0_rootWork 94 = .ok (.iconst 1, 1) := by decide +kernel
theorem dX0_rootWork_95 : decode cX0_rootWork 95 = .ok (.iload 6, 2) := by decide +kernel
theorem dX0_rootWork_97 : decode cX0_rootWork 97 = .ok (.invokevirtual 38, 3) := by decide +kernel
theorem dX0_rootWork_100 : decode cX0_rootWork 100 = .ok (.isub, 1) := by decide +kernel
theorem dX0_rootWork_101 : decode cX0_rootWork 101 = .ok (.ireturn, 1) := by decide +kernel
theorem dX0_rootWork_102 : decode cX0_rootWork 102 = .ok (.iconst 0, 1) := by decide +kernel
theorem dX0_rootWork_103 : decode cX0_rootWork 103 = .ok (.ireturn, 1) := by decide +kernel
theorem dX0_work_0 : decode cX0_work 0 = .ok (.aload_n 0, 1) := by decide +kernel
theorem dX0_work_1 : decode cX0_work 1 = .ok (.getfield 11, 3) := by decide +kernel
theorem dX0_work_4 : decode cX0_work 4 = .ok (.iload_n 2, 1) := by decide +kernel
theorem dX0_work_5 : decode cX0_work 5 = .ok (.iaload, 1) := by decide +kernel
theorem dX0_work_6 : decode cX0_work 6 = .ok (.istore 6, 2) := by decide +kernel
theorem dX0_work_8 : decode cX0_work 8 = .ok (.iload 5, 2) := by decide +kernel
theorem dX0_work_10 : decode cX0_work 10 = .ok (.iconst 1, 1) := by decide +kernel
theorem dX0_work_11 : decode cX0_work 11 = .ok (.iadd, 1) := by decide +kernel
theorem dX0_work_12 : decode cX0_work 12 = .ok (.istore 7, 2) := by decide +kernel
theorem dX0_work_14 : decode cX0_work 14 = .ok (.iload_n 1, 1) := by decide +kernel
theorem dX0_work_15 : decode cX0_work 15 = .ok (.lookupswitch 248 #[(20, 89), (30, 103), (40, 116), (41, 130), (50, 144), (60, 158), (61, 182), (70, 196), (80, 210), (81, 234)], 89) := by decide +kernel
theorem dX0_work_104 : decode cX0_work 104 = .ok (.aload_n 0, 1) := by decide +kernel
theorem dX0_work_105 : decode cX0_work 105 = .ok (.iload_n 2, 1) := by decide +kernel
theorem dX0_work_106 : decode cX0_work 106 = .ok (.iload_n 3, 1) := by decide +kernel
theorem dX0_work_107 : decode cX0_work 107 = .ok (.iconst 0, 1) := by decide +kernel
theorem dX0_work_108 : decode cX0_work 108 = .ok (.iload 4, 2) := by decide +kernel
theorem dX0_work_110 : decode cX0_work 110 = .ok (.iload 7, 2) := by decide +kernel
theorem dX0_work_112 : decode cX0_work 112 = .ok (.invokevirtual 38, 3) := by decide +kernel
theorem dX0_work_115 : decode cX0_work 115 = .ok (.iconst 3, 1) := by decide +kernel
theorem dX0_work_116 : decode cX0_work 116 = .ok (.iadd, 1) := by decide +kernel
theorem dX0_work_117 : decode cX0_work 117 = .ok (.ireturn, 1) := by decide +kernel
theorem dX0_work_118 : decode cX0_work 118 = .ok (.aload_n 0, 1) := by decide +kernel
theorem dX0_work_119 : decode cX0_work 119 = .ok (.iload_n 2, 1) := by decide +kernel
theorem dX0_work_120 : decode cX0_work 120 = .ok (.iload_n 3, 1) := by decide +kernel
theorem dX0_work_121 : decode cX0_work 121 = .ok (.iconst 1, 1) := by decide +kernel
theorem dX0_work_122 : decode cX0_work 122 = .ok (.iload 4, 2) := by decide +kernel
theorem dX0_work_124 : decode cX0_work 124 = .ok (.iload 7, 2) := by decide +kernel
theorem dX0_work_126 : decode cX0_work 126 = .ok (.invokevirtual 38, 3) := by decide +kernel
theorem dX0_work_129 : decode cX0_work 129 = .ok (.ineg, 1) := by decide +kernel
theorem dX0_work_130 : decode cX0_work 130 = .ok (.ireturn, 1) := by decide +kernel
theorem dX0_work_131 : decode cX0_work 131 = .ok (.aload_n 0, 1) := by decide +kernel
theorem dX0_work_132 : decode cX0_work 132 = .ok (.iload_n 2, 1) := by decide +kernel
theorem dX0_work_133 : decode cX0_work 133 = .ok (.iload_n 3, 1) := by decide +kernel
theorem dX0_work_134 : decode cX0_work 134 = .ok (.iconst 2, 1) := by decide +kernel
theorem dX0_work_135 : decode cX0_work 135 = .ok (.iload 4, 2) := by decide +kernel
theorem dX0_work_137 : decode cX0_work 137 = .ok (.iload 7, 2) := by decide +kernel
theorem dX0_work_139 : decode cX0_work 139 = .ok (.invokevirtual 38, 3) := by decide +kernel
theorem dX0_work_142 : decode cX0_work 142 = .ok (.iconst 3, 1) := by decide +kernel
theorem dX0_work_143 : decode cX0_work 143 = .ok (.imul, 1) := by decide +kernel
theorem dX0_work_144 : decode cX0_work 144 = .ok (.ireturn, 1) := by decide +kernel
theorem dX0_work_145 : decode cX0_work 145 = .ok (.aload_n 0, 1) := by decide +kernel
theorem dX0_work_146 : decode cX0_work 146 = .ok (.iload_n 2, 1) := by decide +kernel
theorem dX0_work_147 : decode cX0_work 147 = .ok (.iload_n 3, 1) := by decide +kernel
theorem dX0_work_148 : decode cX0_work 148 = .ok (.iconst 1, 1) := by decide +kernel
theorem dX0_work_149 : decode cX0_work 149 = .ok (.iload 4, 2) := by decide +kernel
theorem dX0_work_151 : decode cX0_work 151 = .ok (.iconst 1, 1) := by decide +kernel
theorem dX0_work_152 : decode cX0_work 152 = .ok (.iadd, 1) := by decide +kernel
theorem dX0_work_153 : decode cX0_work 153 = .ok (.iload 7, 2) := by decide +kernel
theorem dX0_work_155 : decode cX0_work 155 = .ok (.invokevirtual 38, 3) := by decide +kernel
theorem dX0_work_158 : decode cX0_work 158 = .ok (.ireturn, 1) := by decide +kernel
theorem dX0_work_159 : decode cX0_work 159 = .ok (.aload_n 0, 1) := by decide +kernel
theorem dX0_work_160 : decode cX0_work 160 = .ok (.iload_n 2, 1) := by decide +kernel
theorem dX0_work_161 : decode cX0_work 161 = .ok (.iload_n 3, 1) := by decide +kernel
theorem dX0_work_162 : decode cX0_work 162 = .ok (.iconst 3, 1) := by decide +kernel
theorem dX0_work_163 : decode cX0_work 163 = .ok (.iload 4, 2) := by decide +kernel
theorem dX0_work_165 : decode cX0_work 165 = .ok (.iload 7, 2) := by decide +kernel
theorem dX0_work_167 : decode cX0_work 167 = .ok (.invokevirtual 38, 3) := by decide +kernel
theorem dX0_work_170 : decode cX0_work 170 = .ok (.iconst 5, 1) := by decide +kernel
theorem dX0_work_171 : decode cX0_work 171 = .ok (.ixor, 1) := by decide +kernel
theorem dX0_work_172 : decode cX0_work 172 = .ok (.ireturn, 1) := by decide +kernel
theorem dX0_work_173 : decode cX0_work 173 = .ok (.aload_n 0, 1) := by decide +kernel
theorem dX0_work_174 : decode cX0_work 174 = .ok (.iload_n 2, 1) := by decide +kernel
theorem dX0_work_175 : decode cX0_work 175 = .ok (.iload_n 3, 1) := by decide +kernel
theorem dX0_work_176 : decode cX0_work 176 = .ok (.iconst 2, 1) := by decide +kernel
theorem dX0_work_177 : decode cX0_work 177 = .ok (.iload 4, 2) := by decide +kernel
theorem dX0_work_179 : decode cX0_work 179 = .ok (.iload 7, 2) := by decide +kernel
theorem dX0_work_181 : decode cX0_work 181 = .ok (.invokevirtual 38, 3) := by decide +kernel
theorem dX0_work_184 : decode cX0_work 184 = .ok (.aload_n 0, 1) := by decide +kernel
theorem dX0_work_185 : decode cX0_work 185 = .ok (.iload_n 2, 1) := by decide +kernel
theorem dX0_work_186 : decode cX0_work 186 = .ok (.iload 6, 2) := by decide +kernel
theorem dX0_work_188 : decode cX0_work 188 = .ok (.iconst 0, 1) := by decide +kernel
theorem dX0_work_189 : decode cX0_work 189 = .ok (.iconst 2, 1) := by decide +kernel
theorem dX0_work_190 : decode cX0_work 190 = .ok (.iload 7, 2) := by decide +kernel
theorem dX0_work_192 : decode cX0_work 192 = .ok (.invokevirtual 38, 3) := by decide +kernel
theorem dX0_work_195 : decode cX0_work 195 = .ok (.isub, 1) := by decide +kernel
theorem dX0_work_196 : decode cX0_work 196 = .ok (.ireturn, 1) := by decide +kernel
theorem dX0_work_197 : decode cX0_work 197 = .ok (.aload_n 0, 1) := by decide +kernel
theorem dX0_work_198 : decode cX0_work 198 = .ok (.iload_n 2, 1) := by decide +kernel
theorem dX0_work_199 : decode cX0_work 199 = .ok (.iload_n 3, 1) := by decide +kernel
theorem dX0_work_200 : decode cX0_work 200 = .ok (.iconst 3, 1) := by decide +kernel
theorem dX0_work_201 : decode cX0_work 201 = .ok (.iload 4, 2) := by decide +kernel
theorem dX0_work_203 : decode cX0_work 203 = .ok (.iload 7, 2) := by decide +kernel
theorem dX0_work_205 : decode cX0_work 205 = .ok (.invokevirtual 38, 3) := by decide +kernel
theorem dX0_work_208 : decode cX0_work 208 = .ok (.iconst 1, 1) := by decide +kernel
theorem dX0_work_209 : decode cX0_work 209 = .ok (.iadd, 1) := by decide +kernel
theorem dX0_work_210 : decode cX0_work 210 = .ok (.ireturn, 1) := by decide +kernel
theorem dX0_work_211 : decode cX0_work 211 = .ok (.aload_n 0, 1) := by decide +kernel
theorem dX0_work_212 : decode cX0_work 212 = .ok (.iload_n 2, 1) := by decide +kernel
theorem dX0_work_213 : decode cX0_work 213 = .ok (.iload_n 3, 1) := by decide +kernel
theorem dX0_work_214 : decode cX0_work 214 = .ok (.iconst 0, 1) := by decide +kernel
theorem dX0_work_215 : decode cX0_work 215 = .ok (.iload 4, 2) := by decide +kernel
theorem dX0_work_217 : decode cX0_work 217 = .ok (.iload 7, 2) := by decide +kernel
theorem dX0_work_219 : decode cX0_work 219 = .ok (.invokevirtual 38, 3) := by decide +kernel
theorem dX0_work_222 : decode cX0_work 222 = .ok (.iconst 2, 1) := by decide +kernel
theorem dX0_work_223 : decode cX0_work 223 = .ok (.imul, 1) := by decide +kernel
theorem dX0_work_224 : decode cX0_work 224 = .ok (.ireturn, 1) := by decide +kernel
theorem dX0_work_225 : decode cX0_work 225 = .ok (.aload_n 0, 1) := by decide +kernel
theorem dX0_work_226 : decode cX0_work 226 = .ok (.iload_n 2, 1) := by decide +kernel
theorem dX0_work_227 : decode cX0_work 227 = .ok (.iload_n 3, 1) := by decide +kernel
theorem dX0_work_228 : decode cX0_work 228 = .ok (.iconst 1, 1) := by decide +kernel
theorem dX0_work_229 : decode cX0_work 229 = .ok (.iload 4, 2) := by decide +kernel
theorem dX0_work_231 : decode cX0_work 231 = .ok (.iload 7, 2) := by decide +kernel
theorem dX0_work_233 : decode cX0_work 233 = .ok (.invokevirtual 38, 3) := by decide +kernel
theorem dX0_work_236 : decode cX0_work 236 = .ok (.aload_n 0, 1) := by decide +kernel
theorem dX0_work_237 : decode cX0_work 237 = .ok (.iload_n 2, 1) := by decide +kernel
theorem dX0_work_238 : decode cX0_work 238 = .ok (.iload 6, 2) := by decide +kernel
theorem dX0_work_240 : decode cX0_work 240 = .ok (.iconst 2, 1) := by decide +kernel
theorem dX0_work_241 : decode cX0_work 241 = .ok (.iconst 2, 1) := by decide +kernel
theorem dX0_work_242 : decode cX0_work 242 = .ok (.iload 7, 2) := by decide +kernel
theorem dX0_work_244 : decode cX0_work 244 = .ok (.invokevirtual 38, 3) := by decide +kernel
theorem dX0_work_247 : decode cX0_work 247 = .ok (.iadd, 1) := by decide +kernel
theorem dX0_work_248 : decode cX0_work 248 = .ok (.ireturn, 1) := by decide +kernel
theorem dX0_work_249 : decode cX0_work 249 = .ok (.aload_n 0, 1) := by decide +kernel
theorem dX0_work_250 : decode cX0_work 250 = .ok (.iload_n 2, 1) := by decide +kernel
theorem dX0_work_251 : decode cX0_work 251 = .ok (.iload_n 3, 1) := by decide +kernel
theorem dX0_work_252 : decode cX0_work 252 = .ok (.iconst 0, 1) := by decide +kernel
theorem dX0_work_253 : decode cX0_work 253 = .ok (.iload 4, 2) := by decide +kernel
theorem dX0_work_255 : decode cX0_work 255 = .ok (.iload 7, 2) := by decide +kernel
theorem dX0_work_257 : decode cX0_work 257 = .ok (.invokevirtual 38, 3) := by decide +kernel
theorem dX0_work_260 : decode cX0_work 260 = .ok (.iconst 1, 1) := by decide +kernel
theorem dX0_work_261 : decode cX0_work 261 = .ok (.isub, 1) := by decide +kernel
theorem dX0_work_262 : decode cX0_work 262 = .ok (.ireturn, 1) := by decide +kernel
theorem dX0_work_263 : decode cX0_work 263 = .ok (.iconst 0, 1) := by decide +kernel
theorem dX0_work_264 : decode cX0_work 264 = .ok (.ireturn, 1) := by decide +kernel
theorem dX1_init_0 : decode cX1_init 0 = .ok (.aload_n 0, 1) := by decide +kernel
theorem dX1_init_1 : decode cX1_init 1 = .ok (.invokespecial 1, 3) := by decide +kernel
theorem dX1_init_4 : decode cX1_init 4 = .ok (.aload_n 0, 1) := by decide +kernel
theorem dX1_init_5 : decode cX1_init 5 = .ok (.bipush 40, 2) := by decide +kernel
theorem dX1_init_7 : decode cX1_init 7 = .ok (.newarray .int, 2) := by decide +kernel
theorem dX1_init_9 : decode cX1_init 9 = .ok (.putfield 9, 3) := by decide +kernel
theorem dX1_init_12 : decode cX1_init 12 = .ok (.aload_n 0, 1) := by decide +kernel
theorem dX1_init_13 : decode cX1_init 13 = .ok (.bipush 40, 2) := by decide +kernel
theorem dX1_init_15 : decode cX1_init 15 = .ok (.newarray .int, 2) := by decide +kernel
theorem dX1_init_17 : decode cX1_init 17 = .ok (.putfield 13, 3) := by decide +kernel
theorem dX1_init_20 : decode cX1_init 20 = .ok (.aload_n 0, 1) := by decide +kernel
theorem dX1_init_21 : decode cX1_init 21 = .ok (.bipush 40, 2) := by decide +kernel
theorem dX1_init_23 : decode cX1_init 23 = .ok (.newarray .int, 2) := by decide +kernel
theorem dX1_init_25 : decode cX1_init 25 = .ok (.putfield 16, 3) := by decide +kernel
theorem dX1_init_28 : decode cX1_init 28 = .ok (.aload_n 0, 1) := by decide +kernel
theorem dX1_init_29 : decode cX1_init 29 = .ok (.bipush 40, 2) := by decide +kernel
theorem dX1_init_31 : decode cX1_init 31 = .ok (.newarray .int, 2) := by decide +kernel
theorem dX1_init_33 : decode cX1_init 33 = .ok (.putfield 19, 3) := by decide +kernel
theorem dX1_init_36 : decode cX1_init 36 = .ok (.return_, 1) := by decide +kernel
theorem dX1_note_0 : decode cX1_note 0 = .ok (.aload_n 0, 1) := by decide +kernel
theorem dX1_note_1 : decode cX1_note 1 = .ok (.getfield 22, 3) := by decide +kernel
theorem dX1_note_4 : decode cX1_note 4 = .ok (.bipush 40, 2) := by decide +kernel
theorem dX1_note_6 : decode cX1_note 6 = .ok (.if_icmp .lt 7, 3) := by decide +kernel
theorem dX1_note_9 : decode cX1_note 9 = .ok (.aload_n 0, 1) := by decide +kernel
theorem dX1_note_10 : decode cX1_note 10 = .ok (.invokevirtual 26, 3) := by decide +kernel
theorem dX1_note_13 : decode cX1_note 13 = .ok (.aload_n 0, 1) := by decide +kernel
theorem dX1_note_14 : decode cX1_note 14 = .ok (.getfield 9, 3) := by decide +kernel
theorem dX1_note_17 : decode cX1_note 17 = .ok (.aload_n 0, 1) := by decide +kernel
theorem dX1_note_18 : decode cX1_note 18 = .ok (.getfield 22, 3) := by decide +kernel
theorem dX1_note_21 : decode cX1_note 21 = .ok (.iload_n 1, 1) := by decide +kernel
theorem dX1_note_22 : decode cX1_note 22 = .ok (.iastore, 1) := by decide +kernel
theorem dX1_note_23 : decode cX1_note 23 = .ok (.aload_n 0, 1) := by decide +kernel
theorem dX1_note_24 : decode cX1_note 24 = .ok (.getfield 13, 3) := by decide +kernel
theorem dX1_note_27 : decode cX1_note 27 = .ok (.aload_n 0, 1) := by decide +kernel
theorem dX1_note_28 : decode cX1_note 28 = .ok (.getfield 22, 3) := by decide +kernel
theorem dX1_note_31 : decode cX1_note 31 = .ok (.iload_n 2, 1) := by decide +kernel
theorem dX1_note_32 : decode cX1_note 32 = .ok (.iastore, 1) := by decide +kernel
theorem dX1_note_33 : decode cX1_note 33 = .ok (.aload_n 0, 1) := by decide +kernel
theorem dX1_note_34 : decode cX1_note 34 = .ok (.getfield 16, 3) := by decide +kernel
theorem dX1_note_37 : decode cX1_note 37 = .ok (.aload_n 0, 1) := by decide +kernel
theorem dX1_note_38 : decode cX1_note 38 = .ok (.getfield 22, 3) := by decide +kernel
theorem dX1_note_41 : decode cX1_note 41 = .ok (.iload_n 3, 1) := by decide +kernel
theorem dX1_note_42 : decode cX1_note 42 = .ok (.iastore, 1) := by decide +kernel
theorem dX1_note_43 : decode cX1_note 43 = .ok (.aload_n 0, 1) := by decide +kernel
theorem dX1_note_44 : decode cX1_note 44 = .ok (.getfield 19, 3) := by decide +kernel
theorem dX1_note_47 : decode cX1_note 47 = .ok (.aload_n 0, 1) := by decide +kernel
theorem dX1_note_48 : decode cX1_note 48 = .ok (.getfield 22, 3) := by decide +kernel
theorem dX1_note_51 : decode cX1_note 51 = .ok (.iload 4, 2) := by decide +kernel
theorem dX1_note_53 : decode cX1_note 53 = .ok (.iastore, 1) := by decide +kernel
theorem dX1_note_54 : decode cX1_note 54 = .ok (.aload_n 0, 1) := by decide +kernel
theorem dX1_note_55 : decode cX1_note 55 = .ok (.dup, 1) := by decide +kernel
theorem dX1_note_56 : decode cX1_note 56 = .ok (.getfield 22, 3) := by decide +kernel
theorem dX1_note_59 : decode cX1_note 59 = .ok (.iconst 1, 1) := by decide +kernel
theorem dX1_note_60 : decode cX1_note 60 = .ok (.iadd, 1) := by decide +kernel
theorem dX1_note_61 : decode cX1_note 61 = .ok (.putfield 22, 3) := by decide +kernel
theorem dX1_note_64 : decode cX1_note 64 = .ok (.aload_n 0, 1) := by decide +kernel
theorem dX1_note_65 : decode cX1_note 65 = .ok (.aload_n 0, 1) := by decide +kernel
theorem dX1_note_66 : decode cX1_note 66 = .ok (.getfield 22, 3) := by decide +kernel
theorem dX1_note_69 : decode cX1_note 69 = .ok (.putfield 29, 3) := by decide +kernel
theorem dX1_note_72 : decode cX1_note 72 = .ok (.return_, 1) := by decide +kernel
theorem dX1_dropOldest_0 : decode cX1_dropOldest 0 = .ok (.aload_n 0, 1) := by decide +kernel
theorem dX1_dropOldest_1 : decode cX1_dropOldest 1 = .ok (.bipush 39, 2) := by decide +kernel
theorem dX1_dropOldest_3 : decode cX1_dropOldest 3 = .ok (.putfield 22, 3) := by decide +kernel
theorem dX1_dropOldest_6 : decode cX1_dropOldest 6 = .ok (.aload_n 0, 1) := by decide +kernel
theorem dX1_dropOldest_7 : decode cX1_dropOldest 7 = .ok (.getfield 9, 3) := by decide +kernel
theorem dX1_dropOldest_10 : decode cX1_dropOldest 10 = .ok (.iconst 1, 1) := by decide +kernel
theorem dX1_dropOldest_11 : decode cX1_dropOldest 11 = .ok (.aload_n 0, 1) := by decide +kernel
theorem dX1_dropOldest_12 : decode cX1_dropOldest 12 = .ok (.getfield 9, 3) := by decide +kernel
theorem dX1_dropOldest_15 : decode cX1_dropOldest 15 = .ok (.iconst 0, 1) := by decide +kernel
theorem dX1_dropOldest_16 : decode cX1_dropOldest 16 = .ok (.aload_n 0, 1) := by decide +kernel
theorem dX1_dropOldest_17 : decode cX1_dropOldest 17 = .ok (.getfield 22, 3) := by decide +kernel
theorem dX1_dropOldest_20 : decode cX1_dropOldest 20 = .ok (.invokestatic 32, 3) := by decide +kernel
theorem dX1_dropOldest_23 : decode cX1_dropOldest 23 = .ok (.aload_n 0, 1) := by decide +kernel
theorem dX1_dropOldest_24 : decode cX1_dropOldest 24 = .ok (.getfield 13, 3) := by decide +kernel
theorem dX1_dropOldest_27 : decode cX1_dropOldest 27 = .ok (.iconst 1, 1) := by decide +kernel
theorem dX1_dropOldest_28 : decode cX1_dropOldest 28 = .ok (.aload_n 0, 1) := by decide +kernel
theorem dX1_dropOldest_29 : decode cX1_dropOldest 29 = .ok (.getfield 13, 3) := by decide +kernel
theorem dX1_dropOldest_32 : decode cX1_dropOldest 32 = .ok (.iconst 0, 1) := by decide +kernel
theorem dX1_dropOldest_33 : decode cX1_dropOldest 33 = .ok (.aload_n 0, 1) := by decide +kernel
theorem dX1_dropOldest_34 : decode cX1_dropOldest 34 = .ok (.getfield 22, 3) := by decide +kernel
theorem dX1_dropOldest_37 : decode cX1_dropOldest 37 = .ok (.invokestatic 32, 3) := by decide +kernel
theorem dX1_dropOldest_40 : decode cX1_dropOldest 40 = .ok (.aload_n 0, 1) := by decide +kernel
theorem dX1_dropOldest_41 : decode cX1_dropOldest 41 = .ok (.getfield 16, 3) := by decide +kernel
theorem dX1_dropOldest_44 : decode cX1_dropOldest 44 = .ok (.iconst 1, 1) := by decide +kernel
theorem dX1_dropOldest_45 : decode cX1_dropOldest 45 = .ok (.aload_n 0, 1) := by decide +kernel
theorem dX1_dropOldest_46 : decode cX1_dropOldest 46 = .ok (.getfield 16, 3) := by decide +kernel
theorem dX1_dropOldest_49 : decode cX1_dropOldest 49 = .ok (.iconst 0, 1) := by decide +kernel
theorem dX1_dropOldest_50 : decode cX1_dropOldest 50 = .ok (.aload_n 0, 1) := by decide +kernel
theorem dX1_dropOldest_51 : decode cX1_dropOldest 51 = .ok (.getfield 22, 3) := by decide +kernel
theorem dX1_dropOldest_54 : decode cX1_dropOldest 54 = .ok (.invokestatic 32, 3) := by decide +kernel
theorem dX1_dropOldest_57 : decode cX1_dropOldest 57 = .ok (.aload_n 0, 1) := by decide +kernel
theorem dX1_dropOldest_58 : decode cX1_dropOldest 58 = .ok (.getfield 19, 3) := by decide +kernel
theorem dX1_dropOldest_61 : decode cX1_dropOldest 61 = .ok (.iconst 1, 1) := by decide +kernel
theorem dX1_dropOldest_62 : decode cX1_dropOldest 62 = .ok (.aload_n 0, 1) := by decide +kernel
theorem dX1_dropOldest_63 : decode cX1_dropOldest 63 = .ok (.getfield 19, 3) := by decide +kernel
theorem dX1_dropOldest_66 : decode cX1_dropOldest 66 = .ok (.iconst 0, 1) := by decide +kernel
theorem dX1_dropOldest_67 : decode cX1_dropOldest 67 = .ok (.aload_n 0, 1) := by decide +kernel
theorem dX1_dropOldest_68 : decode cX1_dropOldest 68 = .ok (.getfield 22, 3) := by decide +kernel
theorem dX1_dropOldest_71 : decode cX1_dropOldest 71 = .ok (.invokestatic 32, 3) := by decide +kernel
theorem dX1_dropOldest_74 : decode cX1_dropOldest 74 = .ok (.return_, 1) := by decide +kernel
theorem dX2_init_0 : decode cX2_init 0 = .ok (.aload_n 0, 1) := by decide +kernel
theorem dX2_init_1 : decode cX2_init 1 = .ok (.invokespecial 3, 3) := by decide +kernel
theorem dX2_init_4 : decode cX2_init 4 = .ok (.aload_n 0, 1) := by decide +kernel
theorem dX2_init_5 : decode cX2_init 5 = .ok (.bipush 15, 2) := by decide +kernel
theorem dX2_init_7 : decode cX2_init 7 = .ok (.newarray .int, 2) := by decide +kernel
theorem dX2_init_9 : decode cX2_init 9 = .ok (.putfield 11, 3) := by decide +kernel
theorem dX2_init_12 : decode cX2_init 12 = .ok (.aload_n 0, 1) := by decide +kernel
theorem dX2_init_13 : decode cX2_init 13 = .ok (.bipush 15, 2) := by decide +kernel
theorem dX2_init_15 : decode cX2_init 15 = .ok (.newarray .int, 2) := by decide +kernel
theorem dX2_init_17 : decode cX2_init 17 = .ok (.putfield 15, 3) := by decide +kernel
theorem dX2_init_20 : decode cX2_init 20 = .ok (.aload_n 0, 1) := by decide +kernel
theorem dX2_init_21 : decode cX2_init 21 = .ok (.bipush 15, 2) := by decide +kernel
theorem dX2_init_23 : decode cX2_init 23 = .ok (.newarray .int, 2) := by decide +kernel
theorem dX2_init_25 : decode cX2_init 25 = .ok (.putfield 18, 3) := by decide +kernel
theorem dX2_init_28 : decode cX2_init 28 = .ok (.aload_n 0, 1) := by decide +kernel
theorem dX2_init_29 : decode cX2_init 29 = .ok (.new 21, 3) := by decide +kernel
theorem dX2_init_32 : decode cX2_init 32 = .ok (.dup, 1) := by decide +kernel
theorem dX2_init_33 : decode cX2_init 33 = .ok (.invokespecial 23, 3) := by decide +kernel
theorem dX2_init_36 : decode cX2_init 36 = .ok (.putfield 24, 3) := by decide +kernel
theorem dX2_init_39 : decode cX2_init 39 = .ok (.aload_n 0, 1) := by decide +kernel
theorem dX2_init_40 : decode cX2_init 40 = .ok (.bipush 70, 2) := by decide +kernel
theorem dX2_init_42 : decode cX2_init 42 = .ok (.newarray .int, 2) := by decide +kernel
theorem dX2_init_44 : decode cX2_init 44 = .ok (.putfield 28, 3) := by decide +kernel
theorem dX2_init_47 : decode cX2_init 47 = .ok (.return_, 1) := by decide +kernel
theorem dX2_summon_0 : decode cX2_summon 0 = .ok (.aload_n 0, 1) := by decide +kernel
theorem dX2_summon_1 : decode cX2_summon 1 = .ok (.iconst 0, 1) := by decide +kernel
theorem dX2_summon_2 : decode cX2_summon 2 = .ok (.putfield 31, 3) := by decide +kernel
theorem dX2_summon_5 : decode cX2_summon 5 = .ok (.iconst 0, 1) := by decide +kernel
theorem dX2_summon_6 : decode cX2_summon 6 = .ok (.istore_n 3, 1) := by decide +kernel
theorem dX2_summon_7 : decode cX2_summon 7 = .ok (.iload_n 3, 1) := by decide +kernel
theorem dX2_summon_8 : decode cX2_summon 8 = .ok (.iconst 4, 1) := by decide +kernel
theorem dX2_summon_9 : decode cX2_summon 9 = .ok (.iadd, 1) := by decide +kernel
theorem dX2_summon_10 : decode cX2_summon 10 = .ok (.aload_n 1, 1) := by decide +kernel
theorem dX2_summon_11 : decode cX2_summon 11 = .ok (.getfield 35, 3) := by decide +kernel
theorem dX2_summon_14 : decode cX2_summon 14 = .ok (.if_icmp .gt 195, 3) := by decide +kernel
theorem dX2_summon_17 : decode cX2_summon 17 = .ok (.aload_n 0, 1) := by decide +kernel
theorem dX2_summon_18 : decode cX2_summon 18 = .ok (.getfield 31, 3) := by decide +kernel
theorem dX2_summon_21 : decode cX2_summon 21 = .ok (.bipush 15, 2) := by decide +kernel
theorem dX2_summon_23 : decode cX2_summon 23 = .ok (.if_icmp .ge 186, 3) := by decide +kernel
theorem dX2_summon_26 : decode cX2_summon 26 = .ok (.aload_n 1, 1) := by decide +kernel
theorem dX2_summon_27 : decode cX2_summon 27 = .ok (.getfield 40, 3) := by decide +kernel
theorem dX2_summon_30 : decode cX2_summon 30 = .ok (.iload_n 3, 1) := by decide +kernel
theorem dX2_summon_31 : decode cX2_summon 31 = .ok (.laload, 1) := by decide +kernel
theorem dX2_summon_32 : decode cX2_summon 32 = .ok (.lstore 4, 2) := by decide +kernel
theorem dX2_summon_34 : decode cX2_summon 34 = .ok (.aload_n 1, 1) := by decide +kernel
theorem dX2_summon_35 : decode cX2_summon 35 = .ok (.getfield 40, 3) := by decide +kernel
theorem dX2_summon_38 : decode cX2_summon 38 = .ok (.iload_n 3, 1) := by decide +kernel
theorem dX2_summon_39 : decode cX2_summon 39 = .ok (.iconst 1, 1) := by decide +kernel
theorem dX2_summon_40 : decode cX2_summon 40 = .ok (.iadd, 1) := by decide +kernel
theorem dX2_summon_41 : decode cX2_summon 41 = .ok (.laload, 1) := by decide +kernel
theorem dX2_summon_42 : decode cX2_summon 42 = .ok (.lstore 6, 2) := by decide +kernel
theorem dX2_summon_44 : decode cX2_summon 44 = .ok (.aload_n 1, 1) := by decide +kernel
theorem dX2_summon_45 : decode cX2_summon 45 = .ok (.getfield 40, 3) := by decide +kernel
theorem dX2_summon_48 : decode cX2_summon 48 = .ok (.iload_n 3, 1) := by decide +kernel
theorem dX2_summon_49 : decode cX2_summon 49 = .ok (.iconst 2, 1) := by decide +kernel
theorem dX2_summon_50 : decode cX2_summon 50 = .ok (.iadd, 1) := by decide +kernel
theorem dX2_summon_51 : decode cX2_summon 51 = .ok (.laload, 1) := by decide +kernel
theorem dX2_summon_52 : decode cX2_summon 52 = .ok (.lstore 8, 2) := by decide +kernel
theorem dX2_summon_54 : decode cX2_summon 54 = .ok (.aload_n 1, 1) := by decide +kernel
theorem dX2_summon_55 : decode cX2_summon 55 = .ok (.getfield 40, 3) := by decide +kernel
theorem dX2_summon_58 : decode cX2_summon 58 = .ok (.iload_n 3, 1) := by decide +kernel
theorem dX2_summon_59 : decode cX2_summon 59 = .ok (.iconst 3, 1) := by decide +kernel
theorem dX2_summon_60 : decode cX2_summon 60 = .ok (.iadd, 1) := by decide +kernel
theorem dX2_summon_61 : decode cX2_summon 61 = .ok (.laload, 1) := by decide +kernel
theorem dX2_summon_62 : decode cX2_summon 62 = .ok (.lstore 10, 2) := by decide +kernel
theorem dX2_summon_64 : decode cX2_summon 64 = .ok (.lload 4, 2) := by decide +kernel
theorem dX2_summon_66 : decode cX2_summon 66 = .ok (.lconst 0, 1) := by decide +kernel
theorem dX2_summon_67 : decode cX2_summon 67 = .ok (.lcmp, 1) := by decide +kernel
theorem dX2_summon_68 : decode cX2_summon 68 = .ok (.ifCond .lt 15, 3) := by decide +kernel
theorem dX2_summon_71 : decode cX2_summon 71 = .ok (.lload 4, 2) := by decide +kernel
theorem dX2_summon_73 : decode cX2_summon 73 = .ok (.iload_n 2, 1) := by decide +kernel
theorem dX2_summon_74 : decode cX2_summon 74 = .ok (.i2l, 1) := by decide +kernel
theorem dX2_summon_75 : decode cX2_summon 75 = .ok (.lcmp, 1) := by decide +kernel
theorem dX2_summon_76 : decode cX2_summon 76 = .ok (.ifCond .ge 7, 3) := by decide +kernel
theorem dX2_summon_79 : decode cX2_summon 79 = .ok (.iconst 1, 1) := by decide +kernel
theorem dX2_summon_80 : decode cX2_summon 80 = .ok (.goto 4, 3) := by decide +kernel
theorem dX2_summon_83 : decode cX2_summon 83 = .ok (.iconst 0, 1) := by decide +kernel
theorem dX2_summon_84 : decode cX2_summon 84 = .ok (.istore 12, 2) := by decide +kernel
theorem dX2_summon_86 : decode cX2_summon 86 = .ok (.lload 6, 2) := by decide +kernel
theorem dX2_summon_88 : decode cX2_summon 88 = .ok (.lconst 0, 1) := by decide +kernel
theorem dX2_summon_89 : decode cX2_summon 89 = .ok (.lcmp, 1) := by decide +kernel
theorem dX2_summon_90 : decode cX2_summon 90 = .ok (.ifCond .lt 30, 3) := by decide +kernel
theorem dX2_summon_93 : decode cX2_summon 93 = .ok (.lload 6, 2) := by decide +kernel
theorem dX2_summon_95 : decode cX2_summon 95 = .ok (.ldc2_w 44, 3) := by decide +kernel
theorem dX2_summon_98 : decode cX2_summon 98 = .ok (.lcmp, 1) := by decide +kernel
theorem dX2_summon_99 : decode cX2_summon 99 = .ok (.ifCond .ge 21, 3) := by decide +kernel
theorem dX2_summon_102 : decode cX2_summon 102 = .ok (.lload 8, 2) := by decide +kernel
theorem dX2_summon_104 : decode cX2_summon 104 = .ok (.lconst 0, 1) := by decide +kernel
theorem dX2_summon_105 : decode cX2_summon 105 = .ok (.lcmp, 1) := by decide +kernel
theorem dX2_summon_106 : decode cX2_summon 106 = .ok (.ifCond .lt 14, 3) := by decide +kernel
theorem dX2_summon_109 : decode cX2_summon 109 = .ok (.lload 8, 2) := by decide +kernel
theorem dX2_summon_111 : decode cX2_summon 111 = .ok (.lconst 1, 1) := by decide +kernel
theorem dX2_summon_112 : decode cX2_summon 112 = .ok (.lcmp, 1) := by decide +kernel
theorem dX2_summon_113 : decode cX2_summon 113 = .ok (.ifCond .gt 7, 3) := by decide +kernel
theorem dX2_summon_116 : decode cX2_summon 116 = .ok (.iconst 1, 1) := by decide +kernel
theorem dX2_summon_117 : decode cX2_summon 117 = .ok (.goto 4, 3) := by decide +kernel
theorem dX2_summon_120 : decode cX2_summon 120 = .ok (.iconst 0, 1) := by decide +kernel
theorem dX2_summon_121 : decode cX2_summon 121 = .ok (.istore 13, 2) := by decide +kernel
theorem dX2_summon_123 : decode cX2_summon 123 = .ok (.iload 12, 2) := by decide +kernel
theorem dX2_summon_125 : decode cX2_summon 125 = .ok (.ifCond .eq 24, 3) := by decide +kernel
theorem dX2_summon_128 : decode cX2_summon 128 = .ok (.iload 13, 2) := by decide +kernel
theorem dX2_summon_130 : decode cX2_summon 130 = .ok (.ifCond .eq 19, 3) := by decide +kernel
theorem dX2_summon_133 : decode cX2_summon 133 = .ok (.lload 10, 2) := by decide +kernel
theorem dX2_summon_135 : decode cX2_summon 135 = .ok (.lconst 0, 1) := by decide +kernel
theorem dX2_summon_136 : decode cX2_summon 136 = .ok (.lcmp, 1) := by decide +kernel
theorem dX2_summon_137 : decode cX2_summon 137 = .ok (.ifCond .lt 12, 3) := by decide +kernel
theorem dX2_summon_140 : decode cX2_summon 140 = .ok (.lload 10, 2) := by decide +kernel
theorem dX2_summon_142 : decode cX2_summon 142 = .ok (.ldc2_w 44, 3) := by decide +kernel
theorem dX2_summon_145 : decode cX2_summon 145 = .ok (.lcmp, 1) := by decide +kernel
theorem dX2_summon_146 : decode cX2_summon 146 = .ok (.ifCond .lt 4, 3) := by decide +kernel
theorem dX2_summon_149 : decode cX2_summon 149 = .ok (.return_, 1) := by decide +kernel
theorem dX2_summon_150 : decode cX2_summon 150 = .ok (.aload_n 0, 1) := by decide +kernel
theorem dX2_summon_151 : decode cX2_summon 151 = .ok (.getfield 11, 3) := by decide +kernel
theorem dX2_summon_154 : decode cX2_summon 154 = .ok (.aload_n 0, 1) := by decide +kernel
theorem dX2_summon_155 : decode cX2_summon 155 = .ok (.getfield 31, 3) := by decide +kernel
theorem dX2_summon_158 : decode cX2_summon 158 = .ok (.lload 4, 2) := by decide +kernel
theorem dX2_summon_160 : decode cX2_summon 160 = .ok (.l2i, 1) := by decide +kernel
theorem dX2_summon_161 : decode cX2_summon 161 = .ok (.iastore, 1) := by decide +kernel
theorem dX2_summon_162 : decode cX2_summon 162 = .ok (.aload_n 0, 1) := by decide +kernel
theorem dX2_summon_163 : decode cX2_summon 163 = .ok (.getfield 15, 3) := by decide +kernel
theorem dX2_summon_166 : decode cX2_summon 166 = .ok (.aload_n 0, 1) := by decide +kernel
theorem dX2_summon_167 : decode cX2_summon 167 = .ok (.getfield 31, 3) := by decide +kernel
theorem dX2_summon_170 : decode cX2_summon 170 = .ok (.lload 6, 2) := by decide +kernel
theorem dX2_summon_172 : decode cX2_summon 172 = .ok (.ldc2_w 46, 3) := by decide +kernel
theorem dX2_summon_175 : decode cX2_summon 175 = .ok (.lmul, 1) := by decide +kernel
theorem dX2_summon_176 : decode cX2_summon 176 = .ok (.lload 8, 2) := by decide +kernel
theorem dX2_summon_178 : decode cX2_summon 178 = .ok (.ladd, 1) := by decide +kernel
theorem dX2_summon_179 : decode cX2_summon 179 = .ok (.l2i, 1) := by decide +kernel
theorem dX2_summon_180 : decode cX2_summon 180 = .ok (.iastore, 1) := by decide +kernel
theorem dX2_summon_181 : decode cX2_summon 181 = .ok (.aload_n 0, 1) := by decide +kernel
theorem dX2_summon_182 : decode cX2_summon 182 = .ok (.getfield 18, 3) := by decide +kernel
theorem dX2_summon_185 : decode cX2_summon 185 = .ok (.aload_n 0, 1) := by decide +kernel
theorem dX2_summon_186 : decode cX2_summon 186 = .ok (.getfield 31, 3) := by decide +kernel
theorem dX2_summon_189 : decode cX2_summon 189 = .ok (.lload 10, 2) := by decide +kernel
theorem dX2_summon_191 : decode cX2_summon 191 = .ok (.l2i, 1) := by decide +kernel
theorem dX2_summon_192 : decode cX2_summon 192 = .ok (.iastore, 1) := by decide +kernel
theorem dX2_summon_193 : decode cX2_summon 193 = .ok (.aload_n 0, 1) := by decide +kernel
theorem dX2_summon_194 : decode cX2_summon 194 = .ok (.dup, 1) := by decide +kernel
theorem dX2_summon_195 : decode cX2_summon 195 = .ok (.getfield 31, 3) := by decide +kernel
theorem dX2_summon_198 : decode cX2_summon 198 = .ok (.iconst 1, 1) := by decide +kernel
theorem dX2_summon_199 : decode cX2_summon 199 = .ok (.iadd, 1) := by decide +kernel
theorem dX2_summon_200 : decode cX2_summon 200 = .ok (.putfield 31, 3) := by decide +kernel
theorem dX2_summon_203 : decode cX2_summon 203 = .ok (.iinc 3 4, 3) := by decide +kernel
theorem dX2_summon_206 : decode cX2_summon 206 = .ok (.goto (-199), 3) := by decide +kernel
theorem dX2_summon_209 : decode cX2_summon 209 = .ok (.return_, 1) := by decide +kernel
theorem dX2_hold_0 : decode cX2_hold 0 = .ok (.aload_n 0, 1) := by decide +kernel
theorem dX2_hold_1 : decode cX2_hold 1 = .ok (.getfield 24, 3) := by decide +kernel
theorem dX2_hold_4 : decode cX2_hold 4 = .ok (.aload_n 1, 1) := by decide +kernel
theorem dX2_hold_5 : decode cX2_hold 5 = .ok (.invokevirtual 48, 3) := by decide +kernel
theorem dX2_hold_8 : decode cX2_hold 8 = .ok (.iconst 0, 1) := by decide +kernel
theorem dX2_hold_9 : decode cX2_hold 9 = .ok (.istore 5, 2) := by decide +kernel
theorem dX2_hold_11 : decode cX2_hold 11 = .ok (.iload 5, 2) := by decide +kernel
theorem dX2_hold_13 : decode cX2_hold 13 = .ok (.aload_n 0, 1) := by decide +kernel
theorem dX2_hold_14 : decode cX2_hold 14 = .ok (.getfield 28, 3) := by decide +kernel
theorem dX2_hold_17 : decode cX2_hold 17 = .ok (.arraylength, 1) := by decide +kernel
theorem dX2_hold_18 : decode cX2_hold 18 = .ok (.if_icmp .ge 17, 3) := by decide +kernel
theorem dX2_hold_21 : decode cX2_hold 21 = .ok (.aload_n 0, 1) := by decide +kernel
theorem dX2_hold_22 : decode cX2_hold 22 = .ok (.getfield 28, 3) := by decide +kernel
theorem dX2_hold_25 : decode cX2_hold 25 = .ok (.iload 5, 2) := by decide +kernel
theorem dX2_hold_27 : decode cX2_hold 27 = .ok (.iconst (-1), 1) := by decide +kernel
theorem dX2_hold_28 : decode cX2_hold 28 = .ok (.iastore, 1) := by decide +kernel
theorem dX2_hold_29 : decode cX2_hold 29 = .ok (.iinc 5 1, 3) := by decide +kernel
theorem dX2_hold_32 : decode cX2_hold 32 = .ok (.goto (-21), 3) := by decide +kernel
theorem dX2_hold_35 : decode cX2_hold 35 = .ok (.aload_n 0, 1) := by decide +kernel
theorem dX2_hold_36 : decode cX2_hold 36 = .ok (.iconst 0, 1) := by decide +kernel
theorem dX2_hold_37 : decode cX2_hold 37 = .ok (.putfield 52, 3) := by decide +kernel
theorem dX2_hold_40 : decode cX2_hold 40 = .ok (.aload_n 0, 1) := by decide +kernel
theorem dX2_hold_41 : decode cX2_hold 41 = .ok (.iconst 0, 1) := by decide +kernel
theorem dX2_hold_42 : decode cX2_hold 42 = .ok (.putfield 55, 3) := by decide +kernel
theorem dX2_hold_45 : decode cX2_hold 45 = .ok (.aload_n 0, 1) := by decide +kernel
theorem dX2_hold_46 : decode cX2_hold 46 = .ok (.bipush (-2), 2) := by decide +kernel
theorem dX2_hold_48 : decode cX2_hold 48 = .ok (.putfield 58, 3) := by decide +kernel
theorem dX2_hold_51 : decode cX2_hold 51 = .ok (.iconst 0, 1) := by decide +kernel
theorem dX2_hold_52 : decode cX2_hold 52 = .ok (.istore 5, 2) := by decide +kernel
theorem dX2_hold_54 : decode cX2_hold 54 = .ok (.iload 5, 2) := by decide +kernel
theorem dX2_hold_56 : decode cX2_hold 56 = .ok (.aload_n 0, 1) := by decide +kernel
theorem dX2_hold_57 : decode cX2_hold 57 = .ok (.getfield 31, 3) := by decide +kernel
theorem dX2_hold_60 : decode cX2_hold 60 = .ok (.if_icmp .ge 77, 3) := by decide +kernel
theorem dX2_hold_63 : decode cX2_hold 63 = .ok (.aload_n 0, 1) := by decide +kernel
theorem dX2_hold_64 : decode cX2_hold 64 = .ok (.aload_n 2, 1) := by decide +kernel
theorem dX2_hold_65 : decode cX2_hold 65 = .ok (.iload_n 3, 1) := by decide +kernel
theorem dX2_hold_66 : decode cX2_hold 66 = .ok (.aload_n 0, 1) := by decide +kernel
theorem dX2_hold_67 : decode cX2_hold 67 = .ok (.getfield 11, 3) := by decide +kernel
theorem dX2_hold_70 : decode cX2_hold 70 = .ok (.iload 5, 2) := by decide +kernel
theorem dX2_hold_72 : decode cX2_hold 72 = .ok (.iaload, 1) := by decide +kernel
theorem dX2_hold_73 : decode cX2_hold 73 = .ok (.aload_n 0, 1) := by decide +kernel
theorem dX2_hold_74 : decode cX2_hold 74 = .ok (.getfield 15, 3) := by decide +kernel
theorem dX2_hold_77 : decode cX2_hold 77 = .ok (.iload 5, 2) := by decide +kernel
theorem dX2_hold_79 : decode cX2_hold 79 = .ok (.iaload, 1) := by decide +kernel
theorem dX2_hold_80 : decode cX2_hold 80 = .ok (.iload 4, 2) := by decide +kernel
theorem dX2_hold_82 : decode cX2_hold 82 = .ok (.iload 5, 2) := by decide +kernel
theorem dX2_hold_84 : decode cX2_hold 84 = .ok (.ishr, 1) := by decide +kernel
theorem dX2_hold_85 : decode cX2_hold 85 = .ok (.iconst 1, 1) := by decide +kernel
theorem dX2_hold_86 : decode cX2_hold 86 = .ok (.iand, 1) := by decide +kernel
theorem dX2_hold_87 : decode cX2_hold 87 = .ok (.ixor, 1) := by decide +kernel
theorem dX2_hold_88 : decode cX2_hold 88 = .ok (.aload_n 0, 1) := by decide +kernel
theorem dX2_hold_89 : decode cX2_hold 89 = .ok (.getfield 18, 3) := by decide +kernel
theorem dX2_hold_92 : decode cX2_hold 92 = .ok (.iload 5, 2) := by decide +kernel
theorem dX2_hold_94 : decode cX2_hold 94 = .ok (.iaload, 1) := by decide +kernel
theorem dX2_hold_95 : decode cX2_hold 95 = .ok (.invokevirtual 61, 3) := by decide +kernel
theorem dX2_hold_98 : decode cX2_hold 98 = .ok (.pop, 1) := by decide +kernel
theorem dX2_hold_99 : decode cX2_hold 99 = .ok (.aload_n 0, 1) := by decide +kernel
theorem dX2_hold_100 : decode cX2_hold 100 = .ok (.getfield 58, 3) := by decide +kernel
theorem dX2_hold_103 : decode cX2_hold 103 = .ok (.bipush (-2), 2) := by decide +kernel
theorem dX2_hold_105 : decode cX2_hold 105 = .ok (.if_icmp .ne 26, 3) := by decide +kernel
theorem dX2_hold_108 : decode cX2_hold 108 = .ok (.aload_n 0, 1) := by decide +kernel
theorem dX2_hold_109 : decode cX2_hold 109 = .ok (.getfield 24, 3) := by decide +kernel
theorem dX2_hold_112 : decode cX2_hold 112 = .ok (.aload_n 0, 1) := by decide +kernel
theorem dX2_hold_113 : decode cX2_hold 113 = .ok (.getfield 11, 3) := by decide +kernel
theorem dX2_hold_116 : decode cX2_hold 116 = .ok (.iload 5, 2) := by decide +kernel
theorem dX2_hold_118 : decode cX2_hold 118 = .ok (.iaload, 1) := by decide +kernel
theorem dX2_hold_119 : decode cX2_hold 119 = .ok (.invokevirtual 65, 3) := by decide +kernel
theorem dX2_hold_122 : decode cX2_hold 122 = .ok (.ifCond .eq 9, 3) := by decide +kernel
theorem dX2_hold_125 : decode cX2_hold 125 = .ok (.aload_n 0, 1) := by decide +kernel
theorem dX2_hold_126 : decode cX2_hold 126 = .ok (.iload 5, 2) := by decide +kernel
theorem dX2_hold_128 : decode cX2_hold 128 = .ok (.putfield 58, 3) := by decide +kernel
theorem dX2_hold_131 : decode cX2_hold 131 = .ok (.iinc 5 1, 3) := by decide +kernel
theorem dX2_hold_134 : decode cX2_hold 134 = .ok (.goto (-80), 3) := by decide +kernel
theorem dX2_hold_137 : decode cX2_hold 137 = .ok (.return_, 1) := by decide +kernel
theorem dX2_speak_0 : decode cX2_speak 0 = .ok (.iload 4, 2) := by decide +kernel
theorem dX2_speak_2 : decode cX2_speak 2 = .ok (.iconst 2, 1) := by decide +kernel
theorem dX2_speak_3 : decode cX2_speak 3 = .ok (.idiv, 1) := by decide +kernel
theorem dX2_speak_4 : decode cX2_speak 4 = .ok (.istore 6, 2) := by decide +kernel
theorem dX2_speak_6 : decode cX2_speak 6 = .ok (.iload 4, 2) := by decide +kernel
theorem dX2_speak_8 : decode cX2_speak 8 = .ok (.iconst 2, 1) := by decide +kernel
theorem dX2_speak_9 : decode cX2_speak 9 = .ok (.irem, 1) := by decide +kernel
theorem dX2_speak_10 : decode cX2_speak 10 = .ok (.istore 7, 2) := by decide +kernel
theorem dX2_speak_12 : decode cX2_speak 12 = .ok (.aload_n 0, 1) := by decide +kernel
theorem dX2_speak_13 : decode cX2_speak 13 = .ok (.getfield 28, 3) := by decide +kernel
theorem dX2_speak_16 : decode cX2_speak 16 = .ok (.iload_n 3, 1) := by decide +kernel
theorem dX2_speak_17 : decode cX2_speak 17 = .ok (.bipush 10, 2) := by decide +kernel
theorem dX2_speak_19 : decode cX2_speak 19 = .ok (.imul, 1) := by decide +kernel
theorem dX2_speak_20 : decode cX2_speak 20 = .ok (.iload 6, 2) := by decide +kernel
theorem dX2_speak_22 : decode cX2_speak 22 = .ok (.iadd, 1) := by decide +kernel
theorem dX2_speak_23 : decode cX2_speak 23 = .ok (.iload 7, 2) := by decide +kernel
theorem dX2_speak_25 : decode cX2_speak 25 = .ok (.iastore, 1) := by decide +kernel
theorem dX2_speak_26 : decode cX2_speak 26 = .ok (.aload_n 0, 1) := by decide +kernel
theorem dX2_speak_27 : decode cX2_speak 27 = .ok (.dup, 1) := by decide +kernel
theorem dX2_speak_28 : decode cX2_speak 28 = .ok (.getfield 55, 3) := by decide +kernel
theorem dX2_speak_31 : decode cX2_speak 31 = .ok (.iconst 1, 1) := by decide +kernel
theorem dX2_speak_32 : decode cX2_speak 32 = .ok (.iload 6, 2) := by decide +kernel
theorem dX2_speak_34 : decode cX2_speak 34 = .ok (.ishl, 1) := by decide +kernel
theorem dX2_speak_35 : decode cX2_speak 35 = .ok (.ior, 1) := by decide +kernel
theorem dX2_speak_36 : decode cX2_speak 36 = .ok (.putfield 55, 3) := by decide +kernel
theorem dX2_speak_39 : decode cX2_speak 39 = .ok (.iload_n 2, 1) := by decide +kernel
theorem dX2_speak_40 : decode cX2_speak 40 = .ok (.iload 6, 2) := by decide +kernel
theorem dX2_speak_42 : decode cX2_speak 42 = .ok (.iload 7, 2) := by decide +kernel
theorem dX2_speak_44 : decode cX2_speak 44 = .ok (.invokestatic 69, 3) := by decide +kernel
theorem dX2_speak_47 : decode cX2_speak 47 = .ok (.ifCond .ne 5, 3) := by decide +kernel
theorem dX2_speak_50 : decode cX2_speak 50 = .ok (.iconst 0, 1) := by decide +kernel
theorem dX2_speak_51 : decode cX2_speak 51 = .ok (.ireturn, 1) := by decide +kernel
theorem dX2_speak_52 : decode cX2_speak 52 = .ok (.aload_n 0, 1) := by decide +kernel
theorem dX2_speak_53 : decode cX2_speak 53 = .ok (.dup, 1) := by decide +kernel
theorem dX2_speak_54 : decode cX2_speak 54 = .ok (.getfield 52, 3) := by decide +kernel
theorem dX2_speak_57 : decode cX2_speak 57 = .ok (.iconst 1, 1) := by decide +kernel
theorem dX2_speak_58 : decode cX2_speak 58 = .ok (.iload_n 3, 1) := by decide +kernel
theorem dX2_speak_59 : decode cX2_speak 59 = .ok (.ishl, 1) := by decide +kernel
theorem dX2_speak_60 : decode cX2_speak 60 = .ok (.ior, 1) := by decide +kernel
theorem dX2_speak_61 : decode cX2_speak 61 = .ok (.putfield 52, 3) := by decide +kernel
theorem dX2_speak_64 : decode cX2_speak 64 = .ok (.aload_n 0, 1) := by decide +kernel
theorem dX2_speak_65 : decode cX2_speak 65 = .ok (.getfield 24, 3) := by decide +kernel
theorem dX2_speak_68 : decode cX2_speak 68 = .ok (.aload_n 1, 1) := by decide +kernel
theorem dX2_speak_69 : decode cX2_speak 69 = .ok (.iload_n 3, 1) := by decide +kernel
theorem dX2_speak_70 : decode cX2_speak 70 = .ok (.iload 6, 2) := by decide +kernel
theorem dX2_speak_72 : decode cX2_speak 72 = .ok (.iload 5, 2) := by decide +kernel
theorem dX2_speak_74 : decode cX2_speak 74 = .ok (.invokevirtual 73, 3) := by decide +kernel
theorem dX2_speak_77 : decode cX2_speak 77 = .ok (.ireturn, 1) := by decide +kernel
theorem dX2_beliefIn_0 : decode cX2_beliefIn 0 = .ok (.iconst 0, 1) := by decide +kernel
theorem dX2_beliefIn_1 : decode cX2_beliefIn 1 = .ok (.istore_n 2, 1) := by decide +kernel
theorem dX2_beliefIn_2 : decode cX2_beliefIn 2 = .ok (.iconst 0, 1) := by decide +kernel
theorem dX2_beliefIn_3 : decode cX2_beliefIn 3 = .ok (.istore_n 3, 1) := by decide +kernel
theorem dX2_beliefIn_4 : decode cX2_beliefIn 4 = .ok (.iload_n 3, 1) := by decide +kernel
theorem dX2_beliefIn_5 : decode cX2_beliefIn 5 = .ok (.aload_n 0, 1) := by decide +kernel
theorem dX2_beliefIn_6 : decode cX2_beliefIn 6 = .ok (.getfield 24, 3) := by decide +kernel
theorem dX2_beliefIn_9 : decode cX2_beliefIn 9 = .ok (.getfield 77, 3) := by decide +kernel
theorem dX2_beliefIn_12 : decode cX2_beliefIn 12 = .ok (.if_icmp .ge 57, 3) := by decide +kernel
theorem dX2_beliefIn_15 : decode cX2_beliefIn 15 = .ok (.aload_n 0, 1) := by decide +kernel
theorem dX2_beliefIn_16 : decode cX2_beliefIn 16 = .ok (.getfield 28, 3) := by decide +kernel
theorem dX2_beliefIn_19 : decode cX2_beliefIn 19 = .ok (.iload_n 3, 1) := by decide +kernel
theorem dX2_beliefIn_20 : decode cX2_beliefIn 20 = .ok (.bipush 10, 2) := by decide +kernel
theorem dX2_beliefIn_22 : decode cX2_beliefIn 22 = .ok (.imul, 1) := by decide +kernel
theorem dX2_beliefIn_23 : decode cX2_beliefIn 23 = .ok (.iload_n 1, 1) := by decide +kernel
theorem dX2_beliefIn_24 : decode cX2_beliefIn 24 = .ok (.iadd, 1) := by decide +kernel
theorem dX2_beliefIn_25 : decode cX2_beliefIn 25 = .ok (.iaload, 1) := by decide +kernel
theorem dX2_beliefIn_26 : decode cX2_beliefIn 26 = .ok (.istore 4, 2) := by decide +kernel
theorem dX2_beliefIn_28 : decode cX2_beliefIn 28 = .ok (.iload 4, 2) := by decide +kernel
theorem dX2_beliefIn_30 : decode cX2_beliefIn 30 = .ok (.iconst (-1), 1) := by decide +kernel
theorem dX2_beliefIn_31 : decode cX2_beliefIn 31 = .ok (.if_icmp .eq 32, 3) := by decide +kernel
theorem dX2_beliefIn_34 : decode cX2_beliefIn 34 = .ok (.iload_n 2, 1) := by decide +kernel
theorem dX2_beliefIn_35 : decode cX2_beliefIn 35 = .ok (.iload 4, 2) := by decide +kernel
theorem dX2_beliefIn_37 : decode cX2_beliefIn 37 = .ok (.iconst 1, 1) := by decide +kernel
theorem dX2_beliefIn_38 : decode cX2_beliefIn 38 = .ok (.if_icmp .ne 14, 3) := by decide +kernel
theorem dX2_beliefIn_41 : decode cX2_beliefIn 41 = .ok (.aload_n 0, 1) := by decide +kernel
theorem dX2_beliefIn_42 : decode cX2_beliefIn 42 = .ok (.getfield 24, 3) := by decide +kernel
theorem dX2_beliefIn_45 : decode cX2_beliefIn 45 = .ok (.iload_n 3, 1) := by decide +kernel
theorem dX2_beliefIn_46 : decode cX2_beliefIn 46 = .ok (.invokevirtual 80, 3) := by decide +kernel
theorem dX2_beliefIn_49 : decode cX2_beliefIn 49 = .ok (.goto 12, 3) := by decide +kernel
theorem dX2_beliefIn_52 : decode cX2_beliefIn 52 = .ok (.aload_n 0, 1) := by decide +kernel
theorem dX2_beliefIn_53 : decode cX2_beliefIn 53 = .ok (.getfield 24, 3) := by decide +kernel
theorem dX2_beliefIn_56 : decode cX2_beliefIn 56 = .ok (.iload_n 3, 1) := by decide +kernel
theorem dX2_beliefIn_57 : decode cX2_beliefIn 57 = .ok (.invokevirtual 80, 3) := by decide +kernel
theorem dX2_beliefIn_60 : decode cX2_beliefIn 60 = .ok (.ineg, 1) := by decide +kernel
theorem dX2_beliefIn_61 : decode cX2_beliefIn 61 = .ok (.iadd, 1) := by decide +kernel
theorem dX2_beliefIn_62 : decode cX2_beliefIn 62 = .ok (.istore_n 2, 1) := by decide +kernel
theorem dX2_beliefIn_63 : decode cX2_beliefIn 63 = .ok (.iinc 3 1, 3) := by decide +kernel
theorem dX2_beliefIn_66 : decode cX2_beliefIn 66 = .ok (.goto (-62), 3) := by decide +kernel
theorem dX2_beliefIn_69 : decode cX2_beliefIn 69 = .ok (.iload_n 2, 1) := by decide +kernel
theorem dX2_beliefIn_70 : decode cX2_beliefIn 70 = .ok (.ifCond .ne 6, 3) := by decide +kernel
theorem dX2_beliefIn_73 : decode cX2_beliefIn 73 = .ok (.bipush (-2), 2) := by decide +kernel
theorem dX2_beliefIn_75 : decode cX2_beliefIn 75 = .ok (.ireturn, 1) := by decide +kernel
theorem dX2_beliefIn_76 : decode cX2_beliefIn 76 = .ok (.iload_n 2, 1) := by decide +kernel
theorem dX2_beliefIn_77 : decode cX2_beliefIn 77 = .ok (.ifCond .le 7, 3) := by decide +kernel
theorem dX2_beliefIn_80 : decode cX2_beliefIn 80 = .ok (.iconst 1, 1) := by decide +kernel
theorem dX2_beliefIn_81 : decode cX2_beliefIn 81 = .ok (.goto 4, 3) := by decide +kernel
theorem dX2_beliefIn_84 : decode cX2_beliefIn 84 = .ok (.iconst 0, 1) := by decide +kernel
theorem dX2_beliefIn_85 : decode cX2_beliefIn 85 = .ok (.ireturn, 1) := by decide +kernel
theorem dX2_wrongBeliefs_0 : decode cX2_wrongBeliefs 0 = .ok (.iconst 0, 1) := by decide +kernel
theorem dX2_wrongBeliefs_1 : decode cX2_wrongBeliefs 1 = .ok (.istore_n 2, 1) := by decide +kernel
theorem dX2_wrongBeliefs_2 : decode cX2_wrongBeliefs 2 = .ok (.iconst 0, 1) := by decide +kernel
theorem dX2_wrongBeliefs_3 : decode cX2_wrongBeliefs 3 = .ok (.istore_n 3, 1) := by decide +kernel
theorem dX2_wrongBeliefs_4 : decode cX2_wrongBeliefs 4 = .ok (.iload_n 3, 1) := by decide +kernel
theorem dX2_wrongBeliefs_5 : decode cX2_wrongBeliefs 5 = .ok (.bipush 10, 2) := by decide +kernel
theorem dX2_wrongBeliefs_7 : decode cX2_wrongBeliefs 7 = .ok (.if_icmp .ge 36, 3) := by decide +kernel
theorem dX2_wrongBeliefs_10 : decode cX2_wrongBeliefs 10 = .ok (.aload_n 0, 1) := by decide +kernel
theorem dX2_wrongBeliefs_11 : decode cX2_wrongBeliefs 11 = .ok (.iload_n 3, 1) := by decide +kernel
theorem dX2_wrongBeliefs_12 : decode cX2_wrongBeliefs 12 = .ok (.invokevirtual 84, 3) := by decide +kernel
theorem dX2_wrongBeliefs_15 : decode cX2_wrongBeliefs 15 = .ok (.istore 4, 2) := by decide +kernel
theorem dX2_wrongBeliefs_17 : decode cX2_wrongBeliefs 17 = .ok (.iload 4, 2) := by decide +kernel
theorem dX2_wrongBeliefs_19 : decode cX2_wrongBeliefs 19 = .ok (.bipush (-2), 2) := by decide +kernel
theorem dX2_wrongBeliefs_21 : decode cX2_wrongBeliefs 21 = .ok (.if_icmp .eq 16, 3) := by decide +kernel
theorem dX2_wrongBeliefs_24 : decode cX2_wrongBeliefs 24 = .ok (.iload_n 1, 1) := by decide +kernel
theorem dX2_wrongBeliefs_25 : decode cX2_wrongBeliefs 25 = .ok (.iload_n 3, 1) := by decide +kernel
theorem dX2_wrongBeliefs_26 : decode cX2_wrongBeliefs 26 = .ok (.iload 4, 2) := by decide +kernel
theorem dX2_wrongBeliefs_28 : decode cX2_wrongBeliefs 28 = .ok (.invokestatic 69, 3) := by decide +kernel
theorem dX2_wrongBeliefs_31 : decode cX2_wrongBeliefs 31 = .ok (.ifCond .eq 6, 3) := by decide +kernel
theorem dX2_wrongBeliefs_34 : decode cX2_wrongBeliefs 34 = .ok (.iinc 2 1, 3) := by decide +kernel
theorem dX2_wrongBeliefs_37 : decode cX2_wrongBeliefs 37 = .ok (.iinc 3 1, 3) := by decide +kernel
theorem dX2_wrongBeliefs_40 : decode cX2_wrongBeliefs 40 = .ok (.goto (-36), 3) := by decide +kernel
theorem dX2_wrongBeliefs_43 : decode cX2_wrongBeliefs 43 = .ok (.iload_n 2, 1) := by decide +kernel
theorem dX2_wrongBeliefs_44 : decode cX2_wrongBeliefs 44 = .ok (.ireturn, 1) := by decide +kernel
theorem dX2_asWorthyAs_0 : decode cX2_asWorthyAs 0 = .ok (.iconst 0, 1) := by decide +kernel
theorem dX2_asWorthyAs_1 : decode cX2_asWorthyAs 1 = .ok (.istore_n 2, 1) := by decide +kernel
theorem dX2_asWorthyAs_2 : decode cX2_asWorthyAs 2 = .ok (.iconst 0, 1) := by decide +kernel
theorem dX2_asWorthyAs_3 : decode cX2_asWorthyAs 3 = .ok (.istore_n 3, 1) := by decide +kernel
theorem dX2_asWorthyAs_4 : decode cX2_asWorthyAs 4 = .ok (.iload_n 3, 1) := by decide +kernel
theorem dX2_asWorthyAs_5 : decode cX2_asWorthyAs 5 = .ok (.aload_n 1, 1) := by decide +kernel
theorem dX2_asWorthyAs_6 : decode cX2_asWorthyAs 6 = .ok (.getfield 77, 3) := by decide +kernel
theorem dX2_asWorthyAs_9 : decode cX2_asWorthyAs 9 = .ok (.if_icmp .ge 31, 3) := by decide +kernel
theorem dX2_asWorthyAs_12 : decode cX2_asWorthyAs 12 = .ok (.aload_n 0, 1) := by decide +kernel
theorem dX2_asWorthyAs_13 : decode cX2_asWorthyAs 13 = .ok (.getfield 24, 3) := by decide +kernel
theorem dX2_asWorthyAs_16 : decode cX2_asWorthyAs 16 = .ok (.iload_n 3, 1) := by decide +kernel
theorem dX2_asWorthyAs_17 : decode cX2_asWorthyAs 17 = .ok (.invokevirtual 80, 3) := by decide +kernel
theorem dX2_asWorthyAs_20 : decode cX2_asWorthyAs 20 = .ok (.aload_n 1, 1) := by decide +kernel
theorem dX2_asWorthyAs_21 : decode cX2_asWorthyAs 21 = .ok (.iload_n 3, 1) := by decide +kernel
theorem dX2_asWorthyAs_22 : decode cX2_asWorthyAs 22 = .ok (.invokevirtual 80, 3) := by decide +kernel
theorem dX2_asWorthyAs_25 : decode cX2_asWorthyAs 25 = .ok (.if_icmp .ne 9, 3) := by decide +kernel
theorem dX2_asWorthyAs_28 : decode cX2_asWorthyAs 28 = .ok (.iload_n 2, 1) := by decide +kernel
theorem dX2_asWorthyAs_29 : decode cX2_asWorthyAs 29 = .ok (.iconst 1, 1) := by decide +kernel
theorem dX2_asWorthyAs_30 : decode cX2_asWorthyAs 30 = .ok (.iload_n 3, 1) := by decide +kernel
theorem dX2_asWorthyAs_31 : decode cX2_asWorthyAs 31 = .ok (.ishl, 1) := by decide +kernel
theorem dX2_asWorthyAs_32 : decode cX2_asWorthyAs 32 = .ok (.ior, 1) := by decide +kernel
theorem dX2_asWorthyAs_33 : decode cX2_asWorthyAs 33 = .ok (.istore_n 2, 1) := by decide +kernel
theorem dX2_asWorthyAs_34 : decode cX2_asWorthyAs 34 = .ok (.iinc 3 1, 3) := by decide +kernel
theorem dX2_asWorthyAs_37 : decode cX2_asWorthyAs 37 = .ok (.goto (-33), 3) := by decide +kernel
theorem dX2_asWorthyAs_40 : decode cX2_asWorthyAs 40 = .ok (.iload_n 2, 1) := by decide +kernel
theorem dX2_asWorthyAs_41 : decode cX2_asWorthyAs 41 = .ok (.ireturn, 1) := by decide +kernel
theorem dX3_init_0 : decode cX3_init 0 = .ok (.aload_n 0, 1) := by decide +kernel
theorem dX3_init_1 : decode cX3_init 1 = .ok (.invokespecial 3, 3) := by decide +kernel
theorem dX3_init_4 : decode cX3_init 4 = .ok (.aload_n 0, 1) := by decide +kernel
theorem dX3_init_5 : decode cX3_init 5 = .ok (.sipush 128, 3) := by decide +kernel
theorem dX3_init_8 : decode cX3_init 8 = .ok (.newarray .int, 2) := by decide +kernel
theorem dX3_init_10 : decode cX3_init 10 = .ok (.putfield 11, 3) := by decide +kernel
theorem dX3_init_13 : decode cX3_init 13 = .ok (.aload_n 0, 1) := by decide +kernel
theorem dX3_init_14 : decode cX3_init 14 = .ok (.sipush 128, 3) := by decide +kernel
theorem dX3_init_17 : decode cX3_init 17 = .ok (.newarray .int, 2) := by decide +kernel
theorem dX3_init_19 : decode cX3_init 19 = .ok (.putfield 15, 3) := by decide +kernel
theorem dX3_init_22 : decode cX3_init 22 = .ok (.aload_n 0, 1) := by decide +kernel
theorem dX3_init_23 : decode cX3_init 23 = .ok (.sipush 128, 3) := by decide +kernel
theorem dX3_init_26 : decode cX3_init 26 = .ok (.newarray .int, 2) := by decide +kernel
theorem dX3_init_28 : decode cX3_init 28 = .ok (.putfield 18, 3) := by decide +kernel
theorem dX3_init_31 : decode cX3_init 31 = .ok (.aload_n 0, 1) := by decide +kernel
theorem dX3_init_32 : decode cX3_init 32 = .ok (.bipush 6, 2) := by decide +kernel
theorem dX3_init_34 : decode cX3_init 34 = .ok (.newarray .int, 2) := by decide +kernel
theorem dX3_init_36 : decode cX3_init 36 = .ok (.putfield 21, 3) := by decide +kernel
theorem dX3_init_39 : decode cX3_init 39 = .ok (.return_, 1) := by decide +kernel
theorem dX3_add_0 : decode cX3_add 0 = .ok (.aload_n 0, 1) := by decide +kernel
theorem dX3_add_1 : decode cX3_add 1 = .ok (.getfield 24, 3) := by decide +kernel
theorem dX3_add_4 : decode cX3_add 4 = .ok (.sipush 128, 3) := by decide +kernel
theorem dX3_add_7 : decode cX3_add 7 = .ok (.if_icmp .ge 33, 3) := by decide +kernel
theorem dX3_add_10 : decode cX3_add 10 = .ok (.aload_n 0, 1) := by decide +kernel
theorem dX3_add_11 : decode cX3_add 11 = .ok (.getfield 11, 3) := by decide +kernel
theorem dX3_add_14 : decode cX3_add 14 = .ok (.aload_n 0, 1) := by decide +kernel
theorem dX3_add_15 : decode cX3_add 15 = .ok (.getfield 24, 3) := by decide +kernel
theorem dX3_add_18 : decode cX3_add 18 = .ok (.iload_n 1, 1) := by decide +kernel
theorem dX3_add_19 : decode cX3_add 19 = .ok (.iastore, 1) := by decide +kernel
theorem dX3_add_20 : decode cX3_add 20 = .ok (.aload_n 0, 1) := by decide +kernel
theorem dX3_add_21 : decode cX3_add 21 = .ok (.getfield 15, 3) := by decide +kernel
theorem dX3_add_24 : decode cX3_add 24 = .ok (.aload_n 0, 1) := by decide +kernel
theorem dX3_add_25 : decode cX3_add 25 = .ok (.getfield 24, 3) := by decide +kernel
theorem dX3_add_28 : decode cX3_add 28 = .ok (.iload_n 2, 1) := by decide +kernel
theorem dX3_add_29 : decode cX3_add 29 = .ok (.iastore, 1) := by decide +kernel
theorem dX3_add_30 : decode cX3_add 30 = .ok (.aload_n 0, 1) := by decide +kernel
theorem dX3_add_31 : decode cX3_add 31 = .ok (.dup, 1) := by decide +kernel
theorem dX3_add_32 : decode cX3_add 32 = .ok (.getfield 24, 3) := by decide +kernel
theorem dX3_add_35 : decode cX3_add 35 = .ok (.iconst 1, 1) := by decide +kernel
theorem dX3_add_36 : decode cX3_add 36 = .ok (.iadd, 1) := by decide +kernel
theorem dX3_add_37 : decode cX3_add 37 = .ok (.putfield 24, 3) := by decide +kernel
theorem dX3_add_40 : decode cX3_add 40 = .ok (.return_, 1) := by decide +kernel
theorem dX3_skipToHere_0 : decode cX3_skipToHere 0 = .ok (.iload_n 1, 1) := by decide +kernel
theorem dX3_skipToHere_1 : decode cX3_skipToHere 1 = .ok (.ifCond .lt 21, 3) := by decide +kernel
theorem dX3_skipToHere_4 : decode cX3_skipToHere 4 = .ok (.iload_n 1, 1) := by decide +kernel
theorem dX3_skipToHere_5 : decode cX3_skipToHere 5 = .ok (.aload_n 0, 1) := by decide +kernel
theorem dX3_skipToHere_6 : decode cX3_skipToHere 6 = .ok (.getfield 24, 3) := by decide +kernel
theorem dX3_skipToHere_9 : decode cX3_skipToHere 9 = .ok (.if_icmp .ge 13, 3) := by decide +kernel
theorem dX3_skipToHere_12 : decode cX3_skipToHere 12 = .ok (.aload_n 0, 1) := by decide +kernel
theorem dX3_skipToHere_13 : decode cX3_skipToHere 13 = .ok (.getfield 15, 3) := by decide +kernel
theorem dX3_skipToHere_16 : decode cX3_skipToHere 16 = .ok (.iload_n 1, 1) := by decide +kernel
theorem dX3_skipToHere_17 : decode cX3_skipToHere 17 = .ok (.aload_n 0, 1) := by decide +kernel
theorem dX3_skipToHere_18 : decode cX3_skipToHere 18 = .ok (.getfield 24, 3) := by decide +kernel
theorem dX3_skipToHere_21 : decode cX3_skipToHere 21 = .ok (.iastore, 1) := by decide +kernel
theorem dX3_skipToHere_22 : decode cX3_skipToHere 22 = .ok (.return_, 1) := by decide +kernel
theorem dX3_priceOf_0 : decode cX3_priceOf 0 = .ok (.aload_n 0, 1) := by decide +kernel
theorem dX3_priceOf_1 : decode cX3_priceOf 1 = .ok (.getfield 24, 3) := by decide +kernel
theorem dX3_priceOf_4 : decode cX3_priceOf 4 = .ok (.ifCond .ne 10, 3) := by decide +kernel
theorem dX3_priceOf_7 : decode cX3_priceOf 7 = .ok (.iconst 1, 1) := by decide +kernel
theorem dX3_priceOf_8 : decode cX3_priceOf 8 = .ok (.iload 4, 2) := by decide +kernel
theorem dX3_priceOf_10 : decode cX3_priceOf 10 = .ok (.iconst 2, 1) := by decide +kernel
theorem dX3_priceOf_11 : decode cX3_priceOf 11 = .ok (.idiv, 1) := by decide +kernel
theorem dX3_priceOf_12 : decode cX3_priceOf 12 = .ok (.iadd, 1) := by decide +kernel
theorem dX3_priceOf_13 : decode cX3_priceOf 13 = .ok (.ireturn, 1) := by decide +kernel
theorem dX3_priceOf_14 : decode cX3_priceOf 14 = .ok (.iload 4, 2) := by decide +kernel
theorem dX3_priceOf_16 : decode cX3_priceOf 16 = .ok (.bipush 8, 2) := by decide +kernel
theorem dX3_priceOf_18 : decode cX3_priceOf 18 = .ok (.irem, 1) := by decide +kernel
theorem dX3_priceOf_19 : decode cX3_priceOf 19 = .ok (.istore 5, 2) := by decide +kernel
theorem dX3_priceOf_21 : decode cX3_priceOf 21 = .ok (.aload_n 0, 1) := by decide +kernel
theorem dX3_priceOf_22 : decode cX3_priceOf 22 = .ok (.getfield 21, 3) := by decide +kernel
theorem dX3_priceOf_25 : decode cX3_priceOf 25 = .ok (.iconst 0, 1) := by decide +kernel
theorem dX3_priceOf_26 : decode cX3_priceOf 26 = .ok (.iload 4, 2) := by decide +kernel
theorem dX3_priceOf_28 : decode cX3_priceOf 28 = .ok (.iastore, 1) := by decide +kernel
theorem dX3_priceOf_29 : decode cX3_priceOf 29 = .ok (.aload_n 0, 1) := by decide +kernel
theorem dX3_priceOf_30 : decode cX3_priceOf 30 = .ok (.getfield 21, 3) := by decide +kernel
theorem dX3_priceOf_33 : decode cX3_priceOf 33 = .ok (.iconst 1, 1) := by decide +kernel
theorem dX3_priceOf_34 : decode cX3_priceOf 34 = .ok (.aload_n 1, 1) := by decide +kernel
theorem dX3_priceOf_35 : decode cX3_priceOf 35 = .ok (.getfield 28, 3) := by decide +kernel
theorem dX3_priceOf_38 : decode cX3_priceOf 38 = .ok (.iload_n 2, 1) := by decide +kernel
theorem dX3_priceOf_39 : decode cX3_priceOf 39 = .ok (.iaload, 1) := by decide +kernel
theorem dX3_priceOf_40 : decode cX3_priceOf 40 = .ok (.iastore, 1) := by decide +kernel
theorem dX3_priceOf_41 : decode cX3_priceOf 41 = .ok (.aload_n 0, 1) := by decide +kernel
theorem dX3_priceOf_42 : decode cX3_priceOf 42 = .ok (.getfield 21, 3) := by decide +kernel
theorem dX3_priceOf_45 : decode cX3_priceOf 45 = .ok (.iconst 2, 1) := by decide +kernel
theorem dX3_priceOf_46 : decode cX3_priceOf 46 = .ok (.aload_n 1, 1) := by decide +kernel
theorem dX3_priceOf_47 : decode cX3_priceOf 47 = .ok (.iload_n 2, 1) := by decide +kernel
theorem dX3_priceOf_48 : decode cX3_priceOf 48 = .ok (.invokevirtual 33, 3) := by decide +kernel
theorem dX3_priceOf_51 : decode cX3_priceOf 51 = .ok (.iastore, 1) := by decide +kernel
theorem dX3_priceOf_52 : decode cX3_priceOf 52 = .ok (.aload_n 0, 1) := by decide +kernel
theorem dX3_priceOf_53 : decode cX3_priceOf 53 = .ok (.getfield 21, 3) := by decide +kernel
theorem dX3_priceOf_56 : decode cX3_priceOf 56 = .ok (.iconst 3, 1) := by decide +kernel
theorem dX3_priceOf_57 : decode cX3_priceOf 57 = .ok (.iload 5, 2) := by decide +kernel
theorem dX3_priceOf_59 : decode cX3_priceOf 59 = .ok (.iastore, 1) := by decide +kernel
theorem dX3_priceOf_60 : decode cX3_priceOf 60 = .ok (.aload_n 0, 1) := by decide +kernel
theorem dX3_priceOf_61 : decode cX3_priceOf 61 = .ok (.getfield 21, 3) := by decide +kernel
theorem dX3_priceOf_64 : decode cX3_priceOf 64 = .ok (.iconst 4, 1) := by decide +kernel
theorem dX3_priceOf_65 : decode cX3_priceOf 65 = .ok (.aload_n 1, 1) := by decide +kernel
theorem dX3_priceOf_66 : decode cX3_priceOf 66 = .ok (.iload_n 2, 1) := by decide +kernel
theorem dX3_priceOf_67 : decode cX3_priceOf 67 = .ok (.iload 5, 2) := by decide +kernel
theorem dX3_priceOf_69 : decode cX3_priceOf 69 = .ok (.invokevirtual 37, 3) := by decide +kernel
theorem dX3_priceOf_72 : decode cX3_priceOf 72 = .ok (.ifCond .eq 7, 3) := by decide +kernel
theorem dX3_priceOf_75 : decode cX3_priceOf 75 = .ok (.iconst 1, 1) := by decide +kernel
theorem dX3_priceOf_76 : decode cX3_priceOf 76 = .ok (.goto 4, 3) := by decide +kernel
theorem dX3_priceOf_79 : decode cX3_priceOf 79 = .ok (.iconst 0, 1) := by decide +kernel
theorem dX3_priceOf_80 : decode cX3_priceOf 80 = .ok (.iastore, 1) := by decide +kernel
theorem dX3_priceOf_81 : decode cX3_priceOf 81 = .ok (.aload_n 0, 1) := by decide +kernel
theorem dX3_priceOf_82 : decode cX3_priceOf 82 = .ok (.getfield 21, 3) := by decide +kernel
theorem dX3_priceOf_85 : decode cX3_priceOf 85 = .ok (.iconst 5, 1) := by decide +kernel
theorem dX3_priceOf_86 : decode cX3_priceOf 86 = .ok (.iload_n 3, 1) := by decide +kernel
theorem dX3_priceOf_87 : decode cX3_priceOf 87 = .ok (.iastore, 1) := by decide +kernel
theorem dX3_priceOf_88 : decode cX3_priceOf 88 = .ok (.iconst 0, 1) := by decide +kernel
theorem dX3_priceOf_89 : decode cX3_priceOf 89 = .ok (.bipush 99, 2) := by decide +kernel
theorem dX3_priceOf_91 : decode cX3_priceOf 91 = .ok (.aload_n 0, 1) := by decide +kernel
theorem dX3_priceOf_92 : decode cX3_priceOf 92 = .ok (.invokevirtual 41, 3) := by decide +kernel
theorem dX3_priceOf_95 : decode cX3_priceOf 95 = .ok (.invokestatic 45, 3) := by decide +kernel
theorem dX3_priceOf_98 : decode cX3_priceOf 98 = .ok (.invokestatic 51, 3) := by decide +kernel
theorem dX3_priceOf_101 : decode cX3_priceOf 101 = .ok (.ireturn, 1) := by decide +kernel
theorem dX3_workedOut_0 : decode cX3_workedOut 0 = .ok (.aload_n 0, 1) := by decide +kernel
theorem dX3_workedOut_1 : decode cX3_workedOut 1 = .ok (.iconst 0, 1) := by decide +kernel
theorem dX3_workedOut_2 : decode cX3_workedOut 2 = .ok (.putfield 54, 3) := by decide +kernel
theorem dX3_workedOut_5 : decode cX3_workedOut 5 = .ok (.iconst 0, 1) := by decide +kernel
theorem dX3_workedOut_6 : decode cX3_workedOut 6 = .ok (.istore_n 1, 1) := by decide +kernel
theorem dX3_workedOut_7 : decode cX3_workedOut 7 = .ok (.iconst 0, 1) := by decide +kernel
theorem dX3_workedOut_8 : decode cX3_workedOut 8 = .ok (.istore_n 2, 1) := by decide +kernel
theorem dX3_workedOut_9 : decode cX3_workedOut 9 = .ok (.iload_n 2, 1) := by decide +kernel
theorem dX3_workedOut_10 : decode cX3_workedOut 10 = .ok (.aload_n 0, 1) := by decide +kernel
theorem dX3_workedOut_11 : decode cX3_workedOut 11 = .ok (.getfield 24, 3) := by decide +kernel
theorem dX3_workedOut_14 : decode cX3_workedOut 14 = .ok (.if_icmp .ge 212, 3) := by decide +kernel
theorem dX3_workedOut_17 : decode cX3_workedOut 17 = .ok (.iload_n 1, 1) := by decide +kernel
theorem dX3_workedOut_18 : decode cX3_workedOut 18 = .ok (.ifCond .lt 208, 3) := by decide +kernel
theorem dX3_workedOut_21 : decode cX3_workedOut 21 = .ok (.iload_n 1, 1) := by decide +kernel
theorem dX3_workedOut_22 : decode cX3_workedOut 22 = .ok (.aload_n 0, 1) := by decide +kernel
theorem dX3_workedOut_23 : decode cX3_workedOut 23 = .ok (.getfield 24, 3) := by decide +kernel
theorem dX3_workedOut_26 : decode cX3_workedOut 26 = .ok (.if_icmp .ge 200, 3) := by decide +kernel
theorem dX3_workedOut_29 : decode cX3_workedOut 29 = .ok (.aload_n 0, 1) := by decide +kernel
theorem dX3_workedOut_30 : decode cX3_workedOut 30 = .ok (.getfield 11, 3) := by decide +kernel
theorem dX3_workedOut_33 : decode cX3_workedOut 33 = .ok (.iload_n 1, 1) := by decide +kernel
theorem dX3_workedOut_34 : decode cX3_workedOut 34 = .ok (.iaload, 1) := by decide +kernel
theorem dX3_workedOut_35 : decode cX3_workedOut 35 = .ok (.istore_n 3, 1) := by decide +kernel
theorem dX3_workedOut_36 : decode cX3_workedOut 36 = .ok (.aload_n 0, 1) := by decide +kernel
theorem dX3_workedOut_37 : decode cX3_workedOut 37 = .ok (.getfield 15, 3) := by decide +kernel
theorem dX3_workedOut_40 : decode cX3_workedOut 40 = .ok (.iload_n 1, 1) := by decide +kernel
theorem dX3_workedOut_41 : decode cX3_workedOut 41 = .ok (.iaload, 1) := by decide +kernel
theorem dX3_workedOut_42 : decode cX3_workedOut 42 = .ok (.istore 4, 2) := by decide +kernel
theorem dX3_workedOut_44 : decode cX3_workedOut 44 = .ok (.iinc 1 1, 3) := by decide +kernel
theorem dX3_workedOut_47 : decode cX3_workedOut 47 = .ok (.iload_n 3, 1) := by decide +kernel
theorem dX3_workedOut_48 : decode cX3_workedOut 48 = .ok (.lookupswitch 152 #[(-45, 140), (-33, 121), (0, 60), (1, 69), (2, 99), (3, 104)], 60) := by decide +kernel
theorem dX3_workedOut_108 : decode cX3_workedOut 108 = .ok (.aload_n 0, 1) := by decide +kernel
theorem dX3_workedOut_109 : decode cX3_workedOut 109 = .ok (.iload 4, 2) := by decide +kernel
theorem dX3_workedOut_111 : decode cX3_workedOut 111 = .ok (.invokevirtual 57, 3) := by decide +kernel
theorem dX3_workedOut_114 : decode cX3_workedOut 114 = .ok (.goto 106, 3) := by decide +kernel
theorem dX3_workedOut_117 : decode cX3_workedOut 117 = .ok (.aload_n 0, 1) := by decide +kernel
theorem dX3_workedOut_118 : decode cX3_workedOut 118 = .ok (.iload 4, 2) := by decide +kernel
theorem dX3_workedOut_120 : decode cX3_workedOut 120 = .ok (.ifCond .lt 20, 3) := by decide +kernel
theorem dX3_workedOut_123 : decode cX3_workedOut 123 = .ok (.iload 4, 2) := by decide +kernel
theorem dX3_workedOut_125 : decode cX3_workedOut 125 = .ok (.bipush 6, 2) := by decide +kernel
theorem dX3_workedOut_127 : decode cX3_workedOut 127 = .ok (.if_icmp .ge 13, 3) := by decide +kernel
theorem dX3_workedOut_130 : decode cX3_workedOut 130 = .ok (.aload_n 0, 1) := by decide +kernel
theorem dX3_workedOut_131 : decode cX3_workedOut 131 = .ok (.getfield 21, 3) := by decide +kernel
theorem dX3_workedOut_134 : decode cX3_workedOut 134 = .ok (.iload 4, 2) := by decide +kernel
theorem dX3_workedOut_136 : decode cX3_workedOut 136 = .ok (.iaload, 1) := by decide +kernel
theorem dX3_workedOut_137 : decode cX3_workedOut 137 = .ok (.goto 4, 3) := by decide +kernel
theorem dX3_workedOut_140 : decode cX3_workedOut 140 = .ok (.iconst 0, 1) := by decide +kernel
theorem dX3_workedOut_141 : decode cX3_workedOut 141 = .ok (.invokevirtual 57, 3) := by decide +kernel
theorem dX3_workedOut_144 : decode cX3_workedOut 144 = .ok (.goto 76, 3) := by decide +kernel
theorem dX3_workedOut_147 : decode cX3_workedOut 147 = .ok (.aload_n 0, 1) := by decide +kernel
theorem dX3_workedOut_148 : decode cX3_workedOut 148 = .ok (.invokevirtual 61, 3) := by decide +kernel
theorem dX3_workedOut_151 : decode cX3_workedOut 151 = .ok (.ireturn, 1) := by decide +kernel
theorem dX3_workedOut_152 : decode cX3_workedOut 152 = .ok (.aload_n 0, 1) := by decide +kernel
theorem dX3_workedOut_153 : decode cX3_workedOut 153 = .ok (.invokevirtual 61, 3) := by decide +kernel
theorem dX3_workedOut_156 : decode cX3_workedOut 156 = .ok (.ifCond .ne 8, 3) := by decide +kernel
theorem dX3_workedOut_159 : decode cX3_workedOut 159 = .ok (.iload 4, 2) := by decide +kernel
theorem dX3_workedOut_161 : decode cX3_workedOut 161 = .ok (.goto 4, 3) := by decide +kernel
theorem dX3_workedOut_164 : decode cX3_workedOut 164 = .ok (.iload_n 1, 1) := by decide +kernel
theorem dX3_workedOut_165 : decode cX3_workedOut 165 = .ok (.istore_n 1, 1) := by decide +kernel
theorem dX3_workedOut_166 : decode cX3_workedOut 166 = .ok (.goto 54, 3) := by decide +kernel
theorem dX3_workedOut_169 : decode cX3_workedOut 169 = .ok (.aload_n 0, 1) := by decide +kernel
theorem dX3_workedOut_170 : decode cX3_workedOut 170 = .ok (.aload_n 0, 1) := by decide +kernel
theorem dX3_workedOut_171 : decode cX3_workedOut 171 = .ok (.invokevirtual 61, 3) := by decide +kernel
theorem dX3_workedOut_174 : decode cX3_workedOut 174 = .ok (.ifCond .ne 7, 3) := by decide +kernel
theorem dX3_workedOut_177 : decode cX3_workedOut 177 = .ok (.iconst 1, 1) := by decide +kernel
theorem dX3_workedOut_178 : decode cX3_workedOut 178 = .ok (.goto 4, 3) := by decide +kernel
theorem dX3_workedOut_181 : decode cX3_workedOut 181 = .ok (.iconst 0, 1) := by decide +kernel
theorem dX3_workedOut_182 : decode cX3_workedOut 182 = .ok (.invokevirtual 57, 3) := by decide +kernel
theorem dX3_workedOut_185 : decode cX3_workedOut 185 = .ok (.goto 35, 3) := by decide +kernel
theorem dX3_workedOut_188 : decode cX3_workedOut 188 = .ok (.aload_n 0, 1) := by decide +kernel
theorem dX3_workedOut_189 : decode cX3_workedOut 189 = .ok (.aload_n 0, 1) := by decide +kernel
theorem dX3_workedOut_190 : decode cX3_workedOut 190 = .ok (.invokevirtual 61, 3) := by decide +kernel
theorem dX3_workedOut_193 : decode cX3_workedOut 193 = .ok (.ineg, 1) := by decide +kernel
theorem dX3_workedOut_194 : decode cX3_workedOut 194 = .ok (.invokevirtual 57, 3) := by decide +kernel
theorem dX3_workedOut_197 : decode cX3_workedOut 197 = .ok (.goto 23, 3) := by decide +kernel
theorem dX3_workedOut_200 : decode cX3_workedOut 200 = .ok (.aload_n 0, 1) := by decide +kernel
theorem dX3_workedOut_201 : decode cX3_workedOut 201 = .ok (.invokevirtual 61, 3) := by decide +kernel
theorem dX3_workedOut_204 : decode cX3_workedOut 204 = .ok (.istore 5, 2) := by decide +kernel
theorem dX3_workedOut_206 : decode cX3_workedOut 206 = .ok (.aload_n 0, 1) := by decide +kernel
theorem dX3_workedOut_207 : decode cX3_workedOut 207 = .ok (.iload_n 3, 1) := by decide +kernel
theorem dX3_workedOut_208 : decode cX3_workedOut 208 = .ok (.aload_n 0, 1) := by decide +kernel
theorem dX3_workedOut_209 : decode cX3_workedOut 209 = .ok (.invokevirtual 61, 3) := by decide +kernel
theorem dX3_workedOut_212 : decode cX3_workedOut 212 = .ok (.iload 5, 2) := by decide +kernel
theorem dX3_workedOut_214 : decode cX3_workedOut 214 = .ok (.invokestatic 64, 3) := by decide +kernel
theorem dX3_workedOut_217 : decode cX3_workedOut 217 = .ok (.invokevirtual 57, 3) := by decide +kernel
theorem dX3_workedOut_220 : decode cX3_workedOut 220 = .ok (.iinc 2 1, 3) := by decide +kernel
theorem dX3_workedOut_223 : decode cX3_workedOut 223 = .ok (.goto (-214), 3) := by decide +kernel
theorem dX3_workedOut_226 : decode cX3_workedOut 226 = .ok (.iconst 0, 1) := by decide +kernel
theorem dX3_workedOut_227 : decode cX3_workedOut 227 = .ok (.ireturn, 1) := by decide +kernel
theorem dX3_together_0 : decode cX3_together 0 = .ok (.iload_n 0, 1) := by decide +kernel
theorem dX3_together_1 : decode cX3_together 1 = .ok (.lookupswitch 188 #[(37, 176), (38, 105), (42, 160), (43, 152), (45, 156), (47, 164), (60, 119), (61, 130), (62, 141), (124, 91)], 91) := by decide +kernel
theorem dX3_together_92 : decode cX3_together 92 = .ok (.iload_n 1, 1) := by decide +kernel
theorem dX3_together_93 : decode cX3_together 93 = .ok (.ifCond .ne 7, 3) := by decide +kernel
theorem dX3_together_96 : decode cX3_together 96 = .ok (.iload_n 2, 1) := by decide +kernel
theorem dX3_together_97 : decode cX3_together 97 = .ok (.ifCond .eq 7, 3) := by decide +kernel
theorem dX3_together_100 : decode cX3_together 100 = .ok (.iconst 1, 1) := by decide +kernel
theorem dX3_together_101 : decode cX3_together 101 = .ok (.goto 4, 3) := by decide +kernel
theorem dX3_together_104 : decode cX3_together 104 = .ok (.iconst 0, 1) := by decide +kernel
theorem dX3_together_105 : decode cX3_together 105 = .ok (.ireturn, 1) := by decide +kernel
theorem dX3_together_106 : decode cX3_together 106 = .ok (.iload_n 1, 1) := by decide +kernel
theorem dX3_together_107 : decode cX3_together 107 = .ok (.ifCond .eq 11, 3) := by decide +kernel
theorem dX3_together_110 : decode cX3_together 110 = .ok (.iload_n 2, 1) := by decide +kernel
theorem dX3_together_111 : decode cX3_together 111 = .ok (.ifCond .eq 7, 3) := by decide +kernel
theorem dX3_together_114 : decode cX3_together 114 = .ok (.iconst 1, 1) := by decide +kernel
theorem dX3_together_115 : decode cX3_together 115 = .ok (.goto 4, 3) := by decide +kernel
theorem dX3_together_118 : decode cX3_together 118 = .ok (.iconst 0, 1) := by decide +kernel
theorem dX3_together_119 : decode cX3_together 119 = .ok (.ireturn, 1) := by decide +kernel
theorem dX3_together_120 : decode cX3_together 120 = .ok (.iload_n 1, 1) := by decide +kernel
theorem dX3_together_121 : decode cX3_together 121 = .ok (.iload_n 2, 1) := by decide +kernel
theorem dX3_together_122 : decode cX3_together 122 = .ok (.if_icmp .ge 7, 3) := by decide +kernel
theorem dX3_together_125 : decode cX3_together 125 = .ok (.iconst 1, 1) := by decide +kernel
theorem dX3_together_126 : decode cX3_together 126 = .ok (.goto 4, 3) := by decide +kernel
theorem dX3_together_129 : decode cX3_together 129 = .ok (.iconst 0, 1) := by decide +kernel
theorem dX3_together_130 : decode cX3_together 130 = .ok (.ireturn, 1) := by decide +kernel
theorem dX3_together_131 : decode cX3_together 131 = .ok (.iload_n 1, 1) := by decide +kernel
theorem dX3_together_132 : decode cX3_together 132 = .ok (.iload_n 2, 1) := by decide +kernel
theorem dX3_together_133 : decode cX3_together 133 = .ok (.if_icmp .ne 7, 3) := by decide +kernel
theorem dX3_together_136 : decode cX3_together 136 = .ok (.iconst 1, 1) := by decide +kernel
theorem dX3_together_137 : decode cX3_together 137 = .ok (.goto 4, 3) := by decide +kernel
theorem dX3_together_140 : decode cX3_together 140 = .ok (.iconst 0, 1) := by decide +kernel
theorem dX3_together_141 : decode cX3_together 141 = .ok (.ireturn, 1) := by decide +kernel
theorem dX3_together_142 : decode cX3_together 142 = .ok (.iload_n 1, 1) := by decide +kernel
theorem dX3_together_143 : decode cX3_together 143 = .ok (.iload_n 2, 1) := by decide +kernel
theorem dX3_together_144 : decode cX3_together 144 = .ok (.if_icmp .le 7, 3) := by decide +kernel
theorem dX3_together_147 : decode cX3_together 147 = .ok (.iconst 1, 1) := by decide +kernel
theorem dX3_together_148 : decode cX3_together 148 = .ok (.goto 4, 3) := by decide +kernel
theorem dX3_together_151 : decode cX3_together 151 = .ok (.iconst 0, 1) := by decide +kernel
theorem dX3_together_152 : decode cX3_together 152 = .ok (.ireturn, 1) := by decide +kernel
theorem dX3_together_153 : decode cX3_together 153 = .ok (.iload_n 1, 1) := by decide +kernel
theorem dX3_together_154 : decode cX3_together 154 = .ok (.iload_n 2, 1) := by decide +kernel
theorem dX3_together_155 : decode cX3_together 155 = .ok (.iadd, 1) := by decide +kernel
theorem dX3_together_156 : decode cX3_together 156 = .ok (.ireturn, 1) := by decide +kernel
theorem dX3_together_157 : decode cX3_together 157 = .ok (.iload_n 1, 1) := by decide +kernel
theorem dX3_together_158 : decode cX3_together 158 = .ok (.iload_n 2, 1) := by decide +kernel
theorem dX3_together_159 : decode cX3_together 159 = .ok (.isub, 1) := by decide +kernel
theorem dX3_together_160 : decode cX3_together 160 = .ok (.ireturn, 1) := by decide +kernel
theorem dX3_together_161 : decode cX3_together 161 = .ok (.iload_n 1, 1) := by decide +kernel
theorem dX3_together_162 : decode cX3_together 162 = .ok (.iload_n 2, 1) := by decide +kernel
theorem dX3_together_163 : decode cX3_together 163 = .ok (.imul, 1) := by decide +kernel
theorem dX3_together_164 : decode cX3_together 164 = .ok (.ireturn, 1) := by decide +kernel
theorem dX3_together_165 : decode cX3_together 165 = .ok (.iload_n 2, 1) := by decide +kernel
theorem dX3_together_166 : decode cX3_together 166 = .ok (.ifCond .ne 7, 3) := by decide +kernel
theorem dX3_together_169 : decode cX3_together 169 = .ok (.iconst 0, 1) := by decide +kernel
theorem dX3_together_170 : decode cX3_together 170 = .ok (.goto 6, 3) := by decide +kernel
theorem dX3_together_173 : decode cX3_together 173 = .ok (.iload_n 1, 1) := by decide +kernel
theorem dX3_together_174 : decode cX3_together 174 = .ok (.iload_n 2, 1) := by decide +kernel
theorem dX3_together_175 : decode cX3_together 175 = .ok (.idiv, 1) := by decide +kernel
theorem dX3_together_176 : decode cX3_together 176 = .ok (.ireturn, 1) := by decide +kernel
theorem dX3_together_177 : decode cX3_together 177 = .ok (.iload_n 2, 1) := by decide +kernel
theorem dX3_together_178 : decode cX3_together 178 = .ok (.ifCond .ne 7, 3) := by decide +kernel
theorem dX3_together_181 : decode cX3_together 181 = .ok (.iconst 0, 1) := by decide +kernel
theorem dX3_together_182 : decode cX3_together 182 = .ok (.goto 6, 3) := by decide +kernel
theorem dX3_together_185 : decode cX3_together 185 = .ok (.iload_n 1, 1) := by decide +kernel
theorem dX3_together_186 : decode cX3_together 186 = .ok (.iload_n 2, 1) := by decide +kernel
theorem dX3_together_187 : decode cX3_together 187 = .ok (.irem, 1) := by decide +kernel
theorem dX3_together_188 : decode cX3_together 188 = .ok (.ireturn, 1) := by decide +kernel
theorem dX3_together_189 : decode cX3_together 189 = .ok (.iconst 0, 1) := by decide +kernel
theorem dX3_together_190 : decode cX3_together 190 = .ok (.ireturn, 1) := by decide +kernel
theorem dX3_push_0 : decode cX3_push 0 = .ok (.aload_n 0, 1) := by decide +kernel
theorem dX3_push_1 : decode cX3_push 1 = .ok (.getfield 54, 3) := by decide +kernel
theorem dX3_push_4 : decode cX3_push 4 = .ok (.sipush 128, 3) := by decide +kernel
theorem dX3_push_7 : decode cX3_push 7 = .ok (.if_icmp .ge 23, 3) := by decide +kernel
theorem dX3_push_10 : decode cX3_push 10 = .ok (.aload_n 0, 1) := by decide +kernel
theorem dX3_push_11 : decode cX3_push 11 = .ok (.getfield 18, 3) := by decide +kernel
theorem dX3_push_14 : decode cX3_push 14 = .ok (.aload_n 0, 1) := by decide +kernel
theorem dX3_push_15 : decode cX3_push 15 = .ok (.getfield 54, 3) := by decide +kernel
theorem dX3_push_18 : decode cX3_push 18 = .ok (.iload_n 1, 1) := by decide +kernel
theorem dX3_push_19 : decode cX3_push 19 = .ok (.iastore, 1) := by decide +kernel
theorem dX3_push_20 : decode cX3_push 20 = .ok (.aload_n 0, 1) := by decide +kernel
theorem dX3_push_21 : decode cX3_push 21 = .ok (.dup, 1) := by decide +kernel
theorem dX3_push_22 : decode cX3_push 22 = .ok (.getfield 54, 3) := by decide +kernel
theorem dX3_push_25 : decode cX3_push 25 = .ok (.iconst 1, 1) := by decide +kernel
theorem dX3_push_26 : decode cX3_push 26 = .ok (.iadd, 1) := by decide +kernel
theorem dX3_push_27 : decode cX3_push 27 = .ok (.putfield 54, 3) := by decide +kernel
theorem dX3_push_30 : decode cX3_push 30 = .ok (.return_, 1) := by decide +kernel
theorem dX3_pop_0 : decode cX3_pop 0 = .ok (.aload_n 0, 1) := by decide +kernel
theorem dX3_pop_1 : decode cX3_pop 1 = .ok (.getfield 54, 3) := by decide +kernel
theorem dX3_pop_4 : decode cX3_pop 4 = .ok (.iconst 1, 1) := by decide +kernel
theorem dX3_pop_5 : decode cX3_pop 5 = .ok (.if_icmp .ge 5, 3) := by decide +kernel
theorem dX3_pop_8 : decode cX3_pop 8 = .ok (.iconst 0, 1) := by decide +kernel
theorem dX3_pop_9 : decode cX3_pop 9 = .ok (.ireturn, 1) := by decide +kernel
theorem dX3_pop_10 : decode cX3_pop 10 = .ok (.aload_n 0, 1) := by decide +kernel
theorem dX3_pop_11 : decode cX3_pop 11 = .ok (.dup, 1) := by decide +kernel
theorem dX3_pop_12 : decode cX3_pop 12 = .ok (.getfield 54, 3) := by decide +kernel
theorem dX3_pop_15 : decode cX3_pop 15 = .ok (.iconst 1, 1) := by decide +kernel
theorem dX3_pop_16 : decode cX3_pop 16 = .ok (.isub, 1) := by decide +kernel
theorem dX3_pop_17 : decode cX3_pop 17 = .ok (.putfield 54, 3) := by decide +kernel
theorem dX3_pop_20 : decode cX3_pop 20 = .ok (.aload_n 0, 1) := by decide +kernel
theorem dX3_pop_21 : decode cX3_pop 21 = .ok (.getfield 18, 3) := by decide +kernel
theorem dX3_pop_24 : decode cX3_pop 24 = .ok (.aload_n 0, 1) := by decide +kernel
theorem dX3_pop_25 : decode cX3_pop 25 = .ok (.getfield 54, 3) := by decide +kernel
theorem dX3_pop_28 : decode cX3_pop 28 = .ok (.iaload, 1) := by decide +kernel
theorem dX3_pop_29 : decode cX3_pop 29 = .ok (.ireturn, 1) := by decide +kernel
theorem dX4_init_0 : decode cX4_init 0 = .ok (.aload_n 0, 1) := by decide +kernel
theorem dX4_init_1 : decode cX4_init 1 = .ok (.invokespecial 3, 3) := by decide +kernel
theorem dX4_init_4 : decode cX4_init 4 = .ok (.aload_n 0, 1) := by decide +kernel
theorem dX4_init_5 : decode cX4_init 5 = .ok (.bipush 120, 2) := by decide +kernel
theorem dX4_init_7 : decode cX4_init 7 = .ok (.newarray .int, 2) := by decide +kernel
theorem dX4_init_9 : decode cX4_init 9 = .ok (.putfield 9, 3) := by decide +kernel
theorem dX4_init_12 : decode cX4_init 12 = .ok (.aload_n 0, 1) := by decide +kernel
theorem dX4_init_13 : decode cX4_init 13 = .ok (.new 15, 3) := by decide +kernel
theorem dX4_init_16 : decode cX4_init 16 = .ok (.dup, 1) := by decide +kernel
theorem dX4_init_17 : decode cX4_init 17 = .ok (.invokespecial 17, 3) := by decide +kernel
theorem dX4_init_20 : decode cX4_init 20 = .ok (.putfield 18, 3) := by decide +kernel
theorem dX4_init_23 : decode cX4_init 23 = .ok (.return_, 1) := by decide +kernel
theorem dX4_take_0 : decode cX4_take 0 = .ok (.aload_n 0, 1) := by decide +kernel
theorem dX4_take_1 : decode cX4_take 1 = .ok (.getfield 22, 3) := by decide +kernel
theorem dX4_take_4 : decode cX4_take 4 = .ok (.bipush 120, 2) := by decide +kernel
theorem dX4_take_6 : decode cX4_take 6 = .ok (.if_icmp .lt 6, 3) := by decide +kernel
theorem dX4_take_9 : decode cX4_take 9 = .ok (.bipush (-3), 2) := by decide +kernel
theorem dX4_take_11 : decode cX4_take 11 = .ok (.ireturn, 1) := by decide +kernel
theorem dX4_take_12 : decode cX4_take 12 = .ok (.aload_n 0, 1) := by decide +kernel
theorem dX4_take_13 : decode cX4_take 13 = .ok (.getfield 9, 3) := by decide +kernel
theorem dX4_take_16 : decode cX4_take 16 = .ok (.aload_n 0, 1) := by decide +kernel
theorem dX4_take_17 : decode cX4_take 17 = .ok (.getfield 22, 3) := by decide +kernel
theorem dX4_take_20 : decode cX4_take 20 = .ok (.iload_n 1, 1) := by decide +kernel
theorem dX4_take_21 : decode cX4_take 21 = .ok (.iastore, 1) := by decide +kernel
theorem dX4_take_22 : decode cX4_take 22 = .ok (.aload_n 0, 1) := by decide +kernel
theorem dX4_take_23 : decode cX4_take 23 = .ok (.dup, 1) := by decide +kernel
theorem dX4_take_24 : decode cX4_take 24 = .ok (.getfield 22, 3) := by decide +kernel
theorem dX4_take_27 : decode cX4_take 27 = .ok (.iconst 1, 1) := by decide +kernel
theorem dX4_take_28 : decode cX4_take 28 = .ok (.iadd, 1) := by decide +kernel
theorem dX4_take_29 : decode cX4_take 29 = .ok (.putfield 22, 3) := by decide +kernel
theorem dX4_take_32 : decode cX4_take 32 = .ok (.aload_n 0, 1) := by decide +kernel
theorem dX4_take_33 : decode cX4_take 33 = .ok (.getfield 22, 3) := by decide +kernel
theorem dX4_take_36 : decode cX4_take 36 = .ok (.ireturn, 1) := by decide +kernel
theorem dX4_exchangeFor_0 : decode cX4_exchangeFor 0 = .ok (.aload_n 0, 1) := by decide +kernel
theorem dX4_exchangeFor_1 : decode cX4_exchangeFor 1 = .ok (.getfield 18, 3) := by decide +kernel
theorem dX4_exchangeFor_4 : decode cX4_exchangeFor 4 = .ok (.astore_n 2, 1) := by decide +kernel
theorem dX4_exchangeFor_5 : decode cX4_exchangeFor 5 = .ok (.aload_n 0, 1) := by decide +kernel
theorem dX4_exchangeFor_6 : decode cX4_exchangeFor 6 = .ok (.aload_n 1, 1) := by decide +kernel
theorem dX4_exchangeFor_7 : decode cX4_exchangeFor 7 = .ok (.putfield 18, 3) := by decide +kernel
theorem dX4_exchangeFor_10 : decode cX4_exchangeFor 10 = .ok (.aload_n 2, 1) := by decide +kernel
theorem dX4_exchangeFor_11 : decode cX4_exchangeFor 11 = .ok (.areturn, 1) := by decide +kernel
theorem dX4_read_0 : decode cX4_read 0 = .ok (.aload_n 0, 1) := by decide +kernel
theorem dX4_read_1 : decode cX4_read 1 = .ok (.getfield 18, 3) := by decide +kernel
theorem dX4_read_4 : decode cX4_read 4 = .ok (.iconst 0, 1) := by decide +kernel
theorem dX4_read_5 : decode cX4_read 5 = .ok (.putfield 26, 3) := by decide +kernel
theorem dX4_read_8 : decode cX4_read 8 = .ok (.aload_n 0, 1) := by decide +kernel
theorem dX4_read_9 : decode cX4_read 9 = .ok (.iconst 0, 1) := by decide +kernel
theorem dX4_read_10 : decode cX4_read 10 = .ok (.putfield 29, 3) := by decide +kernel
theorem dX4_read_13 : decode cX4_read 13 = .ok (.aload_n 0, 1) := by decide +kernel
theorem dX4_read_14 : decode cX4_read 14 = .ok (.invokevirtual 32, 3) := by decide +kernel
theorem dX4_read_17 : decode cX4_read 17 = .ok (.istore_n 1, 1) := by decide +kernel
theorem dX4_read_18 : decode cX4_read 18 = .ok (.iconst 0, 1) := by decide +kernel
theorem dX4_read_19 : decode cX4_read 19 = .ok (.istore_n 2, 1) := by decide +kernel
theorem dX4_read_20 : decode cX4_read 20 = .ok (.iload_n 2, 1) := by decide +kernel
theorem dX4_read_21 : decode cX4_read 21 = .ok (.bipush 120, 2) := by decide +kernel
theorem dX4_read_23 : decode cX4_read 23 = .ok (.if_icmp .ge 37, 3) := by decide +kernel
theorem dX4_read_26 : decode cX4_read 26 = .ok (.iload_n 1, 1) := by decide +kernel
theorem dX4_read_27 : decode cX4_read 27 = .ok (.ifCond .eq 33, 3) := by decide +kernel
theorem dX4_read_30 : decode cX4_read 30 = .ok (.aload_n 0, 1) := by decide +kernel
theorem dX4_read_31 : decode cX4_read 31 = .ok (.invokevirtual 36, 3) := by decide +kernel
theorem dX4_read_34 : decode cX4_read 34 = .ok (.bipush 59, 2) := by decide +kernel
theorem dX4_read_36 : decode cX4_read 36 = .ok (.if_icmp .ne 24, 3) := by decide +kernel
theorem dX4_read_39 : decode cX4_read 39 = .ok (.aload_n 0, 1) := by decide +kernel
theorem dX4_read_40 : decode cX4_read 40 = .ok (.dup, 1) := by decide +kernel
theorem dX4_read_41 : decode cX4_read 41 = .ok (.getfield 29, 3) := by decide +kernel
theorem dX4_read_44 : decode cX4_read 44 = .ok (.iconst 1, 1) := by decide +kernel
theorem dX4_read_45 : decode cX4_read 45 = .ok (.iadd, 1) := by decide +kernel
theorem dX4_read_46 : decode cX4_read 46 = .ok (.putfield 29, 3) := by decide +kernel
theorem dX4_read_49 : decode cX4_read 49 = .ok (.aload_n 0, 1) := by decide +kernel
theorem dX4_read_50 : decode cX4_read 50 = .ok (.invokevirtual 32, 3) := by decide +kernel
theorem dX4_read_53 : decode cX4_read 53 = .ok (.istore_n 1, 1) := by decide +kernel
theorem dX4_read_54 : decode cX4_read 54 = .ok (.iinc 2 1, 3) := by decide +kernel
theorem dX4_read_57 : decode cX4_read 57 = .ok (.goto (-37), 3) := by decide +kernel
theorem dX4_read_60 : decode cX4_read 60 = .ok (.iload_n 1, 1) := by decide +kernel
theorem dX4_read_61 : decode cX4_read 61 = .ok (.ifCond .eq 18, 3) := by decide +kernel
theorem dX4_read_64 : decode cX4_read 64 = .ok (.aload_n 0, 1) := by decide +kernel
theorem dX4_read_65 : decode cX4_read 65 = .ok (.getfield 29, 3) := by decide +kernel
theorem dX4_read_68 : decode cX4_read 68 = .ok (.aload_n 0, 1) := by decide +kernel
theorem dX4_read_69 : decode cX4_read 69 = .ok (.getfield 22, 3) := by decide +kernel
theorem dX4_read_72 : decode cX4_read 72 = .ok (.if_icmp .ne 7, 3) := by decide +kernel
theorem dX4_read_75 : decode cX4_read 75 = .ok (.iconst (-1), 1) := by decide +kernel
theorem dX4_read_76 : decode cX4_read 76 = .ok (.goto 7, 3) := by decide +kernel
theorem dX4_read_79 : decode cX4_read 79 = .ok (.aload_n 0, 1) := by decide +kernel
theorem dX4_read_80 : decode cX4_read 80 = .ok (.getfield 29, 3) := by decide +kernel
theorem dX4_read_83 : decode cX4_read 83 = .ok (.ireturn, 1) := by decide +kernel
theorem dX4_next_0 : decode cX4_next 0 = .ok (.aload_n 0, 1) := by decide +kernel
theorem dX4_next_1 : decode cX4_next 1 = .ok (.getfield 29, 3) := by decide +kernel
theorem dX4_next_4 : decode cX4_next 4 = .ok (.aload_n 0, 1) := by decide +kernel
theorem dX4_next_5 : decode cX4_next 5 = .ok (.getfield 22, 3) := by decide +kernel
theorem dX4_next_8 : decode cX4_next 8 = .ok (.if_icmp .ge 15, 3) := by decide +kernel
theorem dX4_next_11 : decode cX4_next 11 = .ok (.aload_n 0, 1) := by decide +kernel
theorem dX4_next_12 : decode cX4_next 12 = .ok (.getfield 9, 3) := by decide +kernel
theorem dX4_next_15 : decode cX4_next 15 = .ok (.aload_n 0, 1) := by decide +kernel
theorem dX4_next_16 : decode cX4_next 16 = .ok (.getfield 29, 3) := by decide +kernel
theorem dX4_next_19 : decode cX4_next 19 = .ok (.iaload, 1) := by decide +kernel
theorem dX4_next_20 : decode cX4_next 20 = .ok (.goto 4, 3) := by decide +kernel
theorem dX4_next_23 : decode cX4_next 23 = .ok (.iconst (-1), 1) := by decide +kernel
theorem dX4_next_24 : decode cX4_next 24 = .ok (.ireturn, 1) := by decide +kernel
theorem dX4_readLine_0 : decode cX4_readLine 0 = .ok (.aload_n 0, 1) := by decide +kernel
theorem dX4_readLine_1 : decode cX4_readLine 1 = .ok (.iconst 0, 1) := by decide +kernel
theorem dX4_readLine_2 : decode cX4_readLine 2 = .ok (.invokevirtual 40, 3) := by decide +kernel
theorem dX4_readLine_5 : decode cX4_readLine 5 = .ok (.istore_n 1, 1) := by decide +kernel
theorem dX4_readLine_6 : decode cX4_readLine 6 = .ok (.iconst (-1), 1) := by decide +kernel
theorem dX4_readLine_7 : decode cX4_readLine 7 = .ok (.istore_n 2, 1) := by decide +kernel
theorem dX4_readLine_8 : decode cX4_readLine 8 = .ok (.iload_n 1, 1) := by decide +kernel
theorem dX4_readLine_9 : decode cX4_readLine 9 = .ok (.ifCond .eq 45, 3) := by decide +kernel
theorem dX4_readLine_12 : decode cX4_readLine 12 = .ok (.aload_n 0, 1) := by decide +kernel
theorem dX4_readLine_13 : decode cX4_readLine 13 = .ok (.invokevirtual 36, 3) := by decide +kernel
theorem dX4_readLine_16 : decode cX4_readLine 16 = .ok (.bipush 63, 2) := by decide +kernel
theorem dX4_readLine_18 : decode cX4_readLine 18 = .ok (.if_icmp .ne 36, 3) := by decide +kernel
theorem dX4_readLine_21 : decode cX4_readLine 21 = .ok (.aload_n 0, 1) := by decide +kernel
theorem dX4_readLine_22 : decode cX4_readLine 22 = .ok (.dup, 1) := by decide +kernel
theorem dX4_readLine_23 : decode cX4_readLine 23 = .ok (.getfield 29, 3) := by decide +kernel
theorem dX4_readLine_26 : decode cX4_readLine 26 = .ok (.iconst 1, 1) := by decide +kernel
theorem dX4_readLine_27 : decode cX4_readLine 27 = .ok (.iadd, 1) := by decide +kernel
theorem dX4_readLine_28 : decode cX4_readLine 28 = .ok (.putfield 29, 3) := by decide +kernel
theorem dX4_readLine_31 : decode cX4_readLine 31 = .ok (.aload_n 0, 1) := by decide +kernel
theorem dX4_readLine_32 : decode cX4_readLine 32 = .ok (.getfield 18, 3) := by decide +kernel
theorem dX4_readLine_35 : decode cX4_readLine 35 = .ok (.getfield 26, 3) := by decide +kernel
theorem dX4_readLine_38 : decode cX4_readLine 38 = .ok (.istore_n 2, 1) := by decide +kernel
theorem dX4_readLine_39 : decode cX4_readLine 39 = .ok (.aload_n 0, 1) := by decide +kernel
theorem dX4_readLine_40 : decode cX4_readLine 40 = .ok (.getfield 18, 3) := by decide +kernel
theorem dX4_readLine_43 : decode cX4_readLine 43 = .ok (.iconst 3, 1) := by decide +kernel
theorem dX4_readLine_44 : decode cX4_readLine 44 = .ok (.iconst 0, 1) := by decide +kernel
theorem dX4_readLine_45 : decode cX4_readLine 45 = .ok (.invokevirtual 44, 3) := by decide +kernel
theorem dX4_readLine_48 : decode cX4_readLine 48 = .ok (.aload_n 0, 1) := by decide +kernel
theorem dX4_readLine_49 : decode cX4_readLine 49 = .ok (.iconst 0, 1) := by decide +kernel
theorem dX4_readLine_50 : decode cX4_readLine 50 = .ok (.invokevirtual 40, 3) := by decide +kernel
theorem dX4_readLine_53 : decode cX4_readLine 53 = .ok (.istore_n 1, 1) := by decide +kernel
theorem dX4_readLine_54 : decode cX4_readLine 54 = .ok (.aload_n 0, 1) := by decide +kernel
theorem dX4_readLine_55 : decode cX4_readLine 55 = .ok (.getfield 18, 3) := by decide +kernel
theorem dX4_readLine_58 : decode cX4_readLine 58 = .ok (.iconst 2, 1) := by decide +kernel
theorem dX4_readLine_59 : decode cX4_readLine 59 = .ok (.iconst 0, 1) := by decide +kernel
theorem dX4_readLine_60 : decode cX4_readLine 60 = .ok (.invokevirtual 44, 3) := by decide +kernel
theorem dX4_readLine_63 : decode cX4_readLine 63 = .ok (.aload_n 0, 1) := by decide +kernel
theorem dX4_readLine_64 : decode cX4_readLine 64 = .ok (.getfield 18, 3) := by decide +kernel
theorem dX4_readLine_67 : decode cX4_readLine 67 = .ok (.iload_n 2, 1) := by decide +kernel
theorem dX4_readLine_68 : decode cX4_readLine 68 = .ok (.invokevirtual 48, 3) := by decide +kernel
theorem dX4_readLine_71 : decode cX4_readLine 71 = .ok (.iload_n 1, 1) := by decide +kernel
theorem dX4_readLine_72 : decode cX4_readLine 72 = .ok (.ireturn, 1) := by decide +kernel
theorem dX4_readAny_0 : decode cX4_readAny 0 = .ok (.aload_n 0, 1) := by decide +kernel
theorem dX4_readAny_1 : decode cX4_readAny 1 = .ok (.iload_n 1, 1) := by decide +kernel
theorem dX4_readAny_2 : decode cX4_readAny 2 = .ok (.invokevirtual 52, 3) := by decide +kernel
theorem dX4_readAny_5 : decode cX4_readAny 5 = .ok (.istore_n 2, 1) := by decide +kernel
theorem dX4_readAny_6 : decode cX4_readAny 6 = .ok (.iconst 0, 1) := by decide +kernel
theorem dX4_readAny_7 : decode cX4_readAny 7 = .ok (.istore_n 3, 1) := by decide +kernel
theorem dX4_readAny_8 : decode cX4_readAny 8 = .ok (.iload_n 3, 1) := by decide +kernel
theorem dX4_readAny_9 : decode cX4_readAny 9 = .ok (.bipush 120, 2) := by decide +kernel
theorem dX4_readAny_11 : decode cX4_readAny 11 = .ok (.if_icmp .ge 48, 3) := by decide +kernel
theorem dX4_readAny_14 : decode cX4_readAny 14 = .ok (.iload_n 2, 1) := by decide +kernel
theorem dX4_readAny_15 : decode cX4_readAny 15 = .ok (.ifCond .eq 44, 3) := by decide +kernel
theorem dX4_readAny_18 : decode cX4_readAny 18 = .ok (.aload_n 0, 1) := by decide +kernel
theorem dX4_readAny_19 : decode cX4_readAny 19 = .ok (.invokevirtual 36, 3) := by decide +kernel
theorem dX4_readAny_22 : decode cX4_readAny 22 = .ok (.bipush 124, 2) := by decide +kernel
theorem dX4_readAny_24 : decode cX4_readAny 24 = .ok (.if_icmp .ne 35, 3) := by decide +kernel
theorem dX4_readAny_27 : decode cX4_readAny 27 = .ok (.aload_n 0, 1) := by decide +kernel
theorem dX4_readAny_28 : decode cX4_readAny 28 = .ok (.dup, 1) := by decide +kernel
theorem dX4_readAny_29 : decode cX4_readAny 29 = .ok (.getfield 29, 3) := by decide +kernel
theorem dX4_readAny_32 : decode cX4_readAny 32 = .ok (.iconst 1, 1) := by decide +kernel
theorem dX4_readAny_33 : decode cX4_readAny 33 = .ok (.iadd, 1) := by decide +kernel
theorem dX4_readAny_34 : decode cX4_readAny 34 = .ok (.putfield 29, 3) := by decide +kernel
theorem dX4_readAny_37 : decode cX4_readAny 37 = .ok (.aload_n 0, 1) := by decide +kernel
theorem dX4_readAny_38 : decode cX4_readAny 38 = .ok (.iload_n 1, 1) := by decide +kernel
theorem dX4_readAny_39 : decode cX4_readAny 39 = .ok (.invokevirtual 52, 3) := by decide +kernel
theorem dX4_readAny_42 : decode cX4_readAny 42 = .ok (.istore_n 2, 1) := by decide +kernel
theorem dX4_readAny_43 : decode cX4_readAny 43 = .ok (.aload_n 0, 1) := by decide +kernel
theorem dX4_readAny_44 : decode cX4_readAny 44 = .ok (.getfield 18, 3) := by decide +kernel
theorem dX4_readAny_47 : decode cX4_readAny 47 = .ok (.bipush 124, 2) := by decide +kernel
theorem dX4_readAny_49 : decode cX4_readAny 49 = .ok (.iconst 0, 1) := by decide +kernel
theorem dX4_readAny_50 : decode cX4_readAny 50 = .ok (.invokevirtual 44, 3) := by decide +kernel
theorem dX4_readAny_53 : decode cX4_readAny 53 = .ok (.iinc 3 1, 3) := by decide +kernel
theorem dX4_readAny_56 : decode cX4_readAny 56 = .ok (.goto (-48), 3) := by decide +kernel
theorem dX4_readAny_59 : decode cX4_readAny 59 = .ok (.iload_n 2, 1) := by decide +kernel
theorem dX4_readAny_60 : decode cX4_readAny 60 = .ok (.ireturn, 1) := by decide +kernel
theorem dX4_readAll_0 : decode cX4_readAll 0 = .ok (.aload_n 0, 1) := by decide +kernel
theorem dX4_readAll_1 : decode cX4_readAll 1 = .ok (.iload_n 1, 1) := by decide +kernel
theorem dX4_readAll_2 : decode cX4_readAll 2 = .ok (.invokevirtual 55, 3) := by decide +kernel
theorem dX4_readAll_5 : decode cX4_readAll 5 = .ok (.istore_n 2, 1) := by decide +kernel
theorem dX4_readAll_6 : decode cX4_readAll 6 = .ok (.iconst 0, 1) := by decide +kernel
theorem dX4_readAll_7 : decode cX4_readAll 7 = .ok (.istore_n 3, 1) := by decide +kernel
theorem dX4_readAll_8 : decode cX4_readAll 8 = .ok (.iload_n 3, 1) := by decide +kernel
theorem dX4_readAll_9 : decode cX4_readAll 9 = .ok (.bipush 120, 2) := by decide +kernel
theorem dX4_readAll_11 : decode cX4_readAll 11 = .ok (.if_icmp .ge 48, 3) := by decide +kernel
theorem dX4_readAll_14 : decode cX4_readAll 14 = .ok (.iload_n 2, 1) := by decide +kernel
theorem dX4_readAll_15 : decode cX4_readAll 15 = .ok (.ifCond .eq 44, 3) := by decide +kernel
theorem dX4_readAll_18 : decode cX4_readAll 18 = .ok (.aload_n 0, 1) := by decide +kernel
theorem dX4_readAll_19 : decode cX4_readAll 19 = .ok (.invokevirtual 36, 3) := by decide +kernel
theorem dX4_readAll_22 : decode cX4_readAll 22 = .ok (.bipush 38, 2) := by decide +kernel
theorem dX4_readAll_24 : decode cX4_readAll 24 = .ok (.if_icmp .ne 35, 3) := by decide +kernel
theorem dX4_readAll_27 : decode cX4_readAll 27 = .ok (.aload_n 0, 1) := by decide +kernel
theorem dX4_readAll_28 : decode cX4_readAll 28 = .ok (.dup, 1) := by decide +kernel
theorem dX4_readAll_29 : decode cX4_readAll 29 = .ok (.getfield 29, 3) := by decide +kernel
theorem dX4_readAll_32 : decode cX4_readAll 32 = .ok (.iconst 1, 1) := by decide +kernel
theorem dX4_readAll_33 : decode cX4_readAll 33 = .ok (.iadd, 1) := by decide +kernel
theorem dX4_readAll_34 : decode cX4_readAll 34 = .ok (.putfield 29, 3) := by decide +kernel
theorem dX4_readAll_37 : decode cX4_readAll 37 = .ok (.aload_n 0, 1) := by decide +kernel
theorem dX4_readAll_38 : decode cX4_readAll 38 = .ok (.iload_n 1, 1) := by decide +kernel
theorem dX4_readAll_39 : decode cX4_readAll 39 = .ok (.invokevirtual 55, 3) := by decide +kernel
theorem dX4_readAll_42 : decode cX4_readAll 42 = .ok (.istore_n 2, 1) := by decide +kernel
theorem dX4_readAll_43 : decode cX4_readAll 43 = .ok (.aload_n 0, 1) := by decide +kernel
theorem dX4_readAll_44 : decode cX4_readAll 44 = .ok (.getfield 18, 3) := by decide +kernel
theorem dX4_readAll_47 : decode cX4_readAll 47 = .ok (.bipush 38, 2) := by decide +kernel
theorem dX4_readAll_49 : decode cX4_readAll 49 = .ok (.iconst 0, 1) := by decide +kernel
theorem dX4_readAll_50 : decode cX4_readAll 50 = .ok (.invokevirtual 44, 3) := by decide +kernel
theorem dX4_readAll_53 : decode cX4_readAll 53 = .ok (.iinc 3 1, 3) := by decide +kernel
theorem dX4_readAll_56 : decode cX4_readAll 56 = .ok (.goto (-48), 3) := by decide +kernel
theorem dX4_readAll_59 : decode cX4_readAll 59 = .ok (.iload_n 2, 1) := by decide +kernel
theorem dX4_readAll_60 : decode cX4_readAll 60 = .ok (.ireturn, 1) := by decide +kernel
theorem dX4_readCompared_0 : decode cX4_readCompared 0 = .ok (.aload_n 0, 1) := by decide +kernel
theorem dX4_readCompared_1 : decode cX4_readCompared 1 = .ok (.iload_n 1, 1) := by decide +kernel
theorem dX4_readCompared_2 : decode cX4_readCompared 2 = .ok (.invokevirtual 58, 3) := by decide +kernel
theorem dX4_readCompared_5 : decode cX4_readCompared 5 = .ok (.istore_n 2, 1) := by decide +kernel
theorem dX4_readCompared_6 : decode cX4_readCompared 6 = .ok (.aload_n 0, 1) := by decide +kernel
theorem dX4_readCompared_7 : decode cX4_readCompared 7 = .ok (.invokevirtual 36, 3) := by decide +kernel
theorem dX4_readCompared_10 : decode cX4_readCompared 10 = .ok (.istore_n 3, 1) := by decide +kernel
theorem dX4_readCompared_11 : decode cX4_readCompared 11 = .ok (.iload_n 2, 1) := by decide +kernel
theorem dX4_readCompared_12 : decode cX4_readCompared 12 = .ok (.ifCond .eq 46, 3) := by decide +kernel
theorem dX4_readCompared_15 : decode cX4_readCompared 15 = .ok (.iload_n 3, 1) := by decide +kernel
theorem dX4_readCompared_16 : decode cX4_readCompared 16 = .ok (.bipush 60, 2) := by decide +kernel
theorem dX4_readCompared_18 : decode cX4_readCompared 18 = .ok (.if_icmp .eq 15, 3) := by decide +kernel
theorem dX4_readCompared_21 : decode cX4_readCompared 21 = .ok (.iload_n 3, 1) := by decide +kernel
theorem dX4_readCompared_22 : decode cX4_readCompared 22 = .ok (.bipush 61, 2) := by decide +kernel
theorem dX4_readCompared_24 : decode cX4_readCompared 24 = .ok (.if_icmp .eq 9, 3) := by decide +kernel
theorem dX4_readCompared_27 : decode cX4_readCompared 27 = .ok (.iload_n 3, 1) := by decide +kernel
theorem dX4_readCompared_28 : decode cX4_readCompared 28 = .ok (.bipush 62, 2) := by decide +kernel
theorem dX4_readCompared_30 : decode cX4_readCompared 30 = .ok (.if_icmp .ne 28, 3) := by decide +kernel
theorem dX4_readCompared_33 : decode cX4_readCompared 33 = .ok (.aload_n 0, 1) := by decide +kernel
theorem dX4_readCompared_34 : decode cX4_readCompared 34 = .ok (.dup, 1) := by decide +kernel
theorem dX4_readCompared_35 : decode cX4_readCompared 35 = .ok (.getfield 29, 3) := by decide +kernel
theorem dX4_readCompared_38 : decode cX4_readCompared 38 = .ok (.iconst 1, 1) := by decide +kernel
theorem dX4_readCompared_39 : decode cX4_readCompared 39 = .ok (.iadd, 1) := by decide +kernel
theorem dX4_readCompared_40 : decode cX4_readCompared 40 = .ok (.putfield 29, 3) := by decide +kernel
theorem dX4_readCompared_43 : decode cX4_readCompared 43 = .ok (.aload_n 0, 1) := by decide +kernel
theorem dX4_readCompared_44 : decode cX4_readCompared 44 = .ok (.iload_n 1, 1) := by decide +kernel
theorem dX4_readCompared_45 : decode cX4_readCompared 45 = .ok (.invokevirtual 58, 3) := by decide +kernel
theorem dX4_readCompared_48 : decode cX4_readCompared 48 = .ok (.istore_n 2, 1) := by decide +kernel
theorem dX4_readCompared_49 : decode cX4_readCompared 49 = .ok (.aload_n 0, 1) := by decide +kernel
theorem dX4_readCompared_50 : decode cX4_readCompared 50 = .ok (.getfield 18, 3) := by decide +kernel
theorem dX4_readCompared_53 : decode cX4_readCompared 53 = .ok (.iload_n 3, 1) := by decide +kernel
theorem dX4_readCompared_54 : decode cX4_readCompared 54 = .ok (.iconst 0, 1) := by decide +kernel
theorem dX4_readCompared_55 : decode cX4_readCompared 55 = .ok (.invokevirtual 44, 3) := by decide +kernel
theorem dX4_readCompared_58 : decode cX4_readCompared 58 = .ok (.iload_n 2, 1) := by decide +kernel
theorem dX4_readCompared_59 : decode cX4_readCompared 59 = .ok (.ireturn, 1) := by decide +kernel
theorem dX4_readSum_0 : decode cX4_readSum 0 = .ok (.aload_n 0, 1) := by decide +kernel
theorem dX4_readSum_1 : decode cX4_readSum 1 = .ok (.iload_n 1, 1) := by decide +kernel
theorem dX4_readSum_2 : decode cX4_readSum 2 = .ok (.invokevirtual 61, 3) := by decide +kernel
theorem dX4_readSum_5 : decode cX4_readSum 5 = .ok (.istore_n 2, 1) := by decide +kernel
theorem dX4_readSum_6 : decode cX4_readSum 6 = .ok (.aload_n 0, 1) := by decide +kernel
theorem dX4_readSum_7 : decode cX4_readSum 7 = .ok (.invokevirtual 36, 3) := by decide +kernel
theorem dX4_readSum_10 : decode cX4_readSum 10 = .ok (.istore_n 3, 1) := by decide +kernel
theorem dX4_readSum_11 : decode cX4_readSum 11 = .ok (.iconst 0, 1) := by decide +kernel
theorem dX4_readSum_12 : decode cX4_readSum 12 = .ok (.istore 4, 2) := by decide +kernel
theorem dX4_readSum_14 : decode cX4_readSum 14 = .ok (.iload 4, 2) := by decide +kernel
theorem dX4_readSum_16 : decode cX4_readSum 16 = .ok (.bipush 120, 2) := by decide +kernel
theorem dX4_readSum_18 : decode cX4_readSum 18 = .ok (.if_icmp .ge 55, 3) := by decide +kernel
theorem dX4_readSum_21 : decode cX4_readSum 21 = .ok (.iload_n 2, 1) := by decide +kernel
theorem dX4_readSum_22 : decode cX4_readSum 22 = .ok (.ifCond .eq 51, 3) := by decide +kernel
theorem dX4_readSum_25 : decode cX4_readSum 25 = .ok (.iload_n 3, 1) := by decide +kernel
theorem dX4_readSum_26 : decode cX4_readSum 26 = .ok (.bipush 43, 2) := by decide +kernel
theorem dX4_readSum_28 : decode cX4_readSum 28 = .ok (.if_icmp .eq 9, 3) := by decide +kernel
theorem dX4_readSum_31 : decode cX4_readSum 31 = .ok (.iload_n 3, 1) := by decide +kernel
theorem dX4_readSum_32 : decode cX4_readSum 32 = .ok (.bipush 45, 2) := by decide +kernel
theorem dX4_readSum_34 : decode cX4_readSum 34 = .ok (.if_icmp .ne 39, 3) := by decide +kernel
theorem dX4_readSum_37 : decode cX4_readSum 37 = .ok (.aload_n 0, 1) := by decide +kernel
theorem dX4_readSum_38 : decode cX4_readSum 38 = .ok (.dup, 1) := by decide +kernel
theorem dX4_readSum_39 : decode cX4_readSum 39 = .ok (.getfield 29, 3) := by decide +kernel
theorem dX4_readSum_42 : decode cX4_readSum 42 = .ok (.iconst 1, 1) := by decide +kernel
theorem dX4_readSum_43 : decode cX4_readSum 43 = .ok (.iadd, 1) := by decide +kernel
theorem dX4_readSum_44 : decode cX4_readSum 44 = .ok (.putfield 29, 3) := by decide +kernel
theorem dX4_readSum_47 : decode cX4_readSum 47 = .ok (.aload_n 0, 1) := by decide +kernel
theorem dX4_readSum_48 : decode cX4_readSum 48 = .ok (.iload_n 1, 1) := by decide +kernel
theorem dX4_readSum_49 : decode cX4_readSum 49 = .ok (.invokevirtual 61, 3) := by decide +kernel
theorem dX4_readSum_52 : decode cX4_readSum 52 = .ok (.istore_n 2, 1) := by decide +kernel
theorem dX4_readSum_53 : decode cX4_readSum 53 = .ok (.aload_n 0, 1) := by decide +kernel
theorem dX4_readSum_54 : decode cX4_readSum 54 = .ok (.getfield 18, 3) := by decide +kernel
theorem dX4_readSum_57 : decode cX4_readSum 57 = .ok (.iload_n 3, 1) := by decide +kernel
theorem dX4_readSum_58 : decode cX4_readSum 58 = .ok (.iconst 0, 1) := by decide +kernel
theorem dX4_readSum_59 : decode cX4_readSum 59 = .ok (.invokevirtual 44, 3) := by decide +kernel
theorem dX4_readSum_62 : decode cX4_readSum 62 = .ok (.aload_n 0, 1) := by decide +kernel
theorem dX4_readSum_63 : decode cX4_readSum 63 = .ok (.invokevirtual 36, 3) := by decide +kernel
theorem dX4_readSum_66 : decode cX4_readSum 66 = .ok (.istore_n 3, 1) := by decide +kernel
theorem dX4_readSum_67 : decode cX4_readSum 67 = .ok (.iinc 4 1, 3) := by decide +kernel
theorem dX4_readSum_70 : decode cX4_readSum 70 = .ok (.goto (-56), 3) := by decide +kernel
theorem dX4_readSum_73 : decode cX4_readSum 73 = .ok (.iload_n 2, 1) := by decide +kernel
theorem dX4_readSum_74 : decode cX4_readSum 74 = .ok (.ireturn, 1) := by decide +kernel
theorem dX4_readProduct_0 : decode cX4_readProduct 0 = .ok (.aload_n 0, 1) := by decide +kernel
theorem dX4_readProduct_1 : decode cX4_readProduct 1 = .ok (.iload_n 1, 1) := by decide +kernel
theorem dX4_readProduct_2 : decode cX4_readProduct 2 = .ok (.invokevirtual 64, 3) := by decide +kernel
theorem dX4_readProduct_5 : decode cX4_readProduct 5 = .ok (.istore_n 2, 1) := by decide +kernel
theorem dX4_readProduct_6 : decode cX4_readProduct 6 = .ok (.aload_n 0, 1) := by decide +kernel
theorem dX4_readProduct_7 : decode cX4_readProduct 7 = .ok (.invokevirtual 36, 3) := by decide +kernel
theorem dX4_readProduct_10 : decode cX4_readProduct 10 = .ok (.istore_n 3, 1) := by decide +kernel
theorem dX4_readProduct_11 : decode cX4_readProduct 11 = .ok (.iconst 0, 1) := by decide +kernel
theorem dX4_readProduct_12 : decode cX4_readProduct 12 = .ok (.istore 4, 2) := by decide +kernel
theorem dX4_readProduct_14 : decode cX4_readProduct 14 = .ok (.iload 4, 2) := by decide +kernel
theorem dX4_readProduct_16 : decode cX4_readProduct 16 = .ok (.bipush 120, 2) := by decide +kernel
theorem dX4_readProduct_18 : decode cX4_readProduct 18 = .ok (.if_icmp .ge 61, 3) := by decide +kernel
theorem dX4_readProduct_21 : decode cX4_readProduct 21 = .ok (.iload_n 2, 1) := by decide +kernel
theorem dX4_readProduct_22 : decode cX4_readProduct 22 = .ok (.ifCond .eq 57, 3) := by decide +kernel
theorem dX4_readProduct_25 : decode cX4_readProduct 25 = .ok (.iload_n 3, 1) := by decide +kernel
theorem dX4_readProduct_26 : decode cX4_readProduct 26 = .ok (.bipush 42, 2) := by decide +kernel
theorem dX4_readProduct_28 : decode cX4_readProduct 28 = .ok (.if_icmp .eq 15, 3) := by decide +kernel
theorem dX4_readProduct_31 : decode cX4_readProduct 31 = .ok (.iload_n 3, 1) := by decide +kernel
theorem dX4_readProduct_32 : decode cX4_readProduct 32 = .ok (.bipush 47, 2) := by decide +kernel
theorem dX4_readProduct_34 : decode cX4_readProduct 34 = .ok (.if_icmp .eq 9, 3) := by decide +kernel
theorem dX4_readProduct_37 : decode cX4_readProduct 37 = .ok (.iload_n 3, 1) := by decide +kernel
theorem dX4_readProduct_38 : decode cX4_readProduct 38 = .ok (.bipush 37, 2) := by decide +kernel
theorem dX4_readProduct_40 : decode cX4_readProduct 40 = .ok (.if_icmp .ne 39, 3) := by decide +kernel
theorem dX4_readProduct_43 : decode cX4_readProduct 43 = .ok (.aload_n 0, 1) := by decide +kernel
theorem dX4_readProduct_44 : decode cX4_readProduct 44 = .ok (.dup, 1) := by decide +kernel
theorem dX4_readProduct_45 : decode cX4_readProduct 45 = .ok (.getfield 29, 3) := by decide +kernel
theorem dX4_readProduct_48 : decode cX4_readProduct 48 = .ok (.iconst 1, 1) := by decide +kernel
theorem dX4_readProduct_49 : decode cX4_readProduct 49 = .ok (.iadd, 1) := by decide +kernel
theorem dX4_readProduct_50 : decode cX4_readProduct 50 = .ok (.putfield 29, 3) := by decide +kernel
theorem dX4_readProduct_53 : decode cX4_readProduct 53 = .ok (.aload_n 0, 1) := by decide +kernel
theorem dX4_readProduct_54 : decode cX4_readProduct 54 = .ok (.iload_n 1, 1) := by decide +kernel
theorem dX4_readProduct_55 : decode cX4_readProduct 55 = .ok (.invokevirtual 64, 3) := by decide +kernel
theorem dX4_readProduct_58 : decode cX4_readProduct 58 = .ok (.istore_n 2, 1) := by decide +kernel
theorem dX4_readProduct_59 : decode cX4_readProduct 59 = .ok (.aload_n 0, 1) := by decide +kernel
theorem dX4_readProduct_60 : decode cX4_readProduct 60 = .ok (.getfield 18, 3) := by decide +kernel
theorem dX4_readProduct_63 : decode cX4_readProduct 63 = .ok (.iload_n 3, 1) := by decide +kernel
theorem dX4_readProduct_64 : decode cX4_readProduct 64 = .ok (.iconst 0, 1) := by decide +kernel
theorem dX4_readProduct_65 : decode cX4_readProduct 65 = .ok (.invokevirtual 44, 3) := by decide +kernel
theorem dX4_readProduct_68 : decode cX4_readProduct 68 = .ok (.aload_n 0, 1) := by decide +kernel
theorem dX4_readProduct_69 : decode cX4_readProduct 69 = .ok (.invokevirtual 36, 3) := by decide +kernel
theorem dX4_readProduct_72 : decode cX4_readProduct 72 = .ok (.istore_n 3, 1) := by decide +kernel
theorem dX4_readProduct_73 : decode cX4_readProduct 73 = .ok (.iinc 4 1, 3) := by decide +kernel
theorem dX4_readProduct_76 : decode cX4_readProduct 76 = .ok (.goto (-62), 3) := by decide +kernel
theorem dX4_readProduct_79 : decode cX4_readProduct 79 = .ok (.iload_n 2, 1) := by decide +kernel
theorem dX4_readProduct_80 : decode cX4_readProduct 80 = .ok (.ireturn, 1) := by decide +kernel
theorem dX4_readOperand_0 : decode cX4_readOperand 0 = .ok (.aload_n 0, 1) := by decide +kernel
theorem dX4_readOperand_1 : decode cX4_readOperand 1 = .ok (.invokevirtual 36, 3) := by decide +kernel
theorem dX4_readOperand_4 : decode cX4_readOperand 4 = .ok (.istore_n 2, 1) := by decide +kernel
theorem dX4_readOperand_5 : decode cX4_readOperand 5 = .ok (.iload_n 2, 1) := by decide +kernel
theorem dX4_readOperand_6 : decode cX4_readOperand 6 = .ok (.invokestatic 67, 3) := by decide +kernel
theorem dX4_readOperand_9 : decode cX4_readOperand 9 = .ok (.ifCond .eq 9, 3) := by decide +kernel
theorem dX4_readOperand_12 : decode cX4_readOperand 12 = .ok (.aload_n 0, 1) := by decide +kernel
theorem dX4_readOperand_13 : decode cX4_readOperand 13 = .ok (.invokevirtual 70, 3) := by decide +kernel
theorem dX4_readOperand_16 : decode cX4_readOperand 16 = .ok (.iconst 1, 1) := by decide +kernel
theorem dX4_readOperand_17 : decode cX4_readOperand 17 = .ok (.ireturn, 1) := by decide +kernel
theorem dX4_readOperand_18 : decode cX4_readOperand 18 = .ok (.iload_n 2, 1) := by decide +kernel
theorem dX4_readOperand_19 : decode cX4_readOperand 19 = .ok (.ifCond .ge 7, 3) := by decide +kernel
theorem dX4_readOperand_22 : decode cX4_readOperand 22 = .ok (.iconst (-1), 1) := by decide +kernel
theorem dX4_readOperand_23 : decode cX4_readOperand 23 = .ok (.goto 10, 3) := by decide +kernel
theorem dX4_readOperand_26 : decode cX4_readOperand 26 = .ok (.ldc 73, 2) := by decide +kernel
theorem dX4_readOperand_28 : decode cX4_readOperand 28 = .ok (.iload_n 2, 1) := by decide +kernel
theorem dX4_readOperand_29 : decode cX4_readOperand 29 = .ok (.i2c, 1) := by decide +kernel
theorem dX4_readOperand_30 : decode cX4_readOperand 30 = .ok (.invokevirtual 75, 3) := by decide +kernel
theorem dX4_readOperand_33 : decode cX4_readOperand 33 = .ok (.istore_n 3, 1) := by decide +kernel
theorem dX4_readOperand_34 : decode cX4_readOperand 34 = .ok (.iload_n 3, 1) := by decide +kernel
theorem dX4_readOperand_35 : decode cX4_readOperand 35 = .ok (.ifCond .lt 24, 3) := by decide +kernel
theorem dX4_readOperand_38 : decode cX4_readOperand 38 = .ok (.aload_n 0, 1) := by decide +kernel
theorem dX4_readOperand_39 : decode cX4_readOperand 39 = .ok (.dup, 1) := by decide +kernel
theorem dX4_readOperand_40 : decode cX4_readOperand 40 = .ok (.getfield 29, 3) := by decide +kernel
theorem dX4_readOperand_43 : decode cX4_readOperand 43 = .ok (.iconst 1, 1) := by decide +kernel
theorem dX4_readOperand_44 : decode cX4_readOperand 44 = .ok (.iadd, 1) := by decide +kernel
theorem dX4_readOperand_45 : decode cX4_readOperand 45 = .ok (.putfield 29, 3) := by decide +kernel
theorem dX4_readOperand_48 : decode cX4_readOperand 48 = .ok (.aload_n 0, 1) := by decide +kernel
theorem dX4_readOperand_49 : decode cX4_readOperand 49 = .ok (.getfield 18, 3) := by decide +kernel
theorem dX4_readOperand_52 : decode cX4_readOperand 52 = .ok (.iconst 1, 1) := by decide +kernel
theorem dX4_readOperand_53 : decode cX4_readOperand 53 = .ok (.iload_n 3, 1) := by decide +kernel
theorem dX4_readOperand_54 : decode cX4_readOperand 54 = .ok (.invokevirtual 44, 3) := by decide +kernel
theorem dX4_readOperand_57 : decode cX4_readOperand 57 = .ok (.iconst 1, 1) := by decide +kernel
theorem dX4_readOperand_58 : decode cX4_readOperand 58 = .ok (.ireturn, 1) := by decide +kernel
theorem dX4_readOperand_59 : decode cX4_readOperand 59 = .ok (.iload_n 1, 1) := by decide +kernel
theorem dX4_readOperand_60 : decode cX4_readOperand 60 = .ok (.bipush 6, 2) := by decide +kernel
theorem dX4_readOperand_62 : decode cX4_readOperand 62 = .ok (.if_icmp .ge 18, 3) := by decide +kernel
theorem dX4_readOperand_65 : decode cX4_readOperand 65 = .ok (.aload_n 0, 1) := by decide +kernel
theorem dX4_readOperand_66 : decode cX4_readOperand 66 = .ok (.iload_n 2, 1) := by decide +kernel
theorem dX4_readOperand_67 : decode cX4_readOperand 67 = .ok (.iload_n 1, 1) := by decide +kernel
theorem dX4_readOperand_68 : decode cX4_readOperand 68 = .ok (.iconst 1, 1) := by decide +kernel
theorem dX4_readOperand_69 : decode cX4_readOperand 69 = .ok (.iadd, 1) := by decide +kernel
theorem dX4_readOperand_70 : decode cX4_readOperand 70 = .ok (.invokevirtual 81, 3) := by decide +kernel
theorem dX4_readOperand_73 : decode cX4_readOperand 73 = .ok (.ifCond .eq 7, 3) := by decide +kernel
theorem dX4_readOperand_76 : decode cX4_readOperand 76 = .ok (.iconst 1, 1) := by decide +kernel
theorem dX4_readOperand_77 : decode cX4_readOperand 77 = .ok (.goto 4, 3) := by decide +kernel
theorem dX4_readOperand_80 : decode cX4_readOperand 80 = .ok (.iconst 0, 1) := by decide +kernel
theorem dX4_readOperand_81 : decode cX4_readOperand 81 = .ok (.ireturn, 1) := by decide +kernel
theorem dX4_readOpened_0 : decode cX4_readOpened 0 = .ok (.iload_n 1, 1) := by decide +kernel
theorem dX4_readOpened_1 : decode cX4_readOpened 1 = .ok (.bipush 40, 2) := by decide +kernel
theorem dX4_readOpened_3 : decode cX4_readOpened 3 = .ok (.if_icmp .ne 44, 3) := by decide +kernel
theorem dX4_readOpened_6 : decode cX4_readOpened 6 = .ok (.aload_n 0, 1) := by decide +kernel
theorem dX4_readOpened_7 : decode cX4_readOpened 7 = .ok (.dup, 1) := by decide +kernel
theorem dX4_readOpened_8 : decode cX4_readOpened 8 = .ok (.getfield 29, 3) := by decide +kernel
theorem dX4_readOpened_11 : decode cX4_readOpened 11 = .ok (.iconst 1, 1) := by decide +kernel
theorem dX4_readOpened_12 : decode cX4_readOpened 12 = .ok (.iadd, 1) := by decide +kernel
theorem dX4_readOpened_13 : decode cX4_readOpened 13 = .ok (.putfield 29, 3) := by decide +kernel
theorem dX4_readOpened_16 : decode cX4_readOpened 16 = .ok (.aload_n 0, 1) := by decide +kernel
theorem dX4_readOpened_17 : decode cX4_readOpened 17 = .ok (.iload_n 2, 1) := by decide +kernel
theorem dX4_readOpened_18 : decode cX4_readOpened 18 = .ok (.invokevirtual 40, 3) := by decide +kernel
theorem dX4_readOpened_21 : decode cX4_readOpened 21 = .ok (.ifCond .eq 12, 3) := by decide +kernel
theorem dX4_readOpened_24 : decode cX4_readOpened 24 = .ok (.aload_n 0, 1) := by decide +kernel
theorem dX4_readOpened_25 : decode cX4_readOpened 25 = .ok (.invokevirtual 36, 3) := by decide +kernel
theorem dX4_readOpened_28 : decode cX4_readOpened 28 = .ok (.bipush 41, 2) := by decide +kernel
theorem dX4_readOpened_30 : decode cX4_readOpened 30 = .ok (.if_icmp .eq 5, 3) := by decide +kernel
theorem dX4_readOpened_33 : decode cX4_readOpened 33 = .ok (.iconst 0, 1) := by decide +kernel
theorem dX4_readOpened_34 : decode cX4_readOpened 34 = .ok (.ireturn, 1) := by decide +kernel
theorem dX4_readOpened_35 : decode cX4_readOpened 35 = .ok (.aload_n 0, 1) := by decide +kernel
theorem dX4_readOpened_36 : decode cX4_readOpened 36 = .ok (.dup, 1) := by decide +kernel
theorem dX4_readOpened_37 : decode cX4_readOpened 37 = .ok (.getfield 29, 3) := by decide +kernel
theorem dX4_readOpened_40 : decode cX4_readOpened 40 = .ok (.iconst 1, 1) := by decide +kernel
theorem dX4_readOpened_41 : decode cX4_readOpened 41 = .ok (.iadd, 1) := by decide +kernel
theorem dX4_readOpened_42 : decode cX4_readOpened 42 = .ok (.putfield 29, 3) := by decide +kernel
theorem dX4_readOpened_45 : decode cX4_readOpened 45 = .ok (.iconst 1, 1) := by decide +kernel
theorem dX4_readOpened_46 : decode cX4_readOpened 46 = .ok (.ireturn, 1) := by decide +kernel
theorem dX4_readOpened_47 : decode cX4_readOpened 47 = .ok (.iload_n 1, 1) := by decide +kernel
theorem dX4_readOpened_48 : decode cX4_readOpened 48 = .ok (.bipush 33, 2) := by decide +kernel
theorem dX4_readOpened_50 : decode cX4_readOpened 50 = .ok (.if_icmp .eq 9, 3) := by decide +kernel
theorem dX4_readOpened_53 : decode cX4_readOpened 53 = .ok (.iload_n 1, 1) := by decide +kernel
theorem dX4_readOpened_54 : decode cX4_readOpened 54 = .ok (.bipush 45, 2) := by decide +kernel
theorem dX4_readOpened_56 : decode cX4_readOpened 56 = .ok (.if_icmp .ne 31, 3) := by decide +kernel
theorem dX4_readOpened_59 : decode cX4_readOpened 59 = .ok (.aload_n 0, 1) := by decide +kernel
theorem dX4_readOpened_60 : decode cX4_readOpened 60 = .ok (.dup, 1) := by decide +kernel
theorem dX4_readOpened_61 : decode cX4_readOpened 61 = .ok (.getfield 29, 3) := by decide +kernel
theorem dX4_readOpened_64 : decode cX4_readOpened 64 = .ok (.iconst 1, 1) := by decide +kernel
theorem dX4_readOpened_65 : decode cX4_readOpened 65 = .ok (.iadd, 1) := by decide +kernel
theorem dX4_readOpened_66 : decode cX4_readOpened 66 = .ok (.putfield 29, 3) := by decide +kernel
theorem dX4_readOpened_69 : decode cX4_readOpened 69 = .ok (.aload_n 0, 1) := by decide +kernel
theorem dX4_readOpened_70 : decode cX4_readOpened 70 = .ok (.iload_n 2, 1) := by decide +kernel
theorem dX4_readOpened_71 : decode cX4_readOpened 71 = .ok (.invokevirtual 64, 3) := by decide +kernel
theorem dX4_readOpened_74 : decode cX4_readOpened 74 = .ok (.istore_n 3, 1) := by decide +kernel
theorem dX4_readOpened_75 : decode cX4_readOpened 75 = .ok (.aload_n 0, 1) := by decide +kernel
theorem dX4_readOpened_76 : decode cX4_readOpened 76 = .ok (.getfield 18, 3) := by decide +kernel
theorem dX4_readOpened_79 : decode cX4_readOpened 79 = .ok (.iload_n 1, 1) := by decide +kernel
theorem dX4_readOpened_80 : decode cX4_readOpened 80 = .ok (.ineg, 1) := by decide +kernel
theorem dX4_readOpened_81 : decode cX4_readOpened 81 = .ok (.iconst 0, 1) := by decide +kernel
theorem dX4_readOpened_82 : decode cX4_readOpened 82 = .ok (.invokevirtual 44, 3) := by decide +kernel
theorem dX4_readOpened_85 : decode cX4_readOpened 85 = .ok (.iload_n 3, 1) := by decide +kernel
theorem dX4_readOpened_86 : decode cX4_readOpened 86 = .ok (.ireturn, 1) := by decide +kernel
theorem dX4_readOpened_87 : decode cX4_readOpened 87 = .ok (.iconst 0, 1) := by decide +kernel
theorem dX4_readOpened_88 : decode cX4_readOpened 88 = .ok (.ireturn, 1) := by decide +kernel
theorem dX4_readNumber_0 : decode cX4_readNumber 0 = .ok (.iconst 0, 1) := by decide +kernel
theorem dX4_readNumber_1 : decode cX4_readNumber 1 = .ok (.istore_n 1, 1) := by decide +kernel
theorem dX4_readNumber_2 : decode cX4_readNumber 2 = .ok (.iconst 0, 1) := by decide +kernel
theorem dX4_readNumber_3 : decode cX4_readNumber 3 = .ok (.istore_n 2, 1) := by decide +kernel
theorem dX4_readNumber_4 : decode cX4_readNumber 4 = .ok (.iload_n 2, 1) := by decide +kernel
theorem dX4_readNumber_5 : decode cX4_readNumber 5 = .ok (.iconst 4, 1) := by decide +kernel
theorem dX4_readNumber_6 : decode cX4_readNumber 6 = .ok (.if_icmp .ge 42, 3) := by decide +kernel
theorem dX4_readNumber_9 : decode cX4_readNumber 9 = .ok (.aload_n 0, 1) := by decide +kernel
theorem dX4_readNumber_10 : decode cX4_readNumber 10 = .ok (.invokevirtual 36, 3) := by decide +kernel
theorem dX4_readNumber_13 : decode cX4_readNumber 13 = .ok (.invokestatic 67, 3) := by decide +kernel
theorem dX4_readNumber_16 : decode cX4_readNumber 16 = .ok (.ifCond .eq 32, 3) := by decide +kernel
theorem dX4_readNumber_19 : decode cX4_readNumber 19 = .ok (.iload_n 1, 1) := by decide +kernel
theorem dX4_readNumber_20 : decode cX4_readNumber 20 = .ok (.bipush 10, 2) := by decide +kernel
theorem dX4_readNumber_22 : decode cX4_readNumber 22 = .ok (.imul, 1) := by decide +kernel
theorem dX4_readNumber_23 : decode cX4_readNumber 23 = .ok (.aload_n 0, 1) := by decide +kernel
theorem dX4_readNumber_24 : decode cX4_readNumber 24 = .ok (.invokevirtual 36, 3) := by decide +kernel
theorem dX4_readNumber_27 : decode cX4_readNumber 27 = .ok (.iadd, 1) := by decide +kernel
theorem dX4_readNumber_28 : decode cX4_readNumber 28 = .ok (.bipush 48, 2) := by decide +kernel
theorem dX4_readNumber_30 : decode cX4_readNumber 30 = .ok (.isub, 1) := by decide +kernel
theorem dX4_readNumber_31 : decode cX4_readNumber 31 = .ok (.istore_n 1, 1) := by decide +kernel
theorem dX4_readNumber_32 : decode cX4_readNumber 32 = .ok (.aload_n 0, 1) := by decide +kernel
theorem dX4_readNumber_33 : decode cX4_readNumber 33 = .ok (.dup, 1) := by decide +kernel
theorem dX4_readNumber_34 : decode cX4_readNumber 34 = .ok (.getfield 29, 3) := by decide +kernel
theorem dX4_readNumber_37 : decode cX4_readNumber 37 = .ok (.iconst 1, 1) := by decide +kernel
theorem dX4_readNumber_38 : decode cX4_readNumber 38 = .ok (.iadd, 1) := by decide +kernel
theorem dX4_readNumber_39 : decode cX4_readNumber 39 = .ok (.putfield 29, 3) := by decide +kernel
theorem dX4_readNumber_42 : decode cX4_readNumber 42 = .ok (.iinc 2 1, 3) := by decide +kernel
theorem dX4_readNumber_45 : decode cX4_readNumber 45 = .ok (.goto (-41), 3) := by decide +kernel
theorem dX4_readNumber_48 : decode cX4_readNumber 48 = .ok (.aload_n 0, 1) := by decide +kernel
theorem dX4_readNumber_49 : decode cX4_readNumber 49 = .ok (.getfield 18, 3) := by decide +kernel
theorem dX4_readNumber_52 : decode cX4_readNumber 52 = .ok (.iconst 0, 1) := by decide +kernel
theorem dX4_readNumber_53 : decode cX4_readNumber 53 = .ok (.iload_n 1, 1) := by decide +kernel
theorem dX4_readNumber_54 : decode cX4_readNumber 54 = .ok (.invokevirtual 44, 3) := by decide +kernel
theorem dX4_readNumber_57 : decode cX4_readNumber 57 = .ok (.return_, 1) := by decide +kernel
theorem dX4_isDigit_0 : decode cX4_isDigit 0 = .ok (.iload_n 0, 1) := by decide +kernel
theorem dX4_isDigit_1 : decode cX4_isDigit 1 = .ok (.bipush 48, 2) := by decide +kernel
theorem dX4_isDigit_3 : decode cX4_isDigit 3 = .ok (.if_icmp .lt 13, 3) := by decide +kernel
theorem dX4_isDigit_6 : decode cX4_isDigit 6 = .ok (.iload_n 0, 1) := by decide +kernel
theorem dX4_isDigit_7 : decode cX4_isDigit 7 = .ok (.bipush 57, 2) := by decide +kernel
theorem dX4_isDigit_9 : decode cX4_isDigit 9 = .ok (.if_icmp .gt 7, 3) := by decide +kernel
theorem dX4_isDigit_12 : decode cX4_isDigit 12 = .ok (.iconst 1, 1) := by decide +kernel
theorem dX4_isDigit_13 : decode cX4_isDigit 13 = .ok (.goto 4, 3) := by decide +kernel
theorem dX4_isDigit_16 : decode cX4_isDigit 16 = .ok (.iconst 0, 1) := by decide +kernel
theorem dX4_isDigit_17 : decode cX4_isDigit 17 = .ok (.ireturn, 1) := by decide +kernel
theorem dX5_init_0 : decode cX5_init 0 = .ok (.aload_n 0, 1) := by decide +kernel
theorem dX5_init_1 : decode cX5_init 1 = .ok (.invokespecial 3, 3) := by decide +kernel
theorem dX5_init_4 : decode cX5_init 4 = .ok (.aload_n 0, 1) := by decide +kernel
theorem dX5_init_5 : decode cX5_init 5 = .ok (.iconst 3, 1) := by decide +kernel
theorem dX5_init_6 : decode cX5_init 6 = .ok (.putfield 9, 3) := by decide +kernel
theorem dX5_init_9 : decode cX5_init 9 = .ok (.aload_n 0, 1) := by decide +kernel
theorem dX5_init_10 : decode cX5_init 10 = .ok (.bipush 56, 2) := by decide +kernel
theorem dX5_init_12 : decode cX5_init 12 = .ok (.newarray .int, 2) := by decide +kernel
theorem dX5_init_14 : decode cX5_init 14 = .ok (.putfield 15, 3) := by decide +kernel
theorem dX5_init_17 : decode cX5_init 17 = .ok (.aload_n 0, 1) := by decide +kernel
theorem dX5_init_18 : decode cX5_init 18 = .ok (.bipush 7, 2) := by decide +kernel
theorem dX5_init_20 : decode cX5_init 20 = .ok (.newarray .int, 2) := by decide +kernel
theorem dX5_init_22 : decode cX5_init 22 = .ok (.putfield 19, 3) := by decide +kernel
theorem dX5_init_25 : decode cX5_init 25 = .ok (.aload_n 0, 1) := by decide +kernel
theorem dX5_init_26 : decode cX5_init 26 = .ok (.bipush 7, 2) := by decide +kernel
theorem dX5_init_28 : decode cX5_init 28 = .ok (.newarray .int, 2) := by decide +kernel
theorem dX5_init_30 : decode cX5_init 30 = .ok (.putfield 22, 3) := by decide +kernel
theorem dX5_init_33 : decode cX5_init 33 = .ok (.return_, 1) := by decide +kernel
theorem dX5_newcomer_0 : decode cX5_newcomer 0 = .ok (.aload_n 0, 1) := by decide +kernel
theorem dX5_newcomer_1 : decode cX5_newcomer 1 = .ok (.getfield 25, 3) := by decide +kernel
theorem dX5_newcomer_4 : decode cX5_newcomer 4 = .ok (.istore_n 2, 1) := by decide +kernel
theorem dX5_newcomer_5 : decode cX5_newcomer 5 = .ok (.aload_n 0, 1) := by decide +kernel
theorem dX5_newcomer_6 : decode cX5_newcomer 6 = .ok (.getfield 19, 3) := by decide +kernel
theorem dX5_newcomer_9 : decode cX5_newcomer 9 = .ok (.iload_n 2, 1) := by decide +kernel
theorem dX5_newcomer_10 : decode cX5_newcomer 10 = .ok (.iload_n 1, 1) := by decide +kernel
theorem dX5_newcomer_11 : decode cX5_newcomer 11 = .ok (.iastore, 1) := by decide +kernel
theorem dX5_newcomer_12 : decode cX5_newcomer 12 = .ok (.aload_n 0, 1) := by decide +kernel
theorem dX5_newcomer_13 : decode cX5_newcomer 13 = .ok (.getfield 22, 3) := by decide +kernel
theorem dX5_newcomer_16 : decode cX5_newcomer 16 = .ok (.iload_n 2, 1) := by decide +kernel
theorem dX5_newcomer_17 : decode cX5_newcomer 17 = .ok (.iconst 0, 1) := by decide +kernel
theorem dX5_newcomer_18 : decode cX5_newcomer 18 = .ok (.iastore, 1) := by decide +kernel
theorem dX5_newcomer_19 : decode cX5_newcomer 19 = .ok (.aload_n 0, 1) := by decide +kernel
theorem dX5_newcomer_20 : decode cX5_newcomer 20 = .ok (.dup, 1) := by decide +kernel
theorem dX5_newcomer_21 : decode cX5_newcomer 21 = .ok (.getfield 25, 3) := by decide +kernel
theorem dX5_newcomer_24 : decode cX5_newcomer 24 = .ok (.iconst 1, 1) := by decide +kernel
theorem dX5_newcomer_25 : decode cX5_newcomer 25 = .ok (.iadd, 1) := by decide +kernel
theorem dX5_newcomer_26 : decode cX5_newcomer 26 = .ok (.putfield 25, 3) := by decide +kernel
theorem dX5_newcomer_29 : decode cX5_newcomer 29 = .ok (.iload_n 2, 1) := by decide +kernel
theorem dX5_newcomer_30 : decode cX5_newcomer 30 = .ok (.ireturn, 1) := by decide +kernel
theorem dX5_copyFrom_0 : decode cX5_copyFrom 0 = .ok (.aload_n 0, 1) := by decide +kernel
theorem dX5_copyFrom_1 : decode cX5_copyFrom 1 = .ok (.aload_n 1, 1) := by decide +kernel
theorem dX5_copyFrom_2 : decode cX5_copyFrom 2 = .ok (.getfield 25, 3) := by decide +kernel
theorem dX5_copyFrom_5 : decode cX5_copyFrom 5 = .ok (.putfield 25, 3) := by decide +kernel
theorem dX5_copyFrom_8 : decode cX5_copyFrom 8 = .ok (.aload_n 0, 1) := by decide +kernel
theorem dX5_copyFrom_9 : decode cX5_copyFrom 9 = .ok (.aload_n 1, 1) := by decide +kernel
theorem dX5_copyFrom_10 : decode cX5_copyFrom 10 = .ok (.getfield 9, 3) := by decide +kernel
theorem dX5_copyFrom_13 : decode cX5_copyFrom 13 = .ok (.putfield 9, 3) := by decide +kernel
theorem dX5_copyFrom_16 : decode cX5_copyFrom 16 = .ok (.aload_n 1, 1) := by decide +kernel
theorem dX5_copyFrom_17 : decode cX5_copyFrom 17 = .ok (.getfield 15, 3) := by decide +kernel
theorem dX5_copyFrom_20 : decode cX5_copyFrom 20 = .ok (.iconst 0, 1) := by decide +kernel
theorem dX5_copyFrom_21 : decode cX5_copyFrom 21 = .ok (.aload_n 0, 1) := by decide +kernel
theorem dX5_copyFrom_22 : decode cX5_copyFrom 22 = .ok (.getfield 15, 3) := by decide +kernel
theorem dX5_copyFrom_25 : decode cX5_copyFrom 25 = .ok (.iconst 0, 1) := by decide +kernel
theorem dX5_copyFrom_26 : decode cX5_copyFrom 26 = .ok (.aload_n 0, 1) := by decide +kernel
theorem dX5_copyFrom_27 : decode cX5_copyFrom 27 = .ok (.getfield 15, 3) := by decide +kernel
theorem dX5_copyFrom_30 : decode cX5_copyFrom 30 = .ok (.arraylength, 1) := by decide +kernel
theorem dX5_copyFrom_31 : decode cX5_copyFrom 31 = .ok (.invokestatic 28, 3) := by decide +kernel
theorem dX5_copyFrom_34 : decode cX5_copyFrom 34 = .ok (.aload_n 1, 1) := by decide +kernel
theorem dX5_copyFrom_35 : decode cX5_copyFrom 35 = .ok (.getfield 19, 3) := by decide +kernel
theorem dX5_copyFrom_38 : decode cX5_copyFrom 38 = .ok (.iconst 0, 1) := by decide +kernel
theorem dX5_copyFrom_39 : decode cX5_copyFrom 39 = .ok (.aload_n 0, 1) := by decide +kernel
theorem dX5_copyFrom_40 : decode cX5_copyFrom 40 = .ok (.getfield 19, 3) := by decide +kernel
theorem dX5_copyFrom_43 : decode cX5_copyFrom 43 = .ok (.iconst 0, 1) := by decide +kernel
theorem dX5_copyFrom_44 : decode cX5_copyFrom 44 = .ok (.aload_n 0, 1) := by decide +kernel
theorem dX5_copyFrom_45 : decode cX5_copyFrom 45 = .ok (.getfield 19, 3) := by decide +kernel
theorem dX5_copyFrom_48 : decode cX5_copyFrom 48 = .ok (.arraylength, 1) := by decide +kernel
theorem dX5_copyFrom_49 : decode cX5_copyFrom 49 = .ok (.invokestatic 28, 3) := by decide +kernel
theorem dX5_copyFrom_52 : decode cX5_copyFrom 52 = .ok (.aload_n 1, 1) := by decide +kernel
theorem dX5_copyFrom_53 : decode cX5_copyFrom 53 = .ok (.getfield 22, 3) := by decide +kernel
theorem dX5_copyFrom_56 : decode cX5_copyFrom 56 = .ok (.iconst 0, 1) := by decide +kernel
theorem dX5_copyFrom_57 : decode cX5_copyFrom 57 = .ok (.aload_n 0, 1) := by decide +kernel
theorem dX5_copyFrom_58 : decode cX5_copyFrom 58 = .ok (.getfield 22, 3) := by decide +kernel
theorem dX5_copyFrom_61 : decode cX5_copyFrom 61 = .ok (.iconst 0, 1) := by decide +kernel
theorem dX5_copyFrom_62 : decode cX5_copyFrom 62 = .ok (.aload_n 0, 1) := by decide +kernel
theorem dX5_copyFrom_63 : decode cX5_copyFrom 63 = .ok (.getfield 22, 3) := by decide +kernel
theorem dX5_copyFrom_66 : decode cX5_copyFrom 66 = .ok (.arraylength, 1) := by decide +kernel
theorem dX5_copyFrom_67 : decode cX5_copyFrom 67 = .ok (.invokestatic 28, 3) := by decide +kernel
theorem dX5_copyFrom_70 : decode cX5_copyFrom 70 = .ok (.return_, 1) := by decide +kernel
theorem dX5_layBack_0 : decode cX5_layBack 0 = .ok (.iconst 0, 1) := by decide +kernel
theorem dX5_layBack_1 : decode cX5_layBack 1 = .ok (.istore_n 2, 1) := by decide +kernel
theorem dX5_layBack_2 : decode cX5_layBack 2 = .ok (.iload_n 2, 1) := by decide +kernel
theorem dX5_layBack_3 : decode cX5_layBack 3 = .ok (.aload_n 0, 1) := by decide +kernel
theorem dX5_layBack_4 : decode cX5_layBack 4 = .ok (.getfield 25, 3) := by decide +kernel
theorem dX5_layBack_7 : decode cX5_layBack 7 = .ok (.if_icmp .ge 72, 3) := by decide +kernel
theorem dX5_layBack_10 : decode cX5_layBack 10 = .ok (.iload_n 2, 1) := by decide +kernel
theorem dX5_layBack_11 : decode cX5_layBack 11 = .ok (.aload_n 1, 1) := by decide +kernel
theorem dX5_layBack_12 : decode cX5_layBack 12 = .ok (.getfield 25, 3) := by decide +kernel
theorem dX5_layBack_15 : decode cX5_layBack 15 = .ok (.if_icmp .ge 51, 3) := by decide +kernel
theorem dX5_layBack_18 : decode cX5_layBack 18 = .ok (.aload_n 1, 1) := by decide +kernel
theorem dX5_layBack_19 : decode cX5_layBack 19 = .ok (.getfield 15, 3) := by decide +kernel
theorem dX5_layBack_22 : decode cX5_layBack 22 = .ok (.iload_n 2, 1) := by decide +kernel
theorem dX5_layBack_23 : decode cX5_layBack 23 = .ok (.bipush 8, 2) := by decide +kernel
theorem dX5_layBack_25 : decode cX5_layBack 25 = .ok (.imul, 1) := by decide +kernel
theorem dX5_layBack_26 : decode cX5_layBack 26 = .ok (.aload_n 0, 1) := by decide +kernel
theorem dX5_layBack_27 : decode cX5_layBack 27 = .ok (.getfield 15, 3) := by decide +kernel
theorem dX5_layBack_30 : decode cX5_layBack 30 = .ok (.iload_n 2, 1) := by decide +kernel
theorem dX5_layBack_31 : decode cX5_layBack 31 = .ok (.bipush 8, 2) := by decide +kernel
theorem dX5_layBack_33 : decode cX5_layBack 33 = .ok (.imul, 1) := by decide +kernel
theorem dX5_layBack_34 : decode cX5_layBack 34 = .ok (.bipush 8, 2) := by decide +kernel
theorem dX5_layBack_36 : decode cX5_layBack 36 = .ok (.invokestatic 28, 3) := by decide +kernel
theorem dX5_layBack_39 : decode cX5_layBack 39 = .ok (.aload_n 0, 1) := by decide +kernel
theorem dX5_layBack_40 : decode cX5_layBack 40 = .ok (.getfield 19, 3) := by decide +kernel
theorem dX5_layBack_43 : decode cX5_layBack 43 = .ok (.iload_n 2, 1) := by decide +kernel
theorem dX5_layBack_44 : decode cX5_layBack 44 = .ok (.aload_n 1, 1) := by decide +kernel
theorem dX5_layBack_45 : decode cX5_layBack 45 = .ok (.getfield 19, 3) := by decide +kernel
theorem dX5_layBack_48 : decode cX5_layBack 48 = .ok (.iload_n 2, 1) := by decide +kernel
theorem dX5_layBack_49 : decode cX5_layBack 49 = .ok (.iaload, 1) := by decide +kernel
theorem dX5_layBack_50 : decode cX5_layBack 50 = .ok (.iastore, 1) := by decide +kernel
theorem dX5_layBack_51 : decode cX5_layBack 51 = .ok (.aload_n 0, 1) := by decide +kernel
theorem dX5_layBack_52 : decode cX5_layBack 52 = .ok (.getfield 22, 3) := by decide +kernel
theorem dX5_layBack_55 : decode cX5_layBack 55 = .ok (.iload_n 2, 1) := by decide +kernel
theorem dX5_layBack_56 : decode cX5_layBack 56 = .ok (.aload_n 1, 1) := by decide +kernel
theorem dX5_layBack_57 : decode cX5_layBack 57 = .ok (.getfield 22, 3) := by decide +kernel
theorem dX5_layBack_60 : decode cX5_layBack 60 = .ok (.iload_n 2, 1) := by decide +kernel
theorem dX5_layBack_61 : decode cX5_layBack 61 = .ok (.iaload, 1) := by decide +kernel
theorem dX5_layBack_62 : decode cX5_layBack 62 = .ok (.iastore, 1) := by decide +kernel
theorem dX5_layBack_63 : decode cX5_layBack 63 = .ok (.goto 10, 3) := by decide +kernel
theorem dX5_layBack_66 : decode cX5_layBack 66 = .ok (.aload_n 0, 1) := by decide +kernel
theorem dX5_layBack_67 : decode cX5_layBack 67 = .ok (.getfield 22, 3) := by decide +kernel
theorem dX5_layBack_70 : decode cX5_layBack 70 = .ok (.iload_n 2, 1) := by decide +kernel
theorem dX5_layBack_71 : decode cX5_layBack 71 = .ok (.iconst 0, 1) := by decide +kernel
theorem dX5_layBack_72 : decode cX5_layBack 72 = .ok (.iastore, 1) := by decide +kernel
theorem dX5_layBack_73 : decode cX5_layBack 73 = .ok (.iinc 2 1, 3) := by decide +kernel
theorem dX5_layBack_76 : decode cX5_layBack 76 = .ok (.goto (-74), 3) := by decide +kernel
theorem dX5_layBack_79 : decode cX5_layBack 79 = .ok (.return_, 1) := by decide +kernel
theorem dX5_flakesOf_0 : decode cX5_flakesOf 0 = .ok (.iconst 0, 1) := by decide +kernel
theorem dX5_flakesOf_1 : decode cX5_flakesOf 1 = .ok (.istore_n 2, 1) := by decide +kernel
theorem dX5_flakesOf_2 : decode cX5_flakesOf 2 = .ok (.iconst 0, 1) := by decide +kernel
theorem dX5_flakesOf_3 : decode cX5_flakesOf 3 = .ok (.istore_n 3, 1) := by decide +kernel
theorem dX5_flakesOf_4 : decode cX5_flakesOf 4 = .ok (.iload_n 3, 1) := by decide +kernel
theorem dX5_flakesOf_5 : decode cX5_flakesOf 5 = .ok (.bipush 8, 2) := by decide +kernel
theorem dX5_flakesOf_7 : decode cX5_flakesOf 7 = .ok (.if_icmp .ge 23, 3) := by decide +kernel
theorem dX5_flakesOf_10 : decode cX5_flakesOf 10 = .ok (.iload_n 2, 1) := by decide +kernel
theorem dX5_flakesOf_11 : decode cX5_flakesOf 11 = .ok (.aload_n 0, 1) := by decide +kernel
theorem dX5_flakesOf_12 : decode cX5_flakesOf 12 = .ok (.getfield 15, 3) := by decide +kernel
theorem dX5_flakesOf_15 : decode cX5_flakesOf 15 = .ok (.iload_n 1, 1) := by decide +kernel
theorem dX5_flakesOf_16 : decode cX5_flakesOf 16 = .ok (.bipush 8, 2) := by decide +kernel
theorem dX5_flakesOf_18 : decode cX5_flakesOf 18 = .ok (.imul, 1) := by decide +kernel
theorem dX5_flakesOf_19 : decode cX5_flakesOf 19 = .ok (.iload_n 3, 1) := by decide +kernel
theorem dX5_flakesOf_20 : decode cX5_flakesOf 20 = .ok (.iadd, 1) := by decide +kernel
theorem dX5_flakesOf_21 : decode cX5_flakesOf 21 = .ok (.iaload, 1) := by decide +kernel
theorem dX5_flakesOf_22 : decode cX5_flakesOf 22 = .ok (.iadd, 1) := by decide +kernel
theorem dX5_flakesOf_23 : decode cX5_flakesOf 23 = .ok (.istore_n 2, 1) := by decide +kernel
theorem dX5_flakesOf_24 : decode cX5_flakesOf 24 = .ok (.iinc 3 1, 3) := by decide +kernel
theorem dX5_flakesOf_27 : decode cX5_flakesOf 27 = .ok (.goto (-23), 3) := by decide +kernel
theorem dX5_flakesOf_30 : decode cX5_flakesOf 30 = .ok (.iload_n 2, 1) := by decide +kernel
theorem dX5_flakesOf_31 : decode cX5_flakesOf 31 = .ok (.ireturn, 1) := by decide +kernel
theorem dX5_flakesOfAll_0 : decode cX5_flakesOfAll 0 = .ok (.iconst 0, 1) := by decide +kernel
theorem dX5_flakesOfAll_1 : decode cX5_flakesOfAll 1 = .ok (.istore_n 1, 1) := by decide +kernel
theorem dX5_flakesOfAll_2 : decode cX5_flakesOfAll 2 = .ok (.iconst 0, 1) := by decide +kernel
theorem dX5_flakesOfAll_3 : decode cX5_flakesOfAll 3 = .ok (.istore_n 2, 1) := by decide +kernel
theorem dX5_flakesOfAll_4 : decode cX5_flakesOfAll 4 = .ok (.iload_n 2, 1) := by decide +kernel
theorem dX5_flakesOfAll_5 : decode cX5_flakesOfAll 5 = .ok (.aload_n 0, 1) := by decide +kernel
theorem dX5_flakesOfAll_6 : decode cX5_flakesOfAll 6 = .ok (.getfield 25, 3) := by decide +kernel
theorem dX5_flakesOfAll_9 : decode cX5_flakesOfAll 9 = .ok (.if_icmp .ge 17, 3) := by decide +kernel
theorem dX5_flakesOfAll_12 : decode cX5_flakesOfAll 12 = .ok (.iload_n 1, 1) := by decide +kernel
theorem dX5_flakesOfAll_13 : decode cX5_flakesOfAll 13 = .ok (.aload_n 0, 1) := by decide +kernel
theorem dX5_flakesOfAll_14 : decode cX5_flakesOfAll 14 = .ok (.iload_n 2, 1) := by decide +kernel
theorem dX5_flakesOfAll_15 : decode cX5_flakesOfAll 15 = .ok (.invokevirtual 34, 3) := by decide +kernel
theorem dX5_flakesOfAll_18 : decode cX5_flakesOfAll 18 = .ok (.iadd, 1) := by decide +kernel
theorem dX5_flakesOfAll_19 : decode cX5_flakesOfAll 19 = .ok (.istore_n 1, 1) := by decide +kernel
theorem dX5_flakesOfAll_20 : decode cX5_flakesOfAll 20 = .ok (.iinc 2 1, 3) := by decide +kernel
theorem dX5_flakesOfAll_23 : decode cX5_flakesOfAll 23 = .ok (.goto (-19), 3) := by decide +kernel
theorem dX5_flakesOfAll_26 : decode cX5_flakesOfAll 26 = .ok (.iload_n 1, 1) := by decide +kernel
theorem dX5_flakesOfAll_27 : decode cX5_flakesOfAll 27 = .ok (.ireturn, 1) := by decide +kernel
theorem dX5_worthOf_0 : decode cX5_worthOf 0 = .ok (.aload_n 0, 1) := by decide +kernel
theorem dX5_worthOf_1 : decode cX5_worthOf 1 = .ok (.iload_n 1, 1) := by decide +kernel
theorem dX5_worthOf_2 : decode cX5_worthOf 2 = .ok (.invokevirtual 34, 3) := by decide +kernel
theorem dX5_worthOf_5 : decode cX5_worthOf 5 = .ok (.aload_n 0, 1) := by decide +kernel
theorem dX5_worthOf_6 : decode cX5_worthOf 6 = .ok (.getfield 9, 3) := by decide +kernel
theorem dX5_worthOf_9 : decode cX5_worthOf 9 = .ok (.aload_n 0, 1) := by decide +kernel
theorem dX5_worthOf_10 : decode cX5_worthOf 10 = .ok (.getfield 19, 3) := by decide +kernel
theorem dX5_worthOf_13 : decode cX5_worthOf 13 = .ok (.iload_n 1, 1) := by decide +kernel
theorem dX5_worthOf_14 : decode cX5_worthOf 14 = .ok (.iaload, 1) := by decide +kernel
theorem dX5_worthOf_15 : decode cX5_worthOf 15 = .ok (.invokestatic 38, 3) := by decide +kernel
theorem dX5_worthOf_18 : decode cX5_worthOf 18 = .ok (.imul, 1) := by decide +kernel
theorem dX5_worthOf_19 : decode cX5_worthOf 19 = .ok (.iadd, 1) := by decide +kernel
theorem dX5_worthOf_20 : decode cX5_worthOf 20 = .ok (.ireturn, 1) := by decide +kernel
theorem dX5_worthTogether_0 : decode cX5_worthTogether 0 = .ok (.iconst 0, 1) := by decide +kernel
theorem dX5_worthTogether_1 : decode cX5_worthTogether 1 = .ok (.istore_n 2, 1) := by decide +kernel
theorem dX5_worthTogether_2 : decode cX5_worthTogether 2 = .ok (.iconst 0, 1) := by decide +kernel
theorem dX5_worthTogether_3 : decode cX5_worthTogether 3 = .ok (.istore_n 3, 1) := by decide +kernel
theorem dX5_worthTogether_4 : decode cX5_worthTogether 4 = .ok (.iload_n 3, 1) := by decide +kernel
theorem dX5_worthTogether_5 : decode cX5_worthTogether 5 = .ok (.aload_n 0, 1) := by decide +kernel
theorem dX5_worthTogether_6 : decode cX5_worthTogether 6 = .ok (.getfield 25, 3) := by decide +kernel
theorem dX5_worthTogether_9 : decode cX5_worthTogether 9 = .ok (.if_icmp .ge 26, 3) := by decide +kernel
theorem dX5_worthTogether_12 : decode cX5_worthTogether 12 = .ok (.iload_n 1, 1) := by decide +kernel
theorem dX5_worthTogether_13 : decode cX5_worthTogether 13 = .ok (.iload_n 3, 1) := by decide +kernel
theorem dX5_worthTogether_14 : decode cX5_worthTogether 14 = .ok (.ishr, 1) := by decide +kernel
theorem dX5_worthTogether_15 : decode cX5_worthTogether 15 = .ok (.iconst 1, 1) := by decide +kernel
theorem dX5_worthTogether_16 : decode cX5_worthTogether 16 = .ok (.iand, 1) := by decide +kernel
theorem dX5_worthTogether_17 : decode cX5_worthTogether 17 = .ok (.iconst 1, 1) := by decide +kernel
theorem dX5_worthTogether_18 : decode cX5_worthTogether 18 = .ok (.if_icmp .ne 11, 3) := by decide +kernel
theorem dX5_worthTogether_21 : decode cX5_worthTogether 21 = .ok (.iload_n 2, 1) := by decide +kernel
theorem dX5_worthTogether_22 : decode cX5_worthTogether 22 = .ok (.aload_n 0, 1) := by decide +kernel
theorem dX5_worthTogether_23 : decode cX5_worthTogether 23 = .ok (.iload_n 3, 1) := by decide +kernel
theorem dX5_worthTogether_24 : decode cX5_worthTogether 24 = .ok (.invokevirtual 43, 3) := by decide +kernel
theorem dX5_worthTogether_27 : decode cX5_worthTogether 27 = .ok (.iadd, 1) := by decide +kernel
theorem dX5_worthTogether_28 : decode cX5_worthTogether 28 = .ok (.istore_n 2, 1) := by decide +kernel
theorem dX5_worthTogether_29 : decode cX5_worthTogether 29 = .ok (.iinc 3 1, 3) := by decide +kernel
theorem dX5_worthTogether_32 : decode cX5_worthTogether 32 = .ok (.goto (-28), 3) := by decide +kernel
theorem dX5_worthTogether_35 : decode cX5_worthTogether 35 = .ok (.iload_n 2, 1) := by decide +kernel
theorem dX5_worthTogether_36 : decode cX5_worthTogether 36 = .ok (.ireturn, 1) := by decide +kernel
theorem dX5_isGone_0 : decode cX5_isGone 0 = .ok (.aload_n 0, 1) := by decide +kernel
theorem dX5_isGone_1 : decode cX5_isGone 1 = .ok (.iload_n 1, 1) := by decide +kernel
theorem dX5_isGone_2 : decode cX5_isGone 2 = .ok (.invokevirtual 34, 3) := by decide +kernel
theorem dX5_isGone_5 : decode cX5_isGone 5 = .ok (.ifCond .ne 7, 3) := by decide +kernel
theorem dX5_isGone_8 : decode cX5_isGone 8 = .ok (.iconst 1, 1) := by decide +kernel
theorem dX5_isGone_9 : decode cX5_isGone 9 = .ok (.goto 4, 3) := by decide +kernel
theorem dX5_isGone_12 : decode cX5_isGone 12 = .ok (.iconst 0, 1) := by decide +kernel
theorem dX5_isGone_13 : decode cX5_isGone 13 = .ok (.ireturn, 1) := by decide +kernel
theorem dX5_howManyGone_0 : decode cX5_howManyGone 0 = .ok (.iconst 0, 1) := by decide +kernel
theorem dX5_howManyGone_1 : decode cX5_howManyGone 1 = .ok (.istore_n 1, 1) := by decide +kernel
theorem dX5_howManyGone_2 : decode cX5_howManyGone 2 = .ok (.iconst 0, 1) := by decide +kernel
theorem dX5_howManyGone_3 : decode cX5_howManyGone 3 = .ok (.istore_n 2, 1) := by decide +kernel
theorem dX5_howManyGone_4 : decode cX5_howManyGone 4 = .ok (.iload_n 2, 1) := by decide +kernel
theorem dX5_howManyGone_5 : decode cX5_howManyGone 5 = .ok (.aload_n 0, 1) := by decide +kernel
theorem dX5_howManyGone_6 : decode cX5_howManyGone 6 = .ok (.getfield 25, 3) := by decide +kernel
theorem dX5_howManyGone_9 : decode cX5_howManyGone 9 = .ok (.if_icmp .ge 20, 3) := by decide +kernel
theorem dX5_howManyGone_12 : decode cX5_howManyGone 12 = .ok (.aload_n 0, 1) := by decide +kernel
theorem dX5_howManyGone_13 : decode cX5_howManyGone 13 = .ok (.iload_n 2, 1) := by decide +kernel
theorem dX5_howManyGone_14 : decode cX5_howManyGone 14 = .ok (.invokevirtual 46, 3) := by decide +kernel
theorem dX5_howManyGone_17 : decode cX5_howManyGone 17 = .ok (.ifCond .eq 6, 3) := by decide +kernel
theorem dX5_howManyGone_20 : decode cX5_howManyGone 20 = .ok (.iinc 1 1, 3) := by decide +kernel
theorem dX5_howManyGone_23 : decode cX5_howManyGone 23 = .ok (.iinc 2 1, 3) := by decide +kernel
theorem dX5_howManyGone_26 : decode cX5_howManyGone 26 = .ok (.goto (-22), 3) := by decide +kernel
theorem dX5_howManyGone_29 : decode cX5_howManyGone 29 = .ok (.iload_n 1, 1) := by decide +kernel
theorem dX5_howManyGone_30 : decode cX5_howManyGone 30 = .ok (.ireturn, 1) := by decide +kernel
theorem dX5_isCapped_0 : decode cX5_isCapped 0 = .ok (.aload_n 0, 1) := by decide +kernel
theorem dX5_isCapped_1 : decode cX5_isCapped 1 = .ok (.getfield 19, 3) := by decide +kernel
theorem dX5_isCapped_4 : decode cX5_isCapped 4 = .ok (.iload_n 1, 1) := by decide +kernel
theorem dX5_isCapped_5 : decode cX5_isCapped 5 = .ok (.iaload, 1) := by decide +kernel
theorem dX5_isCapped_6 : decode cX5_isCapped 6 = .ok (.iload_n 2, 1) := by decide +kernel
theorem dX5_isCapped_7 : decode cX5_isCapped 7 = .ok (.ishr, 1) := by decide +kernel
theorem dX5_isCapped_8 : decode cX5_isCapped 8 = .ok (.iconst 1, 1) := by decide +kernel
theorem dX5_isCapped_9 : decode cX5_isCapped 9 = .ok (.iand, 1) := by decide +kernel
theorem dX5_isCapped_10 : decode cX5_isCapped 10 = .ok (.iconst 1, 1) := by decide +kernel
theorem dX5_isCapped_11 : decode cX5_isCapped 11 = .ok (.if_icmp .ne 7, 3) := by decide +kernel
theorem dX5_isCapped_14 : decode cX5_isCapped 14 = .ok (.iconst 1, 1) := by decide +kernel
theorem dX5_isCapped_15 : decode cX5_isCapped 15 = .ok (.goto 4, 3) := by decide +kernel
theorem dX5_isCapped_18 : decode cX5_isCapped 18 = .ok (.iconst 0, 1) := by decide +kernel
theorem dX5_isCapped_19 : decode cX5_isCapped 19 = .ok (.ireturn, 1) := by decide +kernel
theorem dX5_looksLike_0 : decode cX5_looksLike 0 = .ok (.iconst 0, 1) := by decide +kernel
theorem dX5_looksLike_1 : decode cX5_looksLike 1 = .ok (.istore_n 3, 1) := by decide +kernel
theorem dX5_looksLike_2 : decode cX5_looksLike 2 = .ok (.iload_n 3, 1) := by decide +kernel
theorem dX5_looksLike_3 : decode cX5_looksLike 3 = .ok (.bipush 8, 2) := by decide +kernel
theorem dX5_looksLike_5 : decode cX5_looksLike 5 = .ok (.if_icmp .ge 33, 3) := by decide +kernel
theorem dX5_looksLike_8 : decode cX5_looksLike 8 = .ok (.aload_n 0, 1) := by decide +kernel
theorem dX5_looksLike_9 : decode cX5_looksLike 9 = .ok (.getfield 15, 3) := by decide +kernel
theorem dX5_looksLike_12 : decode cX5_looksLike 12 = .ok (.iload_n 1, 1) := by decide +kernel
theorem dX5_looksLike_13 : decode cX5_looksLike 13 = .ok (.bipush 8, 2) := by decide +kernel
theorem dX5_looksLike_15 : decode cX5_looksLike 15 = .ok (.imul, 1) := by decide +kernel
theorem dX5_looksLike_16 : decode cX5_looksLike 16 = .ok (.iload_n 3, 1) := by decide +kernel
theorem dX5_looksLike_17 : decode cX5_looksLike 17 = .ok (.iadd, 1) := by decide +kernel
theorem dX5_looksLike_18 : decode cX5_looksLike 18 = .ok (.iaload, 1) := by decide +kernel
theorem dX5_looksLike_19 : decode cX5_looksLike 19 = .ok (.i2l, 1) := by decide +kernel
theorem dX5_looksLike_20 : decode cX5_looksLike 20 = .ok (.aload_n 2, 1) := by decide +kernel
theorem dX5_looksLike_21 : decode cX5_looksLike 21 = .ok (.getfield 50, 3) := by decide +kernel
theorem dX5_looksLike_24 : decode cX5_looksLike 24 = .ok (.iload_n 3, 1) := by decide +kernel
theorem dX5_looksLike_25 : decode cX5_looksLike 25 = .ok (.laload, 1) := by decide +kernel
theorem dX5_looksLike_26 : decode cX5_looksLike 26 = .ok (.lcmp, 1) := by decide +kernel
theorem dX5_looksLike_27 : decode cX5_looksLike 27 = .ok (.ifCond .eq 5, 3) := by decide +kernel
theorem dX5_looksLike_30 : decode cX5_looksLike 30 = .ok (.iconst 0, 1) := by decide +kernel
theorem dX5_looksLike_31 : decode cX5_looksLike 31 = .ok (.ireturn, 1) := by decide +kernel
theorem dX5_looksLike_32 : decode cX5_looksLike 32 = .ok (.iinc 3 1, 3) := by decide +kernel
theorem dX5_looksLike_35 : decode cX5_looksLike 35 = .ok (.goto (-33), 3) := by decide +kernel
theorem dX5_looksLike_38 : decode cX5_looksLike 38 = .ok (.iconst 1, 1) := by decide +kernel
theorem dX5_looksLike_39 : decode cX5_looksLike 39 = .ok (.ireturn, 1) := by decide +kernel
theorem dX5_lie_0 : decode cX5_lie 0 = .ok (.aload_n 1, 1) := by decide +kernel
theorem dX5_lie_1 : decode cX5_lie 1 = .ok (.aload_n 0, 1) := by decide +kernel
theorem dX5_lie_2 : decode cX5_lie 2 = .ok (.iload_n 2, 1) := by decide +kernel
theorem dX5_lie_3 : decode cX5_lie 3 = .ok (.iload_n 3, 1) := by decide +kernel
theorem dX5_lie_4 : decode cX5_lie 4 = .ok (.iload 4, 2) := by decide +kernel
theorem dX5_lie_6 : decode cX5_lie 6 = .ok (.invokevirtual 56, 3) := by decide +kernel
theorem dX5_lie_9 : decode cX5_lie 9 = .ok (.istore 5, 2) := by decide +kernel
theorem dX5_lie_11 : decode cX5_lie 11 = .ok (.iconst 0, 1) := by decide +kernel
theorem dX5_lie_12 : decode cX5_lie 12 = .ok (.istore 6, 2) := by decide +kernel
theorem dX5_lie_14 : decode cX5_lie 14 = .ok (.iconst 0, 1) := by decide +kernel
theorem dX5_lie_15 : decode cX5_lie 15 = .ok (.istore 7, 2) := by decide +kernel
theorem dX5_lie_17 : decode cX5_lie 17 = .ok (.iload 7, 2) := by decide +kernel
theorem dX5_lie_19 : decode cX5_lie 19 = .ok (.bipush 8, 2) := by decide +kernel
theorem dX5_lie_21 : decode cX5_lie 21 = .ok (.if_icmp .ge 81, 3) := by decide +kernel
theorem dX5_lie_24 : decode cX5_lie 24 = .ok (.iload 6, 2) := by decide +kernel
theorem dX5_lie_26 : decode cX5_lie 26 = .ok (.iload 5, 2) := by decide +kernel
theorem dX5_lie_28 : decode cX5_lie 28 = .ok (.if_icmp .ge 74, 3) := by decide +kernel
theorem dX5_lie_31 : decode cX5_lie 31 = .ok (.iload 4, 2) := by decide +kernel
theorem dX5_lie_33 : decode cX5_lie 33 = .ok (.iload 7, 2) := by decide +kernel
theorem dX5_lie_35 : decode cX5_lie 35 = .ok (.iadd, 1) := by decide +kernel
theorem dX5_lie_36 : decode cX5_lie 36 = .ok (.bipush 8, 2) := by decide +kernel
theorem dX5_lie_38 : decode cX5_lie 38 = .ok (.irem, 1) := by decide +kernel
theorem dX5_lie_39 : decode cX5_lie 39 = .ok (.istore 8, 2) := by decide +kernel
theorem dX5_lie_41 : decode cX5_lie 41 = .ok (.aload_n 0, 1) := by decide +kernel
theorem dX5_lie_42 : decode cX5_lie 42 = .ok (.iload_n 2, 1) := by decide +kernel
theorem dX5_lie_43 : decode cX5_lie 43 = .ok (.iload 8, 2) := by decide +kernel
theorem dX5_lie_45 : decode cX5_lie 45 = .ok (.invokevirtual 62, 3) := by decide +kernel
theorem dX5_lie_48 : decode cX5_lie 48 = .ok (.ifCond .ne 48, 3) := by decide +kernel
theorem dX5_lie_51 : decode cX5_lie 51 = .ok (.iload_n 2, 1) := by decide +kernel
theorem dX5_lie_52 : decode cX5_lie 52 = .ok (.bipush 8, 2) := by decide +kernel
theorem dX5_lie_54 : decode cX5_lie 54 = .ok (.imul, 1) := by decide +kernel
theorem dX5_lie_55 : decode cX5_lie 55 = .ok (.iload 8, 2) := by decide +kernel
theorem dX5_lie_57 : decode cX5_lie 57 = .ok (.iadd, 1) := by decide +kernel
theorem dX5_lie_58 : decode cX5_lie 58 = .ok (.istore 9, 2) := by decide +kernel
theorem dX5_lie_60 : decode cX5_lie 60 = .ok (.iload 5, 2) := by decide +kernel
theorem dX5_lie_62 : decode cX5_lie 62 = .ok (.iload 6, 2) := by decide +kernel
theorem dX5_lie_64 : decode cX5_lie 64 = .ok (.isub, 1) := by decide +kernel
theorem dX5_lie_65 : decode cX5_lie 65 = .ok (.aload_n 0, 1) := by decide +kernel
theorem dX5_lie_66 : decode cX5_lie 66 = .ok (.getfield 15, 3) := by decide +kernel
theorem dX5_lie_69 : decode cX5_lie 69 = .ok (.iload 9, 2) := by decide +kernel
theorem dX5_lie_71 : decode cX5_lie 71 = .ok (.iaload, 1) := by decide +kernel
theorem dX5_lie_72 : decode cX5_lie 72 = .ok (.invokestatic 66, 3) := by decide +kernel
theorem dX5_lie_75 : decode cX5_lie 75 = .ok (.istore 10, 2) := by decide +kernel
theorem dX5_lie_77 : decode cX5_lie 77 = .ok (.aload_n 0, 1) := by decide +kernel
theorem dX5_lie_78 : decode cX5_lie 78 = .ok (.getfield 15, 3) := by decide +kernel
theorem dX5_lie_81 : decode cX5_lie 81 = .ok (.iload 9, 2) := by decide +kernel
theorem dX5_lie_83 : decode cX5_lie 83 = .ok (.dup2, 1) := by decide +kernel
theorem dX5_lie_84 : decode cX5_lie 84 = .ok (.iaload, 1) := by decide +kernel
theorem dX5_lie_85 : decode cX5_lie 85 = .ok (.iload 10, 2) := by decide +kernel
theorem dX5_lie_87 : decode cX5_lie 87 = .ok (.isub, 1) := by decide +kernel
theorem dX5_lie_88 : decode cX5_lie 88 = .ok (.iastore, 1) := by decide +kernel
theorem dX5_lie_89 : decode cX5_lie 89 = .ok (.iload 6, 2) := by decide +kernel
theorem dX5_lie_91 : decode cX5_lie 91 = .ok (.iload 10, 2) := by decide +kernel
theorem dX5_lie_93 : decode cX5_lie 93 = .ok (.iadd, 1) := by decide +kernel
theorem dX5_lie_94 : decode cX5_lie 94 = .ok (.istore 6, 2) := by decide +kernel
theorem dX5_lie_96 : decode cX5_lie 96 = .ok (.iinc 7 1, 3) := by decide +kernel
theorem dX5_lie_99 : decode cX5_lie 99 = .ok (.goto (-82), 3) := by decide +kernel
theorem dX5_lie_102 : decode cX5_lie 102 = .ok (.aload_n 0, 1) := by decide +kernel
theorem dX5_lie_103 : decode cX5_lie 103 = .ok (.getfield 22, 3) := by decide +kernel
theorem dX5_lie_106 : decode cX5_lie 106 = .ok (.iload_n 2, 1) := by decide +kernel
theorem dX5_lie_107 : decode cX5_lie 107 = .ok (.dup2, 1) := by decide +kernel
theorem dX5_lie_108 : decode cX5_lie 108 = .ok (.iaload, 1) := by decide +kernel
theorem dX5_lie_109 : decode cX5_lie 109 = .ok (.iconst 1, 1) := by decide +kernel
theorem dX5_lie_110 : decode cX5_lie 110 = .ok (.iadd, 1) := by decide +kernel
theorem dX5_lie_111 : decode cX5_lie 111 = .ok (.iastore, 1) := by decide +kernel
theorem dX5_lie_112 : decode cX5_lie 112 = .ok (.iload 6, 2) := by decide +kernel
theorem dX5_lie_114 : decode cX5_lie 114 = .ok (.ireturn, 1) := by decide +kernel
theorem dX5_exchange_0 : decode cX5_exchange 0 = .ok (.aload_n 0, 1) := by decide +kernel
theorem dX5_exchange_1 : decode cX5_exchange 1 = .ok (.getfield 15, 3) := by decide +kernel
theorem dX5_exchange_4 : decode cX5_exchange 4 = .ok (.iload_n 1, 1) := by decide +kernel
theorem dX5_exchange_5 : decode cX5_exchange 5 = .ok (.bipush 8, 2) := by decide +kernel
theorem dX5_exchange_7 : decode cX5_exchange 7 = .ok (.imul, 1) := by decide +kernel
theorem dX5_exchange_8 : decode cX5_exchange 8 = .ok (.iload_n 3, 1) := by decide +kernel
theorem dX5_exchange_9 : decode cX5_exchange 9 = .ok (.iadd, 1) := by decide +kernel
theorem dX5_exchange_10 : decode cX5_exchange 10 = .ok (.iaload, 1) := by decide +kernel
theorem dX5_exchange_11 : decode cX5_exchange 11 = .ok (.istore 4, 2) := by decide +kernel
theorem dX5_exchange_13 : decode cX5_exchange 13 = .ok (.aload_n 0, 1) := by decide +kernel
theorem dX5_exchange_14 : decode cX5_exchange 14 = .ok (.getfield 15, 3) := by decide +kernel
theorem dX5_exchange_17 : decode cX5_exchange 17 = .ok (.iload_n 1, 1) := by decide +kernel
theorem dX5_exchange_18 : decode cX5_exchange 18 = .ok (.bipush 8, 2) := by decide +kernel
theorem dX5_exchange_20 : decode cX5_exchange 20 = .ok (.imul, 1) := by decide +kernel
theorem dX5_exchange_21 : decode cX5_exchange 21 = .ok (.iload_n 3, 1) := by decide +kernel
theorem dX5_exchange_22 : decode cX5_exchange 22 = .ok (.iadd, 1) := by decide +kernel
theorem dX5_exchange_23 : decode cX5_exchange 23 = .ok (.aload_n 0, 1) := by decide +kernel
theorem dX5_exchange_24 : decode cX5_exchange 24 = .ok (.getfield 15, 3) := by decide +kernel
theorem dX5_exchange_27 : decode cX5_exchange 27 = .ok (.iload_n 2, 1) := by decide +kernel
theorem dX5_exchange_28 : decode cX5_exchange 28 = .ok (.bipush 8, 2) := by decide +kernel
theorem dX5_exchange_30 : decode cX5_exchange 30 = .ok (.imul, 1) := by decide +kernel
theorem dX5_exchange_31 : decode cX5_exchange 31 = .ok (.iload_n 3, 1) := by decide +kernel
theorem dX5_exchange_32 : decode cX5_exchange 32 = .ok (.iadd, 1) := by decide +kernel
theorem dX5_exchange_33 : decode cX5_exchange 33 = .ok (.iaload, 1) := by decide +kernel
theorem dX5_exchange_34 : decode cX5_exchange 34 = .ok (.iastore, 1) := by decide +kernel
theorem dX5_exchange_35 : decode cX5_exchange 35 = .ok (.aload_n 0, 1) := by decide +kernel
theorem dX5_exchange_36 : decode cX5_exchange 36 = .ok (.getfield 15, 3) := by decide +kernel
theorem dX5_exchange_39 : decode cX5_exchange 39 = .ok (.iload_n 2, 1) := by decide +kernel
theorem dX5_exchange_40 : decode cX5_exchange 40 = .ok (.bipush 8, 2) := by decide +kernel
theorem dX5_exchange_42 : decode cX5_exchange 42 = .ok (.imul, 1) := by decide +kernel
theorem dX5_exchange_43 : decode cX5_exchange 43 = .ok (.iload_n 3, 1) := by decide +kernel
theorem dX5_exchange_44 : decode cX5_exchange 44 = .ok (.iadd, 1) := by decide +kernel
theorem dX5_exchange_45 : decode cX5_exchange 45 = .ok (.iload 4, 2) := by decide +kernel
theorem dX5_exchange_47 : decode cX5_exchange 47 = .ok (.iastore, 1) := by decide +kernel
theorem dX5_exchange_48 : decode cX5_exchange 48 = .ok (.aload_n 0, 1) := by decide +kernel
theorem dX5_exchange_49 : decode cX5_exchange 49 = .ok (.iload_n 1, 1) := by decide +kernel
theorem dX5_exchange_50 : decode cX5_exchange 50 = .ok (.iload_n 3, 1) := by decide +kernel
theorem dX5_exchange_51 : decode cX5_exchange 51 = .ok (.invokevirtual 62, 3) := by decide +kernel
theorem dX5_exchange_54 : decode cX5_exchange 54 = .ok (.aload_n 0, 1) := by decide +kernel
theorem dX5_exchange_55 : decode cX5_exchange 55 = .ok (.iload_n 2, 1) := by decide +kernel
theorem dX5_exchange_56 : decode cX5_exchange 56 = .ok (.iload_n 3, 1) := by decide +kernel
theorem dX5_exchange_57 : decode cX5_exchange 57 = .ok (.invokevirtual 62, 3) := by decide +kernel
theorem dX5_exchange_60 : decode cX5_exchange 60 = .ok (.if_icmp .eq 27, 3) := by decide +kernel
theorem dX5_exchange_63 : decode cX5_exchange 63 = .ok (.aload_n 0, 1) := by decide +kernel
theorem dX5_exchange_64 : decode cX5_exchange 64 = .ok (.getfield 19, 3) := by decide +kernel
theorem dX5_exchange_67 : decode cX5_exchange 67 = .ok (.iload_n 1, 1) := by decide +kernel
theorem dX5_exchange_68 : decode cX5_exchange 68 = .ok (.dup2, 1) := by decide +kernel
theorem dX5_exchange_69 : decode cX5_exchange 69 = .ok (.iaload, 1) := by decide +kernel
theorem dX5_exchange_70 : decode cX5_exchange 70 = .ok (.iconst 1, 1) := by decide +kernel
theorem dX5_exchange_71 : decode cX5_exchange 71 = .ok (.iload_n 3, 1) := by decide +kernel
theorem dX5_exchange_72 : decode cX5_exchange 72 = .ok (.ishl, 1) := by decide +kernel
theorem dX5_exchange_73 : decode cX5_exchange 73 = .ok (.ixor, 1) := by decide +kernel
theorem dX5_exchange_74 : decode cX5_exchange 74 = .ok (.iastore, 1) := by decide +kernel
theorem dX5_exchange_75 : decode cX5_exchange 75 = .ok (.aload_n 0, 1) := by decide +kernel
theorem dX5_exchange_76 : decode cX5_exchange 76 = .ok (.getfield 19, 3) := by decide +kernel
theorem dX5_exchange_79 : decode cX5_exchange 79 = .ok (.iload_n 2, 1) := by decide +kernel
theorem dX5_exchange_80 : decode cX5_exchange 80 = .ok (.dup2, 1) := by decide +kernel
theorem dX5_exchange_81 : decode cX5_exchange 81 = .ok (.iaload, 1) := by decide +kernel
theorem dX5_exchange_82 : decode cX5_exchange 82 = .ok (.iconst 1, 1) := by decide +kernel
theorem dX5_exchange_83 : decode cX5_exchange 83 = .ok (.iload_n 3, 1) := by decide +kernel
theorem dX5_exchange_84 : decode cX5_exchange 84 = .ok (.ishl, 1) := by decide +kernel
theorem dX5_exchange_85 : decode cX5_exchange 85 = .ok (.ixor, 1) := by decide +kernel
theorem dX5_exchange_86 : decode cX5_exchange 86 = .ok (.iastore, 1) := by decide +kernel
theorem dX5_exchange_87 : decode cX5_exchange 87 = .ok (.return_, 1) := by decide +kernel
theorem dX6_init_0 : decode cX6_init 0 = .ok (.aload_n 0, 1) := by decide +kernel
theorem dX6_init_1 : decode cX6_init 1 = .ok (.invokespecial 1, 3) := by decide +kernel
theorem dX6_init_4 : decode cX6_init 4 = .ok (.aload_n 0, 1) := by decide +kernel
theorem dX6_init_5 : decode cX6_init 5 = .ok (.bipush (-2), 2) := by decide +kernel
theorem dX6_init_7 : decode cX6_init 7 = .ok (.putfield 9, 3) := by decide +kernel
theorem dX6_init_10 : decode cX6_init 10 = .ok (.aload_n 0, 1) := by decide +kernel
theorem dX6_init_11 : decode cX6_init 11 = .ok (.bipush 60, 2) := by decide +kernel
theorem dX6_init_13 : decode cX6_init 13 = .ok (.newarray .long, 2) := by decide +kernel
theorem dX6_init_15 : decode cX6_init 15 = .ok (.putfield 13, 3) := by decide +kernel
theorem dX6_init_18 : decode cX6_init 18 = .ok (.return_, 1) := by decide +kernel
theorem dX6_becomeRow_0 : decode cX6_becomeRow 0 = .ok (.aload_n 0, 1) := by decide +kernel
theorem dX6_becomeRow_1 : decode cX6_becomeRow 1 = .ok (.iload_n 1, 1) := by decide +kernel
theorem dX6_becomeRow_2 : decode cX6_becomeRow 2 = .ok (.putfield 9, 3) := by decide +kernel
theorem dX6_becomeRow_5 : decode cX6_becomeRow 5 = .ok (.aload_n 0, 1) := by decide +kernel
theorem dX6_becomeRow_6 : decode cX6_becomeRow 6 = .ok (.iload_n 2, 1) := by decide +kernel
theorem dX6_becomeRow_7 : decode cX6_becomeRow 7 = .ok (.putfield 17, 3) := by decide +kernel
theorem dX6_becomeRow_10 : decode cX6_becomeRow 10 = .ok (.iconst 0, 1) := by decide +kernel
theorem dX6_becomeRow_11 : decode cX6_becomeRow 11 = .ok (.istore_n 3, 1) := by decide +kernel
theorem dX6_becomeRow_12 : decode cX6_becomeRow 12 = .ok (.iload_n 3, 1) := by decide +kernel
theorem dX6_becomeRow_13 : decode cX6_becomeRow 13 = .ok (.bipush 60, 2) := by decide +kernel
theorem dX6_becomeRow_15 : decode cX6_becomeRow 15 = .ok (.if_icmp .ge 16, 3) := by decide +kernel
theorem dX6_becomeRow_18 : decode cX6_becomeRow 18 = .ok (.aload_n 0, 1) := by decide +kernel
theorem dX6_becomeRow_19 : decode cX6_becomeRow 19 = .ok (.getfield 13, 3) := by decide +kernel
theorem dX6_becomeRow_22 : decode cX6_becomeRow 22 = .ok (.iload_n 3, 1) := by decide +kernel
theorem dX6_becomeRow_23 : decode cX6_becomeRow 23 = .ok (.lconst 0, 1) := by decide +kernel
theorem dX6_becomeRow_24 : decode cX6_becomeRow 24 = .ok (.lastore, 1) := by decide +kernel
theorem dX6_becomeRow_25 : decode cX6_becomeRow 25 = .ok (.iinc 3 1, 3) := by decide +kernel
theorem dX6_becomeRow_28 : decode cX6_becomeRow 28 = .ok (.goto (-16), 3) := by decide +kernel
theorem dX6_becomeRow_31 : decode cX6_becomeRow 31 = .ok (.return_, 1) := by decide +kernel
theorem dX6_lacks_0 : decode cX6_lacks 0 = .ok (.iload_n 1, 1) := by decide +kernel
theorem dX6_lacks_1 : decode cX6_lacks 1 = .ok (.ifCond .lt 17, 3) := by decide +kernel
theorem dX6_lacks_4 : decode cX6_lacks 4 = .ok (.iload_n 2, 1) := by decide +kernel
theorem dX6_lacks_5 : decode cX6_lacks 5 = .ok (.ifCond .lt 13, 3) := by decide +kernel
theorem dX6_lacks_8 : decode cX6_lacks 8 = .ok (.iload_n 2, 1) := by decide +kernel
theorem dX6_lacks_9 : decode cX6_lacks 9 = .ok (.aload_n 0, 1) := by decide +kernel
theorem dX6_lacks_10 : decode cX6_lacks 10 = .ok (.getfield 17, 3) := by decide +kernel
theorem dX6_lacks_13 : decode cX6_lacks 13 = .ok (.iload_n 1, 1) := by decide +kernel
theorem dX6_lacks_14 : decode cX6_lacks 14 = .ok (.isub, 1) := by decide +kernel
theorem dX6_lacks_15 : decode cX6_lacks 15 = .ok (.if_icmp .le 7, 3) := by decide +kernel
theorem dX6_lacks_18 : decode cX6_lacks 18 = .ok (.iconst 1, 1) := by decide +kernel
theorem dX6_lacks_19 : decode cX6_lacks 19 = .ok (.goto 4, 3) := by decide +kernel
theorem dX6_lacks_22 : decode cX6_lacks 22 = .ok (.iconst 0, 1) := by decide +kernel
theorem dX6_lacks_23 : decode cX6_lacks 23 = .ok (.ireturn, 1) := by decide +kernel
theorem dX6_narrowed_0 : decode cX6_narrowed 0 = .ok (.iload_n 0, 1) := by decide +kernel
theorem dX6_narrowed_1 : decode cX6_narrowed 1 = .ok (.tableswitch 47 0 3 #[31, 36, 41, 45], 31) := by decide +kernel
theorem dX6_narrowed_32 : decode cX6_narrowed 32 = .ok (.lload_n 1, 1) := by decide +kernel
theorem dX6_narrowed_33 : decode cX6_narrowed 33 = .ok (.l2i, 1) := by decide +kernel
theorem dX6_narrowed_34 : decode cX6_narrowed 34 = .ok (.i2b, 1) := by decide +kernel
theorem dX6_narrowed_35 : decode cX6_narrowed 35 = .ok (.i2l, 1) := by decide +kernel
theorem dX6_narrowed_36 : decode cX6_narrowed 36 = .ok (.lreturn, 1) := by decide +kernel
theorem dX6_narrowed_37 : decode cX6_narrowed 37 = .ok (.lload_n 1, 1) := by decide +kernel
theorem dX6_narrowed_38 : decode cX6_narrowed 38 = .ok (.l2i, 1) := by decide +kernel
theorem dX6_narrowed_39 : decode cX6_narrowed 39 = .ok (.i2s, 1) := by decide +kernel
theorem dX6_narrowed_40 : decode cX6_narrowed 40 = .ok (.i2l, 1) := by decide +kernel
theorem dX6_narrowed_41 : decode cX6_narrowed 41 = .ok (.lreturn, 1) := by decide +kernel
theorem dX6_narrowed_42 : decode cX6_narrowed 42 = .ok (.lload_n 1, 1) := by decide +kernel
theorem dX6_narrowed_43 : decode cX6_narrowed 43 = .ok (.l2i, 1) := by decide +kernel
theorem dX6_narrowed_44 : decode cX6_narrowed 44 = .ok (.i2l, 1) := by decide +kernel
theorem dX6_narrowed_45 : decode cX6_narrowed 45 = .ok (.lreturn, 1) := by decide +kernel
theorem dX6_narrowed_46 : decode cX6_narrowed 46 = .ok (.lload_n 1, 1) := by decide +kernel
theorem dX6_narrowed_47 : decode cX6_narrowed 47 = .ok (.lreturn, 1) := by decide +kernel
theorem dX6_narrowed_48 : decode cX6_narrowed 48 = .ok (.lload_n 1, 1) := by decide +kernel
theorem dX6_narrowed_49 : decode cX6_narrowed 49 = .ok (.lconst 0, 1) := by decide +kernel
theorem dX6_narrowed_50 : decode cX6_narrowed 50 = .ok (.lcmp, 1) := by decide +kernel
theorem dX6_narrowed_51 : decode cX6_narrowed 51 = .ok (.ifCond .eq 7, 3) := by decide +kernel
theorem dX6_narrowed_54 : decode cX6_narrowed 54 = .ok (.lconst 1, 1) := by decide +kernel
theorem dX6_narrowed_55 : decode cX6_narrowed 55 = .ok (.goto 4, 3) := by decide +kernel
theorem dX6_narrowed_58 : decode cX6_narrowed 58 = .ok (.lconst 0, 1) := by decide +kernel
theorem dX6_narrowed_59 : decode cX6_narrowed 59 = .ok (.lreturn, 1) := by decide +kernel
theorem dX7_init_0 : decode cX7_init 0 = .ok (.aload_n 0, 1) := by decide +kernel
theorem dX7_init_1 : decode cX7_init 1 = .ok (.invokespecial 1, 3) := by decide +kernel
theorem dX7_init_4 : decode cX7_init 4 = .ok (.aload_n 0, 1) := by decide +kernel
theorem dX7_init_5 : decode cX7_init 5 = .ok (.new 7, 3) := by decide +kernel
theorem dX7_init_8 : decode cX7_init 8 = .ok (.dup, 1) := by decide +kernel
theorem dX7_init_9 : decode cX7_init 9 = .ok (.invokespecial 9, 3) := by decide +kernel
theorem dX7_init_12 : decode cX7_init 12 = .ok (.putfield 10, 3) := by decide +kernel
theorem dX7_init_15 : decode cX7_init 15 = .ok (.aload_n 0, 1) := by decide +kernel
theorem dX7_init_16 : decode cX7_init 16 = .ok (.new 7, 3) := by decide +kernel
theorem dX7_init_19 : decode cX7_init 19 = .ok (.dup, 1) := by decide +kernel
theorem dX7_init_20 : decode cX7_init 20 = .ok (.invokespecial 9, 3) := by decide +kernel
theorem dX7_init_23 : decode cX7_init 23 = .ok (.putfield 16, 3) := by decide +kernel
theorem dX7_init_26 : decode cX7_init 26 = .ok (.aload_n 0, 1) := by decide +kernel
theorem dX7_init_27 : decode cX7_init 27 = .ok (.new 7, 3) := by decide +kernel
theorem dX7_init_30 : decode cX7_init 30 = .ok (.dup, 1) := by decide +kernel
theorem dX7_init_31 : decode cX7_init 31 = .ok (.invokespecial 9, 3) := by decide +kernel
theorem dX7_init_34 : decode cX7_init 34 = .ok (.putfield 19, 3) := by decide +kernel
theorem dX7_init_37 : decode cX7_init 37 = .ok (.aload_n 0, 1) := by decide +kernel
theorem dX7_init_38 : decode cX7_init 38 = .ok (.new 22, 3) := by decide +kernel
theorem dX7_init_41 : decode cX7_init 41 = .ok (.dup, 1) := by decide +kernel
theorem dX7_init_42 : decode cX7_init 42 = .ok (.invokespecial 24, 3) := by decide +kernel
theorem dX7_init_45 : decode cX7_init 45 = .ok (.putfield 25, 3) := by decide +kernel
theorem dX7_init_48 : decode cX7_init 48 = .ok (.aload_n 0, 1) := by decide +kernel
theorem dX7_init_49 : decode cX7_init 49 = .ok (.new 29, 3) := by decide +kernel
theorem dX7_init_52 : decode cX7_init 52 = .ok (.dup, 1) := by decide +kernel
theorem dX7_init_53 : decode cX7_init 53 = .ok (.invokespecial 31, 3) := by decide +kernel
theorem dX7_init_56 : decode cX7_init 56 = .ok (.putfield 32, 3) := by decide +kernel
theorem dX7_init_59 : decode cX7_init 59 = .ok (.aload_n 0, 1) := by decide +kernel
theorem dX7_init_60 : decode cX7_init 60 = .ok (.new 36, 3) := by decide +kernel
theorem dX7_init_63 : decode cX7_init 63 = .ok (.dup, 1) := by decide +kernel
theorem dX7_init_64 : decode cX7_init 64 = .ok (.invokespecial 38, 3) := by decide +kernel
theorem dX7_init_67 : decode cX7_init 67 = .ok (.putfield 39, 3) := by decide +kernel
theorem dX7_init_70 : decode cX7_init 70 = .ok (.aload_n 0, 1) := by decide +kernel
theorem dX7_init_71 : decode cX7_init 71 = .ok (.bipush 6, 2) := by decide +kernel
theorem dX7_init_73 : decode cX7_init 73 = .ok (.anewarray 43, 3) := by decide +kernel
theorem dX7_init_76 : decode cX7_init 76 = .ok (.putfield 45, 3) := by decide +kernel
theorem dX7_init_79 : decode cX7_init 79 = .ok (.aload_n 0, 1) := by decide +kernel
theorem dX7_init_80 : decode cX7_init 80 = .ok (.bipush 6, 2) := by decide +kernel
theorem dX7_init_82 : decode cX7_init 82 = .ok (.newarray .int, 2) := by decide +kernel
theorem dX7_init_84 : decode cX7_init 84 = .ok (.putfield 49, 3) := by decide +kernel
theorem dX7_init_87 : decode cX7_init 87 = .ok (.aload_n 0, 1) := by decide +kernel
theorem dX7_init_88 : decode cX7_init 88 = .ok (.bipush 6, 2) := by decide +kernel
theorem dX7_init_90 : decode cX7_init 90 = .ok (.newarray .int, 2) := by decide +kernel
theorem dX7_init_92 : decode cX7_init 92 = .ok (.putfield 53, 3) := by decide +kernel
theorem dX7_init_95 : decode cX7_init 95 = .ok (.aload_n 0, 1) := by decide +kernel
theorem dX7_init_96 : decode cX7_init 96 = .ok (.new 56, 3) := by decide +kernel
theorem dX7_init_99 : decode cX7_init 99 = .ok (.dup, 1) := by decide +kernel
theorem dX7_init_100 : decode cX7_init 100 = .ok (.invokespecial 58, 3) := by decide +kernel
theorem dX7_init_103 : decode cX7_init 103 = .ok (.putfield 59, 3) := by decide +kernel
theorem dX7_init_106 : decode cX7_init 106 = .ok (.aload_n 0, 1) := by decide +kernel
theorem dX7_init_107 : decode cX7_init 107 = .ok (.new 63, 3) := by decide +kernel
theorem dX7_init_110 : decode cX7_init 110 = .ok (.dup, 1) := by decide +kernel
theorem dX7_init_111 : decode cX7_init 111 = .ok (.invokespecial 65, 3) := by decide +kernel
theorem dX7_init_114 : decode cX7_init 114 = .ok (.putfield 66, 3) := by decide +kernel
theorem dX7_init_117 : decode cX7_init 117 = .ok (.iconst 0, 1) := by decide +kernel
theorem dX7_init_118 : decode cX7_init 118 = .ok (.istore_n 1, 1) := by decide +kernel
theorem dX7_init_119 : decode cX7_init 119 = .ok (.iload_n 1, 1) := by decide +kernel
theorem dX7_init_120 : decode cX7_init 120 = .ok (.bipush 6, 2) := by decide +kernel
theorem dX7_init_122 : decode cX7_init 122 = .ok (.if_icmp .ge 22, 3) := by decide +kernel
theorem dX7_init_125 : decode cX7_init 125 = .ok (.aload_n 0, 1) := by decide +kernel
theorem dX7_init_126 : decode cX7_init 126 = .ok (.getfield 45, 3) := by decide +kernel
theorem dX7_init_129 : decode cX7_init 129 = .ok (.iload_n 1, 1) := by decide +kernel
theorem dX7_init_130 : decode cX7_init 130 = .ok (.new 43, 3) := by decide +kernel
theorem dX7_init_133 : decode cX7_init 133 = .ok (.dup, 1) := by decide +kernel
theorem dX7_init_134 : decode cX7_init 134 = .ok (.invokespecial 70, 3) := by decide +kernel
theorem dX7_init_137 : decode cX7_init 137 = .ok (.aastore, 1) := by decide +kernel
theorem dX7_init_138 : decode cX7_init 138 = .ok (.iinc 1 1, 3) := by decide +kernel
theorem dX7_init_141 : decode cX7_init 141 = .ok (.goto (-22), 3) := by decide +kernel
theorem dX7_init_144 : decode cX7_init 144 = .ok (.return_, 1) := by decide +kernel
theorem dX7_person_0 : decode cX7_person 0 = .ok (.iload_n 1, 1) := by decide +kernel
theorem dX7_person_1 : decode cX7_person 1 = .ok (.bipush 9, 2) := by decide +kernel
theorem dX7_person_3 : decode cX7_person 3 = .ok (.invokestatic 71, 3) := by decide +kernel
theorem dX7_person_6 : decode cX7_person 6 = .ok (.ifCond .eq 5, 3) := by decide +kernel
theorem dX7_person_9 : decode cX7_person 9 = .ok (.iconst (-1), 1) := by decide +kernel
theorem dX7_person_10 : decode cX7_person 10 = .ok (.ireturn, 1) := by decide +kernel
theorem dX7_person_11 : decode cX7_person 11 = .ok (.aload_n 0, 1) := by decide +kernel
theorem dX7_person_12 : decode cX7_person 12 = .ok (.getfield 10, 3) := by decide +kernel
theorem dX7_person_15 : decode cX7_person 15 = .ok (.getfield 75, 3) := by decide +kernel
theorem dX7_person_18 : decode cX7_person 18 = .ok (.bipush 7, 2) := by decide +kernel
theorem dX7_person_20 : decode cX7_person 20 = .ok (.if_icmp .lt 6, 3) := by decide +kernel
theorem dX7_person_23 : decode cX7_person 23 = .ok (.bipush (-3), 2) := by decide +kernel
theorem dX7_person_25 : decode cX7_person 25 = .ok (.ireturn, 1) := by decide +kernel
theorem dX7_person_26 : decode cX7_person 26 = .ok (.aload_n 0, 1) := by decide +kernel
theorem dX7_person_27 : decode cX7_person 27 = .ok (.getfield 10, 3) := by decide +kernel
theorem dX7_person_30 : decode cX7_person 30 = .ok (.iconst 0, 1) := by decide +kernel
theorem dX7_person_31 : decode cX7_person 31 = .ok (.invokevirtual 79, 3) := by decide +kernel
theorem dX7_person_34 : decode cX7_person 34 = .ok (.istore_n 2, 1) := by decide +kernel
theorem dX7_person_35 : decode cX7_person 35 = .ok (.iconst 0, 1) := by decide +kernel
theorem dX7_person_36 : decode cX7_person 36 = .ok (.istore_n 3, 1) := by decide +kernel
theorem dX7_person_37 : decode cX7_person 37 = .ok (.iload_n 3, 1) := by decide +kernel
theorem dX7_person_38 : decode cX7_person 38 = .ok (.bipush 8, 2) := by decide +kernel
theorem dX7_person_40 : decode cX7_person 40 = .ok (.if_icmp .ge 24, 3) := by decide +kernel
theorem dX7_person_43 : decode cX7_person 43 = .ok (.aload_n 0, 1) := by decide +kernel
theorem dX7_person_44 : decode cX7_person 44 = .ok (.getfield 10, 3) := by decide +kernel
theorem dX7_person_47 : decode cX7_person 47 = .ok (.getfield 83, 3) := by decide +kernel
theorem dX7_person_50 : decode cX7_person 50 = .ok (.iload_n 2, 1) := by decide +kernel
theorem dX7_person_51 : decode cX7_person 51 = .ok (.bipush 8, 2) := by decide +kernel
theorem dX7_person_53 : decode cX7_person 53 = .ok (.imul, 1) := by decide +kernel
theorem dX7_person_54 : decode cX7_person 54 = .ok (.iload_n 3, 1) := by decide +kernel
theorem dX7_person_55 : decode cX7_person 55 = .ok (.iadd, 1) := by decide +kernel
theorem dX7_person_56 : decode cX7_person 56 = .ok (.iload_n 1, 1) := by decide +kernel
theorem dX7_person_57 : decode cX7_person 57 = .ok (.iastore, 1) := by decide +kernel
theorem dX7_person_58 : decode cX7_person 58 = .ok (.iinc 3 1, 3) := by decide +kernel
theorem dX7_person_61 : decode cX7_person 61 = .ok (.goto (-24), 3) := by decide +kernel
theorem dX7_person_64 : decode cX7_person 64 = .ok (.iload_n 2, 1) := by decide +kernel
theorem dX7_person_65 : decode cX7_person 65 = .ok (.ireturn, 1) := by decide +kernel
theorem dX7_people_0 : decode cX7_people 0 = .ok (.iload_n 1, 1) := by decide +kernel
theorem dX7_people_1 : decode cX7_people 1 = .ok (.invokestatic 86, 3) := by decide +kernel
theorem dX7_people_4 : decode cX7_people 4 = .ok (.ifCond .ne 14, 3) := by decide +kernel
theorem dX7_people_7 : decode cX7_people 7 = .ok (.iload_n 3, 1) := by decide +kernel
theorem dX7_people_8 : decode cX7_people 8 = .ok (.iconst 1, 1) := by decide +kernel
theorem dX7_people_9 : decode cX7_people 9 = .ok (.if_icmp .lt 9, 3) := by decide +kernel
theorem dX7_people_12 : decode cX7_people 12 = .ok (.iload_n 3, 1) := by decide +kernel
theorem dX7_people_13 : decode cX7_people 13 = .ok (.bipush 7, 2) := by decide +kernel
theorem dX7_people_15 : decode cX7_people 15 = .ok (.if_icmp .le 5, 3) := by decide +kernel
theorem dX7_people_18 : decode cX7_people 18 = .ok (.iconst (-1), 1) := by decide +kernel
theorem dX7_people_19 : decode cX7_people 19 = .ok (.ireturn, 1) := by decide +kernel
theorem dX7_people_20 : decode cX7_people 20 = .ok (.aload_n 0, 1) := by decide +kernel
theorem dX7_people_21 : decode cX7_people 21 = .ok (.getfield 45, 3) := by decide +kernel
theorem dX7_people_24 : decode cX7_people 24 = .ok (.iload_n 1, 1) := by decide +kernel
theorem dX7_people_25 : decode cX7_people 25 = .ok (.aaload, 1) := by decide +kernel
theorem dX7_people_26 : decode cX7_people 26 = .ok (.astore 4, 2) := by decide +kernel
theorem dX7_people_28 : decode cX7_people 28 = .ok (.aload 4, 2) := by decide +kernel
theorem dX7_people_30 : decode cX7_people 30 = .ok (.getfield 90, 3) := by decide +kernel
theorem dX7_people_33 : decode cX7_people 33 = .ok (.bipush (-2), 2) := by decide +kernel
theorem dX7_people_35 : decode cX7_people 35 = .ok (.if_icmp .ne 5, 3) := by decide +kernel
theorem dX7_people_38 : decode cX7_people 38 = .ok (.iconst 0, 1) := by decide +kernel
theorem dX7_people_39 : decode cX7_people 39 = .ok (.ireturn, 1) := by decide +kernel
theorem dX7_people_40 : decode cX7_people 40 = .ok (.aload 4, 2) := by decide +kernel
theorem dX7_people_42 : decode cX7_people 42 = .ok (.getfield 90, 3) := by decide +kernel
theorem dX7_people_45 : decode cX7_people 45 = .ok (.ifCond .eq 6, 3) := by decide +kernel
theorem dX7_people_48 : decode cX7_people 48 = .ok (.bipush (-12), 2) := by decide +kernel
theorem dX7_people_50 : decode cX7_people 50 = .ok (.ireturn, 1) := by decide +kernel
theorem dX7_people_51 : decode cX7_people 51 = .ok (.iconst 0, 1) := by decide +kernel
theorem dX7_people_52 : decode cX7_people 52 = .ok (.istore 5, 2) := by decide +kernel
theorem dX7_people_54 : decode cX7_people 54 = .ok (.iload_n 2, 1) := by decide +kernel
theorem dX7_people_55 : decode cX7_people 55 = .ok (.istore 6, 2) := by decide +kernel
theorem dX7_people_57 : decode cX7_people 57 = .ok (.iload 5, 2) := by decide +kernel
theorem dX7_people_59 : decode cX7_people 59 = .ok (.iload_n 3, 1) := by decide +kernel
theorem dX7_people_60 : decode cX7_people 60 = .ok (.if_icmp .ge 42, 3) := by decide +kernel
theorem dX7_people_63 : decode cX7_people 63 = .ok (.aload_n 0, 1) := by decide +kernel
theorem dX7_people_64 : decode cX7_people 64 = .ok (.getfield 10, 3) := by decide +kernel
theorem dX7_people_67 : decode cX7_people 67 = .ok (.getfield 75, 3) := by decide +kernel
theorem dX7_people_70 : decode cX7_people 70 = .ok (.bipush 7, 2) := by decide +kernel
theorem dX7_people_72 : decode cX7_people 72 = .ok (.if_icmp .ge 30, 3) := by decide +kernel
theorem dX7_people_75 : decode cX7_people 75 = .ok (.aload 4, 2) := by decide +kernel
theorem dX7_people_77 : decode cX7_people 77 = .ok (.iload 6, 2) := by decide +kernel
theorem dX7_people_79 : decode cX7_people 79 = .ok (.invokestatic 93, 3) := by decide +kernel
theorem dX7_people_82 : decode cX7_people 82 = .ok (.ifCond .eq 20, 3) := by decide +kernel
theorem dX7_people_85 : decode cX7_people 85 = .ok (.aload_n 0, 1) := by decide +kernel
theorem dX7_people_86 : decode cX7_people 86 = .ok (.aload 4, 2) := by decide +kernel
theorem dX7_people_88 : decode cX7_people 88 = .ok (.iload 6, 2) := by decide +kernel
theorem dX7_people_90 : decode cX7_people 90 = .ok (.invokevirtual 97, 3) := by decide +kernel
theorem dX7_people_93 : decode cX7_people 93 = .ok (.iinc 5 1, 3) := by decide +kernel
theorem dX7_people_96 : decode cX7_people 96 = .ok (.iinc 6 9, 3) := by decide +kernel
theorem dX7_people_99 : decode cX7_people 99 = .ok (.goto (-42), 3) := by decide +kernel
theorem dX7_people_102 : decode cX7_people 102 = .ok (.iload 5, 2) := by decide +kernel
theorem dX7_people_104 : decode cX7_people 104 = .ok (.ireturn, 1) := by decide +kernel
theorem dX7_isNine_0 : decode cX7_isNine 0 = .ok (.iload_n 1, 1) := by decide +kernel
theorem dX7_isNine_1 : decode cX7_isNine 1 = .ok (.ifCond .lt 16, 3) := by decide +kernel
theorem dX7_isNine_4 : decode cX7_isNine 4 = .ok (.iload_n 1, 1) := by decide +kernel
theorem dX7_isNine_5 : decode cX7_isNine 5 = .ok (.aload_n 0, 1) := by decide +kernel
theorem dX7_isNine_6 : decode cX7_isNine 6 = .ok (.getfield 101, 3) := by decide +kernel
theorem dX7_isNine_9 : decode cX7_isNine 9 = .ok (.bipush 8, 2) := by decide +kernel
theorem dX7_isNine_11 : decode cX7_isNine 11 = .ok (.isub, 1) := by decide +kernel
theorem dX7_isNine_12 : decode cX7_isNine 12 = .ok (.iconst 1, 1) := by decide +kernel
theorem dX7_isNine_13 : decode cX7_isNine 13 = .ok (.isub, 1) := by decide +kernel
theorem dX7_isNine_14 : decode cX7_isNine 14 = .ok (.if_icmp .le 5, 3) := by decide +kernel
theorem dX7_isNine_17 : decode cX7_isNine 17 = .ok (.iconst 0, 1) := by decide +kernel
theorem dX7_isNine_18 : decode cX7_isNine 18 = .ok (.ireturn, 1) := by decide +kernel
theorem dX7_isNine_19 : decode cX7_isNine 19 = .ok (.iconst 1, 1) := by decide +kernel
theorem dX7_isNine_20 : decode cX7_isNine 20 = .ok (.istore_n 2, 1) := by decide +kernel
theorem dX7_isNine_21 : decode cX7_isNine 21 = .ok (.iload_n 2, 1) := by decide +kernel
theorem dX7_isNine_22 : decode cX7_isNine 22 = .ok (.bipush 8, 2) := by decide +kernel
theorem dX7_isNine_24 : decode cX7_isNine 24 = .ok (.if_icmp .gt 28, 3) := by decide +kernel
theorem dX7_isNine_27 : decode cX7_isNine 27 = .ok (.aload_n 0, 1) := by decide +kernel
theorem dX7_isNine_28 : decode cX7_isNine 28 = .ok (.getfield 104, 3) := by decide +kernel
theorem dX7_isNine_31 : decode cX7_isNine 31 = .ok (.iload_n 1, 1) := by decide +kernel
theorem dX7_isNine_32 : decode cX7_isNine 32 = .ok (.iload_n 2, 1) := by decide +kernel
theorem dX7_isNine_33 : decode cX7_isNine 33 = .ok (.iadd, 1) := by decide +kernel
theorem dX7_isNine_34 : decode cX7_isNine 34 = .ok (.laload, 1) := by decide +kernel
theorem dX7_isNine_35 : decode cX7_isNine 35 = .ok (.l2i, 1) := by decide +kernel
theorem dX7_isNine_36 : decode cX7_isNine 36 = .ok (.bipush 9, 2) := by decide +kernel
theorem dX7_isNine_38 : decode cX7_isNine 38 = .ok (.invokestatic 71, 3) := by decide +kernel
theorem dX7_isNine_41 : decode cX7_isNine 41 = .ok (.ifCond .eq 5, 3) := by decide +kernel
theorem dX7_isNine_44 : decode cX7_isNine 44 = .ok (.iconst 0, 1) := by decide +kernel
theorem dX7_isNine_45 : decode cX7_isNine 45 = .ok (.ireturn, 1) := by decide +kernel
theorem dX7_isNine_46 : decode cX7_isNine 46 = .ok (.iinc 2 1, 3) := by decide +kernel
theorem dX7_isNine_49 : decode cX7_isNine 49 = .ok (.goto (-28), 3) := by decide +kernel
theorem dX7_isNine_52 : decode cX7_isNine 52 = .ok (.iconst 1, 1) := by decide +kernel
theorem dX7_isNine_53 : decode cX7_isNine 53 = .ok (.ireturn, 1) := by decide +kernel
theorem dX7_comeFrom_0 : decode cX7_comeFrom 0 = .ok (.aload_n 0, 1) := by decide +kernel
theorem dX7_comeFrom_1 : decode cX7_comeFrom 1 = .ok (.getfield 10, 3) := by decide +kernel
theorem dX7_comeFrom_4 : decode cX7_comeFrom 4 = .ok (.aload_n 1, 1) := by decide +kernel
theorem dX7_comeFrom_5 : decode cX7_comeFrom 5 = .ok (.getfield 104, 3) := by decide +kernel
theorem dX7_comeFrom_8 : decode cX7_comeFrom 8 = .ok (.iload_n 2, 1) := by decide +kernel
theorem dX7_comeFrom_9 : decode cX7_comeFrom 9 = .ok (.laload, 1) := by decide +kernel
theorem dX7_comeFrom_10 : decode cX7_comeFrom 10 = .ok (.l2i, 1) := by decide +kernel
theorem dX7_comeFrom_11 : decode cX7_comeFrom 11 = .ok (.sipush 255, 3) := by decide +kernel
theorem dX7_comeFrom_14 : decode cX7_comeFrom 14 = .ok (.iand, 1) := by decide +kernel
theorem dX7_comeFrom_15 : decode cX7_comeFrom 15 = .ok (.invokevirtual 79, 3) := by decide +kernel
theorem dX7_comeFrom_18 : decode cX7_comeFrom 18 = .ok (.istore_n 3, 1) := by decide +kernel
theorem dX7_comeFrom_19 : decode cX7_comeFrom 19 = .ok (.iconst 0, 1) := by decide +kernel
theorem dX7_comeFrom_20 : decode cX7_comeFrom 20 = .ok (.istore 4, 2) := by decide +kernel
theorem dX7_comeFrom_22 : decode cX7_comeFrom 22 = .ok (.iload 4, 2) := by decide +kernel
theorem dX7_comeFrom_24 : decode cX7_comeFrom 24 = .ok (.bipush 8, 2) := by decide +kernel
theorem dX7_comeFrom_26 : decode cX7_comeFrom 26 = .ok (.if_icmp .ge 36, 3) := by decide +kernel
theorem dX7_comeFrom_29 : decode cX7_comeFrom 29 = .ok (.aload_n 0, 1) := by decide +kernel
theorem dX7_comeFrom_30 : decode cX7_comeFrom 30 = .ok (.getfield 10, 3) := by decide +kernel
theorem dX7_comeFrom_33 : decode cX7_comeFrom 33 = .ok (.getfield 83, 3) := by decide +kernel
theorem dX7_comeFrom_36 : decode cX7_comeFrom 36 = .ok (.iload_n 3, 1) := by decide +kernel
theorem dX7_comeFrom_37 : decode cX7_comeFrom 37 = .ok (.bipush 8, 2) := by decide +kernel
theorem dX7_comeFrom_39 : decode cX7_comeFrom 39 = .ok (.imul, 1) := by decide +kernel
theorem dX7_comeFrom_40 : decode cX7_comeFrom 40 = .ok (.iload 4, 2) := by decide +kernel
theorem dX7_comeFrom_42 : decode cX7_comeFrom 42 = .ok (.iadd, 1) := by decide +kernel
theorem dX7_comeFrom_43 : decode cX7_comeFrom 43 = .ok (.aload_n 1, 1) := by decide +kernel
theorem dX7_comeFrom_44 : decode cX7_comeFrom 44 = .ok (.getfield 104, 3) := by decide +kernel
theorem dX7_comeFrom_47 : decode cX7_comeFrom 47 = .ok (.iload_n 2, 1) := by decide +kernel
theorem dX7_comeFrom_48 : decode cX7_comeFrom 48 = .ok (.iconst 1, 1) := by decide +kernel
theorem dX7_comeFrom_49 : decode cX7_comeFrom 49 = .ok (.iadd, 1) := by decide +kernel
theorem dX7_comeFrom_50 : decode cX7_comeFrom 50 = .ok (.iload 4, 2) := by decide +kernel
theorem dX7_comeFrom_52 : decode cX7_comeFrom 52 = .ok (.iadd, 1) := by decide +kernel
theorem dX7_comeFrom_53 : decode cX7_comeFrom 53 = .ok (.laload, 1) := by decide +kernel
theorem dX7_comeFrom_54 : decode cX7_comeFrom 54 = .ok (.l2i, 1) := by decide +kernel
theorem dX7_comeFrom_55 : decode cX7_comeFrom 55 = .ok (.iastore, 1) := by decide +kernel
theorem dX7_comeFrom_56 : decode cX7_comeFrom 56 = .ok (.iinc 4 1, 3) := by decide +kernel
theorem dX7_comeFrom_59 : decode cX7_comeFrom 59 = .ok (.goto (-37), 3) := by decide +kernel
theorem dX7_comeFrom_62 : decode cX7_comeFrom 62 = .ok (.return_, 1) := by decide +kernel
theorem dX7_mend_0 : decode cX7_mend 0 = .ok (.iload_n 2, 1) := by decide +kernel
theorem dX7_mend_1 : decode cX7_mend 1 = .ok (.bipush 10, 2) := by decide +kernel
theorem dX7_mend_3 : decode cX7_mend 3 = .ok (.if_icmp .gt 23, 3) := by decide +kernel
theorem dX7_mend_6 : decode cX7_mend 6 = .ok (.aload_n 0, 1) := by decide +kernel
theorem dX7_mend_7 : decode cX7_mend 7 = .ok (.iload_n 1, 1) := by decide +kernel
theorem dX7_mend_8 : decode cX7_mend 8 = .ok (.iload_n 2, 1) := by decide +kernel
theorem dX7_mend_9 : decode cX7_mend 9 = .ok (.invokevirtual 108, 3) := by decide +kernel
theorem dX7_mend_12 : decode cX7_mend 12 = .ok (.ifCond .ne 14, 3) := by decide +kernel
theorem dX7_mend_15 : decode cX7_mend 15 = .ok (.iload_n 3, 1) := by decide +kernel
theorem dX7_mend_16 : decode cX7_mend 16 = .ok (.iload_n 2, 1) := by decide +kernel
theorem dX7_mend_17 : decode cX7_mend 17 = .ok (.invokestatic 111, 3) := by decide +kernel
theorem dX7_mend_20 : decode cX7_mend 20 = .ok (.invokestatic 71, 3) := by decide +kernel
theorem dX7_mend_23 : decode cX7_mend 23 = .ok (.ifCond .eq 5, 3) := by decide +kernel
theorem dX7_mend_26 : decode cX7_mend 26 = .ok (.iconst (-1), 1) := by decide +kernel
theorem dX7_mend_27 : decode cX7_mend 27 = .ok (.ireturn, 1) := by decide +kernel
theorem dX7_mend_28 : decode cX7_mend 28 = .ok (.aload_n 0, 1) := by decide +kernel
theorem dX7_mend_29 : decode cX7_mend 29 = .ok (.iload_n 1, 1) := by decide +kernel
theorem dX7_mend_30 : decode cX7_mend 30 = .ok (.iload_n 2, 1) := by decide +kernel
theorem dX7_mend_31 : decode cX7_mend 31 = .ok (.invokevirtual 114, 3) := by decide +kernel
theorem dX7_mend_34 : decode cX7_mend 34 = .ok (.istore 4, 2) := by decide +kernel
theorem dX7_mend_36 : decode cX7_mend 36 = .ok (.iload_n 3, 1) := by decide +kernel
theorem dX7_mend_37 : decode cX7_mend 37 = .ok (.iload 4, 2) := by decide +kernel
theorem dX7_mend_39 : decode cX7_mend 39 = .ok (.if_icmp .eq 22, 3) := by decide +kernel
theorem dX7_mend_42 : decode cX7_mend 42 = .ok (.aload_n 0, 1) := by decide +kernel
theorem dX7_mend_43 : decode cX7_mend 43 = .ok (.getfield 32, 3) := by decide +kernel
theorem dX7_mend_46 : decode cX7_mend 46 = .ok (.iload_n 1, 1) := by decide +kernel
theorem dX7_mend_47 : decode cX7_mend 47 = .ok (.iload_n 2, 1) := by decide +kernel
theorem dX7_mend_48 : decode cX7_mend 48 = .ok (.iload 4, 2) := by decide +kernel
theorem dX7_mend_50 : decode cX7_mend 50 = .ok (.iload_n 3, 1) := by decide +kernel
theorem dX7_mend_51 : decode cX7_mend 51 = .ok (.invokevirtual 118, 3) := by decide +kernel
theorem dX7_mend_54 : decode cX7_mend 54 = .ok (.aload_n 0, 1) := by decide +kernel
theorem dX7_mend_55 : decode cX7_mend 55 = .ok (.iload_n 1, 1) := by decide +kernel
theorem dX7_mend_56 : decode cX7_mend 56 = .ok (.iload_n 2, 1) := by decide +kernel
theorem dX7_mend_57 : decode cX7_mend 57 = .ok (.iload_n 3, 1) := by decide +kernel
theorem dX7_mend_58 : decode cX7_mend 58 = .ok (.invokevirtual 122, 3) := by decide +kernel
theorem dX7_mend_61 : decode cX7_mend 61 = .ok (.iload 4, 2) := by decide +kernel
theorem dX7_mend_63 : decode cX7_mend 63 = .ok (.ireturn, 1) := by decide +kernel
theorem dX7_of_0 : decode cX7_of 0 = .ok (.aload_n 0, 1) := by decide +kernel
theorem dX7_of_1 : decode cX7_of 1 = .ok (.iload_n 1, 1) := by decide +kernel
theorem dX7_of_2 : decode cX7_of 2 = .ok (.iload_n 2, 1) := by decide +kernel
theorem dX7_of_3 : decode cX7_of 3 = .ok (.invokevirtual 108, 3) := by decide +kernel
theorem dX7_of_6 : decode cX7_of 6 = .ok (.ifCond .eq 7, 3) := by decide +kernel
theorem dX7_of_9 : decode cX7_of 9 = .ok (.iconst (-1), 1) := by decide +kernel
theorem dX7_of_10 : decode cX7_of 10 = .ok (.goto 9, 3) := by decide +kernel
theorem dX7_of_13 : decode cX7_of 13 = .ok (.aload_n 0, 1) := by decide +kernel
theorem dX7_of_14 : decode cX7_of 14 = .ok (.iload_n 1, 1) := by decide +kernel
theorem dX7_of_15 : decode cX7_of 15 = .ok (.iload_n 2, 1) := by decide +kernel
theorem dX7_of_16 : decode cX7_of 16 = .ok (.invokevirtual 114, 3) := by decide +kernel
theorem dX7_of_19 : decode cX7_of 19 = .ok (.ireturn, 1) := by decide +kernel
theorem dX7_noNumber_0 : decode cX7_noNumber 0 = .ok (.iload_n 2, 1) := by decide +kernel
theorem dX7_noNumber_1 : decode cX7_noNumber 1 = .ok (.bipush 12, 2) := by decide +kernel
theorem dX7_noNumber_3 : decode cX7_noNumber 3 = .ok (.invokestatic 71, 3) := by decide +kernel
theorem dX7_noNumber_6 : decode cX7_noNumber 6 = .ok (.ifCond .eq 5, 3) := by decide +kernel
theorem dX7_noNumber_9 : decode cX7_noNumber 9 = .ok (.iconst 1, 1) := by decide +kernel
theorem dX7_noNumber_10 : decode cX7_noNumber 10 = .ok (.ireturn, 1) := by decide +kernel
theorem dX7_noNumber_11 : decode cX7_noNumber 11 = .ok (.iload_n 2, 1) := by decide +kernel
theorem dX7_noNumber_12 : decode cX7_noNumber 12 = .ok (.bipush 9, 2) := by decide +kernel
theorem dX7_noNumber_14 : decode cX7_noNumber 14 = .ok (.if_icmp .ne 10, 3) := by decide +kernel
theorem dX7_noNumber_17 : decode cX7_noNumber 17 = .ok (.iload_n 1, 1) := by decide +kernel
theorem dX7_noNumber_18 : decode cX7_noNumber 18 = .ok (.bipush 9, 2) := by decide +kernel
theorem dX7_noNumber_20 : decode cX7_noNumber 20 = .ok (.invokestatic 71, 3) := by decide +kernel
theorem dX7_noNumber_23 : decode cX7_noNumber 23 = .ok (.ireturn, 1) := by decide +kernel
theorem dX7_noNumber_24 : decode cX7_noNumber 24 = .ok (.iload_n 2, 1) := by decide +kernel
theorem dX7_noNumber_25 : decode cX7_noNumber 25 = .ok (.bipush 10, 2) := by decide +kernel
theorem dX7_noNumber_27 : decode cX7_noNumber 27 = .ok (.if_icmp .ne 13, 3) := by decide +kernel
theorem dX7_noNumber_30 : decode cX7_noNumber 30 = .ok (.iload_n 1, 1) := by decide +kernel
theorem dX7_noNumber_31 : decode cX7_noNumber 31 = .ok (.ifCond .eq 7, 3) := by decide +kernel
theorem dX7_noNumber_34 : decode cX7_noNumber 34 = .ok (.iconst 1, 1) := by decide +kernel
theorem dX7_noNumber_35 : decode cX7_noNumber 35 = .ok (.goto 4, 3) := by decide +kernel
theorem dX7_noNumber_38 : decode cX7_noNumber 38 = .ok (.iconst 0, 1) := by decide +kernel
theorem dX7_noNumber_39 : decode cX7_noNumber 39 = .ok (.ireturn, 1) := by decide +kernel
theorem dX7_noNumber_40 : decode cX7_noNumber 40 = .ok (.aload_n 0, 1) := by decide +kernel
theorem dX7_noNumber_41 : decode cX7_noNumber 41 = .ok (.iload_n 1, 1) := by decide +kernel
theorem dX7_noNumber_42 : decode cX7_noNumber 42 = .ok (.invokevirtual 126, 3) := by decide +kernel
theorem dX7_noNumber_45 : decode cX7_noNumber 45 = .ok (.ireturn, 1) := by decide +kernel
theorem dX7_mostOf_0 : decode cX7_mostOf 0 = .ok (.iload_n 0, 1) := by decide +kernel
theorem dX7_mostOf_1 : decode cX7_mostOf 1 = .ok (.tableswitch 36 8 10 #[27, 31, 33], 27) := by decide +kernel
theorem dX7_mostOf_28 : decode cX7_mostOf 28 = .ok (.sipush 255, 3) := by decide +kernel
theorem dX7_mostOf_31 : decode cX7_mostOf 31 = .ok (.ireturn, 1) := by decide +kernel
theorem dX7_mostOf_32 : decode cX7_mostOf 32 = .ok (.iconst 1, 1) := by decide +kernel
theorem dX7_mostOf_33 : decode cX7_mostOf 33 = .ok (.ireturn, 1) := by decide +kernel
theorem dX7_mostOf_34 : decode cX7_mostOf 34 = .ok (.bipush 9, 2) := by decide +kernel
theorem dX7_mostOf_36 : decode cX7_mostOf 36 = .ok (.ireturn, 1) := by decide +kernel
theorem dX7_mostOf_37 : decode cX7_mostOf 37 = .ok (.bipush 9, 2) := by decide +kernel
theorem dX7_mostOf_39 : decode cX7_mostOf 39 = .ok (.ireturn, 1) := by decide +kernel
theorem dX7_numberNow_0 : decode cX7_numberNow 0 = .ok (.iload_n 2, 1) := by decide +kernel
theorem dX7_numberNow_1 : decode cX7_numberNow 1 = .ok (.tableswitch 81 8 12 #[35, 45, 54, 62, 71], 35) := by decide +kernel
theorem dX7_numberNow_36 : decode cX7_numberNow 36 = .ok (.aload_n 0, 1) := by decide +kernel
theorem dX7_numberNow_37 : decode cX7_numberNow 37 = .ok (.getfield 10, 3) := by decide +kernel
theorem dX7_numberNow_40 : decode cX7_numberNow 40 = .ok (.getfield 129, 3) := by decide +kernel
theorem dX7_numberNow_43 : decode cX7_numberNow 43 = .ok (.iload_n 1, 1) := by decide +kernel
theorem dX7_numberNow_44 : decode cX7_numberNow 44 = .ok (.iaload, 1) := by decide +kernel
theorem dX7_numberNow_45 : decode cX7_numberNow 45 = .ok (.ireturn, 1) := by decide +kernel
theorem dX7_numberNow_46 : decode cX7_numberNow 46 = .ok (.aload_n 0, 1) := by decide +kernel
theorem dX7_numberNow_47 : decode cX7_numberNow 47 = .ok (.getfield 132, 3) := by decide +kernel
theorem dX7_numberNow_50 : decode cX7_numberNow 50 = .ok (.iload_n 1, 1) := by decide +kernel
theorem dX7_numberNow_51 : decode cX7_numberNow 51 = .ok (.ishr, 1) := by decide +kernel
theorem dX7_numberNow_52 : decode cX7_numberNow 52 = .ok (.iconst 1, 1) := by decide +kernel
theorem dX7_numberNow_53 : decode cX7_numberNow 53 = .ok (.iand, 1) := by decide +kernel
theorem dX7_numberNow_54 : decode cX7_numberNow 54 = .ok (.ireturn, 1) := by decide +kernel
theorem dX7_numberNow_55 : decode cX7_numberNow 55 = .ok (.aload_n 0, 1) := by decide +kernel
theorem dX7_numberNow_56 : decode cX7_numberNow 56 = .ok (.getfield 10, 3) := by decide +kernel
theorem dX7_numberNow_59 : decode cX7_numberNow 59 = .ok (.getfield 135, 3) := by decide +kernel
theorem dX7_numberNow_62 : decode cX7_numberNow 62 = .ok (.ireturn, 1) := by decide +kernel
theorem dX7_numberNow_63 : decode cX7_numberNow 63 = .ok (.aload_n 0, 1) := by decide +kernel
theorem dX7_numberNow_64 : decode cX7_numberNow 64 = .ok (.getfield 10, 3) := by decide +kernel
theorem dX7_numberNow_67 : decode cX7_numberNow 67 = .ok (.iload_n 1, 1) := by decide +kernel
theorem dX7_numberNow_68 : decode cX7_numberNow 68 = .ok (.invokevirtual 138, 3) := by decide +kernel
theorem dX7_numberNow_71 : decode cX7_numberNow 71 = .ok (.ireturn, 1) := by decide +kernel
theorem dX7_numberNow_72 : decode cX7_numberNow 72 = .ok (.aload_n 0, 1) := by decide +kernel
theorem dX7_numberNow_73 : decode cX7_numberNow 73 = .ok (.getfield 10, 3) := by decide +kernel
theorem dX7_numberNow_76 : decode cX7_numberNow 76 = .ok (.getfield 141, 3) := by decide +kernel
theorem dX7_numberNow_79 : decode cX7_numberNow 79 = .ok (.iload_n 1, 1) := by decide +kernel
theorem dX7_numberNow_80 : decode cX7_numberNow 80 = .ok (.iaload, 1) := by decide +kernel
theorem dX7_numberNow_81 : decode cX7_numberNow 81 = .ok (.ireturn, 1) := by decide +kernel
theorem dX7_numberNow_82 : decode cX7_numberNow 82 = .ok (.aload_n 0, 1) := by decide +kernel
theorem dX7_numberNow_83 : decode cX7_numberNow 83 = .ok (.getfield 10, 3) := by decide +kernel
theorem dX7_numberNow_86 : decode cX7_numberNow 86 = .ok (.getfield 83, 3) := by decide +kernel
theorem dX7_numberNow_89 : decode cX7_numberNow 89 = .ok (.iload_n 1, 1) := by decide +kernel
theorem dX7_numberNow_90 : decode cX7_numberNow 90 = .ok (.bipush 8, 2) := by decide +kernel
theorem dX7_numberNow_92 : decode cX7_numberNow 92 = .ok (.imul, 1) := by decide +kernel
theorem dX7_numberNow_93 : decode cX7_numberNow 93 = .ok (.iload_n 2, 1) := by decide +kernel
theorem dX7_numberNow_94 : decode cX7_numberNow 94 = .ok (.iadd, 1) := by decide +kernel
theorem dX7_numberNow_95 : decode cX7_numberNow 95 = .ok (.iaload, 1) := by decide +kernel
theorem dX7_numberNow_96 : decode cX7_numberNow 96 = .ok (.ireturn, 1) := by decide +kernel
theorem dX7_makeNumber_0 : decode cX7_makeNumber 0 = .ok (.iload_n 2, 1) := by decide +kernel
theorem dX7_makeNumber_1 : decode cX7_makeNumber 1 = .ok (.tableswitch 72 8 10 #[27, 40, 61], 27) := by decide +kernel
theorem dX7_makeNumber_28 : decode cX7_makeNumber 28 = .ok (.aload_n 0, 1) := by decide +kernel
theorem dX7_makeNumber_29 : decode cX7_makeNumber 29 = .ok (.getfield 10, 3) := by decide +kernel
theorem dX7_makeNumber_32 : decode cX7_makeNumber 32 = .ok (.getfield 129, 3) := by decide +kernel
theorem dX7_makeNumber_35 : decode cX7_makeNumber 35 = .ok (.iload_n 1, 1) := by decide +kernel
theorem dX7_makeNumber_36 : decode cX7_makeNumber 36 = .ok (.iload_n 3, 1) := by decide +kernel
theorem dX7_makeNumber_37 : decode cX7_makeNumber 37 = .ok (.iastore, 1) := by decide +kernel
theorem dX7_makeNumber_38 : decode cX7_makeNumber 38 = .ok (.goto 50, 3) := by decide +kernel
theorem dX7_makeNumber_41 : decode cX7_makeNumber 41 = .ok (.aload_n 0, 1) := by decide +kernel
theorem dX7_makeNumber_42 : decode cX7_makeNumber 42 = .ok (.aload_n 0, 1) := by decide +kernel
theorem dX7_makeNumber_43 : decode cX7_makeNumber 43 = .ok (.getfield 132, 3) := by decide +kernel
theorem dX7_makeNumber_46 : decode cX7_makeNumber 46 = .ok (.iconst 1, 1) := by decide +kernel
theorem dX7_makeNumber_47 : decode cX7_makeNumber 47 = .ok (.iload_n 1, 1) := by decide +kernel
theorem dX7_makeNumber_48 : decode cX7_makeNumber 48 = .ok (.ishl, 1) := by decide +kernel
theorem dX7_makeNumber_49 : decode cX7_makeNumber 49 = .ok (.iconst (-1), 1) := by decide +kernel
theorem dX7_makeNumber_50 : decode cX7_makeNumber 50 = .ok (.ixor, 1) := by decide +kernel
theorem dX7_makeNumber_51 : decode cX7_makeNumber 51 = .ok (.iand, 1) := by decide +kernel
theorem dX7_makeNumber_52 : decode cX7_makeNumber 52 = .ok (.iload_n 3, 1) := by decide +kernel
theorem dX7_makeNumber_53 : decode cX7_makeNumber 53 = .ok (.iload_n 1, 1) := by decide +kernel
theorem dX7_makeNumber_54 : decode cX7_makeNumber 54 = .ok (.ishl, 1) := by decide +kernel
theorem dX7_makeNumber_55 : decode cX7_makeNumber 55 = .ok (.ior, 1) := by decide +kernel
theorem dX7_makeNumber_56 : decode cX7_makeNumber 56 = .ok (.putfield 132, 3) := by decide +kernel
theorem dX7_makeNumber_59 : decode cX7_makeNumber 59 = .ok (.goto 29, 3) := by decide +kernel
theorem dX7_makeNumber_62 : decode cX7_makeNumber 62 = .ok (.aload_n 0, 1) := by decide +kernel
theorem dX7_makeNumber_63 : decode cX7_makeNumber 63 = .ok (.getfield 10, 3) := by decide +kernel
theorem dX7_makeNumber_66 : decode cX7_makeNumber 66 = .ok (.iload_n 3, 1) := by decide +kernel
theorem dX7_makeNumber_67 : decode cX7_makeNumber 67 = .ok (.putfield 135, 3) := by decide +kernel
theorem dX7_makeNumber_70 : decode cX7_makeNumber 70 = .ok (.goto 18, 3) := by decide +kernel
theorem dX7_makeNumber_73 : decode cX7_makeNumber 73 = .ok (.aload_n 0, 1) := by decide +kernel
theorem dX7_makeNumber_74 : decode cX7_makeNumber 74 = .ok (.getfield 10, 3) := by decide +kernel
theorem dX7_makeNumber_77 : decode cX7_makeNumber 77 = .ok (.getfield 83, 3) := by decide +kernel
theorem dX7_makeNumber_80 : decode cX7_makeNumber 80 = .ok (.iload_n 1, 1) := by decide +kernel
theorem dX7_makeNumber_81 : decode cX7_makeNumber 81 = .ok (.bipush 8, 2) := by decide +kernel
theorem dX7_makeNumber_83 : decode cX7_makeNumber 83 = .ok (.imul, 1) := by decide +kernel
theorem dX7_makeNumber_84 : decode cX7_makeNumber 84 = .ok (.iload_n 2, 1) := by decide +kernel
theorem dX7_makeNumber_85 : decode cX7_makeNumber 85 = .ok (.iadd, 1) := by decide +kernel
theorem dX7_makeNumber_86 : decode cX7_makeNumber 86 = .ok (.iload_n 3, 1) := by decide +kernel
theorem dX7_makeNumber_87 : decode cX7_makeNumber 87 = .ok (.iastore, 1) := by decide +kernel
theorem dX7_makeNumber_88 : decode cX7_makeNumber 88 = .ok (.return_, 1) := by decide +kernel
theorem dX7_feed_0 : decode cX7_feed 0 = .ok (.iload_n 1, 1) := by decide +kernel
theorem dX7_feed_1 : decode cX7_feed 1 = .ok (.sipush 255, 3) := by decide +kernel
theorem dX7_feed_4 : decode cX7_feed 4 = .ok (.invokestatic 71, 3) := by decide +kernel
theorem dX7_feed_7 : decode cX7_feed 7 = .ok (.ifCond .eq 5, 3) := by decide +kernel
theorem dX7_feed_10 : decode cX7_feed 10 = .ok (.iconst (-1), 1) := by decide +kernel
theorem dX7_feed_11 : decode cX7_feed 11 = .ok (.ireturn, 1) := by decide +kernel
theorem dX7_feed_12 : decode cX7_feed 12 = .ok (.aload_n 0, 1) := by decide +kernel
theorem dX7_feed_13 : decode cX7_feed 13 = .ok (.getfield 59, 3) := by decide +kernel
theorem dX7_feed_16 : decode cX7_feed 16 = .ok (.iload_n 1, 1) := by decide +kernel
theorem dX7_feed_17 : decode cX7_feed 17 = .ok (.invokevirtual 144, 3) := by decide +kernel
theorem dX7_feed_20 : decode cX7_feed 20 = .ok (.ireturn, 1) := by decide +kernel
theorem dX7_law_0 : decode cX7_law 0 = .ok (.aload_n 0, 1) := by decide +kernel
theorem dX7_law_1 : decode cX7_law 1 = .ok (.getfield 59, 3) := by decide +kernel
theorem dX7_law_4 : decode cX7_law 4 = .ok (.invokevirtual 147, 3) := by decide +kernel
theorem dX7_law_7 : decode cX7_law 7 = .ok (.istore_n 1, 1) := by decide +kernel
theorem dX7_law_8 : decode cX7_law 8 = .ok (.aload_n 0, 1) := by decide +kernel
theorem dX7_law_9 : decode cX7_law 9 = .ok (.getfield 59, 3) := by decide +kernel
theorem dX7_law_12 : decode cX7_law 12 = .ok (.iconst 0, 1) := by decide +kernel
theorem dX7_law_13 : decode cX7_law 13 = .ok (.putfield 151, 3) := by decide +kernel
theorem dX7_law_16 : decode cX7_law 16 = .ok (.iload_n 1, 1) := by decide +kernel
theorem dX7_law_17 : decode cX7_law 17 = .ok (.ifCond .lt 8, 3) := by decide +kernel
theorem dX7_law_20 : decode cX7_law 20 = .ok (.bipush (-100), 2) := by decide +kernel
theorem dX7_law_22 : decode cX7_law 22 = .ok (.iload_n 1, 1) := by decide +kernel
theorem dX7_law_23 : decode cX7_law 23 = .ok (.isub, 1) := by decide +kernel
theorem dX7_law_24 : decode cX7_law 24 = .ok (.ireturn, 1) := by decide +kernel
theorem dX7_law_25 : decode cX7_law 25 = .ok (.aload_n 0, 1) := by decide +kernel
theorem dX7_law_26 : decode cX7_law 26 = .ok (.aload_n 0, 1) := by decide +kernel
theorem dX7_law_27 : decode cX7_law 27 = .ok (.getfield 59, 3) := by decide +kernel
theorem dX7_law_30 : decode cX7_law 30 = .ok (.aload_n 0, 1) := by decide +kernel
theorem dX7_law_31 : decode cX7_law 31 = .ok (.getfield 66, 3) := by decide +kernel
theorem dX7_law_34 : decode cX7_law 34 = .ok (.invokevirtual 154, 3) := by decide +kernel
theorem dX7_law_37 : decode cX7_law 37 = .ok (.putfield 66, 3) := by decide +kernel
theorem dX7_law_40 : decode cX7_law 40 = .ok (.iconst 1, 1) := by decide +kernel
theorem dX7_law_41 : decode cX7_law 41 = .ok (.ireturn, 1) := by decide +kernel
theorem dX7_takes_0 : decode cX7_takes 0 = .ok (.aload_n 0, 1) := by decide +kernel
theorem dX7_takes_1 : decode cX7_takes 1 = .ok (.iload_n 1, 1) := by decide +kernel
theorem dX7_takes_2 : decode cX7_takes 2 = .ok (.invokevirtual 126, 3) := by decide +kernel
theorem dX7_takes_5 : decode cX7_takes 5 = .ok (.ifCond .ne 12, 3) := by decide +kernel
theorem dX7_takes_8 : decode cX7_takes 8 = .ok (.iload_n 2, 1) := by decide +kernel
theorem dX7_takes_9 : decode cX7_takes 9 = .ok (.bipush 99, 2) := by decide +kernel
theorem dX7_takes_11 : decode cX7_takes 11 = .ok (.invokestatic 71, 3) := by decide +kernel
theorem dX7_takes_14 : decode cX7_takes 14 = .ok (.ifCond .eq 5, 3) := by decide +kernel
theorem dX7_takes_17 : decode cX7_takes 17 = .ok (.iconst (-1), 1) := by decide +kernel
theorem dX7_takes_18 : decode cX7_takes 18 = .ok (.ireturn, 1) := by decide +kernel
theorem dX7_takes_19 : decode cX7_takes 19 = .ok (.aload_n 0, 1) := by decide +kernel
theorem dX7_takes_20 : decode cX7_takes 20 = .ok (.getfield 66, 3) := by decide +kernel
theorem dX7_takes_23 : decode cX7_takes 23 = .ok (.aload_n 0, 1) := by decide +kernel
theorem dX7_takes_24 : decode cX7_takes 24 = .ok (.getfield 10, 3) := by decide +kernel
theorem dX7_takes_27 : decode cX7_takes 27 = .ok (.iload_n 1, 1) := by decide +kernel
theorem dX7_takes_28 : decode cX7_takes 28 = .ok (.iload_n 2, 1) := by decide +kernel
theorem dX7_takes_29 : decode cX7_takes 29 = .ok (.bipush 10, 2) := by decide +kernel
theorem dX7_takes_31 : decode cX7_takes 31 = .ok (.idiv, 1) := by decide +kernel
theorem dX7_takes_32 : decode cX7_takes 32 = .ok (.iload_n 2, 1) := by decide +kernel
theorem dX7_takes_33 : decode cX7_takes 33 = .ok (.bipush 10, 2) := by decide +kernel
theorem dX7_takes_35 : decode cX7_takes 35 = .ok (.irem, 1) := by decide +kernel
theorem dX7_takes_36 : decode cX7_takes 36 = .ok (.invokevirtual 158, 3) := by decide +kernel
theorem dX7_takes_39 : decode cX7_takes 39 = .ok (.ireturn, 1) := by decide +kernel
theorem dX7_trial_0 : decode cX7_trial 0 = .ok (.iload_n 1, 1) := by decide +kernel
theorem dX7_trial_1 : decode cX7_trial 1 = .ok (.invokestatic 86, 3) := by decide +kernel
theorem dX7_trial_4 : decode cX7_trial 4 = .ok (.ifCond .ne 24, 3) := by decide +kernel
theorem dX7_trial_7 : decode cX7_trial 7 = .ok (.iload_n 2, 1) := by decide +kernel
theorem dX7_trial_8 : decode cX7_trial 8 = .ok (.iconst (-1), 1) := by decide +kernel
theorem dX7_trial_9 : decode cX7_trial 9 = .ok (.if_icmp .eq 11, 3) := by decide +kernel
theorem dX7_trial_12 : decode cX7_trial 12 = .ok (.aload_n 0, 1) := by decide +kernel
theorem dX7_trial_13 : decode cX7_trial 13 = .ok (.iload_n 2, 1) := by decide +kernel
theorem dX7_trial_14 : decode cX7_trial 14 = .ok (.invokevirtual 126, 3) := by decide +kernel
theorem dX7_trial_17 : decode cX7_trial 17 = .ok (.ifCond .ne 11, 3) := by decide +kernel
theorem dX7_trial_20 : decode cX7_trial 20 = .ok (.iload_n 3, 1) := by decide +kernel
theorem dX7_trial_21 : decode cX7_trial 21 = .ok (.iconst 1, 1) := by decide +kernel
theorem dX7_trial_22 : decode cX7_trial 22 = .ok (.invokestatic 71, 3) := by decide +kernel
theorem dX7_trial_25 : decode cX7_trial 25 = .ok (.ifCond .eq 5, 3) := by decide +kernel
theorem dX7_trial_28 : decode cX7_trial 28 = .ok (.iconst (-1), 1) := by decide +kernel
theorem dX7_trial_29 : decode cX7_trial 29 = .ok (.ireturn, 1) := by decide +kernel
theorem dX7_trial_30 : decode cX7_trial 30 = .ok (.aload_n 0, 1) := by decide +kernel
theorem dX7_trial_31 : decode cX7_trial 31 = .ok (.iload_n 1, 1) := by decide +kernel
theorem dX7_trial_32 : decode cX7_trial 32 = .ok (.invokevirtual 162, 3) := by decide +kernel
theorem dX7_trial_35 : decode cX7_trial 35 = .ok (.istore 4, 2) := by decide +kernel
theorem dX7_trial_37 : decode cX7_trial 37 = .ok (.iload 4, 2) := by decide +kernel
theorem dX7_trial_39 : decode cX7_trial 39 = .ok (.ifCond .eq 6, 3) := by decide +kernel
theorem dX7_trial_42 : decode cX7_trial 42 = .ok (.iload 4, 2) := by decide +kernel
theorem dX7_trial_44 : decode cX7_trial 44 = .ok (.ireturn, 1) := by decide +kernel
theorem dX7_trial_45 : decode cX7_trial 45 = .ok (.aload_n 0, 1) := by decide +kernel
theorem dX7_trial_46 : decode cX7_trial 46 = .ok (.iload_n 1, 1) := by decide +kernel
theorem dX7_trial_47 : decode cX7_trial 47 = .ok (.invokevirtual 165, 3) := by decide +kernel
theorem dX7_trial_50 : decode cX7_trial 50 = .ok (.iload_n 2, 1) := by decide +kernel
theorem dX7_trial_51 : decode cX7_trial 51 = .ok (.iconst (-1), 1) := by decide +kernel
theorem dX7_trial_52 : decode cX7_trial 52 = .ok (.if_icmp .ne 11, 3) := by decide +kernel
theorem dX7_trial_55 : decode cX7_trial 55 = .ok (.aload_n 0, 1) := by decide +kernel
theorem dX7_trial_56 : decode cX7_trial 56 = .ok (.getfield 25, 3) := by decide +kernel
theorem dX7_trial_59 : decode cX7_trial 59 = .ok (.getfield 169, 3) := by decide +kernel
theorem dX7_trial_62 : decode cX7_trial 62 = .ok (.ireturn, 1) := by decide +kernel
theorem dX7_trial_63 : decode cX7_trial 63 = .ok (.iload_n 3, 1) := by decide +kernel
theorem dX7_trial_64 : decode cX7_trial 64 = .ok (.ifCond .ne 17, 3) := by decide +kernel
theorem dX7_trial_67 : decode cX7_trial 67 = .ok (.aload_n 0, 1) := by decide +kernel
theorem dX7_trial_68 : decode cX7_trial 68 = .ok (.getfield 25, 3) := by decide +kernel
theorem dX7_trial_71 : decode cX7_trial 71 = .ok (.getfield 172, 3) := by decide +kernel
theorem dX7_trial_74 : decode cX7_trial 74 = .ok (.iload_n 2, 1) := by decide +kernel
theorem dX7_trial_75 : decode cX7_trial 75 = .ok (.invokevirtual 138, 3) := by decide +kernel
theorem dX7_trial_78 : decode cX7_trial 78 = .ok (.goto 15, 3) := by decide +kernel
theorem dX7_trial_81 : decode cX7_trial 81 = .ok (.aload_n 0, 1) := by decide +kernel
theorem dX7_trial_82 : decode cX7_trial 82 = .ok (.getfield 25, 3) := by decide +kernel
theorem dX7_trial_85 : decode cX7_trial 85 = .ok (.getfield 172, 3) := by decide +kernel
theorem dX7_trial_88 : decode cX7_trial 88 = .ok (.getfield 141, 3) := by decide +kernel
theorem dX7_trial_91 : decode cX7_trial 91 = .ok (.iload_n 2, 1) := by decide +kernel
theorem dX7_trial_92 : decode cX7_trial 92 = .ok (.iaload, 1) := by decide +kernel
theorem dX7_trial_93 : decode cX7_trial 93 = .ok (.ireturn, 1) := by decide +kernel
theorem dX7_tooth_0 : decode cX7_tooth 0 = .ok (.iload_n 1, 1) := by decide +kernel
theorem dX7_tooth_1 : decode cX7_tooth 1 = .ok (.invokestatic 86, 3) := by decide +kernel
theorem dX7_tooth_4 : decode cX7_tooth 4 = .ok (.ifCond .ne 11, 3) := by decide +kernel
theorem dX7_tooth_7 : decode cX7_tooth 7 = .ok (.aload_n 0, 1) := by decide +kernel
theorem dX7_tooth_8 : decode cX7_tooth 8 = .ok (.iload_n 2, 1) := by decide +kernel
theorem dX7_tooth_9 : decode cX7_tooth 9 = .ok (.invokevirtual 175, 3) := by decide +kernel
theorem dX7_tooth_12 : decode cX7_tooth 12 = .ok (.ifCond .eq 5, 3) := by decide +kernel
theorem dX7_tooth_15 : decode cX7_tooth 15 = .ok (.iconst (-1), 1) := by decide +kernel
theorem dX7_tooth_16 : decode cX7_tooth 16 = .ok (.ireturn, 1) := by decide +kernel
theorem dX7_tooth_17 : decode cX7_tooth 17 = .ok (.aload_n 0, 1) := by decide +kernel
theorem dX7_tooth_18 : decode cX7_tooth 18 = .ok (.iload_n 1, 1) := by decide +kernel
theorem dX7_tooth_19 : decode cX7_tooth 19 = .ok (.invokevirtual 162, 3) := by decide +kernel
theorem dX7_tooth_22 : decode cX7_tooth 22 = .ok (.istore_n 3, 1) := by decide +kernel
theorem dX7_tooth_23 : decode cX7_tooth 23 = .ok (.iload_n 3, 1) := by decide +kernel
theorem dX7_tooth_24 : decode cX7_tooth 24 = .ok (.ifCond .eq 5, 3) := by decide +kernel
theorem dX7_tooth_27 : decode cX7_tooth 27 = .ok (.iload_n 3, 1) := by decide +kernel
theorem dX7_tooth_28 : decode cX7_tooth 28 = .ok (.ireturn, 1) := by decide +kernel
theorem dX7_tooth_29 : decode cX7_tooth 29 = .ok (.aload_n 0, 1) := by decide +kernel
theorem dX7_tooth_30 : decode cX7_tooth 30 = .ok (.iload_n 1, 1) := by decide +kernel
theorem dX7_tooth_31 : decode cX7_tooth 31 = .ok (.invokevirtual 165, 3) := by decide +kernel
theorem dX7_tooth_34 : decode cX7_tooth 34 = .ok (.aload_n 0, 1) := by decide +kernel
theorem dX7_tooth_35 : decode cX7_tooth 35 = .ok (.getfield 25, 3) := by decide +kernel
theorem dX7_tooth_38 : decode cX7_tooth 38 = .ok (.getfield 172, 3) := by decide +kernel
theorem dX7_tooth_41 : decode cX7_tooth 41 = .ok (.getfield 83, 3) := by decide +kernel
theorem dX7_tooth_44 : decode cX7_tooth 44 = .ok (.iload_n 2, 1) := by decide +kernel
theorem dX7_tooth_45 : decode cX7_tooth 45 = .ok (.bipush 10, 2) := by decide +kernel
theorem dX7_tooth_47 : decode cX7_tooth 47 = .ok (.idiv, 1) := by decide +kernel
theorem dX7_tooth_48 : decode cX7_tooth 48 = .ok (.bipush 8, 2) := by decide +kernel
theorem dX7_tooth_50 : decode cX7_tooth 50 = .ok (.imul, 1) := by decide +kernel
theorem dX7_tooth_51 : decode cX7_tooth 51 = .ok (.iload_n 2, 1) := by decide +kernel
theorem dX7_tooth_52 : decode cX7_tooth 52 = .ok (.bipush 10, 2) := by decide +kernel
theorem dX7_tooth_54 : decode cX7_tooth 54 = .ok (.irem, 1) := by decide +kernel
theorem dX7_tooth_55 : decode cX7_tooth 55 = .ok (.iadd, 1) := by decide +kernel
theorem dX7_tooth_56 : decode cX7_tooth 56 = .ok (.iaload, 1) := by decide +kernel
theorem dX7_tooth_57 : decode cX7_tooth 57 = .ok (.ireturn, 1) := by decide +kernel
theorem dX7_gone_0 : decode cX7_gone 0 = .ok (.iload_n 1, 1) := by decide +kernel
theorem dX7_gone_1 : decode cX7_gone 1 = .ok (.invokestatic 86, 3) := by decide +kernel
theorem dX7_gone_4 : decode cX7_gone 4 = .ok (.ifCond .eq 7, 3) := by decide +kernel
theorem dX7_gone_7 : decode cX7_gone 7 = .ok (.iconst (-1), 1) := by decide +kernel
theorem dX7_gone_8 : decode cX7_gone 8 = .ok (.goto 8, 3) := by decide +kernel
theorem dX7_gone_11 : decode cX7_gone 11 = .ok (.aload_n 0, 1) := by decide +kernel
theorem dX7_gone_12 : decode cX7_gone 12 = .ok (.iload_n 1, 1) := by decide +kernel
theorem dX7_gone_13 : decode cX7_gone 13 = .ok (.invokevirtual 162, 3) := by decide +kernel
theorem dX7_gone_16 : decode cX7_gone 16 = .ok (.istore_n 2, 1) := by decide +kernel
theorem dX7_gone_17 : decode cX7_gone 17 = .ok (.iload_n 2, 1) := by decide +kernel
theorem dX7_gone_18 : decode cX7_gone 18 = .ok (.ifCond .eq 5, 3) := by decide +kernel
