theorem dX7_gone_21 : decode cX7_gone 21 = .ok (.iload_n 2, 1) := by decide +kernel
theorem dX7_gone_22 : decode cX7_gone 22 = .ok (.ireturn, 1) := by decide +kernel
theorem dX7_gone_23 : decode cX7_gone 23 = .ok (.aload_n 0, 1) := by decide +kernel
theorem dX7_gone_24 : decode cX7_gone 24 = .ok (.iload_n 1, 1) := by decide +kernel
theorem dX7_gone_25 : decode cX7_gone 25 = .ok (.invokevirtual 165, 3) := by decide +kernel
theorem dX7_gone_28 : decode cX7_gone 28 = .ok (.aload_n 0, 1) := by decide +kernel
theorem dX7_gone_29 : decode cX7_gone 29 = .ok (.getfield 25, 3) := by decide +kernel
theorem dX7_gone_32 : decode cX7_gone 32 = .ok (.getfield 178, 3) := by decide +kernel
theorem dX7_gone_35 : decode cX7_gone 35 = .ok (.ireturn, 1) := by decide +kernel
theorem dX7_believed_0 : decode cX7_believed 0 = .ok (.iload_n 1, 1) := by decide +kernel
theorem dX7_believed_1 : decode cX7_believed 1 = .ok (.invokestatic 86, 3) := by decide +kernel
theorem dX7_believed_4 : decode cX7_believed 4 = .ok (.ifCond .ne 12, 3) := by decide +kernel
theorem dX7_believed_7 : decode cX7_believed 7 = .ok (.iload_n 2, 1) := by decide +kernel
theorem dX7_believed_8 : decode cX7_believed 8 = .ok (.bipush 9, 2) := by decide +kernel
theorem dX7_believed_10 : decode cX7_believed 10 = .ok (.invokestatic 71, 3) := by decide +kernel
theorem dX7_believed_13 : decode cX7_believed 13 = .ok (.ifCond .eq 5, 3) := by decide +kernel
theorem dX7_believed_16 : decode cX7_believed 16 = .ok (.iconst (-1), 1) := by decide +kernel
theorem dX7_believed_17 : decode cX7_believed 17 = .ok (.ireturn, 1) := by decide +kernel
theorem dX7_believed_18 : decode cX7_believed 18 = .ok (.aload_n 0, 1) := by decide +kernel
theorem dX7_believed_19 : decode cX7_believed 19 = .ok (.iload_n 1, 1) := by decide +kernel
theorem dX7_believed_20 : decode cX7_believed 20 = .ok (.invokevirtual 162, 3) := by decide +kernel
theorem dX7_believed_23 : decode cX7_believed 23 = .ok (.istore_n 3, 1) := by decide +kernel
theorem dX7_believed_24 : decode cX7_believed 24 = .ok (.iload_n 3, 1) := by decide +kernel
theorem dX7_believed_25 : decode cX7_believed 25 = .ok (.ifCond .eq 5, 3) := by decide +kernel
theorem dX7_believed_28 : decode cX7_believed 28 = .ok (.iload_n 3, 1) := by decide +kernel
theorem dX7_believed_29 : decode cX7_believed 29 = .ok (.ireturn, 1) := by decide +kernel
theorem dX7_believed_30 : decode cX7_believed 30 = .ok (.aload_n 0, 1) := by decide +kernel
theorem dX7_believed_31 : decode cX7_believed 31 = .ok (.iload_n 1, 1) := by decide +kernel
theorem dX7_believed_32 : decode cX7_believed 32 = .ok (.invokevirtual 165, 3) := by decide +kernel
theorem dX7_believed_35 : decode cX7_believed 35 = .ok (.aload_n 0, 1) := by decide +kernel
theorem dX7_believed_36 : decode cX7_believed 36 = .ok (.getfield 25, 3) := by decide +kernel
theorem dX7_believed_39 : decode cX7_believed 39 = .ok (.iload_n 2, 1) := by decide +kernel
theorem dX7_believed_40 : decode cX7_believed 40 = .ok (.invokevirtual 181, 3) := by decide +kernel
theorem dX7_believed_43 : decode cX7_believed 43 = .ok (.ireturn, 1) := by decide +kernel
theorem dX7_told_0 : decode cX7_told 0 = .ok (.iload_n 1, 1) := by decide +kernel
theorem dX7_told_1 : decode cX7_told 1 = .ok (.invokestatic 86, 3) := by decide +kernel
theorem dX7_told_4 : decode cX7_told 4 = .ok (.ifCond .ne 11, 3) := by decide +kernel
theorem dX7_told_7 : decode cX7_told 7 = .ok (.iload_n 2, 1) := by decide +kernel
theorem dX7_told_8 : decode cX7_told 8 = .ok (.iconst 3, 1) := by decide +kernel
theorem dX7_told_9 : decode cX7_told 9 = .ok (.invokestatic 71, 3) := by decide +kernel
theorem dX7_told_12 : decode cX7_told 12 = .ok (.ifCond .eq 5, 3) := by decide +kernel
theorem dX7_told_15 : decode cX7_told 15 = .ok (.iconst (-1), 1) := by decide +kernel
theorem dX7_told_16 : decode cX7_told 16 = .ok (.ireturn, 1) := by decide +kernel
theorem dX7_told_17 : decode cX7_told 17 = .ok (.aload_n 0, 1) := by decide +kernel
theorem dX7_told_18 : decode cX7_told 18 = .ok (.iload_n 1, 1) := by decide +kernel
theorem dX7_told_19 : decode cX7_told 19 = .ok (.invokevirtual 162, 3) := by decide +kernel
theorem dX7_told_22 : decode cX7_told 22 = .ok (.istore_n 3, 1) := by decide +kernel
theorem dX7_told_23 : decode cX7_told 23 = .ok (.iload_n 3, 1) := by decide +kernel
theorem dX7_told_24 : decode cX7_told 24 = .ok (.ifCond .eq 5, 3) := by decide +kernel
theorem dX7_told_27 : decode cX7_told 27 = .ok (.iload_n 3, 1) := by decide +kernel
theorem dX7_told_28 : decode cX7_told 28 = .ok (.ireturn, 1) := by decide +kernel
theorem dX7_told_29 : decode cX7_told 29 = .ok (.aload_n 0, 1) := by decide +kernel
theorem dX7_told_30 : decode cX7_told 30 = .ok (.iload_n 1, 1) := by decide +kernel
theorem dX7_told_31 : decode cX7_told 31 = .ok (.invokevirtual 165, 3) := by decide +kernel
theorem dX7_told_34 : decode cX7_told 34 = .ok (.iload_n 2, 1) := by decide +kernel
theorem dX7_told_35 : decode cX7_told 35 = .ok (.tableswitch 59 0 2 #[25, 37, 45], 25) := by decide +kernel
theorem dX7_told_60 : decode cX7_told 60 = .ok (.aload_n 0, 1) := by decide +kernel
theorem dX7_told_61 : decode cX7_told 61 = .ok (.getfield 25, 3) := by decide +kernel
theorem dX7_told_64 : decode cX7_told 64 = .ok (.aload_n 0, 1) := by decide +kernel
theorem dX7_told_65 : decode cX7_told 65 = .ok (.getfield 132, 3) := by decide +kernel
theorem dX7_told_68 : decode cX7_told 68 = .ok (.invokevirtual 184, 3) := by decide +kernel
theorem dX7_told_71 : decode cX7_told 71 = .ok (.ireturn, 1) := by decide +kernel
theorem dX7_told_72 : decode cX7_told 72 = .ok (.aload_n 0, 1) := by decide +kernel
theorem dX7_told_73 : decode cX7_told 73 = .ok (.getfield 25, 3) := by decide +kernel
theorem dX7_told_76 : decode cX7_told 76 = .ok (.getfield 187, 3) := by decide +kernel
theorem dX7_told_79 : decode cX7_told 79 = .ok (.ireturn, 1) := by decide +kernel
theorem dX7_told_80 : decode cX7_told 80 = .ok (.sipush 1023, 3) := by decide +kernel
theorem dX7_told_83 : decode cX7_told 83 = .ok (.aload_n 0, 1) := by decide +kernel
theorem dX7_told_84 : decode cX7_told 84 = .ok (.getfield 25, 3) := by decide +kernel
theorem dX7_told_87 : decode cX7_told 87 = .ok (.getfield 190, 3) := by decide +kernel
theorem dX7_told_90 : decode cX7_told 90 = .ok (.iconst (-1), 1) := by decide +kernel
theorem dX7_told_91 : decode cX7_told 91 = .ok (.ixor, 1) := by decide +kernel
theorem dX7_told_92 : decode cX7_told 92 = .ok (.iand, 1) := by decide +kernel
theorem dX7_told_93 : decode cX7_told 93 = .ok (.ireturn, 1) := by decide +kernel
theorem dX7_told_94 : decode cX7_told 94 = .ok (.aload_n 0, 1) := by decide +kernel
theorem dX7_told_95 : decode cX7_told 95 = .ok (.getfield 25, 3) := by decide +kernel
theorem dX7_told_98 : decode cX7_told 98 = .ok (.aload_n 0, 1) := by decide +kernel
theorem dX7_told_99 : decode cX7_told 99 = .ok (.getfield 10, 3) := by decide +kernel
theorem dX7_told_102 : decode cX7_told 102 = .ok (.invokevirtual 193, 3) := by decide +kernel
theorem dX7_told_105 : decode cX7_told 105 = .ok (.ireturn, 1) := by decide +kernel
theorem dX7_have_0 : decode cX7_have 0 = .ok (.iload_n 1, 1) := by decide +kernel
theorem dX7_have_1 : decode cX7_have 1 = .ok (.invokestatic 86, 3) := by decide +kernel
theorem dX7_have_4 : decode cX7_have 4 = .ok (.ifCond .ne 18, 3) := by decide +kernel
theorem dX7_have_7 : decode cX7_have 7 = .ok (.iload_n 2, 1) := by decide +kernel
theorem dX7_have_8 : decode cX7_have 8 = .ok (.invokestatic 197, 3) := by decide +kernel
theorem dX7_have_11 : decode cX7_have 11 = .ok (.ifCond .ne 11, 3) := by decide +kernel
theorem dX7_have_14 : decode cX7_have 14 = .ok (.iload_n 3, 1) := by decide +kernel
theorem dX7_have_15 : decode cX7_have 15 = .ok (.iconst 2, 1) := by decide +kernel
theorem dX7_have_16 : decode cX7_have 16 = .ok (.invokestatic 71, 3) := by decide +kernel
theorem dX7_have_19 : decode cX7_have 19 = .ok (.ifCond .eq 5, 3) := by decide +kernel
theorem dX7_have_22 : decode cX7_have 22 = .ok (.iconst (-1), 1) := by decide +kernel
theorem dX7_have_23 : decode cX7_have 23 = .ok (.ireturn, 1) := by decide +kernel
theorem dX7_have_24 : decode cX7_have 24 = .ok (.aload_n 0, 1) := by decide +kernel
theorem dX7_have_25 : decode cX7_have 25 = .ok (.iload_n 1, 1) := by decide +kernel
theorem dX7_have_26 : decode cX7_have 26 = .ok (.invokevirtual 162, 3) := by decide +kernel
theorem dX7_have_29 : decode cX7_have 29 = .ok (.istore 4, 2) := by decide +kernel
theorem dX7_have_31 : decode cX7_have 31 = .ok (.iload 4, 2) := by decide +kernel
theorem dX7_have_33 : decode cX7_have 33 = .ok (.ifCond .eq 6, 3) := by decide +kernel
theorem dX7_have_36 : decode cX7_have 36 = .ok (.iload 4, 2) := by decide +kernel
theorem dX7_have_38 : decode cX7_have 38 = .ok (.ireturn, 1) := by decide +kernel
theorem dX7_have_39 : decode cX7_have 39 = .ok (.aload_n 0, 1) := by decide +kernel
theorem dX7_have_40 : decode cX7_have 40 = .ok (.iload_n 1, 1) := by decide +kernel
theorem dX7_have_41 : decode cX7_have 41 = .ok (.invokevirtual 165, 3) := by decide +kernel
theorem dX7_have_44 : decode cX7_have 44 = .ok (.aload_n 0, 1) := by decide +kernel
theorem dX7_have_45 : decode cX7_have 45 = .ok (.getfield 25, 3) := by decide +kernel
theorem dX7_have_48 : decode cX7_have 48 = .ok (.iload_n 2, 1) := by decide +kernel
theorem dX7_have_49 : decode cX7_have 49 = .ok (.bipush 10, 2) := by decide +kernel
theorem dX7_have_51 : decode cX7_have 51 = .ok (.idiv, 1) := by decide +kernel
theorem dX7_have_52 : decode cX7_have 52 = .ok (.invokevirtual 181, 3) := by decide +kernel
theorem dX7_have_55 : decode cX7_have 55 = .ok (.iload_n 2, 1) := by decide +kernel
theorem dX7_have_56 : decode cX7_have 56 = .ok (.bipush 10, 2) := by decide +kernel
theorem dX7_have_58 : decode cX7_have 58 = .ok (.irem, 1) := by decide +kernel
theorem dX7_have_59 : decode cX7_have 59 = .ok (.if_icmp .ne 14, 3) := by decide +kernel
theorem dX7_have_62 : decode cX7_have 62 = .ok (.iload_n 3, 1) := by decide +kernel
theorem dX7_have_63 : decode cX7_have 63 = .ok (.ifCond .ne 7, 3) := by decide +kernel
theorem dX7_have_66 : decode cX7_have 66 = .ok (.iconst 0, 1) := by decide +kernel
theorem dX7_have_67 : decode cX7_have 67 = .ok (.goto 5, 3) := by decide +kernel
theorem dX7_have_70 : decode cX7_have 70 = .ok (.bipush (-2), 2) := by decide +kernel
theorem dX7_have_72 : decode cX7_have 72 = .ok (.ireturn, 1) := by decide +kernel
theorem dX7_have_73 : decode cX7_have 73 = .ok (.aload_n 0, 1) := by decide +kernel
theorem dX7_have_74 : decode cX7_have 74 = .ok (.iload_n 2, 1) := by decide +kernel
theorem dX7_have_75 : decode cX7_have 75 = .ok (.bipush 10, 2) := by decide +kernel
theorem dX7_have_77 : decode cX7_have 77 = .ok (.idiv, 1) := by decide +kernel
theorem dX7_have_78 : decode cX7_have 78 = .ok (.iload_n 2, 1) := by decide +kernel
theorem dX7_have_79 : decode cX7_have 79 = .ok (.bipush 10, 2) := by decide +kernel
theorem dX7_have_81 : decode cX7_have 81 = .ok (.irem, 1) := by decide +kernel
theorem dX7_have_82 : decode cX7_have 82 = .ok (.invokevirtual 200, 3) := by decide +kernel
theorem dX7_have_85 : decode cX7_have 85 = .ok (.istore 5, 2) := by decide +kernel
theorem dX7_have_87 : decode cX7_have 87 = .ok (.iload 5, 2) := by decide +kernel
theorem dX7_have_89 : decode cX7_have 89 = .ok (.bipush (-2), 2) := by decide +kernel
theorem dX7_have_91 : decode cX7_have 91 = .ok (.if_icmp .ne 6, 3) := by decide +kernel
theorem dX7_have_94 : decode cX7_have 94 = .ok (.bipush (-2), 2) := by decide +kernel
theorem dX7_have_96 : decode cX7_have 96 = .ok (.ireturn, 1) := by decide +kernel
theorem dX7_have_97 : decode cX7_have 97 = .ok (.iload_n 3, 1) := by decide +kernel
theorem dX7_have_98 : decode cX7_have 98 = .ok (.lookupswitch 41 #[(0, 26), (1, 32)], 26) := by decide +kernel
theorem dX7_have_124 : decode cX7_have 124 = .ok (.iload 5, 2) := by decide +kernel
theorem dX7_have_126 : decode cX7_have 126 = .ok (.bipush 70, 2) := by decide +kernel
theorem dX7_have_128 : decode cX7_have 128 = .ok (.idiv, 1) := by decide +kernel
theorem dX7_have_129 : decode cX7_have 129 = .ok (.ireturn, 1) := by decide +kernel
theorem dX7_have_130 : decode cX7_have 130 = .ok (.iload 5, 2) := by decide +kernel
theorem dX7_have_132 : decode cX7_have 132 = .ok (.bipush 10, 2) := by decide +kernel
theorem dX7_have_134 : decode cX7_have 134 = .ok (.idiv, 1) := by decide +kernel
theorem dX7_have_135 : decode cX7_have 135 = .ok (.bipush 7, 2) := by decide +kernel
theorem dX7_have_137 : decode cX7_have 137 = .ok (.irem, 1) := by decide +kernel
theorem dX7_have_138 : decode cX7_have 138 = .ok (.ireturn, 1) := by decide +kernel
theorem dX7_have_139 : decode cX7_have 139 = .ok (.iload 5, 2) := by decide +kernel
theorem dX7_have_141 : decode cX7_have 141 = .ok (.bipush 10, 2) := by decide +kernel
theorem dX7_have_143 : decode cX7_have 143 = .ok (.irem, 1) := by decide +kernel
theorem dX7_have_144 : decode cX7_have 144 = .ok (.ireturn, 1) := by decide +kernel
theorem dX7_cheapestWay_0 : decode cX7_cheapestWay 0 = .ok (.aload_n 0, 1) := by decide +kernel
theorem dX7_cheapestWay_1 : decode cX7_cheapestWay 1 = .ok (.getfield 16, 3) := by decide +kernel
theorem dX7_cheapestWay_4 : decode cX7_cheapestWay 4 = .ok (.aload_n 0, 1) := by decide +kernel
theorem dX7_cheapestWay_5 : decode cX7_cheapestWay 5 = .ok (.getfield 25, 3) := by decide +kernel
theorem dX7_cheapestWay_8 : decode cX7_cheapestWay 8 = .ok (.getfield 172, 3) := by decide +kernel
theorem dX7_cheapestWay_11 : decode cX7_cheapestWay 11 = .ok (.invokevirtual 203, 3) := by decide +kernel
theorem dX7_cheapestWay_14 : decode cX7_cheapestWay 14 = .ok (.bipush (-2), 2) := by decide +kernel
theorem dX7_cheapestWay_16 : decode cX7_cheapestWay 16 = .ok (.istore_n 3, 1) := by decide +kernel
theorem dX7_cheapestWay_17 : decode cX7_cheapestWay 17 = .ok (.iconst 0, 1) := by decide +kernel
theorem dX7_cheapestWay_18 : decode cX7_cheapestWay 18 = .ok (.istore 4, 2) := by decide +kernel
theorem dX7_cheapestWay_20 : decode cX7_cheapestWay 20 = .ok (.iload 4, 2) := by decide +kernel
theorem dX7_cheapestWay_22 : decode cX7_cheapestWay 22 = .ok (.aload_n 0, 1) := by decide +kernel
theorem dX7_cheapestWay_23 : decode cX7_cheapestWay 23 = .ok (.getfield 10, 3) := by decide +kernel
theorem dX7_cheapestWay_26 : decode cX7_cheapestWay 26 = .ok (.getfield 75, 3) := by decide +kernel
theorem dX7_cheapestWay_29 : decode cX7_cheapestWay 29 = .ok (.if_icmp .ge 142, 3) := by decide +kernel
theorem dX7_cheapestWay_32 : decode cX7_cheapestWay 32 = .ok (.aload_n 0, 1) := by decide +kernel
theorem dX7_cheapestWay_33 : decode cX7_cheapestWay 33 = .ok (.getfield 25, 3) := by decide +kernel
theorem dX7_cheapestWay_36 : decode cX7_cheapestWay 36 = .ok (.getfield 207, 3) := by decide +kernel
theorem dX7_cheapestWay_39 : decode cX7_cheapestWay 39 = .ok (.iload 4, 2) := by decide +kernel
theorem dX7_cheapestWay_41 : decode cX7_cheapestWay 41 = .ok (.bipush 10, 2) := by decide +kernel
theorem dX7_cheapestWay_43 : decode cX7_cheapestWay 43 = .ok (.imul, 1) := by decide +kernel
theorem dX7_cheapestWay_44 : decode cX7_cheapestWay 44 = .ok (.iload_n 1, 1) := by decide +kernel
theorem dX7_cheapestWay_45 : decode cX7_cheapestWay 45 = .ok (.iadd, 1) := by decide +kernel
theorem dX7_cheapestWay_46 : decode cX7_cheapestWay 46 = .ok (.iaload, 1) := by decide +kernel
theorem dX7_cheapestWay_47 : decode cX7_cheapestWay 47 = .ok (.istore 5, 2) := by decide +kernel
theorem dX7_cheapestWay_49 : decode cX7_cheapestWay 49 = .ok (.iconst 0, 1) := by decide +kernel
theorem dX7_cheapestWay_50 : decode cX7_cheapestWay 50 = .ok (.istore 6, 2) := by decide +kernel
theorem dX7_cheapestWay_52 : decode cX7_cheapestWay 52 = .ok (.iload 6, 2) := by decide +kernel
theorem dX7_cheapestWay_54 : decode cX7_cheapestWay 54 = .ok (.bipush 10, 2) := by decide +kernel
theorem dX7_cheapestWay_56 : decode cX7_cheapestWay 56 = .ok (.if_icmp .ge 92, 3) := by decide +kernel
theorem dX7_cheapestWay_59 : decode cX7_cheapestWay 59 = .ok (.aload_n 0, 1) := by decide +kernel
theorem dX7_cheapestWay_60 : decode cX7_cheapestWay 60 = .ok (.getfield 25, 3) := by decide +kernel
theorem dX7_cheapestWay_63 : decode cX7_cheapestWay 63 = .ok (.getfield 172, 3) := by decide +kernel
theorem dX7_cheapestWay_66 : decode cX7_cheapestWay 66 = .ok (.aload_n 0, 1) := by decide +kernel
theorem dX7_cheapestWay_67 : decode cX7_cheapestWay 67 = .ok (.getfield 16, 3) := by decide +kernel
theorem dX7_cheapestWay_70 : decode cX7_cheapestWay 70 = .ok (.invokevirtual 203, 3) := by decide +kernel
theorem dX7_cheapestWay_73 : decode cX7_cheapestWay 73 = .ok (.aload_n 0, 1) := by decide +kernel
theorem dX7_cheapestWay_74 : decode cX7_cheapestWay 74 = .ok (.getfield 25, 3) := by decide +kernel
theorem dX7_cheapestWay_77 : decode cX7_cheapestWay 77 = .ok (.aload_n 0, 1) := by decide +kernel
theorem dX7_cheapestWay_78 : decode cX7_cheapestWay 78 = .ok (.getfield 66, 3) := by decide +kernel
theorem dX7_cheapestWay_81 : decode cX7_cheapestWay 81 = .ok (.aload_n 0, 1) := by decide +kernel
theorem dX7_cheapestWay_82 : decode cX7_cheapestWay 82 = .ok (.getfield 132, 3) := by decide +kernel
theorem dX7_cheapestWay_85 : decode cX7_cheapestWay 85 = .ok (.iload 4, 2) := by decide +kernel
theorem dX7_cheapestWay_87 : decode cX7_cheapestWay 87 = .ok (.iload_n 1, 1) := by decide +kernel
theorem dX7_cheapestWay_88 : decode cX7_cheapestWay 88 = .ok (.iconst 2, 1) := by decide +kernel
theorem dX7_cheapestWay_89 : decode cX7_cheapestWay 89 = .ok (.imul, 1) := by decide +kernel
theorem dX7_cheapestWay_90 : decode cX7_cheapestWay 90 = .ok (.iload_n 2, 1) := by decide +kernel
theorem dX7_cheapestWay_91 : decode cX7_cheapestWay 91 = .ok (.iadd, 1) := by decide +kernel
theorem dX7_cheapestWay_92 : decode cX7_cheapestWay 92 = .ok (.iload 6, 2) := by decide +kernel
theorem dX7_cheapestWay_94 : decode cX7_cheapestWay 94 = .ok (.invokevirtual 210, 3) := by decide +kernel
theorem dX7_cheapestWay_97 : decode cX7_cheapestWay 97 = .ok (.istore 7, 2) := by decide +kernel
theorem dX7_cheapestWay_99 : decode cX7_cheapestWay 99 = .ok (.iload 7, 2) := by decide +kernel
theorem dX7_cheapestWay_101 : decode cX7_cheapestWay 101 = .ok (.bipush 7, 2) := by decide +kernel
theorem dX7_cheapestWay_103 : decode cX7_cheapestWay 103 = .ok (.imul, 1) := by decide +kernel
theorem dX7_cheapestWay_104 : decode cX7_cheapestWay 104 = .ok (.iload 4, 2) := by decide +kernel
theorem dX7_cheapestWay_106 : decode cX7_cheapestWay 106 = .ok (.iadd, 1) := by decide +kernel
theorem dX7_cheapestWay_107 : decode cX7_cheapestWay 107 = .ok (.bipush 10, 2) := by decide +kernel
theorem dX7_cheapestWay_109 : decode cX7_cheapestWay 109 = .ok (.imul, 1) := by decide +kernel
theorem dX7_cheapestWay_110 : decode cX7_cheapestWay 110 = .ok (.iload 6, 2) := by decide +kernel
theorem dX7_cheapestWay_112 : decode cX7_cheapestWay 112 = .ok (.iadd, 1) := by decide +kernel
theorem dX7_cheapestWay_113 : decode cX7_cheapestWay 113 = .ok (.istore 8, 2) := by decide +kernel
theorem dX7_cheapestWay_115 : decode cX7_cheapestWay 115 = .ok (.aload_n 0, 1) := by decide +kernel
theorem dX7_cheapestWay_116 : decode cX7_cheapestWay 116 = .ok (.getfield 25, 3) := by decide +kernel
theorem dX7_cheapestWay_119 : decode cX7_cheapestWay 119 = .ok (.iload_n 1, 1) := by decide +kernel
theorem dX7_cheapestWay_120 : decode cX7_cheapestWay 120 = .ok (.invokevirtual 181, 3) := by decide +kernel
theorem dX7_cheapestWay_123 : decode cX7_cheapestWay 123 = .ok (.iload_n 2, 1) := by decide +kernel
theorem dX7_cheapestWay_124 : decode cX7_cheapestWay 124 = .ok (.if_icmp .ne 18, 3) := by decide +kernel
theorem dX7_cheapestWay_127 : decode cX7_cheapestWay 127 = .ok (.iload_n 3, 1) := by decide +kernel
theorem dX7_cheapestWay_128 : decode cX7_cheapestWay 128 = .ok (.bipush (-2), 2) := by decide +kernel
theorem dX7_cheapestWay_130 : decode cX7_cheapestWay 130 = .ok (.if_icmp .eq 9, 3) := by decide +kernel
theorem dX7_cheapestWay_133 : decode cX7_cheapestWay 133 = .ok (.iload 8, 2) := by decide +kernel
theorem dX7_cheapestWay_135 : decode cX7_cheapestWay 135 = .ok (.iload_n 3, 1) := by decide +kernel
theorem dX7_cheapestWay_136 : decode cX7_cheapestWay 136 = .ok (.if_icmp .ge 6, 3) := by decide +kernel
theorem dX7_cheapestWay_139 : decode cX7_cheapestWay 139 = .ok (.iload 8, 2) := by decide +kernel
theorem dX7_cheapestWay_141 : decode cX7_cheapestWay 141 = .ok (.istore_n 3, 1) := by decide +kernel
theorem dX7_cheapestWay_142 : decode cX7_cheapestWay 142 = .ok (.iinc 6 1, 3) := by decide +kernel
theorem dX7_cheapestWay_145 : decode cX7_cheapestWay 145 = .ok (.goto (-93), 3) := by decide +kernel
theorem dX7_cheapestWay_148 : decode cX7_cheapestWay 148 = .ok (.aload_n 0, 1) := by decide +kernel
theorem dX7_cheapestWay_149 : decode cX7_cheapestWay 149 = .ok (.getfield 25, 3) := by decide +kernel
theorem dX7_cheapestWay_152 : decode cX7_cheapestWay 152 = .ok (.getfield 207, 3) := by decide +kernel
theorem dX7_cheapestWay_155 : decode cX7_cheapestWay 155 = .ok (.iload 4, 2) := by decide +kernel
theorem dX7_cheapestWay_157 : decode cX7_cheapestWay 157 = .ok (.bipush 10, 2) := by decide +kernel
theorem dX7_cheapestWay_159 : decode cX7_cheapestWay 159 = .ok (.imul, 1) := by decide +kernel
theorem dX7_cheapestWay_160 : decode cX7_cheapestWay 160 = .ok (.iload_n 1, 1) := by decide +kernel
theorem dX7_cheapestWay_161 : decode cX7_cheapestWay 161 = .ok (.iadd, 1) := by decide +kernel
theorem dX7_cheapestWay_162 : decode cX7_cheapestWay 162 = .ok (.iload 5, 2) := by decide +kernel
theorem dX7_cheapestWay_164 : decode cX7_cheapestWay 164 = .ok (.iastore, 1) := by decide +kernel
theorem dX7_cheapestWay_165 : decode cX7_cheapestWay 165 = .ok (.iinc 4 1, 3) := by decide +kernel
theorem dX7_cheapestWay_168 : decode cX7_cheapestWay 168 = .ok (.goto (-148), 3) := by decide +kernel
theorem dX7_cheapestWay_171 : decode cX7_cheapestWay 171 = .ok (.iload_n 3, 1) := by decide +kernel
theorem dX7_cheapestWay_172 : decode cX7_cheapestWay 172 = .ok (.ireturn, 1) := by decide +kernel
theorem dX7_left_0 : decode cX7_left 0 = .ok (.aload_n 0, 1) := by decide +kernel
theorem dX7_left_1 : decode cX7_left 1 = .ok (.iload_n 1, 1) := by decide +kernel
theorem dX7_left_2 : decode cX7_left 2 = .ok (.invokevirtual 126, 3) := by decide +kernel
theorem dX7_left_5 : decode cX7_left 5 = .ok (.ifCond .ne 12, 3) := by decide +kernel
theorem dX7_left_8 : decode cX7_left 8 = .ok (.iload_n 2, 1) := by decide +kernel
theorem dX7_left_9 : decode cX7_left 9 = .ok (.bipush 9, 2) := by decide +kernel
theorem dX7_left_11 : decode cX7_left 11 = .ok (.invokestatic 71, 3) := by decide +kernel
theorem dX7_left_14 : decode cX7_left 14 = .ok (.ifCond .eq 5, 3) := by decide +kernel
theorem dX7_left_17 : decode cX7_left 17 = .ok (.iconst (-1), 1) := by decide +kernel
theorem dX7_left_18 : decode cX7_left 18 = .ok (.ireturn, 1) := by decide +kernel
theorem dX7_left_19 : decode cX7_left 19 = .ok (.aload_n 0, 1) := by decide +kernel
theorem dX7_left_20 : decode cX7_left 20 = .ok (.getfield 16, 3) := by decide +kernel
theorem dX7_left_23 : decode cX7_left 23 = .ok (.aload_n 0, 1) := by decide +kernel
theorem dX7_left_24 : decode cX7_left 24 = .ok (.getfield 10, 3) := by decide +kernel
theorem dX7_left_27 : decode cX7_left 27 = .ok (.invokevirtual 203, 3) := by decide +kernel
theorem dX7_left_30 : decode cX7_left 30 = .ok (.iconst 0, 1) := by decide +kernel
theorem dX7_left_31 : decode cX7_left 31 = .ok (.istore_n 3, 1) := by decide +kernel
theorem dX7_left_32 : decode cX7_left 32 = .ok (.iload_n 3, 1) := by decide +kernel
theorem dX7_left_33 : decode cX7_left 33 = .ok (.bipush 99, 2) := by decide +kernel
theorem dX7_left_35 : decode cX7_left 35 = .ok (.if_icmp .gt 37, 3) := by decide +kernel
theorem dX7_left_38 : decode cX7_left 38 = .ok (.aload_n 0, 1) := by decide +kernel
theorem dX7_left_39 : decode cX7_left 39 = .ok (.getfield 16, 3) := by decide +kernel
theorem dX7_left_42 : decode cX7_left 42 = .ok (.iload_n 1, 1) := by decide +kernel
theorem dX7_left_43 : decode cX7_left 43 = .ok (.invokevirtual 214, 3) := by decide +kernel
theorem dX7_left_46 : decode cX7_left 46 = .ok (.ifCond .eq 5, 3) := by decide +kernel
theorem dX7_left_49 : decode cX7_left 49 = .ok (.iload_n 3, 1) := by decide +kernel
theorem dX7_left_50 : decode cX7_left 50 = .ok (.ireturn, 1) := by decide +kernel
theorem dX7_left_51 : decode cX7_left 51 = .ok (.aload_n 0, 1) := by decide +kernel
theorem dX7_left_52 : decode cX7_left 52 = .ok (.getfield 16, 3) := by decide +kernel
theorem dX7_left_55 : decode cX7_left 55 = .ok (.aload_n 0, 1) := by decide +kernel
theorem dX7_left_56 : decode cX7_left 56 = .ok (.getfield 66, 3) := by decide +kernel
theorem dX7_left_59 : decode cX7_left 59 = .ok (.iload_n 1, 1) := by decide +kernel
theorem dX7_left_60 : decode cX7_left 60 = .ok (.iconst 0, 1) := by decide +kernel
theorem dX7_left_61 : decode cX7_left 61 = .ok (.iload_n 2, 1) := by decide +kernel
theorem dX7_left_62 : decode cX7_left 62 = .ok (.invokevirtual 217, 3) := by decide +kernel
theorem dX7_left_65 : decode cX7_left 65 = .ok (.pop, 1) := by decide +kernel
theorem dX7_left_66 : decode cX7_left 66 = .ok (.iinc 3 1, 3) := by decide +kernel
theorem dX7_left_69 : decode cX7_left 69 = .ok (.goto (-37), 3) := by decide +kernel
theorem dX7_left_72 : decode cX7_left 72 = .ok (.bipush (-2), 2) := by decide +kernel
theorem dX7_left_74 : decode cX7_left 74 = .ok (.ireturn, 1) := by decide +kernel
theorem dX7_enough_0 : decode cX7_enough 0 = .ok (.iload_n 1, 1) := by decide +kernel
theorem dX7_enough_1 : decode cX7_enough 1 = .ok (.sipush 999, 3) := by decide +kernel
theorem dX7_enough_4 : decode cX7_enough 4 = .ok (.invokestatic 71, 3) := by decide +kernel
theorem dX7_enough_7 : decode cX7_enough 7 = .ok (.ifCond .ne 11, 3) := by decide +kernel
theorem dX7_enough_10 : decode cX7_enough 10 = .ok (.iload_n 2, 1) := by decide +kernel
theorem dX7_enough_11 : decode cX7_enough 11 = .ok (.iconst 1, 1) := by decide +kernel
theorem dX7_enough_12 : decode cX7_enough 12 = .ok (.invokestatic 71, 3) := by decide +kernel
theorem dX7_enough_15 : decode cX7_enough 15 = .ok (.ifCond .eq 5, 3) := by decide +kernel
theorem dX7_enough_18 : decode cX7_enough 18 = .ok (.iconst (-1), 1) := by decide +kernel
theorem dX7_enough_19 : decode cX7_enough 19 = .ok (.ireturn, 1) := by decide +kernel
theorem dX7_enough_20 : decode cX7_enough 20 = .ok (.bipush (-2), 2) := by decide +kernel
theorem dX7_enough_22 : decode cX7_enough 22 = .ok (.istore_n 3, 1) := by decide +kernel
theorem dX7_enough_23 : decode cX7_enough 23 = .ok (.iconst 0, 1) := by decide +kernel
theorem dX7_enough_24 : decode cX7_enough 24 = .ok (.istore 4, 2) := by decide +kernel
theorem dX7_enough_26 : decode cX7_enough 26 = .ok (.iload 4, 2) := by decide +kernel
theorem dX7_enough_28 : decode cX7_enough 28 = .ok (.iconst 1, 1) := by decide +kernel
theorem dX7_enough_29 : decode cX7_enough 29 = .ok (.aload_n 0, 1) := by decide +kernel
theorem dX7_enough_30 : decode cX7_enough 30 = .ok (.getfield 10, 3) := by decide +kernel
theorem dX7_enough_33 : decode cX7_enough 33 = .ok (.getfield 75, 3) := by decide +kernel
theorem dX7_enough_36 : decode cX7_enough 36 = .ok (.ishl, 1) := by decide +kernel
theorem dX7_enough_37 : decode cX7_enough 37 = .ok (.if_icmp .ge 55, 3) := by decide +kernel
theorem dX7_enough_40 : decode cX7_enough 40 = .ok (.iload_n 3, 1) := by decide +kernel
theorem dX7_enough_41 : decode cX7_enough 41 = .ok (.bipush (-2), 2) := by decide +kernel
theorem dX7_enough_43 : decode cX7_enough 43 = .ok (.if_icmp .eq 15, 3) := by decide +kernel
theorem dX7_enough_46 : decode cX7_enough 46 = .ok (.iload 4, 2) := by decide +kernel
theorem dX7_enough_48 : decode cX7_enough 48 = .ok (.invokestatic 221, 3) := by decide +kernel
theorem dX7_enough_51 : decode cX7_enough 51 = .ok (.iload_n 3, 1) := by decide +kernel
theorem dX7_enough_52 : decode cX7_enough 52 = .ok (.invokestatic 221, 3) := by decide +kernel
theorem dX7_enough_55 : decode cX7_enough 55 = .ok (.if_icmp .ge 7, 3) := by decide +kernel
theorem dX7_enough_58 : decode cX7_enough 58 = .ok (.iconst 1, 1) := by decide +kernel
theorem dX7_enough_59 : decode cX7_enough 59 = .ok (.goto 4, 3) := by decide +kernel
theorem dX7_enough_62 : decode cX7_enough 62 = .ok (.iconst 0, 1) := by decide +kernel
theorem dX7_enough_63 : decode cX7_enough 63 = .ok (.istore 5, 2) := by decide +kernel
theorem dX7_enough_65 : decode cX7_enough 65 = .ok (.iload 5, 2) := by decide +kernel
theorem dX7_enough_67 : decode cX7_enough 67 = .ok (.ifCond .eq 19, 3) := by decide +kernel
theorem dX7_enough_70 : decode cX7_enough 70 = .ok (.aload_n 0, 1) := by decide +kernel
theorem dX7_enough_71 : decode cX7_enough 71 = .ok (.getfield 10, 3) := by decide +kernel
theorem dX7_enough_74 : decode cX7_enough 74 = .ok (.iload 4, 2) := by decide +kernel
theorem dX7_enough_76 : decode cX7_enough 76 = .ok (.invokevirtual 226, 3) := by decide +kernel
theorem dX7_enough_79 : decode cX7_enough 79 = .ok (.iload_n 1, 1) := by decide +kernel
theorem dX7_enough_80 : decode cX7_enough 80 = .ok (.if_icmp .lt 6, 3) := by decide +kernel
theorem dX7_enough_83 : decode cX7_enough 83 = .ok (.iload 4, 2) := by decide +kernel
theorem dX7_enough_85 : decode cX7_enough 85 = .ok (.istore_n 3, 1) := by decide +kernel
theorem dX7_enough_86 : decode cX7_enough 86 = .ok (.iinc 4 1, 3) := by decide +kernel
theorem dX7_enough_89 : decode cX7_enough 89 = .ok (.goto (-63), 3) := by decide +kernel
theorem dX7_enough_92 : decode cX7_enough 92 = .ok (.iload_n 3, 1) := by decide +kernel
theorem dX7_enough_93 : decode cX7_enough 93 = .ok (.bipush (-2), 2) := by decide +kernel
theorem dX7_enough_95 : decode cX7_enough 95 = .ok (.if_icmp .eq 8, 3) := by decide +kernel
theorem dX7_enough_98 : decode cX7_enough 98 = .ok (.iload_n 2, 1) := by decide +kernel
theorem dX7_enough_99 : decode cX7_enough 99 = .ok (.iconst 1, 1) := by decide +kernel
theorem dX7_enough_100 : decode cX7_enough 100 = .ok (.if_icmp .ne 7, 3) := by decide +kernel
theorem dX7_enough_103 : decode cX7_enough 103 = .ok (.iload_n 3, 1) := by decide +kernel
theorem dX7_enough_104 : decode cX7_enough 104 = .ok (.goto 7, 3) := by decide +kernel
theorem dX7_enough_107 : decode cX7_enough 107 = .ok (.iload_n 3, 1) := by decide +kernel
theorem dX7_enough_108 : decode cX7_enough 108 = .ok (.invokestatic 221, 3) := by decide +kernel
theorem dX7_enough_111 : decode cX7_enough 111 = .ok (.ireturn, 1) := by decide +kernel
theorem dX7_jury_0 : decode cX7_jury 0 = .ok (.iload_n 1, 1) := by decide +kernel
theorem dX7_jury_1 : decode cX7_jury 1 = .ok (.sipush 999, 3) := by decide +kernel
theorem dX7_jury_4 : decode cX7_jury 4 = .ok (.invokestatic 71, 3) := by decide +kernel
theorem dX7_jury_7 : decode cX7_jury 7 = .ok (.ifCond .eq 5, 3) := by decide +kernel
theorem dX7_jury_10 : decode cX7_jury 10 = .ok (.iconst (-1), 1) := by decide +kernel
theorem dX7_jury_11 : decode cX7_jury 11 = .ok (.ireturn, 1) := by decide +kernel
theorem dX7_jury_12 : decode cX7_jury 12 = .ok (.iload_n 1, 1) := by decide +kernel
theorem dX7_jury_13 : decode cX7_jury 13 = .ok (.bipush 100, 2) := by decide +kernel
theorem dX7_jury_15 : decode cX7_jury 15 = .ok (.idiv, 1) := by decide +kernel
theorem dX7_jury_16 : decode cX7_jury 16 = .ok (.istore_n 2, 1) := by decide +kernel
theorem dX7_jury_17 : decode cX7_jury 17 = .ok (.iload_n 1, 1) := by decide +kernel
theorem dX7_jury_18 : decode cX7_jury 18 = .ok (.bipush 10, 2) := by decide +kernel
theorem dX7_jury_20 : decode cX7_jury 20 = .ok (.idiv, 1) := by decide +kernel
theorem dX7_jury_21 : decode cX7_jury 21 = .ok (.bipush 10, 2) := by decide +kernel
theorem dX7_jury_23 : decode cX7_jury 23 = .ok (.irem, 1) := by decide +kernel
theorem dX7_jury_24 : decode cX7_jury 24 = .ok (.istore_n 3, 1) := by decide +kernel
theorem dX7_jury_25 : decode cX7_jury 25 = .ok (.iload_n 1, 1) := by decide +kernel
theorem dX7_jury_26 : decode cX7_jury 26 = .ok (.bipush 10, 2) := by decide +kernel
theorem dX7_jury_28 : decode cX7_jury 28 = .ok (.irem, 1) := by decide +kernel
theorem dX7_jury_29 : decode cX7_jury 29 = .ok (.istore 4, 2) := by decide +kernel
theorem dX7_jury_31 : decode cX7_jury 31 = .ok (.aload_n 0, 1) := by decide +kernel
theorem dX7_jury_32 : decode cX7_jury 32 = .ok (.iload_n 2, 1) := by decide +kernel
theorem dX7_jury_33 : decode cX7_jury 33 = .ok (.invokevirtual 126, 3) := by decide +kernel
theorem dX7_jury_36 : decode cX7_jury 36 = .ok (.ifCond .ne 37, 3) := by decide +kernel
theorem dX7_jury_39 : decode cX7_jury 39 = .ok (.aload_n 0, 1) := by decide +kernel
theorem dX7_jury_40 : decode cX7_jury 40 = .ok (.iload_n 3, 1) := by decide +kernel
theorem dX7_jury_41 : decode cX7_jury 41 = .ok (.invokevirtual 126, 3) := by decide +kernel
theorem dX7_jury_44 : decode cX7_jury 44 = .ok (.ifCond .ne 29, 3) := by decide +kernel
theorem dX7_jury_47 : decode cX7_jury 47 = .ok (.aload_n 0, 1) := by decide +kernel
theorem dX7_jury_48 : decode cX7_jury 48 = .ok (.iload 4, 2) := by decide +kernel
theorem dX7_jury_50 : decode cX7_jury 50 = .ok (.invokevirtual 126, 3) := by decide +kernel
theorem dX7_jury_53 : decode cX7_jury 53 = .ok (.ifCond .ne 20, 3) := by decide +kernel
theorem dX7_jury_56 : decode cX7_jury 56 = .ok (.iload_n 2, 1) := by decide +kernel
theorem dX7_jury_57 : decode cX7_jury 57 = .ok (.iload_n 3, 1) := by decide +kernel
theorem dX7_jury_58 : decode cX7_jury 58 = .ok (.if_icmp .eq 15, 3) := by decide +kernel
theorem dX7_jury_61 : decode cX7_jury 61 = .ok (.iload_n 2, 1) := by decide +kernel
theorem dX7_jury_62 : decode cX7_jury 62 = .ok (.iload 4, 2) := by decide +kernel
theorem dX7_jury_64 : decode cX7_jury 64 = .ok (.if_icmp .eq 9, 3) := by decide +kernel
theorem dX7_jury_67 : decode cX7_jury 67 = .ok (.iload_n 3, 1) := by decide +kernel
theorem dX7_jury_68 : decode cX7_jury 68 = .ok (.iload 4, 2) := by decide +kernel
theorem dX7_jury_70 : decode cX7_jury 70 = .ok (.if_icmp .ne 5, 3) := by decide +kernel
theorem dX7_jury_73 : decode cX7_jury 73 = .ok (.iconst (-1), 1) := by decide +kernel
theorem dX7_jury_74 : decode cX7_jury 74 = .ok (.ireturn, 1) := by decide +kernel
theorem dX7_jury_75 : decode cX7_jury 75 = .ok (.aload_n 0, 1) := by decide +kernel
theorem dX7_jury_76 : decode cX7_jury 76 = .ok (.iload_n 2, 1) := by decide +kernel
theorem dX7_jury_77 : decode cX7_jury 77 = .ok (.iload_n 3, 1) := by decide +kernel
theorem dX7_jury_78 : decode cX7_jury 78 = .ok (.invokevirtual 229, 3) := by decide +kernel
theorem dX7_jury_81 : decode cX7_jury 81 = .ok (.aload_n 0, 1) := by decide +kernel
theorem dX7_jury_82 : decode cX7_jury 82 = .ok (.iload_n 2, 1) := by decide +kernel
theorem dX7_jury_83 : decode cX7_jury 83 = .ok (.iload 4, 2) := by decide +kernel
theorem dX7_jury_85 : decode cX7_jury 85 = .ok (.invokevirtual 229, 3) := by decide +kernel
theorem dX7_jury_88 : decode cX7_jury 88 = .ok (.if_icmp .eq 5, 3) := by decide +kernel
theorem dX7_jury_91 : decode cX7_jury 91 = .ok (.iload_n 2, 1) := by decide +kernel
theorem dX7_jury_92 : decode cX7_jury 92 = .ok (.ireturn, 1) := by decide +kernel
theorem dX7_jury_93 : decode cX7_jury 93 = .ok (.aload_n 0, 1) := by decide +kernel
theorem dX7_jury_94 : decode cX7_jury 94 = .ok (.iload_n 3, 1) := by decide +kernel
theorem dX7_jury_95 : decode cX7_jury 95 = .ok (.iload_n 2, 1) := by decide +kernel
theorem dX7_jury_96 : decode cX7_jury 96 = .ok (.invokevirtual 229, 3) := by decide +kernel
theorem dX7_jury_99 : decode cX7_jury 99 = .ok (.aload_n 0, 1) := by decide +kernel
theorem dX7_jury_100 : decode cX7_jury 100 = .ok (.iload_n 3, 1) := by decide +kernel
theorem dX7_jury_101 : decode cX7_jury 101 = .ok (.iload 4, 2) := by decide +kernel
theorem dX7_jury_103 : decode cX7_jury 103 = .ok (.invokevirtual 229, 3) := by decide +kernel
theorem dX7_jury_106 : decode cX7_jury 106 = .ok (.if_icmp .eq 7, 3) := by decide +kernel
theorem dX7_jury_109 : decode cX7_jury 109 = .ok (.iload_n 3, 1) := by decide +kernel
theorem dX7_jury_110 : decode cX7_jury 110 = .ok (.goto 5, 3) := by decide +kernel
theorem dX7_jury_113 : decode cX7_jury 113 = .ok (.iload 4, 2) := by decide +kernel
theorem dX7_jury_115 : decode cX7_jury 115 = .ok (.ireturn, 1) := by decide +kernel
theorem dX7_isLesser_0 : decode cX7_isLesser 0 = .ok (.aload_n 0, 1) := by decide +kernel
theorem dX7_isLesser_1 : decode cX7_isLesser 1 = .ok (.getfield 10, 3) := by decide +kernel
theorem dX7_isLesser_4 : decode cX7_isLesser 4 = .ok (.iload_n 1, 1) := by decide +kernel
theorem dX7_isLesser_5 : decode cX7_isLesser 5 = .ok (.invokevirtual 138, 3) := by decide +kernel
theorem dX7_isLesser_8 : decode cX7_isLesser 8 = .ok (.aload_n 0, 1) := by decide +kernel
theorem dX7_isLesser_9 : decode cX7_isLesser 9 = .ok (.getfield 10, 3) := by decide +kernel
theorem dX7_isLesser_12 : decode cX7_isLesser 12 = .ok (.iload_n 2, 1) := by decide +kernel
theorem dX7_isLesser_13 : decode cX7_isLesser 13 = .ok (.invokevirtual 138, 3) := by decide +kernel
theorem dX7_isLesser_16 : decode cX7_isLesser 16 = .ok (.isub, 1) := by decide +kernel
theorem dX7_isLesser_17 : decode cX7_isLesser 17 = .ok (.istore_n 3, 1) := by decide +kernel
theorem dX7_isLesser_18 : decode cX7_isLesser 18 = .ok (.iload_n 3, 1) := by decide +kernel
theorem dX7_isLesser_19 : decode cX7_isLesser 19 = .ok (.ifCond .lt 12, 3) := by decide +kernel
theorem dX7_isLesser_22 : decode cX7_isLesser 22 = .ok (.iload_n 3, 1) := by decide +kernel
theorem dX7_isLesser_23 : decode cX7_isLesser 23 = .ok (.ifCond .ne 12, 3) := by decide +kernel
theorem dX7_isLesser_26 : decode cX7_isLesser 26 = .ok (.iload_n 1, 1) := by decide +kernel
theorem dX7_isLesser_27 : decode cX7_isLesser 27 = .ok (.iload_n 2, 1) := by decide +kernel
theorem dX7_isLesser_28 : decode cX7_isLesser 28 = .ok (.if_icmp .ge 7, 3) := by decide +kernel
theorem dX7_isLesser_31 : decode cX7_isLesser 31 = .ok (.iconst 1, 1) := by decide +kernel
theorem dX7_isLesser_32 : decode cX7_isLesser 32 = .ok (.goto 4, 3) := by decide +kernel
theorem dX7_isLesser_35 : decode cX7_isLesser 35 = .ok (.iconst 0, 1) := by decide +kernel
theorem dX7_isLesser_36 : decode cX7_isLesser 36 = .ok (.ireturn, 1) := by decide +kernel
theorem dX7_bribe_0 : decode cX7_bribe 0 = .ok (.iload_n 1, 1) := by decide +kernel
theorem dX7_bribe_1 : decode cX7_bribe 1 = .ok (.invokestatic 86, 3) := by decide +kernel
theorem dX7_bribe_4 : decode cX7_bribe 4 = .ok (.ifCond .ne 18, 3) := by decide +kernel
theorem dX7_bribe_7 : decode cX7_bribe 7 = .ok (.iload_n 2, 1) := by decide +kernel
theorem dX7_bribe_8 : decode cX7_bribe 8 = .ok (.invokestatic 197, 3) := by decide +kernel
theorem dX7_bribe_11 : decode cX7_bribe 11 = .ok (.ifCond .ne 11, 3) := by decide +kernel
theorem dX7_bribe_14 : decode cX7_bribe 14 = .ok (.iload_n 3, 1) := by decide +kernel
theorem dX7_bribe_15 : decode cX7_bribe 15 = .ok (.iconst 1, 1) := by decide +kernel
theorem dX7_bribe_16 : decode cX7_bribe 16 = .ok (.invokestatic 71, 3) := by decide +kernel
theorem dX7_bribe_19 : decode cX7_bribe 19 = .ok (.ifCond .eq 5, 3) := by decide +kernel
theorem dX7_bribe_22 : decode cX7_bribe 22 = .ok (.iconst (-1), 1) := by decide +kernel
theorem dX7_bribe_23 : decode cX7_bribe 23 = .ok (.ireturn, 1) := by decide +kernel
theorem dX7_bribe_24 : decode cX7_bribe 24 = .ok (.aload_n 0, 1) := by decide +kernel
theorem dX7_bribe_25 : decode cX7_bribe 25 = .ok (.iload_n 1, 1) := by decide +kernel
theorem dX7_bribe_26 : decode cX7_bribe 26 = .ok (.invokevirtual 162, 3) := by decide +kernel
theorem dX7_bribe_29 : decode cX7_bribe 29 = .ok (.istore 4, 2) := by decide +kernel
theorem dX7_bribe_31 : decode cX7_bribe 31 = .ok (.iload 4, 2) := by decide +kernel
theorem dX7_bribe_33 : decode cX7_bribe 33 = .ok (.ifCond .eq 6, 3) := by decide +kernel
theorem dX7_bribe_36 : decode cX7_bribe 36 = .ok (.iload 4, 2) := by decide +kernel
theorem dX7_bribe_38 : decode cX7_bribe 38 = .ok (.ireturn, 1) := by decide +kernel
theorem dX7_bribe_39 : decode cX7_bribe 39 = .ok (.aload_n 0, 1) := by decide +kernel
theorem dX7_bribe_40 : decode cX7_bribe 40 = .ok (.getfield 25, 3) := by decide +kernel
theorem dX7_bribe_43 : decode cX7_bribe 43 = .ok (.aload_n 0, 1) := by decide +kernel
theorem dX7_bribe_44 : decode cX7_bribe 44 = .ok (.getfield 45, 3) := by decide +kernel
theorem dX7_bribe_47 : decode cX7_bribe 47 = .ok (.iload_n 1, 1) := by decide +kernel
theorem dX7_bribe_48 : decode cX7_bribe 48 = .ok (.aaload, 1) := by decide +kernel
theorem dX7_bribe_49 : decode cX7_bribe 49 = .ok (.aload_n 0, 1) := by decide +kernel
theorem dX7_bribe_50 : decode cX7_bribe 50 = .ok (.getfield 10, 3) := by decide +kernel
theorem dX7_bribe_53 : decode cX7_bribe 53 = .ok (.getfield 75, 3) := by decide +kernel
theorem dX7_bribe_56 : decode cX7_bribe 56 = .ok (.invokevirtual 232, 3) := by decide +kernel
theorem dX7_bribe_59 : decode cX7_bribe 59 = .ok (.aload_n 0, 1) := by decide +kernel
theorem dX7_bribe_60 : decode cX7_bribe 60 = .ok (.getfield 25, 3) := by decide +kernel
theorem dX7_bribe_63 : decode cX7_bribe 63 = .ok (.getfield 169, 3) := by decide +kernel
theorem dX7_bribe_66 : decode cX7_bribe 66 = .ok (.bipush 10, 2) := by decide +kernel
theorem dX7_bribe_68 : decode cX7_bribe 68 = .ok (.if_icmp .le 6, 3) := by decide +kernel
theorem dX7_bribe_71 : decode cX7_bribe 71 = .ok (.bipush (-5), 2) := by decide +kernel
theorem dX7_bribe_73 : decode cX7_bribe 73 = .ok (.ireturn, 1) := by decide +kernel
theorem dX7_bribe_74 : decode cX7_bribe 74 = .ok (.aload_n 0, 1) := by decide +kernel
theorem dX7_bribe_75 : decode cX7_bribe 75 = .ok (.iload_n 2, 1) := by decide +kernel
theorem dX7_bribe_76 : decode cX7_bribe 76 = .ok (.bipush 10, 2) := by decide +kernel
theorem dX7_bribe_78 : decode cX7_bribe 78 = .ok (.idiv, 1) := by decide +kernel
theorem dX7_bribe_79 : decode cX7_bribe 79 = .ok (.iload_n 2, 1) := by decide +kernel
theorem dX7_bribe_80 : decode cX7_bribe 80 = .ok (.bipush 10, 2) := by decide +kernel
theorem dX7_bribe_82 : decode cX7_bribe 82 = .ok (.irem, 1) := by decide +kernel
theorem dX7_bribe_83 : decode cX7_bribe 83 = .ok (.invokevirtual 235, 3) := by decide +kernel
theorem dX7_bribe_86 : decode cX7_bribe 86 = .ok (.istore 5, 2) := by decide +kernel
theorem dX7_bribe_88 : decode cX7_bribe 88 = .ok (.iload 5, 2) := by decide +kernel
theorem dX7_bribe_90 : decode cX7_bribe 90 = .ok (.bipush (-2), 2) := by decide +kernel
theorem dX7_bribe_92 : decode cX7_bribe 92 = .ok (.if_icmp .eq 8, 3) := by decide +kernel
theorem dX7_bribe_95 : decode cX7_bribe 95 = .ok (.iload_n 3, 1) := by decide +kernel
theorem dX7_bribe_96 : decode cX7_bribe 96 = .ok (.iconst 1, 1) := by decide +kernel
theorem dX7_bribe_97 : decode cX7_bribe 97 = .ok (.if_icmp .ne 8, 3) := by decide +kernel
theorem dX7_bribe_100 : decode cX7_bribe 100 = .ok (.iload 5, 2) := by decide +kernel
theorem dX7_bribe_102 : decode cX7_bribe 102 = .ok (.goto 8, 3) := by decide +kernel
theorem dX7_bribe_105 : decode cX7_bribe 105 = .ok (.iload 5, 2) := by decide +kernel
theorem dX7_bribe_107 : decode cX7_bribe 107 = .ok (.invokestatic 221, 3) := by decide +kernel
theorem dX7_bribe_110 : decode cX7_bribe 110 = .ok (.ireturn, 1) := by decide +kernel
theorem dX7_fewestTurned_0 : decode cX7_fewestTurned 0 = .ok (.bipush (-2), 2) := by decide +kernel
theorem dX7_fewestTurned_2 : decode cX7_fewestTurned 2 = .ok (.istore_n 3, 1) := by decide +kernel
theorem dX7_fewestTurned_3 : decode cX7_fewestTurned 3 = .ok (.iconst 0, 1) := by decide +kernel
theorem dX7_fewestTurned_4 : decode cX7_fewestTurned 4 = .ok (.istore 4, 2) := by decide +kernel
theorem dX7_fewestTurned_6 : decode cX7_fewestTurned 6 = .ok (.iload 4, 2) := by decide +kernel
theorem dX7_fewestTurned_8 : decode cX7_fewestTurned 8 = .ok (.iconst 1, 1) := by decide +kernel
theorem dX7_fewestTurned_9 : decode cX7_fewestTurned 9 = .ok (.aload_n 0, 1) := by decide +kernel
theorem dX7_fewestTurned_10 : decode cX7_fewestTurned 10 = .ok (.getfield 25, 3) := by decide +kernel
theorem dX7_fewestTurned_13 : decode cX7_fewestTurned 13 = .ok (.getfield 169, 3) := by decide +kernel
theorem dX7_fewestTurned_16 : decode cX7_fewestTurned 16 = .ok (.ishl, 1) := by decide +kernel
theorem dX7_fewestTurned_17 : decode cX7_fewestTurned 17 = .ok (.if_icmp .ge 63, 3) := by decide +kernel
theorem dX7_fewestTurned_20 : decode cX7_fewestTurned 20 = .ok (.iload_n 3, 1) := by decide +kernel
theorem dX7_fewestTurned_21 : decode cX7_fewestTurned 21 = .ok (.bipush (-2), 2) := by decide +kernel
theorem dX7_fewestTurned_23 : decode cX7_fewestTurned 23 = .ok (.if_icmp .eq 15, 3) := by decide +kernel
theorem dX7_fewestTurned_26 : decode cX7_fewestTurned 26 = .ok (.iload 4, 2) := by decide +kernel
theorem dX7_fewestTurned_28 : decode cX7_fewestTurned 28 = .ok (.invokestatic 221, 3) := by decide +kernel
theorem dX7_fewestTurned_31 : decode cX7_fewestTurned 31 = .ok (.iload_n 3, 1) := by decide +kernel
theorem dX7_fewestTurned_32 : decode cX7_fewestTurned 32 = .ok (.invokestatic 221, 3) := by decide +kernel
theorem dX7_fewestTurned_35 : decode cX7_fewestTurned 35 = .ok (.if_icmp .ge 39, 3) := by decide +kernel
theorem dX7_fewestTurned_38 : decode cX7_fewestTurned 38 = .ok (.aload_n 0, 1) := by decide +kernel
theorem dX7_fewestTurned_39 : decode cX7_fewestTurned 39 = .ok (.getfield 25, 3) := by decide +kernel
theorem dX7_fewestTurned_42 : decode cX7_fewestTurned 42 = .ok (.aload_n 0, 1) := by decide +kernel
theorem dX7_fewestTurned_43 : decode cX7_fewestTurned 43 = .ok (.getfield 10, 3) := by decide +kernel
theorem dX7_fewestTurned_46 : decode cX7_fewestTurned 46 = .ok (.aload_n 0, 1) := by decide +kernel
theorem dX7_fewestTurned_47 : decode cX7_fewestTurned 47 = .ok (.getfield 66, 3) := by decide +kernel
theorem dX7_fewestTurned_50 : decode cX7_fewestTurned 50 = .ok (.aload_n 0, 1) := by decide +kernel
theorem dX7_fewestTurned_51 : decode cX7_fewestTurned 51 = .ok (.getfield 132, 3) := by decide +kernel
theorem dX7_fewestTurned_54 : decode cX7_fewestTurned 54 = .ok (.iload 4, 2) := by decide +kernel
theorem dX7_fewestTurned_56 : decode cX7_fewestTurned 56 = .ok (.invokevirtual 238, 3) := by decide +kernel
theorem dX7_fewestTurned_59 : decode cX7_fewestTurned 59 = .ok (.aload_n 0, 1) := by decide +kernel
theorem dX7_fewestTurned_60 : decode cX7_fewestTurned 60 = .ok (.getfield 25, 3) := by decide +kernel
theorem dX7_fewestTurned_63 : decode cX7_fewestTurned 63 = .ok (.iload_n 1, 1) := by decide +kernel
theorem dX7_fewestTurned_64 : decode cX7_fewestTurned 64 = .ok (.invokevirtual 181, 3) := by decide +kernel
theorem dX7_fewestTurned_67 : decode cX7_fewestTurned 67 = .ok (.iload_n 2, 1) := by decide +kernel
theorem dX7_fewestTurned_68 : decode cX7_fewestTurned 68 = .ok (.if_icmp .ne 6, 3) := by decide +kernel
theorem dX7_fewestTurned_71 : decode cX7_fewestTurned 71 = .ok (.iload 4, 2) := by decide +kernel
theorem dX7_fewestTurned_73 : decode cX7_fewestTurned 73 = .ok (.istore_n 3, 1) := by decide +kernel
theorem dX7_fewestTurned_74 : decode cX7_fewestTurned 74 = .ok (.iinc 4 1, 3) := by decide +kernel
theorem dX7_fewestTurned_77 : decode cX7_fewestTurned 77 = .ok (.goto (-71), 3) := by decide +kernel
theorem dX7_fewestTurned_80 : decode cX7_fewestTurned 80 = .ok (.iload_n 3, 1) := by decide +kernel
theorem dX7_fewestTurned_81 : decode cX7_fewestTurned 81 = .ok (.ireturn, 1) := by decide +kernel
theorem dX7_liesFor_0 : decode cX7_liesFor 0 = .ok (.iload_n 1, 1) := by decide +kernel
theorem dX7_liesFor_1 : decode cX7_liesFor 1 = .ok (.invokestatic 86, 3) := by decide +kernel
theorem dX7_liesFor_4 : decode cX7_liesFor 4 = .ok (.ifCond .ne 20, 3) := by decide +kernel
theorem dX7_liesFor_7 : decode cX7_liesFor 7 = .ok (.aload_n 0, 1) := by decide +kernel
theorem dX7_liesFor_8 : decode cX7_liesFor 8 = .ok (.iload_n 2, 1) := by decide +kernel
theorem dX7_liesFor_9 : decode cX7_liesFor 9 = .ok (.invokevirtual 126, 3) := by decide +kernel
theorem dX7_liesFor_12 : decode cX7_liesFor 12 = .ok (.ifCond .ne 12, 3) := by decide +kernel
theorem dX7_liesFor_15 : decode cX7_liesFor 15 = .ok (.iload_n 3, 1) := by decide +kernel
theorem dX7_liesFor_16 : decode cX7_liesFor 16 = .ok (.bipush 9, 2) := by decide +kernel
theorem dX7_liesFor_18 : decode cX7_liesFor 18 = .ok (.invokestatic 71, 3) := by decide +kernel
theorem dX7_liesFor_21 : decode cX7_liesFor 21 = .ok (.ifCond .eq 5, 3) := by decide +kernel
theorem dX7_liesFor_24 : decode cX7_liesFor 24 = .ok (.iconst (-1), 1) := by decide +kernel
theorem dX7_liesFor_25 : decode cX7_liesFor 25 = .ok (.ireturn, 1) := by decide +kernel
theorem dX7_liesFor_26 : decode cX7_liesFor 26 = .ok (.aload_n 0, 1) := by decide +kernel
theorem dX7_liesFor_27 : decode cX7_liesFor 27 = .ok (.iload_n 1, 1) := by decide +kernel
theorem dX7_liesFor_28 : decode cX7_liesFor 28 = .ok (.invokevirtual 242, 3) := by decide +kernel
theorem dX7_liesFor_31 : decode cX7_liesFor 31 = .ok (.istore 4, 2) := by decide +kernel
theorem dX7_liesFor_33 : decode cX7_liesFor 33 = .ok (.iload 4, 2) := by decide +kernel
theorem dX7_liesFor_35 : decode cX7_liesFor 35 = .ok (.ifCond .eq 6, 3) := by decide +kernel
theorem dX7_liesFor_38 : decode cX7_liesFor 38 = .ok (.iload 4, 2) := by decide +kernel
theorem dX7_liesFor_40 : decode cX7_liesFor 40 = .ok (.ireturn, 1) := by decide +kernel
theorem dX7_liesFor_41 : decode cX7_liesFor 41 = .ok (.aload_n 0, 1) := by decide +kernel
theorem dX7_liesFor_42 : decode cX7_liesFor 42 = .ok (.getfield 16, 3) := by decide +kernel
theorem dX7_liesFor_45 : decode cX7_liesFor 45 = .ok (.aload_n 0, 1) := by decide +kernel
theorem dX7_liesFor_46 : decode cX7_liesFor 46 = .ok (.getfield 10, 3) := by decide +kernel
theorem dX7_liesFor_49 : decode cX7_liesFor 49 = .ok (.invokevirtual 203, 3) := by decide +kernel
theorem dX7_liesFor_52 : decode cX7_liesFor 52 = .ok (.iconst 0, 1) := by decide +kernel
theorem dX7_liesFor_53 : decode cX7_liesFor 53 = .ok (.istore 5, 2) := by decide +kernel
theorem dX7_liesFor_55 : decode cX7_liesFor 55 = .ok (.iload 5, 2) := by decide +kernel
theorem dX7_liesFor_57 : decode cX7_liesFor 57 = .ok (.bipush 99, 2) := by decide +kernel
theorem dX7_liesFor_59 : decode cX7_liesFor 59 = .ok (.if_icmp .gt 44, 3) := by decide +kernel
theorem dX7_liesFor_62 : decode cX7_liesFor 62 = .ok (.aload_n 0, 1) := by decide +kernel
theorem dX7_liesFor_63 : decode cX7_liesFor 63 = .ok (.getfield 16, 3) := by decide +kernel
theorem dX7_liesFor_66 : decode cX7_liesFor 66 = .ok (.iload_n 2, 1) := by decide +kernel
theorem dX7_liesFor_67 : decode cX7_liesFor 67 = .ok (.aload_n 0, 1) := by decide +kernel
theorem dX7_liesFor_68 : decode cX7_liesFor 68 = .ok (.getfield 45, 3) := by decide +kernel
theorem dX7_liesFor_71 : decode cX7_liesFor 71 = .ok (.iload_n 1, 1) := by decide +kernel
theorem dX7_liesFor_72 : decode cX7_liesFor 72 = .ok (.aaload, 1) := by decide +kernel
theorem dX7_liesFor_73 : decode cX7_liesFor 73 = .ok (.invokevirtual 245, 3) := by decide +kernel
theorem dX7_liesFor_76 : decode cX7_liesFor 76 = .ok (.ifCond .eq 6, 3) := by decide +kernel
theorem dX7_liesFor_79 : decode cX7_liesFor 79 = .ok (.iload 5, 2) := by decide +kernel
theorem dX7_liesFor_81 : decode cX7_liesFor 81 = .ok (.ireturn, 1) := by decide +kernel
theorem dX7_liesFor_82 : decode cX7_liesFor 82 = .ok (.aload_n 0, 1) := by decide +kernel
theorem dX7_liesFor_83 : decode cX7_liesFor 83 = .ok (.getfield 16, 3) := by decide +kernel
theorem dX7_liesFor_86 : decode cX7_liesFor 86 = .ok (.aload_n 0, 1) := by decide +kernel
theorem dX7_liesFor_87 : decode cX7_liesFor 87 = .ok (.getfield 66, 3) := by decide +kernel
theorem dX7_liesFor_90 : decode cX7_liesFor 90 = .ok (.iload_n 2, 1) := by decide +kernel
theorem dX7_liesFor_91 : decode cX7_liesFor 91 = .ok (.iconst 0, 1) := by decide +kernel
theorem dX7_liesFor_92 : decode cX7_liesFor 92 = .ok (.iload_n 3, 1) := by decide +kernel
theorem dX7_liesFor_93 : decode cX7_liesFor 93 = .ok (.invokevirtual 217, 3) := by decide +kernel
theorem dX7_liesFor_96 : decode cX7_liesFor 96 = .ok (.pop, 1) := by decide +kernel
theorem dX7_liesFor_97 : decode cX7_liesFor 97 = .ok (.iinc 5 1, 3) := by decide +kernel
theorem dX7_liesFor_100 : decode cX7_liesFor 100 = .ok (.goto (-45), 3) := by decide +kernel
theorem dX7_liesFor_103 : decode cX7_liesFor 103 = .ok (.bipush (-2), 2) := by decide +kernel
theorem dX7_liesFor_105 : decode cX7_liesFor 105 = .ok (.ireturn, 1) := by decide +kernel
theorem dX7_two_0 : decode cX7_two 0 = .ok (.iload_n 1, 1) := by decide +kernel
theorem dX7_two_1 : decode cX7_two 1 = .ok (.invokestatic 86, 3) := by decide +kernel
theorem dX7_two_4 : decode cX7_two 4 = .ok (.ifCond .ne 19, 3) := by decide +kernel
theorem dX7_two_7 : decode cX7_two 7 = .ok (.aload_n 0, 1) := by decide +kernel
theorem dX7_two_8 : decode cX7_two 8 = .ok (.iload_n 2, 1) := by decide +kernel
theorem dX7_two_9 : decode cX7_two 9 = .ok (.invokevirtual 126, 3) := by decide +kernel
theorem dX7_two_12 : decode cX7_two 12 = .ok (.ifCond .ne 11, 3) := by decide +kernel
theorem dX7_two_15 : decode cX7_two 15 = .ok (.iload_n 3, 1) := by decide +kernel
theorem dX7_two_16 : decode cX7_two 16 = .ok (.iconst 1, 1) := by decide +kernel
theorem dX7_two_17 : decode cX7_two 17 = .ok (.invokestatic 71, 3) := by decide +kernel
theorem dX7_two_20 : decode cX7_two 20 = .ok (.ifCond .eq 5, 3) := by decide +kernel
theorem dX7_two_23 : decode cX7_two 23 = .ok (.iconst (-1), 1) := by decide +kernel
theorem dX7_two_24 : decode cX7_two 24 = .ok (.ireturn, 1) := by decide +kernel
theorem dX7_two_25 : decode cX7_two 25 = .ok (.aload_n 0, 1) := by decide +kernel
theorem dX7_two_26 : decode cX7_two 26 = .ok (.iload_n 1, 1) := by decide +kernel
theorem dX7_two_27 : decode cX7_two 27 = .ok (.invokevirtual 242, 3) := by decide +kernel
theorem dX7_two_30 : decode cX7_two 30 = .ok (.istore 4, 2) := by decide +kernel
theorem dX7_two_32 : decode cX7_two 32 = .ok (.iload 4, 2) := by decide +kernel
theorem dX7_two_34 : decode cX7_two 34 = .ok (.ifCond .eq 6, 3) := by decide +kernel
theorem dX7_two_37 : decode cX7_two 37 = .ok (.iload 4, 2) := by decide +kernel
theorem dX7_two_39 : decode cX7_two 39 = .ok (.ireturn, 1) := by decide +kernel
theorem dX7_two_40 : decode cX7_two 40 = .ok (.iconst 0, 1) := by decide +kernel
theorem dX7_two_41 : decode cX7_two 41 = .ok (.istore 5, 2) := by decide +kernel
theorem dX7_two_43 : decode cX7_two 43 = .ok (.bipush (-2), 2) := by decide +kernel
theorem dX7_two_45 : decode cX7_two 45 = .ok (.istore 6, 2) := by decide +kernel
theorem dX7_two_47 : decode cX7_two 47 = .ok (.iconst 0, 1) := by decide +kernel
theorem dX7_two_48 : decode cX7_two 48 = .ok (.istore 7, 2) := by decide +kernel
theorem dX7_two_50 : decode cX7_two 50 = .ok (.iload 7, 2) := by decide +kernel
theorem dX7_two_52 : decode cX7_two 52 = .ok (.bipush 100, 2) := by decide +kernel
theorem dX7_two_54 : decode cX7_two 54 = .ok (.if_icmp .ge 94, 3) := by decide +kernel
theorem dX7_two_57 : decode cX7_two 57 = .ok (.aload_n 0, 1) := by decide +kernel
theorem dX7_two_58 : decode cX7_two 58 = .ok (.getfield 16, 3) := by decide +kernel
theorem dX7_two_61 : decode cX7_two 61 = .ok (.aload_n 0, 1) := by decide +kernel
theorem dX7_two_62 : decode cX7_two 62 = .ok (.getfield 10, 3) := by decide +kernel
theorem dX7_two_65 : decode cX7_two 65 = .ok (.invokevirtual 203, 3) := by decide +kernel
theorem dX7_two_68 : decode cX7_two 68 = .ok (.aload_n 0, 1) := by decide +kernel
theorem dX7_two_69 : decode cX7_two 69 = .ok (.getfield 16, 3) := by decide +kernel
theorem dX7_two_72 : decode cX7_two 72 = .ok (.aload_n 0, 1) := by decide +kernel
theorem dX7_two_73 : decode cX7_two 73 = .ok (.getfield 66, 3) := by decide +kernel
theorem dX7_two_76 : decode cX7_two 76 = .ok (.iload_n 2, 1) := by decide +kernel
theorem dX7_two_77 : decode cX7_two 77 = .ok (.iconst 0, 1) := by decide +kernel
theorem dX7_two_78 : decode cX7_two 78 = .ok (.iload 7, 2) := by decide +kernel
theorem dX7_two_80 : decode cX7_two 80 = .ok (.bipush 10, 2) := by decide +kernel
theorem dX7_two_82 : decode cX7_two 82 = .ok (.idiv, 1) := by decide +kernel
theorem dX7_two_83 : decode cX7_two 83 = .ok (.invokevirtual 217, 3) := by decide +kernel
theorem dX7_two_86 : decode cX7_two 86 = .ok (.pop, 1) := by decide +kernel
theorem dX7_two_87 : decode cX7_two 87 = .ok (.aload_n 0, 1) := by decide +kernel
theorem dX7_two_88 : decode cX7_two 88 = .ok (.getfield 16, 3) := by decide +kernel
theorem dX7_two_91 : decode cX7_two 91 = .ok (.aload_n 0, 1) := by decide +kernel
theorem dX7_two_92 : decode cX7_two 92 = .ok (.getfield 66, 3) := by decide +kernel
theorem dX7_two_95 : decode cX7_two 95 = .ok (.iload_n 2, 1) := by decide +kernel
theorem dX7_two_96 : decode cX7_two 96 = .ok (.iconst 0, 1) := by decide +kernel
theorem dX7_two_97 : decode cX7_two 97 = .ok (.iload 7, 2) := by decide +kernel
theorem dX7_two_99 : decode cX7_two 99 = .ok (.bipush 10, 2) := by decide +kernel
theorem dX7_two_101 : decode cX7_two 101 = .ok (.irem, 1) := by decide +kernel
theorem dX7_two_102 : decode cX7_two 102 = .ok (.invokevirtual 217, 3) := by decide +kernel
theorem dX7_two_105 : decode cX7_two 105 = .ok (.pop, 1) := by decide +kernel
theorem dX7_two_106 : decode cX7_two 106 = .ok (.aload_n 0, 1) := by decide +kernel
theorem dX7_two_107 : decode cX7_two 107 = .ok (.getfield 16, 3) := by decide +kernel
theorem dX7_two_110 : decode cX7_two 110 = .ok (.iload_n 2, 1) := by decide +kernel
theorem dX7_two_111 : decode cX7_two 111 = .ok (.aload_n 0, 1) := by decide +kernel
theorem dX7_two_112 : decode cX7_two 112 = .ok (.getfield 45, 3) := by decide +kernel
theorem dX7_two_115 : decode cX7_two 115 = .ok (.iload_n 1, 1) := by decide +kernel
theorem dX7_two_116 : decode cX7_two 116 = .ok (.aaload, 1) := by decide +kernel
theorem dX7_two_117 : decode cX7_two 117 = .ok (.invokevirtual 245, 3) := by decide +kernel
theorem dX7_two_120 : decode cX7_two 120 = .ok (.ifCond .eq 22, 3) := by decide +kernel
theorem dX7_two_123 : decode cX7_two 123 = .ok (.iinc 5 1, 3) := by decide +kernel
theorem dX7_two_126 : decode cX7_two 126 = .ok (.iload 6, 2) := by decide +kernel
theorem dX7_two_128 : decode cX7_two 128 = .ok (.bipush (-2), 2) := by decide +kernel
theorem dX7_two_130 : decode cX7_two 130 = .ok (.if_icmp .ne 8, 3) := by decide +kernel
theorem dX7_two_133 : decode cX7_two 133 = .ok (.iload 7, 2) := by decide +kernel
theorem dX7_two_135 : decode cX7_two 135 = .ok (.goto 5, 3) := by decide +kernel
theorem dX7_two_138 : decode cX7_two 138 = .ok (.iload 6, 2) := by decide +kernel
theorem dX7_two_140 : decode cX7_two 140 = .ok (.istore 6, 2) := by decide +kernel
theorem dX7_two_142 : decode cX7_two 142 = .ok (.iinc 7 1, 3) := by decide +kernel
theorem dX7_two_145 : decode cX7_two 145 = .ok (.goto (-95), 3) := by decide +kernel
theorem dX7_two_148 : decode cX7_two 148 = .ok (.iload_n 3, 1) := by decide +kernel
theorem dX7_two_149 : decode cX7_two 149 = .ok (.ifCond .ne 8, 3) := by decide +kernel
theorem dX7_two_152 : decode cX7_two 152 = .ok (.iload 5, 2) := by decide +kernel
theorem dX7_two_154 : decode cX7_two 154 = .ok (.goto 5, 3) := by decide +kernel
theorem dX7_two_157 : decode cX7_two 157 = .ok (.iload 6, 2) := by decide +kernel
theorem dX7_two_159 : decode cX7_two 159 = .ok (.ireturn, 1) := by decide +kernel
theorem dX7_others_0 : decode cX7_others 0 = .ok (.iload_n 1, 1) := by decide +kernel
theorem dX7_others_1 : decode cX7_others 1 = .ok (.invokestatic 86, 3) := by decide +kernel
theorem dX7_others_4 : decode cX7_others 4 = .ok (.ifCond .eq 7, 3) := by decide +kernel
theorem dX7_others_7 : decode cX7_others 7 = .ok (.iconst (-1), 1) := by decide +kernel
theorem dX7_others_8 : decode cX7_others 8 = .ok (.goto 8, 3) := by decide +kernel
theorem dX7_others_11 : decode cX7_others 11 = .ok (.aload_n 0, 1) := by decide +kernel
theorem dX7_others_12 : decode cX7_others 12 = .ok (.iload_n 1, 1) := by decide +kernel
theorem dX7_others_13 : decode cX7_others 13 = .ok (.invokevirtual 242, 3) := by decide +kernel
theorem dX7_others_16 : decode cX7_others 16 = .ok (.istore_n 2, 1) := by decide +kernel
theorem dX7_others_17 : decode cX7_others 17 = .ok (.iload_n 2, 1) := by decide +kernel
theorem dX7_others_18 : decode cX7_others 18 = .ok (.ifCond .eq 5, 3) := by decide +kernel
theorem dX7_others_21 : decode cX7_others 21 = .ok (.iload_n 2, 1) := by decide +kernel
theorem dX7_others_22 : decode cX7_others 22 = .ok (.ireturn, 1) := by decide +kernel
theorem dX7_others_23 : decode cX7_others 23 = .ok (.iconst 0, 1) := by decide +kernel
theorem dX7_others_24 : decode cX7_others 24 = .ok (.istore_n 3, 1) := by decide +kernel
theorem dX7_others_25 : decode cX7_others 25 = .ok (.iconst 0, 1) := by decide +kernel
theorem dX7_others_26 : decode cX7_others 26 = .ok (.istore 4, 2) := by decide +kernel
theorem dX7_others_28 : decode cX7_others 28 = .ok (.iload 4, 2) := by decide +kernel
theorem dX7_others_30 : decode cX7_others 30 = .ok (.aload_n 0, 1) := by decide +kernel
theorem dX7_others_31 : decode cX7_others 31 = .ok (.getfield 10, 3) := by decide +kernel
theorem dX7_others_34 : decode cX7_others 34 = .ok (.getfield 75, 3) := by decide +kernel
theorem dX7_others_37 : decode cX7_others 37 = .ok (.if_icmp .ge 34, 3) := by decide +kernel
theorem dX7_others_40 : decode cX7_others 40 = .ok (.aload_n 0, 1) := by decide +kernel
theorem dX7_others_41 : decode cX7_others 41 = .ok (.getfield 10, 3) := by decide +kernel
theorem dX7_others_44 : decode cX7_others 44 = .ok (.iload 4, 2) := by decide +kernel
theorem dX7_others_46 : decode cX7_others 46 = .ok (.aload_n 0, 1) := by decide +kernel
theorem dX7_others_47 : decode cX7_others 47 = .ok (.getfield 45, 3) := by decide +kernel
theorem dX7_others_50 : decode cX7_others 50 = .ok (.iload_n 1, 1) := by decide +kernel
theorem dX7_others_51 : decode cX7_others 51 = .ok (.aaload, 1) := by decide +kernel
theorem dX7_others_52 : decode cX7_others 52 = .ok (.invokevirtual 245, 3) := by decide +kernel
theorem dX7_others_55 : decode cX7_others 55 = .ok (.ifCond .eq 10, 3) := by decide +kernel
theorem dX7_others_58 : decode cX7_others 58 = .ok (.iload_n 3, 1) := by decide +kernel
theorem dX7_others_59 : decode cX7_others 59 = .ok (.iconst 1, 1) := by decide +kernel
theorem dX7_others_60 : decode cX7_others 60 = .ok (.iload 4, 2) := by decide +kernel
theorem dX7_others_62 : decode cX7_others 62 = .ok (.ishl, 1) := by decide +kernel
theorem dX7_others_63 : decode cX7_others 63 = .ok (.ior, 1) := by decide +kernel
theorem dX7_others_64 : decode cX7_others 64 = .ok (.istore_n 3, 1) := by decide +kernel
theorem dX7_others_65 : decode cX7_others 65 = .ok (.iinc 4 1, 3) := by decide +kernel
theorem dX7_others_68 : decode cX7_others 68 = .ok (.goto (-40), 3) := by decide +kernel
theorem dX7_others_71 : decode cX7_others 71 = .ok (.iload_n 3, 1) := by decide +kernel
theorem dX7_others_72 : decode cX7_others 72 = .ok (.ireturn, 1) := by decide +kernel
theorem dX7_isSo_0 : decode cX7_isSo 0 = .ok (.iload_n 1, 1) := by decide +kernel
theorem dX7_isSo_1 : decode cX7_isSo 1 = .ok (.ifCond .lt 23, 3) := by decide +kernel
theorem dX7_isSo_4 : decode cX7_isSo 4 = .ok (.iload_n 1, 1) := by decide +kernel
theorem dX7_isSo_5 : decode cX7_isSo 5 = .ok (.bipush 10, 2) := by decide +kernel
theorem dX7_isSo_7 : decode cX7_isSo 7 = .ok (.idiv, 1) := by decide +kernel
theorem dX7_isSo_8 : decode cX7_isSo 8 = .ok (.invokestatic 86, 3) := by decide +kernel
theorem dX7_isSo_11 : decode cX7_isSo 11 = .ok (.ifCond .ne 13, 3) := by decide +kernel
theorem dX7_isSo_14 : decode cX7_isSo 14 = .ok (.iload_n 1, 1) := by decide +kernel
theorem dX7_isSo_15 : decode cX7_isSo 15 = .ok (.bipush 10, 2) := by decide +kernel
theorem dX7_isSo_17 : decode cX7_isSo 17 = .ok (.irem, 1) := by decide +kernel
theorem dX7_isSo_18 : decode cX7_isSo 18 = .ok (.invokestatic 86, 3) := by decide +kernel
theorem dX7_isSo_21 : decode cX7_isSo 21 = .ok (.ifCond .eq 7, 3) := by decide +kernel
theorem dX7_isSo_24 : decode cX7_isSo 24 = .ok (.iconst 1, 1) := by decide +kernel
theorem dX7_isSo_25 : decode cX7_isSo 25 = .ok (.goto 4, 3) := by decide +kernel
theorem dX7_isSo_28 : decode cX7_isSo 28 = .ok (.iconst 0, 1) := by decide +kernel
theorem dX7_isSo_29 : decode cX7_isSo 29 = .ok (.istore 4, 2) := by decide +kernel
theorem dX7_isSo_31 : decode cX7_isSo 31 = .ok (.iload 4, 2) := by decide +kernel
theorem dX7_isSo_33 : decode cX7_isSo 33 = .ok (.ifCond .ne 43, 3) := by decide +kernel
theorem dX7_isSo_36 : decode cX7_isSo 36 = .ok (.iload_n 2, 1) := by decide +kernel
theorem dX7_isSo_37 : decode cX7_isSo 37 = .ok (.ifCond .lt 39, 3) := by decide +kernel
theorem dX7_isSo_40 : decode cX7_isSo 40 = .ok (.aload_n 0, 1) := by decide +kernel
theorem dX7_isSo_41 : decode cX7_isSo 41 = .ok (.iload_n 2, 1) := by decide +kernel
theorem dX7_isSo_42 : decode cX7_isSo 42 = .ok (.bipush 10, 2) := by decide +kernel
theorem dX7_isSo_44 : decode cX7_isSo 44 = .ok (.idiv, 1) := by decide +kernel
theorem dX7_isSo_45 : decode cX7_isSo 45 = .ok (.invokevirtual 126, 3) := by decide +kernel
theorem dX7_isSo_48 : decode cX7_isSo 48 = .ok (.ifCond .ne 28, 3) := by decide +kernel
theorem dX7_isSo_51 : decode cX7_isSo 51 = .ok (.iload_n 2, 1) := by decide +kernel
theorem dX7_isSo_52 : decode cX7_isSo 52 = .ok (.bipush 10, 2) := by decide +kernel
theorem dX7_isSo_54 : decode cX7_isSo 54 = .ok (.irem, 1) := by decide +kernel
theorem dX7_isSo_55 : decode cX7_isSo 55 = .ok (.iconst 1, 1) := by decide +kernel
theorem dX7_isSo_56 : decode cX7_isSo 56 = .ok (.if_icmp .lt 20, 3) := by decide +kernel
theorem dX7_isSo_59 : decode cX7_isSo 59 = .ok (.iload_n 2, 1) := by decide +kernel
theorem dX7_isSo_60 : decode cX7_isSo 60 = .ok (.bipush 10, 2) := by decide +kernel
theorem dX7_isSo_62 : decode cX7_isSo 62 = .ok (.irem, 1) := by decide +kernel
theorem dX7_isSo_63 : decode cX7_isSo 63 = .ok (.bipush 8, 2) := by decide +kernel
theorem dX7_isSo_65 : decode cX7_isSo 65 = .ok (.if_icmp .gt 11, 3) := by decide +kernel
theorem dX7_isSo_68 : decode cX7_isSo 68 = .ok (.iload_n 3, 1) := by decide +kernel
theorem dX7_isSo_69 : decode cX7_isSo 69 = .ok (.iconst 2, 1) := by decide +kernel
theorem dX7_isSo_70 : decode cX7_isSo 70 = .ok (.invokestatic 71, 3) := by decide +kernel
theorem dX7_isSo_73 : decode cX7_isSo 73 = .ok (.ifCond .eq 5, 3) := by decide +kernel
theorem dX7_isSo_76 : decode cX7_isSo 76 = .ok (.iconst (-1), 1) := by decide +kernel
theorem dX7_isSo_77 : decode cX7_isSo 77 = .ok (.ireturn, 1) := by decide +kernel
theorem dX7_isSo_78 : decode cX7_isSo 78 = .ok (.aload_n 0, 1) := by decide +kernel
theorem dX7_isSo_79 : decode cX7_isSo 79 = .ok (.iload_n 1, 1) := by decide +kernel
theorem dX7_isSo_80 : decode cX7_isSo 80 = .ok (.bipush 10, 2) := by decide +kernel
theorem dX7_isSo_82 : decode cX7_isSo 82 = .ok (.idiv, 1) := by decide +kernel
theorem dX7_isSo_83 : decode cX7_isSo 83 = .ok (.invokevirtual 162, 3) := by decide +kernel
theorem dX7_isSo_86 : decode cX7_isSo 86 = .ok (.istore 5, 2) := by decide +kernel
theorem dX7_isSo_88 : decode cX7_isSo 88 = .ok (.aload_n 0, 1) := by decide +kernel
theorem dX7_isSo_89 : decode cX7_isSo 89 = .ok (.iload_n 1, 1) := by decide +kernel
theorem dX7_isSo_90 : decode cX7_isSo 90 = .ok (.bipush 10, 2) := by decide +kernel
theorem dX7_isSo_92 : decode cX7_isSo 92 = .ok (.irem, 1) := by decide +kernel
theorem dX7_isSo_93 : decode cX7_isSo 93 = .ok (.invokevirtual 242, 3) := by decide +kernel
theorem dX7_isSo_96 : decode cX7_isSo 96 = .ok (.istore 6, 2) := by decide +kernel
theorem dX7_isSo_98 : decode cX7_isSo 98 = .ok (.iload 5, 2) := by decide +kernel
theorem dX7_isSo_100 : decode cX7_isSo 100 = .ok (.bipush (-11), 2) := by decide +kernel
theorem dX7_isSo_102 : decode cX7_isSo 102 = .ok (.if_icmp .eq 10, 3) := by decide +kernel
theorem dX7_isSo_105 : decode cX7_isSo 105 = .ok (.iload 6, 2) := by decide +kernel
theorem dX7_isSo_107 : decode cX7_isSo 107 = .ok (.bipush (-11), 2) := by decide +kernel
theorem dX7_isSo_109 : decode cX7_isSo 109 = .ok (.if_icmp .ne 6, 3) := by decide +kernel
theorem dX7_isSo_112 : decode cX7_isSo 112 = .ok (.bipush (-11), 2) := by decide +kernel
theorem dX7_isSo_114 : decode cX7_isSo 114 = .ok (.ireturn, 1) := by decide +kernel
theorem dX7_isSo_115 : decode cX7_isSo 115 = .ok (.iload 5, 2) := by decide +kernel
theorem dX7_isSo_117 : decode cX7_isSo 117 = .ok (.ifCond .ne 8, 3) := by decide +kernel
theorem dX7_isSo_120 : decode cX7_isSo 120 = .ok (.iload 6, 2) := by decide +kernel
theorem dX7_isSo_122 : decode cX7_isSo 122 = .ok (.ifCond .eq 16, 3) := by decide +kernel
theorem dX7_isSo_125 : decode cX7_isSo 125 = .ok (.iload 5, 2) := by decide +kernel
theorem dX7_isSo_127 : decode cX7_isSo 127 = .ok (.ifCond .eq 8, 3) := by decide +kernel
theorem dX7_isSo_130 : decode cX7_isSo 130 = .ok (.iload 5, 2) := by decide +kernel
theorem dX7_isSo_132 : decode cX7_isSo 132 = .ok (.goto 5, 3) := by decide +kernel
theorem dX7_isSo_135 : decode cX7_isSo 135 = .ok (.iload 6, 2) := by decide +kernel
theorem dX7_isSo_137 : decode cX7_isSo 137 = .ok (.ireturn, 1) := by decide +kernel
theorem dX7_isSo_138 : decode cX7_isSo 138 = .ok (.aload_n 0, 1) := by decide +kernel
theorem dX7_isSo_139 : decode cX7_isSo 139 = .ok (.getfield 25, 3) := by decide +kernel
theorem dX7_isSo_142 : decode cX7_isSo 142 = .ok (.aload_n 0, 1) := by decide +kernel
theorem dX7_isSo_143 : decode cX7_isSo 143 = .ok (.getfield 45, 3) := by decide +kernel
theorem dX7_isSo_146 : decode cX7_isSo 146 = .ok (.iload_n 1, 1) := by decide +kernel
theorem dX7_isSo_147 : decode cX7_isSo 147 = .ok (.bipush 10, 2) := by decide +kernel
theorem dX7_isSo_149 : decode cX7_isSo 149 = .ok (.idiv, 1) := by decide +kernel
theorem dX7_isSo_150 : decode cX7_isSo 150 = .ok (.aaload, 1) := by decide +kernel
theorem dX7_isSo_151 : decode cX7_isSo 151 = .ok (.aload_n 0, 1) := by decide +kernel
theorem dX7_isSo_152 : decode cX7_isSo 152 = .ok (.getfield 10, 3) := by decide +kernel
theorem dX7_isSo_155 : decode cX7_isSo 155 = .ok (.getfield 75, 3) := by decide +kernel
theorem dX7_isSo_158 : decode cX7_isSo 158 = .ok (.invokevirtual 232, 3) := by decide +kernel
theorem dX7_isSo_161 : decode cX7_isSo 161 = .ok (.aload_n 0, 1) := by decide +kernel
theorem dX7_isSo_162 : decode cX7_isSo 162 = .ok (.aload_n 0, 1) := by decide +kernel
theorem dX7_isSo_163 : decode cX7_isSo 163 = .ok (.getfield 45, 3) := by decide +kernel
theorem dX7_isSo_166 : decode cX7_isSo 166 = .ok (.iload_n 1, 1) := by decide +kernel
theorem dX7_isSo_167 : decode cX7_isSo 167 = .ok (.bipush 10, 2) := by decide +kernel
theorem dX7_isSo_169 : decode cX7_isSo 169 = .ok (.irem, 1) := by decide +kernel
theorem dX7_isSo_170 : decode cX7_isSo 170 = .ok (.aaload, 1) := by decide +kernel
theorem dX7_isSo_171 : decode cX7_isSo 171 = .ok (.iload_n 2, 1) := by decide +kernel
theorem dX7_isSo_172 : decode cX7_isSo 172 = .ok (.bipush 10, 2) := by decide +kernel
theorem dX7_isSo_174 : decode cX7_isSo 174 = .ok (.idiv, 1) := by decide +kernel
theorem dX7_isSo_175 : decode cX7_isSo 175 = .ok (.iload_n 2, 1) := by decide +kernel
theorem dX7_isSo_176 : decode cX7_isSo 176 = .ok (.bipush 10, 2) := by decide +kernel
theorem dX7_isSo_178 : decode cX7_isSo 178 = .ok (.irem, 1) := by decide +kernel
theorem dX7_isSo_179 : decode cX7_isSo 179 = .ok (.iload_n 3, 1) := by decide +kernel
theorem dX7_isSo_180 : decode cX7_isSo 180 = .ok (.invokevirtual 249, 3) := by decide +kernel
theorem dX7_isSo_183 : decode cX7_isSo 183 = .ok (.ireturn, 1) := by decide +kernel
theorem dX7_waysOfSo_0 : decode cX7_waysOfSo 0 = .ok (.iconst 1, 1) := by decide +kernel
theorem dX7_waysOfSo_1 : decode cX7_waysOfSo 1 = .ok (.iload_n 3, 1) := by decide +kernel
theorem dX7_waysOfSo_2 : decode cX7_waysOfSo 2 = .ok (.ishl, 1) := by decide +kernel
theorem dX7_waysOfSo_3 : decode cX7_waysOfSo 3 = .ok (.iconst 1, 1) := by decide +kernel
theorem dX7_waysOfSo_4 : decode cX7_waysOfSo 4 = .ok (.isub, 1) := by decide +kernel
theorem dX7_waysOfSo_5 : decode cX7_waysOfSo 5 = .ok (.istore 5, 2) := by decide +kernel
theorem dX7_waysOfSo_7 : decode cX7_waysOfSo 7 = .ok (.iconst 0, 1) := by decide +kernel
theorem dX7_waysOfSo_8 : decode cX7_waysOfSo 8 = .ok (.istore 6, 2) := by decide +kernel
theorem dX7_waysOfSo_10 : decode cX7_waysOfSo 10 = .ok (.bipush (-2), 2) := by decide +kernel
theorem dX7_waysOfSo_12 : decode cX7_waysOfSo 12 = .ok (.istore 7, 2) := by decide +kernel
theorem dX7_waysOfSo_14 : decode cX7_waysOfSo 14 = .ok (.iload 5, 2) := by decide +kernel
theorem dX7_waysOfSo_16 : decode cX7_waysOfSo 16 = .ok (.istore 8, 2) := by decide +kernel
theorem dX7_waysOfSo_18 : decode cX7_waysOfSo 18 = .ok (.iconst 0, 1) := by decide +kernel
theorem dX7_waysOfSo_19 : decode cX7_waysOfSo 19 = .ok (.istore 9, 2) := by decide +kernel
theorem dX7_waysOfSo_21 : decode cX7_waysOfSo 21 = .ok (.iload 9, 2) := by decide +kernel
theorem dX7_waysOfSo_23 : decode cX7_waysOfSo 23 = .ok (.iload 5, 2) := by decide +kernel
theorem dX7_waysOfSo_25 : decode cX7_waysOfSo 25 = .ok (.if_icmp .gt 78, 3) := by decide +kernel
theorem dX7_waysOfSo_28 : decode cX7_waysOfSo 28 = .ok (.aload_n 0, 1) := by decide +kernel
theorem dX7_waysOfSo_29 : decode cX7_waysOfSo 29 = .ok (.getfield 25, 3) := by decide +kernel
theorem dX7_waysOfSo_32 : decode cX7_waysOfSo 32 = .ok (.aload_n 0, 1) := by decide +kernel
theorem dX7_waysOfSo_33 : decode cX7_waysOfSo 33 = .ok (.getfield 10, 3) := by decide +kernel
theorem dX7_waysOfSo_36 : decode cX7_waysOfSo 36 = .ok (.aload_n 0, 1) := by decide +kernel
theorem dX7_waysOfSo_37 : decode cX7_waysOfSo 37 = .ok (.getfield 66, 3) := by decide +kernel
theorem dX7_waysOfSo_40 : decode cX7_waysOfSo 40 = .ok (.aload_n 0, 1) := by decide +kernel
theorem dX7_waysOfSo_41 : decode cX7_waysOfSo 41 = .ok (.getfield 132, 3) := by decide +kernel
theorem dX7_waysOfSo_44 : decode cX7_waysOfSo 44 = .ok (.iload 5, 2) := by decide +kernel
theorem dX7_waysOfSo_46 : decode cX7_waysOfSo 46 = .ok (.iconst (-1), 1) := by decide +kernel
theorem dX7_waysOfSo_47 : decode cX7_waysOfSo 47 = .ok (.ixor, 1) := by decide +kernel
theorem dX7_waysOfSo_48 : decode cX7_waysOfSo 48 = .ok (.iand, 1) := by decide +kernel
theorem dX7_waysOfSo_49 : decode cX7_waysOfSo 49 = .ok (.iload 9, 2) := by decide +kernel
theorem dX7_waysOfSo_51 : decode cX7_waysOfSo 51 = .ok (.ior, 1) := by decide +kernel
theorem dX7_waysOfSo_52 : decode cX7_waysOfSo 52 = .ok (.iconst 0, 1) := by decide +kernel
theorem dX7_waysOfSo_53 : decode cX7_waysOfSo 53 = .ok (.invokevirtual 238, 3) := by decide +kernel
theorem dX7_waysOfSo_56 : decode cX7_waysOfSo 56 = .ok (.aload_n 0, 1) := by decide +kernel
theorem dX7_waysOfSo_57 : decode cX7_waysOfSo 57 = .ok (.getfield 25, 3) := by decide +kernel
theorem dX7_waysOfSo_60 : decode cX7_waysOfSo 60 = .ok (.getfield 172, 3) := by decide +kernel
theorem dX7_waysOfSo_63 : decode cX7_waysOfSo 63 = .ok (.iload_n 2, 1) := by decide +kernel
theorem dX7_waysOfSo_64 : decode cX7_waysOfSo 64 = .ok (.aload_n 1, 1) := by decide +kernel
theorem dX7_waysOfSo_65 : decode cX7_waysOfSo 65 = .ok (.invokevirtual 245, 3) := by decide +kernel
theorem dX7_waysOfSo_68 : decode cX7_waysOfSo 68 = .ok (.ifCond .eq 29, 3) := by decide +kernel
theorem dX7_waysOfSo_71 : decode cX7_waysOfSo 71 = .ok (.iinc 6 1, 3) := by decide +kernel
theorem dX7_waysOfSo_74 : decode cX7_waysOfSo 74 = .ok (.iload 7, 2) := by decide +kernel
theorem dX7_waysOfSo_76 : decode cX7_waysOfSo 76 = .ok (.bipush (-2), 2) := by decide +kernel
theorem dX7_waysOfSo_78 : decode cX7_waysOfSo 78 = .ok (.if_icmp .ne 8, 3) := by decide +kernel
theorem dX7_waysOfSo_81 : decode cX7_waysOfSo 81 = .ok (.iload 9, 2) := by decide +kernel
theorem dX7_waysOfSo_83 : decode cX7_waysOfSo 83 = .ok (.goto 5, 3) := by decide +kernel
theorem dX7_waysOfSo_86 : decode cX7_waysOfSo 86 = .ok (.iload 7, 2) := by decide +kernel
theorem dX7_waysOfSo_88 : decode cX7_waysOfSo 88 = .ok (.istore 7, 2) := by decide +kernel
theorem dX7_waysOfSo_90 : decode cX7_waysOfSo 90 = .ok (.iload 8, 2) := by decide +kernel
theorem dX7_waysOfSo_92 : decode cX7_waysOfSo 92 = .ok (.iload 9, 2) := by decide +kernel
theorem dX7_waysOfSo_94 : decode cX7_waysOfSo 94 = .ok (.iand, 1) := by decide +kernel
theorem dX7_waysOfSo_95 : decode cX7_waysOfSo 95 = .ok (.istore 8, 2) := by decide +kernel
theorem dX7_waysOfSo_97 : decode cX7_waysOfSo 97 = .ok (.iinc 9 1, 3) := by decide +kernel
theorem dX7_waysOfSo_100 : decode cX7_waysOfSo 100 = .ok (.goto (-79), 3) := by decide +kernel
theorem dX7_waysOfSo_103 : decode cX7_waysOfSo 103 = .ok (.iload 4, 2) := by decide +kernel
theorem dX7_waysOfSo_105 : decode cX7_waysOfSo 105 = .ok (.ifCond .ne 6, 3) := by decide +kernel
theorem dX7_waysOfSo_108 : decode cX7_waysOfSo 108 = .ok (.iload 6, 2) := by decide +kernel
theorem dX7_waysOfSo_110 : decode cX7_waysOfSo 110 = .ok (.ireturn, 1) := by decide +kernel
theorem dX7_waysOfSo_111 : decode cX7_waysOfSo 111 = .ok (.iload 4, 2) := by decide +kernel
theorem dX7_waysOfSo_113 : decode cX7_waysOfSo 113 = .ok (.iconst 1, 1) := by decide +kernel
theorem dX7_waysOfSo_114 : decode cX7_waysOfSo 114 = .ok (.if_icmp .eq 8, 3) := by decide +kernel
theorem dX7_waysOfSo_117 : decode cX7_waysOfSo 117 = .ok (.iload 6, 2) := by decide +kernel
theorem dX7_waysOfSo_119 : decode cX7_waysOfSo 119 = .ok (.ifCond .ne 8, 3) := by decide +kernel
theorem dX7_waysOfSo_122 : decode cX7_waysOfSo 122 = .ok (.iload 7, 2) := by decide +kernel
theorem dX7_waysOfSo_124 : decode cX7_waysOfSo 124 = .ok (.goto 5, 3) := by decide +kernel
theorem dX7_waysOfSo_127 : decode cX7_waysOfSo 127 = .ok (.iload 8, 2) := by decide +kernel
theorem dX7_waysOfSo_129 : decode cX7_waysOfSo 129 = .ok (.ireturn, 1) := by decide +kernel
theorem dX7_drawn_0 : decode cX7_drawn 0 = .ok (.iload_n 2, 1) := by decide +kernel
theorem dX7_drawn_1 : decode cX7_drawn 1 = .ok (.bipush 100, 2) := by decide +kernel
theorem dX7_drawn_3 : decode cX7_drawn 3 = .ok (.idiv, 1) := by decide +kernel
theorem dX7_drawn_4 : decode cX7_drawn 4 = .ok (.istore 4, 2) := by decide +kernel
theorem dX7_drawn_6 : decode cX7_drawn 6 = .ok (.iload_n 2, 1) := by decide +kernel
theorem dX7_drawn_7 : decode cX7_drawn 7 = .ok (.bipush 100, 2) := by decide +kernel
theorem dX7_drawn_9 : decode cX7_drawn 9 = .ok (.irem, 1) := by decide +kernel
theorem dX7_drawn_10 : decode cX7_drawn 10 = .ok (.istore 5, 2) := by decide +kernel
theorem dX7_drawn_12 : decode cX7_drawn 12 = .ok (.iload 4, 2) := by decide +kernel
theorem dX7_drawn_14 : decode cX7_drawn 14 = .ok (.iconst 1, 1) := by decide +kernel
theorem dX7_drawn_15 : decode cX7_drawn 15 = .ok (.if_icmp .lt 31, 3) := by decide +kernel
theorem dX7_drawn_18 : decode cX7_drawn 18 = .ok (.iload 4, 2) := by decide +kernel
theorem dX7_drawn_20 : decode cX7_drawn 20 = .ok (.bipush 30, 2) := by decide +kernel
theorem dX7_drawn_22 : decode cX7_drawn 22 = .ok (.if_icmp .gt 24, 3) := by decide +kernel
theorem dX7_drawn_25 : decode cX7_drawn 25 = .ok (.iload 5, 2) := by decide +kernel
theorem dX7_drawn_27 : decode cX7_drawn 27 = .ok (.iconst 1, 1) := by decide +kernel
theorem dX7_drawn_28 : decode cX7_drawn 28 = .ok (.if_icmp .lt 18, 3) := by decide +kernel
theorem dX7_drawn_31 : decode cX7_drawn 31 = .ok (.iload 5, 2) := by decide +kernel
theorem dX7_drawn_33 : decode cX7_drawn 33 = .ok (.bipush 60, 2) := by decide +kernel
theorem dX7_drawn_35 : decode cX7_drawn 35 = .ok (.if_icmp .gt 11, 3) := by decide +kernel
theorem dX7_drawn_38 : decode cX7_drawn 38 = .ok (.iload_n 3, 1) := by decide +kernel
theorem dX7_drawn_39 : decode cX7_drawn 39 = .ok (.iconst 1, 1) := by decide +kernel
theorem dX7_drawn_40 : decode cX7_drawn 40 = .ok (.invokestatic 71, 3) := by decide +kernel
theorem dX7_drawn_43 : decode cX7_drawn 43 = .ok (.ifCond .eq 5, 3) := by decide +kernel
theorem dX7_drawn_46 : decode cX7_drawn 46 = .ok (.iconst (-1), 1) := by decide +kernel
theorem dX7_drawn_47 : decode cX7_drawn 47 = .ok (.ireturn, 1) := by decide +kernel
theorem dX7_drawn_48 : decode cX7_drawn 48 = .ok (.aload_n 0, 1) := by decide +kernel
theorem dX7_drawn_49 : decode cX7_drawn 49 = .ok (.getfield 10, 3) := by decide +kernel
theorem dX7_drawn_52 : decode cX7_drawn 52 = .ok (.getfield 75, 3) := by decide +kernel
theorem dX7_drawn_55 : decode cX7_drawn 55 = .ok (.iconst 1, 1) := by decide +kernel
theorem dX7_drawn_56 : decode cX7_drawn 56 = .ok (.if_icmp .ge 5, 3) := by decide +kernel
theorem dX7_drawn_59 : decode cX7_drawn 59 = .ok (.iconst 0, 1) := by decide +kernel
theorem dX7_drawn_60 : decode cX7_drawn 60 = .ok (.ireturn, 1) := by decide +kernel
theorem dX7_drawn_61 : decode cX7_drawn 61 = .ok (.iload_n 1, 1) := by decide +kernel
theorem dX7_drawn_62 : decode cX7_drawn 62 = .ok (.istore 6, 2) := by decide +kernel
theorem dX7_drawn_64 : decode cX7_drawn 64 = .ok (.iconst 0, 1) := by decide +kernel
theorem dX7_drawn_65 : decode cX7_drawn 65 = .ok (.istore 7, 2) := by decide +kernel
theorem dX7_drawn_67 : decode cX7_drawn 67 = .ok (.iconst 0, 1) := by decide +kernel
theorem dX7_drawn_68 : decode cX7_drawn 68 = .ok (.istore 8, 2) := by decide +kernel
theorem dX7_drawn_70 : decode cX7_drawn 70 = .ok (.iconst 0, 1) := by decide +kernel
theorem dX7_drawn_71 : decode cX7_drawn 71 = .ok (.istore 9, 2) := by decide +kernel
theorem dX7_drawn_73 : decode cX7_drawn 73 = .ok (.iload 9, 2) := by decide +kernel
theorem dX7_drawn_75 : decode cX7_drawn 75 = .ok (.iload 4, 2) := by decide +kernel
theorem dX7_drawn_77 : decode cX7_drawn 77 = .ok (.if_icmp .ge 125, 3) := by decide +kernel
theorem dX7_drawn_80 : decode cX7_drawn 80 = .ok (.aload_n 0, 1) := by decide +kernel
theorem dX7_drawn_81 : decode cX7_drawn 81 = .ok (.getfield 16, 3) := by decide +kernel
theorem dX7_drawn_84 : decode cX7_drawn 84 = .ok (.aload_n 0, 1) := by decide +kernel
theorem dX7_drawn_85 : decode cX7_drawn 85 = .ok (.getfield 10, 3) := by decide +kernel
theorem dX7_drawn_88 : decode cX7_drawn 88 = .ok (.invokevirtual 203, 3) := by decide +kernel
theorem dX7_drawn_91 : decode cX7_drawn 91 = .ok (.iconst 0, 1) := by decide +kernel
theorem dX7_drawn_92 : decode cX7_drawn 92 = .ok (.istore 10, 2) := by decide +kernel
theorem dX7_drawn_94 : decode cX7_drawn 94 = .ok (.iload 10, 2) := by decide +kernel
theorem dX7_drawn_96 : decode cX7_drawn 96 = .ok (.iload 5, 2) := by decide +kernel
theorem dX7_drawn_98 : decode cX7_drawn 98 = .ok (.if_icmp .ge 86, 3) := by decide +kernel
theorem dX7_drawn_101 : decode cX7_drawn 101 = .ok (.iload 6, 2) := by decide +kernel
theorem dX7_drawn_103 : decode cX7_drawn 103 = .ok (.ldc 253, 2) := by decide +kernel
theorem dX7_drawn_105 : decode cX7_drawn 105 = .ok (.imul, 1) := by decide +kernel
theorem dX7_drawn_106 : decode cX7_drawn 106 = .ok (.sipush 12345, 3) := by decide +kernel
theorem dX7_drawn_109 : decode cX7_drawn 109 = .ok (.iadd, 1) := by decide +kernel
theorem dX7_drawn_110 : decode cX7_drawn 110 = .ok (.istore 6, 2) := by decide +kernel
theorem dX7_drawn_112 : decode cX7_drawn 112 = .ok (.iload 6, 2) := by decide +kernel
theorem dX7_drawn_114 : decode cX7_drawn 114 = .ok (.bipush 12, 2) := by decide +kernel
theorem dX7_drawn_116 : decode cX7_drawn 116 = .ok (.iushr, 1) := by decide +kernel
theorem dX7_drawn_117 : decode cX7_drawn 117 = .ok (.bipush 10, 2) := by decide +kernel
theorem dX7_drawn_119 : decode cX7_drawn 119 = .ok (.irem, 1) := by decide +kernel
theorem dX7_drawn_120 : decode cX7_drawn 120 = .ok (.istore 11, 2) := by decide +kernel
theorem dX7_drawn_122 : decode cX7_drawn 122 = .ok (.aload_n 0, 1) := by decide +kernel
theorem dX7_drawn_123 : decode cX7_drawn 123 = .ok (.getfield 132, 3) := by decide +kernel
theorem dX7_drawn_126 : decode cX7_drawn 126 = .ok (.iload 11, 2) := by decide +kernel
theorem dX7_drawn_128 : decode cX7_drawn 128 = .ok (.iload 6, 2) := by decide +kernel
theorem dX7_drawn_130 : decode cX7_drawn 130 = .ok (.bipush 18, 2) := by decide +kernel
theorem dX7_drawn_132 : decode cX7_drawn 132 = .ok (.iushr, 1) := by decide +kernel
theorem dX7_drawn_133 : decode cX7_drawn 133 = .ok (.iconst 2, 1) := by decide +kernel
theorem dX7_drawn_134 : decode cX7_drawn 134 = .ok (.irem, 1) := by decide +kernel
theorem dX7_drawn_135 : decode cX7_drawn 135 = .ok (.invokestatic 254, 3) := by decide +kernel
theorem dX7_drawn_138 : decode cX7_drawn 138 = .ok (.ifCond .eq 40, 3) := by decide +kernel
theorem dX7_drawn_141 : decode cX7_drawn 141 = .ok (.aload_n 0, 1) := by decide +kernel
theorem dX7_drawn_142 : decode cX7_drawn 142 = .ok (.getfield 16, 3) := by decide +kernel
theorem dX7_drawn_145 : decode cX7_drawn 145 = .ok (.aload_n 0, 1) := by decide +kernel
theorem dX7_drawn_146 : decode cX7_drawn 146 = .ok (.getfield 66, 3) := by decide +kernel
theorem dX7_drawn_149 : decode cX7_drawn 149 = .ok (.iload 6, 2) := by decide +kernel
theorem dX7_drawn_151 : decode cX7_drawn 151 = .ok (.iconst 4, 1) := by decide +kernel
theorem dX7_drawn_152 : decode cX7_drawn 152 = .ok (.iushr, 1) := by decide +kernel
theorem dX7_drawn_153 : decode cX7_drawn 153 = .ok (.aload_n 0, 1) := by decide +kernel
theorem dX7_drawn_154 : decode cX7_drawn 154 = .ok (.getfield 10, 3) := by decide +kernel
theorem dX7_drawn_157 : decode cX7_drawn 157 = .ok (.getfield 75, 3) := by decide +kernel
theorem dX7_drawn_160 : decode cX7_drawn 160 = .ok (.irem, 1) := by decide +kernel
theorem dX7_drawn_161 : decode cX7_drawn 161 = .ok (.iload 11, 2) := by decide +kernel
theorem dX7_drawn_163 : decode cX7_drawn 163 = .ok (.iload 6, 2) := by decide +kernel
theorem dX7_drawn_165 : decode cX7_drawn 165 = .ok (.bipush 22, 2) := by decide +kernel
theorem dX7_drawn_167 : decode cX7_drawn 167 = .ok (.iushr, 1) := by decide +kernel
theorem dX7_drawn_168 : decode cX7_drawn 168 = .ok (.bipush 10, 2) := by decide +kernel
theorem dX7_drawn_170 : decode cX7_drawn 170 = .ok (.irem, 1) := by decide +kernel
theorem dX7_drawn_171 : decode cX7_drawn 171 = .ok (.invokevirtual 217, 3) := by decide +kernel
theorem dX7_drawn_174 : decode cX7_drawn 174 = .ok (.pop, 1) := by decide +kernel
theorem dX7_drawn_175 : decode cX7_drawn 175 = .ok (.iinc 7 1, 3) := by decide +kernel
theorem dX7_drawn_178 : decode cX7_drawn 178 = .ok (.iinc 10 1, 3) := by decide +kernel
theorem dX7_drawn_181 : decode cX7_drawn 181 = .ok (.goto (-87), 3) := by decide +kernel
theorem dX7_drawn_184 : decode cX7_drawn 184 = .ok (.iload 8, 2) := by decide +kernel
theorem dX7_drawn_186 : decode cX7_drawn 186 = .ok (.aload_n 0, 1) := by decide +kernel
theorem dX7_drawn_187 : decode cX7_drawn 187 = .ok (.getfield 16, 3) := by decide +kernel
theorem dX7_drawn_190 : decode cX7_drawn 190 = .ok (.invokevirtual 258, 3) := by decide +kernel
theorem dX7_drawn_193 : decode cX7_drawn 193 = .ok (.iadd, 1) := by decide +kernel
theorem dX7_drawn_194 : decode cX7_drawn 194 = .ok (.istore 8, 2) := by decide +kernel
theorem dX7_drawn_196 : decode cX7_drawn 196 = .ok (.iinc 9 1, 3) := by decide +kernel
theorem dX7_drawn_199 : decode cX7_drawn 199 = .ok (.goto (-126), 3) := by decide +kernel
theorem dX7_drawn_202 : decode cX7_drawn 202 = .ok (.iload_n 3, 1) := by decide +kernel
theorem dX7_drawn_203 : decode cX7_drawn 203 = .ok (.ifCond .ne 8, 3) := by decide +kernel
theorem dX7_drawn_206 : decode cX7_drawn 206 = .ok (.iload 7, 2) := by decide +kernel
theorem dX7_drawn_208 : decode cX7_drawn 208 = .ok (.goto 5, 3) := by decide +kernel
theorem dX7_drawn_211 : decode cX7_drawn 211 = .ok (.iload 8, 2) := by decide +kernel
theorem dX7_drawn_213 : decode cX7_drawn 213 = .ok (.ireturn, 1) := by decide +kernel
theorem dX7_say_0 : decode cX7_say 0 = .ok (.aload_n 0, 1) := by decide +kernel
theorem dX7_say_1 : decode cX7_say 1 = .ok (.iload_n 1, 1) := by decide +kernel
theorem dX7_say_2 : decode cX7_say 2 = .ok (.invokevirtual 126, 3) := by decide +kernel
theorem dX7_say_5 : decode cX7_say 5 = .ok (.ifCond .ne 17, 3) := by decide +kernel
theorem dX7_say_8 : decode cX7_say 8 = .ok (.iload_n 2, 1) := by decide +kernel
theorem dX7_say_9 : decode cX7_say 9 = .ok (.ifCond .lt 13, 3) := by decide +kernel
theorem dX7_say_12 : decode cX7_say 12 = .ok (.iload_n 2, 1) := by decide +kernel
theorem dX7_say_13 : decode cX7_say 13 = .ok (.bipush 10, 2) := by decide +kernel
theorem dX7_say_15 : decode cX7_say 15 = .ok (.idiv, 1) := by decide +kernel
theorem dX7_say_16 : decode cX7_say 16 = .ok (.invokestatic 197, 3) := by decide +kernel
theorem dX7_say_19 : decode cX7_say 19 = .ok (.ifCond .eq 5, 3) := by decide +kernel
theorem dX7_say_22 : decode cX7_say 22 = .ok (.iconst (-1), 1) := by decide +kernel
theorem dX7_say_23 : decode cX7_say 23 = .ok (.ireturn, 1) := by decide +kernel
theorem dX7_say_24 : decode cX7_say 24 = .ok (.aload_n 0, 1) := by decide +kernel
theorem dX7_say_25 : decode cX7_say 25 = .ok (.getfield 49, 3) := by decide +kernel
theorem dX7_say_28 : decode cX7_say 28 = .ok (.iconst 0, 1) := by decide +kernel
theorem dX7_say_29 : decode cX7_say 29 = .ok (.dup2, 1) := by decide +kernel
theorem dX7_say_30 : decode cX7_say 30 = .ok (.iaload, 1) := by decide +kernel
theorem dX7_say_31 : decode cX7_say 31 = .ok (.iconst 1, 1) := by decide +kernel
theorem dX7_say_32 : decode cX7_say 32 = .ok (.iadd, 1) := by decide +kernel
theorem dX7_say_33 : decode cX7_say 33 = .ok (.iastore, 1) := by decide +kernel
theorem dX7_say_34 : decode cX7_say 34 = .ok (.iload_n 2, 1) := by decide +kernel
theorem dX7_say_35 : decode cX7_say 35 = .ok (.bipush 100, 2) := by decide +kernel
theorem dX7_say_37 : decode cX7_say 37 = .ok (.idiv, 1) := by decide +kernel
theorem dX7_say_38 : decode cX7_say 38 = .ok (.istore_n 3, 1) := by decide +kernel
theorem dX7_say_39 : decode cX7_say 39 = .ok (.aload_n 0, 1) := by decide +kernel
theorem dX7_say_40 : decode cX7_say 40 = .ok (.getfield 132, 3) := by decide +kernel
theorem dX7_say_43 : decode cX7_say 43 = .ok (.iload_n 3, 1) := by decide +kernel
theorem dX7_say_44 : decode cX7_say 44 = .ok (.iload_n 2, 1) := by decide +kernel
theorem dX7_say_45 : decode cX7_say 45 = .ok (.bipush 10, 2) := by decide +kernel
theorem dX7_say_47 : decode cX7_say 47 = .ok (.idiv, 1) := by decide +kernel
theorem dX7_say_48 : decode cX7_say 48 = .ok (.bipush 10, 2) := by decide +kernel
theorem dX7_say_50 : decode cX7_say 50 = .ok (.irem, 1) := by decide +kernel
theorem dX7_say_51 : decode cX7_say 51 = .ok (.invokestatic 254, 3) := by decide +kernel
theorem dX7_say_54 : decode cX7_say 54 = .ok (.ifCond .ne 5, 3) := by decide +kernel
theorem dX7_say_57 : decode cX7_say 57 = .ok (.iconst 0, 1) := by decide +kernel
theorem dX7_say_58 : decode cX7_say 58 = .ok (.ireturn, 1) := by decide +kernel
theorem dX7_say_59 : decode cX7_say 59 = .ok (.aload_n 0, 1) := by decide +kernel
theorem dX7_say_60 : decode cX7_say 60 = .ok (.getfield 10, 3) := by decide +kernel
theorem dX7_say_63 : decode cX7_say 63 = .ok (.aload_n 0, 1) := by decide +kernel
theorem dX7_say_64 : decode cX7_say 64 = .ok (.getfield 66, 3) := by decide +kernel
theorem dX7_say_67 : decode cX7_say 67 = .ok (.iload_n 1, 1) := by decide +kernel
theorem dX7_say_68 : decode cX7_say 68 = .ok (.iload_n 3, 1) := by decide +kernel
theorem dX7_say_69 : decode cX7_say 69 = .ok (.iload_n 2, 1) := by decide +kernel
theorem dX7_say_70 : decode cX7_say 70 = .ok (.bipush 10, 2) := by decide +kernel
theorem dX7_say_72 : decode cX7_say 72 = .ok (.irem, 1) := by decide +kernel
theorem dX7_say_73 : decode cX7_say 73 = .ok (.invokevirtual 217, 3) := by decide +kernel
theorem dX7_say_76 : decode cX7_say 76 = .ok (.istore 4, 2) := by decide +kernel
theorem dX7_say_78 : decode cX7_say 78 = .ok (.aload_n 0, 1) := by decide +kernel
theorem dX7_say_79 : decode cX7_say 79 = .ok (.getfield 49, 3) := by decide +kernel
theorem dX7_say_82 : decode cX7_say 82 = .ok (.iconst 1, 1) := by decide +kernel
theorem dX7_say_83 : decode cX7_say 83 = .ok (.dup2, 1) := by decide +kernel
theorem dX7_say_84 : decode cX7_say 84 = .ok (.iaload, 1) := by decide +kernel
theorem dX7_say_85 : decode cX7_say 85 = .ok (.iconst 1, 1) := by decide +kernel
theorem dX7_say_86 : decode cX7_say 86 = .ok (.iadd, 1) := by decide +kernel
theorem dX7_say_87 : decode cX7_say 87 = .ok (.iastore, 1) := by decide +kernel
theorem dX7_say_88 : decode cX7_say 88 = .ok (.aload_n 0, 1) := by decide +kernel
theorem dX7_say_89 : decode cX7_say 89 = .ok (.getfield 49, 3) := by decide +kernel
theorem dX7_say_92 : decode cX7_say 92 = .ok (.iconst 2, 1) := by decide +kernel
theorem dX7_say_93 : decode cX7_say 93 = .ok (.dup2, 1) := by decide +kernel
theorem dX7_say_94 : decode cX7_say 94 = .ok (.iaload, 1) := by decide +kernel
theorem dX7_say_95 : decode cX7_say 95 = .ok (.iload 4, 2) := by decide +kernel
theorem dX7_say_97 : decode cX7_say 97 = .ok (.iadd, 1) := by decide +kernel
theorem dX7_say_98 : decode cX7_say 98 = .ok (.iastore, 1) := by decide +kernel
theorem dX7_say_99 : decode cX7_say 99 = .ok (.iload 4, 2) := by decide +kernel
theorem dX7_say_101 : decode cX7_say 101 = .ok (.ireturn, 1) := by decide +kernel
theorem dX7_lend_0 : decode cX7_lend 0 = .ok (.iload_n 1, 1) := by decide +kernel
theorem dX7_lend_1 : decode cX7_lend 1 = .ok (.ifCond .lt 45, 3) := by decide +kernel
theorem dX7_lend_4 : decode cX7_lend 4 = .ok (.aload_n 0, 1) := by decide +kernel
theorem dX7_lend_5 : decode cX7_lend 5 = .ok (.iload_n 1, 1) := by decide +kernel
theorem dX7_lend_6 : decode cX7_lend 6 = .ok (.bipush 10, 2) := by decide +kernel
theorem dX7_lend_8 : decode cX7_lend 8 = .ok (.idiv, 1) := by decide +kernel
theorem dX7_lend_9 : decode cX7_lend 9 = .ok (.invokevirtual 126, 3) := by decide +kernel
theorem dX7_lend_12 : decode cX7_lend 12 = .ok (.ifCond .ne 34, 3) := by decide +kernel
theorem dX7_lend_15 : decode cX7_lend 15 = .ok (.aload_n 0, 1) := by decide +kernel
theorem dX7_lend_16 : decode cX7_lend 16 = .ok (.iload_n 1, 1) := by decide +kernel
theorem dX7_lend_17 : decode cX7_lend 17 = .ok (.bipush 10, 2) := by decide +kernel
theorem dX7_lend_19 : decode cX7_lend 19 = .ok (.irem, 1) := by decide +kernel
theorem dX7_lend_20 : decode cX7_lend 20 = .ok (.invokevirtual 126, 3) := by decide +kernel
theorem dX7_lend_23 : decode cX7_lend 23 = .ok (.ifCond .ne 23, 3) := by decide +kernel
theorem dX7_lend_26 : decode cX7_lend 26 = .ok (.iload_n 1, 1) := by decide +kernel
theorem dX7_lend_27 : decode cX7_lend 27 = .ok (.bipush 10, 2) := by decide +kernel
theorem dX7_lend_29 : decode cX7_lend 29 = .ok (.idiv, 1) := by decide +kernel
theorem dX7_lend_30 : decode cX7_lend 30 = .ok (.iload_n 1, 1) := by decide +kernel
theorem dX7_lend_31 : decode cX7_lend 31 = .ok (.bipush 10, 2) := by decide +kernel
theorem dX7_lend_33 : decode cX7_lend 33 = .ok (.irem, 1) := by decide +kernel
theorem dX7_lend_34 : decode cX7_lend 34 = .ok (.if_icmp .eq 12, 3) := by decide +kernel
theorem dX7_lend_37 : decode cX7_lend 37 = .ok (.iload_n 2, 1) := by decide +kernel
theorem dX7_lend_38 : decode cX7_lend 38 = .ok (.bipush 7, 2) := by decide +kernel
theorem dX7_lend_40 : decode cX7_lend 40 = .ok (.invokestatic 71, 3) := by decide +kernel
theorem dX7_lend_43 : decode cX7_lend 43 = .ok (.ifCond .eq 5, 3) := by decide +kernel
theorem dX7_lend_46 : decode cX7_lend 46 = .ok (.iconst (-1), 1) := by decide +kernel
theorem dX7_lend_47 : decode cX7_lend 47 = .ok (.ireturn, 1) := by decide +kernel
theorem dX7_lend_48 : decode cX7_lend 48 = .ok (.aload_n 0, 1) := by decide +kernel
theorem dX7_lend_49 : decode cX7_lend 49 = .ok (.getfield 10, 3) := by decide +kernel
theorem dX7_lend_52 : decode cX7_lend 52 = .ok (.iload_n 1, 1) := by decide +kernel
theorem dX7_lend_53 : decode cX7_lend 53 = .ok (.bipush 10, 2) := by decide +kernel
theorem dX7_lend_55 : decode cX7_lend 55 = .ok (.idiv, 1) := by decide +kernel
theorem dX7_lend_56 : decode cX7_lend 56 = .ok (.iload_n 1, 1) := by decide +kernel
theorem dX7_lend_57 : decode cX7_lend 57 = .ok (.bipush 10, 2) := by decide +kernel
theorem dX7_lend_59 : decode cX7_lend 59 = .ok (.irem, 1) := by decide +kernel
theorem dX7_lend_60 : decode cX7_lend 60 = .ok (.iload_n 2, 1) := by decide +kernel
theorem dX7_lend_61 : decode cX7_lend 61 = .ok (.invokevirtual 261, 3) := by decide +kernel
theorem dX7_lend_64 : decode cX7_lend 64 = .ok (.aload_n 0, 1) := by decide +kernel
theorem dX7_lend_65 : decode cX7_lend 65 = .ok (.getfield 49, 3) := by decide +kernel
theorem dX7_lend_68 : decode cX7_lend 68 = .ok (.iconst 3, 1) := by decide +kernel
theorem dX7_lend_69 : decode cX7_lend 69 = .ok (.dup2, 1) := by decide +kernel
theorem dX7_lend_70 : decode cX7_lend 70 = .ok (.iaload, 1) := by decide +kernel
theorem dX7_lend_71 : decode cX7_lend 71 = .ok (.iconst 1, 1) := by decide +kernel
theorem dX7_lend_72 : decode cX7_lend 72 = .ok (.iadd, 1) := by decide +kernel
theorem dX7_lend_73 : decode cX7_lend 73 = .ok (.iastore, 1) := by decide +kernel
theorem dX7_lend_74 : decode cX7_lend 74 = .ok (.aload_n 0, 1) := by decide +kernel
theorem dX7_lend_75 : decode cX7_lend 75 = .ok (.getfield 10, 3) := by decide +kernel
theorem dX7_lend_78 : decode cX7_lend 78 = .ok (.getfield 83, 3) := by decide +kernel
theorem dX7_lend_81 : decode cX7_lend 81 = .ok (.iload_n 1, 1) := by decide +kernel
theorem dX7_lend_82 : decode cX7_lend 82 = .ok (.bipush 10, 2) := by decide +kernel
theorem dX7_lend_84 : decode cX7_lend 84 = .ok (.idiv, 1) := by decide +kernel
theorem dX7_lend_85 : decode cX7_lend 85 = .ok (.bipush 8, 2) := by decide +kernel
theorem dX7_lend_87 : decode cX7_lend 87 = .ok (.imul, 1) := by decide +kernel
theorem dX7_lend_88 : decode cX7_lend 88 = .ok (.iload_n 2, 1) := by decide +kernel
theorem dX7_lend_89 : decode cX7_lend 89 = .ok (.iadd, 1) := by decide +kernel
theorem dX7_lend_90 : decode cX7_lend 90 = .ok (.iaload, 1) := by decide +kernel
theorem dX7_lend_91 : decode cX7_lend 91 = .ok (.ireturn, 1) := by decide +kernel
theorem dX7_cap_0 : decode cX7_cap 0 = .ok (.aload_n 0, 1) := by decide +kernel
theorem dX7_cap_1 : decode cX7_cap 1 = .ok (.iload_n 1, 1) := by decide +kernel
theorem dX7_cap_2 : decode cX7_cap 2 = .ok (.invokevirtual 126, 3) := by decide +kernel
theorem dX7_cap_5 : decode cX7_cap 5 = .ok (.ifCond .ne 12, 3) := by decide +kernel
theorem dX7_cap_8 : decode cX7_cap 8 = .ok (.iload_n 2, 1) := by decide +kernel
theorem dX7_cap_9 : decode cX7_cap 9 = .ok (.bipush 7, 2) := by decide +kernel
theorem dX7_cap_11 : decode cX7_cap 11 = .ok (.invokestatic 71, 3) := by decide +kernel
theorem dX7_cap_14 : decode cX7_cap 14 = .ok (.ifCond .eq 5, 3) := by decide +kernel
theorem dX7_cap_17 : decode cX7_cap 17 = .ok (.iconst (-1), 1) := by decide +kernel
theorem dX7_cap_18 : decode cX7_cap 18 = .ok (.ireturn, 1) := by decide +kernel
theorem dX7_cap_19 : decode cX7_cap 19 = .ok (.aload_n 0, 1) := by decide +kernel
theorem dX7_cap_20 : decode cX7_cap 20 = .ok (.getfield 10, 3) := by decide +kernel
theorem dX7_cap_23 : decode cX7_cap 23 = .ok (.iload_n 1, 1) := by decide +kernel
theorem dX7_cap_24 : decode cX7_cap 24 = .ok (.iload_n 2, 1) := by decide +kernel
theorem dX7_cap_25 : decode cX7_cap 25 = .ok (.invokevirtual 264, 3) := by decide +kernel
theorem dX7_cap_28 : decode cX7_cap 28 = .ok (.ifCond .eq 6, 3) := by decide +kernel
theorem dX7_cap_31 : decode cX7_cap 31 = .ok (.bipush (-5), 2) := by decide +kernel
theorem dX7_cap_33 : decode cX7_cap 33 = .ok (.ireturn, 1) := by decide +kernel
theorem dX7_cap_34 : decode cX7_cap 34 = .ok (.aload_n 0, 1) := by decide +kernel
theorem dX7_cap_35 : decode cX7_cap 35 = .ok (.getfield 10, 3) := by decide +kernel
theorem dX7_cap_38 : decode cX7_cap 38 = .ok (.getfield 129, 3) := by decide +kernel
theorem dX7_cap_41 : decode cX7_cap 41 = .ok (.iload_n 1, 1) := by decide +kernel
theorem dX7_cap_42 : decode cX7_cap 42 = .ok (.dup2, 1) := by decide +kernel
theorem dX7_cap_43 : decode cX7_cap 43 = .ok (.iaload, 1) := by decide +kernel
theorem dX7_cap_44 : decode cX7_cap 44 = .ok (.iconst 1, 1) := by decide +kernel
theorem dX7_cap_45 : decode cX7_cap 45 = .ok (.iload_n 2, 1) := by decide +kernel
theorem dX7_cap_46 : decode cX7_cap 46 = .ok (.ishl, 1) := by decide +kernel
theorem dX7_cap_47 : decode cX7_cap 47 = .ok (.ior, 1) := by decide +kernel
theorem dX7_cap_48 : decode cX7_cap 48 = .ok (.iastore, 1) := by decide +kernel
theorem dX7_cap_49 : decode cX7_cap 49 = .ok (.aload_n 0, 1) := by decide +kernel
theorem dX7_cap_50 : decode cX7_cap 50 = .ok (.getfield 49, 3) := by decide +kernel
theorem dX7_cap_53 : decode cX7_cap 53 = .ok (.iconst 4, 1) := by decide +kernel
theorem dX7_cap_54 : decode cX7_cap 54 = .ok (.dup2, 1) := by decide +kernel
theorem dX7_cap_55 : decode cX7_cap 55 = .ok (.iaload, 1) := by decide +kernel
theorem dX7_cap_56 : decode cX7_cap 56 = .ok (.iconst 1, 1) := by decide +kernel
theorem dX7_cap_57 : decode cX7_cap 57 = .ok (.iadd, 1) := by decide +kernel
theorem dX7_cap_58 : decode cX7_cap 58 = .ok (.iastore, 1) := by decide +kernel
theorem dX7_cap_59 : decode cX7_cap 59 = .ok (.aload_n 0, 1) := by decide +kernel
theorem dX7_cap_60 : decode cX7_cap 60 = .ok (.getfield 10, 3) := by decide +kernel
theorem dX7_cap_63 : decode cX7_cap 63 = .ok (.getfield 129, 3) := by decide +kernel
theorem dX7_cap_66 : decode cX7_cap 66 = .ok (.iload_n 1, 1) := by decide +kernel
theorem dX7_cap_67 : decode cX7_cap 67 = .ok (.iaload, 1) := by decide +kernel
theorem dX7_cap_68 : decode cX7_cap 68 = .ok (.invokestatic 221, 3) := by decide +kernel
theorem dX7_cap_71 : decode cX7_cap 71 = .ok (.ireturn, 1) := by decide +kernel
theorem dX7_year_0 : decode cX7_year 0 = .ok (.iconst 0, 1) := by decide +kernel
theorem dX7_year_1 : decode cX7_year 1 = .ok (.istore_n 1, 1) := by decide +kernel
theorem dX7_year_2 : decode cX7_year 2 = .ok (.iconst 0, 1) := by decide +kernel
theorem dX7_year_3 : decode cX7_year 3 = .ok (.istore_n 2, 1) := by decide +kernel
theorem dX7_year_4 : decode cX7_year 4 = .ok (.iload_n 2, 1) := by decide +kernel
theorem dX7_year_5 : decode cX7_year 5 = .ok (.aload_n 0, 1) := by decide +kernel
theorem dX7_year_6 : decode cX7_year 6 = .ok (.getfield 10, 3) := by decide +kernel
theorem dX7_year_9 : decode cX7_year 9 = .ok (.getfield 75, 3) := by decide +kernel
theorem dX7_year_12 : decode cX7_year 12 = .ok (.if_icmp .ge 31, 3) := by decide +kernel
theorem dX7_year_15 : decode cX7_year 15 = .ok (.iload_n 1, 1) := by decide +kernel
theorem dX7_year_16 : decode cX7_year 16 = .ok (.aload_n 0, 1) := by decide +kernel
theorem dX7_year_17 : decode cX7_year 17 = .ok (.getfield 10, 3) := by decide +kernel
theorem dX7_year_20 : decode cX7_year 20 = .ok (.getfield 141, 3) := by decide +kernel
theorem dX7_year_23 : decode cX7_year 23 = .ok (.iload_n 2, 1) := by decide +kernel
theorem dX7_year_24 : decode cX7_year 24 = .ok (.iaload, 1) := by decide +kernel
theorem dX7_year_25 : decode cX7_year 25 = .ok (.iadd, 1) := by decide +kernel
theorem dX7_year_26 : decode cX7_year 26 = .ok (.istore_n 1, 1) := by decide +kernel
theorem dX7_year_27 : decode cX7_year 27 = .ok (.aload_n 0, 1) := by decide +kernel
theorem dX7_year_28 : decode cX7_year 28 = .ok (.getfield 10, 3) := by decide +kernel
theorem dX7_year_31 : decode cX7_year 31 = .ok (.getfield 141, 3) := by decide +kernel
theorem dX7_year_34 : decode cX7_year 34 = .ok (.iload_n 2, 1) := by decide +kernel
theorem dX7_year_35 : decode cX7_year 35 = .ok (.iconst 0, 1) := by decide +kernel
theorem dX7_year_36 : decode cX7_year 36 = .ok (.iastore, 1) := by decide +kernel
theorem dX7_year_37 : decode cX7_year 37 = .ok (.iinc 2 1, 3) := by decide +kernel
theorem dX7_year_40 : decode cX7_year 40 = .ok (.goto (-36), 3) := by decide +kernel
theorem dX7_year_43 : decode cX7_year 43 = .ok (.aload_n 0, 1) := by decide +kernel
theorem dX7_year_44 : decode cX7_year 44 = .ok (.getfield 49, 3) := by decide +kernel
theorem dX7_year_47 : decode cX7_year 47 = .ok (.iconst 5, 1) := by decide +kernel
theorem dX7_year_48 : decode cX7_year 48 = .ok (.dup2, 1) := by decide +kernel
theorem dX7_year_49 : decode cX7_year 49 = .ok (.iaload, 1) := by decide +kernel
theorem dX7_year_50 : decode cX7_year 50 = .ok (.iconst 1, 1) := by decide +kernel
theorem dX7_year_51 : decode cX7_year 51 = .ok (.iadd, 1) := by decide +kernel
theorem dX7_year_52 : decode cX7_year 52 = .ok (.iastore, 1) := by decide +kernel
theorem dX7_year_53 : decode cX7_year 53 = .ok (.iload_n 1, 1) := by decide +kernel
theorem dX7_year_54 : decode cX7_year 54 = .ok (.ireturn, 1) := by decide +kernel
theorem dX7_led_0 : decode cX7_led 0 = .ok (.iload_n 1, 1) := by decide +kernel
theorem dX7_led_1 : decode cX7_led 1 = .ok (.aload_n 0, 1) := by decide +kernel
theorem dX7_led_2 : decode cX7_led 2 = .ok (.getfield 49, 3) := by decide +kernel
theorem dX7_led_5 : decode cX7_led 5 = .ok (.arraylength, 1) := by decide +kernel
theorem dX7_led_6 : decode cX7_led 6 = .ok (.iconst 1, 1) := by decide +kernel
theorem dX7_led_7 : decode cX7_led 7 = .ok (.isub, 1) := by decide +kernel
theorem dX7_led_8 : decode cX7_led 8 = .ok (.invokestatic 71, 3) := by decide +kernel
theorem dX7_led_11 : decode cX7_led 11 = .ok (.ifCond .eq 7, 3) := by decide +kernel
theorem dX7_led_14 : decode cX7_led 14 = .ok (.iconst (-1), 1) := by decide +kernel
theorem dX7_led_15 : decode cX7_led 15 = .ok (.goto 9, 3) := by decide +kernel
theorem dX7_led_18 : decode cX7_led 18 = .ok (.aload_n 0, 1) := by decide +kernel
theorem dX7_led_19 : decode cX7_led 19 = .ok (.getfield 49, 3) := by decide +kernel
theorem dX7_led_22 : decode cX7_led 22 = .ok (.iload_n 1, 1) := by decide +kernel
theorem dX7_led_23 : decode cX7_led 23 = .ok (.iaload, 1) := by decide +kernel
theorem dX7_led_24 : decode cX7_led 24 = .ok (.ireturn, 1) := by decide +kernel
theorem dX7_image_0 : decode cX7_image 0 = .ok (.aload_n 0, 1) := by decide +kernel
theorem dX7_image_1 : decode cX7_image 1 = .ok (.getfield 19, 3) := by decide +kernel
theorem dX7_image_4 : decode cX7_image 4 = .ok (.aload_n 0, 1) := by decide +kernel
theorem dX7_image_5 : decode cX7_image 5 = .ok (.getfield 10, 3) := by decide +kernel
theorem dX7_image_8 : decode cX7_image 8 = .ok (.invokevirtual 203, 3) := by decide +kernel
theorem dX7_image_11 : decode cX7_image 11 = .ok (.aload_n 0, 1) := by decide +kernel
theorem dX7_image_12 : decode cX7_image 12 = .ok (.getfield 49, 3) := by decide +kernel
theorem dX7_image_15 : decode cX7_image 15 = .ok (.iconst 0, 1) := by decide +kernel
theorem dX7_image_16 : decode cX7_image 16 = .ok (.aload_n 0, 1) := by decide +kernel
theorem dX7_image_17 : decode cX7_image 17 = .ok (.getfield 53, 3) := by decide +kernel
theorem dX7_image_20 : decode cX7_image 20 = .ok (.iconst 0, 1) := by decide +kernel
theorem dX7_image_21 : decode cX7_image 21 = .ok (.aload_n 0, 1) := by decide +kernel
theorem dX7_image_22 : decode cX7_image 22 = .ok (.getfield 49, 3) := by decide +kernel
theorem dX7_image_25 : decode cX7_image 25 = .ok (.arraylength, 1) := by decide +kernel
theorem dX7_image_26 : decode cX7_image 26 = .ok (.invokestatic 267, 3) := by decide +kernel
theorem dX7_image_29 : decode cX7_image 29 = .ok (.aload_n 0, 1) := by decide +kernel
theorem dX7_image_30 : decode cX7_image 30 = .ok (.iconst 1, 1) := by decide +kernel
theorem dX7_image_31 : decode cX7_image 31 = .ok (.putfield 273, 3) := by decide +kernel
theorem dX7_image_34 : decode cX7_image 34 = .ok (.aload_n 0, 1) := by decide +kernel
theorem dX7_image_35 : decode cX7_image 35 = .ok (.getfield 49, 3) := by decide +kernel
theorem dX7_image_38 : decode cX7_image 38 = .ok (.iconst 0, 1) := by decide +kernel
theorem dX7_image_39 : decode cX7_image 39 = .ok (.iaload, 1) := by decide +kernel
theorem dX7_image_40 : decode cX7_image 40 = .ok (.ireturn, 1) := by decide +kernel
theorem dX7_back_0 : decode cX7_back 0 = .ok (.aload_n 0, 1) := by decide +kernel
theorem dX7_back_1 : decode cX7_back 1 = .ok (.getfield 273, 3) := by decide +kernel
theorem dX7_back_4 : decode cX7_back 4 = .ok (.ifCond .ne 6, 3) := by decide +kernel
theorem dX7_back_7 : decode cX7_back 7 = .ok (.bipush (-5), 2) := by decide +kernel
theorem dX7_back_9 : decode cX7_back 9 = .ok (.ireturn, 1) := by decide +kernel
theorem dX7_back_10 : decode cX7_back 10 = .ok (.aload_n 0, 1) := by decide +kernel
theorem dX7_back_11 : decode cX7_back 11 = .ok (.getfield 10, 3) := by decide +kernel
theorem dX7_back_14 : decode cX7_back 14 = .ok (.aload_n 0, 1) := by decide +kernel
theorem dX7_back_15 : decode cX7_back 15 = .ok (.getfield 19, 3) := by decide +kernel
theorem dX7_back_18 : decode cX7_back 18 = .ok (.invokevirtual 277, 3) := by decide +kernel
theorem dX7_back_21 : decode cX7_back 21 = .ok (.aload_n 0, 1) := by decide +kernel
theorem dX7_back_22 : decode cX7_back 22 = .ok (.getfield 53, 3) := by decide +kernel
theorem dX7_back_25 : decode cX7_back 25 = .ok (.iconst 0, 1) := by decide +kernel
theorem dX7_back_26 : decode cX7_back 26 = .ok (.aload_n 0, 1) := by decide +kernel
theorem dX7_back_27 : decode cX7_back 27 = .ok (.getfield 49, 3) := by decide +kernel
theorem dX7_back_30 : decode cX7_back 30 = .ok (.iconst 0, 1) := by decide +kernel
theorem dX7_back_31 : decode cX7_back 31 = .ok (.aload_n 0, 1) := by decide +kernel
theorem dX7_back_32 : decode cX7_back 32 = .ok (.getfield 49, 3) := by decide +kernel
theorem dX7_back_35 : decode cX7_back 35 = .ok (.arraylength, 1) := by decide +kernel
theorem dX7_back_36 : decode cX7_back 36 = .ok (.invokestatic 267, 3) := by decide +kernel
theorem dX7_back_39 : decode cX7_back 39 = .ok (.aload_n 0, 1) := by decide +kernel
theorem dX7_back_40 : decode cX7_back 40 = .ok (.getfield 49, 3) := by decide +kernel
theorem dX7_back_43 : decode cX7_back 43 = .ok (.iconst 0, 1) := by decide +kernel
theorem dX7_back_44 : decode cX7_back 44 = .ok (.iaload, 1) := by decide +kernel
theorem dX7_back_45 : decode cX7_back 45 = .ok (.ireturn, 1) := by decide +kernel
theorem dX7_undo_0 : decode cX7_undo 0 = .ok (.aload_n 0, 1) := by decide +kernel
theorem dX7_undo_1 : decode cX7_undo 1 = .ok (.getfield 32, 3) := by decide +kernel
theorem dX7_undo_4 : decode cX7_undo 4 = .ok (.getfield 280, 3) := by decide +kernel
theorem dX7_undo_7 : decode cX7_undo 7 = .ok (.iconst 1, 1) := by decide +kernel
theorem dX7_undo_8 : decode cX7_undo 8 = .ok (.if_icmp .ge 6, 3) := by decide +kernel
theorem dX7_undo_11 : decode cX7_undo 11 = .ok (.bipush (-5), 2) := by decide +kernel
theorem dX7_undo_13 : decode cX7_undo 13 = .ok (.ireturn, 1) := by decide +kernel
theorem dX7_undo_14 : decode cX7_undo 14 = .ok (.aload_n 0, 1) := by decide +kernel
theorem dX7_undo_15 : decode cX7_undo 15 = .ok (.getfield 32, 3) := by decide +kernel
theorem dX7_undo_18 : decode cX7_undo 18 = .ok (.dup, 1) := by decide +kernel
theorem dX7_undo_19 : decode cX7_undo 19 = .ok (.getfield 280, 3) := by decide +kernel
theorem dX7_undo_22 : decode cX7_undo 22 = .ok (.iconst 1, 1) := by decide +kernel
theorem dX7_undo_23 : decode cX7_undo 23 = .ok (.isub, 1) := by decide +kernel
theorem dX7_undo_24 : decode cX7_undo 24 = .ok (.putfield 280, 3) := by decide +kernel
theorem dX7_undo_27 : decode cX7_undo 27 = .ok (.aload_n 0, 1) := by decide +kernel
theorem dX7_undo_28 : decode cX7_undo 28 = .ok (.getfield 32, 3) := by decide +kernel
theorem dX7_undo_31 : decode cX7_undo 31 = .ok (.getfield 280, 3) := by decide +kernel
theorem dX7_undo_34 : decode cX7_undo 34 = .ok (.istore_n 1, 1) := by decide +kernel
theorem dX7_undo_35 : decode cX7_undo 35 = .ok (.aload_n 0, 1) := by decide +kernel
theorem dX7_undo_36 : decode cX7_undo 36 = .ok (.aload_n 0, 1) := by decide +kernel
theorem dX7_undo_37 : decode cX7_undo 37 = .ok (.getfield 32, 3) := by decide +kernel
theorem dX7_undo_40 : decode cX7_undo 40 = .ok (.getfield 283, 3) := by decide +kernel
theorem dX7_undo_43 : decode cX7_undo 43 = .ok (.iload_n 1, 1) := by decide +kernel
theorem dX7_undo_44 : decode cX7_undo 44 = .ok (.iaload, 1) := by decide +kernel
theorem dX7_undo_45 : decode cX7_undo 45 = .ok (.aload_n 0, 1) := by decide +kernel
theorem dX7_undo_46 : decode cX7_undo 46 = .ok (.getfield 32, 3) := by decide +kernel
theorem dX7_undo_49 : decode cX7_undo 49 = .ok (.getfield 286, 3) := by decide +kernel
theorem dX7_undo_52 : decode cX7_undo 52 = .ok (.iload_n 1, 1) := by decide +kernel
theorem dX7_undo_53 : decode cX7_undo 53 = .ok (.iaload, 1) := by decide +kernel
theorem dX7_undo_54 : decode cX7_undo 54 = .ok (.aload_n 0, 1) := by decide +kernel
theorem dX7_undo_55 : decode cX7_undo 55 = .ok (.getfield 32, 3) := by decide +kernel
theorem dX7_undo_58 : decode cX7_undo 58 = .ok (.getfield 289, 3) := by decide +kernel
theorem dX7_undo_61 : decode cX7_undo 61 = .ok (.iload_n 1, 1) := by decide +kernel
theorem dX7_undo_62 : decode cX7_undo 62 = .ok (.iaload, 1) := by decide +kernel
theorem dX7_undo_63 : decode cX7_undo 63 = .ok (.invokevirtual 122, 3) := by decide +kernel
theorem dX7_undo_66 : decode cX7_undo 66 = .ok (.aload_n 0, 1) := by decide +kernel
theorem dX7_undo_67 : decode cX7_undo 67 = .ok (.getfield 32, 3) := by decide +kernel
theorem dX7_undo_70 : decode cX7_undo 70 = .ok (.getfield 280, 3) := by decide +kernel
theorem dX7_undo_73 : decode cX7_undo 73 = .ok (.ireturn, 1) := by decide +kernel
theorem dX7_redo_0 : decode cX7_redo 0 = .ok (.aload_n 0, 1) := by decide +kernel
theorem dX7_redo_1 : decode cX7_redo 1 = .ok (.getfield 32, 3) := by decide +kernel
theorem dX7_redo_4 : decode cX7_redo 4 = .ok (.getfield 280, 3) := by decide +kernel
theorem dX7_redo_7 : decode cX7_redo 7 = .ok (.aload_n 0, 1) := by decide +kernel
theorem dX7_redo_8 : decode cX7_redo 8 = .ok (.getfield 32, 3) := by decide +kernel
theorem dX7_redo_11 : decode cX7_redo 11 = .ok (.getfield 292, 3) := by decide +kernel
theorem dX7_redo_14 : decode cX7_redo 14 = .ok (.if_icmp .lt 6, 3) := by decide +kernel
theorem dX7_redo_17 : decode cX7_redo 17 = .ok (.bipush (-5), 2) := by decide +kernel
theorem dX7_redo_19 : decode cX7_redo 19 = .ok (.ireturn, 1) := by decide +kernel
theorem dX7_redo_20 : decode cX7_redo 20 = .ok (.aload_n 0, 1) := by decide +kernel
theorem dX7_redo_21 : decode cX7_redo 21 = .ok (.getfield 32, 3) := by decide +kernel
theorem dX7_redo_24 : decode cX7_redo 24 = .ok (.getfield 280, 3) := by decide +kernel
theorem dX7_redo_27 : decode cX7_redo 27 = .ok (.istore_n 1, 1) := by decide +kernel
theorem dX7_redo_28 : decode cX7_redo 28 = .ok (.aload_n 0, 1) := by decide +kernel
theorem dX7_redo_29 : decode cX7_redo 29 = .ok (.aload_n 0, 1) := by decide +kernel
theorem dX7_redo_30 : decode cX7_redo 30 = .ok (.getfield 32, 3) := by decide +kernel
theorem dX7_redo_33 : decode cX7_redo 33 = .ok (.getfield 283, 3) := by decide +kernel
theorem dX7_redo_36 : decode cX7_redo 36 = .ok (.iload_n 1, 1) := by decide +kernel
theorem dX7_redo_37 : decode cX7_redo 37 = .ok (.iaload, 1) := by decide +kernel
theorem dX7_redo_38 : decode cX7_redo 38 = .ok (.aload_n 0, 1) := by decide +kernel
theorem dX7_redo_39 : decode cX7_redo 39 = .ok (.getfield 32, 3) := by decide +kernel
theorem dX7_redo_42 : decode cX7_redo 42 = .ok (.getfield 286, 3) := by decide +kernel
theorem dX7_redo_45 : decode cX7_redo 45 = .ok (.iload_n 1, 1) := by decide +kernel
theorem dX7_redo_46 : decode cX7_redo 46 = .ok (.iaload, 1) := by decide +kernel
theorem dX7_redo_47 : decode cX7_redo 47 = .ok (.aload_n 0, 1) := by decide +kernel
theorem dX7_redo_48 : decode cX7_redo 48 = .ok (.getfield 32, 3) := by decide +kernel
theorem dX7_redo_51 : decode cX7_redo 51 = .ok (.getfield 295, 3) := by decide +kernel
theorem dX7_redo_54 : decode cX7_redo 54 = .ok (.iload_n 1, 1) := by decide +kernel
theorem dX7_redo_55 : decode cX7_redo 55 = .ok (.iaload, 1) := by decide +kernel
theorem dX7_redo_56 : decode cX7_redo 56 = .ok (.invokevirtual 122, 3) := by decide +kernel
theorem dX7_redo_59 : decode cX7_redo 59 = .ok (.aload_n 0, 1) := by decide +kernel
theorem dX7_redo_60 : decode cX7_redo 60 = .ok (.getfield 32, 3) := by decide +kernel
theorem dX7_redo_63 : decode cX7_redo 63 = .ok (.dup, 1) := by decide +kernel
theorem dX7_redo_64 : decode cX7_redo 64 = .ok (.getfield 280, 3) := by decide +kernel
theorem dX7_redo_67 : decode cX7_redo 67 = .ok (.iconst 1, 1) := by decide +kernel
theorem dX7_redo_68 : decode cX7_redo 68 = .ok (.iadd, 1) := by decide +kernel
theorem dX7_redo_69 : decode cX7_redo 69 = .ok (.putfield 280, 3) := by decide +kernel
theorem dX7_redo_72 : decode cX7_redo 72 = .ok (.aload_n 0, 1) := by decide +kernel
theorem dX7_redo_73 : decode cX7_redo 73 = .ok (.getfield 32, 3) := by decide +kernel
theorem dX7_redo_76 : decode cX7_redo 76 = .ok (.getfield 292, 3) := by decide +kernel
theorem dX7_redo_79 : decode cX7_redo 79 = .ok (.aload_n 0, 1) := by decide +kernel
theorem dX7_redo_80 : decode cX7_redo 80 = .ok (.getfield 32, 3) := by decide +kernel
theorem dX7_redo_83 : decode cX7_redo 83 = .ok (.getfield 280, 3) := by decide +kernel
theorem dX7_redo_86 : decode cX7_redo 86 = .ok (.isub, 1) := by decide +kernel
theorem dX7_redo_87 : decode cX7_redo 87 = .ok (.ireturn, 1) := by decide +kernel
theorem dX7_body_0 : decode cX7_body 0 = .ok (.iload_n 1, 1) := by decide +kernel
theorem dX7_body_1 : decode cX7_body 1 = .ok (.bipush 7, 2) := by decide +kernel
theorem dX7_body_3 : decode cX7_body 3 = .ok (.invokestatic 71, 3) := by decide +kernel
theorem dX7_body_6 : decode cX7_body 6 = .ok (.ifCond .eq 5, 3) := by decide +kernel
theorem dX7_body_9 : decode cX7_body 9 = .ok (.iconst (-1), 1) := by decide +kernel
theorem dX7_body_10 : decode cX7_body 10 = .ok (.ireturn, 1) := by decide +kernel
theorem dX7_body_11 : decode cX7_body 11 = .ok (.aload_n 0, 1) := by decide +kernel
theorem dX7_body_12 : decode cX7_body 12 = .ok (.getfield 39, 3) := by decide +kernel
theorem dX7_body_15 : decode cX7_body 15 = .ok (.iload_n 1, 1) := by decide +kernel
theorem dX7_body_16 : decode cX7_body 16 = .ok (.invokevirtual 298, 3) := by decide +kernel
theorem dX7_body_19 : decode cX7_body 19 = .ok (.ireturn, 1) := by decide +kernel
theorem dX7_act_0 : decode cX7_act 0 = .ok (.aload_n 0, 1) := by decide +kernel
theorem dX7_act_1 : decode cX7_act 1 = .ok (.getfield 39, 3) := by decide +kernel
theorem dX7_act_4 : decode cX7_act 4 = .ok (.iload_n 1, 1) := by decide +kernel
theorem dX7_act_5 : decode cX7_act 5 = .ok (.iload_n 2, 1) := by decide +kernel
theorem dX7_act_6 : decode cX7_act 6 = .ok (.iload_n 3, 1) := by decide +kernel
theorem dX7_act_7 : decode cX7_act 7 = .ok (.invokevirtual 301, 3) := by decide +kernel
theorem dX7_act_10 : decode cX7_act 10 = .ok (.ireturn, 1) := by decide +kernel
theorem dX7_trace_0 : decode cX7_trace 0 = .ok (.iload_n 1, 1) := by decide +kernel
theorem dX7_trace_1 : decode cX7_trace 1 = .ok (.aload_n 0, 1) := by decide +kernel
theorem dX7_trace_2 : decode cX7_trace 2 = .ok (.getfield 39, 3) := by decide +kernel
theorem dX7_trace_5 : decode cX7_trace 5 = .ok (.invokevirtual 305, 3) := by decide +kernel
theorem dX7_trace_8 : decode cX7_trace 8 = .ok (.iconst 1, 1) := by decide +kernel
theorem dX7_trace_9 : decode cX7_trace 9 = .ok (.isub, 1) := by decide +kernel
theorem dX7_trace_10 : decode cX7_trace 10 = .ok (.invokestatic 71, 3) := by decide +kernel
theorem dX7_trace_13 : decode cX7_trace 13 = .ok (.ifCond .eq 7, 3) := by decide +kernel
theorem dX7_trace_16 : decode cX7_trace 16 = .ok (.iconst (-1), 1) := by decide +kernel
theorem dX7_trace_17 : decode cX7_trace 17 = .ok (.goto 12, 3) := by decide +kernel
theorem dX7_trace_20 : decode cX7_trace 20 = .ok (.aload_n 0, 1) := by decide +kernel
theorem dX7_trace_21 : decode cX7_trace 21 = .ok (.getfield 39, 3) := by decide +kernel
theorem dX7_trace_24 : decode cX7_trace 24 = .ok (.getfield 308, 3) := by decide +kernel
theorem dX7_trace_27 : decode cX7_trace 27 = .ok (.iload_n 1, 1) := by decide +kernel
theorem dX7_trace_28 : decode cX7_trace 28 = .ok (.iaload, 1) := by decide +kernel
theorem dX7_trace_29 : decode cX7_trace 29 = .ok (.ireturn, 1) := by decide +kernel
theorem dX7_keep_0 : decode cX7_keep 0 = .ok (.iload_n 1, 1) := by decide +kernel
theorem dX7_keep_1 : decode cX7_keep 1 = .ok (.invokestatic 86, 3) := by decide +kernel
theorem dX7_keep_4 : decode cX7_keep 4 = .ok (.ifCond .ne 19, 3) := by decide +kernel
theorem dX7_keep_7 : decode cX7_keep 7 = .ok (.iload_n 2, 1) := by decide +kernel
theorem dX7_keep_8 : decode cX7_keep 8 = .ok (.iconst (-1), 1) := by decide +kernel
theorem dX7_keep_9 : decode cX7_keep 9 = .ok (.if_icmp .lt 14, 3) := by decide +kernel
theorem dX7_keep_12 : decode cX7_keep 12 = .ok (.iload_n 2, 1) := by decide +kernel
theorem dX7_keep_13 : decode cX7_keep 13 = .ok (.aload_n 0, 1) := by decide +kernel
theorem dX7_keep_14 : decode cX7_keep 14 = .ok (.getfield 39, 3) := by decide +kernel
theorem dX7_keep_17 : decode cX7_keep 17 = .ok (.getfield 311, 3) := by decide +kernel
theorem dX7_keep_20 : decode cX7_keep 20 = .ok (.if_icmp .lt 5, 3) := by decide +kernel
theorem dX7_keep_23 : decode cX7_keep 23 = .ok (.iconst (-1), 1) := by decide +kernel
theorem dX7_keep_24 : decode cX7_keep 24 = .ok (.ireturn, 1) := by decide +kernel
theorem dX7_keep_25 : decode cX7_keep 25 = .ok (.aload_n 0, 1) := by decide +kernel
theorem dX7_keep_26 : decode cX7_keep 26 = .ok (.getfield 45, 3) := by decide +kernel
theorem dX7_keep_29 : decode cX7_keep 29 = .ok (.iload_n 1, 1) := by decide +kernel
theorem dX7_keep_30 : decode cX7_keep 30 = .ok (.aaload, 1) := by decide +kernel
theorem dX7_keep_31 : decode cX7_keep 31 = .ok (.iload_n 2, 1) := by decide +kernel
theorem dX7_keep_32 : decode cX7_keep 32 = .ok (.iconst (-1), 1) := by decide +kernel
theorem dX7_keep_33 : decode cX7_keep 33 = .ok (.if_icmp .ne 8, 3) := by decide +kernel
theorem dX7_keep_36 : decode cX7_keep 36 = .ok (.bipush (-2), 2) := by decide +kernel
theorem dX7_keep_38 : decode cX7_keep 38 = .ok (.goto 4, 3) := by decide +kernel
theorem dX7_keep_41 : decode cX7_keep 41 = .ok (.iconst (-1), 1) := by decide +kernel
theorem dX7_keep_42 : decode cX7_keep 42 = .ok (.putfield 90, 3) := by decide +kernel
theorem dX7_keep_45 : decode cX7_keep 45 = .ok (.aload_n 0, 1) := by decide +kernel
theorem dX7_keep_46 : decode cX7_keep 46 = .ok (.getfield 45, 3) := by decide +kernel
theorem dX7_keep_49 : decode cX7_keep 49 = .ok (.iload_n 1, 1) := by decide +kernel
theorem dX7_keep_50 : decode cX7_keep 50 = .ok (.aaload, 1) := by decide +kernel
theorem dX7_keep_51 : decode cX7_keep 51 = .ok (.iload_n 2, 1) := by decide +kernel
theorem dX7_keep_52 : decode cX7_keep 52 = .ok (.putfield 314, 3) := by decide +kernel
theorem dX7_keep_55 : decode cX7_keep 55 = .ok (.iconst 1, 1) := by decide +kernel
theorem dX7_keep_56 : decode cX7_keep 56 = .ok (.ireturn, 1) := by decide +kernel
theorem dX7_row_0 : decode cX7_row 0 = .ok (.iload_n 1, 1) := by decide +kernel
theorem dX7_row_1 : decode cX7_row 1 = .ok (.invokestatic 86, 3) := by decide +kernel
theorem dX7_row_4 : decode cX7_row 4 = .ok (.ifCond .ne 17, 3) := by decide +kernel
theorem dX7_row_7 : decode cX7_row 7 = .ok (.iload_n 2, 1) := by decide +kernel
theorem dX7_row_8 : decode cX7_row 8 = .ok (.iconst 4, 1) := by decide +kernel
theorem dX7_row_9 : decode cX7_row 9 = .ok (.invokestatic 71, 3) := by decide +kernel
theorem dX7_row_12 : decode cX7_row 12 = .ok (.ifCond .ne 9, 3) := by decide +kernel
theorem dX7_row_15 : decode cX7_row 15 = .ok (.iload_n 3, 1) := by decide +kernel
theorem dX7_row_16 : decode cX7_row 16 = .ok (.bipush 60, 2) := by decide +kernel
theorem dX7_row_18 : decode cX7_row 18 = .ok (.if_icmp .le 5, 3) := by decide +kernel
theorem dX7_row_21 : decode cX7_row 21 = .ok (.iconst (-1), 1) := by decide +kernel
theorem dX7_row_22 : decode cX7_row 22 = .ok (.ireturn, 1) := by decide +kernel
theorem dX7_row_23 : decode cX7_row 23 = .ok (.iload_n 3, 1) := by decide +kernel
theorem dX7_row_24 : decode cX7_row 24 = .ok (.ifCond .ge 6, 3) := by decide +kernel
theorem dX7_row_27 : decode cX7_row 27 = .ok (.bipush (-14), 2) := by decide +kernel
theorem dX7_row_29 : decode cX7_row 29 = .ok (.ireturn, 1) := by decide +kernel
theorem dX7_row_30 : decode cX7_row 30 = .ok (.aload_n 0, 1) := by decide +kernel
theorem dX7_row_31 : decode cX7_row 31 = .ok (.getfield 45, 3) := by decide +kernel
theorem dX7_row_34 : decode cX7_row 34 = .ok (.iload_n 1, 1) := by decide +kernel
theorem dX7_row_35 : decode cX7_row 35 = .ok (.aaload, 1) := by decide +kernel
theorem dX7_row_36 : decode cX7_row 36 = .ok (.iload_n 2, 1) := by decide +kernel
theorem dX7_row_37 : decode cX7_row 37 = .ok (.iload_n 3, 1) := by decide +kernel
theorem dX7_row_38 : decode cX7_row 38 = .ok (.invokevirtual 317, 3) := by decide +kernel
theorem dX7_row_41 : decode cX7_row 41 = .ok (.iconst 1, 1) := by decide +kernel
theorem dX7_row_42 : decode cX7_row 42 = .ok (.ireturn, 1) := by decide +kernel
theorem dX7_put_0 : decode cX7_put 0 = .ok (.aload_n 0, 1) := by decide +kernel
theorem dX7_put_1 : decode cX7_put 1 = .ok (.iload_n 1, 1) := by decide +kernel
theorem dX7_put_2 : decode cX7_put 2 = .ok (.iload_n 2, 1) := by decide +kernel
theorem dX7_put_3 : decode cX7_put 3 = .ok (.invokevirtual 321, 3) := by decide +kernel
theorem dX7_put_6 : decode cX7_put 6 = .ok (.istore 5, 2) := by decide +kernel
theorem dX7_put_8 : decode cX7_put 8 = .ok (.iload 5, 2) := by decide +kernel
theorem dX7_put_10 : decode cX7_put 10 = .ok (.ifCond .eq 6, 3) := by decide +kernel
theorem dX7_put_13 : decode cX7_put 13 = .ok (.iload 5, 2) := by decide +kernel
theorem dX7_put_15 : decode cX7_put 15 = .ok (.ireturn, 1) := by decide +kernel
theorem dX7_put_16 : decode cX7_put 16 = .ok (.aload_n 0, 1) := by decide +kernel
theorem dX7_put_17 : decode cX7_put 17 = .ok (.getfield 45, 3) := by decide +kernel
theorem dX7_put_20 : decode cX7_put 20 = .ok (.iload_n 1, 1) := by decide +kernel
theorem dX7_put_21 : decode cX7_put 21 = .ok (.aaload, 1) := by decide +kernel
theorem dX7_put_22 : decode cX7_put 22 = .ok (.getfield 104, 3) := by decide +kernel
theorem dX7_put_25 : decode cX7_put 25 = .ok (.iload_n 2, 1) := by decide +kernel
theorem dX7_put_26 : decode cX7_put 26 = .ok (.aload_n 0, 1) := by decide +kernel
theorem dX7_put_27 : decode cX7_put 27 = .ok (.getfield 45, 3) := by decide +kernel
theorem dX7_put_30 : decode cX7_put 30 = .ok (.iload_n 1, 1) := by decide +kernel
theorem dX7_put_31 : decode cX7_put 31 = .ok (.aaload, 1) := by decide +kernel
theorem dX7_put_32 : decode cX7_put 32 = .ok (.getfield 90, 3) := by decide +kernel
theorem dX7_put_35 : decode cX7_put 35 = .ok (.lload_n 3, 1) := by decide +kernel
theorem dX7_put_36 : decode cX7_put 36 = .ok (.invokestatic 324, 3) := by decide +kernel
theorem dX7_put_39 : decode cX7_put 39 = .ok (.lastore, 1) := by decide +kernel
theorem dX7_put_40 : decode cX7_put 40 = .ok (.iconst 1, 1) := by decide +kernel
theorem dX7_put_41 : decode cX7_put 41 = .ok (.ireturn, 1) := by decide +kernel
theorem dX7_element_0 : decode cX7_element 0 = .ok (.aload_n 0, 1) := by decide +kernel
theorem dX7_element_1 : decode cX7_element 1 = .ok (.iload_n 1, 1) := by decide +kernel
theorem dX7_element_2 : decode cX7_element 2 = .ok (.iload_n 2, 1) := by decide +kernel
theorem dX7_element_3 : decode cX7_element 3 = .ok (.invokevirtual 321, 3) := by decide +kernel
theorem dX7_element_6 : decode cX7_element 6 = .ok (.ifCond .eq 9, 3) := by decide +kernel
theorem dX7_element_9 : decode cX7_element 9 = .ok (.ldc2_w 330, 3) := by decide +kernel
theorem dX7_element_12 : decode cX7_element 12 = .ok (.goto 14, 3) := by decide +kernel
theorem dX7_element_15 : decode cX7_element 15 = .ok (.aload_n 0, 1) := by decide +kernel
theorem dX7_element_16 : decode cX7_element 16 = .ok (.getfield 45, 3) := by decide +kernel
theorem dX7_element_19 : decode cX7_element 19 = .ok (.iload_n 1, 1) := by decide +kernel
theorem dX7_element_20 : decode cX7_element 20 = .ok (.aaload, 1) := by decide +kernel
theorem dX7_element_21 : decode cX7_element 21 = .ok (.getfield 104, 3) := by decide +kernel
theorem dX7_element_24 : decode cX7_element 24 = .ok (.iload_n 2, 1) := by decide +kernel
theorem dX7_element_25 : decode cX7_element 25 = .ok (.laload, 1) := by decide +kernel
theorem dX7_element_26 : decode cX7_element 26 = .ok (.lreturn, 1) := by decide +kernel
theorem dX7_shift_0 : decode cX7_shift 0 = .ok (.iload_n 1, 1) := by decide +kernel
theorem dX7_shift_1 : decode cX7_shift 1 = .ok (.invokestatic 86, 3) := by decide +kernel
theorem dX7_shift_4 : decode cX7_shift 4 = .ok (.ifCond .ne 10, 3) := by decide +kernel
theorem dX7_shift_7 : decode cX7_shift 7 = .ok (.iload_n 3, 1) := by decide +kernel
theorem dX7_shift_8 : decode cX7_shift 8 = .ok (.invokestatic 86, 3) := by decide +kernel
theorem dX7_shift_11 : decode cX7_shift 11 = .ok (.ifCond .eq 5, 3) := by decide +kernel
theorem dX7_shift_14 : decode cX7_shift 14 = .ok (.iconst (-1), 1) := by decide +kernel
theorem dX7_shift_15 : decode cX7_shift 15 = .ok (.ireturn, 1) := by decide +kernel
theorem dX7_shift_16 : decode cX7_shift 16 = .ok (.aload_n 0, 1) := by decide +kernel
theorem dX7_shift_17 : decode cX7_shift 17 = .ok (.getfield 45, 3) := by decide +kernel
theorem dX7_shift_20 : decode cX7_shift 20 = .ok (.iload_n 1, 1) := by decide +kernel
theorem dX7_shift_21 : decode cX7_shift 21 = .ok (.aaload, 1) := by decide +kernel
theorem dX7_shift_22 : decode cX7_shift 22 = .ok (.astore 6, 2) := by decide +kernel
theorem dX7_shift_24 : decode cX7_shift 24 = .ok (.aload_n 0, 1) := by decide +kernel
theorem dX7_shift_25 : decode cX7_shift 25 = .ok (.getfield 45, 3) := by decide +kernel
theorem dX7_shift_28 : decode cX7_shift 28 = .ok (.iload_n 3, 1) := by decide +kernel
theorem dX7_shift_29 : decode cX7_shift 29 = .ok (.aaload, 1) := by decide +kernel
theorem dX7_shift_30 : decode cX7_shift 30 = .ok (.astore 7, 2) := by decide +kernel
theorem dX7_shift_32 : decode cX7_shift 32 = .ok (.aload 6, 2) := by decide +kernel
theorem dX7_shift_34 : decode cX7_shift 34 = .ok (.getfield 90, 3) := by decide +kernel
theorem dX7_shift_37 : decode cX7_shift 37 = .ok (.bipush (-2), 2) := by decide +kernel
theorem dX7_shift_39 : decode cX7_shift 39 = .ok (.if_icmp .eq 13, 3) := by decide +kernel
theorem dX7_shift_42 : decode cX7_shift 42 = .ok (.aload 7, 2) := by decide +kernel
theorem dX7_shift_44 : decode cX7_shift 44 = .ok (.getfield 90, 3) := by decide +kernel
theorem dX7_shift_47 : decode cX7_shift 47 = .ok (.bipush (-2), 2) := by decide +kernel
theorem dX7_shift_49 : decode cX7_shift 49 = .ok (.if_icmp .ne 6, 3) := by decide +kernel
theorem dX7_shift_52 : decode cX7_shift 52 = .ok (.bipush (-11), 2) := by decide +kernel
theorem dX7_shift_54 : decode cX7_shift 54 = .ok (.ireturn, 1) := by decide +kernel
theorem dX7_shift_55 : decode cX7_shift 55 = .ok (.aload 6, 2) := by decide +kernel
theorem dX7_shift_57 : decode cX7_shift 57 = .ok (.getfield 90, 3) := by decide +kernel
theorem dX7_shift_60 : decode cX7_shift 60 = .ok (.iconst (-1), 1) := by decide +kernel
theorem dX7_shift_61 : decode cX7_shift 61 = .ok (.if_icmp .eq 16, 3) := by decide +kernel
theorem dX7_shift_64 : decode cX7_shift 64 = .ok (.aload 6, 2) := by decide +kernel
theorem dX7_shift_66 : decode cX7_shift 66 = .ok (.getfield 90, 3) := by decide +kernel
theorem dX7_shift_69 : decode cX7_shift 69 = .ok (.aload 7, 2) := by decide +kernel
theorem dX7_shift_71 : decode cX7_shift 71 = .ok (.getfield 90, 3) := by decide +kernel
theorem dX7_shift_74 : decode cX7_shift 74 = .ok (.if_icmp .eq 6, 3) := by decide +kernel
theorem dX7_shift_77 : decode cX7_shift 77 = .ok (.bipush (-12), 2) := by decide +kernel
theorem dX7_shift_79 : decode cX7_shift 79 = .ok (.ireturn, 1) := by decide +kernel
theorem dX7_shift_80 : decode cX7_shift 80 = .ok (.aload 6, 2) := by decide +kernel
theorem dX7_shift_82 : decode cX7_shift 82 = .ok (.iload_n 2, 1) := by decide +kernel
theorem dX7_shift_83 : decode cX7_shift 83 = .ok (.iload 5, 2) := by decide +kernel
theorem dX7_shift_85 : decode cX7_shift 85 = .ok (.invokevirtual 332, 3) := by decide +kernel
theorem dX7_shift_88 : decode cX7_shift 88 = .ok (.ifCond .ne 15, 3) := by decide +kernel
theorem dX7_shift_91 : decode cX7_shift 91 = .ok (.aload 7, 2) := by decide +kernel
theorem dX7_shift_93 : decode cX7_shift 93 = .ok (.iload 4, 2) := by decide +kernel
theorem dX7_shift_95 : decode cX7_shift 95 = .ok (.iload 5, 2) := by decide +kernel
theorem dX7_shift_97 : decode cX7_shift 97 = .ok (.invokevirtual 332, 3) := by decide +kernel
theorem dX7_shift_100 : decode cX7_shift 100 = .ok (.ifCond .eq 6, 3) := by decide +kernel
theorem dX7_shift_103 : decode cX7_shift 103 = .ok (.bipush (-13), 2) := by decide +kernel
theorem dX7_shift_105 : decode cX7_shift 105 = .ok (.ireturn, 1) := by decide +kernel
theorem dX7_shift_106 : decode cX7_shift 106 = .ok (.aload 6, 2) := by decide +kernel
theorem dX7_shift_108 : decode cX7_shift 108 = .ok (.getfield 104, 3) := by decide +kernel
theorem dX7_shift_111 : decode cX7_shift 111 = .ok (.iload_n 2, 1) := by decide +kernel
theorem dX7_shift_112 : decode cX7_shift 112 = .ok (.aload 7, 2) := by decide +kernel
theorem dX7_shift_114 : decode cX7_shift 114 = .ok (.getfield 104, 3) := by decide +kernel
theorem dX7_shift_117 : decode cX7_shift 117 = .ok (.iload 4, 2) := by decide +kernel
theorem dX7_shift_119 : decode cX7_shift 119 = .ok (.iload 5, 2) := by decide +kernel
theorem dX7_shift_121 : decode cX7_shift 121 = .ok (.invokestatic 267, 3) := by decide +kernel
theorem dX7_shift_124 : decode cX7_shift 124 = .ok (.iload 5, 2) := by decide +kernel
theorem dX7_shift_126 : decode cX7_shift 126 = .ok (.ireturn, 1) := by decide +kernel
theorem dX7_taken_0 : decode cX7_taken 0 = .ok (.iload_n 1, 1) := by decide +kernel
theorem dX7_taken_1 : decode cX7_taken 1 = .ok (.invokestatic 86, 3) := by decide +kernel
theorem dX7_taken_4 : decode cX7_taken 4 = .ok (.ifCond .ne 12, 3) := by decide +kernel
theorem dX7_taken_7 : decode cX7_taken 7 = .ok (.iload_n 2, 1) := by decide +kernel
theorem dX7_taken_8 : decode cX7_taken 8 = .ok (.bipush 7, 2) := by decide +kernel
theorem dX7_taken_10 : decode cX7_taken 10 = .ok (.invokestatic 71, 3) := by decide +kernel
theorem dX7_taken_13 : decode cX7_taken 13 = .ok (.ifCond .eq 5, 3) := by decide +kernel
theorem dX7_taken_16 : decode cX7_taken 16 = .ok (.iconst (-1), 1) := by decide +kernel
theorem dX7_taken_17 : decode cX7_taken 17 = .ok (.ireturn, 1) := by decide +kernel
theorem dX7_taken_18 : decode cX7_taken 18 = .ok (.aload_n 0, 1) := by decide +kernel
theorem dX7_taken_19 : decode cX7_taken 19 = .ok (.getfield 45, 3) := by decide +kernel
theorem dX7_taken_22 : decode cX7_taken 22 = .ok (.iload_n 1, 1) := by decide +kernel
theorem dX7_taken_23 : decode cX7_taken 23 = .ok (.aaload, 1) := by decide +kernel
theorem dX7_taken_24 : decode cX7_taken 24 = .ok (.astore_n 3, 1) := by decide +kernel
theorem dX7_taken_25 : decode cX7_taken 25 = .ok (.aload_n 3, 1) := by decide +kernel
theorem dX7_taken_26 : decode cX7_taken 26 = .ok (.getfield 90, 3) := by decide +kernel
theorem dX7_taken_29 : decode cX7_taken 29 = .ok (.bipush (-2), 2) := by decide +kernel
theorem dX7_taken_31 : decode cX7_taken 31 = .ok (.if_icmp .ne 6, 3) := by decide +kernel
theorem dX7_taken_34 : decode cX7_taken 34 = .ok (.bipush (-11), 2) := by decide +kernel
theorem dX7_taken_36 : decode cX7_taken 36 = .ok (.ireturn, 1) := by decide +kernel
theorem dX7_taken_37 : decode cX7_taken 37 = .ok (.aload_n 3, 1) := by decide +kernel
theorem dX7_taken_38 : decode cX7_taken 38 = .ok (.getfield 90, 3) := by decide +kernel
theorem dX7_taken_41 : decode cX7_taken 41 = .ok (.iconst (-1), 1) := by decide +kernel
theorem dX7_taken_42 : decode cX7_taken 42 = .ok (.if_icmp .eq 6, 3) := by decide +kernel
theorem dX7_taken_45 : decode cX7_taken 45 = .ok (.bipush (-12), 2) := by decide +kernel
theorem dX7_taken_47 : decode cX7_taken 47 = .ok (.ireturn, 1) := by decide +kernel
theorem dX7_taken_48 : decode cX7_taken 48 = .ok (.aload_n 0, 1) := by decide +kernel
theorem dX7_taken_49 : decode cX7_taken 49 = .ok (.getfield 39, 3) := by decide +kernel
theorem dX7_taken_52 : decode cX7_taken 52 = .ok (.getfield 335, 3) := by decide +kernel
theorem dX7_taken_55 : decode cX7_taken 55 = .ok (.aload_n 3, 1) := by decide +kernel
theorem dX7_taken_56 : decode cX7_taken 56 = .ok (.getfield 314, 3) := by decide +kernel
theorem dX7_taken_59 : decode cX7_taken 59 = .ok (.iaload, 1) := by decide +kernel
theorem dX7_taken_60 : decode cX7_taken 60 = .ok (.istore 4, 2) := by decide +kernel
theorem dX7_taken_62 : decode cX7_taken 62 = .ok (.iload 4, 2) := by decide +kernel
theorem dX7_taken_64 : decode cX7_taken 64 = .ok (.iload_n 2, 1) := by decide +kernel
theorem dX7_taken_65 : decode cX7_taken 65 = .ok (.invokestatic 338, 3) := by decide +kernel
theorem dX7_taken_68 : decode cX7_taken 68 = .ok (.ifCond .eq 8, 3) := by decide +kernel
theorem dX7_taken_71 : decode cX7_taken 71 = .ok (.iload 4, 2) := by decide +kernel
theorem dX7_taken_73 : decode cX7_taken 73 = .ok (.goto 5, 3) := by decide +kernel
theorem dX7_taken_76 : decode cX7_taken 76 = .ok (.bipush (-12), 2) := by decide +kernel
theorem dX7_taken_78 : decode cX7_taken 78 = .ok (.ireturn, 1) := by decide +kernel
theorem dX7_count_0 : decode cX7_count 0 = .ok (.iload_n 1, 1) := by decide +kernel
theorem dX7_count_1 : decode cX7_count 1 = .ok (.tableswitch 87 0 5 #[39, 47, 55, 63, 71, 79], 39) := by decide +kernel
theorem dX7_count_40 : decode cX7_count 40 = .ok (.aload_n 0, 1) := by decide +kernel
theorem dX7_count_41 : decode cX7_count 41 = .ok (.getfield 10, 3) := by decide +kernel
theorem dX7_count_44 : decode cX7_count 44 = .ok (.getfield 75, 3) := by decide +kernel
theorem dX7_count_47 : decode cX7_count 47 = .ok (.ireturn, 1) := by decide +kernel
theorem dX7_count_48 : decode cX7_count 48 = .ok (.aload_n 0, 1) := by decide +kernel
theorem dX7_count_49 : decode cX7_count 49 = .ok (.getfield 10, 3) := by decide +kernel
theorem dX7_count_52 : decode cX7_count 52 = .ok (.invokevirtual 341, 3) := by decide +kernel
theorem dX7_count_55 : decode cX7_count 55 = .ok (.ireturn, 1) := by decide +kernel
theorem dX7_count_56 : decode cX7_count 56 = .ok (.aload_n 0, 1) := by decide +kernel
theorem dX7_count_57 : decode cX7_count 57 = .ok (.getfield 59, 3) := by decide +kernel
theorem dX7_count_60 : decode cX7_count 60 = .ok (.getfield 151, 3) := by decide +kernel
theorem dX7_count_63 : decode cX7_count 63 = .ok (.ireturn, 1) := by decide +kernel
theorem dX7_count_64 : decode cX7_count 64 = .ok (.aload_n 0, 1) := by decide +kernel
theorem dX7_count_65 : decode cX7_count 65 = .ok (.getfield 32, 3) := by decide +kernel
theorem dX7_count_68 : decode cX7_count 68 = .ok (.getfield 280, 3) := by decide +kernel
theorem dX7_count_71 : decode cX7_count 71 = .ok (.ireturn, 1) := by decide +kernel
theorem dX7_count_72 : decode cX7_count 72 = .ok (.aload_n 0, 1) := by decide +kernel
theorem dX7_count_73 : decode cX7_count 73 = .ok (.getfield 39, 3) := by decide +kernel
theorem dX7_count_76 : decode cX7_count 76 = .ok (.getfield 311, 3) := by decide +kernel
theorem dX7_count_79 : decode cX7_count 79 = .ok (.ireturn, 1) := by decide +kernel
theorem dX7_count_80 : decode cX7_count 80 = .ok (.aload_n 0, 1) := by decide +kernel
theorem dX7_count_81 : decode cX7_count 81 = .ok (.getfield 39, 3) := by decide +kernel
theorem dX7_count_84 : decode cX7_count 84 = .ok (.getfield 344, 3) := by decide +kernel
theorem dX7_count_87 : decode cX7_count 87 = .ok (.ireturn, 1) := by decide +kernel
theorem dX7_count_88 : decode cX7_count 88 = .ok (.iconst (-1), 1) := by decide +kernel
theorem dX7_count_89 : decode cX7_count 89 = .ok (.ireturn, 1) := by decide +kernel
theorem dX7_outside_0 : decode cX7_outside 0 = .ok (.iload_n 0, 1) := by decide +kernel
theorem dX7_outside_1 : decode cX7_outside 1 = .ok (.ifCond .lt 8, 3) := by decide +kernel
theorem dX7_outside_4 : decode cX7_outside 4 = .ok (.iload_n 0, 1) := by decide +kernel
theorem dX7_outside_5 : decode cX7_outside 5 = .ok (.iload_n 1, 1) := by decide +kernel
theorem dX7_outside_6 : decode cX7_outside 6 = .ok (.if_icmp .le 7, 3) := by decide +kernel
theorem dX7_outside_9 : decode cX7_outside 9 = .ok (.iconst 1, 1) := by decide +kernel
theorem dX7_outside_10 : decode cX7_outside 10 = .ok (.goto 4, 3) := by decide +kernel
theorem dX7_outside_13 : decode cX7_outside 13 = .ok (.iconst 0, 1) := by decide +kernel
theorem dX7_outside_14 : decode cX7_outside 14 = .ok (.ireturn, 1) := by decide +kernel
theorem dX7_noShelf_0 : decode cX7_noShelf 0 = .ok (.iload_n 0, 1) := by decide +kernel
theorem dX7_noShelf_1 : decode cX7_noShelf 1 = .ok (.iconst 5, 1) := by decide +kernel
theorem dX7_noShelf_2 : decode cX7_noShelf 2 = .ok (.invokestatic 71, 3) := by decide +kernel
theorem dX7_noShelf_5 : decode cX7_noShelf 5 = .ok (.ireturn, 1) := by decide +kernel
theorem dX7_noClaim_0 : decode cX7_noClaim 0 = .ok (.iload_n 0, 1) := by decide +kernel
theorem dX7_noClaim_1 : decode cX7_noClaim 1 = .ok (.ifCond .lt 23, 3) := by decide +kernel
theorem dX7_noClaim_4 : decode cX7_noClaim 4 = .ok (.iload_n 0, 1) := by decide +kernel
theorem dX7_noClaim_5 : decode cX7_noClaim 5 = .ok (.bipush 10, 2) := by decide +kernel
theorem dX7_noClaim_7 : decode cX7_noClaim 7 = .ok (.idiv, 1) := by decide +kernel
theorem dX7_noClaim_8 : decode cX7_noClaim 8 = .ok (.bipush 9, 2) := by decide +kernel
theorem dX7_noClaim_10 : decode cX7_noClaim 10 = .ok (.invokestatic 71, 3) := by decide +kernel
theorem dX7_noClaim_13 : decode cX7_noClaim 13 = .ok (.ifCond .ne 11, 3) := by decide +kernel
theorem dX7_noClaim_16 : decode cX7_noClaim 16 = .ok (.iload_n 0, 1) := by decide +kernel
theorem dX7_noClaim_17 : decode cX7_noClaim 17 = .ok (.bipush 10, 2) := by decide +kernel
theorem dX7_noClaim_19 : decode cX7_noClaim 19 = .ok (.irem, 1) := by decide +kernel
theorem dX7_noClaim_20 : decode cX7_noClaim 20 = .ok (.iconst 1, 1) := by decide +kernel
theorem dX7_noClaim_21 : decode cX7_noClaim 21 = .ok (.if_icmp .le 7, 3) := by decide +kernel
theorem dX7_noClaim_24 : decode cX7_noClaim 24 = .ok (.iconst 1, 1) := by decide +kernel
theorem dX7_noClaim_25 : decode cX7_noClaim 25 = .ok (.goto 4, 3) := by decide +kernel
theorem dX7_noClaim_28 : decode cX7_noClaim 28 = .ok (.iconst 0, 1) := by decide +kernel
theorem dX7_noClaim_29 : decode cX7_noClaim 29 = .ok (.ireturn, 1) := by decide +kernel
theorem dX7_nobody_0 : decode cX7_nobody 0 = .ok (.iload_n 1, 1) := by decide +kernel
theorem dX7_nobody_1 : decode cX7_nobody 1 = .ok (.aload_n 0, 1) := by decide +kernel
theorem dX7_nobody_2 : decode cX7_nobody 2 = .ok (.getfield 10, 3) := by decide +kernel
theorem dX7_nobody_5 : decode cX7_nobody 5 = .ok (.getfield 75, 3) := by decide +kernel
theorem dX7_nobody_8 : decode cX7_nobody 8 = .ok (.iconst 1, 1) := by decide +kernel
theorem dX7_nobody_9 : decode cX7_nobody 9 = .ok (.isub, 1) := by decide +kernel
theorem dX7_nobody_10 : decode cX7_nobody 10 = .ok (.invokestatic 71, 3) := by decide +kernel
theorem dX7_nobody_13 : decode cX7_nobody 13 = .ok (.ireturn, 1) := by decide +kernel
theorem dX7_noTooth_0 : decode cX7_noTooth 0 = .ok (.iload_n 1, 1) := by decide +kernel
theorem dX7_noTooth_1 : decode cX7_noTooth 1 = .ok (.ifCond .lt 23, 3) := by decide +kernel
theorem dX7_noTooth_4 : decode cX7_noTooth 4 = .ok (.aload_n 0, 1) := by decide +kernel
theorem dX7_noTooth_5 : decode cX7_noTooth 5 = .ok (.iload_n 1, 1) := by decide +kernel
theorem dX7_noTooth_6 : decode cX7_noTooth 6 = .ok (.bipush 10, 2) := by decide +kernel
theorem dX7_noTooth_8 : decode cX7_noTooth 8 = .ok (.idiv, 1) := by decide +kernel
theorem dX7_noTooth_9 : decode cX7_noTooth 9 = .ok (.invokevirtual 126, 3) := by decide +kernel
theorem dX7_noTooth_12 : decode cX7_noTooth 12 = .ok (.ifCond .ne 12, 3) := by decide +kernel
theorem dX7_noTooth_15 : decode cX7_noTooth 15 = .ok (.iload_n 1, 1) := by decide +kernel
theorem dX7_noTooth_16 : decode cX7_noTooth 16 = .ok (.bipush 10, 2) := by decide +kernel
theorem dX7_noTooth_18 : decode cX7_noTooth 18 = .ok (.irem, 1) := by decide +kernel
theorem dX7_noTooth_19 : decode cX7_noTooth 19 = .ok (.bipush 8, 2) := by decide +kernel
theorem dX7_noTooth_21 : decode cX7_noTooth 21 = .ok (.if_icmp .lt 7, 3) := by decide +kernel
theorem dX7_noTooth_24 : decode cX7_noTooth 24 = .ok (.iconst 1, 1) := by decide +kernel
theorem dX7_noTooth_25 : decode cX7_noTooth 25 = .ok (.goto 4, 3) := by decide +kernel
theorem dX7_noTooth_28 : decode cX7_noTooth 28 = .ok (.iconst 0, 1) := by decide +kernel
theorem dX7_noTooth_29 : decode cX7_noTooth 29 = .ok (.ireturn, 1) := by decide +kernel
theorem dX7_isLie_0 : decode cX7_isLie 0 = .ok (.iload_n 0, 1) := by decide +kernel
theorem dX7_isLie_1 : decode cX7_isLie 1 = .ok (.iload_n 1, 1) := by decide +kernel
theorem dX7_isLie_2 : decode cX7_isLie 2 = .ok (.ishr, 1) := by decide +kernel
theorem dX7_isLie_3 : decode cX7_isLie 3 = .ok (.iconst 1, 1) := by decide +kernel
theorem dX7_isLie_4 : decode cX7_isLie 4 = .ok (.iand, 1) := by decide +kernel
theorem dX7_isLie_5 : decode cX7_isLie 5 = .ok (.iload_n 2, 1) := by decide +kernel
theorem dX7_isLie_6 : decode cX7_isLie 6 = .ok (.if_icmp .eq 7, 3) := by decide +kernel
theorem dX7_isLie_9 : decode cX7_isLie 9 = .ok (.iconst 1, 1) := by decide +kernel
theorem dX7_isLie_10 : decode cX7_isLie 10 = .ok (.goto 4, 3) := by decide +kernel
theorem dX7_isLie_13 : decode cX7_isLie 13 = .ok (.iconst 0, 1) := by decide +kernel
theorem dX7_isLie_14 : decode cX7_isLie 14 = .ok (.ireturn, 1) := by decide +kernel
theorem dX7_refusalOfBytes_0 : decode cX7_refusalOfBytes 0 = .ok (.aload_n 0, 1) := by decide +kernel
theorem dX7_refusalOfBytes_1 : decode cX7_refusalOfBytes 1 = .ok (.getfield 45, 3) := by decide +kernel
theorem dX7_refusalOfBytes_4 : decode cX7_refusalOfBytes 4 = .ok (.iload_n 1, 1) := by decide +kernel
theorem dX7_refusalOfBytes_5 : decode cX7_refusalOfBytes 5 = .ok (.aaload, 1) := by decide +kernel
theorem dX7_refusalOfBytes_6 : decode cX7_refusalOfBytes 6 = .ok (.getfield 90, 3) := by decide +kernel
theorem dX7_refusalOfBytes_9 : decode cX7_refusalOfBytes 9 = .ok (.istore_n 2, 1) := by decide +kernel
theorem dX7_refusalOfBytes_10 : decode cX7_refusalOfBytes 10 = .ok (.iload_n 2, 1) := by decide +kernel
theorem dX7_refusalOfBytes_11 : decode cX7_refusalOfBytes 11 = .ok (.bipush (-2), 2) := by decide +kernel
theorem dX7_refusalOfBytes_13 : decode cX7_refusalOfBytes 13 = .ok (.if_icmp .ne 6, 3) := by decide +kernel
theorem dX7_refusalOfBytes_16 : decode cX7_refusalOfBytes 16 = .ok (.bipush (-11), 2) := by decide +kernel
theorem dX7_refusalOfBytes_18 : decode cX7_refusalOfBytes 18 = .ok (.ireturn, 1) := by decide +kernel
theorem dX7_refusalOfBytes_19 : decode cX7_refusalOfBytes 19 = .ok (.iload_n 2, 1) := by decide +kernel
theorem dX7_refusalOfBytes_20 : decode cX7_refusalOfBytes 20 = .ok (.ifCond .ne 7, 3) := by decide +kernel
theorem dX7_refusalOfBytes_23 : decode cX7_refusalOfBytes 23 = .ok (.iconst 0, 1) := by decide +kernel
theorem dX7_refusalOfBytes_24 : decode cX7_refusalOfBytes 24 = .ok (.goto 5, 3) := by decide +kernel
theorem dX7_refusalOfBytes_27 : decode cX7_refusalOfBytes 27 = .ok (.bipush (-12), 2) := by decide +kernel
theorem dX7_refusalOfBytes_29 : decode cX7_refusalOfBytes 29 = .ok (.ireturn, 1) := by decide +kernel
theorem dX7_refusalOfMirror_0 : decode cX7_refusalOfMirror 0 = .ok (.aload_n 0, 1) := by decide +kernel
theorem dX7_refusalOfMirror_1 : decode cX7_refusalOfMirror 1 = .ok (.iload_n 1, 1) := by decide +kernel
theorem dX7_refusalOfMirror_2 : decode cX7_refusalOfMirror 2 = .ok (.invokevirtual 162, 3) := by decide +kernel
theorem dX7_refusalOfMirror_5 : decode cX7_refusalOfMirror 5 = .ok (.istore_n 2, 1) := by decide +kernel
theorem dX7_refusalOfMirror_6 : decode cX7_refusalOfMirror 6 = .ok (.iload_n 2, 1) := by decide +kernel
theorem dX7_refusalOfMirror_7 : decode cX7_refusalOfMirror 7 = .ok (.ifCond .ne 22, 3) := by decide +kernel
theorem dX7_refusalOfMirror_10 : decode cX7_refusalOfMirror 10 = .ok (.aload_n 0, 1) := by decide +kernel
theorem dX7_refusalOfMirror_11 : decode cX7_refusalOfMirror 11 = .ok (.getfield 45, 3) := by decide +kernel
theorem dX7_refusalOfMirror_14 : decode cX7_refusalOfMirror 14 = .ok (.iload_n 1, 1) := by decide +kernel
theorem dX7_refusalOfMirror_15 : decode cX7_refusalOfMirror 15 = .ok (.aaload, 1) := by decide +kernel
theorem dX7_refusalOfMirror_16 : decode cX7_refusalOfMirror 16 = .ok (.getfield 101, 3) := by decide +kernel
theorem dX7_refusalOfMirror_19 : decode cX7_refusalOfMirror 19 = .ok (.bipush 8, 2) := by decide +kernel
theorem dX7_refusalOfMirror_21 : decode cX7_refusalOfMirror 21 = .ok (.if_icmp .eq 8, 3) := by decide +kernel
theorem dX7_refusalOfMirror_24 : decode cX7_refusalOfMirror 24 = .ok (.bipush (-2), 2) := by decide +kernel
theorem dX7_refusalOfMirror_26 : decode cX7_refusalOfMirror 26 = .ok (.goto 4, 3) := by decide +kernel
theorem dX7_refusalOfMirror_29 : decode cX7_refusalOfMirror 29 = .ok (.iload_n 2, 1) := by decide +kernel
theorem dX7_refusalOfMirror_30 : decode cX7_refusalOfMirror 30 = .ok (.ireturn, 1) := by decide +kernel
theorem dX7_refusalOfPlace_0 : decode cX7_refusalOfPlace 0 = .ok (.iload_n 1, 1) := by decide +kernel
theorem dX7_refusalOfPlace_1 : decode cX7_refusalOfPlace 1 = .ok (.invokestatic 86, 3) := by decide +kernel
theorem dX7_refusalOfPlace_4 : decode cX7_refusalOfPlace 4 = .ok (.ifCond .eq 5, 3) := by decide +kernel
theorem dX7_refusalOfPlace_7 : decode cX7_refusalOfPlace 7 = .ok (.iconst (-1), 1) := by decide +kernel
theorem dX7_refusalOfPlace_8 : decode cX7_refusalOfPlace 8 = .ok (.ireturn, 1) := by decide +kernel
theorem dX7_refusalOfPlace_9 : decode cX7_refusalOfPlace 9 = .ok (.aload_n 0, 1) := by decide +kernel
theorem dX7_refusalOfPlace_10 : decode cX7_refusalOfPlace 10 = .ok (.getfield 45, 3) := by decide +kernel
theorem dX7_refusalOfPlace_13 : decode cX7_refusalOfPlace 13 = .ok (.iload_n 1, 1) := by decide +kernel
theorem dX7_refusalOfPlace_14 : decode cX7_refusalOfPlace 14 = .ok (.aaload, 1) := by decide +kernel
theorem dX7_refusalOfPlace_15 : decode cX7_refusalOfPlace 15 = .ok (.getfield 90, 3) := by decide +kernel
theorem dX7_refusalOfPlace_18 : decode cX7_refusalOfPlace 18 = .ok (.istore_n 3, 1) := by decide +kernel
theorem dX7_refusalOfPlace_19 : decode cX7_refusalOfPlace 19 = .ok (.iload_n 3, 1) := by decide +kernel
theorem dX7_refusalOfPlace_20 : decode cX7_refusalOfPlace 20 = .ok (.bipush (-2), 2) := by decide +kernel
theorem dX7_refusalOfPlace_22 : decode cX7_refusalOfPlace 22 = .ok (.if_icmp .ne 6, 3) := by decide +kernel
theorem dX7_refusalOfPlace_25 : decode cX7_refusalOfPlace 25 = .ok (.bipush (-11), 2) := by decide +kernel
theorem dX7_refusalOfPlace_27 : decode cX7_refusalOfPlace 27 = .ok (.ireturn, 1) := by decide +kernel
theorem dX7_refusalOfPlace_28 : decode cX7_refusalOfPlace 28 = .ok (.iload_n 3, 1) := by decide +kernel
theorem dX7_refusalOfPlace_29 : decode cX7_refusalOfPlace 29 = .ok (.iconst (-1), 1) := by decide +kernel
theorem dX7_refusalOfPlace_30 : decode cX7_refusalOfPlace 30 = .ok (.if_icmp .ne 6, 3) := by decide +kernel
theorem dX7_refusalOfPlace_33 : decode cX7_refusalOfPlace 33 = .ok (.bipush (-12), 2) := by decide +kernel
theorem dX7_refusalOfPlace_35 : decode cX7_refusalOfPlace 35 = .ok (.ireturn, 1) := by decide +kernel
theorem dX7_refusalOfPlace_36 : decode cX7_refusalOfPlace 36 = .ok (.iload_n 2, 1) := by decide +kernel
theorem dX7_refusalOfPlace_37 : decode cX7_refusalOfPlace 37 = .ok (.aload_n 0, 1) := by decide +kernel
theorem dX7_refusalOfPlace_38 : decode cX7_refusalOfPlace 38 = .ok (.getfield 45, 3) := by decide +kernel
theorem dX7_refusalOfPlace_41 : decode cX7_refusalOfPlace 41 = .ok (.iload_n 1, 1) := by decide +kernel
theorem dX7_refusalOfPlace_42 : decode cX7_refusalOfPlace 42 = .ok (.aaload, 1) := by decide +kernel
theorem dX7_refusalOfPlace_43 : decode cX7_refusalOfPlace 43 = .ok (.getfield 101, 3) := by decide +kernel
theorem dX7_refusalOfPlace_46 : decode cX7_refusalOfPlace 46 = .ok (.iconst 1, 1) := by decide +kernel
theorem dX7_refusalOfPlace_47 : decode cX7_refusalOfPlace 47 = .ok (.isub, 1) := by decide +kernel
theorem dX7_refusalOfPlace_48 : decode cX7_refusalOfPlace 48 = .ok (.invokestatic 71, 3) := by decide +kernel
theorem dX7_refusalOfPlace_51 : decode cX7_refusalOfPlace 51 = .ok (.ifCond .eq 8, 3) := by decide +kernel
theorem dX7_refusalOfPlace_54 : decode cX7_refusalOfPlace 54 = .ok (.bipush (-13), 2) := by decide +kernel
theorem dX7_refusalOfPlace_56 : decode cX7_refusalOfPlace 56 = .ok (.goto 4, 3) := by decide +kernel
theorem dX7_refusalOfPlace_59 : decode cX7_refusalOfPlace 59 = .ok (.iconst 0, 1) := by decide +kernel
theorem dX7_refusalOfPlace_60 : decode cX7_refusalOfPlace 60 = .ok (.ireturn, 1) := by decide +kernel
theorem dX7_hear_0 : decode cX7_hear 0 = .ok (.aload_n 0, 1) := by decide +kernel
theorem dX7_hear_1 : decode cX7_hear 1 = .ok (.getfield 25, 3) := by decide +kernel
theorem dX7_hear_4 : decode cX7_hear 4 = .ok (.aload_n 0, 1) := by decide +kernel
theorem dX7_hear_5 : decode cX7_hear 5 = .ok (.getfield 45, 3) := by decide +kernel
theorem dX7_hear_8 : decode cX7_hear 8 = .ok (.iload_n 1, 1) := by decide +kernel
theorem dX7_hear_9 : decode cX7_hear 9 = .ok (.aaload, 1) := by decide +kernel
theorem dX7_hear_10 : decode cX7_hear 10 = .ok (.aload_n 0, 1) := by decide +kernel
theorem dX7_hear_11 : decode cX7_hear 11 = .ok (.getfield 10, 3) := by decide +kernel
theorem dX7_hear_14 : decode cX7_hear 14 = .ok (.getfield 75, 3) := by decide +kernel
theorem dX7_hear_17 : decode cX7_hear 17 = .ok (.invokevirtual 232, 3) := by decide +kernel
theorem dX7_hear_20 : decode cX7_hear 20 = .ok (.aload_n 0, 1) := by decide +kernel
theorem dX7_hear_21 : decode cX7_hear 21 = .ok (.getfield 25, 3) := by decide +kernel
theorem dX7_hear_24 : decode cX7_hear 24 = .ok (.aload_n 0, 1) := by decide +kernel
theorem dX7_hear_25 : decode cX7_hear 25 = .ok (.getfield 10, 3) := by decide +kernel
theorem dX7_hear_28 : decode cX7_hear 28 = .ok (.aload_n 0, 1) := by decide +kernel
theorem dX7_hear_29 : decode cX7_hear 29 = .ok (.getfield 66, 3) := by decide +kernel
theorem dX7_hear_32 : decode cX7_hear 32 = .ok (.aload_n 0, 1) := by decide +kernel
theorem dX7_hear_33 : decode cX7_hear 33 = .ok (.getfield 132, 3) := by decide +kernel
theorem dX7_hear_36 : decode cX7_hear 36 = .ok (.iconst 0, 1) := by decide +kernel
theorem dX7_hear_37 : decode cX7_hear 37 = .ok (.invokevirtual 238, 3) := by decide +kernel
theorem dX7_hear_40 : decode cX7_hear 40 = .ok (.return_, 1) := by decide +kernel
theorem dX8_init_0 : decode cX8_init 0 = .ok (.aload_n 0, 1) := by decide +kernel
theorem dX8_init_1 : decode cX8_init 1 = .ok (.invokespecial 1, 3) := by decide +kernel
theorem dX8_init_4 : decode cX8_init 4 = .ok (.aload_n 0, 1) := by decide +kernel
theorem dX8_init_5 : decode cX8_init 5 = .ok (.bipush 56, 2) := by decide +kernel
theorem dX8_init_7 : decode cX8_init 7 = .ok (.newarray .int, 2) := by decide +kernel
theorem dX8_init_9 : decode cX8_init 9 = .ok (.putfield 7, 3) := by decide +kernel
theorem dX8_init_12 : decode cX8_init 12 = .ok (.aload_n 0, 1) := by decide +kernel
theorem dX8_init_13 : decode cX8_init 13 = .ok (.bipush 7, 2) := by decide +kernel
theorem dX8_init_15 : decode cX8_init 15 = .ok (.newarray .int, 2) := by decide +kernel
theorem dX8_init_17 : decode cX8_init 17 = .ok (.putfield 13, 3) := by decide +kernel
theorem dX8_init_20 : decode cX8_init 20 = .ok (.aload_n 0, 1) := by decide +kernel
theorem dX8_init_21 : decode cX8_init 21 = .ok (.bipush 7, 2) := by decide +kernel
theorem dX8_init_23 : decode cX8_init 23 = .ok (.newarray .int, 2) := by decide +kernel
theorem dX8_init_25 : decode cX8_init 25 = .ok (.putfield 16, 3) := by decide +kernel
theorem dX8_init_28 : decode cX8_init 28 = .ok (.aload_n 0, 1) := by decide +kernel
theorem dX8_init_29 : decode cX8_init 29 = .ok (.bipush 10, 2) := by decide +kernel
theorem dX8_init_31 : decode cX8_init 31 = .ok (.newarray .int, 2) := by decide +kernel
theorem dX8_init_33 : decode cX8_init 33 = .ok (.putfield 19, 3) := by decide +kernel
theorem dX8_init_36 : decode cX8_init 36 = .ok (.aload_n 0, 1) := by decide +kernel
theorem dX8_init_37 : decode cX8_init 37 = .ok (.iconst 3, 1) := by decide +kernel
theorem dX8_init_38 : decode cX8_init 38 = .ok (.putfield 22, 3) := by decide +kernel
theorem dX8_init_41 : decode cX8_init 41 = .ok (.aload_n 0, 1) := by decide +kernel
theorem dX8_init_42 : decode cX8_init 42 = .ok (.bipush 40, 2) := by decide +kernel
theorem dX8_init_44 : decode cX8_init 44 = .ok (.newarray .int, 2) := by decide +kernel
theorem dX8_init_46 : decode cX8_init 46 = .ok (.putfield 26, 3) := by decide +kernel
theorem dX8_init_49 : decode cX8_init 49 = .ok (.aload_n 0, 1) := by decide +kernel
theorem dX8_init_50 : decode cX8_init 50 = .ok (.bipush 40, 2) := by decide +kernel
theorem dX8_init_52 : decode cX8_init 52 = .ok (.newarray .int, 2) := by decide +kernel
theorem dX8_init_54 : decode cX8_init 54 = .ok (.putfield 29, 3) := by decide +kernel
theorem dX8_init_57 : decode cX8_init 57 = .ok (.aload_n 0, 1) := by decide +kernel
theorem dX8_init_58 : decode cX8_init 58 = .ok (.bipush 40, 2) := by decide +kernel
theorem dX8_init_60 : decode cX8_init 60 = .ok (.newarray .int, 2) := by decide +kernel
theorem dX8_init_62 : decode cX8_init 62 = .ok (.putfield 32, 3) := by decide +kernel
theorem dX8_init_65 : decode cX8_init 65 = .ok (.aload_n 0, 1) := by decide +kernel
theorem dX8_init_66 : decode cX8_init 66 = .ok (.bipush 40, 2) := by decide +kernel
theorem dX8_init_68 : decode cX8_init 68 = .ok (.newarray .int, 2) := by decide +kernel
theorem dX8_init_70 : decode cX8_init 70 = .ok (.putfield 35, 3) := by decide +kernel
theorem dX8_init_73 : decode cX8_init 73 = .ok (.aload_n 0, 1) := by decide +kernel
theorem dX8_init_74 : decode cX8_init 74 = .ok (.bipush 120, 2) := by decide +kernel
theorem dX8_init_76 : decode cX8_init 76 = .ok (.newarray .byte, 2) := by decide +kernel
theorem dX8_init_78 : decode cX8_init 78 = .ok (.putfield 38, 3) := by decide +kernel
theorem dX8_init_81 : decode cX8_init 81 = .ok (.aload_n 0, 1) := by decide +kernel
theorem dX8_init_82 : decode cX8_init 82 = .ok (.sipush 260, 3) := by decide +kernel
theorem dX8_init_85 : decode cX8_init 85 = .ok (.newarray .byte, 2) := by decide +kernel
theorem dX8_init_87 : decode cX8_init 87 = .ok (.putfield 42, 3) := by decide +kernel
theorem dX8_init_90 : decode cX8_init 90 = .ok (.aload_n 0, 1) := by decide +kernel
theorem dX8_init_91 : decode cX8_init 91 = .ok (.sipush 260, 3) := by decide +kernel
theorem dX8_init_94 : decode cX8_init 94 = .ok (.newarray .int, 2) := by decide +kernel
theorem dX8_init_96 : decode cX8_init 96 = .ok (.putfield 45, 3) := by decide +kernel
theorem dX8_init_99 : decode cX8_init 99 = .ok (.aload_n 0, 1) := by decide +kernel
theorem dX8_init_100 : decode cX8_init 100 = .ok (.iconst 2, 1) := by decide +kernel
theorem dX8_init_101 : decode cX8_init 101 = .ok (.newarray .int, 2) := by decide +kernel
theorem dX8_init_103 : decode cX8_init 103 = .ok (.putfield 48, 3) := by decide +kernel
theorem dX8_init_106 : decode cX8_init 106 = .ok (.aload_n 0, 1) := by decide +kernel
theorem dX8_init_107 : decode cX8_init 107 = .ok (.bipush 122, 2) := by decide +kernel
theorem dX8_init_109 : decode cX8_init 109 = .ok (.newarray .short, 2) := by decide +kernel
theorem dX8_init_111 : decode cX8_init 111 = .ok (.putfield 51, 3) := by decide +kernel
theorem dX8_init_114 : decode cX8_init 114 = .ok (.aload_n 0, 1) := by decide +kernel
theorem dX8_init_115 : decode cX8_init 115 = .ok (.bipush 122, 2) := by decide +kernel
theorem dX8_init_117 : decode cX8_init 117 = .ok (.newarray .short, 2) := by decide +kernel
theorem dX8_init_119 : decode cX8_init 119 = .ok (.putfield 55, 3) := by decide +kernel
theorem dX8_init_122 : decode cX8_init 122 = .ok (.aload_n 0, 1) := by decide +kernel
theorem dX8_init_123 : decode cX8_init 123 = .ok (.bipush 6, 2) := by decide +kernel
theorem dX8_init_125 : decode cX8_init 125 = .ok (.newarray .int, 2) := by decide +kernel
theorem dX8_init_127 : decode cX8_init 127 = .ok (.putfield 58, 3) := by decide +kernel
theorem dX8_init_130 : decode cX8_init 130 = .ok (.aload_n 0, 1) := by decide +kernel
theorem dX8_init_131 : decode cX8_init 131 = .ok (.sipush 130, 3) := by decide +kernel
theorem dX8_init_134 : decode cX8_init 134 = .ok (.newarray .int, 2) := by decide +kernel
theorem dX8_init_136 : decode cX8_init 136 = .ok (.putfield 61, 3) := by decide +kernel
theorem dX8_init_139 : decode cX8_init 139 = .ok (.aload_n 0, 1) := by decide +kernel
theorem dX8_init_140 : decode cX8_init 140 = .ok (.bipush 56, 2) := by decide +kernel
theorem dX8_init_142 : decode cX8_init 142 = .ok (.newarray .int, 2) := by decide +kernel
theorem dX8_init_144 : decode cX8_init 144 = .ok (.putfield 64, 3) := by decide +kernel
theorem dX8_init_147 : decode cX8_init 147 = .ok (.aload_n 0, 1) := by decide +kernel
theorem dX8_init_148 : decode cX8_init 148 = .ok (.bipush 7, 2) := by decide +kernel
theorem dX8_init_150 : decode cX8_init 150 = .ok (.newarray .int, 2) := by decide +kernel
theorem dX8_init_152 : decode cX8_init 152 = .ok (.putfield 67, 3) := by decide +kernel
theorem dX8_init_155 : decode cX8_init 155 = .ok (.aload_n 0, 1) := by decide +kernel
theorem dX8_init_156 : decode cX8_init 156 = .ok (.bipush 15, 2) := by decide +kernel
theorem dX8_init_158 : decode cX8_init 158 = .ok (.newarray .int, 2) := by decide +kernel
theorem dX8_init_160 : decode cX8_init 160 = .ok (.putfield 70, 3) := by decide +kernel
theorem dX8_init_163 : decode cX8_init 163 = .ok (.aload_n 0, 1) := by decide +kernel
theorem dX8_init_164 : decode cX8_init 164 = .ok (.bipush 15, 2) := by decide +kernel
theorem dX8_init_166 : decode cX8_init 166 = .ok (.newarray .int, 2) := by decide +kernel
theorem dX8_init_168 : decode cX8_init 168 = .ok (.putfield 73, 3) := by decide +kernel
theorem dX8_init_171 : decode cX8_init 171 = .ok (.aload_n 0, 1) := by decide +kernel
theorem dX8_init_172 : decode cX8_init 172 = .ok (.bipush 15, 2) := by decide +kernel
theorem dX8_init_174 : decode cX8_init 174 = .ok (.newarray .int, 2) := by decide +kernel
theorem dX8_init_176 : decode cX8_init 176 = .ok (.putfield 76, 3) := by decide +kernel
theorem dX8_init_179 : decode cX8_init 179 = .ok (.aload_n 0, 1) := by decide +kernel
theorem dX8_init_180 : decode cX8_init 180 = .ok (.bipush 15, 2) := by decide +kernel
theorem dX8_init_182 : decode cX8_init 182 = .ok (.newarray .int, 2) := by decide +kernel
theorem dX8_init_184 : decode cX8_init 184 = .ok (.putfield 79, 3) := by decide +kernel
theorem dX8_init_187 : decode cX8_init 187 = .ok (.aload_n 0, 1) := by decide +kernel
theorem dX8_init_188 : decode cX8_init 188 = .ok (.bipush 70, 2) := by decide +kernel
theorem dX8_init_190 : decode cX8_init 190 = .ok (.newarray .int, 2) := by decide +kernel
theorem dX8_init_192 : decode cX8_init 192 = .ok (.putfield 82, 3) := by decide +kernel
theorem dX8_init_195 : decode cX8_init 195 = .ok (.aload_n 0, 1) := by decide +kernel
theorem dX8_init_196 : decode cX8_init 196 = .ok (.bipush 10, 2) := by decide +kernel
theorem dX8_init_198 : decode cX8_init 198 = .ok (.newarray .int, 2) := by decide +kernel
theorem dX8_init_200 : decode cX8_init 200 = .ok (.putfield 85, 3) := by decide +kernel
theorem dX8_init_203 : decode cX8_init 203 = .ok (.aload_n 0, 1) := by decide +kernel
theorem dX8_init_204 : decode cX8_init 204 = .ok (.bipush 6, 2) := by decide +kernel
theorem dX8_init_206 : decode cX8_init 206 = .ok (.newarray .int, 2) := by decide +kernel
theorem dX8_init_208 : decode cX8_init 208 = .ok (.putfield 88, 3) := by decide +kernel
theorem dX8_init_211 : decode cX8_init 211 = .ok (.aload_n 0, 1) := by decide +kernel
theorem dX8_init_212 : decode cX8_init 212 = .ok (.bipush 56, 2) := by decide +kernel
theorem dX8_init_214 : decode cX8_init 214 = .ok (.newarray .int, 2) := by decide +kernel
theorem dX8_init_216 : decode cX8_init 216 = .ok (.putfield 91, 3) := by decide +kernel
theorem dX8_init_219 : decode cX8_init 219 = .ok (.aload_n 0, 1) := by decide +kernel
theorem dX8_init_220 : decode cX8_init 220 = .ok (.bipush 7, 2) := by decide +kernel
theorem dX8_init_222 : decode cX8_init 222 = .ok (.newarray .int, 2) := by decide +kernel
theorem dX8_init_224 : decode cX8_init 224 = .ok (.putfield 94, 3) := by decide +kernel
theorem dX8_init_227 : decode cX8_init 227 = .ok (.aload_n 0, 1) := by decide +kernel
theorem dX8_init_228 : decode cX8_init 228 = .ok (.bipush 7, 2) := by decide +kernel
theorem dX8_init_230 : decode cX8_init 230 = .ok (.newarray .int, 2) := by decide +kernel
theorem dX8_init_232 : decode cX8_init 232 = .ok (.putfield 97, 3) := by decide +kernel
theorem dX8_init_235 : decode cX8_init 235 = .ok (.aload_n 0, 1) := by decide +kernel
theorem dX8_init_236 : decode cX8_init 236 = .ok (.bipush 6, 2) := by decide +kernel
theorem dX8_init_238 : decode cX8_init 238 = .ok (.newarray .int, 2) := by decide +kernel
theorem dX8_init_240 : decode cX8_init 240 = .ok (.putfield 100, 3) := by decide +kernel
theorem dX8_init_243 : decode cX8_init 243 = .ok (.aload_n 0, 1) := by decide +kernel
theorem dX8_init_244 : decode cX8_init 244 = .ok (.bipush 50, 2) := by decide +kernel
theorem dX8_init_246 : decode cX8_init 246 = .ok (.newarray .int, 2) := by decide +kernel
theorem dX8_init_248 : decode cX8_init 248 = .ok (.putfield 103, 3) := by decide +kernel
theorem dX8_init_251 : decode cX8_init 251 = .ok (.aload_n 0, 1) := by decide +kernel
theorem dX8_init_252 : decode cX8_init 252 = .ok (.bipush 24, 2) := by decide +kernel
theorem dX8_init_254 : decode cX8_init 254 = .ok (.newarray .int, 2) := by decide +kernel
theorem dX8_init_256 : decode cX8_init 256 = .ok (.putfield 106, 3) := by decide +kernel
theorem dX8_init_259 : decode cX8_init 259 = .ok (.aload_n 0, 1) := by decide +kernel
theorem dX8_init_260 : decode cX8_init 260 = .ok (.bipush 6, 2) := by decide +kernel
theorem dX8_init_262 : decode cX8_init 262 = .ok (.newarray .int, 2) := by decide +kernel
theorem dX8_init_264 : decode cX8_init 264 = .ok (.dup, 1) := by decide +kernel
theorem dX8_init_265 : decode cX8_init 265 = .ok (.iconst 0, 1) := by decide +kernel
theorem dX8_init_266 : decode cX8_init 266 = .ok (.iconst (-1), 1) := by decide +kernel
theorem dX8_init_267 : decode cX8_init 267 = .ok (.iastore, 1) := by decide +kernel
theorem dX8_init_268 : decode cX8_init 268 = .ok (.dup, 1) := by decide +kernel
theorem dX8_init_269 : decode cX8_init 269 = .ok (.iconst 1, 1) := by decide +kernel
theorem dX8_init_270 : decode cX8_init 270 = .ok (.iconst (-1), 1) := by decide +kernel
theorem dX8_init_271 : decode cX8_init 271 = .ok (.iastore, 1) := by decide +kernel
theorem dX8_init_272 : decode cX8_init 272 = .ok (.dup, 1) := by decide +kernel
theorem dX8_init_273 : decode cX8_init 273 = .ok (.iconst 2, 1) := by decide +kernel
theorem dX8_init_274 : decode cX8_init 274 = .ok (.iconst (-1), 1) := by decide +kernel
theorem dX8_init_275 : decode cX8_init 275 = .ok (.iastore, 1) := by decide +kernel
theorem dX8_init_276 : decode cX8_init 276 = .ok (.dup, 1) := by decide +kernel
theorem dX8_init_277 : decode cX8_init 277 = .ok (.iconst 3, 1) := by decide +kernel
theorem dX8_init_278 : decode cX8_init 278 = .ok (.iconst (-1), 1) := by decide +kernel
theorem dX8_init_279 : decode cX8_init 279 = .ok (.iastore, 1) := by decide +kernel
theorem dX8_init_280 : decode cX8_init 280 = .ok (.dup, 1) := by decide +kernel
theorem dX8_init_281 : decode cX8_init 281 = .ok (.iconst 4, 1) := by decide +kernel
theorem dX8_init_282 : decode cX8_init 282 = .ok (.iconst (-1), 1) := by decide +kernel
theorem dX8_init_283 : decode cX8_init 283 = .ok (.iastore, 1) := by decide +kernel
theorem dX8_init_284 : decode cX8_init 284 = .ok (.dup, 1) := by decide +kernel
theorem dX8_init_285 : decode cX8_init 285 = .ok (.iconst 5, 1) := by decide +kernel
theorem dX8_init_286 : decode cX8_init 286 = .ok (.iconst (-1), 1) := by decide +kernel
theorem dX8_init_287 : decode cX8_init 287 = .ok (.iastore, 1) := by decide +kernel
theorem dX8_init_288 : decode cX8_init 288 = .ok (.putfield 109, 3) := by decide +kernel
theorem dX8_init_291 : decode cX8_init 291 = .ok (.aload_n 0, 1) := by decide +kernel
theorem dX8_init_292 : decode cX8_init 292 = .ok (.bipush 6, 2) := by decide +kernel
theorem dX8_init_294 : decode cX8_init 294 = .ok (.newarray .int, 2) := by decide +kernel
theorem dX8_init_296 : decode cX8_init 296 = .ok (.putfield 112, 3) := by decide +kernel
theorem dX8_init_299 : decode cX8_init 299 = .ok (.aload_n 0, 1) := by decide +kernel
theorem dX8_init_300 : decode cX8_init 300 = .ok (.sipush 360, 3) := by decide +kernel
theorem dX8_init_303 : decode cX8_init 303 = .ok (.newarray .long, 2) := by decide +kernel
theorem dX8_init_305 : decode cX8_init 305 = .ok (.putfield 115, 3) := by decide +kernel
theorem dX8_init_308 : decode cX8_init 308 = .ok (.aload_n 0, 1) := by decide +kernel
theorem dX8_init_309 : decode cX8_init 309 = .ok (.bipush 60, 2) := by decide +kernel
theorem dX8_init_311 : decode cX8_init 311 = .ok (.newarray .long, 2) := by decide +kernel
theorem dX8_init_313 : decode cX8_init 313 = .ok (.putfield 119, 3) := by decide +kernel
theorem dX8_init_316 : decode cX8_init 316 = .ok (.return_, 1) := by decide +kernel
theorem dX8_in_0 : decode cX8_in 0 = .ok (.iload_n 0, 1) := by decide +kernel
theorem dX8_in_1 : decode cX8_in 1 = .ok (.iload_n 1, 1) := by decide +kernel
theorem dX8_in_2 : decode cX8_in 2 = .ok (.if_icmp .lt 12, 3) := by decide +kernel
theorem dX8_in_5 : decode cX8_in 5 = .ok (.iload_n 0, 1) := by decide +kernel
theorem dX8_in_6 : decode cX8_in 6 = .ok (.iload_n 2, 1) := by decide +kernel
theorem dX8_in_7 : decode cX8_in 7 = .ok (.if_icmp .gt 7, 3) := by decide +kernel
theorem dX8_in_10 : decode cX8_in 10 = .ok (.iconst 1, 1) := by decide +kernel
theorem dX8_in_11 : decode cX8_in 11 = .ok (.goto 4, 3) := by decide +kernel
theorem dX8_in_14 : decode cX8_in 14 = .ok (.iconst 0, 1) := by decide +kernel
theorem dX8_in_15 : decode cX8_in 15 = .ok (.ireturn, 1) := by decide +kernel
theorem dX8_bitsOf_0 : decode cX8_bitsOf 0 = .ok (.iconst 0, 1) := by decide +kernel
theorem dX8_bitsOf_1 : decode cX8_bitsOf 1 = .ok (.istore_n 1, 1) := by decide +kernel
theorem dX8_bitsOf_2 : decode cX8_bitsOf 2 = .ok (.iload_n 0, 1) := by decide +kernel
theorem dX8_bitsOf_3 : decode cX8_bitsOf 3 = .ok (.istore_n 2, 1) := by decide +kernel
theorem dX8_bitsOf_4 : decode cX8_bitsOf 4 = .ok (.iload_n 2, 1) := by decide +kernel
theorem dX8_bitsOf_5 : decode cX8_bitsOf 5 = .ok (.ifCond .eq 15, 3) := by decide +kernel
theorem dX8_bitsOf_8 : decode cX8_bitsOf 8 = .ok (.iinc 1 1, 3) := by decide +kernel
theorem dX8_bitsOf_11 : decode cX8_bitsOf 11 = .ok (.iload_n 2, 1) := by decide +kernel
theorem dX8_bitsOf_12 : decode cX8_bitsOf 12 = .ok (.iload_n 2, 1) := by decide +kernel
theorem dX8_bitsOf_13 : decode cX8_bitsOf 13 = .ok (.iconst 1, 1) := by decide +kernel
theorem dX8_bitsOf_14 : decode cX8_bitsOf 14 = .ok (.isub, 1) := by decide +kernel
theorem dX8_bitsOf_15 : decode cX8_bitsOf 15 = .ok (.iand, 1) := by decide +kernel
theorem dX8_bitsOf_16 : decode cX8_bitsOf 16 = .ok (.istore_n 2, 1) := by decide +kernel
theorem dX8_bitsOf_17 : decode cX8_bitsOf 17 = .ok (.goto (-13), 3) := by decide +kernel
theorem dX8_bitsOf_20 : decode cX8_bitsOf 20 = .ok (.iload_n 1, 1) := by decide +kernel
theorem dX8_bitsOf_21 : decode cX8_bitsOf 21 = .ok (.ireturn, 1) := by decide +kernel
theorem dX8_isPerson_0 : decode cX8_isPerson 0 = .ok (.iload_n 1, 1) := by decide +kernel
theorem dX8_isPerson_1 : decode cX8_isPerson 1 = .ok (.iconst 0, 1) := by decide +kernel
theorem dX8_isPerson_2 : decode cX8_isPerson 2 = .ok (.aload_n 0, 1) := by decide +kernel
theorem dX8_isPerson_3 : decode cX8_isPerson 3 = .ok (.getfield 125, 3) := by decide +kernel
theorem dX8_isPerson_6 : decode cX8_isPerson 6 = .ok (.iconst 1, 1) := by decide +kernel
theorem dX8_isPerson_7 : decode cX8_isPerson 7 = .ok (.isub, 1) := by decide +kernel
theorem dX8_isPerson_8 : decode cX8_isPerson 8 = .ok (.invokestatic 128, 3) := by decide +kernel
theorem dX8_isPerson_11 : decode cX8_isPerson 11 = .ok (.ireturn, 1) := by decide +kernel
theorem dX8_isFact_0 : decode cX8_isFact 0 = .ok (.iload_n 0, 1) := by decide +kernel
theorem dX8_isFact_1 : decode cX8_isFact 1 = .ok (.iconst 0, 1) := by decide +kernel
theorem dX8_isFact_2 : decode cX8_isFact 2 = .ok (.bipush 9, 2) := by decide +kernel
theorem dX8_isFact_4 : decode cX8_isFact 4 = .ok (.invokestatic 128, 3) := by decide +kernel
theorem dX8_isFact_7 : decode cX8_isFact 7 = .ok (.ireturn, 1) := by decide +kernel
theorem dX8_person_0 : decode cX8_person 0 = .ok (.iload_n 1, 1) := by decide +kernel
theorem dX8_person_1 : decode cX8_person 1 = .ok (.iconst 0, 1) := by decide +kernel
theorem dX8_person_2 : decode cX8_person 2 = .ok (.bipush 9, 2) := by decide +kernel
theorem dX8_person_4 : decode cX8_person 4 = .ok (.invokestatic 128, 3) := by decide +kernel
theorem dX8_person_7 : decode cX8_person 7 = .ok (.ifCond .ne 5, 3) := by decide +kernel
theorem dX8_person_10 : decode cX8_person 10 = .ok (.iconst (-1), 1) := by decide +kernel
theorem dX8_person_11 : decode cX8_person 11 = .ok (.ireturn, 1) := by decide +kernel
theorem dX8_person_12 : decode cX8_person 12 = .ok (.aload_n 0, 1) := by decide +kernel
theorem dX8_person_13 : decode cX8_person 13 = .ok (.getfield 125, 3) := by decide +kernel
theorem dX8_person_16 : decode cX8_person 16 = .ok (.bipush 7, 2) := by decide +kernel
theorem dX8_person_18 : decode cX8_person 18 = .ok (.if_icmp .ne 6, 3) := by decide +kernel
theorem dX8_person_21 : decode cX8_person 21 = .ok (.bipush (-3), 2) := by decide +kernel
theorem dX8_person_23 : decode cX8_person 23 = .ok (.ireturn, 1) := by decide +kernel
theorem dX8_person_24 : decode cX8_person 24 = .ok (.iconst 0, 1) := by decide +kernel
theorem dX8_person_25 : decode cX8_person 25 = .ok (.istore_n 2, 1) := by decide +kernel
theorem dX8_person_26 : decode cX8_person 26 = .ok (.iload_n 2, 1) := by decide +kernel
theorem dX8_person_27 : decode cX8_person 27 = .ok (.bipush 8, 2) := by decide +kernel
theorem dX8_person_29 : decode cX8_person 29 = .ok (.if_icmp .ge 24, 3) := by decide +kernel
theorem dX8_person_32 : decode cX8_person 32 = .ok (.aload_n 0, 1) := by decide +kernel
theorem dX8_person_33 : decode cX8_person 33 = .ok (.getfield 7, 3) := by decide +kernel
theorem dX8_person_36 : decode cX8_person 36 = .ok (.bipush 8, 2) := by decide +kernel
theorem dX8_person_38 : decode cX8_person 38 = .ok (.aload_n 0, 1) := by decide +kernel
theorem dX8_person_39 : decode cX8_person 39 = .ok (.getfield 125, 3) := by decide +kernel
theorem dX8_person_42 : decode cX8_person 42 = .ok (.imul, 1) := by decide +kernel
theorem dX8_person_43 : decode cX8_person 43 = .ok (.iload_n 2, 1) := by decide +kernel
theorem dX8_person_44 : decode cX8_person 44 = .ok (.iadd, 1) := by decide +kernel
theorem dX8_person_45 : decode cX8_person 45 = .ok (.iload_n 1, 1) := by decide +kernel
theorem dX8_person_46 : decode cX8_person 46 = .ok (.iastore, 1) := by decide +kernel
theorem dX8_person_47 : decode cX8_person 47 = .ok (.iinc 2 1, 3) := by decide +kernel
theorem dX8_person_50 : decode cX8_person 50 = .ok (.goto (-24), 3) := by decide +kernel
theorem dX8_person_53 : decode cX8_person 53 = .ok (.aload_n 0, 1) := by decide +kernel
theorem dX8_person_54 : decode cX8_person 54 = .ok (.getfield 13, 3) := by decide +kernel
theorem dX8_person_57 : decode cX8_person 57 = .ok (.aload_n 0, 1) := by decide +kernel
theorem dX8_person_58 : decode cX8_person 58 = .ok (.getfield 125, 3) := by decide +kernel
theorem dX8_person_61 : decode cX8_person 61 = .ok (.iconst 0, 1) := by decide +kernel
theorem dX8_person_62 : decode cX8_person 62 = .ok (.iastore, 1) := by decide +kernel
theorem dX8_person_63 : decode cX8_person 63 = .ok (.aload_n 0, 1) := by decide +kernel
theorem dX8_person_64 : decode cX8_person 64 = .ok (.getfield 16, 3) := by decide +kernel
theorem dX8_person_67 : decode cX8_person 67 = .ok (.aload_n 0, 1) := by decide +kernel
theorem dX8_person_68 : decode cX8_person 68 = .ok (.getfield 125, 3) := by decide +kernel
theorem dX8_person_71 : decode cX8_person 71 = .ok (.iconst 0, 1) := by decide +kernel
theorem dX8_person_72 : decode cX8_person 72 = .ok (.iastore, 1) := by decide +kernel
theorem dX8_person_73 : decode cX8_person 73 = .ok (.aload_n 0, 1) := by decide +kernel
theorem dX8_person_74 : decode cX8_person 74 = .ok (.dup, 1) := by decide +kernel
theorem dX8_person_75 : decode cX8_person 75 = .ok (.getfield 125, 3) := by decide +kernel
theorem dX8_person_78 : decode cX8_person 78 = .ok (.iconst 1, 1) := by decide +kernel
theorem dX8_person_79 : decode cX8_person 79 = .ok (.iadd, 1) := by decide +kernel
theorem dX8_person_80 : decode cX8_person 80 = .ok (.putfield 125, 3) := by decide +kernel
theorem dX8_person_83 : decode cX8_person 83 = .ok (.aload_n 0, 1) := by decide +kernel
theorem dX8_person_84 : decode cX8_person 84 = .ok (.getfield 125, 3) := by decide +kernel
theorem dX8_person_87 : decode cX8_person 87 = .ok (.iconst 1, 1) := by decide +kernel
theorem dX8_person_88 : decode cX8_person 88 = .ok (.isub, 1) := by decide +kernel
theorem dX8_person_89 : decode cX8_person 89 = .ok (.ireturn, 1) := by decide +kernel
theorem dX8_isMouth_0 : decode cX8_isMouth 0 = .ok (.iconst 1, 1) := by decide +kernel
theorem dX8_isMouth_1 : decode cX8_isMouth 1 = .ok (.istore_n 3, 1) := by decide +kernel
theorem dX8_isMouth_2 : decode cX8_isMouth 2 = .ok (.iload_n 3, 1) := by decide +kernel
theorem dX8_isMouth_3 : decode cX8_isMouth 3 = .ok (.bipush 8, 2) := by decide +kernel
theorem dX8_isMouth_5 : decode cX8_isMouth 5 = .ok (.if_icmp .gt 34, 3) := by decide +kernel
theorem dX8_isMouth_8 : decode cX8_isMouth 8 = .ok (.aload_n 0, 1) := by decide +kernel
theorem dX8_isMouth_9 : decode cX8_isMouth 9 = .ok (.getfield 115, 3) := by decide +kernel
theorem dX8_isMouth_12 : decode cX8_isMouth 12 = .ok (.bipush 60, 2) := by decide +kernel
theorem dX8_isMouth_14 : decode cX8_isMouth 14 = .ok (.iload_n 1, 1) := by decide +kernel
theorem dX8_isMouth_15 : decode cX8_isMouth 15 = .ok (.imul, 1) := by decide +kernel
theorem dX8_isMouth_16 : decode cX8_isMouth 16 = .ok (.iload_n 2, 1) := by decide +kernel
theorem dX8_isMouth_17 : decode cX8_isMouth 17 = .ok (.iadd, 1) := by decide +kernel
theorem dX8_isMouth_18 : decode cX8_isMouth 18 = .ok (.iload_n 3, 1) := by decide +kernel
theorem dX8_isMouth_19 : decode cX8_isMouth 19 = .ok (.iadd, 1) := by decide +kernel
theorem dX8_isMouth_20 : decode cX8_isMouth 20 = .ok (.laload, 1) := by decide +kernel
theorem dX8_isMouth_21 : decode cX8_isMouth 21 = .ok (.l2i, 1) := by decide +kernel
theorem dX8_isMouth_22 : decode cX8_isMouth 22 = .ok (.iconst 0, 1) := by decide +kernel
theorem dX8_isMouth_23 : decode cX8_isMouth 23 = .ok (.bipush 9, 2) := by decide +kernel
theorem dX8_isMouth_25 : decode cX8_isMouth 25 = .ok (.invokestatic 128, 3) := by decide +kernel
theorem dX8_isMouth_28 : decode cX8_isMouth 28 = .ok (.ifCond .ne 5, 3) := by decide +kernel
theorem dX8_isMouth_31 : decode cX8_isMouth 31 = .ok (.iconst 0, 1) := by decide +kernel
theorem dX8_isMouth_32 : decode cX8_isMouth 32 = .ok (.ireturn, 1) := by decide +kernel
theorem dX8_isMouth_33 : decode cX8_isMouth 33 = .ok (.iinc 3 1, 3) := by decide +kernel
theorem dX8_isMouth_36 : decode cX8_isMouth 36 = .ok (.goto (-34), 3) := by decide +kernel
theorem dX8_isMouth_39 : decode cX8_isMouth 39 = .ok (.iconst 1, 1) := by decide +kernel
theorem dX8_isMouth_40 : decode cX8_isMouth 40 = .ok (.ireturn, 1) := by decide +kernel
theorem dX8_people_0 : decode cX8_people 0 = .ok (.iload_n 1, 1) := by decide +kernel
theorem dX8_people_1 : decode cX8_people 1 = .ok (.invokestatic 132, 3) := by decide +kernel
theorem dX8_people_4 : decode cX8_people 4 = .ok (.ifCond .eq 13, 3) := by decide +kernel
theorem dX8_people_7 : decode cX8_people 7 = .ok (.iload_n 3, 1) := by decide +kernel
theorem dX8_people_8 : decode cX8_people 8 = .ok (.iconst 1, 1) := by decide +kernel
theorem dX8_people_9 : decode cX8_people 9 = .ok (.bipush 7, 2) := by decide +kernel
theorem dX8_people_11 : decode cX8_people 11 = .ok (.invokestatic 128, 3) := by decide +kernel
theorem dX8_people_14 : decode cX8_people 14 = .ok (.ifCond .ne 5, 3) := by decide +kernel
theorem dX8_people_17 : decode cX8_people 17 = .ok (.iconst (-1), 1) := by decide +kernel
theorem dX8_people_18 : decode cX8_people 18 = .ok (.ireturn, 1) := by decide +kernel
theorem dX8_people_19 : decode cX8_people 19 = .ok (.aload_n 0, 1) := by decide +kernel
theorem dX8_people_20 : decode cX8_people 20 = .ok (.getfield 109, 3) := by decide +kernel
theorem dX8_people_23 : decode cX8_people 23 = .ok (.iload_n 1, 1) := by decide +kernel
theorem dX8_people_24 : decode cX8_people 24 = .ok (.iaload, 1) := by decide +kernel
theorem dX8_people_25 : decode cX8_people 25 = .ok (.iconst (-1), 1) := by decide +kernel
theorem dX8_people_26 : decode cX8_people 26 = .ok (.if_icmp .eq 17, 3) := by decide +kernel
theorem dX8_people_29 : decode cX8_people 29 = .ok (.aload_n 0, 1) := by decide +kernel
theorem dX8_people_30 : decode cX8_people 30 = .ok (.getfield 109, 3) := by decide +kernel
theorem dX8_people_33 : decode cX8_people 33 = .ok (.iload_n 1, 1) := by decide +kernel
theorem dX8_people_34 : decode cX8_people 34 = .ok (.iaload, 1) := by decide +kernel
theorem dX8_people_35 : decode cX8_people 35 = .ok (.bipush (-2), 2) := by decide +kernel
theorem dX8_people_37 : decode cX8_people 37 = .ok (.if_icmp .eq 6, 3) := by decide +kernel
theorem dX8_people_40 : decode cX8_people 40 = .ok (.bipush (-12), 2) := by decide +kernel
theorem dX8_people_42 : decode cX8_people 42 = .ok (.ireturn, 1) := by decide +kernel
theorem dX8_people_43 : decode cX8_people 43 = .ok (.aload_n 0, 1) := by decide +kernel
theorem dX8_people_44 : decode cX8_people 44 = .ok (.getfield 109, 3) := by decide +kernel
theorem dX8_people_47 : decode cX8_people 47 = .ok (.iload_n 1, 1) := by decide +kernel
theorem dX8_people_48 : decode cX8_people 48 = .ok (.iaload, 1) := by decide +kernel
theorem dX8_people_49 : decode cX8_people 49 = .ok (.iconst (-1), 1) := by decide +kernel
theorem dX8_people_50 : decode cX8_people 50 = .ok (.if_icmp .ne 5, 3) := by decide +kernel
theorem dX8_people_53 : decode cX8_people 53 = .ok (.iconst 0, 1) := by decide +kernel
theorem dX8_people_54 : decode cX8_people 54 = .ok (.ireturn, 1) := by decide +kernel
theorem dX8_people_55 : decode cX8_people 55 = .ok (.iconst 0, 1) := by decide +kernel
theorem dX8_people_56 : decode cX8_people 56 = .ok (.istore 4, 2) := by decide +kernel
theorem dX8_people_58 : decode cX8_people 58 = .ok (.iload 4, 2) := by decide +kernel
theorem dX8_people_60 : decode cX8_people 60 = .ok (.iload_n 3, 1) := by decide +kernel
theorem dX8_people_61 : decode cX8_people 61 = .ok (.if_icmp .ge 164, 3) := by decide +kernel
theorem dX8_people_64 : decode cX8_people 64 = .ok (.iload_n 2, 1) := by decide +kernel
theorem dX8_people_65 : decode cX8_people 65 = .ok (.i2l, 1) := by decide +kernel
theorem dX8_people_66 : decode cX8_people 66 = .ok (.bipush 9, 2) := by decide +kernel
theorem dX8_people_68 : decode cX8_people 68 = .ok (.iload 4, 2) := by decide +kernel
theorem dX8_people_70 : decode cX8_people 70 = .ok (.imul, 1) := by decide +kernel
theorem dX8_people_71 : decode cX8_people 71 = .ok (.i2l, 1) := by decide +kernel
theorem dX8_people_72 : decode cX8_people 72 = .ok (.ladd, 1) := by decide +kernel
theorem dX8_people_73 : decode cX8_people 73 = .ok (.lstore 5, 2) := by decide +kernel
theorem dX8_people_75 : decode cX8_people 75 = .ok (.lload 5, 2) := by decide +kernel
theorem dX8_people_77 : decode cX8_people 77 = .ok (.lconst 0, 1) := by decide +kernel
theorem dX8_people_78 : decode cX8_people 78 = .ok (.lcmp, 1) := by decide +kernel
theorem dX8_people_79 : decode cX8_people 79 = .ok (.ifCond .lt 40, 3) := by decide +kernel
theorem dX8_people_82 : decode cX8_people 82 = .ok (.lload 5, 2) := by decide +kernel
theorem dX8_people_84 : decode cX8_people 84 = .ok (.ldc2_w 136, 3) := by decide +kernel
theorem dX8_people_87 : decode cX8_people 87 = .ok (.ladd, 1) := by decide +kernel
theorem dX8_people_88 : decode cX8_people 88 = .ok (.aload_n 0, 1) := by decide +kernel
theorem dX8_people_89 : decode cX8_people 89 = .ok (.getfield 112, 3) := by decide +kernel
theorem dX8_people_92 : decode cX8_people 92 = .ok (.iload_n 1, 1) := by decide +kernel
theorem dX8_people_93 : decode cX8_people 93 = .ok (.iaload, 1) := by decide +kernel
theorem dX8_people_94 : decode cX8_people 94 = .ok (.i2l, 1) := by decide +kernel
theorem dX8_people_95 : decode cX8_people 95 = .ok (.lcmp, 1) := by decide +kernel
theorem dX8_people_96 : decode cX8_people 96 = .ok (.ifCond .ge 23, 3) := by decide +kernel
theorem dX8_people_99 : decode cX8_people 99 = .ok (.aload_n 0, 1) := by decide +kernel
theorem dX8_people_100 : decode cX8_people 100 = .ok (.getfield 125, 3) := by decide +kernel
theorem dX8_people_103 : decode cX8_people 103 = .ok (.bipush 7, 2) := by decide +kernel
theorem dX8_people_105 : decode cX8_people 105 = .ok (.if_icmp .eq 14, 3) := by decide +kernel
theorem dX8_people_108 : decode cX8_people 108 = .ok (.aload_n 0, 1) := by decide +kernel
theorem dX8_people_109 : decode cX8_people 109 = .ok (.iload_n 1, 1) := by decide +kernel
theorem dX8_people_110 : decode cX8_people 110 = .ok (.lload 5, 2) := by decide +kernel
theorem dX8_people_112 : decode cX8_people 112 = .ok (.l2i, 1) := by decide +kernel
theorem dX8_people_113 : decode cX8_people 113 = .ok (.invokevirtual 138, 3) := by decide +kernel
theorem dX8_people_116 : decode cX8_people 116 = .ok (.ifCond .ne 6, 3) := by decide +kernel
theorem dX8_people_119 : decode cX8_people 119 = .ok (.iload 4, 2) := by decide +kernel
theorem dX8_people_121 : decode cX8_people 121 = .ok (.ireturn, 1) := by decide +kernel
theorem dX8_people_122 : decode cX8_people 122 = .ok (.iconst 0, 1) := by decide +kernel
theorem dX8_people_123 : decode cX8_people 123 = .ok (.istore 7, 2) := by decide +kernel
theorem dX8_people_125 : decode cX8_people 125 = .ok (.iload 7, 2) := by decide +kernel
theorem dX8_people_127 : decode cX8_people 127 = .ok (.bipush 8, 2) := by decide +kernel
theorem dX8_people_129 : decode cX8_people 129 = .ok (.if_icmp .ge 43, 3) := by decide +kernel
theorem dX8_people_132 : decode cX8_people 132 = .ok (.aload_n 0, 1) := by decide +kernel
theorem dX8_people_133 : decode cX8_people 133 = .ok (.getfield 7, 3) := by decide +kernel
theorem dX8_people_136 : decode cX8_people 136 = .ok (.bipush 8, 2) := by decide +kernel
theorem dX8_people_138 : decode cX8_people 138 = .ok (.aload_n 0, 1) := by decide +kernel
theorem dX8_people_139 : decode cX8_people 139 = .ok (.getfield 125, 3) := by decide +kernel
theorem dX8_people_142 : decode cX8_people 142 = .ok (.imul, 1) := by decide +kernel
theorem dX8_people_143 : decode cX8_people 143 = .ok (.iload 7, 2) := by decide +kernel
theorem dX8_people_145 : decode cX8_people 145 = .ok (.iadd, 1) := by decide +kernel
theorem dX8_people_146 : decode cX8_people 146 = .ok (.aload_n 0, 1) := by decide +kernel
theorem dX8_people_147 : decode cX8_people 147 = .ok (.getfield 115, 3) := by decide +kernel
theorem dX8_people_150 : decode cX8_people 150 = .ok (.bipush 60, 2) := by decide +kernel
theorem dX8_people_152 : decode cX8_people 152 = .ok (.iload_n 1, 1) := by decide +kernel
theorem dX8_people_153 : decode cX8_people 153 = .ok (.imul, 1) := by decide +kernel
theorem dX8_people_154 : decode cX8_people 154 = .ok (.lload 5, 2) := by decide +kernel
theorem dX8_people_156 : decode cX8_people 156 = .ok (.l2i, 1) := by decide +kernel
theorem dX8_people_157 : decode cX8_people 157 = .ok (.iadd, 1) := by decide +kernel
theorem dX8_people_158 : decode cX8_people 158 = .ok (.iconst 1, 1) := by decide +kernel
theorem dX8_people_159 : decode cX8_people 159 = .ok (.iadd, 1) := by decide +kernel
theorem dX8_people_160 : decode cX8_people 160 = .ok (.iload 7, 2) := by decide +kernel
theorem dX8_people_162 : decode cX8_people 162 = .ok (.iadd, 1) := by decide +kernel
theorem dX8_people_163 : decode cX8_people 163 = .ok (.laload, 1) := by decide +kernel
theorem dX8_people_164 : decode cX8_people 164 = .ok (.l2i, 1) := by decide +kernel
theorem dX8_people_165 : decode cX8_people 165 = .ok (.iastore, 1) := by decide +kernel
theorem dX8_people_166 : decode cX8_people 166 = .ok (.iinc 7 1, 3) := by decide +kernel
theorem dX8_people_169 : decode cX8_people 169 = .ok (.goto (-44), 3) := by decide +kernel
theorem dX8_people_172 : decode cX8_people 172 = .ok (.aload_n 0, 1) := by decide +kernel
theorem dX8_people_173 : decode cX8_people 173 = .ok (.getfield 13, 3) := by decide +kernel
theorem dX8_people_176 : decode cX8_people 176 = .ok (.aload_n 0, 1) := by decide +kernel
theorem dX8_people_177 : decode cX8_people 177 = .ok (.getfield 125, 3) := by decide +kernel
theorem dX8_people_180 : decode cX8_people 180 = .ok (.aload_n 0, 1) := by decide +kernel
theorem dX8_people_181 : decode cX8_people 181 = .ok (.getfield 115, 3) := by decide +kernel
theorem dX8_people_184 : decode cX8_people 184 = .ok (.bipush 60, 2) := by decide +kernel
theorem dX8_people_186 : decode cX8_people 186 = .ok (.iload_n 1, 1) := by decide +kernel
theorem dX8_people_187 : decode cX8_people 187 = .ok (.imul, 1) := by decide +kernel
theorem dX8_people_188 : decode cX8_people 188 = .ok (.lload 5, 2) := by decide +kernel
theorem dX8_people_190 : decode cX8_people 190 = .ok (.l2i, 1) := by decide +kernel
theorem dX8_people_191 : decode cX8_people 191 = .ok (.iadd, 1) := by decide +kernel
theorem dX8_people_192 : decode cX8_people 192 = .ok (.laload, 1) := by decide +kernel
theorem dX8_people_193 : decode cX8_people 193 = .ok (.l2i, 1) := by decide +kernel
theorem dX8_people_194 : decode cX8_people 194 = .ok (.sipush 255, 3) := by decide +kernel
theorem dX8_people_197 : decode cX8_people 197 = .ok (.iand, 1) := by decide +kernel
theorem dX8_people_198 : decode cX8_people 198 = .ok (.iastore, 1) := by decide +kernel
theorem dX8_people_199 : decode cX8_people 199 = .ok (.aload_n 0, 1) := by decide +kernel
theorem dX8_people_200 : decode cX8_people 200 = .ok (.getfield 16, 3) := by decide +kernel
theorem dX8_people_203 : decode cX8_people 203 = .ok (.aload_n 0, 1) := by decide +kernel
theorem dX8_people_204 : decode cX8_people 204 = .ok (.getfield 125, 3) := by decide +kernel
theorem dX8_people_207 : decode cX8_people 207 = .ok (.iconst 0, 1) := by decide +kernel
theorem dX8_people_208 : decode cX8_people 208 = .ok (.iastore, 1) := by decide +kernel
theorem dX8_people_209 : decode cX8_people 209 = .ok (.aload_n 0, 1) := by decide +kernel
theorem dX8_people_210 : decode cX8_people 210 = .ok (.dup, 1) := by decide +kernel
theorem dX8_people_211 : decode cX8_people 211 = .ok (.getfield 125, 3) := by decide +kernel
theorem dX8_people_214 : decode cX8_people 214 = .ok (.iconst 1, 1) := by decide +kernel
theorem dX8_people_215 : decode cX8_people 215 = .ok (.iadd, 1) := by decide +kernel
theorem dX8_people_216 : decode cX8_people 216 = .ok (.putfield 125, 3) := by decide +kernel
theorem dX8_people_219 : decode cX8_people 219 = .ok (.iinc 4 1, 3) := by decide +kernel
theorem dX8_people_222 : decode cX8_people 222 = .ok (.goto (-164), 3) := by decide +kernel
theorem dX8_people_225 : decode cX8_people 225 = .ok (.iload_n 3, 1) := by decide +kernel
theorem dX8_people_226 : decode cX8_people 226 = .ok (.ireturn, 1) := by decide +kernel
theorem dX8_valueAt_0 : decode cX8_valueAt 0 = .ok (.iload_n 1, 1) := by decide +kernel
theorem dX8_valueAt_1 : decode cX8_valueAt 1 = .ok (.bipush 8, 2) := by decide +kernel
theorem dX8_valueAt_3 : decode cX8_valueAt 3 = .ok (.if_icmp .ge 17, 3) := by decide +kernel
theorem dX8_valueAt_6 : decode cX8_valueAt 6 = .ok (.aload_n 0, 1) := by decide +kernel
theorem dX8_valueAt_7 : decode cX8_valueAt 7 = .ok (.getfield 7, 3) := by decide +kernel
theorem dX8_valueAt_10 : decode cX8_valueAt 10 = .ok (.bipush 8, 2) := by decide +kernel
theorem dX8_valueAt_12 : decode cX8_valueAt 12 = .ok (.iload_n 2, 1) := by decide +kernel
theorem dX8_valueAt_13 : decode cX8_valueAt 13 = .ok (.imul, 1) := by decide +kernel
theorem dX8_valueAt_14 : decode cX8_valueAt 14 = .ok (.iload_n 1, 1) := by decide +kernel
theorem dX8_valueAt_15 : decode cX8_valueAt 15 = .ok (.iadd, 1) := by decide +kernel
theorem dX8_valueAt_16 : decode cX8_valueAt 16 = .ok (.iaload, 1) := by decide +kernel
theorem dX8_valueAt_17 : decode cX8_valueAt 17 = .ok (.goto 37, 3) := by decide +kernel
theorem dX8_valueAt_20 : decode cX8_valueAt 20 = .ok (.iload_n 1, 1) := by decide +kernel
theorem dX8_valueAt_21 : decode cX8_valueAt 21 = .ok (.bipush 8, 2) := by decide +kernel
theorem dX8_valueAt_23 : decode cX8_valueAt 23 = .ok (.if_icmp .ne 12, 3) := by decide +kernel
theorem dX8_valueAt_26 : decode cX8_valueAt 26 = .ok (.aload_n 0, 1) := by decide +kernel
theorem dX8_valueAt_27 : decode cX8_valueAt 27 = .ok (.getfield 13, 3) := by decide +kernel
theorem dX8_valueAt_30 : decode cX8_valueAt 30 = .ok (.iload_n 2, 1) := by decide +kernel
theorem dX8_valueAt_31 : decode cX8_valueAt 31 = .ok (.iaload, 1) := by decide +kernel
theorem dX8_valueAt_32 : decode cX8_valueAt 32 = .ok (.goto 22, 3) := by decide +kernel
theorem dX8_valueAt_35 : decode cX8_valueAt 35 = .ok (.iload_n 1, 1) := by decide +kernel
theorem dX8_valueAt_36 : decode cX8_valueAt 36 = .ok (.bipush 9, 2) := by decide +kernel
theorem dX8_valueAt_38 : decode cX8_valueAt 38 = .ok (.if_icmp .ne 12, 3) := by decide +kernel
theorem dX8_valueAt_41 : decode cX8_valueAt 41 = .ok (.aload_n 0, 1) := by decide +kernel
theorem dX8_valueAt_42 : decode cX8_valueAt 42 = .ok (.getfield 19, 3) := by decide +kernel
theorem dX8_valueAt_45 : decode cX8_valueAt 45 = .ok (.iload_n 2, 1) := by decide +kernel
theorem dX8_valueAt_46 : decode cX8_valueAt 46 = .ok (.iaload, 1) := by decide +kernel
theorem dX8_valueAt_47 : decode cX8_valueAt 47 = .ok (.goto 7, 3) := by decide +kernel
theorem dX8_valueAt_50 : decode cX8_valueAt 50 = .ok (.aload_n 0, 1) := by decide +kernel
theorem dX8_valueAt_51 : decode cX8_valueAt 51 = .ok (.getfield 22, 3) := by decide +kernel
theorem dX8_valueAt_54 : decode cX8_valueAt 54 = .ok (.ireturn, 1) := by decide +kernel
theorem dX8_lays_0 : decode cX8_lays 0 = .ok (.iload_n 1, 1) := by decide +kernel
theorem dX8_lays_1 : decode cX8_lays 1 = .ok (.bipush 8, 2) := by decide +kernel
theorem dX8_lays_3 : decode cX8_lays 3 = .ok (.if_icmp .ge 18, 3) := by decide +kernel
theorem dX8_lays_6 : decode cX8_lays 6 = .ok (.aload_n 0, 1) := by decide +kernel
theorem dX8_lays_7 : decode cX8_lays 7 = .ok (.getfield 7, 3) := by decide +kernel
theorem dX8_lays_10 : decode cX8_lays 10 = .ok (.bipush 8, 2) := by decide +kernel
theorem dX8_lays_12 : decode cX8_lays 12 = .ok (.iload_n 2, 1) := by decide +kernel
theorem dX8_lays_13 : decode cX8_lays 13 = .ok (.imul, 1) := by decide +kernel
theorem dX8_lays_14 : decode cX8_lays 14 = .ok (.iload_n 1, 1) := by decide +kernel
theorem dX8_lays_15 : decode cX8_lays 15 = .ok (.iadd, 1) := by decide +kernel
theorem dX8_lays_16 : decode cX8_lays 16 = .ok (.iload_n 3, 1) := by decide +kernel
theorem dX8_lays_17 : decode cX8_lays 17 = .ok (.iastore, 1) := by decide +kernel
theorem dX8_lays_18 : decode cX8_lays 18 = .ok (.goto 40, 3) := by decide +kernel
theorem dX8_lays_21 : decode cX8_lays 21 = .ok (.iload_n 1, 1) := by decide +kernel
theorem dX8_lays_22 : decode cX8_lays 22 = .ok (.bipush 8, 2) := by decide +kernel
theorem dX8_lays_24 : decode cX8_lays 24 = .ok (.if_icmp .ne 13, 3) := by decide +kernel
theorem dX8_lays_27 : decode cX8_lays 27 = .ok (.aload_n 0, 1) := by decide +kernel
theorem dX8_lays_28 : decode cX8_lays 28 = .ok (.getfield 13, 3) := by decide +kernel
theorem dX8_lays_31 : decode cX8_lays 31 = .ok (.iload_n 2, 1) := by decide +kernel
theorem dX8_lays_32 : decode cX8_lays 32 = .ok (.iload_n 3, 1) := by decide +kernel
theorem dX8_lays_33 : decode cX8_lays 33 = .ok (.iastore, 1) := by decide +kernel
theorem dX8_lays_34 : decode cX8_lays 34 = .ok (.goto 24, 3) := by decide +kernel
theorem dX8_lays_37 : decode cX8_lays 37 = .ok (.iload_n 1, 1) := by decide +kernel
theorem dX8_lays_38 : decode cX8_lays 38 = .ok (.bipush 9, 2) := by decide +kernel
theorem dX8_lays_40 : decode cX8_lays 40 = .ok (.if_icmp .ne 13, 3) := by decide +kernel
theorem dX8_lays_43 : decode cX8_lays 43 = .ok (.aload_n 0, 1) := by decide +kernel
theorem dX8_lays_44 : decode cX8_lays 44 = .ok (.getfield 19, 3) := by decide +kernel
theorem dX8_lays_47 : decode cX8_lays 47 = .ok (.iload_n 2, 1) := by decide +kernel
theorem dX8_lays_48 : decode cX8_lays 48 = .ok (.iload_n 3, 1) := by decide +kernel
theorem dX8_lays_49 : decode cX8_lays 49 = .ok (.iastore, 1) := by decide +kernel
theorem dX8_lays_50 : decode cX8_lays 50 = .ok (.goto 8, 3) := by decide +kernel
theorem dX8_lays_53 : decode cX8_lays 53 = .ok (.aload_n 0, 1) := by decide +kernel
theorem dX8_lays_54 : decode cX8_lays 54 = .ok (.iload_n 3, 1) := by decide +kernel
theorem dX8_lays_55 : decode cX8_lays 55 = .ok (.putfield 22, 3) := by decide +kernel
theorem dX8_lays_58 : decode cX8_lays 58 = .ok (.return_, 1) := by decide +kernel
theorem dX8_changes_0 : decode cX8_changes 0 = .ok (.aload_n 0, 1) := by decide +kernel
theorem dX8_changes_1 : decode cX8_changes 1 = .ok (.iload_n 1, 1) := by decide +kernel
theorem dX8_changes_2 : decode cX8_changes 2 = .ok (.iload_n 2, 1) := by decide +kernel
theorem dX8_changes_3 : decode cX8_changes 3 = .ok (.invokevirtual 142, 3) := by decide +kernel
theorem dX8_changes_6 : decode cX8_changes 6 = .ok (.istore 4, 2) := by decide +kernel
theorem dX8_changes_8 : decode cX8_changes 8 = .ok (.iload 4, 2) := by decide +kernel
theorem dX8_changes_10 : decode cX8_changes 10 = .ok (.iload_n 3, 1) := by decide +kernel
theorem dX8_changes_11 : decode cX8_changes 11 = .ok (.if_icmp .ne 6, 3) := by decide +kernel
theorem dX8_changes_14 : decode cX8_changes 14 = .ok (.iload 4, 2) := by decide +kernel
theorem dX8_changes_16 : decode cX8_changes 16 = .ok (.ireturn, 1) := by decide +kernel
theorem dX8_changes_17 : decode cX8_changes 17 = .ok (.aload_n 0, 1) := by decide +kernel
theorem dX8_changes_18 : decode cX8_changes 18 = .ok (.iconst 0, 1) := by decide +kernel
theorem dX8_changes_19 : decode cX8_changes 19 = .ok (.putfield 146, 3) := by decide +kernel
theorem dX8_changes_22 : decode cX8_changes 22 = .ok (.aload_n 0, 1) := by decide +kernel
theorem dX8_changes_23 : decode cX8_changes 23 = .ok (.getfield 149, 3) := by decide +kernel
theorem dX8_changes_26 : decode cX8_changes 26 = .ok (.bipush 40, 2) := by decide +kernel
theorem dX8_changes_28 : decode cX8_changes 28 = .ok (.if_icmp .ne 93, 3) := by decide +kernel
theorem dX8_changes_31 : decode cX8_changes 31 = .ok (.iconst 1, 1) := by decide +kernel
theorem dX8_changes_32 : decode cX8_changes 32 = .ok (.istore 5, 2) := by decide +kernel
theorem dX8_changes_34 : decode cX8_changes 34 = .ok (.iload 5, 2) := by decide +kernel
theorem dX8_changes_36 : decode cX8_changes 36 = .ok (.bipush 40, 2) := by decide +kernel
theorem dX8_changes_38 : decode cX8_changes 38 = .ok (.if_icmp .ge 73, 3) := by decide +kernel
theorem dX8_changes_41 : decode cX8_changes 41 = .ok (.aload_n 0, 1) := by decide +kernel
theorem dX8_changes_42 : decode cX8_changes 42 = .ok (.getfield 26, 3) := by decide +kernel
theorem dX8_changes_45 : decode cX8_changes 45 = .ok (.iload 5, 2) := by decide +kernel
theorem dX8_changes_47 : decode cX8_changes 47 = .ok (.iconst 1, 1) := by decide +kernel
theorem dX8_changes_48 : decode cX8_changes 48 = .ok (.isub, 1) := by decide +kernel
theorem dX8_changes_49 : decode cX8_changes 49 = .ok (.aload_n 0, 1) := by decide +kernel
theorem dX8_changes_50 : decode cX8_changes 50 = .ok (.getfield 26, 3) := by decide +kernel
theorem dX8_changes_53 : decode cX8_changes 53 = .ok (.iload 5, 2) := by decide +kernel
theorem dX8_changes_55 : decode cX8_changes 55 = .ok (.iaload, 1) := by decide +kernel
theorem dX8_changes_56 : decode cX8_changes 56 = .ok (.iastore, 1) := by decide +kernel
theorem dX8_changes_57 : decode cX8_changes 57 = .ok (.aload_n 0, 1) := by decide +kernel
theorem dX8_changes_58 : decode cX8_changes 58 = .ok (.getfield 29, 3) := by decide +kernel
theorem dX8_changes_61 : decode cX8_changes 61 = .ok (.iload 5, 2) := by decide +kernel
theorem dX8_changes_63 : decode cX8_changes 63 = .ok (.iconst 1, 1) := by decide +kernel
theorem dX8_changes_64 : decode cX8_changes 64 = .ok (.isub, 1) := by decide +kernel
theorem dX8_changes_65 : decode cX8_changes 65 = .ok (.aload_n 0, 1) := by decide +kernel
theorem dX8_changes_66 : decode cX8_changes 66 = .ok (.getfield 29, 3) := by decide +kernel
theorem dX8_changes_69 : decode cX8_changes 69 = .ok (.iload 5, 2) := by decide +kernel
theorem dX8_changes_71 : decode cX8_changes 71 = .ok (.iaload, 1) := by decide +kernel
theorem dX8_changes_72 : decode cX8_changes 72 = .ok (.iastore, 1) := by decide +kernel
theorem dX8_changes_73 : decode cX8_changes 73 = .ok (.aload_n 0, 1) := by decide +kernel
theorem dX8_changes_74 : decode cX8_changes 74 = .ok (.getfield 32, 3) := by decide +kernel
theorem dX8_changes_77 : decode cX8_changes 77 = .ok (.iload 5, 2) := by decide +kernel
theorem dX8_changes_79 : decode cX8_changes 79 = .ok (.iconst 1, 1) := by decide +kernel
theorem dX8_changes_80 : decode cX8_changes 80 = .ok (.isub, 1) := by decide +kernel
theorem dX8_changes_81 : decode cX8_changes 81 = .ok (.aload_n 0, 1) := by decide +kernel
theorem dX8_changes_82 : decode cX8_changes 82 = .ok (.getfield 32, 3) := by decide +kernel
theorem dX8_changes_85 : decode cX8_changes 85 = .ok (.iload 5, 2) := by decide +kernel
theorem dX8_changes_87 : decode cX8_changes 87 = .ok (.iaload, 1) := by decide +kernel
theorem dX8_changes_88 : decode cX8_changes 88 = .ok (.iastore, 1) := by decide +kernel
theorem dX8_changes_89 : decode cX8_changes 89 = .ok (.aload_n 0, 1) := by decide +kernel
theorem dX8_changes_90 : decode cX8_changes 90 = .ok (.getfield 35, 3) := by decide +kernel
theorem dX8_changes_93 : decode cX8_changes 93 = .ok (.iload 5, 2) := by decide +kernel
theorem dX8_changes_95 : decode cX8_changes 95 = .ok (.iconst 1, 1) := by decide +kernel
theorem dX8_changes_96 : decode cX8_changes 96 = .ok (.isub, 1) := by decide +kernel
theorem dX8_changes_97 : decode cX8_changes 97 = .ok (.aload_n 0, 1) := by decide +kernel
theorem dX8_changes_98 : decode cX8_changes 98 = .ok (.getfield 35, 3) := by decide +kernel
theorem dX8_changes_101 : decode cX8_changes 101 = .ok (.iload 5, 2) := by decide +kernel
theorem dX8_changes_103 : decode cX8_changes 103 = .ok (.iaload, 1) := by decide +kernel
theorem dX8_changes_104 : decode cX8_changes 104 = .ok (.iastore, 1) := by decide +kernel
theorem dX8_changes_105 : decode cX8_changes 105 = .ok (.iinc 5 1, 3) := by decide +kernel
theorem dX8_changes_108 : decode cX8_changes 108 = .ok (.goto (-74), 3) := by decide +kernel
theorem dX8_changes_111 : decode cX8_changes 111 = .ok (.aload_n 0, 1) := by decide +kernel
theorem dX8_changes_112 : decode cX8_changes 112 = .ok (.dup, 1) := by decide +kernel
theorem dX8_changes_113 : decode cX8_changes 113 = .ok (.getfield 149, 3) := by decide +kernel
theorem dX8_changes_116 : decode cX8_changes 116 = .ok (.iconst 1, 1) := by decide +kernel
theorem dX8_changes_117 : decode cX8_changes 117 = .ok (.isub, 1) := by decide +kernel
theorem dX8_changes_118 : decode cX8_changes 118 = .ok (.putfield 149, 3) := by decide +kernel
theorem dX8_changes_121 : decode cX8_changes 121 = .ok (.aload_n 0, 1) := by decide +kernel
theorem dX8_changes_122 : decode cX8_changes 122 = .ok (.getfield 26, 3) := by decide +kernel
theorem dX8_changes_125 : decode cX8_changes 125 = .ok (.aload_n 0, 1) := by decide +kernel
theorem dX8_changes_126 : decode cX8_changes 126 = .ok (.getfield 149, 3) := by decide +kernel
theorem dX8_changes_129 : decode cX8_changes 129 = .ok (.iload_n 1, 1) := by decide +kernel
theorem dX8_changes_130 : decode cX8_changes 130 = .ok (.iastore, 1) := by decide +kernel
theorem dX8_changes_131 : decode cX8_changes 131 = .ok (.aload_n 0, 1) := by decide +kernel
theorem dX8_changes_132 : decode cX8_changes 132 = .ok (.getfield 29, 3) := by decide +kernel
theorem dX8_changes_135 : decode cX8_changes 135 = .ok (.aload_n 0, 1) := by decide +kernel
theorem dX8_changes_136 : decode cX8_changes 136 = .ok (.getfield 149, 3) := by decide +kernel
theorem dX8_changes_139 : decode cX8_changes 139 = .ok (.iload_n 2, 1) := by decide +kernel
theorem dX8_changes_140 : decode cX8_changes 140 = .ok (.iastore, 1) := by decide +kernel
theorem dX8_changes_141 : decode cX8_changes 141 = .ok (.aload_n 0, 1) := by decide +kernel
theorem dX8_changes_142 : decode cX8_changes 142 = .ok (.getfield 32, 3) := by decide +kernel
theorem dX8_changes_145 : decode cX8_changes 145 = .ok (.aload_n 0, 1) := by decide +kernel
theorem dX8_changes_146 : decode cX8_changes 146 = .ok (.getfield 149, 3) := by decide +kernel
theorem dX8_changes_149 : decode cX8_changes 149 = .ok (.iload 4, 2) := by decide +kernel
theorem dX8_changes_151 : decode cX8_changes 151 = .ok (.iastore, 1) := by decide +kernel
theorem dX8_changes_152 : decode cX8_changes 152 = .ok (.aload_n 0, 1) := by decide +kernel
theorem dX8_changes_153 : decode cX8_changes 153 = .ok (.getfield 35, 3) := by decide +kernel
theorem dX8_changes_156 : decode cX8_changes 156 = .ok (.aload_n 0, 1) := by decide +kernel
theorem dX8_changes_157 : decode cX8_changes 157 = .ok (.getfield 149, 3) := by decide +kernel
theorem dX8_changes_160 : decode cX8_changes 160 = .ok (.iload_n 3, 1) := by decide +kernel
theorem dX8_changes_161 : decode cX8_changes 161 = .ok (.iastore, 1) := by decide +kernel
theorem dX8_changes_162 : decode cX8_changes 162 = .ok (.aload_n 0, 1) := by decide +kernel
theorem dX8_changes_163 : decode cX8_changes 163 = .ok (.dup, 1) := by decide +kernel
theorem dX8_changes_164 : decode cX8_changes 164 = .ok (.getfield 149, 3) := by decide +kernel
theorem dX8_changes_167 : decode cX8_changes 167 = .ok (.iconst 1, 1) := by decide +kernel
theorem dX8_changes_168 : decode cX8_changes 168 = .ok (.iadd, 1) := by decide +kernel
theorem dX8_changes_169 : decode cX8_changes 169 = .ok (.putfield 149, 3) := by decide +kernel
theorem dX8_changes_172 : decode cX8_changes 172 = .ok (.aload_n 0, 1) := by decide +kernel
theorem dX8_changes_173 : decode cX8_changes 173 = .ok (.iload_n 1, 1) := by decide +kernel
theorem dX8_changes_174 : decode cX8_changes 174 = .ok (.iload_n 2, 1) := by decide +kernel
theorem dX8_changes_175 : decode cX8_changes 175 = .ok (.iload_n 3, 1) := by decide +kernel
theorem dX8_changes_176 : decode cX8_changes 176 = .ok (.invokevirtual 152, 3) := by decide +kernel
theorem dX8_changes_179 : decode cX8_changes 179 = .ok (.iload 4, 2) := by decide +kernel
theorem dX8_changes_181 : decode cX8_changes 181 = .ok (.ireturn, 1) := by decide +kernel
theorem dX8_undo_0 : decode cX8_undo 0 = .ok (.aload_n 0, 1) := by decide +kernel
theorem dX8_undo_1 : decode cX8_undo 1 = .ok (.getfield 149, 3) := by decide +kernel
theorem dX8_undo_4 : decode cX8_undo 4 = .ok (.ifCond .ne 6, 3) := by decide +kernel
theorem dX8_undo_7 : decode cX8_undo 7 = .ok (.bipush (-5), 2) := by decide +kernel
theorem dX8_undo_9 : decode cX8_undo 9 = .ok (.ireturn, 1) := by decide +kernel
theorem dX8_undo_10 : decode cX8_undo 10 = .ok (.aload_n 0, 1) := by decide +kernel
theorem dX8_undo_11 : decode cX8_undo 11 = .ok (.dup, 1) := by decide +kernel
theorem dX8_undo_12 : decode cX8_undo 12 = .ok (.getfield 149, 3) := by decide +kernel
theorem dX8_undo_15 : decode cX8_undo 15 = .ok (.iconst 1, 1) := by decide +kernel
theorem dX8_undo_16 : decode cX8_undo 16 = .ok (.isub, 1) := by decide +kernel
theorem dX8_undo_17 : decode cX8_undo 17 = .ok (.putfield 149, 3) := by decide +kernel
theorem dX8_undo_20 : decode cX8_undo 20 = .ok (.aload_n 0, 1) := by decide +kernel
theorem dX8_undo_21 : decode cX8_undo 21 = .ok (.dup, 1) := by decide +kernel
theorem dX8_undo_22 : decode cX8_undo 22 = .ok (.getfield 146, 3) := by decide +kernel
theorem dX8_undo_25 : decode cX8_undo 25 = .ok (.iconst 1, 1) := by decide +kernel
theorem dX8_undo_26 : decode cX8_undo 26 = .ok (.iadd, 1) := by decide +kernel
theorem dX8_undo_27 : decode cX8_undo 27 = .ok (.putfield 146, 3) := by decide +kernel
theorem dX8_undo_30 : decode cX8_undo 30 = .ok (.aload_n 0, 1) := by decide +kernel
theorem dX8_undo_31 : decode cX8_undo 31 = .ok (.aload_n 0, 1) := by decide +kernel
theorem dX8_undo_32 : decode cX8_undo 32 = .ok (.getfield 26, 3) := by decide +kernel
theorem dX8_undo_35 : decode cX8_undo 35 = .ok (.aload_n 0, 1) := by decide +kernel
theorem dX8_undo_36 : decode cX8_undo 36 = .ok (.getfield 149, 3) := by decide +kernel
theorem dX8_undo_39 : decode cX8_undo 39 = .ok (.iaload, 1) := by decide +kernel
theorem dX8_undo_40 : decode cX8_undo 40 = .ok (.aload_n 0, 1) := by decide +kernel
theorem dX8_undo_41 : decode cX8_undo 41 = .ok (.getfield 29, 3) := by decide +kernel
theorem dX8_undo_44 : decode cX8_undo 44 = .ok (.aload_n 0, 1) := by decide +kernel
theorem dX8_undo_45 : decode cX8_undo 45 = .ok (.getfield 149, 3) := by decide +kernel
theorem dX8_undo_48 : decode cX8_undo 48 = .ok (.iaload, 1) := by decide +kernel
theorem dX8_undo_49 : decode cX8_undo 49 = .ok (.aload_n 0, 1) := by decide +kernel
theorem dX8_undo_50 : decode cX8_undo 50 = .ok (.getfield 32, 3) := by decide +kernel
theorem dX8_undo_53 : decode cX8_undo 53 = .ok (.aload_n 0, 1) := by decide +kernel
theorem dX8_undo_54 : decode cX8_undo 54 = .ok (.getfield 149, 3) := by decide +kernel
theorem dX8_undo_57 : decode cX8_undo 57 = .ok (.iaload, 1) := by decide +kernel
theorem dX8_undo_58 : decode cX8_undo 58 = .ok (.invokevirtual 152, 3) := by decide +kernel
theorem dX8_undo_61 : decode cX8_undo 61 = .ok (.aload_n 0, 1) := by decide +kernel
theorem dX8_undo_62 : decode cX8_undo 62 = .ok (.getfield 149, 3) := by decide +kernel
theorem dX8_undo_65 : decode cX8_undo 65 = .ok (.ireturn, 1) := by decide +kernel
theorem dX8_redo_0 : decode cX8_redo 0 = .ok (.aload_n 0, 1) := by decide +kernel
theorem dX8_redo_1 : decode cX8_redo 1 = .ok (.getfield 146, 3) := by decide +kernel
theorem dX8_redo_4 : decode cX8_redo 4 = .ok (.ifCond .ne 6, 3) := by decide +kernel
theorem dX8_redo_7 : decode cX8_redo 7 = .ok (.bipush (-5), 2) := by decide +kernel
theorem dX8_redo_9 : decode cX8_redo 9 = .ok (.ireturn, 1) := by decide +kernel
theorem dX8_redo_10 : decode cX8_redo 10 = .ok (.aload_n 0, 1) := by decide +kernel
theorem dX8_redo_11 : decode cX8_redo 11 = .ok (.aload_n 0, 1) := by decide +kernel
theorem dX8_redo_12 : decode cX8_redo 12 = .ok (.getfield 26, 3) := by decide +kernel
theorem dX8_redo_15 : decode cX8_redo 15 = .ok (.aload_n 0, 1) := by decide +kernel
theorem dX8_redo_16 : decode cX8_redo 16 = .ok (.getfield 149, 3) := by decide +kernel
theorem dX8_redo_19 : decode cX8_redo 19 = .ok (.iaload, 1) := by decide +kernel
theorem dX8_redo_20 : decode cX8_redo 20 = .ok (.aload_n 0, 1) := by decide +kernel
theorem dX8_redo_21 : decode cX8_redo 21 = .ok (.getfield 29, 3) := by decide +kernel
theorem dX8_redo_24 : decode cX8_redo 24 = .ok (.aload_n 0, 1) := by decide +kernel
theorem dX8_redo_25 : decode cX8_redo 25 = .ok (.getfield 149, 3) := by decide +kernel
theorem dX8_redo_28 : decode cX8_redo 28 = .ok (.iaload, 1) := by decide +kernel
theorem dX8_redo_29 : decode cX8_redo 29 = .ok (.aload_n 0, 1) := by decide +kernel
theorem dX8_redo_30 : decode cX8_redo 30 = .ok (.getfield 35, 3) := by decide +kernel
theorem dX8_redo_33 : decode cX8_redo 33 = .ok (.aload_n 0, 1) := by decide +kernel
theorem dX8_redo_34 : decode cX8_redo 34 = .ok (.getfield 149, 3) := by decide +kernel
theorem dX8_redo_37 : decode cX8_redo 37 = .ok (.iaload, 1) := by decide +kernel
theorem dX8_redo_38 : decode cX8_redo 38 = .ok (.invokevirtual 152, 3) := by decide +kernel
theorem dX8_redo_41 : decode cX8_redo 41 = .ok (.aload_n 0, 1) := by decide +kernel
theorem dX8_redo_42 : decode cX8_redo 42 = .ok (.dup, 1) := by decide +kernel
theorem dX8_redo_43 : decode cX8_redo 43 = .ok (.getfield 149, 3) := by decide +kernel
theorem dX8_redo_46 : decode cX8_redo 46 = .ok (.iconst 1, 1) := by decide +kernel
theorem dX8_redo_47 : decode cX8_redo 47 = .ok (.iadd, 1) := by decide +kernel
theorem dX8_redo_48 : decode cX8_redo 48 = .ok (.putfield 149, 3) := by decide +kernel
theorem dX8_redo_51 : decode cX8_redo 51 = .ok (.aload_n 0, 1) := by decide +kernel
theorem dX8_redo_52 : decode cX8_redo 52 = .ok (.dup, 1) := by decide +kernel
theorem dX8_redo_53 : decode cX8_redo 53 = .ok (.getfield 146, 3) := by decide +kernel
theorem dX8_redo_56 : decode cX8_redo 56 = .ok (.iconst 1, 1) := by decide +kernel
theorem dX8_redo_57 : decode cX8_redo 57 = .ok (.isub, 1) := by decide +kernel
theorem dX8_redo_58 : decode cX8_redo 58 = .ok (.putfield 146, 3) := by decide +kernel
theorem dX8_redo_61 : decode cX8_redo 61 = .ok (.aload_n 0, 1) := by decide +kernel
theorem dX8_redo_62 : decode cX8_redo 62 = .ok (.getfield 146, 3) := by decide +kernel
theorem dX8_redo_65 : decode cX8_redo 65 = .ok (.ireturn, 1) := by decide +kernel
theorem dX8_isOne_0 : decode cX8_isOne 0 = .ok (.iload_n 2, 1) := by decide +kernel
theorem dX8_isOne_1 : decode cX8_isOne 1 = .ok (.iconst 0, 1) := by decide +kernel
theorem dX8_isOne_2 : decode cX8_isOne 2 = .ok (.bipush 8, 2) := by decide +kernel
theorem dX8_isOne_4 : decode cX8_isOne 4 = .ok (.invokestatic 128, 3) := by decide +kernel
theorem dX8_isOne_7 : decode cX8_isOne 7 = .ok (.ifCond .eq 11, 3) := by decide +kernel
theorem dX8_isOne_10 : decode cX8_isOne 10 = .ok (.aload_n 0, 1) := by decide +kernel
theorem dX8_isOne_11 : decode cX8_isOne 11 = .ok (.iload_n 1, 1) := by decide +kernel
theorem dX8_isOne_12 : decode cX8_isOne 12 = .ok (.invokevirtual 156, 3) := by decide +kernel
theorem dX8_isOne_15 : decode cX8_isOne 15 = .ok (.goto 31, 3) := by decide +kernel
theorem dX8_isOne_18 : decode cX8_isOne 18 = .ok (.iload_n 2, 1) := by decide +kernel
theorem dX8_isOne_19 : decode cX8_isOne 19 = .ok (.bipush 9, 2) := by decide +kernel
theorem dX8_isOne_21 : decode cX8_isOne 21 = .ok (.if_icmp .ne 10, 3) := by decide +kernel
theorem dX8_isOne_24 : decode cX8_isOne 24 = .ok (.iload_n 1, 1) := by decide +kernel
theorem dX8_isOne_25 : decode cX8_isOne 25 = .ok (.invokestatic 159, 3) := by decide +kernel
theorem dX8_isOne_28 : decode cX8_isOne 28 = .ok (.goto 18, 3) := by decide +kernel
theorem dX8_isOne_31 : decode cX8_isOne 31 = .ok (.iload_n 2, 1) := by decide +kernel
theorem dX8_isOne_32 : decode cX8_isOne 32 = .ok (.bipush 10, 2) := by decide +kernel
theorem dX8_isOne_34 : decode cX8_isOne 34 = .ok (.if_icmp .ne 11, 3) := by decide +kernel
theorem dX8_isOne_37 : decode cX8_isOne 37 = .ok (.iload_n 1, 1) := by decide +kernel
theorem dX8_isOne_38 : decode cX8_isOne 38 = .ok (.ifCond .ne 7, 3) := by decide +kernel
theorem dX8_isOne_41 : decode cX8_isOne 41 = .ok (.iconst 1, 1) := by decide +kernel
theorem dX8_isOne_42 : decode cX8_isOne 42 = .ok (.goto 4, 3) := by decide +kernel
theorem dX8_isOne_45 : decode cX8_isOne 45 = .ok (.iconst 0, 1) := by decide +kernel
theorem dX8_isOne_46 : decode cX8_isOne 46 = .ok (.ireturn, 1) := by decide +kernel
theorem dX8_mayBe_0 : decode cX8_mayBe 0 = .ok (.iload_n 0, 1) := by decide +kernel
theorem dX8_mayBe_1 : decode cX8_mayBe 1 = .ok (.bipush 8, 2) := by decide +kernel
theorem dX8_mayBe_3 : decode cX8_mayBe 3 = .ok (.if_icmp .ne 14, 3) := by decide +kernel
theorem dX8_mayBe_6 : decode cX8_mayBe 6 = .ok (.iload_n 1, 1) := by decide +kernel
theorem dX8_mayBe_7 : decode cX8_mayBe 7 = .ok (.iconst 0, 1) := by decide +kernel
theorem dX8_mayBe_8 : decode cX8_mayBe 8 = .ok (.sipush 255, 3) := by decide +kernel
theorem dX8_mayBe_11 : decode cX8_mayBe 11 = .ok (.invokestatic 128, 3) := by decide +kernel
theorem dX8_mayBe_14 : decode cX8_mayBe 14 = .ok (.goto 25, 3) := by decide +kernel
theorem dX8_mayBe_17 : decode cX8_mayBe 17 = .ok (.iload_n 0, 1) := by decide +kernel
theorem dX8_mayBe_18 : decode cX8_mayBe 18 = .ok (.bipush 9, 2) := by decide +kernel
theorem dX8_mayBe_20 : decode cX8_mayBe 20 = .ok (.if_icmp .ne 12, 3) := by decide +kernel
theorem dX8_mayBe_23 : decode cX8_mayBe 23 = .ok (.iload_n 1, 1) := by decide +kernel
theorem dX8_mayBe_24 : decode cX8_mayBe 24 = .ok (.iconst 0, 1) := by decide +kernel
theorem dX8_mayBe_25 : decode cX8_mayBe 25 = .ok (.iconst 1, 1) := by decide +kernel
theorem dX8_mayBe_26 : decode cX8_mayBe 26 = .ok (.invokestatic 128, 3) := by decide +kernel
theorem dX8_mayBe_29 : decode cX8_mayBe 29 = .ok (.goto 10, 3) := by decide +kernel
theorem dX8_mayBe_32 : decode cX8_mayBe 32 = .ok (.iload_n 1, 1) := by decide +kernel
theorem dX8_mayBe_33 : decode cX8_mayBe 33 = .ok (.iconst 0, 1) := by decide +kernel
theorem dX8_mayBe_34 : decode cX8_mayBe 34 = .ok (.bipush 9, 2) := by decide +kernel
theorem dX8_mayBe_36 : decode cX8_mayBe 36 = .ok (.invokestatic 128, 3) := by decide +kernel
theorem dX8_mayBe_39 : decode cX8_mayBe 39 = .ok (.ireturn, 1) := by decide +kernel
theorem dX8_mend_0 : decode cX8_mend 0 = .ok (.aload_n 0, 1) := by decide +kernel
theorem dX8_mend_1 : decode cX8_mend 1 = .ok (.iload_n 1, 1) := by decide +kernel
theorem dX8_mend_2 : decode cX8_mend 2 = .ok (.iload_n 2, 1) := by decide +kernel
theorem dX8_mend_3 : decode cX8_mend 3 = .ok (.invokevirtual 162, 3) := by decide +kernel
theorem dX8_mend_6 : decode cX8_mend 6 = .ok (.ifCond .eq 21, 3) := by decide +kernel
theorem dX8_mend_9 : decode cX8_mend 9 = .ok (.iload_n 2, 1) := by decide +kernel
theorem dX8_mend_10 : decode cX8_mend 10 = .ok (.iload_n 3, 1) := by decide +kernel
theorem dX8_mend_11 : decode cX8_mend 11 = .ok (.invokestatic 165, 3) := by decide +kernel
theorem dX8_mend_14 : decode cX8_mend 14 = .ok (.ifCond .eq 13, 3) := by decide +kernel
theorem dX8_mend_17 : decode cX8_mend 17 = .ok (.aload_n 0, 1) := by decide +kernel
theorem dX8_mend_18 : decode cX8_mend 18 = .ok (.iload_n 2, 1) := by decide +kernel
theorem dX8_mend_19 : decode cX8_mend 19 = .ok (.iload_n 1, 1) := by decide +kernel
theorem dX8_mend_20 : decode cX8_mend 20 = .ok (.iload_n 3, 1) := by decide +kernel
theorem dX8_mend_21 : decode cX8_mend 21 = .ok (.invokevirtual 168, 3) := by decide +kernel
theorem dX8_mend_24 : decode cX8_mend 24 = .ok (.goto 4, 3) := by decide +kernel
theorem dX8_mend_27 : decode cX8_mend 27 = .ok (.iconst (-1), 1) := by decide +kernel
theorem dX8_mend_28 : decode cX8_mend 28 = .ok (.ireturn, 1) := by decide +kernel
theorem dX8_of_0 : decode cX8_of 0 = .ok (.iload_n 2, 1) := by decide +kernel
theorem dX8_of_1 : decode cX8_of 1 = .ok (.bipush 11, 2) := by decide +kernel
theorem dX8_of_3 : decode cX8_of 3 = .ok (.bipush 12, 2) := by decide +kernel
theorem dX8_of_5 : decode cX8_of 5 = .ok (.invokestatic 128, 3) := by decide +kernel
theorem dX8_of_8 : decode cX8_of 8 = .ok (.ifCond .eq 38, 3) := by decide +kernel
theorem dX8_of_11 : decode cX8_of 11 = .ok (.aload_n 0, 1) := by decide +kernel
theorem dX8_of_12 : decode cX8_of 12 = .ok (.iload_n 1, 1) := by decide +kernel
theorem dX8_of_13 : decode cX8_of 13 = .ok (.invokevirtual 156, 3) := by decide +kernel
theorem dX8_of_16 : decode cX8_of 16 = .ok (.ifCond .ne 5, 3) := by decide +kernel
theorem dX8_of_19 : decode cX8_of 19 = .ok (.iconst (-1), 1) := by decide +kernel
theorem dX8_of_20 : decode cX8_of 20 = .ok (.ireturn, 1) := by decide +kernel
theorem dX8_of_21 : decode cX8_of 21 = .ok (.aload_n 0, 1) := by decide +kernel
theorem dX8_of_22 : decode cX8_of 22 = .ok (.invokevirtual 172, 3) := by decide +kernel
theorem dX8_of_25 : decode cX8_of 25 = .ok (.iload_n 2, 1) := by decide +kernel
theorem dX8_of_26 : decode cX8_of 26 = .ok (.bipush 11, 2) := by decide +kernel
theorem dX8_of_28 : decode cX8_of 28 = .ok (.if_icmp .ne 11, 3) := by decide +kernel
theorem dX8_of_31 : decode cX8_of 31 = .ok (.aload_n 0, 1) := by decide +kernel
theorem dX8_of_32 : decode cX8_of 32 = .ok (.iload_n 1, 1) := by decide +kernel
theorem dX8_of_33 : decode cX8_of 33 = .ok (.invokevirtual 175, 3) := by decide +kernel
theorem dX8_of_36 : decode cX8_of 36 = .ok (.goto 9, 3) := by decide +kernel
theorem dX8_of_39 : decode cX8_of 39 = .ok (.aload_n 0, 1) := by decide +kernel
theorem dX8_of_40 : decode cX8_of 40 = .ok (.getfield 16, 3) := by decide +kernel
theorem dX8_of_43 : decode cX8_of 43 = .ok (.iload_n 1, 1) := by decide +kernel
theorem dX8_of_44 : decode cX8_of 44 = .ok (.iaload, 1) := by decide +kernel
theorem dX8_of_45 : decode cX8_of 45 = .ok (.ireturn, 1) := by decide +kernel
theorem dX8_of_46 : decode cX8_of 46 = .ok (.aload_n 0, 1) := by decide +kernel
theorem dX8_of_47 : decode cX8_of 47 = .ok (.iload_n 1, 1) := by decide +kernel
theorem dX8_of_48 : decode cX8_of 48 = .ok (.iload_n 2, 1) := by decide +kernel
theorem dX8_of_49 : decode cX8_of 49 = .ok (.invokevirtual 162, 3) := by decide +kernel
theorem dX8_of_52 : decode cX8_of 52 = .ok (.ifCond .eq 12, 3) := by decide +kernel
theorem dX8_of_55 : decode cX8_of 55 = .ok (.aload_n 0, 1) := by decide +kernel
theorem dX8_of_56 : decode cX8_of 56 = .ok (.iload_n 2, 1) := by decide +kernel
theorem dX8_of_57 : decode cX8_of 57 = .ok (.iload_n 1, 1) := by decide +kernel
theorem dX8_of_58 : decode cX8_of 58 = .ok (.invokevirtual 142, 3) := by decide +kernel
theorem dX8_of_61 : decode cX8_of 61 = .ok (.goto 4, 3) := by decide +kernel
theorem dX8_of_64 : decode cX8_of 64 = .ok (.iconst (-1), 1) := by decide +kernel
theorem dX8_of_65 : decode cX8_of 65 = .ok (.ireturn, 1) := by decide +kernel
theorem dX8_feed_0 : decode cX8_feed 0 = .ok (.iload_n 1, 1) := by decide +kernel
theorem dX8_feed_1 : decode cX8_feed 1 = .ok (.iconst 0, 1) := by decide +kernel
theorem dX8_feed_2 : decode cX8_feed 2 = .ok (.sipush 255, 3) := by decide +kernel
theorem dX8_feed_5 : decode cX8_feed 5 = .ok (.invokestatic 128, 3) := by decide +kernel
theorem dX8_feed_8 : decode cX8_feed 8 = .ok (.ifCond .ne 5, 3) := by decide +kernel
theorem dX8_feed_11 : decode cX8_feed 11 = .ok (.iconst (-1), 1) := by decide +kernel
theorem dX8_feed_12 : decode cX8_feed 12 = .ok (.ireturn, 1) := by decide +kernel
theorem dX8_feed_13 : decode cX8_feed 13 = .ok (.aload_n 0, 1) := by decide +kernel
theorem dX8_feed_14 : decode cX8_feed 14 = .ok (.getfield 179, 3) := by decide +kernel
theorem dX8_feed_17 : decode cX8_feed 17 = .ok (.bipush 120, 2) := by decide +kernel
theorem dX8_feed_19 : decode cX8_feed 19 = .ok (.if_icmp .ne 6, 3) := by decide +kernel
theorem dX8_feed_22 : decode cX8_feed 22 = .ok (.bipush (-3), 2) := by decide +kernel
theorem dX8_feed_24 : decode cX8_feed 24 = .ok (.ireturn, 1) := by decide +kernel
theorem dX8_feed_25 : decode cX8_feed 25 = .ok (.aload_n 0, 1) := by decide +kernel
theorem dX8_feed_26 : decode cX8_feed 26 = .ok (.getfield 38, 3) := by decide +kernel
theorem dX8_feed_29 : decode cX8_feed 29 = .ok (.aload_n 0, 1) := by decide +kernel
theorem dX8_feed_30 : decode cX8_feed 30 = .ok (.getfield 179, 3) := by decide +kernel
theorem dX8_feed_33 : decode cX8_feed 33 = .ok (.iload_n 1, 1) := by decide +kernel
theorem dX8_feed_34 : decode cX8_feed 34 = .ok (.i2b, 1) := by decide +kernel
theorem dX8_feed_35 : decode cX8_feed 35 = .ok (.bastore, 1) := by decide +kernel
theorem dX8_feed_36 : decode cX8_feed 36 = .ok (.aload_n 0, 1) := by decide +kernel
theorem dX8_feed_37 : decode cX8_feed 37 = .ok (.dup, 1) := by decide +kernel
theorem dX8_feed_38 : decode cX8_feed 38 = .ok (.getfield 179, 3) := by decide +kernel
theorem dX8_feed_41 : decode cX8_feed 41 = .ok (.iconst 1, 1) := by decide +kernel
theorem dX8_feed_42 : decode cX8_feed 42 = .ok (.iadd, 1) := by decide +kernel
theorem dX8_feed_43 : decode cX8_feed 43 = .ok (.putfield 179, 3) := by decide +kernel
theorem dX8_feed_46 : decode cX8_feed 46 = .ok (.aload_n 0, 1) := by decide +kernel
theorem dX8_feed_47 : decode cX8_feed 47 = .ok (.getfield 179, 3) := by decide +kernel
theorem dX8_feed_50 : decode cX8_feed 50 = .ok (.ireturn, 1) := by decide +kernel
theorem dX8_look_0 : decode cX8_look 0 = .ok (.aload_n 0, 1) := by decide +kernel
theorem dX8_look_1 : decode cX8_look 1 = .ok (.getfield 182, 3) := by decide +kernel
theorem dX8_look_4 : decode cX8_look 4 = .ok (.aload_n 0, 1) := by decide +kernel
theorem dX8_look_5 : decode cX8_look 5 = .ok (.getfield 179, 3) := by decide +kernel
theorem dX8_look_8 : decode cX8_look 8 = .ok (.if_icmp .ge 15, 3) := by decide +kernel
theorem dX8_look_11 : decode cX8_look 11 = .ok (.aload_n 0, 1) := by decide +kernel
theorem dX8_look_12 : decode cX8_look 12 = .ok (.getfield 38, 3) := by decide +kernel
theorem dX8_look_15 : decode cX8_look 15 = .ok (.aload_n 0, 1) := by decide +kernel
theorem dX8_look_16 : decode cX8_look 16 = .ok (.getfield 182, 3) := by decide +kernel
theorem dX8_look_19 : decode cX8_look 19 = .ok (.baload, 1) := by decide +kernel
theorem dX8_look_20 : decode cX8_look 20 = .ok (.goto 4, 3) := by decide +kernel
theorem dX8_look_23 : decode cX8_look 23 = .ok (.iconst (-1), 1) := by decide +kernel
theorem dX8_look_24 : decode cX8_look 24 = .ok (.ireturn, 1) := by decide +kernel
theorem dX8_wrong_0 : decode cX8_wrong 0 = .ok (.aload_n 0, 1) := by decide +kernel
theorem dX8_wrong_1 : decode cX8_wrong 1 = .ok (.getfield 185, 3) := by decide +kernel
theorem dX8_wrong_4 : decode cX8_wrong 4 = .ok (.ifCond .ge 11, 3) := by decide +kernel
theorem dX8_wrong_7 : decode cX8_wrong 7 = .ok (.aload_n 0, 1) := by decide +kernel
theorem dX8_wrong_8 : decode cX8_wrong 8 = .ok (.aload_n 0, 1) := by decide +kernel
theorem dX8_wrong_9 : decode cX8_wrong 9 = .ok (.getfield 182, 3) := by decide +kernel
theorem dX8_wrong_12 : decode cX8_wrong 12 = .ok (.putfield 185, 3) := by decide +kernel
theorem dX8_wrong_15 : decode cX8_wrong 15 = .ok (.return_, 1) := by decide +kernel
theorem dX8_addStep_0 : decode cX8_addStep 0 = .ok (.aload_n 0, 1) := by decide +kernel
theorem dX8_addStep_1 : decode cX8_addStep 1 = .ok (.getfield 42, 3) := by decide +kernel
theorem dX8_addStep_4 : decode cX8_addStep 4 = .ok (.sipush 130, 3) := by decide +kernel
theorem dX8_addStep_7 : decode cX8_addStep 7 = .ok (.aload_n 0, 1) := by decide +kernel
theorem dX8_addStep_8 : decode cX8_addStep 8 = .ok (.getfield 188, 3) := by decide +kernel
theorem dX8_addStep_11 : decode cX8_addStep 11 = .ok (.iadd, 1) := by decide +kernel
theorem dX8_addStep_12 : decode cX8_addStep 12 = .ok (.iload_n 1, 1) := by decide +kernel
theorem dX8_addStep_13 : decode cX8_addStep 13 = .ok (.i2b, 1) := by decide +kernel
theorem dX8_addStep_14 : decode cX8_addStep 14 = .ok (.bastore, 1) := by decide +kernel
theorem dX8_addStep_15 : decode cX8_addStep 15 = .ok (.aload_n 0, 1) := by decide +kernel
theorem dX8_addStep_16 : decode cX8_addStep 16 = .ok (.getfield 45, 3) := by decide +kernel
theorem dX8_addStep_19 : decode cX8_addStep 19 = .ok (.sipush 130, 3) := by decide +kernel
theorem dX8_addStep_22 : decode cX8_addStep 22 = .ok (.aload_n 0, 1) := by decide +kernel
theorem dX8_addStep_23 : decode cX8_addStep 23 = .ok (.getfield 188, 3) := by decide +kernel
theorem dX8_addStep_26 : decode cX8_addStep 26 = .ok (.iadd, 1) := by decide +kernel
theorem dX8_addStep_27 : decode cX8_addStep 27 = .ok (.iload_n 2, 1) := by decide +kernel
theorem dX8_addStep_28 : decode cX8_addStep 28 = .ok (.iastore, 1) := by decide +kernel
theorem dX8_addStep_29 : decode cX8_addStep 29 = .ok (.aload_n 0, 1) := by decide +kernel
theorem dX8_addStep_30 : decode cX8_addStep 30 = .ok (.dup, 1) := by decide +kernel
theorem dX8_addStep_31 : decode cX8_addStep 31 = .ok (.getfield 188, 3) := by decide +kernel
theorem dX8_addStep_34 : decode cX8_addStep 34 = .ok (.iconst 1, 1) := by decide +kernel
theorem dX8_addStep_35 : decode cX8_addStep 35 = .ok (.iadd, 1) := by decide +kernel
theorem dX8_addStep_36 : decode cX8_addStep 36 = .ok (.putfield 188, 3) := by decide +kernel
theorem dX8_addStep_39 : decode cX8_addStep 39 = .ok (.return_, 1) := by decide +kernel
theorem dX8_nameOf_0 : decode cX8_nameOf 0 = .ok (.iload_n 0, 1) := by decide +kernel
theorem dX8_nameOf_1 : decode cX8_nameOf 1 = .ok (.lookupswitch 71 #[(99, 67), (102, 69), (108, 61), (116, 65), (119, 63), (122, 59)], 59) := by decide +kernel
theorem dX8_nameOf_60 : decode cX8_nameOf 60 = .ok (.iconst 0, 1) := by decide +kernel
theorem dX8_nameOf_61 : decode cX8_nameOf 61 = .ok (.ireturn, 1) := by decide +kernel
theorem dX8_nameOf_62 : decode cX8_nameOf 62 = .ok (.iconst 1, 1) := by decide +kernel
theorem dX8_nameOf_63 : decode cX8_nameOf 63 = .ok (.ireturn, 1) := by decide +kernel
theorem dX8_nameOf_64 : decode cX8_nameOf 64 = .ok (.iconst 2, 1) := by decide +kernel
theorem dX8_nameOf_65 : decode cX8_nameOf 65 = .ok (.ireturn, 1) := by decide +kernel
theorem dX8_nameOf_66 : decode cX8_nameOf 66 = .ok (.iconst 3, 1) := by decide +kernel
theorem dX8_nameOf_67 : decode cX8_nameOf 67 = .ok (.ireturn, 1) := by decide +kernel
theorem dX8_nameOf_68 : decode cX8_nameOf 68 = .ok (.iconst 4, 1) := by decide +kernel
theorem dX8_nameOf_69 : decode cX8_nameOf 69 = .ok (.ireturn, 1) := by decide +kernel
theorem dX8_nameOf_70 : decode cX8_nameOf 70 = .ok (.iconst 5, 1) := by decide +kernel
