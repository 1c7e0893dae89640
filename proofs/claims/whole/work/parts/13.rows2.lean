theorem dX8_nameOf_71 : decode cX8_nameOf 71 = .ok (.ireturn, 1) := by decide +kernel
theorem dX8_nameOf_72 : decode cX8_nameOf 72 = .ok (.iconst (-1), 1) := by decide +kernel
theorem dX8_nameOf_73 : decode cX8_nameOf 73 = .ok (.ireturn, 1) := by decide +kernel
theorem dX8_opens_0 : decode cX8_opens 0 = .ok (.aload_n 0, 1) := by decide +kernel
theorem dX8_opens_1 : decode cX8_opens 1 = .ok (.getfield 191, 3) := by decide +kernel
theorem dX8_opens_4 : decode cX8_opens 4 = .ok (.bipush 6, 2) := by decide +kernel
theorem dX8_opens_6 : decode cX8_opens 6 = .ok (.if_icmp .ne 9, 3) := by decide +kernel
theorem dX8_opens_9 : decode cX8_opens 9 = .ok (.aload_n 0, 1) := by decide +kernel
theorem dX8_opens_10 : decode cX8_opens 10 = .ok (.invokevirtual 194, 3) := by decide +kernel
theorem dX8_opens_13 : decode cX8_opens 13 = .ok (.iconst 0, 1) := by decide +kernel
theorem dX8_opens_14 : decode cX8_opens 14 = .ok (.ireturn, 1) := by decide +kernel
theorem dX8_opens_15 : decode cX8_opens 15 = .ok (.aload_n 0, 1) := by decide +kernel
theorem dX8_opens_16 : decode cX8_opens 16 = .ok (.dup, 1) := by decide +kernel
theorem dX8_opens_17 : decode cX8_opens 17 = .ok (.getfield 191, 3) := by decide +kernel
theorem dX8_opens_20 : decode cX8_opens 20 = .ok (.iconst 1, 1) := by decide +kernel
theorem dX8_opens_21 : decode cX8_opens 21 = .ok (.iadd, 1) := by decide +kernel
theorem dX8_opens_22 : decode cX8_opens 22 = .ok (.putfield 191, 3) := by decide +kernel
theorem dX8_opens_25 : decode cX8_opens 25 = .ok (.aload_n 0, 1) := by decide +kernel
theorem dX8_opens_26 : decode cX8_opens 26 = .ok (.dup, 1) := by decide +kernel
theorem dX8_opens_27 : decode cX8_opens 27 = .ok (.getfield 182, 3) := by decide +kernel
theorem dX8_opens_30 : decode cX8_opens 30 = .ok (.iconst 1, 1) := by decide +kernel
theorem dX8_opens_31 : decode cX8_opens 31 = .ok (.iadd, 1) := by decide +kernel
theorem dX8_opens_32 : decode cX8_opens 32 = .ok (.putfield 182, 3) := by decide +kernel
theorem dX8_opens_35 : decode cX8_opens 35 = .ok (.iconst 1, 1) := by decide +kernel
theorem dX8_opens_36 : decode cX8_opens 36 = .ok (.ireturn, 1) := by decide +kernel
theorem dX8_figure_0 : decode cX8_figure 0 = .ok (.iconst 0, 1) := by decide +kernel
theorem dX8_figure_1 : decode cX8_figure 1 = .ok (.istore_n 1, 1) := by decide +kernel
theorem dX8_figure_2 : decode cX8_figure 2 = .ok (.iconst 0, 1) := by decide +kernel
theorem dX8_figure_3 : decode cX8_figure 3 = .ok (.istore_n 2, 1) := by decide +kernel
theorem dX8_figure_4 : decode cX8_figure 4 = .ok (.iload_n 2, 1) := by decide +kernel
theorem dX8_figure_5 : decode cX8_figure 5 = .ok (.iconst 4, 1) := by decide +kernel
theorem dX8_figure_6 : decode cX8_figure 6 = .ok (.if_icmp .ge 46, 3) := by decide +kernel
theorem dX8_figure_9 : decode cX8_figure 9 = .ok (.aload_n 0, 1) := by decide +kernel
theorem dX8_figure_10 : decode cX8_figure 10 = .ok (.invokevirtual 197, 3) := by decide +kernel
theorem dX8_figure_13 : decode cX8_figure 13 = .ok (.bipush 48, 2) := by decide +kernel
theorem dX8_figure_15 : decode cX8_figure 15 = .ok (.bipush 57, 2) := by decide +kernel
theorem dX8_figure_17 : decode cX8_figure 17 = .ok (.invokestatic 128, 3) := by decide +kernel
theorem dX8_figure_20 : decode cX8_figure 20 = .ok (.ifCond .eq 32, 3) := by decide +kernel
theorem dX8_figure_23 : decode cX8_figure 23 = .ok (.bipush 10, 2) := by decide +kernel
theorem dX8_figure_25 : decode cX8_figure 25 = .ok (.iload_n 1, 1) := by decide +kernel
theorem dX8_figure_26 : decode cX8_figure 26 = .ok (.imul, 1) := by decide +kernel
theorem dX8_figure_27 : decode cX8_figure 27 = .ok (.aload_n 0, 1) := by decide +kernel
theorem dX8_figure_28 : decode cX8_figure 28 = .ok (.invokevirtual 197, 3) := by decide +kernel
theorem dX8_figure_31 : decode cX8_figure 31 = .ok (.iadd, 1) := by decide +kernel
theorem dX8_figure_32 : decode cX8_figure 32 = .ok (.bipush 48, 2) := by decide +kernel
theorem dX8_figure_34 : decode cX8_figure 34 = .ok (.isub, 1) := by decide +kernel
theorem dX8_figure_35 : decode cX8_figure 35 = .ok (.istore_n 1, 1) := by decide +kernel
theorem dX8_figure_36 : decode cX8_figure 36 = .ok (.iinc 2 1, 3) := by decide +kernel
theorem dX8_figure_39 : decode cX8_figure 39 = .ok (.aload_n 0, 1) := by decide +kernel
theorem dX8_figure_40 : decode cX8_figure 40 = .ok (.dup, 1) := by decide +kernel
theorem dX8_figure_41 : decode cX8_figure 41 = .ok (.getfield 182, 3) := by decide +kernel
theorem dX8_figure_44 : decode cX8_figure 44 = .ok (.iconst 1, 1) := by decide +kernel
theorem dX8_figure_45 : decode cX8_figure 45 = .ok (.iadd, 1) := by decide +kernel
theorem dX8_figure_46 : decode cX8_figure 46 = .ok (.putfield 182, 3) := by decide +kernel
theorem dX8_figure_49 : decode cX8_figure 49 = .ok (.goto (-45), 3) := by decide +kernel
theorem dX8_figure_52 : decode cX8_figure 52 = .ok (.iload_n 2, 1) := by decide +kernel
theorem dX8_figure_53 : decode cX8_figure 53 = .ok (.ifCond .eq 17, 3) := by decide +kernel
theorem dX8_figure_56 : decode cX8_figure 56 = .ok (.aload_n 0, 1) := by decide +kernel
theorem dX8_figure_57 : decode cX8_figure 57 = .ok (.invokevirtual 197, 3) := by decide +kernel
theorem dX8_figure_60 : decode cX8_figure 60 = .ok (.bipush 48, 2) := by decide +kernel
theorem dX8_figure_62 : decode cX8_figure 62 = .ok (.bipush 57, 2) := by decide +kernel
theorem dX8_figure_64 : decode cX8_figure 64 = .ok (.invokestatic 128, 3) := by decide +kernel
theorem dX8_figure_67 : decode cX8_figure 67 = .ok (.ifCond .eq 7, 3) := by decide +kernel
theorem dX8_figure_70 : decode cX8_figure 70 = .ok (.aload_n 0, 1) := by decide +kernel
theorem dX8_figure_71 : decode cX8_figure 71 = .ok (.invokevirtual 194, 3) := by decide +kernel
theorem dX8_figure_74 : decode cX8_figure 74 = .ok (.aload_n 0, 1) := by decide +kernel
theorem dX8_figure_75 : decode cX8_figure 75 = .ok (.iconst 1, 1) := by decide +kernel
theorem dX8_figure_76 : decode cX8_figure 76 = .ok (.iload_n 1, 1) := by decide +kernel
theorem dX8_figure_77 : decode cX8_figure 77 = .ok (.invokevirtual 201, 3) := by decide +kernel
theorem dX8_figure_80 : decode cX8_figure 80 = .ok (.return_, 1) := by decide +kernel
theorem dX8_operand_0 : decode cX8_operand 0 = .ok (.aload_n 0, 1) := by decide +kernel
theorem dX8_operand_1 : decode cX8_operand 1 = .ok (.invokevirtual 197, 3) := by decide +kernel
theorem dX8_operand_4 : decode cX8_operand 4 = .ok (.istore_n 1, 1) := by decide +kernel
theorem dX8_operand_5 : decode cX8_operand 5 = .ok (.iload_n 1, 1) := by decide +kernel
theorem dX8_operand_6 : decode cX8_operand 6 = .ok (.invokestatic 205, 3) := by decide +kernel
theorem dX8_operand_9 : decode cX8_operand 9 = .ok (.ifCond .lt 25, 3) := by decide +kernel
theorem dX8_operand_12 : decode cX8_operand 12 = .ok (.aload_n 0, 1) := by decide +kernel
theorem dX8_operand_13 : decode cX8_operand 13 = .ok (.iconst 2, 1) := by decide +kernel
theorem dX8_operand_14 : decode cX8_operand 14 = .ok (.iload_n 1, 1) := by decide +kernel
theorem dX8_operand_15 : decode cX8_operand 15 = .ok (.invokestatic 205, 3) := by decide +kernel
theorem dX8_operand_18 : decode cX8_operand 18 = .ok (.invokevirtual 201, 3) := by decide +kernel
theorem dX8_operand_21 : decode cX8_operand 21 = .ok (.aload_n 0, 1) := by decide +kernel
theorem dX8_operand_22 : decode cX8_operand 22 = .ok (.dup, 1) := by decide +kernel
theorem dX8_operand_23 : decode cX8_operand 23 = .ok (.getfield 182, 3) := by decide +kernel
theorem dX8_operand_26 : decode cX8_operand 26 = .ok (.iconst 1, 1) := by decide +kernel
theorem dX8_operand_27 : decode cX8_operand 27 = .ok (.iadd, 1) := by decide +kernel
theorem dX8_operand_28 : decode cX8_operand 28 = .ok (.putfield 182, 3) := by decide +kernel
theorem dX8_operand_31 : decode cX8_operand 31 = .ok (.goto 123, 3) := by decide +kernel
theorem dX8_operand_34 : decode cX8_operand 34 = .ok (.iload_n 1, 1) := by decide +kernel
theorem dX8_operand_35 : decode cX8_operand 35 = .ok (.bipush 33, 2) := by decide +kernel
theorem dX8_operand_37 : decode cX8_operand 37 = .ok (.if_icmp .eq 9, 3) := by decide +kernel
theorem dX8_operand_40 : decode cX8_operand 40 = .ok (.iload_n 1, 1) := by decide +kernel
theorem dX8_operand_41 : decode cX8_operand 41 = .ok (.bipush 45, 2) := by decide +kernel
theorem dX8_operand_43 : decode cX8_operand 43 = .ok (.if_icmp .ne 44, 3) := by decide +kernel
theorem dX8_operand_46 : decode cX8_operand 46 = .ok (.aload_n 0, 1) := by decide +kernel
theorem dX8_operand_47 : decode cX8_operand 47 = .ok (.invokevirtual 208, 3) := by decide +kernel
theorem dX8_operand_50 : decode cX8_operand 50 = .ok (.ifCond .ne 4, 3) := by decide +kernel
theorem dX8_operand_53 : decode cX8_operand 53 = .ok (.return_, 1) := by decide +kernel
theorem dX8_operand_54 : decode cX8_operand 54 = .ok (.aload_n 0, 1) := by decide +kernel
theorem dX8_operand_55 : decode cX8_operand 55 = .ok (.invokevirtual 212, 3) := by decide +kernel
theorem dX8_operand_58 : decode cX8_operand 58 = .ok (.aload_n 0, 1) := by decide +kernel
theorem dX8_operand_59 : decode cX8_operand 59 = .ok (.dup, 1) := by decide +kernel
theorem dX8_operand_60 : decode cX8_operand 60 = .ok (.getfield 191, 3) := by decide +kernel
theorem dX8_operand_63 : decode cX8_operand 63 = .ok (.iconst 1, 1) := by decide +kernel
theorem dX8_operand_64 : decode cX8_operand 64 = .ok (.isub, 1) := by decide +kernel
theorem dX8_operand_65 : decode cX8_operand 65 = .ok (.putfield 191, 3) := by decide +kernel
theorem dX8_operand_68 : decode cX8_operand 68 = .ok (.aload_n 0, 1) := by decide +kernel
theorem dX8_operand_69 : decode cX8_operand 69 = .ok (.iload_n 1, 1) := by decide +kernel
theorem dX8_operand_70 : decode cX8_operand 70 = .ok (.bipush 33, 2) := by decide +kernel
theorem dX8_operand_72 : decode cX8_operand 72 = .ok (.if_icmp .ne 7, 3) := by decide +kernel
theorem dX8_operand_75 : decode cX8_operand 75 = .ok (.iconst 3, 1) := by decide +kernel
theorem dX8_operand_76 : decode cX8_operand 76 = .ok (.goto 4, 3) := by decide +kernel
theorem dX8_operand_79 : decode cX8_operand 79 = .ok (.iconst 4, 1) := by decide +kernel
theorem dX8_operand_80 : decode cX8_operand 80 = .ok (.iconst 0, 1) := by decide +kernel
theorem dX8_operand_81 : decode cX8_operand 81 = .ok (.invokevirtual 201, 3) := by decide +kernel
theorem dX8_operand_84 : decode cX8_operand 84 = .ok (.goto 70, 3) := by decide +kernel
theorem dX8_operand_87 : decode cX8_operand 87 = .ok (.iload_n 1, 1) := by decide +kernel
theorem dX8_operand_88 : decode cX8_operand 88 = .ok (.bipush 40, 2) := by decide +kernel
theorem dX8_operand_90 : decode cX8_operand 90 = .ok (.if_icmp .ne 60, 3) := by decide +kernel
theorem dX8_operand_93 : decode cX8_operand 93 = .ok (.aload_n 0, 1) := by decide +kernel
theorem dX8_operand_94 : decode cX8_operand 94 = .ok (.invokevirtual 208, 3) := by decide +kernel
theorem dX8_operand_97 : decode cX8_operand 97 = .ok (.ifCond .ne 4, 3) := by decide +kernel
theorem dX8_operand_100 : decode cX8_operand 100 = .ok (.return_, 1) := by decide +kernel
theorem dX8_operand_101 : decode cX8_operand 101 = .ok (.aload_n 0, 1) := by decide +kernel
theorem dX8_operand_102 : decode cX8_operand 102 = .ok (.invokevirtual 215, 3) := by decide +kernel
theorem dX8_operand_105 : decode cX8_operand 105 = .ok (.aload_n 0, 1) := by decide +kernel
theorem dX8_operand_106 : decode cX8_operand 106 = .ok (.getfield 185, 3) := by decide +kernel
theorem dX8_operand_109 : decode cX8_operand 109 = .ok (.ifCond .lt 4, 3) := by decide +kernel
theorem dX8_operand_112 : decode cX8_operand 112 = .ok (.return_, 1) := by decide +kernel
theorem dX8_operand_113 : decode cX8_operand 113 = .ok (.aload_n 0, 1) := by decide +kernel
theorem dX8_operand_114 : decode cX8_operand 114 = .ok (.invokevirtual 197, 3) := by decide +kernel
theorem dX8_operand_117 : decode cX8_operand 117 = .ok (.bipush 41, 2) := by decide +kernel
theorem dX8_operand_119 : decode cX8_operand 119 = .ok (.if_icmp .eq 8, 3) := by decide +kernel
theorem dX8_operand_122 : decode cX8_operand 122 = .ok (.aload_n 0, 1) := by decide +kernel
theorem dX8_operand_123 : decode cX8_operand 123 = .ok (.invokevirtual 194, 3) := by decide +kernel
theorem dX8_operand_126 : decode cX8_operand 126 = .ok (.return_, 1) := by decide +kernel
theorem dX8_operand_127 : decode cX8_operand 127 = .ok (.aload_n 0, 1) := by decide +kernel
theorem dX8_operand_128 : decode cX8_operand 128 = .ok (.dup, 1) := by decide +kernel
theorem dX8_operand_129 : decode cX8_operand 129 = .ok (.getfield 182, 3) := by decide +kernel
theorem dX8_operand_132 : decode cX8_operand 132 = .ok (.iconst 1, 1) := by decide +kernel
theorem dX8_operand_133 : decode cX8_operand 133 = .ok (.iadd, 1) := by decide +kernel
theorem dX8_operand_134 : decode cX8_operand 134 = .ok (.putfield 182, 3) := by decide +kernel
theorem dX8_operand_137 : decode cX8_operand 137 = .ok (.aload_n 0, 1) := by decide +kernel
theorem dX8_operand_138 : decode cX8_operand 138 = .ok (.dup, 1) := by decide +kernel
theorem dX8_operand_139 : decode cX8_operand 139 = .ok (.getfield 191, 3) := by decide +kernel
theorem dX8_operand_142 : decode cX8_operand 142 = .ok (.iconst 1, 1) := by decide +kernel
theorem dX8_operand_143 : decode cX8_operand 143 = .ok (.isub, 1) := by decide +kernel
theorem dX8_operand_144 : decode cX8_operand 144 = .ok (.putfield 191, 3) := by decide +kernel
theorem dX8_operand_147 : decode cX8_operand 147 = .ok (.goto 7, 3) := by decide +kernel
theorem dX8_operand_150 : decode cX8_operand 150 = .ok (.aload_n 0, 1) := by decide +kernel
theorem dX8_operand_151 : decode cX8_operand 151 = .ok (.invokevirtual 218, 3) := by decide +kernel
theorem dX8_operand_154 : decode cX8_operand 154 = .ok (.return_, 1) := by decide +kernel
theorem dX8_product_0 : decode cX8_product 0 = .ok (.aload_n 0, 1) := by decide +kernel
theorem dX8_product_1 : decode cX8_product 1 = .ok (.invokevirtual 212, 3) := by decide +kernel
theorem dX8_product_4 : decode cX8_product 4 = .ok (.aload_n 0, 1) := by decide +kernel
theorem dX8_product_5 : decode cX8_product 5 = .ok (.getfield 185, 3) := by decide +kernel
theorem dX8_product_8 : decode cX8_product 8 = .ok (.ifCond .ge 58, 3) := by decide +kernel
theorem dX8_product_11 : decode cX8_product 11 = .ok (.aload_n 0, 1) := by decide +kernel
theorem dX8_product_12 : decode cX8_product 12 = .ok (.invokevirtual 197, 3) := by decide +kernel
theorem dX8_product_15 : decode cX8_product 15 = .ok (.bipush 42, 2) := by decide +kernel
theorem dX8_product_17 : decode cX8_product 17 = .ok (.if_icmp .eq 21, 3) := by decide +kernel
theorem dX8_product_20 : decode cX8_product 20 = .ok (.aload_n 0, 1) := by decide +kernel
theorem dX8_product_21 : decode cX8_product 21 = .ok (.invokevirtual 197, 3) := by decide +kernel
theorem dX8_product_24 : decode cX8_product 24 = .ok (.bipush 47, 2) := by decide +kernel
theorem dX8_product_26 : decode cX8_product 26 = .ok (.if_icmp .eq 12, 3) := by decide +kernel
theorem dX8_product_29 : decode cX8_product 29 = .ok (.aload_n 0, 1) := by decide +kernel
theorem dX8_product_30 : decode cX8_product 30 = .ok (.invokevirtual 197, 3) := by decide +kernel
theorem dX8_product_33 : decode cX8_product 33 = .ok (.bipush 37, 2) := by decide +kernel
theorem dX8_product_35 : decode cX8_product 35 = .ok (.if_icmp .ne 31, 3) := by decide +kernel
theorem dX8_product_38 : decode cX8_product 38 = .ok (.aload_n 0, 1) := by decide +kernel
theorem dX8_product_39 : decode cX8_product 39 = .ok (.invokevirtual 197, 3) := by decide +kernel
theorem dX8_product_42 : decode cX8_product 42 = .ok (.istore_n 1, 1) := by decide +kernel
theorem dX8_product_43 : decode cX8_product 43 = .ok (.aload_n 0, 1) := by decide +kernel
theorem dX8_product_44 : decode cX8_product 44 = .ok (.dup, 1) := by decide +kernel
theorem dX8_product_45 : decode cX8_product 45 = .ok (.getfield 182, 3) := by decide +kernel
theorem dX8_product_48 : decode cX8_product 48 = .ok (.iconst 1, 1) := by decide +kernel
theorem dX8_product_49 : decode cX8_product 49 = .ok (.iadd, 1) := by decide +kernel
theorem dX8_product_50 : decode cX8_product 50 = .ok (.putfield 182, 3) := by decide +kernel
theorem dX8_product_53 : decode cX8_product 53 = .ok (.aload_n 0, 1) := by decide +kernel
theorem dX8_product_54 : decode cX8_product 54 = .ok (.invokevirtual 212, 3) := by decide +kernel
theorem dX8_product_57 : decode cX8_product 57 = .ok (.aload_n 0, 1) := by decide +kernel
theorem dX8_product_58 : decode cX8_product 58 = .ok (.iload_n 1, 1) := by decide +kernel
theorem dX8_product_59 : decode cX8_product 59 = .ok (.iconst 0, 1) := by decide +kernel
theorem dX8_product_60 : decode cX8_product 60 = .ok (.invokevirtual 201, 3) := by decide +kernel
theorem dX8_product_63 : decode cX8_product 63 = .ok (.goto (-59), 3) := by decide +kernel
theorem dX8_product_66 : decode cX8_product 66 = .ok (.return_, 1) := by decide +kernel
theorem dX8_sum_0 : decode cX8_sum 0 = .ok (.aload_n 0, 1) := by decide +kernel
theorem dX8_sum_1 : decode cX8_sum 1 = .ok (.invokevirtual 221, 3) := by decide +kernel
theorem dX8_sum_4 : decode cX8_sum 4 = .ok (.aload_n 0, 1) := by decide +kernel
theorem dX8_sum_5 : decode cX8_sum 5 = .ok (.getfield 185, 3) := by decide +kernel
theorem dX8_sum_8 : decode cX8_sum 8 = .ok (.ifCond .ge 49, 3) := by decide +kernel
theorem dX8_sum_11 : decode cX8_sum 11 = .ok (.aload_n 0, 1) := by decide +kernel
theorem dX8_sum_12 : decode cX8_sum 12 = .ok (.invokevirtual 197, 3) := by decide +kernel
theorem dX8_sum_15 : decode cX8_sum 15 = .ok (.bipush 43, 2) := by decide +kernel
theorem dX8_sum_17 : decode cX8_sum 17 = .ok (.if_icmp .eq 12, 3) := by decide +kernel
theorem dX8_sum_20 : decode cX8_sum 20 = .ok (.aload_n 0, 1) := by decide +kernel
theorem dX8_sum_21 : decode cX8_sum 21 = .ok (.invokevirtual 197, 3) := by decide +kernel
theorem dX8_sum_24 : decode cX8_sum 24 = .ok (.bipush 45, 2) := by decide +kernel
theorem dX8_sum_26 : decode cX8_sum 26 = .ok (.if_icmp .ne 31, 3) := by decide +kernel
theorem dX8_sum_29 : decode cX8_sum 29 = .ok (.aload_n 0, 1) := by decide +kernel
theorem dX8_sum_30 : decode cX8_sum 30 = .ok (.invokevirtual 197, 3) := by decide +kernel
theorem dX8_sum_33 : decode cX8_sum 33 = .ok (.istore_n 1, 1) := by decide +kernel
theorem dX8_sum_34 : decode cX8_sum 34 = .ok (.aload_n 0, 1) := by decide +kernel
theorem dX8_sum_35 : decode cX8_sum 35 = .ok (.dup, 1) := by decide +kernel
theorem dX8_sum_36 : decode cX8_sum 36 = .ok (.getfield 182, 3) := by decide +kernel
theorem dX8_sum_39 : decode cX8_sum 39 = .ok (.iconst 1, 1) := by decide +kernel
theorem dX8_sum_40 : decode cX8_sum 40 = .ok (.iadd, 1) := by decide +kernel
theorem dX8_sum_41 : decode cX8_sum 41 = .ok (.putfield 182, 3) := by decide +kernel
theorem dX8_sum_44 : decode cX8_sum 44 = .ok (.aload_n 0, 1) := by decide +kernel
theorem dX8_sum_45 : decode cX8_sum 45 = .ok (.invokevirtual 221, 3) := by decide +kernel
theorem dX8_sum_48 : decode cX8_sum 48 = .ok (.aload_n 0, 1) := by decide +kernel
theorem dX8_sum_49 : decode cX8_sum 49 = .ok (.iload_n 1, 1) := by decide +kernel
theorem dX8_sum_50 : decode cX8_sum 50 = .ok (.iconst 0, 1) := by decide +kernel
theorem dX8_sum_51 : decode cX8_sum 51 = .ok (.invokevirtual 201, 3) := by decide +kernel
theorem dX8_sum_54 : decode cX8_sum 54 = .ok (.goto (-50), 3) := by decide +kernel
theorem dX8_sum_57 : decode cX8_sum 57 = .ok (.return_, 1) := by decide +kernel
theorem dX8_compared_0 : decode cX8_compared 0 = .ok (.aload_n 0, 1) := by decide +kernel
theorem dX8_compared_1 : decode cX8_compared 1 = .ok (.invokevirtual 224, 3) := by decide +kernel
theorem dX8_compared_4 : decode cX8_compared 4 = .ok (.aload_n 0, 1) := by decide +kernel
theorem dX8_compared_5 : decode cX8_compared 5 = .ok (.invokevirtual 197, 3) := by decide +kernel
theorem dX8_compared_8 : decode cX8_compared 8 = .ok (.istore_n 1, 1) := by decide +kernel
theorem dX8_compared_9 : decode cX8_compared 9 = .ok (.aload_n 0, 1) := by decide +kernel
theorem dX8_compared_10 : decode cX8_compared 10 = .ok (.getfield 185, 3) := by decide +kernel
theorem dX8_compared_13 : decode cX8_compared 13 = .ok (.ifCond .ge 21, 3) := by decide +kernel
theorem dX8_compared_16 : decode cX8_compared 16 = .ok (.iload_n 1, 1) := by decide +kernel
theorem dX8_compared_17 : decode cX8_compared 17 = .ok (.bipush 60, 2) := by decide +kernel
theorem dX8_compared_19 : decode cX8_compared 19 = .ok (.if_icmp .eq 16, 3) := by decide +kernel
theorem dX8_compared_22 : decode cX8_compared 22 = .ok (.iload_n 1, 1) := by decide +kernel
theorem dX8_compared_23 : decode cX8_compared 23 = .ok (.bipush 61, 2) := by decide +kernel
theorem dX8_compared_25 : decode cX8_compared 25 = .ok (.if_icmp .eq 10, 3) := by decide +kernel
theorem dX8_compared_28 : decode cX8_compared 28 = .ok (.iload_n 1, 1) := by decide +kernel
theorem dX8_compared_29 : decode cX8_compared 29 = .ok (.bipush 62, 2) := by decide +kernel
theorem dX8_compared_31 : decode cX8_compared 31 = .ok (.if_icmp .eq 4, 3) := by decide +kernel
theorem dX8_compared_34 : decode cX8_compared 34 = .ok (.return_, 1) := by decide +kernel
theorem dX8_compared_35 : decode cX8_compared 35 = .ok (.aload_n 0, 1) := by decide +kernel
theorem dX8_compared_36 : decode cX8_compared 36 = .ok (.dup, 1) := by decide +kernel
theorem dX8_compared_37 : decode cX8_compared 37 = .ok (.getfield 182, 3) := by decide +kernel
theorem dX8_compared_40 : decode cX8_compared 40 = .ok (.iconst 1, 1) := by decide +kernel
theorem dX8_compared_41 : decode cX8_compared 41 = .ok (.iadd, 1) := by decide +kernel
theorem dX8_compared_42 : decode cX8_compared 42 = .ok (.putfield 182, 3) := by decide +kernel
theorem dX8_compared_45 : decode cX8_compared 45 = .ok (.aload_n 0, 1) := by decide +kernel
theorem dX8_compared_46 : decode cX8_compared 46 = .ok (.invokevirtual 224, 3) := by decide +kernel
theorem dX8_compared_49 : decode cX8_compared 49 = .ok (.aload_n 0, 1) := by decide +kernel
theorem dX8_compared_50 : decode cX8_compared 50 = .ok (.iload_n 1, 1) := by decide +kernel
theorem dX8_compared_51 : decode cX8_compared 51 = .ok (.iconst 0, 1) := by decide +kernel
theorem dX8_compared_52 : decode cX8_compared 52 = .ok (.invokevirtual 201, 3) := by decide +kernel
theorem dX8_compared_55 : decode cX8_compared 55 = .ok (.return_, 1) := by decide +kernel
theorem dX8_both_0 : decode cX8_both 0 = .ok (.aload_n 0, 1) := by decide +kernel
theorem dX8_both_1 : decode cX8_both 1 = .ok (.invokevirtual 227, 3) := by decide +kernel
theorem dX8_both_4 : decode cX8_both 4 = .ok (.aload_n 0, 1) := by decide +kernel
theorem dX8_both_5 : decode cX8_both 5 = .ok (.getfield 185, 3) := by decide +kernel
theorem dX8_both_8 : decode cX8_both 8 = .ok (.ifCond .ge 36, 3) := by decide +kernel
theorem dX8_both_11 : decode cX8_both 11 = .ok (.aload_n 0, 1) := by decide +kernel
theorem dX8_both_12 : decode cX8_both 12 = .ok (.invokevirtual 197, 3) := by decide +kernel
theorem dX8_both_15 : decode cX8_both 15 = .ok (.bipush 38, 2) := by decide +kernel
theorem dX8_both_17 : decode cX8_both 17 = .ok (.if_icmp .ne 27, 3) := by decide +kernel
theorem dX8_both_20 : decode cX8_both 20 = .ok (.aload_n 0, 1) := by decide +kernel
theorem dX8_both_21 : decode cX8_both 21 = .ok (.dup, 1) := by decide +kernel
theorem dX8_both_22 : decode cX8_both 22 = .ok (.getfield 182, 3) := by decide +kernel
theorem dX8_both_25 : decode cX8_both 25 = .ok (.iconst 1, 1) := by decide +kernel
theorem dX8_both_26 : decode cX8_both 26 = .ok (.iadd, 1) := by decide +kernel
theorem dX8_both_27 : decode cX8_both 27 = .ok (.putfield 182, 3) := by decide +kernel
theorem dX8_both_30 : decode cX8_both 30 = .ok (.aload_n 0, 1) := by decide +kernel
theorem dX8_both_31 : decode cX8_both 31 = .ok (.invokevirtual 227, 3) := by decide +kernel
theorem dX8_both_34 : decode cX8_both 34 = .ok (.aload_n 0, 1) := by decide +kernel
theorem dX8_both_35 : decode cX8_both 35 = .ok (.bipush 38, 2) := by decide +kernel
theorem dX8_both_37 : decode cX8_both 37 = .ok (.iconst 0, 1) := by decide +kernel
theorem dX8_both_38 : decode cX8_both 38 = .ok (.invokevirtual 201, 3) := by decide +kernel
theorem dX8_both_41 : decode cX8_both 41 = .ok (.goto (-37), 3) := by decide +kernel
theorem dX8_both_44 : decode cX8_both 44 = .ok (.return_, 1) := by decide +kernel
theorem dX8_either_0 : decode cX8_either 0 = .ok (.aload_n 0, 1) := by decide +kernel
theorem dX8_either_1 : decode cX8_either 1 = .ok (.invokevirtual 230, 3) := by decide +kernel
theorem dX8_either_4 : decode cX8_either 4 = .ok (.aload_n 0, 1) := by decide +kernel
theorem dX8_either_5 : decode cX8_either 5 = .ok (.getfield 185, 3) := by decide +kernel
theorem dX8_either_8 : decode cX8_either 8 = .ok (.ifCond .ge 36, 3) := by decide +kernel
theorem dX8_either_11 : decode cX8_either 11 = .ok (.aload_n 0, 1) := by decide +kernel
theorem dX8_either_12 : decode cX8_either 12 = .ok (.invokevirtual 197, 3) := by decide +kernel
theorem dX8_either_15 : decode cX8_either 15 = .ok (.bipush 124, 2) := by decide +kernel
theorem dX8_either_17 : decode cX8_either 17 = .ok (.if_icmp .ne 27, 3) := by decide +kernel
theorem dX8_either_20 : decode cX8_either 20 = .ok (.aload_n 0, 1) := by decide +kernel
theorem dX8_either_21 : decode cX8_either 21 = .ok (.dup, 1) := by decide +kernel
theorem dX8_either_22 : decode cX8_either 22 = .ok (.getfield 182, 3) := by decide +kernel
theorem dX8_either_25 : decode cX8_either 25 = .ok (.iconst 1, 1) := by decide +kernel
theorem dX8_either_26 : decode cX8_either 26 = .ok (.iadd, 1) := by decide +kernel
theorem dX8_either_27 : decode cX8_either 27 = .ok (.putfield 182, 3) := by decide +kernel
theorem dX8_either_30 : decode cX8_either 30 = .ok (.aload_n 0, 1) := by decide +kernel
theorem dX8_either_31 : decode cX8_either 31 = .ok (.invokevirtual 230, 3) := by decide +kernel
theorem dX8_either_34 : decode cX8_either 34 = .ok (.aload_n 0, 1) := by decide +kernel
theorem dX8_either_35 : decode cX8_either 35 = .ok (.bipush 124, 2) := by decide +kernel
theorem dX8_either_37 : decode cX8_either 37 = .ok (.iconst 0, 1) := by decide +kernel
theorem dX8_either_38 : decode cX8_either 38 = .ok (.invokevirtual 201, 3) := by decide +kernel
theorem dX8_either_41 : decode cX8_either 41 = .ok (.goto (-37), 3) := by decide +kernel
theorem dX8_either_44 : decode cX8_either 44 = .ok (.return_, 1) := by decide +kernel
theorem dX8_line_0 : decode cX8_line 0 = .ok (.bipush 61, 2) := by decide +kernel
theorem dX8_line_2 : decode cX8_line 2 = .ok (.aload_n 0, 1) := by decide +kernel
theorem dX8_line_3 : decode cX8_line 3 = .ok (.getfield 48, 3) := by decide +kernel
theorem dX8_line_6 : decode cX8_line 6 = .ok (.iconst 1, 1) := by decide +kernel
theorem dX8_line_7 : decode cX8_line 7 = .ok (.iaload, 1) := by decide +kernel
theorem dX8_line_8 : decode cX8_line 8 = .ok (.iadd, 1) := by decide +kernel
theorem dX8_line_9 : decode cX8_line 9 = .ok (.istore_n 1, 1) := by decide +kernel
theorem dX8_line_10 : decode cX8_line 10 = .ok (.aload_n 0, 1) := by decide +kernel
theorem dX8_line_11 : decode cX8_line 11 = .ok (.getfield 51, 3) := by decide +kernel
theorem dX8_line_14 : decode cX8_line 14 = .ok (.iload_n 1, 1) := by decide +kernel
theorem dX8_line_15 : decode cX8_line 15 = .ok (.aload_n 0, 1) := by decide +kernel
theorem dX8_line_16 : decode cX8_line 16 = .ok (.getfield 188, 3) := by decide +kernel
theorem dX8_line_19 : decode cX8_line 19 = .ok (.i2s, 1) := by decide +kernel
theorem dX8_line_20 : decode cX8_line 20 = .ok (.sastore, 1) := by decide +kernel
theorem dX8_line_21 : decode cX8_line 21 = .ok (.aload_n 0, 1) := by decide +kernel
theorem dX8_line_22 : decode cX8_line 22 = .ok (.invokevirtual 215, 3) := by decide +kernel
theorem dX8_line_25 : decode cX8_line 25 = .ok (.aload_n 0, 1) := by decide +kernel
theorem dX8_line_26 : decode cX8_line 26 = .ok (.getfield 185, 3) := by decide +kernel
theorem dX8_line_29 : decode cX8_line 29 = .ok (.ifCond .ge 37, 3) := by decide +kernel
theorem dX8_line_32 : decode cX8_line 32 = .ok (.aload_n 0, 1) := by decide +kernel
theorem dX8_line_33 : decode cX8_line 33 = .ok (.invokevirtual 197, 3) := by decide +kernel
theorem dX8_line_36 : decode cX8_line 36 = .ok (.bipush 63, 2) := by decide +kernel
theorem dX8_line_38 : decode cX8_line 38 = .ok (.if_icmp .ne 28, 3) := by decide +kernel
theorem dX8_line_41 : decode cX8_line 41 = .ok (.aload_n 0, 1) := by decide +kernel
theorem dX8_line_42 : decode cX8_line 42 = .ok (.dup, 1) := by decide +kernel
theorem dX8_line_43 : decode cX8_line 43 = .ok (.getfield 182, 3) := by decide +kernel
theorem dX8_line_46 : decode cX8_line 46 = .ok (.iconst 1, 1) := by decide +kernel
theorem dX8_line_47 : decode cX8_line 47 = .ok (.iadd, 1) := by decide +kernel
theorem dX8_line_48 : decode cX8_line 48 = .ok (.putfield 182, 3) := by decide +kernel
theorem dX8_line_51 : decode cX8_line 51 = .ok (.aload_n 0, 1) := by decide +kernel
theorem dX8_line_52 : decode cX8_line 52 = .ok (.getfield 51, 3) := by decide +kernel
theorem dX8_line_55 : decode cX8_line 55 = .ok (.iload_n 1, 1) := by decide +kernel
theorem dX8_line_56 : decode cX8_line 56 = .ok (.aload_n 0, 1) := by decide +kernel
theorem dX8_line_57 : decode cX8_line 57 = .ok (.getfield 188, 3) := by decide +kernel
theorem dX8_line_60 : decode cX8_line 60 = .ok (.i2s, 1) := by decide +kernel
theorem dX8_line_61 : decode cX8_line 61 = .ok (.sastore, 1) := by decide +kernel
theorem dX8_line_62 : decode cX8_line 62 = .ok (.aload_n 0, 1) := by decide +kernel
theorem dX8_line_63 : decode cX8_line 63 = .ok (.invokevirtual 215, 3) := by decide +kernel
theorem dX8_line_66 : decode cX8_line 66 = .ok (.aload_n 0, 1) := by decide +kernel
theorem dX8_line_67 : decode cX8_line 67 = .ok (.getfield 55, 3) := by decide +kernel
theorem dX8_line_70 : decode cX8_line 70 = .ok (.iload_n 1, 1) := by decide +kernel
theorem dX8_line_71 : decode cX8_line 71 = .ok (.aload_n 0, 1) := by decide +kernel
theorem dX8_line_72 : decode cX8_line 72 = .ok (.getfield 188, 3) := by decide +kernel
theorem dX8_line_75 : decode cX8_line 75 = .ok (.i2s, 1) := by decide +kernel
theorem dX8_line_76 : decode cX8_line 76 = .ok (.sastore, 1) := by decide +kernel
theorem dX8_line_77 : decode cX8_line 77 = .ok (.aload_n 0, 1) := by decide +kernel
theorem dX8_line_78 : decode cX8_line 78 = .ok (.getfield 48, 3) := by decide +kernel
theorem dX8_line_81 : decode cX8_line 81 = .ok (.iconst 1, 1) := by decide +kernel
theorem dX8_line_82 : decode cX8_line 82 = .ok (.dup2, 1) := by decide +kernel
theorem dX8_line_83 : decode cX8_line 83 = .ok (.iaload, 1) := by decide +kernel
theorem dX8_line_84 : decode cX8_line 84 = .ok (.iconst 1, 1) := by decide +kernel
theorem dX8_line_85 : decode cX8_line 85 = .ok (.iadd, 1) := by decide +kernel
theorem dX8_line_86 : decode cX8_line 86 = .ok (.iastore, 1) := by decide +kernel
theorem dX8_line_87 : decode cX8_line 87 = .ok (.return_, 1) := by decide +kernel
theorem dX8_readText_0 : decode cX8_readText 0 = .ok (.aload_n 0, 1) := by decide +kernel
theorem dX8_readText_1 : decode cX8_readText 1 = .ok (.iconst 0, 1) := by decide +kernel
theorem dX8_readText_2 : decode cX8_readText 2 = .ok (.putfield 182, 3) := by decide +kernel
theorem dX8_readText_5 : decode cX8_readText 5 = .ok (.aload_n 0, 1) := by decide +kernel
theorem dX8_readText_6 : decode cX8_readText 6 = .ok (.iconst (-1), 1) := by decide +kernel
theorem dX8_readText_7 : decode cX8_readText 7 = .ok (.putfield 185, 3) := by decide +kernel
theorem dX8_readText_10 : decode cX8_readText 10 = .ok (.aload_n 0, 1) := by decide +kernel
theorem dX8_readText_11 : decode cX8_readText 11 = .ok (.iconst 0, 1) := by decide +kernel
theorem dX8_readText_12 : decode cX8_readText 12 = .ok (.putfield 191, 3) := by decide +kernel
theorem dX8_readText_15 : decode cX8_readText 15 = .ok (.aload_n 0, 1) := by decide +kernel
theorem dX8_readText_16 : decode cX8_readText 16 = .ok (.iconst 0, 1) := by decide +kernel
theorem dX8_readText_17 : decode cX8_readText 17 = .ok (.putfield 188, 3) := by decide +kernel
theorem dX8_readText_20 : decode cX8_readText 20 = .ok (.aload_n 0, 1) := by decide +kernel
theorem dX8_readText_21 : decode cX8_readText 21 = .ok (.getfield 48, 3) := by decide +kernel
theorem dX8_readText_24 : decode cX8_readText 24 = .ok (.iconst 1, 1) := by decide +kernel
theorem dX8_readText_25 : decode cX8_readText 25 = .ok (.iconst 0, 1) := by decide +kernel
theorem dX8_readText_26 : decode cX8_readText 26 = .ok (.iastore, 1) := by decide +kernel
theorem dX8_readText_27 : decode cX8_readText 27 = .ok (.aload_n 0, 1) := by decide +kernel
theorem dX8_readText_28 : decode cX8_readText 28 = .ok (.invokevirtual 233, 3) := by decide +kernel
theorem dX8_readText_31 : decode cX8_readText 31 = .ok (.aload_n 0, 1) := by decide +kernel
theorem dX8_readText_32 : decode cX8_readText 32 = .ok (.getfield 185, 3) := by decide +kernel
theorem dX8_readText_35 : decode cX8_readText 35 = .ok (.ifCond .ge 29, 3) := by decide +kernel
theorem dX8_readText_38 : decode cX8_readText 38 = .ok (.aload_n 0, 1) := by decide +kernel
theorem dX8_readText_39 : decode cX8_readText 39 = .ok (.invokevirtual 197, 3) := by decide +kernel
theorem dX8_readText_42 : decode cX8_readText 42 = .ok (.bipush 59, 2) := by decide +kernel
theorem dX8_readText_44 : decode cX8_readText 44 = .ok (.if_icmp .ne 20, 3) := by decide +kernel
theorem dX8_readText_47 : decode cX8_readText 47 = .ok (.aload_n 0, 1) := by decide +kernel
theorem dX8_readText_48 : decode cX8_readText 48 = .ok (.dup, 1) := by decide +kernel
theorem dX8_readText_49 : decode cX8_readText 49 = .ok (.getfield 182, 3) := by decide +kernel
theorem dX8_readText_52 : decode cX8_readText 52 = .ok (.iconst 1, 1) := by decide +kernel
theorem dX8_readText_53 : decode cX8_readText 53 = .ok (.iadd, 1) := by decide +kernel
theorem dX8_readText_54 : decode cX8_readText 54 = .ok (.putfield 182, 3) := by decide +kernel
theorem dX8_readText_57 : decode cX8_readText 57 = .ok (.aload_n 0, 1) := by decide +kernel
theorem dX8_readText_58 : decode cX8_readText 58 = .ok (.invokevirtual 233, 3) := by decide +kernel
theorem dX8_readText_61 : decode cX8_readText 61 = .ok (.goto (-30), 3) := by decide +kernel
theorem dX8_readText_64 : decode cX8_readText 64 = .ok (.aload_n 0, 1) := by decide +kernel
theorem dX8_readText_65 : decode cX8_readText 65 = .ok (.getfield 185, 3) := by decide +kernel
theorem dX8_readText_68 : decode cX8_readText 68 = .ok (.ifCond .ge 18, 3) := by decide +kernel
theorem dX8_readText_71 : decode cX8_readText 71 = .ok (.aload_n 0, 1) := by decide +kernel
theorem dX8_readText_72 : decode cX8_readText 72 = .ok (.getfield 182, 3) := by decide +kernel
theorem dX8_readText_75 : decode cX8_readText 75 = .ok (.aload_n 0, 1) := by decide +kernel
theorem dX8_readText_76 : decode cX8_readText 76 = .ok (.getfield 179, 3) := by decide +kernel
theorem dX8_readText_79 : decode cX8_readText 79 = .ok (.if_icmp .ge 7, 3) := by decide +kernel
theorem dX8_readText_82 : decode cX8_readText 82 = .ok (.aload_n 0, 1) := by decide +kernel
theorem dX8_readText_83 : decode cX8_readText 83 = .ok (.invokevirtual 194, 3) := by decide +kernel
theorem dX8_readText_86 : decode cX8_readText 86 = .ok (.aload_n 0, 1) := by decide +kernel
theorem dX8_readText_87 : decode cX8_readText 87 = .ok (.iconst 0, 1) := by decide +kernel
theorem dX8_readText_88 : decode cX8_readText 88 = .ok (.putfield 179, 3) := by decide +kernel
theorem dX8_readText_91 : decode cX8_readText 91 = .ok (.aload_n 0, 1) := by decide +kernel
theorem dX8_readText_92 : decode cX8_readText 92 = .ok (.getfield 185, 3) := by decide +kernel
theorem dX8_readText_95 : decode cX8_readText 95 = .ok (.ifCond .lt 8, 3) := by decide +kernel
theorem dX8_readText_98 : decode cX8_readText 98 = .ok (.aload_n 0, 1) := by decide +kernel
theorem dX8_readText_99 : decode cX8_readText 99 = .ok (.getfield 185, 3) := by decide +kernel
theorem dX8_readText_102 : decode cX8_readText 102 = .ok (.ireturn, 1) := by decide +kernel
theorem dX8_readText_103 : decode cX8_readText 103 = .ok (.iconst 0, 1) := by decide +kernel
theorem dX8_readText_104 : decode cX8_readText 104 = .ok (.istore_n 2, 1) := by decide +kernel
theorem dX8_readText_105 : decode cX8_readText 105 = .ok (.iload_n 2, 1) := by decide +kernel
theorem dX8_readText_106 : decode cX8_readText 106 = .ok (.aload_n 0, 1) := by decide +kernel
theorem dX8_readText_107 : decode cX8_readText 107 = .ok (.getfield 188, 3) := by decide +kernel
theorem dX8_readText_110 : decode cX8_readText 110 = .ok (.if_icmp .ge 53, 3) := by decide +kernel
theorem dX8_readText_113 : decode cX8_readText 113 = .ok (.aload_n 0, 1) := by decide +kernel
theorem dX8_readText_114 : decode cX8_readText 114 = .ok (.getfield 42, 3) := by decide +kernel
theorem dX8_readText_117 : decode cX8_readText 117 = .ok (.sipush 130, 3) := by decide +kernel
theorem dX8_readText_120 : decode cX8_readText 120 = .ok (.iload_n 1, 1) := by decide +kernel
theorem dX8_readText_121 : decode cX8_readText 121 = .ok (.imul, 1) := by decide +kernel
theorem dX8_readText_122 : decode cX8_readText 122 = .ok (.iload_n 2, 1) := by decide +kernel
theorem dX8_readText_123 : decode cX8_readText 123 = .ok (.iadd, 1) := by decide +kernel
theorem dX8_readText_124 : decode cX8_readText 124 = .ok (.aload_n 0, 1) := by decide +kernel
theorem dX8_readText_125 : decode cX8_readText 125 = .ok (.getfield 42, 3) := by decide +kernel
theorem dX8_readText_128 : decode cX8_readText 128 = .ok (.sipush 130, 3) := by decide +kernel
theorem dX8_readText_131 : decode cX8_readText 131 = .ok (.iload_n 2, 1) := by decide +kernel
theorem dX8_readText_132 : decode cX8_readText 132 = .ok (.iadd, 1) := by decide +kernel
theorem dX8_readText_133 : decode cX8_readText 133 = .ok (.baload, 1) := by decide +kernel
theorem dX8_readText_134 : decode cX8_readText 134 = .ok (.bastore, 1) := by decide +kernel
theorem dX8_readText_135 : decode cX8_readText 135 = .ok (.aload_n 0, 1) := by decide +kernel
theorem dX8_readText_136 : decode cX8_readText 136 = .ok (.getfield 45, 3) := by decide +kernel
theorem dX8_readText_139 : decode cX8_readText 139 = .ok (.sipush 130, 3) := by decide +kernel
theorem dX8_readText_142 : decode cX8_readText 142 = .ok (.iload_n 1, 1) := by decide +kernel
theorem dX8_readText_143 : decode cX8_readText 143 = .ok (.imul, 1) := by decide +kernel
theorem dX8_readText_144 : decode cX8_readText 144 = .ok (.iload_n 2, 1) := by decide +kernel
theorem dX8_readText_145 : decode cX8_readText 145 = .ok (.iadd, 1) := by decide +kernel
theorem dX8_readText_146 : decode cX8_readText 146 = .ok (.aload_n 0, 1) := by decide +kernel
theorem dX8_readText_147 : decode cX8_readText 147 = .ok (.getfield 45, 3) := by decide +kernel
theorem dX8_readText_150 : decode cX8_readText 150 = .ok (.sipush 130, 3) := by decide +kernel
theorem dX8_readText_153 : decode cX8_readText 153 = .ok (.iload_n 2, 1) := by decide +kernel
theorem dX8_readText_154 : decode cX8_readText 154 = .ok (.iadd, 1) := by decide +kernel
theorem dX8_readText_155 : decode cX8_readText 155 = .ok (.iaload, 1) := by decide +kernel
theorem dX8_readText_156 : decode cX8_readText 156 = .ok (.iastore, 1) := by decide +kernel
theorem dX8_readText_157 : decode cX8_readText 157 = .ok (.iinc 2 1, 3) := by decide +kernel
theorem dX8_readText_160 : decode cX8_readText 160 = .ok (.goto (-55), 3) := by decide +kernel
theorem dX8_readText_163 : decode cX8_readText 163 = .ok (.aload_n 0, 1) := by decide +kernel
theorem dX8_readText_164 : decode cX8_readText 164 = .ok (.getfield 48, 3) := by decide +kernel
theorem dX8_readText_167 : decode cX8_readText 167 = .ok (.iload_n 1, 1) := by decide +kernel
theorem dX8_readText_168 : decode cX8_readText 168 = .ok (.aload_n 0, 1) := by decide +kernel
theorem dX8_readText_169 : decode cX8_readText 169 = .ok (.getfield 48, 3) := by decide +kernel
theorem dX8_readText_172 : decode cX8_readText 172 = .ok (.iconst 1, 1) := by decide +kernel
theorem dX8_readText_173 : decode cX8_readText 173 = .ok (.iaload, 1) := by decide +kernel
theorem dX8_readText_174 : decode cX8_readText 174 = .ok (.iastore, 1) := by decide +kernel
theorem dX8_readText_175 : decode cX8_readText 175 = .ok (.iconst 0, 1) := by decide +kernel
theorem dX8_readText_176 : decode cX8_readText 176 = .ok (.istore_n 2, 1) := by decide +kernel
theorem dX8_readText_177 : decode cX8_readText 177 = .ok (.iload_n 2, 1) := by decide +kernel
theorem dX8_readText_178 : decode cX8_readText 178 = .ok (.aload_n 0, 1) := by decide +kernel
theorem dX8_readText_179 : decode cX8_readText 179 = .ok (.getfield 48, 3) := by decide +kernel
theorem dX8_readText_182 : decode cX8_readText 182 = .ok (.iload_n 1, 1) := by decide +kernel
theorem dX8_readText_183 : decode cX8_readText 183 = .ok (.iaload, 1) := by decide +kernel
theorem dX8_readText_184 : decode cX8_readText 184 = .ok (.if_icmp .ge 49, 3) := by decide +kernel
theorem dX8_readText_187 : decode cX8_readText 187 = .ok (.aload_n 0, 1) := by decide +kernel
theorem dX8_readText_188 : decode cX8_readText 188 = .ok (.getfield 51, 3) := by decide +kernel
theorem dX8_readText_191 : decode cX8_readText 191 = .ok (.bipush 61, 2) := by decide +kernel
theorem dX8_readText_193 : decode cX8_readText 193 = .ok (.iload_n 1, 1) := by decide +kernel
theorem dX8_readText_194 : decode cX8_readText 194 = .ok (.imul, 1) := by decide +kernel
theorem dX8_readText_195 : decode cX8_readText 195 = .ok (.iload_n 2, 1) := by decide +kernel
theorem dX8_readText_196 : decode cX8_readText 196 = .ok (.iadd, 1) := by decide +kernel
theorem dX8_readText_197 : decode cX8_readText 197 = .ok (.aload_n 0, 1) := by decide +kernel
theorem dX8_readText_198 : decode cX8_readText 198 = .ok (.getfield 51, 3) := by decide +kernel
theorem dX8_readText_201 : decode cX8_readText 201 = .ok (.bipush 61, 2) := by decide +kernel
theorem dX8_readText_203 : decode cX8_readText 203 = .ok (.iload_n 2, 1) := by decide +kernel
theorem dX8_readText_204 : decode cX8_readText 204 = .ok (.iadd, 1) := by decide +kernel
theorem dX8_readText_205 : decode cX8_readText 205 = .ok (.saload, 1) := by decide +kernel
theorem dX8_readText_206 : decode cX8_readText 206 = .ok (.sastore, 1) := by decide +kernel
theorem dX8_readText_207 : decode cX8_readText 207 = .ok (.aload_n 0, 1) := by decide +kernel
theorem dX8_readText_208 : decode cX8_readText 208 = .ok (.getfield 55, 3) := by decide +kernel
theorem dX8_readText_211 : decode cX8_readText 211 = .ok (.bipush 61, 2) := by decide +kernel
theorem dX8_readText_213 : decode cX8_readText 213 = .ok (.iload_n 1, 1) := by decide +kernel
theorem dX8_readText_214 : decode cX8_readText 214 = .ok (.imul, 1) := by decide +kernel
theorem dX8_readText_215 : decode cX8_readText 215 = .ok (.iload_n 2, 1) := by decide +kernel
theorem dX8_readText_216 : decode cX8_readText 216 = .ok (.iadd, 1) := by decide +kernel
theorem dX8_readText_217 : decode cX8_readText 217 = .ok (.aload_n 0, 1) := by decide +kernel
theorem dX8_readText_218 : decode cX8_readText 218 = .ok (.getfield 55, 3) := by decide +kernel
theorem dX8_readText_221 : decode cX8_readText 221 = .ok (.bipush 61, 2) := by decide +kernel
theorem dX8_readText_223 : decode cX8_readText 223 = .ok (.iload_n 2, 1) := by decide +kernel
theorem dX8_readText_224 : decode cX8_readText 224 = .ok (.iadd, 1) := by decide +kernel
theorem dX8_readText_225 : decode cX8_readText 225 = .ok (.saload, 1) := by decide +kernel
theorem dX8_readText_226 : decode cX8_readText 226 = .ok (.sastore, 1) := by decide +kernel
theorem dX8_readText_227 : decode cX8_readText 227 = .ok (.iinc 2 1, 3) := by decide +kernel
theorem dX8_readText_230 : decode cX8_readText 230 = .ok (.goto (-53), 3) := by decide +kernel
theorem dX8_readText_233 : decode cX8_readText 233 = .ok (.iconst (-1), 1) := by decide +kernel
theorem dX8_readText_234 : decode cX8_readText 234 = .ok (.ireturn, 1) := by decide +kernel
theorem dX8_twoOf_0 : decode cX8_twoOf 0 = .ok (.iload_n 0, 1) := by decide +kernel
theorem dX8_twoOf_1 : decode cX8_twoOf 1 = .ok (.tableswitch 217 37 62 #[153, 203, 217, 217, 217, 127, 119, 217, 123, 217, 131, 217, 217, 217, 217, 217, 217, 217, 217, 217, 217, 217, 217, 170, 181, 192], 119) := by decide +kernel
theorem dX8_twoOf_120 : decode cX8_twoOf 120 = .ok (.iload_n 1, 1) := by decide +kernel
theorem dX8_twoOf_121 : decode cX8_twoOf 121 = .ok (.iload_n 2, 1) := by decide +kernel
theorem dX8_twoOf_122 : decode cX8_twoOf 122 = .ok (.iadd, 1) := by decide +kernel
theorem dX8_twoOf_123 : decode cX8_twoOf 123 = .ok (.ireturn, 1) := by decide +kernel
theorem dX8_twoOf_124 : decode cX8_twoOf 124 = .ok (.iload_n 1, 1) := by decide +kernel
theorem dX8_twoOf_125 : decode cX8_twoOf 125 = .ok (.iload_n 2, 1) := by decide +kernel
theorem dX8_twoOf_126 : decode cX8_twoOf 126 = .ok (.isub, 1) := by decide +kernel
theorem dX8_twoOf_127 : decode cX8_twoOf 127 = .ok (.ireturn, 1) := by decide +kernel
theorem dX8_twoOf_128 : decode cX8_twoOf 128 = .ok (.iload_n 1, 1) := by decide +kernel
theorem dX8_twoOf_129 : decode cX8_twoOf 129 = .ok (.iload_n 2, 1) := by decide +kernel
theorem dX8_twoOf_130 : decode cX8_twoOf 130 = .ok (.imul, 1) := by decide +kernel
theorem dX8_twoOf_131 : decode cX8_twoOf 131 = .ok (.ireturn, 1) := by decide +kernel
theorem dX8_twoOf_132 : decode cX8_twoOf 132 = .ok (.iload_n 2, 1) := by decide +kernel
theorem dX8_twoOf_133 : decode cX8_twoOf 133 = .ok (.ifCond .ne 7, 3) := by decide +kernel
theorem dX8_twoOf_136 : decode cX8_twoOf 136 = .ok (.iconst 0, 1) := by decide +kernel
theorem dX8_twoOf_137 : decode cX8_twoOf 137 = .ok (.goto 16, 3) := by decide +kernel
theorem dX8_twoOf_140 : decode cX8_twoOf 140 = .ok (.iload_n 2, 1) := by decide +kernel
theorem dX8_twoOf_141 : decode cX8_twoOf 141 = .ok (.iconst (-1), 1) := by decide +kernel
theorem dX8_twoOf_142 : decode cX8_twoOf 142 = .ok (.if_icmp .ne 8, 3) := by decide +kernel
theorem dX8_twoOf_145 : decode cX8_twoOf 145 = .ok (.iload_n 1, 1) := by decide +kernel
theorem dX8_twoOf_146 : decode cX8_twoOf 146 = .ok (.ineg, 1) := by decide +kernel
theorem dX8_twoOf_147 : decode cX8_twoOf 147 = .ok (.goto 6, 3) := by decide +kernel
theorem dX8_twoOf_150 : decode cX8_twoOf 150 = .ok (.iload_n 1, 1) := by decide +kernel
theorem dX8_twoOf_151 : decode cX8_twoOf 151 = .ok (.iload_n 2, 1) := by decide +kernel
theorem dX8_twoOf_152 : decode cX8_twoOf 152 = .ok (.idiv, 1) := by decide +kernel
theorem dX8_twoOf_153 : decode cX8_twoOf 153 = .ok (.ireturn, 1) := by decide +kernel
theorem dX8_twoOf_154 : decode cX8_twoOf 154 = .ok (.iload_n 2, 1) := by decide +kernel
theorem dX8_twoOf_155 : decode cX8_twoOf 155 = .ok (.ifCond .eq 8, 3) := by decide +kernel
theorem dX8_twoOf_158 : decode cX8_twoOf 158 = .ok (.iload_n 2, 1) := by decide +kernel
theorem dX8_twoOf_159 : decode cX8_twoOf 159 = .ok (.iconst (-1), 1) := by decide +kernel
theorem dX8_twoOf_160 : decode cX8_twoOf 160 = .ok (.if_icmp .ne 7, 3) := by decide +kernel
theorem dX8_twoOf_163 : decode cX8_twoOf 163 = .ok (.iconst 0, 1) := by decide +kernel
theorem dX8_twoOf_164 : decode cX8_twoOf 164 = .ok (.goto 6, 3) := by decide +kernel
theorem dX8_twoOf_167 : decode cX8_twoOf 167 = .ok (.iload_n 1, 1) := by decide +kernel
theorem dX8_twoOf_168 : decode cX8_twoOf 168 = .ok (.iload_n 2, 1) := by decide +kernel
theorem dX8_twoOf_169 : decode cX8_twoOf 169 = .ok (.irem, 1) := by decide +kernel
theorem dX8_twoOf_170 : decode cX8_twoOf 170 = .ok (.ireturn, 1) := by decide +kernel
theorem dX8_twoOf_171 : decode cX8_twoOf 171 = .ok (.iload_n 1, 1) := by decide +kernel
theorem dX8_twoOf_172 : decode cX8_twoOf 172 = .ok (.iload_n 2, 1) := by decide +kernel
theorem dX8_twoOf_173 : decode cX8_twoOf 173 = .ok (.if_icmp .ge 7, 3) := by decide +kernel
theorem dX8_twoOf_176 : decode cX8_twoOf 176 = .ok (.iconst 1, 1) := by decide +kernel
theorem dX8_twoOf_177 : decode cX8_twoOf 177 = .ok (.goto 4, 3) := by decide +kernel
theorem dX8_twoOf_180 : decode cX8_twoOf 180 = .ok (.iconst 0, 1) := by decide +kernel
theorem dX8_twoOf_181 : decode cX8_twoOf 181 = .ok (.ireturn, 1) := by decide +kernel
theorem dX8_twoOf_182 : decode cX8_twoOf 182 = .ok (.iload_n 1, 1) := by decide +kernel
theorem dX8_twoOf_183 : decode cX8_twoOf 183 = .ok (.iload_n 2, 1) := by decide +kernel
theorem dX8_twoOf_184 : decode cX8_twoOf 184 = .ok (.if_icmp .ne 7, 3) := by decide +kernel
theorem dX8_twoOf_187 : decode cX8_twoOf 187 = .ok (.iconst 1, 1) := by decide +kernel
theorem dX8_twoOf_188 : decode cX8_twoOf 188 = .ok (.goto 4, 3) := by decide +kernel
theorem dX8_twoOf_191 : decode cX8_twoOf 191 = .ok (.iconst 0, 1) := by decide +kernel
theorem dX8_twoOf_192 : decode cX8_twoOf 192 = .ok (.ireturn, 1) := by decide +kernel
theorem dX8_twoOf_193 : decode cX8_twoOf 193 = .ok (.iload_n 1, 1) := by decide +kernel
theorem dX8_twoOf_194 : decode cX8_twoOf 194 = .ok (.iload_n 2, 1) := by decide +kernel
theorem dX8_twoOf_195 : decode cX8_twoOf 195 = .ok (.if_icmp .le 7, 3) := by decide +kernel
theorem dX8_twoOf_198 : decode cX8_twoOf 198 = .ok (.iconst 1, 1) := by decide +kernel
theorem dX8_twoOf_199 : decode cX8_twoOf 199 = .ok (.goto 4, 3) := by decide +kernel
theorem dX8_twoOf_202 : decode cX8_twoOf 202 = .ok (.iconst 0, 1) := by decide +kernel
theorem dX8_twoOf_203 : decode cX8_twoOf 203 = .ok (.ireturn, 1) := by decide +kernel
theorem dX8_twoOf_204 : decode cX8_twoOf 204 = .ok (.iload_n 1, 1) := by decide +kernel
theorem dX8_twoOf_205 : decode cX8_twoOf 205 = .ok (.ifCond .eq 11, 3) := by decide +kernel
theorem dX8_twoOf_208 : decode cX8_twoOf 208 = .ok (.iload_n 2, 1) := by decide +kernel
theorem dX8_twoOf_209 : decode cX8_twoOf 209 = .ok (.ifCond .eq 7, 3) := by decide +kernel
theorem dX8_twoOf_212 : decode cX8_twoOf 212 = .ok (.iconst 1, 1) := by decide +kernel
theorem dX8_twoOf_213 : decode cX8_twoOf 213 = .ok (.goto 4, 3) := by decide +kernel
theorem dX8_twoOf_216 : decode cX8_twoOf 216 = .ok (.iconst 0, 1) := by decide +kernel
theorem dX8_twoOf_217 : decode cX8_twoOf 217 = .ok (.ireturn, 1) := by decide +kernel
theorem dX8_twoOf_218 : decode cX8_twoOf 218 = .ok (.iload_n 1, 1) := by decide +kernel
theorem dX8_twoOf_219 : decode cX8_twoOf 219 = .ok (.ifCond .ne 7, 3) := by decide +kernel
theorem dX8_twoOf_222 : decode cX8_twoOf 222 = .ok (.iload_n 2, 1) := by decide +kernel
theorem dX8_twoOf_223 : decode cX8_twoOf 223 = .ok (.ifCond .eq 7, 3) := by decide +kernel
theorem dX8_twoOf_226 : decode cX8_twoOf 226 = .ok (.iconst 1, 1) := by decide +kernel
theorem dX8_twoOf_227 : decode cX8_twoOf 227 = .ok (.goto 4, 3) := by decide +kernel
theorem dX8_twoOf_230 : decode cX8_twoOf 230 = .ok (.iconst 0, 1) := by decide +kernel
theorem dX8_twoOf_231 : decode cX8_twoOf 231 = .ok (.ireturn, 1) := by decide +kernel
theorem dX8_worked_0 : decode cX8_worked 0 = .ok (.iconst 0, 1) := by decide +kernel
theorem dX8_worked_1 : decode cX8_worked 1 = .ok (.istore 4, 2) := by decide +kernel
theorem dX8_worked_3 : decode cX8_worked 3 = .ok (.sipush 130, 3) := by decide +kernel
theorem dX8_worked_6 : decode cX8_worked 6 = .ok (.iload_n 1, 1) := by decide +kernel
theorem dX8_worked_7 : decode cX8_worked 7 = .ok (.imul, 1) := by decide +kernel
theorem dX8_worked_8 : decode cX8_worked 8 = .ok (.iload_n 2, 1) := by decide +kernel
theorem dX8_worked_9 : decode cX8_worked 9 = .ok (.iadd, 1) := by decide +kernel
theorem dX8_worked_10 : decode cX8_worked 10 = .ok (.istore 5, 2) := by decide +kernel
theorem dX8_worked_12 : decode cX8_worked 12 = .ok (.iload 5, 2) := by decide +kernel
theorem dX8_worked_14 : decode cX8_worked 14 = .ok (.sipush 130, 3) := by decide +kernel
theorem dX8_worked_17 : decode cX8_worked 17 = .ok (.iload_n 1, 1) := by decide +kernel
theorem dX8_worked_18 : decode cX8_worked 18 = .ok (.imul, 1) := by decide +kernel
theorem dX8_worked_19 : decode cX8_worked 19 = .ok (.iload_n 3, 1) := by decide +kernel
theorem dX8_worked_20 : decode cX8_worked 20 = .ok (.iadd, 1) := by decide +kernel
theorem dX8_worked_21 : decode cX8_worked 21 = .ok (.if_icmp .ge 167, 3) := by decide +kernel
theorem dX8_worked_24 : decode cX8_worked 24 = .ok (.aload_n 0, 1) := by decide +kernel
theorem dX8_worked_25 : decode cX8_worked 25 = .ok (.getfield 42, 3) := by decide +kernel
theorem dX8_worked_28 : decode cX8_worked 28 = .ok (.iload 5, 2) := by decide +kernel
theorem dX8_worked_30 : decode cX8_worked 30 = .ok (.baload, 1) := by decide +kernel
theorem dX8_worked_31 : decode cX8_worked 31 = .ok (.istore 6, 2) := by decide +kernel
theorem dX8_worked_33 : decode cX8_worked 33 = .ok (.iload 6, 2) := by decide +kernel
theorem dX8_worked_35 : decode cX8_worked 35 = .ok (.iconst 1, 1) := by decide +kernel
theorem dX8_worked_36 : decode cX8_worked 36 = .ok (.if_icmp .eq 9, 3) := by decide +kernel
theorem dX8_worked_39 : decode cX8_worked 39 = .ok (.iload 6, 2) := by decide +kernel
theorem dX8_worked_41 : decode cX8_worked 41 = .ok (.iconst 2, 1) := by decide +kernel
theorem dX8_worked_42 : decode cX8_worked 42 = .ok (.if_icmp .ne 44, 3) := by decide +kernel
theorem dX8_worked_45 : decode cX8_worked 45 = .ok (.aload_n 0, 1) := by decide +kernel
theorem dX8_worked_46 : decode cX8_worked 46 = .ok (.getfield 61, 3) := by decide +kernel
theorem dX8_worked_49 : decode cX8_worked 49 = .ok (.iload 4, 2) := by decide +kernel
theorem dX8_worked_51 : decode cX8_worked 51 = .ok (.iload 6, 2) := by decide +kernel
theorem dX8_worked_53 : decode cX8_worked 53 = .ok (.iconst 1, 1) := by decide +kernel
theorem dX8_worked_54 : decode cX8_worked 54 = .ok (.if_icmp .ne 13, 3) := by decide +kernel
theorem dX8_worked_57 : decode cX8_worked 57 = .ok (.aload_n 0, 1) := by decide +kernel
theorem dX8_worked_58 : decode cX8_worked 58 = .ok (.getfield 45, 3) := by decide +kernel
theorem dX8_worked_61 : decode cX8_worked 61 = .ok (.iload 5, 2) := by decide +kernel
theorem dX8_worked_63 : decode cX8_worked 63 = .ok (.iaload, 1) := by decide +kernel
theorem dX8_worked_64 : decode cX8_worked 64 = .ok (.goto 15, 3) := by decide +kernel
theorem dX8_worked_67 : decode cX8_worked 67 = .ok (.aload_n 0, 1) := by decide +kernel
theorem dX8_worked_68 : decode cX8_worked 68 = .ok (.getfield 58, 3) := by decide +kernel
theorem dX8_worked_71 : decode cX8_worked 71 = .ok (.aload_n 0, 1) := by decide +kernel
theorem dX8_worked_72 : decode cX8_worked 72 = .ok (.getfield 45, 3) := by decide +kernel
theorem dX8_worked_75 : decode cX8_worked 75 = .ok (.iload 5, 2) := by decide +kernel
theorem dX8_worked_77 : decode cX8_worked 77 = .ok (.iaload, 1) := by decide +kernel
theorem dX8_worked_78 : decode cX8_worked 78 = .ok (.iaload, 1) := by decide +kernel
theorem dX8_worked_79 : decode cX8_worked 79 = .ok (.iastore, 1) := by decide +kernel
theorem dX8_worked_80 : decode cX8_worked 80 = .ok (.iinc 4 1, 3) := by decide +kernel
theorem dX8_worked_83 : decode cX8_worked 83 = .ok (.goto 99, 3) := by decide +kernel
theorem dX8_worked_86 : decode cX8_worked 86 = .ok (.iload 6, 2) := by decide +kernel
theorem dX8_worked_88 : decode cX8_worked 88 = .ok (.iconst 3, 1) := by decide +kernel
theorem dX8_worked_89 : decode cX8_worked 89 = .ok (.if_icmp .ne 32, 3) := by decide +kernel
theorem dX8_worked_92 : decode cX8_worked 92 = .ok (.aload_n 0, 1) := by decide +kernel
theorem dX8_worked_93 : decode cX8_worked 93 = .ok (.getfield 61, 3) := by decide +kernel
theorem dX8_worked_96 : decode cX8_worked 96 = .ok (.iload 4, 2) := by decide +kernel
theorem dX8_worked_98 : decode cX8_worked 98 = .ok (.iconst 1, 1) := by decide +kernel
theorem dX8_worked_99 : decode cX8_worked 99 = .ok (.isub, 1) := by decide +kernel
theorem dX8_worked_100 : decode cX8_worked 100 = .ok (.aload_n 0, 1) := by decide +kernel
theorem dX8_worked_101 : decode cX8_worked 101 = .ok (.getfield 61, 3) := by decide +kernel
theorem dX8_worked_104 : decode cX8_worked 104 = .ok (.iload 4, 2) := by decide +kernel
theorem dX8_worked_106 : decode cX8_worked 106 = .ok (.iconst 1, 1) := by decide +kernel
theorem dX8_worked_107 : decode cX8_worked 107 = .ok (.isub, 1) := by decide +kernel
theorem dX8_worked_108 : decode cX8_worked 108 = .ok (.iaload, 1) := by decide +kernel
theorem dX8_worked_109 : decode cX8_worked 109 = .ok (.ifCond .ne 7, 3) := by decide +kernel
theorem dX8_worked_112 : decode cX8_worked 112 = .ok (.iconst 1, 1) := by decide +kernel
theorem dX8_worked_113 : decode cX8_worked 113 = .ok (.goto 4, 3) := by decide +kernel
theorem dX8_worked_116 : decode cX8_worked 116 = .ok (.iconst 0, 1) := by decide +kernel
theorem dX8_worked_117 : decode cX8_worked 117 = .ok (.iastore, 1) := by decide +kernel
theorem dX8_worked_118 : decode cX8_worked 118 = .ok (.goto 64, 3) := by decide +kernel
theorem dX8_worked_121 : decode cX8_worked 121 = .ok (.iload 6, 2) := by decide +kernel
theorem dX8_worked_123 : decode cX8_worked 123 = .ok (.iconst 4, 1) := by decide +kernel
theorem dX8_worked_124 : decode cX8_worked 124 = .ok (.if_icmp .ne 25, 3) := by decide +kernel
theorem dX8_worked_127 : decode cX8_worked 127 = .ok (.aload_n 0, 1) := by decide +kernel
theorem dX8_worked_128 : decode cX8_worked 128 = .ok (.getfield 61, 3) := by decide +kernel
theorem dX8_worked_131 : decode cX8_worked 131 = .ok (.iload 4, 2) := by decide +kernel
theorem dX8_worked_133 : decode cX8_worked 133 = .ok (.iconst 1, 1) := by decide +kernel
theorem dX8_worked_134 : decode cX8_worked 134 = .ok (.isub, 1) := by decide +kernel
theorem dX8_worked_135 : decode cX8_worked 135 = .ok (.aload_n 0, 1) := by decide +kernel
theorem dX8_worked_136 : decode cX8_worked 136 = .ok (.getfield 61, 3) := by decide +kernel
theorem dX8_worked_139 : decode cX8_worked 139 = .ok (.iload 4, 2) := by decide +kernel
theorem dX8_worked_141 : decode cX8_worked 141 = .ok (.iconst 1, 1) := by decide +kernel
theorem dX8_worked_142 : decode cX8_worked 142 = .ok (.isub, 1) := by decide +kernel
theorem dX8_worked_143 : decode cX8_worked 143 = .ok (.iaload, 1) := by decide +kernel
theorem dX8_worked_144 : decode cX8_worked 144 = .ok (.ineg, 1) := by decide +kernel
theorem dX8_worked_145 : decode cX8_worked 145 = .ok (.iastore, 1) := by decide +kernel
theorem dX8_worked_146 : decode cX8_worked 146 = .ok (.goto 36, 3) := by decide +kernel
theorem dX8_worked_149 : decode cX8_worked 149 = .ok (.iinc 4 (-1), 3) := by decide +kernel
theorem dX8_worked_152 : decode cX8_worked 152 = .ok (.aload_n 0, 1) := by decide +kernel
theorem dX8_worked_153 : decode cX8_worked 153 = .ok (.getfield 61, 3) := by decide +kernel
theorem dX8_worked_156 : decode cX8_worked 156 = .ok (.iload 4, 2) := by decide +kernel
theorem dX8_worked_158 : decode cX8_worked 158 = .ok (.iconst 1, 1) := by decide +kernel
theorem dX8_worked_159 : decode cX8_worked 159 = .ok (.isub, 1) := by decide +kernel
theorem dX8_worked_160 : decode cX8_worked 160 = .ok (.iload 6, 2) := by decide +kernel
theorem dX8_worked_162 : decode cX8_worked 162 = .ok (.aload_n 0, 1) := by decide +kernel
theorem dX8_worked_163 : decode cX8_worked 163 = .ok (.getfield 61, 3) := by decide +kernel
theorem dX8_worked_166 : decode cX8_worked 166 = .ok (.iload 4, 2) := by decide +kernel
theorem dX8_worked_168 : decode cX8_worked 168 = .ok (.iconst 1, 1) := by decide +kernel
theorem dX8_worked_169 : decode cX8_worked 169 = .ok (.isub, 1) := by decide +kernel
theorem dX8_worked_170 : decode cX8_worked 170 = .ok (.iaload, 1) := by decide +kernel
theorem dX8_worked_171 : decode cX8_worked 171 = .ok (.aload_n 0, 1) := by decide +kernel
theorem dX8_worked_172 : decode cX8_worked 172 = .ok (.getfield 61, 3) := by decide +kernel
theorem dX8_worked_175 : decode cX8_worked 175 = .ok (.iload 4, 2) := by decide +kernel
theorem dX8_worked_177 : decode cX8_worked 177 = .ok (.iaload, 1) := by decide +kernel
theorem dX8_worked_178 : decode cX8_worked 178 = .ok (.invokestatic 236, 3) := by decide +kernel
theorem dX8_worked_181 : decode cX8_worked 181 = .ok (.iastore, 1) := by decide +kernel
theorem dX8_worked_182 : decode cX8_worked 182 = .ok (.iinc 5 1, 3) := by decide +kernel
theorem dX8_worked_185 : decode cX8_worked 185 = .ok (.goto (-173), 3) := by decide +kernel
theorem dX8_worked_188 : decode cX8_worked 188 = .ok (.aload_n 0, 1) := by decide +kernel
theorem dX8_worked_189 : decode cX8_worked 189 = .ok (.getfield 61, 3) := by decide +kernel
theorem dX8_worked_192 : decode cX8_worked 192 = .ok (.iconst 0, 1) := by decide +kernel
theorem dX8_worked_193 : decode cX8_worked 193 = .ok (.iaload, 1) := by decide +kernel
theorem dX8_worked_194 : decode cX8_worked 194 = .ok (.ireturn, 1) := by decide +kernel
theorem dX8_gives_0 : decode cX8_gives 0 = .ok (.iconst 0, 1) := by decide +kernel
theorem dX8_gives_1 : decode cX8_gives 1 = .ok (.istore_n 2, 1) := by decide +kernel
theorem dX8_gives_2 : decode cX8_gives 2 = .ok (.bipush 61, 2) := by decide +kernel
theorem dX8_gives_4 : decode cX8_gives 4 = .ok (.iload_n 1, 1) := by decide +kernel
theorem dX8_gives_5 : decode cX8_gives 5 = .ok (.imul, 1) := by decide +kernel
theorem dX8_gives_6 : decode cX8_gives 6 = .ok (.istore_n 3, 1) := by decide +kernel
theorem dX8_gives_7 : decode cX8_gives 7 = .ok (.iload_n 3, 1) := by decide +kernel
theorem dX8_gives_8 : decode cX8_gives 8 = .ok (.bipush 61, 2) := by decide +kernel
theorem dX8_gives_10 : decode cX8_gives 10 = .ok (.iload_n 1, 1) := by decide +kernel
theorem dX8_gives_11 : decode cX8_gives 11 = .ok (.imul, 1) := by decide +kernel
theorem dX8_gives_12 : decode cX8_gives 12 = .ok (.aload_n 0, 1) := by decide +kernel
theorem dX8_gives_13 : decode cX8_gives 13 = .ok (.getfield 48, 3) := by decide +kernel
theorem dX8_gives_16 : decode cX8_gives 16 = .ok (.iload_n 1, 1) := by decide +kernel
theorem dX8_gives_17 : decode cX8_gives 17 = .ok (.iaload, 1) := by decide +kernel
theorem dX8_gives_18 : decode cX8_gives 18 = .ok (.iadd, 1) := by decide +kernel
theorem dX8_gives_19 : decode cX8_gives 19 = .ok (.if_icmp .ge 59, 3) := by decide +kernel
theorem dX8_gives_22 : decode cX8_gives 22 = .ok (.aload_n 0, 1) := by decide +kernel
theorem dX8_gives_23 : decode cX8_gives 23 = .ok (.getfield 51, 3) := by decide +kernel
theorem dX8_gives_26 : decode cX8_gives 26 = .ok (.iload_n 3, 1) := by decide +kernel
theorem dX8_gives_27 : decode cX8_gives 27 = .ok (.saload, 1) := by decide +kernel
theorem dX8_gives_28 : decode cX8_gives 28 = .ok (.iload_n 2, 1) := by decide +kernel
theorem dX8_gives_29 : decode cX8_gives 29 = .ok (.if_icmp .eq 18, 3) := by decide +kernel
theorem dX8_gives_32 : decode cX8_gives 32 = .ok (.aload_n 0, 1) := by decide +kernel
theorem dX8_gives_33 : decode cX8_gives 33 = .ok (.iload_n 1, 1) := by decide +kernel
theorem dX8_gives_34 : decode cX8_gives 34 = .ok (.iload_n 2, 1) := by decide +kernel
theorem dX8_gives_35 : decode cX8_gives 35 = .ok (.aload_n 0, 1) := by decide +kernel
theorem dX8_gives_36 : decode cX8_gives 36 = .ok (.getfield 51, 3) := by decide +kernel
theorem dX8_gives_39 : decode cX8_gives 39 = .ok (.iload_n 3, 1) := by decide +kernel
theorem dX8_gives_40 : decode cX8_gives 40 = .ok (.saload, 1) := by decide +kernel
theorem dX8_gives_41 : decode cX8_gives 41 = .ok (.invokevirtual 239, 3) := by decide +kernel
theorem dX8_gives_44 : decode cX8_gives 44 = .ok (.ifCond .eq 21, 3) := by decide +kernel
theorem dX8_gives_47 : decode cX8_gives 47 = .ok (.aload_n 0, 1) := by decide +kernel
theorem dX8_gives_48 : decode cX8_gives 48 = .ok (.iload_n 1, 1) := by decide +kernel
theorem dX8_gives_49 : decode cX8_gives 49 = .ok (.aload_n 0, 1) := by decide +kernel
theorem dX8_gives_50 : decode cX8_gives 50 = .ok (.getfield 51, 3) := by decide +kernel
theorem dX8_gives_53 : decode cX8_gives 53 = .ok (.iload_n 3, 1) := by decide +kernel
theorem dX8_gives_54 : decode cX8_gives 54 = .ok (.saload, 1) := by decide +kernel
theorem dX8_gives_55 : decode cX8_gives 55 = .ok (.aload_n 0, 1) := by decide +kernel
theorem dX8_gives_56 : decode cX8_gives 56 = .ok (.getfield 55, 3) := by decide +kernel
theorem dX8_gives_59 : decode cX8_gives 59 = .ok (.iload_n 3, 1) := by decide +kernel
theorem dX8_gives_60 : decode cX8_gives 60 = .ok (.saload, 1) := by decide +kernel
theorem dX8_gives_61 : decode cX8_gives 61 = .ok (.invokevirtual 239, 3) := by decide +kernel
theorem dX8_gives_64 : decode cX8_gives 64 = .ok (.ireturn, 1) := by decide +kernel
theorem dX8_gives_65 : decode cX8_gives 65 = .ok (.aload_n 0, 1) := by decide +kernel
theorem dX8_gives_66 : decode cX8_gives 66 = .ok (.getfield 55, 3) := by decide +kernel
theorem dX8_gives_69 : decode cX8_gives 69 = .ok (.iload_n 3, 1) := by decide +kernel
theorem dX8_gives_70 : decode cX8_gives 70 = .ok (.saload, 1) := by decide +kernel
theorem dX8_gives_71 : decode cX8_gives 71 = .ok (.istore_n 2, 1) := by decide +kernel
theorem dX8_gives_72 : decode cX8_gives 72 = .ok (.iinc 3 1, 3) := by decide +kernel
theorem dX8_gives_75 : decode cX8_gives 75 = .ok (.goto (-68), 3) := by decide +kernel
theorem dX8_gives_78 : decode cX8_gives 78 = .ok (.iconst 0, 1) := by decide +kernel
theorem dX8_gives_79 : decode cX8_gives 79 = .ok (.ireturn, 1) := by decide +kernel
theorem dX8_law_0 : decode cX8_law 0 = .ok (.aload_n 0, 1) := by decide +kernel
theorem dX8_law_1 : decode cX8_law 1 = .ok (.iconst 0, 1) := by decide +kernel
theorem dX8_law_2 : decode cX8_law 2 = .ok (.invokevirtual 242, 3) := by decide +kernel
theorem dX8_law_5 : decode cX8_law 5 = .ok (.istore_n 1, 1) := by decide +kernel
theorem dX8_law_6 : decode cX8_law 6 = .ok (.iload_n 1, 1) := by decide +kernel
theorem dX8_law_7 : decode cX8_law 7 = .ok (.ifCond .lt 8, 3) := by decide +kernel
theorem dX8_law_10 : decode cX8_law 10 = .ok (.bipush (-100), 2) := by decide +kernel
theorem dX8_law_12 : decode cX8_law 12 = .ok (.iload_n 1, 1) := by decide +kernel
theorem dX8_law_13 : decode cX8_law 13 = .ok (.isub, 1) := by decide +kernel
theorem dX8_law_14 : decode cX8_law 14 = .ok (.ireturn, 1) := by decide +kernel
theorem dX8_law_15 : decode cX8_law 15 = .ok (.aload_n 0, 1) := by decide +kernel
theorem dX8_law_16 : decode cX8_law 16 = .ok (.iconst 1, 1) := by decide +kernel
theorem dX8_law_17 : decode cX8_law 17 = .ok (.putfield 245, 3) := by decide +kernel
theorem dX8_law_20 : decode cX8_law 20 = .ok (.iconst 1, 1) := by decide +kernel
theorem dX8_law_21 : decode cX8_law 21 = .ok (.ireturn, 1) := by decide +kernel
theorem dX8_beginMouths_0 : decode cX8_beginMouths 0 = .ok (.iconst 0, 1) := by decide +kernel
theorem dX8_beginMouths_1 : decode cX8_beginMouths 1 = .ok (.istore_n 1, 1) := by decide +kernel
theorem dX8_beginMouths_2 : decode cX8_beginMouths 2 = .ok (.iload_n 1, 1) := by decide +kernel
theorem dX8_beginMouths_3 : decode cX8_beginMouths 3 = .ok (.bipush 56, 2) := by decide +kernel
theorem dX8_beginMouths_5 : decode cX8_beginMouths 5 = .ok (.if_icmp .ge 21, 3) := by decide +kernel
theorem dX8_beginMouths_8 : decode cX8_beginMouths 8 = .ok (.aload_n 0, 1) := by decide +kernel
theorem dX8_beginMouths_9 : decode cX8_beginMouths 9 = .ok (.getfield 64, 3) := by decide +kernel
theorem dX8_beginMouths_12 : decode cX8_beginMouths 12 = .ok (.iload_n 1, 1) := by decide +kernel
theorem dX8_beginMouths_13 : decode cX8_beginMouths 13 = .ok (.aload_n 0, 1) := by decide +kernel
theorem dX8_beginMouths_14 : decode cX8_beginMouths 14 = .ok (.getfield 7, 3) := by decide +kernel
theorem dX8_beginMouths_17 : decode cX8_beginMouths 17 = .ok (.iload_n 1, 1) := by decide +kernel
theorem dX8_beginMouths_18 : decode cX8_beginMouths 18 = .ok (.iaload, 1) := by decide +kernel
theorem dX8_beginMouths_19 : decode cX8_beginMouths 19 = .ok (.iastore, 1) := by decide +kernel
theorem dX8_beginMouths_20 : decode cX8_beginMouths 20 = .ok (.iinc 1 1, 3) := by decide +kernel
theorem dX8_beginMouths_23 : decode cX8_beginMouths 23 = .ok (.goto (-21), 3) := by decide +kernel
theorem dX8_beginMouths_26 : decode cX8_beginMouths 26 = .ok (.iconst 0, 1) := by decide +kernel
theorem dX8_beginMouths_27 : decode cX8_beginMouths 27 = .ok (.istore_n 1, 1) := by decide +kernel
theorem dX8_beginMouths_28 : decode cX8_beginMouths 28 = .ok (.iload_n 1, 1) := by decide +kernel
theorem dX8_beginMouths_29 : decode cX8_beginMouths 29 = .ok (.bipush 7, 2) := by decide +kernel
theorem dX8_beginMouths_31 : decode cX8_beginMouths 31 = .ok (.if_icmp .ge 21, 3) := by decide +kernel
theorem dX8_beginMouths_34 : decode cX8_beginMouths 34 = .ok (.aload_n 0, 1) := by decide +kernel
theorem dX8_beginMouths_35 : decode cX8_beginMouths 35 = .ok (.getfield 67, 3) := by decide +kernel
theorem dX8_beginMouths_38 : decode cX8_beginMouths 38 = .ok (.iload_n 1, 1) := by decide +kernel
theorem dX8_beginMouths_39 : decode cX8_beginMouths 39 = .ok (.aload_n 0, 1) := by decide +kernel
theorem dX8_beginMouths_40 : decode cX8_beginMouths 40 = .ok (.getfield 16, 3) := by decide +kernel
theorem dX8_beginMouths_43 : decode cX8_beginMouths 43 = .ok (.iload_n 1, 1) := by decide +kernel
theorem dX8_beginMouths_44 : decode cX8_beginMouths 44 = .ok (.iaload, 1) := by decide +kernel
theorem dX8_beginMouths_45 : decode cX8_beginMouths 45 = .ok (.iastore, 1) := by decide +kernel
theorem dX8_beginMouths_46 : decode cX8_beginMouths 46 = .ok (.iinc 1 1, 3) := by decide +kernel
theorem dX8_beginMouths_49 : decode cX8_beginMouths 49 = .ok (.goto (-21), 3) := by decide +kernel
theorem dX8_beginMouths_52 : decode cX8_beginMouths 52 = .ok (.return_, 1) := by decide +kernel
theorem dX8_flakesOf_0 : decode cX8_flakesOf 0 = .ok (.iconst 0, 1) := by decide +kernel
theorem dX8_flakesOf_1 : decode cX8_flakesOf 1 = .ok (.istore_n 2, 1) := by decide +kernel
theorem dX8_flakesOf_2 : decode cX8_flakesOf 2 = .ok (.iconst 0, 1) := by decide +kernel
theorem dX8_flakesOf_3 : decode cX8_flakesOf 3 = .ok (.istore_n 3, 1) := by decide +kernel
theorem dX8_flakesOf_4 : decode cX8_flakesOf 4 = .ok (.iload_n 3, 1) := by decide +kernel
theorem dX8_flakesOf_5 : decode cX8_flakesOf 5 = .ok (.bipush 8, 2) := by decide +kernel
theorem dX8_flakesOf_7 : decode cX8_flakesOf 7 = .ok (.if_icmp .ge 23, 3) := by decide +kernel
theorem dX8_flakesOf_10 : decode cX8_flakesOf 10 = .ok (.iload_n 2, 1) := by decide +kernel
theorem dX8_flakesOf_11 : decode cX8_flakesOf 11 = .ok (.aload_n 0, 1) := by decide +kernel
theorem dX8_flakesOf_12 : decode cX8_flakesOf 12 = .ok (.getfield 64, 3) := by decide +kernel
theorem dX8_flakesOf_15 : decode cX8_flakesOf 15 = .ok (.bipush 8, 2) := by decide +kernel
theorem dX8_flakesOf_17 : decode cX8_flakesOf 17 = .ok (.iload_n 1, 1) := by decide +kernel
theorem dX8_flakesOf_18 : decode cX8_flakesOf 18 = .ok (.imul, 1) := by decide +kernel
theorem dX8_flakesOf_19 : decode cX8_flakesOf 19 = .ok (.iload_n 3, 1) := by decide +kernel
theorem dX8_flakesOf_20 : decode cX8_flakesOf 20 = .ok (.iadd, 1) := by decide +kernel
theorem dX8_flakesOf_21 : decode cX8_flakesOf 21 = .ok (.iaload, 1) := by decide +kernel
theorem dX8_flakesOf_22 : decode cX8_flakesOf 22 = .ok (.iadd, 1) := by decide +kernel
theorem dX8_flakesOf_23 : decode cX8_flakesOf 23 = .ok (.istore_n 2, 1) := by decide +kernel
theorem dX8_flakesOf_24 : decode cX8_flakesOf 24 = .ok (.iinc 3 1, 3) := by decide +kernel
theorem dX8_flakesOf_27 : decode cX8_flakesOf 27 = .ok (.goto (-23), 3) := by decide +kernel
theorem dX8_flakesOf_30 : decode cX8_flakesOf 30 = .ok (.iload_n 2, 1) := by decide +kernel
theorem dX8_flakesOf_31 : decode cX8_flakesOf 31 = .ok (.ireturn, 1) := by decide +kernel
theorem dX8_worthOf_0 : decode cX8_worthOf 0 = .ok (.aload_n 0, 1) := by decide +kernel
theorem dX8_worthOf_1 : decode cX8_worthOf 1 = .ok (.iload_n 1, 1) := by decide +kernel
theorem dX8_worthOf_2 : decode cX8_worthOf 2 = .ok (.invokevirtual 249, 3) := by decide +kernel
theorem dX8_worthOf_5 : decode cX8_worthOf 5 = .ok (.aload_n 0, 1) := by decide +kernel
theorem dX8_worthOf_6 : decode cX8_worthOf 6 = .ok (.getfield 22, 3) := by decide +kernel
theorem dX8_worthOf_9 : decode cX8_worthOf 9 = .ok (.aload_n 0, 1) := by decide +kernel
theorem dX8_worthOf_10 : decode cX8_worthOf 10 = .ok (.getfield 13, 3) := by decide +kernel
theorem dX8_worthOf_13 : decode cX8_worthOf 13 = .ok (.iload_n 1, 1) := by decide +kernel
theorem dX8_worthOf_14 : decode cX8_worthOf 14 = .ok (.iaload, 1) := by decide +kernel
theorem dX8_worthOf_15 : decode cX8_worthOf 15 = .ok (.invokestatic 252, 3) := by decide +kernel
theorem dX8_worthOf_18 : decode cX8_worthOf 18 = .ok (.imul, 1) := by decide +kernel
theorem dX8_worthOf_19 : decode cX8_worthOf 19 = .ok (.iadd, 1) := by decide +kernel
theorem dX8_worthOf_20 : decode cX8_worthOf 20 = .ok (.ireturn, 1) := by decide +kernel
theorem dX8_isGone_0 : decode cX8_isGone 0 = .ok (.aload_n 0, 1) := by decide +kernel
theorem dX8_isGone_1 : decode cX8_isGone 1 = .ok (.iload_n 1, 1) := by decide +kernel
theorem dX8_isGone_2 : decode cX8_isGone 2 = .ok (.invokevirtual 249, 3) := by decide +kernel
theorem dX8_isGone_5 : decode cX8_isGone 5 = .ok (.ifCond .ne 7, 3) := by decide +kernel
theorem dX8_isGone_8 : decode cX8_isGone 8 = .ok (.iconst 1, 1) := by decide +kernel
theorem dX8_isGone_9 : decode cX8_isGone 9 = .ok (.goto 4, 3) := by decide +kernel
theorem dX8_isGone_12 : decode cX8_isGone 12 = .ok (.iconst 0, 1) := by decide +kernel
theorem dX8_isGone_13 : decode cX8_isGone 13 = .ok (.ireturn, 1) := by decide +kernel
theorem dX8_takesBy_0 : decode cX8_takesBy 0 = .ok (.iload_n 3, 1) := by decide +kernel
theorem dX8_takesBy_1 : decode cX8_takesBy 1 = .ok (.bipush 8, 2) := by decide +kernel
theorem dX8_takesBy_3 : decode cX8_takesBy 3 = .ok (.irem, 1) := by decide +kernel
theorem dX8_takesBy_4 : decode cX8_takesBy 4 = .ok (.istore 4, 2) := by decide +kernel
theorem dX8_takesBy_6 : decode cX8_takesBy 6 = .ok (.iconst 1, 1) := by decide +kernel
theorem dX8_takesBy_7 : decode cX8_takesBy 7 = .ok (.iload_n 3, 1) := by decide +kernel
theorem dX8_takesBy_8 : decode cX8_takesBy 8 = .ok (.iconst 2, 1) := by decide +kernel
theorem dX8_takesBy_9 : decode cX8_takesBy 9 = .ok (.idiv, 1) := by decide +kernel
theorem dX8_takesBy_10 : decode cX8_takesBy 10 = .ok (.iadd, 1) := by decide +kernel
theorem dX8_takesBy_11 : decode cX8_takesBy 11 = .ok (.istore 5, 2) := by decide +kernel
theorem dX8_takesBy_13 : decode cX8_takesBy 13 = .ok (.aload_n 0, 1) := by decide +kernel
theorem dX8_takesBy_14 : decode cX8_takesBy 14 = .ok (.getfield 245, 3) := by decide +kernel
theorem dX8_takesBy_17 : decode cX8_takesBy 17 = .ok (.ifCond .eq 72, 3) := by decide +kernel
theorem dX8_takesBy_20 : decode cX8_takesBy 20 = .ok (.aload_n 0, 1) := by decide +kernel
theorem dX8_takesBy_21 : decode cX8_takesBy 21 = .ok (.getfield 58, 3) := by decide +kernel
theorem dX8_takesBy_24 : decode cX8_takesBy 24 = .ok (.iconst 0, 1) := by decide +kernel
theorem dX8_takesBy_25 : decode cX8_takesBy 25 = .ok (.iload_n 3, 1) := by decide +kernel
theorem dX8_takesBy_26 : decode cX8_takesBy 26 = .ok (.iastore, 1) := by decide +kernel
theorem dX8_takesBy_27 : decode cX8_takesBy 27 = .ok (.aload_n 0, 1) := by decide +kernel
theorem dX8_takesBy_28 : decode cX8_takesBy 28 = .ok (.getfield 58, 3) := by decide +kernel
theorem dX8_takesBy_31 : decode cX8_takesBy 31 = .ok (.iconst 1, 1) := by decide +kernel
theorem dX8_takesBy_32 : decode cX8_takesBy 32 = .ok (.aload_n 0, 1) := by decide +kernel
theorem dX8_takesBy_33 : decode cX8_takesBy 33 = .ok (.getfield 67, 3) := by decide +kernel
theorem dX8_takesBy_36 : decode cX8_takesBy 36 = .ok (.iload_n 1, 1) := by decide +kernel
theorem dX8_takesBy_37 : decode cX8_takesBy 37 = .ok (.iaload, 1) := by decide +kernel
theorem dX8_takesBy_38 : decode cX8_takesBy 38 = .ok (.iastore, 1) := by decide +kernel
theorem dX8_takesBy_39 : decode cX8_takesBy 39 = .ok (.aload_n 0, 1) := by decide +kernel
theorem dX8_takesBy_40 : decode cX8_takesBy 40 = .ok (.getfield 58, 3) := by decide +kernel
theorem dX8_takesBy_43 : decode cX8_takesBy 43 = .ok (.iconst 2, 1) := by decide +kernel
theorem dX8_takesBy_44 : decode cX8_takesBy 44 = .ok (.aload_n 0, 1) := by decide +kernel
theorem dX8_takesBy_45 : decode cX8_takesBy 45 = .ok (.iload_n 1, 1) := by decide +kernel
theorem dX8_takesBy_46 : decode cX8_takesBy 46 = .ok (.invokevirtual 175, 3) := by decide +kernel
theorem dX8_takesBy_49 : decode cX8_takesBy 49 = .ok (.iastore, 1) := by decide +kernel
theorem dX8_takesBy_50 : decode cX8_takesBy 50 = .ok (.aload_n 0, 1) := by decide +kernel
theorem dX8_takesBy_51 : decode cX8_takesBy 51 = .ok (.getfield 58, 3) := by decide +kernel
theorem dX8_takesBy_54 : decode cX8_takesBy 54 = .ok (.iconst 3, 1) := by decide +kernel
theorem dX8_takesBy_55 : decode cX8_takesBy 55 = .ok (.iload 4, 2) := by decide +kernel
theorem dX8_takesBy_57 : decode cX8_takesBy 57 = .ok (.iastore, 1) := by decide +kernel
theorem dX8_takesBy_58 : decode cX8_takesBy 58 = .ok (.aload_n 0, 1) := by decide +kernel
theorem dX8_takesBy_59 : decode cX8_takesBy 59 = .ok (.getfield 58, 3) := by decide +kernel
theorem dX8_takesBy_62 : decode cX8_takesBy 62 = .ok (.iconst 4, 1) := by decide +kernel
theorem dX8_takesBy_63 : decode cX8_takesBy 63 = .ok (.aload_n 0, 1) := by decide +kernel
theorem dX8_takesBy_64 : decode cX8_takesBy 64 = .ok (.getfield 13, 3) := by decide +kernel
theorem dX8_takesBy_67 : decode cX8_takesBy 67 = .ok (.iload_n 1, 1) := by decide +kernel
theorem dX8_takesBy_68 : decode cX8_takesBy 68 = .ok (.iaload, 1) := by decide +kernel
theorem dX8_takesBy_69 : decode cX8_takesBy 69 = .ok (.iload 4, 2) := by decide +kernel
theorem dX8_takesBy_71 : decode cX8_takesBy 71 = .ok (.ishr, 1) := by decide +kernel
theorem dX8_takesBy_72 : decode cX8_takesBy 72 = .ok (.iconst 1, 1) := by decide +kernel
theorem dX8_takesBy_73 : decode cX8_takesBy 73 = .ok (.iand, 1) := by decide +kernel
theorem dX8_takesBy_74 : decode cX8_takesBy 74 = .ok (.iastore, 1) := by decide +kernel
theorem dX8_takesBy_75 : decode cX8_takesBy 75 = .ok (.aload_n 0, 1) := by decide +kernel
theorem dX8_takesBy_76 : decode cX8_takesBy 76 = .ok (.getfield 58, 3) := by decide +kernel
theorem dX8_takesBy_79 : decode cX8_takesBy 79 = .ok (.iconst 5, 1) := by decide +kernel
theorem dX8_takesBy_80 : decode cX8_takesBy 80 = .ok (.iload_n 2, 1) := by decide +kernel
theorem dX8_takesBy_81 : decode cX8_takesBy 81 = .ok (.iastore, 1) := by decide +kernel
theorem dX8_takesBy_82 : decode cX8_takesBy 82 = .ok (.aload_n 0, 1) := by decide +kernel
theorem dX8_takesBy_83 : decode cX8_takesBy 83 = .ok (.iconst 0, 1) := by decide +kernel
theorem dX8_takesBy_84 : decode cX8_takesBy 84 = .ok (.invokevirtual 255, 3) := by decide +kernel
theorem dX8_takesBy_87 : decode cX8_takesBy 87 = .ok (.istore 5, 2) := by decide +kernel
theorem dX8_takesBy_89 : decode cX8_takesBy 89 = .ok (.iload 5, 2) := by decide +kernel
theorem dX8_takesBy_91 : decode cX8_takesBy 91 = .ok (.ifCond .ge 7, 3) := by decide +kernel
theorem dX8_takesBy_94 : decode cX8_takesBy 94 = .ok (.iconst 0, 1) := by decide +kernel
theorem dX8_takesBy_95 : decode cX8_takesBy 95 = .ok (.goto 17, 3) := by decide +kernel
theorem dX8_takesBy_98 : decode cX8_takesBy 98 = .ok (.iload 5, 2) := by decide +kernel
theorem dX8_takesBy_100 : decode cX8_takesBy 100 = .ok (.bipush 99, 2) := by decide +kernel
theorem dX8_takesBy_102 : decode cX8_takesBy 102 = .ok (.if_icmp .le 8, 3) := by decide +kernel
theorem dX8_takesBy_105 : decode cX8_takesBy 105 = .ok (.bipush 99, 2) := by decide +kernel
theorem dX8_takesBy_107 : decode cX8_takesBy 107 = .ok (.goto 5, 3) := by decide +kernel
theorem dX8_takesBy_110 : decode cX8_takesBy 110 = .ok (.iload 5, 2) := by decide +kernel
theorem dX8_takesBy_112 : decode cX8_takesBy 112 = .ok (.ireturn, 1) := by decide +kernel
theorem dX8_takes_0 : decode cX8_takes 0 = .ok (.aload_n 0, 1) := by decide +kernel
theorem dX8_takes_1 : decode cX8_takes 1 = .ok (.iload_n 1, 1) := by decide +kernel
theorem dX8_takes_2 : decode cX8_takes 2 = .ok (.invokevirtual 156, 3) := by decide +kernel
theorem dX8_takes_5 : decode cX8_takes 5 = .ok (.ifCond .eq 17, 3) := by decide +kernel
theorem dX8_takes_8 : decode cX8_takes 8 = .ok (.iload_n 2, 1) := by decide +kernel
theorem dX8_takes_9 : decode cX8_takes 9 = .ok (.ifCond .lt 13, 3) := by decide +kernel
theorem dX8_takes_12 : decode cX8_takes 12 = .ok (.iload_n 2, 1) := by decide +kernel
theorem dX8_takes_13 : decode cX8_takes 13 = .ok (.bipush 10, 2) := by decide +kernel
theorem dX8_takes_15 : decode cX8_takes 15 = .ok (.idiv, 1) := by decide +kernel
theorem dX8_takes_16 : decode cX8_takes 16 = .ok (.invokestatic 159, 3) := by decide +kernel
theorem dX8_takes_19 : decode cX8_takes 19 = .ok (.ifCond .ne 5, 3) := by decide +kernel
theorem dX8_takes_22 : decode cX8_takes 22 = .ok (.iconst (-1), 1) := by decide +kernel
theorem dX8_takes_23 : decode cX8_takes 23 = .ok (.ireturn, 1) := by decide +kernel
theorem dX8_takes_24 : decode cX8_takes 24 = .ok (.aload_n 0, 1) := by decide +kernel
theorem dX8_takes_25 : decode cX8_takes 25 = .ok (.invokevirtual 172, 3) := by decide +kernel
theorem dX8_takes_28 : decode cX8_takes 28 = .ok (.aload_n 0, 1) := by decide +kernel
theorem dX8_takes_29 : decode cX8_takes 29 = .ok (.iload_n 1, 1) := by decide +kernel
theorem dX8_takes_30 : decode cX8_takes 30 = .ok (.iload_n 2, 1) := by decide +kernel
theorem dX8_takes_31 : decode cX8_takes 31 = .ok (.bipush 10, 2) := by decide +kernel
theorem dX8_takes_33 : decode cX8_takes 33 = .ok (.idiv, 1) := by decide +kernel
theorem dX8_takes_34 : decode cX8_takes 34 = .ok (.iload_n 2, 1) := by decide +kernel
theorem dX8_takes_35 : decode cX8_takes 35 = .ok (.bipush 10, 2) := by decide +kernel
theorem dX8_takes_37 : decode cX8_takes 37 = .ok (.irem, 1) := by decide +kernel
theorem dX8_takes_38 : decode cX8_takes 38 = .ok (.invokevirtual 258, 3) := by decide +kernel
theorem dX8_takes_41 : decode cX8_takes 41 = .ok (.ireturn, 1) := by decide +kernel
theorem dX8_lieOf_0 : decode cX8_lieOf 0 = .ok (.aload_n 0, 1) := by decide +kernel
theorem dX8_lieOf_1 : decode cX8_lieOf 1 = .ok (.iload_n 1, 1) := by decide +kernel
theorem dX8_lieOf_2 : decode cX8_lieOf 2 = .ok (.iload_n 2, 1) := by decide +kernel
theorem dX8_lieOf_3 : decode cX8_lieOf 3 = .ok (.iload_n 3, 1) := by decide +kernel
theorem dX8_lieOf_4 : decode cX8_lieOf 4 = .ok (.invokevirtual 258, 3) := by decide +kernel
theorem dX8_lieOf_7 : decode cX8_lieOf 7 = .ok (.istore 4, 2) := by decide +kernel
theorem dX8_lieOf_9 : decode cX8_lieOf 9 = .ok (.iconst 0, 1) := by decide +kernel
theorem dX8_lieOf_10 : decode cX8_lieOf 10 = .ok (.istore 5, 2) := by decide +kernel
theorem dX8_lieOf_12 : decode cX8_lieOf 12 = .ok (.iconst 0, 1) := by decide +kernel
theorem dX8_lieOf_13 : decode cX8_lieOf 13 = .ok (.istore 6, 2) := by decide +kernel
theorem dX8_lieOf_15 : decode cX8_lieOf 15 = .ok (.iload 6, 2) := by decide +kernel
theorem dX8_lieOf_17 : decode cX8_lieOf 17 = .ok (.bipush 8, 2) := by decide +kernel
theorem dX8_lieOf_19 : decode cX8_lieOf 19 = .ok (.if_icmp .ge 103, 3) := by decide +kernel
theorem dX8_lieOf_22 : decode cX8_lieOf 22 = .ok (.iload_n 3, 1) := by decide +kernel
theorem dX8_lieOf_23 : decode cX8_lieOf 23 = .ok (.iload 6, 2) := by decide +kernel
theorem dX8_lieOf_25 : decode cX8_lieOf 25 = .ok (.iadd, 1) := by decide +kernel
theorem dX8_lieOf_26 : decode cX8_lieOf 26 = .ok (.bipush 8, 2) := by decide +kernel
theorem dX8_lieOf_28 : decode cX8_lieOf 28 = .ok (.irem, 1) := by decide +kernel
theorem dX8_lieOf_29 : decode cX8_lieOf 29 = .ok (.istore 7, 2) := by decide +kernel
theorem dX8_lieOf_31 : decode cX8_lieOf 31 = .ok (.aload_n 0, 1) := by decide +kernel
theorem dX8_lieOf_32 : decode cX8_lieOf 32 = .ok (.getfield 13, 3) := by decide +kernel
theorem dX8_lieOf_35 : decode cX8_lieOf 35 = .ok (.iload_n 1, 1) := by decide +kernel
theorem dX8_lieOf_36 : decode cX8_lieOf 36 = .ok (.iaload, 1) := by decide +kernel
theorem dX8_lieOf_37 : decode cX8_lieOf 37 = .ok (.iload 7, 2) := by decide +kernel
theorem dX8_lieOf_39 : decode cX8_lieOf 39 = .ok (.ishr, 1) := by decide +kernel
theorem dX8_lieOf_40 : decode cX8_lieOf 40 = .ok (.iconst 1, 1) := by decide +kernel
theorem dX8_lieOf_41 : decode cX8_lieOf 41 = .ok (.iand, 1) := by decide +kernel
theorem dX8_lieOf_42 : decode cX8_lieOf 42 = .ok (.iconst 1, 1) := by decide +kernel
theorem dX8_lieOf_43 : decode cX8_lieOf 43 = .ok (.if_icmp .ne 6, 3) := by decide +kernel
theorem dX8_lieOf_46 : decode cX8_lieOf 46 = .ok (.goto 70, 3) := by decide +kernel
theorem dX8_lieOf_49 : decode cX8_lieOf 49 = .ok (.aload_n 0, 1) := by decide +kernel
theorem dX8_lieOf_50 : decode cX8_lieOf 50 = .ok (.getfield 64, 3) := by decide +kernel
theorem dX8_lieOf_53 : decode cX8_lieOf 53 = .ok (.bipush 8, 2) := by decide +kernel
theorem dX8_lieOf_55 : decode cX8_lieOf 55 = .ok (.iload_n 1, 1) := by decide +kernel
theorem dX8_lieOf_56 : decode cX8_lieOf 56 = .ok (.imul, 1) := by decide +kernel
theorem dX8_lieOf_57 : decode cX8_lieOf 57 = .ok (.iload 7, 2) := by decide +kernel
theorem dX8_lieOf_59 : decode cX8_lieOf 59 = .ok (.iadd, 1) := by decide +kernel
theorem dX8_lieOf_60 : decode cX8_lieOf 60 = .ok (.iaload, 1) := by decide +kernel
theorem dX8_lieOf_61 : decode cX8_lieOf 61 = .ok (.iload 4, 2) := by decide +kernel
theorem dX8_lieOf_63 : decode cX8_lieOf 63 = .ok (.if_icmp .ge 18, 3) := by decide +kernel
theorem dX8_lieOf_66 : decode cX8_lieOf 66 = .ok (.aload_n 0, 1) := by decide +kernel
theorem dX8_lieOf_67 : decode cX8_lieOf 67 = .ok (.getfield 64, 3) := by decide +kernel
theorem dX8_lieOf_70 : decode cX8_lieOf 70 = .ok (.bipush 8, 2) := by decide +kernel
theorem dX8_lieOf_72 : decode cX8_lieOf 72 = .ok (.iload_n 1, 1) := by decide +kernel
theorem dX8_lieOf_73 : decode cX8_lieOf 73 = .ok (.imul, 1) := by decide +kernel
theorem dX8_lieOf_74 : decode cX8_lieOf 74 = .ok (.iload 7, 2) := by decide +kernel
theorem dX8_lieOf_76 : decode cX8_lieOf 76 = .ok (.iadd, 1) := by decide +kernel
theorem dX8_lieOf_77 : decode cX8_lieOf 77 = .ok (.iaload, 1) := by decide +kernel
theorem dX8_lieOf_78 : decode cX8_lieOf 78 = .ok (.goto 5, 3) := by decide +kernel
theorem dX8_lieOf_81 : decode cX8_lieOf 81 = .ok (.iload 4, 2) := by decide +kernel
theorem dX8_lieOf_83 : decode cX8_lieOf 83 = .ok (.istore 8, 2) := by decide +kernel
theorem dX8_lieOf_85 : decode cX8_lieOf 85 = .ok (.aload_n 0, 1) := by decide +kernel
theorem dX8_lieOf_86 : decode cX8_lieOf 86 = .ok (.getfield 64, 3) := by decide +kernel
theorem dX8_lieOf_89 : decode cX8_lieOf 89 = .ok (.bipush 8, 2) := by decide +kernel
theorem dX8_lieOf_91 : decode cX8_lieOf 91 = .ok (.iload_n 1, 1) := by decide +kernel
theorem dX8_lieOf_92 : decode cX8_lieOf 92 = .ok (.imul, 1) := by decide +kernel
theorem dX8_lieOf_93 : decode cX8_lieOf 93 = .ok (.iload 7, 2) := by decide +kernel
theorem dX8_lieOf_95 : decode cX8_lieOf 95 = .ok (.iadd, 1) := by decide +kernel
theorem dX8_lieOf_96 : decode cX8_lieOf 96 = .ok (.dup2, 1) := by decide +kernel
theorem dX8_lieOf_97 : decode cX8_lieOf 97 = .ok (.iaload, 1) := by decide +kernel
theorem dX8_lieOf_98 : decode cX8_lieOf 98 = .ok (.iload 8, 2) := by decide +kernel
theorem dX8_lieOf_100 : decode cX8_lieOf 100 = .ok (.isub, 1) := by decide +kernel
theorem dX8_lieOf_101 : decode cX8_lieOf 101 = .ok (.iastore, 1) := by decide +kernel
theorem dX8_lieOf_102 : decode cX8_lieOf 102 = .ok (.iload 4, 2) := by decide +kernel
theorem dX8_lieOf_104 : decode cX8_lieOf 104 = .ok (.iload 8, 2) := by decide +kernel
theorem dX8_lieOf_106 : decode cX8_lieOf 106 = .ok (.isub, 1) := by decide +kernel
theorem dX8_lieOf_107 : decode cX8_lieOf 107 = .ok (.istore 4, 2) := by decide +kernel
theorem dX8_lieOf_109 : decode cX8_lieOf 109 = .ok (.iload 5, 2) := by decide +kernel
theorem dX8_lieOf_111 : decode cX8_lieOf 111 = .ok (.iload 8, 2) := by decide +kernel
theorem dX8_lieOf_113 : decode cX8_lieOf 113 = .ok (.iadd, 1) := by decide +kernel
theorem dX8_lieOf_114 : decode cX8_lieOf 114 = .ok (.istore 5, 2) := by decide +kernel
theorem dX8_lieOf_116 : decode cX8_lieOf 116 = .ok (.iinc 6 1, 3) := by decide +kernel
theorem dX8_lieOf_119 : decode cX8_lieOf 119 = .ok (.goto (-104), 3) := by decide +kernel
theorem dX8_lieOf_122 : decode cX8_lieOf 122 = .ok (.aload_n 0, 1) := by decide +kernel
theorem dX8_lieOf_123 : decode cX8_lieOf 123 = .ok (.getfield 67, 3) := by decide +kernel
theorem dX8_lieOf_126 : decode cX8_lieOf 126 = .ok (.iload_n 1, 1) := by decide +kernel
theorem dX8_lieOf_127 : decode cX8_lieOf 127 = .ok (.dup2, 1) := by decide +kernel
theorem dX8_lieOf_128 : decode cX8_lieOf 128 = .ok (.iaload, 1) := by decide +kernel
theorem dX8_lieOf_129 : decode cX8_lieOf 129 = .ok (.iconst 1, 1) := by decide +kernel
theorem dX8_lieOf_130 : decode cX8_lieOf 130 = .ok (.iadd, 1) := by decide +kernel
theorem dX8_lieOf_131 : decode cX8_lieOf 131 = .ok (.iastore, 1) := by decide +kernel
theorem dX8_lieOf_132 : decode cX8_lieOf 132 = .ok (.iload 5, 2) := by decide +kernel
theorem dX8_lieOf_134 : decode cX8_lieOf 134 = .ok (.ireturn, 1) := by decide +kernel
theorem dX8_sayOf_0 : decode cX8_sayOf 0 = .ok (.iload_n 3, 1) := by decide +kernel
theorem dX8_sayOf_1 : decode cX8_sayOf 1 = .ok (.aload_n 0, 1) := by decide +kernel
theorem dX8_sayOf_2 : decode cX8_sayOf 2 = .ok (.getfield 19, 3) := by decide +kernel
theorem dX8_sayOf_5 : decode cX8_sayOf 5 = .ok (.iload_n 2, 1) := by decide +kernel
theorem dX8_sayOf_6 : decode cX8_sayOf 6 = .ok (.iaload, 1) := by decide +kernel
theorem dX8_sayOf_7 : decode cX8_sayOf 7 = .ok (.if_icmp .ne 7, 3) := by decide +kernel
theorem dX8_sayOf_10 : decode cX8_sayOf 10 = .ok (.iconst 0, 1) := by decide +kernel
theorem dX8_sayOf_11 : decode cX8_sayOf 11 = .ok (.goto 11, 3) := by decide +kernel
theorem dX8_sayOf_14 : decode cX8_sayOf 14 = .ok (.aload_n 0, 1) := by decide +kernel
theorem dX8_sayOf_15 : decode cX8_sayOf 15 = .ok (.iload_n 1, 1) := by decide +kernel
theorem dX8_sayOf_16 : decode cX8_sayOf 16 = .ok (.iload_n 2, 1) := by decide +kernel
theorem dX8_sayOf_17 : decode cX8_sayOf 17 = .ok (.iload 4, 2) := by decide +kernel
theorem dX8_sayOf_19 : decode cX8_sayOf 19 = .ok (.invokevirtual 261, 3) := by decide +kernel
theorem dX8_sayOf_22 : decode cX8_sayOf 22 = .ok (.ireturn, 1) := by decide +kernel
theorem dX8_rowFault_0 : decode cX8_rowFault 0 = .ok (.aload_n 0, 1) := by decide +kernel
theorem dX8_rowFault_1 : decode cX8_rowFault 1 = .ok (.getfield 109, 3) := by decide +kernel
theorem dX8_rowFault_4 : decode cX8_rowFault 4 = .ok (.iload_n 1, 1) := by decide +kernel
theorem dX8_rowFault_5 : decode cX8_rowFault 5 = .ok (.iaload, 1) := by decide +kernel
theorem dX8_rowFault_6 : decode cX8_rowFault 6 = .ok (.iconst (-1), 1) := by decide +kernel
theorem dX8_rowFault_7 : decode cX8_rowFault 7 = .ok (.if_icmp .ne 8, 3) := by decide +kernel
theorem dX8_rowFault_10 : decode cX8_rowFault 10 = .ok (.bipush (-11), 2) := by decide +kernel
theorem dX8_rowFault_12 : decode cX8_rowFault 12 = .ok (.goto 20, 3) := by decide +kernel
theorem dX8_rowFault_15 : decode cX8_rowFault 15 = .ok (.aload_n 0, 1) := by decide +kernel
theorem dX8_rowFault_16 : decode cX8_rowFault 16 = .ok (.getfield 109, 3) := by decide +kernel
theorem dX8_rowFault_19 : decode cX8_rowFault 19 = .ok (.iload_n 1, 1) := by decide +kernel
theorem dX8_rowFault_20 : decode cX8_rowFault 20 = .ok (.iaload, 1) := by decide +kernel
theorem dX8_rowFault_21 : decode cX8_rowFault 21 = .ok (.bipush (-2), 2) := by decide +kernel
theorem dX8_rowFault_23 : decode cX8_rowFault 23 = .ok (.if_icmp .ne 7, 3) := by decide +kernel
theorem dX8_rowFault_26 : decode cX8_rowFault 26 = .ok (.iconst 0, 1) := by decide +kernel
theorem dX8_rowFault_27 : decode cX8_rowFault 27 = .ok (.goto 5, 3) := by decide +kernel
theorem dX8_rowFault_30 : decode cX8_rowFault 30 = .ok (.bipush (-12), 2) := by decide +kernel
theorem dX8_rowFault_32 : decode cX8_rowFault 32 = .ok (.ireturn, 1) := by decide +kernel
theorem dX8_seenAt_0 : decode cX8_seenAt 0 = .ok (.aload_n 0, 1) := by decide +kernel
theorem dX8_seenAt_1 : decode cX8_seenAt 1 = .ok (.getfield 115, 3) := by decide +kernel
theorem dX8_seenAt_4 : decode cX8_seenAt 4 = .ok (.bipush 60, 2) := by decide +kernel
theorem dX8_seenAt_6 : decode cX8_seenAt 6 = .ok (.iload_n 1, 1) := by decide +kernel
theorem dX8_seenAt_7 : decode cX8_seenAt 7 = .ok (.imul, 1) := by decide +kernel
theorem dX8_seenAt_8 : decode cX8_seenAt 8 = .ok (.iload_n 2, 1) := by decide +kernel
theorem dX8_seenAt_9 : decode cX8_seenAt 9 = .ok (.iadd, 1) := by decide +kernel
theorem dX8_seenAt_10 : decode cX8_seenAt 10 = .ok (.laload, 1) := by decide +kernel
theorem dX8_seenAt_11 : decode cX8_seenAt 11 = .ok (.l2i, 1) := by decide +kernel
theorem dX8_seenAt_12 : decode cX8_seenAt 12 = .ok (.ireturn, 1) := by decide +kernel
theorem dX8_layTrial_0 : decode cX8_layTrial 0 = .ok (.aload_n 0, 1) := by decide +kernel
theorem dX8_layTrial_1 : decode cX8_layTrial 1 = .ok (.iconst 0, 1) := by decide +kernel
theorem dX8_layTrial_2 : decode cX8_layTrial 2 = .ok (.putfield 264, 3) := by decide +kernel
theorem dX8_layTrial_5 : decode cX8_layTrial 5 = .ok (.iconst 0, 1) := by decide +kernel
theorem dX8_layTrial_6 : decode cX8_layTrial 6 = .ok (.istore_n 2, 1) := by decide +kernel
theorem dX8_layTrial_7 : decode cX8_layTrial 7 = .ok (.iconst 4, 1) := by decide +kernel
theorem dX8_layTrial_8 : decode cX8_layTrial 8 = .ok (.iload_n 2, 1) := by decide +kernel
theorem dX8_layTrial_9 : decode cX8_layTrial 9 = .ok (.imul, 1) := by decide +kernel
theorem dX8_layTrial_10 : decode cX8_layTrial 10 = .ok (.iconst 3, 1) := by decide +kernel
theorem dX8_layTrial_11 : decode cX8_layTrial 11 = .ok (.iadd, 1) := by decide +kernel
theorem dX8_layTrial_12 : decode cX8_layTrial 12 = .ok (.aload_n 0, 1) := by decide +kernel
theorem dX8_layTrial_13 : decode cX8_layTrial 13 = .ok (.getfield 112, 3) := by decide +kernel
theorem dX8_layTrial_16 : decode cX8_layTrial 16 = .ok (.iload_n 1, 1) := by decide +kernel
theorem dX8_layTrial_17 : decode cX8_layTrial 17 = .ok (.iaload, 1) := by decide +kernel
theorem dX8_layTrial_18 : decode cX8_layTrial 18 = .ok (.if_icmp .ge 156, 3) := by decide +kernel
theorem dX8_layTrial_21 : decode cX8_layTrial 21 = .ok (.iload_n 2, 1) := by decide +kernel
theorem dX8_layTrial_22 : decode cX8_layTrial 22 = .ok (.bipush 15, 2) := by decide +kernel
theorem dX8_layTrial_24 : decode cX8_layTrial 24 = .ok (.if_icmp .ge 150, 3) := by decide +kernel
theorem dX8_layTrial_27 : decode cX8_layTrial 27 = .ok (.aload_n 0, 1) := by decide +kernel
theorem dX8_layTrial_28 : decode cX8_layTrial 28 = .ok (.aload_n 0, 1) := by decide +kernel
theorem dX8_layTrial_29 : decode cX8_layTrial 29 = .ok (.iload_n 1, 1) := by decide +kernel
theorem dX8_layTrial_30 : decode cX8_layTrial 30 = .ok (.iconst 4, 1) := by decide +kernel
theorem dX8_layTrial_31 : decode cX8_layTrial 31 = .ok (.iload_n 2, 1) := by decide +kernel
theorem dX8_layTrial_32 : decode cX8_layTrial 32 = .ok (.imul, 1) := by decide +kernel
theorem dX8_layTrial_33 : decode cX8_layTrial 33 = .ok (.invokevirtual 267, 3) := by decide +kernel
theorem dX8_layTrial_36 : decode cX8_layTrial 36 = .ok (.invokevirtual 156, 3) := by decide +kernel
theorem dX8_layTrial_39 : decode cX8_layTrial 39 = .ok (.ifCond .eq 56, 3) := by decide +kernel
theorem dX8_layTrial_42 : decode cX8_layTrial 42 = .ok (.aload_n 0, 1) := by decide +kernel
theorem dX8_layTrial_43 : decode cX8_layTrial 43 = .ok (.iload_n 1, 1) := by decide +kernel
theorem dX8_layTrial_44 : decode cX8_layTrial 44 = .ok (.iconst 4, 1) := by decide +kernel
theorem dX8_layTrial_45 : decode cX8_layTrial 45 = .ok (.iload_n 2, 1) := by decide +kernel
theorem dX8_layTrial_46 : decode cX8_layTrial 46 = .ok (.imul, 1) := by decide +kernel
theorem dX8_layTrial_47 : decode cX8_layTrial 47 = .ok (.iconst 1, 1) := by decide +kernel
theorem dX8_layTrial_48 : decode cX8_layTrial 48 = .ok (.iadd, 1) := by decide +kernel
theorem dX8_layTrial_49 : decode cX8_layTrial 49 = .ok (.invokevirtual 267, 3) := by decide +kernel
theorem dX8_layTrial_52 : decode cX8_layTrial 52 = .ok (.invokestatic 159, 3) := by decide +kernel
theorem dX8_layTrial_55 : decode cX8_layTrial 55 = .ok (.ifCond .eq 40, 3) := by decide +kernel
theorem dX8_layTrial_58 : decode cX8_layTrial 58 = .ok (.aload_n 0, 1) := by decide +kernel
theorem dX8_layTrial_59 : decode cX8_layTrial 59 = .ok (.iload_n 1, 1) := by decide +kernel
theorem dX8_layTrial_60 : decode cX8_layTrial 60 = .ok (.iconst 4, 1) := by decide +kernel
theorem dX8_layTrial_61 : decode cX8_layTrial 61 = .ok (.iload_n 2, 1) := by decide +kernel
theorem dX8_layTrial_62 : decode cX8_layTrial 62 = .ok (.imul, 1) := by decide +kernel
theorem dX8_layTrial_63 : decode cX8_layTrial 63 = .ok (.iconst 2, 1) := by decide +kernel
theorem dX8_layTrial_64 : decode cX8_layTrial 64 = .ok (.iadd, 1) := by decide +kernel
theorem dX8_layTrial_65 : decode cX8_layTrial 65 = .ok (.invokevirtual 267, 3) := by decide +kernel
theorem dX8_layTrial_68 : decode cX8_layTrial 68 = .ok (.iconst 0, 1) := by decide +kernel
theorem dX8_layTrial_69 : decode cX8_layTrial 69 = .ok (.iconst 1, 1) := by decide +kernel
theorem dX8_layTrial_70 : decode cX8_layTrial 70 = .ok (.invokestatic 128, 3) := by decide +kernel
theorem dX8_layTrial_73 : decode cX8_layTrial 73 = .ok (.ifCond .eq 22, 3) := by decide +kernel
theorem dX8_layTrial_76 : decode cX8_layTrial 76 = .ok (.aload_n 0, 1) := by decide +kernel
theorem dX8_layTrial_77 : decode cX8_layTrial 77 = .ok (.iload_n 1, 1) := by decide +kernel
theorem dX8_layTrial_78 : decode cX8_layTrial 78 = .ok (.iconst 4, 1) := by decide +kernel
theorem dX8_layTrial_79 : decode cX8_layTrial 79 = .ok (.iload_n 2, 1) := by decide +kernel
theorem dX8_layTrial_80 : decode cX8_layTrial 80 = .ok (.imul, 1) := by decide +kernel
theorem dX8_layTrial_81 : decode cX8_layTrial 81 = .ok (.iconst 3, 1) := by decide +kernel
theorem dX8_layTrial_82 : decode cX8_layTrial 82 = .ok (.iadd, 1) := by decide +kernel
theorem dX8_layTrial_83 : decode cX8_layTrial 83 = .ok (.invokevirtual 267, 3) := by decide +kernel
theorem dX8_layTrial_86 : decode cX8_layTrial 86 = .ok (.iconst 0, 1) := by decide +kernel
theorem dX8_layTrial_87 : decode cX8_layTrial 87 = .ok (.bipush 9, 2) := by decide +kernel
theorem dX8_layTrial_89 : decode cX8_layTrial 89 = .ok (.invokestatic 128, 3) := by decide +kernel
theorem dX8_layTrial_92 : decode cX8_layTrial 92 = .ok (.ifCond .ne 4, 3) := by decide +kernel
theorem dX8_layTrial_95 : decode cX8_layTrial 95 = .ok (.return_, 1) := by decide +kernel
theorem dX8_layTrial_96 : decode cX8_layTrial 96 = .ok (.aload_n 0, 1) := by decide +kernel
theorem dX8_layTrial_97 : decode cX8_layTrial 97 = .ok (.getfield 70, 3) := by decide +kernel
theorem dX8_layTrial_100 : decode cX8_layTrial 100 = .ok (.iload_n 2, 1) := by decide +kernel
theorem dX8_layTrial_101 : decode cX8_layTrial 101 = .ok (.aload_n 0, 1) := by decide +kernel
theorem dX8_layTrial_102 : decode cX8_layTrial 102 = .ok (.iload_n 1, 1) := by decide +kernel
theorem dX8_layTrial_103 : decode cX8_layTrial 103 = .ok (.iconst 4, 1) := by decide +kernel
theorem dX8_layTrial_104 : decode cX8_layTrial 104 = .ok (.iload_n 2, 1) := by decide +kernel
theorem dX8_layTrial_105 : decode cX8_layTrial 105 = .ok (.imul, 1) := by decide +kernel
theorem dX8_layTrial_106 : decode cX8_layTrial 106 = .ok (.invokevirtual 267, 3) := by decide +kernel
theorem dX8_layTrial_109 : decode cX8_layTrial 109 = .ok (.iastore, 1) := by decide +kernel
theorem dX8_layTrial_110 : decode cX8_layTrial 110 = .ok (.aload_n 0, 1) := by decide +kernel
theorem dX8_layTrial_111 : decode cX8_layTrial 111 = .ok (.getfield 73, 3) := by decide +kernel
theorem dX8_layTrial_114 : decode cX8_layTrial 114 = .ok (.iload_n 2, 1) := by decide +kernel
theorem dX8_layTrial_115 : decode cX8_layTrial 115 = .ok (.aload_n 0, 1) := by decide +kernel
theorem dX8_layTrial_116 : decode cX8_layTrial 116 = .ok (.iload_n 1, 1) := by decide +kernel
theorem dX8_layTrial_117 : decode cX8_layTrial 117 = .ok (.iconst 4, 1) := by decide +kernel
theorem dX8_layTrial_118 : decode cX8_layTrial 118 = .ok (.iload_n 2, 1) := by decide +kernel
theorem dX8_layTrial_119 : decode cX8_layTrial 119 = .ok (.imul, 1) := by decide +kernel
theorem dX8_layTrial_120 : decode cX8_layTrial 120 = .ok (.iconst 1, 1) := by decide +kernel
theorem dX8_layTrial_121 : decode cX8_layTrial 121 = .ok (.iadd, 1) := by decide +kernel
theorem dX8_layTrial_122 : decode cX8_layTrial 122 = .ok (.invokevirtual 267, 3) := by decide +kernel
theorem dX8_layTrial_125 : decode cX8_layTrial 125 = .ok (.iastore, 1) := by decide +kernel
theorem dX8_layTrial_126 : decode cX8_layTrial 126 = .ok (.aload_n 0, 1) := by decide +kernel
theorem dX8_layTrial_127 : decode cX8_layTrial 127 = .ok (.getfield 76, 3) := by decide +kernel
theorem dX8_layTrial_130 : decode cX8_layTrial 130 = .ok (.iload_n 2, 1) := by decide +kernel
theorem dX8_layTrial_131 : decode cX8_layTrial 131 = .ok (.aload_n 0, 1) := by decide +kernel
theorem dX8_layTrial_132 : decode cX8_layTrial 132 = .ok (.iload_n 1, 1) := by decide +kernel
theorem dX8_layTrial_133 : decode cX8_layTrial 133 = .ok (.iconst 4, 1) := by decide +kernel
theorem dX8_layTrial_134 : decode cX8_layTrial 134 = .ok (.iload_n 2, 1) := by decide +kernel
theorem dX8_layTrial_135 : decode cX8_layTrial 135 = .ok (.imul, 1) := by decide +kernel
theorem dX8_layTrial_136 : decode cX8_layTrial 136 = .ok (.iconst 2, 1) := by decide +kernel
theorem dX8_layTrial_137 : decode cX8_layTrial 137 = .ok (.iadd, 1) := by decide +kernel
theorem dX8_layTrial_138 : decode cX8_layTrial 138 = .ok (.invokevirtual 267, 3) := by decide +kernel
theorem dX8_layTrial_141 : decode cX8_layTrial 141 = .ok (.iastore, 1) := by decide +kernel
theorem dX8_layTrial_142 : decode cX8_layTrial 142 = .ok (.aload_n 0, 1) := by decide +kernel
theorem dX8_layTrial_143 : decode cX8_layTrial 143 = .ok (.getfield 79, 3) := by decide +kernel
theorem dX8_layTrial_146 : decode cX8_layTrial 146 = .ok (.iload_n 2, 1) := by decide +kernel
theorem dX8_layTrial_147 : decode cX8_layTrial 147 = .ok (.aload_n 0, 1) := by decide +kernel
theorem dX8_layTrial_148 : decode cX8_layTrial 148 = .ok (.iload_n 1, 1) := by decide +kernel
theorem dX8_layTrial_149 : decode cX8_layTrial 149 = .ok (.iconst 4, 1) := by decide +kernel
theorem dX8_layTrial_150 : decode cX8_layTrial 150 = .ok (.iload_n 2, 1) := by decide +kernel
theorem dX8_layTrial_151 : decode cX8_layTrial 151 = .ok (.imul, 1) := by decide +kernel
theorem dX8_layTrial_152 : decode cX8_layTrial 152 = .ok (.iconst 3, 1) := by decide +kernel
theorem dX8_layTrial_153 : decode cX8_layTrial 153 = .ok (.iadd, 1) := by decide +kernel
theorem dX8_layTrial_154 : decode cX8_layTrial 154 = .ok (.invokevirtual 267, 3) := by decide +kernel
theorem dX8_layTrial_157 : decode cX8_layTrial 157 = .ok (.iastore, 1) := by decide +kernel
theorem dX8_layTrial_158 : decode cX8_layTrial 158 = .ok (.aload_n 0, 1) := by decide +kernel
theorem dX8_layTrial_159 : decode cX8_layTrial 159 = .ok (.dup, 1) := by decide +kernel
theorem dX8_layTrial_160 : decode cX8_layTrial 160 = .ok (.getfield 264, 3) := by decide +kernel
theorem dX8_layTrial_163 : decode cX8_layTrial 163 = .ok (.iconst 1, 1) := by decide +kernel
theorem dX8_layTrial_164 : decode cX8_layTrial 164 = .ok (.iadd, 1) := by decide +kernel
theorem dX8_layTrial_165 : decode cX8_layTrial 165 = .ok (.putfield 264, 3) := by decide +kernel
theorem dX8_layTrial_168 : decode cX8_layTrial 168 = .ok (.iinc 2 1, 3) := by decide +kernel
theorem dX8_layTrial_171 : decode cX8_layTrial 171 = .ok (.goto (-164), 3) := by decide +kernel
theorem dX8_layTrial_174 : decode cX8_layTrial 174 = .ok (.return_, 1) := by decide +kernel
theorem dX8_goTrial_0 : decode cX8_goTrial 0 = .ok (.aload_n 0, 1) := by decide +kernel
theorem dX8_goTrial_1 : decode cX8_goTrial 1 = .ok (.invokevirtual 172, 3) := by decide +kernel
theorem dX8_goTrial_4 : decode cX8_goTrial 4 = .ok (.iconst 0, 1) := by decide +kernel
theorem dX8_goTrial_5 : decode cX8_goTrial 5 = .ok (.istore_n 2, 1) := by decide +kernel
theorem dX8_goTrial_6 : decode cX8_goTrial 6 = .ok (.iload_n 2, 1) := by decide +kernel
theorem dX8_goTrial_7 : decode cX8_goTrial 7 = .ok (.bipush 70, 2) := by decide +kernel
theorem dX8_goTrial_9 : decode cX8_goTrial 9 = .ok (.if_icmp .ge 16, 3) := by decide +kernel
theorem dX8_goTrial_12 : decode cX8_goTrial 12 = .ok (.aload_n 0, 1) := by decide +kernel
theorem dX8_goTrial_13 : decode cX8_goTrial 13 = .ok (.getfield 82, 3) := by decide +kernel
theorem dX8_goTrial_16 : decode cX8_goTrial 16 = .ok (.iload_n 2, 1) := by decide +kernel
theorem dX8_goTrial_17 : decode cX8_goTrial 17 = .ok (.iconst (-1), 1) := by decide +kernel
theorem dX8_goTrial_18 : decode cX8_goTrial 18 = .ok (.iastore, 1) := by decide +kernel
theorem dX8_goTrial_19 : decode cX8_goTrial 19 = .ok (.iinc 2 1, 3) := by decide +kernel
theorem dX8_goTrial_22 : decode cX8_goTrial 22 = .ok (.goto (-16), 3) := by decide +kernel
theorem dX8_goTrial_25 : decode cX8_goTrial 25 = .ok (.aload_n 0, 1) := by decide +kernel
theorem dX8_goTrial_26 : decode cX8_goTrial 26 = .ok (.bipush (-2), 2) := by decide +kernel
theorem dX8_goTrial_28 : decode cX8_goTrial 28 = .ok (.putfield 270, 3) := by decide +kernel
theorem dX8_goTrial_31 : decode cX8_goTrial 31 = .ok (.aload_n 0, 1) := by decide +kernel
theorem dX8_goTrial_32 : decode cX8_goTrial 32 = .ok (.iconst 0, 1) := by decide +kernel
theorem dX8_goTrial_33 : decode cX8_goTrial 33 = .ok (.putfield 273, 3) := by decide +kernel
theorem dX8_goTrial_36 : decode cX8_goTrial 36 = .ok (.iconst 0, 1) := by decide +kernel
theorem dX8_goTrial_37 : decode cX8_goTrial 37 = .ok (.istore_n 2, 1) := by decide +kernel
theorem dX8_goTrial_38 : decode cX8_goTrial 38 = .ok (.iload_n 2, 1) := by decide +kernel
theorem dX8_goTrial_39 : decode cX8_goTrial 39 = .ok (.aload_n 0, 1) := by decide +kernel
theorem dX8_goTrial_40 : decode cX8_goTrial 40 = .ok (.getfield 264, 3) := by decide +kernel
theorem dX8_goTrial_43 : decode cX8_goTrial 43 = .ok (.if_icmp .ge 116, 3) := by decide +kernel
theorem dX8_goTrial_46 : decode cX8_goTrial 46 = .ok (.aload_n 0, 1) := by decide +kernel
theorem dX8_goTrial_47 : decode cX8_goTrial 47 = .ok (.getfield 70, 3) := by decide +kernel
theorem dX8_goTrial_50 : decode cX8_goTrial 50 = .ok (.iload_n 2, 1) := by decide +kernel
theorem dX8_goTrial_51 : decode cX8_goTrial 51 = .ok (.iaload, 1) := by decide +kernel
theorem dX8_goTrial_52 : decode cX8_goTrial 52 = .ok (.istore_n 3, 1) := by decide +kernel
theorem dX8_goTrial_53 : decode cX8_goTrial 53 = .ok (.aload_n 0, 1) := by decide +kernel
theorem dX8_goTrial_54 : decode cX8_goTrial 54 = .ok (.getfield 76, 3) := by decide +kernel
theorem dX8_goTrial_57 : decode cX8_goTrial 57 = .ok (.iload_n 2, 1) := by decide +kernel
theorem dX8_goTrial_58 : decode cX8_goTrial 58 = .ok (.iaload, 1) := by decide +kernel
theorem dX8_goTrial_59 : decode cX8_goTrial 59 = .ok (.iload_n 1, 1) := by decide +kernel
theorem dX8_goTrial_60 : decode cX8_goTrial 60 = .ok (.iload_n 2, 1) := by decide +kernel
theorem dX8_goTrial_61 : decode cX8_goTrial 61 = .ok (.ishr, 1) := by decide +kernel
theorem dX8_goTrial_62 : decode cX8_goTrial 62 = .ok (.iconst 1, 1) := by decide +kernel
theorem dX8_goTrial_63 : decode cX8_goTrial 63 = .ok (.iand, 1) := by decide +kernel
theorem dX8_goTrial_64 : decode cX8_goTrial 64 = .ok (.ixor, 1) := by decide +kernel
theorem dX8_goTrial_65 : decode cX8_goTrial 65 = .ok (.istore 4, 2) := by decide +kernel
theorem dX8_goTrial_67 : decode cX8_goTrial 67 = .ok (.iload 4, 2) := by decide +kernel
theorem dX8_goTrial_69 : decode cX8_goTrial 69 = .ok (.aload_n 0, 1) := by decide +kernel
theorem dX8_goTrial_70 : decode cX8_goTrial 70 = .ok (.getfield 19, 3) := by decide +kernel
theorem dX8_goTrial_73 : decode cX8_goTrial 73 = .ok (.aload_n 0, 1) := by decide +kernel
theorem dX8_goTrial_74 : decode cX8_goTrial 74 = .ok (.getfield 73, 3) := by decide +kernel
theorem dX8_goTrial_77 : decode cX8_goTrial 77 = .ok (.iload_n 2, 1) := by decide +kernel
theorem dX8_goTrial_78 : decode cX8_goTrial 78 = .ok (.iaload, 1) := by decide +kernel
theorem dX8_goTrial_79 : decode cX8_goTrial 79 = .ok (.iaload, 1) := by decide +kernel
theorem dX8_goTrial_80 : decode cX8_goTrial 80 = .ok (.if_icmp .eq 15, 3) := by decide +kernel
theorem dX8_goTrial_83 : decode cX8_goTrial 83 = .ok (.aload_n 0, 1) := by decide +kernel
theorem dX8_goTrial_84 : decode cX8_goTrial 84 = .ok (.dup, 1) := by decide +kernel
theorem dX8_goTrial_85 : decode cX8_goTrial 85 = .ok (.getfield 273, 3) := by decide +kernel
theorem dX8_goTrial_88 : decode cX8_goTrial 88 = .ok (.iconst 1, 1) := by decide +kernel
theorem dX8_goTrial_89 : decode cX8_goTrial 89 = .ok (.iload_n 3, 1) := by decide +kernel
theorem dX8_goTrial_90 : decode cX8_goTrial 90 = .ok (.ishl, 1) := by decide +kernel
theorem dX8_goTrial_91 : decode cX8_goTrial 91 = .ok (.ior, 1) := by decide +kernel
theorem dX8_goTrial_92 : decode cX8_goTrial 92 = .ok (.putfield 273, 3) := by decide +kernel
theorem dX8_goTrial_95 : decode cX8_goTrial 95 = .ok (.aload_n 0, 1) := by decide +kernel
theorem dX8_goTrial_96 : decode cX8_goTrial 96 = .ok (.iload_n 3, 1) := by decide +kernel
theorem dX8_goTrial_97 : decode cX8_goTrial 97 = .ok (.aload_n 0, 1) := by decide +kernel
theorem dX8_goTrial_98 : decode cX8_goTrial 98 = .ok (.getfield 73, 3) := by decide +kernel
theorem dX8_goTrial_101 : decode cX8_goTrial 101 = .ok (.iload_n 2, 1) := by decide +kernel
theorem dX8_goTrial_102 : decode cX8_goTrial 102 = .ok (.iaload, 1) := by decide +kernel
theorem dX8_goTrial_103 : decode cX8_goTrial 103 = .ok (.iload 4, 2) := by decide +kernel
theorem dX8_goTrial_105 : decode cX8_goTrial 105 = .ok (.aload_n 0, 1) := by decide +kernel
theorem dX8_goTrial_106 : decode cX8_goTrial 106 = .ok (.getfield 79, 3) := by decide +kernel
theorem dX8_goTrial_109 : decode cX8_goTrial 109 = .ok (.iload_n 2, 1) := by decide +kernel
theorem dX8_goTrial_110 : decode cX8_goTrial 110 = .ok (.iaload, 1) := by decide +kernel
theorem dX8_goTrial_111 : decode cX8_goTrial 111 = .ok (.invokevirtual 276, 3) := by decide +kernel
theorem dX8_goTrial_114 : decode cX8_goTrial 114 = .ok (.pop, 1) := by decide +kernel
theorem dX8_goTrial_115 : decode cX8_goTrial 115 = .ok (.aload_n 0, 1) := by decide +kernel
theorem dX8_goTrial_116 : decode cX8_goTrial 116 = .ok (.getfield 82, 3) := by decide +kernel
theorem dX8_goTrial_119 : decode cX8_goTrial 119 = .ok (.bipush 10, 2) := by decide +kernel
theorem dX8_goTrial_121 : decode cX8_goTrial 121 = .ok (.iload_n 3, 1) := by decide +kernel
theorem dX8_goTrial_122 : decode cX8_goTrial 122 = .ok (.imul, 1) := by decide +kernel
theorem dX8_goTrial_123 : decode cX8_goTrial 123 = .ok (.aload_n 0, 1) := by decide +kernel
theorem dX8_goTrial_124 : decode cX8_goTrial 124 = .ok (.getfield 73, 3) := by decide +kernel
theorem dX8_goTrial_127 : decode cX8_goTrial 127 = .ok (.iload_n 2, 1) := by decide +kernel
theorem dX8_goTrial_128 : decode cX8_goTrial 128 = .ok (.iaload, 1) := by decide +kernel
theorem dX8_goTrial_129 : decode cX8_goTrial 129 = .ok (.iadd, 1) := by decide +kernel
theorem dX8_goTrial_130 : decode cX8_goTrial 130 = .ok (.iload 4, 2) := by decide +kernel
theorem dX8_goTrial_132 : decode cX8_goTrial 132 = .ok (.iastore, 1) := by decide +kernel
theorem dX8_goTrial_133 : decode cX8_goTrial 133 = .ok (.aload_n 0, 1) := by decide +kernel
theorem dX8_goTrial_134 : decode cX8_goTrial 134 = .ok (.getfield 270, 3) := by decide +kernel
theorem dX8_goTrial_137 : decode cX8_goTrial 137 = .ok (.ifCond .ge 16, 3) := by decide +kernel
theorem dX8_goTrial_140 : decode cX8_goTrial 140 = .ok (.aload_n 0, 1) := by decide +kernel
theorem dX8_goTrial_141 : decode cX8_goTrial 141 = .ok (.iload_n 3, 1) := by decide +kernel
theorem dX8_goTrial_142 : decode cX8_goTrial 142 = .ok (.invokevirtual 280, 3) := by decide +kernel
theorem dX8_goTrial_145 : decode cX8_goTrial 145 = .ok (.ifCond .eq 8, 3) := by decide +kernel
theorem dX8_goTrial_148 : decode cX8_goTrial 148 = .ok (.aload_n 0, 1) := by decide +kernel
theorem dX8_goTrial_149 : decode cX8_goTrial 149 = .ok (.iload_n 2, 1) := by decide +kernel
theorem dX8_goTrial_150 : decode cX8_goTrial 150 = .ok (.putfield 270, 3) := by decide +kernel
theorem dX8_goTrial_153 : decode cX8_goTrial 153 = .ok (.iinc 2 1, 3) := by decide +kernel
theorem dX8_goTrial_156 : decode cX8_goTrial 156 = .ok (.goto (-118), 3) := by decide +kernel
theorem dX8_goTrial_159 : decode cX8_goTrial 159 = .ok (.return_, 1) := by decide +kernel
theorem dX8_believedNow_0 : decode cX8_believedNow 0 = .ok (.iconst 0, 1) := by decide +kernel
theorem dX8_believedNow_1 : decode cX8_believedNow 1 = .ok (.istore_n 2, 1) := by decide +kernel
theorem dX8_believedNow_2 : decode cX8_believedNow 2 = .ok (.iconst 0, 1) := by decide +kernel
theorem dX8_believedNow_3 : decode cX8_believedNow 3 = .ok (.istore_n 3, 1) := by decide +kernel
theorem dX8_believedNow_4 : decode cX8_believedNow 4 = .ok (.iload_n 3, 1) := by decide +kernel
theorem dX8_believedNow_5 : decode cX8_believedNow 5 = .ok (.aload_n 0, 1) := by decide +kernel
theorem dX8_believedNow_6 : decode cX8_believedNow 6 = .ok (.getfield 125, 3) := by decide +kernel
theorem dX8_believedNow_9 : decode cX8_believedNow 9 = .ok (.if_icmp .ge 50, 3) := by decide +kernel
theorem dX8_believedNow_12 : decode cX8_believedNow 12 = .ok (.aload_n 0, 1) := by decide +kernel
theorem dX8_believedNow_13 : decode cX8_believedNow 13 = .ok (.getfield 82, 3) := by decide +kernel
theorem dX8_believedNow_16 : decode cX8_believedNow 16 = .ok (.bipush 10, 2) := by decide +kernel
theorem dX8_believedNow_18 : decode cX8_believedNow 18 = .ok (.iload_n 3, 1) := by decide +kernel
theorem dX8_believedNow_19 : decode cX8_believedNow 19 = .ok (.imul, 1) := by decide +kernel
theorem dX8_believedNow_20 : decode cX8_believedNow 20 = .ok (.iload_n 1, 1) := by decide +kernel
theorem dX8_believedNow_21 : decode cX8_believedNow 21 = .ok (.iadd, 1) := by decide +kernel
theorem dX8_believedNow_22 : decode cX8_believedNow 22 = .ok (.iaload, 1) := by decide +kernel
theorem dX8_believedNow_23 : decode cX8_believedNow 23 = .ok (.istore 4, 2) := by decide +kernel
theorem dX8_believedNow_25 : decode cX8_believedNow 25 = .ok (.iload 4, 2) := by decide +kernel
theorem dX8_believedNow_27 : decode cX8_believedNow 27 = .ok (.ifCond .lt 26, 3) := by decide +kernel
theorem dX8_believedNow_30 : decode cX8_believedNow 30 = .ok (.iload_n 2, 1) := by decide +kernel
theorem dX8_believedNow_31 : decode cX8_believedNow 31 = .ok (.iload 4, 2) := by decide +kernel
theorem dX8_believedNow_33 : decode cX8_believedNow 33 = .ok (.iconst 1, 1) := by decide +kernel
theorem dX8_believedNow_34 : decode cX8_believedNow 34 = .ok (.if_icmp .ne 11, 3) := by decide +kernel
theorem dX8_believedNow_37 : decode cX8_believedNow 37 = .ok (.aload_n 0, 1) := by decide +kernel
theorem dX8_believedNow_38 : decode cX8_believedNow 38 = .ok (.iload_n 3, 1) := by decide +kernel
theorem dX8_believedNow_39 : decode cX8_believedNow 39 = .ok (.invokevirtual 175, 3) := by decide +kernel
theorem dX8_believedNow_42 : decode cX8_believedNow 42 = .ok (.goto 9, 3) := by decide +kernel
theorem dX8_believedNow_45 : decode cX8_believedNow 45 = .ok (.aload_n 0, 1) := by decide +kernel
theorem dX8_believedNow_46 : decode cX8_believedNow 46 = .ok (.iload_n 3, 1) := by decide +kernel
theorem dX8_believedNow_47 : decode cX8_believedNow 47 = .ok (.invokevirtual 175, 3) := by decide +kernel
theorem dX8_believedNow_50 : decode cX8_believedNow 50 = .ok (.ineg, 1) := by decide +kernel
theorem dX8_believedNow_51 : decode cX8_believedNow 51 = .ok (.iadd, 1) := by decide +kernel
theorem dX8_believedNow_52 : decode cX8_believedNow 52 = .ok (.istore_n 2, 1) := by decide +kernel
theorem dX8_believedNow_53 : decode cX8_believedNow 53 = .ok (.iinc 3 1, 3) := by decide +kernel
theorem dX8_believedNow_56 : decode cX8_believedNow 56 = .ok (.goto (-52), 3) := by decide +kernel
theorem dX8_believedNow_59 : decode cX8_believedNow 59 = .ok (.iload_n 2, 1) := by decide +kernel
theorem dX8_believedNow_60 : decode cX8_believedNow 60 = .ok (.ifCond .le 7, 3) := by decide +kernel
theorem dX8_believedNow_63 : decode cX8_believedNow 63 = .ok (.iconst 1, 1) := by decide +kernel
theorem dX8_believedNow_64 : decode cX8_believedNow 64 = .ok (.goto 13, 3) := by decide +kernel
theorem dX8_believedNow_67 : decode cX8_believedNow 67 = .ok (.iload_n 2, 1) := by decide +kernel
theorem dX8_believedNow_68 : decode cX8_believedNow 68 = .ok (.ifCond .ge 7, 3) := by decide +kernel
theorem dX8_believedNow_71 : decode cX8_believedNow 71 = .ok (.iconst 0, 1) := by decide +kernel
theorem dX8_believedNow_72 : decode cX8_believedNow 72 = .ok (.goto 5, 3) := by decide +kernel
theorem dX8_believedNow_75 : decode cX8_believedNow 75 = .ok (.bipush (-2), 2) := by decide +kernel
theorem dX8_believedNow_77 : decode cX8_believedNow 77 = .ok (.ireturn, 1) := by decide +kernel
theorem dX8_layOr_0 : decode cX8_layOr 0 = .ok (.aload_n 0, 1) := by decide +kernel
theorem dX8_layOr_1 : decode cX8_layOr 1 = .ok (.iload_n 1, 1) := by decide +kernel
theorem dX8_layOr_2 : decode cX8_layOr 2 = .ok (.invokevirtual 283, 3) := by decide +kernel
theorem dX8_layOr_5 : decode cX8_layOr 5 = .ok (.istore_n 2, 1) := by decide +kernel
theorem dX8_layOr_6 : decode cX8_layOr 6 = .ok (.iload_n 2, 1) := by decide +kernel
theorem dX8_layOr_7 : decode cX8_layOr 7 = .ok (.ifCond .ge 5, 3) := by decide +kernel
theorem dX8_layOr_10 : decode cX8_layOr 10 = .ok (.iload_n 2, 1) := by decide +kernel
theorem dX8_layOr_11 : decode cX8_layOr 11 = .ok (.ireturn, 1) := by decide +kernel
theorem dX8_layOr_12 : decode cX8_layOr 12 = .ok (.aload_n 0, 1) := by decide +kernel
theorem dX8_layOr_13 : decode cX8_layOr 13 = .ok (.iload_n 1, 1) := by decide +kernel
theorem dX8_layOr_14 : decode cX8_layOr 14 = .ok (.invokevirtual 286, 3) := by decide +kernel
theorem dX8_layOr_17 : decode cX8_layOr 17 = .ok (.aload_n 0, 1) := by decide +kernel
theorem dX8_layOr_18 : decode cX8_layOr 18 = .ok (.iconst 0, 1) := by decide +kernel
theorem dX8_layOr_19 : decode cX8_layOr 19 = .ok (.invokevirtual 290, 3) := by decide +kernel
theorem dX8_layOr_22 : decode cX8_layOr 22 = .ok (.iconst 0, 1) := by decide +kernel
theorem dX8_layOr_23 : decode cX8_layOr 23 = .ok (.ireturn, 1) := by decide +kernel
theorem dX8_trial_0 : decode cX8_trial 0 = .ok (.iload_n 1, 1) := by decide +kernel
theorem dX8_trial_1 : decode cX8_trial 1 = .ok (.invokestatic 132, 3) := by decide +kernel
theorem dX8_trial_4 : decode cX8_trial 4 = .ok (.ifCond .eq 26, 3) := by decide +kernel
theorem dX8_trial_7 : decode cX8_trial 7 = .ok (.iload_n 2, 1) := by decide +kernel
theorem dX8_trial_8 : decode cX8_trial 8 = .ok (.iconst (-1), 1) := by decide +kernel
theorem dX8_trial_9 : decode cX8_trial 9 = .ok (.aload_n 0, 1) := by decide +kernel
theorem dX8_trial_10 : decode cX8_trial 10 = .ok (.getfield 125, 3) := by decide +kernel
theorem dX8_trial_13 : decode cX8_trial 13 = .ok (.iconst 1, 1) := by decide +kernel
theorem dX8_trial_14 : decode cX8_trial 14 = .ok (.isub, 1) := by decide +kernel
theorem dX8_trial_15 : decode cX8_trial 15 = .ok (.invokestatic 128, 3) := by decide +kernel
theorem dX8_trial_18 : decode cX8_trial 18 = .ok (.ifCond .eq 12, 3) := by decide +kernel
theorem dX8_trial_21 : decode cX8_trial 21 = .ok (.iload_n 3, 1) := by decide +kernel
theorem dX8_trial_22 : decode cX8_trial 22 = .ok (.iconst 0, 1) := by decide +kernel
theorem dX8_trial_23 : decode cX8_trial 23 = .ok (.iconst 1, 1) := by decide +kernel
theorem dX8_trial_24 : decode cX8_trial 24 = .ok (.invokestatic 128, 3) := by decide +kernel
theorem dX8_trial_27 : decode cX8_trial 27 = .ok (.ifCond .ne 5, 3) := by decide +kernel
theorem dX8_trial_30 : decode cX8_trial 30 = .ok (.iconst (-1), 1) := by decide +kernel
theorem dX8_trial_31 : decode cX8_trial 31 = .ok (.ireturn, 1) := by decide +kernel
theorem dX8_trial_32 : decode cX8_trial 32 = .ok (.aload_n 0, 1) := by decide +kernel
theorem dX8_trial_33 : decode cX8_trial 33 = .ok (.iload_n 1, 1) := by decide +kernel
theorem dX8_trial_34 : decode cX8_trial 34 = .ok (.invokevirtual 293, 3) := by decide +kernel
theorem dX8_trial_37 : decode cX8_trial 37 = .ok (.istore 4, 2) := by decide +kernel
theorem dX8_trial_39 : decode cX8_trial 39 = .ok (.iload 4, 2) := by decide +kernel
theorem dX8_trial_41 : decode cX8_trial 41 = .ok (.ifCond .ge 6, 3) := by decide +kernel
theorem dX8_trial_44 : decode cX8_trial 44 = .ok (.iload 4, 2) := by decide +kernel
theorem dX8_trial_46 : decode cX8_trial 46 = .ok (.ireturn, 1) := by decide +kernel
theorem dX8_trial_47 : decode cX8_trial 47 = .ok (.iload_n 2, 1) := by decide +kernel
theorem dX8_trial_48 : decode cX8_trial 48 = .ok (.ifCond .ge 10, 3) := by decide +kernel
theorem dX8_trial_51 : decode cX8_trial 51 = .ok (.aload_n 0, 1) := by decide +kernel
theorem dX8_trial_52 : decode cX8_trial 52 = .ok (.getfield 264, 3) := by decide +kernel
theorem dX8_trial_55 : decode cX8_trial 55 = .ok (.goto 21, 3) := by decide +kernel
theorem dX8_trial_58 : decode cX8_trial 58 = .ok (.iload_n 3, 1) := by decide +kernel
theorem dX8_trial_59 : decode cX8_trial 59 = .ok (.ifCond .ne 11, 3) := by decide +kernel
theorem dX8_trial_62 : decode cX8_trial 62 = .ok (.aload_n 0, 1) := by decide +kernel
theorem dX8_trial_63 : decode cX8_trial 63 = .ok (.iload_n 2, 1) := by decide +kernel
theorem dX8_trial_64 : decode cX8_trial 64 = .ok (.invokevirtual 175, 3) := by decide +kernel
theorem dX8_trial_67 : decode cX8_trial 67 = .ok (.goto 9, 3) := by decide +kernel
theorem dX8_trial_70 : decode cX8_trial 70 = .ok (.aload_n 0, 1) := by decide +kernel
theorem dX8_trial_71 : decode cX8_trial 71 = .ok (.getfield 67, 3) := by decide +kernel
theorem dX8_trial_74 : decode cX8_trial 74 = .ok (.iload_n 2, 1) := by decide +kernel
theorem dX8_trial_75 : decode cX8_trial 75 = .ok (.iaload, 1) := by decide +kernel
theorem dX8_trial_76 : decode cX8_trial 76 = .ok (.ireturn, 1) := by decide +kernel
theorem dX8_tooth_0 : decode cX8_tooth 0 = .ok (.iload_n 1, 1) := by decide +kernel
theorem dX8_tooth_1 : decode cX8_tooth 1 = .ok (.invokestatic 132, 3) := by decide +kernel
theorem dX8_tooth_4 : decode cX8_tooth 4 = .ok (.ifCond .eq 27, 3) := by decide +kernel
theorem dX8_tooth_7 : decode cX8_tooth 7 = .ok (.iload_n 2, 1) := by decide +kernel
theorem dX8_tooth_8 : decode cX8_tooth 8 = .ok (.ifCond .lt 23, 3) := by decide +kernel
theorem dX8_tooth_11 : decode cX8_tooth 11 = .ok (.aload_n 0, 1) := by decide +kernel
theorem dX8_tooth_12 : decode cX8_tooth 12 = .ok (.iload_n 2, 1) := by decide +kernel
theorem dX8_tooth_13 : decode cX8_tooth 13 = .ok (.bipush 10, 2) := by decide +kernel
theorem dX8_tooth_15 : decode cX8_tooth 15 = .ok (.idiv, 1) := by decide +kernel
theorem dX8_tooth_16 : decode cX8_tooth 16 = .ok (.invokevirtual 156, 3) := by decide +kernel
theorem dX8_tooth_19 : decode cX8_tooth 19 = .ok (.ifCond .eq 12, 3) := by decide +kernel
theorem dX8_tooth_22 : decode cX8_tooth 22 = .ok (.iload_n 2, 1) := by decide +kernel
theorem dX8_tooth_23 : decode cX8_tooth 23 = .ok (.bipush 10, 2) := by decide +kernel
theorem dX8_tooth_25 : decode cX8_tooth 25 = .ok (.irem, 1) := by decide +kernel
theorem dX8_tooth_26 : decode cX8_tooth 26 = .ok (.bipush 8, 2) := by decide +kernel
theorem dX8_tooth_28 : decode cX8_tooth 28 = .ok (.if_icmp .lt 5, 3) := by decide +kernel
theorem dX8_tooth_31 : decode cX8_tooth 31 = .ok (.iconst (-1), 1) := by decide +kernel
theorem dX8_tooth_32 : decode cX8_tooth 32 = .ok (.ireturn, 1) := by decide +kernel
theorem dX8_tooth_33 : decode cX8_tooth 33 = .ok (.aload_n 0, 1) := by decide +kernel
theorem dX8_tooth_34 : decode cX8_tooth 34 = .ok (.iload_n 1, 1) := by decide +kernel
theorem dX8_tooth_35 : decode cX8_tooth 35 = .ok (.invokevirtual 293, 3) := by decide +kernel
theorem dX8_tooth_38 : decode cX8_tooth 38 = .ok (.istore_n 3, 1) := by decide +kernel
theorem dX8_tooth_39 : decode cX8_tooth 39 = .ok (.iload_n 3, 1) := by decide +kernel
theorem dX8_tooth_40 : decode cX8_tooth 40 = .ok (.ifCond .ge 7, 3) := by decide +kernel
theorem dX8_tooth_43 : decode cX8_tooth 43 = .ok (.iload_n 3, 1) := by decide +kernel
theorem dX8_tooth_44 : decode cX8_tooth 44 = .ok (.goto 20, 3) := by decide +kernel
theorem dX8_tooth_47 : decode cX8_tooth 47 = .ok (.aload_n 0, 1) := by decide +kernel
theorem dX8_tooth_48 : decode cX8_tooth 48 = .ok (.getfield 64, 3) := by decide +kernel
theorem dX8_tooth_51 : decode cX8_tooth 51 = .ok (.bipush 8, 2) := by decide +kernel
theorem dX8_tooth_53 : decode cX8_tooth 53 = .ok (.iload_n 2, 1) := by decide +kernel
theorem dX8_tooth_54 : decode cX8_tooth 54 = .ok (.bipush 10, 2) := by decide +kernel
theorem dX8_tooth_56 : decode cX8_tooth 56 = .ok (.idiv, 1) := by decide +kernel
theorem dX8_tooth_57 : decode cX8_tooth 57 = .ok (.imul, 1) := by decide +kernel
theorem dX8_tooth_58 : decode cX8_tooth 58 = .ok (.iload_n 2, 1) := by decide +kernel
theorem dX8_tooth_59 : decode cX8_tooth 59 = .ok (.bipush 10, 2) := by decide +kernel
theorem dX8_tooth_61 : decode cX8_tooth 61 = .ok (.irem, 1) := by decide +kernel
theorem dX8_tooth_62 : decode cX8_tooth 62 = .ok (.iadd, 1) := by decide +kernel
theorem dX8_tooth_63 : decode cX8_tooth 63 = .ok (.iaload, 1) := by decide +kernel
theorem dX8_tooth_64 : decode cX8_tooth 64 = .ok (.ireturn, 1) := by decide +kernel
theorem dX8_gone_0 : decode cX8_gone 0 = .ok (.iload_n 1, 1) := by decide +kernel
theorem dX8_gone_1 : decode cX8_gone 1 = .ok (.invokestatic 132, 3) := by decide +kernel
theorem dX8_gone_4 : decode cX8_gone 4 = .ok (.ifCond .ne 5, 3) := by decide +kernel
theorem dX8_gone_7 : decode cX8_gone 7 = .ok (.iconst (-1), 1) := by decide +kernel
theorem dX8_gone_8 : decode cX8_gone 8 = .ok (.ireturn, 1) := by decide +kernel
theorem dX8_gone_9 : decode cX8_gone 9 = .ok (.aload_n 0, 1) := by decide +kernel
theorem dX8_gone_10 : decode cX8_gone 10 = .ok (.iload_n 1, 1) := by decide +kernel
theorem dX8_gone_11 : decode cX8_gone 11 = .ok (.invokevirtual 293, 3) := by decide +kernel
theorem dX8_gone_14 : decode cX8_gone 14 = .ok (.istore_n 2, 1) := by decide +kernel
theorem dX8_gone_15 : decode cX8_gone 15 = .ok (.iload_n 2, 1) := by decide +kernel
theorem dX8_gone_16 : decode cX8_gone 16 = .ok (.ifCond .ge 7, 3) := by decide +kernel
theorem dX8_gone_19 : decode cX8_gone 19 = .ok (.iload_n 2, 1) := by decide +kernel
theorem dX8_gone_20 : decode cX8_gone 20 = .ok (.goto 7, 3) := by decide +kernel
theorem dX8_gone_23 : decode cX8_gone 23 = .ok (.aload_n 0, 1) := by decide +kernel
theorem dX8_gone_24 : decode cX8_gone 24 = .ok (.getfield 270, 3) := by decide +kernel
theorem dX8_gone_27 : decode cX8_gone 27 = .ok (.ireturn, 1) := by decide +kernel
theorem dX8_believed_0 : decode cX8_believed 0 = .ok (.iload_n 1, 1) := by decide +kernel
theorem dX8_believed_1 : decode cX8_believed 1 = .ok (.invokestatic 132, 3) := by decide +kernel
theorem dX8_believed_4 : decode cX8_believed 4 = .ok (.ifCond .eq 10, 3) := by decide +kernel
theorem dX8_believed_7 : decode cX8_believed 7 = .ok (.iload_n 2, 1) := by decide +kernel
theorem dX8_believed_8 : decode cX8_believed 8 = .ok (.invokestatic 159, 3) := by decide +kernel
theorem dX8_believed_11 : decode cX8_believed 11 = .ok (.ifCond .ne 5, 3) := by decide +kernel
theorem dX8_believed_14 : decode cX8_believed 14 = .ok (.iconst (-1), 1) := by decide +kernel
theorem dX8_believed_15 : decode cX8_believed 15 = .ok (.ireturn, 1) := by decide +kernel
theorem dX8_believed_16 : decode cX8_believed 16 = .ok (.aload_n 0, 1) := by decide +kernel
theorem dX8_believed_17 : decode cX8_believed 17 = .ok (.iload_n 1, 1) := by decide +kernel
theorem dX8_believed_18 : decode cX8_believed 18 = .ok (.invokevirtual 293, 3) := by decide +kernel
theorem dX8_believed_21 : decode cX8_believed 21 = .ok (.istore_n 3, 1) := by decide +kernel
theorem dX8_believed_22 : decode cX8_believed 22 = .ok (.iload_n 3, 1) := by decide +kernel
theorem dX8_believed_23 : decode cX8_believed 23 = .ok (.ifCond .ge 7, 3) := by decide +kernel
theorem dX8_believed_26 : decode cX8_believed 26 = .ok (.iload_n 3, 1) := by decide +kernel
theorem dX8_believed_27 : decode cX8_believed 27 = .ok (.goto 8, 3) := by decide +kernel
theorem dX8_believed_30 : decode cX8_believed 30 = .ok (.aload_n 0, 1) := by decide +kernel
theorem dX8_believed_31 : decode cX8_believed 31 = .ok (.iload_n 2, 1) := by decide +kernel
theorem dX8_believed_32 : decode cX8_believed 32 = .ok (.invokevirtual 296, 3) := by decide +kernel
theorem dX8_believed_35 : decode cX8_believed 35 = .ok (.ireturn, 1) := by decide +kernel
theorem dX8_honest_0 : decode cX8_honest 0 = .ok (.iconst 0, 1) := by decide +kernel
theorem dX8_honest_1 : decode cX8_honest 1 = .ok (.istore_n 1, 1) := by decide +kernel
theorem dX8_honest_2 : decode cX8_honest 2 = .ok (.iconst 0, 1) := by decide +kernel
theorem dX8_honest_3 : decode cX8_honest 3 = .ok (.istore_n 2, 1) := by decide +kernel
theorem dX8_honest_4 : decode cX8_honest 4 = .ok (.iload_n 2, 1) := by decide +kernel
theorem dX8_honest_5 : decode cX8_honest 5 = .ok (.aload_n 0, 1) := by decide +kernel
theorem dX8_honest_6 : decode cX8_honest 6 = .ok (.getfield 125, 3) := by decide +kernel
theorem dX8_honest_9 : decode cX8_honest 9 = .ok (.if_icmp .ge 57, 3) := by decide +kernel
theorem dX8_honest_12 : decode cX8_honest 12 = .ok (.iconst 0, 1) := by decide +kernel
theorem dX8_honest_13 : decode cX8_honest 13 = .ok (.istore_n 3, 1) := by decide +kernel
theorem dX8_honest_14 : decode cX8_honest 14 = .ok (.iconst 0, 1) := by decide +kernel
theorem dX8_honest_15 : decode cX8_honest 15 = .ok (.istore 4, 2) := by decide +kernel
theorem dX8_honest_17 : decode cX8_honest 17 = .ok (.iload 4, 2) := by decide +kernel
theorem dX8_honest_19 : decode cX8_honest 19 = .ok (.bipush 8, 2) := by decide +kernel
theorem dX8_honest_21 : decode cX8_honest 21 = .ok (.if_icmp .ge 24, 3) := by decide +kernel
theorem dX8_honest_24 : decode cX8_honest 24 = .ok (.iload_n 3, 1) := by decide +kernel
theorem dX8_honest_25 : decode cX8_honest 25 = .ok (.aload_n 0, 1) := by decide +kernel
theorem dX8_honest_26 : decode cX8_honest 26 = .ok (.getfield 7, 3) := by decide +kernel
theorem dX8_honest_29 : decode cX8_honest 29 = .ok (.bipush 8, 2) := by decide +kernel
theorem dX8_honest_31 : decode cX8_honest 31 = .ok (.iload_n 2, 1) := by decide +kernel
theorem dX8_honest_32 : decode cX8_honest 32 = .ok (.imul, 1) := by decide +kernel
theorem dX8_honest_33 : decode cX8_honest 33 = .ok (.iload 4, 2) := by decide +kernel
theorem dX8_honest_35 : decode cX8_honest 35 = .ok (.iadd, 1) := by decide +kernel
theorem dX8_honest_36 : decode cX8_honest 36 = .ok (.iaload, 1) := by decide +kernel
theorem dX8_honest_37 : decode cX8_honest 37 = .ok (.iadd, 1) := by decide +kernel
theorem dX8_honest_38 : decode cX8_honest 38 = .ok (.istore_n 3, 1) := by decide +kernel
theorem dX8_honest_39 : decode cX8_honest 39 = .ok (.iinc 4 1, 3) := by decide +kernel
theorem dX8_honest_42 : decode cX8_honest 42 = .ok (.goto (-25), 3) := by decide +kernel
theorem dX8_honest_45 : decode cX8_honest 45 = .ok (.iload_n 3, 1) := by decide +kernel
theorem dX8_honest_46 : decode cX8_honest 46 = .ok (.aload_n 0, 1) := by decide +kernel
theorem dX8_honest_47 : decode cX8_honest 47 = .ok (.iload_n 2, 1) := by decide +kernel
theorem dX8_honest_48 : decode cX8_honest 48 = .ok (.invokevirtual 249, 3) := by decide +kernel
theorem dX8_honest_51 : decode cX8_honest 51 = .ok (.if_icmp .ne 9, 3) := by decide +kernel
theorem dX8_honest_54 : decode cX8_honest 54 = .ok (.iload_n 1, 1) := by decide +kernel
theorem dX8_honest_55 : decode cX8_honest 55 = .ok (.iconst 1, 1) := by decide +kernel
theorem dX8_honest_56 : decode cX8_honest 56 = .ok (.iload_n 2, 1) := by decide +kernel
theorem dX8_honest_57 : decode cX8_honest 57 = .ok (.ishl, 1) := by decide +kernel
theorem dX8_honest_58 : decode cX8_honest 58 = .ok (.ior, 1) := by decide +kernel
theorem dX8_honest_59 : decode cX8_honest 59 = .ok (.istore_n 1, 1) := by decide +kernel
theorem dX8_honest_60 : decode cX8_honest 60 = .ok (.iinc 2 1, 3) := by decide +kernel
theorem dX8_honest_63 : decode cX8_honest 63 = .ok (.goto (-59), 3) := by decide +kernel
theorem dX8_honest_66 : decode cX8_honest 66 = .ok (.iload_n 1, 1) := by decide +kernel
theorem dX8_honest_67 : decode cX8_honest 67 = .ok (.ireturn, 1) := by decide +kernel
theorem dX8_isSpoken_0 : decode cX8_isSpoken 0 = .ok (.iconst 0, 1) := by decide +kernel
theorem dX8_isSpoken_1 : decode cX8_isSpoken 1 = .ok (.istore_n 2, 1) := by decide +kernel
theorem dX8_isSpoken_2 : decode cX8_isSpoken 2 = .ok (.iload_n 2, 1) := by decide +kernel
theorem dX8_isSpoken_3 : decode cX8_isSpoken 3 = .ok (.aload_n 0, 1) := by decide +kernel
theorem dX8_isSpoken_4 : decode cX8_isSpoken 4 = .ok (.getfield 125, 3) := by decide +kernel
theorem dX8_isSpoken_7 : decode cX8_isSpoken 7 = .ok (.if_icmp .ge 25, 3) := by decide +kernel
theorem dX8_isSpoken_10 : decode cX8_isSpoken 10 = .ok (.aload_n 0, 1) := by decide +kernel
theorem dX8_isSpoken_11 : decode cX8_isSpoken 11 = .ok (.getfield 82, 3) := by decide +kernel
theorem dX8_isSpoken_14 : decode cX8_isSpoken 14 = .ok (.bipush 10, 2) := by decide +kernel
theorem dX8_isSpoken_16 : decode cX8_isSpoken 16 = .ok (.iload_n 2, 1) := by decide +kernel
theorem dX8_isSpoken_17 : decode cX8_isSpoken 17 = .ok (.imul, 1) := by decide +kernel
theorem dX8_isSpoken_18 : decode cX8_isSpoken 18 = .ok (.iload_n 1, 1) := by decide +kernel
theorem dX8_isSpoken_19 : decode cX8_isSpoken 19 = .ok (.iadd, 1) := by decide +kernel
theorem dX8_isSpoken_20 : decode cX8_isSpoken 20 = .ok (.iaload, 1) := by decide +kernel
theorem dX8_isSpoken_21 : decode cX8_isSpoken 21 = .ok (.ifCond .lt 5, 3) := by decide +kernel
theorem dX8_isSpoken_24 : decode cX8_isSpoken 24 = .ok (.iconst 1, 1) := by decide +kernel
theorem dX8_isSpoken_25 : decode cX8_isSpoken 25 = .ok (.ireturn, 1) := by decide +kernel
theorem dX8_isSpoken_26 : decode cX8_isSpoken 26 = .ok (.iinc 2 1, 3) := by decide +kernel
theorem dX8_isSpoken_29 : decode cX8_isSpoken 29 = .ok (.goto (-27), 3) := by decide +kernel
theorem dX8_isSpoken_32 : decode cX8_isSpoken 32 = .ok (.iconst 0, 1) := by decide +kernel
theorem dX8_isSpoken_33 : decode cX8_isSpoken 33 = .ok (.ireturn, 1) := by decide +kernel
theorem dX8_toldBy_0 : decode cX8_toldBy 0 = .ok (.iload_n 1, 1) := by decide +kernel
theorem dX8_toldBy_1 : decode cX8_toldBy 1 = .ok (.iconst 1, 1) := by decide +kernel
theorem dX8_toldBy_2 : decode cX8_toldBy 2 = .ok (.if_icmp .ne 8, 3) := by decide +kernel
theorem dX8_toldBy_5 : decode cX8_toldBy 5 = .ok (.aload_n 0, 1) := by decide +kernel
theorem dX8_toldBy_6 : decode cX8_toldBy 6 = .ok (.getfield 273, 3) := by decide +kernel
theorem dX8_toldBy_9 : decode cX8_toldBy 9 = .ok (.ireturn, 1) := by decide +kernel
theorem dX8_toldBy_10 : decode cX8_toldBy 10 = .ok (.iload_n 1, 1) := by decide +kernel
theorem dX8_toldBy_11 : decode cX8_toldBy 11 = .ok (.iconst 3, 1) := by decide +kernel
theorem dX8_toldBy_12 : decode cX8_toldBy 12 = .ok (.if_icmp .ne 8, 3) := by decide +kernel
theorem dX8_toldBy_15 : decode cX8_toldBy 15 = .ok (.aload_n 0, 1) := by decide +kernel
theorem dX8_toldBy_16 : decode cX8_toldBy 16 = .ok (.invokevirtual 299, 3) := by decide +kernel
theorem dX8_toldBy_19 : decode cX8_toldBy 19 = .ok (.ireturn, 1) := by decide +kernel
theorem dX8_toldBy_20 : decode cX8_toldBy 20 = .ok (.iconst 0, 1) := by decide +kernel
theorem dX8_toldBy_21 : decode cX8_toldBy 21 = .ok (.istore_n 2, 1) := by decide +kernel
theorem dX8_toldBy_22 : decode cX8_toldBy 22 = .ok (.iconst 0, 1) := by decide +kernel
theorem dX8_toldBy_23 : decode cX8_toldBy 23 = .ok (.istore_n 3, 1) := by decide +kernel
theorem dX8_toldBy_24 : decode cX8_toldBy 24 = .ok (.iconst 0, 1) := by decide +kernel
theorem dX8_toldBy_25 : decode cX8_toldBy 25 = .ok (.istore 4, 2) := by decide +kernel
theorem dX8_toldBy_27 : decode cX8_toldBy 27 = .ok (.iload 4, 2) := by decide +kernel
theorem dX8_toldBy_29 : decode cX8_toldBy 29 = .ok (.bipush 10, 2) := by decide +kernel
theorem dX8_toldBy_31 : decode cX8_toldBy 31 = .ok (.if_icmp .ge 53, 3) := by decide +kernel
theorem dX8_toldBy_34 : decode cX8_toldBy 34 = .ok (.aload_n 0, 1) := by decide +kernel
theorem dX8_toldBy_35 : decode cX8_toldBy 35 = .ok (.iload 4, 2) := by decide +kernel
theorem dX8_toldBy_37 : decode cX8_toldBy 37 = .ok (.invokevirtual 296, 3) := by decide +kernel
theorem dX8_toldBy_40 : decode cX8_toldBy 40 = .ok (.istore 5, 2) := by decide +kernel
theorem dX8_toldBy_42 : decode cX8_toldBy 42 = .ok (.iload 5, 2) := by decide +kernel
theorem dX8_toldBy_44 : decode cX8_toldBy 44 = .ok (.ifCond .lt 18, 3) := by decide +kernel
theorem dX8_toldBy_47 : decode cX8_toldBy 47 = .ok (.iload 5, 2) := by decide +kernel
theorem dX8_toldBy_49 : decode cX8_toldBy 49 = .ok (.aload_n 0, 1) := by decide +kernel
theorem dX8_toldBy_50 : decode cX8_toldBy 50 = .ok (.getfield 19, 3) := by decide +kernel
theorem dX8_toldBy_53 : decode cX8_toldBy 53 = .ok (.iload 4, 2) := by decide +kernel
theorem dX8_toldBy_55 : decode cX8_toldBy 55 = .ok (.iaload, 1) := by decide +kernel
theorem dX8_toldBy_56 : decode cX8_toldBy 56 = .ok (.if_icmp .eq 6, 3) := by decide +kernel
theorem dX8_toldBy_59 : decode cX8_toldBy 59 = .ok (.iinc 2 1, 3) := by decide +kernel
theorem dX8_toldBy_62 : decode cX8_toldBy 62 = .ok (.aload_n 0, 1) := by decide +kernel
theorem dX8_toldBy_63 : decode cX8_toldBy 63 = .ok (.iload 4, 2) := by decide +kernel
theorem dX8_toldBy_65 : decode cX8_toldBy 65 = .ok (.invokevirtual 302, 3) := by decide +kernel
theorem dX8_toldBy_68 : decode cX8_toldBy 68 = .ok (.ifCond .ne 10, 3) := by decide +kernel
theorem dX8_toldBy_71 : decode cX8_toldBy 71 = .ok (.iload_n 3, 1) := by decide +kernel
theorem dX8_toldBy_72 : decode cX8_toldBy 72 = .ok (.iconst 1, 1) := by decide +kernel
theorem dX8_toldBy_73 : decode cX8_toldBy 73 = .ok (.iload 4, 2) := by decide +kernel
theorem dX8_toldBy_75 : decode cX8_toldBy 75 = .ok (.ishl, 1) := by decide +kernel
theorem dX8_toldBy_76 : decode cX8_toldBy 76 = .ok (.ior, 1) := by decide +kernel
theorem dX8_toldBy_77 : decode cX8_toldBy 77 = .ok (.istore_n 3, 1) := by decide +kernel
theorem dX8_toldBy_78 : decode cX8_toldBy 78 = .ok (.iinc 4 1, 3) := by decide +kernel
theorem dX8_toldBy_81 : decode cX8_toldBy 81 = .ok (.goto (-54), 3) := by decide +kernel
theorem dX8_toldBy_84 : decode cX8_toldBy 84 = .ok (.iload_n 1, 1) := by decide +kernel
theorem dX8_toldBy_85 : decode cX8_toldBy 85 = .ok (.ifCond .ne 7, 3) := by decide +kernel
theorem dX8_toldBy_88 : decode cX8_toldBy 88 = .ok (.iload_n 2, 1) := by decide +kernel
theorem dX8_toldBy_89 : decode cX8_toldBy 89 = .ok (.goto 4, 3) := by decide +kernel
theorem dX8_toldBy_92 : decode cX8_toldBy 92 = .ok (.iload_n 3, 1) := by decide +kernel
theorem dX8_toldBy_93 : decode cX8_toldBy 93 = .ok (.ireturn, 1) := by decide +kernel
theorem dX8_told_0 : decode cX8_told 0 = .ok (.iload_n 1, 1) := by decide +kernel
theorem dX8_told_1 : decode cX8_told 1 = .ok (.invokestatic 132, 3) := by decide +kernel
theorem dX8_told_4 : decode cX8_told 4 = .ok (.ifCond .eq 12, 3) := by decide +kernel
theorem dX8_told_7 : decode cX8_told 7 = .ok (.iload_n 2, 1) := by decide +kernel
theorem dX8_told_8 : decode cX8_told 8 = .ok (.iconst 0, 1) := by decide +kernel
theorem dX8_told_9 : decode cX8_told 9 = .ok (.iconst 3, 1) := by decide +kernel
theorem dX8_told_10 : decode cX8_told 10 = .ok (.invokestatic 128, 3) := by decide +kernel
theorem dX8_told_13 : decode cX8_told 13 = .ok (.ifCond .ne 5, 3) := by decide +kernel
theorem dX8_told_16 : decode cX8_told 16 = .ok (.iconst (-1), 1) := by decide +kernel
theorem dX8_told_17 : decode cX8_told 17 = .ok (.ireturn, 1) := by decide +kernel
theorem dX8_told_18 : decode cX8_told 18 = .ok (.aload_n 0, 1) := by decide +kernel
theorem dX8_told_19 : decode cX8_told 19 = .ok (.iload_n 1, 1) := by decide +kernel
theorem dX8_told_20 : decode cX8_told 20 = .ok (.invokevirtual 293, 3) := by decide +kernel
theorem dX8_told_23 : decode cX8_told 23 = .ok (.istore_n 3, 1) := by decide +kernel
theorem dX8_told_24 : decode cX8_told 24 = .ok (.iload_n 3, 1) := by decide +kernel
theorem dX8_told_25 : decode cX8_told 25 = .ok (.ifCond .ge 7, 3) := by decide +kernel
theorem dX8_told_28 : decode cX8_told 28 = .ok (.iload_n 3, 1) := by decide +kernel
theorem dX8_told_29 : decode cX8_told 29 = .ok (.goto 8, 3) := by decide +kernel
theorem dX8_told_32 : decode cX8_told 32 = .ok (.aload_n 0, 1) := by decide +kernel
theorem dX8_told_33 : decode cX8_told 33 = .ok (.iload_n 2, 1) := by decide +kernel
theorem dX8_told_34 : decode cX8_told 34 = .ok (.invokevirtual 305, 3) := by decide +kernel
theorem dX8_told_37 : decode cX8_told 37 = .ok (.ireturn, 1) := by decide +kernel
theorem dX8_areFact_0 : decode cX8_areFact 0 = .ok (.iload_n 0, 1) := by decide +kernel
theorem dX8_areFact_1 : decode cX8_areFact 1 = .ok (.ifCond .lt 25, 3) := by decide +kernel
theorem dX8_areFact_4 : decode cX8_areFact 4 = .ok (.iload_n 0, 1) := by decide +kernel
theorem dX8_areFact_5 : decode cX8_areFact 5 = .ok (.bipush 10, 2) := by decide +kernel
theorem dX8_areFact_7 : decode cX8_areFact 7 = .ok (.idiv, 1) := by decide +kernel
theorem dX8_areFact_8 : decode cX8_areFact 8 = .ok (.invokestatic 159, 3) := by decide +kernel
theorem dX8_areFact_11 : decode cX8_areFact 11 = .ok (.ifCond .eq 15, 3) := by decide +kernel
theorem dX8_areFact_14 : decode cX8_areFact 14 = .ok (.iload_n 0, 1) := by decide +kernel
theorem dX8_areFact_15 : decode cX8_areFact 15 = .ok (.bipush 10, 2) := by decide +kernel
theorem dX8_areFact_17 : decode cX8_areFact 17 = .ok (.irem, 1) := by decide +kernel
theorem dX8_areFact_18 : decode cX8_areFact 18 = .ok (.iconst 1, 1) := by decide +kernel
theorem dX8_areFact_19 : decode cX8_areFact 19 = .ok (.if_icmp .gt 7, 3) := by decide +kernel
theorem dX8_areFact_22 : decode cX8_areFact 22 = .ok (.iconst 1, 1) := by decide +kernel
theorem dX8_areFact_23 : decode cX8_areFact 23 = .ok (.goto 4, 3) := by decide +kernel
theorem dX8_areFact_26 : decode cX8_areFact 26 = .ok (.iconst 0, 1) := by decide +kernel
theorem dX8_areFact_27 : decode cX8_areFact 27 = .ok (.ireturn, 1) := by decide +kernel
theorem dX8_have_0 : decode cX8_have 0 = .ok (.iload_n 1, 1) := by decide +kernel
theorem dX8_have_1 : decode cX8_have 1 = .ok (.invokestatic 132, 3) := by decide +kernel
theorem dX8_have_4 : decode cX8_have 4 = .ok (.ifCond .eq 19, 3) := by decide +kernel
theorem dX8_have_7 : decode cX8_have 7 = .ok (.iload_n 2, 1) := by decide +kernel
theorem dX8_have_8 : decode cX8_have 8 = .ok (.invokestatic 308, 3) := by decide +kernel
theorem dX8_have_11 : decode cX8_have 11 = .ok (.ifCond .eq 12, 3) := by decide +kernel
theorem dX8_have_14 : decode cX8_have 14 = .ok (.iload_n 3, 1) := by decide +kernel
theorem dX8_have_15 : decode cX8_have 15 = .ok (.iconst 0, 1) := by decide +kernel
theorem dX8_have_16 : decode cX8_have 16 = .ok (.iconst 2, 1) := by decide +kernel
theorem dX8_have_17 : decode cX8_have 17 = .ok (.invokestatic 128, 3) := by decide +kernel
theorem dX8_have_20 : decode cX8_have 20 = .ok (.ifCond .ne 5, 3) := by decide +kernel
theorem dX8_have_23 : decode cX8_have 23 = .ok (.iconst (-1), 1) := by decide +kernel
theorem dX8_have_24 : decode cX8_have 24 = .ok (.ireturn, 1) := by decide +kernel
theorem dX8_have_25 : decode cX8_have 25 = .ok (.aload_n 0, 1) := by decide +kernel
theorem dX8_have_26 : decode cX8_have 26 = .ok (.iload_n 1, 1) := by decide +kernel
theorem dX8_have_27 : decode cX8_have 27 = .ok (.invokevirtual 293, 3) := by decide +kernel
theorem dX8_have_30 : decode cX8_have 30 = .ok (.istore 4, 2) := by decide +kernel
theorem dX8_have_32 : decode cX8_have 32 = .ok (.iload 4, 2) := by decide +kernel
theorem dX8_have_34 : decode cX8_have 34 = .ok (.ifCond .ge 6, 3) := by decide +kernel
theorem dX8_have_37 : decode cX8_have 37 = .ok (.iload 4, 2) := by decide +kernel
theorem dX8_have_39 : decode cX8_have 39 = .ok (.ireturn, 1) := by decide +kernel
theorem dX8_have_40 : decode cX8_have 40 = .ok (.iload_n 2, 1) := by decide +kernel
theorem dX8_have_41 : decode cX8_have 41 = .ok (.bipush 10, 2) := by decide +kernel
theorem dX8_have_43 : decode cX8_have 43 = .ok (.idiv, 1) := by decide +kernel
theorem dX8_have_44 : decode cX8_have 44 = .ok (.istore 5, 2) := by decide +kernel
theorem dX8_have_46 : decode cX8_have 46 = .ok (.iload_n 2, 1) := by decide +kernel
theorem dX8_have_47 : decode cX8_have 47 = .ok (.bipush 10, 2) := by decide +kernel
theorem dX8_have_49 : decode cX8_have 49 = .ok (.irem, 1) := by decide +kernel
theorem dX8_have_50 : decode cX8_have 50 = .ok (.istore 6, 2) := by decide +kernel
theorem dX8_have_52 : decode cX8_have 52 = .ok (.aload_n 0, 1) := by decide +kernel
theorem dX8_have_53 : decode cX8_have 53 = .ok (.iload 5, 2) := by decide +kernel
theorem dX8_have_55 : decode cX8_have 55 = .ok (.invokevirtual 296, 3) := by decide +kernel
theorem dX8_have_58 : decode cX8_have 58 = .ok (.iload 6, 2) := by decide +kernel
theorem dX8_have_60 : decode cX8_have 60 = .ok (.if_icmp .ne 14, 3) := by decide +kernel
theorem dX8_have_63 : decode cX8_have 63 = .ok (.iload_n 3, 1) := by decide +kernel
theorem dX8_have_64 : decode cX8_have 64 = .ok (.ifCond .ne 7, 3) := by decide +kernel
theorem dX8_have_67 : decode cX8_have 67 = .ok (.iconst 0, 1) := by decide +kernel
theorem dX8_have_68 : decode cX8_have 68 = .ok (.goto 5, 3) := by decide +kernel
theorem dX8_have_71 : decode cX8_have 71 = .ok (.bipush (-2), 2) := by decide +kernel
theorem dX8_have_73 : decode cX8_have 73 = .ok (.ireturn, 1) := by decide +kernel
theorem dX8_have_74 : decode cX8_have 74 = .ok (.iconst (-1), 1) := by decide +kernel
theorem dX8_have_75 : decode cX8_have 75 = .ok (.istore 7, 2) := by decide +kernel
theorem dX8_have_77 : decode cX8_have 77 = .ok (.bipush (-2), 2) := by decide +kernel
theorem dX8_have_79 : decode cX8_have 79 = .ok (.istore 8, 2) := by decide +kernel
theorem dX8_have_81 : decode cX8_have 81 = .ok (.bipush (-2), 2) := by decide +kernel
theorem dX8_have_83 : decode cX8_have 83 = .ok (.istore 9, 2) := by decide +kernel
theorem dX8_have_85 : decode cX8_have 85 = .ok (.iconst 0, 1) := by decide +kernel
theorem dX8_have_86 : decode cX8_have 86 = .ok (.istore 10, 2) := by decide +kernel
theorem dX8_have_88 : decode cX8_have 88 = .ok (.iload 10, 2) := by decide +kernel
theorem dX8_have_90 : decode cX8_have 90 = .ok (.aload_n 0, 1) := by decide +kernel
theorem dX8_have_91 : decode cX8_have 91 = .ok (.getfield 125, 3) := by decide +kernel
theorem dX8_have_94 : decode cX8_have 94 = .ok (.if_icmp .ge 97, 3) := by decide +kernel
theorem dX8_have_97 : decode cX8_have 97 = .ok (.iconst 0, 1) := by decide +kernel
theorem dX8_have_98 : decode cX8_have 98 = .ok (.istore 11, 2) := by decide +kernel
theorem dX8_have_100 : decode cX8_have 100 = .ok (.iload 11, 2) := by decide +kernel
theorem dX8_have_102 : decode cX8_have 102 = .ok (.bipush 10, 2) := by decide +kernel
theorem dX8_have_104 : decode cX8_have 104 = .ok (.if_icmp .ge 81, 3) := by decide +kernel
theorem dX8_have_107 : decode cX8_have 107 = .ok (.aload_n 0, 1) := by decide +kernel
theorem dX8_have_108 : decode cX8_have 108 = .ok (.iconst 0, 1) := by decide +kernel
theorem dX8_have_109 : decode cX8_have 109 = .ok (.invokevirtual 290, 3) := by decide +kernel
theorem dX8_have_112 : decode cX8_have 112 = .ok (.aload_n 0, 1) := by decide +kernel
theorem dX8_have_113 : decode cX8_have 113 = .ok (.iload 10, 2) := by decide +kernel
theorem dX8_have_115 : decode cX8_have 115 = .ok (.iload 5, 2) := by decide +kernel
theorem dX8_have_117 : decode cX8_have 117 = .ok (.iload 6, 2) := by decide +kernel
theorem dX8_have_119 : decode cX8_have 119 = .ok (.iload 11, 2) := by decide +kernel
theorem dX8_have_121 : decode cX8_have 121 = .ok (.invokevirtual 276, 3) := by decide +kernel
theorem dX8_have_124 : decode cX8_have 124 = .ok (.istore 12, 2) := by decide +kernel
theorem dX8_have_126 : decode cX8_have 126 = .ok (.aload_n 0, 1) := by decide +kernel
theorem dX8_have_127 : decode cX8_have 127 = .ok (.getfield 82, 3) := by decide +kernel
theorem dX8_have_130 : decode cX8_have 130 = .ok (.bipush 10, 2) := by decide +kernel
theorem dX8_have_132 : decode cX8_have 132 = .ok (.iload 10, 2) := by decide +kernel
theorem dX8_have_134 : decode cX8_have 134 = .ok (.imul, 1) := by decide +kernel
theorem dX8_have_135 : decode cX8_have 135 = .ok (.iload 5, 2) := by decide +kernel
theorem dX8_have_137 : decode cX8_have 137 = .ok (.iadd, 1) := by decide +kernel
theorem dX8_have_138 : decode cX8_have 138 = .ok (.iload 6, 2) := by decide +kernel
theorem dX8_have_140 : decode cX8_have 140 = .ok (.iastore, 1) := by decide +kernel
theorem dX8_have_141 : decode cX8_have 141 = .ok (.aload_n 0, 1) := by decide +kernel
theorem dX8_have_142 : decode cX8_have 142 = .ok (.iload 5, 2) := by decide +kernel
theorem dX8_have_144 : decode cX8_have 144 = .ok (.invokevirtual 296, 3) := by decide +kernel
theorem dX8_have_147 : decode cX8_have 147 = .ok (.iload 6, 2) := by decide +kernel
theorem dX8_have_149 : decode cX8_have 149 = .ok (.if_icmp .ne 30, 3) := by decide +kernel
theorem dX8_have_152 : decode cX8_have 152 = .ok (.iload 7, 2) := by decide +kernel
theorem dX8_have_154 : decode cX8_have 154 = .ok (.ifCond .lt 13, 3) := by decide +kernel
theorem dX8_have_157 : decode cX8_have 157 = .ok (.iload 12, 2) := by decide +kernel
theorem dX8_have_159 : decode cX8_have 159 = .ok (.iload 7, 2) := by decide +kernel
theorem dX8_have_161 : decode cX8_have 161 = .ok (.if_icmp .lt 6, 3) := by decide +kernel
theorem dX8_have_164 : decode cX8_have 164 = .ok (.goto 15, 3) := by decide +kernel
theorem dX8_have_167 : decode cX8_have 167 = .ok (.iload 12, 2) := by decide +kernel
theorem dX8_have_169 : decode cX8_have 169 = .ok (.istore 7, 2) := by decide +kernel
theorem dX8_have_171 : decode cX8_have 171 = .ok (.iload 10, 2) := by decide +kernel
theorem dX8_have_173 : decode cX8_have 173 = .ok (.istore 8, 2) := by decide +kernel
theorem dX8_have_175 : decode cX8_have 175 = .ok (.iload 11, 2) := by decide +kernel
theorem dX8_have_177 : decode cX8_have 177 = .ok (.istore 9, 2) := by decide +kernel
theorem dX8_have_179 : decode cX8_have 179 = .ok (.iinc 11 1, 3) := by decide +kernel
theorem dX8_have_182 : decode cX8_have 182 = .ok (.goto (-82), 3) := by decide +kernel
theorem dX8_have_185 : decode cX8_have 185 = .ok (.iinc 10 1, 3) := by decide +kernel
theorem dX8_have_188 : decode cX8_have 188 = .ok (.goto (-100), 3) := by decide +kernel
theorem dX8_have_191 : decode cX8_have 191 = .ok (.iload 7, 2) := by decide +kernel
theorem dX8_have_193 : decode cX8_have 193 = .ok (.ifCond .ge 6, 3) := by decide +kernel
theorem dX8_have_196 : decode cX8_have 196 = .ok (.bipush (-2), 2) := by decide +kernel
theorem dX8_have_198 : decode cX8_have 198 = .ok (.ireturn, 1) := by decide +kernel
theorem dX8_have_199 : decode cX8_have 199 = .ok (.iload_n 3, 1) := by decide +kernel
theorem dX8_have_200 : decode cX8_have 200 = .ok (.ifCond .ne 8, 3) := by decide +kernel
theorem dX8_have_203 : decode cX8_have 203 = .ok (.iload 7, 2) := by decide +kernel
theorem dX8_have_205 : decode cX8_have 205 = .ok (.goto 15, 3) := by decide +kernel
theorem dX8_have_208 : decode cX8_have 208 = .ok (.iload_n 3, 1) := by decide +kernel
theorem dX8_have_209 : decode cX8_have 209 = .ok (.iconst 1, 1) := by decide +kernel
theorem dX8_have_210 : decode cX8_have 210 = .ok (.if_icmp .ne 8, 3) := by decide +kernel
theorem dX8_have_213 : decode cX8_have 213 = .ok (.iload 8, 2) := by decide +kernel
theorem dX8_have_215 : decode cX8_have 215 = .ok (.goto 5, 3) := by decide +kernel
theorem dX8_have_218 : decode cX8_have 218 = .ok (.iload 9, 2) := by decide +kernel
theorem dX8_have_220 : decode cX8_have 220 = .ok (.ireturn, 1) := by decide +kernel
theorem dX8_left_0 : decode cX8_left 0 = .ok (.aload_n 0, 1) := by decide +kernel
theorem dX8_left_1 : decode cX8_left 1 = .ok (.iload_n 1, 1) := by decide +kernel
theorem dX8_left_2 : decode cX8_left 2 = .ok (.invokevirtual 156, 3) := by decide +kernel
theorem dX8_left_5 : decode cX8_left 5 = .ok (.ifCond .eq 13, 3) := by decide +kernel
theorem dX8_left_8 : decode cX8_left 8 = .ok (.iload_n 2, 1) := by decide +kernel
theorem dX8_left_9 : decode cX8_left 9 = .ok (.iconst 0, 1) := by decide +kernel
theorem dX8_left_10 : decode cX8_left 10 = .ok (.bipush 9, 2) := by decide +kernel
theorem dX8_left_12 : decode cX8_left 12 = .ok (.invokestatic 128, 3) := by decide +kernel
theorem dX8_left_15 : decode cX8_left 15 = .ok (.ifCond .ne 5, 3) := by decide +kernel
theorem dX8_left_18 : decode cX8_left 18 = .ok (.iconst (-1), 1) := by decide +kernel
theorem dX8_left_19 : decode cX8_left 19 = .ok (.ireturn, 1) := by decide +kernel
theorem dX8_left_20 : decode cX8_left 20 = .ok (.aload_n 0, 1) := by decide +kernel
theorem dX8_left_21 : decode cX8_left 21 = .ok (.invokevirtual 172, 3) := by decide +kernel
theorem dX8_left_24 : decode cX8_left 24 = .ok (.iconst 0, 1) := by decide +kernel
theorem dX8_left_25 : decode cX8_left 25 = .ok (.istore_n 3, 1) := by decide +kernel
theorem dX8_left_26 : decode cX8_left 26 = .ok (.iload_n 3, 1) := by decide +kernel
theorem dX8_left_27 : decode cX8_left 27 = .ok (.bipush 99, 2) := by decide +kernel
theorem dX8_left_29 : decode cX8_left 29 = .ok (.if_icmp .gt 27, 3) := by decide +kernel
theorem dX8_left_32 : decode cX8_left 32 = .ok (.aload_n 0, 1) := by decide +kernel
theorem dX8_left_33 : decode cX8_left 33 = .ok (.iload_n 1, 1) := by decide +kernel
theorem dX8_left_34 : decode cX8_left 34 = .ok (.invokevirtual 280, 3) := by decide +kernel
theorem dX8_left_37 : decode cX8_left 37 = .ok (.ifCond .eq 5, 3) := by decide +kernel
theorem dX8_left_40 : decode cX8_left 40 = .ok (.iload_n 3, 1) := by decide +kernel
theorem dX8_left_41 : decode cX8_left 41 = .ok (.ireturn, 1) := by decide +kernel
theorem dX8_left_42 : decode cX8_left 42 = .ok (.aload_n 0, 1) := by decide +kernel
theorem dX8_left_43 : decode cX8_left 43 = .ok (.iload_n 1, 1) := by decide +kernel
theorem dX8_left_44 : decode cX8_left 44 = .ok (.iconst 0, 1) := by decide +kernel
theorem dX8_left_45 : decode cX8_left 45 = .ok (.iload_n 2, 1) := by decide +kernel
theorem dX8_left_46 : decode cX8_left 46 = .ok (.invokevirtual 261, 3) := by decide +kernel
theorem dX8_left_49 : decode cX8_left 49 = .ok (.pop, 1) := by decide +kernel
theorem dX8_left_50 : decode cX8_left 50 = .ok (.iinc 3 1, 3) := by decide +kernel
theorem dX8_left_53 : decode cX8_left 53 = .ok (.goto (-27), 3) := by decide +kernel
theorem dX8_left_56 : decode cX8_left 56 = .ok (.bipush (-2), 2) := by decide +kernel
theorem dX8_left_58 : decode cX8_left 58 = .ok (.ireturn, 1) := by decide +kernel
theorem dX8_enough_0 : decode cX8_enough 0 = .ok (.iload_n 1, 1) := by decide +kernel
theorem dX8_enough_1 : decode cX8_enough 1 = .ok (.iconst 0, 1) := by decide +kernel
theorem dX8_enough_2 : decode cX8_enough 2 = .ok (.sipush 999, 3) := by decide +kernel
theorem dX8_enough_5 : decode cX8_enough 5 = .ok (.invokestatic 128, 3) := by decide +kernel
theorem dX8_enough_8 : decode cX8_enough 8 = .ok (.ifCond .eq 12, 3) := by decide +kernel
theorem dX8_enough_11 : decode cX8_enough 11 = .ok (.iload_n 2, 1) := by decide +kernel
theorem dX8_enough_12 : decode cX8_enough 12 = .ok (.iconst 0, 1) := by decide +kernel
theorem dX8_enough_13 : decode cX8_enough 13 = .ok (.iconst 1, 1) := by decide +kernel
theorem dX8_enough_14 : decode cX8_enough 14 = .ok (.invokestatic 128, 3) := by decide +kernel
theorem dX8_enough_17 : decode cX8_enough 17 = .ok (.ifCond .ne 5, 3) := by decide +kernel
theorem dX8_enough_20 : decode cX8_enough 20 = .ok (.iconst (-1), 1) := by decide +kernel
theorem dX8_enough_21 : decode cX8_enough 21 = .ok (.ireturn, 1) := by decide +kernel
theorem dX8_enough_22 : decode cX8_enough 22 = .ok (.aload_n 0, 1) := by decide +kernel
theorem dX8_enough_23 : decode cX8_enough 23 = .ok (.invokevirtual 172, 3) := by decide +kernel
theorem dX8_enough_26 : decode cX8_enough 26 = .ok (.bipush (-2), 2) := by decide +kernel
theorem dX8_enough_28 : decode cX8_enough 28 = .ok (.istore_n 3, 1) := by decide +kernel
theorem dX8_enough_29 : decode cX8_enough 29 = .ok (.iconst 0, 1) := by decide +kernel
theorem dX8_enough_30 : decode cX8_enough 30 = .ok (.istore 4, 2) := by decide +kernel
theorem dX8_enough_32 : decode cX8_enough 32 = .ok (.iload 4, 2) := by decide +kernel
theorem dX8_enough_34 : decode cX8_enough 34 = .ok (.iconst 1, 1) := by decide +kernel
theorem dX8_enough_35 : decode cX8_enough 35 = .ok (.aload_n 0, 1) := by decide +kernel
theorem dX8_enough_36 : decode cX8_enough 36 = .ok (.getfield 125, 3) := by decide +kernel
theorem dX8_enough_39 : decode cX8_enough 39 = .ok (.ishl, 1) := by decide +kernel
theorem dX8_enough_40 : decode cX8_enough 40 = .ok (.if_icmp .ge 77, 3) := by decide +kernel
theorem dX8_enough_43 : decode cX8_enough 43 = .ok (.iconst 0, 1) := by decide +kernel
theorem dX8_enough_44 : decode cX8_enough 44 = .ok (.istore 5, 2) := by decide +kernel
theorem dX8_enough_46 : decode cX8_enough 46 = .ok (.iconst 0, 1) := by decide +kernel
theorem dX8_enough_47 : decode cX8_enough 47 = .ok (.istore 6, 2) := by decide +kernel
theorem dX8_enough_49 : decode cX8_enough 49 = .ok (.iload 6, 2) := by decide +kernel
theorem dX8_enough_51 : decode cX8_enough 51 = .ok (.aload_n 0, 1) := by decide +kernel
theorem dX8_enough_52 : decode cX8_enough 52 = .ok (.getfield 125, 3) := by decide +kernel
theorem dX8_enough_55 : decode cX8_enough 55 = .ok (.if_icmp .ge 31, 3) := by decide +kernel
theorem dX8_enough_58 : decode cX8_enough 58 = .ok (.iload 4, 2) := by decide +kernel
theorem dX8_enough_60 : decode cX8_enough 60 = .ok (.iload 6, 2) := by decide +kernel
theorem dX8_enough_62 : decode cX8_enough 62 = .ok (.ishr, 1) := by decide +kernel
theorem dX8_enough_63 : decode cX8_enough 63 = .ok (.iconst 1, 1) := by decide +kernel
theorem dX8_enough_64 : decode cX8_enough 64 = .ok (.iand, 1) := by decide +kernel
theorem dX8_enough_65 : decode cX8_enough 65 = .ok (.iconst 1, 1) := by decide +kernel
theorem dX8_enough_66 : decode cX8_enough 66 = .ok (.if_icmp .ne 14, 3) := by decide +kernel
theorem dX8_enough_69 : decode cX8_enough 69 = .ok (.iload 5, 2) := by decide +kernel
theorem dX8_enough_71 : decode cX8_enough 71 = .ok (.aload_n 0, 1) := by decide +kernel
theorem dX8_enough_72 : decode cX8_enough 72 = .ok (.iload 6, 2) := by decide +kernel
theorem dX8_enough_74 : decode cX8_enough 74 = .ok (.invokevirtual 175, 3) := by decide +kernel
theorem dX8_enough_77 : decode cX8_enough 77 = .ok (.iadd, 1) := by decide +kernel
theorem dX8_enough_78 : decode cX8_enough 78 = .ok (.istore 5, 2) := by decide +kernel
theorem dX8_enough_80 : decode cX8_enough 80 = .ok (.iinc 6 1, 3) := by decide +kernel
theorem dX8_enough_83 : decode cX8_enough 83 = .ok (.goto (-34), 3) := by decide +kernel
theorem dX8_enough_86 : decode cX8_enough 86 = .ok (.iload 5, 2) := by decide +kernel
theorem dX8_enough_88 : decode cX8_enough 88 = .ok (.iload_n 1, 1) := by decide +kernel
theorem dX8_enough_89 : decode cX8_enough 89 = .ok (.if_icmp .lt 22, 3) := by decide +kernel
theorem dX8_enough_92 : decode cX8_enough 92 = .ok (.iload_n 3, 1) := by decide +kernel
theorem dX8_enough_93 : decode cX8_enough 93 = .ok (.ifCond .lt 15, 3) := by decide +kernel
theorem dX8_enough_96 : decode cX8_enough 96 = .ok (.iload 4, 2) := by decide +kernel
theorem dX8_enough_98 : decode cX8_enough 98 = .ok (.invokestatic 252, 3) := by decide +kernel
theorem dX8_enough_101 : decode cX8_enough 101 = .ok (.iload_n 3, 1) := by decide +kernel
theorem dX8_enough_102 : decode cX8_enough 102 = .ok (.invokestatic 252, 3) := by decide +kernel
theorem dX8_enough_105 : decode cX8_enough 105 = .ok (.if_icmp .ge 6, 3) := by decide +kernel
theorem dX8_enough_108 : decode cX8_enough 108 = .ok (.iload 4, 2) := by decide +kernel
theorem dX8_enough_110 : decode cX8_enough 110 = .ok (.istore_n 3, 1) := by decide +kernel
theorem dX8_enough_111 : decode cX8_enough 111 = .ok (.iinc 4 1, 3) := by decide +kernel
theorem dX8_enough_114 : decode cX8_enough 114 = .ok (.goto (-82), 3) := by decide +kernel
theorem dX8_enough_117 : decode cX8_enough 117 = .ok (.iload_n 3, 1) := by decide +kernel
theorem dX8_enough_118 : decode cX8_enough 118 = .ok (.ifCond .ge 8, 3) := by decide +kernel
theorem dX8_enough_121 : decode cX8_enough 121 = .ok (.bipush (-2), 2) := by decide +kernel
theorem dX8_enough_123 : decode cX8_enough 123 = .ok (.goto 15, 3) := by decide +kernel
theorem dX8_enough_126 : decode cX8_enough 126 = .ok (.iload_n 2, 1) := by decide +kernel
theorem dX8_enough_127 : decode cX8_enough 127 = .ok (.ifCond .ne 10, 3) := by decide +kernel
theorem dX8_enough_130 : decode cX8_enough 130 = .ok (.iload_n 3, 1) := by decide +kernel
theorem dX8_enough_131 : decode cX8_enough 131 = .ok (.invokestatic 252, 3) := by decide +kernel
theorem dX8_enough_134 : decode cX8_enough 134 = .ok (.goto 4, 3) := by decide +kernel
theorem dX8_enough_137 : decode cX8_enough 137 = .ok (.iload_n 3, 1) := by decide +kernel
theorem dX8_enough_138 : decode cX8_enough 138 = .ok (.ireturn, 1) := by decide +kernel
theorem dX8_isLesser_0 : decode cX8_isLesser 0 = .ok (.aload_n 0, 1) := by decide +kernel
theorem dX8_isLesser_1 : decode cX8_isLesser 1 = .ok (.iload_n 1, 1) := by decide +kernel
theorem dX8_isLesser_2 : decode cX8_isLesser 2 = .ok (.invokevirtual 175, 3) := by decide +kernel
theorem dX8_isLesser_5 : decode cX8_isLesser 5 = .ok (.aload_n 0, 1) := by decide +kernel
theorem dX8_isLesser_6 : decode cX8_isLesser 6 = .ok (.iload_n 2, 1) := by decide +kernel
theorem dX8_isLesser_7 : decode cX8_isLesser 7 = .ok (.invokevirtual 175, 3) := by decide +kernel
theorem dX8_isLesser_10 : decode cX8_isLesser 10 = .ok (.if_icmp .lt 21, 3) := by decide +kernel
theorem dX8_isLesser_13 : decode cX8_isLesser 13 = .ok (.aload_n 0, 1) := by decide +kernel
theorem dX8_isLesser_14 : decode cX8_isLesser 14 = .ok (.iload_n 1, 1) := by decide +kernel
theorem dX8_isLesser_15 : decode cX8_isLesser 15 = .ok (.invokevirtual 175, 3) := by decide +kernel
theorem dX8_isLesser_18 : decode cX8_isLesser 18 = .ok (.aload_n 0, 1) := by decide +kernel
theorem dX8_isLesser_19 : decode cX8_isLesser 19 = .ok (.iload_n 2, 1) := by decide +kernel
theorem dX8_isLesser_20 : decode cX8_isLesser 20 = .ok (.invokevirtual 175, 3) := by decide +kernel
theorem dX8_isLesser_23 : decode cX8_isLesser 23 = .ok (.if_icmp .ne 12, 3) := by decide +kernel
theorem dX8_isLesser_26 : decode cX8_isLesser 26 = .ok (.iload_n 1, 1) := by decide +kernel
theorem dX8_isLesser_27 : decode cX8_isLesser 27 = .ok (.iload_n 2, 1) := by decide +kernel
theorem dX8_isLesser_28 : decode cX8_isLesser 28 = .ok (.if_icmp .ge 7, 3) := by decide +kernel
theorem dX8_isLesser_31 : decode cX8_isLesser 31 = .ok (.iconst 1, 1) := by decide +kernel
theorem dX8_isLesser_32 : decode cX8_isLesser 32 = .ok (.goto 4, 3) := by decide +kernel
theorem dX8_isLesser_35 : decode cX8_isLesser 35 = .ok (.iconst 0, 1) := by decide +kernel
theorem dX8_isLesser_36 : decode cX8_isLesser 36 = .ok (.ireturn, 1) := by decide +kernel
theorem dX8_jury_0 : decode cX8_jury 0 = .ok (.iload_n 1, 1) := by decide +kernel
theorem dX8_jury_1 : decode cX8_jury 1 = .ok (.ifCond .lt 10, 3) := by decide +kernel
theorem dX8_jury_4 : decode cX8_jury 4 = .ok (.iload_n 1, 1) := by decide +kernel
theorem dX8_jury_5 : decode cX8_jury 5 = .ok (.sipush 999, 3) := by decide +kernel
theorem dX8_jury_8 : decode cX8_jury 8 = .ok (.if_icmp .le 5, 3) := by decide +kernel
theorem dX8_jury_11 : decode cX8_jury 11 = .ok (.iconst (-1), 1) := by decide +kernel
theorem dX8_jury_12 : decode cX8_jury 12 = .ok (.ireturn, 1) := by decide +kernel
theorem dX8_jury_13 : decode cX8_jury 13 = .ok (.iload_n 1, 1) := by decide +kernel
theorem dX8_jury_14 : decode cX8_jury 14 = .ok (.bipush 100, 2) := by decide +kernel
theorem dX8_jury_16 : decode cX8_jury 16 = .ok (.idiv, 1) := by decide +kernel
theorem dX8_jury_17 : decode cX8_jury 17 = .ok (.istore_n 2, 1) := by decide +kernel
theorem dX8_jury_18 : decode cX8_jury 18 = .ok (.iload_n 1, 1) := by decide +kernel
theorem dX8_jury_19 : decode cX8_jury 19 = .ok (.bipush 10, 2) := by decide +kernel
theorem dX8_jury_21 : decode cX8_jury 21 = .ok (.idiv, 1) := by decide +kernel
theorem dX8_jury_22 : decode cX8_jury 22 = .ok (.bipush 10, 2) := by decide +kernel
theorem dX8_jury_24 : decode cX8_jury 24 = .ok (.irem, 1) := by decide +kernel
theorem dX8_jury_25 : decode cX8_jury 25 = .ok (.istore_n 3, 1) := by decide +kernel
theorem dX8_jury_26 : decode cX8_jury 26 = .ok (.iload_n 1, 1) := by decide +kernel
theorem dX8_jury_27 : decode cX8_jury 27 = .ok (.bipush 10, 2) := by decide +kernel
theorem dX8_jury_29 : decode cX8_jury 29 = .ok (.irem, 1) := by decide +kernel
theorem dX8_jury_30 : decode cX8_jury 30 = .ok (.istore 4, 2) := by decide +kernel
theorem dX8_jury_32 : decode cX8_jury 32 = .ok (.aload_n 0, 1) := by decide +kernel
theorem dX8_jury_33 : decode cX8_jury 33 = .ok (.iload_n 2, 1) := by decide +kernel
theorem dX8_jury_34 : decode cX8_jury 34 = .ok (.invokevirtual 156, 3) := by decide +kernel
theorem dX8_jury_37 : decode cX8_jury 37 = .ok (.ifCond .eq 37, 3) := by decide +kernel
theorem dX8_jury_40 : decode cX8_jury 40 = .ok (.aload_n 0, 1) := by decide +kernel
theorem dX8_jury_41 : decode cX8_jury 41 = .ok (.iload_n 3, 1) := by decide +kernel
theorem dX8_jury_42 : decode cX8_jury 42 = .ok (.invokevirtual 156, 3) := by decide +kernel
theorem dX8_jury_45 : decode cX8_jury 45 = .ok (.ifCond .eq 29, 3) := by decide +kernel
theorem dX8_jury_48 : decode cX8_jury 48 = .ok (.aload_n 0, 1) := by decide +kernel
theorem dX8_jury_49 : decode cX8_jury 49 = .ok (.iload 4, 2) := by decide +kernel
theorem dX8_jury_51 : decode cX8_jury 51 = .ok (.invokevirtual 156, 3) := by decide +kernel
theorem dX8_jury_54 : decode cX8_jury 54 = .ok (.ifCond .eq 20, 3) := by decide +kernel
theorem dX8_jury_57 : decode cX8_jury 57 = .ok (.iload_n 2, 1) := by decide +kernel
theorem dX8_jury_58 : decode cX8_jury 58 = .ok (.iload_n 3, 1) := by decide +kernel
theorem dX8_jury_59 : decode cX8_jury 59 = .ok (.if_icmp .eq 15, 3) := by decide +kernel
theorem dX8_jury_62 : decode cX8_jury 62 = .ok (.iload_n 3, 1) := by decide +kernel
theorem dX8_jury_63 : decode cX8_jury 63 = .ok (.iload 4, 2) := by decide +kernel
theorem dX8_jury_65 : decode cX8_jury 65 = .ok (.if_icmp .eq 9, 3) := by decide +kernel
theorem dX8_jury_68 : decode cX8_jury 68 = .ok (.iload_n 2, 1) := by decide +kernel
theorem dX8_jury_69 : decode cX8_jury 69 = .ok (.iload 4, 2) := by decide +kernel
theorem dX8_jury_71 : decode cX8_jury 71 = .ok (.if_icmp .ne 5, 3) := by decide +kernel
theorem dX8_jury_74 : decode cX8_jury 74 = .ok (.iconst (-1), 1) := by decide +kernel
theorem dX8_jury_75 : decode cX8_jury 75 = .ok (.ireturn, 1) := by decide +kernel
theorem dX8_jury_76 : decode cX8_jury 76 = .ok (.aload_n 0, 1) := by decide +kernel
theorem dX8_jury_77 : decode cX8_jury 77 = .ok (.invokevirtual 172, 3) := by decide +kernel
theorem dX8_jury_80 : decode cX8_jury 80 = .ok (.aload_n 0, 1) := by decide +kernel
theorem dX8_jury_81 : decode cX8_jury 81 = .ok (.iload_n 2, 1) := by decide +kernel
theorem dX8_jury_82 : decode cX8_jury 82 = .ok (.iload_n 3, 1) := by decide +kernel
theorem dX8_jury_83 : decode cX8_jury 83 = .ok (.invokevirtual 311, 3) := by decide +kernel
theorem dX8_jury_86 : decode cX8_jury 86 = .ok (.aload_n 0, 1) := by decide +kernel
theorem dX8_jury_87 : decode cX8_jury 87 = .ok (.iload_n 2, 1) := by decide +kernel
theorem dX8_jury_88 : decode cX8_jury 88 = .ok (.iload 4, 2) := by decide +kernel
theorem dX8_jury_90 : decode cX8_jury 90 = .ok (.invokevirtual 311, 3) := by decide +kernel
theorem dX8_jury_93 : decode cX8_jury 93 = .ok (.if_icmp .eq 5, 3) := by decide +kernel
theorem dX8_jury_96 : decode cX8_jury 96 = .ok (.iload_n 2, 1) := by decide +kernel
theorem dX8_jury_97 : decode cX8_jury 97 = .ok (.ireturn, 1) := by decide +kernel
theorem dX8_jury_98 : decode cX8_jury 98 = .ok (.aload_n 0, 1) := by decide +kernel
theorem dX8_jury_99 : decode cX8_jury 99 = .ok (.iload_n 3, 1) := by decide +kernel
theorem dX8_jury_100 : decode cX8_jury 100 = .ok (.iload_n 2, 1) := by decide +kernel
theorem dX8_jury_101 : decode cX8_jury 101 = .ok (.invokevirtual 311, 3) := by decide +kernel
theorem dX8_jury_104 : decode cX8_jury 104 = .ok (.aload_n 0, 1) := by decide +kernel
theorem dX8_jury_105 : decode cX8_jury 105 = .ok (.iload_n 3, 1) := by decide +kernel
theorem dX8_jury_106 : decode cX8_jury 106 = .ok (.iload 4, 2) := by decide +kernel
theorem dX8_jury_108 : decode cX8_jury 108 = .ok (.invokevirtual 311, 3) := by decide +kernel
theorem dX8_jury_111 : decode cX8_jury 111 = .ok (.if_icmp .eq 7, 3) := by decide +kernel
theorem dX8_jury_114 : decode cX8_jury 114 = .ok (.iload_n 3, 1) := by decide +kernel
theorem dX8_jury_115 : decode cX8_jury 115 = .ok (.goto 5, 3) := by decide +kernel
theorem dX8_jury_118 : decode cX8_jury 118 = .ok (.iload 4, 2) := by decide +kernel
theorem dX8_jury_120 : decode cX8_jury 120 = .ok (.ireturn, 1) := by decide +kernel
theorem dX8_bribe_0 : decode cX8_bribe 0 = .ok (.iload_n 1, 1) := by decide +kernel
theorem dX8_bribe_1 : decode cX8_bribe 1 = .ok (.invokestatic 132, 3) := by decide +kernel
theorem dX8_bribe_4 : decode cX8_bribe 4 = .ok (.ifCond .eq 19, 3) := by decide +kernel
theorem dX8_bribe_7 : decode cX8_bribe 7 = .ok (.iload_n 2, 1) := by decide +kernel
theorem dX8_bribe_8 : decode cX8_bribe 8 = .ok (.invokestatic 308, 3) := by decide +kernel
theorem dX8_bribe_11 : decode cX8_bribe 11 = .ok (.ifCond .eq 12, 3) := by decide +kernel
theorem dX8_bribe_14 : decode cX8_bribe 14 = .ok (.iload_n 3, 1) := by decide +kernel
theorem dX8_bribe_15 : decode cX8_bribe 15 = .ok (.iconst 0, 1) := by decide +kernel
theorem dX8_bribe_16 : decode cX8_bribe 16 = .ok (.iconst 1, 1) := by decide +kernel
theorem dX8_bribe_17 : decode cX8_bribe 17 = .ok (.invokestatic 128, 3) := by decide +kernel
theorem dX8_bribe_20 : decode cX8_bribe 20 = .ok (.ifCond .ne 5, 3) := by decide +kernel
theorem dX8_bribe_23 : decode cX8_bribe 23 = .ok (.iconst (-1), 1) := by decide +kernel
theorem dX8_bribe_24 : decode cX8_bribe 24 = .ok (.ireturn, 1) := by decide +kernel
theorem dX8_bribe_25 : decode cX8_bribe 25 = .ok (.aload_n 0, 1) := by decide +kernel
theorem dX8_bribe_26 : decode cX8_bribe 26 = .ok (.iload_n 1, 1) := by decide +kernel
theorem dX8_bribe_27 : decode cX8_bribe 27 = .ok (.invokevirtual 293, 3) := by decide +kernel
theorem dX8_bribe_30 : decode cX8_bribe 30 = .ok (.istore 4, 2) := by decide +kernel
theorem dX8_bribe_32 : decode cX8_bribe 32 = .ok (.iload 4, 2) := by decide +kernel
theorem dX8_bribe_34 : decode cX8_bribe 34 = .ok (.ifCond .ge 6, 3) := by decide +kernel
theorem dX8_bribe_37 : decode cX8_bribe 37 = .ok (.iload 4, 2) := by decide +kernel
theorem dX8_bribe_39 : decode cX8_bribe 39 = .ok (.ireturn, 1) := by decide +kernel
theorem dX8_bribe_40 : decode cX8_bribe 40 = .ok (.aload_n 0, 1) := by decide +kernel
theorem dX8_bribe_41 : decode cX8_bribe 41 = .ok (.getfield 264, 3) := by decide +kernel
theorem dX8_bribe_44 : decode cX8_bribe 44 = .ok (.bipush 10, 2) := by decide +kernel
theorem dX8_bribe_46 : decode cX8_bribe 46 = .ok (.if_icmp .le 6, 3) := by decide +kernel
theorem dX8_bribe_49 : decode cX8_bribe 49 = .ok (.bipush (-5), 2) := by decide +kernel
theorem dX8_bribe_51 : decode cX8_bribe 51 = .ok (.ireturn, 1) := by decide +kernel
theorem dX8_bribe_52 : decode cX8_bribe 52 = .ok (.bipush (-2), 2) := by decide +kernel
theorem dX8_bribe_54 : decode cX8_bribe 54 = .ok (.istore 5, 2) := by decide +kernel
theorem dX8_bribe_56 : decode cX8_bribe 56 = .ok (.iconst 0, 1) := by decide +kernel
theorem dX8_bribe_57 : decode cX8_bribe 57 = .ok (.istore 6, 2) := by decide +kernel
theorem dX8_bribe_59 : decode cX8_bribe 59 = .ok (.iload 6, 2) := by decide +kernel
theorem dX8_bribe_61 : decode cX8_bribe 61 = .ok (.iconst 1, 1) := by decide +kernel
theorem dX8_bribe_62 : decode cX8_bribe 62 = .ok (.aload_n 0, 1) := by decide +kernel
theorem dX8_bribe_63 : decode cX8_bribe 63 = .ok (.getfield 264, 3) := by decide +kernel
theorem dX8_bribe_66 : decode cX8_bribe 66 = .ok (.ishl, 1) := by decide +kernel
theorem dX8_bribe_67 : decode cX8_bribe 67 = .ok (.if_icmp .ge 55, 3) := by decide +kernel
theorem dX8_bribe_70 : decode cX8_bribe 70 = .ok (.iload 5, 2) := by decide +kernel
theorem dX8_bribe_72 : decode cX8_bribe 72 = .ok (.ifCond .lt 19, 3) := by decide +kernel
theorem dX8_bribe_75 : decode cX8_bribe 75 = .ok (.iload 6, 2) := by decide +kernel
theorem dX8_bribe_77 : decode cX8_bribe 77 = .ok (.invokestatic 252, 3) := by decide +kernel
theorem dX8_bribe_80 : decode cX8_bribe 80 = .ok (.iload 5, 2) := by decide +kernel
theorem dX8_bribe_82 : decode cX8_bribe 82 = .ok (.invokestatic 252, 3) := by decide +kernel
theorem dX8_bribe_85 : decode cX8_bribe 85 = .ok (.if_icmp .lt 6, 3) := by decide +kernel
theorem dX8_bribe_88 : decode cX8_bribe 88 = .ok (.goto 28, 3) := by decide +kernel
theorem dX8_bribe_91 : decode cX8_bribe 91 = .ok (.aload_n 0, 1) := by decide +kernel
theorem dX8_bribe_92 : decode cX8_bribe 92 = .ok (.iload 6, 2) := by decide +kernel
theorem dX8_bribe_94 : decode cX8_bribe 94 = .ok (.invokevirtual 290, 3) := by decide +kernel
theorem dX8_bribe_97 : decode cX8_bribe 97 = .ok (.aload_n 0, 1) := by decide +kernel
theorem dX8_bribe_98 : decode cX8_bribe 98 = .ok (.iload_n 2, 1) := by decide +kernel
theorem dX8_bribe_99 : decode cX8_bribe 99 = .ok (.bipush 10, 2) := by decide +kernel
theorem dX8_bribe_101 : decode cX8_bribe 101 = .ok (.idiv, 1) := by decide +kernel
theorem dX8_bribe_102 : decode cX8_bribe 102 = .ok (.invokevirtual 296, 3) := by decide +kernel
theorem dX8_bribe_105 : decode cX8_bribe 105 = .ok (.iload_n 2, 1) := by decide +kernel
theorem dX8_bribe_106 : decode cX8_bribe 106 = .ok (.bipush 10, 2) := by decide +kernel
theorem dX8_bribe_108 : decode cX8_bribe 108 = .ok (.irem, 1) := by decide +kernel
theorem dX8_bribe_109 : decode cX8_bribe 109 = .ok (.if_icmp .ne 7, 3) := by decide +kernel
theorem dX8_bribe_112 : decode cX8_bribe 112 = .ok (.iload 6, 2) := by decide +kernel
theorem dX8_bribe_114 : decode cX8_bribe 114 = .ok (.istore 5, 2) := by decide +kernel
theorem dX8_bribe_116 : decode cX8_bribe 116 = .ok (.iinc 6 1, 3) := by decide +kernel
theorem dX8_bribe_119 : decode cX8_bribe 119 = .ok (.goto (-60), 3) := by decide +kernel
theorem dX8_bribe_122 : decode cX8_bribe 122 = .ok (.iload 5, 2) := by decide +kernel
theorem dX8_bribe_124 : decode cX8_bribe 124 = .ok (.ifCond .ge 8, 3) := by decide +kernel
theorem dX8_bribe_127 : decode cX8_bribe 127 = .ok (.bipush (-2), 2) := by decide +kernel
theorem dX8_bribe_129 : decode cX8_bribe 129 = .ok (.goto 17, 3) := by decide +kernel
theorem dX8_bribe_132 : decode cX8_bribe 132 = .ok (.iload_n 3, 1) := by decide +kernel
theorem dX8_bribe_133 : decode cX8_bribe 133 = .ok (.ifCond .ne 11, 3) := by decide +kernel
theorem dX8_bribe_136 : decode cX8_bribe 136 = .ok (.iload 5, 2) := by decide +kernel
theorem dX8_bribe_138 : decode cX8_bribe 138 = .ok (.invokestatic 252, 3) := by decide +kernel
theorem dX8_bribe_141 : decode cX8_bribe 141 = .ok (.goto 5, 3) := by decide +kernel
theorem dX8_bribe_144 : decode cX8_bribe 144 = .ok (.iload 5, 2) := by decide +kernel
theorem dX8_bribe_146 : decode cX8_bribe 146 = .ok (.ireturn, 1) := by decide +kernel
theorem dX8_isMirror_0 : decode cX8_isMirror 0 = .ok (.aload_n 0, 1) := by decide +kernel
theorem dX8_isMirror_1 : decode cX8_isMirror 1 = .ok (.getfield 112, 3) := by decide +kernel
theorem dX8_isMirror_4 : decode cX8_isMirror 4 = .ok (.iload_n 1, 1) := by decide +kernel
theorem dX8_isMirror_5 : decode cX8_isMirror 5 = .ok (.iaload, 1) := by decide +kernel
theorem dX8_isMirror_6 : decode cX8_isMirror 6 = .ok (.bipush 8, 2) := by decide +kernel
theorem dX8_isMirror_8 : decode cX8_isMirror 8 = .ok (.if_icmp .ne 7, 3) := by decide +kernel
theorem dX8_isMirror_11 : decode cX8_isMirror 11 = .ok (.iconst 1, 1) := by decide +kernel
theorem dX8_isMirror_12 : decode cX8_isMirror 12 = .ok (.goto 4, 3) := by decide +kernel
theorem dX8_isMirror_15 : decode cX8_isMirror 15 = .ok (.iconst 0, 1) := by decide +kernel
theorem dX8_isMirror_16 : decode cX8_isMirror 16 = .ok (.ireturn, 1) := by decide +kernel
theorem dX8_isSeen_0 : decode cX8_isSeen 0 = .ok (.iconst 0, 1) := by decide +kernel
theorem dX8_isSeen_1 : decode cX8_isSeen 1 = .ok (.istore_n 3, 1) := by decide +kernel
theorem dX8_isSeen_2 : decode cX8_isSeen 2 = .ok (.iload_n 3, 1) := by decide +kernel
theorem dX8_isSeen_3 : decode cX8_isSeen 3 = .ok (.bipush 8, 2) := by decide +kernel
theorem dX8_isSeen_5 : decode cX8_isSeen 5 = .ok (.if_icmp .ge 31, 3) := by decide +kernel
theorem dX8_isSeen_8 : decode cX8_isSeen 8 = .ok (.aload_n 0, 1) := by decide +kernel
theorem dX8_isSeen_9 : decode cX8_isSeen 9 = .ok (.getfield 64, 3) := by decide +kernel
theorem dX8_isSeen_12 : decode cX8_isSeen 12 = .ok (.bipush 8, 2) := by decide +kernel
theorem dX8_isSeen_14 : decode cX8_isSeen 14 = .ok (.iload_n 2, 1) := by decide +kernel
theorem dX8_isSeen_15 : decode cX8_isSeen 15 = .ok (.imul, 1) := by decide +kernel
theorem dX8_isSeen_16 : decode cX8_isSeen 16 = .ok (.iload_n 3, 1) := by decide +kernel
theorem dX8_isSeen_17 : decode cX8_isSeen 17 = .ok (.iadd, 1) := by decide +kernel
theorem dX8_isSeen_18 : decode cX8_isSeen 18 = .ok (.iaload, 1) := by decide +kernel
theorem dX8_isSeen_19 : decode cX8_isSeen 19 = .ok (.aload_n 0, 1) := by decide +kernel
theorem dX8_isSeen_20 : decode cX8_isSeen 20 = .ok (.iload_n 1, 1) := by decide +kernel
theorem dX8_isSeen_21 : decode cX8_isSeen 21 = .ok (.iload_n 3, 1) := by decide +kernel
theorem dX8_isSeen_22 : decode cX8_isSeen 22 = .ok (.invokevirtual 267, 3) := by decide +kernel
theorem dX8_isSeen_25 : decode cX8_isSeen 25 = .ok (.if_icmp .eq 5, 3) := by decide +kernel
theorem dX8_isSeen_28 : decode cX8_isSeen 28 = .ok (.iconst 0, 1) := by decide +kernel
theorem dX8_isSeen_29 : decode cX8_isSeen 29 = .ok (.ireturn, 1) := by decide +kernel
theorem dX8_isSeen_30 : decode cX8_isSeen 30 = .ok (.iinc 3 1, 3) := by decide +kernel
theorem dX8_isSeen_33 : decode cX8_isSeen 33 = .ok (.goto (-31), 3) := by decide +kernel
theorem dX8_isSeen_36 : decode cX8_isSeen 36 = .ok (.iconst 1, 1) := by decide +kernel
theorem dX8_isSeen_37 : decode cX8_isSeen 37 = .ok (.ireturn, 1) := by decide +kernel
theorem dX8_liesFor_0 : decode cX8_liesFor 0 = .ok (.iload_n 1, 1) := by decide +kernel
theorem dX8_liesFor_1 : decode cX8_liesFor 1 = .ok (.invokestatic 132, 3) := by decide +kernel
theorem dX8_liesFor_4 : decode cX8_liesFor 4 = .ok (.ifCond .eq 21, 3) := by decide +kernel
theorem dX8_liesFor_7 : decode cX8_liesFor 7 = .ok (.aload_n 0, 1) := by decide +kernel
theorem dX8_liesFor_8 : decode cX8_liesFor 8 = .ok (.iload_n 2, 1) := by decide +kernel
theorem dX8_liesFor_9 : decode cX8_liesFor 9 = .ok (.invokevirtual 156, 3) := by decide +kernel
theorem dX8_liesFor_12 : decode cX8_liesFor 12 = .ok (.ifCond .eq 13, 3) := by decide +kernel
theorem dX8_liesFor_15 : decode cX8_liesFor 15 = .ok (.iload_n 3, 1) := by decide +kernel
theorem dX8_liesFor_16 : decode cX8_liesFor 16 = .ok (.iconst 0, 1) := by decide +kernel
theorem dX8_liesFor_17 : decode cX8_liesFor 17 = .ok (.bipush 9, 2) := by decide +kernel
theorem dX8_liesFor_19 : decode cX8_liesFor 19 = .ok (.invokestatic 128, 3) := by decide +kernel
theorem dX8_liesFor_22 : decode cX8_liesFor 22 = .ok (.ifCond .ne 5, 3) := by decide +kernel
theorem dX8_liesFor_25 : decode cX8_liesFor 25 = .ok (.iconst (-1), 1) := by decide +kernel
theorem dX8_liesFor_26 : decode cX8_liesFor 26 = .ok (.ireturn, 1) := by decide +kernel
theorem dX8_liesFor_27 : decode cX8_liesFor 27 = .ok (.aload_n 0, 1) := by decide +kernel
theorem dX8_liesFor_28 : decode cX8_liesFor 28 = .ok (.iload_n 1, 1) := by decide +kernel
theorem dX8_liesFor_29 : decode cX8_liesFor 29 = .ok (.invokevirtual 283, 3) := by decide +kernel
theorem dX8_liesFor_32 : decode cX8_liesFor 32 = .ok (.ifCond .ge 9, 3) := by decide +kernel
theorem dX8_liesFor_35 : decode cX8_liesFor 35 = .ok (.aload_n 0, 1) := by decide +kernel
theorem dX8_liesFor_36 : decode cX8_liesFor 36 = .ok (.iload_n 1, 1) := by decide +kernel
theorem dX8_liesFor_37 : decode cX8_liesFor 37 = .ok (.invokevirtual 283, 3) := by decide +kernel
theorem dX8_liesFor_40 : decode cX8_liesFor 40 = .ok (.ireturn, 1) := by decide +kernel
theorem dX8_liesFor_41 : decode cX8_liesFor 41 = .ok (.aload_n 0, 1) := by decide +kernel
theorem dX8_liesFor_42 : decode cX8_liesFor 42 = .ok (.iload_n 1, 1) := by decide +kernel
theorem dX8_liesFor_43 : decode cX8_liesFor 43 = .ok (.invokevirtual 314, 3) := by decide +kernel
theorem dX8_liesFor_46 : decode cX8_liesFor 46 = .ok (.ifCond .ne 6, 3) := by decide +kernel
theorem dX8_liesFor_49 : decode cX8_liesFor 49 = .ok (.bipush (-2), 2) := by decide +kernel
theorem dX8_liesFor_51 : decode cX8_liesFor 51 = .ok (.ireturn, 1) := by decide +kernel
theorem dX8_liesFor_52 : decode cX8_liesFor 52 = .ok (.aload_n 0, 1) := by decide +kernel
theorem dX8_liesFor_53 : decode cX8_liesFor 53 = .ok (.invokevirtual 172, 3) := by decide +kernel
theorem dX8_liesFor_56 : decode cX8_liesFor 56 = .ok (.iconst 0, 1) := by decide +kernel
theorem dX8_liesFor_57 : decode cX8_liesFor 57 = .ok (.istore 4, 2) := by decide +kernel
theorem dX8_liesFor_59 : decode cX8_liesFor 59 = .ok (.iload 4, 2) := by decide +kernel
theorem dX8_liesFor_61 : decode cX8_liesFor 61 = .ok (.bipush 99, 2) := by decide +kernel
theorem dX8_liesFor_63 : decode cX8_liesFor 63 = .ok (.if_icmp .gt 29, 3) := by decide +kernel
theorem dX8_liesFor_66 : decode cX8_liesFor 66 = .ok (.aload_n 0, 1) := by decide +kernel
theorem dX8_liesFor_67 : decode cX8_liesFor 67 = .ok (.iload_n 1, 1) := by decide +kernel
theorem dX8_liesFor_68 : decode cX8_liesFor 68 = .ok (.iload_n 2, 1) := by decide +kernel
theorem dX8_liesFor_69 : decode cX8_liesFor 69 = .ok (.invokevirtual 317, 3) := by decide +kernel
theorem dX8_liesFor_72 : decode cX8_liesFor 72 = .ok (.ifCond .eq 6, 3) := by decide +kernel
theorem dX8_liesFor_75 : decode cX8_liesFor 75 = .ok (.iload 4, 2) := by decide +kernel
theorem dX8_liesFor_77 : decode cX8_liesFor 77 = .ok (.ireturn, 1) := by decide +kernel
theorem dX8_liesFor_78 : decode cX8_liesFor 78 = .ok (.aload_n 0, 1) := by decide +kernel
theorem dX8_liesFor_79 : decode cX8_liesFor 79 = .ok (.iload_n 2, 1) := by decide +kernel
theorem dX8_liesFor_80 : decode cX8_liesFor 80 = .ok (.iconst 0, 1) := by decide +kernel
theorem dX8_liesFor_81 : decode cX8_liesFor 81 = .ok (.iload_n 3, 1) := by decide +kernel
theorem dX8_liesFor_82 : decode cX8_liesFor 82 = .ok (.invokevirtual 261, 3) := by decide +kernel
theorem dX8_liesFor_85 : decode cX8_liesFor 85 = .ok (.pop, 1) := by decide +kernel
theorem dX8_liesFor_86 : decode cX8_liesFor 86 = .ok (.iinc 4 1, 3) := by decide +kernel
theorem dX8_liesFor_89 : decode cX8_liesFor 89 = .ok (.goto (-30), 3) := by decide +kernel
theorem dX8_liesFor_92 : decode cX8_liesFor 92 = .ok (.bipush (-2), 2) := by decide +kernel
theorem dX8_liesFor_94 : decode cX8_liesFor 94 = .ok (.ireturn, 1) := by decide +kernel
theorem dX8_two_0 : decode cX8_two 0 = .ok (.iload_n 1, 1) := by decide +kernel
theorem dX8_two_1 : decode cX8_two 1 = .ok (.invokestatic 132, 3) := by decide +kernel
theorem dX8_two_4 : decode cX8_two 4 = .ok (.ifCond .eq 20, 3) := by decide +kernel
theorem dX8_two_7 : decode cX8_two 7 = .ok (.aload_n 0, 1) := by decide +kernel
theorem dX8_two_8 : decode cX8_two 8 = .ok (.iload_n 2, 1) := by decide +kernel
theorem dX8_two_9 : decode cX8_two 9 = .ok (.invokevirtual 156, 3) := by decide +kernel
theorem dX8_two_12 : decode cX8_two 12 = .ok (.ifCond .eq 12, 3) := by decide +kernel
theorem dX8_two_15 : decode cX8_two 15 = .ok (.iload_n 3, 1) := by decide +kernel
theorem dX8_two_16 : decode cX8_two 16 = .ok (.iconst 0, 1) := by decide +kernel
theorem dX8_two_17 : decode cX8_two 17 = .ok (.iconst 1, 1) := by decide +kernel
theorem dX8_two_18 : decode cX8_two 18 = .ok (.invokestatic 128, 3) := by decide +kernel
theorem dX8_two_21 : decode cX8_two 21 = .ok (.ifCond .ne 5, 3) := by decide +kernel
theorem dX8_two_24 : decode cX8_two 24 = .ok (.iconst (-1), 1) := by decide +kernel
theorem dX8_two_25 : decode cX8_two 25 = .ok (.ireturn, 1) := by decide +kernel
theorem dX8_two_26 : decode cX8_two 26 = .ok (.aload_n 0, 1) := by decide +kernel
theorem dX8_two_27 : decode cX8_two 27 = .ok (.iload_n 1, 1) := by decide +kernel
theorem dX8_two_28 : decode cX8_two 28 = .ok (.invokevirtual 283, 3) := by decide +kernel
theorem dX8_two_31 : decode cX8_two 31 = .ok (.ifCond .ge 9, 3) := by decide +kernel
theorem dX8_two_34 : decode cX8_two 34 = .ok (.aload_n 0, 1) := by decide +kernel
theorem dX8_two_35 : decode cX8_two 35 = .ok (.iload_n 1, 1) := by decide +kernel
theorem dX8_two_36 : decode cX8_two 36 = .ok (.invokevirtual 283, 3) := by decide +kernel
theorem dX8_two_39 : decode cX8_two 39 = .ok (.ireturn, 1) := by decide +kernel
theorem dX8_two_40 : decode cX8_two 40 = .ok (.aload_n 0, 1) := by decide +kernel
theorem dX8_two_41 : decode cX8_two 41 = .ok (.iload_n 1, 1) := by decide +kernel
theorem dX8_two_42 : decode cX8_two 42 = .ok (.invokevirtual 314, 3) := by decide +kernel
theorem dX8_two_45 : decode cX8_two 45 = .ok (.ifCond .ne 6, 3) := by decide +kernel
theorem dX8_two_48 : decode cX8_two 48 = .ok (.bipush (-2), 2) := by decide +kernel
theorem dX8_two_50 : decode cX8_two 50 = .ok (.ireturn, 1) := by decide +kernel
theorem dX8_two_51 : decode cX8_two 51 = .ok (.iconst 0, 1) := by decide +kernel
theorem dX8_two_52 : decode cX8_two 52 = .ok (.istore 4, 2) := by decide +kernel
theorem dX8_two_54 : decode cX8_two 54 = .ok (.bipush (-2), 2) := by decide +kernel
theorem dX8_two_56 : decode cX8_two 56 = .ok (.istore 5, 2) := by decide +kernel
theorem dX8_two_58 : decode cX8_two 58 = .ok (.iconst 0, 1) := by decide +kernel
theorem dX8_two_59 : decode cX8_two 59 = .ok (.istore 6, 2) := by decide +kernel
theorem dX8_two_61 : decode cX8_two 61 = .ok (.iload 6, 2) := by decide +kernel
theorem dX8_two_63 : decode cX8_two 63 = .ok (.bipush 100, 2) := by decide +kernel
theorem dX8_two_65 : decode cX8_two 65 = .ok (.if_icmp .ge 61, 3) := by decide +kernel
theorem dX8_two_68 : decode cX8_two 68 = .ok (.aload_n 0, 1) := by decide +kernel
theorem dX8_two_69 : decode cX8_two 69 = .ok (.invokevirtual 172, 3) := by decide +kernel
theorem dX8_two_72 : decode cX8_two 72 = .ok (.aload_n 0, 1) := by decide +kernel
theorem dX8_two_73 : decode cX8_two 73 = .ok (.iload_n 2, 1) := by decide +kernel
theorem dX8_two_74 : decode cX8_two 74 = .ok (.iconst 0, 1) := by decide +kernel
theorem dX8_two_75 : decode cX8_two 75 = .ok (.iload 6, 2) := by decide +kernel
theorem dX8_two_77 : decode cX8_two 77 = .ok (.bipush 10, 2) := by decide +kernel
theorem dX8_two_79 : decode cX8_two 79 = .ok (.idiv, 1) := by decide +kernel
theorem dX8_two_80 : decode cX8_two 80 = .ok (.invokevirtual 261, 3) := by decide +kernel
theorem dX8_two_83 : decode cX8_two 83 = .ok (.pop, 1) := by decide +kernel
theorem dX8_two_84 : decode cX8_two 84 = .ok (.aload_n 0, 1) := by decide +kernel
theorem dX8_two_85 : decode cX8_two 85 = .ok (.iload_n 2, 1) := by decide +kernel
theorem dX8_two_86 : decode cX8_two 86 = .ok (.iconst 0, 1) := by decide +kernel
theorem dX8_two_87 : decode cX8_two 87 = .ok (.iload 6, 2) := by decide +kernel
theorem dX8_two_89 : decode cX8_two 89 = .ok (.bipush 10, 2) := by decide +kernel
theorem dX8_two_91 : decode cX8_two 91 = .ok (.irem, 1) := by decide +kernel
theorem dX8_two_92 : decode cX8_two 92 = .ok (.invokevirtual 261, 3) := by decide +kernel
theorem dX8_two_95 : decode cX8_two 95 = .ok (.pop, 1) := by decide +kernel
theorem dX8_two_96 : decode cX8_two 96 = .ok (.aload_n 0, 1) := by decide +kernel
theorem dX8_two_97 : decode cX8_two 97 = .ok (.iload_n 1, 1) := by decide +kernel
theorem dX8_two_98 : decode cX8_two 98 = .ok (.iload_n 2, 1) := by decide +kernel
theorem dX8_two_99 : decode cX8_two 99 = .ok (.invokevirtual 317, 3) := by decide +kernel
theorem dX8_two_102 : decode cX8_two 102 = .ok (.ifCond .ne 6, 3) := by decide +kernel
theorem dX8_two_105 : decode cX8_two 105 = .ok (.goto 15, 3) := by decide +kernel
theorem dX8_two_108 : decode cX8_two 108 = .ok (.iload 4, 2) := by decide +kernel
theorem dX8_two_110 : decode cX8_two 110 = .ok (.ifCond .ne 7, 3) := by decide +kernel
theorem dX8_two_113 : decode cX8_two 113 = .ok (.iload 6, 2) := by decide +kernel
theorem dX8_two_115 : decode cX8_two 115 = .ok (.istore 5, 2) := by decide +kernel
theorem dX8_two_117 : decode cX8_two 117 = .ok (.iinc 4 1, 3) := by decide +kernel
theorem dX8_two_120 : decode cX8_two 120 = .ok (.iinc 6 1, 3) := by decide +kernel
theorem dX8_two_123 : decode cX8_two 123 = .ok (.goto (-62), 3) := by decide +kernel
theorem dX8_two_126 : decode cX8_two 126 = .ok (.iload_n 3, 1) := by decide +kernel
theorem dX8_two_127 : decode cX8_two 127 = .ok (.ifCond .ne 8, 3) := by decide +kernel
theorem dX8_two_130 : decode cX8_two 130 = .ok (.iload 4, 2) := by decide +kernel
theorem dX8_two_132 : decode cX8_two 132 = .ok (.goto 5, 3) := by decide +kernel
theorem dX8_two_135 : decode cX8_two 135 = .ok (.iload 5, 2) := by decide +kernel
theorem dX8_two_137 : decode cX8_two 137 = .ok (.ireturn, 1) := by decide +kernel
theorem dX8_others_0 : decode cX8_others 0 = .ok (.iload_n 1, 1) := by decide +kernel
theorem dX8_others_1 : decode cX8_others 1 = .ok (.invokestatic 132, 3) := by decide +kernel
theorem dX8_others_4 : decode cX8_others 4 = .ok (.ifCond .ne 5, 3) := by decide +kernel
theorem dX8_others_7 : decode cX8_others 7 = .ok (.iconst (-1), 1) := by decide +kernel
theorem dX8_others_8 : decode cX8_others 8 = .ok (.ireturn, 1) := by decide +kernel
theorem dX8_others_9 : decode cX8_others 9 = .ok (.aload_n 0, 1) := by decide +kernel
theorem dX8_others_10 : decode cX8_others 10 = .ok (.iload_n 1, 1) := by decide +kernel
theorem dX8_others_11 : decode cX8_others 11 = .ok (.invokevirtual 283, 3) := by decide +kernel
theorem dX8_others_14 : decode cX8_others 14 = .ok (.ifCond .ge 9, 3) := by decide +kernel
theorem dX8_others_17 : decode cX8_others 17 = .ok (.aload_n 0, 1) := by decide +kernel
theorem dX8_others_18 : decode cX8_others 18 = .ok (.iload_n 1, 1) := by decide +kernel
theorem dX8_others_19 : decode cX8_others 19 = .ok (.invokevirtual 283, 3) := by decide +kernel
theorem dX8_others_22 : decode cX8_others 22 = .ok (.ireturn, 1) := by decide +kernel
theorem dX8_others_23 : decode cX8_others 23 = .ok (.aload_n 0, 1) := by decide +kernel
theorem dX8_others_24 : decode cX8_others 24 = .ok (.iload_n 1, 1) := by decide +kernel
theorem dX8_others_25 : decode cX8_others 25 = .ok (.invokevirtual 314, 3) := by decide +kernel
theorem dX8_others_28 : decode cX8_others 28 = .ok (.ifCond .ne 6, 3) := by decide +kernel
theorem dX8_others_31 : decode cX8_others 31 = .ok (.bipush (-2), 2) := by decide +kernel
theorem dX8_others_33 : decode cX8_others 33 = .ok (.ireturn, 1) := by decide +kernel
theorem dX8_others_34 : decode cX8_others 34 = .ok (.aload_n 0, 1) := by decide +kernel
theorem dX8_others_35 : decode cX8_others 35 = .ok (.invokevirtual 172, 3) := by decide +kernel
theorem dX8_others_38 : decode cX8_others 38 = .ok (.iconst 0, 1) := by decide +kernel
theorem dX8_others_39 : decode cX8_others 39 = .ok (.istore_n 2, 1) := by decide +kernel
theorem dX8_others_40 : decode cX8_others 40 = .ok (.iconst 0, 1) := by decide +kernel
theorem dX8_others_41 : decode cX8_others 41 = .ok (.istore_n 3, 1) := by decide +kernel
theorem dX8_others_42 : decode cX8_others 42 = .ok (.iload_n 3, 1) := by decide +kernel
theorem dX8_others_43 : decode cX8_others 43 = .ok (.aload_n 0, 1) := by decide +kernel
theorem dX8_others_44 : decode cX8_others 44 = .ok (.getfield 125, 3) := by decide +kernel
theorem dX8_others_47 : decode cX8_others 47 = .ok (.if_icmp .ge 24, 3) := by decide +kernel
theorem dX8_others_50 : decode cX8_others 50 = .ok (.aload_n 0, 1) := by decide +kernel
theorem dX8_others_51 : decode cX8_others 51 = .ok (.iload_n 1, 1) := by decide +kernel
theorem dX8_others_52 : decode cX8_others 52 = .ok (.iload_n 3, 1) := by decide +kernel
theorem dX8_others_53 : decode cX8_others 53 = .ok (.invokevirtual 317, 3) := by decide +kernel
theorem dX8_others_56 : decode cX8_others 56 = .ok (.ifCond .eq 9, 3) := by decide +kernel
theorem dX8_others_59 : decode cX8_others 59 = .ok (.iload_n 2, 1) := by decide +kernel
theorem dX8_others_60 : decode cX8_others 60 = .ok (.iconst 1, 1) := by decide +kernel
theorem dX8_others_61 : decode cX8_others 61 = .ok (.iload_n 3, 1) := by decide +kernel
theorem dX8_others_62 : decode cX8_others 62 = .ok (.ishl, 1) := by decide +kernel
theorem dX8_others_63 : decode cX8_others 63 = .ok (.ior, 1) := by decide +kernel
theorem dX8_others_64 : decode cX8_others 64 = .ok (.istore_n 2, 1) := by decide +kernel
theorem dX8_others_65 : decode cX8_others 65 = .ok (.iinc 3 1, 3) := by decide +kernel
theorem dX8_others_68 : decode cX8_others 68 = .ok (.goto (-26), 3) := by decide +kernel
theorem dX8_others_71 : decode cX8_others 71 = .ok (.iload_n 2, 1) := by decide +kernel
theorem dX8_others_72 : decode cX8_others 72 = .ok (.ireturn, 1) := by decide +kernel
theorem dX8_isSo_0 : decode cX8_isSo 0 = .ok (.iload_n 1, 1) := by decide +kernel
theorem dX8_isSo_1 : decode cX8_isSo 1 = .ok (.ifCond .lt 60, 3) := by decide +kernel
theorem dX8_isSo_4 : decode cX8_isSo 4 = .ok (.iload_n 1, 1) := by decide +kernel
theorem dX8_isSo_5 : decode cX8_isSo 5 = .ok (.bipush 10, 2) := by decide +kernel
theorem dX8_isSo_7 : decode cX8_isSo 7 = .ok (.idiv, 1) := by decide +kernel
theorem dX8_isSo_8 : decode cX8_isSo 8 = .ok (.invokestatic 132, 3) := by decide +kernel
theorem dX8_isSo_11 : decode cX8_isSo 11 = .ok (.ifCond .eq 50, 3) := by decide +kernel
theorem dX8_isSo_14 : decode cX8_isSo 14 = .ok (.iload_n 1, 1) := by decide +kernel
theorem dX8_isSo_15 : decode cX8_isSo 15 = .ok (.bipush 10, 2) := by decide +kernel
theorem dX8_isSo_17 : decode cX8_isSo 17 = .ok (.irem, 1) := by decide +kernel
theorem dX8_isSo_18 : decode cX8_isSo 18 = .ok (.invokestatic 132, 3) := by decide +kernel
theorem dX8_isSo_21 : decode cX8_isSo 21 = .ok (.ifCond .eq 40, 3) := by decide +kernel
theorem dX8_isSo_24 : decode cX8_isSo 24 = .ok (.iload_n 2, 1) := by decide +kernel
theorem dX8_isSo_25 : decode cX8_isSo 25 = .ok (.ifCond .lt 36, 3) := by decide +kernel
theorem dX8_isSo_28 : decode cX8_isSo 28 = .ok (.aload_n 0, 1) := by decide +kernel
theorem dX8_isSo_29 : decode cX8_isSo 29 = .ok (.iload_n 2, 1) := by decide +kernel
theorem dX8_isSo_30 : decode cX8_isSo 30 = .ok (.bipush 10, 2) := by decide +kernel
theorem dX8_isSo_32 : decode cX8_isSo 32 = .ok (.idiv, 1) := by decide +kernel
theorem dX8_isSo_33 : decode cX8_isSo 33 = .ok (.invokevirtual 156, 3) := by decide +kernel
theorem dX8_isSo_36 : decode cX8_isSo 36 = .ok (.ifCond .eq 25, 3) := by decide +kernel
theorem dX8_isSo_39 : decode cX8_isSo 39 = .ok (.iload_n 2, 1) := by decide +kernel
theorem dX8_isSo_40 : decode cX8_isSo 40 = .ok (.bipush 10, 2) := by decide +kernel
theorem dX8_isSo_42 : decode cX8_isSo 42 = .ok (.irem, 1) := by decide +kernel
theorem dX8_isSo_43 : decode cX8_isSo 43 = .ok (.iconst 1, 1) := by decide +kernel
theorem dX8_isSo_44 : decode cX8_isSo 44 = .ok (.bipush 8, 2) := by decide +kernel
theorem dX8_isSo_46 : decode cX8_isSo 46 = .ok (.invokestatic 128, 3) := by decide +kernel
theorem dX8_isSo_49 : decode cX8_isSo 49 = .ok (.ifCond .eq 12, 3) := by decide +kernel
theorem dX8_isSo_52 : decode cX8_isSo 52 = .ok (.iload_n 3, 1) := by decide +kernel
theorem dX8_isSo_53 : decode cX8_isSo 53 = .ok (.iconst 0, 1) := by decide +kernel
theorem dX8_isSo_54 : decode cX8_isSo 54 = .ok (.iconst 2, 1) := by decide +kernel
theorem dX8_isSo_55 : decode cX8_isSo 55 = .ok (.invokestatic 128, 3) := by decide +kernel
theorem dX8_isSo_58 : decode cX8_isSo 58 = .ok (.ifCond .ne 5, 3) := by decide +kernel
theorem dX8_isSo_61 : decode cX8_isSo 61 = .ok (.iconst (-1), 1) := by decide +kernel
theorem dX8_isSo_62 : decode cX8_isSo 62 = .ok (.ireturn, 1) := by decide +kernel
theorem dX8_isSo_63 : decode cX8_isSo 63 = .ok (.aload_n 0, 1) := by decide +kernel
theorem dX8_isSo_64 : decode cX8_isSo 64 = .ok (.getfield 109, 3) := by decide +kernel
theorem dX8_isSo_67 : decode cX8_isSo 67 = .ok (.iload_n 1, 1) := by decide +kernel
theorem dX8_isSo_68 : decode cX8_isSo 68 = .ok (.bipush 10, 2) := by decide +kernel
theorem dX8_isSo_70 : decode cX8_isSo 70 = .ok (.idiv, 1) := by decide +kernel
theorem dX8_isSo_71 : decode cX8_isSo 71 = .ok (.iaload, 1) := by decide +kernel
theorem dX8_isSo_72 : decode cX8_isSo 72 = .ok (.iconst (-1), 1) := by decide +kernel
theorem dX8_isSo_73 : decode cX8_isSo 73 = .ok (.if_icmp .eq 16, 3) := by decide +kernel
theorem dX8_isSo_76 : decode cX8_isSo 76 = .ok (.aload_n 0, 1) := by decide +kernel
theorem dX8_isSo_77 : decode cX8_isSo 77 = .ok (.getfield 109, 3) := by decide +kernel
theorem dX8_isSo_80 : decode cX8_isSo 80 = .ok (.iload_n 1, 1) := by decide +kernel
theorem dX8_isSo_81 : decode cX8_isSo 81 = .ok (.bipush 10, 2) := by decide +kernel
theorem dX8_isSo_83 : decode cX8_isSo 83 = .ok (.irem, 1) := by decide +kernel
theorem dX8_isSo_84 : decode cX8_isSo 84 = .ok (.iaload, 1) := by decide +kernel
theorem dX8_isSo_85 : decode cX8_isSo 85 = .ok (.iconst (-1), 1) := by decide +kernel
theorem dX8_isSo_86 : decode cX8_isSo 86 = .ok (.if_icmp .ne 6, 3) := by decide +kernel
theorem dX8_isSo_89 : decode cX8_isSo 89 = .ok (.bipush (-11), 2) := by decide +kernel
theorem dX8_isSo_91 : decode cX8_isSo 91 = .ok (.ireturn, 1) := by decide +kernel
theorem dX8_isSo_92 : decode cX8_isSo 92 = .ok (.aload_n 0, 1) := by decide +kernel
theorem dX8_isSo_93 : decode cX8_isSo 93 = .ok (.iload_n 1, 1) := by decide +kernel
theorem dX8_isSo_94 : decode cX8_isSo 94 = .ok (.bipush 10, 2) := by decide +kernel
theorem dX8_isSo_96 : decode cX8_isSo 96 = .ok (.idiv, 1) := by decide +kernel
theorem dX8_isSo_97 : decode cX8_isSo 97 = .ok (.invokevirtual 283, 3) := by decide +kernel
theorem dX8_isSo_100 : decode cX8_isSo 100 = .ok (.ifCond .lt 14, 3) := by decide +kernel
theorem dX8_isSo_103 : decode cX8_isSo 103 = .ok (.aload_n 0, 1) := by decide +kernel
theorem dX8_isSo_104 : decode cX8_isSo 104 = .ok (.iload_n 1, 1) := by decide +kernel
theorem dX8_isSo_105 : decode cX8_isSo 105 = .ok (.bipush 10, 2) := by decide +kernel
theorem dX8_isSo_107 : decode cX8_isSo 107 = .ok (.irem, 1) := by decide +kernel
theorem dX8_isSo_108 : decode cX8_isSo 108 = .ok (.invokevirtual 283, 3) := by decide +kernel
theorem dX8_isSo_111 : decode cX8_isSo 111 = .ok (.ifCond .ge 6, 3) := by decide +kernel
theorem dX8_isSo_114 : decode cX8_isSo 114 = .ok (.bipush (-12), 2) := by decide +kernel
theorem dX8_isSo_116 : decode cX8_isSo 116 = .ok (.ireturn, 1) := by decide +kernel
theorem dX8_isSo_117 : decode cX8_isSo 117 = .ok (.aload_n 0, 1) := by decide +kernel
theorem dX8_isSo_118 : decode cX8_isSo 118 = .ok (.iload_n 1, 1) := by decide +kernel
theorem dX8_isSo_119 : decode cX8_isSo 119 = .ok (.bipush 10, 2) := by decide +kernel
theorem dX8_isSo_121 : decode cX8_isSo 121 = .ok (.irem, 1) := by decide +kernel
theorem dX8_isSo_122 : decode cX8_isSo 122 = .ok (.invokevirtual 314, 3) := by decide +kernel
theorem dX8_isSo_125 : decode cX8_isSo 125 = .ok (.ifCond .ne 6, 3) := by decide +kernel
theorem dX8_isSo_128 : decode cX8_isSo 128 = .ok (.bipush (-2), 2) := by decide +kernel
theorem dX8_isSo_130 : decode cX8_isSo 130 = .ok (.ireturn, 1) := by decide +kernel
theorem dX8_isSo_131 : decode cX8_isSo 131 = .ok (.iload_n 2, 1) := by decide +kernel
theorem dX8_isSo_132 : decode cX8_isSo 132 = .ok (.bipush 10, 2) := by decide +kernel
theorem dX8_isSo_134 : decode cX8_isSo 134 = .ok (.irem, 1) := by decide +kernel
theorem dX8_isSo_135 : decode cX8_isSo 135 = .ok (.istore 4, 2) := by decide +kernel
theorem dX8_isSo_137 : decode cX8_isSo 137 = .ok (.aload_n 0, 1) := by decide +kernel
theorem dX8_isSo_138 : decode cX8_isSo 138 = .ok (.iload_n 1, 1) := by decide +kernel
theorem dX8_isSo_139 : decode cX8_isSo 139 = .ok (.bipush 10, 2) := by decide +kernel
theorem dX8_isSo_141 : decode cX8_isSo 141 = .ok (.idiv, 1) := by decide +kernel
theorem dX8_isSo_142 : decode cX8_isSo 142 = .ok (.invokevirtual 286, 3) := by decide +kernel
theorem dX8_isSo_145 : decode cX8_isSo 145 = .ok (.iconst 0, 1) := by decide +kernel
theorem dX8_isSo_146 : decode cX8_isSo 146 = .ok (.istore 5, 2) := by decide +kernel
theorem dX8_isSo_148 : decode cX8_isSo 148 = .ok (.iload 5, 2) := by decide +kernel
theorem dX8_isSo_150 : decode cX8_isSo 150 = .ok (.bipush 10, 2) := by decide +kernel
theorem dX8_isSo_152 : decode cX8_isSo 152 = .ok (.if_icmp .ge 23, 3) := by decide +kernel
theorem dX8_isSo_155 : decode cX8_isSo 155 = .ok (.aload_n 0, 1) := by decide +kernel
theorem dX8_isSo_156 : decode cX8_isSo 156 = .ok (.getfield 85, 3) := by decide +kernel
theorem dX8_isSo_159 : decode cX8_isSo 159 = .ok (.iload 5, 2) := by decide +kernel
theorem dX8_isSo_161 : decode cX8_isSo 161 = .ok (.aload_n 0, 1) := by decide +kernel
theorem dX8_isSo_162 : decode cX8_isSo 162 = .ok (.getfield 19, 3) := by decide +kernel
theorem dX8_isSo_165 : decode cX8_isSo 165 = .ok (.iload 5, 2) := by decide +kernel
theorem dX8_isSo_167 : decode cX8_isSo 167 = .ok (.iaload, 1) := by decide +kernel
theorem dX8_isSo_168 : decode cX8_isSo 168 = .ok (.iastore, 1) := by decide +kernel
theorem dX8_isSo_169 : decode cX8_isSo 169 = .ok (.iinc 5 1, 3) := by decide +kernel
theorem dX8_isSo_172 : decode cX8_isSo 172 = .ok (.goto (-24), 3) := by decide +kernel
theorem dX8_isSo_175 : decode cX8_isSo 175 = .ok (.iconst 0, 1) := by decide +kernel
theorem dX8_isSo_176 : decode cX8_isSo 176 = .ok (.istore 5, 2) := by decide +kernel
theorem dX8_isSo_178 : decode cX8_isSo 178 = .ok (.bipush (-2), 2) := by decide +kernel
theorem dX8_isSo_180 : decode cX8_isSo 180 = .ok (.istore 6, 2) := by decide +kernel
theorem dX8_isSo_182 : decode cX8_isSo 182 = .ok (.iconst 1, 1) := by decide +kernel
theorem dX8_isSo_183 : decode cX8_isSo 183 = .ok (.iload 4, 2) := by decide +kernel
theorem dX8_isSo_185 : decode cX8_isSo 185 = .ok (.ishl, 1) := by decide +kernel
theorem dX8_isSo_186 : decode cX8_isSo 186 = .ok (.iconst 1, 1) := by decide +kernel
theorem dX8_isSo_187 : decode cX8_isSo 187 = .ok (.isub, 1) := by decide +kernel
theorem dX8_isSo_188 : decode cX8_isSo 188 = .ok (.istore 7, 2) := by decide +kernel
theorem dX8_isSo_190 : decode cX8_isSo 190 = .ok (.iconst 0, 1) := by decide +kernel
theorem dX8_isSo_191 : decode cX8_isSo 191 = .ok (.istore 8, 2) := by decide +kernel
theorem dX8_isSo_193 : decode cX8_isSo 193 = .ok (.iload 8, 2) := by decide +kernel
theorem dX8_isSo_195 : decode cX8_isSo 195 = .ok (.iconst 1, 1) := by decide +kernel
theorem dX8_isSo_196 : decode cX8_isSo 196 = .ok (.iload 4, 2) := by decide +kernel
theorem dX8_isSo_198 : decode cX8_isSo 198 = .ok (.ishl, 1) := by decide +kernel
theorem dX8_isSo_199 : decode cX8_isSo 199 = .ok (.if_icmp .ge 81, 3) := by decide +kernel
theorem dX8_isSo_202 : decode cX8_isSo 202 = .ok (.iconst 0, 1) := by decide +kernel
theorem dX8_isSo_203 : decode cX8_isSo 203 = .ok (.istore 9, 2) := by decide +kernel
theorem dX8_isSo_205 : decode cX8_isSo 205 = .ok (.iload 9, 2) := by decide +kernel
theorem dX8_isSo_207 : decode cX8_isSo 207 = .ok (.iload 4, 2) := by decide +kernel
theorem dX8_isSo_209 : decode cX8_isSo 209 = .ok (.if_icmp .ge 23, 3) := by decide +kernel
theorem dX8_isSo_212 : decode cX8_isSo 212 = .ok (.aload_n 0, 1) := by decide +kernel
theorem dX8_isSo_213 : decode cX8_isSo 213 = .ok (.getfield 19, 3) := by decide +kernel
theorem dX8_isSo_216 : decode cX8_isSo 216 = .ok (.iload 9, 2) := by decide +kernel
theorem dX8_isSo_218 : decode cX8_isSo 218 = .ok (.iload 8, 2) := by decide +kernel
theorem dX8_isSo_220 : decode cX8_isSo 220 = .ok (.iload 9, 2) := by decide +kernel
theorem dX8_isSo_222 : decode cX8_isSo 222 = .ok (.ishr, 1) := by decide +kernel
theorem dX8_isSo_223 : decode cX8_isSo 223 = .ok (.iconst 1, 1) := by decide +kernel
theorem dX8_isSo_224 : decode cX8_isSo 224 = .ok (.iand, 1) := by decide +kernel
theorem dX8_isSo_225 : decode cX8_isSo 225 = .ok (.iastore, 1) := by decide +kernel
theorem dX8_isSo_226 : decode cX8_isSo 226 = .ok (.iinc 9 1, 3) := by decide +kernel
theorem dX8_isSo_229 : decode cX8_isSo 229 = .ok (.goto (-24), 3) := by decide +kernel
theorem dX8_isSo_232 : decode cX8_isSo 232 = .ok (.aload_n 0, 1) := by decide +kernel
theorem dX8_isSo_233 : decode cX8_isSo 233 = .ok (.iconst 0, 1) := by decide +kernel
theorem dX8_isSo_234 : decode cX8_isSo 234 = .ok (.invokevirtual 290, 3) := by decide +kernel
theorem dX8_isSo_237 : decode cX8_isSo 237 = .ok (.aload_n 0, 1) := by decide +kernel
theorem dX8_isSo_238 : decode cX8_isSo 238 = .ok (.iload_n 1, 1) := by decide +kernel
theorem dX8_isSo_239 : decode cX8_isSo 239 = .ok (.bipush 10, 2) := by decide +kernel
theorem dX8_isSo_241 : decode cX8_isSo 241 = .ok (.irem, 1) := by decide +kernel
theorem dX8_isSo_242 : decode cX8_isSo 242 = .ok (.iload_n 2, 1) := by decide +kernel
theorem dX8_isSo_243 : decode cX8_isSo 243 = .ok (.bipush 10, 2) := by decide +kernel
theorem dX8_isSo_245 : decode cX8_isSo 245 = .ok (.idiv, 1) := by decide +kernel
theorem dX8_isSo_246 : decode cX8_isSo 246 = .ok (.invokevirtual 317, 3) := by decide +kernel
theorem dX8_isSo_249 : decode cX8_isSo 249 = .ok (.ifCond .ne 6, 3) := by decide +kernel
theorem dX8_isSo_252 : decode cX8_isSo 252 = .ok (.goto 22, 3) := by decide +kernel
theorem dX8_isSo_255 : decode cX8_isSo 255 = .ok (.iload 5, 2) := by decide +kernel
theorem dX8_isSo_257 : decode cX8_isSo 257 = .ok (.ifCond .ne 7, 3) := by decide +kernel
theorem dX8_isSo_260 : decode cX8_isSo 260 = .ok (.iload 8, 2) := by decide +kernel
theorem dX8_isSo_262 : decode cX8_isSo 262 = .ok (.istore 6, 2) := by decide +kernel
theorem dX8_isSo_264 : decode cX8_isSo 264 = .ok (.iinc 5 1, 3) := by decide +kernel
theorem dX8_isSo_267 : decode cX8_isSo 267 = .ok (.iload 7, 2) := by decide +kernel
theorem dX8_isSo_269 : decode cX8_isSo 269 = .ok (.iload 8, 2) := by decide +kernel
theorem dX8_isSo_271 : decode cX8_isSo 271 = .ok (.iand, 1) := by decide +kernel
theorem dX8_isSo_272 : decode cX8_isSo 272 = .ok (.istore 7, 2) := by decide +kernel
theorem dX8_isSo_274 : decode cX8_isSo 274 = .ok (.iinc 8 1, 3) := by decide +kernel
theorem dX8_isSo_277 : decode cX8_isSo 277 = .ok (.goto (-84), 3) := by decide +kernel
theorem dX8_isSo_280 : decode cX8_isSo 280 = .ok (.iconst 0, 1) := by decide +kernel
theorem dX8_isSo_281 : decode cX8_isSo 281 = .ok (.istore 8, 2) := by decide +kernel
theorem dX8_isSo_283 : decode cX8_isSo 283 = .ok (.iload 8, 2) := by decide +kernel
theorem dX8_isSo_285 : decode cX8_isSo 285 = .ok (.bipush 10, 2) := by decide +kernel
theorem dX8_isSo_287 : decode cX8_isSo 287 = .ok (.if_icmp .ge 23, 3) := by decide +kernel
theorem dX8_isSo_290 : decode cX8_isSo 290 = .ok (.aload_n 0, 1) := by decide +kernel
theorem dX8_isSo_291 : decode cX8_isSo 291 = .ok (.getfield 19, 3) := by decide +kernel
theorem dX8_isSo_294 : decode cX8_isSo 294 = .ok (.iload 8, 2) := by decide +kernel
theorem dX8_isSo_296 : decode cX8_isSo 296 = .ok (.aload_n 0, 1) := by decide +kernel
theorem dX8_isSo_297 : decode cX8_isSo 297 = .ok (.getfield 85, 3) := by decide +kernel
theorem dX8_isSo_300 : decode cX8_isSo 300 = .ok (.iload 8, 2) := by decide +kernel
theorem dX8_isSo_302 : decode cX8_isSo 302 = .ok (.iaload, 1) := by decide +kernel
theorem dX8_isSo_303 : decode cX8_isSo 303 = .ok (.iastore, 1) := by decide +kernel
theorem dX8_isSo_304 : decode cX8_isSo 304 = .ok (.iinc 8 1, 3) := by decide +kernel
theorem dX8_isSo_307 : decode cX8_isSo 307 = .ok (.goto (-24), 3) := by decide +kernel
theorem dX8_isSo_310 : decode cX8_isSo 310 = .ok (.iload_n 3, 1) := by decide +kernel
theorem dX8_isSo_311 : decode cX8_isSo 311 = .ok (.ifCond .ne 8, 3) := by decide +kernel
theorem dX8_isSo_314 : decode cX8_isSo 314 = .ok (.iload 5, 2) := by decide +kernel
theorem dX8_isSo_316 : decode cX8_isSo 316 = .ok (.goto 20, 3) := by decide +kernel
theorem dX8_isSo_319 : decode cX8_isSo 319 = .ok (.iload_n 3, 1) := by decide +kernel
theorem dX8_isSo_320 : decode cX8_isSo 320 = .ok (.iconst 1, 1) := by decide +kernel
theorem dX8_isSo_321 : decode cX8_isSo 321 = .ok (.if_icmp .eq 8, 3) := by decide +kernel
theorem dX8_isSo_324 : decode cX8_isSo 324 = .ok (.iload 5, 2) := by decide +kernel
theorem dX8_isSo_326 : decode cX8_isSo 326 = .ok (.ifCond .ne 8, 3) := by decide +kernel
theorem dX8_isSo_329 : decode cX8_isSo 329 = .ok (.iload 6, 2) := by decide +kernel
theorem dX8_isSo_331 : decode cX8_isSo 331 = .ok (.goto 5, 3) := by decide +kernel
theorem dX8_isSo_334 : decode cX8_isSo 334 = .ok (.iload 7, 2) := by decide +kernel
theorem dX8_isSo_336 : decode cX8_isSo 336 = .ok (.ireturn, 1) := by decide +kernel
theorem dX8_drawn_0 : decode cX8_drawn 0 = .ok (.iload_n 2, 1) := by decide +kernel
theorem dX8_drawn_1 : decode cX8_drawn 1 = .ok (.ifCond .lt 38, 3) := by decide +kernel
theorem dX8_drawn_4 : decode cX8_drawn 4 = .ok (.iload_n 2, 1) := by decide +kernel
theorem dX8_drawn_5 : decode cX8_drawn 5 = .ok (.bipush 100, 2) := by decide +kernel
theorem dX8_drawn_7 : decode cX8_drawn 7 = .ok (.idiv, 1) := by decide +kernel
theorem dX8_drawn_8 : decode cX8_drawn 8 = .ok (.iconst 1, 1) := by decide +kernel
theorem dX8_drawn_9 : decode cX8_drawn 9 = .ok (.bipush 30, 2) := by decide +kernel
theorem dX8_drawn_11 : decode cX8_drawn 11 = .ok (.invokestatic 128, 3) := by decide +kernel
theorem dX8_drawn_14 : decode cX8_drawn 14 = .ok (.ifCond .eq 25, 3) := by decide +kernel
theorem dX8_drawn_17 : decode cX8_drawn 17 = .ok (.iload_n 2, 1) := by decide +kernel
theorem dX8_drawn_18 : decode cX8_drawn 18 = .ok (.bipush 100, 2) := by decide +kernel
theorem dX8_drawn_20 : decode cX8_drawn 20 = .ok (.irem, 1) := by decide +kernel
theorem dX8_drawn_21 : decode cX8_drawn 21 = .ok (.iconst 1, 1) := by decide +kernel
theorem dX8_drawn_22 : decode cX8_drawn 22 = .ok (.bipush 60, 2) := by decide +kernel
theorem dX8_drawn_24 : decode cX8_drawn 24 = .ok (.invokestatic 128, 3) := by decide +kernel
theorem dX8_drawn_27 : decode cX8_drawn 27 = .ok (.ifCond .eq 12, 3) := by decide +kernel
theorem dX8_drawn_30 : decode cX8_drawn 30 = .ok (.iload_n 3, 1) := by decide +kernel
theorem dX8_drawn_31 : decode cX8_drawn 31 = .ok (.iconst 0, 1) := by decide +kernel
theorem dX8_drawn_32 : decode cX8_drawn 32 = .ok (.iconst 1, 1) := by decide +kernel
theorem dX8_drawn_33 : decode cX8_drawn 33 = .ok (.invokestatic 128, 3) := by decide +kernel
theorem dX8_drawn_36 : decode cX8_drawn 36 = .ok (.ifCond .ne 5, 3) := by decide +kernel
theorem dX8_drawn_39 : decode cX8_drawn 39 = .ok (.iconst (-1), 1) := by decide +kernel
theorem dX8_drawn_40 : decode cX8_drawn 40 = .ok (.ireturn, 1) := by decide +kernel
theorem dX8_drawn_41 : decode cX8_drawn 41 = .ok (.iload_n 1, 1) := by decide +kernel
theorem dX8_drawn_42 : decode cX8_drawn 42 = .ok (.istore 4, 2) := by decide +kernel
theorem dX8_drawn_44 : decode cX8_drawn 44 = .ok (.iconst 0, 1) := by decide +kernel
theorem dX8_drawn_45 : decode cX8_drawn 45 = .ok (.istore 5, 2) := by decide +kernel
theorem dX8_drawn_47 : decode cX8_drawn 47 = .ok (.iconst 0, 1) := by decide +kernel
theorem dX8_drawn_48 : decode cX8_drawn 48 = .ok (.istore 6, 2) := by decide +kernel
theorem dX8_drawn_50 : decode cX8_drawn 50 = .ok (.iconst 0, 1) := by decide +kernel
theorem dX8_drawn_51 : decode cX8_drawn 51 = .ok (.istore 7, 2) := by decide +kernel
theorem dX8_drawn_53 : decode cX8_drawn 53 = .ok (.iload 7, 2) := by decide +kernel
theorem dX8_drawn_55 : decode cX8_drawn 55 = .ok (.iload_n 2, 1) := by decide +kernel
theorem dX8_drawn_56 : decode cX8_drawn 56 = .ok (.bipush 100, 2) := by decide +kernel
theorem dX8_drawn_58 : decode cX8_drawn 58 = .ok (.idiv, 1) := by decide +kernel
theorem dX8_drawn_59 : decode cX8_drawn 59 = .ok (.if_icmp .ge 139, 3) := by decide +kernel
theorem dX8_drawn_62 : decode cX8_drawn 62 = .ok (.aload_n 0, 1) := by decide +kernel
theorem dX8_drawn_63 : decode cX8_drawn 63 = .ok (.invokevirtual 172, 3) := by decide +kernel
theorem dX8_drawn_66 : decode cX8_drawn 66 = .ok (.iconst 0, 1) := by decide +kernel
theorem dX8_drawn_67 : decode cX8_drawn 67 = .ok (.istore 8, 2) := by decide +kernel
theorem dX8_drawn_69 : decode cX8_drawn 69 = .ok (.iload 8, 2) := by decide +kernel
theorem dX8_drawn_71 : decode cX8_drawn 71 = .ok (.iload_n 2, 1) := by decide +kernel
theorem dX8_drawn_72 : decode cX8_drawn 72 = .ok (.bipush 100, 2) := by decide +kernel
theorem dX8_drawn_74 : decode cX8_drawn 74 = .ok (.irem, 1) := by decide +kernel
theorem dX8_drawn_75 : decode cX8_drawn 75 = .ok (.if_icmp .ge 88, 3) := by decide +kernel
theorem dX8_drawn_78 : decode cX8_drawn 78 = .ok (.aload_n 0, 1) := by decide +kernel
theorem dX8_drawn_79 : decode cX8_drawn 79 = .ok (.getfield 125, 3) := by decide +kernel
theorem dX8_drawn_82 : decode cX8_drawn 82 = .ok (.ifCond .le 81, 3) := by decide +kernel
theorem dX8_drawn_85 : decode cX8_drawn 85 = .ok (.iload 4, 2) := by decide +kernel
theorem dX8_drawn_87 : decode cX8_drawn 87 = .ok (.ldc_w 320, 3) := by decide +kernel
theorem dX8_drawn_90 : decode cX8_drawn 90 = .ok (.imul, 1) := by decide +kernel
theorem dX8_drawn_91 : decode cX8_drawn 91 = .ok (.sipush 12345, 3) := by decide +kernel
theorem dX8_drawn_94 : decode cX8_drawn 94 = .ok (.iadd, 1) := by decide +kernel
theorem dX8_drawn_95 : decode cX8_drawn 95 = .ok (.istore 4, 2) := by decide +kernel
theorem dX8_drawn_97 : decode cX8_drawn 97 = .ok (.iload 4, 2) := by decide +kernel
theorem dX8_drawn_99 : decode cX8_drawn 99 = .ok (.bipush 12, 2) := by decide +kernel
theorem dX8_drawn_101 : decode cX8_drawn 101 = .ok (.iushr, 1) := by decide +kernel
theorem dX8_drawn_102 : decode cX8_drawn 102 = .ok (.bipush 10, 2) := by decide +kernel
theorem dX8_drawn_104 : decode cX8_drawn 104 = .ok (.irem, 1) := by decide +kernel
theorem dX8_drawn_105 : decode cX8_drawn 105 = .ok (.istore 9, 2) := by decide +kernel
theorem dX8_drawn_107 : decode cX8_drawn 107 = .ok (.iload 4, 2) := by decide +kernel
theorem dX8_drawn_109 : decode cX8_drawn 109 = .ok (.bipush 18, 2) := by decide +kernel
theorem dX8_drawn_111 : decode cX8_drawn 111 = .ok (.iushr, 1) := by decide +kernel
theorem dX8_drawn_112 : decode cX8_drawn 112 = .ok (.iconst 2, 1) := by decide +kernel
theorem dX8_drawn_113 : decode cX8_drawn 113 = .ok (.irem, 1) := by decide +kernel
theorem dX8_drawn_114 : decode cX8_drawn 114 = .ok (.istore 10, 2) := by decide +kernel
theorem dX8_drawn_116 : decode cX8_drawn 116 = .ok (.iload 10, 2) := by decide +kernel
theorem dX8_drawn_118 : decode cX8_drawn 118 = .ok (.aload_n 0, 1) := by decide +kernel
theorem dX8_drawn_119 : decode cX8_drawn 119 = .ok (.getfield 19, 3) := by decide +kernel
theorem dX8_drawn_122 : decode cX8_drawn 122 = .ok (.iload 9, 2) := by decide +kernel
theorem dX8_drawn_124 : decode cX8_drawn 124 = .ok (.iaload, 1) := by decide +kernel
theorem dX8_drawn_125 : decode cX8_drawn 125 = .ok (.if_icmp .eq 6, 3) := by decide +kernel
theorem dX8_drawn_128 : decode cX8_drawn 128 = .ok (.iinc 5 1, 3) := by decide +kernel
theorem dX8_drawn_131 : decode cX8_drawn 131 = .ok (.aload_n 0, 1) := by decide +kernel
theorem dX8_drawn_132 : decode cX8_drawn 132 = .ok (.iload 4, 2) := by decide +kernel
theorem dX8_drawn_134 : decode cX8_drawn 134 = .ok (.iconst 4, 1) := by decide +kernel
theorem dX8_drawn_135 : decode cX8_drawn 135 = .ok (.iushr, 1) := by decide +kernel
theorem dX8_drawn_136 : decode cX8_drawn 136 = .ok (.aload_n 0, 1) := by decide +kernel
theorem dX8_drawn_137 : decode cX8_drawn 137 = .ok (.getfield 125, 3) := by decide +kernel
theorem dX8_drawn_140 : decode cX8_drawn 140 = .ok (.irem, 1) := by decide +kernel
theorem dX8_drawn_141 : decode cX8_drawn 141 = .ok (.iload 9, 2) := by decide +kernel
theorem dX8_drawn_143 : decode cX8_drawn 143 = .ok (.iload 10, 2) := by decide +kernel
theorem dX8_drawn_145 : decode cX8_drawn 145 = .ok (.iload 4, 2) := by decide +kernel
theorem dX8_drawn_147 : decode cX8_drawn 147 = .ok (.bipush 22, 2) := by decide +kernel
theorem dX8_drawn_149 : decode cX8_drawn 149 = .ok (.iushr, 1) := by decide +kernel
theorem dX8_drawn_150 : decode cX8_drawn 150 = .ok (.bipush 10, 2) := by decide +kernel
theorem dX8_drawn_152 : decode cX8_drawn 152 = .ok (.irem, 1) := by decide +kernel
theorem dX8_drawn_153 : decode cX8_drawn 153 = .ok (.invokevirtual 276, 3) := by decide +kernel
theorem dX8_drawn_156 : decode cX8_drawn 156 = .ok (.pop, 1) := by decide +kernel
theorem dX8_drawn_157 : decode cX8_drawn 157 = .ok (.iinc 8 1, 3) := by decide +kernel
theorem dX8_drawn_160 : decode cX8_drawn 160 = .ok (.goto (-91), 3) := by decide +kernel
theorem dX8_drawn_163 : decode cX8_drawn 163 = .ok (.iconst 0, 1) := by decide +kernel
theorem dX8_drawn_164 : decode cX8_drawn 164 = .ok (.istore 8, 2) := by decide +kernel
theorem dX8_drawn_166 : decode cX8_drawn 166 = .ok (.iload 8, 2) := by decide +kernel
theorem dX8_drawn_168 : decode cX8_drawn 168 = .ok (.aload_n 0, 1) := by decide +kernel
theorem dX8_drawn_169 : decode cX8_drawn 169 = .ok (.getfield 125, 3) := by decide +kernel
theorem dX8_drawn_172 : decode cX8_drawn 172 = .ok (.if_icmp .ge 20, 3) := by decide +kernel
theorem dX8_drawn_175 : decode cX8_drawn 175 = .ok (.iload 6, 2) := by decide +kernel
theorem dX8_drawn_177 : decode cX8_drawn 177 = .ok (.aload_n 0, 1) := by decide +kernel
theorem dX8_drawn_178 : decode cX8_drawn 178 = .ok (.iload 8, 2) := by decide +kernel
theorem dX8_drawn_180 : decode cX8_drawn 180 = .ok (.invokevirtual 249, 3) := by decide +kernel
theorem dX8_drawn_183 : decode cX8_drawn 183 = .ok (.iadd, 1) := by decide +kernel
theorem dX8_drawn_184 : decode cX8_drawn 184 = .ok (.istore 6, 2) := by decide +kernel
theorem dX8_drawn_186 : decode cX8_drawn 186 = .ok (.iinc 8 1, 3) := by decide +kernel
theorem dX8_drawn_189 : decode cX8_drawn 189 = .ok (.goto (-23), 3) := by decide +kernel
theorem dX8_drawn_192 : decode cX8_drawn 192 = .ok (.iinc 7 1, 3) := by decide +kernel
theorem dX8_drawn_195 : decode cX8_drawn 195 = .ok (.goto (-142), 3) := by decide +kernel
theorem dX8_drawn_198 : decode cX8_drawn 198 = .ok (.iload_n 3, 1) := by decide +kernel
theorem dX8_drawn_199 : decode cX8_drawn 199 = .ok (.ifCond .ne 8, 3) := by decide +kernel
theorem dX8_drawn_202 : decode cX8_drawn 202 = .ok (.iload 5, 2) := by decide +kernel
theorem dX8_drawn_204 : decode cX8_drawn 204 = .ok (.goto 5, 3) := by decide +kernel
theorem dX8_drawn_207 : decode cX8_drawn 207 = .ok (.iload 6, 2) := by decide +kernel
theorem dX8_drawn_209 : decode cX8_drawn 209 = .ok (.ireturn, 1) := by decide +kernel
theorem dX8_say_0 : decode cX8_say 0 = .ok (.aload_n 0, 1) := by decide +kernel
theorem dX8_say_1 : decode cX8_say 1 = .ok (.iload_n 1, 1) := by decide +kernel
theorem dX8_say_2 : decode cX8_say 2 = .ok (.invokevirtual 156, 3) := by decide +kernel
theorem dX8_say_5 : decode cX8_say 5 = .ok (.ifCond .eq 28, 3) := by decide +kernel
theorem dX8_say_8 : decode cX8_say 8 = .ok (.iload_n 2, 1) := by decide +kernel
theorem dX8_say_9 : decode cX8_say 9 = .ok (.ifCond .lt 24, 3) := by decide +kernel
theorem dX8_say_12 : decode cX8_say 12 = .ok (.iload_n 2, 1) := by decide +kernel
theorem dX8_say_13 : decode cX8_say 13 = .ok (.bipush 100, 2) := by decide +kernel
theorem dX8_say_15 : decode cX8_say 15 = .ok (.idiv, 1) := by decide +kernel
theorem dX8_say_16 : decode cX8_say 16 = .ok (.invokestatic 159, 3) := by decide +kernel
theorem dX8_say_19 : decode cX8_say 19 = .ok (.ifCond .eq 14, 3) := by decide +kernel
theorem dX8_say_22 : decode cX8_say 22 = .ok (.iload_n 2, 1) := by decide +kernel
theorem dX8_say_23 : decode cX8_say 23 = .ok (.bipush 10, 2) := by decide +kernel
theorem dX8_say_25 : decode cX8_say 25 = .ok (.idiv, 1) := by decide +kernel
theorem dX8_say_26 : decode cX8_say 26 = .ok (.bipush 10, 2) := by decide +kernel
theorem dX8_say_28 : decode cX8_say 28 = .ok (.irem, 1) := by decide +kernel
theorem dX8_say_29 : decode cX8_say 29 = .ok (.iconst 1, 1) := by decide +kernel
theorem dX8_say_30 : decode cX8_say 30 = .ok (.if_icmp .le 5, 3) := by decide +kernel
theorem dX8_say_33 : decode cX8_say 33 = .ok (.iconst (-1), 1) := by decide +kernel
theorem dX8_say_34 : decode cX8_say 34 = .ok (.ireturn, 1) := by decide +kernel
theorem dX8_say_35 : decode cX8_say 35 = .ok (.aload_n 0, 1) := by decide +kernel
theorem dX8_say_36 : decode cX8_say 36 = .ok (.invokevirtual 172, 3) := by decide +kernel
theorem dX8_say_39 : decode cX8_say 39 = .ok (.iload_n 2, 1) := by decide +kernel
theorem dX8_say_40 : decode cX8_say 40 = .ok (.bipush 10, 2) := by decide +kernel
theorem dX8_say_42 : decode cX8_say 42 = .ok (.idiv, 1) := by decide +kernel
theorem dX8_say_43 : decode cX8_say 43 = .ok (.bipush 10, 2) := by decide +kernel
theorem dX8_say_45 : decode cX8_say 45 = .ok (.irem, 1) := by decide +kernel
theorem dX8_say_46 : decode cX8_say 46 = .ok (.istore_n 3, 1) := by decide +kernel
theorem dX8_say_47 : decode cX8_say 47 = .ok (.iload_n 3, 1) := by decide +kernel
theorem dX8_say_48 : decode cX8_say 48 = .ok (.aload_n 0, 1) := by decide +kernel
theorem dX8_say_49 : decode cX8_say 49 = .ok (.getfield 19, 3) := by decide +kernel
theorem dX8_say_52 : decode cX8_say 52 = .ok (.iload_n 2, 1) := by decide +kernel
theorem dX8_say_53 : decode cX8_say 53 = .ok (.bipush 100, 2) := by decide +kernel
theorem dX8_say_55 : decode cX8_say 55 = .ok (.idiv, 1) := by decide +kernel
theorem dX8_say_56 : decode cX8_say 56 = .ok (.iaload, 1) := by decide +kernel
theorem dX8_say_57 : decode cX8_say 57 = .ok (.if_icmp .eq 7, 3) := by decide +kernel
theorem dX8_say_60 : decode cX8_say 60 = .ok (.iconst 1, 1) := by decide +kernel
theorem dX8_say_61 : decode cX8_say 61 = .ok (.goto 4, 3) := by decide +kernel
theorem dX8_say_64 : decode cX8_say 64 = .ok (.iconst 0, 1) := by decide +kernel
theorem dX8_say_65 : decode cX8_say 65 = .ok (.istore 4, 2) := by decide +kernel
theorem dX8_say_67 : decode cX8_say 67 = .ok (.aload_n 0, 1) := by decide +kernel
theorem dX8_say_68 : decode cX8_say 68 = .ok (.iload_n 1, 1) := by decide +kernel
theorem dX8_say_69 : decode cX8_say 69 = .ok (.iload_n 2, 1) := by decide +kernel
theorem dX8_say_70 : decode cX8_say 70 = .ok (.bipush 100, 2) := by decide +kernel
theorem dX8_say_72 : decode cX8_say 72 = .ok (.idiv, 1) := by decide +kernel
theorem dX8_say_73 : decode cX8_say 73 = .ok (.iload_n 3, 1) := by decide +kernel
theorem dX8_say_74 : decode cX8_say 74 = .ok (.iload_n 2, 1) := by decide +kernel
theorem dX8_say_75 : decode cX8_say 75 = .ok (.bipush 10, 2) := by decide +kernel
theorem dX8_say_77 : decode cX8_say 77 = .ok (.irem, 1) := by decide +kernel
theorem dX8_say_78 : decode cX8_say 78 = .ok (.invokevirtual 276, 3) := by decide +kernel
theorem dX8_say_81 : decode cX8_say 81 = .ok (.istore 5, 2) := by decide +kernel
theorem dX8_say_83 : decode cX8_say 83 = .ok (.iconst 0, 1) := by decide +kernel
theorem dX8_say_84 : decode cX8_say 84 = .ok (.istore 6, 2) := by decide +kernel
theorem dX8_say_86 : decode cX8_say 86 = .ok (.iload 6, 2) := by decide +kernel
theorem dX8_say_88 : decode cX8_say 88 = .ok (.bipush 8, 2) := by decide +kernel
theorem dX8_say_90 : decode cX8_say 90 = .ok (.if_icmp .ge 33, 3) := by decide +kernel
theorem dX8_say_93 : decode cX8_say 93 = .ok (.aload_n 0, 1) := by decide +kernel
theorem dX8_say_94 : decode cX8_say 94 = .ok (.getfield 7, 3) := by decide +kernel
theorem dX8_say_97 : decode cX8_say 97 = .ok (.bipush 8, 2) := by decide +kernel
theorem dX8_say_99 : decode cX8_say 99 = .ok (.iload_n 1, 1) := by decide +kernel
theorem dX8_say_100 : decode cX8_say 100 = .ok (.imul, 1) := by decide +kernel
theorem dX8_say_101 : decode cX8_say 101 = .ok (.iload 6, 2) := by decide +kernel
theorem dX8_say_103 : decode cX8_say 103 = .ok (.iadd, 1) := by decide +kernel
theorem dX8_say_104 : decode cX8_say 104 = .ok (.aload_n 0, 1) := by decide +kernel
theorem dX8_say_105 : decode cX8_say 105 = .ok (.getfield 64, 3) := by decide +kernel
theorem dX8_say_108 : decode cX8_say 108 = .ok (.bipush 8, 2) := by decide +kernel
theorem dX8_say_110 : decode cX8_say 110 = .ok (.iload_n 1, 1) := by decide +kernel
theorem dX8_say_111 : decode cX8_say 111 = .ok (.imul, 1) := by decide +kernel
theorem dX8_say_112 : decode cX8_say 112 = .ok (.iload 6, 2) := by decide +kernel
theorem dX8_say_114 : decode cX8_say 114 = .ok (.iadd, 1) := by decide +kernel
theorem dX8_say_115 : decode cX8_say 115 = .ok (.iaload, 1) := by decide +kernel
theorem dX8_say_116 : decode cX8_say 116 = .ok (.iastore, 1) := by decide +kernel
theorem dX8_say_117 : decode cX8_say 117 = .ok (.iinc 6 1, 3) := by decide +kernel
theorem dX8_say_120 : decode cX8_say 120 = .ok (.goto (-34), 3) := by decide +kernel
theorem dX8_say_123 : decode cX8_say 123 = .ok (.aload_n 0, 1) := by decide +kernel
theorem dX8_say_124 : decode cX8_say 124 = .ok (.getfield 16, 3) := by decide +kernel
theorem dX8_say_127 : decode cX8_say 127 = .ok (.iload_n 1, 1) := by decide +kernel
theorem dX8_say_128 : decode cX8_say 128 = .ok (.aload_n 0, 1) := by decide +kernel
theorem dX8_say_129 : decode cX8_say 129 = .ok (.getfield 67, 3) := by decide +kernel
theorem dX8_say_132 : decode cX8_say 132 = .ok (.iload_n 1, 1) := by decide +kernel
theorem dX8_say_133 : decode cX8_say 133 = .ok (.iaload, 1) := by decide +kernel
theorem dX8_say_134 : decode cX8_say 134 = .ok (.iastore, 1) := by decide +kernel
theorem dX8_say_135 : decode cX8_say 135 = .ok (.aload_n 0, 1) := by decide +kernel
theorem dX8_say_136 : decode cX8_say 136 = .ok (.getfield 88, 3) := by decide +kernel
theorem dX8_say_139 : decode cX8_say 139 = .ok (.iconst 0, 1) := by decide +kernel
theorem dX8_say_140 : decode cX8_say 140 = .ok (.dup2, 1) := by decide +kernel
theorem dX8_say_141 : decode cX8_say 141 = .ok (.iaload, 1) := by decide +kernel
theorem dX8_say_142 : decode cX8_say 142 = .ok (.iconst 1, 1) := by decide +kernel
theorem dX8_say_143 : decode cX8_say 143 = .ok (.iadd, 1) := by decide +kernel
theorem dX8_say_144 : decode cX8_say 144 = .ok (.iastore, 1) := by decide +kernel
theorem dX8_say_145 : decode cX8_say 145 = .ok (.iload 4, 2) := by decide +kernel
theorem dX8_say_147 : decode cX8_say 147 = .ok (.ifCond .eq 13, 3) := by decide +kernel
theorem dX8_say_150 : decode cX8_say 150 = .ok (.aload_n 0, 1) := by decide +kernel
theorem dX8_say_151 : decode cX8_say 151 = .ok (.getfield 88, 3) := by decide +kernel
theorem dX8_say_154 : decode cX8_say 154 = .ok (.iconst 1, 1) := by decide +kernel
theorem dX8_say_155 : decode cX8_say 155 = .ok (.dup2, 1) := by decide +kernel
theorem dX8_say_156 : decode cX8_say 156 = .ok (.iaload, 1) := by decide +kernel
theorem dX8_say_157 : decode cX8_say 157 = .ok (.iconst 1, 1) := by decide +kernel
theorem dX8_say_158 : decode cX8_say 158 = .ok (.iadd, 1) := by decide +kernel
theorem dX8_say_159 : decode cX8_say 159 = .ok (.iastore, 1) := by decide +kernel
theorem dX8_say_160 : decode cX8_say 160 = .ok (.aload_n 0, 1) := by decide +kernel
theorem dX8_say_161 : decode cX8_say 161 = .ok (.getfield 88, 3) := by decide +kernel
theorem dX8_say_164 : decode cX8_say 164 = .ok (.iconst 2, 1) := by decide +kernel
theorem dX8_say_165 : decode cX8_say 165 = .ok (.dup2, 1) := by decide +kernel
theorem dX8_say_166 : decode cX8_say 166 = .ok (.iaload, 1) := by decide +kernel
theorem dX8_say_167 : decode cX8_say 167 = .ok (.iload 5, 2) := by decide +kernel
theorem dX8_say_169 : decode cX8_say 169 = .ok (.iadd, 1) := by decide +kernel
theorem dX8_say_170 : decode cX8_say 170 = .ok (.iastore, 1) := by decide +kernel
theorem dX8_say_171 : decode cX8_say 171 = .ok (.iload 5, 2) := by decide +kernel
theorem dX8_say_173 : decode cX8_say 173 = .ok (.ireturn, 1) := by decide +kernel
theorem dX8_lend_0 : decode cX8_lend 0 = .ok (.iload_n 1, 1) := by decide +kernel
theorem dX8_lend_1 : decode cX8_lend 1 = .ok (.ifCond .lt 46, 3) := by decide +kernel
theorem dX8_lend_4 : decode cX8_lend 4 = .ok (.aload_n 0, 1) := by decide +kernel
theorem dX8_lend_5 : decode cX8_lend 5 = .ok (.iload_n 1, 1) := by decide +kernel
theorem dX8_lend_6 : decode cX8_lend 6 = .ok (.bipush 10, 2) := by decide +kernel
theorem dX8_lend_8 : decode cX8_lend 8 = .ok (.idiv, 1) := by decide +kernel
theorem dX8_lend_9 : decode cX8_lend 9 = .ok (.invokevirtual 156, 3) := by decide +kernel
theorem dX8_lend_12 : decode cX8_lend 12 = .ok (.ifCond .eq 35, 3) := by decide +kernel
theorem dX8_lend_15 : decode cX8_lend 15 = .ok (.aload_n 0, 1) := by decide +kernel
theorem dX8_lend_16 : decode cX8_lend 16 = .ok (.iload_n 1, 1) := by decide +kernel
theorem dX8_lend_17 : decode cX8_lend 17 = .ok (.bipush 10, 2) := by decide +kernel
theorem dX8_lend_19 : decode cX8_lend 19 = .ok (.irem, 1) := by decide +kernel
theorem dX8_lend_20 : decode cX8_lend 20 = .ok (.invokevirtual 156, 3) := by decide +kernel
theorem dX8_lend_23 : decode cX8_lend 23 = .ok (.ifCond .eq 24, 3) := by decide +kernel
theorem dX8_lend_26 : decode cX8_lend 26 = .ok (.iload_n 1, 1) := by decide +kernel
theorem dX8_lend_27 : decode cX8_lend 27 = .ok (.bipush 10, 2) := by decide +kernel
theorem dX8_lend_29 : decode cX8_lend 29 = .ok (.idiv, 1) := by decide +kernel
theorem dX8_lend_30 : decode cX8_lend 30 = .ok (.iload_n 1, 1) := by decide +kernel
theorem dX8_lend_31 : decode cX8_lend 31 = .ok (.bipush 10, 2) := by decide +kernel
theorem dX8_lend_33 : decode cX8_lend 33 = .ok (.irem, 1) := by decide +kernel
theorem dX8_lend_34 : decode cX8_lend 34 = .ok (.if_icmp .eq 13, 3) := by decide +kernel
theorem dX8_lend_37 : decode cX8_lend 37 = .ok (.iload_n 2, 1) := by decide +kernel
theorem dX8_lend_38 : decode cX8_lend 38 = .ok (.iconst 0, 1) := by decide +kernel
theorem dX8_lend_39 : decode cX8_lend 39 = .ok (.bipush 7, 2) := by decide +kernel
theorem dX8_lend_41 : decode cX8_lend 41 = .ok (.invokestatic 128, 3) := by decide +kernel
theorem dX8_lend_44 : decode cX8_lend 44 = .ok (.ifCond .ne 5, 3) := by decide +kernel
theorem dX8_lend_47 : decode cX8_lend 47 = .ok (.iconst (-1), 1) := by decide +kernel
theorem dX8_lend_48 : decode cX8_lend 48 = .ok (.ireturn, 1) := by decide +kernel
theorem dX8_lend_49 : decode cX8_lend 49 = .ok (.iload_n 1, 1) := by decide +kernel
theorem dX8_lend_50 : decode cX8_lend 50 = .ok (.bipush 10, 2) := by decide +kernel
theorem dX8_lend_52 : decode cX8_lend 52 = .ok (.idiv, 1) := by decide +kernel
