theorem dX2_summon_0 : decode cX2_summon 0 = .ok (.aload_n 0, 1) := by decide +kernel
theorem dX2_summon_1 : decode cX2_summon 1 = .ok (.iconst 0, 1) := by decide +kernel
theorem dX2_summon_2 : decode cX2_summon 2 = .ok (.putfield 31, 3) := by decide +kernel
theorem dX2_summon_5 : decode cX2_summon 5 = .ok (.iconst 0, 1) := by decide +kernel
theorem dX2_summon_6 : decode cX2_summon 6 = .ok (.istore_n 3, 1) := by decide +kernel
theorem dX2_summon_7 : decode cX2_summon 7 = .ok (.iload_n 3, 1) := by decide +kernel
theorem dX2_summon_8 : decode cX2_summon 8 = .ok (.iconst 4, 1) := by decide +kernel
theorem dX2_summon_9 : decode cX2_summon 9 = .ok (.iadd, 1) := by decide +kernel
theorem dX2_summon_10 : decode cX2_summon 10 = .ok (.aload_n 1, 1) := by decide +kernel
theorem dX2_summon_11 : decode cX2_summon 11 = .ok (.getfield 35, 3) := by decide +kernel
theorem dX2_summon_14 : decode cX2_summon 14 = .ok (.if_icmp .gt 195, 3) := by decide +kernel
theorem dX2_summon_17 : decode cX2_summon 17 = .ok (.aload_n 0, 1) := by decide +kernel
theorem dX2_summon_18 : decode cX2_summon 18 = .ok (.getfield 31, 3) := by decide +kernel
theorem dX2_summon_21 : decode cX2_summon 21 = .ok (.bipush 15, 2) := by decide +kernel
theorem dX2_summon_23 : decode cX2_summon 23 = .ok (.if_icmp .ge 186, 3) := by decide +kernel
theorem dX2_summon_26 : decode cX2_summon 26 = .ok (.aload_n 1, 1) := by decide +kernel
theorem dX2_summon_27 : decode cX2_summon 27 = .ok (.getfield 40, 3) := by decide +kernel
theorem dX2_summon_30 : decode cX2_summon 30 = .ok (.iload_n 3, 1) := by decide +kernel
theorem dX2_summon_31 : decode cX2_summon 31 = .ok (.laload, 1) := by decide +kernel
theorem dX2_summon_32 : decode cX2_summon 32 = .ok (.lstore 4, 2) := by decide +kernel
theorem dX2_summon_34 : decode cX2_summon 34 = .ok (.aload_n 1, 1) := by decide +kernel
theorem dX2_summon_35 : decode cX2_summon 35 = .ok (.getfield 40, 3) := by decide +kernel
theorem dX2_summon_38 : decode cX2_summon 38 = .ok (.iload_n 3, 1) := by decide +kernel
theorem dX2_summon_39 : decode cX2_summon 39 = .ok (.iconst 1, 1) := by decide +kernel
theorem dX2_summon_40 : decode cX2_summon 40 = .ok (.iadd, 1) := by decide +kernel
theorem dX2_summon_41 : decode cX2_summon 41 = .ok (.laload, 1) := by decide +kernel
theorem dX2_summon_42 : decode cX2_summon 42 = .ok (.lstore 6, 2) := by decide +kernel
theorem dX2_summon_44 : decode cX2_summon 44 = .ok (.aload_n 1, 1) := by decide +kernel
theorem dX2_summon_45 : decode cX2_summon 45 = .ok (.getfield 40, 3) := by decide +kernel
theorem dX2_summon_48 : decode cX2_summon 48 = .ok (.iload_n 3, 1) := by decide +kernel
theorem dX2_summon_49 : decode cX2_summon 49 = .ok (.iconst 2, 1) := by decide +kernel
theorem dX2_summon_50 : decode cX2_summon 50 = .ok (.iadd, 1) := by decide +kernel
theorem dX2_summon_51 : decode cX2_summon 51 = .ok (.laload, 1) := by decide +kernel
theorem dX2_summon_52 : decode cX2_summon 52 = .ok (.lstore 8, 2) := by decide +kernel
theorem dX2_summon_54 : decode cX2_summon 54 = .ok (.aload_n 1, 1) := by decide +kernel
theorem dX2_summon_55 : decode cX2_summon 55 = .ok (.getfield 40, 3) := by decide +kernel
theorem dX2_summon_58 : decode cX2_summon 58 = .ok (.iload_n 3, 1) := by decide +kernel
theorem dX2_summon_59 : decode cX2_summon 59 = .ok (.iconst 3, 1) := by decide +kernel
theorem dX2_summon_60 : decode cX2_summon 60 = .ok (.iadd, 1) := by decide +kernel
theorem dX2_summon_61 : decode cX2_summon 61 = .ok (.laload, 1) := by decide +kernel
theorem dX2_summon_62 : decode cX2_summon 62 = .ok (.lstore 10, 2) := by decide +kernel
theorem dX2_summon_64 : decode cX2_summon 64 = .ok (.lload 4, 2) := by decide +kernel
theorem dX2_summon_66 : decode cX2_summon 66 = .ok (.lconst 0, 1) := by decide +kernel
theorem dX2_summon_67 : decode cX2_summon 67 = .ok (.lcmp, 1) := by decide +kernel
theorem dX2_summon_68 : decode cX2_summon 68 = .ok (.ifCond .lt 15, 3) := by decide +kernel
theorem dX2_summon_71 : decode cX2_summon 71 = .ok (.lload 4, 2) := by decide +kernel
theorem dX2_summon_73 : decode cX2_summon 73 = .ok (.iload_n 2, 1) := by decide +kernel
theorem dX2_summon_74 : decode cX2_summon 74 = .ok (.i2l, 1) := by decide +kernel
theorem dX2_summon_75 : decode cX2_summon 75 = .ok (.lcmp, 1) := by decide +kernel
theorem dX2_summon_76 : decode cX2_summon 76 = .ok (.ifCond .ge 7, 3) := by decide +kernel
theorem dX2_summon_79 : decode cX2_summon 79 = .ok (.iconst 1, 1) := by decide +kernel
theorem dX2_summon_80 : decode cX2_summon 80 = .ok (.goto 4, 3) := by decide +kernel
theorem dX2_summon_83 : decode cX2_summon 83 = .ok (.iconst 0, 1) := by decide +kernel
theorem dX2_summon_84 : decode cX2_summon 84 = .ok (.istore 12, 2) := by decide +kernel
theorem dX2_summon_86 : decode cX2_summon 86 = .ok (.lload 6, 2) := by decide +kernel
theorem dX2_summon_88 : decode cX2_summon 88 = .ok (.lconst 0, 1) := by decide +kernel
theorem dX2_summon_89 : decode cX2_summon 89 = .ok (.lcmp, 1) := by decide +kernel
theorem dX2_summon_90 : decode cX2_summon 90 = .ok (.ifCond .lt 30, 3) := by decide +kernel
theorem dX2_summon_93 : decode cX2_summon 93 = .ok (.lload 6, 2) := by decide +kernel
theorem dX2_summon_95 : decode cX2_summon 95 = .ok (.ldc2_w 44, 3) := by decide +kernel
theorem dX2_summon_98 : decode cX2_summon 98 = .ok (.lcmp, 1) := by decide +kernel
theorem dX2_summon_99 : decode cX2_summon 99 = .ok (.ifCond .ge 21, 3) := by decide +kernel
theorem dX2_summon_102 : decode cX2_summon 102 = .ok (.lload 8, 2) := by decide +kernel
theorem dX2_summon_104 : decode cX2_summon 104 = .ok (.lconst 0, 1) := by decide +kernel
theorem dX2_summon_105 : decode cX2_summon 105 = .ok (.lcmp, 1) := by decide +kernel
theorem dX2_summon_106 : decode cX2_summon 106 = .ok (.ifCond .lt 14, 3) := by decide +kernel
theorem dX2_summon_109 : decode cX2_summon 109 = .ok (.lload 8, 2) := by decide +kernel
theorem dX2_summon_111 : decode cX2_summon 111 = .ok (.lconst 1, 1) := by decide +kernel
theorem dX2_summon_112 : decode cX2_summon 112 = .ok (.lcmp, 1) := by decide +kernel
theorem dX2_summon_113 : decode cX2_summon 113 = .ok (.ifCond .gt 7, 3) := by decide +kernel
theorem dX2_summon_116 : decode cX2_summon 116 = .ok (.iconst 1, 1) := by decide +kernel
theorem dX2_summon_117 : decode cX2_summon 117 = .ok (.goto 4, 3) := by decide +kernel
theorem dX2_summon_120 : decode cX2_summon 120 = .ok (.iconst 0, 1) := by decide +kernel
theorem dX2_summon_121 : decode cX2_summon 121 = .ok (.istore 13, 2) := by decide +kernel
theorem dX2_summon_123 : decode cX2_summon 123 = .ok (.iload 12, 2) := by decide +kernel
theorem dX2_summon_125 : decode cX2_summon 125 = .ok (.ifCond .eq 24, 3) := by decide +kernel
theorem dX2_summon_128 : decode cX2_summon 128 = .ok (.iload 13, 2) := by decide +kernel
theorem dX2_summon_130 : decode cX2_summon 130 = .ok (.ifCond .eq 19, 3) := by decide +kernel
theorem dX2_summon_133 : decode cX2_summon 133 = .ok (.lload 10, 2) := by decide +kernel
theorem dX2_summon_135 : decode cX2_summon 135 = .ok (.lconst 0, 1) := by decide +kernel
theorem dX2_summon_136 : decode cX2_summon 136 = .ok (.lcmp, 1) := by decide +kernel
theorem dX2_summon_137 : decode cX2_summon 137 = .ok (.ifCond .lt 12, 3) := by decide +kernel
theorem dX2_summon_140 : decode cX2_summon 140 = .ok (.lload 10, 2) := by decide +kernel
theorem dX2_summon_142 : decode cX2_summon 142 = .ok (.ldc2_w 44, 3) := by decide +kernel
theorem dX2_summon_145 : decode cX2_summon 145 = .ok (.lcmp, 1) := by decide +kernel
theorem dX2_summon_146 : decode cX2_summon 146 = .ok (.ifCond .lt 4, 3) := by decide +kernel
theorem dX2_summon_149 : decode cX2_summon 149 = .ok (.return_, 1) := by decide +kernel
theorem dX2_summon_150 : decode cX2_summon 150 = .ok (.aload_n 0, 1) := by decide +kernel
theorem dX2_summon_151 : decode cX2_summon 151 = .ok (.getfield 11, 3) := by decide +kernel
theorem dX2_summon_154 : decode cX2_summon 154 = .ok (.aload_n 0, 1) := by decide +kernel
theorem dX2_summon_155 : decode cX2_summon 155 = .ok (.getfield 31, 3) := by decide +kernel
theorem dX2_summon_158 : decode cX2_summon 158 = .ok (.lload 4, 2) := by decide +kernel
theorem dX2_summon_160 : decode cX2_summon 160 = .ok (.l2i, 1) := by decide +kernel
theorem dX2_summon_161 : decode cX2_summon 161 = .ok (.iastore, 1) := by decide +kernel
theorem dX2_summon_162 : decode cX2_summon 162 = .ok (.aload_n 0, 1) := by decide +kernel
theorem dX2_summon_163 : decode cX2_summon 163 = .ok (.getfield 15, 3) := by decide +kernel
theorem dX2_summon_166 : decode cX2_summon 166 = .ok (.aload_n 0, 1) := by decide +kernel
theorem dX2_summon_167 : decode cX2_summon 167 = .ok (.getfield 31, 3) := by decide +kernel
theorem dX2_summon_170 : decode cX2_summon 170 = .ok (.lload 6, 2) := by decide +kernel
theorem dX2_summon_172 : decode cX2_summon 172 = .ok (.ldc2_w 46, 3) := by decide +kernel
theorem dX2_summon_175 : decode cX2_summon 175 = .ok (.lmul, 1) := by decide +kernel
theorem dX2_summon_176 : decode cX2_summon 176 = .ok (.lload 8, 2) := by decide +kernel
theorem dX2_summon_178 : decode cX2_summon 178 = .ok (.ladd, 1) := by decide +kernel
theorem dX2_summon_179 : decode cX2_summon 179 = .ok (.l2i, 1) := by decide +kernel
theorem dX2_summon_180 : decode cX2_summon 180 = .ok (.iastore, 1) := by decide +kernel
theorem dX2_summon_181 : decode cX2_summon 181 = .ok (.aload_n 0, 1) := by decide +kernel
theorem dX2_summon_182 : decode cX2_summon 182 = .ok (.getfield 18, 3) := by decide +kernel
theorem dX2_summon_185 : decode cX2_summon 185 = .ok (.aload_n 0, 1) := by decide +kernel
theorem dX2_summon_186 : decode cX2_summon 186 = .ok (.getfield 31, 3) := by decide +kernel
theorem dX2_summon_189 : decode cX2_summon 189 = .ok (.lload 10, 2) := by decide +kernel
theorem dX2_summon_191 : decode cX2_summon 191 = .ok (.l2i, 1) := by decide +kernel
theorem dX2_summon_192 : decode cX2_summon 192 = .ok (.iastore, 1) := by decide +kernel
theorem dX2_summon_193 : decode cX2_summon 193 = .ok (.aload_n 0, 1) := by decide +kernel
theorem dX2_summon_194 : decode cX2_summon 194 = .ok (.dup, 1) := by decide +kernel
theorem dX2_summon_195 : decode cX2_summon 195 = .ok (.getfield 31, 3) := by decide +kernel
theorem dX2_summon_198 : decode cX2_summon 198 = .ok (.iconst 1, 1) := by decide +kernel
theorem dX2_summon_199 : decode cX2_summon 199 = .ok (.iadd, 1) := by decide +kernel
theorem dX2_summon_200 : decode cX2_summon 200 = .ok (.putfield 31, 3) := by decide +kernel
theorem dX2_summon_203 : decode cX2_summon 203 = .ok (.iinc 3 4, 3) := by decide +kernel
theorem dX2_summon_206 : decode cX2_summon 206 = .ok (.goto (-199), 3) := by decide +kernel
theorem dX2_summon_209 : decode cX2_summon 209 = .ok (.return_, 1) := by decide +kernel
theorem dX3_together_0 : decode cX3_together 0 = .ok (.iload_n 0, 1) := by decide +kernel
theorem dX3_together_1 : decode cX3_together 1 = .ok (.lookupswitch 188 #[(37, 176), (38, 105), (42, 160), (43, 152), (45, 156), (47, 164), (60, 119), (61, 130), (62, 141), (124, 91)], 91) := by decide +kernel
theorem dX3_together_92 : decode cX3_together 92 = .ok (.iload_n 1, 1) := by decide +kernel
theorem dX3_together_93 : decode cX3_together 93 = .ok (.ifCond .ne 7, 3) := by decide +kernel
theorem dX3_together_96 : decode cX3_together 96 = .ok (.iload_n 2, 1) := by decide +kernel
theorem dX3_together_97 : decode cX3_together 97 = .ok (.ifCond .eq 7, 3) := by decide +kernel
theorem dX3_together_100 : decode cX3_together 100 = .ok (.iconst 1, 1) := by decide +kernel
theorem dX3_together_101 : decode cX3_together 101 = .ok (.goto 4, 3) := by decide +kernel
theorem dX3_together_104 : decode cX3_together 104 = .ok (.iconst 0, 1) := by decide +kernel
theorem dX3_together_105 : decode cX3_together 105 = .ok (.ireturn, 1) := by decide +kernel
theorem dX3_together_106 : decode cX3_together 106 = .ok (.iload_n 1, 1) := by decide +kernel
theorem dX3_together_107 : decode cX3_together 107 = .ok (.ifCond .eq 11, 3) := by decide +kernel
theorem dX3_together_110 : decode cX3_together 110 = .ok (.iload_n 2, 1) := by decide +kernel
theorem dX3_together_111 : decode cX3_together 111 = .ok (.ifCond .eq 7, 3) := by decide +kernel
theorem dX3_together_114 : decode cX3_together 114 = .ok (.iconst 1, 1) := by decide +kernel
theorem dX3_together_115 : decode cX3_together 115 = .ok (.goto 4, 3) := by decide +kernel
theorem dX3_together_118 : decode cX3_together 118 = .ok (.iconst 0, 1) := by decide +kernel
theorem dX3_together_119 : decode cX3_together 119 = .ok (.ireturn, 1) := by decide +kernel
theorem dX3_together_120 : decode cX3_together 120 = .ok (.iload_n 1, 1) := by decide +kernel
theorem dX3_together_121 : decode cX3_together 121 = .ok (.iload_n 2, 1) := by decide +kernel
theorem dX3_together_122 : decode cX3_together 122 = .ok (.if_icmp .ge 7, 3) := by decide +kernel
theorem dX3_together_125 : decode cX3_together 125 = .ok (.iconst 1, 1) := by decide +kernel
theorem dX3_together_126 : decode cX3_together 126 = .ok (.goto 4, 3) := by decide +kernel
theorem dX3_together_129 : decode cX3_together 129 = .ok (.iconst 0, 1) := by decide +kernel
theorem dX3_together_130 : decode cX3_together 130 = .ok (.ireturn, 1) := by decide +kernel
theorem dX3_together_131 : decode cX3_together 131 = .ok (.iload_n 1, 1) := by decide +kernel
theorem dX3_together_132 : decode cX3_together 132 = .ok (.iload_n 2, 1) := by decide +kernel
theorem dX3_together_133 : decode cX3_together 133 = .ok (.if_icmp .ne 7, 3) := by decide +kernel
theorem dX3_together_136 : decode cX3_together 136 = .ok (.iconst 1, 1) := by decide +kernel
theorem dX3_together_137 : decode cX3_together 137 = .ok (.goto 4, 3) := by decide +kernel
theorem dX3_together_140 : decode cX3_together 140 = .ok (.iconst 0, 1) := by decide +kernel
theorem dX3_together_141 : decode cX3_together 141 = .ok (.ireturn, 1) := by decide +kernel
theorem dX3_together_142 : decode cX3_together 142 = .ok (.iload_n 1, 1) := by decide +kernel
theorem dX3_together_143 : decode cX3_together 143 = .ok (.iload_n 2, 1) := by decide +kernel
theorem dX3_together_144 : decode cX3_together 144 = .ok (.if_icmp .le 7, 3) := by decide +kernel
theorem dX3_together_147 : decode cX3_together 147 = .ok (.iconst 1, 1) := by decide +kernel
theorem dX3_together_148 : decode cX3_together 148 = .ok (.goto 4, 3) := by decide +kernel
theorem dX3_together_151 : decode cX3_together 151 = .ok (.iconst 0, 1) := by decide +kernel
theorem dX3_together_152 : decode cX3_together 152 = .ok (.ireturn, 1) := by decide +kernel
theorem dX3_together_153 : decode cX3_together 153 = .ok (.iload_n 1, 1) := by decide +kernel
theorem dX3_together_154 : decode cX3_together 154 = .ok (.iload_n 2, 1) := by decide +kernel
theorem dX3_together_155 : decode cX3_together 155 = .ok (.iadd, 1) := by decide +kernel
theorem dX3_together_156 : decode cX3_together 156 = .ok (.ireturn, 1) := by decide +kernel
theorem dX3_together_157 : decode cX3_together 157 = .ok (.iload_n 1, 1) := by decide +kernel
theorem dX3_together_158 : decode cX3_together 158 = .ok (.iload_n 2, 1) := by decide +kernel
theorem dX3_together_159 : decode cX3_together 159 = .ok (.isub, 1) := by decide +kernel
theorem dX3_together_160 : decode cX3_together 160 = .ok (.ireturn, 1) := by decide +kernel
theorem dX3_together_161 : decode cX3_together 161 = .ok (.iload_n 1, 1) := by decide +kernel
theorem dX3_together_162 : decode cX3_together 162 = .ok (.iload_n 2, 1) := by decide +kernel
theorem dX3_together_163 : decode cX3_together 163 = .ok (.imul, 1) := by decide +kernel
theorem dX3_together_164 : decode cX3_together 164 = .ok (.ireturn, 1) := by decide +kernel
theorem dX3_together_165 : decode cX3_together 165 = .ok (.iload_n 2, 1) := by decide +kernel
theorem dX3_together_166 : decode cX3_together 166 = .ok (.ifCond .ne 7, 3) := by decide +kernel
theorem dX3_together_169 : decode cX3_together 169 = .ok (.iconst 0, 1) := by decide +kernel
theorem dX3_together_170 : decode cX3_together 170 = .ok (.goto 6, 3) := by decide +kernel
theorem dX3_together_173 : decode cX3_together 173 = .ok (.iload_n 1, 1) := by decide +kernel
theorem dX3_together_174 : decode cX3_together 174 = .ok (.iload_n 2, 1) := by decide +kernel
theorem dX3_together_175 : decode cX3_together 175 = .ok (.idiv, 1) := by decide +kernel
theorem dX3_together_176 : decode cX3_together 176 = .ok (.ireturn, 1) := by decide +kernel
theorem dX3_together_177 : decode cX3_together 177 = .ok (.iload_n 2, 1) := by decide +kernel
theorem dX3_together_178 : decode cX3_together 178 = .ok (.ifCond .ne 7, 3) := by decide +kernel
theorem dX3_together_181 : decode cX3_together 181 = .ok (.iconst 0, 1) := by decide +kernel
theorem dX3_together_182 : decode cX3_together 182 = .ok (.goto 6, 3) := by decide +kernel
theorem dX3_together_185 : decode cX3_together 185 = .ok (.iload_n 1, 1) := by decide +kernel
theorem dX3_together_186 : decode cX3_together 186 = .ok (.iload_n 2, 1) := by decide +kernel
theorem dX3_together_187 : decode cX3_together 187 = .ok (.irem, 1) := by decide +kernel
theorem dX3_together_188 : decode cX3_together 188 = .ok (.ireturn, 1) := by decide +kernel
theorem dX3_together_189 : decode cX3_together 189 = .ok (.iconst 0, 1) := by decide +kernel
theorem dX3_together_190 : decode cX3_together 190 = .ok (.ireturn, 1) := by decide +kernel
theorem dX5_flakesOf_0 : decode cX5_flakesOf 0 = .ok (.iconst 0, 1) := by decide +kernel
theorem dX5_flakesOf_1 : decode cX5_flakesOf 1 = .ok (.istore_n 2, 1) := by decide +kernel
theorem dX5_flakesOf_2 : decode cX5_flakesOf 2 = .ok (.iconst 0, 1) := by decide +kernel
theorem dX5_flakesOf_3 : decode cX5_flakesOf 3 = .ok (.istore_n 3, 1) := by decide +kernel
theorem dX5_flakesOf_4 : decode cX5_flakesOf 4 = .ok (.iload_n 3, 1) := by decide +kernel
theorem dX5_flakesOf_5 : decode cX5_flakesOf 5 = .ok (.bipush 8, 2) := by decide +kernel
theorem dX5_flakesOf_7 : decode cX5_flakesOf 7 = .ok (.if_icmp .ge 23, 3) := by decide +kernel
theorem dX5_flakesOf_10 : decode cX5_flakesOf 10 = .ok (.iload_n 2, 1) := by decide +kernel
theorem dX5_flakesOf_11 : decode cX5_flakesOf 11 = .ok (.aload_n 0, 1) := by decide +kernel
theorem dX5_flakesOf_12 : decode cX5_flakesOf 12 = .ok (.getfield 15, 3) := by decide +kernel
theorem dX5_flakesOf_15 : decode cX5_flakesOf 15 = .ok (.iload_n 1, 1) := by decide +kernel
theorem dX5_flakesOf_16 : decode cX5_flakesOf 16 = .ok (.bipush 8, 2) := by decide +kernel
theorem dX5_flakesOf_18 : decode cX5_flakesOf 18 = .ok (.imul, 1) := by decide +kernel
theorem dX5_flakesOf_19 : decode cX5_flakesOf 19 = .ok (.iload_n 3, 1) := by decide +kernel
theorem dX5_flakesOf_20 : decode cX5_flakesOf 20 = .ok (.iadd, 1) := by decide +kernel
theorem dX5_flakesOf_21 : decode cX5_flakesOf 21 = .ok (.iaload, 1) := by decide +kernel
theorem dX5_flakesOf_22 : decode cX5_flakesOf 22 = .ok (.iadd, 1) := by decide +kernel
theorem dX5_flakesOf_23 : decode cX5_flakesOf 23 = .ok (.istore_n 2, 1) := by decide +kernel
theorem dX5_flakesOf_24 : decode cX5_flakesOf 24 = .ok (.iinc 3 1, 3) := by decide +kernel
theorem dX5_flakesOf_27 : decode cX5_flakesOf 27 = .ok (.goto (-23), 3) := by decide +kernel
theorem dX5_flakesOf_30 : decode cX5_flakesOf 30 = .ok (.iload_n 2, 1) := by decide +kernel
theorem dX5_flakesOf_31 : decode cX5_flakesOf 31 = .ok (.ireturn, 1) := by decide +kernel
theorem dX5_flakesOfAll_0 : decode cX5_flakesOfAll 0 = .ok (.iconst 0, 1) := by decide +kernel
theorem dX5_flakesOfAll_1 : decode cX5_flakesOfAll 1 = .ok (.istore_n 1, 1) := by decide +kernel
theorem dX5_flakesOfAll_2 : decode cX5_flakesOfAll 2 = .ok (.iconst 0, 1) := by decide +kernel
theorem dX5_flakesOfAll_3 : decode cX5_flakesOfAll 3 = .ok (.istore_n 2, 1) := by decide +kernel
theorem dX5_flakesOfAll_4 : decode cX5_flakesOfAll 4 = .ok (.iload_n 2, 1) := by decide +kernel
theorem dX5_flakesOfAll_5 : decode cX5_flakesOfAll 5 = .ok (.aload_n 0, 1) := by decide +kernel
theorem dX5_flakesOfAll_6 : decode cX5_flakesOfAll 6 = .ok (.getfield 25, 3) := by decide +kernel
theorem dX5_flakesOfAll_9 : decode cX5_flakesOfAll 9 = .ok (.if_icmp .ge 17, 3) := by decide +kernel
theorem dX5_flakesOfAll_12 : decode cX5_flakesOfAll 12 = .ok (.iload_n 1, 1) := by decide +kernel
theorem dX5_flakesOfAll_13 : decode cX5_flakesOfAll 13 = .ok (.aload_n 0, 1) := by decide +kernel
theorem dX5_flakesOfAll_14 : decode cX5_flakesOfAll 14 = .ok (.iload_n 2, 1) := by decide +kernel
theorem dX5_flakesOfAll_15 : decode cX5_flakesOfAll 15 = .ok (.invokevirtual 34, 3) := by decide +kernel
theorem dX5_flakesOfAll_18 : decode cX5_flakesOfAll 18 = .ok (.iadd, 1) := by decide +kernel
theorem dX5_flakesOfAll_19 : decode cX5_flakesOfAll 19 = .ok (.istore_n 1, 1) := by decide +kernel
theorem dX5_flakesOfAll_20 : decode cX5_flakesOfAll 20 = .ok (.iinc 2 1, 3) := by decide +kernel
theorem dX5_flakesOfAll_23 : decode cX5_flakesOfAll 23 = .ok (.goto (-19), 3) := by decide +kernel
theorem dX5_flakesOfAll_26 : decode cX5_flakesOfAll 26 = .ok (.iload_n 1, 1) := by decide +kernel
theorem dX5_flakesOfAll_27 : decode cX5_flakesOfAll 27 = .ok (.ireturn, 1) := by decide +kernel
theorem dX5_worthOf_0 : decode cX5_worthOf 0 = .ok (.aload_n 0, 1) := by decide +kernel
theorem dX5_worthOf_1 : decode cX5_worthOf 1 = .ok (.iload_n 1, 1) := by decide +kernel
theorem dX5_worthOf_2 : decode cX5_worthOf 2 = .ok (.invokevirtual 34, 3) := by decide +kernel
theorem dX5_worthOf_5 : decode cX5_worthOf 5 = .ok (.aload_n 0, 1) := by decide +kernel
theorem dX5_worthOf_6 : decode cX5_worthOf 6 = .ok (.getfield 9, 3) := by decide +kernel
theorem dX5_worthOf_9 : decode cX5_worthOf 9 = .ok (.aload_n 0, 1) := by decide +kernel
theorem dX5_worthOf_10 : decode cX5_worthOf 10 = .ok (.getfield 19, 3) := by decide +kernel
theorem dX5_worthOf_13 : decode cX5_worthOf 13 = .ok (.iload_n 1, 1) := by decide +kernel
theorem dX5_worthOf_14 : decode cX5_worthOf 14 = .ok (.iaload, 1) := by decide +kernel
theorem dX5_worthOf_15 : decode cX5_worthOf 15 = .ok (.invokestatic 38, 3) := by decide +kernel
theorem dX5_worthOf_18 : decode cX5_worthOf 18 = .ok (.imul, 1) := by decide +kernel
theorem dX5_worthOf_19 : decode cX5_worthOf 19 = .ok (.iadd, 1) := by decide +kernel
theorem dX5_worthOf_20 : decode cX5_worthOf 20 = .ok (.ireturn, 1) := by decide +kernel
theorem dX5_lie_0 : decode cX5_lie 0 = .ok (.aload_n 1, 1) := by decide +kernel
theorem dX5_lie_1 : decode cX5_lie 1 = .ok (.aload_n 0, 1) := by decide +kernel
theorem dX5_lie_2 : decode cX5_lie 2 = .ok (.iload_n 2, 1) := by decide +kernel
theorem dX5_lie_3 : decode cX5_lie 3 = .ok (.iload_n 3, 1) := by decide +kernel
theorem dX5_lie_4 : decode cX5_lie 4 = .ok (.iload 4, 2) := by decide +kernel
theorem dX5_lie_6 : decode cX5_lie 6 = .ok (.invokevirtual 56, 3) := by decide +kernel
theorem dX5_lie_9 : decode cX5_lie 9 = .ok (.istore 5, 2) := by decide +kernel
theorem dX5_lie_11 : decode cX5_lie 11 = .ok (.iconst 0, 1) := by decide +kernel
theorem dX5_lie_12 : decode cX5_lie 12 = .ok (.istore 6, 2) := by decide +kernel
theorem dX5_lie_14 : decode cX5_lie 14 = .ok (.iconst 0, 1) := by decide +kernel
theorem dX5_lie_15 : decode cX5_lie 15 = .ok (.istore 7, 2) := by decide +kernel
theorem dX5_lie_17 : decode cX5_lie 17 = .ok (.iload 7, 2) := by decide +kernel
theorem dX5_lie_19 : decode cX5_lie 19 = .ok (.bipush 8, 2) := by decide +kernel
theorem dX5_lie_21 : decode cX5_lie 21 = .ok (.if_icmp .ge 81, 3) := by decide +kernel
theorem dX5_lie_24 : decode cX5_lie 24 = .ok (.iload 6, 2) := by decide +kernel
theorem dX5_lie_26 : decode cX5_lie 26 = .ok (.iload 5, 2) := by decide +kernel
theorem dX5_lie_28 : decode cX5_lie 28 = .ok (.if_icmp .ge 74, 3) := by decide +kernel
theorem dX5_lie_31 : decode cX5_lie 31 = .ok (.iload 4, 2) := by decide +kernel
theorem dX5_lie_33 : decode cX5_lie 33 = .ok (.iload 7, 2) := by decide +kernel
theorem dX5_lie_35 : decode cX5_lie 35 = .ok (.iadd, 1) := by decide +kernel
theorem dX5_lie_36 : decode cX5_lie 36 = .ok (.bipush 8, 2) := by decide +kernel
theorem dX5_lie_38 : decode cX5_lie 38 = .ok (.irem, 1) := by decide +kernel
theorem dX5_lie_39 : decode cX5_lie 39 = .ok (.istore 8, 2) := by decide +kernel
theorem dX5_lie_41 : decode cX5_lie 41 = .ok (.aload_n 0, 1) := by decide +kernel
theorem dX5_lie_42 : decode cX5_lie 42 = .ok (.iload_n 2, 1) := by decide +kernel
theorem dX5_lie_43 : decode cX5_lie 43 = .ok (.iload 8, 2) := by decide +kernel
theorem dX5_lie_45 : decode cX5_lie 45 = .ok (.invokevirtual 62, 3) := by decide +kernel
theorem dX5_lie_48 : decode cX5_lie 48 = .ok (.ifCond .ne 48, 3) := by decide +kernel
theorem dX5_lie_51 : decode cX5_lie 51 = .ok (.iload_n 2, 1) := by decide +kernel
theorem dX5_lie_52 : decode cX5_lie 52 = .ok (.bipush 8, 2) := by decide +kernel
theorem dX5_lie_54 : decode cX5_lie 54 = .ok (.imul, 1) := by decide +kernel
theorem dX5_lie_55 : decode cX5_lie 55 = .ok (.iload 8, 2) := by decide +kernel
theorem dX5_lie_57 : decode cX5_lie 57 = .ok (.iadd, 1) := by decide +kernel
theorem dX5_lie_58 : decode cX5_lie 58 = .ok (.istore 9, 2) := by decide +kernel
theorem dX5_lie_60 : decode cX5_lie 60 = .ok (.iload 5, 2) := by decide +kernel
theorem dX5_lie_62 : decode cX5_lie 62 = .ok (.iload 6, 2) := by decide +kernel
theorem dX5_lie_64 : decode cX5_lie 64 = .ok (.isub, 1) := by decide +kernel
theorem dX5_lie_65 : decode cX5_lie 65 = .ok (.aload_n 0, 1) := by decide +kernel
theorem dX5_lie_66 : decode cX5_lie 66 = .ok (.getfield 15, 3) := by decide +kernel
theorem dX5_lie_69 : decode cX5_lie 69 = .ok (.iload 9, 2) := by decide +kernel
theorem dX5_lie_71 : decode cX5_lie 71 = .ok (.iaload, 1) := by decide +kernel
theorem dX5_lie_72 : decode cX5_lie 72 = .ok (.invokestatic 66, 3) := by decide +kernel
theorem dX5_lie_75 : decode cX5_lie 75 = .ok (.istore 10, 2) := by decide +kernel
theorem dX5_lie_77 : decode cX5_lie 77 = .ok (.aload_n 0, 1) := by decide +kernel
theorem dX5_lie_78 : decode cX5_lie 78 = .ok (.getfield 15, 3) := by decide +kernel
theorem dX5_lie_81 : decode cX5_lie 81 = .ok (.iload 9, 2) := by decide +kernel
theorem dX5_lie_83 : decode cX5_lie 83 = .ok (.dup2, 1) := by decide +kernel
theorem dX5_lie_84 : decode cX5_lie 84 = .ok (.iaload, 1) := by decide +kernel
theorem dX5_lie_85 : decode cX5_lie 85 = .ok (.iload 10, 2) := by decide +kernel
theorem dX5_lie_87 : decode cX5_lie 87 = .ok (.isub, 1) := by decide +kernel
theorem dX5_lie_88 : decode cX5_lie 88 = .ok (.iastore, 1) := by decide +kernel
theorem dX5_lie_89 : decode cX5_lie 89 = .ok (.iload 6, 2) := by decide +kernel
theorem dX5_lie_91 : decode cX5_lie 91 = .ok (.iload 10, 2) := by decide +kernel
theorem dX5_lie_93 : decode cX5_lie 93 = .ok (.iadd, 1) := by decide +kernel
theorem dX5_lie_94 : decode cX5_lie 94 = .ok (.istore 6, 2) := by decide +kernel
theorem dX5_lie_96 : decode cX5_lie 96 = .ok (.iinc 7 1, 3) := by decide +kernel
theorem dX5_lie_99 : decode cX5_lie 99 = .ok (.goto (-82), 3) := by decide +kernel
theorem dX5_lie_102 : decode cX5_lie 102 = .ok (.aload_n 0, 1) := by decide +kernel
theorem dX5_lie_103 : decode cX5_lie 103 = .ok (.getfield 22, 3) := by decide +kernel
theorem dX5_lie_106 : decode cX5_lie 106 = .ok (.iload_n 2, 1) := by decide +kernel
theorem dX5_lie_107 : decode cX5_lie 107 = .ok (.dup2, 1) := by decide +kernel
theorem dX5_lie_108 : decode cX5_lie 108 = .ok (.iaload, 1) := by decide +kernel
theorem dX5_lie_109 : decode cX5_lie 109 = .ok (.iconst 1, 1) := by decide +kernel
theorem dX5_lie_110 : decode cX5_lie 110 = .ok (.iadd, 1) := by decide +kernel
theorem dX5_lie_111 : decode cX5_lie 111 = .ok (.iastore, 1) := by decide +kernel
theorem dX5_lie_112 : decode cX5_lie 112 = .ok (.iload 6, 2) := by decide +kernel
theorem dX5_lie_114 : decode cX5_lie 114 = .ok (.ireturn, 1) := by decide +kernel
theorem dX6_narrowed_0 : decode cX6_narrowed 0 = .ok (.iload_n 0, 1) := by decide +kernel
theorem dX6_narrowed_1 : decode cX6_narrowed 1 = .ok (.tableswitch 47 0 3 #[31, 36, 41, 45], 31) := by decide +kernel
theorem dX6_narrowed_32 : decode cX6_narrowed 32 = .ok (.lload_n 1, 1) := by decide +kernel
theorem dX6_narrowed_33 : decode cX6_narrowed 33 = .ok (.l2i, 1) := by decide +kernel
theorem dX6_narrowed_34 : decode cX6_narrowed 34 = .ok (.i2b, 1) := by decide +kernel
theorem dX6_narrowed_35 : decode cX6_narrowed 35 = .ok (.i2l, 1) := by decide +kernel
theorem dX6_narrowed_36 : decode cX6_narrowed 36 = .ok (.lreturn, 1) := by decide +kernel
theorem dX6_narrowed_37 : decode cX6_narrowed 37 = .ok (.lload_n 1, 1) := by decide +kernel
theorem dX6_narrowed_38 : decode cX6_narrowed 38 = .ok (.l2i, 1) := by decide +kernel
theorem dX6_narrowed_39 : decode cX6_narrowed 39 = .ok (.i2s, 1) := by decide +kernel
theorem dX6_narrowed_40 : decode cX6_narrowed 40 = .ok (.i2l, 1) := by decide +kernel
theorem dX6_narrowed_41 : decode cX6_narrowed 41 = .ok (.lreturn, 1) := by decide +kernel
theorem dX6_narrowed_42 : decode cX6_narrowed 42 = .ok (.lload_n 1, 1) := by decide +kernel
theorem dX6_narrowed_43 : decode cX6_narrowed 43 = .ok (.l2i, 1) := by decide +kernel
theorem dX6_narrowed_44 : decode cX6_narrowed 44 = .ok (.i2l, 1) := by decide +kernel
theorem dX6_narrowed_45 : decode cX6_narrowed 45 = .ok (.lreturn, 1) := by decide +kernel
theorem dX6_narrowed_46 : decode cX6_narrowed 46 = .ok (.lload_n 1, 1) := by decide +kernel
theorem dX6_narrowed_47 : decode cX6_narrowed 47 = .ok (.lreturn, 1) := by decide +kernel
theorem dX6_narrowed_48 : decode cX6_narrowed 48 = .ok (.lload_n 1, 1) := by decide +kernel
theorem dX6_narrowed_49 : decode cX6_narrowed 49 = .ok (.lconst 0, 1) := by decide +kernel
theorem dX6_narrowed_50 : decode cX6_narrowed 50 = .ok (.lcmp, 1) := by decide +kernel
theorem dX6_narrowed_51 : decode cX6_narrowed 51 = .ok (.ifCond .eq 7, 3) := by decide +kernel
theorem dX6_narrowed_54 : decode cX6_narrowed 54 = .ok (.lconst 1, 1) := by decide +kernel
theorem dX6_narrowed_55 : decode cX6_narrowed 55 = .ok (.goto 4, 3) := by decide +kernel
theorem dX6_narrowed_58 : decode cX6_narrowed 58 = .ok (.lconst 0, 1) := by decide +kernel
theorem dX6_narrowed_59 : decode cX6_narrowed 59 = .ok (.lreturn, 1) := by decide +kernel
theorem dX7_person_0 : decode cX7_person 0 = .ok (.iload_n 1, 1) := by decide +kernel
theorem dX7_person_1 : decode cX7_person 1 = .ok (.bipush 9, 2) := by decide +kernel
theorem dX7_person_3 : decode cX7_person 3 = .ok (.invokestatic 71, 3) := by decide +kernel
theorem dX7_person_6 : decode cX7_person 6 = .ok (.ifCond .eq 5, 3) := by decide +kernel
theorem dX7_person_9 : decode cX7_person 9 = .ok (.iconst (-1), 1) := by decide +kernel
theorem dX7_person_10 : decode cX7_person 10 = .ok (.ireturn, 1) := by decide +kernel
theorem dX7_person_11 : decode cX7_person 11 = .ok (.aload_n 0, 1) := by decide +kernel
theorem dX7_person_12 : decode cX7_person 12 = .ok (.getfield 10, 3) := by decide +kernel
theorem dX7_person_15 : decode cX7_person 15 = .ok (.getfield 75, 3) := by decide +kernel
theorem dX7_person_18 : decode cX7_person 18 = .ok (.bipush 7, 2) := by decide +kernel
theorem dX7_person_20 : decode cX7_person 20 = .ok (.if_icmp .lt 6, 3) := by decide +kernel
theorem dX7_person_23 : decode cX7_person 23 = .ok (.bipush (-3), 2) := by decide +kernel
theorem dX7_person_25 : decode cX7_person 25 = .ok (.ireturn, 1) := by decide +kernel
theorem dX7_person_26 : decode cX7_person 26 = .ok (.aload_n 0, 1) := by decide +kernel
theorem dX7_person_27 : decode cX7_person 27 = .ok (.getfield 10, 3) := by decide +kernel
theorem dX7_person_30 : decode cX7_person 30 = .ok (.iconst 0, 1) := by decide +kernel
theorem dX7_person_31 : decode cX7_person 31 = .ok (.invokevirtual 79, 3) := by decide +kernel
theorem dX7_person_34 : decode cX7_person 34 = .ok (.istore_n 2, 1) := by decide +kernel
theorem dX7_person_35 : decode cX7_person 35 = .ok (.iconst 0, 1) := by decide +kernel
theorem dX7_person_36 : decode cX7_person 36 = .ok (.istore_n 3, 1) := by decide +kernel
theorem dX7_person_37 : decode cX7_person 37 = .ok (.iload_n 3, 1) := by decide +kernel
theorem dX7_person_38 : decode cX7_person 38 = .ok (.bipush 8, 2) := by decide +kernel
theorem dX7_person_40 : decode cX7_person 40 = .ok (.if_icmp .ge 24, 3) := by decide +kernel
theorem dX7_person_43 : decode cX7_person 43 = .ok (.aload_n 0, 1) := by decide +kernel
theorem dX7_person_44 : decode cX7_person 44 = .ok (.getfield 10, 3) := by decide +kernel
theorem dX7_person_47 : decode cX7_person 47 = .ok (.getfield 83, 3) := by decide +kernel
theorem dX7_person_50 : decode cX7_person 50 = .ok (.iload_n 2, 1) := by decide +kernel
theorem dX7_person_51 : decode cX7_person 51 = .ok (.bipush 8, 2) := by decide +kernel
theorem dX7_person_53 : decode cX7_person 53 = .ok (.imul, 1) := by decide +kernel
theorem dX7_person_54 : decode cX7_person 54 = .ok (.iload_n 3, 1) := by decide +kernel
theorem dX7_person_55 : decode cX7_person 55 = .ok (.iadd, 1) := by decide +kernel
theorem dX7_person_56 : decode cX7_person 56 = .ok (.iload_n 1, 1) := by decide +kernel
theorem dX7_person_57 : decode cX7_person 57 = .ok (.iastore, 1) := by decide +kernel
theorem dX7_person_58 : decode cX7_person 58 = .ok (.iinc 3 1, 3) := by decide +kernel
theorem dX7_person_61 : decode cX7_person 61 = .ok (.goto (-24), 3) := by decide +kernel
theorem dX7_person_64 : decode cX7_person 64 = .ok (.iload_n 2, 1) := by decide +kernel
theorem dX7_person_65 : decode cX7_person 65 = .ok (.ireturn, 1) := by decide +kernel
theorem dX7_numberNow_0 : decode cX7_numberNow 0 = .ok (.iload_n 2, 1) := by decide +kernel
theorem dX7_numberNow_1 : decode cX7_numberNow 1 = .ok (.tableswitch 81 8 12 #[35, 45, 54, 62, 71], 35) := by decide +kernel
theorem dX7_numberNow_36 : decode cX7_numberNow 36 = .ok (.aload_n 0, 1) := by decide +kernel
theorem dX7_numberNow_37 : decode cX7_numberNow 37 = .ok (.getfield 10, 3) := by decide +kernel
theorem dX7_numberNow_40 : decode cX7_numberNow 40 = .ok (.getfield 129, 3) := by decide +kernel
theorem dX7_numberNow_43 : decode cX7_numberNow 43 = .ok (.iload_n 1, 1) := by decide +kernel
theorem dX7_numberNow_44 : decode cX7_numberNow 44 = .ok (.iaload, 1) := by decide +kernel
theorem dX7_numberNow_45 : decode cX7_numberNow 45 = .ok (.ireturn, 1) := by decide +kernel
theorem dX7_numberNow_46 : decode cX7_numberNow 46 = .ok (.aload_n 0, 1) := by decide +kernel
theorem dX7_numberNow_47 : decode cX7_numberNow 47 = .ok (.getfield 132, 3) := by decide +kernel
theorem dX7_numberNow_50 : decode cX7_numberNow 50 = .ok (.iload_n 1, 1) := by decide +kernel
theorem dX7_numberNow_51 : decode cX7_numberNow 51 = .ok (.ishr, 1) := by decide +kernel
theorem dX7_numberNow_52 : decode cX7_numberNow 52 = .ok (.iconst 1, 1) := by decide +kernel
theorem dX7_numberNow_53 : decode cX7_numberNow 53 = .ok (.iand, 1) := by decide +kernel
theorem dX7_numberNow_54 : decode cX7_numberNow 54 = .ok (.ireturn, 1) := by decide +kernel
theorem dX7_numberNow_55 : decode cX7_numberNow 55 = .ok (.aload_n 0, 1) := by decide +kernel
theorem dX7_numberNow_56 : decode cX7_numberNow 56 = .ok (.getfield 10, 3) := by decide +kernel
theorem dX7_numberNow_59 : decode cX7_numberNow 59 = .ok (.getfield 135, 3) := by decide +kernel
theorem dX7_numberNow_62 : decode cX7_numberNow 62 = .ok (.ireturn, 1) := by decide +kernel
theorem dX7_numberNow_63 : decode cX7_numberNow 63 = .ok (.aload_n 0, 1) := by decide +kernel
theorem dX7_numberNow_64 : decode cX7_numberNow 64 = .ok (.getfield 10, 3) := by decide +kernel
theorem dX7_numberNow_67 : decode cX7_numberNow 67 = .ok (.iload_n 1, 1) := by decide +kernel
theorem dX7_numberNow_68 : decode cX7_numberNow 68 = .ok (.invokevirtual 138, 3) := by decide +kernel
theorem dX7_numberNow_71 : decode cX7_numberNow 71 = .ok (.ireturn, 1) := by decide +kernel
theorem dX7_numberNow_72 : decode cX7_numberNow 72 = .ok (.aload_n 0, 1) := by decide +kernel
theorem dX7_numberNow_73 : decode cX7_numberNow 73 = .ok (.getfield 10, 3) := by decide +kernel
theorem dX7_numberNow_76 : decode cX7_numberNow 76 = .ok (.getfield 141, 3) := by decide +kernel
theorem dX7_numberNow_79 : decode cX7_numberNow 79 = .ok (.iload_n 1, 1) := by decide +kernel
theorem dX7_numberNow_80 : decode cX7_numberNow 80 = .ok (.iaload, 1) := by decide +kernel
theorem dX7_numberNow_81 : decode cX7_numberNow 81 = .ok (.ireturn, 1) := by decide +kernel
theorem dX7_numberNow_82 : decode cX7_numberNow 82 = .ok (.aload_n 0, 1) := by decide +kernel
theorem dX7_numberNow_83 : decode cX7_numberNow 83 = .ok (.getfield 10, 3) := by decide +kernel
theorem dX7_numberNow_86 : decode cX7_numberNow 86 = .ok (.getfield 83, 3) := by decide +kernel
theorem dX7_numberNow_89 : decode cX7_numberNow 89 = .ok (.iload_n 1, 1) := by decide +kernel
theorem dX7_numberNow_90 : decode cX7_numberNow 90 = .ok (.bipush 8, 2) := by decide +kernel
theorem dX7_numberNow_92 : decode cX7_numberNow 92 = .ok (.imul, 1) := by decide +kernel
theorem dX7_numberNow_93 : decode cX7_numberNow 93 = .ok (.iload_n 2, 1) := by decide +kernel
theorem dX7_numberNow_94 : decode cX7_numberNow 94 = .ok (.iadd, 1) := by decide +kernel
theorem dX7_numberNow_95 : decode cX7_numberNow 95 = .ok (.iaload, 1) := by decide +kernel
theorem dX7_numberNow_96 : decode cX7_numberNow 96 = .ok (.ireturn, 1) := by decide +kernel
theorem dX7_law_0 : decode cX7_law 0 = .ok (.aload_n 0, 1) := by decide +kernel
theorem dX7_law_1 : decode cX7_law 1 = .ok (.getfield 59, 3) := by decide +kernel
theorem dX7_law_4 : decode cX7_law 4 = .ok (.invokevirtual 147, 3) := by decide +kernel
theorem dX7_law_7 : decode cX7_law 7 = .ok (.istore_n 1, 1) := by decide +kernel
theorem dX7_law_8 : decode cX7_law 8 = .ok (.aload_n 0, 1) := by decide +kernel
theorem dX7_law_9 : decode cX7_law 9 = .ok (.getfield 59, 3) := by decide +kernel
theorem dX7_law_12 : decode cX7_law 12 = .ok (.iconst 0, 1) := by decide +kernel
theorem dX7_law_13 : decode cX7_law 13 = .ok (.putfield 151, 3) := by decide +kernel
theorem dX7_law_16 : decode cX7_law 16 = .ok (.iload_n 1, 1) := by decide +kernel
theorem dX7_law_17 : decode cX7_law 17 = .ok (.ifCond .lt 8, 3) := by decide +kernel
theorem dX7_law_20 : decode cX7_law 20 = .ok (.bipush (-100), 2) := by decide +kernel
theorem dX7_law_22 : decode cX7_law 22 = .ok (.iload_n 1, 1) := by decide +kernel
theorem dX7_law_23 : decode cX7_law 23 = .ok (.isub, 1) := by decide +kernel
theorem dX7_law_24 : decode cX7_law 24 = .ok (.ireturn, 1) := by decide +kernel
theorem dX7_law_25 : decode cX7_law 25 = .ok (.aload_n 0, 1) := by decide +kernel
theorem dX7_law_26 : decode cX7_law 26 = .ok (.aload_n 0, 1) := by decide +kernel
theorem dX7_law_27 : decode cX7_law 27 = .ok (.getfield 59, 3) := by decide +kernel
theorem dX7_law_30 : decode cX7_law 30 = .ok (.aload_n 0, 1) := by decide +kernel
theorem dX7_law_31 : decode cX7_law 31 = .ok (.getfield 66, 3) := by decide +kernel
theorem dX7_law_34 : decode cX7_law 34 = .ok (.invokevirtual 154, 3) := by decide +kernel
theorem dX7_law_37 : decode cX7_law 37 = .ok (.putfield 66, 3) := by decide +kernel
theorem dX7_law_40 : decode cX7_law 40 = .ok (.iconst 1, 1) := by decide +kernel
theorem dX7_law_41 : decode cX7_law 41 = .ok (.ireturn, 1) := by decide +kernel
theorem dX7_drawn_0 : decode cX7_drawn 0 = .ok (.iload_n 2, 1) := by decide +kernel
theorem dX7_drawn_1 : decode cX7_drawn 1 = .ok (.bipush 100, 2) := by decide +kernel
theorem dX7_drawn_3 : decode cX7_drawn 3 = .ok (.idiv, 1) := by decide +kernel
theorem dX7_drawn_4 : decode cX7_drawn 4 = .ok (.istore 4, 2) := by decide +kernel
theorem dX7_drawn_6 : decode cX7_drawn 6 = .ok (.iload_n 2, 1) := by decide +kernel
theorem dX7_drawn_7 : decode cX7_drawn 7 = .ok (.bipush 100, 2) := by decide +kernel
theorem dX7_drawn_9 : decode cX7_drawn 9 = .ok (.irem, 1) := by decide +kernel
theorem dX7_drawn_10 : decode cX7_drawn 10 = .ok (.istore 5, 2) := by decide +kernel
theorem dX7_drawn_12 : decode cX7_drawn 12 = .ok (.iload 4, 2) := by decide +kernel
theorem dX7_drawn_14 : decode cX7_drawn 14 = .ok (.iconst 1, 1) := by decide +kernel
theorem dX7_drawn_15 : decode cX7_drawn 15 = .ok (.if_icmp .lt 31, 3) := by decide +kernel
theorem dX7_drawn_18 : decode cX7_drawn 18 = .ok (.iload 4, 2) := by decide +kernel
theorem dX7_drawn_20 : decode cX7_drawn 20 = .ok (.bipush 30, 2) := by decide +kernel
theorem dX7_drawn_22 : decode cX7_drawn 22 = .ok (.if_icmp .gt 24, 3) := by decide +kernel
theorem dX7_drawn_25 : decode cX7_drawn 25 = .ok (.iload 5, 2) := by decide +kernel
theorem dX7_drawn_27 : decode cX7_drawn 27 = .ok (.iconst 1, 1) := by decide +kernel
theorem dX7_drawn_28 : decode cX7_drawn 28 = .ok (.if_icmp .lt 18, 3) := by decide +kernel
theorem dX7_drawn_31 : decode cX7_drawn 31 = .ok (.iload 5, 2) := by decide +kernel
theorem dX7_drawn_33 : decode cX7_drawn 33 = .ok (.bipush 60, 2) := by decide +kernel
theorem dX7_drawn_35 : decode cX7_drawn 35 = .ok (.if_icmp .gt 11, 3) := by decide +kernel
theorem dX7_drawn_38 : decode cX7_drawn 38 = .ok (.iload_n 3, 1) := by decide +kernel
theorem dX7_drawn_39 : decode cX7_drawn 39 = .ok (.iconst 1, 1) := by decide +kernel
theorem dX7_drawn_40 : decode cX7_drawn 40 = .ok (.invokestatic 71, 3) := by decide +kernel
theorem dX7_drawn_43 : decode cX7_drawn 43 = .ok (.ifCond .eq 5, 3) := by decide +kernel
theorem dX7_drawn_46 : decode cX7_drawn 46 = .ok (.iconst (-1), 1) := by decide +kernel
theorem dX7_drawn_47 : decode cX7_drawn 47 = .ok (.ireturn, 1) := by decide +kernel
theorem dX7_drawn_48 : decode cX7_drawn 48 = .ok (.aload_n 0, 1) := by decide +kernel
theorem dX7_drawn_49 : decode cX7_drawn 49 = .ok (.getfield 10, 3) := by decide +kernel
theorem dX7_drawn_52 : decode cX7_drawn 52 = .ok (.getfield 75, 3) := by decide +kernel
theorem dX7_drawn_55 : decode cX7_drawn 55 = .ok (.iconst 1, 1) := by decide +kernel
theorem dX7_drawn_56 : decode cX7_drawn 56 = .ok (.if_icmp .ge 5, 3) := by decide +kernel
theorem dX7_drawn_59 : decode cX7_drawn 59 = .ok (.iconst 0, 1) := by decide +kernel
theorem dX7_drawn_60 : decode cX7_drawn 60 = .ok (.ireturn, 1) := by decide +kernel
theorem dX7_drawn_61 : decode cX7_drawn 61 = .ok (.iload_n 1, 1) := by decide +kernel
theorem dX7_drawn_62 : decode cX7_drawn 62 = .ok (.istore 6, 2) := by decide +kernel
theorem dX7_drawn_64 : decode cX7_drawn 64 = .ok (.iconst 0, 1) := by decide +kernel
theorem dX7_drawn_65 : decode cX7_drawn 65 = .ok (.istore 7, 2) := by decide +kernel
theorem dX7_drawn_67 : decode cX7_drawn 67 = .ok (.iconst 0, 1) := by decide +kernel
theorem dX7_drawn_68 : decode cX7_drawn 68 = .ok (.istore 8, 2) := by decide +kernel
theorem dX7_drawn_70 : decode cX7_drawn 70 = .ok (.iconst 0, 1) := by decide +kernel
theorem dX7_drawn_71 : decode cX7_drawn 71 = .ok (.istore 9, 2) := by decide +kernel
theorem dX7_drawn_73 : decode cX7_drawn 73 = .ok (.iload 9, 2) := by decide +kernel
theorem dX7_drawn_75 : decode cX7_drawn 75 = .ok (.iload 4, 2) := by decide +kernel
theorem dX7_drawn_77 : decode cX7_drawn 77 = .ok (.if_icmp .ge 125, 3) := by decide +kernel
theorem dX7_drawn_80 : decode cX7_drawn 80 = .ok (.aload_n 0, 1) := by decide +kernel
theorem dX7_drawn_81 : decode cX7_drawn 81 = .ok (.getfield 16, 3) := by decide +kernel
theorem dX7_drawn_84 : decode cX7_drawn 84 = .ok (.aload_n 0, 1) := by decide +kernel
theorem dX7_drawn_85 : decode cX7_drawn 85 = .ok (.getfield 10, 3) := by decide +kernel
theorem dX7_drawn_88 : decode cX7_drawn 88 = .ok (.invokevirtual 203, 3) := by decide +kernel
theorem dX7_drawn_91 : decode cX7_drawn 91 = .ok (.iconst 0, 1) := by decide +kernel
theorem dX7_drawn_92 : decode cX7_drawn 92 = .ok (.istore 10, 2) := by decide +kernel
theorem dX7_drawn_94 : decode cX7_drawn 94 = .ok (.iload 10, 2) := by decide +kernel
theorem dX7_drawn_96 : decode cX7_drawn 96 = .ok (.iload 5, 2) := by decide +kernel
theorem dX7_drawn_98 : decode cX7_drawn 98 = .ok (.if_icmp .ge 86, 3) := by decide +kernel
theorem dX7_drawn_101 : decode cX7_drawn 101 = .ok (.iload 6, 2) := by decide +kernel
theorem dX7_drawn_103 : decode cX7_drawn 103 = .ok (.ldc 253, 2) := by decide +kernel
theorem dX7_drawn_105 : decode cX7_drawn 105 = .ok (.imul, 1) := by decide +kernel
theorem dX7_drawn_106 : decode cX7_drawn 106 = .ok (.sipush 12345, 3) := by decide +kernel
theorem dX7_drawn_109 : decode cX7_drawn 109 = .ok (.iadd, 1) := by decide +kernel
theorem dX7_drawn_110 : decode cX7_drawn 110 = .ok (.istore 6, 2) := by decide +kernel
theorem dX7_drawn_112 : decode cX7_drawn 112 = .ok (.iload 6, 2) := by decide +kernel
theorem dX7_drawn_114 : decode cX7_drawn 114 = .ok (.bipush 12, 2) := by decide +kernel
theorem dX7_drawn_116 : decode cX7_drawn 116 = .ok (.iushr, 1) := by decide +kernel
theorem dX7_drawn_117 : decode cX7_drawn 117 = .ok (.bipush 10, 2) := by decide +kernel
theorem dX7_drawn_119 : decode cX7_drawn 119 = .ok (.irem, 1) := by decide +kernel
theorem dX7_drawn_120 : decode cX7_drawn 120 = .ok (.istore 11, 2) := by decide +kernel
theorem dX7_drawn_122 : decode cX7_drawn 122 = .ok (.aload_n 0, 1) := by decide +kernel
theorem dX7_drawn_123 : decode cX7_drawn 123 = .ok (.getfield 132, 3) := by decide +kernel
theorem dX7_drawn_126 : decode cX7_drawn 126 = .ok (.iload 11, 2) := by decide +kernel
theorem dX7_drawn_128 : decode cX7_drawn 128 = .ok (.iload 6, 2) := by decide +kernel
theorem dX7_drawn_130 : decode cX7_drawn 130 = .ok (.bipush 18, 2) := by decide +kernel
theorem dX7_drawn_132 : decode cX7_drawn 132 = .ok (.iushr, 1) := by decide +kernel
theorem dX7_drawn_133 : decode cX7_drawn 133 = .ok (.iconst 2, 1) := by decide +kernel
theorem dX7_drawn_134 : decode cX7_drawn 134 = .ok (.irem, 1) := by decide +kernel
theorem dX7_drawn_135 : decode cX7_drawn 135 = .ok (.invokestatic 254, 3) := by decide +kernel
theorem dX7_drawn_138 : decode cX7_drawn 138 = .ok (.ifCond .eq 40, 3) := by decide +kernel
theorem dX7_drawn_141 : decode cX7_drawn 141 = .ok (.aload_n 0, 1) := by decide +kernel
theorem dX7_drawn_142 : decode cX7_drawn 142 = .ok (.getfield 16, 3) := by decide +kernel
theorem dX7_drawn_145 : decode cX7_drawn 145 = .ok (.aload_n 0, 1) := by decide +kernel
theorem dX7_drawn_146 : decode cX7_drawn 146 = .ok (.getfield 66, 3) := by decide +kernel
theorem dX7_drawn_149 : decode cX7_drawn 149 = .ok (.iload 6, 2) := by decide +kernel
theorem dX7_drawn_151 : decode cX7_drawn 151 = .ok (.iconst 4, 1) := by decide +kernel
theorem dX7_drawn_152 : decode cX7_drawn 152 = .ok (.iushr, 1) := by decide +kernel
theorem dX7_drawn_153 : decode cX7_drawn 153 = .ok (.aload_n 0, 1) := by decide +kernel
theorem dX7_drawn_154 : decode cX7_drawn 154 = .ok (.getfield 10, 3) := by decide +kernel
theorem dX7_drawn_157 : decode cX7_drawn 157 = .ok (.getfield 75, 3) := by decide +kernel
theorem dX7_drawn_160 : decode cX7_drawn 160 = .ok (.irem, 1) := by decide +kernel
theorem dX7_drawn_161 : decode cX7_drawn 161 = .ok (.iload 11, 2) := by decide +kernel
theorem dX7_drawn_163 : decode cX7_drawn 163 = .ok (.iload 6, 2) := by decide +kernel
theorem dX7_drawn_165 : decode cX7_drawn 165 = .ok (.bipush 22, 2) := by decide +kernel
theorem dX7_drawn_167 : decode cX7_drawn 167 = .ok (.iushr, 1) := by decide +kernel
theorem dX7_drawn_168 : decode cX7_drawn 168 = .ok (.bipush 10, 2) := by decide +kernel
theorem dX7_drawn_170 : decode cX7_drawn 170 = .ok (.irem, 1) := by decide +kernel
theorem dX7_drawn_171 : decode cX7_drawn 171 = .ok (.invokevirtual 217, 3) := by decide +kernel
theorem dX7_drawn_174 : decode cX7_drawn 174 = .ok (.pop, 1) := by decide +kernel
theorem dX7_drawn_175 : decode cX7_drawn 175 = .ok (.iinc 7 1, 3) := by decide +kernel
theorem dX7_drawn_178 : decode cX7_drawn 178 = .ok (.iinc 10 1, 3) := by decide +kernel
theorem dX7_drawn_181 : decode cX7_drawn 181 = .ok (.goto (-87), 3) := by decide +kernel
theorem dX7_drawn_184 : decode cX7_drawn 184 = .ok (.iload 8, 2) := by decide +kernel
theorem dX7_drawn_186 : decode cX7_drawn 186 = .ok (.aload_n 0, 1) := by decide +kernel
theorem dX7_drawn_187 : decode cX7_drawn 187 = .ok (.getfield 16, 3) := by decide +kernel
theorem dX7_drawn_190 : decode cX7_drawn 190 = .ok (.invokevirtual 258, 3) := by decide +kernel
theorem dX7_drawn_193 : decode cX7_drawn 193 = .ok (.iadd, 1) := by decide +kernel
theorem dX7_drawn_194 : decode cX7_drawn 194 = .ok (.istore 8, 2) := by decide +kernel
theorem dX7_drawn_196 : decode cX7_drawn 196 = .ok (.iinc 9 1, 3) := by decide +kernel
theorem dX7_drawn_199 : decode cX7_drawn 199 = .ok (.goto (-126), 3) := by decide +kernel
theorem dX7_drawn_202 : decode cX7_drawn 202 = .ok (.iload_n 3, 1) := by decide +kernel
theorem dX7_drawn_203 : decode cX7_drawn 203 = .ok (.ifCond .ne 8, 3) := by decide +kernel
theorem dX7_drawn_206 : decode cX7_drawn 206 = .ok (.iload 7, 2) := by decide +kernel
theorem dX7_drawn_208 : decode cX7_drawn 208 = .ok (.goto 5, 3) := by decide +kernel
theorem dX7_drawn_211 : decode cX7_drawn 211 = .ok (.iload 8, 2) := by decide +kernel
theorem dX7_drawn_213 : decode cX7_drawn 213 = .ok (.ireturn, 1) := by decide +kernel
theorem dX7_keep_0 : decode cX7_keep 0 = .ok (.iload_n 1, 1) := by decide +kernel
theorem dX7_keep_1 : decode cX7_keep 1 = .ok (.invokestatic 86, 3) := by decide +kernel
theorem dX7_keep_4 : decode cX7_keep 4 = .ok (.ifCond .ne 19, 3) := by decide +kernel
theorem dX7_keep_7 : decode cX7_keep 7 = .ok (.iload_n 2, 1) := by decide +kernel
theorem dX7_keep_8 : decode cX7_keep 8 = .ok (.iconst (-1), 1) := by decide +kernel
theorem dX7_keep_9 : decode cX7_keep 9 = .ok (.if_icmp .lt 14, 3) := by decide +kernel
theorem dX7_keep_12 : decode cX7_keep 12 = .ok (.iload_n 2, 1) := by decide +kernel
theorem dX7_keep_13 : decode cX7_keep 13 = .ok (.aload_n 0, 1) := by decide +kernel
theorem dX7_keep_14 : decode cX7_keep 14 = .ok (.getfield 39, 3) := by decide +kernel
theorem dX7_keep_17 : decode cX7_keep 17 = .ok (.getfield 311, 3) := by decide +kernel
theorem dX7_keep_20 : decode cX7_keep 20 = .ok (.if_icmp .lt 5, 3) := by decide +kernel
theorem dX7_keep_23 : decode cX7_keep 23 = .ok (.iconst (-1), 1) := by decide +kernel
theorem dX7_keep_24 : decode cX7_keep 24 = .ok (.ireturn, 1) := by decide +kernel
theorem dX7_keep_25 : decode cX7_keep 25 = .ok (.aload_n 0, 1) := by decide +kernel
theorem dX7_keep_26 : decode cX7_keep 26 = .ok (.getfield 45, 3) := by decide +kernel
theorem dX7_keep_29 : decode cX7_keep 29 = .ok (.iload_n 1, 1) := by decide +kernel
theorem dX7_keep_30 : decode cX7_keep 30 = .ok (.aaload, 1) := by decide +kernel
theorem dX7_keep_31 : decode cX7_keep 31 = .ok (.iload_n 2, 1) := by decide +kernel
theorem dX7_keep_32 : decode cX7_keep 32 = .ok (.iconst (-1), 1) := by decide +kernel
theorem dX7_keep_33 : decode cX7_keep 33 = .ok (.if_icmp .ne 8, 3) := by decide +kernel
theorem dX7_keep_36 : decode cX7_keep 36 = .ok (.bipush (-2), 2) := by decide +kernel
theorem dX7_keep_38 : decode cX7_keep 38 = .ok (.goto 4, 3) := by decide +kernel
theorem dX7_keep_41 : decode cX7_keep 41 = .ok (.iconst (-1), 1) := by decide +kernel
theorem dX7_keep_42 : decode cX7_keep 42 = .ok (.putfield 90, 3) := by decide +kernel
theorem dX7_keep_45 : decode cX7_keep 45 = .ok (.aload_n 0, 1) := by decide +kernel
theorem dX7_keep_46 : decode cX7_keep 46 = .ok (.getfield 45, 3) := by decide +kernel
theorem dX7_keep_49 : decode cX7_keep 49 = .ok (.iload_n 1, 1) := by decide +kernel
theorem dX7_keep_50 : decode cX7_keep 50 = .ok (.aaload, 1) := by decide +kernel
theorem dX7_keep_51 : decode cX7_keep 51 = .ok (.iload_n 2, 1) := by decide +kernel
theorem dX7_keep_52 : decode cX7_keep 52 = .ok (.putfield 314, 3) := by decide +kernel
theorem dX7_keep_55 : decode cX7_keep 55 = .ok (.iconst 1, 1) := by decide +kernel
theorem dX7_keep_56 : decode cX7_keep 56 = .ok (.ireturn, 1) := by decide +kernel
theorem dX7_shift_0 : decode cX7_shift 0 = .ok (.iload_n 1, 1) := by decide +kernel
theorem dX7_shift_1 : decode cX7_shift 1 = .ok (.invokestatic 86, 3) := by decide +kernel
theorem dX7_shift_4 : decode cX7_shift 4 = .ok (.ifCond .ne 10, 3) := by decide +kernel
theorem dX7_shift_7 : decode cX7_shift 7 = .ok (.iload_n 3, 1) := by decide +kernel
theorem dX7_shift_8 : decode cX7_shift 8 = .ok (.invokestatic 86, 3) := by decide +kernel
theorem dX7_shift_11 : decode cX7_shift 11 = .ok (.ifCond .eq 5, 3) := by decide +kernel
theorem dX7_shift_14 : decode cX7_shift 14 = .ok (.iconst (-1), 1) := by decide +kernel
theorem dX7_shift_15 : decode cX7_shift 15 = .ok (.ireturn, 1) := by decide +kernel
theorem dX7_shift_16 : decode cX7_shift 16 = .ok (.aload_n 0, 1) := by decide +kernel
theorem dX7_shift_17 : decode cX7_shift 17 = .ok (.getfield 45, 3) := by decide +kernel
theorem dX7_shift_20 : decode cX7_shift 20 = .ok (.iload_n 1, 1) := by decide +kernel
theorem dX7_shift_21 : decode cX7_shift 21 = .ok (.aaload, 1) := by decide +kernel
theorem dX7_shift_22 : decode cX7_shift 22 = .ok (.astore 6, 2) := by decide +kernel
theorem dX7_shift_24 : decode cX7_shift 24 = .ok (.aload_n 0, 1) := by decide +kernel
theorem dX7_shift_25 : decode cX7_shift 25 = .ok (.getfield 45, 3) := by decide +kernel
theorem dX7_shift_28 : decode cX7_shift 28 = .ok (.iload_n 3, 1) := by decide +kernel
theorem dX7_shift_29 : decode cX7_shift 29 = .ok (.aaload, 1) := by decide +kernel
theorem dX7_shift_30 : decode cX7_shift 30 = .ok (.astore 7, 2) := by decide +kernel
theorem dX7_shift_32 : decode cX7_shift 32 = .ok (.aload 6, 2) := by decide +kernel
theorem dX7_shift_34 : decode cX7_shift 34 = .ok (.getfield 90, 3) := by decide +kernel
theorem dX7_shift_37 : decode cX7_shift 37 = .ok (.bipush (-2), 2) := by decide +kernel
theorem dX7_shift_39 : decode cX7_shift 39 = .ok (.if_icmp .eq 13, 3) := by decide +kernel
theorem dX7_shift_42 : decode cX7_shift 42 = .ok (.aload 7, 2) := by decide +kernel
theorem dX7_shift_44 : decode cX7_shift 44 = .ok (.getfield 90, 3) := by decide +kernel
theorem dX7_shift_47 : decode cX7_shift 47 = .ok (.bipush (-2), 2) := by decide +kernel
theorem dX7_shift_49 : decode cX7_shift 49 = .ok (.if_icmp .ne 6, 3) := by decide +kernel
theorem dX7_shift_52 : decode cX7_shift 52 = .ok (.bipush (-11), 2) := by decide +kernel
theorem dX7_shift_54 : decode cX7_shift 54 = .ok (.ireturn, 1) := by decide +kernel
theorem dX7_shift_55 : decode cX7_shift 55 = .ok (.aload 6, 2) := by decide +kernel
theorem dX7_shift_57 : decode cX7_shift 57 = .ok (.getfield 90, 3) := by decide +kernel
theorem dX7_shift_60 : decode cX7_shift 60 = .ok (.iconst (-1), 1) := by decide +kernel
theorem dX7_shift_61 : decode cX7_shift 61 = .ok (.if_icmp .eq 16, 3) := by decide +kernel
theorem dX7_shift_64 : decode cX7_shift 64 = .ok (.aload 6, 2) := by decide +kernel
theorem dX7_shift_66 : decode cX7_shift 66 = .ok (.getfield 90, 3) := by decide +kernel
theorem dX7_shift_69 : decode cX7_shift 69 = .ok (.aload 7, 2) := by decide +kernel
theorem dX7_shift_71 : decode cX7_shift 71 = .ok (.getfield 90, 3) := by decide +kernel
theorem dX7_shift_74 : decode cX7_shift 74 = .ok (.if_icmp .eq 6, 3) := by decide +kernel
theorem dX7_shift_77 : decode cX7_shift 77 = .ok (.bipush (-12), 2) := by decide +kernel
theorem dX7_shift_79 : decode cX7_shift 79 = .ok (.ireturn, 1) := by decide +kernel
theorem dX7_shift_80 : decode cX7_shift 80 = .ok (.aload 6, 2) := by decide +kernel
theorem dX7_shift_82 : decode cX7_shift 82 = .ok (.iload_n 2, 1) := by decide +kernel
theorem dX7_shift_83 : decode cX7_shift 83 = .ok (.iload 5, 2) := by decide +kernel
theorem dX7_shift_85 : decode cX7_shift 85 = .ok (.invokevirtual 332, 3) := by decide +kernel
theorem dX7_shift_88 : decode cX7_shift 88 = .ok (.ifCond .ne 15, 3) := by decide +kernel
theorem dX7_shift_91 : decode cX7_shift 91 = .ok (.aload 7, 2) := by decide +kernel
theorem dX7_shift_93 : decode cX7_shift 93 = .ok (.iload 4, 2) := by decide +kernel
theorem dX7_shift_95 : decode cX7_shift 95 = .ok (.iload 5, 2) := by decide +kernel
theorem dX7_shift_97 : decode cX7_shift 97 = .ok (.invokevirtual 332, 3) := by decide +kernel
theorem dX7_shift_100 : decode cX7_shift 100 = .ok (.ifCond .eq 6, 3) := by decide +kernel
theorem dX7_shift_103 : decode cX7_shift 103 = .ok (.bipush (-13), 2) := by decide +kernel
theorem dX7_shift_105 : decode cX7_shift 105 = .ok (.ireturn, 1) := by decide +kernel
theorem dX7_shift_106 : decode cX7_shift 106 = .ok (.aload 6, 2) := by decide +kernel
theorem dX7_shift_108 : decode cX7_shift 108 = .ok (.getfield 104, 3) := by decide +kernel
theorem dX7_shift_111 : decode cX7_shift 111 = .ok (.iload_n 2, 1) := by decide +kernel
theorem dX7_shift_112 : decode cX7_shift 112 = .ok (.aload 7, 2) := by decide +kernel
theorem dX7_shift_114 : decode cX7_shift 114 = .ok (.getfield 104, 3) := by decide +kernel
theorem dX7_shift_117 : decode cX7_shift 117 = .ok (.iload 4, 2) := by decide +kernel
theorem dX7_shift_119 : decode cX7_shift 119 = .ok (.iload 5, 2) := by decide +kernel
theorem dX7_shift_121 : decode cX7_shift 121 = .ok (.invokestatic 267, 3) := by decide +kernel
theorem dX7_shift_124 : decode cX7_shift 124 = .ok (.iload 5, 2) := by decide +kernel
theorem dX7_shift_126 : decode cX7_shift 126 = .ok (.ireturn, 1) := by decide +kernel
theorem dX7_count_0 : decode cX7_count 0 = .ok (.iload_n 1, 1) := by decide +kernel
theorem dX7_count_1 : decode cX7_count 1 = .ok (.tableswitch 87 0 5 #[39, 47, 55, 63, 71, 79], 39) := by decide +kernel
theorem dX7_count_40 : decode cX7_count 40 = .ok (.aload_n 0, 1) := by decide +kernel
theorem dX7_count_41 : decode cX7_count 41 = .ok (.getfield 10, 3) := by decide +kernel
theorem dX7_count_44 : decode cX7_count 44 = .ok (.getfield 75, 3) := by decide +kernel
theorem dX7_count_47 : decode cX7_count 47 = .ok (.ireturn, 1) := by decide +kernel
theorem dX7_count_48 : decode cX7_count 48 = .ok (.aload_n 0, 1) := by decide +kernel
theorem dX7_count_49 : decode cX7_count 49 = .ok (.getfield 10, 3) := by decide +kernel
theorem dX7_count_52 : decode cX7_count 52 = .ok (.invokevirtual 341, 3) := by decide +kernel
theorem dX7_count_55 : decode cX7_count 55 = .ok (.ireturn, 1) := by decide +kernel
theorem dX7_count_56 : decode cX7_count 56 = .ok (.aload_n 0, 1) := by decide +kernel
theorem dX7_count_57 : decode cX7_count 57 = .ok (.getfield 59, 3) := by decide +kernel
theorem dX7_count_60 : decode cX7_count 60 = .ok (.getfield 151, 3) := by decide +kernel
theorem dX7_count_63 : decode cX7_count 63 = .ok (.ireturn, 1) := by decide +kernel
theorem dX7_count_64 : decode cX7_count 64 = .ok (.aload_n 0, 1) := by decide +kernel
theorem dX7_count_65 : decode cX7_count 65 = .ok (.getfield 32, 3) := by decide +kernel
theorem dX7_count_68 : decode cX7_count 68 = .ok (.getfield 280, 3) := by decide +kernel
theorem dX7_count_71 : decode cX7_count 71 = .ok (.ireturn, 1) := by decide +kernel
theorem dX7_count_72 : decode cX7_count 72 = .ok (.aload_n 0, 1) := by decide +kernel
theorem dX7_count_73 : decode cX7_count 73 = .ok (.getfield 39, 3) := by decide +kernel
theorem dX7_count_76 : decode cX7_count 76 = .ok (.getfield 311, 3) := by decide +kernel
theorem dX7_count_79 : decode cX7_count 79 = .ok (.ireturn, 1) := by decide +kernel
theorem dX7_count_80 : decode cX7_count 80 = .ok (.aload_n 0, 1) := by decide +kernel
theorem dX7_count_81 : decode cX7_count 81 = .ok (.getfield 39, 3) := by decide +kernel
theorem dX7_count_84 : decode cX7_count 84 = .ok (.getfield 344, 3) := by decide +kernel
theorem dX7_count_87 : decode cX7_count 87 = .ok (.ireturn, 1) := by decide +kernel
theorem dX7_count_88 : decode cX7_count 88 = .ok (.iconst (-1), 1) := by decide +kernel
theorem dX7_count_89 : decode cX7_count 89 = .ok (.ireturn, 1) := by decide +kernel
theorem dJ0_length_8abf5_0 : decode cJ0_length_8abf5 0 = .ok (.aload_n 0, 1) := by decide +kernel
theorem dJ0_length_8abf5_1 : decode cJ0_length_8abf5 1 = .ok (.getfield 9, 3) := by decide +kernel
theorem dJ0_length_8abf5_4 : decode cJ0_length_8abf5 4 = .ok (.arraylength, 1) := by decide +kernel
theorem dJ0_length_8abf5_5 : decode cJ0_length_8abf5 5 = .ok (.aload_n 0, 1) := by decide +kernel
theorem dJ0_length_8abf5_6 : decode cJ0_length_8abf5 6 = .ok (.invokevirtual 335, 3) := by decide +kernel
theorem dJ0_length_8abf5_9 : decode cJ0_length_8abf5 9 = .ok (.ishr, 1) := by decide +kernel
theorem dJ0_length_8abf5_10 : decode cJ0_length_8abf5 10 = .ok (.ireturn, 1) := by decide +kernel
theorem dJ0_indexOf_0f7a4_0 : decode cJ0_indexOf_0f7a4 0 = .ok (.aload_n 0, 1) := by decide +kernel
theorem dJ0_indexOf_0f7a4_1 : decode cJ0_indexOf_0f7a4 1 = .ok (.iload_n 1, 1) := by decide +kernel
theorem dJ0_indexOf_0f7a4_2 : decode cJ0_indexOf_0f7a4 2 = .ok (.iconst 0, 1) := by decide +kernel
theorem dJ0_indexOf_0f7a4_3 : decode cJ0_indexOf_0f7a4 3 = .ok (.invokevirtual 633, 3) := by decide +kernel
theorem dJ0_indexOf_0f7a4_6 : decode cJ0_indexOf_0f7a4 6 = .ok (.ireturn, 1) := by decide +kernel
theorem dJ0_indexOf_7cf53_0 : decode cJ0_indexOf_7cf53 0 = .ok (.aload_n 0, 1) := by decide +kernel
theorem dJ0_indexOf_7cf53_1 : decode cJ0_indexOf_7cf53 1 = .ok (.invokevirtual 492, 3) := by decide +kernel
theorem dJ0_indexOf_7cf53_4 : decode cJ0_indexOf_7cf53 4 = .ok (.ifCond .eq 19, 3) := by decide +kernel
theorem dJ0_indexOf_7cf53_7 : decode cJ0_indexOf_7cf53 7 = .ok (.aload_n 0, 1) := by decide +kernel
theorem dJ0_indexOf_7cf53_8 : decode cJ0_indexOf_7cf53 8 = .ok (.getfield 9, 3) := by decide +kernel
theorem dJ0_indexOf_7cf53_11 : decode cJ0_indexOf_7cf53 11 = .ok (.iload_n 1, 1) := by decide +kernel
theorem dJ0_indexOf_7cf53_12 : decode cJ0_indexOf_7cf53 12 = .ok (.iload_n 2, 1) := by decide +kernel
theorem dJ0_indexOf_7cf53_13 : decode cJ0_indexOf_7cf53 13 = .ok (.aload_n 0, 1) := by decide +kernel
theorem dJ0_indexOf_7cf53_14 : decode cJ0_indexOf_7cf53 14 = .ok (.invokevirtual 505, 3) := by decide +kernel
theorem dJ0_indexOf_7cf53_17 : decode cJ0_indexOf_7cf53 17 = .ok (.invokestatic 637, 3) := by decide +kernel
theorem dJ0_indexOf_7cf53_20 : decode cJ0_indexOf_7cf53 20 = .ok (.goto 16, 3) := by decide +kernel
theorem dJ0_indexOf_7cf53_23 : decode cJ0_indexOf_7cf53 23 = .ok (.aload_n 0, 1) := by decide +kernel
theorem dJ0_indexOf_7cf53_24 : decode cJ0_indexOf_7cf53 24 = .ok (.getfield 9, 3) := by decide +kernel
theorem dJ0_indexOf_7cf53_27 : decode cJ0_indexOf_7cf53 27 = .ok (.iload_n 1, 1) := by decide +kernel
theorem dJ0_indexOf_7cf53_28 : decode cJ0_indexOf_7cf53 28 = .ok (.iload_n 2, 1) := by decide +kernel
theorem dJ0_indexOf_7cf53_29 : decode cJ0_indexOf_7cf53 29 = .ok (.aload_n 0, 1) := by decide +kernel
theorem dJ0_indexOf_7cf53_30 : decode cJ0_indexOf_7cf53 30 = .ok (.invokevirtual 505, 3) := by decide +kernel
theorem dJ0_indexOf_7cf53_33 : decode cJ0_indexOf_7cf53 33 = .ok (.invokestatic 640, 3) := by decide +kernel
theorem dJ0_indexOf_7cf53_36 : decode cJ0_indexOf_7cf53 36 = .ok (.ireturn, 1) := by decide +kernel
theorem dJ0_coder_7d493_0 : decode cJ0_coder_7d493 0 = .ok (.getstatic 38, 3) := by decide +kernel
theorem dJ0_coder_7d493_3 : decode cJ0_coder_7d493 3 = .ok (.ifCond .eq 10, 3) := by decide +kernel
theorem dJ0_coder_7d493_6 : decode cJ0_coder_7d493 6 = .ok (.aload_n 0, 1) := by decide +kernel
theorem dJ0_coder_7d493_7 : decode cJ0_coder_7d493 7 = .ok (.getfield 15, 3) := by decide +kernel
theorem dJ0_coder_7d493_10 : decode cJ0_coder_7d493 10 = .ok (.goto 4, 3) := by decide +kernel
theorem dJ0_coder_7d493_13 : decode cJ0_coder_7d493 13 = .ok (.iconst 1, 1) := by decide +kernel
theorem dJ0_coder_7d493_14 : decode cJ0_coder_7d493 14 = .ok (.ireturn, 1) := by decide +kernel
theorem dJ0_isLatin1_aae02_0 : decode cJ0_isLatin1_aae02 0 = .ok (.getstatic 38, 3) := by decide +kernel
theorem dJ0_isLatin1_aae02_3 : decode cJ0_isLatin1_aae02 3 = .ok (.ifCond .eq 14, 3) := by decide +kernel
theorem dJ0_isLatin1_aae02_6 : decode cJ0_isLatin1_aae02 6 = .ok (.aload_n 0, 1) := by decide +kernel
theorem dJ0_isLatin1_aae02_7 : decode cJ0_isLatin1_aae02 7 = .ok (.getfield 15, 3) := by decide +kernel
theorem dJ0_isLatin1_aae02_10 : decode cJ0_isLatin1_aae02 10 = .ok (.ifCond .ne 7, 3) := by decide +kernel
theorem dJ0_isLatin1_aae02_13 : decode cJ0_isLatin1_aae02 13 = .ok (.iconst 1, 1) := by decide +kernel
theorem dJ0_isLatin1_aae02_14 : decode cJ0_isLatin1_aae02 14 = .ok (.goto 4, 3) := by decide +kernel
theorem dJ0_isLatin1_aae02_17 : decode cJ0_isLatin1_aae02 17 = .ok (.iconst 0, 1) := by decide +kernel
theorem dJ0_isLatin1_aae02_18 : decode cJ0_isLatin1_aae02 18 = .ok (.ireturn, 1) := by decide +kernel
theorem dJ1_canEncode_9a6ad_0 : decode cJ1_canEncode_9a6ad 0 = .ok (.iload_n 0, 1) := by decide +kernel
theorem dJ1_canEncode_9a6ad_1 : decode cJ1_canEncode_9a6ad 1 = .ok (.ifCond .lt 14, 3) := by decide +kernel
theorem dJ1_canEncode_9a6ad_4 : decode cJ1_canEncode_9a6ad 4 = .ok (.iload_n 0, 1) := by decide +kernel
theorem dJ1_canEncode_9a6ad_5 : decode cJ1_canEncode_9a6ad 5 = .ok (.sipush 255, 3) := by decide +kernel
theorem dJ1_canEncode_9a6ad_8 : decode cJ1_canEncode_9a6ad 8 = .ok (.if_icmp .gt 7, 3) := by decide +kernel
theorem dJ1_canEncode_9a6ad_11 : decode cJ1_canEncode_9a6ad 11 = .ok (.iconst 1, 1) := by decide +kernel
theorem dJ1_canEncode_9a6ad_12 : decode cJ1_canEncode_9a6ad 12 = .ok (.goto 4, 3) := by decide +kernel
theorem dJ1_canEncode_9a6ad_15 : decode cJ1_canEncode_9a6ad 15 = .ok (.iconst 0, 1) := by decide +kernel
theorem dJ1_canEncode_9a6ad_16 : decode cJ1_canEncode_9a6ad 16 = .ok (.ireturn, 1) := by decide +kernel
theorem dJ1_indexOf_4cfef_0 : decode cJ1_indexOf_4cfef 0 = .ok (.iload_n 1, 1) := by decide +kernel
theorem dJ1_indexOf_4cfef_1 : decode cJ1_indexOf_4cfef 1 = .ok (.invokestatic 88, 3) := by decide +kernel
theorem dJ1_indexOf_4cfef_4 : decode cJ1_indexOf_4cfef 4 = .ok (.ifCond .ne 5, 3) := by decide +kernel
theorem dJ1_indexOf_4cfef_7 : decode cJ1_indexOf_4cfef 7 = .ok (.iconst (-1), 1) := by decide +kernel
theorem dJ1_indexOf_4cfef_8 : decode cJ1_indexOf_4cfef 8 = .ok (.ireturn, 1) := by decide +kernel
theorem dJ1_indexOf_4cfef_9 : decode cJ1_indexOf_4cfef 9 = .ok (.iload_n 2, 1) := by decide +kernel
theorem dJ1_indexOf_4cfef_10 : decode cJ1_indexOf_4cfef 10 = .ok (.iconst 0, 1) := by decide +kernel
theorem dJ1_indexOf_4cfef_11 : decode cJ1_indexOf_4cfef 11 = .ok (.invokestatic 92, 3) := by decide +kernel
theorem dJ1_indexOf_4cfef_14 : decode cJ1_indexOf_4cfef 14 = .ok (.istore_n 2, 1) := by decide +kernel
theorem dJ1_indexOf_4cfef_15 : decode cJ1_indexOf_4cfef 15 = .ok (.iload_n 3, 1) := by decide +kernel
theorem dJ1_indexOf_4cfef_16 : decode cJ1_indexOf_4cfef 16 = .ok (.aload_n 0, 1) := by decide +kernel
theorem dJ1_indexOf_4cfef_17 : decode cJ1_indexOf_4cfef 17 = .ok (.arraylength, 1) := by decide +kernel
theorem dJ1_indexOf_4cfef_18 : decode cJ1_indexOf_4cfef 18 = .ok (.invokestatic 38, 3) := by decide +kernel
theorem dJ1_indexOf_4cfef_21 : decode cJ1_indexOf_4cfef 21 = .ok (.istore_n 3, 1) := by decide +kernel
theorem dJ1_indexOf_4cfef_22 : decode cJ1_indexOf_4cfef 22 = .ok (.iload_n 2, 1) := by decide +kernel
theorem dJ1_indexOf_4cfef_23 : decode cJ1_indexOf_4cfef 23 = .ok (.iload_n 3, 1) := by decide +kernel
theorem dJ1_indexOf_4cfef_24 : decode cJ1_indexOf_4cfef 24 = .ok (.if_icmp .lt 5, 3) := by decide +kernel
theorem dJ1_indexOf_4cfef_27 : decode cJ1_indexOf_4cfef 27 = .ok (.iconst (-1), 1) := by decide +kernel
theorem dJ1_indexOf_4cfef_28 : decode cJ1_indexOf_4cfef 28 = .ok (.ireturn, 1) := by decide +kernel
theorem dJ1_indexOf_4cfef_29 : decode cJ1_indexOf_4cfef 29 = .ok (.aload_n 0, 1) := by decide +kernel
theorem dJ1_indexOf_4cfef_30 : decode cJ1_indexOf_4cfef 30 = .ok (.iload_n 1, 1) := by decide +kernel
theorem dJ1_indexOf_4cfef_31 : decode cJ1_indexOf_4cfef 31 = .ok (.iload_n 2, 1) := by decide +kernel
theorem dJ1_indexOf_4cfef_32 : decode cJ1_indexOf_4cfef 32 = .ok (.iload_n 3, 1) := by decide +kernel
theorem dJ1_indexOf_4cfef_33 : decode cJ1_indexOf_4cfef 33 = .ok (.invokestatic 95, 3) := by decide +kernel
theorem dJ1_indexOf_4cfef_36 : decode cJ1_indexOf_4cfef 36 = .ok (.ireturn, 1) := by decide +kernel
theorem dJ1_indexOfChar_4cfef_0 : decode cJ1_indexOfChar_4cfef 0 = .ok (.iload_n 1, 1) := by decide +kernel
theorem dJ1_indexOfChar_4cfef_1 : decode cJ1_indexOfChar_4cfef 1 = .ok (.i2b, 1) := by decide +kernel
theorem dJ1_indexOfChar_4cfef_2 : decode cJ1_indexOfChar_4cfef 2 = .ok (.istore 4, 2) := by decide +kernel
theorem dJ1_indexOfChar_4cfef_4 : decode cJ1_indexOfChar_4cfef 4 = .ok (.iload_n 2, 1) := by decide +kernel
theorem dJ1_indexOfChar_4cfef_5 : decode cJ1_indexOfChar_4cfef 5 = .ok (.istore 5, 2) := by decide +kernel
theorem dJ1_indexOfChar_4cfef_7 : decode cJ1_indexOfChar_4cfef 7 = .ok (.iload 5, 2) := by decide +kernel
theorem dJ1_indexOfChar_4cfef_9 : decode cJ1_indexOfChar_4cfef 9 = .ok (.iload_n 3, 1) := by decide +kernel
theorem dJ1_indexOfChar_4cfef_10 : decode cJ1_indexOfChar_4cfef 10 = .ok (.if_icmp .ge 21, 3) := by decide +kernel
theorem dJ1_indexOfChar_4cfef_13 : decode cJ1_indexOfChar_4cfef 13 = .ok (.aload_n 0, 1) := by decide +kernel
theorem dJ1_indexOfChar_4cfef_14 : decode cJ1_indexOfChar_4cfef 14 = .ok (.iload 5, 2) := by decide +kernel
theorem dJ1_indexOfChar_4cfef_16 : decode cJ1_indexOfChar_4cfef 16 = .ok (.baload, 1) := by decide +kernel
theorem dJ1_indexOfChar_4cfef_17 : decode cJ1_indexOfChar_4cfef 17 = .ok (.iload 4, 2) := by decide +kernel
theorem dJ1_indexOfChar_4cfef_19 : decode cJ1_indexOfChar_4cfef 19 = .ok (.if_icmp .ne 6, 3) := by decide +kernel
theorem dJ1_indexOfChar_4cfef_22 : decode cJ1_indexOfChar_4cfef 22 = .ok (.iload 5, 2) := by decide +kernel
theorem dJ1_indexOfChar_4cfef_24 : decode cJ1_indexOfChar_4cfef 24 = .ok (.ireturn, 1) := by decide +kernel
theorem dJ1_indexOfChar_4cfef_25 : decode cJ1_indexOfChar_4cfef 25 = .ok (.iinc 5 1, 3) := by decide +kernel
theorem dJ1_indexOfChar_4cfef_28 : decode cJ1_indexOfChar_4cfef 28 = .ok (.goto (-21), 3) := by decide +kernel
theorem dJ1_indexOfChar_4cfef_31 : decode cJ1_indexOfChar_4cfef 31 = .ok (.iconst (-1), 1) := by decide +kernel
theorem dJ1_indexOfChar_4cfef_32 : decode cJ1_indexOfChar_4cfef 32 = .ok (.ireturn, 1) := by decide +kernel
