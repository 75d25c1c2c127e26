/-! the law's rows decoded -/
theorem dL_cell_0 : decode cL_cell 0 = .ok (.iload_n 1, 1) := by decide +kernel
theorem dL_cell_1 : decode cL_cell 1 = .ok (.aload_n 0, 1) := by decide +kernel
theorem dL_cell_2 : decode cL_cell 2 = .ok (.arraylength, 1) := by decide +kernel
theorem dL_cell_3 : decode cL_cell 3 = .ok (.if_icmp .ge 9, 3) := by decide +kernel
theorem dL_cell_6 : decode cL_cell 6 = .ok (.aload_n 0, 1) := by decide +kernel
theorem dL_cell_7 : decode cL_cell 7 = .ok (.iload_n 1, 1) := by decide +kernel
theorem dL_cell_8 : decode cL_cell 8 = .ok (.iaload, 1) := by decide +kernel
theorem dL_cell_9 : decode cL_cell 9 = .ok (.goto 15, 3) := by decide +kernel
theorem dL_cell_12 : decode cL_cell 12 = .ok (.sipush 7919, 3) := by decide +kernel
theorem dL_cell_15 : decode cL_cell 15 = .ok (.iload_n 1, 1) := by decide +kernel
theorem dL_cell_16 : decode cL_cell 16 = .ok (.iconst 3, 1) := by decide +kernel
theorem dL_cell_17 : decode cL_cell 17 = .ok (.iadd, 1) := by decide +kernel
theorem dL_cell_18 : decode cL_cell 18 = .ok (.imul, 1) := by decide +kernel
theorem dL_cell_19 : decode cL_cell 19 = .ok (.iload_n 1, 1) := by decide +kernel
theorem dL_cell_20 : decode cL_cell 20 = .ok (.bipush 11, 2) := by decide +kernel
theorem dL_cell_22 : decode cL_cell 22 = .ok (.iadd, 1) := by decide +kernel
theorem dL_cell_23 : decode cL_cell 23 = .ok (.imul, 1) := by decide +kernel
theorem dL_cell_24 : decode cL_cell 24 = .ok (.ireturn, 1) := by decide +kernel
theorem dL_low_0 : decode cL_low 0 = .ok (.iload_n 0, 1) := by decide +kernel
theorem dL_low_1 : decode cL_low 1 = .ok (.ldc 7, 2) := by decide +kernel
theorem dL_low_3 : decode cL_low 3 = .ok (.iand, 1) := by decide +kernel
theorem dL_low_4 : decode cL_low 4 = .ok (.iload_n 1, 1) := by decide +kernel
theorem dL_low_5 : decode cL_low 5 = .ok (.irem, 1) := by decide +kernel
theorem dL_low_6 : decode cL_low 6 = .ok (.ireturn, 1) := by decide +kernel
theorem dL_tale_0 : decode cL_tale 0 = .ok (.ldc2_w 8, 3) := by decide +kernel
theorem dL_tale_3 : decode cL_tale 3 = .ok (.lstore_n 1, 1) := by decide +kernel
theorem dL_tale_4 : decode cL_tale 4 = .ok (.iconst 0, 1) := by decide +kernel
theorem dL_tale_5 : decode cL_tale 5 = .ok (.istore_n 3, 1) := by decide +kernel
theorem dL_tale_6 : decode cL_tale 6 = .ok (.iload_n 3, 1) := by decide +kernel
theorem dL_tale_7 : decode cL_tale 7 = .ok (.bipush 12, 2) := by decide +kernel
theorem dL_tale_9 : decode cL_tale 9 = .ok (.if_icmp .ge 22, 3) := by decide +kernel
theorem dL_tale_12 : decode cL_tale 12 = .ok (.lload_n 1, 1) := by decide +kernel
theorem dL_tale_13 : decode cL_tale 13 = .ok (.ldc2_w 10, 3) := by decide +kernel
theorem dL_tale_16 : decode cL_tale 16 = .ok (.lmul, 1) := by decide +kernel
theorem dL_tale_17 : decode cL_tale 17 = .ok (.aload_n 0, 1) := by decide +kernel
theorem dL_tale_18 : decode cL_tale 18 = .ok (.iload_n 3, 1) := by decide +kernel
theorem dL_tale_19 : decode cL_tale 19 = .ok (.invokevirtual 12, 3) := by decide +kernel
theorem dL_tale_22 : decode cL_tale 22 = .ok (.i2l, 1) := by decide +kernel
theorem dL_tale_23 : decode cL_tale 23 = .ok (.ladd, 1) := by decide +kernel
theorem dL_tale_24 : decode cL_tale 24 = .ok (.lstore_n 1, 1) := by decide +kernel
theorem dL_tale_25 : decode cL_tale 25 = .ok (.iinc 3 1, 3) := by decide +kernel
theorem dL_tale_28 : decode cL_tale 28 = .ok (.goto (-22), 3) := by decide +kernel
theorem dL_tale_31 : decode cL_tale 31 = .ok (.iconst 0, 1) := by decide +kernel
theorem dL_tale_32 : decode cL_tale 32 = .ok (.istore_n 3, 1) := by decide +kernel
theorem dL_tale_33 : decode cL_tale 33 = .ok (.iload_n 3, 1) := by decide +kernel
theorem dL_tale_34 : decode cL_tale 34 = .ok (.bipush 49, 2) := by decide +kernel
theorem dL_tale_36 : decode cL_tale 36 = .ok (.if_icmp .ge 22, 3) := by decide +kernel
theorem dL_tale_39 : decode cL_tale 39 = .ok (.lload_n 1, 1) := by decide +kernel
theorem dL_tale_40 : decode cL_tale 40 = .ok (.ldc2_w 18, 3) := by decide +kernel
theorem dL_tale_43 : decode cL_tale 43 = .ok (.lmul, 1) := by decide +kernel
theorem dL_tale_44 : decode cL_tale 44 = .ok (.aload_n 0, 1) := by decide +kernel
theorem dL_tale_45 : decode cL_tale 45 = .ok (.iload_n 3, 1) := by decide +kernel
theorem dL_tale_46 : decode cL_tale 46 = .ok (.invokevirtual 20, 3) := by decide +kernel
theorem dL_tale_49 : decode cL_tale 49 = .ok (.i2l, 1) := by decide +kernel
theorem dL_tale_50 : decode cL_tale 50 = .ok (.ladd, 1) := by decide +kernel
theorem dL_tale_51 : decode cL_tale 51 = .ok (.lstore_n 1, 1) := by decide +kernel
theorem dL_tale_52 : decode cL_tale 52 = .ok (.iinc 3 1, 3) := by decide +kernel
theorem dL_tale_55 : decode cL_tale 55 = .ok (.goto (-22), 3) := by decide +kernel
theorem dL_tale_58 : decode cL_tale 58 = .ok (.iconst 0, 1) := by decide +kernel
theorem dL_tale_59 : decode cL_tale 59 = .ok (.istore_n 3, 1) := by decide +kernel
theorem dL_tale_60 : decode cL_tale 60 = .ok (.iload_n 3, 1) := by decide +kernel
theorem dL_tale_61 : decode cL_tale 61 = .ok (.bipush 20, 2) := by decide +kernel
theorem dL_tale_63 : decode cL_tale 63 = .ok (.if_icmp .ge 59, 3) := by decide +kernel
theorem dL_tale_66 : decode cL_tale 66 = .ok (.lload_n 1, 1) := by decide +kernel
theorem dL_tale_67 : decode cL_tale 67 = .ok (.ldc2_w 23, 3) := by decide +kernel
theorem dL_tale_70 : decode cL_tale 70 = .ok (.lmul, 1) := by decide +kernel
theorem dL_tale_71 : decode cL_tale 71 = .ok (.aload_n 0, 1) := by decide +kernel
theorem dL_tale_72 : decode cL_tale 72 = .ok (.iload_n 3, 1) := by decide +kernel
theorem dL_tale_73 : decode cL_tale 73 = .ok (.iconst 0, 1) := by decide +kernel
theorem dL_tale_74 : decode cL_tale 74 = .ok (.invokevirtual 25, 3) := by decide +kernel
theorem dL_tale_77 : decode cL_tale 77 = .ok (.i2l, 1) := by decide +kernel
theorem dL_tale_78 : decode cL_tale 78 = .ok (.ladd, 1) := by decide +kernel
theorem dL_tale_79 : decode cL_tale 79 = .ok (.ldc2_w 8, 3) := by decide +kernel
theorem dL_tale_82 : decode cL_tale 82 = .ok (.aload_n 0, 1) := by decide +kernel
theorem dL_tale_83 : decode cL_tale 83 = .ok (.iload_n 3, 1) := by decide +kernel
theorem dL_tale_84 : decode cL_tale 84 = .ok (.iconst 1, 1) := by decide +kernel
theorem dL_tale_85 : decode cL_tale 85 = .ok (.invokevirtual 25, 3) := by decide +kernel
theorem dL_tale_88 : decode cL_tale 88 = .ok (.i2l, 1) := by decide +kernel
theorem dL_tale_89 : decode cL_tale 89 = .ok (.lmul, 1) := by decide +kernel
theorem dL_tale_90 : decode cL_tale 90 = .ok (.ladd, 1) := by decide +kernel
theorem dL_tale_91 : decode cL_tale 91 = .ok (.ldc2_w 29, 3) := by decide +kernel
theorem dL_tale_94 : decode cL_tale 94 = .ok (.aload_n 0, 1) := by decide +kernel
theorem dL_tale_95 : decode cL_tale 95 = .ok (.iload_n 3, 1) := by decide +kernel
theorem dL_tale_96 : decode cL_tale 96 = .ok (.iconst 2, 1) := by decide +kernel
theorem dL_tale_97 : decode cL_tale 97 = .ok (.invokevirtual 25, 3) := by decide +kernel
theorem dL_tale_100 : decode cL_tale 100 = .ok (.i2l, 1) := by decide +kernel
theorem dL_tale_101 : decode cL_tale 101 = .ok (.lmul, 1) := by decide +kernel
theorem dL_tale_102 : decode cL_tale 102 = .ok (.ladd, 1) := by decide +kernel
theorem dL_tale_103 : decode cL_tale 103 = .ok (.ldc2_w 31, 3) := by decide +kernel
theorem dL_tale_106 : decode cL_tale 106 = .ok (.aload_n 0, 1) := by decide +kernel
theorem dL_tale_107 : decode cL_tale 107 = .ok (.iload_n 3, 1) := by decide +kernel
theorem dL_tale_108 : decode cL_tale 108 = .ok (.iconst 3, 1) := by decide +kernel
theorem dL_tale_109 : decode cL_tale 109 = .ok (.invokevirtual 25, 3) := by decide +kernel
theorem dL_tale_112 : decode cL_tale 112 = .ok (.i2l, 1) := by decide +kernel
theorem dL_tale_113 : decode cL_tale 113 = .ok (.lmul, 1) := by decide +kernel
theorem dL_tale_114 : decode cL_tale 114 = .ok (.ladd, 1) := by decide +kernel
theorem dL_tale_115 : decode cL_tale 115 = .ok (.lstore_n 1, 1) := by decide +kernel
theorem dL_tale_116 : decode cL_tale 116 = .ok (.iinc 3 1, 3) := by decide +kernel
theorem dL_tale_119 : decode cL_tale 119 = .ok (.goto (-59), 3) := by decide +kernel
theorem dL_tale_122 : decode cL_tale 122 = .ok (.lload_n 1, 1) := by decide +kernel
theorem dL_tale_123 : decode cL_tale 123 = .ok (.lreturn, 1) := by decide +kernel
theorem dL_does_0 : decode cL_does 0 = .ok (.iload_n 1, 1) := by decide +kernel
theorem dL_does_1 : decode cL_does 1 = .ok (.iconst 4, 1) := by decide +kernel
theorem dL_does_2 : decode cL_does 2 = .ok (.ishr, 1) := by decide +kernel
theorem dL_does_3 : decode cL_does 3 = .ok (.aload_n 0, 1) := by decide +kernel
theorem dL_does_4 : decode cL_does 4 = .ok (.iconst 3, 1) := by decide +kernel
theorem dL_does_5 : decode cL_does 5 = .ok (.invokevirtual 12, 3) := by decide +kernel
theorem dL_does_8 : decode cL_does 8 = .ok (.iconst 1, 1) := by decide +kernel
theorem dL_does_9 : decode cL_does 9 = .ok (.iadd, 1) := by decide +kernel
theorem dL_does_10 : decode cL_does 10 = .ok (.invokestatic 33, 3) := by decide +kernel
theorem dL_does_13 : decode cL_does 13 = .ok (.istore_n 2, 1) := by decide +kernel
theorem dL_does_14 : decode cL_does 14 = .ok (.iload_n 1, 1) := by decide +kernel
theorem dL_does_15 : decode cL_does 15 = .ok (.bipush 15, 2) := by decide +kernel
theorem dL_does_17 : decode cL_does 17 = .ok (.iand, 1) := by decide +kernel
theorem dL_does_18 : decode cL_does 18 = .ok (.tableswitch 188 0 11 #[62, 62, 62, 85, 98, 122, 127, 133, 147, 161, 166, 166], 62) := by decide +kernel
theorem dL_does_80 : decode cL_does 80 = .ok (.aload_n 0, 1) := by decide +kernel
theorem dL_does_81 : decode cL_does 81 = .ok (.iload_n 1, 1) := by decide +kernel
theorem dL_does_82 : decode cL_does 82 = .ok (.iconst 4, 1) := by decide +kernel
theorem dL_does_83 : decode cL_does 83 = .ok (.ishr, 1) := by decide +kernel
theorem dL_does_84 : decode cL_does 84 = .ok (.bipush 49, 2) := by decide +kernel
theorem dL_does_86 : decode cL_does 86 = .ok (.invokestatic 33, 3) := by decide +kernel
theorem dL_does_89 : decode cL_does 89 = .ok (.iconst 1, 1) := by decide +kernel
theorem dL_does_90 : decode cL_does 90 = .ok (.iload_n 1, 1) := by decide +kernel
theorem dL_does_91 : decode cL_does 91 = .ok (.bipush 10, 2) := by decide +kernel
theorem dL_does_93 : decode cL_does 93 = .ok (.ishr, 1) := by decide +kernel
theorem dL_does_94 : decode cL_does 94 = .ok (.iconst 4, 1) := by decide +kernel
theorem dL_does_95 : decode cL_does 95 = .ok (.invokestatic 33, 3) := by decide +kernel
theorem dL_does_98 : decode cL_does 98 = .ok (.iadd, 1) := by decide +kernel
theorem dL_does_99 : decode cL_does 99 = .ok (.invokevirtual 38, 3) := by decide +kernel
theorem dL_does_102 : decode cL_does 102 = .ok (.ireturn, 1) := by decide +kernel
theorem dL_does_103 : decode cL_does 103 = .ok (.aload_n 0, 1) := by decide +kernel
theorem dL_does_104 : decode cL_does 104 = .ok (.iload_n 1, 1) := by decide +kernel
theorem dL_does_105 : decode cL_does 105 = .ok (.iconst 4, 1) := by decide +kernel
theorem dL_does_106 : decode cL_does 106 = .ok (.ishr, 1) := by decide +kernel
theorem dL_does_107 : decode cL_does 107 = .ok (.bipush 49, 2) := by decide +kernel
theorem dL_does_109 : decode cL_does 109 = .ok (.invokestatic 33, 3) := by decide +kernel
theorem dL_does_112 : decode cL_does 112 = .ok (.invokevirtual 41, 3) := by decide +kernel
theorem dL_does_115 : decode cL_does 115 = .ok (.ireturn, 1) := by decide +kernel
theorem dL_does_116 : decode cL_does 116 = .ok (.aload_n 0, 1) := by decide +kernel
theorem dL_does_117 : decode cL_does 117 = .ok (.iconst 3, 1) := by decide +kernel
theorem dL_does_118 : decode cL_does 118 = .ok (.iload_n 1, 1) := by decide +kernel
theorem dL_does_119 : decode cL_does 119 = .ok (.iconst 4, 1) := by decide +kernel
theorem dL_does_120 : decode cL_does 120 = .ok (.ishr, 1) := by decide +kernel
theorem dL_does_121 : decode cL_does 121 = .ok (.iconst 5, 1) := by decide +kernel
theorem dL_does_122 : decode cL_does 122 = .ok (.invokestatic 33, 3) := by decide +kernel
theorem dL_does_125 : decode cL_does 125 = .ok (.iadd, 1) := by decide +kernel
theorem dL_does_126 : decode cL_does 126 = .ok (.iconst 3, 1) := by decide +kernel
theorem dL_does_127 : decode cL_does 127 = .ok (.iload_n 1, 1) := by decide +kernel
theorem dL_does_128 : decode cL_does 128 = .ok (.bipush 8, 2) := by decide +kernel
theorem dL_does_130 : decode cL_does 130 = .ok (.ishr, 1) := by decide +kernel
theorem dL_does_131 : decode cL_does 131 = .ok (.iconst 5, 1) := by decide +kernel
theorem dL_does_132 : decode cL_does 132 = .ok (.invokestatic 33, 3) := by decide +kernel
theorem dL_does_135 : decode cL_does 135 = .ok (.iadd, 1) := by decide +kernel
theorem dL_does_136 : decode cL_does 136 = .ok (.invokevirtual 44, 3) := by decide +kernel
theorem dL_does_139 : decode cL_does 139 = .ok (.ireturn, 1) := by decide +kernel
theorem dL_does_140 : decode cL_does 140 = .ok (.aload_n 0, 1) := by decide +kernel
theorem dL_does_141 : decode cL_does 141 = .ok (.invokevirtual 47, 3) := by decide +kernel
theorem dL_does_144 : decode cL_does 144 = .ok (.ireturn, 1) := by decide +kernel
theorem dL_does_145 : decode cL_does 145 = .ok (.aload_n 0, 1) := by decide +kernel
theorem dL_does_146 : decode cL_does 146 = .ok (.iload_n 2, 1) := by decide +kernel
theorem dL_does_147 : decode cL_does 147 = .ok (.invokevirtual 51, 3) := by decide +kernel
theorem dL_does_150 : decode cL_does 150 = .ok (.ireturn, 1) := by decide +kernel
theorem dL_does_151 : decode cL_does 151 = .ok (.aload_n 0, 1) := by decide +kernel
theorem dL_does_152 : decode cL_does 152 = .ok (.iload_n 2, 1) := by decide +kernel
theorem dL_does_153 : decode cL_does 153 = .ok (.iload_n 1, 1) := by decide +kernel
theorem dL_does_154 : decode cL_does 154 = .ok (.bipush 10, 2) := by decide +kernel
theorem dL_does_156 : decode cL_does 156 = .ok (.ishr, 1) := by decide +kernel
theorem dL_does_157 : decode cL_does 157 = .ok (.iconst 3, 1) := by decide +kernel
theorem dL_does_158 : decode cL_does 158 = .ok (.invokestatic 33, 3) := by decide +kernel
theorem dL_does_161 : decode cL_does 161 = .ok (.invokevirtual 54, 3) := by decide +kernel
theorem dL_does_164 : decode cL_does 164 = .ok (.ireturn, 1) := by decide +kernel
theorem dL_does_165 : decode cL_does 165 = .ok (.aload_n 0, 1) := by decide +kernel
theorem dL_does_166 : decode cL_does 166 = .ok (.iconst 1, 1) := by decide +kernel
theorem dL_does_167 : decode cL_does 167 = .ok (.iload_n 1, 1) := by decide +kernel
theorem dL_does_168 : decode cL_does 168 = .ok (.iconst 4, 1) := by decide +kernel
theorem dL_does_169 : decode cL_does 169 = .ok (.ishr, 1) := by decide +kernel
theorem dL_does_170 : decode cL_does 170 = .ok (.iconst 5, 1) := by decide +kernel
theorem dL_does_171 : decode cL_does 171 = .ok (.invokestatic 33, 3) := by decide +kernel
theorem dL_does_174 : decode cL_does 174 = .ok (.iadd, 1) := by decide +kernel
theorem dL_does_175 : decode cL_does 175 = .ok (.invokevirtual 57, 3) := by decide +kernel
theorem dL_does_178 : decode cL_does 178 = .ok (.ireturn, 1) := by decide +kernel
theorem dL_does_179 : decode cL_does 179 = .ok (.aload_n 0, 1) := by decide +kernel
theorem dL_does_180 : decode cL_does 180 = .ok (.invokevirtual 60, 3) := by decide +kernel
theorem dL_does_183 : decode cL_does 183 = .ok (.ireturn, 1) := by decide +kernel
theorem dL_does_184 : decode cL_does 184 = .ok (.aload_n 0, 1) := by decide +kernel
theorem dL_does_185 : decode cL_does 185 = .ok (.iload_n 1, 1) := by decide +kernel
theorem dL_does_186 : decode cL_does 186 = .ok (.iconst 4, 1) := by decide +kernel
theorem dL_does_187 : decode cL_does 187 = .ok (.ishr, 1) := by decide +kernel
theorem dL_does_188 : decode cL_does 188 = .ok (.ldc 63, 2) := by decide +kernel
theorem dL_does_190 : decode cL_does 190 = .ok (.iand, 1) := by decide +kernel
theorem dL_does_191 : decode cL_does 191 = .ok (.iconst 2, 1) := by decide +kernel
theorem dL_does_192 : decode cL_does 192 = .ok (.iload_n 1, 1) := by decide +kernel
theorem dL_does_193 : decode cL_does 193 = .ok (.bipush 20, 2) := by decide +kernel
theorem dL_does_195 : decode cL_does 195 = .ok (.ishr, 1) := by decide +kernel
theorem dL_does_196 : decode cL_does 196 = .ok (.bipush 8, 2) := by decide +kernel
theorem dL_does_198 : decode cL_does 198 = .ok (.invokestatic 33, 3) := by decide +kernel
theorem dL_does_201 : decode cL_does 201 = .ok (.iadd, 1) := by decide +kernel
theorem dL_does_202 : decode cL_does 202 = .ok (.invokevirtual 64, 3) := by decide +kernel
theorem dL_does_205 : decode cL_does 205 = .ok (.ireturn, 1) := by decide +kernel
theorem dL_does_206 : decode cL_does 206 = .ok (.aload_n 0, 1) := by decide +kernel
theorem dL_does_207 : decode cL_does 207 = .ok (.iload_n 2, 1) := by decide +kernel
theorem dL_does_208 : decode cL_does 208 = .ok (.invokevirtual 67, 3) := by decide +kernel
theorem dL_does_211 : decode cL_does 211 = .ok (.ireturn, 1) := by decide +kernel
theorem dL_law_0 : decode cL_law 0 = .ok (.new 13, 3) := by decide +kernel
theorem dL_law_3 : decode cL_law 3 = .ok (.dup, 1) := by decide +kernel
theorem dL_law_4 : decode cL_law 4 = .ok (.invokespecial 70, 3) := by decide +kernel
theorem dL_law_7 : decode cL_law 7 = .ok (.astore_n 1, 1) := by decide +kernel
theorem dL_law_8 : decode cL_law 8 = .ok (.iconst 0, 1) := by decide +kernel
theorem dL_law_9 : decode cL_law 9 = .ok (.istore_n 2, 1) := by decide +kernel
theorem dL_law_10 : decode cL_law 10 = .ok (.iconst 0, 1) := by decide +kernel
theorem dL_law_11 : decode cL_law 11 = .ok (.istore_n 3, 1) := by decide +kernel
theorem dL_law_12 : decode cL_law 12 = .ok (.iload_n 3, 1) := by decide +kernel
theorem dL_law_13 : decode cL_law 13 = .ok (.bipush 40, 2) := by decide +kernel
theorem dL_law_15 : decode cL_law 15 = .ok (.if_icmp .ge 497, 3) := by decide +kernel
theorem dL_law_18 : decode cL_law 18 = .ok (.aload_n 0, 1) := by decide +kernel
theorem dL_law_19 : decode cL_law 19 = .ok (.iload_n 3, 1) := by decide +kernel
theorem dL_law_20 : decode cL_law 20 = .ok (.invokestatic 71, 3) := by decide +kernel
theorem dL_law_23 : decode cL_law 23 = .ok (.istore 4, 2) := by decide +kernel
theorem dL_law_25 : decode cL_law 25 = .ok (.aload_n 1, 1) := by decide +kernel
theorem dL_law_26 : decode cL_law 26 = .ok (.invokestatic 75, 3) := by decide +kernel
theorem dL_law_29 : decode cL_law 29 = .ok (.lstore 5, 2) := by decide +kernel
theorem dL_law_31 : decode cL_law 31 = .ok (.aload_n 1, 1) := by decide +kernel
theorem dL_law_32 : decode cL_law 32 = .ok (.invokevirtual 79, 3) := by decide +kernel
theorem dL_law_35 : decode cL_law 35 = .ok (.istore 7, 2) := by decide +kernel
theorem dL_law_37 : decode cL_law 37 = .ok (.aload_n 1, 1) := by decide +kernel
theorem dL_law_38 : decode cL_law 38 = .ok (.iload 4, 2) := by decide +kernel
theorem dL_law_40 : decode cL_law 40 = .ok (.invokestatic 82, 3) := by decide +kernel
theorem dL_law_43 : decode cL_law 43 = .ok (.istore 8, 2) := by decide +kernel
theorem dL_law_45 : decode cL_law 45 = .ok (.iload 8, 2) := by decide +kernel
theorem dL_law_47 : decode cL_law 47 = .ok (.ifCond .ge 13, 3) := by decide +kernel
theorem dL_law_50 : decode cL_law 50 = .ok (.aload_n 1, 1) := by decide +kernel
theorem dL_law_51 : decode cL_law 51 = .ok (.invokestatic 75, 3) := by decide +kernel
theorem dL_law_54 : decode cL_law 54 = .ok (.lload 5, 2) := by decide +kernel
theorem dL_law_56 : decode cL_law 56 = .ok (.lcmp, 1) := by decide +kernel
theorem dL_law_57 : decode cL_law 57 = .ok (.ifCond .ne 20, 3) := by decide +kernel
theorem dL_law_60 : decode cL_law 60 = .ok (.iload 4, 2) := by decide +kernel
theorem dL_law_62 : decode cL_law 62 = .ok (.bipush 15, 2) := by decide +kernel
theorem dL_law_64 : decode cL_law 64 = .ok (.iand, 1) := by decide +kernel
theorem dL_law_65 : decode cL_law 65 = .ok (.bipush 9, 2) := by decide +kernel
theorem dL_law_67 : decode cL_law 67 = .ok (.if_icmp .ne 12, 3) := by decide +kernel
theorem dL_law_70 : decode cL_law 70 = .ok (.iload 8, 2) := by decide +kernel
theorem dL_law_72 : decode cL_law 72 = .ok (.iload 7, 2) := by decide +kernel
theorem dL_law_74 : decode cL_law 74 = .ok (.if_icmp .eq 5, 3) := by decide +kernel
theorem dL_law_77 : decode cL_law 77 = .ok (.iconst 0, 1) := by decide +kernel
theorem dL_law_78 : decode cL_law 78 = .ok (.ireturn, 1) := by decide +kernel
theorem dL_law_79 : decode cL_law 79 = .ok (.iload 8, 2) := by decide +kernel
theorem dL_law_81 : decode cL_law 81 = .ok (.ifCond .ge 7, 3) := by decide +kernel
theorem dL_law_84 : decode cL_law 84 = .ok (.iload_n 2, 1) := by decide +kernel
theorem dL_law_85 : decode cL_law 85 = .ok (.goto 15, 3) := by decide +kernel
theorem dL_law_88 : decode cL_law 88 = .ok (.iload_n 2, 1) := by decide +kernel
theorem dL_law_89 : decode cL_law 89 = .ok (.iconst 4, 1) := by decide +kernel
theorem dL_law_90 : decode cL_law 90 = .ok (.if_icmp .ge 9, 3) := by decide +kernel
theorem dL_law_93 : decode cL_law 93 = .ok (.iload_n 2, 1) := by decide +kernel
theorem dL_law_94 : decode cL_law 94 = .ok (.iconst 1, 1) := by decide +kernel
theorem dL_law_95 : decode cL_law 95 = .ok (.iadd, 1) := by decide +kernel
theorem dL_law_96 : decode cL_law 96 = .ok (.goto 4, 3) := by decide +kernel
theorem dL_law_99 : decode cL_law 99 = .ok (.iconst 4, 1) := by decide +kernel
theorem dL_law_100 : decode cL_law 100 = .ok (.istore_n 2, 1) := by decide +kernel
theorem dL_law_101 : decode cL_law 101 = .ok (.iload 8, 2) := by decide +kernel
theorem dL_law_103 : decode cL_law 103 = .ok (.ifCond .lt 38, 3) := by decide +kernel
theorem dL_law_106 : decode cL_law 106 = .ok (.iload 4, 2) := by decide +kernel
theorem dL_law_108 : decode cL_law 108 = .ok (.bipush 27, 2) := by decide +kernel
theorem dL_law_110 : decode cL_law 110 = .ok (.ishr, 1) := by decide +kernel
theorem dL_law_111 : decode cL_law 111 = .ok (.iconst 3, 1) := by decide +kernel
theorem dL_law_112 : decode cL_law 112 = .ok (.iand, 1) := by decide +kernel
theorem dL_law_113 : decode cL_law 113 = .ok (.ifCond .ne 28, 3) := by decide +kernel
theorem dL_law_116 : decode cL_law 116 = .ok (.aload_n 1, 1) := by decide +kernel
theorem dL_law_117 : decode cL_law 117 = .ok (.invokevirtual 86, 3) := by decide +kernel
theorem dL_law_120 : decode cL_law 120 = .ok (.iload_n 2, 1) := by decide +kernel
theorem dL_law_121 : decode cL_law 121 = .ok (.iconst 1, 1) := by decide +kernel
theorem dL_law_122 : decode cL_law 122 = .ok (.isub, 1) := by decide +kernel
theorem dL_law_123 : decode cL_law 123 = .ok (.if_icmp .ne 13, 3) := by decide +kernel
theorem dL_law_126 : decode cL_law 126 = .ok (.aload_n 1, 1) := by decide +kernel
theorem dL_law_127 : decode cL_law 127 = .ok (.invokestatic 75, 3) := by decide +kernel
theorem dL_law_130 : decode cL_law 130 = .ok (.lload 5, 2) := by decide +kernel
theorem dL_law_132 : decode cL_law 132 = .ok (.lcmp, 1) := by decide +kernel
theorem dL_law_133 : decode cL_law 133 = .ok (.ifCond .eq 5, 3) := by decide +kernel
theorem dL_law_136 : decode cL_law 136 = .ok (.iconst 0, 1) := by decide +kernel
theorem dL_law_137 : decode cL_law 137 = .ok (.ireturn, 1) := by decide +kernel
theorem dL_law_138 : decode cL_law 138 = .ok (.iinc 2 (-1), 3) := by decide +kernel
theorem dL_law_141 : decode cL_law 141 = .ok (.aload_n 1, 1) := by decide +kernel
theorem dL_law_142 : decode cL_law 142 = .ok (.bipush 12, 2) := by decide +kernel
theorem dL_law_144 : decode cL_law 144 = .ok (.invokevirtual 12, 3) := by decide +kernel
theorem dL_law_147 : decode cL_law 147 = .ok (.iload_n 2, 1) := by decide +kernel
theorem dL_law_148 : decode cL_law 148 = .ok (.if_icmp .eq 5, 3) := by decide +kernel
theorem dL_law_151 : decode cL_law 151 = .ok (.iconst 0, 1) := by decide +kernel
theorem dL_law_152 : decode cL_law 152 = .ok (.ireturn, 1) := by decide +kernel
theorem dL_law_153 : decode cL_law 153 = .ok (.iconst 0, 1) := by decide +kernel
theorem dL_law_154 : decode cL_law 154 = .ok (.istore 9, 2) := by decide +kernel
theorem dL_law_156 : decode cL_law 156 = .ok (.iconst 0, 1) := by decide +kernel
theorem dL_law_157 : decode cL_law 157 = .ok (.istore 10, 2) := by decide +kernel
theorem dL_law_159 : decode cL_law 159 = .ok (.iload 10, 2) := by decide +kernel
theorem dL_law_161 : decode cL_law 161 = .ok (.aload_n 1, 1) := by decide +kernel
theorem dL_law_162 : decode cL_law 162 = .ok (.iconst 3, 1) := by decide +kernel
theorem dL_law_163 : decode cL_law 163 = .ok (.invokevirtual 12, 3) := by decide +kernel
theorem dL_law_166 : decode cL_law 166 = .ok (.if_icmp .ge 143, 3) := by decide +kernel
theorem dL_law_169 : decode cL_law 169 = .ok (.iload 9, 2) := by decide +kernel
theorem dL_law_171 : decode cL_law 171 = .ok (.aload_n 1, 1) := by decide +kernel
theorem dL_law_172 : decode cL_law 172 = .ok (.iload 10, 2) := by decide +kernel
theorem dL_law_174 : decode cL_law 174 = .ok (.iconst 2, 1) := by decide +kernel
theorem dL_law_175 : decode cL_law 175 = .ok (.invokevirtual 25, 3) := by decide +kernel
theorem dL_law_178 : decode cL_law 178 = .ok (.iadd, 1) := by decide +kernel
theorem dL_law_179 : decode cL_law 179 = .ok (.istore 9, 2) := by decide +kernel
theorem dL_law_181 : decode cL_law 181 = .ok (.aload_n 1, 1) := by decide +kernel
theorem dL_law_182 : decode cL_law 182 = .ok (.iload 10, 2) := by decide +kernel
theorem dL_law_184 : decode cL_law 184 = .ok (.iconst 2, 1) := by decide +kernel
theorem dL_law_185 : decode cL_law 185 = .ok (.invokevirtual 25, 3) := by decide +kernel
theorem dL_law_188 : decode cL_law 188 = .ok (.ifCond .lt 66, 3) := by decide +kernel
theorem dL_law_191 : decode cL_law 191 = .ok (.aload_n 1, 1) := by decide +kernel
theorem dL_law_192 : decode cL_law 192 = .ok (.iload 10, 2) := by decide +kernel
theorem dL_law_194 : decode cL_law 194 = .ok (.iconst 2, 1) := by decide +kernel
theorem dL_law_195 : decode cL_law 195 = .ok (.invokevirtual 25, 3) := by decide +kernel
theorem dL_law_198 : decode cL_law 198 = .ok (.aload_n 1, 1) := by decide +kernel
theorem dL_law_199 : decode cL_law 199 = .ok (.iload 10, 2) := by decide +kernel
theorem dL_law_201 : decode cL_law 201 = .ok (.iconst 3, 1) := by decide +kernel
theorem dL_law_202 : decode cL_law 202 = .ok (.invokevirtual 25, 3) := by decide +kernel
theorem dL_law_205 : decode cL_law 205 = .ok (.if_icmp .gt 49, 3) := by decide +kernel
theorem dL_law_208 : decode cL_law 208 = .ok (.aload_n 1, 1) := by decide +kernel
theorem dL_law_209 : decode cL_law 209 = .ok (.iload 10, 2) := by decide +kernel
theorem dL_law_211 : decode cL_law 211 = .ok (.iconst 3, 1) := by decide +kernel
theorem dL_law_212 : decode cL_law 212 = .ok (.invokevirtual 25, 3) := by decide +kernel
theorem dL_law_215 : decode cL_law 215 = .ok (.iconst 2, 1) := by decide +kernel
theorem dL_law_216 : decode cL_law 216 = .ok (.if_icmp .gt 38, 3) := by decide +kernel
theorem dL_law_219 : decode cL_law 219 = .ok (.aload_n 1, 1) := by decide +kernel
theorem dL_law_220 : decode cL_law 220 = .ok (.iload 10, 2) := by decide +kernel
theorem dL_law_222 : decode cL_law 222 = .ok (.iconst 0, 1) := by decide +kernel
theorem dL_law_223 : decode cL_law 223 = .ok (.invokevirtual 25, 3) := by decide +kernel
theorem dL_law_226 : decode cL_law 226 = .ok (.aload_n 1, 1) := by decide +kernel
theorem dL_law_227 : decode cL_law 227 = .ok (.iload 10, 2) := by decide +kernel
theorem dL_law_229 : decode cL_law 229 = .ok (.iconst 1, 1) := by decide +kernel
theorem dL_law_230 : decode cL_law 230 = .ok (.invokevirtual 25, 3) := by decide +kernel
theorem dL_law_233 : decode cL_law 233 = .ok (.if_icmp .ge 21, 3) := by decide +kernel
theorem dL_law_236 : decode cL_law 236 = .ok (.aload_n 1, 1) := by decide +kernel
theorem dL_law_237 : decode cL_law 237 = .ok (.iload 10, 2) := by decide +kernel
theorem dL_law_239 : decode cL_law 239 = .ok (.bipush 6, 2) := by decide +kernel
theorem dL_law_241 : decode cL_law 241 = .ok (.invokevirtual 25, 3) := by decide +kernel
theorem dL_law_244 : decode cL_law 244 = .ok (.aload_n 1, 1) := by decide +kernel
theorem dL_law_245 : decode cL_law 245 = .ok (.iload 10, 2) := by decide +kernel
theorem dL_law_247 : decode cL_law 247 = .ok (.iconst 5, 1) := by decide +kernel
theorem dL_law_248 : decode cL_law 248 = .ok (.invokevirtual 25, 3) := by decide +kernel
theorem dL_law_251 : decode cL_law 251 = .ok (.if_icmp .le 5, 3) := by decide +kernel
theorem dL_law_254 : decode cL_law 254 = .ok (.iconst 0, 1) := by decide +kernel
theorem dL_law_255 : decode cL_law 255 = .ok (.ireturn, 1) := by decide +kernel
theorem dL_law_256 : decode cL_law 256 = .ok (.aload_n 1, 1) := by decide +kernel
theorem dL_law_257 : decode cL_law 257 = .ok (.aload_n 1, 1) := by decide +kernel
theorem dL_law_258 : decode cL_law 258 = .ok (.iload 10, 2) := by decide +kernel
theorem dL_law_260 : decode cL_law 260 = .ok (.iconst 0, 1) := by decide +kernel
theorem dL_law_261 : decode cL_law 261 = .ok (.invokevirtual 25, 3) := by decide +kernel
theorem dL_law_264 : decode cL_law 264 = .ok (.aload_n 1, 1) := by decide +kernel
theorem dL_law_265 : decode cL_law 265 = .ok (.iload 10, 2) := by decide +kernel
theorem dL_law_267 : decode cL_law 267 = .ok (.iconst 1, 1) := by decide +kernel
theorem dL_law_268 : decode cL_law 268 = .ok (.invokevirtual 25, 3) := by decide +kernel
theorem dL_law_271 : decode cL_law 271 = .ok (.invokevirtual 89, 3) := by decide +kernel
theorem dL_law_274 : decode cL_law 274 = .ok (.iload 10, 2) := by decide +kernel
theorem dL_law_276 : decode cL_law 276 = .ok (.if_icmp .ne 25, 3) := by decide +kernel
theorem dL_law_279 : decode cL_law 279 = .ok (.aload_n 1, 1) := by decide +kernel
theorem dL_law_280 : decode cL_law 280 = .ok (.iload 10, 2) := by decide +kernel
theorem dL_law_282 : decode cL_law 282 = .ok (.bipush 6, 2) := by decide +kernel
theorem dL_law_284 : decode cL_law 284 = .ok (.invokevirtual 25, 3) := by decide +kernel
theorem dL_law_287 : decode cL_law 287 = .ok (.ifCond .le 16, 3) := by decide +kernel
theorem dL_law_290 : decode cL_law 290 = .ok (.aload_n 1, 1) := by decide +kernel
theorem dL_law_291 : decode cL_law 291 = .ok (.iload 10, 2) := by decide +kernel
theorem dL_law_293 : decode cL_law 293 = .ok (.bipush 7, 2) := by decide +kernel
theorem dL_law_295 : decode cL_law 295 = .ok (.invokevirtual 25, 3) := by decide +kernel
theorem dL_law_298 : decode cL_law 298 = .ok (.ifCond .ne 5, 3) := by decide +kernel
theorem dL_law_301 : decode cL_law 301 = .ok (.iconst 0, 1) := by decide +kernel
theorem dL_law_302 : decode cL_law 302 = .ok (.ireturn, 1) := by decide +kernel
theorem dL_law_303 : decode cL_law 303 = .ok (.iinc 10 1, 3) := by decide +kernel
theorem dL_law_306 : decode cL_law 306 = .ok (.goto (-147), 3) := by decide +kernel
theorem dL_law_309 : decode cL_law 309 = .ok (.iconst 0, 1) := by decide +kernel
theorem dL_law_310 : decode cL_law 310 = .ok (.istore 10, 2) := by decide +kernel
theorem dL_law_312 : decode cL_law 312 = .ok (.iconst 0, 1) := by decide +kernel
theorem dL_law_313 : decode cL_law 313 = .ok (.istore 11, 2) := by decide +kernel
theorem dL_law_315 : decode cL_law 315 = .ok (.iload 11, 2) := by decide +kernel
theorem dL_law_317 : decode cL_law 317 = .ok (.aload_n 1, 1) := by decide +kernel
theorem dL_law_318 : decode cL_law 318 = .ok (.iconst 0, 1) := by decide +kernel
theorem dL_law_319 : decode cL_law 319 = .ok (.invokevirtual 12, 3) := by decide +kernel
theorem dL_law_322 : decode cL_law 322 = .ok (.aload_n 1, 1) := by decide +kernel
theorem dL_law_323 : decode cL_law 323 = .ok (.iconst 1, 1) := by decide +kernel
theorem dL_law_324 : decode cL_law 324 = .ok (.invokevirtual 12, 3) := by decide +kernel
theorem dL_law_327 : decode cL_law 327 = .ok (.imul, 1) := by decide +kernel
theorem dL_law_328 : decode cL_law 328 = .ok (.if_icmp .ge 39, 3) := by decide +kernel
theorem dL_law_331 : decode cL_law 331 = .ok (.aload_n 1, 1) := by decide +kernel
theorem dL_law_332 : decode cL_law 332 = .ok (.iload 11, 2) := by decide +kernel
theorem dL_law_334 : decode cL_law 334 = .ok (.iconst 0, 1) := by decide +kernel
theorem dL_law_335 : decode cL_law 335 = .ok (.invokevirtual 92, 3) := by decide +kernel
theorem dL_law_338 : decode cL_law 338 = .ok (.istore 12, 2) := by decide +kernel
theorem dL_law_340 : decode cL_law 340 = .ok (.iload 10, 2) := by decide +kernel
theorem dL_law_342 : decode cL_law 342 = .ok (.iload 12, 2) := by decide +kernel
theorem dL_law_344 : decode cL_law 344 = .ok (.ifCond .le 13, 3) := by decide +kernel
theorem dL_law_347 : decode cL_law 347 = .ok (.aload_n 1, 1) := by decide +kernel
theorem dL_law_348 : decode cL_law 348 = .ok (.iload 11, 2) := by decide +kernel
theorem dL_law_350 : decode cL_law 350 = .ok (.iconst 2, 1) := by decide +kernel
theorem dL_law_351 : decode cL_law 351 = .ok (.invokevirtual 92, 3) := by decide +kernel
theorem dL_law_354 : decode cL_law 354 = .ok (.goto 4, 3) := by decide +kernel
theorem dL_law_357 : decode cL_law 357 = .ok (.iconst 0, 1) := by decide +kernel
theorem dL_law_358 : decode cL_law 358 = .ok (.iadd, 1) := by decide +kernel
theorem dL_law_359 : decode cL_law 359 = .ok (.istore 10, 2) := by decide +kernel
theorem dL_law_361 : decode cL_law 361 = .ok (.iinc 11 1, 3) := by decide +kernel
theorem dL_law_364 : decode cL_law 364 = .ok (.goto (-49), 3) := by decide +kernel
theorem dL_law_367 : decode cL_law 367 = .ok (.iload 9, 2) := by decide +kernel
theorem dL_law_369 : decode cL_law 369 = .ok (.aload_n 1, 1) := by decide +kernel
theorem dL_law_370 : decode cL_law 370 = .ok (.iconst 4, 1) := by decide +kernel
theorem dL_law_371 : decode cL_law 371 = .ok (.invokevirtual 12, 3) := by decide +kernel
theorem dL_law_374 : decode cL_law 374 = .ok (.if_icmp .ne 46, 3) := by decide +kernel
theorem dL_law_377 : decode cL_law 377 = .ok (.iload 10, 2) := by decide +kernel
theorem dL_law_379 : decode cL_law 379 = .ok (.aload_n 1, 1) := by decide +kernel
theorem dL_law_380 : decode cL_law 380 = .ok (.bipush 9, 2) := by decide +kernel
theorem dL_law_382 : decode cL_law 382 = .ok (.invokevirtual 12, 3) := by decide +kernel
theorem dL_law_385 : decode cL_law 385 = .ok (.iconst 2, 1) := by decide +kernel
theorem dL_law_386 : decode cL_law 386 = .ok (.iload 9, 2) := by decide +kernel
theorem dL_law_388 : decode cL_law 388 = .ok (.imul, 1) := by decide +kernel
theorem dL_law_389 : decode cL_law 389 = .ok (.isub, 1) := by decide +kernel
theorem dL_law_390 : decode cL_law 390 = .ok (.if_icmp .ne 30, 3) := by decide +kernel
theorem dL_law_393 : decode cL_law 393 = .ok (.aload_n 1, 1) := by decide +kernel
theorem dL_law_394 : decode cL_law 394 = .ok (.iconst 5, 1) := by decide +kernel
theorem dL_law_395 : decode cL_law 395 = .ok (.invokevirtual 12, 3) := by decide +kernel
theorem dL_law_398 : decode cL_law 398 = .ok (.aload_n 1, 1) := by decide +kernel
theorem dL_law_399 : decode cL_law 399 = .ok (.iconst 2, 1) := by decide +kernel
theorem dL_law_400 : decode cL_law 400 = .ok (.invokevirtual 12, 3) := by decide +kernel
theorem dL_law_403 : decode cL_law 403 = .ok (.if_icmp .gt 17, 3) := by decide +kernel
theorem dL_law_406 : decode cL_law 406 = .ok (.aload_n 1, 1) := by decide +kernel
theorem dL_law_407 : decode cL_law 407 = .ok (.bipush 6, 2) := by decide +kernel
theorem dL_law_409 : decode cL_law 409 = .ok (.invokevirtual 12, 3) := by decide +kernel
theorem dL_law_412 : decode cL_law 412 = .ok (.aload_n 1, 1) := by decide +kernel
theorem dL_law_413 : decode cL_law 413 = .ok (.iconst 2, 1) := by decide +kernel
theorem dL_law_414 : decode cL_law 414 = .ok (.invokevirtual 12, 3) := by decide +kernel
theorem dL_law_417 : decode cL_law 417 = .ok (.if_icmp .le 5, 3) := by decide +kernel
theorem dL_law_420 : decode cL_law 420 = .ok (.iconst 0, 1) := by decide +kernel
theorem dL_law_421 : decode cL_law 421 = .ok (.ireturn, 1) := by decide +kernel
theorem dL_law_422 : decode cL_law 422 = .ok (.aload_n 1, 1) := by decide +kernel
theorem dL_law_423 : decode cL_law 423 = .ok (.bipush 7, 2) := by decide +kernel
theorem dL_law_425 : decode cL_law 425 = .ok (.invokevirtual 12, 3) := by decide +kernel
theorem dL_law_428 : decode cL_law 428 = .ok (.iconst 1, 1) := by decide +kernel
theorem dL_law_429 : decode cL_law 429 = .ok (.if_icmp .ne 38, 3) := by decide +kernel
theorem dL_law_432 : decode cL_law 432 = .ok (.aload_n 1, 1) := by decide +kernel
theorem dL_law_433 : decode cL_law 433 = .ok (.bipush 8, 2) := by decide +kernel
theorem dL_law_435 : decode cL_law 435 = .ok (.invokevirtual 12, 3) := by decide +kernel
theorem dL_law_438 : decode cL_law 438 = .ok (.iconst 1, 1) := by decide +kernel
theorem dL_law_439 : decode cL_law 439 = .ok (.if_icmp .eq 26, 3) := by decide +kernel
theorem dL_law_442 : decode cL_law 442 = .ok (.aload_n 1, 1) := by decide +kernel
theorem dL_law_443 : decode cL_law 443 = .ok (.iconst 5, 1) := by decide +kernel
theorem dL_law_444 : decode cL_law 444 = .ok (.invokevirtual 12, 3) := by decide +kernel
theorem dL_law_447 : decode cL_law 447 = .ok (.aload_n 1, 1) := by decide +kernel
theorem dL_law_448 : decode cL_law 448 = .ok (.iconst 2, 1) := by decide +kernel
theorem dL_law_449 : decode cL_law 449 = .ok (.invokevirtual 12, 3) := by decide +kernel
theorem dL_law_452 : decode cL_law 452 = .ok (.if_icmp .ne 13, 3) := by decide +kernel
theorem dL_law_455 : decode cL_law 455 = .ok (.aload_n 1, 1) := by decide +kernel
theorem dL_law_456 : decode cL_law 456 = .ok (.bipush 6, 2) := by decide +kernel
theorem dL_law_458 : decode cL_law 458 = .ok (.invokevirtual 12, 3) := by decide +kernel
theorem dL_law_461 : decode cL_law 461 = .ok (.iconst 1, 1) := by decide +kernel
theorem dL_law_462 : decode cL_law 462 = .ok (.if_icmp .eq 5, 3) := by decide +kernel
theorem dL_law_465 : decode cL_law 465 = .ok (.iconst 0, 1) := by decide +kernel
theorem dL_law_466 : decode cL_law 466 = .ok (.ireturn, 1) := by decide +kernel
theorem dL_law_467 : decode cL_law 467 = .ok (.aload_n 1, 1) := by decide +kernel
theorem dL_law_468 : decode cL_law 468 = .ok (.bipush 8, 2) := by decide +kernel
theorem dL_law_470 : decode cL_law 470 = .ok (.invokevirtual 12, 3) := by decide +kernel
theorem dL_law_473 : decode cL_law 473 = .ok (.iconst 1, 1) := by decide +kernel
theorem dL_law_474 : decode cL_law 474 = .ok (.if_icmp .ne 12, 3) := by decide +kernel
theorem dL_law_477 : decode cL_law 477 = .ok (.aload_n 1, 1) := by decide +kernel
theorem dL_law_478 : decode cL_law 478 = .ok (.invokevirtual 79, 3) := by decide +kernel
theorem dL_law_481 : decode cL_law 481 = .ok (.bipush (-2), 2) := by decide +kernel
theorem dL_law_483 : decode cL_law 483 = .ok (.if_icmp .ne 21, 3) := by decide +kernel
theorem dL_law_486 : decode cL_law 486 = .ok (.aload_n 1, 1) := by decide +kernel
theorem dL_law_487 : decode cL_law 487 = .ok (.bipush 11, 2) := by decide +kernel
theorem dL_law_489 : decode cL_law 489 = .ok (.invokevirtual 12, 3) := by decide +kernel
theorem dL_law_492 : decode cL_law 492 = .ok (.ifCond .ne 14, 3) := by decide +kernel
theorem dL_law_495 : decode cL_law 495 = .ok (.aload_n 1, 1) := by decide +kernel
theorem dL_law_496 : decode cL_law 496 = .ok (.bipush 10, 2) := by decide +kernel
theorem dL_law_498 : decode cL_law 498 = .ok (.invokevirtual 12, 3) := by decide +kernel
theorem dL_law_501 : decode cL_law 501 = .ok (.ifCond .eq 5, 3) := by decide +kernel
theorem dL_law_504 : decode cL_law 504 = .ok (.iconst 0, 1) := by decide +kernel
theorem dL_law_505 : decode cL_law 505 = .ok (.ireturn, 1) := by decide +kernel
theorem dL_law_506 : decode cL_law 506 = .ok (.iinc 3 1, 3) := by decide +kernel
theorem dL_law_509 : decode cL_law 509 = .ok (.goto (-497), 3) := by decide +kernel
theorem dL_law_512 : decode cL_law 512 = .ok (.aload_n 1, 1) := by decide +kernel
theorem dL_law_513 : decode cL_law 513 = .ok (.invokevirtual 86, 3) := by decide +kernel
theorem dL_law_516 : decode cL_law 516 = .ok (.iload_n 2, 1) := by decide +kernel
theorem dL_law_517 : decode cL_law 517 = .ok (.ifCond .ne 8, 3) := by decide +kernel
theorem dL_law_520 : decode cL_law 520 = .ok (.bipush (-2), 2) := by decide +kernel
theorem dL_law_522 : decode cL_law 522 = .ok (.goto 6, 3) := by decide +kernel
theorem dL_law_525 : decode cL_law 525 = .ok (.iload_n 2, 1) := by decide +kernel
theorem dL_law_526 : decode cL_law 526 = .ok (.iconst 1, 1) := by decide +kernel
theorem dL_law_527 : decode cL_law 527 = .ok (.isub, 1) := by decide +kernel
theorem dL_law_528 : decode cL_law 528 = .ok (.if_icmp .ne 7, 3) := by decide +kernel
theorem dL_law_531 : decode cL_law 531 = .ok (.iconst 1, 1) := by decide +kernel
theorem dL_law_532 : decode cL_law 532 = .ok (.goto 4, 3) := by decide +kernel
theorem dL_law_535 : decode cL_law 535 = .ok (.iconst 0, 1) := by decide +kernel
theorem dL_law_536 : decode cL_law 536 = .ok (.ireturn, 1) := by decide +kernel
