theorem dL_cell_0 : decode cL_cell 0 = .ok (.iload_n 1, 1) := by decide +kernel
theorem dL_cell_1 : decode cL_cell 1 = .ok (.aload_n 0, 1) := by decide +kernel
theorem dL_cell_2 : decode cL_cell 2 = .ok (.arraylength, 1) := by decide +kernel
theorem dL_cell_3 : decode cL_cell 3 = .ok (.if_icmp .ge 9, 3) := by decide +kernel
theorem dL_cell_6 : decode cL_cell 6 = .ok (.aload_n 0, 1) := by decide +kernel
theorem dL_cell_7 : decode cL_cell 7 = .ok (.iload_n 1, 1) := by decide +kernel
theorem dL_cell_8 : decode cL_cell 8 = .ok (.iaload, 1) := by decide +kernel
theorem dL_cell_9 : decode cL_cell 9 = .ok (.goto 11, 3) := by decide +kernel
theorem dL_cell_12 : decode cL_cell 12 = .ok (.sipush 8191, 3) := by decide +kernel
theorem dL_cell_15 : decode cL_cell 15 = .ok (.iload_n 1, 1) := by decide +kernel
theorem dL_cell_16 : decode cL_cell 16 = .ok (.imul, 1) := by decide +kernel
theorem dL_cell_17 : decode cL_cell 17 = .ok (.ldc 7, 2) := by decide +kernel
theorem dL_cell_19 : decode cL_cell 19 = .ok (.iadd, 1) := by decide +kernel
theorem dL_cell_20 : decode cL_cell 20 = .ok (.ireturn, 1) := by decide +kernel
theorem dL_draw_0 : decode cL_draw 0 = .ok (.iload_n 2, 1) := by decide +kernel
theorem dL_draw_1 : decode cL_draw 1 = .ok (.aload_n 0, 1) := by decide +kernel
theorem dL_draw_2 : decode cL_draw 2 = .ok (.iload_n 1, 1) := by decide +kernel
theorem dL_draw_3 : decode cL_draw 3 = .ok (.invokestatic 8, 3) := by decide +kernel
theorem dL_draw_6 : decode cL_draw 6 = .ok (.ldc 14, 2) := by decide +kernel
theorem dL_draw_8 : decode cL_draw 8 = .ok (.iand, 1) := by decide +kernel
theorem dL_draw_9 : decode cL_draw 9 = .ok (.iload_n 3, 1) := by decide +kernel
theorem dL_draw_10 : decode cL_draw 10 = .ok (.iload_n 2, 1) := by decide +kernel
theorem dL_draw_11 : decode cL_draw 11 = .ok (.isub, 1) := by decide +kernel
theorem dL_draw_12 : decode cL_draw 12 = .ok (.iconst 1, 1) := by decide +kernel
theorem dL_draw_13 : decode cL_draw 13 = .ok (.iadd, 1) := by decide +kernel
theorem dL_draw_14 : decode cL_draw 14 = .ok (.irem, 1) := by decide +kernel
theorem dL_draw_15 : decode cL_draw 15 = .ok (.iadd, 1) := by decide +kernel
theorem dL_draw_16 : decode cL_draw 16 = .ok (.ireturn, 1) := by decide +kernel
theorem dL_feeds_0 : decode cL_feeds 0 = .ok (.iconst 0, 1) := by decide +kernel
theorem dL_feeds_1 : decode cL_feeds 1 = .ok (.istore_n 2, 1) := by decide +kernel
theorem dL_feeds_2 : decode cL_feeds 2 = .ok (.iload_n 2, 1) := by decide +kernel
theorem dL_feeds_3 : decode cL_feeds 3 = .ok (.aload_n 1, 1) := by decide +kernel
theorem dL_feeds_4 : decode cL_feeds 4 = .ok (.invokevirtual 15, 3) := by decide +kernel
theorem dL_feeds_7 : decode cL_feeds 7 = .ok (.if_icmp .ge 93, 3) := by decide +kernel
theorem dL_feeds_10 : decode cL_feeds 10 = .ok (.iconst 5, 1) := by decide +kernel
theorem dL_feeds_11 : decode cL_feeds 11 = .ok (.newarray .int, 2) := by decide +kernel
theorem dL_feeds_13 : decode cL_feeds 13 = .ok (.astore_n 3, 1) := by decide +kernel
theorem dL_feeds_14 : decode cL_feeds 14 = .ok (.iconst 0, 1) := by decide +kernel
theorem dL_feeds_15 : decode cL_feeds 15 = .ok (.istore 4, 2) := by decide +kernel
theorem dL_feeds_17 : decode cL_feeds 17 = .ok (.iload 4, 2) := by decide +kernel
theorem dL_feeds_19 : decode cL_feeds 19 = .ok (.bipush 20, 2) := by decide +kernel
theorem dL_feeds_21 : decode cL_feeds 21 = .ok (.if_icmp .ge 53, 3) := by decide +kernel
theorem dL_feeds_24 : decode cL_feeds 24 = .ok (.aload_n 3, 1) := by decide +kernel
theorem dL_feeds_25 : decode cL_feeds 25 = .ok (.iload 4, 2) := by decide +kernel
theorem dL_feeds_27 : decode cL_feeds 27 = .ok (.iconst 4, 1) := by decide +kernel
theorem dL_feeds_28 : decode cL_feeds 28 = .ok (.idiv, 1) := by decide +kernel
theorem dL_feeds_29 : decode cL_feeds 29 = .ok (.dup2, 1) := by decide +kernel
theorem dL_feeds_30 : decode cL_feeds 30 = .ok (.iaload, 1) := by decide +kernel
theorem dL_feeds_31 : decode cL_feeds 31 = .ok (.iload_n 2, 1) := by decide +kernel
theorem dL_feeds_32 : decode cL_feeds 32 = .ok (.iload 4, 2) := by decide +kernel
theorem dL_feeds_34 : decode cL_feeds 34 = .ok (.iadd, 1) := by decide +kernel
theorem dL_feeds_35 : decode cL_feeds 35 = .ok (.aload_n 1, 1) := by decide +kernel
theorem dL_feeds_36 : decode cL_feeds 36 = .ok (.invokevirtual 15, 3) := by decide +kernel
theorem dL_feeds_39 : decode cL_feeds 39 = .ok (.if_icmp .ge 14, 3) := by decide +kernel
theorem dL_feeds_42 : decode cL_feeds 42 = .ok (.aload_n 1, 1) := by decide +kernel
theorem dL_feeds_43 : decode cL_feeds 43 = .ok (.iload_n 2, 1) := by decide +kernel
theorem dL_feeds_44 : decode cL_feeds 44 = .ok (.iload 4, 2) := by decide +kernel
theorem dL_feeds_46 : decode cL_feeds 46 = .ok (.iadd, 1) := by decide +kernel
theorem dL_feeds_47 : decode cL_feeds 47 = .ok (.invokevirtual 21, 3) := by decide +kernel
theorem dL_feeds_50 : decode cL_feeds 50 = .ok (.goto 5, 3) := by decide +kernel
theorem dL_feeds_53 : decode cL_feeds 53 = .ok (.bipush 32, 2) := by decide +kernel
theorem dL_feeds_55 : decode cL_feeds 55 = .ok (.bipush 24, 2) := by decide +kernel
theorem dL_feeds_57 : decode cL_feeds 57 = .ok (.bipush 8, 2) := by decide +kernel
theorem dL_feeds_59 : decode cL_feeds 59 = .ok (.iload 4, 2) := by decide +kernel
theorem dL_feeds_61 : decode cL_feeds 61 = .ok (.iconst 4, 1) := by decide +kernel
theorem dL_feeds_62 : decode cL_feeds 62 = .ok (.irem, 1) := by decide +kernel
theorem dL_feeds_63 : decode cL_feeds 63 = .ok (.imul, 1) := by decide +kernel
theorem dL_feeds_64 : decode cL_feeds 64 = .ok (.isub, 1) := by decide +kernel
theorem dL_feeds_65 : decode cL_feeds 65 = .ok (.ishl, 1) := by decide +kernel
theorem dL_feeds_66 : decode cL_feeds 66 = .ok (.ior, 1) := by decide +kernel
theorem dL_feeds_67 : decode cL_feeds 67 = .ok (.iastore, 1) := by decide +kernel
theorem dL_feeds_68 : decode cL_feeds 68 = .ok (.iinc 4 1, 3) := by decide +kernel
theorem dL_feeds_71 : decode cL_feeds 71 = .ok (.goto (-54), 3) := by decide +kernel
theorem dL_feeds_74 : decode cL_feeds 74 = .ok (.aload_n 0, 1) := by decide +kernel
theorem dL_feeds_75 : decode cL_feeds 75 = .ok (.aload_n 3, 1) := by decide +kernel
theorem dL_feeds_76 : decode cL_feeds 76 = .ok (.iconst 0, 1) := by decide +kernel
theorem dL_feeds_77 : decode cL_feeds 77 = .ok (.iaload, 1) := by decide +kernel
theorem dL_feeds_78 : decode cL_feeds 78 = .ok (.aload_n 3, 1) := by decide +kernel
theorem dL_feeds_79 : decode cL_feeds 79 = .ok (.iconst 1, 1) := by decide +kernel
theorem dL_feeds_80 : decode cL_feeds 80 = .ok (.iaload, 1) := by decide +kernel
theorem dL_feeds_81 : decode cL_feeds 81 = .ok (.aload_n 3, 1) := by decide +kernel
theorem dL_feeds_82 : decode cL_feeds 82 = .ok (.iconst 2, 1) := by decide +kernel
theorem dL_feeds_83 : decode cL_feeds 83 = .ok (.iaload, 1) := by decide +kernel
theorem dL_feeds_84 : decode cL_feeds 84 = .ok (.aload_n 3, 1) := by decide +kernel
theorem dL_feeds_85 : decode cL_feeds 85 = .ok (.iconst 3, 1) := by decide +kernel
theorem dL_feeds_86 : decode cL_feeds 86 = .ok (.iaload, 1) := by decide +kernel
theorem dL_feeds_87 : decode cL_feeds 87 = .ok (.aload_n 3, 1) := by decide +kernel
theorem dL_feeds_88 : decode cL_feeds 88 = .ok (.iconst 4, 1) := by decide +kernel
theorem dL_feeds_89 : decode cL_feeds 89 = .ok (.iaload, 1) := by decide +kernel
theorem dL_feeds_90 : decode cL_feeds 90 = .ok (.invokevirtual 25, 3) := by decide +kernel
theorem dL_feeds_93 : decode cL_feeds 93 = .ok (.pop, 1) := by decide +kernel
theorem dL_feeds_94 : decode cL_feeds 94 = .ok (.iinc 2 20, 3) := by decide +kernel
theorem dL_feeds_97 : decode cL_feeds 97 = .ok (.goto (-95), 3) := by decide +kernel
theorem dL_feeds_100 : decode cL_feeds 100 = .ok (.aload_n 0, 1) := by decide +kernel
theorem dL_feeds_101 : decode cL_feeds 101 = .ok (.aload_n 1, 1) := by decide +kernel
theorem dL_feeds_102 : decode cL_feeds 102 = .ok (.invokevirtual 15, 3) := by decide +kernel
theorem dL_feeds_105 : decode cL_feeds 105 = .ok (.invokevirtual 31, 3) := by decide +kernel
theorem dL_feeds_108 : decode cL_feeds 108 = .ok (.pop, 1) := by decide +kernel
theorem dL_feeds_109 : decode cL_feeds 109 = .ok (.return_, 1) := by decide +kernel
theorem dL_loaded_0 : decode cL_loaded 0 = .ok (.aload_n 0, 1) := by decide +kernel
theorem dL_loaded_1 : decode cL_loaded 1 = .ok (.aload_n 1, 1) := by decide +kernel
theorem dL_loaded_2 : decode cL_loaded 2 = .ok (.invokestatic 35, 3) := by decide +kernel
theorem dL_loaded_5 : decode cL_loaded 5 = .ok (.aload_n 0, 1) := by decide +kernel
theorem dL_loaded_6 : decode cL_loaded 6 = .ok (.invokevirtual 39, 3) := by decide +kernel
theorem dL_loaded_9 : decode cL_loaded 9 = .ok (.ireturn, 1) := by decide +kernel
theorem dL_letter_0 : decode cL_letter 0 = .ok (.bipush 97, 2) := by decide +kernel
theorem dL_letter_2 : decode cL_letter 2 = .ok (.iload_n 0, 1) := by decide +kernel
theorem dL_letter_3 : decode cL_letter 3 = .ok (.iadd, 1) := by decide +kernel
theorem dL_letter_4 : decode cL_letter 4 = .ok (.i2c, 1) := by decide +kernel
theorem dL_letter_5 : decode cL_letter 5 = .ok (.ireturn, 1) := by decide +kernel
theorem dL_setup_0 : decode cL_setup 0 = .ok (.new 42, 3) := by decide +kernel
theorem dL_setup_3 : decode cL_setup 3 = .ok (.dup, 1) := by decide +kernel
theorem dL_setup_4 : decode cL_setup 4 = .ok (.invokespecial 44, 3) := by decide +kernel
theorem dL_setup_7 : decode cL_setup 7 = .ok (.astore_n 2, 1) := by decide +kernel
theorem dL_setup_8 : decode cL_setup 8 = .ok (.iconst 0, 1) := by decide +kernel
theorem dL_setup_9 : decode cL_setup 9 = .ok (.istore_n 3, 1) := by decide +kernel
theorem dL_setup_10 : decode cL_setup 10 = .ok (.iload_n 3, 1) := by decide +kernel
theorem dL_setup_11 : decode cL_setup 11 = .ok (.iload_n 1, 1) := by decide +kernel
theorem dL_setup_12 : decode cL_setup 12 = .ok (.if_icmp .ge 86, 3) := by decide +kernel
theorem dL_setup_15 : decode cL_setup 15 = .ok (.aload_n 2, 1) := by decide +kernel
theorem dL_setup_16 : decode cL_setup 16 = .ok (.ldc 45, 2) := by decide +kernel
theorem dL_setup_18 : decode cL_setup 18 = .ok (.invokevirtual 47, 3) := by decide +kernel
theorem dL_setup_21 : decode cL_setup 21 = .ok (.iload_n 3, 1) := by decide +kernel
theorem dL_setup_22 : decode cL_setup 22 = .ok (.invokestatic 51, 3) := by decide +kernel
theorem dL_setup_25 : decode cL_setup 25 = .ok (.invokevirtual 54, 3) := by decide +kernel
theorem dL_setup_28 : decode cL_setup 28 = .ok (.ldc 57, 2) := by decide +kernel
theorem dL_setup_30 : decode cL_setup 30 = .ok (.invokevirtual 47, 3) := by decide +kernel
theorem dL_setup_33 : decode cL_setup 33 = .ok (.aload_n 0, 1) := by decide +kernel
theorem dL_setup_34 : decode cL_setup 34 = .ok (.iconst 2, 1) := by decide +kernel
theorem dL_setup_35 : decode cL_setup 35 = .ok (.iconst 3, 1) := by decide +kernel
theorem dL_setup_36 : decode cL_setup 36 = .ok (.iload_n 3, 1) := by decide +kernel
theorem dL_setup_37 : decode cL_setup 37 = .ok (.imul, 1) := by decide +kernel
theorem dL_setup_38 : decode cL_setup 38 = .ok (.iadd, 1) := by decide +kernel
theorem dL_setup_39 : decode cL_setup 39 = .ok (.iconst 1, 1) := by decide +kernel
theorem dL_setup_40 : decode cL_setup 40 = .ok (.iconst 4, 1) := by decide +kernel
theorem dL_setup_41 : decode cL_setup 41 = .ok (.invokestatic 59, 3) := by decide +kernel
theorem dL_setup_44 : decode cL_setup 44 = .ok (.invokevirtual 63, 3) := by decide +kernel
theorem dL_setup_47 : decode cL_setup 47 = .ok (.ldc 66, 2) := by decide +kernel
theorem dL_setup_49 : decode cL_setup 49 = .ok (.invokevirtual 47, 3) := by decide +kernel
theorem dL_setup_52 : decode cL_setup 52 = .ok (.aload_n 0, 1) := by decide +kernel
theorem dL_setup_53 : decode cL_setup 53 = .ok (.iconst 3, 1) := by decide +kernel
theorem dL_setup_54 : decode cL_setup 54 = .ok (.iconst 3, 1) := by decide +kernel
theorem dL_setup_55 : decode cL_setup 55 = .ok (.iload_n 3, 1) := by decide +kernel
theorem dL_setup_56 : decode cL_setup 56 = .ok (.imul, 1) := by decide +kernel
theorem dL_setup_57 : decode cL_setup 57 = .ok (.iadd, 1) := by decide +kernel
theorem dL_setup_58 : decode cL_setup 58 = .ok (.iconst 1, 1) := by decide +kernel
theorem dL_setup_59 : decode cL_setup 59 = .ok (.iconst 4, 1) := by decide +kernel
theorem dL_setup_60 : decode cL_setup 60 = .ok (.invokestatic 59, 3) := by decide +kernel
theorem dL_setup_63 : decode cL_setup 63 = .ok (.invokevirtual 63, 3) := by decide +kernel
theorem dL_setup_66 : decode cL_setup 66 = .ok (.ldc 68, 2) := by decide +kernel
theorem dL_setup_68 : decode cL_setup 68 = .ok (.invokevirtual 47, 3) := by decide +kernel
theorem dL_setup_71 : decode cL_setup 71 = .ok (.aload_n 0, 1) := by decide +kernel
theorem dL_setup_72 : decode cL_setup 72 = .ok (.iconst 4, 1) := by decide +kernel
theorem dL_setup_73 : decode cL_setup 73 = .ok (.iconst 3, 1) := by decide +kernel
theorem dL_setup_74 : decode cL_setup 74 = .ok (.iload_n 3, 1) := by decide +kernel
theorem dL_setup_75 : decode cL_setup 75 = .ok (.imul, 1) := by decide +kernel
theorem dL_setup_76 : decode cL_setup 76 = .ok (.iadd, 1) := by decide +kernel
theorem dL_setup_77 : decode cL_setup 77 = .ok (.iconst 0, 1) := by decide +kernel
theorem dL_setup_78 : decode cL_setup 78 = .ok (.bipush 20, 2) := by decide +kernel
theorem dL_setup_80 : decode cL_setup 80 = .ok (.invokestatic 59, 3) := by decide +kernel
theorem dL_setup_83 : decode cL_setup 83 = .ok (.invokevirtual 63, 3) := by decide +kernel
theorem dL_setup_86 : decode cL_setup 86 = .ok (.bipush 59, 2) := by decide +kernel
theorem dL_setup_88 : decode cL_setup 88 = .ok (.invokevirtual 54, 3) := by decide +kernel
theorem dL_setup_91 : decode cL_setup 91 = .ok (.pop, 1) := by decide +kernel
theorem dL_setup_92 : decode cL_setup 92 = .ok (.iinc 3 1, 3) := by decide +kernel
theorem dL_setup_95 : decode cL_setup 95 = .ok (.goto (-85), 3) := by decide +kernel
theorem dL_setup_98 : decode cL_setup 98 = .ok (.aload_n 2, 1) := by decide +kernel
theorem dL_setup_99 : decode cL_setup 99 = .ok (.ldc 70, 2) := by decide +kernel
theorem dL_setup_101 : decode cL_setup 101 = .ok (.invokevirtual 47, 3) := by decide +kernel
theorem dL_setup_104 : decode cL_setup 104 = .ok (.pop, 1) := by decide +kernel
theorem dL_setup_105 : decode cL_setup 105 = .ok (.aload_n 0, 1) := by decide +kernel
theorem dL_setup_106 : decode cL_setup 106 = .ok (.bipush 20, 2) := by decide +kernel
theorem dL_setup_108 : decode cL_setup 108 = .ok (.iconst 1, 1) := by decide +kernel
theorem dL_setup_109 : decode cL_setup 109 = .ok (.bipush 6, 2) := by decide +kernel
theorem dL_setup_111 : decode cL_setup 111 = .ok (.invokestatic 59, 3) := by decide +kernel
theorem dL_setup_114 : decode cL_setup 114 = .ok (.istore_n 3, 1) := by decide +kernel
theorem dL_setup_115 : decode cL_setup 115 = .ok (.iconst 0, 1) := by decide +kernel
theorem dL_setup_116 : decode cL_setup 116 = .ok (.istore 4, 2) := by decide +kernel
theorem dL_setup_118 : decode cL_setup 118 = .ok (.iload 4, 2) := by decide +kernel
theorem dL_setup_120 : decode cL_setup 120 = .ok (.iload_n 3, 1) := by decide +kernel
theorem dL_setup_121 : decode cL_setup 121 = .ok (.if_icmp .ge 35, 3) := by decide +kernel
theorem dL_setup_124 : decode cL_setup 124 = .ok (.aload_n 2, 1) := by decide +kernel
theorem dL_setup_125 : decode cL_setup 125 = .ok (.bipush 32, 2) := by decide +kernel
theorem dL_setup_127 : decode cL_setup 127 = .ok (.invokevirtual 54, 3) := by decide +kernel
theorem dL_setup_130 : decode cL_setup 130 = .ok (.aload_n 0, 1) := by decide +kernel
theorem dL_setup_131 : decode cL_setup 131 = .ok (.bipush 21, 2) := by decide +kernel
theorem dL_setup_133 : decode cL_setup 133 = .ok (.iload 4, 2) := by decide +kernel
theorem dL_setup_135 : decode cL_setup 135 = .ok (.iadd, 1) := by decide +kernel
theorem dL_setup_136 : decode cL_setup 136 = .ok (.iconst 0, 1) := by decide +kernel
theorem dL_setup_137 : decode cL_setup 137 = .ok (.iload_n 1, 1) := by decide +kernel
theorem dL_setup_138 : decode cL_setup 138 = .ok (.iconst 1, 1) := by decide +kernel
theorem dL_setup_139 : decode cL_setup 139 = .ok (.isub, 1) := by decide +kernel
theorem dL_setup_140 : decode cL_setup 140 = .ok (.invokestatic 59, 3) := by decide +kernel
theorem dL_setup_143 : decode cL_setup 143 = .ok (.invokestatic 51, 3) := by decide +kernel
theorem dL_setup_146 : decode cL_setup 146 = .ok (.invokevirtual 54, 3) := by decide +kernel
theorem dL_setup_149 : decode cL_setup 149 = .ok (.pop, 1) := by decide +kernel
theorem dL_setup_150 : decode cL_setup 150 = .ok (.iinc 4 1, 3) := by decide +kernel
theorem dL_setup_153 : decode cL_setup 153 = .ok (.goto (-35), 3) := by decide +kernel
theorem dL_setup_156 : decode cL_setup 156 = .ok (.aload_n 2, 1) := by decide +kernel
theorem dL_setup_157 : decode cL_setup 157 = .ok (.ldc 72, 2) := by decide +kernel
theorem dL_setup_159 : decode cL_setup 159 = .ok (.invokevirtual 47, 3) := by decide +kernel
theorem dL_setup_162 : decode cL_setup 162 = .ok (.aload_n 0, 1) := by decide +kernel
theorem dL_setup_163 : decode cL_setup 163 = .ok (.bipush 28, 2) := by decide +kernel
theorem dL_setup_165 : decode cL_setup 165 = .ok (.iconst 1, 1) := by decide +kernel
theorem dL_setup_166 : decode cL_setup 166 = .ok (.bipush 8, 2) := by decide +kernel
theorem dL_setup_168 : decode cL_setup 168 = .ok (.invokestatic 59, 3) := by decide +kernel
theorem dL_setup_171 : decode cL_setup 171 = .ok (.invokevirtual 63, 3) := by decide +kernel
theorem dL_setup_174 : decode cL_setup 174 = .ok (.bipush 32, 2) := by decide +kernel
theorem dL_setup_176 : decode cL_setup 176 = .ok (.invokevirtual 54, 3) := by decide +kernel
theorem dL_setup_179 : decode cL_setup 179 = .ok (.aload_n 0, 1) := by decide +kernel
theorem dL_setup_180 : decode cL_setup 180 = .ok (.bipush 29, 2) := by decide +kernel
theorem dL_setup_182 : decode cL_setup 182 = .ok (.iconst 1, 1) := by decide +kernel
theorem dL_setup_183 : decode cL_setup 183 = .ok (.iconst 5, 1) := by decide +kernel
theorem dL_setup_184 : decode cL_setup 184 = .ok (.invokestatic 59, 3) := by decide +kernel
theorem dL_setup_187 : decode cL_setup 187 = .ok (.invokevirtual 63, 3) := by decide +kernel
theorem dL_setup_190 : decode cL_setup 190 = .ok (.bipush 32, 2) := by decide +kernel
theorem dL_setup_192 : decode cL_setup 192 = .ok (.invokevirtual 54, 3) := by decide +kernel
theorem dL_setup_195 : decode cL_setup 195 = .ok (.aload_n 0, 1) := by decide +kernel
theorem dL_setup_196 : decode cL_setup 196 = .ok (.bipush 30, 2) := by decide +kernel
theorem dL_setup_198 : decode cL_setup 198 = .ok (.iconst 1, 1) := by decide +kernel
theorem dL_setup_199 : decode cL_setup 199 = .ok (.iconst 3, 1) := by decide +kernel
theorem dL_setup_200 : decode cL_setup 200 = .ok (.invokestatic 59, 3) := by decide +kernel
theorem dL_setup_203 : decode cL_setup 203 = .ok (.invokevirtual 63, 3) := by decide +kernel
theorem dL_setup_206 : decode cL_setup 206 = .ok (.bipush 32, 2) := by decide +kernel
theorem dL_setup_208 : decode cL_setup 208 = .ok (.invokevirtual 54, 3) := by decide +kernel
theorem dL_setup_211 : decode cL_setup 211 = .ok (.aload_n 0, 1) := by decide +kernel
theorem dL_setup_212 : decode cL_setup 212 = .ok (.bipush 31, 2) := by decide +kernel
theorem dL_setup_214 : decode cL_setup 214 = .ok (.iconst 0, 1) := by decide +kernel
theorem dL_setup_215 : decode cL_setup 215 = .ok (.bipush 6, 2) := by decide +kernel
theorem dL_setup_217 : decode cL_setup 217 = .ok (.invokestatic 59, 3) := by decide +kernel
theorem dL_setup_220 : decode cL_setup 220 = .ok (.invokevirtual 63, 3) := by decide +kernel
theorem dL_setup_223 : decode cL_setup 223 = .ok (.pop, 1) := by decide +kernel
theorem dL_setup_224 : decode cL_setup 224 = .ok (.aload_n 2, 1) := by decide +kernel
theorem dL_setup_225 : decode cL_setup 225 = .ok (.ldc 74, 2) := by decide +kernel
theorem dL_setup_227 : decode cL_setup 227 = .ok (.invokevirtual 47, 3) := by decide +kernel
theorem dL_setup_230 : decode cL_setup 230 = .ok (.aload_n 0, 1) := by decide +kernel
theorem dL_setup_231 : decode cL_setup 231 = .ok (.bipush 32, 2) := by decide +kernel
theorem dL_setup_233 : decode cL_setup 233 = .ok (.iconst 0, 1) := by decide +kernel
theorem dL_setup_234 : decode cL_setup 234 = .ok (.iconst 3, 1) := by decide +kernel
theorem dL_setup_235 : decode cL_setup 235 = .ok (.invokestatic 59, 3) := by decide +kernel
theorem dL_setup_238 : decode cL_setup 238 = .ok (.invokevirtual 63, 3) := by decide +kernel
theorem dL_setup_241 : decode cL_setup 241 = .ok (.ldc 76, 2) := by decide +kernel
theorem dL_setup_243 : decode cL_setup 243 = .ok (.invokevirtual 47, 3) := by decide +kernel
theorem dL_setup_246 : decode cL_setup 246 = .ok (.aload_n 0, 1) := by decide +kernel
theorem dL_setup_247 : decode cL_setup 247 = .ok (.bipush 33, 2) := by decide +kernel
theorem dL_setup_249 : decode cL_setup 249 = .ok (.iconst 0, 1) := by decide +kernel
theorem dL_setup_250 : decode cL_setup 250 = .ok (.bipush 60, 2) := by decide +kernel
theorem dL_setup_252 : decode cL_setup 252 = .ok (.invokestatic 59, 3) := by decide +kernel
theorem dL_setup_255 : decode cL_setup 255 = .ok (.invokevirtual 63, 3) := by decide +kernel
theorem dL_setup_258 : decode cL_setup 258 = .ok (.bipush 32, 2) := by decide +kernel
theorem dL_setup_260 : decode cL_setup 260 = .ok (.invokevirtual 54, 3) := by decide +kernel
theorem dL_setup_263 : decode cL_setup 263 = .ok (.aload_n 0, 1) := by decide +kernel
theorem dL_setup_264 : decode cL_setup 264 = .ok (.bipush 34, 2) := by decide +kernel
theorem dL_setup_266 : decode cL_setup 266 = .ok (.iconst 0, 1) := by decide +kernel
theorem dL_setup_267 : decode cL_setup 267 = .ok (.sipush 9999, 3) := by decide +kernel
theorem dL_setup_270 : decode cL_setup 270 = .ok (.invokestatic 59, 3) := by decide +kernel
theorem dL_setup_273 : decode cL_setup 273 = .ok (.invokevirtual 63, 3) := by decide +kernel
theorem dL_setup_276 : decode cL_setup 276 = .ok (.bipush 59, 2) := by decide +kernel
theorem dL_setup_278 : decode cL_setup 278 = .ok (.invokevirtual 54, 3) := by decide +kernel
theorem dL_setup_281 : decode cL_setup 281 = .ok (.invokevirtual 78, 3) := by decide +kernel
theorem dL_setup_284 : decode cL_setup 284 = .ok (.areturn, 1) := by decide +kernel
theorem dL_rowMany_0 : decode cL_rowMany 0 = .ok (.iconst 0, 1) := by decide +kernel
theorem dL_rowMany_1 : decode cL_rowMany 1 = .ok (.istore_n 3, 1) := by decide +kernel
theorem dL_rowMany_2 : decode cL_rowMany 2 = .ok (.aload_n 0, 1) := by decide +kernel
theorem dL_rowMany_3 : decode cL_rowMany 3 = .ok (.iload_n 1, 1) := by decide +kernel
theorem dL_rowMany_4 : decode cL_rowMany 4 = .ok (.iload_n 2, 1) := by decide +kernel
theorem dL_rowMany_5 : decode cL_rowMany 5 = .ok (.iload_n 3, 1) := by decide +kernel
theorem dL_rowMany_6 : decode cL_rowMany 6 = .ok (.invokevirtual 82, 3) := by decide +kernel
theorem dL_rowMany_9 : decode cL_rowMany 9 = .ok (.iconst (-1), 1) := by decide +kernel
theorem dL_rowMany_10 : decode cL_rowMany 10 = .ok (.if_icmp .eq 9, 3) := by decide +kernel
theorem dL_rowMany_13 : decode cL_rowMany 13 = .ok (.iinc 3 1, 3) := by decide +kernel
theorem dL_rowMany_16 : decode cL_rowMany 16 = .ok (.goto (-14), 3) := by decide +kernel
theorem dL_rowMany_19 : decode cL_rowMany 19 = .ok (.iload_n 3, 1) := by decide +kernel
theorem dL_rowMany_20 : decode cL_rowMany 20 = .ok (.ireturn, 1) := by decide +kernel
theorem dL_isInRow_0 : decode cL_isInRow 0 = .ok (.iconst 0, 1) := by decide +kernel
theorem dL_isInRow_1 : decode cL_isInRow 1 = .ok (.istore 4, 2) := by decide +kernel
theorem dL_isInRow_3 : decode cL_isInRow 3 = .ok (.iload 4, 2) := by decide +kernel
theorem dL_isInRow_5 : decode cL_isInRow 5 = .ok (.aload_n 0, 1) := by decide +kernel
theorem dL_isInRow_6 : decode cL_isInRow 6 = .ok (.iload_n 2, 1) := by decide +kernel
theorem dL_isInRow_7 : decode cL_isInRow 7 = .ok (.bipush 6, 2) := by decide +kernel
theorem dL_isInRow_9 : decode cL_isInRow 9 = .ok (.iload_n 3, 1) := by decide +kernel
theorem dL_isInRow_10 : decode cL_isInRow 10 = .ok (.iadd, 1) := by decide +kernel
theorem dL_isInRow_11 : decode cL_isInRow 11 = .ok (.invokevirtual 86, 3) := by decide +kernel
theorem dL_isInRow_14 : decode cL_isInRow 14 = .ok (.if_icmp .ge 23, 3) := by decide +kernel
theorem dL_isInRow_17 : decode cL_isInRow 17 = .ok (.aload_n 0, 1) := by decide +kernel
theorem dL_isInRow_18 : decode cL_isInRow 18 = .ok (.iload_n 2, 1) := by decide +kernel
theorem dL_isInRow_19 : decode cL_isInRow 19 = .ok (.iload_n 3, 1) := by decide +kernel
theorem dL_isInRow_20 : decode cL_isInRow 20 = .ok (.iload 4, 2) := by decide +kernel
theorem dL_isInRow_22 : decode cL_isInRow 22 = .ok (.invokevirtual 82, 3) := by decide +kernel
theorem dL_isInRow_25 : decode cL_isInRow 25 = .ok (.iload_n 1, 1) := by decide +kernel
theorem dL_isInRow_26 : decode cL_isInRow 26 = .ok (.if_icmp .ne 5, 3) := by decide +kernel
theorem dL_isInRow_29 : decode cL_isInRow 29 = .ok (.iconst 1, 1) := by decide +kernel
theorem dL_isInRow_30 : decode cL_isInRow 30 = .ok (.ireturn, 1) := by decide +kernel
theorem dL_isInRow_31 : decode cL_isInRow 31 = .ok (.iinc 4 1, 3) := by decide +kernel
theorem dL_isInRow_34 : decode cL_isInRow 34 = .ok (.goto (-31), 3) := by decide +kernel
theorem dL_isInRow_37 : decode cL_isInRow 37 = .ok (.iconst 0, 1) := by decide +kernel
theorem dL_isInRow_38 : decode cL_isInRow 38 = .ok (.ireturn, 1) := by decide +kernel
theorem dL_isMessage_0 : decode cL_isMessage 0 = .ok (.aload_n 0, 1) := by decide +kernel
theorem dL_isMessage_1 : decode cL_isMessage 1 = .ok (.iload_n 1, 1) := by decide +kernel
theorem dL_isMessage_2 : decode cL_isMessage 2 = .ok (.iconst 0, 1) := by decide +kernel
theorem dL_isMessage_3 : decode cL_isMessage 3 = .ok (.invokevirtual 90, 3) := by decide +kernel
theorem dL_isMessage_6 : decode cL_isMessage 6 = .ok (.istore_n 2, 1) := by decide +kernel
theorem dL_isMessage_7 : decode cL_isMessage 7 = .ok (.aload_n 0, 1) := by decide +kernel
theorem dL_isMessage_8 : decode cL_isMessage 8 = .ok (.iload_n 1, 1) := by decide +kernel
theorem dL_isMessage_9 : decode cL_isMessage 9 = .ok (.iconst 1, 1) := by decide +kernel
theorem dL_isMessage_10 : decode cL_isMessage 10 = .ok (.invokevirtual 90, 3) := by decide +kernel
theorem dL_isMessage_13 : decode cL_isMessage 13 = .ok (.istore_n 3, 1) := by decide +kernel
theorem dL_isMessage_14 : decode cL_isMessage 14 = .ok (.aload_n 0, 1) := by decide +kernel
theorem dL_isMessage_15 : decode cL_isMessage 15 = .ok (.iload_n 1, 1) := by decide +kernel
theorem dL_isMessage_16 : decode cL_isMessage 16 = .ok (.iconst 3, 1) := by decide +kernel
theorem dL_isMessage_17 : decode cL_isMessage 17 = .ok (.invokevirtual 90, 3) := by decide +kernel
theorem dL_isMessage_20 : decode cL_isMessage 20 = .ok (.istore 4, 2) := by decide +kernel
theorem dL_isMessage_22 : decode cL_isMessage 22 = .ok (.aload_n 0, 1) := by decide +kernel
theorem dL_isMessage_23 : decode cL_isMessage 23 = .ok (.iload_n 1, 1) := by decide +kernel
theorem dL_isMessage_24 : decode cL_isMessage 24 = .ok (.iconst 5, 1) := by decide +kernel
theorem dL_isMessage_25 : decode cL_isMessage 25 = .ok (.invokevirtual 90, 3) := by decide +kernel
theorem dL_isMessage_28 : decode cL_isMessage 28 = .ok (.istore 5, 2) := by decide +kernel
theorem dL_isMessage_30 : decode cL_isMessage 30 = .ok (.aload_n 0, 1) := by decide +kernel
theorem dL_isMessage_31 : decode cL_isMessage 31 = .ok (.iload_n 1, 1) := by decide +kernel
theorem dL_isMessage_32 : decode cL_isMessage 32 = .ok (.bipush 6, 2) := by decide +kernel
theorem dL_isMessage_34 : decode cL_isMessage 34 = .ok (.invokevirtual 90, 3) := by decide +kernel
theorem dL_isMessage_37 : decode cL_isMessage 37 = .ok (.istore 6, 2) := by decide +kernel
theorem dL_isMessage_39 : decode cL_isMessage 39 = .ok (.aload_n 0, 1) := by decide +kernel
theorem dL_isMessage_40 : decode cL_isMessage 40 = .ok (.iload_n 1, 1) := by decide +kernel
theorem dL_isMessage_41 : decode cL_isMessage 41 = .ok (.bipush 7, 2) := by decide +kernel
theorem dL_isMessage_43 : decode cL_isMessage 43 = .ok (.invokevirtual 90, 3) := by decide +kernel
theorem dL_isMessage_46 : decode cL_isMessage 46 = .ok (.istore 7, 2) := by decide +kernel
theorem dL_isMessage_48 : decode cL_isMessage 48 = .ok (.iload 4, 2) := by decide +kernel
theorem dL_isMessage_50 : decode cL_isMessage 50 = .ok (.ifCond .ne 33, 3) := by decide +kernel
theorem dL_isMessage_53 : decode cL_isMessage 53 = .ok (.iload 5, 2) := by decide +kernel
theorem dL_isMessage_55 : decode cL_isMessage 55 = .ok (.iconst (-1), 1) := by decide +kernel
theorem dL_isMessage_56 : decode cL_isMessage 56 = .ok (.if_icmp .ne 25, 3) := by decide +kernel
theorem dL_isMessage_59 : decode cL_isMessage 59 = .ok (.iload 6, 2) := by decide +kernel
theorem dL_isMessage_61 : decode cL_isMessage 61 = .ok (.iconst (-1), 1) := by decide +kernel
theorem dL_isMessage_62 : decode cL_isMessage 62 = .ok (.if_icmp .ne 19, 3) := by decide +kernel
theorem dL_isMessage_65 : decode cL_isMessage 65 = .ok (.iload 7, 2) := by decide +kernel
theorem dL_isMessage_67 : decode cL_isMessage 67 = .ok (.iconst (-1), 1) := by decide +kernel
theorem dL_isMessage_68 : decode cL_isMessage 68 = .ok (.if_icmp .ne 13, 3) := by decide +kernel
theorem dL_isMessage_71 : decode cL_isMessage 71 = .ok (.aload_n 0, 1) := by decide +kernel
theorem dL_isMessage_72 : decode cL_isMessage 72 = .ok (.iload_n 1, 1) := by decide +kernel
theorem dL_isMessage_73 : decode cL_isMessage 73 = .ok (.iload_n 2, 1) := by decide +kernel
theorem dL_isMessage_74 : decode cL_isMessage 74 = .ok (.iconst 0, 1) := by decide +kernel
theorem dL_isMessage_75 : decode cL_isMessage 75 = .ok (.invokestatic 93, 3) := by decide +kernel
theorem dL_isMessage_78 : decode cL_isMessage 78 = .ok (.ifCond .ne 5, 3) := by decide +kernel
theorem dL_isMessage_81 : decode cL_isMessage 81 = .ok (.iconst 0, 1) := by decide +kernel
theorem dL_isMessage_82 : decode cL_isMessage 82 = .ok (.ireturn, 1) := by decide +kernel
theorem dL_isMessage_83 : decode cL_isMessage 83 = .ok (.iload 4, 2) := by decide +kernel
theorem dL_isMessage_85 : decode cL_isMessage 85 = .ok (.ifCond .le 39, 3) := by decide +kernel
theorem dL_isMessage_88 : decode cL_isMessage 88 = .ok (.iload 5, 2) := by decide +kernel
theorem dL_isMessage_90 : decode cL_isMessage 90 = .ok (.aload_n 0, 1) := by decide +kernel
theorem dL_isMessage_91 : decode cL_isMessage 91 = .ok (.iload_n 1, 1) := by decide +kernel
theorem dL_isMessage_92 : decode cL_isMessage 92 = .ok (.iconst 4, 1) := by decide +kernel
theorem dL_isMessage_93 : decode cL_isMessage 93 = .ok (.invokevirtual 90, 3) := by decide +kernel
theorem dL_isMessage_96 : decode cL_isMessage 96 = .ok (.if_icmp .lt 26, 3) := by decide +kernel
theorem dL_isMessage_99 : decode cL_isMessage 99 = .ok (.iload_n 2, 1) := by decide +kernel
theorem dL_isMessage_100 : decode cL_isMessage 100 = .ok (.iconst (-1), 1) := by decide +kernel
theorem dL_isMessage_101 : decode cL_isMessage 101 = .ok (.if_icmp .eq 23, 3) := by decide +kernel
theorem dL_isMessage_104 : decode cL_isMessage 104 = .ok (.iload 5, 2) := by decide +kernel
theorem dL_isMessage_106 : decode cL_isMessage 106 = .ok (.aload_n 0, 1) := by decide +kernel
theorem dL_isMessage_107 : decode cL_isMessage 107 = .ok (.iload_n 1, 1) := by decide +kernel
theorem dL_isMessage_108 : decode cL_isMessage 108 = .ok (.iconst 4, 1) := by decide +kernel
theorem dL_isMessage_109 : decode cL_isMessage 109 = .ok (.invokevirtual 90, 3) := by decide +kernel
theorem dL_isMessage_112 : decode cL_isMessage 112 = .ok (.aload_n 0, 1) := by decide +kernel
theorem dL_isMessage_113 : decode cL_isMessage 113 = .ok (.iload_n 1, 1) := by decide +kernel
theorem dL_isMessage_114 : decode cL_isMessage 114 = .ok (.iconst 2, 1) := by decide +kernel
theorem dL_isMessage_115 : decode cL_isMessage 115 = .ok (.invokevirtual 90, 3) := by decide +kernel
theorem dL_isMessage_118 : decode cL_isMessage 118 = .ok (.iadd, 1) := by decide +kernel
theorem dL_isMessage_119 : decode cL_isMessage 119 = .ok (.if_icmp .ge 5, 3) := by decide +kernel
theorem dL_isMessage_122 : decode cL_isMessage 122 = .ok (.iconst 0, 1) := by decide +kernel
theorem dL_isMessage_123 : decode cL_isMessage 123 = .ok (.ireturn, 1) := by decide +kernel
theorem dL_isMessage_124 : decode cL_isMessage 124 = .ok (.iload_n 3, 1) := by decide +kernel
theorem dL_isMessage_125 : decode cL_isMessage 125 = .ok (.iconst (-1), 1) := by decide +kernel
theorem dL_isMessage_126 : decode cL_isMessage 126 = .ok (.if_icmp .ne 33, 3) := by decide +kernel
theorem dL_isMessage_129 : decode cL_isMessage 129 = .ok (.iload 4, 2) := by decide +kernel
theorem dL_isMessage_131 : decode cL_isMessage 131 = .ok (.ifCond .eq 22, 3) := by decide +kernel
theorem dL_isMessage_134 : decode cL_isMessage 134 = .ok (.iload 4, 2) := by decide +kernel
theorem dL_isMessage_136 : decode cL_isMessage 136 = .ok (.iconst 3, 1) := by decide +kernel
theorem dL_isMessage_137 : decode cL_isMessage 137 = .ok (.if_icmp .ne 20, 3) := by decide +kernel
theorem dL_isMessage_140 : decode cL_isMessage 140 = .ok (.iload 7, 2) := by decide +kernel
theorem dL_isMessage_142 : decode cL_isMessage 142 = .ok (.iload 5, 2) := by decide +kernel
theorem dL_isMessage_144 : decode cL_isMessage 144 = .ok (.if_icmp .ne 13, 3) := by decide +kernel
theorem dL_isMessage_147 : decode cL_isMessage 147 = .ok (.iload 6, 2) := by decide +kernel
theorem dL_isMessage_149 : decode cL_isMessage 149 = .ok (.iconst (-1), 1) := by decide +kernel
theorem dL_isMessage_150 : decode cL_isMessage 150 = .ok (.if_icmp .ne 7, 3) := by decide +kernel
theorem dL_isMessage_153 : decode cL_isMessage 153 = .ok (.iconst 1, 1) := by decide +kernel
theorem dL_isMessage_154 : decode cL_isMessage 154 = .ok (.goto 4, 3) := by decide +kernel
theorem dL_isMessage_157 : decode cL_isMessage 157 = .ok (.iconst 0, 1) := by decide +kernel
theorem dL_isMessage_158 : decode cL_isMessage 158 = .ok (.ireturn, 1) := by decide +kernel
theorem dL_isMessage_159 : decode cL_isMessage 159 = .ok (.iload 4, 2) := by decide +kernel
theorem dL_isMessage_161 : decode cL_isMessage 161 = .ok (.iconst 1, 1) := by decide +kernel
theorem dL_isMessage_162 : decode cL_isMessage 162 = .ok (.if_icmp .ne 37, 3) := by decide +kernel
theorem dL_isMessage_165 : decode cL_isMessage 165 = .ok (.iload 6, 2) := by decide +kernel
theorem dL_isMessage_167 : decode cL_isMessage 167 = .ok (.iconst (-1), 1) := by decide +kernel
theorem dL_isMessage_168 : decode cL_isMessage 168 = .ok (.if_icmp .ne 29, 3) := by decide +kernel
theorem dL_isMessage_171 : decode cL_isMessage 171 = .ok (.iload 7, 2) := by decide +kernel
theorem dL_isMessage_173 : decode cL_isMessage 173 = .ok (.iconst (-1), 1) := by decide +kernel
theorem dL_isMessage_174 : decode cL_isMessage 174 = .ok (.if_icmp .ne 23, 3) := by decide +kernel
theorem dL_isMessage_177 : decode cL_isMessage 177 = .ok (.aload_n 0, 1) := by decide +kernel
theorem dL_isMessage_178 : decode cL_isMessage 178 = .ok (.iload_n 1, 1) := by decide +kernel
theorem dL_isMessage_179 : decode cL_isMessage 179 = .ok (.iload_n 3, 1) := by decide +kernel
theorem dL_isMessage_180 : decode cL_isMessage 180 = .ok (.iconst 1, 1) := by decide +kernel
theorem dL_isMessage_181 : decode cL_isMessage 181 = .ok (.invokestatic 93, 3) := by decide +kernel
theorem dL_isMessage_184 : decode cL_isMessage 184 = .ok (.ifCond .eq 13, 3) := by decide +kernel
theorem dL_isMessage_187 : decode cL_isMessage 187 = .ok (.aload_n 0, 1) := by decide +kernel
theorem dL_isMessage_188 : decode cL_isMessage 188 = .ok (.iload_n 1, 1) := by decide +kernel
theorem dL_isMessage_189 : decode cL_isMessage 189 = .ok (.iload_n 3, 1) := by decide +kernel
theorem dL_isMessage_190 : decode cL_isMessage 190 = .ok (.iconst 2, 1) := by decide +kernel
theorem dL_isMessage_191 : decode cL_isMessage 191 = .ok (.invokestatic 93, 3) := by decide +kernel
theorem dL_isMessage_194 : decode cL_isMessage 194 = .ok (.ifCond .eq 5, 3) := by decide +kernel
theorem dL_isMessage_197 : decode cL_isMessage 197 = .ok (.iconst 0, 1) := by decide +kernel
theorem dL_isMessage_198 : decode cL_isMessage 198 = .ok (.ireturn, 1) := by decide +kernel
theorem dL_isMessage_199 : decode cL_isMessage 199 = .ok (.iload 4, 2) := by decide +kernel
theorem dL_isMessage_201 : decode cL_isMessage 201 = .ok (.iconst 1, 1) := by decide +kernel
theorem dL_isMessage_202 : decode cL_isMessage 202 = .ok (.if_icmp .le 19, 3) := by decide +kernel
theorem dL_isMessage_205 : decode cL_isMessage 205 = .ok (.iload 6, 2) := by decide +kernel
theorem dL_isMessage_207 : decode cL_isMessage 207 = .ok (.iload 5, 2) := by decide +kernel
theorem dL_isMessage_209 : decode cL_isMessage 209 = .ok (.aload_n 0, 1) := by decide +kernel
theorem dL_isMessage_210 : decode cL_isMessage 210 = .ok (.iload_n 1, 1) := by decide +kernel
theorem dL_isMessage_211 : decode cL_isMessage 211 = .ok (.iconst 2, 1) := by decide +kernel
theorem dL_isMessage_212 : decode cL_isMessage 212 = .ok (.invokevirtual 90, 3) := by decide +kernel
theorem dL_isMessage_215 : decode cL_isMessage 215 = .ok (.iadd, 1) := by decide +kernel
theorem dL_isMessage_216 : decode cL_isMessage 216 = .ok (.if_icmp .ge 5, 3) := by decide +kernel
theorem dL_isMessage_219 : decode cL_isMessage 219 = .ok (.iconst 0, 1) := by decide +kernel
theorem dL_isMessage_220 : decode cL_isMessage 220 = .ok (.ireturn, 1) := by decide +kernel
theorem dL_isMessage_221 : decode cL_isMessage 221 = .ok (.iload 4, 2) := by decide +kernel
theorem dL_isMessage_223 : decode cL_isMessage 223 = .ok (.iconst 2, 1) := by decide +kernel
theorem dL_isMessage_224 : decode cL_isMessage 224 = .ok (.if_icmp .ne 21, 3) := by decide +kernel
theorem dL_isMessage_227 : decode cL_isMessage 227 = .ok (.iload 7, 2) := by decide +kernel
theorem dL_isMessage_229 : decode cL_isMessage 229 = .ok (.iconst (-1), 1) := by decide +kernel
theorem dL_isMessage_230 : decode cL_isMessage 230 = .ok (.if_icmp .ne 13, 3) := by decide +kernel
theorem dL_isMessage_233 : decode cL_isMessage 233 = .ok (.aload_n 0, 1) := by decide +kernel
theorem dL_isMessage_234 : decode cL_isMessage 234 = .ok (.iload_n 1, 1) := by decide +kernel
theorem dL_isMessage_235 : decode cL_isMessage 235 = .ok (.iload_n 3, 1) := by decide +kernel
theorem dL_isMessage_236 : decode cL_isMessage 236 = .ok (.iconst 2, 1) := by decide +kernel
theorem dL_isMessage_237 : decode cL_isMessage 237 = .ok (.invokestatic 93, 3) := by decide +kernel
theorem dL_isMessage_240 : decode cL_isMessage 240 = .ok (.ifCond .ne 5, 3) := by decide +kernel
theorem dL_isMessage_243 : decode cL_isMessage 243 = .ok (.iconst 0, 1) := by decide +kernel
theorem dL_isMessage_244 : decode cL_isMessage 244 = .ok (.ireturn, 1) := by decide +kernel
theorem dL_isMessage_245 : decode cL_isMessage 245 = .ok (.iload 4, 2) := by decide +kernel
theorem dL_isMessage_247 : decode cL_isMessage 247 = .ok (.iconst 3, 1) := by decide +kernel
theorem dL_isMessage_248 : decode cL_isMessage 248 = .ok (.if_icmp .lt 37, 3) := by decide +kernel
theorem dL_isMessage_251 : decode cL_isMessage 251 = .ok (.iload 7, 2) := by decide +kernel
theorem dL_isMessage_253 : decode cL_isMessage 253 = .ok (.iload 6, 2) := by decide +kernel
theorem dL_isMessage_255 : decode cL_isMessage 255 = .ok (.aload_n 0, 1) := by decide +kernel
theorem dL_isMessage_256 : decode cL_isMessage 256 = .ok (.iload_n 3, 1) := by decide +kernel
theorem dL_isMessage_257 : decode cL_isMessage 257 = .ok (.iconst 2, 1) := by decide +kernel
theorem dL_isMessage_258 : decode cL_isMessage 258 = .ok (.invokevirtual 86, 3) := by decide +kernel
theorem dL_isMessage_261 : decode cL_isMessage 261 = .ok (.iadd, 1) := by decide +kernel
theorem dL_isMessage_262 : decode cL_isMessage 262 = .ok (.if_icmp .lt 27, 3) := by decide +kernel
theorem dL_isMessage_265 : decode cL_isMessage 265 = .ok (.iload 7, 2) := by decide +kernel
theorem dL_isMessage_267 : decode cL_isMessage 267 = .ok (.aload_n 0, 1) := by decide +kernel
theorem dL_isMessage_268 : decode cL_isMessage 268 = .ok (.iconst 3, 1) := by decide +kernel
theorem dL_isMessage_269 : decode cL_isMessage 269 = .ok (.invokevirtual 97, 3) := by decide +kernel
theorem dL_isMessage_272 : decode cL_isMessage 272 = .ok (.if_icmp .gt 17, 3) := by decide +kernel
theorem dL_isMessage_275 : decode cL_isMessage 275 = .ok (.aload_n 0, 1) := by decide +kernel
theorem dL_isMessage_276 : decode cL_isMessage 276 = .ok (.iload_n 1, 1) := by decide +kernel
theorem dL_isMessage_277 : decode cL_isMessage 277 = .ok (.iload_n 3, 1) := by decide +kernel
theorem dL_isMessage_278 : decode cL_isMessage 278 = .ok (.iconst 2, 1) := by decide +kernel
theorem dL_isMessage_279 : decode cL_isMessage 279 = .ok (.invokestatic 93, 3) := by decide +kernel
theorem dL_isMessage_282 : decode cL_isMessage 282 = .ok (.ifCond .ne 7, 3) := by decide +kernel
theorem dL_isMessage_285 : decode cL_isMessage 285 = .ok (.iconst 1, 1) := by decide +kernel
theorem dL_isMessage_286 : decode cL_isMessage 286 = .ok (.goto 4, 3) := by decide +kernel
theorem dL_isMessage_289 : decode cL_isMessage 289 = .ok (.iconst 0, 1) := by decide +kernel
theorem dL_isMessage_290 : decode cL_isMessage 290 = .ok (.ireturn, 1) := by decide +kernel
theorem dL_isTerminal_0 : decode cL_isTerminal 0 = .ok (.iconst 0, 1) := by decide +kernel
theorem dL_isTerminal_1 : decode cL_isTerminal 1 = .ok (.istore_n 2, 1) := by decide +kernel
theorem dL_isTerminal_2 : decode cL_isTerminal 2 = .ok (.iload_n 2, 1) := by decide +kernel
theorem dL_isTerminal_3 : decode cL_isTerminal 3 = .ok (.iconst 3, 1) := by decide +kernel
theorem dL_isTerminal_4 : decode cL_isTerminal 4 = .ok (.if_icmp .ge 29, 3) := by decide +kernel
theorem dL_isTerminal_7 : decode cL_isTerminal 7 = .ok (.aload_n 0, 1) := by decide +kernel
theorem dL_isTerminal_8 : decode cL_isTerminal 8 = .ok (.iload_n 1, 1) := by decide +kernel
theorem dL_isTerminal_9 : decode cL_isTerminal 9 = .ok (.bipush 6, 2) := by decide +kernel
theorem dL_isTerminal_11 : decode cL_isTerminal 11 = .ok (.iload_n 2, 1) := by decide +kernel
theorem dL_isTerminal_12 : decode cL_isTerminal 12 = .ok (.iadd, 1) := by decide +kernel
theorem dL_isTerminal_13 : decode cL_isTerminal 13 = .ok (.invokevirtual 86, 3) := by decide +kernel
theorem dL_isTerminal_16 : decode cL_isTerminal 16 = .ok (.aload_n 0, 1) := by decide +kernel
theorem dL_isTerminal_17 : decode cL_isTerminal 17 = .ok (.iload_n 1, 1) := by decide +kernel
theorem dL_isTerminal_18 : decode cL_isTerminal 18 = .ok (.iload_n 2, 1) := by decide +kernel
theorem dL_isTerminal_19 : decode cL_isTerminal 19 = .ok (.invokestatic 101, 3) := by decide +kernel
theorem dL_isTerminal_22 : decode cL_isTerminal 22 = .ok (.if_icmp .eq 5, 3) := by decide +kernel
theorem dL_isTerminal_25 : decode cL_isTerminal 25 = .ok (.iconst 0, 1) := by decide +kernel
theorem dL_isTerminal_26 : decode cL_isTerminal 26 = .ok (.ireturn, 1) := by decide +kernel
theorem dL_isTerminal_27 : decode cL_isTerminal 27 = .ok (.iinc 2 1, 3) := by decide +kernel
theorem dL_isTerminal_30 : decode cL_isTerminal 30 = .ok (.goto (-28), 3) := by decide +kernel
theorem dL_isTerminal_33 : decode cL_isTerminal 33 = .ok (.aload_n 0, 1) := by decide +kernel
theorem dL_isTerminal_34 : decode cL_isTerminal 34 = .ok (.iload_n 1, 1) := by decide +kernel
theorem dL_isTerminal_35 : decode cL_isTerminal 35 = .ok (.bipush 8, 2) := by decide +kernel
theorem dL_isTerminal_37 : decode cL_isTerminal 37 = .ok (.invokevirtual 86, 3) := by decide +kernel
theorem dL_isTerminal_40 : decode cL_isTerminal 40 = .ok (.aload_n 0, 1) := by decide +kernel
theorem dL_isTerminal_41 : decode cL_isTerminal 41 = .ok (.iload_n 1, 1) := by decide +kernel
theorem dL_isTerminal_42 : decode cL_isTerminal 42 = .ok (.iconst 1, 1) := by decide +kernel
theorem dL_isTerminal_43 : decode cL_isTerminal 43 = .ok (.invokevirtual 86, 3) := by decide +kernel
theorem dL_isTerminal_46 : decode cL_isTerminal 46 = .ok (.if_icmp .gt 20, 3) := by decide +kernel
theorem dL_isTerminal_49 : decode cL_isTerminal 49 = .ok (.aload_n 0, 1) := by decide +kernel
theorem dL_isTerminal_50 : decode cL_isTerminal 50 = .ok (.invokevirtual 105, 3) := by decide +kernel
theorem dL_isTerminal_53 : decode cL_isTerminal 53 = .ok (.iload_n 1, 1) := by decide +kernel
theorem dL_isTerminal_54 : decode cL_isTerminal 54 = .ok (.ishr, 1) := by decide +kernel
theorem dL_isTerminal_55 : decode cL_isTerminal 55 = .ok (.iconst 1, 1) := by decide +kernel
theorem dL_isTerminal_56 : decode cL_isTerminal 56 = .ok (.iand, 1) := by decide +kernel
theorem dL_isTerminal_57 : decode cL_isTerminal 57 = .ok (.aload_n 0, 1) := by decide +kernel
theorem dL_isTerminal_58 : decode cL_isTerminal 58 = .ok (.iload_n 1, 1) := by decide +kernel
theorem dL_isTerminal_59 : decode cL_isTerminal 59 = .ok (.iconst 4, 1) := by decide +kernel
theorem dL_isTerminal_60 : decode cL_isTerminal 60 = .ok (.invokevirtual 86, 3) := by decide +kernel
theorem dL_isTerminal_63 : decode cL_isTerminal 63 = .ok (.if_icmp .ne 5, 3) := by decide +kernel
theorem dL_isTerminal_66 : decode cL_isTerminal 66 = .ok (.iconst 0, 1) := by decide +kernel
theorem dL_isTerminal_67 : decode cL_isTerminal 67 = .ok (.ireturn, 1) := by decide +kernel
theorem dL_isTerminal_68 : decode cL_isTerminal 68 = .ok (.aload_n 0, 1) := by decide +kernel
theorem dL_isTerminal_69 : decode cL_isTerminal 69 = .ok (.iload_n 1, 1) := by decide +kernel
theorem dL_isTerminal_70 : decode cL_isTerminal 70 = .ok (.bipush 10, 2) := by decide +kernel
theorem dL_isTerminal_72 : decode cL_isTerminal 72 = .ok (.invokevirtual 86, 3) := by decide +kernel
theorem dL_isTerminal_75 : decode cL_isTerminal 75 = .ok (.aload_n 0, 1) := by decide +kernel
theorem dL_isTerminal_76 : decode cL_isTerminal 76 = .ok (.iload_n 1, 1) := by decide +kernel
theorem dL_isTerminal_77 : decode cL_isTerminal 77 = .ok (.bipush 13, 2) := by decide +kernel
theorem dL_isTerminal_79 : decode cL_isTerminal 79 = .ok (.invokevirtual 86, 3) := by decide +kernel
theorem dL_isTerminal_82 : decode cL_isTerminal 82 = .ok (.if_icmp .eq 7, 3) := by decide +kernel
theorem dL_isTerminal_85 : decode cL_isTerminal 85 = .ok (.iconst 1, 1) := by decide +kernel
theorem dL_isTerminal_86 : decode cL_isTerminal 86 = .ok (.goto 4, 3) := by decide +kernel
theorem dL_isTerminal_89 : decode cL_isTerminal 89 = .ok (.iconst 0, 1) := by decide +kernel
theorem dL_isTerminal_90 : decode cL_isTerminal 90 = .ok (.istore_n 2, 1) := by decide +kernel
theorem dL_isTerminal_91 : decode cL_isTerminal 91 = .ok (.aload_n 0, 1) := by decide +kernel
theorem dL_isTerminal_92 : decode cL_isTerminal 92 = .ok (.iload_n 1, 1) := by decide +kernel
theorem dL_isTerminal_93 : decode cL_isTerminal 93 = .ok (.bipush 12, 2) := by decide +kernel
theorem dL_isTerminal_95 : decode cL_isTerminal 95 = .ok (.invokevirtual 86, 3) := by decide +kernel
theorem dL_isTerminal_98 : decode cL_isTerminal 98 = .ok (.aload_n 0, 1) := by decide +kernel
theorem dL_isTerminal_99 : decode cL_isTerminal 99 = .ok (.iload_n 1, 1) := by decide +kernel
theorem dL_isTerminal_100 : decode cL_isTerminal 100 = .ok (.bipush 11, 2) := by decide +kernel
theorem dL_isTerminal_102 : decode cL_isTerminal 102 = .ok (.invokevirtual 86, 3) := by decide +kernel
theorem dL_isTerminal_105 : decode cL_isTerminal 105 = .ok (.if_icmp .eq 7, 3) := by decide +kernel
theorem dL_isTerminal_108 : decode cL_isTerminal 108 = .ok (.iconst 1, 1) := by decide +kernel
theorem dL_isTerminal_109 : decode cL_isTerminal 109 = .ok (.goto 4, 3) := by decide +kernel
theorem dL_isTerminal_112 : decode cL_isTerminal 112 = .ok (.iconst 0, 1) := by decide +kernel
theorem dL_isTerminal_113 : decode cL_isTerminal 113 = .ok (.istore_n 3, 1) := by decide +kernel
theorem dL_isTerminal_114 : decode cL_isTerminal 114 = .ok (.aload_n 0, 1) := by decide +kernel
theorem dL_isTerminal_115 : decode cL_isTerminal 115 = .ok (.iload_n 1, 1) := by decide +kernel
theorem dL_isTerminal_116 : decode cL_isTerminal 116 = .ok (.iconst 0, 1) := by decide +kernel
theorem dL_isTerminal_117 : decode cL_isTerminal 117 = .ok (.iconst 0, 1) := by decide +kernel
theorem dL_isTerminal_118 : decode cL_isTerminal 118 = .ok (.invokevirtual 82, 3) := by decide +kernel
theorem dL_isTerminal_121 : decode cL_isTerminal 121 = .ok (.istore 4, 2) := by decide +kernel
theorem dL_isTerminal_123 : decode cL_isTerminal 123 = .ok (.aload_n 0, 1) := by decide +kernel
theorem dL_isTerminal_124 : decode cL_isTerminal 124 = .ok (.iload_n 1, 1) := by decide +kernel
theorem dL_isTerminal_125 : decode cL_isTerminal 125 = .ok (.iconst 1, 1) := by decide +kernel
theorem dL_isTerminal_126 : decode cL_isTerminal 126 = .ok (.iconst 0, 1) := by decide +kernel
theorem dL_isTerminal_127 : decode cL_isTerminal 127 = .ok (.invokevirtual 82, 3) := by decide +kernel
theorem dL_isTerminal_130 : decode cL_isTerminal 130 = .ok (.istore 5, 2) := by decide +kernel
theorem dL_isTerminal_132 : decode cL_isTerminal 132 = .ok (.iload_n 2, 1) := by decide +kernel
theorem dL_isTerminal_133 : decode cL_isTerminal 133 = .ok (.iload 4, 2) := by decide +kernel
theorem dL_isTerminal_135 : decode cL_isTerminal 135 = .ok (.iconst (-1), 1) := by decide +kernel
theorem dL_isTerminal_136 : decode cL_isTerminal 136 = .ok (.if_icmp .eq 17, 3) := by decide +kernel
theorem dL_isTerminal_139 : decode cL_isTerminal 139 = .ok (.aload_n 0, 1) := by decide +kernel
theorem dL_isTerminal_140 : decode cL_isTerminal 140 = .ok (.iload 4, 2) := by decide +kernel
theorem dL_isTerminal_142 : decode cL_isTerminal 142 = .ok (.iconst 3, 1) := by decide +kernel
theorem dL_isTerminal_143 : decode cL_isTerminal 143 = .ok (.invokevirtual 90, 3) := by decide +kernel
theorem dL_isTerminal_146 : decode cL_isTerminal 146 = .ok (.ifCond .le 7, 3) := by decide +kernel
theorem dL_isTerminal_149 : decode cL_isTerminal 149 = .ok (.iconst 1, 1) := by decide +kernel
theorem dL_isTerminal_150 : decode cL_isTerminal 150 = .ok (.goto 4, 3) := by decide +kernel
theorem dL_isTerminal_153 : decode cL_isTerminal 153 = .ok (.iconst 0, 1) := by decide +kernel
theorem dL_isTerminal_154 : decode cL_isTerminal 154 = .ok (.if_icmp .eq 5, 3) := by decide +kernel
theorem dL_isTerminal_157 : decode cL_isTerminal 157 = .ok (.iconst 0, 1) := by decide +kernel
theorem dL_isTerminal_158 : decode cL_isTerminal 158 = .ok (.ireturn, 1) := by decide +kernel
theorem dL_isTerminal_159 : decode cL_isTerminal 159 = .ok (.iload_n 3, 1) := by decide +kernel
theorem dL_isTerminal_160 : decode cL_isTerminal 160 = .ok (.iload 5, 2) := by decide +kernel
theorem dL_isTerminal_162 : decode cL_isTerminal 162 = .ok (.iconst (-1), 1) := by decide +kernel
theorem dL_isTerminal_163 : decode cL_isTerminal 163 = .ok (.if_icmp .eq 18, 3) := by decide +kernel
theorem dL_isTerminal_166 : decode cL_isTerminal 166 = .ok (.aload_n 0, 1) := by decide +kernel
theorem dL_isTerminal_167 : decode cL_isTerminal 167 = .ok (.iload 5, 2) := by decide +kernel
theorem dL_isTerminal_169 : decode cL_isTerminal 169 = .ok (.iconst 3, 1) := by decide +kernel
theorem dL_isTerminal_170 : decode cL_isTerminal 170 = .ok (.invokevirtual 90, 3) := by decide +kernel
theorem dL_isTerminal_173 : decode cL_isTerminal 173 = .ok (.iconst 1, 1) := by decide +kernel
theorem dL_isTerminal_174 : decode cL_isTerminal 174 = .ok (.if_icmp .le 7, 3) := by decide +kernel
theorem dL_isTerminal_177 : decode cL_isTerminal 177 = .ok (.iconst 1, 1) := by decide +kernel
theorem dL_isTerminal_178 : decode cL_isTerminal 178 = .ok (.goto 4, 3) := by decide +kernel
theorem dL_isTerminal_181 : decode cL_isTerminal 181 = .ok (.iconst 0, 1) := by decide +kernel
theorem dL_isTerminal_182 : decode cL_isTerminal 182 = .ok (.if_icmp .ne 26, 3) := by decide +kernel
theorem dL_isTerminal_185 : decode cL_isTerminal 185 = .ok (.aload_n 0, 1) := by decide +kernel
theorem dL_isTerminal_186 : decode cL_isTerminal 186 = .ok (.iload_n 1, 1) := by decide +kernel
theorem dL_isTerminal_187 : decode cL_isTerminal 187 = .ok (.iconst 4, 1) := by decide +kernel
theorem dL_isTerminal_188 : decode cL_isTerminal 188 = .ok (.invokevirtual 86, 3) := by decide +kernel
theorem dL_isTerminal_191 : decode cL_isTerminal 191 = .ok (.ifCond .eq 13, 3) := by decide +kernel
theorem dL_isTerminal_194 : decode cL_isTerminal 194 = .ok (.aload_n 0, 1) := by decide +kernel
theorem dL_isTerminal_195 : decode cL_isTerminal 195 = .ok (.iload_n 1, 1) := by decide +kernel
theorem dL_isTerminal_196 : decode cL_isTerminal 196 = .ok (.iconst 5, 1) := by decide +kernel
theorem dL_isTerminal_197 : decode cL_isTerminal 197 = .ok (.invokevirtual 86, 3) := by decide +kernel
theorem dL_isTerminal_200 : decode cL_isTerminal 200 = .ok (.iconst 5, 1) := by decide +kernel
theorem dL_isTerminal_201 : decode cL_isTerminal 201 = .ok (.if_icmp .ge 7, 3) := by decide +kernel
theorem dL_isTerminal_204 : decode cL_isTerminal 204 = .ok (.iconst 1, 1) := by decide +kernel
theorem dL_isTerminal_205 : decode cL_isTerminal 205 = .ok (.goto 4, 3) := by decide +kernel
theorem dL_isTerminal_208 : decode cL_isTerminal 208 = .ok (.iconst 0, 1) := by decide +kernel
theorem dL_isTerminal_209 : decode cL_isTerminal 209 = .ok (.ireturn, 1) := by decide +kernel
theorem dL_isSound_0 : decode cL_isSound 0 = .ok (.iconst 0, 1) := by decide +kernel
theorem dL_isSound_1 : decode cL_isSound 1 = .ok (.istore_n 1, 1) := by decide +kernel
theorem dL_isSound_2 : decode cL_isSound 2 = .ok (.bipush 6, 2) := by decide +kernel
theorem dL_isSound_4 : decode cL_isSound 4 = .ok (.istore_n 2, 1) := by decide +kernel
theorem dL_isSound_5 : decode cL_isSound 5 = .ok (.iload_n 2, 1) := by decide +kernel
theorem dL_isSound_6 : decode cL_isSound 6 = .ok (.bipush 10, 2) := by decide +kernel
theorem dL_isSound_8 : decode cL_isSound 8 = .ok (.if_icmp .ge 17, 3) := by decide +kernel
theorem dL_isSound_11 : decode cL_isSound 11 = .ok (.iload_n 1, 1) := by decide +kernel
theorem dL_isSound_12 : decode cL_isSound 12 = .ok (.aload_n 0, 1) := by decide +kernel
theorem dL_isSound_13 : decode cL_isSound 13 = .ok (.iload_n 2, 1) := by decide +kernel
theorem dL_isSound_14 : decode cL_isSound 14 = .ok (.invokevirtual 97, 3) := by decide +kernel
theorem dL_isSound_17 : decode cL_isSound 17 = .ok (.iadd, 1) := by decide +kernel
theorem dL_isSound_18 : decode cL_isSound 18 = .ok (.istore_n 1, 1) := by decide +kernel
theorem dL_isSound_19 : decode cL_isSound 19 = .ok (.iinc 2 1, 3) := by decide +kernel
theorem dL_isSound_22 : decode cL_isSound 22 = .ok (.goto (-17), 3) := by decide +kernel
theorem dL_isSound_25 : decode cL_isSound 25 = .ok (.iload_n 1, 1) := by decide +kernel
theorem dL_isSound_26 : decode cL_isSound 26 = .ok (.aload_n 0, 1) := by decide +kernel
theorem dL_isSound_27 : decode cL_isSound 27 = .ok (.iconst 2, 1) := by decide +kernel
theorem dL_isSound_28 : decode cL_isSound 28 = .ok (.invokevirtual 97, 3) := by decide +kernel
theorem dL_isSound_31 : decode cL_isSound 31 = .ok (.if_icmp .ne 23, 3) := by decide +kernel
theorem dL_isSound_34 : decode cL_isSound 34 = .ok (.aload_n 0, 1) := by decide +kernel
theorem dL_isSound_35 : decode cL_isSound 35 = .ok (.invokevirtual 108, 3) := by decide +kernel
theorem dL_isSound_38 : decode cL_isSound 38 = .ok (.ifCond .ne 16, 3) := by decide +kernel
theorem dL_isSound_41 : decode cL_isSound 41 = .ok (.aload_n 0, 1) := by decide +kernel
theorem dL_isSound_42 : decode cL_isSound 42 = .ok (.iconst 1, 1) := by decide +kernel
theorem dL_isSound_43 : decode cL_isSound 43 = .ok (.invokevirtual 111, 3) := by decide +kernel
theorem dL_isSound_46 : decode cL_isSound 46 = .ok (.aload_n 0, 1) := by decide +kernel
theorem dL_isSound_47 : decode cL_isSound 47 = .ok (.iconst 0, 1) := by decide +kernel
theorem dL_isSound_48 : decode cL_isSound 48 = .ok (.invokevirtual 111, 3) := by decide +kernel
theorem dL_isSound_51 : decode cL_isSound 51 = .ok (.if_icmp .le 5, 3) := by decide +kernel
theorem dL_isSound_54 : decode cL_isSound 54 = .ok (.iconst 0, 1) := by decide +kernel
theorem dL_isSound_55 : decode cL_isSound 55 = .ok (.ireturn, 1) := by decide +kernel
theorem dL_isSound_56 : decode cL_isSound 56 = .ok (.iconst 0, 1) := by decide +kernel
theorem dL_isSound_57 : decode cL_isSound 57 = .ok (.istore_n 2, 1) := by decide +kernel
theorem dL_isSound_58 : decode cL_isSound 58 = .ok (.iload_n 2, 1) := by decide +kernel
theorem dL_isSound_59 : decode cL_isSound 59 = .ok (.aload_n 0, 1) := by decide +kernel
theorem dL_isSound_60 : decode cL_isSound 60 = .ok (.iconst 2, 1) := by decide +kernel
theorem dL_isSound_61 : decode cL_isSound 61 = .ok (.invokevirtual 97, 3) := by decide +kernel
theorem dL_isSound_64 : decode cL_isSound 64 = .ok (.if_icmp .ge 19, 3) := by decide +kernel
theorem dL_isSound_67 : decode cL_isSound 67 = .ok (.aload_n 0, 1) := by decide +kernel
theorem dL_isSound_68 : decode cL_isSound 68 = .ok (.iload_n 2, 1) := by decide +kernel
theorem dL_isSound_69 : decode cL_isSound 69 = .ok (.invokestatic 114, 3) := by decide +kernel
theorem dL_isSound_72 : decode cL_isSound 72 = .ok (.ifCond .ne 5, 3) := by decide +kernel
theorem dL_isSound_75 : decode cL_isSound 75 = .ok (.iconst 0, 1) := by decide +kernel
theorem dL_isSound_76 : decode cL_isSound 76 = .ok (.ireturn, 1) := by decide +kernel
theorem dL_isSound_77 : decode cL_isSound 77 = .ok (.iinc 2 1, 3) := by decide +kernel
theorem dL_isSound_80 : decode cL_isSound 80 = .ok (.goto (-22), 3) := by decide +kernel
theorem dL_isSound_83 : decode cL_isSound 83 = .ok (.iconst 0, 1) := by decide +kernel
theorem dL_isSound_84 : decode cL_isSound 84 = .ok (.istore_n 2, 1) := by decide +kernel
theorem dL_isSound_85 : decode cL_isSound 85 = .ok (.iload_n 2, 1) := by decide +kernel
theorem dL_isSound_86 : decode cL_isSound 86 = .ok (.aload_n 0, 1) := by decide +kernel
theorem dL_isSound_87 : decode cL_isSound 87 = .ok (.iconst 0, 1) := by decide +kernel
theorem dL_isSound_88 : decode cL_isSound 88 = .ok (.invokevirtual 97, 3) := by decide +kernel
theorem dL_isSound_91 : decode cL_isSound 91 = .ok (.if_icmp .ge 19, 3) := by decide +kernel
theorem dL_isSound_94 : decode cL_isSound 94 = .ok (.aload_n 0, 1) := by decide +kernel
theorem dL_isSound_95 : decode cL_isSound 95 = .ok (.iload_n 2, 1) := by decide +kernel
theorem dL_isSound_96 : decode cL_isSound 96 = .ok (.invokestatic 118, 3) := by decide +kernel
theorem dL_isSound_99 : decode cL_isSound 99 = .ok (.ifCond .ne 5, 3) := by decide +kernel
theorem dL_isSound_102 : decode cL_isSound 102 = .ok (.iconst 0, 1) := by decide +kernel
theorem dL_isSound_103 : decode cL_isSound 103 = .ok (.ireturn, 1) := by decide +kernel
theorem dL_isSound_104 : decode cL_isSound 104 = .ok (.iinc 2 1, 3) := by decide +kernel
theorem dL_isSound_107 : decode cL_isSound 107 = .ok (.goto (-22), 3) := by decide +kernel
theorem dL_isSound_110 : decode cL_isSound 110 = .ok (.iconst 1, 1) := by decide +kernel
theorem dL_isSound_111 : decode cL_isSound 111 = .ok (.ireturn, 1) := by decide +kernel
theorem dL_isTurned_0 : decode cL_isTurned 0 = .ok (.aload_n 0, 1) := by decide +kernel
theorem dL_isTurned_1 : decode cL_isTurned 1 = .ok (.invokevirtual 121, 3) := by decide +kernel
theorem dL_isTurned_4 : decode cL_isTurned 4 = .ok (.istore_n 1, 1) := by decide +kernel
theorem dL_isTurned_5 : decode cL_isTurned 5 = .ok (.aload_n 0, 1) := by decide +kernel
theorem dL_isTurned_6 : decode cL_isTurned 6 = .ok (.invokevirtual 124, 3) := by decide +kernel
theorem dL_isTurned_9 : decode cL_isTurned 9 = .ok (.istore_n 2, 1) := by decide +kernel
theorem dL_isTurned_10 : decode cL_isTurned 10 = .ok (.aload_n 0, 1) := by decide +kernel
theorem dL_isTurned_11 : decode cL_isTurned 11 = .ok (.iconst 1, 1) := by decide +kernel
theorem dL_isTurned_12 : decode cL_isTurned 12 = .ok (.invokevirtual 127, 3) := by decide +kernel
theorem dL_isTurned_15 : decode cL_isTurned 15 = .ok (.istore_n 3, 1) := by decide +kernel
theorem dL_isTurned_16 : decode cL_isTurned 16 = .ok (.aload_n 0, 1) := by decide +kernel
theorem dL_isTurned_17 : decode cL_isTurned 17 = .ok (.iconst 1, 1) := by decide +kernel
theorem dL_isTurned_18 : decode cL_isTurned 18 = .ok (.invokevirtual 130, 3) := by decide +kernel
theorem dL_isTurned_21 : decode cL_isTurned 21 = .ok (.istore 4, 2) := by decide +kernel
theorem dL_isTurned_23 : decode cL_isTurned 23 = .ok (.aload_n 0, 1) := by decide +kernel
theorem dL_isTurned_24 : decode cL_isTurned 24 = .ok (.bipush 9, 2) := by decide +kernel
theorem dL_isTurned_26 : decode cL_isTurned 26 = .ok (.invokevirtual 97, 3) := by decide +kernel
theorem dL_isTurned_29 : decode cL_isTurned 29 = .ok (.istore 5, 2) := by decide +kernel
theorem dL_isTurned_31 : decode cL_isTurned 31 = .ok (.aload_n 0, 1) := by decide +kernel
theorem dL_isTurned_32 : decode cL_isTurned 32 = .ok (.iconst 3, 1) := by decide +kernel
theorem dL_isTurned_33 : decode cL_isTurned 33 = .ok (.invokevirtual 97, 3) := by decide +kernel
theorem dL_isTurned_36 : decode cL_isTurned 36 = .ok (.istore 6, 2) := by decide +kernel
theorem dL_isTurned_38 : decode cL_isTurned 38 = .ok (.aload_n 0, 1) := by decide +kernel
theorem dL_isTurned_39 : decode cL_isTurned 39 = .ok (.bipush 12, 2) := by decide +kernel
theorem dL_isTurned_41 : decode cL_isTurned 41 = .ok (.invokevirtual 111, 3) := by decide +kernel
theorem dL_isTurned_44 : decode cL_isTurned 44 = .ok (.istore 7, 2) := by decide +kernel
theorem dL_isTurned_46 : decode cL_isTurned 46 = .ok (.aload_n 0, 1) := by decide +kernel
theorem dL_isTurned_47 : decode cL_isTurned 47 = .ok (.bipush 11, 2) := by decide +kernel
theorem dL_isTurned_49 : decode cL_isTurned 49 = .ok (.invokevirtual 111, 3) := by decide +kernel
theorem dL_isTurned_52 : decode cL_isTurned 52 = .ok (.istore 8, 2) := by decide +kernel
theorem dL_isTurned_54 : decode cL_isTurned 54 = .ok (.aload_n 0, 1) := by decide +kernel
theorem dL_isTurned_55 : decode cL_isTurned 55 = .ok (.bipush 7, 2) := by decide +kernel
theorem dL_isTurned_57 : decode cL_isTurned 57 = .ok (.invokevirtual 111, 3) := by decide +kernel
theorem dL_isTurned_60 : decode cL_isTurned 60 = .ok (.istore 9, 2) := by decide +kernel
theorem dL_isTurned_62 : decode cL_isTurned 62 = .ok (.iload_n 2, 1) := by decide +kernel
theorem dL_isTurned_63 : decode cL_isTurned 63 = .ok (.iconst (-1), 1) := by decide +kernel
theorem dL_isTurned_64 : decode cL_isTurned 64 = .ok (.if_icmp .ne 7, 3) := by decide +kernel
theorem dL_isTurned_67 : decode cL_isTurned 67 = .ok (.iconst 0, 1) := by decide +kernel
theorem dL_isTurned_68 : decode cL_isTurned 68 = .ok (.goto 9, 3) := by decide +kernel
theorem dL_isTurned_71 : decode cL_isTurned 71 = .ok (.aload_n 0, 1) := by decide +kernel
theorem dL_isTurned_72 : decode cL_isTurned 72 = .ok (.iload_n 2, 1) := by decide +kernel
theorem dL_isTurned_73 : decode cL_isTurned 73 = .ok (.iload_n 1, 1) := by decide +kernel
theorem dL_isTurned_74 : decode cL_isTurned 74 = .ok (.invokevirtual 133, 3) := by decide +kernel
theorem dL_isTurned_77 : decode cL_isTurned 77 = .ok (.istore 10, 2) := by decide +kernel
theorem dL_isTurned_79 : decode cL_isTurned 79 = .ok (.aload_n 0, 1) := by decide +kernel
theorem dL_isTurned_80 : decode cL_isTurned 80 = .ok (.iconst 1, 1) := by decide +kernel
theorem dL_isTurned_81 : decode cL_isTurned 81 = .ok (.invokevirtual 136, 3) := by decide +kernel
theorem dL_isTurned_84 : decode cL_isTurned 84 = .ok (.iload 4, 2) := by decide +kernel
theorem dL_isTurned_86 : decode cL_isTurned 86 = .ok (.iload 5, 2) := by decide +kernel
theorem dL_isTurned_88 : decode cL_isTurned 88 = .ok (.isub, 1) := by decide +kernel
theorem dL_isTurned_89 : decode cL_isTurned 89 = .ok (.if_icmp .ne 29, 3) := by decide +kernel
theorem dL_isTurned_92 : decode cL_isTurned 92 = .ok (.aload_n 0, 1) := by decide +kernel
theorem dL_isTurned_93 : decode cL_isTurned 93 = .ok (.iconst 3, 1) := by decide +kernel
theorem dL_isTurned_94 : decode cL_isTurned 94 = .ok (.invokevirtual 97, 3) := by decide +kernel
theorem dL_isTurned_97 : decode cL_isTurned 97 = .ok (.iload_n 3, 1) := by decide +kernel
theorem dL_isTurned_98 : decode cL_isTurned 98 = .ok (.if_icmp .ne 20, 3) := by decide +kernel
theorem dL_isTurned_101 : decode cL_isTurned 101 = .ok (.aload_n 0, 1) := by decide +kernel
theorem dL_isTurned_102 : decode cL_isTurned 102 = .ok (.bipush 9, 2) := by decide +kernel
theorem dL_isTurned_104 : decode cL_isTurned 104 = .ok (.invokevirtual 97, 3) := by decide +kernel
theorem dL_isTurned_107 : decode cL_isTurned 107 = .ok (.iload 4, 2) := by decide +kernel
theorem dL_isTurned_109 : decode cL_isTurned 109 = .ok (.if_icmp .ne 9, 3) := by decide +kernel
theorem dL_isTurned_112 : decode cL_isTurned 112 = .ok (.iload_n 3, 1) := by decide +kernel
theorem dL_isTurned_113 : decode cL_isTurned 113 = .ok (.iload 6, 2) := by decide +kernel
theorem dL_isTurned_115 : decode cL_isTurned 115 = .ok (.if_icmp .gt 5, 3) := by decide +kernel
theorem dL_isTurned_118 : decode cL_isTurned 118 = .ok (.iconst 0, 1) := by decide +kernel
theorem dL_isTurned_119 : decode cL_isTurned 119 = .ok (.ireturn, 1) := by decide +kernel
theorem dL_isTurned_120 : decode cL_isTurned 120 = .ok (.aload_n 0, 1) := by decide +kernel
theorem dL_isTurned_121 : decode cL_isTurned 121 = .ok (.iconst 0, 1) := by decide +kernel
theorem dL_isTurned_122 : decode cL_isTurned 122 = .ok (.iconst 0, 1) := by decide +kernel
theorem dL_isTurned_123 : decode cL_isTurned 123 = .ok (.invokevirtual 139, 3) := by decide +kernel
theorem dL_isTurned_126 : decode cL_isTurned 126 = .ok (.iload_n 1, 1) := by decide +kernel
theorem dL_isTurned_127 : decode cL_isTurned 127 = .ok (.if_icmp .ne 67, 3) := by decide +kernel
theorem dL_isTurned_130 : decode cL_isTurned 130 = .ok (.aload_n 0, 1) := by decide +kernel
theorem dL_isTurned_131 : decode cL_isTurned 131 = .ok (.iconst 0, 1) := by decide +kernel
theorem dL_isTurned_132 : decode cL_isTurned 132 = .ok (.iconst 1, 1) := by decide +kernel
theorem dL_isTurned_133 : decode cL_isTurned 133 = .ok (.invokevirtual 139, 3) := by decide +kernel
theorem dL_isTurned_136 : decode cL_isTurned 136 = .ok (.iload_n 2, 1) := by decide +kernel
theorem dL_isTurned_137 : decode cL_isTurned 137 = .ok (.if_icmp .ne 57, 3) := by decide +kernel
theorem dL_isTurned_140 : decode cL_isTurned 140 = .ok (.aload_n 0, 1) := by decide +kernel
theorem dL_isTurned_141 : decode cL_isTurned 141 = .ok (.iconst 0, 1) := by decide +kernel
theorem dL_isTurned_142 : decode cL_isTurned 142 = .ok (.iconst 4, 1) := by decide +kernel
theorem dL_isTurned_143 : decode cL_isTurned 143 = .ok (.invokevirtual 139, 3) := by decide +kernel
theorem dL_isTurned_146 : decode cL_isTurned 146 = .ok (.iload_n 3, 1) := by decide +kernel
theorem dL_isTurned_147 : decode cL_isTurned 147 = .ok (.if_icmp .ne 47, 3) := by decide +kernel
theorem dL_isTurned_150 : decode cL_isTurned 150 = .ok (.aload_n 0, 1) := by decide +kernel
theorem dL_isTurned_151 : decode cL_isTurned 151 = .ok (.bipush 12, 2) := by decide +kernel
theorem dL_isTurned_153 : decode cL_isTurned 153 = .ok (.invokevirtual 111, 3) := by decide +kernel
theorem dL_isTurned_156 : decode cL_isTurned 156 = .ok (.iload 7, 2) := by decide +kernel
theorem dL_isTurned_158 : decode cL_isTurned 158 = .ok (.iload_n 1, 1) := by decide +kernel
theorem dL_isTurned_159 : decode cL_isTurned 159 = .ok (.iconst 3, 1) := by decide +kernel
theorem dL_isTurned_160 : decode cL_isTurned 160 = .ok (.if_icmp .ne 7, 3) := by decide +kernel
theorem dL_isTurned_163 : decode cL_isTurned 163 = .ok (.iconst 1, 1) := by decide +kernel
theorem dL_isTurned_164 : decode cL_isTurned 164 = .ok (.goto 4, 3) := by decide +kernel
theorem dL_isTurned_167 : decode cL_isTurned 167 = .ok (.iconst 0, 1) := by decide +kernel
theorem dL_isTurned_168 : decode cL_isTurned 168 = .ok (.iadd, 1) := by decide +kernel
theorem dL_isTurned_169 : decode cL_isTurned 169 = .ok (.if_icmp .ne 25, 3) := by decide +kernel
theorem dL_isTurned_172 : decode cL_isTurned 172 = .ok (.aload_n 0, 1) := by decide +kernel
theorem dL_isTurned_173 : decode cL_isTurned 173 = .ok (.bipush 11, 2) := by decide +kernel
theorem dL_isTurned_175 : decode cL_isTurned 175 = .ok (.invokevirtual 111, 3) := by decide +kernel
theorem dL_isTurned_178 : decode cL_isTurned 178 = .ok (.iload 8, 2) := by decide +kernel
theorem dL_isTurned_180 : decode cL_isTurned 180 = .ok (.iload_n 1, 1) := by decide +kernel
theorem dL_isTurned_181 : decode cL_isTurned 181 = .ok (.iconst 2, 1) := by decide +kernel
theorem dL_isTurned_182 : decode cL_isTurned 182 = .ok (.if_icmp .ne 7, 3) := by decide +kernel
theorem dL_isTurned_185 : decode cL_isTurned 185 = .ok (.iconst 1, 1) := by decide +kernel
theorem dL_isTurned_186 : decode cL_isTurned 186 = .ok (.goto 4, 3) := by decide +kernel
theorem dL_isTurned_189 : decode cL_isTurned 189 = .ok (.iconst 0, 1) := by decide +kernel
theorem dL_isTurned_190 : decode cL_isTurned 190 = .ok (.iadd, 1) := by decide +kernel
theorem dL_isTurned_191 : decode cL_isTurned 191 = .ok (.if_icmp .eq 5, 3) := by decide +kernel
theorem dL_isTurned_194 : decode cL_isTurned 194 = .ok (.iconst 0, 1) := by decide +kernel
theorem dL_isTurned_195 : decode cL_isTurned 195 = .ok (.ireturn, 1) := by decide +kernel
theorem dL_isTurned_196 : decode cL_isTurned 196 = .ok (.iload_n 1, 1) := by decide +kernel
theorem dL_isTurned_197 : decode cL_isTurned 197 = .ok (.iconst 3, 1) := by decide +kernel
theorem dL_isTurned_198 : decode cL_isTurned 198 = .ok (.if_icmp .ne 40, 3) := by decide +kernel
theorem dL_isTurned_201 : decode cL_isTurned 201 = .ok (.aload_n 0, 1) := by decide +kernel
theorem dL_isTurned_202 : decode cL_isTurned 202 = .ok (.iconst 0, 1) := by decide +kernel
theorem dL_isTurned_203 : decode cL_isTurned 203 = .ok (.iconst 3, 1) := by decide +kernel
theorem dL_isTurned_204 : decode cL_isTurned 204 = .ok (.invokevirtual 139, 3) := by decide +kernel
theorem dL_isTurned_207 : decode cL_isTurned 207 = .ok (.ifCond .ne 29, 3) := by decide +kernel
theorem dL_isTurned_210 : decode cL_isTurned 210 = .ok (.aload_n 0, 1) := by decide +kernel
theorem dL_isTurned_211 : decode cL_isTurned 211 = .ok (.iconst 0, 1) := by decide +kernel
theorem dL_isTurned_212 : decode cL_isTurned 212 = .ok (.iconst 2, 1) := by decide +kernel
theorem dL_isTurned_213 : decode cL_isTurned 213 = .ok (.invokevirtual 139, 3) := by decide +kernel
theorem dL_isTurned_216 : decode cL_isTurned 216 = .ok (.ifCond .ne 20, 3) := by decide +kernel
theorem dL_isTurned_219 : decode cL_isTurned 219 = .ok (.iload_n 3, 1) := by decide +kernel
theorem dL_isTurned_220 : decode cL_isTurned 220 = .ok (.iload 6, 2) := by decide +kernel
theorem dL_isTurned_222 : decode cL_isTurned 222 = .ok (.iconst 1, 1) := by decide +kernel
theorem dL_isTurned_223 : decode cL_isTurned 223 = .ok (.iadd, 1) := by decide +kernel
theorem dL_isTurned_224 : decode cL_isTurned 224 = .ok (.if_icmp .ne 12, 3) := by decide +kernel
theorem dL_isTurned_227 : decode cL_isTurned 227 = .ok (.iload_n 2, 1) := by decide +kernel
theorem dL_isTurned_228 : decode cL_isTurned 228 = .ok (.iconst (-1), 1) := by decide +kernel
theorem dL_isTurned_229 : decode cL_isTurned 229 = .ok (.if_icmp .ne 7, 3) := by decide +kernel
theorem dL_isTurned_232 : decode cL_isTurned 232 = .ok (.iconst 1, 1) := by decide +kernel
theorem dL_isTurned_233 : decode cL_isTurned 233 = .ok (.goto 4, 3) := by decide +kernel
theorem dL_isTurned_236 : decode cL_isTurned 236 = .ok (.iconst 0, 1) := by decide +kernel
theorem dL_isTurned_237 : decode cL_isTurned 237 = .ok (.ireturn, 1) := by decide +kernel
theorem dL_isTurned_238 : decode cL_isTurned 238 = .ok (.aload_n 0, 1) := by decide +kernel
theorem dL_isTurned_239 : decode cL_isTurned 239 = .ok (.iconst 0, 1) := by decide +kernel
theorem dL_isTurned_240 : decode cL_isTurned 240 = .ok (.iconst 3, 1) := by decide +kernel
theorem dL_isTurned_241 : decode cL_isTurned 241 = .ok (.invokevirtual 139, 3) := by decide +kernel
theorem dL_isTurned_244 : decode cL_isTurned 244 = .ok (.istore 11, 2) := by decide +kernel
theorem dL_isTurned_246 : decode cL_isTurned 246 = .ok (.aload_n 0, 1) := by decide +kernel
theorem dL_isTurned_247 : decode cL_isTurned 247 = .ok (.iconst 0, 1) := by decide +kernel
theorem dL_isTurned_248 : decode cL_isTurned 248 = .ok (.iconst 2, 1) := by decide +kernel
theorem dL_isTurned_249 : decode cL_isTurned 249 = .ok (.invokevirtual 139, 3) := by decide +kernel
theorem dL_isTurned_252 : decode cL_isTurned 252 = .ok (.istore 12, 2) := by decide +kernel
theorem dL_isTurned_254 : decode cL_isTurned 254 = .ok (.aload_n 0, 1) := by decide +kernel
theorem dL_isTurned_255 : decode cL_isTurned 255 = .ok (.iload_n 2, 1) := by decide +kernel
theorem dL_isTurned_256 : decode cL_isTurned 256 = .ok (.iload_n 1, 1) := by decide +kernel
theorem dL_isTurned_257 : decode cL_isTurned 257 = .ok (.invokevirtual 133, 3) := by decide +kernel
theorem dL_isTurned_260 : decode cL_isTurned 260 = .ok (.iload 10, 2) := by decide +kernel
theorem dL_isTurned_262 : decode cL_isTurned 262 = .ok (.iconst 1, 1) := by decide +kernel
theorem dL_isTurned_263 : decode cL_isTurned 263 = .ok (.iadd, 1) := by decide +kernel
theorem dL_isTurned_264 : decode cL_isTurned 264 = .ok (.if_icmp .ne 53, 3) := by decide +kernel
theorem dL_isTurned_267 : decode cL_isTurned 267 = .ok (.iload 11, 2) := by decide +kernel
theorem dL_isTurned_269 : decode cL_isTurned 269 = .ok (.iconst 1, 1) := by decide +kernel
theorem dL_isTurned_270 : decode cL_isTurned 270 = .ok (.if_icmp .lt 47, 3) := by decide +kernel
theorem dL_isTurned_273 : decode cL_isTurned 273 = .ok (.iload 11, 2) := by decide +kernel
theorem dL_isTurned_275 : decode cL_isTurned 275 = .ok (.iload_n 1, 1) := by decide +kernel
theorem dL_isTurned_276 : decode cL_isTurned 276 = .ok (.iconst 2, 1) := by decide +kernel
theorem dL_isTurned_277 : decode cL_isTurned 277 = .ok (.if_icmp .ne 7, 3) := by decide +kernel
theorem dL_isTurned_280 : decode cL_isTurned 280 = .ok (.iconst 1, 1) := by decide +kernel
theorem dL_isTurned_281 : decode cL_isTurned 281 = .ok (.goto 8, 3) := by decide +kernel
theorem dL_isTurned_284 : decode cL_isTurned 284 = .ok (.aload_n 0, 1) := by decide +kernel
theorem dL_isTurned_285 : decode cL_isTurned 285 = .ok (.iconst 1, 1) := by decide +kernel
theorem dL_isTurned_286 : decode cL_isTurned 286 = .ok (.invokevirtual 142, 3) := by decide +kernel
theorem dL_isTurned_289 : decode cL_isTurned 289 = .ok (.if_icmp .gt 28, 3) := by decide +kernel
theorem dL_isTurned_292 : decode cL_isTurned 292 = .ok (.aload_n 0, 1) := by decide +kernel
theorem dL_isTurned_293 : decode cL_isTurned 293 = .ok (.bipush 7, 2) := by decide +kernel
theorem dL_isTurned_295 : decode cL_isTurned 295 = .ok (.invokevirtual 111, 3) := by decide +kernel
theorem dL_isTurned_298 : decode cL_isTurned 298 = .ok (.iload 9, 2) := by decide +kernel
theorem dL_isTurned_300 : decode cL_isTurned 300 = .ok (.iload 11, 2) := by decide +kernel
theorem dL_isTurned_302 : decode cL_isTurned 302 = .ok (.iadd, 1) := by decide +kernel
theorem dL_isTurned_303 : decode cL_isTurned 303 = .ok (.iload 12, 2) := by decide +kernel
theorem dL_isTurned_305 : decode cL_isTurned 305 = .ok (.ifCond .ne 7, 3) := by decide +kernel
theorem dL_isTurned_308 : decode cL_isTurned 308 = .ok (.iconst 0, 1) := by decide +kernel
theorem dL_isTurned_309 : decode cL_isTurned 309 = .ok (.goto 4, 3) := by decide +kernel
theorem dL_isTurned_312 : decode cL_isTurned 312 = .ok (.iconst 1, 1) := by decide +kernel
theorem dL_isTurned_313 : decode cL_isTurned 313 = .ok (.isub, 1) := by decide +kernel
theorem dL_isTurned_314 : decode cL_isTurned 314 = .ok (.if_icmp .eq 5, 3) := by decide +kernel
theorem dL_isTurned_317 : decode cL_isTurned 317 = .ok (.iconst 0, 1) := by decide +kernel
theorem dL_isTurned_318 : decode cL_isTurned 318 = .ok (.ireturn, 1) := by decide +kernel
theorem dL_isTurned_319 : decode cL_isTurned 319 = .ok (.iload 12, 2) := by decide +kernel
theorem dL_isTurned_321 : decode cL_isTurned 321 = .ok (.ifCond .le 34, 3) := by decide +kernel
theorem dL_isTurned_324 : decode cL_isTurned 324 = .ok (.aload_n 0, 1) := by decide +kernel
theorem dL_isTurned_325 : decode cL_isTurned 325 = .ok (.iload_n 2, 1) := by decide +kernel
theorem dL_isTurned_326 : decode cL_isTurned 326 = .ok (.iconst 5, 1) := by decide +kernel
theorem dL_isTurned_327 : decode cL_isTurned 327 = .ok (.invokevirtual 86, 3) := by decide +kernel
theorem dL_isTurned_330 : decode cL_isTurned 330 = .ok (.ifCond .ne 23, 3) := by decide +kernel
theorem dL_isTurned_333 : decode cL_isTurned 333 = .ok (.aload_n 0, 1) := by decide +kernel
theorem dL_isTurned_334 : decode cL_isTurned 334 = .ok (.iload_n 2, 1) := by decide +kernel
theorem dL_isTurned_335 : decode cL_isTurned 335 = .ok (.iconst 4, 1) := by decide +kernel
theorem dL_isTurned_336 : decode cL_isTurned 336 = .ok (.invokevirtual 86, 3) := by decide +kernel
theorem dL_isTurned_339 : decode cL_isTurned 339 = .ok (.iconst 1, 1) := by decide +kernel
theorem dL_isTurned_340 : decode cL_isTurned 340 = .ok (.if_icmp .ne 13, 3) := by decide +kernel
theorem dL_isTurned_343 : decode cL_isTurned 343 = .ok (.aload_n 0, 1) := by decide +kernel
theorem dL_isTurned_344 : decode cL_isTurned 344 = .ok (.iload_n 2, 1) := by decide +kernel
theorem dL_isTurned_345 : decode cL_isTurned 345 = .ok (.iconst 3, 1) := by decide +kernel
theorem dL_isTurned_346 : decode cL_isTurned 346 = .ok (.invokevirtual 86, 3) := by decide +kernel
theorem dL_isTurned_349 : decode cL_isTurned 349 = .ok (.iconst 1, 1) := by decide +kernel
theorem dL_isTurned_350 : decode cL_isTurned 350 = .ok (.if_icmp .eq 5, 3) := by decide +kernel
theorem dL_isTurned_353 : decode cL_isTurned 353 = .ok (.iconst 0, 1) := by decide +kernel
theorem dL_isTurned_354 : decode cL_isTurned 354 = .ok (.ireturn, 1) := by decide +kernel
theorem dL_isTurned_355 : decode cL_isTurned 355 = .ok (.iload_n 1, 1) := by decide +kernel
theorem dL_isTurned_356 : decode cL_isTurned 356 = .ok (.iconst 1, 1) := by decide +kernel
theorem dL_isTurned_357 : decode cL_isTurned 357 = .ok (.if_icmp .ne 23, 3) := by decide +kernel
theorem dL_isTurned_360 : decode cL_isTurned 360 = .ok (.iload 12, 2) := by decide +kernel
theorem dL_isTurned_362 : decode cL_isTurned 362 = .ok (.iconst 1, 1) := by decide +kernel
theorem dL_isTurned_363 : decode cL_isTurned 363 = .ok (.if_icmp .eq 13, 3) := by decide +kernel
theorem dL_isTurned_366 : decode cL_isTurned 366 = .ok (.iload 12, 2) := by decide +kernel
theorem dL_isTurned_368 : decode cL_isTurned 368 = .ok (.iconst 3, 1) := by decide +kernel
theorem dL_isTurned_369 : decode cL_isTurned 369 = .ok (.if_icmp .eq 7, 3) := by decide +kernel
theorem dL_isTurned_372 : decode cL_isTurned 372 = .ok (.iconst 1, 1) := by decide +kernel
theorem dL_isTurned_373 : decode cL_isTurned 373 = .ok (.goto 18, 3) := by decide +kernel
theorem dL_isTurned_376 : decode cL_isTurned 376 = .ok (.iconst 0, 1) := by decide +kernel
theorem dL_isTurned_377 : decode cL_isTurned 377 = .ok (.goto 14, 3) := by decide +kernel
theorem dL_isTurned_380 : decode cL_isTurned 380 = .ok (.iload 12, 2) := by decide +kernel
theorem dL_isTurned_382 : decode cL_isTurned 382 = .ok (.iconst 4, 1) := by decide +kernel
theorem dL_isTurned_383 : decode cL_isTurned 383 = .ok (.if_icmp .eq 7, 3) := by decide +kernel
theorem dL_isTurned_386 : decode cL_isTurned 386 = .ok (.iconst 1, 1) := by decide +kernel
theorem dL_isTurned_387 : decode cL_isTurned 387 = .ok (.goto 4, 3) := by decide +kernel
theorem dL_isTurned_390 : decode cL_isTurned 390 = .ok (.iconst 0, 1) := by decide +kernel
theorem dL_isTurned_391 : decode cL_isTurned 391 = .ok (.ireturn, 1) := by decide +kernel
theorem dL_acts_0 : decode cL_acts 0 = .ok (.aload_n 1, 1) := by decide +kernel
theorem dL_acts_1 : decode cL_acts 1 = .ok (.iload_n 2, 1) := by decide +kernel
theorem dL_acts_2 : decode cL_acts 2 = .ok (.iconst 0, 1) := by decide +kernel
theorem dL_acts_3 : decode cL_acts 3 = .ok (.bipush 7, 2) := by decide +kernel
theorem dL_acts_5 : decode cL_acts 5 = .ok (.invokestatic 59, 3) := by decide +kernel
theorem dL_acts_8 : decode cL_acts 8 = .ok (.istore 4, 2) := by decide +kernel
theorem dL_acts_10 : decode cL_acts 10 = .ok (.aload_n 1, 1) := by decide +kernel
theorem dL_acts_11 : decode cL_acts 11 = .ok (.iload_n 2, 1) := by decide +kernel
theorem dL_acts_12 : decode cL_acts 12 = .ok (.iconst 1, 1) := by decide +kernel
theorem dL_acts_13 : decode cL_acts 13 = .ok (.iadd, 1) := by decide +kernel
theorem dL_acts_14 : decode cL_acts 14 = .ok (.iconst (-1), 1) := by decide +kernel
theorem dL_acts_15 : decode cL_acts 15 = .ok (.iload_n 3, 1) := by decide +kernel
theorem dL_acts_16 : decode cL_acts 16 = .ok (.iconst 1, 1) := by decide +kernel
theorem dL_acts_17 : decode cL_acts 17 = .ok (.isub, 1) := by decide +kernel
theorem dL_acts_18 : decode cL_acts 18 = .ok (.invokestatic 59, 3) := by decide +kernel
theorem dL_acts_21 : decode cL_acts 21 = .ok (.istore 5, 2) := by decide +kernel
theorem dL_acts_23 : decode cL_acts 23 = .ok (.aload_n 1, 1) := by decide +kernel
theorem dL_acts_24 : decode cL_acts 24 = .ok (.iload_n 2, 1) := by decide +kernel
theorem dL_acts_25 : decode cL_acts 25 = .ok (.iconst 2, 1) := by decide +kernel
theorem dL_acts_26 : decode cL_acts 26 = .ok (.iadd, 1) := by decide +kernel
theorem dL_acts_27 : decode cL_acts 27 = .ok (.iconst (-1), 1) := by decide +kernel
theorem dL_acts_28 : decode cL_acts 28 = .ok (.iload_n 3, 1) := by decide +kernel
theorem dL_acts_29 : decode cL_acts 29 = .ok (.iconst 1, 1) := by decide +kernel
theorem dL_acts_30 : decode cL_acts 30 = .ok (.isub, 1) := by decide +kernel
theorem dL_acts_31 : decode cL_acts 31 = .ok (.invokestatic 59, 3) := by decide +kernel
theorem dL_acts_34 : decode cL_acts 34 = .ok (.istore 6, 2) := by decide +kernel
theorem dL_acts_36 : decode cL_acts 36 = .ok (.iconst 0, 1) := by decide +kernel
theorem dL_acts_37 : decode cL_acts 37 = .ok (.istore 7, 2) := by decide +kernel
theorem dL_acts_39 : decode cL_acts 39 = .ok (.iload 4, 2) := by decide +kernel
theorem dL_acts_41 : decode cL_acts 41 = .ok (.iconst 4, 1) := by decide +kernel
theorem dL_acts_42 : decode cL_acts 42 = .ok (.if_icmp .ge 30, 3) := by decide +kernel
theorem dL_acts_45 : decode cL_acts 45 = .ok (.iload 5, 2) := by decide +kernel
theorem dL_acts_47 : decode cL_acts 47 = .ok (.iload 6, 2) := by decide +kernel
theorem dL_acts_49 : decode cL_acts 49 = .ok (.if_icmp .eq 23, 3) := by decide +kernel
theorem dL_acts_52 : decode cL_acts 52 = .ok (.aload_n 0, 1) := by decide +kernel
theorem dL_acts_53 : decode cL_acts 53 = .ok (.iload 5, 2) := by decide +kernel
theorem dL_acts_55 : decode cL_acts 55 = .ok (.iload 6, 2) := by decide +kernel
theorem dL_acts_57 : decode cL_acts 57 = .ok (.aload_n 1, 1) := by decide +kernel
theorem dL_acts_58 : decode cL_acts 58 = .ok (.iload_n 2, 1) := by decide +kernel
theorem dL_acts_59 : decode cL_acts 59 = .ok (.iconst 3, 1) := by decide +kernel
theorem dL_acts_60 : decode cL_acts 60 = .ok (.iadd, 1) := by decide +kernel
theorem dL_acts_61 : decode cL_acts 61 = .ok (.iconst 1, 1) := by decide +kernel
theorem dL_acts_62 : decode cL_acts 62 = .ok (.bipush 12, 2) := by decide +kernel
theorem dL_acts_64 : decode cL_acts 64 = .ok (.invokestatic 59, 3) := by decide +kernel
theorem dL_acts_67 : decode cL_acts 67 = .ok (.invokevirtual 145, 3) := by decide +kernel
theorem dL_acts_70 : decode cL_acts 70 = .ok (.istore 7, 2) := by decide +kernel
theorem dL_acts_72 : decode cL_acts 72 = .ok (.iload 4, 2) := by decide +kernel
theorem dL_acts_74 : decode cL_acts 74 = .ok (.iconst 4, 1) := by decide +kernel
theorem dL_acts_75 : decode cL_acts 75 = .ok (.if_icmp .ne 16, 3) := by decide +kernel
theorem dL_acts_78 : decode cL_acts 78 = .ok (.iload 5, 2) := by decide +kernel
theorem dL_acts_80 : decode cL_acts 80 = .ok (.ifCond .lt 11, 3) := by decide +kernel
theorem dL_acts_83 : decode cL_acts 83 = .ok (.aload_n 0, 1) := by decide +kernel
theorem dL_acts_84 : decode cL_acts 84 = .ok (.iload 5, 2) := by decide +kernel
theorem dL_acts_86 : decode cL_acts 86 = .ok (.invokevirtual 148, 3) := by decide +kernel
theorem dL_acts_89 : decode cL_acts 89 = .ok (.istore 7, 2) := by decide +kernel
theorem dL_acts_91 : decode cL_acts 91 = .ok (.iload 4, 2) := by decide +kernel
theorem dL_acts_93 : decode cL_acts 93 = .ok (.iconst 5, 1) := by decide +kernel
theorem dL_acts_94 : decode cL_acts 94 = .ok (.if_icmp .ne 16, 3) := by decide +kernel
theorem dL_acts_97 : decode cL_acts 97 = .ok (.iload 5, 2) := by decide +kernel
theorem dL_acts_99 : decode cL_acts 99 = .ok (.ifCond .lt 11, 3) := by decide +kernel
theorem dL_acts_102 : decode cL_acts 102 = .ok (.aload_n 0, 1) := by decide +kernel
theorem dL_acts_103 : decode cL_acts 103 = .ok (.iload 5, 2) := by decide +kernel
theorem dL_acts_105 : decode cL_acts 105 = .ok (.invokevirtual 151, 3) := by decide +kernel
theorem dL_acts_108 : decode cL_acts 108 = .ok (.istore 7, 2) := by decide +kernel
theorem dL_acts_110 : decode cL_acts 110 = .ok (.iload 4, 2) := by decide +kernel
theorem dL_acts_112 : decode cL_acts 112 = .ok (.bipush 6, 2) := by decide +kernel
theorem dL_acts_114 : decode cL_acts 114 = .ok (.if_icmp .ne 26, 3) := by decide +kernel
theorem dL_acts_117 : decode cL_acts 117 = .ok (.iload 5, 2) := by decide +kernel
theorem dL_acts_119 : decode cL_acts 119 = .ok (.ifCond .lt 21, 3) := by decide +kernel
theorem dL_acts_122 : decode cL_acts 122 = .ok (.aload_n 0, 1) := by decide +kernel
theorem dL_acts_123 : decode cL_acts 123 = .ok (.iconst 1, 1) := by decide +kernel
theorem dL_acts_124 : decode cL_acts 124 = .ok (.invokevirtual 97, 3) := by decide +kernel
theorem dL_acts_127 : decode cL_acts 127 = .ok (.bipush 16, 2) := by decide +kernel
theorem dL_acts_129 : decode cL_acts 129 = .ok (.if_icmp .ge 11, 3) := by decide +kernel
theorem dL_acts_132 : decode cL_acts 132 = .ok (.aload_n 0, 1) := by decide +kernel
theorem dL_acts_133 : decode cL_acts 133 = .ok (.iload 5, 2) := by decide +kernel
theorem dL_acts_135 : decode cL_acts 135 = .ok (.invokevirtual 154, 3) := by decide +kernel
theorem dL_acts_138 : decode cL_acts 138 = .ok (.istore 7, 2) := by decide +kernel
theorem dL_acts_140 : decode cL_acts 140 = .ok (.iload 4, 2) := by decide +kernel
theorem dL_acts_142 : decode cL_acts 142 = .ok (.bipush 7, 2) := by decide +kernel
theorem dL_acts_144 : decode cL_acts 144 = .ok (.if_icmp .ne 33, 3) := by decide +kernel
theorem dL_acts_147 : decode cL_acts 147 = .ok (.aload_n 0, 1) := by decide +kernel
theorem dL_acts_148 : decode cL_acts 148 = .ok (.iconst 1, 1) := by decide +kernel
theorem dL_acts_149 : decode cL_acts 149 = .ok (.invokevirtual 97, 3) := by decide +kernel
theorem dL_acts_152 : decode cL_acts 152 = .ok (.iconst 1, 1) := by decide +kernel
theorem dL_acts_153 : decode cL_acts 153 = .ok (.if_icmp .le 24, 3) := by decide +kernel
theorem dL_acts_156 : decode cL_acts 156 = .ok (.aload_n 0, 1) := by decide +kernel
theorem dL_acts_157 : decode cL_acts 157 = .ok (.aload_n 1, 1) := by decide +kernel
theorem dL_acts_158 : decode cL_acts 158 = .ok (.iload_n 2, 1) := by decide +kernel
theorem dL_acts_159 : decode cL_acts 159 = .ok (.iconst 3, 1) := by decide +kernel
theorem dL_acts_160 : decode cL_acts 160 = .ok (.iadd, 1) := by decide +kernel
theorem dL_acts_161 : decode cL_acts 161 = .ok (.iconst 0, 1) := by decide +kernel
theorem dL_acts_162 : decode cL_acts 162 = .ok (.aload_n 0, 1) := by decide +kernel
theorem dL_acts_163 : decode cL_acts 163 = .ok (.iconst 1, 1) := by decide +kernel
theorem dL_acts_164 : decode cL_acts 164 = .ok (.invokevirtual 97, 3) := by decide +kernel
theorem dL_acts_167 : decode cL_acts 167 = .ok (.iconst 1, 1) := by decide +kernel
theorem dL_acts_168 : decode cL_acts 168 = .ok (.isub, 1) := by decide +kernel
theorem dL_acts_169 : decode cL_acts 169 = .ok (.invokestatic 59, 3) := by decide +kernel
theorem dL_acts_172 : decode cL_acts 172 = .ok (.invokevirtual 157, 3) := by decide +kernel
theorem dL_acts_175 : decode cL_acts 175 = .ok (.istore 7, 2) := by decide +kernel
theorem dL_acts_177 : decode cL_acts 177 = .ok (.return_, 1) := by decide +kernel
theorem dL_law_0 : decode cL_law 0 = .ok (.new 26, 3) := by decide +kernel
theorem dL_law_3 : decode cL_law 3 = .ok (.dup, 1) := by decide +kernel
theorem dL_law_4 : decode cL_law 4 = .ok (.invokespecial 160, 3) := by decide +kernel
theorem dL_law_7 : decode cL_law 7 = .ok (.astore_n 1, 1) := by decide +kernel
theorem dL_law_8 : decode cL_law 8 = .ok (.aload_n 0, 1) := by decide +kernel
theorem dL_law_9 : decode cL_law 9 = .ok (.iconst 0, 1) := by decide +kernel
theorem dL_law_10 : decode cL_law 10 = .ok (.iconst 1, 1) := by decide +kernel
theorem dL_law_11 : decode cL_law 11 = .ok (.iconst 4, 1) := by decide +kernel
theorem dL_law_12 : decode cL_law 12 = .ok (.invokestatic 59, 3) := by decide +kernel
theorem dL_law_15 : decode cL_law 15 = .ok (.istore_n 2, 1) := by decide +kernel
theorem dL_law_16 : decode cL_law 16 = .ok (.aload_n 1, 1) := by decide +kernel
theorem dL_law_17 : decode cL_law 17 = .ok (.aload_n 0, 1) := by decide +kernel
theorem dL_law_18 : decode cL_law 18 = .ok (.iload_n 2, 1) := by decide +kernel
theorem dL_law_19 : decode cL_law 19 = .ok (.invokestatic 161, 3) := by decide +kernel
theorem dL_law_22 : decode cL_law 22 = .ok (.invokestatic 165, 3) := by decide +kernel
theorem dL_law_25 : decode cL_law 25 = .ok (.iload_n 2, 1) := by decide +kernel
theorem dL_law_26 : decode cL_law 26 = .ok (.if_icmp .ne 10, 3) := by decide +kernel
theorem dL_law_29 : decode cL_law 29 = .ok (.aload_n 1, 1) := by decide +kernel
theorem dL_law_30 : decode cL_law 30 = .ok (.invokestatic 169, 3) := by decide +kernel
theorem dL_law_33 : decode cL_law 33 = .ok (.ifCond .ne 5, 3) := by decide +kernel
theorem dL_law_36 : decode cL_law 36 = .ok (.iconst 0, 1) := by decide +kernel
theorem dL_law_37 : decode cL_law 37 = .ok (.ireturn, 1) := by decide +kernel
theorem dL_law_38 : decode cL_law 38 = .ok (.aload_n 0, 1) := by decide +kernel
theorem dL_law_39 : decode cL_law 39 = .ok (.iconst 1, 1) := by decide +kernel
theorem dL_law_40 : decode cL_law 40 = .ok (.iconst 2, 1) := by decide +kernel
theorem dL_law_41 : decode cL_law 41 = .ok (.bipush 20, 2) := by decide +kernel
theorem dL_law_43 : decode cL_law 43 = .ok (.invokestatic 59, 3) := by decide +kernel
theorem dL_law_46 : decode cL_law 46 = .ok (.istore_n 3, 1) := by decide +kernel
theorem dL_law_47 : decode cL_law 47 = .ok (.iconst 0, 1) := by decide +kernel
theorem dL_law_48 : decode cL_law 48 = .ok (.istore 4, 2) := by decide +kernel
theorem dL_law_50 : decode cL_law 50 = .ok (.iload 4, 2) := by decide +kernel
theorem dL_law_52 : decode cL_law 52 = .ok (.iload_n 3, 1) := by decide +kernel
theorem dL_law_53 : decode cL_law 53 = .ok (.if_icmp .ge 38, 3) := by decide +kernel
theorem dL_law_56 : decode cL_law 56 = .ok (.aload_n 1, 1) := by decide +kernel
theorem dL_law_57 : decode cL_law 57 = .ok (.aload_n 0, 1) := by decide +kernel
theorem dL_law_58 : decode cL_law 58 = .ok (.bipush 40, 2) := by decide +kernel
theorem dL_law_60 : decode cL_law 60 = .ok (.iconst 4, 1) := by decide +kernel
theorem dL_law_61 : decode cL_law 61 = .ok (.iload 4, 2) := by decide +kernel
theorem dL_law_63 : decode cL_law 63 = .ok (.imul, 1) := by decide +kernel
theorem dL_law_64 : decode cL_law 64 = .ok (.iadd, 1) := by decide +kernel
theorem dL_law_65 : decode cL_law 65 = .ok (.iload_n 2, 1) := by decide +kernel
theorem dL_law_66 : decode cL_law 66 = .ok (.invokestatic 173, 3) := by decide +kernel
theorem dL_law_69 : decode cL_law 69 = .ok (.aload_n 1, 1) := by decide +kernel
theorem dL_law_70 : decode cL_law 70 = .ok (.invokestatic 177, 3) := by decide +kernel
theorem dL_law_73 : decode cL_law 73 = .ok (.ifCond .eq 10, 3) := by decide +kernel
theorem dL_law_76 : decode cL_law 76 = .ok (.aload_n 1, 1) := by decide +kernel
theorem dL_law_77 : decode cL_law 77 = .ok (.invokestatic 169, 3) := by decide +kernel
theorem dL_law_80 : decode cL_law 80 = .ok (.ifCond .ne 5, 3) := by decide +kernel
theorem dL_law_83 : decode cL_law 83 = .ok (.iconst 0, 1) := by decide +kernel
theorem dL_law_84 : decode cL_law 84 = .ok (.ireturn, 1) := by decide +kernel
theorem dL_law_85 : decode cL_law 85 = .ok (.iinc 4 1, 3) := by decide +kernel
theorem dL_law_88 : decode cL_law 88 = .ok (.goto (-38), 3) := by decide +kernel
theorem dL_law_91 : decode cL_law 91 = .ok (.aload_n 1, 1) := by decide +kernel
theorem dL_law_92 : decode cL_law 92 = .ok (.invokevirtual 180, 3) := by decide +kernel
theorem dL_law_95 : decode cL_law 95 = .ok (.istore 4, 2) := by decide +kernel
theorem dL_law_97 : decode cL_law 97 = .ok (.aload_n 1, 1) := by decide +kernel
theorem dL_law_98 : decode cL_law 98 = .ok (.bipush 9, 2) := by decide +kernel
theorem dL_law_100 : decode cL_law 100 = .ok (.invokevirtual 97, 3) := by decide +kernel
theorem dL_law_103 : decode cL_law 103 = .ok (.istore 5, 2) := by decide +kernel
theorem dL_law_105 : decode cL_law 105 = .ok (.aload_n 1, 1) := by decide +kernel
theorem dL_law_106 : decode cL_law 106 = .ok (.invokevirtual 183, 3) := by decide +kernel
theorem dL_law_109 : decode cL_law 109 = .ok (.istore 6, 2) := by decide +kernel
theorem dL_law_111 : decode cL_law 111 = .ok (.aload_n 0, 1) := by decide +kernel
theorem dL_law_112 : decode cL_law 112 = .ok (.sipush 130, 3) := by decide +kernel
theorem dL_law_115 : decode cL_law 115 = .ok (.iconst 1, 1) := by decide +kernel
theorem dL_law_116 : decode cL_law 116 = .ok (.bipush 60, 2) := by decide +kernel
theorem dL_law_118 : decode cL_law 118 = .ok (.invokestatic 59, 3) := by decide +kernel
theorem dL_law_121 : decode cL_law 121 = .ok (.istore 7, 2) := by decide +kernel
theorem dL_law_123 : decode cL_law 123 = .ok (.aload_n 1, 1) := by decide +kernel
theorem dL_law_124 : decode cL_law 124 = .ok (.iload 7, 2) := by decide +kernel
theorem dL_law_126 : decode cL_law 126 = .ok (.invokevirtual 130, 3) := by decide +kernel
theorem dL_law_129 : decode cL_law 129 = .ok (.istore 8, 2) := by decide +kernel
theorem dL_law_131 : decode cL_law 131 = .ok (.aload_n 1, 1) := by decide +kernel
theorem dL_law_132 : decode cL_law 132 = .ok (.iconst 2, 1) := by decide +kernel
theorem dL_law_133 : decode cL_law 133 = .ok (.invokevirtual 97, 3) := by decide +kernel
theorem dL_law_136 : decode cL_law 136 = .ok (.ifCond .le 11, 3) := by decide +kernel
theorem dL_law_139 : decode cL_law 139 = .ok (.aload_n 1, 1) := by decide +kernel
theorem dL_law_140 : decode cL_law 140 = .ok (.iconst 0, 1) := by decide +kernel
theorem dL_law_141 : decode cL_law 141 = .ok (.invokevirtual 186, 3) := by decide +kernel
theorem dL_law_144 : decode cL_law 144 = .ok (.goto 4, 3) := by decide +kernel
theorem dL_law_147 : decode cL_law 147 = .ok (.iconst (-1), 1) := by decide +kernel
theorem dL_law_148 : decode cL_law 148 = .ok (.istore 9, 2) := by decide +kernel
theorem dL_law_150 : decode cL_law 150 = .ok (.aload_n 1, 1) := by decide +kernel
theorem dL_law_151 : decode cL_law 151 = .ok (.iload 7, 2) := by decide +kernel
theorem dL_law_153 : decode cL_law 153 = .ok (.invokevirtual 136, 3) := by decide +kernel
theorem dL_law_156 : decode cL_law 156 = .ok (.iload 8, 2) := by decide +kernel
theorem dL_law_158 : decode cL_law 158 = .ok (.iload 5, 2) := by decide +kernel
theorem dL_law_160 : decode cL_law 160 = .ok (.isub, 1) := by decide +kernel
theorem dL_law_161 : decode cL_law 161 = .ok (.if_icmp .ne 37, 3) := by decide +kernel
theorem dL_law_164 : decode cL_law 164 = .ok (.aload_n 1, 1) := by decide +kernel
theorem dL_law_165 : decode cL_law 165 = .ok (.bipush 9, 2) := by decide +kernel
theorem dL_law_167 : decode cL_law 167 = .ok (.invokevirtual 97, 3) := by decide +kernel
theorem dL_law_170 : decode cL_law 170 = .ok (.iload 8, 2) := by decide +kernel
theorem dL_law_172 : decode cL_law 172 = .ok (.if_icmp .ne 26, 3) := by decide +kernel
theorem dL_law_175 : decode cL_law 175 = .ok (.iload 6, 2) := by decide +kernel
theorem dL_law_177 : decode cL_law 177 = .ok (.iconst (-1), 1) := by decide +kernel
theorem dL_law_178 : decode cL_law 178 = .ok (.if_icmp .eq 22, 3) := by decide +kernel
theorem dL_law_181 : decode cL_law 181 = .ok (.iload 6, 2) := by decide +kernel
theorem dL_law_183 : decode cL_law 183 = .ok (.iload 7, 2) := by decide +kernel
theorem dL_law_185 : decode cL_law 185 = .ok (.if_icmp .gt 15, 3) := by decide +kernel
theorem dL_law_188 : decode cL_law 188 = .ok (.iload 8, 2) := by decide +kernel
theorem dL_law_190 : decode cL_law 190 = .ok (.aload_n 1, 1) := by decide +kernel
theorem dL_law_191 : decode cL_law 191 = .ok (.iconst 2, 1) := by decide +kernel
theorem dL_law_192 : decode cL_law 192 = .ok (.invokevirtual 97, 3) := by decide +kernel
theorem dL_law_195 : decode cL_law 195 = .ok (.if_icmp .eq 5, 3) := by decide +kernel
theorem dL_law_198 : decode cL_law 198 = .ok (.iconst 0, 1) := by decide +kernel
theorem dL_law_199 : decode cL_law 199 = .ok (.ireturn, 1) := by decide +kernel
theorem dL_law_200 : decode cL_law 200 = .ok (.aload_n 1, 1) := by decide +kernel
theorem dL_law_201 : decode cL_law 201 = .ok (.iconst 2, 1) := by decide +kernel
theorem dL_law_202 : decode cL_law 202 = .ok (.invokevirtual 97, 3) := by decide +kernel
theorem dL_law_205 : decode cL_law 205 = .ok (.ifCond .le 26, 3) := by decide +kernel
theorem dL_law_208 : decode cL_law 208 = .ok (.iload 9, 2) := by decide +kernel
theorem dL_law_210 : decode cL_law 210 = .ok (.iconst (-1), 1) := by decide +kernel
theorem dL_law_211 : decode cL_law 211 = .ok (.if_icmp .eq 20, 3) := by decide +kernel
theorem dL_law_214 : decode cL_law 214 = .ok (.iload 9, 2) := by decide +kernel
theorem dL_law_216 : decode cL_law 216 = .ok (.iload 7, 2) := by decide +kernel
theorem dL_law_218 : decode cL_law 218 = .ok (.if_icmp .gt 13, 3) := by decide +kernel
theorem dL_law_221 : decode cL_law 221 = .ok (.aload_n 1, 1) := by decide +kernel
theorem dL_law_222 : decode cL_law 222 = .ok (.iconst 0, 1) := by decide +kernel
theorem dL_law_223 : decode cL_law 223 = .ok (.iconst 3, 1) := by decide +kernel
theorem dL_law_224 : decode cL_law 224 = .ok (.invokevirtual 90, 3) := by decide +kernel
theorem dL_law_227 : decode cL_law 227 = .ok (.iconst 3, 1) := by decide +kernel
theorem dL_law_228 : decode cL_law 228 = .ok (.if_icmp .ne 35, 3) := by decide +kernel
theorem dL_law_231 : decode cL_law 231 = .ok (.aload_n 1, 1) := by decide +kernel
theorem dL_law_232 : decode cL_law 232 = .ok (.iconst 2, 1) := by decide +kernel
theorem dL_law_233 : decode cL_law 233 = .ok (.invokevirtual 97, 3) := by decide +kernel
theorem dL_law_236 : decode cL_law 236 = .ok (.ifCond .le 20, 3) := by decide +kernel
theorem dL_law_239 : decode cL_law 239 = .ok (.iload 9, 2) := by decide +kernel
theorem dL_law_241 : decode cL_law 241 = .ok (.iload 7, 2) := by decide +kernel
theorem dL_law_243 : decode cL_law 243 = .ok (.if_icmp .le 13, 3) := by decide +kernel
theorem dL_law_246 : decode cL_law 246 = .ok (.aload_n 1, 1) := by decide +kernel
theorem dL_law_247 : decode cL_law 247 = .ok (.iconst 0, 1) := by decide +kernel
theorem dL_law_248 : decode cL_law 248 = .ok (.iconst 3, 1) := by decide +kernel
theorem dL_law_249 : decode cL_law 249 = .ok (.invokevirtual 90, 3) := by decide +kernel
theorem dL_law_252 : decode cL_law 252 = .ok (.iconst 3, 1) := by decide +kernel
theorem dL_law_253 : decode cL_law 253 = .ok (.if_icmp .eq 10, 3) := by decide +kernel
theorem dL_law_256 : decode cL_law 256 = .ok (.aload_n 1, 1) := by decide +kernel
theorem dL_law_257 : decode cL_law 257 = .ok (.invokestatic 169, 3) := by decide +kernel
theorem dL_law_260 : decode cL_law 260 = .ok (.ifCond .ne 5, 3) := by decide +kernel
theorem dL_law_263 : decode cL_law 263 = .ok (.iconst 0, 1) := by decide +kernel
theorem dL_law_264 : decode cL_law 264 = .ok (.ireturn, 1) := by decide +kernel
theorem dL_law_265 : decode cL_law 265 = .ok (.aload_n 1, 1) := by decide +kernel
theorem dL_law_266 : decode cL_law 266 = .ok (.invokevirtual 189, 3) := by decide +kernel
theorem dL_law_269 : decode cL_law 269 = .ok (.ifCond .lt 53, 3) := by decide +kernel
theorem dL_law_272 : decode cL_law 272 = .ok (.aload_n 1, 1) := by decide +kernel
theorem dL_law_273 : decode cL_law 273 = .ok (.bipush 9, 2) := by decide +kernel
theorem dL_law_275 : decode cL_law 275 = .ok (.invokevirtual 97, 3) := by decide +kernel
theorem dL_law_278 : decode cL_law 278 = .ok (.iload 5, 2) := by decide +kernel
theorem dL_law_280 : decode cL_law 280 = .ok (.if_icmp .ne 42, 3) := by decide +kernel
theorem dL_law_283 : decode cL_law 283 = .ok (.aload_n 1, 1) := by decide +kernel
theorem dL_law_284 : decode cL_law 284 = .ok (.iconst 3, 1) := by decide +kernel
theorem dL_law_285 : decode cL_law 285 = .ok (.invokevirtual 97, 3) := by decide +kernel
theorem dL_law_288 : decode cL_law 288 = .ok (.iload 4, 2) := by decide +kernel
theorem dL_law_290 : decode cL_law 290 = .ok (.if_icmp .ne 32, 3) := by decide +kernel
theorem dL_law_293 : decode cL_law 293 = .ok (.aload_n 1, 1) := by decide +kernel
theorem dL_law_294 : decode cL_law 294 = .ok (.invokevirtual 192, 3) := by decide +kernel
theorem dL_law_297 : decode cL_law 297 = .ok (.iload 4, 2) := by decide +kernel
theorem dL_law_299 : decode cL_law 299 = .ok (.if_icmp .ne 23, 3) := by decide +kernel
theorem dL_law_302 : decode cL_law 302 = .ok (.aload_n 1, 1) := by decide +kernel
theorem dL_law_303 : decode cL_law 303 = .ok (.bipush 12, 2) := by decide +kernel
theorem dL_law_305 : decode cL_law 305 = .ok (.invokevirtual 97, 3) := by decide +kernel
theorem dL_law_308 : decode cL_law 308 = .ok (.ifCond .ne 14, 3) := by decide +kernel
theorem dL_law_311 : decode cL_law 311 = .ok (.aload_n 1, 1) := by decide +kernel
theorem dL_law_312 : decode cL_law 312 = .ok (.invokestatic 169, 3) := by decide +kernel
theorem dL_law_315 : decode cL_law 315 = .ok (.ifCond .eq 7, 3) := by decide +kernel
theorem dL_law_318 : decode cL_law 318 = .ok (.iconst 1, 1) := by decide +kernel
theorem dL_law_319 : decode cL_law 319 = .ok (.goto 4, 3) := by decide +kernel
theorem dL_law_322 : decode cL_law 322 = .ok (.iconst 0, 1) := by decide +kernel
theorem dL_law_323 : decode cL_law 323 = .ok (.ireturn, 1) := by decide +kernel
