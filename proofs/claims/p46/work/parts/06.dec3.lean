theorem dX11_init_0 : decode cX11_init 0 = .ok (.aload_n 0, 1) := by decide +kernel
theorem dX11_init_1 : decode cX11_init 1 = .ok (.invokespecial 1, 3) := by decide +kernel
theorem dX11_init_4 : decode cX11_init 4 = .ok (.aload_n 0, 1) := by decide +kernel
theorem dX11_init_5 : decode cX11_init 5 = .ok (.new 7, 3) := by decide +kernel
theorem dX11_init_8 : decode cX11_init 8 = .ok (.dup, 1) := by decide +kernel
theorem dX11_init_9 : decode cX11_init 9 = .ok (.invokespecial 9, 3) := by decide +kernel
theorem dX11_init_12 : decode cX11_init 12 = .ok (.putfield 10, 3) := by decide +kernel
theorem dX11_init_15 : decode cX11_init 15 = .ok (.aload_n 0, 1) := by decide +kernel
theorem dX11_init_16 : decode cX11_init 16 = .ok (.new 16, 3) := by decide +kernel
theorem dX11_init_19 : decode cX11_init 19 = .ok (.dup, 1) := by decide +kernel
theorem dX11_init_20 : decode cX11_init 20 = .ok (.aload_n 0, 1) := by decide +kernel
theorem dX11_init_21 : decode cX11_init 21 = .ok (.getfield 10, 3) := by decide +kernel
theorem dX11_init_24 : decode cX11_init 24 = .ok (.invokespecial 18, 3) := by decide +kernel
theorem dX11_init_27 : decode cX11_init 27 = .ok (.putfield 21, 3) := by decide +kernel
theorem dX11_init_30 : decode cX11_init 30 = .ok (.aload_n 0, 1) := by decide +kernel
theorem dX11_init_31 : decode cX11_init 31 = .ok (.new 25, 3) := by decide +kernel
theorem dX11_init_34 : decode cX11_init 34 = .ok (.dup, 1) := by decide +kernel
theorem dX11_init_35 : decode cX11_init 35 = .ok (.aload_n 0, 1) := by decide +kernel
theorem dX11_init_36 : decode cX11_init 36 = .ok (.getfield 21, 3) := by decide +kernel
theorem dX11_init_39 : decode cX11_init 39 = .ok (.invokespecial 27, 3) := by decide +kernel
theorem dX11_init_42 : decode cX11_init 42 = .ok (.putfield 30, 3) := by decide +kernel
theorem dX11_init_45 : decode cX11_init 45 = .ok (.aload_n 0, 1) := by decide +kernel
theorem dX11_init_46 : decode cX11_init 46 = .ok (.new 16, 3) := by decide +kernel
theorem dX11_init_49 : decode cX11_init 49 = .ok (.dup, 1) := by decide +kernel
theorem dX11_init_50 : decode cX11_init 50 = .ok (.aload_n 0, 1) := by decide +kernel
theorem dX11_init_51 : decode cX11_init 51 = .ok (.getfield 10, 3) := by decide +kernel
theorem dX11_init_54 : decode cX11_init 54 = .ok (.invokespecial 18, 3) := by decide +kernel
theorem dX11_init_57 : decode cX11_init 57 = .ok (.putfield 34, 3) := by decide +kernel
theorem dX11_init_60 : decode cX11_init 60 = .ok (.aload_n 0, 1) := by decide +kernel
theorem dX11_init_61 : decode cX11_init 61 = .ok (.new 25, 3) := by decide +kernel
theorem dX11_init_64 : decode cX11_init 64 = .ok (.dup, 1) := by decide +kernel
theorem dX11_init_65 : decode cX11_init 65 = .ok (.aload_n 0, 1) := by decide +kernel
theorem dX11_init_66 : decode cX11_init 66 = .ok (.getfield 34, 3) := by decide +kernel
theorem dX11_init_69 : decode cX11_init 69 = .ok (.invokespecial 27, 3) := by decide +kernel
theorem dX11_init_72 : decode cX11_init 72 = .ok (.putfield 37, 3) := by decide +kernel
theorem dX11_init_75 : decode cX11_init 75 = .ok (.aload_n 0, 1) := by decide +kernel
theorem dX11_init_76 : decode cX11_init 76 = .ok (.new 16, 3) := by decide +kernel
theorem dX11_init_79 : decode cX11_init 79 = .ok (.dup, 1) := by decide +kernel
theorem dX11_init_80 : decode cX11_init 80 = .ok (.aload_n 0, 1) := by decide +kernel
theorem dX11_init_81 : decode cX11_init 81 = .ok (.getfield 10, 3) := by decide +kernel
theorem dX11_init_84 : decode cX11_init 84 = .ok (.invokespecial 18, 3) := by decide +kernel
theorem dX11_init_87 : decode cX11_init 87 = .ok (.putfield 40, 3) := by decide +kernel
theorem dX11_init_90 : decode cX11_init 90 = .ok (.aload_n 0, 1) := by decide +kernel
theorem dX11_init_91 : decode cX11_init 91 = .ok (.new 43, 3) := by decide +kernel
theorem dX11_init_94 : decode cX11_init 94 = .ok (.dup, 1) := by decide +kernel
theorem dX11_init_95 : decode cX11_init 95 = .ok (.aload_n 0, 1) := by decide +kernel
theorem dX11_init_96 : decode cX11_init 96 = .ok (.getfield 10, 3) := by decide +kernel
theorem dX11_init_99 : decode cX11_init 99 = .ok (.invokespecial 45, 3) := by decide +kernel
theorem dX11_init_102 : decode cX11_init 102 = .ok (.putfield 46, 3) := by decide +kernel
theorem dX11_init_105 : decode cX11_init 105 = .ok (.aload_n 0, 1) := by decide +kernel
theorem dX11_init_106 : decode cX11_init 106 = .ok (.new 50, 3) := by decide +kernel
theorem dX11_init_109 : decode cX11_init 109 = .ok (.dup, 1) := by decide +kernel
theorem dX11_init_110 : decode cX11_init 110 = .ok (.invokespecial 52, 3) := by decide +kernel
theorem dX11_init_113 : decode cX11_init 113 = .ok (.putfield 53, 3) := by decide +kernel
theorem dX11_init_116 : decode cX11_init 116 = .ok (.aload_n 0, 1) := by decide +kernel
theorem dX11_init_117 : decode cX11_init 117 = .ok (.new 57, 3) := by decide +kernel
theorem dX11_init_120 : decode cX11_init 120 = .ok (.dup, 1) := by decide +kernel
theorem dX11_init_121 : decode cX11_init 121 = .ok (.aload_n 0, 1) := by decide +kernel
theorem dX11_init_122 : decode cX11_init 122 = .ok (.getfield 53, 3) := by decide +kernel
theorem dX11_init_125 : decode cX11_init 125 = .ok (.invokespecial 59, 3) := by decide +kernel
theorem dX11_init_128 : decode cX11_init 128 = .ok (.putfield 62, 3) := by decide +kernel
theorem dX11_init_131 : decode cX11_init 131 = .ok (.aload_n 0, 1) := by decide +kernel
theorem dX11_init_132 : decode cX11_init 132 = .ok (.new 66, 3) := by decide +kernel
theorem dX11_init_135 : decode cX11_init 135 = .ok (.dup, 1) := by decide +kernel
theorem dX11_init_136 : decode cX11_init 136 = .ok (.aload_n 0, 1) := by decide +kernel
theorem dX11_init_137 : decode cX11_init 137 = .ok (.getfield 53, 3) := by decide +kernel
theorem dX11_init_140 : decode cX11_init 140 = .ok (.aload_n 0, 1) := by decide +kernel
theorem dX11_init_141 : decode cX11_init 141 = .ok (.getfield 10, 3) := by decide +kernel
theorem dX11_init_144 : decode cX11_init 144 = .ok (.invokespecial 68, 3) := by decide +kernel
theorem dX11_init_147 : decode cX11_init 147 = .ok (.putfield 71, 3) := by decide +kernel
theorem dX11_init_150 : decode cX11_init 150 = .ok (.aload_n 0, 1) := by decide +kernel
theorem dX11_init_151 : decode cX11_init 151 = .ok (.sipush 160, 3) := by decide +kernel
theorem dX11_init_154 : decode cX11_init 154 = .ok (.newarray .int, 2) := by decide +kernel
theorem dX11_init_156 : decode cX11_init 156 = .ok (.putfield 75, 3) := by decide +kernel
theorem dX11_init_159 : decode cX11_init 159 = .ok (.aload_n 0, 1) := by decide +kernel
theorem dX11_init_160 : decode cX11_init 160 = .ok (.iconst 0, 1) := by decide +kernel
theorem dX11_init_161 : decode cX11_init 161 = .ok (.putfield 79, 3) := by decide +kernel
theorem dX11_init_164 : decode cX11_init 164 = .ok (.aload_n 0, 1) := by decide +kernel
theorem dX11_init_165 : decode cX11_init 165 = .ok (.iconst 0, 1) := by decide +kernel
theorem dX11_init_166 : decode cX11_init 166 = .ok (.putfield 83, 3) := by decide +kernel
theorem dX11_init_169 : decode cX11_init 169 = .ok (.iconst 0, 1) := by decide +kernel
theorem dX11_init_170 : decode cX11_init 170 = .ok (.istore_n 1, 1) := by decide +kernel
theorem dX11_init_171 : decode cX11_init 171 = .ok (.iload_n 1, 1) := by decide +kernel
theorem dX11_init_172 : decode cX11_init 172 = .ok (.ldc 87, 2) := by decide +kernel
theorem dX11_init_174 : decode cX11_init 174 = .ok (.invokevirtual 89, 3) := by decide +kernel
theorem dX11_init_177 : decode cX11_init 177 = .ok (.if_icmp .ge 22, 3) := by decide +kernel
theorem dX11_init_180 : decode cX11_init 180 = .ok (.aload_n 0, 1) := by decide +kernel
theorem dX11_init_181 : decode cX11_init 181 = .ok (.getfield 53, 3) := by decide +kernel
theorem dX11_init_184 : decode cX11_init 184 = .ok (.ldc 87, 2) := by decide +kernel
theorem dX11_init_186 : decode cX11_init 186 = .ok (.iload_n 1, 1) := by decide +kernel
theorem dX11_init_187 : decode cX11_init 187 = .ok (.invokevirtual 95, 3) := by decide +kernel
theorem dX11_init_190 : decode cX11_init 190 = .ok (.invokevirtual 99, 3) := by decide +kernel
theorem dX11_init_193 : decode cX11_init 193 = .ok (.iinc 1 1, 3) := by decide +kernel
theorem dX11_init_196 : decode cX11_init 196 = .ok (.goto (-25), 3) := by decide +kernel
theorem dX11_init_199 : decode cX11_init 199 = .ok (.aload_n 0, 1) := by decide +kernel
theorem dX11_init_200 : decode cX11_init 200 = .ok (.getfield 62, 3) := by decide +kernel
theorem dX11_init_203 : decode cX11_init 203 = .ok (.invokevirtual 103, 3) := by decide +kernel
theorem dX11_init_206 : decode cX11_init 206 = .ok (.ifCond .eq 7, 3) := by decide +kernel
theorem dX11_init_209 : decode cX11_init 209 = .ok (.aload_n 0, 1) := by decide +kernel
theorem dX11_init_210 : decode cX11_init 210 = .ok (.invokevirtual 107, 3) := by decide +kernel
theorem dX11_init_213 : decode cX11_init 213 = .ok (.aload_n 0, 1) := by decide +kernel
theorem dX11_init_214 : decode cX11_init 214 = .ok (.getfield 53, 3) := by decide +kernel
theorem dX11_init_217 : decode cX11_init 217 = .ok (.iconst 0, 1) := by decide +kernel
theorem dX11_init_218 : decode cX11_init 218 = .ok (.putfield 110, 3) := by decide +kernel
theorem dX11_init_221 : decode cX11_init 221 = .ok (.return_, 1) := by decide +kernel
theorem dX11_appendInput_0 : decode cX11_appendInput 0 = .ok (.aload_n 0, 1) := by decide +kernel
theorem dX11_appendInput_1 : decode cX11_appendInput 1 = .ok (.getfield 53, 3) := by decide +kernel
theorem dX11_appendInput_4 : decode cX11_appendInput 4 = .ok (.getfield 110, 3) := by decide +kernel
theorem dX11_appendInput_7 : decode cX11_appendInput 7 = .ok (.sipush 580, 3) := by decide +kernel
theorem dX11_appendInput_10 : decode cX11_appendInput 10 = .ok (.if_icmp .le 5, 3) := by decide +kernel
theorem dX11_appendInput_13 : decode cX11_appendInput 13 = .ok (.iconst (-1), 1) := by decide +kernel
theorem dX11_appendInput_14 : decode cX11_appendInput 14 = .ok (.ireturn, 1) := by decide +kernel
theorem dX11_appendInput_15 : decode cX11_appendInput 15 = .ok (.aload_n 0, 1) := by decide +kernel
theorem dX11_appendInput_16 : decode cX11_appendInput 16 = .ok (.getfield 53, 3) := by decide +kernel
theorem dX11_appendInput_19 : decode cX11_appendInput 19 = .ok (.iload_n 1, 1) := by decide +kernel
theorem dX11_appendInput_20 : decode cX11_appendInput 20 = .ok (.invokevirtual 112, 3) := by decide +kernel
theorem dX11_appendInput_23 : decode cX11_appendInput 23 = .ok (.aload_n 0, 1) := by decide +kernel
theorem dX11_appendInput_24 : decode cX11_appendInput 24 = .ok (.getfield 53, 3) := by decide +kernel
theorem dX11_appendInput_27 : decode cX11_appendInput 27 = .ok (.iload_n 2, 1) := by decide +kernel
theorem dX11_appendInput_28 : decode cX11_appendInput 28 = .ok (.invokevirtual 112, 3) := by decide +kernel
theorem dX11_appendInput_31 : decode cX11_appendInput 31 = .ok (.aload_n 0, 1) := by decide +kernel
theorem dX11_appendInput_32 : decode cX11_appendInput 32 = .ok (.getfield 53, 3) := by decide +kernel
theorem dX11_appendInput_35 : decode cX11_appendInput 35 = .ok (.iload_n 3, 1) := by decide +kernel
theorem dX11_appendInput_36 : decode cX11_appendInput 36 = .ok (.invokevirtual 112, 3) := by decide +kernel
theorem dX11_appendInput_39 : decode cX11_appendInput 39 = .ok (.aload_n 0, 1) := by decide +kernel
theorem dX11_appendInput_40 : decode cX11_appendInput 40 = .ok (.getfield 53, 3) := by decide +kernel
theorem dX11_appendInput_43 : decode cX11_appendInput 43 = .ok (.iload 4, 2) := by decide +kernel
theorem dX11_appendInput_45 : decode cX11_appendInput 45 = .ok (.invokevirtual 112, 3) := by decide +kernel
theorem dX11_appendInput_48 : decode cX11_appendInput 48 = .ok (.aload_n 0, 1) := by decide +kernel
theorem dX11_appendInput_49 : decode cX11_appendInput 49 = .ok (.getfield 53, 3) := by decide +kernel
theorem dX11_appendInput_52 : decode cX11_appendInput 52 = .ok (.iload 5, 2) := by decide +kernel
theorem dX11_appendInput_54 : decode cX11_appendInput 54 = .ok (.invokevirtual 112, 3) := by decide +kernel
theorem dX11_appendInput_57 : decode cX11_appendInput 57 = .ok (.aload_n 0, 1) := by decide +kernel
theorem dX11_appendInput_58 : decode cX11_appendInput 58 = .ok (.getfield 53, 3) := by decide +kernel
theorem dX11_appendInput_61 : decode cX11_appendInput 61 = .ok (.getfield 110, 3) := by decide +kernel
theorem dX11_appendInput_64 : decode cX11_appendInput 64 = .ok (.ireturn, 1) := by decide +kernel
theorem dX11_truncateInput_0 : decode cX11_truncateInput 0 = .ok (.iload_n 1, 1) := by decide +kernel
theorem dX11_truncateInput_1 : decode cX11_truncateInput 1 = .ok (.ifCond .lt 14, 3) := by decide +kernel
theorem dX11_truncateInput_4 : decode cX11_truncateInput 4 = .ok (.iload_n 1, 1) := by decide +kernel
theorem dX11_truncateInput_5 : decode cX11_truncateInput 5 = .ok (.aload_n 0, 1) := by decide +kernel
theorem dX11_truncateInput_6 : decode cX11_truncateInput 6 = .ok (.getfield 53, 3) := by decide +kernel
theorem dX11_truncateInput_9 : decode cX11_truncateInput 9 = .ok (.getfield 110, 3) := by decide +kernel
theorem dX11_truncateInput_12 : decode cX11_truncateInput 12 = .ok (.if_icmp .le 5, 3) := by decide +kernel
theorem dX11_truncateInput_15 : decode cX11_truncateInput 15 = .ok (.iconst 0, 1) := by decide +kernel
theorem dX11_truncateInput_16 : decode cX11_truncateInput 16 = .ok (.ireturn, 1) := by decide +kernel
theorem dX11_truncateInput_17 : decode cX11_truncateInput 17 = .ok (.aload_n 0, 1) := by decide +kernel
theorem dX11_truncateInput_18 : decode cX11_truncateInput 18 = .ok (.getfield 53, 3) := by decide +kernel
theorem dX11_truncateInput_21 : decode cX11_truncateInput 21 = .ok (.iload_n 1, 1) := by decide +kernel
theorem dX11_truncateInput_22 : decode cX11_truncateInput 22 = .ok (.putfield 110, 3) := by decide +kernel
theorem dX11_truncateInput_25 : decode cX11_truncateInput 25 = .ok (.iconst 1, 1) := by decide +kernel
theorem dX11_truncateInput_26 : decode cX11_truncateInput 26 = .ok (.ireturn, 1) := by decide +kernel
theorem dX11_loadLine_0 : decode cX11_loadLine 0 = .ok (.aload_n 0, 1) := by decide +kernel
theorem dX11_loadLine_1 : decode cX11_loadLine 1 = .ok (.getfield 62, 3) := by decide +kernel
theorem dX11_loadLine_4 : decode cX11_loadLine 4 = .ok (.invokevirtual 103, 3) := by decide +kernel
theorem dX11_loadLine_7 : decode cX11_loadLine 7 = .ok (.istore_n 1, 1) := by decide +kernel
theorem dX11_loadLine_8 : decode cX11_loadLine 8 = .ok (.aload_n 0, 1) := by decide +kernel
theorem dX11_loadLine_9 : decode cX11_loadLine 9 = .ok (.getfield 53, 3) := by decide +kernel
theorem dX11_loadLine_12 : decode cX11_loadLine 12 = .ok (.iconst 0, 1) := by decide +kernel
theorem dX11_loadLine_13 : decode cX11_loadLine 13 = .ok (.putfield 110, 3) := by decide +kernel
theorem dX11_loadLine_16 : decode cX11_loadLine 16 = .ok (.iload_n 1, 1) := by decide +kernel
theorem dX11_loadLine_17 : decode cX11_loadLine 17 = .ok (.ifCond .ne 5, 3) := by decide +kernel
theorem dX11_loadLine_20 : decode cX11_loadLine 20 = .ok (.iconst (-1), 1) := by decide +kernel
theorem dX11_loadLine_21 : decode cX11_loadLine 21 = .ok (.ireturn, 1) := by decide +kernel
theorem dX11_loadLine_22 : decode cX11_loadLine 22 = .ok (.aload_n 0, 1) := by decide +kernel
theorem dX11_loadLine_23 : decode cX11_loadLine 23 = .ok (.invokevirtual 107, 3) := by decide +kernel
theorem dX11_loadLine_26 : decode cX11_loadLine 26 = .ok (.aload_n 0, 1) := by decide +kernel
theorem dX11_loadLine_27 : decode cX11_loadLine 27 = .ok (.getfield 10, 3) := by decide +kernel
theorem dX11_loadLine_30 : decode cX11_loadLine 30 = .ok (.getfield 115, 3) := by decide +kernel
theorem dX11_loadLine_33 : decode cX11_loadLine 33 = .ok (.ireturn, 1) := by decide +kernel
theorem dX11_beginAnew_0 : decode cX11_beginAnew 0 = .ok (.aload_n 0, 1) := by decide +kernel
theorem dX11_beginAnew_1 : decode cX11_beginAnew 1 = .ok (.getfield 10, 3) := by decide +kernel
theorem dX11_beginAnew_4 : decode cX11_beginAnew 4 = .ok (.aload_n 0, 1) := by decide +kernel
theorem dX11_beginAnew_5 : decode cX11_beginAnew 5 = .ok (.getfield 62, 3) := by decide +kernel
theorem dX11_beginAnew_8 : decode cX11_beginAnew 8 = .ok (.getfield 118, 3) := by decide +kernel
theorem dX11_beginAnew_11 : decode cX11_beginAnew 11 = .ok (.invokevirtual 121, 3) := by decide +kernel
theorem dX11_beginAnew_14 : decode cX11_beginAnew 14 = .ok (.aload_n 0, 1) := by decide +kernel
theorem dX11_beginAnew_15 : decode cX11_beginAnew 15 = .ok (.getfield 21, 3) := by decide +kernel
theorem dX11_beginAnew_18 : decode cX11_beginAnew 18 = .ok (.aload_n 0, 1) := by decide +kernel
theorem dX11_beginAnew_19 : decode cX11_beginAnew 19 = .ok (.getfield 62, 3) := by decide +kernel
theorem dX11_beginAnew_22 : decode cX11_beginAnew 22 = .ok (.invokevirtual 124, 3) := by decide +kernel
theorem dX11_beginAnew_25 : decode cX11_beginAnew 25 = .ok (.aload_n 0, 1) := by decide +kernel
theorem dX11_beginAnew_26 : decode cX11_beginAnew 26 = .ok (.getfield 46, 3) := by decide +kernel
theorem dX11_beginAnew_29 : decode cX11_beginAnew 29 = .ok (.iconst 0, 1) := by decide +kernel
theorem dX11_beginAnew_30 : decode cX11_beginAnew 30 = .ok (.putfield 128, 3) := by decide +kernel
theorem dX11_beginAnew_33 : decode cX11_beginAnew 33 = .ok (.aload_n 0, 1) := by decide +kernel
theorem dX11_beginAnew_34 : decode cX11_beginAnew 34 = .ok (.iconst 0, 1) := by decide +kernel
theorem dX11_beginAnew_35 : decode cX11_beginAnew 35 = .ok (.putfield 83, 3) := by decide +kernel
theorem dX11_beginAnew_38 : decode cX11_beginAnew 38 = .ok (.return_, 1) := by decide +kernel
theorem dX11_count_0 : decode cX11_count 0 = .ok (.iload_n 1, 1) := by decide +kernel
theorem dX11_count_1 : decode cX11_count 1 = .ok (.tableswitch 193 0 12 #[67, 75, 83, 94, 102, 110, 118, 118, 118, 118, 133, 159, 185], 67) := by decide +kernel
theorem dX11_count_68 : decode cX11_count 68 = .ok (.aload_n 0, 1) := by decide +kernel
theorem dX11_count_69 : decode cX11_count 69 = .ok (.getfield 10, 3) := by decide +kernel
theorem dX11_count_72 : decode cX11_count 72 = .ok (.getfield 115, 3) := by decide +kernel
theorem dX11_count_75 : decode cX11_count 75 = .ok (.ireturn, 1) := by decide +kernel
theorem dX11_count_76 : decode cX11_count 76 = .ok (.aload_n 0, 1) := by decide +kernel
theorem dX11_count_77 : decode cX11_count 77 = .ok (.getfield 21, 3) := by decide +kernel
theorem dX11_count_80 : decode cX11_count 80 = .ok (.getfield 173, 3) := by decide +kernel
theorem dX11_count_83 : decode cX11_count 83 = .ok (.ireturn, 1) := by decide +kernel
theorem dX11_count_84 : decode cX11_count 84 = .ok (.aload_n 0, 1) := by decide +kernel
theorem dX11_count_85 : decode cX11_count 85 = .ok (.getfield 21, 3) := by decide +kernel
theorem dX11_count_88 : decode cX11_count 88 = .ok (.getfield 144, 3) := by decide +kernel
theorem dX11_count_91 : decode cX11_count 91 = .ok (.getfield 188, 3) := by decide +kernel
theorem dX11_count_94 : decode cX11_count 94 = .ok (.ireturn, 1) := by decide +kernel
theorem dX11_count_95 : decode cX11_count 95 = .ok (.aload_n 0, 1) := by decide +kernel
theorem dX11_count_96 : decode cX11_count 96 = .ok (.getfield 21, 3) := by decide +kernel
theorem dX11_count_99 : decode cX11_count 99 = .ok (.getfield 189, 3) := by decide +kernel
theorem dX11_count_102 : decode cX11_count 102 = .ok (.ireturn, 1) := by decide +kernel
theorem dX11_count_103 : decode cX11_count 103 = .ok (.aload_n 0, 1) := by decide +kernel
theorem dX11_count_104 : decode cX11_count 104 = .ok (.getfield 21, 3) := by decide +kernel
theorem dX11_count_107 : decode cX11_count 107 = .ok (.getfield 167, 3) := by decide +kernel
theorem dX11_count_110 : decode cX11_count 110 = .ok (.ireturn, 1) := by decide +kernel
theorem dX11_count_111 : decode cX11_count 111 = .ok (.aload_n 0, 1) := by decide +kernel
theorem dX11_count_112 : decode cX11_count 112 = .ok (.getfield 21, 3) := by decide +kernel
theorem dX11_count_115 : decode cX11_count 115 = .ok (.getfield 192, 3) := by decide +kernel
theorem dX11_count_118 : decode cX11_count 118 = .ok (.ireturn, 1) := by decide +kernel
theorem dX11_count_119 : decode cX11_count 119 = .ok (.aload_n 0, 1) := by decide +kernel
theorem dX11_count_120 : decode cX11_count 120 = .ok (.getfield 21, 3) := by decide +kernel
theorem dX11_count_123 : decode cX11_count 123 = .ok (.getfield 144, 3) := by decide +kernel
theorem dX11_count_126 : decode cX11_count 126 = .ok (.iload_n 1, 1) := by decide +kernel
theorem dX11_count_127 : decode cX11_count 127 = .ok (.bipush 6, 2) := by decide +kernel
theorem dX11_count_129 : decode cX11_count 129 = .ok (.isub, 1) := by decide +kernel
theorem dX11_count_130 : decode cX11_count 130 = .ok (.invokevirtual 195, 3) := by decide +kernel
theorem dX11_count_133 : decode cX11_count 133 = .ok (.ireturn, 1) := by decide +kernel
theorem dX11_count_134 : decode cX11_count 134 = .ok (.aload_n 0, 1) := by decide +kernel
theorem dX11_count_135 : decode cX11_count 135 = .ok (.getfield 10, 3) := by decide +kernel
theorem dX11_count_138 : decode cX11_count 138 = .ok (.getfield 115, 3) := by decide +kernel
theorem dX11_count_141 : decode cX11_count 141 = .ok (.aload_n 0, 1) := by decide +kernel
theorem dX11_count_142 : decode cX11_count 142 = .ok (.getfield 21, 3) := by decide +kernel
theorem dX11_count_145 : decode cX11_count 145 = .ok (.aload_n 0, 1) := by decide +kernel
theorem dX11_count_146 : decode cX11_count 146 = .ok (.getfield 21, 3) := by decide +kernel
theorem dX11_count_149 : decode cX11_count 149 = .ok (.getfield 199, 3) := by decide +kernel
theorem dX11_count_152 : decode cX11_count 152 = .ok (.getfield 203, 3) := by decide +kernel
theorem dX11_count_155 : decode cX11_count 155 = .ok (.invokevirtual 208, 3) := by decide +kernel
theorem dX11_count_158 : decode cX11_count 158 = .ok (.isub, 1) := by decide +kernel
theorem dX11_count_159 : decode cX11_count 159 = .ok (.ireturn, 1) := by decide +kernel
theorem dX11_count_160 : decode cX11_count 160 = .ok (.aload_n 0, 1) := by decide +kernel
theorem dX11_count_161 : decode cX11_count 161 = .ok (.getfield 10, 3) := by decide +kernel
theorem dX11_count_164 : decode cX11_count 164 = .ok (.getfield 115, 3) := by decide +kernel
theorem dX11_count_167 : decode cX11_count 167 = .ok (.aload_n 0, 1) := by decide +kernel
theorem dX11_count_168 : decode cX11_count 168 = .ok (.getfield 21, 3) := by decide +kernel
theorem dX11_count_171 : decode cX11_count 171 = .ok (.aload_n 0, 1) := by decide +kernel
theorem dX11_count_172 : decode cX11_count 172 = .ok (.getfield 21, 3) := by decide +kernel
theorem dX11_count_175 : decode cX11_count 175 = .ok (.getfield 199, 3) := by decide +kernel
theorem dX11_count_178 : decode cX11_count 178 = .ok (.getfield 212, 3) := by decide +kernel
theorem dX11_count_181 : decode cX11_count 181 = .ok (.invokevirtual 208, 3) := by decide +kernel
theorem dX11_count_184 : decode cX11_count 184 = .ok (.isub, 1) := by decide +kernel
theorem dX11_count_185 : decode cX11_count 185 = .ok (.ireturn, 1) := by decide +kernel
theorem dX11_count_186 : decode cX11_count 186 = .ok (.aload_n 0, 1) := by decide +kernel
theorem dX11_count_187 : decode cX11_count 187 = .ok (.getfield 46, 3) := by decide +kernel
theorem dX11_count_190 : decode cX11_count 190 = .ok (.getfield 128, 3) := by decide +kernel
theorem dX11_count_193 : decode cX11_count 193 = .ok (.ireturn, 1) := by decide +kernel
theorem dX11_count_194 : decode cX11_count 194 = .ok (.new 215, 3) := by decide +kernel
theorem dX11_count_197 : decode cX11_count 197 = .ok (.dup, 1) := by decide +kernel
theorem dX11_count_198 : decode cX11_count 198 = .ok (.invokespecial 217, 3) := by decide +kernel
theorem dX11_count_201 : decode cX11_count 201 = .ok (.athrow, 1) := by decide +kernel
theorem dX11_account_0 : decode cX11_account 0 = .ok (.iload_n 1, 1) := by decide +kernel
theorem dX11_account_1 : decode cX11_account 1 = .ok (.ifCond .lt 9, 3) := by decide +kernel
theorem dX11_account_4 : decode cX11_account 4 = .ok (.iload_n 1, 1) := by decide +kernel
theorem dX11_account_5 : decode cX11_account 5 = .ok (.bipush 13, 2) := by decide +kernel
theorem dX11_account_7 : decode cX11_account 7 = .ok (.if_icmp .lt 11, 3) := by decide +kernel
theorem dX11_account_10 : decode cX11_account 10 = .ok (.new 215, 3) := by decide +kernel
theorem dX11_account_13 : decode cX11_account 13 = .ok (.dup, 1) := by decide +kernel
theorem dX11_account_14 : decode cX11_account 14 = .ok (.invokespecial 217, 3) := by decide +kernel
theorem dX11_account_17 : decode cX11_account 17 = .ok (.athrow, 1) := by decide +kernel
theorem dX11_account_18 : decode cX11_account 18 = .ok (.aload_n 0, 1) := by decide +kernel
theorem dX11_account_19 : decode cX11_account 19 = .ok (.getfield 21, 3) := by decide +kernel
theorem dX11_account_22 : decode cX11_account 22 = .ok (.getfield 218, 3) := by decide +kernel
theorem dX11_account_25 : decode cX11_account 25 = .ok (.iload_n 1, 1) := by decide +kernel
theorem dX11_account_26 : decode cX11_account 26 = .ok (.iaload, 1) := by decide +kernel
theorem dX11_account_27 : decode cX11_account 27 = .ok (.ireturn, 1) := by decide +kernel
theorem dX11_setting_0 : decode cX11_setting 0 = .ok (.iload_n 1, 1) := by decide +kernel
theorem dX11_setting_1 : decode cX11_setting 1 = .ok (.ifCond .lt 9, 3) := by decide +kernel
theorem dX11_setting_4 : decode cX11_setting 4 = .ok (.iload_n 1, 1) := by decide +kernel
theorem dX11_setting_5 : decode cX11_setting 5 = .ok (.bipush 6, 2) := by decide +kernel
theorem dX11_setting_7 : decode cX11_setting 7 = .ok (.if_icmp .lt 11, 3) := by decide +kernel
theorem dX11_setting_10 : decode cX11_setting 10 = .ok (.new 215, 3) := by decide +kernel
theorem dX11_setting_13 : decode cX11_setting 13 = .ok (.dup, 1) := by decide +kernel
theorem dX11_setting_14 : decode cX11_setting 14 = .ok (.invokespecial 217, 3) := by decide +kernel
theorem dX11_setting_17 : decode cX11_setting 17 = .ok (.athrow, 1) := by decide +kernel
theorem dX11_setting_18 : decode cX11_setting 18 = .ok (.aload_n 0, 1) := by decide +kernel
theorem dX11_setting_19 : decode cX11_setting 19 = .ok (.getfield 21, 3) := by decide +kernel
theorem dX11_setting_22 : decode cX11_setting 22 = .ok (.getfield 221, 3) := by decide +kernel
theorem dX11_setting_25 : decode cX11_setting 25 = .ok (.iload_n 1, 1) := by decide +kernel
theorem dX11_setting_26 : decode cX11_setting 26 = .ok (.iaload, 1) := by decide +kernel
theorem dX11_setting_27 : decode cX11_setting 27 = .ok (.ireturn, 1) := by decide +kernel
theorem dX11_terminal_0 : decode cX11_terminal 0 = .ok (.aload_n 0, 1) := by decide +kernel
theorem dX11_terminal_1 : decode cX11_terminal 1 = .ok (.getfield 10, 3) := by decide +kernel
theorem dX11_terminal_4 : decode cX11_terminal 4 = .ok (.iload_n 1, 1) := by decide +kernel
theorem dX11_terminal_5 : decode cX11_terminal 5 = .ok (.invokevirtual 224, 3) := by decide +kernel
theorem dX11_terminal_8 : decode cX11_terminal 8 = .ok (.ifCond .ne 11, 3) := by decide +kernel
theorem dX11_terminal_11 : decode cX11_terminal 11 = .ok (.new 227, 3) := by decide +kernel
theorem dX11_terminal_14 : decode cX11_terminal 14 = .ok (.dup, 1) := by decide +kernel
theorem dX11_terminal_15 : decode cX11_terminal 15 = .ok (.invokespecial 229, 3) := by decide +kernel
theorem dX11_terminal_18 : decode cX11_terminal 18 = .ok (.athrow, 1) := by decide +kernel
theorem dX11_terminal_19 : decode cX11_terminal 19 = .ok (.iload_n 2, 1) := by decide +kernel
theorem dX11_terminal_20 : decode cX11_terminal 20 = .ok (.tableswitch 218 0 13 #[72, 82, 92, 102, 115, 128, 141, 141, 141, 157, 166, 179, 192, 205], 72) := by decide +kernel
theorem dX11_terminal_92 : decode cX11_terminal 92 = .ok (.aload_n 0, 1) := by decide +kernel
theorem dX11_terminal_93 : decode cX11_terminal 93 = .ok (.getfield 10, 3) := by decide +kernel
theorem dX11_terminal_96 : decode cX11_terminal 96 = .ok (.getfield 230, 3) := by decide +kernel
theorem dX11_terminal_99 : decode cX11_terminal 99 = .ok (.iload_n 1, 1) := by decide +kernel
theorem dX11_terminal_100 : decode cX11_terminal 100 = .ok (.iaload, 1) := by decide +kernel
theorem dX11_terminal_101 : decode cX11_terminal 101 = .ok (.ireturn, 1) := by decide +kernel
theorem dX11_terminal_102 : decode cX11_terminal 102 = .ok (.aload_n 0, 1) := by decide +kernel
theorem dX11_terminal_103 : decode cX11_terminal 103 = .ok (.getfield 10, 3) := by decide +kernel
theorem dX11_terminal_106 : decode cX11_terminal 106 = .ok (.getfield 233, 3) := by decide +kernel
theorem dX11_terminal_109 : decode cX11_terminal 109 = .ok (.iload_n 1, 1) := by decide +kernel
theorem dX11_terminal_110 : decode cX11_terminal 110 = .ok (.iaload, 1) := by decide +kernel
theorem dX11_terminal_111 : decode cX11_terminal 111 = .ok (.ireturn, 1) := by decide +kernel
theorem dX11_terminal_112 : decode cX11_terminal 112 = .ok (.aload_n 0, 1) := by decide +kernel
theorem dX11_terminal_113 : decode cX11_terminal 113 = .ok (.getfield 10, 3) := by decide +kernel
theorem dX11_terminal_116 : decode cX11_terminal 116 = .ok (.getfield 236, 3) := by decide +kernel
theorem dX11_terminal_119 : decode cX11_terminal 119 = .ok (.iload_n 1, 1) := by decide +kernel
theorem dX11_terminal_120 : decode cX11_terminal 120 = .ok (.iaload, 1) := by decide +kernel
theorem dX11_terminal_121 : decode cX11_terminal 121 = .ok (.ireturn, 1) := by decide +kernel
theorem dX11_terminal_122 : decode cX11_terminal 122 = .ok (.aload_n 0, 1) := by decide +kernel
theorem dX11_terminal_123 : decode cX11_terminal 123 = .ok (.getfield 21, 3) := by decide +kernel
theorem dX11_terminal_126 : decode cX11_terminal 126 = .ok (.getfield 199, 3) := by decide +kernel
theorem dX11_terminal_129 : decode cX11_terminal 129 = .ok (.getfield 212, 3) := by decide +kernel
theorem dX11_terminal_132 : decode cX11_terminal 132 = .ok (.iload_n 1, 1) := by decide +kernel
theorem dX11_terminal_133 : decode cX11_terminal 133 = .ok (.iaload, 1) := by decide +kernel
theorem dX11_terminal_134 : decode cX11_terminal 134 = .ok (.ireturn, 1) := by decide +kernel
theorem dX11_terminal_135 : decode cX11_terminal 135 = .ok (.aload_n 0, 1) := by decide +kernel
theorem dX11_terminal_136 : decode cX11_terminal 136 = .ok (.getfield 21, 3) := by decide +kernel
theorem dX11_terminal_139 : decode cX11_terminal 139 = .ok (.getfield 199, 3) := by decide +kernel
theorem dX11_terminal_142 : decode cX11_terminal 142 = .ok (.getfield 203, 3) := by decide +kernel
theorem dX11_terminal_145 : decode cX11_terminal 145 = .ok (.iload_n 1, 1) := by decide +kernel
theorem dX11_terminal_146 : decode cX11_terminal 146 = .ok (.iaload, 1) := by decide +kernel
theorem dX11_terminal_147 : decode cX11_terminal 147 = .ok (.ireturn, 1) := by decide +kernel
theorem dX11_terminal_148 : decode cX11_terminal 148 = .ok (.aload_n 0, 1) := by decide +kernel
theorem dX11_terminal_149 : decode cX11_terminal 149 = .ok (.getfield 21, 3) := by decide +kernel
theorem dX11_terminal_152 : decode cX11_terminal 152 = .ok (.getfield 199, 3) := by decide +kernel
theorem dX11_terminal_155 : decode cX11_terminal 155 = .ok (.getfield 239, 3) := by decide +kernel
theorem dX11_terminal_158 : decode cX11_terminal 158 = .ok (.iload_n 1, 1) := by decide +kernel
theorem dX11_terminal_159 : decode cX11_terminal 159 = .ok (.iaload, 1) := by decide +kernel
theorem dX11_terminal_160 : decode cX11_terminal 160 = .ok (.ireturn, 1) := by decide +kernel
theorem dX11_terminal_161 : decode cX11_terminal 161 = .ok (.aload_n 0, 1) := by decide +kernel
theorem dX11_terminal_162 : decode cX11_terminal 162 = .ok (.getfield 21, 3) := by decide +kernel
theorem dX11_terminal_165 : decode cX11_terminal 165 = .ok (.getfield 242, 3) := by decide +kernel
theorem dX11_terminal_168 : decode cX11_terminal 168 = .ok (.iload_n 2, 1) := by decide +kernel
theorem dX11_terminal_169 : decode cX11_terminal 169 = .ok (.bipush 6, 2) := by decide +kernel
theorem dX11_terminal_171 : decode cX11_terminal 171 = .ok (.isub, 1) := by decide +kernel
theorem dX11_terminal_172 : decode cX11_terminal 172 = .ok (.iload_n 1, 1) := by decide +kernel
theorem dX11_terminal_173 : decode cX11_terminal 173 = .ok (.invokevirtual 246, 3) := by decide +kernel
theorem dX11_terminal_176 : decode cX11_terminal 176 = .ok (.ireturn, 1) := by decide +kernel
theorem dX11_terminal_177 : decode cX11_terminal 177 = .ok (.aload_n 0, 1) := by decide +kernel
theorem dX11_terminal_178 : decode cX11_terminal 178 = .ok (.getfield 21, 3) := by decide +kernel
theorem dX11_terminal_181 : decode cX11_terminal 181 = .ok (.iload_n 1, 1) := by decide +kernel
theorem dX11_terminal_182 : decode cX11_terminal 182 = .ok (.invokevirtual 251, 3) := by decide +kernel
theorem dX11_terminal_185 : decode cX11_terminal 185 = .ok (.ireturn, 1) := by decide +kernel
theorem dX11_terminal_186 : decode cX11_terminal 186 = .ok (.aload_n 0, 1) := by decide +kernel
theorem dX11_terminal_187 : decode cX11_terminal 187 = .ok (.getfield 21, 3) := by decide +kernel
theorem dX11_terminal_190 : decode cX11_terminal 190 = .ok (.getfield 199, 3) := by decide +kernel
theorem dX11_terminal_193 : decode cX11_terminal 193 = .ok (.getfield 254, 3) := by decide +kernel
theorem dX11_terminal_196 : decode cX11_terminal 196 = .ok (.iload_n 1, 1) := by decide +kernel
theorem dX11_terminal_197 : decode cX11_terminal 197 = .ok (.iaload, 1) := by decide +kernel
theorem dX11_terminal_198 : decode cX11_terminal 198 = .ok (.ireturn, 1) := by decide +kernel
theorem dX11_terminal_199 : decode cX11_terminal 199 = .ok (.aload_n 0, 1) := by decide +kernel
theorem dX11_terminal_200 : decode cX11_terminal 200 = .ok (.getfield 21, 3) := by decide +kernel
theorem dX11_terminal_203 : decode cX11_terminal 203 = .ok (.getfield 199, 3) := by decide +kernel
theorem dX11_terminal_206 : decode cX11_terminal 206 = .ok (.getfield 257, 3) := by decide +kernel
theorem dX11_terminal_209 : decode cX11_terminal 209 = .ok (.iload_n 1, 1) := by decide +kernel
theorem dX11_terminal_210 : decode cX11_terminal 210 = .ok (.iaload, 1) := by decide +kernel
theorem dX11_terminal_211 : decode cX11_terminal 211 = .ok (.ireturn, 1) := by decide +kernel
theorem dX11_terminal_212 : decode cX11_terminal 212 = .ok (.aload_n 0, 1) := by decide +kernel
theorem dX11_terminal_213 : decode cX11_terminal 213 = .ok (.getfield 21, 3) := by decide +kernel
theorem dX11_terminal_216 : decode cX11_terminal 216 = .ok (.getfield 199, 3) := by decide +kernel
theorem dX11_terminal_219 : decode cX11_terminal 219 = .ok (.getfield 260, 3) := by decide +kernel
theorem dX11_terminal_222 : decode cX11_terminal 222 = .ok (.iload_n 1, 1) := by decide +kernel
theorem dX11_terminal_223 : decode cX11_terminal 223 = .ok (.iaload, 1) := by decide +kernel
theorem dX11_terminal_224 : decode cX11_terminal 224 = .ok (.ireturn, 1) := by decide +kernel
theorem dX11_terminal_225 : decode cX11_terminal 225 = .ok (.aload_n 0, 1) := by decide +kernel
theorem dX11_terminal_226 : decode cX11_terminal 226 = .ok (.getfield 21, 3) := by decide +kernel
theorem dX11_terminal_229 : decode cX11_terminal 229 = .ok (.getfield 199, 3) := by decide +kernel
theorem dX11_terminal_232 : decode cX11_terminal 232 = .ok (.getfield 263, 3) := by decide +kernel
theorem dX11_terminal_235 : decode cX11_terminal 235 = .ok (.iload_n 1, 1) := by decide +kernel
theorem dX11_terminal_236 : decode cX11_terminal 236 = .ok (.iaload, 1) := by decide +kernel
theorem dX11_terminal_237 : decode cX11_terminal 237 = .ok (.ireturn, 1) := by decide +kernel
theorem dX11_terminal_238 : decode cX11_terminal 238 = .ok (.new 215, 3) := by decide +kernel
theorem dX11_terminal_241 : decode cX11_terminal 241 = .ok (.dup, 1) := by decide +kernel
theorem dX11_terminal_242 : decode cX11_terminal 242 = .ok (.invokespecial 217, 3) := by decide +kernel
theorem dX11_terminal_245 : decode cX11_terminal 245 = .ok (.athrow, 1) := by decide +kernel
theorem dX11_message_0 : decode cX11_message 0 = .ok (.aload_n 0, 1) := by decide +kernel
theorem dX11_message_1 : decode cX11_message 1 = .ok (.getfield 21, 3) := by decide +kernel
theorem dX11_message_4 : decode cX11_message 4 = .ok (.getfield 144, 3) := by decide +kernel
theorem dX11_message_7 : decode cX11_message 7 = .ok (.astore_n 3, 1) := by decide +kernel
theorem dX11_message_8 : decode cX11_message 8 = .ok (.aload_n 3, 1) := by decide +kernel
theorem dX11_message_9 : decode cX11_message 9 = .ok (.iload_n 1, 1) := by decide +kernel
theorem dX11_message_10 : decode cX11_message 10 = .ok (.invokevirtual 269, 3) := by decide +kernel
theorem dX11_message_13 : decode cX11_message 13 = .ok (.ifCond .ne 11, 3) := by decide +kernel
theorem dX11_message_16 : decode cX11_message 16 = .ok (.new 227, 3) := by decide +kernel
theorem dX11_message_19 : decode cX11_message 19 = .ok (.dup, 1) := by decide +kernel
theorem dX11_message_20 : decode cX11_message 20 = .ok (.invokespecial 229, 3) := by decide +kernel
theorem dX11_message_23 : decode cX11_message 23 = .ok (.athrow, 1) := by decide +kernel
theorem dX11_message_24 : decode cX11_message 24 = .ok (.iload_n 2, 1) := by decide +kernel
theorem dX11_message_25 : decode cX11_message 25 = .ok (.tableswitch 103 0 7 #[47, 54, 61, 68, 75, 82, 89, 96], 47) := by decide +kernel
theorem dX11_message_72 : decode cX11_message 72 = .ok (.aload_n 3, 1) := by decide +kernel
theorem dX11_message_73 : decode cX11_message 73 = .ok (.getfield 270, 3) := by decide +kernel
theorem dX11_message_76 : decode cX11_message 76 = .ok (.iload_n 1, 1) := by decide +kernel
theorem dX11_message_77 : decode cX11_message 77 = .ok (.iaload, 1) := by decide +kernel
theorem dX11_message_78 : decode cX11_message 78 = .ok (.ireturn, 1) := by decide +kernel
theorem dX11_message_79 : decode cX11_message 79 = .ok (.aload_n 3, 1) := by decide +kernel
theorem dX11_message_80 : decode cX11_message 80 = .ok (.getfield 273, 3) := by decide +kernel
theorem dX11_message_83 : decode cX11_message 83 = .ok (.iload_n 1, 1) := by decide +kernel
theorem dX11_message_84 : decode cX11_message 84 = .ok (.iaload, 1) := by decide +kernel
theorem dX11_message_85 : decode cX11_message 85 = .ok (.ireturn, 1) := by decide +kernel
theorem dX11_message_86 : decode cX11_message 86 = .ok (.aload_n 3, 1) := by decide +kernel
theorem dX11_message_87 : decode cX11_message 87 = .ok (.getfield 276, 3) := by decide +kernel
theorem dX11_message_90 : decode cX11_message 90 = .ok (.iload_n 1, 1) := by decide +kernel
theorem dX11_message_91 : decode cX11_message 91 = .ok (.iaload, 1) := by decide +kernel
theorem dX11_message_92 : decode cX11_message 92 = .ok (.ireturn, 1) := by decide +kernel
theorem dX11_message_93 : decode cX11_message 93 = .ok (.aload_n 3, 1) := by decide +kernel
theorem dX11_message_94 : decode cX11_message 94 = .ok (.getfield 279, 3) := by decide +kernel
theorem dX11_message_97 : decode cX11_message 97 = .ok (.iload_n 1, 1) := by decide +kernel
theorem dX11_message_98 : decode cX11_message 98 = .ok (.iaload, 1) := by decide +kernel
theorem dX11_message_99 : decode cX11_message 99 = .ok (.ireturn, 1) := by decide +kernel
theorem dX11_message_100 : decode cX11_message 100 = .ok (.aload_n 3, 1) := by decide +kernel
theorem dX11_message_101 : decode cX11_message 101 = .ok (.getfield 282, 3) := by decide +kernel
theorem dX11_message_104 : decode cX11_message 104 = .ok (.iload_n 1, 1) := by decide +kernel
theorem dX11_message_105 : decode cX11_message 105 = .ok (.iaload, 1) := by decide +kernel
theorem dX11_message_106 : decode cX11_message 106 = .ok (.ireturn, 1) := by decide +kernel
theorem dX11_message_107 : decode cX11_message 107 = .ok (.aload_n 3, 1) := by decide +kernel
theorem dX11_message_108 : decode cX11_message 108 = .ok (.getfield 285, 3) := by decide +kernel
theorem dX11_message_111 : decode cX11_message 111 = .ok (.iload_n 1, 1) := by decide +kernel
theorem dX11_message_112 : decode cX11_message 112 = .ok (.iaload, 1) := by decide +kernel
theorem dX11_message_113 : decode cX11_message 113 = .ok (.ireturn, 1) := by decide +kernel
theorem dX11_message_114 : decode cX11_message 114 = .ok (.aload_n 3, 1) := by decide +kernel
theorem dX11_message_115 : decode cX11_message 115 = .ok (.getfield 288, 3) := by decide +kernel
theorem dX11_message_118 : decode cX11_message 118 = .ok (.iload_n 1, 1) := by decide +kernel
theorem dX11_message_119 : decode cX11_message 119 = .ok (.iaload, 1) := by decide +kernel
theorem dX11_message_120 : decode cX11_message 120 = .ok (.ireturn, 1) := by decide +kernel
theorem dX11_message_121 : decode cX11_message 121 = .ok (.aload_n 3, 1) := by decide +kernel
theorem dX11_message_122 : decode cX11_message 122 = .ok (.getfield 291, 3) := by decide +kernel
theorem dX11_message_125 : decode cX11_message 125 = .ok (.iload_n 1, 1) := by decide +kernel
theorem dX11_message_126 : decode cX11_message 126 = .ok (.iaload, 1) := by decide +kernel
theorem dX11_message_127 : decode cX11_message 127 = .ok (.ireturn, 1) := by decide +kernel
theorem dX11_message_128 : decode cX11_message 128 = .ok (.new 215, 3) := by decide +kernel
theorem dX11_message_131 : decode cX11_message 131 = .ok (.dup, 1) := by decide +kernel
theorem dX11_message_132 : decode cX11_message 132 = .ok (.invokespecial 217, 3) := by decide +kernel
theorem dX11_message_135 : decode cX11_message 135 = .ok (.athrow, 1) := by decide +kernel
theorem dX11_inRow_0 : decode cX11_inRow 0 = .ok (.aload_n 0, 1) := by decide +kernel
theorem dX11_inRow_1 : decode cX11_inRow 1 = .ok (.getfield 10, 3) := by decide +kernel
theorem dX11_inRow_4 : decode cX11_inRow 4 = .ok (.iload_n 1, 1) := by decide +kernel
theorem dX11_inRow_5 : decode cX11_inRow 5 = .ok (.invokevirtual 224, 3) := by decide +kernel
theorem dX11_inRow_8 : decode cX11_inRow 8 = .ok (.ifCond .ne 11, 3) := by decide +kernel
theorem dX11_inRow_11 : decode cX11_inRow 11 = .ok (.new 227, 3) := by decide +kernel
theorem dX11_inRow_14 : decode cX11_inRow 14 = .ok (.dup, 1) := by decide +kernel
theorem dX11_inRow_15 : decode cX11_inRow 15 = .ok (.invokespecial 229, 3) := by decide +kernel
theorem dX11_inRow_18 : decode cX11_inRow 18 = .ok (.athrow, 1) := by decide +kernel
theorem dX11_inRow_19 : decode cX11_inRow 19 = .ok (.iload_n 2, 1) := by decide +kernel
theorem dX11_inRow_20 : decode cX11_inRow 20 = .ok (.ifCond .lt 8, 3) := by decide +kernel
theorem dX11_inRow_23 : decode cX11_inRow 23 = .ok (.iload_n 2, 1) := by decide +kernel
theorem dX11_inRow_24 : decode cX11_inRow 24 = .ok (.iconst 3, 1) := by decide +kernel
theorem dX11_inRow_25 : decode cX11_inRow 25 = .ok (.if_icmp .lt 11, 3) := by decide +kernel
theorem dX11_inRow_28 : decode cX11_inRow 28 = .ok (.new 215, 3) := by decide +kernel
theorem dX11_inRow_31 : decode cX11_inRow 31 = .ok (.dup, 1) := by decide +kernel
theorem dX11_inRow_32 : decode cX11_inRow 32 = .ok (.invokespecial 217, 3) := by decide +kernel
theorem dX11_inRow_35 : decode cX11_inRow 35 = .ok (.athrow, 1) := by decide +kernel
theorem dX11_inRow_36 : decode cX11_inRow 36 = .ok (.aload_n 0, 1) := by decide +kernel
theorem dX11_inRow_37 : decode cX11_inRow 37 = .ok (.getfield 21, 3) := by decide +kernel
theorem dX11_inRow_40 : decode cX11_inRow 40 = .ok (.getfield 242, 3) := by decide +kernel
theorem dX11_inRow_43 : decode cX11_inRow 43 = .ok (.iload_n 2, 1) := by decide +kernel
theorem dX11_inRow_44 : decode cX11_inRow 44 = .ok (.iload_n 1, 1) := by decide +kernel
theorem dX11_inRow_45 : decode cX11_inRow 45 = .ok (.iload_n 3, 1) := by decide +kernel
theorem dX11_inRow_46 : decode cX11_inRow 46 = .ok (.invokevirtual 294, 3) := by decide +kernel
theorem dX11_inRow_49 : decode cX11_inRow 49 = .ok (.ireturn, 1) := by decide +kernel
theorem dX11_off_0 : decode cX11_off 0 = .ok (.iconst 0, 1) := by decide +kernel
theorem dX11_off_1 : decode cX11_off 1 = .ok (.istore_n 1, 1) := by decide +kernel
theorem dX11_off_2 : decode cX11_off 2 = .ok (.iconst 0, 1) := by decide +kernel
theorem dX11_off_3 : decode cX11_off 3 = .ok (.istore_n 2, 1) := by decide +kernel
theorem dX11_off_4 : decode cX11_off 4 = .ok (.iload_n 2, 1) := by decide +kernel
theorem dX11_off_5 : decode cX11_off 5 = .ok (.aload_n 0, 1) := by decide +kernel
theorem dX11_off_6 : decode cX11_off 6 = .ok (.getfield 10, 3) := by decide +kernel
theorem dX11_off_9 : decode cX11_off 9 = .ok (.getfield 115, 3) := by decide +kernel
theorem dX11_off_12 : decode cX11_off 12 = .ok (.if_icmp .ge 30, 3) := by decide +kernel
theorem dX11_off_15 : decode cX11_off 15 = .ok (.aload_n 0, 1) := by decide +kernel
theorem dX11_off_16 : decode cX11_off 16 = .ok (.getfield 21, 3) := by decide +kernel
theorem dX11_off_19 : decode cX11_off 19 = .ok (.getfield 199, 3) := by decide +kernel
theorem dX11_off_22 : decode cX11_off 22 = .ok (.getfield 203, 3) := by decide +kernel
theorem dX11_off_25 : decode cX11_off 25 = .ok (.iload_n 2, 1) := by decide +kernel
theorem dX11_off_26 : decode cX11_off 26 = .ok (.iaload, 1) := by decide +kernel
theorem dX11_off_27 : decode cX11_off 27 = .ok (.ifCond .ne 9, 3) := by decide +kernel
theorem dX11_off_30 : decode cX11_off 30 = .ok (.iload_n 1, 1) := by decide +kernel
theorem dX11_off_31 : decode cX11_off 31 = .ok (.iconst 1, 1) := by decide +kernel
theorem dX11_off_32 : decode cX11_off 32 = .ok (.iload_n 2, 1) := by decide +kernel
theorem dX11_off_33 : decode cX11_off 33 = .ok (.ishl, 1) := by decide +kernel
theorem dX11_off_34 : decode cX11_off 34 = .ok (.ior, 1) := by decide +kernel
theorem dX11_off_35 : decode cX11_off 35 = .ok (.istore_n 1, 1) := by decide +kernel
theorem dX11_off_36 : decode cX11_off 36 = .ok (.iinc 2 1, 3) := by decide +kernel
theorem dX11_off_39 : decode cX11_off 39 = .ok (.goto (-35), 3) := by decide +kernel
theorem dX11_off_42 : decode cX11_off 42 = .ok (.iload_n 1, 1) := by decide +kernel
theorem dX11_off_43 : decode cX11_off 43 = .ok (.ireturn, 1) := by decide +kernel
theorem dX11_turn_0 : decode cX11_turn 0 = .ok (.iload_n 1, 1) := by decide +kernel
theorem dX11_turn_1 : decode cX11_turn 1 = .ok (.ifCond .lt 17, 3) := by decide +kernel
theorem dX11_turn_4 : decode cX11_turn 4 = .ok (.iload_n 1, 1) := by decide +kernel
theorem dX11_turn_5 : decode cX11_turn 5 = .ok (.aload_n 0, 1) := by decide +kernel
theorem dX11_turn_6 : decode cX11_turn 6 = .ok (.getfield 21, 3) := by decide +kernel
theorem dX11_turn_9 : decode cX11_turn 9 = .ok (.getfield 303, 3) := by decide +kernel
theorem dX11_turn_12 : decode cX11_turn 12 = .ok (.getfield 307, 3) := by decide +kernel
theorem dX11_turn_15 : decode cX11_turn 15 = .ok (.if_icmp .lt 11, 3) := by decide +kernel
theorem dX11_turn_18 : decode cX11_turn 18 = .ok (.new 227, 3) := by decide +kernel
theorem dX11_turn_21 : decode cX11_turn 21 = .ok (.dup, 1) := by decide +kernel
theorem dX11_turn_22 : decode cX11_turn 22 = .ok (.invokespecial 229, 3) := by decide +kernel
theorem dX11_turn_25 : decode cX11_turn 25 = .ok (.athrow, 1) := by decide +kernel
theorem dX11_turn_26 : decode cX11_turn 26 = .ok (.iload_n 2, 1) := by decide +kernel
theorem dX11_turn_27 : decode cX11_turn 27 = .ok (.ifCond .lt 8, 3) := by decide +kernel
theorem dX11_turn_30 : decode cX11_turn 30 = .ok (.iload_n 2, 1) := by decide +kernel
theorem dX11_turn_31 : decode cX11_turn 31 = .ok (.iconst 5, 1) := by decide +kernel
theorem dX11_turn_32 : decode cX11_turn 32 = .ok (.if_icmp .lt 11, 3) := by decide +kernel
theorem dX11_turn_35 : decode cX11_turn 35 = .ok (.new 215, 3) := by decide +kernel
theorem dX11_turn_38 : decode cX11_turn 38 = .ok (.dup, 1) := by decide +kernel
theorem dX11_turn_39 : decode cX11_turn 39 = .ok (.invokespecial 217, 3) := by decide +kernel
theorem dX11_turn_42 : decode cX11_turn 42 = .ok (.athrow, 1) := by decide +kernel
theorem dX11_turn_43 : decode cX11_turn 43 = .ok (.aload_n 0, 1) := by decide +kernel
theorem dX11_turn_44 : decode cX11_turn 44 = .ok (.getfield 21, 3) := by decide +kernel
theorem dX11_turn_47 : decode cX11_turn 47 = .ok (.getfield 303, 3) := by decide +kernel
theorem dX11_turn_50 : decode cX11_turn 50 = .ok (.iload_n 1, 1) := by decide +kernel
theorem dX11_turn_51 : decode cX11_turn 51 = .ok (.iload_n 2, 1) := by decide +kernel
theorem dX11_turn_52 : decode cX11_turn 52 = .ok (.invokevirtual 310, 3) := by decide +kernel
theorem dX11_turn_55 : decode cX11_turn 55 = .ok (.ireturn, 1) := by decide +kernel
theorem dX11_nextKind_0 : decode cX11_nextKind 0 = .ok (.aload_n 0, 1) := by decide +kernel
theorem dX11_nextKind_1 : decode cX11_nextKind 1 = .ok (.getfield 30, 3) := by decide +kernel
theorem dX11_nextKind_4 : decode cX11_nextKind 4 = .ok (.aload_n 0, 1) := by decide +kernel
theorem dX11_nextKind_5 : decode cX11_nextKind 5 = .ok (.getfield 21, 3) := by decide +kernel
theorem dX11_nextKind_8 : decode cX11_nextKind 8 = .ok (.getfield 167, 3) := by decide +kernel
theorem dX11_nextKind_11 : decode cX11_nextKind 11 = .ok (.iconst 1, 1) := by decide +kernel
theorem dX11_nextKind_12 : decode cX11_nextKind 12 = .ok (.iadd, 1) := by decide +kernel
theorem dX11_nextKind_13 : decode cX11_nextKind 13 = .ok (.invokevirtual 313, 3) := by decide +kernel
theorem dX11_nextKind_16 : decode cX11_nextKind 16 = .ok (.aload_n 0, 1) := by decide +kernel
theorem dX11_nextKind_17 : decode cX11_nextKind 17 = .ok (.getfield 30, 3) := by decide +kernel
theorem dX11_nextKind_20 : decode cX11_nextKind 20 = .ok (.getfield 316, 3) := by decide +kernel
theorem dX11_nextKind_23 : decode cX11_nextKind 23 = .ok (.ireturn, 1) := by decide +kernel
theorem dX11_nextTerminal_0 : decode cX11_nextTerminal 0 = .ok (.aload_n 0, 1) := by decide +kernel
theorem dX11_nextTerminal_1 : decode cX11_nextTerminal 1 = .ok (.getfield 30, 3) := by decide +kernel
theorem dX11_nextTerminal_4 : decode cX11_nextTerminal 4 = .ok (.aload_n 0, 1) := by decide +kernel
theorem dX11_nextTerminal_5 : decode cX11_nextTerminal 5 = .ok (.getfield 21, 3) := by decide +kernel
theorem dX11_nextTerminal_8 : decode cX11_nextTerminal 8 = .ok (.getfield 167, 3) := by decide +kernel
theorem dX11_nextTerminal_11 : decode cX11_nextTerminal 11 = .ok (.iconst 1, 1) := by decide +kernel
theorem dX11_nextTerminal_12 : decode cX11_nextTerminal 12 = .ok (.iadd, 1) := by decide +kernel
theorem dX11_nextTerminal_13 : decode cX11_nextTerminal 13 = .ok (.invokevirtual 313, 3) := by decide +kernel
theorem dX11_nextTerminal_16 : decode cX11_nextTerminal 16 = .ok (.aload_n 0, 1) := by decide +kernel
theorem dX11_nextTerminal_17 : decode cX11_nextTerminal 17 = .ok (.getfield 30, 3) := by decide +kernel
theorem dX11_nextTerminal_20 : decode cX11_nextTerminal 20 = .ok (.getfield 319, 3) := by decide +kernel
theorem dX11_nextTerminal_23 : decode cX11_nextTerminal 23 = .ok (.ireturn, 1) := by decide +kernel
theorem dX11_gap_0 : decode cX11_gap 0 = .ok (.aload_n 0, 1) := by decide +kernel
theorem dX11_gap_1 : decode cX11_gap 1 = .ok (.getfield 21, 3) := by decide +kernel
theorem dX11_gap_4 : decode cX11_gap 4 = .ok (.getfield 144, 3) := by decide +kernel
theorem dX11_gap_7 : decode cX11_gap 7 = .ok (.getfield 188, 3) := by decide +kernel
theorem dX11_gap_10 : decode cX11_gap 10 = .ok (.istore_n 1, 1) := by decide +kernel
theorem dX11_gap_11 : decode cX11_gap 11 = .ok (.iconst 0, 1) := by decide +kernel
theorem dX11_gap_12 : decode cX11_gap 12 = .ok (.istore_n 2, 1) := by decide +kernel
theorem dX11_gap_13 : decode cX11_gap 13 = .ok (.iload_n 2, 1) := by decide +kernel
theorem dX11_gap_14 : decode cX11_gap 14 = .ok (.iconst 4, 1) := by decide +kernel
theorem dX11_gap_15 : decode cX11_gap 15 = .ok (.if_icmp .ge 23, 3) := by decide +kernel
theorem dX11_gap_18 : decode cX11_gap 18 = .ok (.iload_n 1, 1) := by decide +kernel
theorem dX11_gap_19 : decode cX11_gap 19 = .ok (.aload_n 0, 1) := by decide +kernel
theorem dX11_gap_20 : decode cX11_gap 20 = .ok (.getfield 21, 3) := by decide +kernel
theorem dX11_gap_23 : decode cX11_gap 23 = .ok (.getfield 144, 3) := by decide +kernel
theorem dX11_gap_26 : decode cX11_gap 26 = .ok (.iload_n 2, 1) := by decide +kernel
theorem dX11_gap_27 : decode cX11_gap 27 = .ok (.invokevirtual 195, 3) := by decide +kernel
theorem dX11_gap_30 : decode cX11_gap 30 = .ok (.isub, 1) := by decide +kernel
theorem dX11_gap_31 : decode cX11_gap 31 = .ok (.istore_n 1, 1) := by decide +kernel
theorem dX11_gap_32 : decode cX11_gap 32 = .ok (.iinc 2 1, 3) := by decide +kernel
theorem dX11_gap_35 : decode cX11_gap 35 = .ok (.goto (-22), 3) := by decide +kernel
theorem dX11_gap_38 : decode cX11_gap 38 = .ok (.iload_n 1, 1) := by decide +kernel
theorem dX11_gap_39 : decode cX11_gap 39 = .ok (.ireturn, 1) := by decide +kernel
theorem dX11_deliveredIn_0 : decode cX11_deliveredIn 0 = .ok (.iload_n 1, 1) := by decide +kernel
theorem dX11_deliveredIn_1 : decode cX11_deliveredIn 1 = .ok (.ifCond .lt 9, 3) := by decide +kernel
theorem dX11_deliveredIn_4 : decode cX11_deliveredIn 4 = .ok (.iload_n 1, 1) := by decide +kernel
theorem dX11_deliveredIn_5 : decode cX11_deliveredIn 5 = .ok (.bipush 100, 2) := by decide +kernel
theorem dX11_deliveredIn_7 : decode cX11_deliveredIn 7 = .ok (.if_icmp .le 11, 3) := by decide +kernel
theorem dX11_deliveredIn_10 : decode cX11_deliveredIn 10 = .ok (.new 215, 3) := by decide +kernel
theorem dX11_deliveredIn_13 : decode cX11_deliveredIn 13 = .ok (.dup, 1) := by decide +kernel
theorem dX11_deliveredIn_14 : decode cX11_deliveredIn 14 = .ok (.invokespecial 217, 3) := by decide +kernel
theorem dX11_deliveredIn_17 : decode cX11_deliveredIn 17 = .ok (.athrow, 1) := by decide +kernel
theorem dX11_deliveredIn_18 : decode cX11_deliveredIn 18 = .ok (.aload_n 0, 1) := by decide +kernel
theorem dX11_deliveredIn_19 : decode cX11_deliveredIn 19 = .ok (.getfield 34, 3) := by decide +kernel
theorem dX11_deliveredIn_22 : decode cX11_deliveredIn 22 = .ok (.aload_n 0, 1) := by decide +kernel
theorem dX11_deliveredIn_23 : decode cX11_deliveredIn 23 = .ok (.getfield 21, 3) := by decide +kernel
theorem dX11_deliveredIn_26 : decode cX11_deliveredIn 26 = .ok (.invokevirtual 322, 3) := by decide +kernel
theorem dX11_deliveredIn_29 : decode cX11_deliveredIn 29 = .ok (.aload_n 0, 1) := by decide +kernel
theorem dX11_deliveredIn_30 : decode cX11_deliveredIn 30 = .ok (.getfield 37, 3) := by decide +kernel
theorem dX11_deliveredIn_33 : decode cX11_deliveredIn 33 = .ok (.iload_n 1, 1) := by decide +kernel
theorem dX11_deliveredIn_34 : decode cX11_deliveredIn 34 = .ok (.invokevirtual 170, 3) := by decide +kernel
theorem dX11_deliveredIn_37 : decode cX11_deliveredIn 37 = .ok (.aload_n 0, 1) := by decide +kernel
theorem dX11_deliveredIn_38 : decode cX11_deliveredIn 38 = .ok (.getfield 34, 3) := by decide +kernel
theorem dX11_deliveredIn_41 : decode cX11_deliveredIn 41 = .ok (.invokevirtual 324, 3) := by decide +kernel
theorem dX11_deliveredIn_44 : decode cX11_deliveredIn 44 = .ok (.ireturn, 1) := by decide +kernel
theorem dX11_timeIn_0 : decode cX11_timeIn 0 = .ok (.iload_n 1, 1) := by decide +kernel
theorem dX11_timeIn_1 : decode cX11_timeIn 1 = .ok (.ifCond .lt 9, 3) := by decide +kernel
theorem dX11_timeIn_4 : decode cX11_timeIn 4 = .ok (.iload_n 1, 1) := by decide +kernel
theorem dX11_timeIn_5 : decode cX11_timeIn 5 = .ok (.bipush 100, 2) := by decide +kernel
theorem dX11_timeIn_7 : decode cX11_timeIn 7 = .ok (.if_icmp .le 11, 3) := by decide +kernel
theorem dX11_timeIn_10 : decode cX11_timeIn 10 = .ok (.new 215, 3) := by decide +kernel
theorem dX11_timeIn_13 : decode cX11_timeIn 13 = .ok (.dup, 1) := by decide +kernel
theorem dX11_timeIn_14 : decode cX11_timeIn 14 = .ok (.invokespecial 217, 3) := by decide +kernel
theorem dX11_timeIn_17 : decode cX11_timeIn 17 = .ok (.athrow, 1) := by decide +kernel
theorem dX11_timeIn_18 : decode cX11_timeIn 18 = .ok (.aload_n 0, 1) := by decide +kernel
theorem dX11_timeIn_19 : decode cX11_timeIn 19 = .ok (.getfield 34, 3) := by decide +kernel
theorem dX11_timeIn_22 : decode cX11_timeIn 22 = .ok (.aload_n 0, 1) := by decide +kernel
theorem dX11_timeIn_23 : decode cX11_timeIn 23 = .ok (.getfield 21, 3) := by decide +kernel
theorem dX11_timeIn_26 : decode cX11_timeIn 26 = .ok (.invokevirtual 322, 3) := by decide +kernel
theorem dX11_timeIn_29 : decode cX11_timeIn 29 = .ok (.aload_n 0, 1) := by decide +kernel
theorem dX11_timeIn_30 : decode cX11_timeIn 30 = .ok (.getfield 37, 3) := by decide +kernel
theorem dX11_timeIn_33 : decode cX11_timeIn 33 = .ok (.iload_n 1, 1) := by decide +kernel
theorem dX11_timeIn_34 : decode cX11_timeIn 34 = .ok (.invokevirtual 170, 3) := by decide +kernel
theorem dX11_timeIn_37 : decode cX11_timeIn 37 = .ok (.aload_n 0, 1) := by decide +kernel
theorem dX11_timeIn_38 : decode cX11_timeIn 38 = .ok (.getfield 34, 3) := by decide +kernel
theorem dX11_timeIn_41 : decode cX11_timeIn 41 = .ok (.getfield 189, 3) := by decide +kernel
theorem dX11_timeIn_44 : decode cX11_timeIn 44 = .ok (.ireturn, 1) := by decide +kernel
theorem dX11_deliversIn_0 : decode cX11_deliversIn 0 = .ok (.aload_n 0, 1) := by decide +kernel
theorem dX11_deliversIn_1 : decode cX11_deliversIn 1 = .ok (.getfield 21, 3) := by decide +kernel
theorem dX11_deliversIn_4 : decode cX11_deliversIn 4 = .ok (.getfield 144, 3) := by decide +kernel
theorem dX11_deliversIn_7 : decode cX11_deliversIn 7 = .ok (.iload_n 1, 1) := by decide +kernel
theorem dX11_deliversIn_8 : decode cX11_deliversIn 8 = .ok (.invokevirtual 269, 3) := by decide +kernel
theorem dX11_deliversIn_11 : decode cX11_deliversIn 11 = .ok (.ifCond .ne 11, 3) := by decide +kernel
theorem dX11_deliversIn_14 : decode cX11_deliversIn 14 = .ok (.new 227, 3) := by decide +kernel
theorem dX11_deliversIn_17 : decode cX11_deliversIn 17 = .ok (.dup, 1) := by decide +kernel
theorem dX11_deliversIn_18 : decode cX11_deliversIn 18 = .ok (.invokespecial 229, 3) := by decide +kernel
theorem dX11_deliversIn_21 : decode cX11_deliversIn 21 = .ok (.athrow, 1) := by decide +kernel
theorem dX11_deliversIn_22 : decode cX11_deliversIn 22 = .ok (.aload_n 0, 1) := by decide +kernel
theorem dX11_deliversIn_23 : decode cX11_deliversIn 23 = .ok (.getfield 34, 3) := by decide +kernel
theorem dX11_deliversIn_26 : decode cX11_deliversIn 26 = .ok (.aload_n 0, 1) := by decide +kernel
theorem dX11_deliversIn_27 : decode cX11_deliversIn 27 = .ok (.getfield 21, 3) := by decide +kernel
theorem dX11_deliversIn_30 : decode cX11_deliversIn 30 = .ok (.invokevirtual 322, 3) := by decide +kernel
theorem dX11_deliversIn_33 : decode cX11_deliversIn 33 = .ok (.iconst 0, 1) := by decide +kernel
theorem dX11_deliversIn_34 : decode cX11_deliversIn 34 = .ok (.istore_n 2, 1) := by decide +kernel
theorem dX11_deliversIn_35 : decode cX11_deliversIn 35 = .ok (.iload_n 2, 1) := by decide +kernel
theorem dX11_deliversIn_36 : decode cX11_deliversIn 36 = .ok (.sipush 200, 3) := by decide +kernel
theorem dX11_deliversIn_39 : decode cX11_deliversIn 39 = .ok (.if_icmp .gt 34, 3) := by decide +kernel
theorem dX11_deliversIn_42 : decode cX11_deliversIn 42 = .ok (.aload_n 0, 1) := by decide +kernel
theorem dX11_deliversIn_43 : decode cX11_deliversIn 43 = .ok (.getfield 34, 3) := by decide +kernel
theorem dX11_deliversIn_46 : decode cX11_deliversIn 46 = .ok (.getfield 144, 3) := by decide +kernel
theorem dX11_deliversIn_49 : decode cX11_deliversIn 49 = .ok (.getfield 279, 3) := by decide +kernel
theorem dX11_deliversIn_52 : decode cX11_deliversIn 52 = .ok (.iload_n 1, 1) := by decide +kernel
theorem dX11_deliversIn_53 : decode cX11_deliversIn 53 = .ok (.iaload, 1) := by decide +kernel
theorem dX11_deliversIn_54 : decode cX11_deliversIn 54 = .ok (.iconst 3, 1) := by decide +kernel
theorem dX11_deliversIn_55 : decode cX11_deliversIn 55 = .ok (.if_icmp .ne 5, 3) := by decide +kernel
theorem dX11_deliversIn_58 : decode cX11_deliversIn 58 = .ok (.iload_n 2, 1) := by decide +kernel
theorem dX11_deliversIn_59 : decode cX11_deliversIn 59 = .ok (.ireturn, 1) := by decide +kernel
theorem dX11_deliversIn_60 : decode cX11_deliversIn 60 = .ok (.aload_n 0, 1) := by decide +kernel
theorem dX11_deliversIn_61 : decode cX11_deliversIn 61 = .ok (.getfield 37, 3) := by decide +kernel
theorem dX11_deliversIn_64 : decode cX11_deliversIn 64 = .ok (.invokevirtual 327, 3) := by decide +kernel
theorem dX11_deliversIn_67 : decode cX11_deliversIn 67 = .ok (.iinc 2 1, 3) := by decide +kernel
theorem dX11_deliversIn_70 : decode cX11_deliversIn 70 = .ok (.goto (-35), 3) := by decide +kernel
theorem dX11_deliversIn_73 : decode cX11_deliversIn 73 = .ok (.iconst (-1), 1) := by decide +kernel
theorem dX11_deliversIn_74 : decode cX11_deliversIn 74 = .ok (.ireturn, 1) := by decide +kernel
theorem dX11_quietIn_0 : decode cX11_quietIn 0 = .ok (.aload_n 0, 1) := by decide +kernel
theorem dX11_quietIn_1 : decode cX11_quietIn 1 = .ok (.getfield 34, 3) := by decide +kernel
theorem dX11_quietIn_4 : decode cX11_quietIn 4 = .ok (.aload_n 0, 1) := by decide +kernel
theorem dX11_quietIn_5 : decode cX11_quietIn 5 = .ok (.getfield 21, 3) := by decide +kernel
theorem dX11_quietIn_8 : decode cX11_quietIn 8 = .ok (.invokevirtual 322, 3) := by decide +kernel
theorem dX11_quietIn_11 : decode cX11_quietIn 11 = .ok (.iconst 0, 1) := by decide +kernel
theorem dX11_quietIn_12 : decode cX11_quietIn 12 = .ok (.istore_n 1, 1) := by decide +kernel
theorem dX11_quietIn_13 : decode cX11_quietIn 13 = .ok (.iload_n 1, 1) := by decide +kernel
theorem dX11_quietIn_14 : decode cX11_quietIn 14 = .ok (.sipush 200, 3) := by decide +kernel
theorem dX11_quietIn_17 : decode cX11_quietIn 17 = .ok (.if_icmp .gt 38, 3) := by decide +kernel
theorem dX11_quietIn_20 : decode cX11_quietIn 20 = .ok (.aload_n 0, 1) := by decide +kernel
theorem dX11_quietIn_21 : decode cX11_quietIn 21 = .ok (.getfield 34, 3) := by decide +kernel
theorem dX11_quietIn_24 : decode cX11_quietIn 24 = .ok (.invokevirtual 324, 3) := by decide +kernel
theorem dX11_quietIn_27 : decode cX11_quietIn 27 = .ok (.aload_n 0, 1) := by decide +kernel
theorem dX11_quietIn_28 : decode cX11_quietIn 28 = .ok (.getfield 34, 3) := by decide +kernel
theorem dX11_quietIn_31 : decode cX11_quietIn 31 = .ok (.getfield 144, 3) := by decide +kernel
theorem dX11_quietIn_34 : decode cX11_quietIn 34 = .ok (.getfield 188, 3) := by decide +kernel
theorem dX11_quietIn_37 : decode cX11_quietIn 37 = .ok (.if_icmp .ne 5, 3) := by decide +kernel
theorem dX11_quietIn_40 : decode cX11_quietIn 40 = .ok (.iload_n 1, 1) := by decide +kernel
theorem dX11_quietIn_41 : decode cX11_quietIn 41 = .ok (.ireturn, 1) := by decide +kernel
theorem dX11_quietIn_42 : decode cX11_quietIn 42 = .ok (.aload_n 0, 1) := by decide +kernel
theorem dX11_quietIn_43 : decode cX11_quietIn 43 = .ok (.getfield 37, 3) := by decide +kernel
theorem dX11_quietIn_46 : decode cX11_quietIn 46 = .ok (.invokevirtual 327, 3) := by decide +kernel
theorem dX11_quietIn_49 : decode cX11_quietIn 49 = .ok (.iinc 1 1, 3) := by decide +kernel
theorem dX11_quietIn_52 : decode cX11_quietIn 52 = .ok (.goto (-39), 3) := by decide +kernel
theorem dX11_quietIn_55 : decode cX11_quietIn 55 = .ok (.iconst (-1), 1) := by decide +kernel
theorem dX11_quietIn_56 : decode cX11_quietIn 56 = .ok (.ireturn, 1) := by decide +kernel
theorem dX11_often_0 : decode cX11_often 0 = .ok (.aload_n 0, 1) := by decide +kernel
theorem dX11_often_1 : decode cX11_often 1 = .ok (.getfield 10, 3) := by decide +kernel
theorem dX11_often_4 : decode cX11_often 4 = .ok (.iload_n 1, 1) := by decide +kernel
theorem dX11_often_5 : decode cX11_often 5 = .ok (.invokevirtual 224, 3) := by decide +kernel
theorem dX11_often_8 : decode cX11_often 8 = .ok (.ifCond .ne 11, 3) := by decide +kernel
theorem dX11_often_11 : decode cX11_often 11 = .ok (.new 227, 3) := by decide +kernel
theorem dX11_often_14 : decode cX11_often 14 = .ok (.dup, 1) := by decide +kernel
theorem dX11_often_15 : decode cX11_often 15 = .ok (.invokespecial 229, 3) := by decide +kernel
theorem dX11_often_18 : decode cX11_often 18 = .ok (.athrow, 1) := by decide +kernel
theorem dX11_often_19 : decode cX11_often 19 = .ok (.iload_n 2, 1) := by decide +kernel
theorem dX11_often_20 : decode cX11_often 20 = .ok (.ifCond .lt 8, 3) := by decide +kernel
theorem dX11_often_23 : decode cX11_often 23 = .ok (.iload_n 2, 1) := by decide +kernel
theorem dX11_often_24 : decode cX11_often 24 = .ok (.iconst 4, 1) := by decide +kernel
theorem dX11_often_25 : decode cX11_often 25 = .ok (.if_icmp .lt 11, 3) := by decide +kernel
theorem dX11_often_28 : decode cX11_often 28 = .ok (.new 215, 3) := by decide +kernel
theorem dX11_often_31 : decode cX11_often 31 = .ok (.dup, 1) := by decide +kernel
theorem dX11_often_32 : decode cX11_often 32 = .ok (.invokespecial 217, 3) := by decide +kernel
theorem dX11_often_35 : decode cX11_often 35 = .ok (.athrow, 1) := by decide +kernel
theorem dX11_often_36 : decode cX11_often 36 = .ok (.aload_n 0, 1) := by decide +kernel
theorem dX11_often_37 : decode cX11_often 37 = .ok (.getfield 21, 3) := by decide +kernel
theorem dX11_often_40 : decode cX11_often 40 = .ok (.getfield 199, 3) := by decide +kernel
theorem dX11_often_43 : decode cX11_often 43 = .ok (.iload_n 2, 1) := by decide +kernel
theorem dX11_often_44 : decode cX11_often 44 = .ok (.iload_n 1, 1) := by decide +kernel
theorem dX11_often_45 : decode cX11_often 45 = .ok (.invokevirtual 339, 3) := by decide +kernel
theorem dX11_often_48 : decode cX11_often 48 = .ok (.ireturn, 1) := by decide +kernel
theorem dX11_post_0 : decode cX11_post 0 = .ok (.aload_n 0, 1) := by decide +kernel
theorem dX11_post_1 : decode cX11_post 1 = .ok (.iload_n 1, 1) := by decide +kernel
theorem dX11_post_2 : decode cX11_post 2 = .ok (.invokevirtual 345, 3) := by decide +kernel
theorem dX11_post_5 : decode cX11_post 5 = .ok (.ifCond .eq 11, 3) := by decide +kernel
theorem dX11_post_8 : decode cX11_post 8 = .ok (.aload_n 0, 1) := by decide +kernel
theorem dX11_post_9 : decode cX11_post 9 = .ok (.iload_n 2, 1) := by decide +kernel
theorem dX11_post_10 : decode cX11_post 10 = .ok (.invokevirtual 345, 3) := by decide +kernel
theorem dX11_post_13 : decode cX11_post 13 = .ok (.ifCond .ne 11, 3) := by decide +kernel
theorem dX11_post_16 : decode cX11_post 16 = .ok (.new 227, 3) := by decide +kernel
theorem dX11_post_19 : decode cX11_post 19 = .ok (.dup, 1) := by decide +kernel
theorem dX11_post_20 : decode cX11_post 20 = .ok (.invokespecial 229, 3) := by decide +kernel
theorem dX11_post_23 : decode cX11_post 23 = .ok (.athrow, 1) := by decide +kernel
theorem dX11_post_24 : decode cX11_post 24 = .ok (.iload_n 1, 1) := by decide +kernel
theorem dX11_post_25 : decode cX11_post 25 = .ok (.iload_n 2, 1) := by decide +kernel
theorem dX11_post_26 : decode cX11_post 26 = .ok (.if_icmp .eq 14, 3) := by decide +kernel
theorem dX11_post_29 : decode cX11_post 29 = .ok (.iload_n 3, 1) := by decide +kernel
theorem dX11_post_30 : decode cX11_post 30 = .ok (.iconst 1, 1) := by decide +kernel
theorem dX11_post_31 : decode cX11_post 31 = .ok (.if_icmp .lt 9, 3) := by decide +kernel
theorem dX11_post_34 : decode cX11_post 34 = .ok (.iload_n 3, 1) := by decide +kernel
theorem dX11_post_35 : decode cX11_post 35 = .ok (.bipush 20, 2) := by decide +kernel
theorem dX11_post_37 : decode cX11_post 37 = .ok (.if_icmp .le 11, 3) := by decide +kernel
theorem dX11_post_40 : decode cX11_post 40 = .ok (.new 215, 3) := by decide +kernel
theorem dX11_post_43 : decode cX11_post 43 = .ok (.dup, 1) := by decide +kernel
theorem dX11_post_44 : decode cX11_post 44 = .ok (.invokespecial 217, 3) := by decide +kernel
theorem dX11_post_47 : decode cX11_post 47 = .ok (.athrow, 1) := by decide +kernel
theorem dX11_post_48 : decode cX11_post 48 = .ok (.aload_n 0, 1) := by decide +kernel
theorem dX11_post_49 : decode cX11_post 49 = .ok (.getfield 21, 3) := by decide +kernel
theorem dX11_post_52 : decode cX11_post 52 = .ok (.getfield 144, 3) := by decide +kernel
theorem dX11_post_55 : decode cX11_post 55 = .ok (.invokevirtual 148, 3) := by decide +kernel
theorem dX11_post_58 : decode cX11_post 58 = .ok (.ifCond .eq 11, 3) := by decide +kernel
theorem dX11_post_61 : decode cX11_post 61 = .ok (.new 348, 3) := by decide +kernel
theorem dX11_post_64 : decode cX11_post 64 = .ok (.dup, 1) := by decide +kernel
theorem dX11_post_65 : decode cX11_post 65 = .ok (.invokespecial 350, 3) := by decide +kernel
theorem dX11_post_68 : decode cX11_post 68 = .ok (.athrow, 1) := by decide +kernel
theorem dX11_post_69 : decode cX11_post 69 = .ok (.aload_n 0, 1) := by decide +kernel
theorem dX11_post_70 : decode cX11_post 70 = .ok (.getfield 46, 3) := by decide +kernel
theorem dX11_post_73 : decode cX11_post 73 = .ok (.aload_n 0, 1) := by decide +kernel
theorem dX11_post_74 : decode cX11_post 74 = .ok (.getfield 21, 3) := by decide +kernel
theorem dX11_post_77 : decode cX11_post 77 = .ok (.invokevirtual 130, 3) := by decide +kernel
theorem dX11_post_80 : decode cX11_post 80 = .ok (.aload_n 0, 1) := by decide +kernel
theorem dX11_post_81 : decode cX11_post 81 = .ok (.getfield 21, 3) := by decide +kernel
theorem dX11_post_84 : decode cX11_post 84 = .ok (.iload_n 1, 1) := by decide +kernel
theorem dX11_post_85 : decode cX11_post 85 = .ok (.iload_n 2, 1) := by decide +kernel
theorem dX11_post_86 : decode cX11_post 86 = .ok (.iload_n 3, 1) := by decide +kernel
theorem dX11_post_87 : decode cX11_post 87 = .ok (.invokevirtual 159, 3) := by decide +kernel
theorem dX11_post_90 : decode cX11_post 90 = .ok (.ireturn, 1) := by decide +kernel
theorem dX11_isParty_0 : decode cX11_isParty 0 = .ok (.iload_n 1, 1) := by decide +kernel
theorem dX11_isParty_1 : decode cX11_isParty 1 = .ok (.iconst (-1), 1) := by decide +kernel
theorem dX11_isParty_2 : decode cX11_isParty 2 = .ok (.if_icmp .eq 14, 3) := by decide +kernel
theorem dX11_isParty_5 : decode cX11_isParty 5 = .ok (.aload_n 0, 1) := by decide +kernel
theorem dX11_isParty_6 : decode cX11_isParty 6 = .ok (.getfield 10, 3) := by decide +kernel
theorem dX11_isParty_9 : decode cX11_isParty 9 = .ok (.iload_n 1, 1) := by decide +kernel
theorem dX11_isParty_10 : decode cX11_isParty 10 = .ok (.invokevirtual 224, 3) := by decide +kernel
theorem dX11_isParty_13 : decode cX11_isParty 13 = .ok (.ifCond .eq 7, 3) := by decide +kernel
theorem dX11_isParty_16 : decode cX11_isParty 16 = .ok (.iconst 1, 1) := by decide +kernel
theorem dX11_isParty_17 : decode cX11_isParty 17 = .ok (.goto 4, 3) := by decide +kernel
theorem dX11_isParty_20 : decode cX11_isParty 20 = .ok (.iconst 0, 1) := by decide +kernel
theorem dX11_isParty_21 : decode cX11_isParty 21 = .ok (.ireturn, 1) := by decide +kernel
theorem dX11_kill_0 : decode cX11_kill 0 = .ok (.aload_n 0, 1) := by decide +kernel
theorem dX11_kill_1 : decode cX11_kill 1 = .ok (.getfield 10, 3) := by decide +kernel
theorem dX11_kill_4 : decode cX11_kill 4 = .ok (.iload_n 1, 1) := by decide +kernel
theorem dX11_kill_5 : decode cX11_kill 5 = .ok (.invokevirtual 224, 3) := by decide +kernel
theorem dX11_kill_8 : decode cX11_kill 8 = .ok (.ifCond .ne 11, 3) := by decide +kernel
theorem dX11_kill_11 : decode cX11_kill 11 = .ok (.new 227, 3) := by decide +kernel
theorem dX11_kill_14 : decode cX11_kill 14 = .ok (.dup, 1) := by decide +kernel
theorem dX11_kill_15 : decode cX11_kill 15 = .ok (.invokespecial 229, 3) := by decide +kernel
theorem dX11_kill_18 : decode cX11_kill 18 = .ok (.athrow, 1) := by decide +kernel
theorem dX11_kill_19 : decode cX11_kill 19 = .ok (.aload_n 0, 1) := by decide +kernel
theorem dX11_kill_20 : decode cX11_kill 20 = .ok (.getfield 46, 3) := by decide +kernel
theorem dX11_kill_23 : decode cX11_kill 23 = .ok (.aload_n 0, 1) := by decide +kernel
theorem dX11_kill_24 : decode cX11_kill 24 = .ok (.getfield 21, 3) := by decide +kernel
theorem dX11_kill_27 : decode cX11_kill 27 = .ok (.invokevirtual 130, 3) := by decide +kernel
theorem dX11_kill_30 : decode cX11_kill 30 = .ok (.aload_n 0, 1) := by decide +kernel
theorem dX11_kill_31 : decode cX11_kill 31 = .ok (.getfield 21, 3) := by decide +kernel
theorem dX11_kill_34 : decode cX11_kill 34 = .ok (.iload_n 1, 1) := by decide +kernel
theorem dX11_kill_35 : decode cX11_kill 35 = .ok (.iconst 0, 1) := by decide +kernel
theorem dX11_kill_36 : decode cX11_kill 36 = .ok (.invokevirtual 163, 3) := by decide +kernel
theorem dX11_kill_39 : decode cX11_kill 39 = .ok (.ireturn, 1) := by decide +kernel
theorem dX11_wake_0 : decode cX11_wake 0 = .ok (.aload_n 0, 1) := by decide +kernel
theorem dX11_wake_1 : decode cX11_wake 1 = .ok (.getfield 10, 3) := by decide +kernel
theorem dX11_wake_4 : decode cX11_wake 4 = .ok (.iload_n 1, 1) := by decide +kernel
theorem dX11_wake_5 : decode cX11_wake 5 = .ok (.invokevirtual 224, 3) := by decide +kernel
theorem dX11_wake_8 : decode cX11_wake 8 = .ok (.ifCond .ne 11, 3) := by decide +kernel
theorem dX11_wake_11 : decode cX11_wake 11 = .ok (.new 227, 3) := by decide +kernel
theorem dX11_wake_14 : decode cX11_wake 14 = .ok (.dup, 1) := by decide +kernel
theorem dX11_wake_15 : decode cX11_wake 15 = .ok (.invokespecial 229, 3) := by decide +kernel
theorem dX11_wake_18 : decode cX11_wake 18 = .ok (.athrow, 1) := by decide +kernel
theorem dX11_wake_19 : decode cX11_wake 19 = .ok (.aload_n 0, 1) := by decide +kernel
theorem dX11_wake_20 : decode cX11_wake 20 = .ok (.getfield 46, 3) := by decide +kernel
theorem dX11_wake_23 : decode cX11_wake 23 = .ok (.aload_n 0, 1) := by decide +kernel
theorem dX11_wake_24 : decode cX11_wake 24 = .ok (.getfield 21, 3) := by decide +kernel
theorem dX11_wake_27 : decode cX11_wake 27 = .ok (.invokevirtual 130, 3) := by decide +kernel
theorem dX11_wake_30 : decode cX11_wake 30 = .ok (.aload_n 0, 1) := by decide +kernel
theorem dX11_wake_31 : decode cX11_wake 31 = .ok (.getfield 21, 3) := by decide +kernel
theorem dX11_wake_34 : decode cX11_wake 34 = .ok (.iload_n 1, 1) := by decide +kernel
theorem dX11_wake_35 : decode cX11_wake 35 = .ok (.iconst 1, 1) := by decide +kernel
theorem dX11_wake_36 : decode cX11_wake 36 = .ok (.invokevirtual 163, 3) := by decide +kernel
theorem dX11_wake_39 : decode cX11_wake 39 = .ok (.ireturn, 1) := by decide +kernel
theorem dX11_run_0 : decode cX11_run 0 = .ok (.iload_n 1, 1) := by decide +kernel
theorem dX11_run_1 : decode cX11_run 1 = .ok (.iconst 1, 1) := by decide +kernel
theorem dX11_run_2 : decode cX11_run 2 = .ok (.if_icmp .lt 24, 3) := by decide +kernel
theorem dX11_run_5 : decode cX11_run 5 = .ok (.iload_n 1, 1) := by decide +kernel
theorem dX11_run_6 : decode cX11_run 6 = .ok (.bipush 100, 2) := by decide +kernel
theorem dX11_run_8 : decode cX11_run 8 = .ok (.if_icmp .gt 18, 3) := by decide +kernel
theorem dX11_run_11 : decode cX11_run 11 = .ok (.aload_n 0, 1) := by decide +kernel
theorem dX11_run_12 : decode cX11_run 12 = .ok (.getfield 21, 3) := by decide +kernel
theorem dX11_run_15 : decode cX11_run 15 = .ok (.getfield 167, 3) := by decide +kernel
theorem dX11_run_18 : decode cX11_run 18 = .ok (.iload_n 1, 1) := by decide +kernel
theorem dX11_run_19 : decode cX11_run 19 = .ok (.iadd, 1) := by decide +kernel
theorem dX11_run_20 : decode cX11_run 20 = .ok (.sipush 9999, 3) := by decide +kernel
theorem dX11_run_23 : decode cX11_run 23 = .ok (.if_icmp .le 11, 3) := by decide +kernel
theorem dX11_run_26 : decode cX11_run 26 = .ok (.new 215, 3) := by decide +kernel
theorem dX11_run_29 : decode cX11_run 29 = .ok (.dup, 1) := by decide +kernel
theorem dX11_run_30 : decode cX11_run 30 = .ok (.invokespecial 217, 3) := by decide +kernel
theorem dX11_run_33 : decode cX11_run 33 = .ok (.athrow, 1) := by decide +kernel
theorem dX11_run_34 : decode cX11_run 34 = .ok (.aload_n 0, 1) := by decide +kernel
theorem dX11_run_35 : decode cX11_run 35 = .ok (.getfield 46, 3) := by decide +kernel
theorem dX11_run_38 : decode cX11_run 38 = .ok (.aload_n 0, 1) := by decide +kernel
theorem dX11_run_39 : decode cX11_run 39 = .ok (.getfield 21, 3) := by decide +kernel
theorem dX11_run_42 : decode cX11_run 42 = .ok (.invokevirtual 130, 3) := by decide +kernel
theorem dX11_run_45 : decode cX11_run 45 = .ok (.aload_n 0, 1) := by decide +kernel
theorem dX11_run_46 : decode cX11_run 46 = .ok (.getfield 21, 3) := by decide +kernel
theorem dX11_run_49 : decode cX11_run 49 = .ok (.invokevirtual 324, 3) := by decide +kernel
theorem dX11_run_52 : decode cX11_run 52 = .ok (.istore_n 2, 1) := by decide +kernel
theorem dX11_run_53 : decode cX11_run 53 = .ok (.aload_n 0, 1) := by decide +kernel
theorem dX11_run_54 : decode cX11_run 54 = .ok (.getfield 30, 3) := by decide +kernel
theorem dX11_run_57 : decode cX11_run 57 = .ok (.iload_n 1, 1) := by decide +kernel
theorem dX11_run_58 : decode cX11_run 58 = .ok (.invokevirtual 170, 3) := by decide +kernel
theorem dX11_run_61 : decode cX11_run 61 = .ok (.aload_n 0, 1) := by decide +kernel
theorem dX11_run_62 : decode cX11_run 62 = .ok (.getfield 21, 3) := by decide +kernel
theorem dX11_run_65 : decode cX11_run 65 = .ok (.invokevirtual 324, 3) := by decide +kernel
theorem dX11_run_68 : decode cX11_run 68 = .ok (.iload_n 2, 1) := by decide +kernel
theorem dX11_run_69 : decode cX11_run 69 = .ok (.isub, 1) := by decide +kernel
theorem dX11_run_70 : decode cX11_run 70 = .ok (.ireturn, 1) := by decide +kernel
theorem dX11_addPlace_0 : decode cX11_addPlace 0 = .ok (.aload_n 0, 1) := by decide +kernel
theorem dX11_addPlace_1 : decode cX11_addPlace 1 = .ok (.getfield 10, 3) := by decide +kernel
theorem dX11_addPlace_4 : decode cX11_addPlace 4 = .ok (.iload_n 1, 1) := by decide +kernel
theorem dX11_addPlace_5 : decode cX11_addPlace 5 = .ok (.invokevirtual 224, 3) := by decide +kernel
theorem dX11_addPlace_8 : decode cX11_addPlace 8 = .ok (.ifCond .ne 11, 3) := by decide +kernel
theorem dX11_addPlace_11 : decode cX11_addPlace 11 = .ok (.new 227, 3) := by decide +kernel
theorem dX11_addPlace_14 : decode cX11_addPlace 14 = .ok (.dup, 1) := by decide +kernel
theorem dX11_addPlace_15 : decode cX11_addPlace 15 = .ok (.invokespecial 229, 3) := by decide +kernel
theorem dX11_addPlace_18 : decode cX11_addPlace 18 = .ok (.athrow, 1) := by decide +kernel
theorem dX11_addPlace_19 : decode cX11_addPlace 19 = .ok (.aload_n 0, 1) := by decide +kernel
theorem dX11_addPlace_20 : decode cX11_addPlace 20 = .ok (.getfield 21, 3) := by decide +kernel
theorem dX11_addPlace_23 : decode cX11_addPlace 23 = .ok (.getfield 173, 3) := by decide +kernel
theorem dX11_addPlace_26 : decode cX11_addPlace 26 = .ok (.bipush 16, 2) := by decide +kernel
theorem dX11_addPlace_28 : decode cX11_addPlace 28 = .ok (.if_icmp .lt 11, 3) := by decide +kernel
theorem dX11_addPlace_31 : decode cX11_addPlace 31 = .ok (.new 348, 3) := by decide +kernel
theorem dX11_addPlace_34 : decode cX11_addPlace 34 = .ok (.dup, 1) := by decide +kernel
theorem dX11_addPlace_35 : decode cX11_addPlace 35 = .ok (.invokespecial 350, 3) := by decide +kernel
theorem dX11_addPlace_38 : decode cX11_addPlace 38 = .ok (.athrow, 1) := by decide +kernel
theorem dX11_addPlace_39 : decode cX11_addPlace 39 = .ok (.aload_n 0, 1) := by decide +kernel
theorem dX11_addPlace_40 : decode cX11_addPlace 40 = .ok (.getfield 46, 3) := by decide +kernel
theorem dX11_addPlace_43 : decode cX11_addPlace 43 = .ok (.aload_n 0, 1) := by decide +kernel
theorem dX11_addPlace_44 : decode cX11_addPlace 44 = .ok (.getfield 21, 3) := by decide +kernel
theorem dX11_addPlace_47 : decode cX11_addPlace 47 = .ok (.invokevirtual 130, 3) := by decide +kernel
theorem dX11_addPlace_50 : decode cX11_addPlace 50 = .ok (.aload_n 0, 1) := by decide +kernel
theorem dX11_addPlace_51 : decode cX11_addPlace 51 = .ok (.getfield 21, 3) := by decide +kernel
theorem dX11_addPlace_54 : decode cX11_addPlace 54 = .ok (.iload_n 1, 1) := by decide +kernel
theorem dX11_addPlace_55 : decode cX11_addPlace 55 = .ok (.invokevirtual 176, 3) := by decide +kernel
theorem dX11_addPlace_58 : decode cX11_addPlace 58 = .ok (.aload_n 0, 1) := by decide +kernel
theorem dX11_addPlace_59 : decode cX11_addPlace 59 = .ok (.getfield 21, 3) := by decide +kernel
theorem dX11_addPlace_62 : decode cX11_addPlace 62 = .ok (.getfield 173, 3) := by decide +kernel
theorem dX11_addPlace_65 : decode cX11_addPlace 65 = .ok (.ireturn, 1) := by decide +kernel
theorem dX11_dropPlace_0 : decode cX11_dropPlace 0 = .ok (.aload_n 0, 1) := by decide +kernel
theorem dX11_dropPlace_1 : decode cX11_dropPlace 1 = .ok (.getfield 21, 3) := by decide +kernel
theorem dX11_dropPlace_4 : decode cX11_dropPlace 4 = .ok (.iload_n 1, 1) := by decide +kernel
theorem dX11_dropPlace_5 : decode cX11_dropPlace 5 = .ok (.invokevirtual 297, 3) := by decide +kernel
theorem dX11_dropPlace_8 : decode cX11_dropPlace 8 = .ok (.ifCond .ne 11, 3) := by decide +kernel
theorem dX11_dropPlace_11 : decode cX11_dropPlace 11 = .ok (.new 227, 3) := by decide +kernel
theorem dX11_dropPlace_14 : decode cX11_dropPlace 14 = .ok (.dup, 1) := by decide +kernel
theorem dX11_dropPlace_15 : decode cX11_dropPlace 15 = .ok (.invokespecial 229, 3) := by decide +kernel
theorem dX11_dropPlace_18 : decode cX11_dropPlace 18 = .ok (.athrow, 1) := by decide +kernel
theorem dX11_dropPlace_19 : decode cX11_dropPlace 19 = .ok (.aload_n 0, 1) := by decide +kernel
theorem dX11_dropPlace_20 : decode cX11_dropPlace 20 = .ok (.getfield 46, 3) := by decide +kernel
theorem dX11_dropPlace_23 : decode cX11_dropPlace 23 = .ok (.aload_n 0, 1) := by decide +kernel
theorem dX11_dropPlace_24 : decode cX11_dropPlace 24 = .ok (.getfield 21, 3) := by decide +kernel
theorem dX11_dropPlace_27 : decode cX11_dropPlace 27 = .ok (.invokevirtual 130, 3) := by decide +kernel
theorem dX11_dropPlace_30 : decode cX11_dropPlace 30 = .ok (.aload_n 0, 1) := by decide +kernel
theorem dX11_dropPlace_31 : decode cX11_dropPlace 31 = .ok (.getfield 21, 3) := by decide +kernel
theorem dX11_dropPlace_34 : decode cX11_dropPlace 34 = .ok (.getfield 300, 3) := by decide +kernel
theorem dX11_dropPlace_37 : decode cX11_dropPlace 37 = .ok (.iload_n 1, 1) := by decide +kernel
theorem dX11_dropPlace_38 : decode cX11_dropPlace 38 = .ok (.iaload, 1) := by decide +kernel
theorem dX11_dropPlace_39 : decode cX11_dropPlace 39 = .ok (.istore_n 2, 1) := by decide +kernel
theorem dX11_dropPlace_40 : decode cX11_dropPlace 40 = .ok (.aload_n 0, 1) := by decide +kernel
theorem dX11_dropPlace_41 : decode cX11_dropPlace 41 = .ok (.getfield 21, 3) := by decide +kernel
theorem dX11_dropPlace_44 : decode cX11_dropPlace 44 = .ok (.iload_n 1, 1) := by decide +kernel
theorem dX11_dropPlace_45 : decode cX11_dropPlace 45 = .ok (.invokevirtual 179, 3) := by decide +kernel
theorem dX11_dropPlace_48 : decode cX11_dropPlace 48 = .ok (.iload_n 2, 1) := by decide +kernel
theorem dX11_dropPlace_49 : decode cX11_dropPlace 49 = .ok (.ireturn, 1) := by decide +kernel
theorem dX11_undo_0 : decode cX11_undo 0 = .ok (.aload_n 0, 1) := by decide +kernel
theorem dX11_undo_1 : decode cX11_undo 1 = .ok (.getfield 46, 3) := by decide +kernel
theorem dX11_undo_4 : decode cX11_undo 4 = .ok (.getfield 128, 3) := by decide +kernel
theorem dX11_undo_7 : decode cX11_undo 7 = .ok (.ifCond .ne 11, 3) := by decide +kernel
theorem dX11_undo_10 : decode cX11_undo 10 = .ok (.new 351, 3) := by decide +kernel
theorem dX11_undo_13 : decode cX11_undo 13 = .ok (.dup, 1) := by decide +kernel
theorem dX11_undo_14 : decode cX11_undo 14 = .ok (.invokespecial 353, 3) := by decide +kernel
theorem dX11_undo_17 : decode cX11_undo 17 = .ok (.athrow, 1) := by decide +kernel
theorem dX11_undo_18 : decode cX11_undo 18 = .ok (.aload_n 0, 1) := by decide +kernel
theorem dX11_undo_19 : decode cX11_undo 19 = .ok (.getfield 46, 3) := by decide +kernel
theorem dX11_undo_22 : decode cX11_undo 22 = .ok (.aload_n 0, 1) := by decide +kernel
theorem dX11_undo_23 : decode cX11_undo 23 = .ok (.getfield 21, 3) := by decide +kernel
theorem dX11_undo_26 : decode cX11_undo 26 = .ok (.invokevirtual 354, 3) := by decide +kernel
theorem dX11_undo_29 : decode cX11_undo 29 = .ok (.aload_n 0, 1) := by decide +kernel
theorem dX11_undo_30 : decode cX11_undo 30 = .ok (.getfield 46, 3) := by decide +kernel
theorem dX11_undo_33 : decode cX11_undo 33 = .ok (.getfield 128, 3) := by decide +kernel
theorem dX11_undo_36 : decode cX11_undo 36 = .ok (.ireturn, 1) := by decide +kernel
theorem dX11_saveState_0 : decode cX11_saveState 0 = .ok (.aload_n 0, 1) := by decide +kernel
theorem dX11_saveState_1 : decode cX11_saveState 1 = .ok (.getfield 40, 3) := by decide +kernel
theorem dX11_saveState_4 : decode cX11_saveState 4 = .ok (.aload_n 0, 1) := by decide +kernel
theorem dX11_saveState_5 : decode cX11_saveState 5 = .ok (.getfield 21, 3) := by decide +kernel
theorem dX11_saveState_8 : decode cX11_saveState 8 = .ok (.invokevirtual 322, 3) := by decide +kernel
theorem dX11_saveState_11 : decode cX11_saveState 11 = .ok (.aload_n 0, 1) := by decide +kernel
theorem dX11_saveState_12 : decode cX11_saveState 12 = .ok (.iconst 1, 1) := by decide +kernel
theorem dX11_saveState_13 : decode cX11_saveState 13 = .ok (.putfield 83, 3) := by decide +kernel
theorem dX11_saveState_16 : decode cX11_saveState 16 = .ok (.aload_n 0, 1) := by decide +kernel
theorem dX11_saveState_17 : decode cX11_saveState 17 = .ok (.getfield 21, 3) := by decide +kernel
theorem dX11_saveState_20 : decode cX11_saveState 20 = .ok (.getfield 189, 3) := by decide +kernel
theorem dX11_saveState_23 : decode cX11_saveState 23 = .ok (.ireturn, 1) := by decide +kernel
theorem dX11_restoreState_0 : decode cX11_restoreState 0 = .ok (.aload_n 0, 1) := by decide +kernel
theorem dX11_restoreState_1 : decode cX11_restoreState 1 = .ok (.getfield 83, 3) := by decide +kernel
theorem dX11_restoreState_4 : decode cX11_restoreState 4 = .ok (.ifCond .ne 11, 3) := by decide +kernel
theorem dX11_restoreState_7 : decode cX11_restoreState 7 = .ok (.new 351, 3) := by decide +kernel
theorem dX11_restoreState_10 : decode cX11_restoreState 10 = .ok (.dup, 1) := by decide +kernel
theorem dX11_restoreState_11 : decode cX11_restoreState 11 = .ok (.invokespecial 353, 3) := by decide +kernel
theorem dX11_restoreState_14 : decode cX11_restoreState 14 = .ok (.athrow, 1) := by decide +kernel
theorem dX11_restoreState_15 : decode cX11_restoreState 15 = .ok (.aload_n 0, 1) := by decide +kernel
theorem dX11_restoreState_16 : decode cX11_restoreState 16 = .ok (.getfield 21, 3) := by decide +kernel
theorem dX11_restoreState_19 : decode cX11_restoreState 19 = .ok (.aload_n 0, 1) := by decide +kernel
theorem dX11_restoreState_20 : decode cX11_restoreState 20 = .ok (.getfield 40, 3) := by decide +kernel
theorem dX11_restoreState_23 : decode cX11_restoreState 23 = .ok (.invokevirtual 322, 3) := by decide +kernel
theorem dX11_restoreState_26 : decode cX11_restoreState 26 = .ok (.aload_n 0, 1) := by decide +kernel
theorem dX11_restoreState_27 : decode cX11_restoreState 27 = .ok (.getfield 46, 3) := by decide +kernel
theorem dX11_restoreState_30 : decode cX11_restoreState 30 = .ok (.iconst 0, 1) := by decide +kernel
theorem dX11_restoreState_31 : decode cX11_restoreState 31 = .ok (.putfield 128, 3) := by decide +kernel
theorem dX11_restoreState_34 : decode cX11_restoreState 34 = .ok (.aload_n 0, 1) := by decide +kernel
theorem dX11_restoreState_35 : decode cX11_restoreState 35 = .ok (.getfield 21, 3) := by decide +kernel
theorem dX11_restoreState_38 : decode cX11_restoreState 38 = .ok (.getfield 189, 3) := by decide +kernel
theorem dX11_restoreState_41 : decode cX11_restoreState 41 = .ok (.ireturn, 1) := by decide +kernel
