theorem dX9_init_0 : decode cX9_init 0 = .ok (.aload_n 0, 1) := by decide +kernel
theorem dX9_init_1 : decode cX9_init 1 = .ok (.invokespecial 3, 3) := by decide +kernel
theorem dX9_init_4 : decode cX9_init 4 = .ok (.aload_n 0, 1) := by decide +kernel
theorem dX9_init_5 : decode cX9_init 5 = .ok (.sipush 600, 3) := by decide +kernel
theorem dX9_init_8 : decode cX9_init 8 = .ok (.newarray .int, 2) := by decide +kernel
theorem dX9_init_10 : decode cX9_init 10 = .ok (.putfield 9, 3) := by decide +kernel
theorem dX9_init_13 : decode cX9_init 13 = .ok (.aload_n 0, 1) := by decide +kernel
theorem dX9_init_14 : decode cX9_init 14 = .ok (.iconst 0, 1) := by decide +kernel
theorem dX9_init_15 : decode cX9_init 15 = .ok (.putfield 15, 3) := by decide +kernel
theorem dX9_init_18 : decode cX9_init 18 = .ok (.aload_n 0, 1) := by decide +kernel
theorem dX9_init_19 : decode cX9_init 19 = .ok (.iconst 3, 1) := by decide +kernel
theorem dX9_init_20 : decode cX9_init 20 = .ok (.putfield 19, 3) := by decide +kernel
theorem dX9_init_23 : decode cX9_init 23 = .ok (.aload_n 0, 1) := by decide +kernel
theorem dX9_init_24 : decode cX9_init 24 = .ok (.iconst 0, 1) := by decide +kernel
theorem dX9_init_25 : decode cX9_init 25 = .ok (.putfield 22, 3) := by decide +kernel
theorem dX9_init_28 : decode cX9_init 28 = .ok (.aload_n 0, 1) := by decide +kernel
theorem dX9_init_29 : decode cX9_init 29 = .ok (.iconst 0, 1) := by decide +kernel
theorem dX9_init_30 : decode cX9_init 30 = .ok (.putfield 25, 3) := by decide +kernel
theorem dX9_init_33 : decode cX9_init 33 = .ok (.aload_n 0, 1) := by decide +kernel
theorem dX9_init_34 : decode cX9_init 34 = .ok (.iconst 0, 1) := by decide +kernel
theorem dX9_init_35 : decode cX9_init 35 = .ok (.putfield 28, 3) := by decide +kernel
theorem dX9_init_38 : decode cX9_init 38 = .ok (.aload_n 0, 1) := by decide +kernel
theorem dX9_init_39 : decode cX9_init 39 = .ok (.iconst (-1), 1) := by decide +kernel
theorem dX9_init_40 : decode cX9_init 40 = .ok (.putfield 31, 3) := by decide +kernel
theorem dX9_init_43 : decode cX9_init 43 = .ok (.return_, 1) := by decide +kernel
theorem dX9_addByte_0 : decode cX9_addByte 0 = .ok (.aload_n 0, 1) := by decide +kernel
theorem dX9_addByte_1 : decode cX9_addByte 1 = .ok (.getfield 15, 3) := by decide +kernel
theorem dX9_addByte_4 : decode cX9_addByte 4 = .ok (.sipush 600, 3) := by decide +kernel
theorem dX9_addByte_7 : decode cX9_addByte 7 = .ok (.if_icmp .ge 23, 3) := by decide +kernel
theorem dX9_addByte_10 : decode cX9_addByte 10 = .ok (.aload_n 0, 1) := by decide +kernel
theorem dX9_addByte_11 : decode cX9_addByte 11 = .ok (.getfield 9, 3) := by decide +kernel
theorem dX9_addByte_14 : decode cX9_addByte 14 = .ok (.aload_n 0, 1) := by decide +kernel
theorem dX9_addByte_15 : decode cX9_addByte 15 = .ok (.getfield 15, 3) := by decide +kernel
theorem dX9_addByte_18 : decode cX9_addByte 18 = .ok (.iload_n 1, 1) := by decide +kernel
theorem dX9_addByte_19 : decode cX9_addByte 19 = .ok (.iastore, 1) := by decide +kernel
theorem dX9_addByte_20 : decode cX9_addByte 20 = .ok (.aload_n 0, 1) := by decide +kernel
theorem dX9_addByte_21 : decode cX9_addByte 21 = .ok (.dup, 1) := by decide +kernel
theorem dX9_addByte_22 : decode cX9_addByte 22 = .ok (.getfield 15, 3) := by decide +kernel
theorem dX9_addByte_25 : decode cX9_addByte 25 = .ok (.iconst 1, 1) := by decide +kernel
theorem dX9_addByte_26 : decode cX9_addByte 26 = .ok (.iadd, 1) := by decide +kernel
theorem dX9_addByte_27 : decode cX9_addByte 27 = .ok (.putfield 15, 3) := by decide +kernel
theorem dX9_addByte_30 : decode cX9_addByte 30 = .ok (.return_, 1) := by decide +kernel
theorem dX9_addFourBytes_0 : decode cX9_addFourBytes 0 = .ok (.bipush 24, 2) := by decide +kernel
theorem dX9_addFourBytes_2 : decode cX9_addFourBytes 2 = .ok (.istore_n 2, 1) := by decide +kernel
theorem dX9_addFourBytes_3 : decode cX9_addFourBytes 3 = .ok (.iload_n 2, 1) := by decide +kernel
theorem dX9_addFourBytes_4 : decode cX9_addFourBytes 4 = .ok (.ifCond .lt 20, 3) := by decide +kernel
theorem dX9_addFourBytes_7 : decode cX9_addFourBytes 7 = .ok (.aload_n 0, 1) := by decide +kernel
theorem dX9_addFourBytes_8 : decode cX9_addFourBytes 8 = .ok (.iload_n 1, 1) := by decide +kernel
theorem dX9_addFourBytes_9 : decode cX9_addFourBytes 9 = .ok (.iload_n 2, 1) := by decide +kernel
theorem dX9_addFourBytes_10 : decode cX9_addFourBytes 10 = .ok (.ishr, 1) := by decide +kernel
theorem dX9_addFourBytes_11 : decode cX9_addFourBytes 11 = .ok (.sipush 255, 3) := by decide +kernel
theorem dX9_addFourBytes_14 : decode cX9_addFourBytes 14 = .ok (.iand, 1) := by decide +kernel
theorem dX9_addFourBytes_15 : decode cX9_addFourBytes 15 = .ok (.invokevirtual 34, 3) := by decide +kernel
theorem dX9_addFourBytes_18 : decode cX9_addFourBytes 18 = .ok (.iinc 2 (-8), 3) := by decide +kernel
theorem dX9_addFourBytes_21 : decode cX9_addFourBytes 21 = .ok (.goto (-18), 3) := by decide +kernel
theorem dX9_addFourBytes_24 : decode cX9_addFourBytes 24 = .ok (.return_, 1) := by decide +kernel
theorem dX9_begin_0 : decode cX9_begin 0 = .ok (.aload_n 0, 1) := by decide +kernel
theorem dX9_begin_1 : decode cX9_begin 1 = .ok (.iconst 0, 1) := by decide +kernel
theorem dX9_begin_2 : decode cX9_begin 2 = .ok (.putfield 28, 3) := by decide +kernel
theorem dX9_begin_5 : decode cX9_begin 5 = .ok (.aload_n 0, 1) := by decide +kernel
theorem dX9_begin_6 : decode cX9_begin 6 = .ok (.iconst (-1), 1) := by decide +kernel
theorem dX9_begin_7 : decode cX9_begin 7 = .ok (.putfield 31, 3) := by decide +kernel
theorem dX9_begin_10 : decode cX9_begin 10 = .ok (.aload_n 0, 1) := by decide +kernel
theorem dX9_begin_11 : decode cX9_begin 11 = .ok (.iconst 0, 1) := by decide +kernel
theorem dX9_begin_12 : decode cX9_begin 12 = .ok (.putfield 25, 3) := by decide +kernel
theorem dX9_begin_15 : decode cX9_begin 15 = .ok (.aload_n 0, 1) := by decide +kernel
theorem dX9_begin_16 : decode cX9_begin 16 = .ok (.invokevirtual 38, 3) := by decide +kernel
theorem dX9_begin_19 : decode cX9_begin 19 = .ok (.return_, 1) := by decide +kernel
theorem dX9_advance_0 : decode cX9_advance 0 = .ok (.aload_n 0, 1) := by decide +kernel
theorem dX9_advance_1 : decode cX9_advance 1 = .ok (.getfield 25, 3) := by decide +kernel
theorem dX9_advance_4 : decode cX9_advance 4 = .ok (.aload_n 0, 1) := by decide +kernel
theorem dX9_advance_5 : decode cX9_advance 5 = .ok (.getfield 15, 3) := by decide +kernel
theorem dX9_advance_8 : decode cX9_advance 8 = .ok (.if_icmp .ge 44, 3) := by decide +kernel
theorem dX9_advance_11 : decode cX9_advance 11 = .ok (.aload_n 0, 1) := by decide +kernel
theorem dX9_advance_12 : decode cX9_advance 12 = .ok (.getfield 9, 3) := by decide +kernel
theorem dX9_advance_15 : decode cX9_advance 15 = .ok (.aload_n 0, 1) := by decide +kernel
theorem dX9_advance_16 : decode cX9_advance 16 = .ok (.getfield 25, 3) := by decide +kernel
theorem dX9_advance_19 : decode cX9_advance 19 = .ok (.iaload, 1) := by decide +kernel
theorem dX9_advance_20 : decode cX9_advance 20 = .ok (.bipush 32, 2) := by decide +kernel
theorem dX9_advance_22 : decode cX9_advance 22 = .ok (.if_icmp .eq 17, 3) := by decide +kernel
theorem dX9_advance_25 : decode cX9_advance 25 = .ok (.aload_n 0, 1) := by decide +kernel
theorem dX9_advance_26 : decode cX9_advance 26 = .ok (.getfield 9, 3) := by decide +kernel
theorem dX9_advance_29 : decode cX9_advance 29 = .ok (.aload_n 0, 1) := by decide +kernel
theorem dX9_advance_30 : decode cX9_advance 30 = .ok (.getfield 25, 3) := by decide +kernel
theorem dX9_advance_33 : decode cX9_advance 33 = .ok (.iaload, 1) := by decide +kernel
theorem dX9_advance_34 : decode cX9_advance 34 = .ok (.bipush 10, 2) := by decide +kernel
theorem dX9_advance_36 : decode cX9_advance 36 = .ok (.if_icmp .ne 16, 3) := by decide +kernel
theorem dX9_advance_39 : decode cX9_advance 39 = .ok (.aload_n 0, 1) := by decide +kernel
theorem dX9_advance_40 : decode cX9_advance 40 = .ok (.dup, 1) := by decide +kernel
theorem dX9_advance_41 : decode cX9_advance 41 = .ok (.getfield 25, 3) := by decide +kernel
theorem dX9_advance_44 : decode cX9_advance 44 = .ok (.iconst 1, 1) := by decide +kernel
theorem dX9_advance_45 : decode cX9_advance 45 = .ok (.iadd, 1) := by decide +kernel
theorem dX9_advance_46 : decode cX9_advance 46 = .ok (.putfield 25, 3) := by decide +kernel
theorem dX9_advance_49 : decode cX9_advance 49 = .ok (.goto (-49), 3) := by decide +kernel
theorem dX9_advance_52 : decode cX9_advance 52 = .ok (.aload_n 0, 1) := by decide +kernel
theorem dX9_advance_53 : decode cX9_advance 53 = .ok (.aload_n 0, 1) := by decide +kernel
theorem dX9_advance_54 : decode cX9_advance 54 = .ok (.getfield 25, 3) := by decide +kernel
theorem dX9_advance_57 : decode cX9_advance 57 = .ok (.putfield 22, 3) := by decide +kernel
theorem dX9_advance_60 : decode cX9_advance 60 = .ok (.aload_n 0, 1) := by decide +kernel
theorem dX9_advance_61 : decode cX9_advance 61 = .ok (.getfield 25, 3) := by decide +kernel
theorem dX9_advance_64 : decode cX9_advance 64 = .ok (.aload_n 0, 1) := by decide +kernel
theorem dX9_advance_65 : decode cX9_advance 65 = .ok (.getfield 15, 3) := by decide +kernel
theorem dX9_advance_68 : decode cX9_advance 68 = .ok (.if_icmp .lt 9, 3) := by decide +kernel
theorem dX9_advance_71 : decode cX9_advance 71 = .ok (.aload_n 0, 1) := by decide +kernel
theorem dX9_advance_72 : decode cX9_advance 72 = .ok (.iconst 3, 1) := by decide +kernel
theorem dX9_advance_73 : decode cX9_advance 73 = .ok (.putfield 19, 3) := by decide +kernel
theorem dX9_advance_76 : decode cX9_advance 76 = .ok (.return_, 1) := by decide +kernel
theorem dX9_advance_77 : decode cX9_advance 77 = .ok (.aload_n 0, 1) := by decide +kernel
theorem dX9_advance_78 : decode cX9_advance 78 = .ok (.getfield 9, 3) := by decide +kernel
theorem dX9_advance_81 : decode cX9_advance 81 = .ok (.aload_n 0, 1) := by decide +kernel
theorem dX9_advance_82 : decode cX9_advance 82 = .ok (.getfield 25, 3) := by decide +kernel
theorem dX9_advance_85 : decode cX9_advance 85 = .ok (.iaload, 1) := by decide +kernel
theorem dX9_advance_86 : decode cX9_advance 86 = .ok (.istore_n 1, 1) := by decide +kernel
theorem dX9_advance_87 : decode cX9_advance 87 = .ok (.aload_n 0, 1) := by decide +kernel
theorem dX9_advance_88 : decode cX9_advance 88 = .ok (.dup, 1) := by decide +kernel
theorem dX9_advance_89 : decode cX9_advance 89 = .ok (.getfield 25, 3) := by decide +kernel
theorem dX9_advance_92 : decode cX9_advance 92 = .ok (.iconst 1, 1) := by decide +kernel
theorem dX9_advance_93 : decode cX9_advance 93 = .ok (.iadd, 1) := by decide +kernel
theorem dX9_advance_94 : decode cX9_advance 94 = .ok (.putfield 25, 3) := by decide +kernel
theorem dX9_advance_97 : decode cX9_advance 97 = .ok (.iload_n 1, 1) := by decide +kernel
theorem dX9_advance_98 : decode cX9_advance 98 = .ok (.bipush 97, 2) := by decide +kernel
theorem dX9_advance_100 : decode cX9_advance 100 = .ok (.if_icmp .lt 66, 3) := by decide +kernel
theorem dX9_advance_103 : decode cX9_advance 103 = .ok (.iload_n 1, 1) := by decide +kernel
theorem dX9_advance_104 : decode cX9_advance 104 = .ok (.bipush 122, 2) := by decide +kernel
theorem dX9_advance_106 : decode cX9_advance 106 = .ok (.if_icmp .gt 60, 3) := by decide +kernel
theorem dX9_advance_109 : decode cX9_advance 109 = .ok (.aload_n 0, 1) := by decide +kernel
theorem dX9_advance_110 : decode cX9_advance 110 = .ok (.iconst 0, 1) := by decide +kernel
theorem dX9_advance_111 : decode cX9_advance 111 = .ok (.putfield 19, 3) := by decide +kernel
theorem dX9_advance_114 : decode cX9_advance 114 = .ok (.aload_n 0, 1) := by decide +kernel
theorem dX9_advance_115 : decode cX9_advance 115 = .ok (.getfield 25, 3) := by decide +kernel
theorem dX9_advance_118 : decode cX9_advance 118 = .ok (.aload_n 0, 1) := by decide +kernel
theorem dX9_advance_119 : decode cX9_advance 119 = .ok (.getfield 15, 3) := by decide +kernel
theorem dX9_advance_122 : decode cX9_advance 122 = .ok (.if_icmp .ge 148, 3) := by decide +kernel
theorem dX9_advance_125 : decode cX9_advance 125 = .ok (.aload_n 0, 1) := by decide +kernel
theorem dX9_advance_126 : decode cX9_advance 126 = .ok (.getfield 9, 3) := by decide +kernel
theorem dX9_advance_129 : decode cX9_advance 129 = .ok (.aload_n 0, 1) := by decide +kernel
theorem dX9_advance_130 : decode cX9_advance 130 = .ok (.getfield 25, 3) := by decide +kernel
theorem dX9_advance_133 : decode cX9_advance 133 = .ok (.iaload, 1) := by decide +kernel
theorem dX9_advance_134 : decode cX9_advance 134 = .ok (.bipush 97, 2) := by decide +kernel
theorem dX9_advance_136 : decode cX9_advance 136 = .ok (.if_icmp .lt 134, 3) := by decide +kernel
theorem dX9_advance_139 : decode cX9_advance 139 = .ok (.aload_n 0, 1) := by decide +kernel
theorem dX9_advance_140 : decode cX9_advance 140 = .ok (.getfield 9, 3) := by decide +kernel
theorem dX9_advance_143 : decode cX9_advance 143 = .ok (.aload_n 0, 1) := by decide +kernel
theorem dX9_advance_144 : decode cX9_advance 144 = .ok (.getfield 25, 3) := by decide +kernel
theorem dX9_advance_147 : decode cX9_advance 147 = .ok (.iaload, 1) := by decide +kernel
theorem dX9_advance_148 : decode cX9_advance 148 = .ok (.bipush 122, 2) := by decide +kernel
theorem dX9_advance_150 : decode cX9_advance 150 = .ok (.if_icmp .gt 120, 3) := by decide +kernel
theorem dX9_advance_153 : decode cX9_advance 153 = .ok (.aload_n 0, 1) := by decide +kernel
theorem dX9_advance_154 : decode cX9_advance 154 = .ok (.dup, 1) := by decide +kernel
theorem dX9_advance_155 : decode cX9_advance 155 = .ok (.getfield 25, 3) := by decide +kernel
theorem dX9_advance_158 : decode cX9_advance 158 = .ok (.iconst 1, 1) := by decide +kernel
theorem dX9_advance_159 : decode cX9_advance 159 = .ok (.iadd, 1) := by decide +kernel
theorem dX9_advance_160 : decode cX9_advance 160 = .ok (.putfield 25, 3) := by decide +kernel
theorem dX9_advance_163 : decode cX9_advance 163 = .ok (.goto (-49), 3) := by decide +kernel
theorem dX9_advance_166 : decode cX9_advance 166 = .ok (.iload_n 1, 1) := by decide +kernel
theorem dX9_advance_167 : decode cX9_advance 167 = .ok (.bipush 48, 2) := by decide +kernel
theorem dX9_advance_169 : decode cX9_advance 169 = .ok (.if_icmp .lt 86, 3) := by decide +kernel
theorem dX9_advance_172 : decode cX9_advance 172 = .ok (.iload_n 1, 1) := by decide +kernel
theorem dX9_advance_173 : decode cX9_advance 173 = .ok (.bipush 57, 2) := by decide +kernel
theorem dX9_advance_175 : decode cX9_advance 175 = .ok (.if_icmp .gt 80, 3) := by decide +kernel
theorem dX9_advance_178 : decode cX9_advance 178 = .ok (.aload_n 0, 1) := by decide +kernel
theorem dX9_advance_179 : decode cX9_advance 179 = .ok (.getfield 25, 3) := by decide +kernel
theorem dX9_advance_182 : decode cX9_advance 182 = .ok (.aload_n 0, 1) := by decide +kernel
theorem dX9_advance_183 : decode cX9_advance 183 = .ok (.getfield 15, 3) := by decide +kernel
theorem dX9_advance_186 : decode cX9_advance 186 = .ok (.if_icmp .ge 44, 3) := by decide +kernel
theorem dX9_advance_189 : decode cX9_advance 189 = .ok (.aload_n 0, 1) := by decide +kernel
theorem dX9_advance_190 : decode cX9_advance 190 = .ok (.getfield 9, 3) := by decide +kernel
theorem dX9_advance_193 : decode cX9_advance 193 = .ok (.aload_n 0, 1) := by decide +kernel
theorem dX9_advance_194 : decode cX9_advance 194 = .ok (.getfield 25, 3) := by decide +kernel
theorem dX9_advance_197 : decode cX9_advance 197 = .ok (.iaload, 1) := by decide +kernel
theorem dX9_advance_198 : decode cX9_advance 198 = .ok (.bipush 48, 2) := by decide +kernel
theorem dX9_advance_200 : decode cX9_advance 200 = .ok (.if_icmp .lt 30, 3) := by decide +kernel
theorem dX9_advance_203 : decode cX9_advance 203 = .ok (.aload_n 0, 1) := by decide +kernel
theorem dX9_advance_204 : decode cX9_advance 204 = .ok (.getfield 9, 3) := by decide +kernel
theorem dX9_advance_207 : decode cX9_advance 207 = .ok (.aload_n 0, 1) := by decide +kernel
theorem dX9_advance_208 : decode cX9_advance 208 = .ok (.getfield 25, 3) := by decide +kernel
theorem dX9_advance_211 : decode cX9_advance 211 = .ok (.iaload, 1) := by decide +kernel
theorem dX9_advance_212 : decode cX9_advance 212 = .ok (.bipush 57, 2) := by decide +kernel
theorem dX9_advance_214 : decode cX9_advance 214 = .ok (.if_icmp .gt 16, 3) := by decide +kernel
theorem dX9_advance_217 : decode cX9_advance 217 = .ok (.aload_n 0, 1) := by decide +kernel
theorem dX9_advance_218 : decode cX9_advance 218 = .ok (.dup, 1) := by decide +kernel
theorem dX9_advance_219 : decode cX9_advance 219 = .ok (.getfield 25, 3) := by decide +kernel
theorem dX9_advance_222 : decode cX9_advance 222 = .ok (.iconst 1, 1) := by decide +kernel
theorem dX9_advance_223 : decode cX9_advance 223 = .ok (.iadd, 1) := by decide +kernel
theorem dX9_advance_224 : decode cX9_advance 224 = .ok (.putfield 25, 3) := by decide +kernel
theorem dX9_advance_227 : decode cX9_advance 227 = .ok (.goto (-49), 3) := by decide +kernel
theorem dX9_advance_230 : decode cX9_advance 230 = .ok (.aload_n 0, 1) := by decide +kernel
theorem dX9_advance_231 : decode cX9_advance 231 = .ok (.aload_n 0, 1) := by decide +kernel
theorem dX9_advance_232 : decode cX9_advance 232 = .ok (.getfield 25, 3) := by decide +kernel
theorem dX9_advance_235 : decode cX9_advance 235 = .ok (.aload_n 0, 1) := by decide +kernel
theorem dX9_advance_236 : decode cX9_advance 236 = .ok (.getfield 22, 3) := by decide +kernel
theorem dX9_advance_239 : decode cX9_advance 239 = .ok (.isub, 1) := by decide +kernel
theorem dX9_advance_240 : decode cX9_advance 240 = .ok (.iconst 4, 1) := by decide +kernel
theorem dX9_advance_241 : decode cX9_advance 241 = .ok (.if_icmp .le 7, 3) := by decide +kernel
theorem dX9_advance_244 : decode cX9_advance 244 = .ok (.iconst 4, 1) := by decide +kernel
theorem dX9_advance_245 : decode cX9_advance 245 = .ok (.goto 4, 3) := by decide +kernel
theorem dX9_advance_248 : decode cX9_advance 248 = .ok (.iconst 1, 1) := by decide +kernel
theorem dX9_advance_249 : decode cX9_advance 249 = .ok (.putfield 19, 3) := by decide +kernel
theorem dX9_advance_252 : decode cX9_advance 252 = .ok (.goto 18, 3) := by decide +kernel
theorem dX9_advance_255 : decode cX9_advance 255 = .ok (.aload_n 0, 1) := by decide +kernel
theorem dX9_advance_256 : decode cX9_advance 256 = .ok (.iload_n 1, 1) := by decide +kernel
theorem dX9_advance_257 : decode cX9_advance 257 = .ok (.bipush 59, 2) := by decide +kernel
theorem dX9_advance_259 : decode cX9_advance 259 = .ok (.if_icmp .ne 7, 3) := by decide +kernel
theorem dX9_advance_262 : decode cX9_advance 262 = .ok (.iconst 2, 1) := by decide +kernel
theorem dX9_advance_263 : decode cX9_advance 263 = .ok (.goto 4, 3) := by decide +kernel
theorem dX9_advance_266 : decode cX9_advance 266 = .ok (.iconst 4, 1) := by decide +kernel
theorem dX9_advance_267 : decode cX9_advance 267 = .ok (.putfield 19, 3) := by decide +kernel
theorem dX9_advance_270 : decode cX9_advance 270 = .ok (.return_, 1) := by decide +kernel
theorem dX9_isAtEnd_0 : decode cX9_isAtEnd 0 = .ok (.aload_n 0, 1) := by decide +kernel
theorem dX9_isAtEnd_1 : decode cX9_isAtEnd 1 = .ok (.getfield 19, 3) := by decide +kernel
theorem dX9_isAtEnd_4 : decode cX9_isAtEnd 4 = .ok (.iconst 3, 1) := by decide +kernel
theorem dX9_isAtEnd_5 : decode cX9_isAtEnd 5 = .ok (.if_icmp .ne 7, 3) := by decide +kernel
theorem dX9_isAtEnd_8 : decode cX9_isAtEnd 8 = .ok (.iconst 1, 1) := by decide +kernel
theorem dX9_isAtEnd_9 : decode cX9_isAtEnd 9 = .ok (.goto 4, 3) := by decide +kernel
theorem dX9_isAtEnd_12 : decode cX9_isAtEnd 12 = .ok (.iconst 0, 1) := by decide +kernel
theorem dX9_isAtEnd_13 : decode cX9_isAtEnd 13 = .ok (.ireturn, 1) := by decide +kernel
theorem dX9_isAtWord_0 : decode cX9_isAtWord 0 = .ok (.aload_n 0, 1) := by decide +kernel
theorem dX9_isAtWord_1 : decode cX9_isAtWord 1 = .ok (.getfield 19, 3) := by decide +kernel
theorem dX9_isAtWord_4 : decode cX9_isAtWord 4 = .ok (.ifCond .ne 19, 3) := by decide +kernel
theorem dX9_isAtWord_7 : decode cX9_isAtWord 7 = .ok (.aload_n 0, 1) := by decide +kernel
theorem dX9_isAtWord_8 : decode cX9_isAtWord 8 = .ok (.getfield 25, 3) := by decide +kernel
theorem dX9_isAtWord_11 : decode cX9_isAtWord 11 = .ok (.aload_n 0, 1) := by decide +kernel
theorem dX9_isAtWord_12 : decode cX9_isAtWord 12 = .ok (.getfield 22, 3) := by decide +kernel
theorem dX9_isAtWord_15 : decode cX9_isAtWord 15 = .ok (.isub, 1) := by decide +kernel
theorem dX9_isAtWord_16 : decode cX9_isAtWord 16 = .ok (.aload_n 1, 1) := by decide +kernel
theorem dX9_isAtWord_17 : decode cX9_isAtWord 17 = .ok (.invokevirtual 41, 3) := by decide +kernel
theorem dX9_isAtWord_20 : decode cX9_isAtWord 20 = .ok (.if_icmp .eq 5, 3) := by decide +kernel
theorem dX9_isAtWord_23 : decode cX9_isAtWord 23 = .ok (.iconst 0, 1) := by decide +kernel
theorem dX9_isAtWord_24 : decode cX9_isAtWord 24 = .ok (.ireturn, 1) := by decide +kernel
theorem dX9_isAtWord_25 : decode cX9_isAtWord 25 = .ok (.iconst 0, 1) := by decide +kernel
theorem dX9_isAtWord_26 : decode cX9_isAtWord 26 = .ok (.istore_n 2, 1) := by decide +kernel
theorem dX9_isAtWord_27 : decode cX9_isAtWord 27 = .ok (.iload_n 2, 1) := by decide +kernel
theorem dX9_isAtWord_28 : decode cX9_isAtWord 28 = .ok (.aload_n 1, 1) := by decide +kernel
theorem dX9_isAtWord_29 : decode cX9_isAtWord 29 = .ok (.invokevirtual 41, 3) := by decide +kernel
theorem dX9_isAtWord_32 : decode cX9_isAtWord 32 = .ok (.if_icmp .ge 30, 3) := by decide +kernel
theorem dX9_isAtWord_35 : decode cX9_isAtWord 35 = .ok (.aload_n 0, 1) := by decide +kernel
theorem dX9_isAtWord_36 : decode cX9_isAtWord 36 = .ok (.getfield 9, 3) := by decide +kernel
theorem dX9_isAtWord_39 : decode cX9_isAtWord 39 = .ok (.aload_n 0, 1) := by decide +kernel
theorem dX9_isAtWord_40 : decode cX9_isAtWord 40 = .ok (.getfield 22, 3) := by decide +kernel
theorem dX9_isAtWord_43 : decode cX9_isAtWord 43 = .ok (.iload_n 2, 1) := by decide +kernel
theorem dX9_isAtWord_44 : decode cX9_isAtWord 44 = .ok (.iadd, 1) := by decide +kernel
theorem dX9_isAtWord_45 : decode cX9_isAtWord 45 = .ok (.iaload, 1) := by decide +kernel
theorem dX9_isAtWord_46 : decode cX9_isAtWord 46 = .ok (.aload_n 1, 1) := by decide +kernel
theorem dX9_isAtWord_47 : decode cX9_isAtWord 47 = .ok (.iload_n 2, 1) := by decide +kernel
theorem dX9_isAtWord_48 : decode cX9_isAtWord 48 = .ok (.invokevirtual 46, 3) := by decide +kernel
theorem dX9_isAtWord_51 : decode cX9_isAtWord 51 = .ok (.if_icmp .eq 5, 3) := by decide +kernel
theorem dX9_isAtWord_54 : decode cX9_isAtWord 54 = .ok (.iconst 0, 1) := by decide +kernel
theorem dX9_isAtWord_55 : decode cX9_isAtWord 55 = .ok (.ireturn, 1) := by decide +kernel
theorem dX9_isAtWord_56 : decode cX9_isAtWord 56 = .ok (.iinc 2 1, 3) := by decide +kernel
theorem dX9_isAtWord_59 : decode cX9_isAtWord 59 = .ok (.goto (-32), 3) := by decide +kernel
theorem dX9_isAtWord_62 : decode cX9_isAtWord 62 = .ok (.iconst 1, 1) := by decide +kernel
theorem dX9_isAtWord_63 : decode cX9_isAtWord 63 = .ok (.ireturn, 1) := by decide +kernel
theorem dX9_nameHere_0 : decode cX9_nameHere 0 = .ok (.aload_n 0, 1) := by decide +kernel
theorem dX9_nameHere_1 : decode cX9_nameHere 1 = .ok (.getfield 19, 3) := by decide +kernel
theorem dX9_nameHere_4 : decode cX9_nameHere 4 = .ok (.ifCond .ne 26, 3) := by decide +kernel
theorem dX9_nameHere_7 : decode cX9_nameHere 7 = .ok (.aload_n 0, 1) := by decide +kernel
theorem dX9_nameHere_8 : decode cX9_nameHere 8 = .ok (.getfield 25, 3) := by decide +kernel
theorem dX9_nameHere_11 : decode cX9_nameHere 11 = .ok (.aload_n 0, 1) := by decide +kernel
theorem dX9_nameHere_12 : decode cX9_nameHere 12 = .ok (.getfield 22, 3) := by decide +kernel
theorem dX9_nameHere_15 : decode cX9_nameHere 15 = .ok (.isub, 1) := by decide +kernel
theorem dX9_nameHere_16 : decode cX9_nameHere 16 = .ok (.bipush 6, 2) := by decide +kernel
theorem dX9_nameHere_18 : decode cX9_nameHere 18 = .ok (.if_icmp .gt 12, 3) := by decide +kernel
theorem dX9_nameHere_21 : decode cX9_nameHere 21 = .ok (.aload_n 0, 1) := by decide +kernel
theorem dX9_nameHere_22 : decode cX9_nameHere 22 = .ok (.ldc 50, 2) := by decide +kernel
theorem dX9_nameHere_24 : decode cX9_nameHere 24 = .ok (.invokevirtual 52, 3) := by decide +kernel
theorem dX9_nameHere_27 : decode cX9_nameHere 27 = .ok (.ifCond .eq 5, 3) := by decide +kernel
theorem dX9_nameHere_30 : decode cX9_nameHere 30 = .ok (.iconst (-1), 1) := by decide +kernel
theorem dX9_nameHere_31 : decode cX9_nameHere 31 = .ok (.ireturn, 1) := by decide +kernel
theorem dX9_nameHere_32 : decode cX9_nameHere 32 = .ok (.iconst 0, 1) := by decide +kernel
theorem dX9_nameHere_33 : decode cX9_nameHere 33 = .ok (.istore_n 1, 1) := by decide +kernel
theorem dX9_nameHere_34 : decode cX9_nameHere 34 = .ok (.aload_n 0, 1) := by decide +kernel
theorem dX9_nameHere_35 : decode cX9_nameHere 35 = .ok (.getfield 25, 3) := by decide +kernel
theorem dX9_nameHere_38 : decode cX9_nameHere 38 = .ok (.iconst 1, 1) := by decide +kernel
theorem dX9_nameHere_39 : decode cX9_nameHere 39 = .ok (.isub, 1) := by decide +kernel
theorem dX9_nameHere_40 : decode cX9_nameHere 40 = .ok (.istore_n 2, 1) := by decide +kernel
theorem dX9_nameHere_41 : decode cX9_nameHere 41 = .ok (.iload_n 2, 1) := by decide +kernel
theorem dX9_nameHere_42 : decode cX9_nameHere 42 = .ok (.aload_n 0, 1) := by decide +kernel
theorem dX9_nameHere_43 : decode cX9_nameHere 43 = .ok (.getfield 22, 3) := by decide +kernel
theorem dX9_nameHere_46 : decode cX9_nameHere 46 = .ok (.if_icmp .lt 25, 3) := by decide +kernel
theorem dX9_nameHere_49 : decode cX9_nameHere 49 = .ok (.iload_n 1, 1) := by decide +kernel
theorem dX9_nameHere_50 : decode cX9_nameHere 50 = .ok (.iconst 5, 1) := by decide +kernel
theorem dX9_nameHere_51 : decode cX9_nameHere 51 = .ok (.ishl, 1) := by decide +kernel
theorem dX9_nameHere_52 : decode cX9_nameHere 52 = .ok (.aload_n 0, 1) := by decide +kernel
theorem dX9_nameHere_53 : decode cX9_nameHere 53 = .ok (.getfield 9, 3) := by decide +kernel
theorem dX9_nameHere_56 : decode cX9_nameHere 56 = .ok (.iload_n 2, 1) := by decide +kernel
theorem dX9_nameHere_57 : decode cX9_nameHere 57 = .ok (.iaload, 1) := by decide +kernel
theorem dX9_nameHere_58 : decode cX9_nameHere 58 = .ok (.bipush 97, 2) := by decide +kernel
theorem dX9_nameHere_60 : decode cX9_nameHere 60 = .ok (.isub, 1) := by decide +kernel
theorem dX9_nameHere_61 : decode cX9_nameHere 61 = .ok (.iconst 1, 1) := by decide +kernel
theorem dX9_nameHere_62 : decode cX9_nameHere 62 = .ok (.iadd, 1) := by decide +kernel
theorem dX9_nameHere_63 : decode cX9_nameHere 63 = .ok (.ior, 1) := by decide +kernel
theorem dX9_nameHere_64 : decode cX9_nameHere 64 = .ok (.istore_n 1, 1) := by decide +kernel
theorem dX9_nameHere_65 : decode cX9_nameHere 65 = .ok (.iinc 2 (-1), 3) := by decide +kernel
theorem dX9_nameHere_68 : decode cX9_nameHere 68 = .ok (.goto (-27), 3) := by decide +kernel
theorem dX9_nameHere_71 : decode cX9_nameHere 71 = .ok (.iload_n 1, 1) := by decide +kernel
theorem dX9_nameHere_72 : decode cX9_nameHere 72 = .ok (.ireturn, 1) := by decide +kernel
theorem dX9_numberHere_0 : decode cX9_numberHere 0 = .ok (.iconst 0, 1) := by decide +kernel
theorem dX9_numberHere_1 : decode cX9_numberHere 1 = .ok (.istore_n 1, 1) := by decide +kernel
theorem dX9_numberHere_2 : decode cX9_numberHere 2 = .ok (.aload_n 0, 1) := by decide +kernel
theorem dX9_numberHere_3 : decode cX9_numberHere 3 = .ok (.getfield 22, 3) := by decide +kernel
theorem dX9_numberHere_6 : decode cX9_numberHere 6 = .ok (.istore_n 2, 1) := by decide +kernel
theorem dX9_numberHere_7 : decode cX9_numberHere 7 = .ok (.iload_n 2, 1) := by decide +kernel
theorem dX9_numberHere_8 : decode cX9_numberHere 8 = .ok (.aload_n 0, 1) := by decide +kernel
theorem dX9_numberHere_9 : decode cX9_numberHere 9 = .ok (.getfield 25, 3) := by decide +kernel
theorem dX9_numberHere_12 : decode cX9_numberHere 12 = .ok (.if_icmp .ge 24, 3) := by decide +kernel
theorem dX9_numberHere_15 : decode cX9_numberHere 15 = .ok (.bipush 10, 2) := by decide +kernel
theorem dX9_numberHere_17 : decode cX9_numberHere 17 = .ok (.iload_n 1, 1) := by decide +kernel
theorem dX9_numberHere_18 : decode cX9_numberHere 18 = .ok (.imul, 1) := by decide +kernel
theorem dX9_numberHere_19 : decode cX9_numberHere 19 = .ok (.aload_n 0, 1) := by decide +kernel
theorem dX9_numberHere_20 : decode cX9_numberHere 20 = .ok (.getfield 9, 3) := by decide +kernel
theorem dX9_numberHere_23 : decode cX9_numberHere 23 = .ok (.iload_n 2, 1) := by decide +kernel
theorem dX9_numberHere_24 : decode cX9_numberHere 24 = .ok (.iaload, 1) := by decide +kernel
theorem dX9_numberHere_25 : decode cX9_numberHere 25 = .ok (.iadd, 1) := by decide +kernel
theorem dX9_numberHere_26 : decode cX9_numberHere 26 = .ok (.bipush 48, 2) := by decide +kernel
theorem dX9_numberHere_28 : decode cX9_numberHere 28 = .ok (.isub, 1) := by decide +kernel
theorem dX9_numberHere_29 : decode cX9_numberHere 29 = .ok (.istore_n 1, 1) := by decide +kernel
theorem dX9_numberHere_30 : decode cX9_numberHere 30 = .ok (.iinc 2 1, 3) := by decide +kernel
theorem dX9_numberHere_33 : decode cX9_numberHere 33 = .ok (.goto (-26), 3) := by decide +kernel
theorem dX9_numberHere_36 : decode cX9_numberHere 36 = .ok (.iload_n 1, 1) := by decide +kernel
theorem dX9_numberHere_37 : decode cX9_numberHere 37 = .ok (.ireturn, 1) := by decide +kernel
theorem dX9_fail_0 : decode cX9_fail 0 = .ok (.aload_n 0, 1) := by decide +kernel
theorem dX9_fail_1 : decode cX9_fail 1 = .ok (.iload_n 1, 1) := by decide +kernel
theorem dX9_fail_2 : decode cX9_fail 2 = .ok (.putfield 28, 3) := by decide +kernel
theorem dX9_fail_5 : decode cX9_fail 5 = .ok (.aload_n 0, 1) := by decide +kernel
theorem dX9_fail_6 : decode cX9_fail 6 = .ok (.aload_n 0, 1) := by decide +kernel
theorem dX9_fail_7 : decode cX9_fail 7 = .ok (.getfield 22, 3) := by decide +kernel
theorem dX9_fail_10 : decode cX9_fail 10 = .ok (.putfield 31, 3) := by decide +kernel
theorem dX9_fail_13 : decode cX9_fail 13 = .ok (.iconst 0, 1) := by decide +kernel
theorem dX9_fail_14 : decode cX9_fail 14 = .ok (.ireturn, 1) := by decide +kernel
theorem dX9_readNumber_0 : decode cX9_readNumber 0 = .ok (.aload_n 0, 1) := by decide +kernel
theorem dX9_readNumber_1 : decode cX9_readNumber 1 = .ok (.getfield 19, 3) := by decide +kernel
theorem dX9_readNumber_4 : decode cX9_readNumber 4 = .ok (.iconst 1, 1) := by decide +kernel
theorem dX9_readNumber_5 : decode cX9_readNumber 5 = .ok (.if_icmp .eq 11, 3) := by decide +kernel
theorem dX9_readNumber_8 : decode cX9_readNumber 8 = .ok (.aload_n 0, 1) := by decide +kernel
theorem dX9_readNumber_9 : decode cX9_readNumber 9 = .ok (.iconst 1, 1) := by decide +kernel
theorem dX9_readNumber_10 : decode cX9_readNumber 10 = .ok (.invokevirtual 58, 3) := by decide +kernel
theorem dX9_readNumber_13 : decode cX9_readNumber 13 = .ok (.pop, 1) := by decide +kernel
theorem dX9_readNumber_14 : decode cX9_readNumber 14 = .ok (.iconst (-1), 1) := by decide +kernel
theorem dX9_readNumber_15 : decode cX9_readNumber 15 = .ok (.ireturn, 1) := by decide +kernel
theorem dX9_readNumber_16 : decode cX9_readNumber 16 = .ok (.aload_n 0, 1) := by decide +kernel
theorem dX9_readNumber_17 : decode cX9_readNumber 17 = .ok (.invokevirtual 62, 3) := by decide +kernel
theorem dX9_readNumber_20 : decode cX9_readNumber 20 = .ok (.istore_n 3, 1) := by decide +kernel
theorem dX9_readNumber_21 : decode cX9_readNumber 21 = .ok (.iload_n 3, 1) := by decide +kernel
theorem dX9_readNumber_22 : decode cX9_readNumber 22 = .ok (.iload_n 1, 1) := by decide +kernel
theorem dX9_readNumber_23 : decode cX9_readNumber 23 = .ok (.if_icmp .lt 8, 3) := by decide +kernel
theorem dX9_readNumber_26 : decode cX9_readNumber 26 = .ok (.iload_n 3, 1) := by decide +kernel
theorem dX9_readNumber_27 : decode cX9_readNumber 27 = .ok (.iload_n 2, 1) := by decide +kernel
theorem dX9_readNumber_28 : decode cX9_readNumber 28 = .ok (.if_icmp .le 11, 3) := by decide +kernel
theorem dX9_readNumber_31 : decode cX9_readNumber 31 = .ok (.aload_n 0, 1) := by decide +kernel
theorem dX9_readNumber_32 : decode cX9_readNumber 32 = .ok (.iconst 2, 1) := by decide +kernel
theorem dX9_readNumber_33 : decode cX9_readNumber 33 = .ok (.invokevirtual 58, 3) := by decide +kernel
theorem dX9_readNumber_36 : decode cX9_readNumber 36 = .ok (.pop, 1) := by decide +kernel
theorem dX9_readNumber_37 : decode cX9_readNumber 37 = .ok (.iconst (-1), 1) := by decide +kernel
theorem dX9_readNumber_38 : decode cX9_readNumber 38 = .ok (.ireturn, 1) := by decide +kernel
theorem dX9_readNumber_39 : decode cX9_readNumber 39 = .ok (.aload_n 0, 1) := by decide +kernel
theorem dX9_readNumber_40 : decode cX9_readNumber 40 = .ok (.invokevirtual 38, 3) := by decide +kernel
theorem dX9_readNumber_43 : decode cX9_readNumber 43 = .ok (.iload_n 3, 1) := by decide +kernel
theorem dX9_readNumber_44 : decode cX9_readNumber 44 = .ok (.ireturn, 1) := by decide +kernel
theorem dX9_readSemicolon_0 : decode cX9_readSemicolon 0 = .ok (.aload_n 0, 1) := by decide +kernel
theorem dX9_readSemicolon_1 : decode cX9_readSemicolon 1 = .ok (.getfield 19, 3) := by decide +kernel
theorem dX9_readSemicolon_4 : decode cX9_readSemicolon 4 = .ok (.iconst 2, 1) := by decide +kernel
theorem dX9_readSemicolon_5 : decode cX9_readSemicolon 5 = .ok (.if_icmp .eq 9, 3) := by decide +kernel
theorem dX9_readSemicolon_8 : decode cX9_readSemicolon 8 = .ok (.aload_n 0, 1) := by decide +kernel
theorem dX9_readSemicolon_9 : decode cX9_readSemicolon 9 = .ok (.iconst 1, 1) := by decide +kernel
theorem dX9_readSemicolon_10 : decode cX9_readSemicolon 10 = .ok (.invokevirtual 58, 3) := by decide +kernel
theorem dX9_readSemicolon_13 : decode cX9_readSemicolon 13 = .ok (.ireturn, 1) := by decide +kernel
theorem dX9_readSemicolon_14 : decode cX9_readSemicolon 14 = .ok (.aload_n 0, 1) := by decide +kernel
theorem dX9_readSemicolon_15 : decode cX9_readSemicolon 15 = .ok (.invokevirtual 38, 3) := by decide +kernel
theorem dX9_readSemicolon_18 : decode cX9_readSemicolon 18 = .ok (.iconst 1, 1) := by decide +kernel
theorem dX9_readSemicolon_19 : decode cX9_readSemicolon 19 = .ok (.ireturn, 1) := by decide +kernel
theorem dX10_init_0 : decode cX10_init 0 = .ok (.aload_n 0, 1) := by decide +kernel
theorem dX10_init_1 : decode cX10_init 1 = .ok (.invokespecial 3, 3) := by decide +kernel
theorem dX10_init_4 : decode cX10_init 4 = .ok (.aload_n 0, 1) := by decide +kernel
theorem dX10_init_5 : decode cX10_init 5 = .ok (.iconst 0, 1) := by decide +kernel
theorem dX10_init_6 : decode cX10_init 6 = .ok (.putfield 9, 3) := by decide +kernel
theorem dX10_init_9 : decode cX10_init 9 = .ok (.aload_n 0, 1) := by decide +kernel
theorem dX10_init_10 : decode cX10_init 10 = .ok (.iconst 0, 1) := by decide +kernel
theorem dX10_init_11 : decode cX10_init 11 = .ok (.putfield 15, 3) := by decide +kernel
theorem dX10_init_14 : decode cX10_init 14 = .ok (.aload_n 0, 1) := by decide +kernel
theorem dX10_init_15 : decode cX10_init 15 = .ok (.bipush 100, 2) := by decide +kernel
theorem dX10_init_17 : decode cX10_init 17 = .ok (.newarray .int, 2) := by decide +kernel
theorem dX10_init_19 : decode cX10_init 19 = .ok (.putfield 18, 3) := by decide +kernel
theorem dX10_init_22 : decode cX10_init 22 = .ok (.return_, 1) := by decide +kernel
theorem dX10_clear_0 : decode cX10_clear 0 = .ok (.aload_n 0, 1) := by decide +kernel
theorem dX10_clear_1 : decode cX10_clear 1 = .ok (.iconst 0, 1) := by decide +kernel
theorem dX10_clear_2 : decode cX10_clear 2 = .ok (.putfield 9, 3) := by decide +kernel
theorem dX10_clear_5 : decode cX10_clear 5 = .ok (.aload_n 0, 1) := by decide +kernel
theorem dX10_clear_6 : decode cX10_clear 6 = .ok (.iconst 0, 1) := by decide +kernel
theorem dX10_clear_7 : decode cX10_clear 7 = .ok (.putfield 15, 3) := by decide +kernel
theorem dX10_clear_10 : decode cX10_clear 10 = .ok (.return_, 1) := by decide +kernel
theorem dX10_add_0 : decode cX10_add 0 = .ok (.aload_n 0, 1) := by decide +kernel
theorem dX10_add_1 : decode cX10_add 1 = .ok (.getfield 15, 3) := by decide +kernel
theorem dX10_add_4 : decode cX10_add 4 = .ok (.iconst 5, 1) := by decide +kernel
theorem dX10_add_5 : decode cX10_add 5 = .ok (.imul, 1) := by decide +kernel
theorem dX10_add_6 : decode cX10_add 6 = .ok (.istore 6, 2) := by decide +kernel
theorem dX10_add_8 : decode cX10_add 8 = .ok (.aload_n 0, 1) := by decide +kernel
theorem dX10_add_9 : decode cX10_add 9 = .ok (.getfield 18, 3) := by decide +kernel
theorem dX10_add_12 : decode cX10_add 12 = .ok (.iload 6, 2) := by decide +kernel
theorem dX10_add_14 : decode cX10_add 14 = .ok (.iload_n 1, 1) := by decide +kernel
theorem dX10_add_15 : decode cX10_add 15 = .ok (.iastore, 1) := by decide +kernel
theorem dX10_add_16 : decode cX10_add 16 = .ok (.aload_n 0, 1) := by decide +kernel
theorem dX10_add_17 : decode cX10_add 17 = .ok (.getfield 18, 3) := by decide +kernel
theorem dX10_add_20 : decode cX10_add 20 = .ok (.iload 6, 2) := by decide +kernel
theorem dX10_add_22 : decode cX10_add 22 = .ok (.iconst 1, 1) := by decide +kernel
theorem dX10_add_23 : decode cX10_add 23 = .ok (.iadd, 1) := by decide +kernel
theorem dX10_add_24 : decode cX10_add 24 = .ok (.iload_n 2, 1) := by decide +kernel
theorem dX10_add_25 : decode cX10_add 25 = .ok (.iastore, 1) := by decide +kernel
theorem dX10_add_26 : decode cX10_add 26 = .ok (.aload_n 0, 1) := by decide +kernel
theorem dX10_add_27 : decode cX10_add 27 = .ok (.getfield 18, 3) := by decide +kernel
theorem dX10_add_30 : decode cX10_add 30 = .ok (.iload 6, 2) := by decide +kernel
theorem dX10_add_32 : decode cX10_add 32 = .ok (.iconst 2, 1) := by decide +kernel
theorem dX10_add_33 : decode cX10_add 33 = .ok (.iadd, 1) := by decide +kernel
theorem dX10_add_34 : decode cX10_add 34 = .ok (.iload_n 3, 1) := by decide +kernel
theorem dX10_add_35 : decode cX10_add 35 = .ok (.iastore, 1) := by decide +kernel
theorem dX10_add_36 : decode cX10_add 36 = .ok (.aload_n 0, 1) := by decide +kernel
theorem dX10_add_37 : decode cX10_add 37 = .ok (.getfield 18, 3) := by decide +kernel
theorem dX10_add_40 : decode cX10_add 40 = .ok (.iload 6, 2) := by decide +kernel
theorem dX10_add_42 : decode cX10_add 42 = .ok (.iconst 3, 1) := by decide +kernel
theorem dX10_add_43 : decode cX10_add 43 = .ok (.iadd, 1) := by decide +kernel
theorem dX10_add_44 : decode cX10_add 44 = .ok (.iload 4, 2) := by decide +kernel
theorem dX10_add_46 : decode cX10_add 46 = .ok (.iastore, 1) := by decide +kernel
theorem dX10_add_47 : decode cX10_add 47 = .ok (.aload_n 0, 1) := by decide +kernel
theorem dX10_add_48 : decode cX10_add 48 = .ok (.getfield 18, 3) := by decide +kernel
theorem dX10_add_51 : decode cX10_add 51 = .ok (.iload 6, 2) := by decide +kernel
theorem dX10_add_53 : decode cX10_add 53 = .ok (.iconst 4, 1) := by decide +kernel
theorem dX10_add_54 : decode cX10_add 54 = .ok (.iadd, 1) := by decide +kernel
theorem dX10_add_55 : decode cX10_add 55 = .ok (.iload 5, 2) := by decide +kernel
theorem dX10_add_57 : decode cX10_add 57 = .ok (.iastore, 1) := by decide +kernel
theorem dX10_add_58 : decode cX10_add 58 = .ok (.aload_n 0, 1) := by decide +kernel
theorem dX10_add_59 : decode cX10_add 59 = .ok (.aload_n 0, 1) := by decide +kernel
theorem dX10_add_60 : decode cX10_add 60 = .ok (.getfield 15, 3) := by decide +kernel
theorem dX10_add_63 : decode cX10_add 63 = .ok (.iconst 1, 1) := by decide +kernel
theorem dX10_add_64 : decode cX10_add 64 = .ok (.iadd, 1) := by decide +kernel
theorem dX10_add_65 : decode cX10_add 65 = .ok (.bipush 20, 2) := by decide +kernel
theorem dX10_add_67 : decode cX10_add 67 = .ok (.irem, 1) := by decide +kernel
theorem dX10_add_68 : decode cX10_add 68 = .ok (.putfield 15, 3) := by decide +kernel
theorem dX10_add_71 : decode cX10_add 71 = .ok (.aload_n 0, 1) := by decide +kernel
theorem dX10_add_72 : decode cX10_add 72 = .ok (.getfield 9, 3) := by decide +kernel
theorem dX10_add_75 : decode cX10_add 75 = .ok (.bipush 20, 2) := by decide +kernel
theorem dX10_add_77 : decode cX10_add 77 = .ok (.if_icmp .ge 13, 3) := by decide +kernel
theorem dX10_add_80 : decode cX10_add 80 = .ok (.aload_n 0, 1) := by decide +kernel
theorem dX10_add_81 : decode cX10_add 81 = .ok (.dup, 1) := by decide +kernel
theorem dX10_add_82 : decode cX10_add 82 = .ok (.getfield 9, 3) := by decide +kernel
theorem dX10_add_85 : decode cX10_add 85 = .ok (.iconst 1, 1) := by decide +kernel
theorem dX10_add_86 : decode cX10_add 86 = .ok (.iadd, 1) := by decide +kernel
theorem dX10_add_87 : decode cX10_add 87 = .ok (.putfield 9, 3) := by decide +kernel
theorem dX10_add_90 : decode cX10_add 90 = .ok (.return_, 1) := by decide +kernel
theorem dX10_numberOf_0 : decode cX10_numberOf 0 = .ok (.aload_n 0, 1) := by decide +kernel
theorem dX10_numberOf_1 : decode cX10_numberOf 1 = .ok (.getfield 15, 3) := by decide +kernel
theorem dX10_numberOf_4 : decode cX10_numberOf 4 = .ok (.iconst 1, 1) := by decide +kernel
theorem dX10_numberOf_5 : decode cX10_numberOf 5 = .ok (.isub, 1) := by decide +kernel
theorem dX10_numberOf_6 : decode cX10_numberOf 6 = .ok (.iload_n 1, 1) := by decide +kernel
theorem dX10_numberOf_7 : decode cX10_numberOf 7 = .ok (.isub, 1) := by decide +kernel
theorem dX10_numberOf_8 : decode cX10_numberOf 8 = .ok (.bipush 40, 2) := by decide +kernel
theorem dX10_numberOf_10 : decode cX10_numberOf 10 = .ok (.iadd, 1) := by decide +kernel
theorem dX10_numberOf_11 : decode cX10_numberOf 11 = .ok (.bipush 20, 2) := by decide +kernel
theorem dX10_numberOf_13 : decode cX10_numberOf 13 = .ok (.irem, 1) := by decide +kernel
theorem dX10_numberOf_14 : decode cX10_numberOf 14 = .ok (.istore_n 3, 1) := by decide +kernel
theorem dX10_numberOf_15 : decode cX10_numberOf 15 = .ok (.aload_n 0, 1) := by decide +kernel
theorem dX10_numberOf_16 : decode cX10_numberOf 16 = .ok (.getfield 18, 3) := by decide +kernel
theorem dX10_numberOf_19 : decode cX10_numberOf 19 = .ok (.iload_n 3, 1) := by decide +kernel
theorem dX10_numberOf_20 : decode cX10_numberOf 20 = .ok (.iconst 5, 1) := by decide +kernel
theorem dX10_numberOf_21 : decode cX10_numberOf 21 = .ok (.imul, 1) := by decide +kernel
theorem dX10_numberOf_22 : decode cX10_numberOf 22 = .ok (.iload_n 2, 1) := by decide +kernel
theorem dX10_numberOf_23 : decode cX10_numberOf 23 = .ok (.iadd, 1) := by decide +kernel
theorem dX10_numberOf_24 : decode cX10_numberOf 24 = .ok (.iaload, 1) := by decide +kernel
theorem dX10_numberOf_25 : decode cX10_numberOf 25 = .ok (.ireturn, 1) := by decide +kernel
theorem dX10_copyFrom_0 : decode cX10_copyFrom 0 = .ok (.aload_n 0, 1) := by decide +kernel
theorem dX10_copyFrom_1 : decode cX10_copyFrom 1 = .ok (.aload_n 1, 1) := by decide +kernel
theorem dX10_copyFrom_2 : decode cX10_copyFrom 2 = .ok (.getfield 9, 3) := by decide +kernel
theorem dX10_copyFrom_5 : decode cX10_copyFrom 5 = .ok (.putfield 9, 3) := by decide +kernel
theorem dX10_copyFrom_8 : decode cX10_copyFrom 8 = .ok (.aload_n 0, 1) := by decide +kernel
theorem dX10_copyFrom_9 : decode cX10_copyFrom 9 = .ok (.aload_n 1, 1) := by decide +kernel
theorem dX10_copyFrom_10 : decode cX10_copyFrom 10 = .ok (.getfield 15, 3) := by decide +kernel
theorem dX10_copyFrom_13 : decode cX10_copyFrom 13 = .ok (.putfield 15, 3) := by decide +kernel
theorem dX10_copyFrom_16 : decode cX10_copyFrom 16 = .ok (.aload_n 1, 1) := by decide +kernel
theorem dX10_copyFrom_17 : decode cX10_copyFrom 17 = .ok (.getfield 18, 3) := by decide +kernel
theorem dX10_copyFrom_20 : decode cX10_copyFrom 20 = .ok (.iconst 0, 1) := by decide +kernel
theorem dX10_copyFrom_21 : decode cX10_copyFrom 21 = .ok (.aload_n 0, 1) := by decide +kernel
theorem dX10_copyFrom_22 : decode cX10_copyFrom 22 = .ok (.getfield 18, 3) := by decide +kernel
theorem dX10_copyFrom_25 : decode cX10_copyFrom 25 = .ok (.iconst 0, 1) := by decide +kernel
theorem dX10_copyFrom_26 : decode cX10_copyFrom 26 = .ok (.bipush 100, 2) := by decide +kernel
theorem dX10_copyFrom_28 : decode cX10_copyFrom 28 = .ok (.invokestatic 22, 3) := by decide +kernel
theorem dX10_copyFrom_31 : decode cX10_copyFrom 31 = .ok (.return_, 1) := by decide +kernel
theorem dX11_init_0 : decode cX11_init 0 = .ok (.aload_n 0, 1) := by decide +kernel
theorem dX11_init_1 : decode cX11_init 1 = .ok (.invokespecial 1, 3) := by decide +kernel
theorem dX11_init_4 : decode cX11_init 4 = .ok (.aload_n 0, 1) := by decide +kernel
theorem dX11_init_5 : decode cX11_init 5 = .ok (.new 7, 3) := by decide +kernel
theorem dX11_init_8 : decode cX11_init 8 = .ok (.dup, 1) := by decide +kernel
theorem dX11_init_9 : decode cX11_init 9 = .ok (.invokespecial 9, 3) := by decide +kernel
theorem dX11_init_12 : decode cX11_init 12 = .ok (.putfield 10, 3) := by decide +kernel
theorem dX11_init_15 : decode cX11_init 15 = .ok (.aload_n 0, 1) := by decide +kernel
theorem dX11_init_16 : decode cX11_init 16 = .ok (.new 16, 3) := by decide +kernel
theorem dX11_init_19 : decode cX11_init 19 = .ok (.dup, 1) := by decide +kernel
theorem dX11_init_20 : decode cX11_init 20 = .ok (.aload_n 0, 1) := by decide +kernel
theorem dX11_init_21 : decode cX11_init 21 = .ok (.getfield 10, 3) := by decide +kernel
theorem dX11_init_24 : decode cX11_init 24 = .ok (.invokespecial 18, 3) := by decide +kernel
theorem dX11_init_27 : decode cX11_init 27 = .ok (.putfield 21, 3) := by decide +kernel
theorem dX11_init_30 : decode cX11_init 30 = .ok (.aload_n 0, 1) := by decide +kernel
theorem dX11_init_31 : decode cX11_init 31 = .ok (.new 25, 3) := by decide +kernel
theorem dX11_init_34 : decode cX11_init 34 = .ok (.dup, 1) := by decide +kernel
theorem dX11_init_35 : decode cX11_init 35 = .ok (.aload_n 0, 1) := by decide +kernel
theorem dX11_init_36 : decode cX11_init 36 = .ok (.getfield 21, 3) := by decide +kernel
theorem dX11_init_39 : decode cX11_init 39 = .ok (.invokespecial 27, 3) := by decide +kernel
theorem dX11_init_42 : decode cX11_init 42 = .ok (.putfield 30, 3) := by decide +kernel
theorem dX11_init_45 : decode cX11_init 45 = .ok (.aload_n 0, 1) := by decide +kernel
theorem dX11_init_46 : decode cX11_init 46 = .ok (.new 16, 3) := by decide +kernel
theorem dX11_init_49 : decode cX11_init 49 = .ok (.dup, 1) := by decide +kernel
theorem dX11_init_50 : decode cX11_init 50 = .ok (.aload_n 0, 1) := by decide +kernel
theorem dX11_init_51 : decode cX11_init 51 = .ok (.getfield 10, 3) := by decide +kernel
theorem dX11_init_54 : decode cX11_init 54 = .ok (.invokespecial 18, 3) := by decide +kernel
theorem dX11_init_57 : decode cX11_init 57 = .ok (.putfield 34, 3) := by decide +kernel
theorem dX11_init_60 : decode cX11_init 60 = .ok (.aload_n 0, 1) := by decide +kernel
theorem dX11_init_61 : decode cX11_init 61 = .ok (.new 25, 3) := by decide +kernel
theorem dX11_init_64 : decode cX11_init 64 = .ok (.dup, 1) := by decide +kernel
theorem dX11_init_65 : decode cX11_init 65 = .ok (.aload_n 0, 1) := by decide +kernel
theorem dX11_init_66 : decode cX11_init 66 = .ok (.getfield 34, 3) := by decide +kernel
theorem dX11_init_69 : decode cX11_init 69 = .ok (.invokespecial 27, 3) := by decide +kernel
theorem dX11_init_72 : decode cX11_init 72 = .ok (.putfield 37, 3) := by decide +kernel
theorem dX11_init_75 : decode cX11_init 75 = .ok (.aload_n 0, 1) := by decide +kernel
theorem dX11_init_76 : decode cX11_init 76 = .ok (.new 16, 3) := by decide +kernel
theorem dX11_init_79 : decode cX11_init 79 = .ok (.dup, 1) := by decide +kernel
theorem dX11_init_80 : decode cX11_init 80 = .ok (.aload_n 0, 1) := by decide +kernel
theorem dX11_init_81 : decode cX11_init 81 = .ok (.getfield 10, 3) := by decide +kernel
theorem dX11_init_84 : decode cX11_init 84 = .ok (.invokespecial 18, 3) := by decide +kernel
theorem dX11_init_87 : decode cX11_init 87 = .ok (.putfield 40, 3) := by decide +kernel
theorem dX11_init_90 : decode cX11_init 90 = .ok (.aload_n 0, 1) := by decide +kernel
theorem dX11_init_91 : decode cX11_init 91 = .ok (.new 43, 3) := by decide +kernel
theorem dX11_init_94 : decode cX11_init 94 = .ok (.dup, 1) := by decide +kernel
theorem dX11_init_95 : decode cX11_init 95 = .ok (.aload_n 0, 1) := by decide +kernel
theorem dX11_init_96 : decode cX11_init 96 = .ok (.getfield 10, 3) := by decide +kernel
theorem dX11_init_99 : decode cX11_init 99 = .ok (.invokespecial 45, 3) := by decide +kernel
theorem dX11_init_102 : decode cX11_init 102 = .ok (.putfield 46, 3) := by decide +kernel
theorem dX11_init_105 : decode cX11_init 105 = .ok (.aload_n 0, 1) := by decide +kernel
theorem dX11_init_106 : decode cX11_init 106 = .ok (.new 50, 3) := by decide +kernel
theorem dX11_init_109 : decode cX11_init 109 = .ok (.dup, 1) := by decide +kernel
theorem dX11_init_110 : decode cX11_init 110 = .ok (.invokespecial 52, 3) := by decide +kernel
theorem dX11_init_113 : decode cX11_init 113 = .ok (.putfield 53, 3) := by decide +kernel
theorem dX11_init_116 : decode cX11_init 116 = .ok (.aload_n 0, 1) := by decide +kernel
theorem dX11_init_117 : decode cX11_init 117 = .ok (.new 57, 3) := by decide +kernel
theorem dX11_init_120 : decode cX11_init 120 = .ok (.dup, 1) := by decide +kernel
theorem dX11_init_121 : decode cX11_init 121 = .ok (.aload_n 0, 1) := by decide +kernel
theorem dX11_init_122 : decode cX11_init 122 = .ok (.getfield 53, 3) := by decide +kernel
theorem dX11_init_125 : decode cX11_init 125 = .ok (.invokespecial 59, 3) := by decide +kernel
theorem dX11_init_128 : decode cX11_init 128 = .ok (.putfield 62, 3) := by decide +kernel
theorem dX11_init_131 : decode cX11_init 131 = .ok (.aload_n 0, 1) := by decide +kernel
theorem dX11_init_132 : decode cX11_init 132 = .ok (.new 66, 3) := by decide +kernel
theorem dX11_init_135 : decode cX11_init 135 = .ok (.dup, 1) := by decide +kernel
theorem dX11_init_136 : decode cX11_init 136 = .ok (.aload_n 0, 1) := by decide +kernel
theorem dX11_init_137 : decode cX11_init 137 = .ok (.getfield 53, 3) := by decide +kernel
theorem dX11_init_140 : decode cX11_init 140 = .ok (.aload_n 0, 1) := by decide +kernel
theorem dX11_init_141 : decode cX11_init 141 = .ok (.getfield 10, 3) := by decide +kernel
theorem dX11_init_144 : decode cX11_init 144 = .ok (.invokespecial 68, 3) := by decide +kernel
theorem dX11_init_147 : decode cX11_init 147 = .ok (.putfield 71, 3) := by decide +kernel
theorem dX11_init_150 : decode cX11_init 150 = .ok (.aload_n 0, 1) := by decide +kernel
theorem dX11_init_151 : decode cX11_init 151 = .ok (.sipush 160, 3) := by decide +kernel
theorem dX11_init_154 : decode cX11_init 154 = .ok (.newarray .int, 2) := by decide +kernel
theorem dX11_init_156 : decode cX11_init 156 = .ok (.putfield 75, 3) := by decide +kernel
theorem dX11_init_159 : decode cX11_init 159 = .ok (.aload_n 0, 1) := by decide +kernel
theorem dX11_init_160 : decode cX11_init 160 = .ok (.iconst 0, 1) := by decide +kernel
theorem dX11_init_161 : decode cX11_init 161 = .ok (.putfield 79, 3) := by decide +kernel
theorem dX11_init_164 : decode cX11_init 164 = .ok (.aload_n 0, 1) := by decide +kernel
theorem dX11_init_165 : decode cX11_init 165 = .ok (.iconst 0, 1) := by decide +kernel
theorem dX11_init_166 : decode cX11_init 166 = .ok (.putfield 83, 3) := by decide +kernel
theorem dX11_init_169 : decode cX11_init 169 = .ok (.iconst 0, 1) := by decide +kernel
theorem dX11_init_170 : decode cX11_init 170 = .ok (.istore_n 1, 1) := by decide +kernel
theorem dX11_init_171 : decode cX11_init 171 = .ok (.iload_n 1, 1) := by decide +kernel
theorem dX11_init_172 : decode cX11_init 172 = .ok (.ldc 87, 2) := by decide +kernel
theorem dX11_init_174 : decode cX11_init 174 = .ok (.invokevirtual 89, 3) := by decide +kernel
theorem dX11_init_177 : decode cX11_init 177 = .ok (.if_icmp .ge 22, 3) := by decide +kernel
theorem dX11_init_180 : decode cX11_init 180 = .ok (.aload_n 0, 1) := by decide +kernel
theorem dX11_init_181 : decode cX11_init 181 = .ok (.getfield 53, 3) := by decide +kernel
theorem dX11_init_184 : decode cX11_init 184 = .ok (.ldc 87, 2) := by decide +kernel
theorem dX11_init_186 : decode cX11_init 186 = .ok (.iload_n 1, 1) := by decide +kernel
theorem dX11_init_187 : decode cX11_init 187 = .ok (.invokevirtual 95, 3) := by decide +kernel
theorem dX11_init_190 : decode cX11_init 190 = .ok (.invokevirtual 99, 3) := by decide +kernel
theorem dX11_init_193 : decode cX11_init 193 = .ok (.iinc 1 1, 3) := by decide +kernel
theorem dX11_init_196 : decode cX11_init 196 = .ok (.goto (-25), 3) := by decide +kernel
theorem dX11_init_199 : decode cX11_init 199 = .ok (.aload_n 0, 1) := by decide +kernel
theorem dX11_init_200 : decode cX11_init 200 = .ok (.getfield 62, 3) := by decide +kernel
theorem dX11_init_203 : decode cX11_init 203 = .ok (.invokevirtual 103, 3) := by decide +kernel
theorem dX11_init_206 : decode cX11_init 206 = .ok (.ifCond .eq 7, 3) := by decide +kernel
theorem dX11_init_209 : decode cX11_init 209 = .ok (.aload_n 0, 1) := by decide +kernel
theorem dX11_init_210 : decode cX11_init 210 = .ok (.invokevirtual 107, 3) := by decide +kernel
theorem dX11_init_213 : decode cX11_init 213 = .ok (.aload_n 0, 1) := by decide +kernel
theorem dX11_init_214 : decode cX11_init 214 = .ok (.getfield 53, 3) := by decide +kernel
theorem dX11_init_217 : decode cX11_init 217 = .ok (.iconst 0, 1) := by decide +kernel
theorem dX11_init_218 : decode cX11_init 218 = .ok (.putfield 110, 3) := by decide +kernel
theorem dX11_init_221 : decode cX11_init 221 = .ok (.return_, 1) := by decide +kernel
theorem dX11_appendInput_0 : decode cX11_appendInput 0 = .ok (.aload_n 0, 1) := by decide +kernel
theorem dX11_appendInput_1 : decode cX11_appendInput 1 = .ok (.getfield 53, 3) := by decide +kernel
theorem dX11_appendInput_4 : decode cX11_appendInput 4 = .ok (.getfield 110, 3) := by decide +kernel
theorem dX11_appendInput_7 : decode cX11_appendInput 7 = .ok (.sipush 580, 3) := by decide +kernel
theorem dX11_appendInput_10 : decode cX11_appendInput 10 = .ok (.if_icmp .le 5, 3) := by decide +kernel
theorem dX11_appendInput_13 : decode cX11_appendInput 13 = .ok (.iconst (-1), 1) := by decide +kernel
theorem dX11_appendInput_14 : decode cX11_appendInput 14 = .ok (.ireturn, 1) := by decide +kernel
theorem dX11_appendInput_15 : decode cX11_appendInput 15 = .ok (.aload_n 0, 1) := by decide +kernel
theorem dX11_appendInput_16 : decode cX11_appendInput 16 = .ok (.getfield 53, 3) := by decide +kernel
theorem dX11_appendInput_19 : decode cX11_appendInput 19 = .ok (.iload_n 1, 1) := by decide +kernel
theorem dX11_appendInput_20 : decode cX11_appendInput 20 = .ok (.invokevirtual 112, 3) := by decide +kernel
theorem dX11_appendInput_23 : decode cX11_appendInput 23 = .ok (.aload_n 0, 1) := by decide +kernel
theorem dX11_appendInput_24 : decode cX11_appendInput 24 = .ok (.getfield 53, 3) := by decide +kernel
theorem dX11_appendInput_27 : decode cX11_appendInput 27 = .ok (.iload_n 2, 1) := by decide +kernel
theorem dX11_appendInput_28 : decode cX11_appendInput 28 = .ok (.invokevirtual 112, 3) := by decide +kernel
theorem dX11_appendInput_31 : decode cX11_appendInput 31 = .ok (.aload_n 0, 1) := by decide +kernel
theorem dX11_appendInput_32 : decode cX11_appendInput 32 = .ok (.getfield 53, 3) := by decide +kernel
theorem dX11_appendInput_35 : decode cX11_appendInput 35 = .ok (.iload_n 3, 1) := by decide +kernel
theorem dX11_appendInput_36 : decode cX11_appendInput 36 = .ok (.invokevirtual 112, 3) := by decide +kernel
theorem dX11_appendInput_39 : decode cX11_appendInput 39 = .ok (.aload_n 0, 1) := by decide +kernel
theorem dX11_appendInput_40 : decode cX11_appendInput 40 = .ok (.getfield 53, 3) := by decide +kernel
theorem dX11_appendInput_43 : decode cX11_appendInput 43 = .ok (.iload 4, 2) := by decide +kernel
theorem dX11_appendInput_45 : decode cX11_appendInput 45 = .ok (.invokevirtual 112, 3) := by decide +kernel
theorem dX11_appendInput_48 : decode cX11_appendInput 48 = .ok (.aload_n 0, 1) := by decide +kernel
theorem dX11_appendInput_49 : decode cX11_appendInput 49 = .ok (.getfield 53, 3) := by decide +kernel
theorem dX11_appendInput_52 : decode cX11_appendInput 52 = .ok (.iload 5, 2) := by decide +kernel
theorem dX11_appendInput_54 : decode cX11_appendInput 54 = .ok (.invokevirtual 112, 3) := by decide +kernel
theorem dX11_appendInput_57 : decode cX11_appendInput 57 = .ok (.aload_n 0, 1) := by decide +kernel
theorem dX11_appendInput_58 : decode cX11_appendInput 58 = .ok (.getfield 53, 3) := by decide +kernel
theorem dX11_appendInput_61 : decode cX11_appendInput 61 = .ok (.getfield 110, 3) := by decide +kernel
theorem dX11_appendInput_64 : decode cX11_appendInput 64 = .ok (.ireturn, 1) := by decide +kernel
theorem dX11_truncateInput_0 : decode cX11_truncateInput 0 = .ok (.iload_n 1, 1) := by decide +kernel
theorem dX11_truncateInput_1 : decode cX11_truncateInput 1 = .ok (.ifCond .lt 14, 3) := by decide +kernel
theorem dX11_truncateInput_4 : decode cX11_truncateInput 4 = .ok (.iload_n 1, 1) := by decide +kernel
theorem dX11_truncateInput_5 : decode cX11_truncateInput 5 = .ok (.aload_n 0, 1) := by decide +kernel
theorem dX11_truncateInput_6 : decode cX11_truncateInput 6 = .ok (.getfield 53, 3) := by decide +kernel
theorem dX11_truncateInput_9 : decode cX11_truncateInput 9 = .ok (.getfield 110, 3) := by decide +kernel
theorem dX11_truncateInput_12 : decode cX11_truncateInput 12 = .ok (.if_icmp .le 5, 3) := by decide +kernel
theorem dX11_truncateInput_15 : decode cX11_truncateInput 15 = .ok (.iconst 0, 1) := by decide +kernel
theorem dX11_truncateInput_16 : decode cX11_truncateInput 16 = .ok (.ireturn, 1) := by decide +kernel
theorem dX11_truncateInput_17 : decode cX11_truncateInput 17 = .ok (.aload_n 0, 1) := by decide +kernel
theorem dX11_truncateInput_18 : decode cX11_truncateInput 18 = .ok (.getfield 53, 3) := by decide +kernel
theorem dX11_truncateInput_21 : decode cX11_truncateInput 21 = .ok (.iload_n 1, 1) := by decide +kernel
theorem dX11_truncateInput_22 : decode cX11_truncateInput 22 = .ok (.putfield 110, 3) := by decide +kernel
theorem dX11_truncateInput_25 : decode cX11_truncateInput 25 = .ok (.iconst 1, 1) := by decide +kernel
theorem dX11_truncateInput_26 : decode cX11_truncateInput 26 = .ok (.ireturn, 1) := by decide +kernel
theorem dX11_loadLine_0 : decode cX11_loadLine 0 = .ok (.aload_n 0, 1) := by decide +kernel
theorem dX11_loadLine_1 : decode cX11_loadLine 1 = .ok (.getfield 62, 3) := by decide +kernel
theorem dX11_loadLine_4 : decode cX11_loadLine 4 = .ok (.invokevirtual 103, 3) := by decide +kernel
theorem dX11_loadLine_7 : decode cX11_loadLine 7 = .ok (.istore_n 1, 1) := by decide +kernel
theorem dX11_loadLine_8 : decode cX11_loadLine 8 = .ok (.aload_n 0, 1) := by decide +kernel
theorem dX11_loadLine_9 : decode cX11_loadLine 9 = .ok (.getfield 53, 3) := by decide +kernel
theorem dX11_loadLine_12 : decode cX11_loadLine 12 = .ok (.iconst 0, 1) := by decide +kernel
theorem dX11_loadLine_13 : decode cX11_loadLine 13 = .ok (.putfield 110, 3) := by decide +kernel
theorem dX11_loadLine_16 : decode cX11_loadLine 16 = .ok (.iload_n 1, 1) := by decide +kernel
theorem dX11_loadLine_17 : decode cX11_loadLine 17 = .ok (.ifCond .ne 5, 3) := by decide +kernel
theorem dX11_loadLine_20 : decode cX11_loadLine 20 = .ok (.iconst (-1), 1) := by decide +kernel
theorem dX11_loadLine_21 : decode cX11_loadLine 21 = .ok (.ireturn, 1) := by decide +kernel
theorem dX11_loadLine_22 : decode cX11_loadLine 22 = .ok (.aload_n 0, 1) := by decide +kernel
theorem dX11_loadLine_23 : decode cX11_loadLine 23 = .ok (.invokevirtual 107, 3) := by decide +kernel
theorem dX11_loadLine_26 : decode cX11_loadLine 26 = .ok (.aload_n 0, 1) := by decide +kernel
theorem dX11_loadLine_27 : decode cX11_loadLine 27 = .ok (.getfield 10, 3) := by decide +kernel
theorem dX11_loadLine_30 : decode cX11_loadLine 30 = .ok (.getfield 115, 3) := by decide +kernel
theorem dX11_loadLine_33 : decode cX11_loadLine 33 = .ok (.ireturn, 1) := by decide +kernel
theorem dX11_beginAnew_0 : decode cX11_beginAnew 0 = .ok (.aload_n 0, 1) := by decide +kernel
theorem dX11_beginAnew_1 : decode cX11_beginAnew 1 = .ok (.getfield 10, 3) := by decide +kernel
theorem dX11_beginAnew_4 : decode cX11_beginAnew 4 = .ok (.aload_n 0, 1) := by decide +kernel
theorem dX11_beginAnew_5 : decode cX11_beginAnew 5 = .ok (.getfield 62, 3) := by decide +kernel
theorem dX11_beginAnew_8 : decode cX11_beginAnew 8 = .ok (.getfield 118, 3) := by decide +kernel
theorem dX11_beginAnew_11 : decode cX11_beginAnew 11 = .ok (.invokevirtual 121, 3) := by decide +kernel
theorem dX11_beginAnew_14 : decode cX11_beginAnew 14 = .ok (.aload_n 0, 1) := by decide +kernel
theorem dX11_beginAnew_15 : decode cX11_beginAnew 15 = .ok (.getfield 21, 3) := by decide +kernel
theorem dX11_beginAnew_18 : decode cX11_beginAnew 18 = .ok (.aload_n 0, 1) := by decide +kernel
theorem dX11_beginAnew_19 : decode cX11_beginAnew 19 = .ok (.getfield 62, 3) := by decide +kernel
theorem dX11_beginAnew_22 : decode cX11_beginAnew 22 = .ok (.invokevirtual 124, 3) := by decide +kernel
theorem dX11_beginAnew_25 : decode cX11_beginAnew 25 = .ok (.aload_n 0, 1) := by decide +kernel
theorem dX11_beginAnew_26 : decode cX11_beginAnew 26 = .ok (.getfield 46, 3) := by decide +kernel
theorem dX11_beginAnew_29 : decode cX11_beginAnew 29 = .ok (.iconst 0, 1) := by decide +kernel
theorem dX11_beginAnew_30 : decode cX11_beginAnew 30 = .ok (.putfield 128, 3) := by decide +kernel
theorem dX11_beginAnew_33 : decode cX11_beginAnew 33 = .ok (.aload_n 0, 1) := by decide +kernel
theorem dX11_beginAnew_34 : decode cX11_beginAnew 34 = .ok (.iconst 0, 1) := by decide +kernel
theorem dX11_beginAnew_35 : decode cX11_beginAnew 35 = .ok (.putfield 83, 3) := by decide +kernel
theorem dX11_beginAnew_38 : decode cX11_beginAnew 38 = .ok (.return_, 1) := by decide +kernel
theorem dX11_playScript_0 : decode cX11_playScript 0 = .ok (.aload_n 0, 1) := by decide +kernel
theorem dX11_playScript_1 : decode cX11_playScript 1 = .ok (.getfield 71, 3) := by decide +kernel
theorem dX11_playScript_4 : decode cX11_playScript 4 = .ok (.invokevirtual 129, 3) := by decide +kernel
theorem dX11_playScript_7 : decode cX11_playScript 7 = .ok (.istore_n 1, 1) := by decide +kernel
theorem dX11_playScript_8 : decode cX11_playScript 8 = .ok (.aload_n 0, 1) := by decide +kernel
theorem dX11_playScript_9 : decode cX11_playScript 9 = .ok (.getfield 53, 3) := by decide +kernel
theorem dX11_playScript_12 : decode cX11_playScript 12 = .ok (.iconst 0, 1) := by decide +kernel
theorem dX11_playScript_13 : decode cX11_playScript 13 = .ok (.putfield 110, 3) := by decide +kernel
theorem dX11_playScript_16 : decode cX11_playScript 16 = .ok (.iload_n 1, 1) := by decide +kernel
theorem dX11_playScript_17 : decode cX11_playScript 17 = .ok (.ifCond .ne 5, 3) := by decide +kernel
theorem dX11_playScript_20 : decode cX11_playScript 20 = .ok (.iconst (-1), 1) := by decide +kernel
theorem dX11_playScript_21 : decode cX11_playScript 21 = .ok (.ireturn, 1) := by decide +kernel
theorem dX11_playScript_22 : decode cX11_playScript 22 = .ok (.aload_n 0, 1) := by decide +kernel
theorem dX11_playScript_23 : decode cX11_playScript 23 = .ok (.getfield 46, 3) := by decide +kernel
theorem dX11_playScript_26 : decode cX11_playScript 26 = .ok (.aload_n 0, 1) := by decide +kernel
theorem dX11_playScript_27 : decode cX11_playScript 27 = .ok (.getfield 21, 3) := by decide +kernel
theorem dX11_playScript_30 : decode cX11_playScript 30 = .ok (.invokevirtual 130, 3) := by decide +kernel
theorem dX11_playScript_33 : decode cX11_playScript 33 = .ok (.iconst 0, 1) := by decide +kernel
theorem dX11_playScript_34 : decode cX11_playScript 34 = .ok (.istore_n 2, 1) := by decide +kernel
theorem dX11_playScript_35 : decode cX11_playScript 35 = .ok (.iload_n 2, 1) := by decide +kernel
theorem dX11_playScript_36 : decode cX11_playScript 36 = .ok (.aload_n 0, 1) := by decide +kernel
theorem dX11_playScript_37 : decode cX11_playScript 37 = .ok (.getfield 71, 3) := by decide +kernel
theorem dX11_playScript_40 : decode cX11_playScript 40 = .ok (.getfield 133, 3) := by decide +kernel
theorem dX11_playScript_43 : decode cX11_playScript 43 = .ok (.if_icmp .ge 17, 3) := by decide +kernel
theorem dX11_playScript_46 : decode cX11_playScript 46 = .ok (.aload_n 0, 1) := by decide +kernel
theorem dX11_playScript_47 : decode cX11_playScript 47 = .ok (.iload_n 2, 1) := by decide +kernel
theorem dX11_playScript_48 : decode cX11_playScript 48 = .ok (.invokevirtual 134, 3) := by decide +kernel
theorem dX11_playScript_51 : decode cX11_playScript 51 = .ok (.ifCond .eq 9, 3) := by decide +kernel
theorem dX11_playScript_54 : decode cX11_playScript 54 = .ok (.iinc 2 1, 3) := by decide +kernel
theorem dX11_playScript_57 : decode cX11_playScript 57 = .ok (.goto (-22), 3) := by decide +kernel
theorem dX11_playScript_60 : decode cX11_playScript 60 = .ok (.iload_n 2, 1) := by decide +kernel
theorem dX11_playScript_61 : decode cX11_playScript 61 = .ok (.ireturn, 1) := by decide +kernel
theorem dX11_perform_0 : decode cX11_perform 0 = .ok (.aload_n 0, 1) := by decide +kernel
theorem dX11_perform_1 : decode cX11_perform 1 = .ok (.getfield 71, 3) := by decide +kernel
theorem dX11_perform_4 : decode cX11_perform 4 = .ok (.getfield 138, 3) := by decide +kernel
theorem dX11_perform_7 : decode cX11_perform 7 = .ok (.iload_n 1, 1) := by decide +kernel
theorem dX11_perform_8 : decode cX11_perform 8 = .ok (.iaload, 1) := by decide +kernel
theorem dX11_perform_9 : decode cX11_perform 9 = .ok (.istore_n 2, 1) := by decide +kernel
theorem dX11_perform_10 : decode cX11_perform 10 = .ok (.aload_n 0, 1) := by decide +kernel
theorem dX11_perform_11 : decode cX11_perform 11 = .ok (.getfield 71, 3) := by decide +kernel
theorem dX11_perform_14 : decode cX11_perform 14 = .ok (.getfield 141, 3) := by decide +kernel
theorem dX11_perform_17 : decode cX11_perform 17 = .ok (.iload_n 1, 1) := by decide +kernel
theorem dX11_perform_18 : decode cX11_perform 18 = .ok (.iaload, 1) := by decide +kernel
theorem dX11_perform_19 : decode cX11_perform 19 = .ok (.tableswitch 152 0 4 #[33, 77, 89, 101, 128], 33) := by decide +kernel
theorem dX11_perform_52 : decode cX11_perform 52 = .ok (.aload_n 0, 1) := by decide +kernel
theorem dX11_perform_53 : decode cX11_perform 53 = .ok (.getfield 21, 3) := by decide +kernel
theorem dX11_perform_56 : decode cX11_perform 56 = .ok (.getfield 144, 3) := by decide +kernel
theorem dX11_perform_59 : decode cX11_perform 59 = .ok (.invokevirtual 148, 3) := by decide +kernel
theorem dX11_perform_62 : decode cX11_perform 62 = .ok (.ifCond .eq 5, 3) := by decide +kernel
theorem dX11_perform_65 : decode cX11_perform 65 = .ok (.iconst 0, 1) := by decide +kernel
theorem dX11_perform_66 : decode cX11_perform 66 = .ok (.ireturn, 1) := by decide +kernel
theorem dX11_perform_67 : decode cX11_perform 67 = .ok (.aload_n 0, 1) := by decide +kernel
theorem dX11_perform_68 : decode cX11_perform 68 = .ok (.getfield 21, 3) := by decide +kernel
theorem dX11_perform_71 : decode cX11_perform 71 = .ok (.iload_n 2, 1) := by decide +kernel
theorem dX11_perform_72 : decode cX11_perform 72 = .ok (.aload_n 0, 1) := by decide +kernel
theorem dX11_perform_73 : decode cX11_perform 73 = .ok (.getfield 71, 3) := by decide +kernel
theorem dX11_perform_76 : decode cX11_perform 76 = .ok (.getfield 153, 3) := by decide +kernel
theorem dX11_perform_79 : decode cX11_perform 79 = .ok (.iload_n 1, 1) := by decide +kernel
theorem dX11_perform_80 : decode cX11_perform 80 = .ok (.iaload, 1) := by decide +kernel
theorem dX11_perform_81 : decode cX11_perform 81 = .ok (.aload_n 0, 1) := by decide +kernel
theorem dX11_perform_82 : decode cX11_perform 82 = .ok (.getfield 71, 3) := by decide +kernel
theorem dX11_perform_85 : decode cX11_perform 85 = .ok (.getfield 156, 3) := by decide +kernel
theorem dX11_perform_88 : decode cX11_perform 88 = .ok (.iload_n 1, 1) := by decide +kernel
theorem dX11_perform_89 : decode cX11_perform 89 = .ok (.iaload, 1) := by decide +kernel
theorem dX11_perform_90 : decode cX11_perform 90 = .ok (.invokevirtual 159, 3) := by decide +kernel
theorem dX11_perform_93 : decode cX11_perform 93 = .ok (.pop, 1) := by decide +kernel
theorem dX11_perform_94 : decode cX11_perform 94 = .ok (.iconst 1, 1) := by decide +kernel
theorem dX11_perform_95 : decode cX11_perform 95 = .ok (.ireturn, 1) := by decide +kernel
theorem dX11_perform_96 : decode cX11_perform 96 = .ok (.aload_n 0, 1) := by decide +kernel
theorem dX11_perform_97 : decode cX11_perform 97 = .ok (.getfield 21, 3) := by decide +kernel
theorem dX11_perform_100 : decode cX11_perform 100 = .ok (.iload_n 2, 1) := by decide +kernel
theorem dX11_perform_101 : decode cX11_perform 101 = .ok (.iconst 0, 1) := by decide +kernel
theorem dX11_perform_102 : decode cX11_perform 102 = .ok (.invokevirtual 163, 3) := by decide +kernel
theorem dX11_perform_105 : decode cX11_perform 105 = .ok (.pop, 1) := by decide +kernel
theorem dX11_perform_106 : decode cX11_perform 106 = .ok (.iconst 1, 1) := by decide +kernel
theorem dX11_perform_107 : decode cX11_perform 107 = .ok (.ireturn, 1) := by decide +kernel
theorem dX11_perform_108 : decode cX11_perform 108 = .ok (.aload_n 0, 1) := by decide +kernel
theorem dX11_perform_109 : decode cX11_perform 109 = .ok (.getfield 21, 3) := by decide +kernel
theorem dX11_perform_112 : decode cX11_perform 112 = .ok (.iload_n 2, 1) := by decide +kernel
theorem dX11_perform_113 : decode cX11_perform 113 = .ok (.iconst 1, 1) := by decide +kernel
theorem dX11_perform_114 : decode cX11_perform 114 = .ok (.invokevirtual 163, 3) := by decide +kernel
theorem dX11_perform_117 : decode cX11_perform 117 = .ok (.pop, 1) := by decide +kernel
theorem dX11_perform_118 : decode cX11_perform 118 = .ok (.iconst 1, 1) := by decide +kernel
theorem dX11_perform_119 : decode cX11_perform 119 = .ok (.ireturn, 1) := by decide +kernel
theorem dX11_perform_120 : decode cX11_perform 120 = .ok (.aload_n 0, 1) := by decide +kernel
theorem dX11_perform_121 : decode cX11_perform 121 = .ok (.getfield 21, 3) := by decide +kernel
theorem dX11_perform_124 : decode cX11_perform 124 = .ok (.getfield 167, 3) := by decide +kernel
theorem dX11_perform_127 : decode cX11_perform 127 = .ok (.iload_n 2, 1) := by decide +kernel
theorem dX11_perform_128 : decode cX11_perform 128 = .ok (.iadd, 1) := by decide +kernel
theorem dX11_perform_129 : decode cX11_perform 129 = .ok (.sipush 9999, 3) := by decide +kernel
theorem dX11_perform_132 : decode cX11_perform 132 = .ok (.if_icmp .le 5, 3) := by decide +kernel
theorem dX11_perform_135 : decode cX11_perform 135 = .ok (.iconst 0, 1) := by decide +kernel
theorem dX11_perform_136 : decode cX11_perform 136 = .ok (.ireturn, 1) := by decide +kernel
theorem dX11_perform_137 : decode cX11_perform 137 = .ok (.aload_n 0, 1) := by decide +kernel
theorem dX11_perform_138 : decode cX11_perform 138 = .ok (.getfield 30, 3) := by decide +kernel
theorem dX11_perform_141 : decode cX11_perform 141 = .ok (.iload_n 2, 1) := by decide +kernel
theorem dX11_perform_142 : decode cX11_perform 142 = .ok (.invokevirtual 170, 3) := by decide +kernel
theorem dX11_perform_145 : decode cX11_perform 145 = .ok (.iconst 1, 1) := by decide +kernel
theorem dX11_perform_146 : decode cX11_perform 146 = .ok (.ireturn, 1) := by decide +kernel
theorem dX11_perform_147 : decode cX11_perform 147 = .ok (.aload_n 0, 1) := by decide +kernel
theorem dX11_perform_148 : decode cX11_perform 148 = .ok (.getfield 21, 3) := by decide +kernel
theorem dX11_perform_151 : decode cX11_perform 151 = .ok (.getfield 173, 3) := by decide +kernel
theorem dX11_perform_154 : decode cX11_perform 154 = .ok (.bipush 16, 2) := by decide +kernel
theorem dX11_perform_156 : decode cX11_perform 156 = .ok (.if_icmp .lt 5, 3) := by decide +kernel
theorem dX11_perform_159 : decode cX11_perform 159 = .ok (.iconst 0, 1) := by decide +kernel
theorem dX11_perform_160 : decode cX11_perform 160 = .ok (.ireturn, 1) := by decide +kernel
theorem dX11_perform_161 : decode cX11_perform 161 = .ok (.aload_n 0, 1) := by decide +kernel
theorem dX11_perform_162 : decode cX11_perform 162 = .ok (.getfield 21, 3) := by decide +kernel
theorem dX11_perform_165 : decode cX11_perform 165 = .ok (.iload_n 2, 1) := by decide +kernel
theorem dX11_perform_166 : decode cX11_perform 166 = .ok (.invokevirtual 176, 3) := by decide +kernel
theorem dX11_perform_169 : decode cX11_perform 169 = .ok (.iconst 1, 1) := by decide +kernel
theorem dX11_perform_170 : decode cX11_perform 170 = .ok (.ireturn, 1) := by decide +kernel
theorem dX11_perform_171 : decode cX11_perform 171 = .ok (.iload_n 2, 1) := by decide +kernel
theorem dX11_perform_172 : decode cX11_perform 172 = .ok (.aload_n 0, 1) := by decide +kernel
theorem dX11_perform_173 : decode cX11_perform 173 = .ok (.getfield 21, 3) := by decide +kernel
theorem dX11_perform_176 : decode cX11_perform 176 = .ok (.getfield 173, 3) := by decide +kernel
theorem dX11_perform_179 : decode cX11_perform 179 = .ok (.if_icmp .lt 5, 3) := by decide +kernel
theorem dX11_perform_182 : decode cX11_perform 182 = .ok (.iconst 0, 1) := by decide +kernel
theorem dX11_perform_183 : decode cX11_perform 183 = .ok (.ireturn, 1) := by decide +kernel
theorem dX11_perform_184 : decode cX11_perform 184 = .ok (.aload_n 0, 1) := by decide +kernel
theorem dX11_perform_185 : decode cX11_perform 185 = .ok (.getfield 21, 3) := by decide +kernel
theorem dX11_perform_188 : decode cX11_perform 188 = .ok (.iload_n 2, 1) := by decide +kernel
theorem dX11_perform_189 : decode cX11_perform 189 = .ok (.invokevirtual 179, 3) := by decide +kernel
theorem dX11_perform_192 : decode cX11_perform 192 = .ok (.iconst 1, 1) := by decide +kernel
theorem dX11_perform_193 : decode cX11_perform 193 = .ok (.ireturn, 1) := by decide +kernel
theorem dX11_errorCode_0 : decode cX11_errorCode 0 = .ok (.aload_n 0, 1) := by decide +kernel
theorem dX11_errorCode_1 : decode cX11_errorCode 1 = .ok (.getfield 53, 3) := by decide +kernel
theorem dX11_errorCode_4 : decode cX11_errorCode 4 = .ok (.getfield 182, 3) := by decide +kernel
theorem dX11_errorCode_7 : decode cX11_errorCode 7 = .ok (.ireturn, 1) := by decide +kernel
theorem dX11_errorOffset_0 : decode cX11_errorOffset 0 = .ok (.aload_n 0, 1) := by decide +kernel
theorem dX11_errorOffset_1 : decode cX11_errorOffset 1 = .ok (.getfield 53, 3) := by decide +kernel
theorem dX11_errorOffset_4 : decode cX11_errorOffset 4 = .ok (.getfield 185, 3) := by decide +kernel
theorem dX11_errorOffset_7 : decode cX11_errorOffset 7 = .ok (.ireturn, 1) := by decide +kernel
theorem dX11_count_0 : decode cX11_count 0 = .ok (.iload_n 1, 1) := by decide +kernel
theorem dX11_count_1 : decode cX11_count 1 = .ok (.tableswitch 193 0 12 #[67, 75, 83, 94, 102, 110, 118, 118, 118, 118, 133, 159, 185], 67) := by decide +kernel
theorem dX11_count_68 : decode cX11_count 68 = .ok (.aload_n 0, 1) := by decide +kernel
theorem dX11_count_69 : decode cX11_count 69 = .ok (.getfield 10, 3) := by decide +kernel
theorem dX11_count_72 : decode cX11_count 72 = .ok (.getfield 115, 3) := by decide +kernel
theorem dX11_count_75 : decode cX11_count 75 = .ok (.ireturn, 1) := by decide +kernel
theorem dX11_count_76 : decode cX11_count 76 = .ok (.aload_n 0, 1) := by decide +kernel
theorem dX11_count_77 : decode cX11_count 77 = .ok (.getfield 21, 3) := by decide +kernel
theorem dX11_count_80 : decode cX11_count 80 = .ok (.getfield 173, 3) := by decide +kernel
theorem dX11_count_83 : decode cX11_count 83 = .ok (.ireturn, 1) := by decide +kernel
theorem dX11_count_84 : decode cX11_count 84 = .ok (.aload_n 0, 1) := by decide +kernel
theorem dX11_count_85 : decode cX11_count 85 = .ok (.getfield 21, 3) := by decide +kernel
theorem dX11_count_88 : decode cX11_count 88 = .ok (.getfield 144, 3) := by decide +kernel
theorem dX11_count_91 : decode cX11_count 91 = .ok (.getfield 188, 3) := by decide +kernel
theorem dX11_count_94 : decode cX11_count 94 = .ok (.ireturn, 1) := by decide +kernel
theorem dX11_count_95 : decode cX11_count 95 = .ok (.aload_n 0, 1) := by decide +kernel
theorem dX11_count_96 : decode cX11_count 96 = .ok (.getfield 21, 3) := by decide +kernel
theorem dX11_count_99 : decode cX11_count 99 = .ok (.getfield 189, 3) := by decide +kernel
theorem dX11_count_102 : decode cX11_count 102 = .ok (.ireturn, 1) := by decide +kernel
theorem dX11_count_103 : decode cX11_count 103 = .ok (.aload_n 0, 1) := by decide +kernel
theorem dX11_count_104 : decode cX11_count 104 = .ok (.getfield 21, 3) := by decide +kernel
theorem dX11_count_107 : decode cX11_count 107 = .ok (.getfield 167, 3) := by decide +kernel
theorem dX11_count_110 : decode cX11_count 110 = .ok (.ireturn, 1) := by decide +kernel
theorem dX11_count_111 : decode cX11_count 111 = .ok (.aload_n 0, 1) := by decide +kernel
theorem dX11_count_112 : decode cX11_count 112 = .ok (.getfield 21, 3) := by decide +kernel
theorem dX11_count_115 : decode cX11_count 115 = .ok (.getfield 192, 3) := by decide +kernel
theorem dX11_count_118 : decode cX11_count 118 = .ok (.ireturn, 1) := by decide +kernel
theorem dX11_count_119 : decode cX11_count 119 = .ok (.aload_n 0, 1) := by decide +kernel
theorem dX11_count_120 : decode cX11_count 120 = .ok (.getfield 21, 3) := by decide +kernel
theorem dX11_count_123 : decode cX11_count 123 = .ok (.getfield 144, 3) := by decide +kernel
theorem dX11_count_126 : decode cX11_count 126 = .ok (.iload_n 1, 1) := by decide +kernel
theorem dX11_count_127 : decode cX11_count 127 = .ok (.bipush 6, 2) := by decide +kernel
theorem dX11_count_129 : decode cX11_count 129 = .ok (.isub, 1) := by decide +kernel
theorem dX11_count_130 : decode cX11_count 130 = .ok (.invokevirtual 195, 3) := by decide +kernel
theorem dX11_count_133 : decode cX11_count 133 = .ok (.ireturn, 1) := by decide +kernel
theorem dX11_count_134 : decode cX11_count 134 = .ok (.aload_n 0, 1) := by decide +kernel
theorem dX11_count_135 : decode cX11_count 135 = .ok (.getfield 10, 3) := by decide +kernel
theorem dX11_count_138 : decode cX11_count 138 = .ok (.getfield 115, 3) := by decide +kernel
theorem dX11_count_141 : decode cX11_count 141 = .ok (.aload_n 0, 1) := by decide +kernel
theorem dX11_count_142 : decode cX11_count 142 = .ok (.getfield 21, 3) := by decide +kernel
theorem dX11_count_145 : decode cX11_count 145 = .ok (.aload_n 0, 1) := by decide +kernel
theorem dX11_count_146 : decode cX11_count 146 = .ok (.getfield 21, 3) := by decide +kernel
theorem dX11_count_149 : decode cX11_count 149 = .ok (.getfield 199, 3) := by decide +kernel
theorem dX11_count_152 : decode cX11_count 152 = .ok (.getfield 203, 3) := by decide +kernel
theorem dX11_count_155 : decode cX11_count 155 = .ok (.invokevirtual 208, 3) := by decide +kernel
theorem dX11_count_158 : decode cX11_count 158 = .ok (.isub, 1) := by decide +kernel
theorem dX11_count_159 : decode cX11_count 159 = .ok (.ireturn, 1) := by decide +kernel
theorem dX11_count_160 : decode cX11_count 160 = .ok (.aload_n 0, 1) := by decide +kernel
theorem dX11_count_161 : decode cX11_count 161 = .ok (.getfield 10, 3) := by decide +kernel
theorem dX11_count_164 : decode cX11_count 164 = .ok (.getfield 115, 3) := by decide +kernel
theorem dX11_count_167 : decode cX11_count 167 = .ok (.aload_n 0, 1) := by decide +kernel
theorem dX11_count_168 : decode cX11_count 168 = .ok (.getfield 21, 3) := by decide +kernel
theorem dX11_count_171 : decode cX11_count 171 = .ok (.aload_n 0, 1) := by decide +kernel
theorem dX11_count_172 : decode cX11_count 172 = .ok (.getfield 21, 3) := by decide +kernel
theorem dX11_count_175 : decode cX11_count 175 = .ok (.getfield 199, 3) := by decide +kernel
theorem dX11_count_178 : decode cX11_count 178 = .ok (.getfield 212, 3) := by decide +kernel
theorem dX11_count_181 : decode cX11_count 181 = .ok (.invokevirtual 208, 3) := by decide +kernel
theorem dX11_count_184 : decode cX11_count 184 = .ok (.isub, 1) := by decide +kernel
theorem dX11_count_185 : decode cX11_count 185 = .ok (.ireturn, 1) := by decide +kernel
theorem dX11_count_186 : decode cX11_count 186 = .ok (.aload_n 0, 1) := by decide +kernel
theorem dX11_count_187 : decode cX11_count 187 = .ok (.getfield 46, 3) := by decide +kernel
theorem dX11_count_190 : decode cX11_count 190 = .ok (.getfield 128, 3) := by decide +kernel
theorem dX11_count_193 : decode cX11_count 193 = .ok (.ireturn, 1) := by decide +kernel
theorem dX11_count_194 : decode cX11_count 194 = .ok (.new 215, 3) := by decide +kernel
theorem dX11_count_197 : decode cX11_count 197 = .ok (.dup, 1) := by decide +kernel
theorem dX11_count_198 : decode cX11_count 198 = .ok (.invokespecial 217, 3) := by decide +kernel
theorem dX11_count_201 : decode cX11_count 201 = .ok (.athrow, 1) := by decide +kernel
theorem dX11_account_0 : decode cX11_account 0 = .ok (.iload_n 1, 1) := by decide +kernel
theorem dX11_account_1 : decode cX11_account 1 = .ok (.ifCond .lt 9, 3) := by decide +kernel
theorem dX11_account_4 : decode cX11_account 4 = .ok (.iload_n 1, 1) := by decide +kernel
theorem dX11_account_5 : decode cX11_account 5 = .ok (.bipush 13, 2) := by decide +kernel
theorem dX11_account_7 : decode cX11_account 7 = .ok (.if_icmp .lt 11, 3) := by decide +kernel
theorem dX11_account_10 : decode cX11_account 10 = .ok (.new 215, 3) := by decide +kernel
theorem dX11_account_13 : decode cX11_account 13 = .ok (.dup, 1) := by decide +kernel
theorem dX11_account_14 : decode cX11_account 14 = .ok (.invokespecial 217, 3) := by decide +kernel
theorem dX11_account_17 : decode cX11_account 17 = .ok (.athrow, 1) := by decide +kernel
theorem dX11_account_18 : decode cX11_account 18 = .ok (.aload_n 0, 1) := by decide +kernel
theorem dX11_account_19 : decode cX11_account 19 = .ok (.getfield 21, 3) := by decide +kernel
theorem dX11_account_22 : decode cX11_account 22 = .ok (.getfield 218, 3) := by decide +kernel
theorem dX11_account_25 : decode cX11_account 25 = .ok (.iload_n 1, 1) := by decide +kernel
theorem dX11_account_26 : decode cX11_account 26 = .ok (.iaload, 1) := by decide +kernel
theorem dX11_account_27 : decode cX11_account 27 = .ok (.ireturn, 1) := by decide +kernel
theorem dX11_setting_0 : decode cX11_setting 0 = .ok (.iload_n 1, 1) := by decide +kernel
theorem dX11_setting_1 : decode cX11_setting 1 = .ok (.ifCond .lt 9, 3) := by decide +kernel
theorem dX11_setting_4 : decode cX11_setting 4 = .ok (.iload_n 1, 1) := by decide +kernel
theorem dX11_setting_5 : decode cX11_setting 5 = .ok (.bipush 6, 2) := by decide +kernel
theorem dX11_setting_7 : decode cX11_setting 7 = .ok (.if_icmp .lt 11, 3) := by decide +kernel
theorem dX11_setting_10 : decode cX11_setting 10 = .ok (.new 215, 3) := by decide +kernel
theorem dX11_setting_13 : decode cX11_setting 13 = .ok (.dup, 1) := by decide +kernel
theorem dX11_setting_14 : decode cX11_setting 14 = .ok (.invokespecial 217, 3) := by decide +kernel
theorem dX11_setting_17 : decode cX11_setting 17 = .ok (.athrow, 1) := by decide +kernel
theorem dX11_setting_18 : decode cX11_setting 18 = .ok (.aload_n 0, 1) := by decide +kernel
theorem dX11_setting_19 : decode cX11_setting 19 = .ok (.getfield 21, 3) := by decide +kernel
theorem dX11_setting_22 : decode cX11_setting 22 = .ok (.getfield 221, 3) := by decide +kernel
theorem dX11_setting_25 : decode cX11_setting 25 = .ok (.iload_n 1, 1) := by decide +kernel
theorem dX11_setting_26 : decode cX11_setting 26 = .ok (.iaload, 1) := by decide +kernel
theorem dX11_setting_27 : decode cX11_setting 27 = .ok (.ireturn, 1) := by decide +kernel
theorem dX11_terminal_0 : decode cX11_terminal 0 = .ok (.aload_n 0, 1) := by decide +kernel
theorem dX11_terminal_1 : decode cX11_terminal 1 = .ok (.getfield 10, 3) := by decide +kernel
theorem dX11_terminal_4 : decode cX11_terminal 4 = .ok (.iload_n 1, 1) := by decide +kernel
theorem dX11_terminal_5 : decode cX11_terminal 5 = .ok (.invokevirtual 224, 3) := by decide +kernel
theorem dX11_terminal_8 : decode cX11_terminal 8 = .ok (.ifCond .ne 11, 3) := by decide +kernel
theorem dX11_terminal_11 : decode cX11_terminal 11 = .ok (.new 227, 3) := by decide +kernel
theorem dX11_terminal_14 : decode cX11_terminal 14 = .ok (.dup, 1) := by decide +kernel
theorem dX11_terminal_15 : decode cX11_terminal 15 = .ok (.invokespecial 229, 3) := by decide +kernel
theorem dX11_terminal_18 : decode cX11_terminal 18 = .ok (.athrow, 1) := by decide +kernel
theorem dX11_terminal_19 : decode cX11_terminal 19 = .ok (.iload_n 2, 1) := by decide +kernel
theorem dX11_terminal_20 : decode cX11_terminal 20 = .ok (.tableswitch 218 0 13 #[72, 82, 92, 102, 115, 128, 141, 141, 141, 157, 166, 179, 192, 205], 72) := by decide +kernel
theorem dX11_terminal_92 : decode cX11_terminal 92 = .ok (.aload_n 0, 1) := by decide +kernel
theorem dX11_terminal_93 : decode cX11_terminal 93 = .ok (.getfield 10, 3) := by decide +kernel
theorem dX11_terminal_96 : decode cX11_terminal 96 = .ok (.getfield 230, 3) := by decide +kernel
theorem dX11_terminal_99 : decode cX11_terminal 99 = .ok (.iload_n 1, 1) := by decide +kernel
theorem dX11_terminal_100 : decode cX11_terminal 100 = .ok (.iaload, 1) := by decide +kernel
theorem dX11_terminal_101 : decode cX11_terminal 101 = .ok (.ireturn, 1) := by decide +kernel
theorem dX11_terminal_102 : decode cX11_terminal 102 = .ok (.aload_n 0, 1) := by decide +kernel
theorem dX11_terminal_103 : decode cX11_terminal 103 = .ok (.getfield 10, 3) := by decide +kernel
theorem dX11_terminal_106 : decode cX11_terminal 106 = .ok (.getfield 233, 3) := by decide +kernel
theorem dX11_terminal_109 : decode cX11_terminal 109 = .ok (.iload_n 1, 1) := by decide +kernel
theorem dX11_terminal_110 : decode cX11_terminal 110 = .ok (.iaload, 1) := by decide +kernel
theorem dX11_terminal_111 : decode cX11_terminal 111 = .ok (.ireturn, 1) := by decide +kernel
theorem dX11_terminal_112 : decode cX11_terminal 112 = .ok (.aload_n 0, 1) := by decide +kernel
theorem dX11_terminal_113 : decode cX11_terminal 113 = .ok (.getfield 10, 3) := by decide +kernel
theorem dX11_terminal_116 : decode cX11_terminal 116 = .ok (.getfield 236, 3) := by decide +kernel
theorem dX11_terminal_119 : decode cX11_terminal 119 = .ok (.iload_n 1, 1) := by decide +kernel
theorem dX11_terminal_120 : decode cX11_terminal 120 = .ok (.iaload, 1) := by decide +kernel
theorem dX11_terminal_121 : decode cX11_terminal 121 = .ok (.ireturn, 1) := by decide +kernel
theorem dX11_terminal_122 : decode cX11_terminal 122 = .ok (.aload_n 0, 1) := by decide +kernel
theorem dX11_terminal_123 : decode cX11_terminal 123 = .ok (.getfield 21, 3) := by decide +kernel
theorem dX11_terminal_126 : decode cX11_terminal 126 = .ok (.getfield 199, 3) := by decide +kernel
theorem dX11_terminal_129 : decode cX11_terminal 129 = .ok (.getfield 212, 3) := by decide +kernel
theorem dX11_terminal_132 : decode cX11_terminal 132 = .ok (.iload_n 1, 1) := by decide +kernel
theorem dX11_terminal_133 : decode cX11_terminal 133 = .ok (.iaload, 1) := by decide +kernel
theorem dX11_terminal_134 : decode cX11_terminal 134 = .ok (.ireturn, 1) := by decide +kernel
theorem dX11_terminal_135 : decode cX11_terminal 135 = .ok (.aload_n 0, 1) := by decide +kernel
theorem dX11_terminal_136 : decode cX11_terminal 136 = .ok (.getfield 21, 3) := by decide +kernel
theorem dX11_terminal_139 : decode cX11_terminal 139 = .ok (.getfield 199, 3) := by decide +kernel
theorem dX11_terminal_142 : decode cX11_terminal 142 = .ok (.getfield 203, 3) := by decide +kernel
theorem dX11_terminal_145 : decode cX11_terminal 145 = .ok (.iload_n 1, 1) := by decide +kernel
theorem dX11_terminal_146 : decode cX11_terminal 146 = .ok (.iaload, 1) := by decide +kernel
theorem dX11_terminal_147 : decode cX11_terminal 147 = .ok (.ireturn, 1) := by decide +kernel
theorem dX11_terminal_148 : decode cX11_terminal 148 = .ok (.aload_n 0, 1) := by decide +kernel
theorem dX11_terminal_149 : decode cX11_terminal 149 = .ok (.getfield 21, 3) := by decide +kernel
theorem dX11_terminal_152 : decode cX11_terminal 152 = .ok (.getfield 199, 3) := by decide +kernel
theorem dX11_terminal_155 : decode cX11_terminal 155 = .ok (.getfield 239, 3) := by decide +kernel
theorem dX11_terminal_158 : decode cX11_terminal 158 = .ok (.iload_n 1, 1) := by decide +kernel
theorem dX11_terminal_159 : decode cX11_terminal 159 = .ok (.iaload, 1) := by decide +kernel
theorem dX11_terminal_160 : decode cX11_terminal 160 = .ok (.ireturn, 1) := by decide +kernel
theorem dX11_terminal_161 : decode cX11_terminal 161 = .ok (.aload_n 0, 1) := by decide +kernel
theorem dX11_terminal_162 : decode cX11_terminal 162 = .ok (.getfield 21, 3) := by decide +kernel
theorem dX11_terminal_165 : decode cX11_terminal 165 = .ok (.getfield 242, 3) := by decide +kernel
theorem dX11_terminal_168 : decode cX11_terminal 168 = .ok (.iload_n 2, 1) := by decide +kernel
theorem dX11_terminal_169 : decode cX11_terminal 169 = .ok (.bipush 6, 2) := by decide +kernel
theorem dX11_terminal_171 : decode cX11_terminal 171 = .ok (.isub, 1) := by decide +kernel
theorem dX11_terminal_172 : decode cX11_terminal 172 = .ok (.iload_n 1, 1) := by decide +kernel
theorem dX11_terminal_173 : decode cX11_terminal 173 = .ok (.invokevirtual 246, 3) := by decide +kernel
theorem dX11_terminal_176 : decode cX11_terminal 176 = .ok (.ireturn, 1) := by decide +kernel
theorem dX11_terminal_177 : decode cX11_terminal 177 = .ok (.aload_n 0, 1) := by decide +kernel
theorem dX11_terminal_178 : decode cX11_terminal 178 = .ok (.getfield 21, 3) := by decide +kernel
theorem dX11_terminal_181 : decode cX11_terminal 181 = .ok (.iload_n 1, 1) := by decide +kernel
theorem dX11_terminal_182 : decode cX11_terminal 182 = .ok (.invokevirtual 251, 3) := by decide +kernel
theorem dX11_terminal_185 : decode cX11_terminal 185 = .ok (.ireturn, 1) := by decide +kernel
theorem dX11_terminal_186 : decode cX11_terminal 186 = .ok (.aload_n 0, 1) := by decide +kernel
theorem dX11_terminal_187 : decode cX11_terminal 187 = .ok (.getfield 21, 3) := by decide +kernel
theorem dX11_terminal_190 : decode cX11_terminal 190 = .ok (.getfield 199, 3) := by decide +kernel
theorem dX11_terminal_193 : decode cX11_terminal 193 = .ok (.getfield 254, 3) := by decide +kernel
theorem dX11_terminal_196 : decode cX11_terminal 196 = .ok (.iload_n 1, 1) := by decide +kernel
theorem dX11_terminal_197 : decode cX11_terminal 197 = .ok (.iaload, 1) := by decide +kernel
theorem dX11_terminal_198 : decode cX11_terminal 198 = .ok (.ireturn, 1) := by decide +kernel
theorem dX11_terminal_199 : decode cX11_terminal 199 = .ok (.aload_n 0, 1) := by decide +kernel
theorem dX11_terminal_200 : decode cX11_terminal 200 = .ok (.getfield 21, 3) := by decide +kernel
theorem dX11_terminal_203 : decode cX11_terminal 203 = .ok (.getfield 199, 3) := by decide +kernel
theorem dX11_terminal_206 : decode cX11_terminal 206 = .ok (.getfield 257, 3) := by decide +kernel
theorem dX11_terminal_209 : decode cX11_terminal 209 = .ok (.iload_n 1, 1) := by decide +kernel
theorem dX11_terminal_210 : decode cX11_terminal 210 = .ok (.iaload, 1) := by decide +kernel
theorem dX11_terminal_211 : decode cX11_terminal 211 = .ok (.ireturn, 1) := by decide +kernel
theorem dX11_terminal_212 : decode cX11_terminal 212 = .ok (.aload_n 0, 1) := by decide +kernel
theorem dX11_terminal_213 : decode cX11_terminal 213 = .ok (.getfield 21, 3) := by decide +kernel
theorem dX11_terminal_216 : decode cX11_terminal 216 = .ok (.getfield 199, 3) := by decide +kernel
theorem dX11_terminal_219 : decode cX11_terminal 219 = .ok (.getfield 260, 3) := by decide +kernel
theorem dX11_terminal_222 : decode cX11_terminal 222 = .ok (.iload_n 1, 1) := by decide +kernel
theorem dX11_terminal_223 : decode cX11_terminal 223 = .ok (.iaload, 1) := by decide +kernel
theorem dX11_terminal_224 : decode cX11_terminal 224 = .ok (.ireturn, 1) := by decide +kernel
theorem dX11_terminal_225 : decode cX11_terminal 225 = .ok (.aload_n 0, 1) := by decide +kernel
theorem dX11_terminal_226 : decode cX11_terminal 226 = .ok (.getfield 21, 3) := by decide +kernel
theorem dX11_terminal_229 : decode cX11_terminal 229 = .ok (.getfield 199, 3) := by decide +kernel
theorem dX11_terminal_232 : decode cX11_terminal 232 = .ok (.getfield 263, 3) := by decide +kernel
theorem dX11_terminal_235 : decode cX11_terminal 235 = .ok (.iload_n 1, 1) := by decide +kernel
theorem dX11_terminal_236 : decode cX11_terminal 236 = .ok (.iaload, 1) := by decide +kernel
theorem dX11_terminal_237 : decode cX11_terminal 237 = .ok (.ireturn, 1) := by decide +kernel
theorem dX11_terminal_238 : decode cX11_terminal 238 = .ok (.new 215, 3) := by decide +kernel
theorem dX11_terminal_241 : decode cX11_terminal 241 = .ok (.dup, 1) := by decide +kernel
theorem dX11_terminal_242 : decode cX11_terminal 242 = .ok (.invokespecial 217, 3) := by decide +kernel
theorem dX11_terminal_245 : decode cX11_terminal 245 = .ok (.athrow, 1) := by decide +kernel
theorem dX11_nameLetter_0 : decode cX11_nameLetter 0 = .ok (.aload_n 0, 1) := by decide +kernel
theorem dX11_nameLetter_1 : decode cX11_nameLetter 1 = .ok (.getfield 10, 3) := by decide +kernel
theorem dX11_nameLetter_4 : decode cX11_nameLetter 4 = .ok (.iload_n 1, 1) := by decide +kernel
theorem dX11_nameLetter_5 : decode cX11_nameLetter 5 = .ok (.invokevirtual 224, 3) := by decide +kernel
theorem dX11_nameLetter_8 : decode cX11_nameLetter 8 = .ok (.ifCond .ne 11, 3) := by decide +kernel
theorem dX11_nameLetter_11 : decode cX11_nameLetter 11 = .ok (.new 227, 3) := by decide +kernel
theorem dX11_nameLetter_14 : decode cX11_nameLetter 14 = .ok (.dup, 1) := by decide +kernel
theorem dX11_nameLetter_15 : decode cX11_nameLetter 15 = .ok (.invokespecial 229, 3) := by decide +kernel
theorem dX11_nameLetter_18 : decode cX11_nameLetter 18 = .ok (.athrow, 1) := by decide +kernel
theorem dX11_nameLetter_19 : decode cX11_nameLetter 19 = .ok (.aload_n 0, 1) := by decide +kernel
theorem dX11_nameLetter_20 : decode cX11_nameLetter 20 = .ok (.getfield 10, 3) := by decide +kernel
theorem dX11_nameLetter_23 : decode cX11_nameLetter 23 = .ok (.iload_n 1, 1) := by decide +kernel
theorem dX11_nameLetter_24 : decode cX11_nameLetter 24 = .ok (.iload_n 2, 1) := by decide +kernel
theorem dX11_nameLetter_25 : decode cX11_nameLetter 25 = .ok (.invokevirtual 266, 3) := by decide +kernel
theorem dX11_nameLetter_28 : decode cX11_nameLetter 28 = .ok (.ireturn, 1) := by decide +kernel
theorem dX11_message_0 : decode cX11_message 0 = .ok (.aload_n 0, 1) := by decide +kernel
theorem dX11_message_1 : decode cX11_message 1 = .ok (.getfield 21, 3) := by decide +kernel
theorem dX11_message_4 : decode cX11_message 4 = .ok (.getfield 144, 3) := by decide +kernel
theorem dX11_message_7 : decode cX11_message 7 = .ok (.astore_n 3, 1) := by decide +kernel
theorem dX11_message_8 : decode cX11_message 8 = .ok (.aload_n 3, 1) := by decide +kernel
theorem dX11_message_9 : decode cX11_message 9 = .ok (.iload_n 1, 1) := by decide +kernel
theorem dX11_message_10 : decode cX11_message 10 = .ok (.invokevirtual 269, 3) := by decide +kernel
theorem dX11_message_13 : decode cX11_message 13 = .ok (.ifCond .ne 11, 3) := by decide +kernel
theorem dX11_message_16 : decode cX11_message 16 = .ok (.new 227, 3) := by decide +kernel
theorem dX11_message_19 : decode cX11_message 19 = .ok (.dup, 1) := by decide +kernel
theorem dX11_message_20 : decode cX11_message 20 = .ok (.invokespecial 229, 3) := by decide +kernel
theorem dX11_message_23 : decode cX11_message 23 = .ok (.athrow, 1) := by decide +kernel
theorem dX11_message_24 : decode cX11_message 24 = .ok (.iload_n 2, 1) := by decide +kernel
theorem dX11_message_25 : decode cX11_message 25 = .ok (.tableswitch 103 0 7 #[47, 54, 61, 68, 75, 82, 89, 96], 47) := by decide +kernel
theorem dX11_message_72 : decode cX11_message 72 = .ok (.aload_n 3, 1) := by decide +kernel
theorem dX11_message_73 : decode cX11_message 73 = .ok (.getfield 270, 3) := by decide +kernel
theorem dX11_message_76 : decode cX11_message 76 = .ok (.iload_n 1, 1) := by decide +kernel
theorem dX11_message_77 : decode cX11_message 77 = .ok (.iaload, 1) := by decide +kernel
theorem dX11_message_78 : decode cX11_message 78 = .ok (.ireturn, 1) := by decide +kernel
theorem dX11_message_79 : decode cX11_message 79 = .ok (.aload_n 3, 1) := by decide +kernel
theorem dX11_message_80 : decode cX11_message 80 = .ok (.getfield 273, 3) := by decide +kernel
theorem dX11_message_83 : decode cX11_message 83 = .ok (.iload_n 1, 1) := by decide +kernel
theorem dX11_message_84 : decode cX11_message 84 = .ok (.iaload, 1) := by decide +kernel
theorem dX11_message_85 : decode cX11_message 85 = .ok (.ireturn, 1) := by decide +kernel
theorem dX11_message_86 : decode cX11_message 86 = .ok (.aload_n 3, 1) := by decide +kernel
theorem dX11_message_87 : decode cX11_message 87 = .ok (.getfield 276, 3) := by decide +kernel
theorem dX11_message_90 : decode cX11_message 90 = .ok (.iload_n 1, 1) := by decide +kernel
theorem dX11_message_91 : decode cX11_message 91 = .ok (.iaload, 1) := by decide +kernel
theorem dX11_message_92 : decode cX11_message 92 = .ok (.ireturn, 1) := by decide +kernel
theorem dX11_message_93 : decode cX11_message 93 = .ok (.aload_n 3, 1) := by decide +kernel
theorem dX11_message_94 : decode cX11_message 94 = .ok (.getfield 279, 3) := by decide +kernel
theorem dX11_message_97 : decode cX11_message 97 = .ok (.iload_n 1, 1) := by decide +kernel
theorem dX11_message_98 : decode cX11_message 98 = .ok (.iaload, 1) := by decide +kernel
theorem dX11_message_99 : decode cX11_message 99 = .ok (.ireturn, 1) := by decide +kernel
theorem dX11_message_100 : decode cX11_message 100 = .ok (.aload_n 3, 1) := by decide +kernel
theorem dX11_message_101 : decode cX11_message 101 = .ok (.getfield 282, 3) := by decide +kernel
theorem dX11_message_104 : decode cX11_message 104 = .ok (.iload_n 1, 1) := by decide +kernel
theorem dX11_message_105 : decode cX11_message 105 = .ok (.iaload, 1) := by decide +kernel
theorem dX11_message_106 : decode cX11_message 106 = .ok (.ireturn, 1) := by decide +kernel
theorem dX11_message_107 : decode cX11_message 107 = .ok (.aload_n 3, 1) := by decide +kernel
theorem dX11_message_108 : decode cX11_message 108 = .ok (.getfield 285, 3) := by decide +kernel
theorem dX11_message_111 : decode cX11_message 111 = .ok (.iload_n 1, 1) := by decide +kernel
theorem dX11_message_112 : decode cX11_message 112 = .ok (.iaload, 1) := by decide +kernel
theorem dX11_message_113 : decode cX11_message 113 = .ok (.ireturn, 1) := by decide +kernel
theorem dX11_message_114 : decode cX11_message 114 = .ok (.aload_n 3, 1) := by decide +kernel
theorem dX11_message_115 : decode cX11_message 115 = .ok (.getfield 288, 3) := by decide +kernel
theorem dX11_message_118 : decode cX11_message 118 = .ok (.iload_n 1, 1) := by decide +kernel
theorem dX11_message_119 : decode cX11_message 119 = .ok (.iaload, 1) := by decide +kernel
theorem dX11_message_120 : decode cX11_message 120 = .ok (.ireturn, 1) := by decide +kernel
theorem dX11_message_121 : decode cX11_message 121 = .ok (.aload_n 3, 1) := by decide +kernel
theorem dX11_message_122 : decode cX11_message 122 = .ok (.getfield 291, 3) := by decide +kernel
theorem dX11_message_125 : decode cX11_message 125 = .ok (.iload_n 1, 1) := by decide +kernel
theorem dX11_message_126 : decode cX11_message 126 = .ok (.iaload, 1) := by decide +kernel
theorem dX11_message_127 : decode cX11_message 127 = .ok (.ireturn, 1) := by decide +kernel
theorem dX11_message_128 : decode cX11_message 128 = .ok (.new 215, 3) := by decide +kernel
theorem dX11_message_131 : decode cX11_message 131 = .ok (.dup, 1) := by decide +kernel
theorem dX11_message_132 : decode cX11_message 132 = .ok (.invokespecial 217, 3) := by decide +kernel
theorem dX11_message_135 : decode cX11_message 135 = .ok (.athrow, 1) := by decide +kernel
theorem dX11_inRow_0 : decode cX11_inRow 0 = .ok (.aload_n 0, 1) := by decide +kernel
theorem dX11_inRow_1 : decode cX11_inRow 1 = .ok (.getfield 10, 3) := by decide +kernel
theorem dX11_inRow_4 : decode cX11_inRow 4 = .ok (.iload_n 1, 1) := by decide +kernel
theorem dX11_inRow_5 : decode cX11_inRow 5 = .ok (.invokevirtual 224, 3) := by decide +kernel
theorem dX11_inRow_8 : decode cX11_inRow 8 = .ok (.ifCond .ne 11, 3) := by decide +kernel
theorem dX11_inRow_11 : decode cX11_inRow 11 = .ok (.new 227, 3) := by decide +kernel
theorem dX11_inRow_14 : decode cX11_inRow 14 = .ok (.dup, 1) := by decide +kernel
theorem dX11_inRow_15 : decode cX11_inRow 15 = .ok (.invokespecial 229, 3) := by decide +kernel
theorem dX11_inRow_18 : decode cX11_inRow 18 = .ok (.athrow, 1) := by decide +kernel
theorem dX11_inRow_19 : decode cX11_inRow 19 = .ok (.iload_n 2, 1) := by decide +kernel
theorem dX11_inRow_20 : decode cX11_inRow 20 = .ok (.ifCond .lt 8, 3) := by decide +kernel
theorem dX11_inRow_23 : decode cX11_inRow 23 = .ok (.iload_n 2, 1) := by decide +kernel
theorem dX11_inRow_24 : decode cX11_inRow 24 = .ok (.iconst 3, 1) := by decide +kernel
theorem dX11_inRow_25 : decode cX11_inRow 25 = .ok (.if_icmp .lt 11, 3) := by decide +kernel
theorem dX11_inRow_28 : decode cX11_inRow 28 = .ok (.new 215, 3) := by decide +kernel
theorem dX11_inRow_31 : decode cX11_inRow 31 = .ok (.dup, 1) := by decide +kernel
theorem dX11_inRow_32 : decode cX11_inRow 32 = .ok (.invokespecial 217, 3) := by decide +kernel
theorem dX11_inRow_35 : decode cX11_inRow 35 = .ok (.athrow, 1) := by decide +kernel
theorem dX11_inRow_36 : decode cX11_inRow 36 = .ok (.aload_n 0, 1) := by decide +kernel
theorem dX11_inRow_37 : decode cX11_inRow 37 = .ok (.getfield 21, 3) := by decide +kernel
theorem dX11_inRow_40 : decode cX11_inRow 40 = .ok (.getfield 242, 3) := by decide +kernel
theorem dX11_inRow_43 : decode cX11_inRow 43 = .ok (.iload_n 2, 1) := by decide +kernel
theorem dX11_inRow_44 : decode cX11_inRow 44 = .ok (.iload_n 1, 1) := by decide +kernel
theorem dX11_inRow_45 : decode cX11_inRow 45 = .ok (.iload_n 3, 1) := by decide +kernel
theorem dX11_inRow_46 : decode cX11_inRow 46 = .ok (.invokevirtual 294, 3) := by decide +kernel
theorem dX11_inRow_49 : decode cX11_inRow 49 = .ok (.ireturn, 1) := by decide +kernel
theorem dX11_place_0 : decode cX11_place 0 = .ok (.aload_n 0, 1) := by decide +kernel
theorem dX11_place_1 : decode cX11_place 1 = .ok (.getfield 21, 3) := by decide +kernel
theorem dX11_place_4 : decode cX11_place 4 = .ok (.iload_n 1, 1) := by decide +kernel
theorem dX11_place_5 : decode cX11_place 5 = .ok (.invokevirtual 297, 3) := by decide +kernel
theorem dX11_place_8 : decode cX11_place 8 = .ok (.ifCond .ne 11, 3) := by decide +kernel
theorem dX11_place_11 : decode cX11_place 11 = .ok (.new 227, 3) := by decide +kernel
theorem dX11_place_14 : decode cX11_place 14 = .ok (.dup, 1) := by decide +kernel
theorem dX11_place_15 : decode cX11_place 15 = .ok (.invokespecial 229, 3) := by decide +kernel
theorem dX11_place_18 : decode cX11_place 18 = .ok (.athrow, 1) := by decide +kernel
theorem dX11_place_19 : decode cX11_place 19 = .ok (.aload_n 0, 1) := by decide +kernel
theorem dX11_place_20 : decode cX11_place 20 = .ok (.getfield 21, 3) := by decide +kernel
theorem dX11_place_23 : decode cX11_place 23 = .ok (.getfield 300, 3) := by decide +kernel
theorem dX11_place_26 : decode cX11_place 26 = .ok (.iload_n 1, 1) := by decide +kernel
theorem dX11_place_27 : decode cX11_place 27 = .ok (.iaload, 1) := by decide +kernel
theorem dX11_place_28 : decode cX11_place 28 = .ok (.ireturn, 1) := by decide +kernel
theorem dX11_off_0 : decode cX11_off 0 = .ok (.iconst 0, 1) := by decide +kernel
theorem dX11_off_1 : decode cX11_off 1 = .ok (.istore_n 1, 1) := by decide +kernel
theorem dX11_off_2 : decode cX11_off 2 = .ok (.iconst 0, 1) := by decide +kernel
theorem dX11_off_3 : decode cX11_off 3 = .ok (.istore_n 2, 1) := by decide +kernel
theorem dX11_off_4 : decode cX11_off 4 = .ok (.iload_n 2, 1) := by decide +kernel
theorem dX11_off_5 : decode cX11_off 5 = .ok (.aload_n 0, 1) := by decide +kernel
theorem dX11_off_6 : decode cX11_off 6 = .ok (.getfield 10, 3) := by decide +kernel
theorem dX11_off_9 : decode cX11_off 9 = .ok (.getfield 115, 3) := by decide +kernel
theorem dX11_off_12 : decode cX11_off 12 = .ok (.if_icmp .ge 30, 3) := by decide +kernel
theorem dX11_off_15 : decode cX11_off 15 = .ok (.aload_n 0, 1) := by decide +kernel
theorem dX11_off_16 : decode cX11_off 16 = .ok (.getfield 21, 3) := by decide +kernel
theorem dX11_off_19 : decode cX11_off 19 = .ok (.getfield 199, 3) := by decide +kernel
theorem dX11_off_22 : decode cX11_off 22 = .ok (.getfield 203, 3) := by decide +kernel
theorem dX11_off_25 : decode cX11_off 25 = .ok (.iload_n 2, 1) := by decide +kernel
theorem dX11_off_26 : decode cX11_off 26 = .ok (.iaload, 1) := by decide +kernel
theorem dX11_off_27 : decode cX11_off 27 = .ok (.ifCond .ne 9, 3) := by decide +kernel
theorem dX11_off_30 : decode cX11_off 30 = .ok (.iload_n 1, 1) := by decide +kernel
theorem dX11_off_31 : decode cX11_off 31 = .ok (.iconst 1, 1) := by decide +kernel
theorem dX11_off_32 : decode cX11_off 32 = .ok (.iload_n 2, 1) := by decide +kernel
theorem dX11_off_33 : decode cX11_off 33 = .ok (.ishl, 1) := by decide +kernel
theorem dX11_off_34 : decode cX11_off 34 = .ok (.ior, 1) := by decide +kernel
theorem dX11_off_35 : decode cX11_off 35 = .ok (.istore_n 1, 1) := by decide +kernel
theorem dX11_off_36 : decode cX11_off 36 = .ok (.iinc 2 1, 3) := by decide +kernel
theorem dX11_off_39 : decode cX11_off 39 = .ok (.goto (-35), 3) := by decide +kernel
theorem dX11_off_42 : decode cX11_off 42 = .ok (.iload_n 1, 1) := by decide +kernel
theorem dX11_off_43 : decode cX11_off 43 = .ok (.ireturn, 1) := by decide +kernel
theorem dX11_turn_0 : decode cX11_turn 0 = .ok (.iload_n 1, 1) := by decide +kernel
theorem dX11_turn_1 : decode cX11_turn 1 = .ok (.ifCond .lt 17, 3) := by decide +kernel
theorem dX11_turn_4 : decode cX11_turn 4 = .ok (.iload_n 1, 1) := by decide +kernel
theorem dX11_turn_5 : decode cX11_turn 5 = .ok (.aload_n 0, 1) := by decide +kernel
theorem dX11_turn_6 : decode cX11_turn 6 = .ok (.getfield 21, 3) := by decide +kernel
theorem dX11_turn_9 : decode cX11_turn 9 = .ok (.getfield 303, 3) := by decide +kernel
theorem dX11_turn_12 : decode cX11_turn 12 = .ok (.getfield 307, 3) := by decide +kernel
theorem dX11_turn_15 : decode cX11_turn 15 = .ok (.if_icmp .lt 11, 3) := by decide +kernel
theorem dX11_turn_18 : decode cX11_turn 18 = .ok (.new 227, 3) := by decide +kernel
theorem dX11_turn_21 : decode cX11_turn 21 = .ok (.dup, 1) := by decide +kernel
theorem dX11_turn_22 : decode cX11_turn 22 = .ok (.invokespecial 229, 3) := by decide +kernel
theorem dX11_turn_25 : decode cX11_turn 25 = .ok (.athrow, 1) := by decide +kernel
theorem dX11_turn_26 : decode cX11_turn 26 = .ok (.iload_n 2, 1) := by decide +kernel
theorem dX11_turn_27 : decode cX11_turn 27 = .ok (.ifCond .lt 8, 3) := by decide +kernel
theorem dX11_turn_30 : decode cX11_turn 30 = .ok (.iload_n 2, 1) := by decide +kernel
theorem dX11_turn_31 : decode cX11_turn 31 = .ok (.iconst 5, 1) := by decide +kernel
theorem dX11_turn_32 : decode cX11_turn 32 = .ok (.if_icmp .lt 11, 3) := by decide +kernel
theorem dX11_turn_35 : decode cX11_turn 35 = .ok (.new 215, 3) := by decide +kernel
theorem dX11_turn_38 : decode cX11_turn 38 = .ok (.dup, 1) := by decide +kernel
theorem dX11_turn_39 : decode cX11_turn 39 = .ok (.invokespecial 217, 3) := by decide +kernel
theorem dX11_turn_42 : decode cX11_turn 42 = .ok (.athrow, 1) := by decide +kernel
theorem dX11_turn_43 : decode cX11_turn 43 = .ok (.aload_n 0, 1) := by decide +kernel
theorem dX11_turn_44 : decode cX11_turn 44 = .ok (.getfield 21, 3) := by decide +kernel
theorem dX11_turn_47 : decode cX11_turn 47 = .ok (.getfield 303, 3) := by decide +kernel
theorem dX11_turn_50 : decode cX11_turn 50 = .ok (.iload_n 1, 1) := by decide +kernel
theorem dX11_turn_51 : decode cX11_turn 51 = .ok (.iload_n 2, 1) := by decide +kernel
theorem dX11_turn_52 : decode cX11_turn 52 = .ok (.invokevirtual 310, 3) := by decide +kernel
theorem dX11_turn_55 : decode cX11_turn 55 = .ok (.ireturn, 1) := by decide +kernel
theorem dX11_nextKind_0 : decode cX11_nextKind 0 = .ok (.aload_n 0, 1) := by decide +kernel
theorem dX11_nextKind_1 : decode cX11_nextKind 1 = .ok (.getfield 30, 3) := by decide +kernel
theorem dX11_nextKind_4 : decode cX11_nextKind 4 = .ok (.aload_n 0, 1) := by decide +kernel
theorem dX11_nextKind_5 : decode cX11_nextKind 5 = .ok (.getfield 21, 3) := by decide +kernel
theorem dX11_nextKind_8 : decode cX11_nextKind 8 = .ok (.getfield 167, 3) := by decide +kernel
theorem dX11_nextKind_11 : decode cX11_nextKind 11 = .ok (.iconst 1, 1) := by decide +kernel
theorem dX11_nextKind_12 : decode cX11_nextKind 12 = .ok (.iadd, 1) := by decide +kernel
theorem dX11_nextKind_13 : decode cX11_nextKind 13 = .ok (.invokevirtual 313, 3) := by decide +kernel
theorem dX11_nextKind_16 : decode cX11_nextKind 16 = .ok (.aload_n 0, 1) := by decide +kernel
theorem dX11_nextKind_17 : decode cX11_nextKind 17 = .ok (.getfield 30, 3) := by decide +kernel
theorem dX11_nextKind_20 : decode cX11_nextKind 20 = .ok (.getfield 316, 3) := by decide +kernel
theorem dX11_nextKind_23 : decode cX11_nextKind 23 = .ok (.ireturn, 1) := by decide +kernel
theorem dX11_nextTerminal_0 : decode cX11_nextTerminal 0 = .ok (.aload_n 0, 1) := by decide +kernel
theorem dX11_nextTerminal_1 : decode cX11_nextTerminal 1 = .ok (.getfield 30, 3) := by decide +kernel
theorem dX11_nextTerminal_4 : decode cX11_nextTerminal 4 = .ok (.aload_n 0, 1) := by decide +kernel
theorem dX11_nextTerminal_5 : decode cX11_nextTerminal 5 = .ok (.getfield 21, 3) := by decide +kernel
theorem dX11_nextTerminal_8 : decode cX11_nextTerminal 8 = .ok (.getfield 167, 3) := by decide +kernel
theorem dX11_nextTerminal_11 : decode cX11_nextTerminal 11 = .ok (.iconst 1, 1) := by decide +kernel
theorem dX11_nextTerminal_12 : decode cX11_nextTerminal 12 = .ok (.iadd, 1) := by decide +kernel
theorem dX11_nextTerminal_13 : decode cX11_nextTerminal 13 = .ok (.invokevirtual 313, 3) := by decide +kernel
theorem dX11_nextTerminal_16 : decode cX11_nextTerminal 16 = .ok (.aload_n 0, 1) := by decide +kernel
theorem dX11_nextTerminal_17 : decode cX11_nextTerminal 17 = .ok (.getfield 30, 3) := by decide +kernel
theorem dX11_nextTerminal_20 : decode cX11_nextTerminal 20 = .ok (.getfield 319, 3) := by decide +kernel
theorem dX11_nextTerminal_23 : decode cX11_nextTerminal 23 = .ok (.ireturn, 1) := by decide +kernel
theorem dX11_gap_0 : decode cX11_gap 0 = .ok (.aload_n 0, 1) := by decide +kernel
theorem dX11_gap_1 : decode cX11_gap 1 = .ok (.getfield 21, 3) := by decide +kernel
theorem dX11_gap_4 : decode cX11_gap 4 = .ok (.getfield 144, 3) := by decide +kernel
theorem dX11_gap_7 : decode cX11_gap 7 = .ok (.getfield 188, 3) := by decide +kernel
theorem dX11_gap_10 : decode cX11_gap 10 = .ok (.istore_n 1, 1) := by decide +kernel
theorem dX11_gap_11 : decode cX11_gap 11 = .ok (.iconst 0, 1) := by decide +kernel
theorem dX11_gap_12 : decode cX11_gap 12 = .ok (.istore_n 2, 1) := by decide +kernel
theorem dX11_gap_13 : decode cX11_gap 13 = .ok (.iload_n 2, 1) := by decide +kernel
theorem dX11_gap_14 : decode cX11_gap 14 = .ok (.iconst 4, 1) := by decide +kernel
theorem dX11_gap_15 : decode cX11_gap 15 = .ok (.if_icmp .ge 23, 3) := by decide +kernel
theorem dX11_gap_18 : decode cX11_gap 18 = .ok (.iload_n 1, 1) := by decide +kernel
theorem dX11_gap_19 : decode cX11_gap 19 = .ok (.aload_n 0, 1) := by decide +kernel
theorem dX11_gap_20 : decode cX11_gap 20 = .ok (.getfield 21, 3) := by decide +kernel
theorem dX11_gap_23 : decode cX11_gap 23 = .ok (.getfield 144, 3) := by decide +kernel
theorem dX11_gap_26 : decode cX11_gap 26 = .ok (.iload_n 2, 1) := by decide +kernel
theorem dX11_gap_27 : decode cX11_gap 27 = .ok (.invokevirtual 195, 3) := by decide +kernel
theorem dX11_gap_30 : decode cX11_gap 30 = .ok (.isub, 1) := by decide +kernel
theorem dX11_gap_31 : decode cX11_gap 31 = .ok (.istore_n 1, 1) := by decide +kernel
theorem dX11_gap_32 : decode cX11_gap 32 = .ok (.iinc 2 1, 3) := by decide +kernel
theorem dX11_gap_35 : decode cX11_gap 35 = .ok (.goto (-22), 3) := by decide +kernel
theorem dX11_gap_38 : decode cX11_gap 38 = .ok (.iload_n 1, 1) := by decide +kernel
theorem dX11_gap_39 : decode cX11_gap 39 = .ok (.ireturn, 1) := by decide +kernel
theorem dX11_deliveredIn_0 : decode cX11_deliveredIn 0 = .ok (.iload_n 1, 1) := by decide +kernel
theorem dX11_deliveredIn_1 : decode cX11_deliveredIn 1 = .ok (.ifCond .lt 9, 3) := by decide +kernel
theorem dX11_deliveredIn_4 : decode cX11_deliveredIn 4 = .ok (.iload_n 1, 1) := by decide +kernel
theorem dX11_deliveredIn_5 : decode cX11_deliveredIn 5 = .ok (.bipush 100, 2) := by decide +kernel
theorem dX11_deliveredIn_7 : decode cX11_deliveredIn 7 = .ok (.if_icmp .le 11, 3) := by decide +kernel
theorem dX11_deliveredIn_10 : decode cX11_deliveredIn 10 = .ok (.new 215, 3) := by decide +kernel
theorem dX11_deliveredIn_13 : decode cX11_deliveredIn 13 = .ok (.dup, 1) := by decide +kernel
theorem dX11_deliveredIn_14 : decode cX11_deliveredIn 14 = .ok (.invokespecial 217, 3) := by decide +kernel
theorem dX11_deliveredIn_17 : decode cX11_deliveredIn 17 = .ok (.athrow, 1) := by decide +kernel
theorem dX11_deliveredIn_18 : decode cX11_deliveredIn 18 = .ok (.aload_n 0, 1) := by decide +kernel
theorem dX11_deliveredIn_19 : decode cX11_deliveredIn 19 = .ok (.getfield 34, 3) := by decide +kernel
theorem dX11_deliveredIn_22 : decode cX11_deliveredIn 22 = .ok (.aload_n 0, 1) := by decide +kernel
theorem dX11_deliveredIn_23 : decode cX11_deliveredIn 23 = .ok (.getfield 21, 3) := by decide +kernel
theorem dX11_deliveredIn_26 : decode cX11_deliveredIn 26 = .ok (.invokevirtual 322, 3) := by decide +kernel
theorem dX11_deliveredIn_29 : decode cX11_deliveredIn 29 = .ok (.aload_n 0, 1) := by decide +kernel
theorem dX11_deliveredIn_30 : decode cX11_deliveredIn 30 = .ok (.getfield 37, 3) := by decide +kernel
theorem dX11_deliveredIn_33 : decode cX11_deliveredIn 33 = .ok (.iload_n 1, 1) := by decide +kernel
theorem dX11_deliveredIn_34 : decode cX11_deliveredIn 34 = .ok (.invokevirtual 170, 3) := by decide +kernel
theorem dX11_deliveredIn_37 : decode cX11_deliveredIn 37 = .ok (.aload_n 0, 1) := by decide +kernel
theorem dX11_deliveredIn_38 : decode cX11_deliveredIn 38 = .ok (.getfield 34, 3) := by decide +kernel
theorem dX11_deliveredIn_41 : decode cX11_deliveredIn 41 = .ok (.invokevirtual 324, 3) := by decide +kernel
theorem dX11_deliveredIn_44 : decode cX11_deliveredIn 44 = .ok (.ireturn, 1) := by decide +kernel
theorem dX11_timeIn_0 : decode cX11_timeIn 0 = .ok (.iload_n 1, 1) := by decide +kernel
theorem dX11_timeIn_1 : decode cX11_timeIn 1 = .ok (.ifCond .lt 9, 3) := by decide +kernel
theorem dX11_timeIn_4 : decode cX11_timeIn 4 = .ok (.iload_n 1, 1) := by decide +kernel
theorem dX11_timeIn_5 : decode cX11_timeIn 5 = .ok (.bipush 100, 2) := by decide +kernel
theorem dX11_timeIn_7 : decode cX11_timeIn 7 = .ok (.if_icmp .le 11, 3) := by decide +kernel
theorem dX11_timeIn_10 : decode cX11_timeIn 10 = .ok (.new 215, 3) := by decide +kernel
theorem dX11_timeIn_13 : decode cX11_timeIn 13 = .ok (.dup, 1) := by decide +kernel
theorem dX11_timeIn_14 : decode cX11_timeIn 14 = .ok (.invokespecial 217, 3) := by decide +kernel
theorem dX11_timeIn_17 : decode cX11_timeIn 17 = .ok (.athrow, 1) := by decide +kernel
theorem dX11_timeIn_18 : decode cX11_timeIn 18 = .ok (.aload_n 0, 1) := by decide +kernel
theorem dX11_timeIn_19 : decode cX11_timeIn 19 = .ok (.getfield 34, 3) := by decide +kernel
theorem dX11_timeIn_22 : decode cX11_timeIn 22 = .ok (.aload_n 0, 1) := by decide +kernel
theorem dX11_timeIn_23 : decode cX11_timeIn 23 = .ok (.getfield 21, 3) := by decide +kernel
theorem dX11_timeIn_26 : decode cX11_timeIn 26 = .ok (.invokevirtual 322, 3) := by decide +kernel
theorem dX11_timeIn_29 : decode cX11_timeIn 29 = .ok (.aload_n 0, 1) := by decide +kernel
theorem dX11_timeIn_30 : decode cX11_timeIn 30 = .ok (.getfield 37, 3) := by decide +kernel
theorem dX11_timeIn_33 : decode cX11_timeIn 33 = .ok (.iload_n 1, 1) := by decide +kernel
theorem dX11_timeIn_34 : decode cX11_timeIn 34 = .ok (.invokevirtual 170, 3) := by decide +kernel
theorem dX11_timeIn_37 : decode cX11_timeIn 37 = .ok (.aload_n 0, 1) := by decide +kernel
theorem dX11_timeIn_38 : decode cX11_timeIn 38 = .ok (.getfield 34, 3) := by decide +kernel
theorem dX11_timeIn_41 : decode cX11_timeIn 41 = .ok (.getfield 189, 3) := by decide +kernel
theorem dX11_timeIn_44 : decode cX11_timeIn 44 = .ok (.ireturn, 1) := by decide +kernel
theorem dX11_deliversIn_0 : decode cX11_deliversIn 0 = .ok (.aload_n 0, 1) := by decide +kernel
theorem dX11_deliversIn_1 : decode cX11_deliversIn 1 = .ok (.getfield 21, 3) := by decide +kernel
theorem dX11_deliversIn_4 : decode cX11_deliversIn 4 = .ok (.getfield 144, 3) := by decide +kernel
theorem dX11_deliversIn_7 : decode cX11_deliversIn 7 = .ok (.iload_n 1, 1) := by decide +kernel
theorem dX11_deliversIn_8 : decode cX11_deliversIn 8 = .ok (.invokevirtual 269, 3) := by decide +kernel
theorem dX11_deliversIn_11 : decode cX11_deliversIn 11 = .ok (.ifCond .ne 11, 3) := by decide +kernel
theorem dX11_deliversIn_14 : decode cX11_deliversIn 14 = .ok (.new 227, 3) := by decide +kernel
theorem dX11_deliversIn_17 : decode cX11_deliversIn 17 = .ok (.dup, 1) := by decide +kernel
theorem dX11_deliversIn_18 : decode cX11_deliversIn 18 = .ok (.invokespecial 229, 3) := by decide +kernel
theorem dX11_deliversIn_21 : decode cX11_deliversIn 21 = .ok (.athrow, 1) := by decide +kernel
theorem dX11_deliversIn_22 : decode cX11_deliversIn 22 = .ok (.aload_n 0, 1) := by decide +kernel
theorem dX11_deliversIn_23 : decode cX11_deliversIn 23 = .ok (.getfield 34, 3) := by decide +kernel
theorem dX11_deliversIn_26 : decode cX11_deliversIn 26 = .ok (.aload_n 0, 1) := by decide +kernel
theorem dX11_deliversIn_27 : decode cX11_deliversIn 27 = .ok (.getfield 21, 3) := by decide +kernel
theorem dX11_deliversIn_30 : decode cX11_deliversIn 30 = .ok (.invokevirtual 322, 3) := by decide +kernel
theorem dX11_deliversIn_33 : decode cX11_deliversIn 33 = .ok (.iconst 0, 1) := by decide +kernel
theorem dX11_deliversIn_34 : decode cX11_deliversIn 34 = .ok (.istore_n 2, 1) := by decide +kernel
theorem dX11_deliversIn_35 : decode cX11_deliversIn 35 = .ok (.iload_n 2, 1) := by decide +kernel
theorem dX11_deliversIn_36 : decode cX11_deliversIn 36 = .ok (.sipush 200, 3) := by decide +kernel
theorem dX11_deliversIn_39 : decode cX11_deliversIn 39 = .ok (.if_icmp .gt 34, 3) := by decide +kernel
theorem dX11_deliversIn_42 : decode cX11_deliversIn 42 = .ok (.aload_n 0, 1) := by decide +kernel
theorem dX11_deliversIn_43 : decode cX11_deliversIn 43 = .ok (.getfield 34, 3) := by decide +kernel
theorem dX11_deliversIn_46 : decode cX11_deliversIn 46 = .ok (.getfield 144, 3) := by decide +kernel
theorem dX11_deliversIn_49 : decode cX11_deliversIn 49 = .ok (.getfield 279, 3) := by decide +kernel
theorem dX11_deliversIn_52 : decode cX11_deliversIn 52 = .ok (.iload_n 1, 1) := by decide +kernel
theorem dX11_deliversIn_53 : decode cX11_deliversIn 53 = .ok (.iaload, 1) := by decide +kernel
theorem dX11_deliversIn_54 : decode cX11_deliversIn 54 = .ok (.iconst 3, 1) := by decide +kernel
theorem dX11_deliversIn_55 : decode cX11_deliversIn 55 = .ok (.if_icmp .ne 5, 3) := by decide +kernel
theorem dX11_deliversIn_58 : decode cX11_deliversIn 58 = .ok (.iload_n 2, 1) := by decide +kernel
theorem dX11_deliversIn_59 : decode cX11_deliversIn 59 = .ok (.ireturn, 1) := by decide +kernel
theorem dX11_deliversIn_60 : decode cX11_deliversIn 60 = .ok (.aload_n 0, 1) := by decide +kernel
theorem dX11_deliversIn_61 : decode cX11_deliversIn 61 = .ok (.getfield 37, 3) := by decide +kernel
theorem dX11_deliversIn_64 : decode cX11_deliversIn 64 = .ok (.invokevirtual 327, 3) := by decide +kernel
theorem dX11_deliversIn_67 : decode cX11_deliversIn 67 = .ok (.iinc 2 1, 3) := by decide +kernel
theorem dX11_deliversIn_70 : decode cX11_deliversIn 70 = .ok (.goto (-35), 3) := by decide +kernel
theorem dX11_deliversIn_73 : decode cX11_deliversIn 73 = .ok (.iconst (-1), 1) := by decide +kernel
theorem dX11_deliversIn_74 : decode cX11_deliversIn 74 = .ok (.ireturn, 1) := by decide +kernel
theorem dX11_quietIn_0 : decode cX11_quietIn 0 = .ok (.aload_n 0, 1) := by decide +kernel
theorem dX11_quietIn_1 : decode cX11_quietIn 1 = .ok (.getfield 34, 3) := by decide +kernel
theorem dX11_quietIn_4 : decode cX11_quietIn 4 = .ok (.aload_n 0, 1) := by decide +kernel
theorem dX11_quietIn_5 : decode cX11_quietIn 5 = .ok (.getfield 21, 3) := by decide +kernel
theorem dX11_quietIn_8 : decode cX11_quietIn 8 = .ok (.invokevirtual 322, 3) := by decide +kernel
theorem dX11_quietIn_11 : decode cX11_quietIn 11 = .ok (.iconst 0, 1) := by decide +kernel
theorem dX11_quietIn_12 : decode cX11_quietIn 12 = .ok (.istore_n 1, 1) := by decide +kernel
theorem dX11_quietIn_13 : decode cX11_quietIn 13 = .ok (.iload_n 1, 1) := by decide +kernel
theorem dX11_quietIn_14 : decode cX11_quietIn 14 = .ok (.sipush 200, 3) := by decide +kernel
theorem dX11_quietIn_17 : decode cX11_quietIn 17 = .ok (.if_icmp .gt 38, 3) := by decide +kernel
theorem dX11_quietIn_20 : decode cX11_quietIn 20 = .ok (.aload_n 0, 1) := by decide +kernel
theorem dX11_quietIn_21 : decode cX11_quietIn 21 = .ok (.getfield 34, 3) := by decide +kernel
theorem dX11_quietIn_24 : decode cX11_quietIn 24 = .ok (.invokevirtual 324, 3) := by decide +kernel
theorem dX11_quietIn_27 : decode cX11_quietIn 27 = .ok (.aload_n 0, 1) := by decide +kernel
theorem dX11_quietIn_28 : decode cX11_quietIn 28 = .ok (.getfield 34, 3) := by decide +kernel
theorem dX11_quietIn_31 : decode cX11_quietIn 31 = .ok (.getfield 144, 3) := by decide +kernel
theorem dX11_quietIn_34 : decode cX11_quietIn 34 = .ok (.getfield 188, 3) := by decide +kernel
theorem dX11_quietIn_37 : decode cX11_quietIn 37 = .ok (.if_icmp .ne 5, 3) := by decide +kernel
theorem dX11_quietIn_40 : decode cX11_quietIn 40 = .ok (.iload_n 1, 1) := by decide +kernel
theorem dX11_quietIn_41 : decode cX11_quietIn 41 = .ok (.ireturn, 1) := by decide +kernel
theorem dX11_quietIn_42 : decode cX11_quietIn 42 = .ok (.aload_n 0, 1) := by decide +kernel
theorem dX11_quietIn_43 : decode cX11_quietIn 43 = .ok (.getfield 37, 3) := by decide +kernel
theorem dX11_quietIn_46 : decode cX11_quietIn 46 = .ok (.invokevirtual 327, 3) := by decide +kernel
theorem dX11_quietIn_49 : decode cX11_quietIn 49 = .ok (.iinc 1 1, 3) := by decide +kernel
theorem dX11_quietIn_52 : decode cX11_quietIn 52 = .ok (.goto (-39), 3) := by decide +kernel
theorem dX11_quietIn_55 : decode cX11_quietIn 55 = .ok (.iconst (-1), 1) := by decide +kernel
theorem dX11_quietIn_56 : decode cX11_quietIn 56 = .ok (.ireturn, 1) := by decide +kernel
theorem dX11_switchesIn_0 : decode cX11_switchesIn 0 = .ok (.aload_n 0, 1) := by decide +kernel
theorem dX11_switchesIn_1 : decode cX11_switchesIn 1 = .ok (.getfield 10, 3) := by decide +kernel
theorem dX11_switchesIn_4 : decode cX11_switchesIn 4 = .ok (.iload_n 1, 1) := by decide +kernel
theorem dX11_switchesIn_5 : decode cX11_switchesIn 5 = .ok (.invokevirtual 224, 3) := by decide +kernel
theorem dX11_switchesIn_8 : decode cX11_switchesIn 8 = .ok (.ifCond .ne 11, 3) := by decide +kernel
theorem dX11_switchesIn_11 : decode cX11_switchesIn 11 = .ok (.new 227, 3) := by decide +kernel
theorem dX11_switchesIn_14 : decode cX11_switchesIn 14 = .ok (.dup, 1) := by decide +kernel
theorem dX11_switchesIn_15 : decode cX11_switchesIn 15 = .ok (.invokespecial 229, 3) := by decide +kernel
theorem dX11_switchesIn_18 : decode cX11_switchesIn 18 = .ok (.athrow, 1) := by decide +kernel
theorem dX11_switchesIn_19 : decode cX11_switchesIn 19 = .ok (.aload_n 0, 1) := by decide +kernel
theorem dX11_switchesIn_20 : decode cX11_switchesIn 20 = .ok (.getfield 34, 3) := by decide +kernel
theorem dX11_switchesIn_23 : decode cX11_switchesIn 23 = .ok (.aload_n 0, 1) := by decide +kernel
theorem dX11_switchesIn_24 : decode cX11_switchesIn 24 = .ok (.getfield 21, 3) := by decide +kernel
theorem dX11_switchesIn_27 : decode cX11_switchesIn 27 = .ok (.invokevirtual 322, 3) := by decide +kernel
theorem dX11_switchesIn_30 : decode cX11_switchesIn 30 = .ok (.iconst 0, 1) := by decide +kernel
theorem dX11_switchesIn_31 : decode cX11_switchesIn 31 = .ok (.istore_n 2, 1) := by decide +kernel
theorem dX11_switchesIn_32 : decode cX11_switchesIn 32 = .ok (.iload_n 2, 1) := by decide +kernel
theorem dX11_switchesIn_33 : decode cX11_switchesIn 33 = .ok (.sipush 200, 3) := by decide +kernel
theorem dX11_switchesIn_36 : decode cX11_switchesIn 36 = .ok (.if_icmp .gt 45, 3) := by decide +kernel
theorem dX11_switchesIn_39 : decode cX11_switchesIn 39 = .ok (.aload_n 0, 1) := by decide +kernel
theorem dX11_switchesIn_40 : decode cX11_switchesIn 40 = .ok (.getfield 34, 3) := by decide +kernel
theorem dX11_switchesIn_43 : decode cX11_switchesIn 43 = .ok (.getfield 199, 3) := by decide +kernel
theorem dX11_switchesIn_46 : decode cX11_switchesIn 46 = .ok (.getfield 203, 3) := by decide +kernel
theorem dX11_switchesIn_49 : decode cX11_switchesIn 49 = .ok (.iload_n 1, 1) := by decide +kernel
theorem dX11_switchesIn_50 : decode cX11_switchesIn 50 = .ok (.iaload, 1) := by decide +kernel
theorem dX11_switchesIn_51 : decode cX11_switchesIn 51 = .ok (.aload_n 0, 1) := by decide +kernel
theorem dX11_switchesIn_52 : decode cX11_switchesIn 52 = .ok (.getfield 21, 3) := by decide +kernel
theorem dX11_switchesIn_55 : decode cX11_switchesIn 55 = .ok (.getfield 199, 3) := by decide +kernel
theorem dX11_switchesIn_58 : decode cX11_switchesIn 58 = .ok (.getfield 203, 3) := by decide +kernel
theorem dX11_switchesIn_61 : decode cX11_switchesIn 61 = .ok (.iload_n 1, 1) := by decide +kernel
theorem dX11_switchesIn_62 : decode cX11_switchesIn 62 = .ok (.iaload, 1) := by decide +kernel
theorem dX11_switchesIn_63 : decode cX11_switchesIn 63 = .ok (.if_icmp .eq 5, 3) := by decide +kernel
theorem dX11_switchesIn_66 : decode cX11_switchesIn 66 = .ok (.iload_n 2, 1) := by decide +kernel
theorem dX11_switchesIn_67 : decode cX11_switchesIn 67 = .ok (.ireturn, 1) := by decide +kernel
theorem dX11_switchesIn_68 : decode cX11_switchesIn 68 = .ok (.aload_n 0, 1) := by decide +kernel
theorem dX11_switchesIn_69 : decode cX11_switchesIn 69 = .ok (.getfield 37, 3) := by decide +kernel
theorem dX11_switchesIn_72 : decode cX11_switchesIn 72 = .ok (.invokevirtual 327, 3) := by decide +kernel
theorem dX11_switchesIn_75 : decode cX11_switchesIn 75 = .ok (.iinc 2 1, 3) := by decide +kernel
theorem dX11_switchesIn_78 : decode cX11_switchesIn 78 = .ok (.goto (-46), 3) := by decide +kernel
theorem dX11_switchesIn_81 : decode cX11_switchesIn 81 = .ok (.iconst (-1), 1) := by decide +kernel
theorem dX11_switchesIn_82 : decode cX11_switchesIn 82 = .ok (.ireturn, 1) := by decide +kernel
theorem dX11_bestTries_0 : decode cX11_bestTries 0 = .ok (.iload_n 1, 1) := by decide +kernel
theorem dX11_bestTries_1 : decode cX11_bestTries 1 = .ok (.iconst 1, 1) := by decide +kernel
theorem dX11_bestTries_2 : decode cX11_bestTries 2 = .ok (.if_icmp .lt 9, 3) := by decide +kernel
theorem dX11_bestTries_5 : decode cX11_bestTries 5 = .ok (.iload_n 1, 1) := by decide +kernel
theorem dX11_bestTries_6 : decode cX11_bestTries 6 = .ok (.bipush 50, 2) := by decide +kernel
theorem dX11_bestTries_8 : decode cX11_bestTries 8 = .ok (.if_icmp .le 11, 3) := by decide +kernel
theorem dX11_bestTries_11 : decode cX11_bestTries 11 = .ok (.new 215, 3) := by decide +kernel
theorem dX11_bestTries_14 : decode cX11_bestTries 14 = .ok (.dup, 1) := by decide +kernel
theorem dX11_bestTries_15 : decode cX11_bestTries 15 = .ok (.invokespecial 217, 3) := by decide +kernel
theorem dX11_bestTries_18 : decode cX11_bestTries 18 = .ok (.athrow, 1) := by decide +kernel
theorem dX11_bestTries_19 : decode cX11_bestTries 19 = .ok (.getstatic 330, 3) := by decide +kernel
theorem dX11_bestTries_22 : decode cX11_bestTries 22 = .ok (.iconst 1, 1) := by decide +kernel
theorem dX11_bestTries_23 : decode cX11_bestTries 23 = .ok (.iaload, 1) := by decide +kernel
theorem dX11_bestTries_24 : decode cX11_bestTries 24 = .ok (.istore_n 2, 1) := by decide +kernel
theorem dX11_bestTries_25 : decode cX11_bestTries 25 = .ok (.iconst (-1), 1) := by decide +kernel
theorem dX11_bestTries_26 : decode cX11_bestTries 26 = .ok (.istore_n 3, 1) := by decide +kernel
theorem dX11_bestTries_27 : decode cX11_bestTries 27 = .ok (.getstatic 330, 3) := by decide +kernel
theorem dX11_bestTries_30 : decode cX11_bestTries 30 = .ok (.iconst 1, 1) := by decide +kernel
theorem dX11_bestTries_31 : decode cX11_bestTries 31 = .ok (.iaload, 1) := by decide +kernel
theorem dX11_bestTries_32 : decode cX11_bestTries 32 = .ok (.istore 4, 2) := by decide +kernel
theorem dX11_bestTries_34 : decode cX11_bestTries 34 = .ok (.iload 4, 2) := by decide +kernel
theorem dX11_bestTries_36 : decode cX11_bestTries 36 = .ok (.getstatic 333, 3) := by decide +kernel
theorem dX11_bestTries_39 : decode cX11_bestTries 39 = .ok (.iconst 1, 1) := by decide +kernel
theorem dX11_bestTries_40 : decode cX11_bestTries 40 = .ok (.iaload, 1) := by decide +kernel
theorem dX11_bestTries_41 : decode cX11_bestTries 41 = .ok (.if_icmp .gt 31, 3) := by decide +kernel
theorem dX11_bestTries_44 : decode cX11_bestTries 44 = .ok (.aload_n 0, 1) := by decide +kernel
theorem dX11_bestTries_45 : decode cX11_bestTries 45 = .ok (.iconst 1, 1) := by decide +kernel
theorem dX11_bestTries_46 : decode cX11_bestTries 46 = .ok (.iload 4, 2) := by decide +kernel
theorem dX11_bestTries_48 : decode cX11_bestTries 48 = .ok (.iload_n 1, 1) := by decide +kernel
theorem dX11_bestTries_49 : decode cX11_bestTries 49 = .ok (.invokevirtual 336, 3) := by decide +kernel
theorem dX11_bestTries_52 : decode cX11_bestTries 52 = .ok (.istore 5, 2) := by decide +kernel
theorem dX11_bestTries_54 : decode cX11_bestTries 54 = .ok (.iload 5, 2) := by decide +kernel
theorem dX11_bestTries_56 : decode cX11_bestTries 56 = .ok (.iload_n 3, 1) := by decide +kernel
theorem dX11_bestTries_57 : decode cX11_bestTries 57 = .ok (.if_icmp .le 9, 3) := by decide +kernel
theorem dX11_bestTries_60 : decode cX11_bestTries 60 = .ok (.iload 5, 2) := by decide +kernel
theorem dX11_bestTries_62 : decode cX11_bestTries 62 = .ok (.istore_n 3, 1) := by decide +kernel
theorem dX11_bestTries_63 : decode cX11_bestTries 63 = .ok (.iload 4, 2) := by decide +kernel
theorem dX11_bestTries_65 : decode cX11_bestTries 65 = .ok (.istore_n 2, 1) := by decide +kernel
theorem dX11_bestTries_66 : decode cX11_bestTries 66 = .ok (.iinc 4 1, 3) := by decide +kernel
theorem dX11_bestTries_69 : decode cX11_bestTries 69 = .ok (.goto (-35), 3) := by decide +kernel
theorem dX11_bestTries_72 : decode cX11_bestTries 72 = .ok (.iload_n 2, 1) := by decide +kernel
theorem dX11_bestTries_73 : decode cX11_bestTries 73 = .ok (.ireturn, 1) := by decide +kernel
theorem dX11_lostByNoise_0 : decode cX11_lostByNoise 0 = .ok (.iload_n 1, 1) := by decide +kernel
theorem dX11_lostByNoise_1 : decode cX11_lostByNoise 1 = .ok (.iconst 1, 1) := by decide +kernel
theorem dX11_lostByNoise_2 : decode cX11_lostByNoise 2 = .ok (.if_icmp .lt 9, 3) := by decide +kernel
theorem dX11_lostByNoise_5 : decode cX11_lostByNoise 5 = .ok (.iload_n 1, 1) := by decide +kernel
theorem dX11_lostByNoise_6 : decode cX11_lostByNoise 6 = .ok (.bipush 100, 2) := by decide +kernel
theorem dX11_lostByNoise_8 : decode cX11_lostByNoise 8 = .ok (.if_icmp .le 11, 3) := by decide +kernel
theorem dX11_lostByNoise_11 : decode cX11_lostByNoise 11 = .ok (.new 215, 3) := by decide +kernel
theorem dX11_lostByNoise_14 : decode cX11_lostByNoise 14 = .ok (.dup, 1) := by decide +kernel
theorem dX11_lostByNoise_15 : decode cX11_lostByNoise 15 = .ok (.invokespecial 217, 3) := by decide +kernel
theorem dX11_lostByNoise_18 : decode cX11_lostByNoise 18 = .ok (.athrow, 1) := by decide +kernel
theorem dX11_lostByNoise_19 : decode cX11_lostByNoise 19 = .ok (.aload_n 0, 1) := by decide +kernel
theorem dX11_lostByNoise_20 : decode cX11_lostByNoise 20 = .ok (.iconst 5, 1) := by decide +kernel
theorem dX11_lostByNoise_21 : decode cX11_lostByNoise 21 = .ok (.iconst 0, 1) := by decide +kernel
theorem dX11_lostByNoise_22 : decode cX11_lostByNoise 22 = .ok (.iload_n 1, 1) := by decide +kernel
theorem dX11_lostByNoise_23 : decode cX11_lostByNoise 23 = .ok (.invokevirtual 336, 3) := by decide +kernel
theorem dX11_lostByNoise_26 : decode cX11_lostByNoise 26 = .ok (.aload_n 0, 1) := by decide +kernel
theorem dX11_lostByNoise_27 : decode cX11_lostByNoise 27 = .ok (.iconst 5, 1) := by decide +kernel
theorem dX11_lostByNoise_28 : decode cX11_lostByNoise 28 = .ok (.aload_n 0, 1) := by decide +kernel
theorem dX11_lostByNoise_29 : decode cX11_lostByNoise 29 = .ok (.getfield 21, 3) := by decide +kernel
theorem dX11_lostByNoise_32 : decode cX11_lostByNoise 32 = .ok (.getfield 221, 3) := by decide +kernel
theorem dX11_lostByNoise_35 : decode cX11_lostByNoise 35 = .ok (.iconst 5, 1) := by decide +kernel
theorem dX11_lostByNoise_36 : decode cX11_lostByNoise 36 = .ok (.iaload, 1) := by decide +kernel
theorem dX11_lostByNoise_37 : decode cX11_lostByNoise 37 = .ok (.iload_n 1, 1) := by decide +kernel
theorem dX11_lostByNoise_38 : decode cX11_lostByNoise 38 = .ok (.invokevirtual 336, 3) := by decide +kernel
theorem dX11_lostByNoise_41 : decode cX11_lostByNoise 41 = .ok (.isub, 1) := by decide +kernel
theorem dX11_lostByNoise_42 : decode cX11_lostByNoise 42 = .ok (.ireturn, 1) := by decide +kernel
theorem dX11_deliveredWith_0 : decode cX11_deliveredWith 0 = .ok (.aload_n 0, 1) := by decide +kernel
theorem dX11_deliveredWith_1 : decode cX11_deliveredWith 1 = .ok (.getfield 34, 3) := by decide +kernel
theorem dX11_deliveredWith_4 : decode cX11_deliveredWith 4 = .ok (.aload_n 0, 1) := by decide +kernel
theorem dX11_deliveredWith_5 : decode cX11_deliveredWith 5 = .ok (.getfield 21, 3) := by decide +kernel
theorem dX11_deliveredWith_8 : decode cX11_deliveredWith 8 = .ok (.invokevirtual 322, 3) := by decide +kernel
theorem dX11_deliveredWith_11 : decode cX11_deliveredWith 11 = .ok (.aload_n 0, 1) := by decide +kernel
theorem dX11_deliveredWith_12 : decode cX11_deliveredWith 12 = .ok (.getfield 34, 3) := by decide +kernel
theorem dX11_deliveredWith_15 : decode cX11_deliveredWith 15 = .ok (.getfield 221, 3) := by decide +kernel
theorem dX11_deliveredWith_18 : decode cX11_deliveredWith 18 = .ok (.iload_n 1, 1) := by decide +kernel
theorem dX11_deliveredWith_19 : decode cX11_deliveredWith 19 = .ok (.iload_n 2, 1) := by decide +kernel
theorem dX11_deliveredWith_20 : decode cX11_deliveredWith 20 = .ok (.iastore, 1) := by decide +kernel
theorem dX11_deliveredWith_21 : decode cX11_deliveredWith 21 = .ok (.aload_n 0, 1) := by decide +kernel
theorem dX11_deliveredWith_22 : decode cX11_deliveredWith 22 = .ok (.getfield 37, 3) := by decide +kernel
theorem dX11_deliveredWith_25 : decode cX11_deliveredWith 25 = .ok (.iload_n 3, 1) := by decide +kernel
theorem dX11_deliveredWith_26 : decode cX11_deliveredWith 26 = .ok (.invokevirtual 170, 3) := by decide +kernel
theorem dX11_deliveredWith_29 : decode cX11_deliveredWith 29 = .ok (.aload_n 0, 1) := by decide +kernel
theorem dX11_deliveredWith_30 : decode cX11_deliveredWith 30 = .ok (.getfield 34, 3) := by decide +kernel
theorem dX11_deliveredWith_33 : decode cX11_deliveredWith 33 = .ok (.invokevirtual 324, 3) := by decide +kernel
theorem dX11_deliveredWith_36 : decode cX11_deliveredWith 36 = .ok (.ireturn, 1) := by decide +kernel
theorem dX11_worst_0 : decode cX11_worst 0 = .ok (.iconst (-1), 1) := by decide +kernel
theorem dX11_worst_1 : decode cX11_worst 1 = .ok (.istore_n 1, 1) := by decide +kernel
theorem dX11_worst_2 : decode cX11_worst 2 = .ok (.iconst 0, 1) := by decide +kernel
theorem dX11_worst_3 : decode cX11_worst 3 = .ok (.istore_n 2, 1) := by decide +kernel
theorem dX11_worst_4 : decode cX11_worst 4 = .ok (.iconst 0, 1) := by decide +kernel
theorem dX11_worst_5 : decode cX11_worst 5 = .ok (.istore_n 3, 1) := by decide +kernel
theorem dX11_worst_6 : decode cX11_worst 6 = .ok (.iload_n 3, 1) := by decide +kernel
theorem dX11_worst_7 : decode cX11_worst 7 = .ok (.aload_n 0, 1) := by decide +kernel
theorem dX11_worst_8 : decode cX11_worst 8 = .ok (.getfield 10, 3) := by decide +kernel
theorem dX11_worst_11 : decode cX11_worst 11 = .ok (.getfield 115, 3) := by decide +kernel
theorem dX11_worst_14 : decode cX11_worst 14 = .ok (.if_icmp .ge 34, 3) := by decide +kernel
theorem dX11_worst_17 : decode cX11_worst 17 = .ok (.aload_n 0, 1) := by decide +kernel
theorem dX11_worst_18 : decode cX11_worst 18 = .ok (.getfield 21, 3) := by decide +kernel
theorem dX11_worst_21 : decode cX11_worst 21 = .ok (.getfield 199, 3) := by decide +kernel
theorem dX11_worst_24 : decode cX11_worst 24 = .ok (.iconst 3, 1) := by decide +kernel
theorem dX11_worst_25 : decode cX11_worst 25 = .ok (.iload_n 3, 1) := by decide +kernel
theorem dX11_worst_26 : decode cX11_worst 26 = .ok (.invokevirtual 339, 3) := by decide +kernel
theorem dX11_worst_29 : decode cX11_worst 29 = .ok (.istore 4, 2) := by decide +kernel
theorem dX11_worst_31 : decode cX11_worst 31 = .ok (.iload 4, 2) := by decide +kernel
theorem dX11_worst_33 : decode cX11_worst 33 = .ok (.iload_n 2, 1) := by decide +kernel
theorem dX11_worst_34 : decode cX11_worst 34 = .ok (.if_icmp .le 8, 3) := by decide +kernel
theorem dX11_worst_37 : decode cX11_worst 37 = .ok (.iload 4, 2) := by decide +kernel
theorem dX11_worst_39 : decode cX11_worst 39 = .ok (.istore_n 2, 1) := by decide +kernel
theorem dX11_worst_40 : decode cX11_worst 40 = .ok (.iload_n 3, 1) := by decide +kernel
theorem dX11_worst_41 : decode cX11_worst 41 = .ok (.istore_n 1, 1) := by decide +kernel
theorem dX11_worst_42 : decode cX11_worst 42 = .ok (.iinc 3 1, 3) := by decide +kernel
theorem dX11_worst_45 : decode cX11_worst 45 = .ok (.goto (-39), 3) := by decide +kernel
theorem dX11_worst_48 : decode cX11_worst 48 = .ok (.iload_n 1, 1) := by decide +kernel
theorem dX11_worst_49 : decode cX11_worst 49 = .ok (.ireturn, 1) := by decide +kernel
theorem dX11_often_0 : decode cX11_often 0 = .ok (.aload_n 0, 1) := by decide +kernel
theorem dX11_often_1 : decode cX11_often 1 = .ok (.getfield 10, 3) := by decide +kernel
theorem dX11_often_4 : decode cX11_often 4 = .ok (.iload_n 1, 1) := by decide +kernel
theorem dX11_often_5 : decode cX11_often 5 = .ok (.invokevirtual 224, 3) := by decide +kernel
theorem dX11_often_8 : decode cX11_often 8 = .ok (.ifCond .ne 11, 3) := by decide +kernel
theorem dX11_often_11 : decode cX11_often 11 = .ok (.new 227, 3) := by decide +kernel
theorem dX11_often_14 : decode cX11_often 14 = .ok (.dup, 1) := by decide +kernel
theorem dX11_often_15 : decode cX11_often 15 = .ok (.invokespecial 229, 3) := by decide +kernel
theorem dX11_often_18 : decode cX11_often 18 = .ok (.athrow, 1) := by decide +kernel
theorem dX11_often_19 : decode cX11_often 19 = .ok (.iload_n 2, 1) := by decide +kernel
theorem dX11_often_20 : decode cX11_often 20 = .ok (.ifCond .lt 8, 3) := by decide +kernel
theorem dX11_often_23 : decode cX11_often 23 = .ok (.iload_n 2, 1) := by decide +kernel
theorem dX11_often_24 : decode cX11_often 24 = .ok (.iconst 4, 1) := by decide +kernel
theorem dX11_often_25 : decode cX11_often 25 = .ok (.if_icmp .lt 11, 3) := by decide +kernel
theorem dX11_often_28 : decode cX11_often 28 = .ok (.new 215, 3) := by decide +kernel
theorem dX11_often_31 : decode cX11_often 31 = .ok (.dup, 1) := by decide +kernel
theorem dX11_often_32 : decode cX11_often 32 = .ok (.invokespecial 217, 3) := by decide +kernel
theorem dX11_often_35 : decode cX11_often 35 = .ok (.athrow, 1) := by decide +kernel
theorem dX11_often_36 : decode cX11_often 36 = .ok (.aload_n 0, 1) := by decide +kernel
theorem dX11_often_37 : decode cX11_often 37 = .ok (.getfield 21, 3) := by decide +kernel
theorem dX11_often_40 : decode cX11_often 40 = .ok (.getfield 199, 3) := by decide +kernel
theorem dX11_often_43 : decode cX11_often 43 = .ok (.iload_n 2, 1) := by decide +kernel
theorem dX11_often_44 : decode cX11_often 44 = .ok (.iload_n 1, 1) := by decide +kernel
theorem dX11_often_45 : decode cX11_often 45 = .ok (.invokevirtual 339, 3) := by decide +kernel
theorem dX11_often_48 : decode cX11_often 48 = .ok (.ireturn, 1) := by decide +kernel
theorem dX11_meanTime_0 : decode cX11_meanTime 0 = .ok (.aload_n 0, 1) := by decide +kernel
theorem dX11_meanTime_1 : decode cX11_meanTime 1 = .ok (.getfield 21, 3) := by decide +kernel
theorem dX11_meanTime_4 : decode cX11_meanTime 4 = .ok (.invokevirtual 324, 3) := by decide +kernel
theorem dX11_meanTime_7 : decode cX11_meanTime 7 = .ok (.istore_n 1, 1) := by decide +kernel
theorem dX11_meanTime_8 : decode cX11_meanTime 8 = .ok (.iload_n 1, 1) := by decide +kernel
theorem dX11_meanTime_9 : decode cX11_meanTime 9 = .ok (.ifCond .ne 5, 3) := by decide +kernel
theorem dX11_meanTime_12 : decode cX11_meanTime 12 = .ok (.dconst 0, 1) := by decide +kernel
theorem dX11_meanTime_13 : decode cX11_meanTime 13 = .ok (.dreturn, 1) := by decide +kernel
theorem dX11_meanTime_14 : decode cX11_meanTime 14 = .ok (.aload_n 0, 1) := by decide +kernel
theorem dX11_meanTime_15 : decode cX11_meanTime 15 = .ok (.getfield 21, 3) := by decide +kernel
theorem dX11_meanTime_18 : decode cX11_meanTime 18 = .ok (.getfield 144, 3) := by decide +kernel
theorem dX11_meanTime_21 : decode cX11_meanTime 21 = .ok (.invokevirtual 342, 3) := by decide +kernel
theorem dX11_meanTime_24 : decode cX11_meanTime 24 = .ok (.i2d, 1) := by decide +kernel
theorem dX11_meanTime_25 : decode cX11_meanTime 25 = .ok (.iload_n 1, 1) := by decide +kernel
theorem dX11_meanTime_26 : decode cX11_meanTime 26 = .ok (.i2d, 1) := by decide +kernel
theorem dX11_meanTime_27 : decode cX11_meanTime 27 = .ok (.ddiv, 1) := by decide +kernel
theorem dX11_meanTime_28 : decode cX11_meanTime 28 = .ok (.dreturn, 1) := by decide +kernel
theorem dX11_clearShare_0 : decode cX11_clearShare 0 = .ok (.aload_n 0, 1) := by decide +kernel
theorem dX11_clearShare_1 : decode cX11_clearShare 1 = .ok (.getfield 21, 3) := by decide +kernel
theorem dX11_clearShare_4 : decode cX11_clearShare 4 = .ok (.getfield 218, 3) := by decide +kernel
theorem dX11_clearShare_7 : decode cX11_clearShare 7 = .ok (.iconst 0, 1) := by decide +kernel
theorem dX11_clearShare_8 : decode cX11_clearShare 8 = .ok (.iaload, 1) := by decide +kernel
theorem dX11_clearShare_9 : decode cX11_clearShare 9 = .ok (.istore_n 1, 1) := by decide +kernel
theorem dX11_clearShare_10 : decode cX11_clearShare 10 = .ok (.iload_n 1, 1) := by decide +kernel
theorem dX11_clearShare_11 : decode cX11_clearShare 11 = .ok (.ifCond .ne 5, 3) := by decide +kernel
theorem dX11_clearShare_14 : decode cX11_clearShare 14 = .ok (.fconst 1, 1) := by decide +kernel
theorem dX11_clearShare_15 : decode cX11_clearShare 15 = .ok (.freturn, 1) := by decide +kernel
theorem dX11_clearShare_16 : decode cX11_clearShare 16 = .ok (.iload_n 1, 1) := by decide +kernel
theorem dX11_clearShare_17 : decode cX11_clearShare 17 = .ok (.aload_n 0, 1) := by decide +kernel
theorem dX11_clearShare_18 : decode cX11_clearShare 18 = .ok (.getfield 21, 3) := by decide +kernel
theorem dX11_clearShare_21 : decode cX11_clearShare 21 = .ok (.getfield 218, 3) := by decide +kernel
theorem dX11_clearShare_24 : decode cX11_clearShare 24 = .ok (.iconst 1, 1) := by decide +kernel
theorem dX11_clearShare_25 : decode cX11_clearShare 25 = .ok (.iaload, 1) := by decide +kernel
theorem dX11_clearShare_26 : decode cX11_clearShare 26 = .ok (.isub, 1) := by decide +kernel
theorem dX11_clearShare_27 : decode cX11_clearShare 27 = .ok (.i2f, 1) := by decide +kernel
theorem dX11_clearShare_28 : decode cX11_clearShare 28 = .ok (.iload_n 1, 1) := by decide +kernel
theorem dX11_clearShare_29 : decode cX11_clearShare 29 = .ok (.i2f, 1) := by decide +kernel
theorem dX11_clearShare_30 : decode cX11_clearShare 30 = .ok (.fdiv, 1) := by decide +kernel
theorem dX11_clearShare_31 : decode cX11_clearShare 31 = .ok (.freturn, 1) := by decide +kernel
theorem dX11_post_0 : decode cX11_post 0 = .ok (.aload_n 0, 1) := by decide +kernel
theorem dX11_post_1 : decode cX11_post 1 = .ok (.iload_n 1, 1) := by decide +kernel
theorem dX11_post_2 : decode cX11_post 2 = .ok (.invokevirtual 345, 3) := by decide +kernel
theorem dX11_post_5 : decode cX11_post 5 = .ok (.ifCond .eq 11, 3) := by decide +kernel
theorem dX11_post_8 : decode cX11_post 8 = .ok (.aload_n 0, 1) := by decide +kernel
theorem dX11_post_9 : decode cX11_post 9 = .ok (.iload_n 2, 1) := by decide +kernel
theorem dX11_post_10 : decode cX11_post 10 = .ok (.invokevirtual 345, 3) := by decide +kernel
theorem dX11_post_13 : decode cX11_post 13 = .ok (.ifCond .ne 11, 3) := by decide +kernel
theorem dX11_post_16 : decode cX11_post 16 = .ok (.new 227, 3) := by decide +kernel
theorem dX11_post_19 : decode cX11_post 19 = .ok (.dup, 1) := by decide +kernel
theorem dX11_post_20 : decode cX11_post 20 = .ok (.invokespecial 229, 3) := by decide +kernel
theorem dX11_post_23 : decode cX11_post 23 = .ok (.athrow, 1) := by decide +kernel
theorem dX11_post_24 : decode cX11_post 24 = .ok (.iload_n 1, 1) := by decide +kernel
theorem dX11_post_25 : decode cX11_post 25 = .ok (.iload_n 2, 1) := by decide +kernel
theorem dX11_post_26 : decode cX11_post 26 = .ok (.if_icmp .eq 14, 3) := by decide +kernel
theorem dX11_post_29 : decode cX11_post 29 = .ok (.iload_n 3, 1) := by decide +kernel
theorem dX11_post_30 : decode cX11_post 30 = .ok (.iconst 1, 1) := by decide +kernel
theorem dX11_post_31 : decode cX11_post 31 = .ok (.if_icmp .lt 9, 3) := by decide +kernel
theorem dX11_post_34 : decode cX11_post 34 = .ok (.iload_n 3, 1) := by decide +kernel
theorem dX11_post_35 : decode cX11_post 35 = .ok (.bipush 20, 2) := by decide +kernel
theorem dX11_post_37 : decode cX11_post 37 = .ok (.if_icmp .le 11, 3) := by decide +kernel
theorem dX11_post_40 : decode cX11_post 40 = .ok (.new 215, 3) := by decide +kernel
theorem dX11_post_43 : decode cX11_post 43 = .ok (.dup, 1) := by decide +kernel
theorem dX11_post_44 : decode cX11_post 44 = .ok (.invokespecial 217, 3) := by decide +kernel
theorem dX11_post_47 : decode cX11_post 47 = .ok (.athrow, 1) := by decide +kernel
theorem dX11_post_48 : decode cX11_post 48 = .ok (.aload_n 0, 1) := by decide +kernel
theorem dX11_post_49 : decode cX11_post 49 = .ok (.getfield 21, 3) := by decide +kernel
theorem dX11_post_52 : decode cX11_post 52 = .ok (.getfield 144, 3) := by decide +kernel
theorem dX11_post_55 : decode cX11_post 55 = .ok (.invokevirtual 148, 3) := by decide +kernel
theorem dX11_post_58 : decode cX11_post 58 = .ok (.ifCond .eq 11, 3) := by decide +kernel
theorem dX11_post_61 : decode cX11_post 61 = .ok (.new 348, 3) := by decide +kernel
theorem dX11_post_64 : decode cX11_post 64 = .ok (.dup, 1) := by decide +kernel
theorem dX11_post_65 : decode cX11_post 65 = .ok (.invokespecial 350, 3) := by decide +kernel
theorem dX11_post_68 : decode cX11_post 68 = .ok (.athrow, 1) := by decide +kernel
theorem dX11_post_69 : decode cX11_post 69 = .ok (.aload_n 0, 1) := by decide +kernel
theorem dX11_post_70 : decode cX11_post 70 = .ok (.getfield 46, 3) := by decide +kernel
theorem dX11_post_73 : decode cX11_post 73 = .ok (.aload_n 0, 1) := by decide +kernel
theorem dX11_post_74 : decode cX11_post 74 = .ok (.getfield 21, 3) := by decide +kernel
theorem dX11_post_77 : decode cX11_post 77 = .ok (.invokevirtual 130, 3) := by decide +kernel
theorem dX11_post_80 : decode cX11_post 80 = .ok (.aload_n 0, 1) := by decide +kernel
theorem dX11_post_81 : decode cX11_post 81 = .ok (.getfield 21, 3) := by decide +kernel
theorem dX11_post_84 : decode cX11_post 84 = .ok (.iload_n 1, 1) := by decide +kernel
theorem dX11_post_85 : decode cX11_post 85 = .ok (.iload_n 2, 1) := by decide +kernel
theorem dX11_post_86 : decode cX11_post 86 = .ok (.iload_n 3, 1) := by decide +kernel
theorem dX11_post_87 : decode cX11_post 87 = .ok (.invokevirtual 159, 3) := by decide +kernel
theorem dX11_post_90 : decode cX11_post 90 = .ok (.ireturn, 1) := by decide +kernel
theorem dX11_isParty_0 : decode cX11_isParty 0 = .ok (.iload_n 1, 1) := by decide +kernel
theorem dX11_isParty_1 : decode cX11_isParty 1 = .ok (.iconst (-1), 1) := by decide +kernel
theorem dX11_isParty_2 : decode cX11_isParty 2 = .ok (.if_icmp .eq 14, 3) := by decide +kernel
theorem dX11_isParty_5 : decode cX11_isParty 5 = .ok (.aload_n 0, 1) := by decide +kernel
theorem dX11_isParty_6 : decode cX11_isParty 6 = .ok (.getfield 10, 3) := by decide +kernel
theorem dX11_isParty_9 : decode cX11_isParty 9 = .ok (.iload_n 1, 1) := by decide +kernel
theorem dX11_isParty_10 : decode cX11_isParty 10 = .ok (.invokevirtual 224, 3) := by decide +kernel
theorem dX11_isParty_13 : decode cX11_isParty 13 = .ok (.ifCond .eq 7, 3) := by decide +kernel
theorem dX11_isParty_16 : decode cX11_isParty 16 = .ok (.iconst 1, 1) := by decide +kernel
theorem dX11_isParty_17 : decode cX11_isParty 17 = .ok (.goto 4, 3) := by decide +kernel
theorem dX11_isParty_20 : decode cX11_isParty 20 = .ok (.iconst 0, 1) := by decide +kernel
theorem dX11_isParty_21 : decode cX11_isParty 21 = .ok (.ireturn, 1) := by decide +kernel
theorem dX11_kill_0 : decode cX11_kill 0 = .ok (.aload_n 0, 1) := by decide +kernel
theorem dX11_kill_1 : decode cX11_kill 1 = .ok (.getfield 10, 3) := by decide +kernel
theorem dX11_kill_4 : decode cX11_kill 4 = .ok (.iload_n 1, 1) := by decide +kernel
theorem dX11_kill_5 : decode cX11_kill 5 = .ok (.invokevirtual 224, 3) := by decide +kernel
theorem dX11_kill_8 : decode cX11_kill 8 = .ok (.ifCond .ne 11, 3) := by decide +kernel
theorem dX11_kill_11 : decode cX11_kill 11 = .ok (.new 227, 3) := by decide +kernel
theorem dX11_kill_14 : decode cX11_kill 14 = .ok (.dup, 1) := by decide +kernel
theorem dX11_kill_15 : decode cX11_kill 15 = .ok (.invokespecial 229, 3) := by decide +kernel
theorem dX11_kill_18 : decode cX11_kill 18 = .ok (.athrow, 1) := by decide +kernel
theorem dX11_kill_19 : decode cX11_kill 19 = .ok (.aload_n 0, 1) := by decide +kernel
theorem dX11_kill_20 : decode cX11_kill 20 = .ok (.getfield 46, 3) := by decide +kernel
theorem dX11_kill_23 : decode cX11_kill 23 = .ok (.aload_n 0, 1) := by decide +kernel
theorem dX11_kill_24 : decode cX11_kill 24 = .ok (.getfield 21, 3) := by decide +kernel
theorem dX11_kill_27 : decode cX11_kill 27 = .ok (.invokevirtual 130, 3) := by decide +kernel
theorem dX11_kill_30 : decode cX11_kill 30 = .ok (.aload_n 0, 1) := by decide +kernel
theorem dX11_kill_31 : decode cX11_kill 31 = .ok (.getfield 21, 3) := by decide +kernel
theorem dX11_kill_34 : decode cX11_kill 34 = .ok (.iload_n 1, 1) := by decide +kernel
theorem dX11_kill_35 : decode cX11_kill 35 = .ok (.iconst 0, 1) := by decide +kernel
theorem dX11_kill_36 : decode cX11_kill 36 = .ok (.invokevirtual 163, 3) := by decide +kernel
theorem dX11_kill_39 : decode cX11_kill 39 = .ok (.ireturn, 1) := by decide +kernel
theorem dX11_wake_0 : decode cX11_wake 0 = .ok (.aload_n 0, 1) := by decide +kernel
theorem dX11_wake_1 : decode cX11_wake 1 = .ok (.getfield 10, 3) := by decide +kernel
theorem dX11_wake_4 : decode cX11_wake 4 = .ok (.iload_n 1, 1) := by decide +kernel
theorem dX11_wake_5 : decode cX11_wake 5 = .ok (.invokevirtual 224, 3) := by decide +kernel
theorem dX11_wake_8 : decode cX11_wake 8 = .ok (.ifCond .ne 11, 3) := by decide +kernel
theorem dX11_wake_11 : decode cX11_wake 11 = .ok (.new 227, 3) := by decide +kernel
theorem dX11_wake_14 : decode cX11_wake 14 = .ok (.dup, 1) := by decide +kernel
theorem dX11_wake_15 : decode cX11_wake 15 = .ok (.invokespecial 229, 3) := by decide +kernel
theorem dX11_wake_18 : decode cX11_wake 18 = .ok (.athrow, 1) := by decide +kernel
theorem dX11_wake_19 : decode cX11_wake 19 = .ok (.aload_n 0, 1) := by decide +kernel
theorem dX11_wake_20 : decode cX11_wake 20 = .ok (.getfield 46, 3) := by decide +kernel
theorem dX11_wake_23 : decode cX11_wake 23 = .ok (.aload_n 0, 1) := by decide +kernel
theorem dX11_wake_24 : decode cX11_wake 24 = .ok (.getfield 21, 3) := by decide +kernel
theorem dX11_wake_27 : decode cX11_wake 27 = .ok (.invokevirtual 130, 3) := by decide +kernel
theorem dX11_wake_30 : decode cX11_wake 30 = .ok (.aload_n 0, 1) := by decide +kernel
theorem dX11_wake_31 : decode cX11_wake 31 = .ok (.getfield 21, 3) := by decide +kernel
theorem dX11_wake_34 : decode cX11_wake 34 = .ok (.iload_n 1, 1) := by decide +kernel
theorem dX11_wake_35 : decode cX11_wake 35 = .ok (.iconst 1, 1) := by decide +kernel
theorem dX11_wake_36 : decode cX11_wake 36 = .ok (.invokevirtual 163, 3) := by decide +kernel
theorem dX11_wake_39 : decode cX11_wake 39 = .ok (.ireturn, 1) := by decide +kernel
theorem dX11_run_0 : decode cX11_run 0 = .ok (.iload_n 1, 1) := by decide +kernel
theorem dX11_run_1 : decode cX11_run 1 = .ok (.iconst 1, 1) := by decide +kernel
theorem dX11_run_2 : decode cX11_run 2 = .ok (.if_icmp .lt 24, 3) := by decide +kernel
theorem dX11_run_5 : decode cX11_run 5 = .ok (.iload_n 1, 1) := by decide +kernel
theorem dX11_run_6 : decode cX11_run 6 = .ok (.bipush 100, 2) := by decide +kernel
theorem dX11_run_8 : decode cX11_run 8 = .ok (.if_icmp .gt 18, 3) := by decide +kernel
theorem dX11_run_11 : decode cX11_run 11 = .ok (.aload_n 0, 1) := by decide +kernel
theorem dX11_run_12 : decode cX11_run 12 = .ok (.getfield 21, 3) := by decide +kernel
theorem dX11_run_15 : decode cX11_run 15 = .ok (.getfield 167, 3) := by decide +kernel
theorem dX11_run_18 : decode cX11_run 18 = .ok (.iload_n 1, 1) := by decide +kernel
theorem dX11_run_19 : decode cX11_run 19 = .ok (.iadd, 1) := by decide +kernel
theorem dX11_run_20 : decode cX11_run 20 = .ok (.sipush 9999, 3) := by decide +kernel
theorem dX11_run_23 : decode cX11_run 23 = .ok (.if_icmp .le 11, 3) := by decide +kernel
theorem dX11_run_26 : decode cX11_run 26 = .ok (.new 215, 3) := by decide +kernel
theorem dX11_run_29 : decode cX11_run 29 = .ok (.dup, 1) := by decide +kernel
theorem dX11_run_30 : decode cX11_run 30 = .ok (.invokespecial 217, 3) := by decide +kernel
theorem dX11_run_33 : decode cX11_run 33 = .ok (.athrow, 1) := by decide +kernel
theorem dX11_run_34 : decode cX11_run 34 = .ok (.aload_n 0, 1) := by decide +kernel
theorem dX11_run_35 : decode cX11_run 35 = .ok (.getfield 46, 3) := by decide +kernel
theorem dX11_run_38 : decode cX11_run 38 = .ok (.aload_n 0, 1) := by decide +kernel
theorem dX11_run_39 : decode cX11_run 39 = .ok (.getfield 21, 3) := by decide +kernel
theorem dX11_run_42 : decode cX11_run 42 = .ok (.invokevirtual 130, 3) := by decide +kernel
theorem dX11_run_45 : decode cX11_run 45 = .ok (.aload_n 0, 1) := by decide +kernel
theorem dX11_run_46 : decode cX11_run 46 = .ok (.getfield 21, 3) := by decide +kernel
theorem dX11_run_49 : decode cX11_run 49 = .ok (.invokevirtual 324, 3) := by decide +kernel
theorem dX11_run_52 : decode cX11_run 52 = .ok (.istore_n 2, 1) := by decide +kernel
theorem dX11_run_53 : decode cX11_run 53 = .ok (.aload_n 0, 1) := by decide +kernel
theorem dX11_run_54 : decode cX11_run 54 = .ok (.getfield 30, 3) := by decide +kernel
theorem dX11_run_57 : decode cX11_run 57 = .ok (.iload_n 1, 1) := by decide +kernel
theorem dX11_run_58 : decode cX11_run 58 = .ok (.invokevirtual 170, 3) := by decide +kernel
theorem dX11_run_61 : decode cX11_run 61 = .ok (.aload_n 0, 1) := by decide +kernel
theorem dX11_run_62 : decode cX11_run 62 = .ok (.getfield 21, 3) := by decide +kernel
theorem dX11_run_65 : decode cX11_run 65 = .ok (.invokevirtual 324, 3) := by decide +kernel
theorem dX11_run_68 : decode cX11_run 68 = .ok (.iload_n 2, 1) := by decide +kernel
theorem dX11_run_69 : decode cX11_run 69 = .ok (.isub, 1) := by decide +kernel
theorem dX11_run_70 : decode cX11_run 70 = .ok (.ireturn, 1) := by decide +kernel
theorem dX11_addPlace_0 : decode cX11_addPlace 0 = .ok (.aload_n 0, 1) := by decide +kernel
theorem dX11_addPlace_1 : decode cX11_addPlace 1 = .ok (.getfield 10, 3) := by decide +kernel
theorem dX11_addPlace_4 : decode cX11_addPlace 4 = .ok (.iload_n 1, 1) := by decide +kernel
theorem dX11_addPlace_5 : decode cX11_addPlace 5 = .ok (.invokevirtual 224, 3) := by decide +kernel
theorem dX11_addPlace_8 : decode cX11_addPlace 8 = .ok (.ifCond .ne 11, 3) := by decide +kernel
theorem dX11_addPlace_11 : decode cX11_addPlace 11 = .ok (.new 227, 3) := by decide +kernel
theorem dX11_addPlace_14 : decode cX11_addPlace 14 = .ok (.dup, 1) := by decide +kernel
theorem dX11_addPlace_15 : decode cX11_addPlace 15 = .ok (.invokespecial 229, 3) := by decide +kernel
theorem dX11_addPlace_18 : decode cX11_addPlace 18 = .ok (.athrow, 1) := by decide +kernel
theorem dX11_addPlace_19 : decode cX11_addPlace 19 = .ok (.aload_n 0, 1) := by decide +kernel
theorem dX11_addPlace_20 : decode cX11_addPlace 20 = .ok (.getfield 21, 3) := by decide +kernel
theorem dX11_addPlace_23 : decode cX11_addPlace 23 = .ok (.getfield 173, 3) := by decide +kernel
theorem dX11_addPlace_26 : decode cX11_addPlace 26 = .ok (.bipush 16, 2) := by decide +kernel
theorem dX11_addPlace_28 : decode cX11_addPlace 28 = .ok (.if_icmp .lt 11, 3) := by decide +kernel
theorem dX11_addPlace_31 : decode cX11_addPlace 31 = .ok (.new 348, 3) := by decide +kernel
theorem dX11_addPlace_34 : decode cX11_addPlace 34 = .ok (.dup, 1) := by decide +kernel
theorem dX11_addPlace_35 : decode cX11_addPlace 35 = .ok (.invokespecial 350, 3) := by decide +kernel
theorem dX11_addPlace_38 : decode cX11_addPlace 38 = .ok (.athrow, 1) := by decide +kernel
theorem dX11_addPlace_39 : decode cX11_addPlace 39 = .ok (.aload_n 0, 1) := by decide +kernel
theorem dX11_addPlace_40 : decode cX11_addPlace 40 = .ok (.getfield 46, 3) := by decide +kernel
theorem dX11_addPlace_43 : decode cX11_addPlace 43 = .ok (.aload_n 0, 1) := by decide +kernel
theorem dX11_addPlace_44 : decode cX11_addPlace 44 = .ok (.getfield 21, 3) := by decide +kernel
theorem dX11_addPlace_47 : decode cX11_addPlace 47 = .ok (.invokevirtual 130, 3) := by decide +kernel
theorem dX11_addPlace_50 : decode cX11_addPlace 50 = .ok (.aload_n 0, 1) := by decide +kernel
theorem dX11_addPlace_51 : decode cX11_addPlace 51 = .ok (.getfield 21, 3) := by decide +kernel
theorem dX11_addPlace_54 : decode cX11_addPlace 54 = .ok (.iload_n 1, 1) := by decide +kernel
theorem dX11_addPlace_55 : decode cX11_addPlace 55 = .ok (.invokevirtual 176, 3) := by decide +kernel
theorem dX11_addPlace_58 : decode cX11_addPlace 58 = .ok (.aload_n 0, 1) := by decide +kernel
theorem dX11_addPlace_59 : decode cX11_addPlace 59 = .ok (.getfield 21, 3) := by decide +kernel
theorem dX11_addPlace_62 : decode cX11_addPlace 62 = .ok (.getfield 173, 3) := by decide +kernel
theorem dX11_addPlace_65 : decode cX11_addPlace 65 = .ok (.ireturn, 1) := by decide +kernel
theorem dX11_dropPlace_0 : decode cX11_dropPlace 0 = .ok (.aload_n 0, 1) := by decide +kernel
theorem dX11_dropPlace_1 : decode cX11_dropPlace 1 = .ok (.getfield 21, 3) := by decide +kernel
theorem dX11_dropPlace_4 : decode cX11_dropPlace 4 = .ok (.iload_n 1, 1) := by decide +kernel
theorem dX11_dropPlace_5 : decode cX11_dropPlace 5 = .ok (.invokevirtual 297, 3) := by decide +kernel
theorem dX11_dropPlace_8 : decode cX11_dropPlace 8 = .ok (.ifCond .ne 11, 3) := by decide +kernel
theorem dX11_dropPlace_11 : decode cX11_dropPlace 11 = .ok (.new 227, 3) := by decide +kernel
theorem dX11_dropPlace_14 : decode cX11_dropPlace 14 = .ok (.dup, 1) := by decide +kernel
theorem dX11_dropPlace_15 : decode cX11_dropPlace 15 = .ok (.invokespecial 229, 3) := by decide +kernel
theorem dX11_dropPlace_18 : decode cX11_dropPlace 18 = .ok (.athrow, 1) := by decide +kernel
theorem dX11_dropPlace_19 : decode cX11_dropPlace 19 = .ok (.aload_n 0, 1) := by decide +kernel
theorem dX11_dropPlace_20 : decode cX11_dropPlace 20 = .ok (.getfield 46, 3) := by decide +kernel
theorem dX11_dropPlace_23 : decode cX11_dropPlace 23 = .ok (.aload_n 0, 1) := by decide +kernel
theorem dX11_dropPlace_24 : decode cX11_dropPlace 24 = .ok (.getfield 21, 3) := by decide +kernel
theorem dX11_dropPlace_27 : decode cX11_dropPlace 27 = .ok (.invokevirtual 130, 3) := by decide +kernel
theorem dX11_dropPlace_30 : decode cX11_dropPlace 30 = .ok (.aload_n 0, 1) := by decide +kernel
theorem dX11_dropPlace_31 : decode cX11_dropPlace 31 = .ok (.getfield 21, 3) := by decide +kernel
theorem dX11_dropPlace_34 : decode cX11_dropPlace 34 = .ok (.getfield 300, 3) := by decide +kernel
theorem dX11_dropPlace_37 : decode cX11_dropPlace 37 = .ok (.iload_n 1, 1) := by decide +kernel
theorem dX11_dropPlace_38 : decode cX11_dropPlace 38 = .ok (.iaload, 1) := by decide +kernel
theorem dX11_dropPlace_39 : decode cX11_dropPlace 39 = .ok (.istore_n 2, 1) := by decide +kernel
theorem dX11_dropPlace_40 : decode cX11_dropPlace 40 = .ok (.aload_n 0, 1) := by decide +kernel
theorem dX11_dropPlace_41 : decode cX11_dropPlace 41 = .ok (.getfield 21, 3) := by decide +kernel
theorem dX11_dropPlace_44 : decode cX11_dropPlace 44 = .ok (.iload_n 1, 1) := by decide +kernel
theorem dX11_dropPlace_45 : decode cX11_dropPlace 45 = .ok (.invokevirtual 179, 3) := by decide +kernel
theorem dX11_dropPlace_48 : decode cX11_dropPlace 48 = .ok (.iload_n 2, 1) := by decide +kernel
theorem dX11_dropPlace_49 : decode cX11_dropPlace 49 = .ok (.ireturn, 1) := by decide +kernel
theorem dX11_set_0 : decode cX11_set 0 = .ok (.iload_n 1, 1) := by decide +kernel
theorem dX11_set_1 : decode cX11_set 1 = .ok (.ifCond .lt 27, 3) := by decide +kernel
theorem dX11_set_4 : decode cX11_set 4 = .ok (.iload_n 1, 1) := by decide +kernel
theorem dX11_set_5 : decode cX11_set 5 = .ok (.bipush 6, 2) := by decide +kernel
theorem dX11_set_7 : decode cX11_set 7 = .ok (.if_icmp .ge 21, 3) := by decide +kernel
theorem dX11_set_10 : decode cX11_set 10 = .ok (.iload_n 2, 1) := by decide +kernel
theorem dX11_set_11 : decode cX11_set 11 = .ok (.getstatic 330, 3) := by decide +kernel
theorem dX11_set_14 : decode cX11_set 14 = .ok (.iload_n 1, 1) := by decide +kernel
theorem dX11_set_15 : decode cX11_set 15 = .ok (.iaload, 1) := by decide +kernel
theorem dX11_set_16 : decode cX11_set 16 = .ok (.if_icmp .lt 12, 3) := by decide +kernel
theorem dX11_set_19 : decode cX11_set 19 = .ok (.iload_n 2, 1) := by decide +kernel
theorem dX11_set_20 : decode cX11_set 20 = .ok (.getstatic 333, 3) := by decide +kernel
theorem dX11_set_23 : decode cX11_set 23 = .ok (.iload_n 1, 1) := by decide +kernel
theorem dX11_set_24 : decode cX11_set 24 = .ok (.iaload, 1) := by decide +kernel
theorem dX11_set_25 : decode cX11_set 25 = .ok (.if_icmp .le 11, 3) := by decide +kernel
theorem dX11_set_28 : decode cX11_set 28 = .ok (.new 215, 3) := by decide +kernel
theorem dX11_set_31 : decode cX11_set 31 = .ok (.dup, 1) := by decide +kernel
theorem dX11_set_32 : decode cX11_set 32 = .ok (.invokespecial 217, 3) := by decide +kernel
theorem dX11_set_35 : decode cX11_set 35 = .ok (.athrow, 1) := by decide +kernel
theorem dX11_set_36 : decode cX11_set 36 = .ok (.aload_n 0, 1) := by decide +kernel
theorem dX11_set_37 : decode cX11_set 37 = .ok (.getfield 46, 3) := by decide +kernel
theorem dX11_set_40 : decode cX11_set 40 = .ok (.aload_n 0, 1) := by decide +kernel
theorem dX11_set_41 : decode cX11_set 41 = .ok (.getfield 21, 3) := by decide +kernel
theorem dX11_set_44 : decode cX11_set 44 = .ok (.invokevirtual 130, 3) := by decide +kernel
theorem dX11_set_47 : decode cX11_set 47 = .ok (.aload_n 0, 1) := by decide +kernel
theorem dX11_set_48 : decode cX11_set 48 = .ok (.getfield 21, 3) := by decide +kernel
theorem dX11_set_51 : decode cX11_set 51 = .ok (.getfield 221, 3) := by decide +kernel
theorem dX11_set_54 : decode cX11_set 54 = .ok (.iload_n 1, 1) := by decide +kernel
theorem dX11_set_55 : decode cX11_set 55 = .ok (.iaload, 1) := by decide +kernel
theorem dX11_set_56 : decode cX11_set 56 = .ok (.istore_n 3, 1) := by decide +kernel
theorem dX11_set_57 : decode cX11_set 57 = .ok (.aload_n 0, 1) := by decide +kernel
theorem dX11_set_58 : decode cX11_set 58 = .ok (.getfield 21, 3) := by decide +kernel
theorem dX11_set_61 : decode cX11_set 61 = .ok (.getfield 221, 3) := by decide +kernel
theorem dX11_set_64 : decode cX11_set 64 = .ok (.iload_n 1, 1) := by decide +kernel
theorem dX11_set_65 : decode cX11_set 65 = .ok (.iload_n 2, 1) := by decide +kernel
theorem dX11_set_66 : decode cX11_set 66 = .ok (.iastore, 1) := by decide +kernel
theorem dX11_set_67 : decode cX11_set 67 = .ok (.iload_n 3, 1) := by decide +kernel
theorem dX11_set_68 : decode cX11_set 68 = .ok (.ireturn, 1) := by decide +kernel
theorem dX11_undo_0 : decode cX11_undo 0 = .ok (.aload_n 0, 1) := by decide +kernel
theorem dX11_undo_1 : decode cX11_undo 1 = .ok (.getfield 46, 3) := by decide +kernel
theorem dX11_undo_4 : decode cX11_undo 4 = .ok (.getfield 128, 3) := by decide +kernel
theorem dX11_undo_7 : decode cX11_undo 7 = .ok (.ifCond .ne 11, 3) := by decide +kernel
theorem dX11_undo_10 : decode cX11_undo 10 = .ok (.new 351, 3) := by decide +kernel
theorem dX11_undo_13 : decode cX11_undo 13 = .ok (.dup, 1) := by decide +kernel
theorem dX11_undo_14 : decode cX11_undo 14 = .ok (.invokespecial 353, 3) := by decide +kernel
theorem dX11_undo_17 : decode cX11_undo 17 = .ok (.athrow, 1) := by decide +kernel
theorem dX11_undo_18 : decode cX11_undo 18 = .ok (.aload_n 0, 1) := by decide +kernel
theorem dX11_undo_19 : decode cX11_undo 19 = .ok (.getfield 46, 3) := by decide +kernel
theorem dX11_undo_22 : decode cX11_undo 22 = .ok (.aload_n 0, 1) := by decide +kernel
theorem dX11_undo_23 : decode cX11_undo 23 = .ok (.getfield 21, 3) := by decide +kernel
theorem dX11_undo_26 : decode cX11_undo 26 = .ok (.invokevirtual 354, 3) := by decide +kernel
theorem dX11_undo_29 : decode cX11_undo 29 = .ok (.aload_n 0, 1) := by decide +kernel
theorem dX11_undo_30 : decode cX11_undo 30 = .ok (.getfield 46, 3) := by decide +kernel
theorem dX11_undo_33 : decode cX11_undo 33 = .ok (.getfield 128, 3) := by decide +kernel
theorem dX11_undo_36 : decode cX11_undo 36 = .ok (.ireturn, 1) := by decide +kernel
theorem dX11_printTerminals_0 : decode cX11_printTerminals 0 = .ok (.aload_n 0, 1) := by decide +kernel
theorem dX11_printTerminals_1 : decode cX11_printTerminals 1 = .ok (.iconst 0, 1) := by decide +kernel
theorem dX11_printTerminals_2 : decode cX11_printTerminals 2 = .ok (.putfield 79, 3) := by decide +kernel
theorem dX11_printTerminals_5 : decode cX11_printTerminals 5 = .ok (.iconst 0, 1) := by decide +kernel
theorem dX11_printTerminals_6 : decode cX11_printTerminals 6 = .ok (.istore_n 1, 1) := by decide +kernel
theorem dX11_printTerminals_7 : decode cX11_printTerminals 7 = .ok (.iload_n 1, 1) := by decide +kernel
theorem dX11_printTerminals_8 : decode cX11_printTerminals 8 = .ok (.aload_n 0, 1) := by decide +kernel
theorem dX11_printTerminals_9 : decode cX11_printTerminals 9 = .ok (.getfield 10, 3) := by decide +kernel
theorem dX11_printTerminals_12 : decode cX11_printTerminals 12 = .ok (.getfield 115, 3) := by decide +kernel
theorem dX11_printTerminals_15 : decode cX11_printTerminals 15 = .ok (.if_icmp .ge 110, 3) := by decide +kernel
theorem dX11_printTerminals_18 : decode cX11_printTerminals 18 = .ok (.iload_n 1, 1) := by decide +kernel
theorem dX11_printTerminals_19 : decode cX11_printTerminals 19 = .ok (.ifCond .le 9, 3) := by decide +kernel
theorem dX11_printTerminals_22 : decode cX11_printTerminals 22 = .ok (.aload_n 0, 1) := by decide +kernel
theorem dX11_printTerminals_23 : decode cX11_printTerminals 23 = .ok (.bipush 32, 2) := by decide +kernel
theorem dX11_printTerminals_25 : decode cX11_printTerminals 25 = .ok (.invokevirtual 357, 3) := by decide +kernel
theorem dX11_printTerminals_28 : decode cX11_printTerminals 28 = .ok (.aload_n 0, 1) := by decide +kernel
theorem dX11_printTerminals_29 : decode cX11_printTerminals 29 = .ok (.iload_n 1, 1) := by decide +kernel
theorem dX11_printTerminals_30 : decode cX11_printTerminals 30 = .ok (.invokevirtual 360, 3) := by decide +kernel
theorem dX11_printTerminals_33 : decode cX11_printTerminals 33 = .ok (.aload_n 0, 1) := by decide +kernel
theorem dX11_printTerminals_34 : decode cX11_printTerminals 34 = .ok (.getfield 21, 3) := by decide +kernel
theorem dX11_printTerminals_37 : decode cX11_printTerminals 37 = .ok (.getfield 199, 3) := by decide +kernel
theorem dX11_printTerminals_40 : decode cX11_printTerminals 40 = .ok (.getfield 203, 3) := by decide +kernel
theorem dX11_printTerminals_43 : decode cX11_printTerminals 43 = .ok (.iload_n 1, 1) := by decide +kernel
theorem dX11_printTerminals_44 : decode cX11_printTerminals 44 = .ok (.iaload, 1) := by decide +kernel
theorem dX11_printTerminals_45 : decode cX11_printTerminals 45 = .ok (.ifCond .ne 9, 3) := by decide +kernel
theorem dX11_printTerminals_48 : decode cX11_printTerminals 48 = .ok (.aload_n 0, 1) := by decide +kernel
theorem dX11_printTerminals_49 : decode cX11_printTerminals 49 = .ok (.bipush 45, 2) := by decide +kernel
theorem dX11_printTerminals_51 : decode cX11_printTerminals 51 = .ok (.invokevirtual 357, 3) := by decide +kernel
theorem dX11_printTerminals_54 : decode cX11_printTerminals 54 = .ok (.aload_n 0, 1) := by decide +kernel
theorem dX11_printTerminals_55 : decode cX11_printTerminals 55 = .ok (.getfield 21, 3) := by decide +kernel
theorem dX11_printTerminals_58 : decode cX11_printTerminals 58 = .ok (.getfield 199, 3) := by decide +kernel
theorem dX11_printTerminals_61 : decode cX11_printTerminals 61 = .ok (.getfield 212, 3) := by decide +kernel
theorem dX11_printTerminals_64 : decode cX11_printTerminals 64 = .ok (.iload_n 1, 1) := by decide +kernel
theorem dX11_printTerminals_65 : decode cX11_printTerminals 65 = .ok (.iaload, 1) := by decide +kernel
theorem dX11_printTerminals_66 : decode cX11_printTerminals 66 = .ok (.ifCond .ne 9, 3) := by decide +kernel
theorem dX11_printTerminals_69 : decode cX11_printTerminals 69 = .ok (.aload_n 0, 1) := by decide +kernel
theorem dX11_printTerminals_70 : decode cX11_printTerminals 70 = .ok (.bipush 120, 2) := by decide +kernel
theorem dX11_printTerminals_72 : decode cX11_printTerminals 72 = .ok (.invokevirtual 357, 3) := by decide +kernel
theorem dX11_printTerminals_75 : decode cX11_printTerminals 75 = .ok (.iconst 0, 1) := by decide +kernel
theorem dX11_printTerminals_76 : decode cX11_printTerminals 76 = .ok (.istore_n 2, 1) := by decide +kernel
theorem dX11_printTerminals_77 : decode cX11_printTerminals 77 = .ok (.iload_n 2, 1) := by decide +kernel
theorem dX11_printTerminals_78 : decode cX11_printTerminals 78 = .ok (.iconst 3, 1) := by decide +kernel
theorem dX11_printTerminals_79 : decode cX11_printTerminals 79 = .ok (.if_icmp .ge 40, 3) := by decide +kernel
theorem dX11_printTerminals_82 : decode cX11_printTerminals 82 = .ok (.aload_n 0, 1) := by decide +kernel
theorem dX11_printTerminals_83 : decode cX11_printTerminals 83 = .ok (.iload_n 2, 1) := by decide +kernel
theorem dX11_printTerminals_84 : decode cX11_printTerminals 84 = .ok (.ifCond .ne 8, 3) := by decide +kernel
theorem dX11_printTerminals_87 : decode cX11_printTerminals 87 = .ok (.bipush 58, 2) := by decide +kernel
theorem dX11_printTerminals_89 : decode cX11_printTerminals 89 = .ok (.goto 5, 3) := by decide +kernel
theorem dX11_printTerminals_92 : decode cX11_printTerminals 92 = .ok (.bipush 47, 2) := by decide +kernel
theorem dX11_printTerminals_94 : decode cX11_printTerminals 94 = .ok (.invokevirtual 357, 3) := by decide +kernel
theorem dX11_printTerminals_97 : decode cX11_printTerminals 97 = .ok (.aload_n 0, 1) := by decide +kernel
theorem dX11_printTerminals_98 : decode cX11_printTerminals 98 = .ok (.aload_n 0, 1) := by decide +kernel
theorem dX11_printTerminals_99 : decode cX11_printTerminals 99 = .ok (.getfield 21, 3) := by decide +kernel
theorem dX11_printTerminals_102 : decode cX11_printTerminals 102 = .ok (.getfield 242, 3) := by decide +kernel
theorem dX11_printTerminals_105 : decode cX11_printTerminals 105 = .ok (.iload_n 2, 1) := by decide +kernel
theorem dX11_printTerminals_106 : decode cX11_printTerminals 106 = .ok (.iload_n 1, 1) := by decide +kernel
theorem dX11_printTerminals_107 : decode cX11_printTerminals 107 = .ok (.invokevirtual 246, 3) := by decide +kernel
theorem dX11_printTerminals_110 : decode cX11_printTerminals 110 = .ok (.invokevirtual 363, 3) := by decide +kernel
theorem dX11_printTerminals_113 : decode cX11_printTerminals 113 = .ok (.iinc 2 1, 3) := by decide +kernel
theorem dX11_printTerminals_116 : decode cX11_printTerminals 116 = .ok (.goto (-39), 3) := by decide +kernel
theorem dX11_printTerminals_119 : decode cX11_printTerminals 119 = .ok (.iinc 1 1, 3) := by decide +kernel
theorem dX11_printTerminals_122 : decode cX11_printTerminals 122 = .ok (.goto (-115), 3) := by decide +kernel
theorem dX11_printTerminals_125 : decode cX11_printTerminals 125 = .ok (.aload_n 0, 1) := by decide +kernel
theorem dX11_printTerminals_126 : decode cX11_printTerminals 126 = .ok (.getfield 79, 3) := by decide +kernel
theorem dX11_printTerminals_129 : decode cX11_printTerminals 129 = .ok (.ireturn, 1) := by decide +kernel
theorem dX11_printList_0 : decode cX11_printList 0 = .ok (.aload_n 0, 1) := by decide +kernel
theorem dX11_printList_1 : decode cX11_printList 1 = .ok (.iconst 0, 1) := by decide +kernel
theorem dX11_printList_2 : decode cX11_printList 2 = .ok (.putfield 79, 3) := by decide +kernel
theorem dX11_printList_5 : decode cX11_printList 5 = .ok (.iconst 0, 1) := by decide +kernel
theorem dX11_printList_6 : decode cX11_printList 6 = .ok (.istore_n 1, 1) := by decide +kernel
theorem dX11_printList_7 : decode cX11_printList 7 = .ok (.iload_n 1, 1) := by decide +kernel
theorem dX11_printList_8 : decode cX11_printList 8 = .ok (.aload_n 0, 1) := by decide +kernel
theorem dX11_printList_9 : decode cX11_printList 9 = .ok (.getfield 21, 3) := by decide +kernel
theorem dX11_printList_12 : decode cX11_printList 12 = .ok (.getfield 173, 3) := by decide +kernel
theorem dX11_printList_15 : decode cX11_printList 15 = .ok (.if_icmp .ge 32, 3) := by decide +kernel
theorem dX11_printList_18 : decode cX11_printList 18 = .ok (.iload_n 1, 1) := by decide +kernel
theorem dX11_printList_19 : decode cX11_printList 19 = .ok (.ifCond .le 9, 3) := by decide +kernel
theorem dX11_printList_22 : decode cX11_printList 22 = .ok (.aload_n 0, 1) := by decide +kernel
theorem dX11_printList_23 : decode cX11_printList 23 = .ok (.bipush 32, 2) := by decide +kernel
theorem dX11_printList_25 : decode cX11_printList 25 = .ok (.invokevirtual 357, 3) := by decide +kernel
theorem dX11_printList_28 : decode cX11_printList 28 = .ok (.aload_n 0, 1) := by decide +kernel
theorem dX11_printList_29 : decode cX11_printList 29 = .ok (.aload_n 0, 1) := by decide +kernel
theorem dX11_printList_30 : decode cX11_printList 30 = .ok (.getfield 21, 3) := by decide +kernel
theorem dX11_printList_33 : decode cX11_printList 33 = .ok (.getfield 300, 3) := by decide +kernel
theorem dX11_printList_36 : decode cX11_printList 36 = .ok (.iload_n 1, 1) := by decide +kernel
theorem dX11_printList_37 : decode cX11_printList 37 = .ok (.iaload, 1) := by decide +kernel
theorem dX11_printList_38 : decode cX11_printList 38 = .ok (.invokevirtual 360, 3) := by decide +kernel
theorem dX11_printList_41 : decode cX11_printList 41 = .ok (.iinc 1 1, 3) := by decide +kernel
theorem dX11_printList_44 : decode cX11_printList 44 = .ok (.goto (-37), 3) := by decide +kernel
theorem dX11_printList_47 : decode cX11_printList 47 = .ok (.aload_n 0, 1) := by decide +kernel
theorem dX11_printList_48 : decode cX11_printList 48 = .ok (.getfield 79, 3) := by decide +kernel
theorem dX11_printList_51 : decode cX11_printList 51 = .ok (.ireturn, 1) := by decide +kernel
theorem dX11_writeName_0 : decode cX11_writeName 0 = .ok (.iconst 0, 1) := by decide +kernel
theorem dX11_writeName_1 : decode cX11_writeName 1 = .ok (.istore_n 2, 1) := by decide +kernel
theorem dX11_writeName_2 : decode cX11_writeName 2 = .ok (.iload_n 2, 1) := by decide +kernel
theorem dX11_writeName_3 : decode cX11_writeName 3 = .ok (.bipush 6, 2) := by decide +kernel
theorem dX11_writeName_5 : decode cX11_writeName 5 = .ok (.if_icmp .ge 33, 3) := by decide +kernel
theorem dX11_writeName_8 : decode cX11_writeName 8 = .ok (.aload_n 0, 1) := by decide +kernel
theorem dX11_writeName_9 : decode cX11_writeName 9 = .ok (.getfield 10, 3) := by decide +kernel
theorem dX11_writeName_12 : decode cX11_writeName 12 = .ok (.iload_n 1, 1) := by decide +kernel
theorem dX11_writeName_13 : decode cX11_writeName 13 = .ok (.iload_n 2, 1) := by decide +kernel
theorem dX11_writeName_14 : decode cX11_writeName 14 = .ok (.invokevirtual 266, 3) := by decide +kernel
theorem dX11_writeName_17 : decode cX11_writeName 17 = .ok (.istore_n 3, 1) := by decide +kernel
theorem dX11_writeName_18 : decode cX11_writeName 18 = .ok (.iload_n 3, 1) := by decide +kernel
theorem dX11_writeName_19 : decode cX11_writeName 19 = .ok (.ifCond .le 13, 3) := by decide +kernel
theorem dX11_writeName_22 : decode cX11_writeName 22 = .ok (.aload_n 0, 1) := by decide +kernel
theorem dX11_writeName_23 : decode cX11_writeName 23 = .ok (.bipush 97, 2) := by decide +kernel
theorem dX11_writeName_25 : decode cX11_writeName 25 = .ok (.iload_n 3, 1) := by decide +kernel
theorem dX11_writeName_26 : decode cX11_writeName 26 = .ok (.iadd, 1) := by decide +kernel
theorem dX11_writeName_27 : decode cX11_writeName 27 = .ok (.iconst 1, 1) := by decide +kernel
theorem dX11_writeName_28 : decode cX11_writeName 28 = .ok (.isub, 1) := by decide +kernel
theorem dX11_writeName_29 : decode cX11_writeName 29 = .ok (.invokevirtual 357, 3) := by decide +kernel
theorem dX11_writeName_32 : decode cX11_writeName 32 = .ok (.iinc 2 1, 3) := by decide +kernel
theorem dX11_writeName_35 : decode cX11_writeName 35 = .ok (.goto (-33), 3) := by decide +kernel
theorem dX11_writeName_38 : decode cX11_writeName 38 = .ok (.return_, 1) := by decide +kernel
theorem dX11_writeNumber_0 : decode cX11_writeNumber 0 = .ok (.iload_n 1, 1) := by decide +kernel
theorem dX11_writeNumber_1 : decode cX11_writeNumber 1 = .ok (.bipush 10, 2) := by decide +kernel
theorem dX11_writeNumber_3 : decode cX11_writeNumber 3 = .ok (.if_icmp .lt 14, 3) := by decide +kernel
theorem dX11_writeNumber_6 : decode cX11_writeNumber 6 = .ok (.aload_n 0, 1) := by decide +kernel
theorem dX11_writeNumber_7 : decode cX11_writeNumber 7 = .ok (.bipush 48, 2) := by decide +kernel
theorem dX11_writeNumber_9 : decode cX11_writeNumber 9 = .ok (.iload_n 1, 1) := by decide +kernel
theorem dX11_writeNumber_10 : decode cX11_writeNumber 10 = .ok (.bipush 10, 2) := by decide +kernel
theorem dX11_writeNumber_12 : decode cX11_writeNumber 12 = .ok (.idiv, 1) := by decide +kernel
theorem dX11_writeNumber_13 : decode cX11_writeNumber 13 = .ok (.iadd, 1) := by decide +kernel
theorem dX11_writeNumber_14 : decode cX11_writeNumber 14 = .ok (.invokevirtual 357, 3) := by decide +kernel
theorem dX11_writeNumber_17 : decode cX11_writeNumber 17 = .ok (.aload_n 0, 1) := by decide +kernel
theorem dX11_writeNumber_18 : decode cX11_writeNumber 18 = .ok (.bipush 48, 2) := by decide +kernel
theorem dX11_writeNumber_20 : decode cX11_writeNumber 20 = .ok (.iload_n 1, 1) := by decide +kernel
theorem dX11_writeNumber_21 : decode cX11_writeNumber 21 = .ok (.bipush 10, 2) := by decide +kernel
theorem dX11_writeNumber_23 : decode cX11_writeNumber 23 = .ok (.irem, 1) := by decide +kernel
theorem dX11_writeNumber_24 : decode cX11_writeNumber 24 = .ok (.iadd, 1) := by decide +kernel
theorem dX11_writeNumber_25 : decode cX11_writeNumber 25 = .ok (.invokevirtual 357, 3) := by decide +kernel
theorem dX11_writeNumber_28 : decode cX11_writeNumber 28 = .ok (.return_, 1) := by decide +kernel
theorem dX11_writeByte_0 : decode cX11_writeByte 0 = .ok (.aload_n 0, 1) := by decide +kernel
theorem dX11_writeByte_1 : decode cX11_writeByte 1 = .ok (.getfield 79, 3) := by decide +kernel
theorem dX11_writeByte_4 : decode cX11_writeByte 4 = .ok (.sipush 160, 3) := by decide +kernel
theorem dX11_writeByte_7 : decode cX11_writeByte 7 = .ok (.if_icmp .ge 23, 3) := by decide +kernel
theorem dX11_writeByte_10 : decode cX11_writeByte 10 = .ok (.aload_n 0, 1) := by decide +kernel
theorem dX11_writeByte_11 : decode cX11_writeByte 11 = .ok (.getfield 75, 3) := by decide +kernel
theorem dX11_writeByte_14 : decode cX11_writeByte 14 = .ok (.aload_n 0, 1) := by decide +kernel
theorem dX11_writeByte_15 : decode cX11_writeByte 15 = .ok (.getfield 79, 3) := by decide +kernel
theorem dX11_writeByte_18 : decode cX11_writeByte 18 = .ok (.iload_n 1, 1) := by decide +kernel
theorem dX11_writeByte_19 : decode cX11_writeByte 19 = .ok (.iastore, 1) := by decide +kernel
theorem dX11_writeByte_20 : decode cX11_writeByte 20 = .ok (.aload_n 0, 1) := by decide +kernel
theorem dX11_writeByte_21 : decode cX11_writeByte 21 = .ok (.dup, 1) := by decide +kernel
theorem dX11_writeByte_22 : decode cX11_writeByte 22 = .ok (.getfield 79, 3) := by decide +kernel
theorem dX11_writeByte_25 : decode cX11_writeByte 25 = .ok (.iconst 1, 1) := by decide +kernel
theorem dX11_writeByte_26 : decode cX11_writeByte 26 = .ok (.iadd, 1) := by decide +kernel
theorem dX11_writeByte_27 : decode cX11_writeByte 27 = .ok (.putfield 79, 3) := by decide +kernel
theorem dX11_writeByte_30 : decode cX11_writeByte 30 = .ok (.return_, 1) := by decide +kernel
theorem dX11_outputByte_0 : decode cX11_outputByte 0 = .ok (.iload_n 1, 1) := by decide +kernel
theorem dX11_outputByte_1 : decode cX11_outputByte 1 = .ok (.ifCond .lt 11, 3) := by decide +kernel
theorem dX11_outputByte_4 : decode cX11_outputByte 4 = .ok (.iload_n 1, 1) := by decide +kernel
theorem dX11_outputByte_5 : decode cX11_outputByte 5 = .ok (.aload_n 0, 1) := by decide +kernel
theorem dX11_outputByte_6 : decode cX11_outputByte 6 = .ok (.getfield 79, 3) := by decide +kernel
theorem dX11_outputByte_9 : decode cX11_outputByte 9 = .ok (.if_icmp .lt 5, 3) := by decide +kernel
theorem dX11_outputByte_12 : decode cX11_outputByte 12 = .ok (.iconst (-1), 1) := by decide +kernel
theorem dX11_outputByte_13 : decode cX11_outputByte 13 = .ok (.ireturn, 1) := by decide +kernel
theorem dX11_outputByte_14 : decode cX11_outputByte 14 = .ok (.aload_n 0, 1) := by decide +kernel
theorem dX11_outputByte_15 : decode cX11_outputByte 15 = .ok (.getfield 75, 3) := by decide +kernel
theorem dX11_outputByte_18 : decode cX11_outputByte 18 = .ok (.iload_n 1, 1) := by decide +kernel
theorem dX11_outputByte_19 : decode cX11_outputByte 19 = .ok (.iaload, 1) := by decide +kernel
theorem dX11_outputByte_20 : decode cX11_outputByte 20 = .ok (.ireturn, 1) := by decide +kernel
theorem dX11_saveState_0 : decode cX11_saveState 0 = .ok (.aload_n 0, 1) := by decide +kernel
theorem dX11_saveState_1 : decode cX11_saveState 1 = .ok (.getfield 40, 3) := by decide +kernel
theorem dX11_saveState_4 : decode cX11_saveState 4 = .ok (.aload_n 0, 1) := by decide +kernel
theorem dX11_saveState_5 : decode cX11_saveState 5 = .ok (.getfield 21, 3) := by decide +kernel
theorem dX11_saveState_8 : decode cX11_saveState 8 = .ok (.invokevirtual 322, 3) := by decide +kernel
theorem dX11_saveState_11 : decode cX11_saveState 11 = .ok (.aload_n 0, 1) := by decide +kernel
theorem dX11_saveState_12 : decode cX11_saveState 12 = .ok (.iconst 1, 1) := by decide +kernel
theorem dX11_saveState_13 : decode cX11_saveState 13 = .ok (.putfield 83, 3) := by decide +kernel
theorem dX11_saveState_16 : decode cX11_saveState 16 = .ok (.aload_n 0, 1) := by decide +kernel
theorem dX11_saveState_17 : decode cX11_saveState 17 = .ok (.getfield 21, 3) := by decide +kernel
theorem dX11_saveState_20 : decode cX11_saveState 20 = .ok (.getfield 189, 3) := by decide +kernel
theorem dX11_saveState_23 : decode cX11_saveState 23 = .ok (.ireturn, 1) := by decide +kernel
theorem dX11_restoreState_0 : decode cX11_restoreState 0 = .ok (.aload_n 0, 1) := by decide +kernel
theorem dX11_restoreState_1 : decode cX11_restoreState 1 = .ok (.getfield 83, 3) := by decide +kernel
theorem dX11_restoreState_4 : decode cX11_restoreState 4 = .ok (.ifCond .ne 11, 3) := by decide +kernel
theorem dX11_restoreState_7 : decode cX11_restoreState 7 = .ok (.new 351, 3) := by decide +kernel
theorem dX11_restoreState_10 : decode cX11_restoreState 10 = .ok (.dup, 1) := by decide +kernel
theorem dX11_restoreState_11 : decode cX11_restoreState 11 = .ok (.invokespecial 353, 3) := by decide +kernel
theorem dX11_restoreState_14 : decode cX11_restoreState 14 = .ok (.athrow, 1) := by decide +kernel
theorem dX11_restoreState_15 : decode cX11_restoreState 15 = .ok (.aload_n 0, 1) := by decide +kernel
theorem dX11_restoreState_16 : decode cX11_restoreState 16 = .ok (.getfield 21, 3) := by decide +kernel
theorem dX11_restoreState_19 : decode cX11_restoreState 19 = .ok (.aload_n 0, 1) := by decide +kernel
theorem dX11_restoreState_20 : decode cX11_restoreState 20 = .ok (.getfield 40, 3) := by decide +kernel
theorem dX11_restoreState_23 : decode cX11_restoreState 23 = .ok (.invokevirtual 322, 3) := by decide +kernel
theorem dX11_restoreState_26 : decode cX11_restoreState 26 = .ok (.aload_n 0, 1) := by decide +kernel
theorem dX11_restoreState_27 : decode cX11_restoreState 27 = .ok (.getfield 46, 3) := by decide +kernel
theorem dX11_restoreState_30 : decode cX11_restoreState 30 = .ok (.iconst 0, 1) := by decide +kernel
theorem dX11_restoreState_31 : decode cX11_restoreState 31 = .ok (.putfield 128, 3) := by decide +kernel
theorem dX11_restoreState_34 : decode cX11_restoreState 34 = .ok (.aload_n 0, 1) := by decide +kernel
theorem dX11_restoreState_35 : decode cX11_restoreState 35 = .ok (.getfield 21, 3) := by decide +kernel
theorem dX11_restoreState_38 : decode cX11_restoreState 38 = .ok (.getfield 189, 3) := by decide +kernel
theorem dX11_restoreState_41 : decode cX11_restoreState 41 = .ok (.ireturn, 1) := by decide +kernel
