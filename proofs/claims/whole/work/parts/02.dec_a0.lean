theorem dX12_init_0 : decode cX12_init 0 = .ok (.aload_n 0, 1) := by decide +kernel
theorem dX12_init_1 : decode cX12_init 1 = .ok (.invokespecial 3, 3) := by decide +kernel
theorem dX12_init_4 : decode cX12_init 4 = .ok (.aload_n 0, 1) := by decide +kernel
theorem dX12_init_5 : decode cX12_init 5 = .ok (.iconst 5, 1) := by decide +kernel
theorem dX12_init_6 : decode cX12_init 6 = .ok (.putfield 9, 3) := by decide +kernel
theorem dX12_init_9 : decode cX12_init 9 = .ok (.aload_n 0, 1) := by decide +kernel
theorem dX12_init_10 : decode cX12_init 10 = .ok (.bipush 56, 2) := by decide +kernel
theorem dX12_init_12 : decode cX12_init 12 = .ok (.newarray .int, 2) := by decide +kernel
theorem dX12_init_14 : decode cX12_init 14 = .ok (.putfield 13, 3) := by decide +kernel
theorem dX12_init_17 : decode cX12_init 17 = .ok (.aload_n 0, 1) := by decide +kernel
theorem dX12_init_18 : decode cX12_init 18 = .ok (.sipush 16800, 3) := by decide +kernel
theorem dX12_init_21 : decode cX12_init 21 = .ok (.newarray .int, 2) := by decide +kernel
theorem dX12_init_23 : decode cX12_init 23 = .ok (.putfield 17, 3) := by decide +kernel
theorem dX12_init_26 : decode cX12_init 26 = .ok (.aload_n 0, 1) := by decide +kernel
theorem dX12_init_27 : decode cX12_init 27 = .ok (.sipush 16800, 3) := by decide +kernel
theorem dX12_init_30 : decode cX12_init 30 = .ok (.newarray .int, 2) := by decide +kernel
theorem dX12_init_32 : decode cX12_init 32 = .ok (.putfield 20, 3) := by decide +kernel
theorem dX12_init_35 : decode cX12_init 35 = .ok (.aload_n 0, 1) := by decide +kernel
theorem dX12_init_36 : decode cX12_init 36 = .ok (.ldc 23, 2) := by decide +kernel
theorem dX12_init_38 : decode cX12_init 38 = .ok (.newarray .int, 2) := by decide +kernel
theorem dX12_init_40 : decode cX12_init 40 = .ok (.putfield 24, 3) := by decide +kernel
theorem dX12_init_43 : decode cX12_init 43 = .ok (.aload_n 0, 1) := by decide +kernel
theorem dX12_init_44 : decode cX12_init 44 = .ok (.ldc 27, 2) := by decide +kernel
theorem dX12_init_46 : decode cX12_init 46 = .ok (.newarray .int, 2) := by decide +kernel
theorem dX12_init_48 : decode cX12_init 48 = .ok (.putfield 28, 3) := by decide +kernel
theorem dX12_init_51 : decode cX12_init 51 = .ok (.aload_n 0, 1) := by decide +kernel
theorem dX12_init_52 : decode cX12_init 52 = .ok (.bipush 123, 2) := by decide +kernel
theorem dX12_init_54 : decode cX12_init 54 = .ok (.newarray .int, 2) := by decide +kernel
theorem dX12_init_56 : decode cX12_init 56 = .ok (.putfield 31, 3) := by decide +kernel
theorem dX12_init_59 : decode cX12_init 59 = .ok (.aload_n 0, 1) := by decide +kernel
theorem dX12_init_60 : decode cX12_init 60 = .ok (.bipush 20, 2) := by decide +kernel
theorem dX12_init_62 : decode cX12_init 62 = .ok (.newarray .int, 2) := by decide +kernel
theorem dX12_init_64 : decode cX12_init 64 = .ok (.putfield 34, 3) := by decide +kernel
theorem dX12_init_67 : decode cX12_init 67 = .ok (.aload_n 0, 1) := by decide +kernel
theorem dX12_init_68 : decode cX12_init 68 = .ok (.bipush 20, 2) := by decide +kernel
theorem dX12_init_70 : decode cX12_init 70 = .ok (.newarray .int, 2) := by decide +kernel
theorem dX12_init_72 : decode cX12_init 72 = .ok (.putfield 37, 3) := by decide +kernel
theorem dX12_init_75 : decode cX12_init 75 = .ok (.aload_n 0, 1) := by decide +kernel
theorem dX12_init_76 : decode cX12_init 76 = .ok (.sipush 6000, 3) := by decide +kernel
theorem dX12_init_79 : decode cX12_init 79 = .ok (.newarray .int, 2) := by decide +kernel
theorem dX12_init_81 : decode cX12_init 81 = .ok (.putfield 40, 3) := by decide +kernel
theorem dX12_init_84 : decode cX12_init 84 = .ok (.aload_n 0, 1) := by decide +kernel
theorem dX12_init_85 : decode cX12_init 85 = .ok (.sipush 6000, 3) := by decide +kernel
theorem dX12_init_88 : decode cX12_init 88 = .ok (.newarray .int, 2) := by decide +kernel
theorem dX12_init_90 : decode cX12_init 90 = .ok (.putfield 43, 3) := by decide +kernel
theorem dX12_init_93 : decode cX12_init 93 = .ok (.aload_n 0, 1) := by decide +kernel
theorem dX12_init_94 : decode cX12_init 94 = .ok (.iconst 3, 1) := by decide +kernel
theorem dX12_init_95 : decode cX12_init 95 = .ok (.newarray .int, 2) := by decide +kernel
theorem dX12_init_97 : decode cX12_init 97 = .ok (.putfield 46, 3) := by decide +kernel
theorem dX12_init_100 : decode cX12_init 100 = .ok (.aload_n 0, 1) := by decide +kernel
theorem dX12_init_101 : decode cX12_init 101 = .ok (.bipush 41, 2) := by decide +kernel
theorem dX12_init_103 : decode cX12_init 103 = .ok (.newarray .int, 2) := by decide +kernel
theorem dX12_init_105 : decode cX12_init 105 = .ok (.putfield 49, 3) := by decide +kernel
theorem dX12_init_108 : decode cX12_init 108 = .ok (.aload_n 0, 1) := by decide +kernel
theorem dX12_init_109 : decode cX12_init 109 = .ok (.bipush 41, 2) := by decide +kernel
theorem dX12_init_111 : decode cX12_init 111 = .ok (.newarray .int, 2) := by decide +kernel
theorem dX12_init_113 : decode cX12_init 113 = .ok (.putfield 52, 3) := by decide +kernel
theorem dX12_init_116 : decode cX12_init 116 = .ok (.aload_n 0, 1) := by decide +kernel
theorem dX12_init_117 : decode cX12_init 117 = .ok (.ldc 55, 2) := by decide +kernel
theorem dX12_init_119 : decode cX12_init 119 = .ok (.newarray .int, 2) := by decide +kernel
theorem dX12_init_121 : decode cX12_init 121 = .ok (.putfield 56, 3) := by decide +kernel
theorem dX12_init_124 : decode cX12_init 124 = .ok (.aload_n 0, 1) := by decide +kernel
theorem dX12_init_125 : decode cX12_init 125 = .ok (.ldc 55, 2) := by decide +kernel
theorem dX12_init_127 : decode cX12_init 127 = .ok (.newarray .int, 2) := by decide +kernel
theorem dX12_init_129 : decode cX12_init 129 = .ok (.putfield 59, 3) := by decide +kernel
theorem dX12_init_132 : decode cX12_init 132 = .ok (.aload_n 0, 1) := by decide +kernel
theorem dX12_init_133 : decode cX12_init 133 = .ok (.sipush 1764, 3) := by decide +kernel
theorem dX12_init_136 : decode cX12_init 136 = .ok (.newarray .int, 2) := by decide +kernel
theorem dX12_init_138 : decode cX12_init 138 = .ok (.putfield 62, 3) := by decide +kernel
theorem dX12_init_141 : decode cX12_init 141 = .ok (.aload_n 0, 1) := by decide +kernel
theorem dX12_init_142 : decode cX12_init 142 = .ok (.sipush 1764, 3) := by decide +kernel
theorem dX12_init_145 : decode cX12_init 145 = .ok (.newarray .int, 2) := by decide +kernel
theorem dX12_init_147 : decode cX12_init 147 = .ok (.putfield 65, 3) := by decide +kernel
theorem dX12_init_150 : decode cX12_init 150 = .ok (.aload_n 0, 1) := by decide +kernel
theorem dX12_init_151 : decode cX12_init 151 = .ok (.sipush 2197, 3) := by decide +kernel
theorem dX12_init_154 : decode cX12_init 154 = .ok (.newarray .int, 2) := by decide +kernel
theorem dX12_init_156 : decode cX12_init 156 = .ok (.putfield 68, 3) := by decide +kernel
theorem dX12_init_159 : decode cX12_init 159 = .ok (.aload_n 0, 1) := by decide +kernel
theorem dX12_init_160 : decode cX12_init 160 = .ok (.ldc 23, 2) := by decide +kernel
theorem dX12_init_162 : decode cX12_init 162 = .ok (.newarray .int, 2) := by decide +kernel
theorem dX12_init_164 : decode cX12_init 164 = .ok (.putfield 71, 3) := by decide +kernel
theorem dX12_init_167 : decode cX12_init 167 = .ok (.aload_n 0, 1) := by decide +kernel
theorem dX12_init_168 : decode cX12_init 168 = .ok (.sipush 6000, 3) := by decide +kernel
theorem dX12_init_171 : decode cX12_init 171 = .ok (.newarray .int, 2) := by decide +kernel
theorem dX12_init_173 : decode cX12_init 173 = .ok (.putfield 74, 3) := by decide +kernel
theorem dX12_init_176 : decode cX12_init 176 = .ok (.aload_n 0, 1) := by decide +kernel
theorem dX12_init_177 : decode cX12_init 177 = .ok (.bipush 23, 2) := by decide +kernel
theorem dX12_init_179 : decode cX12_init 179 = .ok (.newarray .int, 2) := by decide +kernel
theorem dX12_init_181 : decode cX12_init 181 = .ok (.putfield 77, 3) := by decide +kernel
theorem dX12_init_184 : decode cX12_init 184 = .ok (.aload_n 0, 1) := by decide +kernel
theorem dX12_init_185 : decode cX12_init 185 = .ok (.bipush 23, 2) := by decide +kernel
theorem dX12_init_187 : decode cX12_init 187 = .ok (.newarray .int, 2) := by decide +kernel
theorem dX12_init_189 : decode cX12_init 189 = .ok (.putfield 80, 3) := by decide +kernel
theorem dX12_init_192 : decode cX12_init 192 = .ok (.aload_n 0, 1) := by decide +kernel
theorem dX12_init_193 : decode cX12_init 193 = .ok (.bipush 46, 2) := by decide +kernel
theorem dX12_init_195 : decode cX12_init 195 = .ok (.newarray .int, 2) := by decide +kernel
theorem dX12_init_197 : decode cX12_init 197 = .ok (.putfield 83, 3) := by decide +kernel
theorem dX12_init_200 : decode cX12_init 200 = .ok (.aload_n 0, 1) := by decide +kernel
theorem dX12_init_201 : decode cX12_init 201 = .ok (.bipush 46, 2) := by decide +kernel
theorem dX12_init_203 : decode cX12_init 203 = .ok (.newarray .int, 2) := by decide +kernel
theorem dX12_init_205 : decode cX12_init 205 = .ok (.putfield 86, 3) := by decide +kernel
theorem dX12_init_208 : decode cX12_init 208 = .ok (.aload_n 0, 1) := by decide +kernel
theorem dX12_init_209 : decode cX12_init 209 = .ok (.bipush 23, 2) := by decide +kernel
theorem dX12_init_211 : decode cX12_init 211 = .ok (.newarray .int, 2) := by decide +kernel
theorem dX12_init_213 : decode cX12_init 213 = .ok (.putfield 89, 3) := by decide +kernel
theorem dX12_init_216 : decode cX12_init 216 = .ok (.aload_n 0, 1) := by decide +kernel
theorem dX12_init_217 : decode cX12_init 217 = .ok (.bipush 23, 2) := by decide +kernel
theorem dX12_init_219 : decode cX12_init 219 = .ok (.newarray .int, 2) := by decide +kernel
theorem dX12_init_221 : decode cX12_init 221 = .ok (.putfield 92, 3) := by decide +kernel
theorem dX12_init_224 : decode cX12_init 224 = .ok (.aload_n 0, 1) := by decide +kernel
theorem dX12_init_225 : decode cX12_init 225 = .ok (.bipush 46, 2) := by decide +kernel
theorem dX12_init_227 : decode cX12_init 227 = .ok (.newarray .int, 2) := by decide +kernel
theorem dX12_init_229 : decode cX12_init 229 = .ok (.putfield 95, 3) := by decide +kernel
theorem dX12_init_232 : decode cX12_init 232 = .ok (.aload_n 0, 1) := by decide +kernel
theorem dX12_init_233 : decode cX12_init 233 = .ok (.bipush 46, 2) := by decide +kernel
theorem dX12_init_235 : decode cX12_init 235 = .ok (.newarray .int, 2) := by decide +kernel
theorem dX12_init_237 : decode cX12_init 237 = .ok (.putfield 98, 3) := by decide +kernel
theorem dX12_init_240 : decode cX12_init 240 = .ok (.aload_n 0, 1) := by decide +kernel
theorem dX12_init_241 : decode cX12_init 241 = .ok (.bipush 23, 2) := by decide +kernel
theorem dX12_init_243 : decode cX12_init 243 = .ok (.newarray .int, 2) := by decide +kernel
theorem dX12_init_245 : decode cX12_init 245 = .ok (.putfield 101, 3) := by decide +kernel
theorem dX12_init_248 : decode cX12_init 248 = .ok (.aload_n 0, 1) := by decide +kernel
theorem dX12_init_249 : decode cX12_init 249 = .ok (.bipush 23, 2) := by decide +kernel
theorem dX12_init_251 : decode cX12_init 251 = .ok (.newarray .int, 2) := by decide +kernel
theorem dX12_init_253 : decode cX12_init 253 = .ok (.putfield 104, 3) := by decide +kernel
theorem dX12_init_256 : decode cX12_init 256 = .ok (.aload_n 0, 1) := by decide +kernel
theorem dX12_init_257 : decode cX12_init 257 = .ok (.bipush 23, 2) := by decide +kernel
theorem dX12_init_259 : decode cX12_init 259 = .ok (.newarray .int, 2) := by decide +kernel
theorem dX12_init_261 : decode cX12_init 261 = .ok (.putfield 107, 3) := by decide +kernel
theorem dX12_init_264 : decode cX12_init 264 = .ok (.aload_n 0, 1) := by decide +kernel
theorem dX12_init_265 : decode cX12_init 265 = .ok (.sipush 200, 3) := by decide +kernel
theorem dX12_init_268 : decode cX12_init 268 = .ok (.newarray .int, 2) := by decide +kernel
theorem dX12_init_270 : decode cX12_init 270 = .ok (.putfield 110, 3) := by decide +kernel
theorem dX12_init_273 : decode cX12_init 273 = .ok (.aload_n 0, 1) := by decide +kernel
theorem dX12_init_274 : decode cX12_init 274 = .ok (.iconst (-1), 1) := by decide +kernel
theorem dX12_init_275 : decode cX12_init 275 = .ok (.putfield 113, 3) := by decide +kernel
theorem dX12_init_278 : decode cX12_init 278 = .ok (.return_, 1) := by decide +kernel
theorem dX12_thrown_0 : decode cX12_thrown 0 = .ok (.aload_n 0, 1) := by decide +kernel
theorem dX12_thrown_1 : decode cX12_thrown 1 = .ok (.getfield 116, 3) := by decide +kernel
theorem dX12_thrown_4 : decode cX12_thrown 4 = .ok (.ireturn, 1) := by decide +kernel
theorem dX12_fail_0 : decode cX12_fail 0 = .ok (.aload_n 0, 1) := by decide +kernel
theorem dX12_fail_1 : decode cX12_fail 1 = .ok (.iload_n 1, 1) := by decide +kernel
theorem dX12_fail_2 : decode cX12_fail 2 = .ok (.putfield 116, 3) := by decide +kernel
theorem dX12_fail_5 : decode cX12_fail 5 = .ok (.iconst 0, 1) := by decide +kernel
theorem dX12_fail_6 : decode cX12_fail 6 = .ok (.ireturn, 1) := by decide +kernel
theorem dX12_isIn_0 : decode cX12_isIn 0 = .ok (.iload_n 0, 1) := by decide +kernel
theorem dX12_isIn_1 : decode cX12_isIn 1 = .ok (.iload_n 1, 1) := by decide +kernel
theorem dX12_isIn_2 : decode cX12_isIn 2 = .ok (.if_icmp .lt 12, 3) := by decide +kernel
theorem dX12_isIn_5 : decode cX12_isIn 5 = .ok (.iload_n 0, 1) := by decide +kernel
theorem dX12_isIn_6 : decode cX12_isIn 6 = .ok (.iload_n 2, 1) := by decide +kernel
theorem dX12_isIn_7 : decode cX12_isIn 7 = .ok (.if_icmp .gt 7, 3) := by decide +kernel
theorem dX12_isIn_10 : decode cX12_isIn 10 = .ok (.iconst 1, 1) := by decide +kernel
theorem dX12_isIn_11 : decode cX12_isIn 11 = .ok (.goto 4, 3) := by decide +kernel
theorem dX12_isIn_14 : decode cX12_isIn 14 = .ok (.iconst 0, 1) := by decide +kernel
theorem dX12_isIn_15 : decode cX12_isIn 15 = .ok (.ireturn, 1) := by decide +kernel
theorem dX12_mod_0 : decode cX12_mod 0 = .ok (.iload_n 1, 1) := by decide +kernel
theorem dX12_mod_1 : decode cX12_mod 1 = .ok (.aload_n 0, 1) := by decide +kernel
theorem dX12_mod_2 : decode cX12_mod 2 = .ok (.getfield 9, 3) := by decide +kernel
theorem dX12_mod_5 : decode cX12_mod 5 = .ok (.irem, 1) := by decide +kernel
theorem dX12_mod_6 : decode cX12_mod 6 = .ok (.istore_n 2, 1) := by decide +kernel
theorem dX12_mod_7 : decode cX12_mod 7 = .ok (.iload_n 2, 1) := by decide +kernel
theorem dX12_mod_8 : decode cX12_mod 8 = .ok (.ifCond .ge 12, 3) := by decide +kernel
theorem dX12_mod_11 : decode cX12_mod 11 = .ok (.iload_n 2, 1) := by decide +kernel
theorem dX12_mod_12 : decode cX12_mod 12 = .ok (.aload_n 0, 1) := by decide +kernel
theorem dX12_mod_13 : decode cX12_mod 13 = .ok (.getfield 9, 3) := by decide +kernel
theorem dX12_mod_16 : decode cX12_mod 16 = .ok (.iadd, 1) := by decide +kernel
theorem dX12_mod_17 : decode cX12_mod 17 = .ok (.goto 4, 3) := by decide +kernel
theorem dX12_mod_20 : decode cX12_mod 20 = .ok (.iload_n 2, 1) := by decide +kernel
theorem dX12_mod_21 : decode cX12_mod 21 = .ok (.ireturn, 1) := by decide +kernel
theorem dX12_inverse_0 : decode cX12_inverse 0 = .ok (.iconst 1, 1) := by decide +kernel
theorem dX12_inverse_1 : decode cX12_inverse 1 = .ok (.istore_n 2, 1) := by decide +kernel
theorem dX12_inverse_2 : decode cX12_inverse 2 = .ok (.iload_n 2, 1) := by decide +kernel
theorem dX12_inverse_3 : decode cX12_inverse 3 = .ok (.iload_n 1, 1) := by decide +kernel
theorem dX12_inverse_4 : decode cX12_inverse 4 = .ok (.imul, 1) := by decide +kernel
theorem dX12_inverse_5 : decode cX12_inverse 5 = .ok (.aload_n 0, 1) := by decide +kernel
theorem dX12_inverse_6 : decode cX12_inverse 6 = .ok (.getfield 9, 3) := by decide +kernel
theorem dX12_inverse_9 : decode cX12_inverse 9 = .ok (.irem, 1) := by decide +kernel
theorem dX12_inverse_10 : decode cX12_inverse 10 = .ok (.iconst 1, 1) := by decide +kernel
theorem dX12_inverse_11 : decode cX12_inverse 11 = .ok (.if_icmp .eq 9, 3) := by decide +kernel
theorem dX12_inverse_14 : decode cX12_inverse 14 = .ok (.iinc 2 1, 3) := by decide +kernel
theorem dX12_inverse_17 : decode cX12_inverse 17 = .ok (.goto (-15), 3) := by decide +kernel
theorem dX12_inverse_20 : decode cX12_inverse 20 = .ok (.iload_n 2, 1) := by decide +kernel
theorem dX12_inverse_21 : decode cX12_inverse 21 = .ok (.ireturn, 1) := by decide +kernel
theorem dX12_keyOf_0 : decode cX12_keyOf 0 = .ok (.iload_n 0, 1) := by decide +kernel
theorem dX12_keyOf_1 : decode cX12_keyOf 1 = .ok (.bipush 41, 2) := by decide +kernel
theorem dX12_keyOf_3 : decode cX12_keyOf 3 = .ok (.imul, 1) := by decide +kernel
theorem dX12_keyOf_4 : decode cX12_keyOf 4 = .ok (.iload_n 1, 1) := by decide +kernel
theorem dX12_keyOf_5 : decode cX12_keyOf 5 = .ok (.iadd, 1) := by decide +kernel
theorem dX12_keyOf_6 : decode cX12_keyOf 6 = .ok (.bipush 41, 2) := by decide +kernel
theorem dX12_keyOf_8 : decode cX12_keyOf 8 = .ok (.imul, 1) := by decide +kernel
theorem dX12_keyOf_9 : decode cX12_keyOf 9 = .ok (.iload_n 2, 1) := by decide +kernel
theorem dX12_keyOf_10 : decode cX12_keyOf 10 = .ok (.iadd, 1) := by decide +kernel
theorem dX12_keyOf_11 : decode cX12_keyOf 11 = .ok (.ireturn, 1) := by decide +kernel
theorem dX12_ex_0 : decode cX12_ex 0 = .ok (.iload_n 1, 1) := by decide +kernel
theorem dX12_ex_1 : decode cX12_ex 1 = .ok (.ifCond .ne 11, 3) := by decide +kernel
theorem dX12_ex_4 : decode cX12_ex 4 = .ok (.iload_n 0, 1) := by decide +kernel
theorem dX12_ex_5 : decode cX12_ex 5 = .ok (.sipush 1681, 3) := by decide +kernel
theorem dX12_ex_8 : decode cX12_ex 8 = .ok (.idiv, 1) := by decide +kernel
theorem dX12_ex_9 : decode cX12_ex 9 = .ok (.goto 22, 3) := by decide +kernel
theorem dX12_ex_12 : decode cX12_ex 12 = .ok (.iload_n 1, 1) := by decide +kernel
theorem dX12_ex_13 : decode cX12_ex 13 = .ok (.iconst 1, 1) := by decide +kernel
theorem dX12_ex_14 : decode cX12_ex 14 = .ok (.if_icmp .ne 13, 3) := by decide +kernel
theorem dX12_ex_17 : decode cX12_ex 17 = .ok (.iload_n 0, 1) := by decide +kernel
theorem dX12_ex_18 : decode cX12_ex 18 = .ok (.bipush 41, 2) := by decide +kernel
theorem dX12_ex_20 : decode cX12_ex 20 = .ok (.idiv, 1) := by decide +kernel
theorem dX12_ex_21 : decode cX12_ex 21 = .ok (.bipush 41, 2) := by decide +kernel
theorem dX12_ex_23 : decode cX12_ex 23 = .ok (.irem, 1) := by decide +kernel
theorem dX12_ex_24 : decode cX12_ex 24 = .ok (.goto 7, 3) := by decide +kernel
theorem dX12_ex_27 : decode cX12_ex 27 = .ok (.iload_n 0, 1) := by decide +kernel
theorem dX12_ex_28 : decode cX12_ex 28 = .ok (.bipush 41, 2) := by decide +kernel
theorem dX12_ex_30 : decode cX12_ex 30 = .ok (.irem, 1) := by decide +kernel
theorem dX12_ex_31 : decode cX12_ex 31 = .ok (.ireturn, 1) := by decide +kernel
theorem dX12_degreeOfKey_0 : decode cX12_degreeOfKey 0 = .ok (.iload_n 0, 1) := by decide +kernel
theorem dX12_degreeOfKey_1 : decode cX12_degreeOfKey 1 = .ok (.iconst 0, 1) := by decide +kernel
theorem dX12_degreeOfKey_2 : decode cX12_degreeOfKey 2 = .ok (.invokestatic 119, 3) := by decide +kernel
theorem dX12_degreeOfKey_5 : decode cX12_degreeOfKey 5 = .ok (.iload_n 0, 1) := by decide +kernel
theorem dX12_degreeOfKey_6 : decode cX12_degreeOfKey 6 = .ok (.iconst 1, 1) := by decide +kernel
theorem dX12_degreeOfKey_7 : decode cX12_degreeOfKey 7 = .ok (.invokestatic 119, 3) := by decide +kernel
theorem dX12_degreeOfKey_10 : decode cX12_degreeOfKey 10 = .ok (.iadd, 1) := by decide +kernel
theorem dX12_degreeOfKey_11 : decode cX12_degreeOfKey 11 = .ok (.iload_n 0, 1) := by decide +kernel
theorem dX12_degreeOfKey_12 : decode cX12_degreeOfKey 12 = .ok (.iconst 2, 1) := by decide +kernel
theorem dX12_degreeOfKey_13 : decode cX12_degreeOfKey 13 = .ok (.invokestatic 119, 3) := by decide +kernel
theorem dX12_degreeOfKey_16 : decode cX12_degreeOfKey 16 = .ok (.iadd, 1) := by decide +kernel
theorem dX12_degreeOfKey_17 : decode cX12_degreeOfKey 17 = .ok (.ireturn, 1) := by decide +kernel
theorem dX12_keyAt_0 : decode cX12_keyAt 0 = .ok (.aload_n 0, 1) := by decide +kernel
theorem dX12_keyAt_1 : decode cX12_keyAt 1 = .ok (.getfield 17, 3) := by decide +kernel
theorem dX12_keyAt_4 : decode cX12_keyAt 4 = .ok (.sipush 300, 3) := by decide +kernel
theorem dX12_keyAt_7 : decode cX12_keyAt 7 = .ok (.iload_n 1, 1) := by decide +kernel
theorem dX12_keyAt_8 : decode cX12_keyAt 8 = .ok (.imul, 1) := by decide +kernel
theorem dX12_keyAt_9 : decode cX12_keyAt 9 = .ok (.iload_n 2, 1) := by decide +kernel
theorem dX12_keyAt_10 : decode cX12_keyAt 10 = .ok (.iadd, 1) := by decide +kernel
theorem dX12_keyAt_11 : decode cX12_keyAt 11 = .ok (.iaload, 1) := by decide +kernel
theorem dX12_keyAt_12 : decode cX12_keyAt 12 = .ok (.ireturn, 1) := by decide +kernel
theorem dX12_numAt_0 : decode cX12_numAt 0 = .ok (.aload_n 0, 1) := by decide +kernel
theorem dX12_numAt_1 : decode cX12_numAt 1 = .ok (.getfield 20, 3) := by decide +kernel
theorem dX12_numAt_4 : decode cX12_numAt 4 = .ok (.sipush 300, 3) := by decide +kernel
theorem dX12_numAt_7 : decode cX12_numAt 7 = .ok (.iload_n 1, 1) := by decide +kernel
theorem dX12_numAt_8 : decode cX12_numAt 8 = .ok (.imul, 1) := by decide +kernel
theorem dX12_numAt_9 : decode cX12_numAt 9 = .ok (.iload_n 2, 1) := by decide +kernel
theorem dX12_numAt_10 : decode cX12_numAt 10 = .ok (.iadd, 1) := by decide +kernel
theorem dX12_numAt_11 : decode cX12_numAt 11 = .ok (.iaload, 1) := by decide +kernel
theorem dX12_numAt_12 : decode cX12_numAt 12 = .ok (.ireturn, 1) := by decide +kernel
theorem dX12_copy_0 : decode cX12_copy 0 = .ok (.aload_n 0, 1) := by decide +kernel
theorem dX12_copy_1 : decode cX12_copy 1 = .ok (.getfield 13, 3) := by decide +kernel
theorem dX12_copy_4 : decode cX12_copy 4 = .ok (.iload_n 1, 1) := by decide +kernel
theorem dX12_copy_5 : decode cX12_copy 5 = .ok (.aload_n 0, 1) := by decide +kernel
theorem dX12_copy_6 : decode cX12_copy 6 = .ok (.getfield 13, 3) := by decide +kernel
theorem dX12_copy_9 : decode cX12_copy 9 = .ok (.iload_n 2, 1) := by decide +kernel
theorem dX12_copy_10 : decode cX12_copy 10 = .ok (.iaload, 1) := by decide +kernel
theorem dX12_copy_11 : decode cX12_copy 11 = .ok (.iastore, 1) := by decide +kernel
theorem dX12_copy_12 : decode cX12_copy 12 = .ok (.iconst 0, 1) := by decide +kernel
theorem dX12_copy_13 : decode cX12_copy 13 = .ok (.istore_n 3, 1) := by decide +kernel
theorem dX12_copy_14 : decode cX12_copy 14 = .ok (.iload_n 3, 1) := by decide +kernel
theorem dX12_copy_15 : decode cX12_copy 15 = .ok (.aload_n 0, 1) := by decide +kernel
theorem dX12_copy_16 : decode cX12_copy 16 = .ok (.getfield 13, 3) := by decide +kernel
theorem dX12_copy_19 : decode cX12_copy 19 = .ok (.iload_n 2, 1) := by decide +kernel
theorem dX12_copy_20 : decode cX12_copy 20 = .ok (.iaload, 1) := by decide +kernel
theorem dX12_copy_21 : decode cX12_copy 21 = .ok (.if_icmp .ge 45, 3) := by decide +kernel
theorem dX12_copy_24 : decode cX12_copy 24 = .ok (.aload_n 0, 1) := by decide +kernel
theorem dX12_copy_25 : decode cX12_copy 25 = .ok (.getfield 17, 3) := by decide +kernel
theorem dX12_copy_28 : decode cX12_copy 28 = .ok (.sipush 300, 3) := by decide +kernel
theorem dX12_copy_31 : decode cX12_copy 31 = .ok (.iload_n 1, 1) := by decide +kernel
theorem dX12_copy_32 : decode cX12_copy 32 = .ok (.imul, 1) := by decide +kernel
theorem dX12_copy_33 : decode cX12_copy 33 = .ok (.iload_n 3, 1) := by decide +kernel
theorem dX12_copy_34 : decode cX12_copy 34 = .ok (.iadd, 1) := by decide +kernel
theorem dX12_copy_35 : decode cX12_copy 35 = .ok (.aload_n 0, 1) := by decide +kernel
theorem dX12_copy_36 : decode cX12_copy 36 = .ok (.iload_n 2, 1) := by decide +kernel
theorem dX12_copy_37 : decode cX12_copy 37 = .ok (.iload_n 3, 1) := by decide +kernel
theorem dX12_copy_38 : decode cX12_copy 38 = .ok (.invokevirtual 123, 3) := by decide +kernel
theorem dX12_copy_41 : decode cX12_copy 41 = .ok (.iastore, 1) := by decide +kernel
theorem dX12_copy_42 : decode cX12_copy 42 = .ok (.aload_n 0, 1) := by decide +kernel
theorem dX12_copy_43 : decode cX12_copy 43 = .ok (.getfield 20, 3) := by decide +kernel
theorem dX12_copy_46 : decode cX12_copy 46 = .ok (.sipush 300, 3) := by decide +kernel
theorem dX12_copy_49 : decode cX12_copy 49 = .ok (.iload_n 1, 1) := by decide +kernel
theorem dX12_copy_50 : decode cX12_copy 50 = .ok (.imul, 1) := by decide +kernel
theorem dX12_copy_51 : decode cX12_copy 51 = .ok (.iload_n 3, 1) := by decide +kernel
theorem dX12_copy_52 : decode cX12_copy 52 = .ok (.iadd, 1) := by decide +kernel
theorem dX12_copy_53 : decode cX12_copy 53 = .ok (.aload_n 0, 1) := by decide +kernel
theorem dX12_copy_54 : decode cX12_copy 54 = .ok (.iload_n 2, 1) := by decide +kernel
theorem dX12_copy_55 : decode cX12_copy 55 = .ok (.iload_n 3, 1) := by decide +kernel
theorem dX12_copy_56 : decode cX12_copy 56 = .ok (.invokevirtual 126, 3) := by decide +kernel
theorem dX12_copy_59 : decode cX12_copy 59 = .ok (.iastore, 1) := by decide +kernel
theorem dX12_copy_60 : decode cX12_copy 60 = .ok (.iinc 3 1, 3) := by decide +kernel
theorem dX12_copy_63 : decode cX12_copy 63 = .ok (.goto (-49), 3) := by decide +kernel
theorem dX12_copy_66 : decode cX12_copy 66 = .ok (.return_, 1) := by decide +kernel
theorem dX12_degreeOf_0 : decode cX12_degreeOf 0 = .ok (.iconst (-1), 1) := by decide +kernel
theorem dX12_degreeOf_1 : decode cX12_degreeOf 1 = .ok (.istore_n 2, 1) := by decide +kernel
theorem dX12_degreeOf_2 : decode cX12_degreeOf 2 = .ok (.iconst 0, 1) := by decide +kernel
theorem dX12_degreeOf_3 : decode cX12_degreeOf 3 = .ok (.istore_n 3, 1) := by decide +kernel
theorem dX12_degreeOf_4 : decode cX12_degreeOf 4 = .ok (.iload_n 3, 1) := by decide +kernel
theorem dX12_degreeOf_5 : decode cX12_degreeOf 5 = .ok (.aload_n 0, 1) := by decide +kernel
theorem dX12_degreeOf_6 : decode cX12_degreeOf 6 = .ok (.getfield 13, 3) := by decide +kernel
theorem dX12_degreeOf_9 : decode cX12_degreeOf 9 = .ok (.iload_n 1, 1) := by decide +kernel
theorem dX12_degreeOf_10 : decode cX12_degreeOf 10 = .ok (.iaload, 1) := by decide +kernel
theorem dX12_degreeOf_11 : decode cX12_degreeOf 11 = .ok (.if_icmp .ge 23, 3) := by decide +kernel
theorem dX12_degreeOf_14 : decode cX12_degreeOf 14 = .ok (.iload_n 2, 1) := by decide +kernel
theorem dX12_degreeOf_15 : decode cX12_degreeOf 15 = .ok (.aload_n 0, 1) := by decide +kernel
theorem dX12_degreeOf_16 : decode cX12_degreeOf 16 = .ok (.iload_n 1, 1) := by decide +kernel
theorem dX12_degreeOf_17 : decode cX12_degreeOf 17 = .ok (.iload_n 3, 1) := by decide +kernel
theorem dX12_degreeOf_18 : decode cX12_degreeOf 18 = .ok (.invokevirtual 123, 3) := by decide +kernel
theorem dX12_degreeOf_21 : decode cX12_degreeOf 21 = .ok (.invokestatic 129, 3) := by decide +kernel
theorem dX12_degreeOf_24 : decode cX12_degreeOf 24 = .ok (.invokestatic 133, 3) := by decide +kernel
theorem dX12_degreeOf_27 : decode cX12_degreeOf 27 = .ok (.istore_n 2, 1) := by decide +kernel
theorem dX12_degreeOf_28 : decode cX12_degreeOf 28 = .ok (.iinc 3 1, 3) := by decide +kernel
theorem dX12_degreeOf_31 : decode cX12_degreeOf 31 = .ok (.goto (-27), 3) := by decide +kernel
theorem dX12_degreeOf_34 : decode cX12_degreeOf 34 = .ok (.iload_n 2, 1) := by decide +kernel
theorem dX12_degreeOf_35 : decode cX12_degreeOf 35 = .ok (.ireturn, 1) := by decide +kernel
theorem dX12_degreeIn_0 : decode cX12_degreeIn 0 = .ok (.iconst (-1), 1) := by decide +kernel
theorem dX12_degreeIn_1 : decode cX12_degreeIn 1 = .ok (.istore_n 3, 1) := by decide +kernel
theorem dX12_degreeIn_2 : decode cX12_degreeIn 2 = .ok (.iconst 0, 1) := by decide +kernel
theorem dX12_degreeIn_3 : decode cX12_degreeIn 3 = .ok (.istore 4, 2) := by decide +kernel
theorem dX12_degreeIn_5 : decode cX12_degreeIn 5 = .ok (.iload 4, 2) := by decide +kernel
theorem dX12_degreeIn_7 : decode cX12_degreeIn 7 = .ok (.aload_n 0, 1) := by decide +kernel
theorem dX12_degreeIn_8 : decode cX12_degreeIn 8 = .ok (.getfield 13, 3) := by decide +kernel
theorem dX12_degreeIn_11 : decode cX12_degreeIn 11 = .ok (.iload_n 1, 1) := by decide +kernel
theorem dX12_degreeIn_12 : decode cX12_degreeIn 12 = .ok (.iaload, 1) := by decide +kernel
theorem dX12_degreeIn_13 : decode cX12_degreeIn 13 = .ok (.if_icmp .ge 25, 3) := by decide +kernel
theorem dX12_degreeIn_16 : decode cX12_degreeIn 16 = .ok (.iload_n 3, 1) := by decide +kernel
theorem dX12_degreeIn_17 : decode cX12_degreeIn 17 = .ok (.aload_n 0, 1) := by decide +kernel
theorem dX12_degreeIn_18 : decode cX12_degreeIn 18 = .ok (.iload_n 1, 1) := by decide +kernel
theorem dX12_degreeIn_19 : decode cX12_degreeIn 19 = .ok (.iload 4, 2) := by decide +kernel
theorem dX12_degreeIn_21 : decode cX12_degreeIn 21 = .ok (.invokevirtual 123, 3) := by decide +kernel
theorem dX12_degreeIn_24 : decode cX12_degreeIn 24 = .ok (.iload_n 2, 1) := by decide +kernel
theorem dX12_degreeIn_25 : decode cX12_degreeIn 25 = .ok (.invokestatic 119, 3) := by decide +kernel
theorem dX12_degreeIn_28 : decode cX12_degreeIn 28 = .ok (.invokestatic 133, 3) := by decide +kernel
theorem dX12_degreeIn_31 : decode cX12_degreeIn 31 = .ok (.istore_n 3, 1) := by decide +kernel
theorem dX12_degreeIn_32 : decode cX12_degreeIn 32 = .ok (.iinc 4 1, 3) := by decide +kernel
theorem dX12_degreeIn_35 : decode cX12_degreeIn 35 = .ok (.goto (-30), 3) := by decide +kernel
theorem dX12_degreeIn_38 : decode cX12_degreeIn 38 = .ok (.iload_n 3, 1) := by decide +kernel
theorem dX12_degreeIn_39 : decode cX12_degreeIn 39 = .ok (.ireturn, 1) := by decide +kernel
theorem dX12_areSame_0 : decode cX12_areSame 0 = .ok (.aload_n 0, 1) := by decide +kernel
theorem dX12_areSame_1 : decode cX12_areSame 1 = .ok (.getfield 13, 3) := by decide +kernel
theorem dX12_areSame_4 : decode cX12_areSame 4 = .ok (.iload_n 1, 1) := by decide +kernel
theorem dX12_areSame_5 : decode cX12_areSame 5 = .ok (.iaload, 1) := by decide +kernel
theorem dX12_areSame_6 : decode cX12_areSame 6 = .ok (.aload_n 0, 1) := by decide +kernel
theorem dX12_areSame_7 : decode cX12_areSame 7 = .ok (.getfield 13, 3) := by decide +kernel
theorem dX12_areSame_10 : decode cX12_areSame 10 = .ok (.iload_n 2, 1) := by decide +kernel
theorem dX12_areSame_11 : decode cX12_areSame 11 = .ok (.iaload, 1) := by decide +kernel
theorem dX12_areSame_12 : decode cX12_areSame 12 = .ok (.if_icmp .ne 7, 3) := by decide +kernel
theorem dX12_areSame_15 : decode cX12_areSame 15 = .ok (.iconst 1, 1) := by decide +kernel
theorem dX12_areSame_16 : decode cX12_areSame 16 = .ok (.goto 4, 3) := by decide +kernel
theorem dX12_areSame_19 : decode cX12_areSame 19 = .ok (.iconst 0, 1) := by decide +kernel
theorem dX12_areSame_20 : decode cX12_areSame 20 = .ok (.istore_n 3, 1) := by decide +kernel
theorem dX12_areSame_21 : decode cX12_areSame 21 = .ok (.iconst 0, 1) := by decide +kernel
theorem dX12_areSame_22 : decode cX12_areSame 22 = .ok (.istore 4, 2) := by decide +kernel
theorem dX12_areSame_24 : decode cX12_areSame 24 = .ok (.iload_n 3, 1) := by decide +kernel
theorem dX12_areSame_25 : decode cX12_areSame 25 = .ok (.ifCond .eq 60, 3) := by decide +kernel
theorem dX12_areSame_28 : decode cX12_areSame 28 = .ok (.iload 4, 2) := by decide +kernel
theorem dX12_areSame_30 : decode cX12_areSame 30 = .ok (.aload_n 0, 1) := by decide +kernel
theorem dX12_areSame_31 : decode cX12_areSame 31 = .ok (.getfield 13, 3) := by decide +kernel
theorem dX12_areSame_34 : decode cX12_areSame 34 = .ok (.iload_n 1, 1) := by decide +kernel
theorem dX12_areSame_35 : decode cX12_areSame 35 = .ok (.iaload, 1) := by decide +kernel
theorem dX12_areSame_36 : decode cX12_areSame 36 = .ok (.if_icmp .ge 49, 3) := by decide +kernel
theorem dX12_areSame_39 : decode cX12_areSame 39 = .ok (.aload_n 0, 1) := by decide +kernel
theorem dX12_areSame_40 : decode cX12_areSame 40 = .ok (.iload_n 1, 1) := by decide +kernel
theorem dX12_areSame_41 : decode cX12_areSame 41 = .ok (.iload 4, 2) := by decide +kernel
theorem dX12_areSame_43 : decode cX12_areSame 43 = .ok (.invokevirtual 123, 3) := by decide +kernel
theorem dX12_areSame_46 : decode cX12_areSame 46 = .ok (.aload_n 0, 1) := by decide +kernel
theorem dX12_areSame_47 : decode cX12_areSame 47 = .ok (.iload_n 2, 1) := by decide +kernel
theorem dX12_areSame_48 : decode cX12_areSame 48 = .ok (.iload 4, 2) := by decide +kernel
theorem dX12_areSame_50 : decode cX12_areSame 50 = .ok (.invokevirtual 123, 3) := by decide +kernel
theorem dX12_areSame_53 : decode cX12_areSame 53 = .ok (.if_icmp .ne 24, 3) := by decide +kernel
theorem dX12_areSame_56 : decode cX12_areSame 56 = .ok (.aload_n 0, 1) := by decide +kernel
theorem dX12_areSame_57 : decode cX12_areSame 57 = .ok (.iload_n 1, 1) := by decide +kernel
theorem dX12_areSame_58 : decode cX12_areSame 58 = .ok (.iload 4, 2) := by decide +kernel
theorem dX12_areSame_60 : decode cX12_areSame 60 = .ok (.invokevirtual 126, 3) := by decide +kernel
theorem dX12_areSame_63 : decode cX12_areSame 63 = .ok (.aload_n 0, 1) := by decide +kernel
theorem dX12_areSame_64 : decode cX12_areSame 64 = .ok (.iload_n 2, 1) := by decide +kernel
theorem dX12_areSame_65 : decode cX12_areSame 65 = .ok (.iload 4, 2) := by decide +kernel
theorem dX12_areSame_67 : decode cX12_areSame 67 = .ok (.invokevirtual 126, 3) := by decide +kernel
theorem dX12_areSame_70 : decode cX12_areSame 70 = .ok (.if_icmp .ne 7, 3) := by decide +kernel
theorem dX12_areSame_73 : decode cX12_areSame 73 = .ok (.iconst 1, 1) := by decide +kernel
theorem dX12_areSame_74 : decode cX12_areSame 74 = .ok (.goto 4, 3) := by decide +kernel
theorem dX12_areSame_77 : decode cX12_areSame 77 = .ok (.iconst 0, 1) := by decide +kernel
theorem dX12_areSame_78 : decode cX12_areSame 78 = .ok (.istore_n 3, 1) := by decide +kernel
theorem dX12_areSame_79 : decode cX12_areSame 79 = .ok (.iinc 4 1, 3) := by decide +kernel
theorem dX12_areSame_82 : decode cX12_areSame 82 = .ok (.goto (-58), 3) := by decide +kernel
theorem dX12_areSame_85 : decode cX12_areSame 85 = .ok (.iload_n 3, 1) := by decide +kernel
theorem dX12_areSame_86 : decode cX12_areSame 86 = .ok (.ireturn, 1) := by decide +kernel
theorem dX12_gathers_0 : decode cX12_gathers 0 = .ok (.iload_n 1, 1) := by decide +kernel
theorem dX12_gathers_1 : decode cX12_gathers 1 = .ok (.bipush 81, 2) := by decide +kernel
theorem dX12_gathers_3 : decode cX12_gathers 3 = .ok (.imul, 1) := by decide +kernel
theorem dX12_gathers_4 : decode cX12_gathers 4 = .ok (.iload_n 2, 1) := by decide +kernel
theorem dX12_gathers_5 : decode cX12_gathers 5 = .ok (.iadd, 1) := by decide +kernel
theorem dX12_gathers_6 : decode cX12_gathers 6 = .ok (.bipush 81, 2) := by decide +kernel
theorem dX12_gathers_8 : decode cX12_gathers 8 = .ok (.imul, 1) := by decide +kernel
theorem dX12_gathers_9 : decode cX12_gathers 9 = .ok (.iload_n 3, 1) := by decide +kernel
theorem dX12_gathers_10 : decode cX12_gathers 10 = .ok (.iadd, 1) := by decide +kernel
theorem dX12_gathers_11 : decode cX12_gathers 11 = .ok (.istore 5, 2) := by decide +kernel
theorem dX12_gathers_13 : decode cX12_gathers 13 = .ok (.aload_n 0, 1) := by decide +kernel
theorem dX12_gathers_14 : decode cX12_gathers 14 = .ok (.getfield 24, 3) := by decide +kernel
theorem dX12_gathers_17 : decode cX12_gathers 17 = .ok (.iload 5, 2) := by decide +kernel
theorem dX12_gathers_19 : decode cX12_gathers 19 = .ok (.aload_n 0, 1) := by decide +kernel
theorem dX12_gathers_20 : decode cX12_gathers 20 = .ok (.aload_n 0, 1) := by decide +kernel
theorem dX12_gathers_21 : decode cX12_gathers 21 = .ok (.getfield 24, 3) := by decide +kernel
theorem dX12_gathers_24 : decode cX12_gathers 24 = .ok (.iload 5, 2) := by decide +kernel
theorem dX12_gathers_26 : decode cX12_gathers 26 = .ok (.iaload, 1) := by decide +kernel
theorem dX12_gathers_27 : decode cX12_gathers 27 = .ok (.iload 4, 2) := by decide +kernel
theorem dX12_gathers_29 : decode cX12_gathers 29 = .ok (.iadd, 1) := by decide +kernel
theorem dX12_gathers_30 : decode cX12_gathers 30 = .ok (.invokevirtual 138, 3) := by decide +kernel
theorem dX12_gathers_33 : decode cX12_gathers 33 = .ok (.iastore, 1) := by decide +kernel
theorem dX12_gathers_34 : decode cX12_gathers 34 = .ok (.aload_n 0, 1) := by decide +kernel
theorem dX12_gathers_35 : decode cX12_gathers 35 = .ok (.getfield 28, 3) := by decide +kernel
theorem dX12_gathers_38 : decode cX12_gathers 38 = .ok (.aload_n 0, 1) := by decide +kernel
theorem dX12_gathers_39 : decode cX12_gathers 39 = .ok (.getfield 141, 3) := by decide +kernel
theorem dX12_gathers_42 : decode cX12_gathers 42 = .ok (.iload 5, 2) := by decide +kernel
theorem dX12_gathers_44 : decode cX12_gathers 44 = .ok (.iastore, 1) := by decide +kernel
theorem dX12_gathers_45 : decode cX12_gathers 45 = .ok (.aload_n 0, 1) := by decide +kernel
theorem dX12_gathers_46 : decode cX12_gathers 46 = .ok (.dup, 1) := by decide +kernel
theorem dX12_gathers_47 : decode cX12_gathers 47 = .ok (.getfield 141, 3) := by decide +kernel
theorem dX12_gathers_50 : decode cX12_gathers 50 = .ok (.iconst 1, 1) := by decide +kernel
theorem dX12_gathers_51 : decode cX12_gathers 51 = .ok (.iadd, 1) := by decide +kernel
theorem dX12_gathers_52 : decode cX12_gathers 52 = .ok (.putfield 141, 3) := by decide +kernel
theorem dX12_gathers_55 : decode cX12_gathers 55 = .ok (.return_, 1) := by decide +kernel
theorem dX12_gathered_0 : decode cX12_gathered 0 = .ok (.iconst 0, 1) := by decide +kernel
theorem dX12_gathered_1 : decode cX12_gathered 1 = .ok (.istore_n 2, 1) := by decide +kernel
theorem dX12_gathered_2 : decode cX12_gathered 2 = .ok (.iconst 1, 1) := by decide +kernel
theorem dX12_gathered_3 : decode cX12_gathered 3 = .ok (.istore_n 3, 1) := by decide +kernel
theorem dX12_gathered_4 : decode cX12_gathered 4 = .ok (.iconst 0, 1) := by decide +kernel
theorem dX12_gathered_5 : decode cX12_gathered 5 = .ok (.istore 4, 2) := by decide +kernel
theorem dX12_gathered_7 : decode cX12_gathered 7 = .ok (.iload 4, 2) := by decide +kernel
theorem dX12_gathered_9 : decode cX12_gathered 9 = .ok (.aload_n 0, 1) := by decide +kernel
theorem dX12_gathered_10 : decode cX12_gathered 10 = .ok (.getfield 141, 3) := by decide +kernel
theorem dX12_gathered_13 : decode cX12_gathered 13 = .ok (.if_icmp .ge 151, 3) := by decide +kernel
theorem dX12_gathered_16 : decode cX12_gathered 16 = .ok (.aload_n 0, 1) := by decide +kernel
theorem dX12_gathered_17 : decode cX12_gathered 17 = .ok (.getfield 28, 3) := by decide +kernel
theorem dX12_gathered_20 : decode cX12_gathered 20 = .ok (.iload 4, 2) := by decide +kernel
theorem dX12_gathered_22 : decode cX12_gathered 22 = .ok (.iaload, 1) := by decide +kernel
theorem dX12_gathered_23 : decode cX12_gathered 23 = .ok (.istore 5, 2) := by decide +kernel
theorem dX12_gathered_25 : decode cX12_gathered 25 = .ok (.aload_n 0, 1) := by decide +kernel
theorem dX12_gathered_26 : decode cX12_gathered 26 = .ok (.getfield 24, 3) := by decide +kernel
theorem dX12_gathered_29 : decode cX12_gathered 29 = .ok (.iload 5, 2) := by decide +kernel
theorem dX12_gathered_31 : decode cX12_gathered 31 = .ok (.iaload, 1) := by decide +kernel
theorem dX12_gathered_32 : decode cX12_gathered 32 = .ok (.istore 6, 2) := by decide +kernel
theorem dX12_gathered_34 : decode cX12_gathered 34 = .ok (.aload_n 0, 1) := by decide +kernel
theorem dX12_gathered_35 : decode cX12_gathered 35 = .ok (.getfield 24, 3) := by decide +kernel
theorem dX12_gathered_38 : decode cX12_gathered 38 = .ok (.iload 5, 2) := by decide +kernel
theorem dX12_gathered_40 : decode cX12_gathered 40 = .ok (.iconst 0, 1) := by decide +kernel
theorem dX12_gathered_41 : decode cX12_gathered 41 = .ok (.iastore, 1) := by decide +kernel
theorem dX12_gathered_42 : decode cX12_gathered 42 = .ok (.iload 6, 2) := by decide +kernel
theorem dX12_gathered_44 : decode cX12_gathered 44 = .ok (.ifCond .ne 6, 3) := by decide +kernel
theorem dX12_gathered_47 : decode cX12_gathered 47 = .ok (.goto 111, 3) := by decide +kernel
theorem dX12_gathered_50 : decode cX12_gathered 50 = .ok (.iload 5, 2) := by decide +kernel
theorem dX12_gathered_52 : decode cX12_gathered 52 = .ok (.sipush 6561, 3) := by decide +kernel
theorem dX12_gathered_55 : decode cX12_gathered 55 = .ok (.idiv, 1) := by decide +kernel
theorem dX12_gathered_56 : decode cX12_gathered 56 = .ok (.istore 7, 2) := by decide +kernel
theorem dX12_gathered_58 : decode cX12_gathered 58 = .ok (.iload 5, 2) := by decide +kernel
theorem dX12_gathered_60 : decode cX12_gathered 60 = .ok (.bipush 81, 2) := by decide +kernel
theorem dX12_gathered_62 : decode cX12_gathered 62 = .ok (.idiv, 1) := by decide +kernel
theorem dX12_gathered_63 : decode cX12_gathered 63 = .ok (.bipush 81, 2) := by decide +kernel
theorem dX12_gathered_65 : decode cX12_gathered 65 = .ok (.irem, 1) := by decide +kernel
theorem dX12_gathered_66 : decode cX12_gathered 66 = .ok (.istore 8, 2) := by decide +kernel
theorem dX12_gathered_68 : decode cX12_gathered 68 = .ok (.iload 5, 2) := by decide +kernel
theorem dX12_gathered_70 : decode cX12_gathered 70 = .ok (.bipush 81, 2) := by decide +kernel
theorem dX12_gathered_72 : decode cX12_gathered 72 = .ok (.irem, 1) := by decide +kernel
theorem dX12_gathered_73 : decode cX12_gathered 73 = .ok (.istore 9, 2) := by decide +kernel
theorem dX12_gathered_75 : decode cX12_gathered 75 = .ok (.iload_n 3, 1) := by decide +kernel
theorem dX12_gathered_76 : decode cX12_gathered 76 = .ok (.ifCond .eq 35, 3) := by decide +kernel
theorem dX12_gathered_79 : decode cX12_gathered 79 = .ok (.iload_n 2, 1) := by decide +kernel
theorem dX12_gathered_80 : decode cX12_gathered 80 = .ok (.sipush 300, 3) := by decide +kernel
theorem dX12_gathered_83 : decode cX12_gathered 83 = .ok (.if_icmp .ge 28, 3) := by decide +kernel
theorem dX12_gathered_86 : decode cX12_gathered 86 = .ok (.iload 7, 2) := by decide +kernel
theorem dX12_gathered_88 : decode cX12_gathered 88 = .ok (.bipush 40, 2) := by decide +kernel
theorem dX12_gathered_90 : decode cX12_gathered 90 = .ok (.if_icmp .gt 21, 3) := by decide +kernel
theorem dX12_gathered_93 : decode cX12_gathered 93 = .ok (.iload 8, 2) := by decide +kernel
theorem dX12_gathered_95 : decode cX12_gathered 95 = .ok (.bipush 40, 2) := by decide +kernel
theorem dX12_gathered_97 : decode cX12_gathered 97 = .ok (.if_icmp .gt 14, 3) := by decide +kernel
theorem dX12_gathered_100 : decode cX12_gathered 100 = .ok (.iload 9, 2) := by decide +kernel
theorem dX12_gathered_102 : decode cX12_gathered 102 = .ok (.bipush 40, 2) := by decide +kernel
theorem dX12_gathered_104 : decode cX12_gathered 104 = .ok (.if_icmp .gt 7, 3) := by decide +kernel
theorem dX12_gathered_107 : decode cX12_gathered 107 = .ok (.iconst 1, 1) := by decide +kernel
theorem dX12_gathered_108 : decode cX12_gathered 108 = .ok (.goto 4, 3) := by decide +kernel
theorem dX12_gathered_111 : decode cX12_gathered 111 = .ok (.iconst 0, 1) := by decide +kernel
theorem dX12_gathered_112 : decode cX12_gathered 112 = .ok (.istore_n 3, 1) := by decide +kernel
theorem dX12_gathered_113 : decode cX12_gathered 113 = .ok (.iload_n 3, 1) := by decide +kernel
theorem dX12_gathered_114 : decode cX12_gathered 114 = .ok (.ifCond .ne 6, 3) := by decide +kernel
theorem dX12_gathered_117 : decode cX12_gathered 117 = .ok (.goto 41, 3) := by decide +kernel
theorem dX12_gathered_120 : decode cX12_gathered 120 = .ok (.aload_n 0, 1) := by decide +kernel
theorem dX12_gathered_121 : decode cX12_gathered 121 = .ok (.getfield 17, 3) := by decide +kernel
theorem dX12_gathered_124 : decode cX12_gathered 124 = .ok (.sipush 300, 3) := by decide +kernel
theorem dX12_gathered_127 : decode cX12_gathered 127 = .ok (.iload_n 1, 1) := by decide +kernel
theorem dX12_gathered_128 : decode cX12_gathered 128 = .ok (.imul, 1) := by decide +kernel
theorem dX12_gathered_129 : decode cX12_gathered 129 = .ok (.iload_n 2, 1) := by decide +kernel
theorem dX12_gathered_130 : decode cX12_gathered 130 = .ok (.iadd, 1) := by decide +kernel
theorem dX12_gathered_131 : decode cX12_gathered 131 = .ok (.iload 7, 2) := by decide +kernel
theorem dX12_gathered_133 : decode cX12_gathered 133 = .ok (.iload 8, 2) := by decide +kernel
theorem dX12_gathered_135 : decode cX12_gathered 135 = .ok (.iload 9, 2) := by decide +kernel
theorem dX12_gathered_137 : decode cX12_gathered 137 = .ok (.invokestatic 144, 3) := by decide +kernel
theorem dX12_gathered_140 : decode cX12_gathered 140 = .ok (.iastore, 1) := by decide +kernel
theorem dX12_gathered_141 : decode cX12_gathered 141 = .ok (.aload_n 0, 1) := by decide +kernel
theorem dX12_gathered_142 : decode cX12_gathered 142 = .ok (.getfield 20, 3) := by decide +kernel
theorem dX12_gathered_145 : decode cX12_gathered 145 = .ok (.sipush 300, 3) := by decide +kernel
theorem dX12_gathered_148 : decode cX12_gathered 148 = .ok (.iload_n 1, 1) := by decide +kernel
theorem dX12_gathered_149 : decode cX12_gathered 149 = .ok (.imul, 1) := by decide +kernel
theorem dX12_gathered_150 : decode cX12_gathered 150 = .ok (.iload_n 2, 1) := by decide +kernel
theorem dX12_gathered_151 : decode cX12_gathered 151 = .ok (.iadd, 1) := by decide +kernel
theorem dX12_gathered_152 : decode cX12_gathered 152 = .ok (.iload 6, 2) := by decide +kernel
theorem dX12_gathered_154 : decode cX12_gathered 154 = .ok (.iastore, 1) := by decide +kernel
theorem dX12_gathered_155 : decode cX12_gathered 155 = .ok (.iinc 2 1, 3) := by decide +kernel
theorem dX12_gathered_158 : decode cX12_gathered 158 = .ok (.iinc 4 1, 3) := by decide +kernel
theorem dX12_gathered_161 : decode cX12_gathered 161 = .ok (.goto (-154), 3) := by decide +kernel
theorem dX12_gathered_164 : decode cX12_gathered 164 = .ok (.aload_n 0, 1) := by decide +kernel
theorem dX12_gathered_165 : decode cX12_gathered 165 = .ok (.iconst 0, 1) := by decide +kernel
theorem dX12_gathered_166 : decode cX12_gathered 166 = .ok (.putfield 141, 3) := by decide +kernel
theorem dX12_gathered_169 : decode cX12_gathered 169 = .ok (.aload_n 0, 1) := by decide +kernel
theorem dX12_gathered_170 : decode cX12_gathered 170 = .ok (.getfield 13, 3) := by decide +kernel
theorem dX12_gathered_173 : decode cX12_gathered 173 = .ok (.iload_n 1, 1) := by decide +kernel
theorem dX12_gathered_174 : decode cX12_gathered 174 = .ok (.iload_n 3, 1) := by decide +kernel
theorem dX12_gathered_175 : decode cX12_gathered 175 = .ok (.ifCond .eq 7, 3) := by decide +kernel
theorem dX12_gathered_178 : decode cX12_gathered 178 = .ok (.iload_n 2, 1) := by decide +kernel
theorem dX12_gathered_179 : decode cX12_gathered 179 = .ok (.goto 4, 3) := by decide +kernel
theorem dX12_gathered_182 : decode cX12_gathered 182 = .ok (.iconst 0, 1) := by decide +kernel
theorem dX12_gathered_183 : decode cX12_gathered 183 = .ok (.iastore, 1) := by decide +kernel
theorem dX12_gathered_184 : decode cX12_gathered 184 = .ok (.aload_n 0, 1) := by decide +kernel
theorem dX12_gathered_185 : decode cX12_gathered 185 = .ok (.iload_n 1, 1) := by decide +kernel
theorem dX12_gathered_186 : decode cX12_gathered 186 = .ok (.invokevirtual 148, 3) := by decide +kernel
theorem dX12_gathered_189 : decode cX12_gathered 189 = .ok (.iload_n 3, 1) := by decide +kernel
theorem dX12_gathered_190 : decode cX12_gathered 190 = .ok (.ireturn, 1) := by decide +kernel
theorem dX12_sort_0 : decode cX12_sort 0 = .ok (.iconst 1, 1) := by decide +kernel
theorem dX12_sort_1 : decode cX12_sort 1 = .ok (.istore_n 2, 1) := by decide +kernel
theorem dX12_sort_2 : decode cX12_sort 2 = .ok (.iload_n 2, 1) := by decide +kernel
theorem dX12_sort_3 : decode cX12_sort 3 = .ok (.aload_n 0, 1) := by decide +kernel
theorem dX12_sort_4 : decode cX12_sort 4 = .ok (.getfield 13, 3) := by decide +kernel
theorem dX12_sort_7 : decode cX12_sort 7 = .ok (.iload_n 1, 1) := by decide +kernel
theorem dX12_sort_8 : decode cX12_sort 8 = .ok (.iaload, 1) := by decide +kernel
theorem dX12_sort_9 : decode cX12_sort 9 = .ok (.if_icmp .ge 124, 3) := by decide +kernel
theorem dX12_sort_12 : decode cX12_sort 12 = .ok (.aload_n 0, 1) := by decide +kernel
theorem dX12_sort_13 : decode cX12_sort 13 = .ok (.iload_n 1, 1) := by decide +kernel
theorem dX12_sort_14 : decode cX12_sort 14 = .ok (.iload_n 2, 1) := by decide +kernel
theorem dX12_sort_15 : decode cX12_sort 15 = .ok (.invokevirtual 123, 3) := by decide +kernel
theorem dX12_sort_18 : decode cX12_sort 18 = .ok (.istore_n 3, 1) := by decide +kernel
theorem dX12_sort_19 : decode cX12_sort 19 = .ok (.aload_n 0, 1) := by decide +kernel
theorem dX12_sort_20 : decode cX12_sort 20 = .ok (.iload_n 1, 1) := by decide +kernel
theorem dX12_sort_21 : decode cX12_sort 21 = .ok (.iload_n 2, 1) := by decide +kernel
theorem dX12_sort_22 : decode cX12_sort 22 = .ok (.invokevirtual 126, 3) := by decide +kernel
theorem dX12_sort_25 : decode cX12_sort 25 = .ok (.istore 4, 2) := by decide +kernel
theorem dX12_sort_27 : decode cX12_sort 27 = .ok (.iload_n 2, 1) := by decide +kernel
theorem dX12_sort_28 : decode cX12_sort 28 = .ok (.istore 5, 2) := by decide +kernel
theorem dX12_sort_30 : decode cX12_sort 30 = .ok (.iload 5, 2) := by decide +kernel
theorem dX12_sort_32 : decode cX12_sort 32 = .ok (.ifCond .le 66, 3) := by decide +kernel
theorem dX12_sort_35 : decode cX12_sort 35 = .ok (.aload_n 0, 1) := by decide +kernel
theorem dX12_sort_36 : decode cX12_sort 36 = .ok (.iload_n 1, 1) := by decide +kernel
theorem dX12_sort_37 : decode cX12_sort 37 = .ok (.iload 5, 2) := by decide +kernel
theorem dX12_sort_39 : decode cX12_sort 39 = .ok (.iconst 1, 1) := by decide +kernel
theorem dX12_sort_40 : decode cX12_sort 40 = .ok (.isub, 1) := by decide +kernel
theorem dX12_sort_41 : decode cX12_sort 41 = .ok (.invokevirtual 123, 3) := by decide +kernel
theorem dX12_sort_44 : decode cX12_sort 44 = .ok (.iload_n 3, 1) := by decide +kernel
theorem dX12_sort_45 : decode cX12_sort 45 = .ok (.if_icmp .le 53, 3) := by decide +kernel
theorem dX12_sort_48 : decode cX12_sort 48 = .ok (.aload_n 0, 1) := by decide +kernel
theorem dX12_sort_49 : decode cX12_sort 49 = .ok (.getfield 17, 3) := by decide +kernel
theorem dX12_sort_52 : decode cX12_sort 52 = .ok (.sipush 300, 3) := by decide +kernel
theorem dX12_sort_55 : decode cX12_sort 55 = .ok (.iload_n 1, 1) := by decide +kernel
theorem dX12_sort_56 : decode cX12_sort 56 = .ok (.imul, 1) := by decide +kernel
theorem dX12_sort_57 : decode cX12_sort 57 = .ok (.iload 5, 2) := by decide +kernel
theorem dX12_sort_59 : decode cX12_sort 59 = .ok (.iadd, 1) := by decide +kernel
theorem dX12_sort_60 : decode cX12_sort 60 = .ok (.aload_n 0, 1) := by decide +kernel
theorem dX12_sort_61 : decode cX12_sort 61 = .ok (.iload_n 1, 1) := by decide +kernel
theorem dX12_sort_62 : decode cX12_sort 62 = .ok (.iload 5, 2) := by decide +kernel
theorem dX12_sort_64 : decode cX12_sort 64 = .ok (.iconst 1, 1) := by decide +kernel
theorem dX12_sort_65 : decode cX12_sort 65 = .ok (.isub, 1) := by decide +kernel
theorem dX12_sort_66 : decode cX12_sort 66 = .ok (.invokevirtual 123, 3) := by decide +kernel
theorem dX12_sort_69 : decode cX12_sort 69 = .ok (.iastore, 1) := by decide +kernel
theorem dX12_sort_70 : decode cX12_sort 70 = .ok (.aload_n 0, 1) := by decide +kernel
theorem dX12_sort_71 : decode cX12_sort 71 = .ok (.getfield 20, 3) := by decide +kernel
theorem dX12_sort_74 : decode cX12_sort 74 = .ok (.sipush 300, 3) := by decide +kernel
theorem dX12_sort_77 : decode cX12_sort 77 = .ok (.iload_n 1, 1) := by decide +kernel
theorem dX12_sort_78 : decode cX12_sort 78 = .ok (.imul, 1) := by decide +kernel
theorem dX12_sort_79 : decode cX12_sort 79 = .ok (.iload 5, 2) := by decide +kernel
theorem dX12_sort_81 : decode cX12_sort 81 = .ok (.iadd, 1) := by decide +kernel
theorem dX12_sort_82 : decode cX12_sort 82 = .ok (.aload_n 0, 1) := by decide +kernel
theorem dX12_sort_83 : decode cX12_sort 83 = .ok (.iload_n 1, 1) := by decide +kernel
theorem dX12_sort_84 : decode cX12_sort 84 = .ok (.iload 5, 2) := by decide +kernel
theorem dX12_sort_86 : decode cX12_sort 86 = .ok (.iconst 1, 1) := by decide +kernel
theorem dX12_sort_87 : decode cX12_sort 87 = .ok (.isub, 1) := by decide +kernel
theorem dX12_sort_88 : decode cX12_sort 88 = .ok (.invokevirtual 126, 3) := by decide +kernel
theorem dX12_sort_91 : decode cX12_sort 91 = .ok (.iastore, 1) := by decide +kernel
theorem dX12_sort_92 : decode cX12_sort 92 = .ok (.iinc 5 (-1), 3) := by decide +kernel
theorem dX12_sort_95 : decode cX12_sort 95 = .ok (.goto (-65), 3) := by decide +kernel
theorem dX12_sort_98 : decode cX12_sort 98 = .ok (.aload_n 0, 1) := by decide +kernel
theorem dX12_sort_99 : decode cX12_sort 99 = .ok (.getfield 17, 3) := by decide +kernel
theorem dX12_sort_102 : decode cX12_sort 102 = .ok (.sipush 300, 3) := by decide +kernel
theorem dX12_sort_105 : decode cX12_sort 105 = .ok (.iload_n 1, 1) := by decide +kernel
theorem dX12_sort_106 : decode cX12_sort 106 = .ok (.imul, 1) := by decide +kernel
theorem dX12_sort_107 : decode cX12_sort 107 = .ok (.iload 5, 2) := by decide +kernel
theorem dX12_sort_109 : decode cX12_sort 109 = .ok (.iadd, 1) := by decide +kernel
theorem dX12_sort_110 : decode cX12_sort 110 = .ok (.iload_n 3, 1) := by decide +kernel
theorem dX12_sort_111 : decode cX12_sort 111 = .ok (.iastore, 1) := by decide +kernel
theorem dX12_sort_112 : decode cX12_sort 112 = .ok (.aload_n 0, 1) := by decide +kernel
theorem dX12_sort_113 : decode cX12_sort 113 = .ok (.getfield 20, 3) := by decide +kernel
theorem dX12_sort_116 : decode cX12_sort 116 = .ok (.sipush 300, 3) := by decide +kernel
theorem dX12_sort_119 : decode cX12_sort 119 = .ok (.iload_n 1, 1) := by decide +kernel
theorem dX12_sort_120 : decode cX12_sort 120 = .ok (.imul, 1) := by decide +kernel
theorem dX12_sort_121 : decode cX12_sort 121 = .ok (.iload 5, 2) := by decide +kernel
theorem dX12_sort_123 : decode cX12_sort 123 = .ok (.iadd, 1) := by decide +kernel
theorem dX12_sort_124 : decode cX12_sort 124 = .ok (.iload 4, 2) := by decide +kernel
theorem dX12_sort_126 : decode cX12_sort 126 = .ok (.iastore, 1) := by decide +kernel
theorem dX12_sort_127 : decode cX12_sort 127 = .ok (.iinc 2 1, 3) := by decide +kernel
theorem dX12_sort_130 : decode cX12_sort 130 = .ok (.goto (-128), 3) := by decide +kernel
theorem dX12_sort_133 : decode cX12_sort 133 = .ok (.return_, 1) := by decide +kernel
theorem dX12_gathersAll_0 : decode cX12_gathersAll 0 = .ok (.iconst 0, 1) := by decide +kernel
theorem dX12_gathersAll_1 : decode cX12_gathersAll 1 = .ok (.istore_n 3, 1) := by decide +kernel
theorem dX12_gathersAll_2 : decode cX12_gathersAll 2 = .ok (.iload_n 3, 1) := by decide +kernel
theorem dX12_gathersAll_3 : decode cX12_gathersAll 3 = .ok (.aload_n 0, 1) := by decide +kernel
theorem dX12_gathersAll_4 : decode cX12_gathersAll 4 = .ok (.getfield 13, 3) := by decide +kernel
theorem dX12_gathersAll_7 : decode cX12_gathersAll 7 = .ok (.iload_n 1, 1) := by decide +kernel
theorem dX12_gathersAll_8 : decode cX12_gathersAll 8 = .ok (.iaload, 1) := by decide +kernel
theorem dX12_gathersAll_9 : decode cX12_gathersAll 9 = .ok (.if_icmp .ge 51, 3) := by decide +kernel
theorem dX12_gathersAll_12 : decode cX12_gathersAll 12 = .ok (.aload_n 0, 1) := by decide +kernel
theorem dX12_gathersAll_13 : decode cX12_gathersAll 13 = .ok (.aload_n 0, 1) := by decide +kernel
theorem dX12_gathersAll_14 : decode cX12_gathersAll 14 = .ok (.iload_n 1, 1) := by decide +kernel
theorem dX12_gathersAll_15 : decode cX12_gathersAll 15 = .ok (.iload_n 3, 1) := by decide +kernel
theorem dX12_gathersAll_16 : decode cX12_gathersAll 16 = .ok (.invokevirtual 123, 3) := by decide +kernel
theorem dX12_gathersAll_19 : decode cX12_gathersAll 19 = .ok (.iconst 0, 1) := by decide +kernel
theorem dX12_gathersAll_20 : decode cX12_gathersAll 20 = .ok (.invokestatic 119, 3) := by decide +kernel
theorem dX12_gathersAll_23 : decode cX12_gathersAll 23 = .ok (.aload_n 0, 1) := by decide +kernel
theorem dX12_gathersAll_24 : decode cX12_gathersAll 24 = .ok (.iload_n 1, 1) := by decide +kernel
theorem dX12_gathersAll_25 : decode cX12_gathersAll 25 = .ok (.iload_n 3, 1) := by decide +kernel
theorem dX12_gathersAll_26 : decode cX12_gathersAll 26 = .ok (.invokevirtual 123, 3) := by decide +kernel
theorem dX12_gathersAll_29 : decode cX12_gathersAll 29 = .ok (.iconst 1, 1) := by decide +kernel
theorem dX12_gathersAll_30 : decode cX12_gathersAll 30 = .ok (.invokestatic 119, 3) := by decide +kernel
theorem dX12_gathersAll_33 : decode cX12_gathersAll 33 = .ok (.aload_n 0, 1) := by decide +kernel
theorem dX12_gathersAll_34 : decode cX12_gathersAll 34 = .ok (.iload_n 1, 1) := by decide +kernel
theorem dX12_gathersAll_35 : decode cX12_gathersAll 35 = .ok (.iload_n 3, 1) := by decide +kernel
theorem dX12_gathersAll_36 : decode cX12_gathersAll 36 = .ok (.invokevirtual 123, 3) := by decide +kernel
theorem dX12_gathersAll_39 : decode cX12_gathersAll 39 = .ok (.iconst 2, 1) := by decide +kernel
theorem dX12_gathersAll_40 : decode cX12_gathersAll 40 = .ok (.invokestatic 119, 3) := by decide +kernel
theorem dX12_gathersAll_43 : decode cX12_gathersAll 43 = .ok (.iload_n 2, 1) := by decide +kernel
theorem dX12_gathersAll_44 : decode cX12_gathersAll 44 = .ok (.aload_n 0, 1) := by decide +kernel
theorem dX12_gathersAll_45 : decode cX12_gathersAll 45 = .ok (.iload_n 1, 1) := by decide +kernel
theorem dX12_gathersAll_46 : decode cX12_gathersAll 46 = .ok (.iload_n 3, 1) := by decide +kernel
theorem dX12_gathersAll_47 : decode cX12_gathersAll 47 = .ok (.invokevirtual 126, 3) := by decide +kernel
theorem dX12_gathersAll_50 : decode cX12_gathersAll 50 = .ok (.imul, 1) := by decide +kernel
theorem dX12_gathersAll_51 : decode cX12_gathersAll 51 = .ok (.invokevirtual 152, 3) := by decide +kernel
theorem dX12_gathersAll_54 : decode cX12_gathersAll 54 = .ok (.iinc 3 1, 3) := by decide +kernel
theorem dX12_gathersAll_57 : decode cX12_gathersAll 57 = .ok (.goto (-55), 3) := by decide +kernel
theorem dX12_gathersAll_60 : decode cX12_gathersAll 60 = .ok (.return_, 1) := by decide +kernel
theorem dX12_sum_0 : decode cX12_sum 0 = .ok (.aload_n 0, 1) := by decide +kernel
theorem dX12_sum_1 : decode cX12_sum 1 = .ok (.iload_n 2, 1) := by decide +kernel
theorem dX12_sum_2 : decode cX12_sum 2 = .ok (.iconst 1, 1) := by decide +kernel
theorem dX12_sum_3 : decode cX12_sum 3 = .ok (.invokevirtual 156, 3) := by decide +kernel
theorem dX12_sum_6 : decode cX12_sum 6 = .ok (.aload_n 0, 1) := by decide +kernel
theorem dX12_sum_7 : decode cX12_sum 7 = .ok (.iload_n 3, 1) := by decide +kernel
theorem dX12_sum_8 : decode cX12_sum 8 = .ok (.iload 4, 2) := by decide +kernel
theorem dX12_sum_10 : decode cX12_sum 10 = .ok (.invokevirtual 156, 3) := by decide +kernel
theorem dX12_sum_13 : decode cX12_sum 13 = .ok (.aload_n 0, 1) := by decide +kernel
theorem dX12_sum_14 : decode cX12_sum 14 = .ok (.iload_n 1, 1) := by decide +kernel
theorem dX12_sum_15 : decode cX12_sum 15 = .ok (.invokevirtual 160, 3) := by decide +kernel
theorem dX12_sum_18 : decode cX12_sum 18 = .ok (.ireturn, 1) := by decide +kernel
theorem dX12_gathersTerm_0 : decode cX12_gathersTerm 0 = .ok (.iconst 0, 1) := by decide +kernel
theorem dX12_gathersTerm_1 : decode cX12_gathersTerm 1 = .ok (.istore 4, 2) := by decide +kernel
theorem dX12_gathersTerm_3 : decode cX12_gathersTerm 3 = .ok (.iload 4, 2) := by decide +kernel
theorem dX12_gathersTerm_5 : decode cX12_gathersTerm 5 = .ok (.aload_n 0, 1) := by decide +kernel
theorem dX12_gathersTerm_6 : decode cX12_gathersTerm 6 = .ok (.getfield 13, 3) := by decide +kernel
theorem dX12_gathersTerm_9 : decode cX12_gathersTerm 9 = .ok (.iload_n 3, 1) := by decide +kernel
theorem dX12_gathersTerm_10 : decode cX12_gathersTerm 10 = .ok (.iaload, 1) := by decide +kernel
theorem dX12_gathersTerm_11 : decode cX12_gathersTerm 11 = .ok (.if_icmp .ge 67, 3) := by decide +kernel
theorem dX12_gathersTerm_14 : decode cX12_gathersTerm 14 = .ok (.aload_n 0, 1) := by decide +kernel
theorem dX12_gathersTerm_15 : decode cX12_gathersTerm 15 = .ok (.iload_n 3, 1) := by decide +kernel
theorem dX12_gathersTerm_16 : decode cX12_gathersTerm 16 = .ok (.iload 4, 2) := by decide +kernel
theorem dX12_gathersTerm_18 : decode cX12_gathersTerm 18 = .ok (.invokevirtual 123, 3) := by decide +kernel
theorem dX12_gathersTerm_21 : decode cX12_gathersTerm 21 = .ok (.istore 5, 2) := by decide +kernel
theorem dX12_gathersTerm_23 : decode cX12_gathersTerm 23 = .ok (.aload_n 0, 1) := by decide +kernel
theorem dX12_gathersTerm_24 : decode cX12_gathersTerm 24 = .ok (.iload_n 1, 1) := by decide +kernel
theorem dX12_gathersTerm_25 : decode cX12_gathersTerm 25 = .ok (.iconst 0, 1) := by decide +kernel
theorem dX12_gathersTerm_26 : decode cX12_gathersTerm 26 = .ok (.invokestatic 119, 3) := by decide +kernel
theorem dX12_gathersTerm_29 : decode cX12_gathersTerm 29 = .ok (.iload 5, 2) := by decide +kernel
theorem dX12_gathersTerm_31 : decode cX12_gathersTerm 31 = .ok (.iconst 0, 1) := by decide +kernel
theorem dX12_gathersTerm_32 : decode cX12_gathersTerm 32 = .ok (.invokestatic 119, 3) := by decide +kernel
theorem dX12_gathersTerm_35 : decode cX12_gathersTerm 35 = .ok (.iadd, 1) := by decide +kernel
theorem dX12_gathersTerm_36 : decode cX12_gathersTerm 36 = .ok (.iload_n 1, 1) := by decide +kernel
theorem dX12_gathersTerm_37 : decode cX12_gathersTerm 37 = .ok (.iconst 1, 1) := by decide +kernel
theorem dX12_gathersTerm_38 : decode cX12_gathersTerm 38 = .ok (.invokestatic 119, 3) := by decide +kernel
theorem dX12_gathersTerm_41 : decode cX12_gathersTerm 41 = .ok (.iload 5, 2) := by decide +kernel
theorem dX12_gathersTerm_43 : decode cX12_gathersTerm 43 = .ok (.iconst 1, 1) := by decide +kernel
theorem dX12_gathersTerm_44 : decode cX12_gathersTerm 44 = .ok (.invokestatic 119, 3) := by decide +kernel
theorem dX12_gathersTerm_47 : decode cX12_gathersTerm 47 = .ok (.iadd, 1) := by decide +kernel
theorem dX12_gathersTerm_48 : decode cX12_gathersTerm 48 = .ok (.iload_n 1, 1) := by decide +kernel
theorem dX12_gathersTerm_49 : decode cX12_gathersTerm 49 = .ok (.iconst 2, 1) := by decide +kernel
theorem dX12_gathersTerm_50 : decode cX12_gathersTerm 50 = .ok (.invokestatic 119, 3) := by decide +kernel
theorem dX12_gathersTerm_53 : decode cX12_gathersTerm 53 = .ok (.iload 5, 2) := by decide +kernel
theorem dX12_gathersTerm_55 : decode cX12_gathersTerm 55 = .ok (.iconst 2, 1) := by decide +kernel
theorem dX12_gathersTerm_56 : decode cX12_gathersTerm 56 = .ok (.invokestatic 119, 3) := by decide +kernel
theorem dX12_gathersTerm_59 : decode cX12_gathersTerm 59 = .ok (.iadd, 1) := by decide +kernel
theorem dX12_gathersTerm_60 : decode cX12_gathersTerm 60 = .ok (.iload_n 2, 1) := by decide +kernel
theorem dX12_gathersTerm_61 : decode cX12_gathersTerm 61 = .ok (.aload_n 0, 1) := by decide +kernel
theorem dX12_gathersTerm_62 : decode cX12_gathersTerm 62 = .ok (.iload_n 3, 1) := by decide +kernel
theorem dX12_gathersTerm_63 : decode cX12_gathersTerm 63 = .ok (.iload 4, 2) := by decide +kernel
theorem dX12_gathersTerm_65 : decode cX12_gathersTerm 65 = .ok (.invokevirtual 126, 3) := by decide +kernel
theorem dX12_gathersTerm_68 : decode cX12_gathersTerm 68 = .ok (.imul, 1) := by decide +kernel
theorem dX12_gathersTerm_69 : decode cX12_gathersTerm 69 = .ok (.invokevirtual 152, 3) := by decide +kernel
theorem dX12_gathersTerm_72 : decode cX12_gathersTerm 72 = .ok (.iinc 4 1, 3) := by decide +kernel
theorem dX12_gathersTerm_75 : decode cX12_gathersTerm 75 = .ok (.goto (-72), 3) := by decide +kernel
theorem dX12_gathersTerm_78 : decode cX12_gathersTerm 78 = .ok (.return_, 1) := by decide +kernel
theorem dX12_product_0 : decode cX12_product 0 = .ok (.iconst 0, 1) := by decide +kernel
theorem dX12_product_1 : decode cX12_product 1 = .ok (.istore 4, 2) := by decide +kernel
theorem dX12_product_3 : decode cX12_product 3 = .ok (.iload 4, 2) := by decide +kernel
theorem dX12_product_5 : decode cX12_product 5 = .ok (.aload_n 0, 1) := by decide +kernel
theorem dX12_product_6 : decode cX12_product 6 = .ok (.getfield 13, 3) := by decide +kernel
theorem dX12_product_9 : decode cX12_product 9 = .ok (.iload_n 2, 1) := by decide +kernel
theorem dX12_product_10 : decode cX12_product 10 = .ok (.iaload, 1) := by decide +kernel
theorem dX12_product_11 : decode cX12_product 11 = .ok (.if_icmp .ge 28, 3) := by decide +kernel
theorem dX12_product_14 : decode cX12_product 14 = .ok (.aload_n 0, 1) := by decide +kernel
theorem dX12_product_15 : decode cX12_product 15 = .ok (.aload_n 0, 1) := by decide +kernel
theorem dX12_product_16 : decode cX12_product 16 = .ok (.iload_n 2, 1) := by decide +kernel
theorem dX12_product_17 : decode cX12_product 17 = .ok (.iload 4, 2) := by decide +kernel
theorem dX12_product_19 : decode cX12_product 19 = .ok (.invokevirtual 123, 3) := by decide +kernel
theorem dX12_product_22 : decode cX12_product 22 = .ok (.aload_n 0, 1) := by decide +kernel
theorem dX12_product_23 : decode cX12_product 23 = .ok (.iload_n 2, 1) := by decide +kernel
theorem dX12_product_24 : decode cX12_product 24 = .ok (.iload 4, 2) := by decide +kernel
theorem dX12_product_26 : decode cX12_product 26 = .ok (.invokevirtual 126, 3) := by decide +kernel
theorem dX12_product_29 : decode cX12_product 29 = .ok (.iload_n 3, 1) := by decide +kernel
theorem dX12_product_30 : decode cX12_product 30 = .ok (.invokevirtual 164, 3) := by decide +kernel
theorem dX12_product_33 : decode cX12_product 33 = .ok (.iinc 4 1, 3) := by decide +kernel
theorem dX12_product_36 : decode cX12_product 36 = .ok (.goto (-33), 3) := by decide +kernel
theorem dX12_product_39 : decode cX12_product 39 = .ok (.aload_n 0, 1) := by decide +kernel
theorem dX12_product_40 : decode cX12_product 40 = .ok (.iload_n 1, 1) := by decide +kernel
theorem dX12_product_41 : decode cX12_product 41 = .ok (.invokevirtual 160, 3) := by decide +kernel
theorem dX12_product_44 : decode cX12_product 44 = .ok (.ireturn, 1) := by decide +kernel
theorem dX12_number_0 : decode cX12_number 0 = .ok (.aload_n 0, 1) := by decide +kernel
theorem dX12_number_1 : decode cX12_number 1 = .ok (.iload_n 2, 1) := by decide +kernel
theorem dX12_number_2 : decode cX12_number 2 = .ok (.invokevirtual 138, 3) := by decide +kernel
theorem dX12_number_5 : decode cX12_number 5 = .ok (.ifCond .eq 15, 3) := by decide +kernel
theorem dX12_number_8 : decode cX12_number 8 = .ok (.aload_n 0, 1) := by decide +kernel
theorem dX12_number_9 : decode cX12_number 9 = .ok (.iconst 0, 1) := by decide +kernel
theorem dX12_number_10 : decode cX12_number 10 = .ok (.iconst 0, 1) := by decide +kernel
theorem dX12_number_11 : decode cX12_number 11 = .ok (.iconst 0, 1) := by decide +kernel
theorem dX12_number_12 : decode cX12_number 12 = .ok (.aload_n 0, 1) := by decide +kernel
theorem dX12_number_13 : decode cX12_number 13 = .ok (.iload_n 2, 1) := by decide +kernel
theorem dX12_number_14 : decode cX12_number 14 = .ok (.invokevirtual 138, 3) := by decide +kernel
theorem dX12_number_17 : decode cX12_number 17 = .ok (.invokevirtual 152, 3) := by decide +kernel
theorem dX12_number_20 : decode cX12_number 20 = .ok (.aload_n 0, 1) := by decide +kernel
theorem dX12_number_21 : decode cX12_number 21 = .ok (.iload_n 1, 1) := by decide +kernel
theorem dX12_number_22 : decode cX12_number 22 = .ok (.invokevirtual 160, 3) := by decide +kernel
theorem dX12_number_25 : decode cX12_number 25 = .ok (.istore_n 3, 1) := by decide +kernel
theorem dX12_number_26 : decode cX12_number 26 = .ok (.return_, 1) := by decide +kernel
theorem dX12_power_0 : decode cX12_power 0 = .ok (.aload_n 0, 1) := by decide +kernel
theorem dX12_power_1 : decode cX12_power 1 = .ok (.bipush 52, 2) := by decide +kernel
theorem dX12_power_3 : decode cX12_power 3 = .ok (.iload_n 2, 1) := by decide +kernel
theorem dX12_power_4 : decode cX12_power 4 = .ok (.invokevirtual 168, 3) := by decide +kernel
theorem dX12_power_7 : decode cX12_power 7 = .ok (.aload_n 0, 1) := by decide +kernel
theorem dX12_power_8 : decode cX12_power 8 = .ok (.iload_n 1, 1) := by decide +kernel
theorem dX12_power_9 : decode cX12_power 9 = .ok (.iconst 1, 1) := by decide +kernel
theorem dX12_power_10 : decode cX12_power 10 = .ok (.invokevirtual 171, 3) := by decide +kernel
theorem dX12_power_13 : decode cX12_power 13 = .ok (.iconst 1, 1) := by decide +kernel
theorem dX12_power_14 : decode cX12_power 14 = .ok (.istore 4, 2) := by decide +kernel
theorem dX12_power_16 : decode cX12_power 16 = .ok (.iconst 0, 1) := by decide +kernel
theorem dX12_power_17 : decode cX12_power 17 = .ok (.istore 5, 2) := by decide +kernel
theorem dX12_power_19 : decode cX12_power 19 = .ok (.iload 5, 2) := by decide +kernel
theorem dX12_power_21 : decode cX12_power 21 = .ok (.iload_n 3, 1) := by decide +kernel
theorem dX12_power_22 : decode cX12_power 22 = .ok (.if_icmp .ge 47, 3) := by decide +kernel
theorem dX12_power_25 : decode cX12_power 25 = .ok (.iload 4, 2) := by decide +kernel
theorem dX12_power_27 : decode cX12_power 27 = .ok (.ifCond .eq 42, 3) := by decide +kernel
theorem dX12_power_30 : decode cX12_power 30 = .ok (.iload 5, 2) := by decide +kernel
theorem dX12_power_32 : decode cX12_power 32 = .ok (.ifCond .ne 13, 3) := by decide +kernel
theorem dX12_power_35 : decode cX12_power 35 = .ok (.aload_n 0, 1) := by decide +kernel
theorem dX12_power_36 : decode cX12_power 36 = .ok (.iload_n 1, 1) := by decide +kernel
theorem dX12_power_37 : decode cX12_power 37 = .ok (.bipush 52, 2) := by decide +kernel
theorem dX12_power_39 : decode cX12_power 39 = .ok (.invokevirtual 168, 3) := by decide +kernel
theorem dX12_power_42 : decode cX12_power 42 = .ok (.goto 21, 3) := by decide +kernel
theorem dX12_power_45 : decode cX12_power 45 = .ok (.aload_n 0, 1) := by decide +kernel
theorem dX12_power_46 : decode cX12_power 46 = .ok (.bipush 53, 2) := by decide +kernel
theorem dX12_power_48 : decode cX12_power 48 = .ok (.iload_n 1, 1) := by decide +kernel
theorem dX12_power_49 : decode cX12_power 49 = .ok (.invokevirtual 168, 3) := by decide +kernel
theorem dX12_power_52 : decode cX12_power 52 = .ok (.aload_n 0, 1) := by decide +kernel
theorem dX12_power_53 : decode cX12_power 53 = .ok (.iload_n 1, 1) := by decide +kernel
theorem dX12_power_54 : decode cX12_power 54 = .ok (.bipush 53, 2) := by decide +kernel
theorem dX12_power_56 : decode cX12_power 56 = .ok (.bipush 52, 2) := by decide +kernel
theorem dX12_power_58 : decode cX12_power 58 = .ok (.invokevirtual 174, 3) := by decide +kernel
theorem dX12_power_61 : decode cX12_power 61 = .ok (.istore 4, 2) := by decide +kernel
theorem dX12_power_63 : decode cX12_power 63 = .ok (.iinc 5 1, 3) := by decide +kernel
theorem dX12_power_66 : decode cX12_power 66 = .ok (.goto (-47), 3) := by decide +kernel
theorem dX12_power_69 : decode cX12_power 69 = .ok (.iload 4, 2) := by decide +kernel
theorem dX12_power_71 : decode cX12_power 71 = .ok (.ireturn, 1) := by decide +kernel
theorem dX12_powerOf_0 : decode cX12_powerOf 0 = .ok (.iconst 1, 1) := by decide +kernel
theorem dX12_powerOf_1 : decode cX12_powerOf 1 = .ok (.istore_n 3, 1) := by decide +kernel
theorem dX12_powerOf_2 : decode cX12_powerOf 2 = .ok (.iconst 0, 1) := by decide +kernel
theorem dX12_powerOf_3 : decode cX12_powerOf 3 = .ok (.istore 4, 2) := by decide +kernel
theorem dX12_powerOf_5 : decode cX12_powerOf 5 = .ok (.iload 4, 2) := by decide +kernel
theorem dX12_powerOf_7 : decode cX12_powerOf 7 = .ok (.iload_n 2, 1) := by decide +kernel
theorem dX12_powerOf_8 : decode cX12_powerOf 8 = .ok (.if_icmp .ge 18, 3) := by decide +kernel
theorem dX12_powerOf_11 : decode cX12_powerOf 11 = .ok (.iload_n 3, 1) := by decide +kernel
theorem dX12_powerOf_12 : decode cX12_powerOf 12 = .ok (.iload_n 1, 1) := by decide +kernel
theorem dX12_powerOf_13 : decode cX12_powerOf 13 = .ok (.imul, 1) := by decide +kernel
theorem dX12_powerOf_14 : decode cX12_powerOf 14 = .ok (.aload_n 0, 1) := by decide +kernel
theorem dX12_powerOf_15 : decode cX12_powerOf 15 = .ok (.getfield 9, 3) := by decide +kernel
theorem dX12_powerOf_18 : decode cX12_powerOf 18 = .ok (.irem, 1) := by decide +kernel
theorem dX12_powerOf_19 : decode cX12_powerOf 19 = .ok (.istore_n 3, 1) := by decide +kernel
theorem dX12_powerOf_20 : decode cX12_powerOf 20 = .ok (.iinc 4 1, 3) := by decide +kernel
theorem dX12_powerOf_23 : decode cX12_powerOf 23 = .ok (.goto (-18), 3) := by decide +kernel
theorem dX12_powerOf_26 : decode cX12_powerOf 26 = .ok (.iload_n 3, 1) := by decide +kernel
theorem dX12_powerOf_27 : decode cX12_powerOf 27 = .ok (.ireturn, 1) := by decide +kernel
theorem dX12_layPowers_0 : decode cX12_layPowers 0 = .ok (.iconst 1, 1) := by decide +kernel
theorem dX12_layPowers_1 : decode cX12_layPowers 1 = .ok (.istore_n 3, 1) := by decide +kernel
theorem dX12_layPowers_2 : decode cX12_layPowers 2 = .ok (.iconst 0, 1) := by decide +kernel
theorem dX12_layPowers_3 : decode cX12_layPowers 3 = .ok (.istore 4, 2) := by decide +kernel
theorem dX12_layPowers_5 : decode cX12_layPowers 5 = .ok (.iload 4, 2) := by decide +kernel
theorem dX12_layPowers_7 : decode cX12_layPowers 7 = .ok (.bipush 41, 2) := by decide +kernel
theorem dX12_layPowers_9 : decode cX12_layPowers 9 = .ok (.if_icmp .ge 31, 3) := by decide +kernel
theorem dX12_layPowers_12 : decode cX12_layPowers 12 = .ok (.aload_n 0, 1) := by decide +kernel
theorem dX12_layPowers_13 : decode cX12_layPowers 13 = .ok (.getfield 31, 3) := by decide +kernel
theorem dX12_layPowers_16 : decode cX12_layPowers 16 = .ok (.bipush 41, 2) := by decide +kernel
theorem dX12_layPowers_18 : decode cX12_layPowers 18 = .ok (.iload_n 1, 1) := by decide +kernel
theorem dX12_layPowers_19 : decode cX12_layPowers 19 = .ok (.imul, 1) := by decide +kernel
theorem dX12_layPowers_20 : decode cX12_layPowers 20 = .ok (.iload 4, 2) := by decide +kernel
theorem dX12_layPowers_22 : decode cX12_layPowers 22 = .ok (.iadd, 1) := by decide +kernel
theorem dX12_layPowers_23 : decode cX12_layPowers 23 = .ok (.iload_n 3, 1) := by decide +kernel
theorem dX12_layPowers_24 : decode cX12_layPowers 24 = .ok (.iastore, 1) := by decide +kernel
theorem dX12_layPowers_25 : decode cX12_layPowers 25 = .ok (.iload_n 3, 1) := by decide +kernel
theorem dX12_layPowers_26 : decode cX12_layPowers 26 = .ok (.iload_n 2, 1) := by decide +kernel
theorem dX12_layPowers_27 : decode cX12_layPowers 27 = .ok (.imul, 1) := by decide +kernel
theorem dX12_layPowers_28 : decode cX12_layPowers 28 = .ok (.aload_n 0, 1) := by decide +kernel
theorem dX12_layPowers_29 : decode cX12_layPowers 29 = .ok (.getfield 9, 3) := by decide +kernel
theorem dX12_layPowers_32 : decode cX12_layPowers 32 = .ok (.irem, 1) := by decide +kernel
theorem dX12_layPowers_33 : decode cX12_layPowers 33 = .ok (.istore_n 3, 1) := by decide +kernel
theorem dX12_layPowers_34 : decode cX12_layPowers 34 = .ok (.iinc 4 1, 3) := by decide +kernel
theorem dX12_layPowers_37 : decode cX12_layPowers 37 = .ok (.goto (-32), 3) := by decide +kernel
theorem dX12_layPowers_40 : decode cX12_layPowers 40 = .ok (.return_, 1) := by decide +kernel
theorem dX12_valueOf_0 : decode cX12_valueOf 0 = .ok (.aload_n 0, 1) := by decide +kernel
theorem dX12_valueOf_1 : decode cX12_valueOf 1 = .ok (.iconst 0, 1) := by decide +kernel
theorem dX12_valueOf_2 : decode cX12_valueOf 2 = .ok (.iload_n 2, 1) := by decide +kernel
theorem dX12_valueOf_3 : decode cX12_valueOf 3 = .ok (.invokevirtual 178, 3) := by decide +kernel
theorem dX12_valueOf_6 : decode cX12_valueOf 6 = .ok (.aload_n 0, 1) := by decide +kernel
theorem dX12_valueOf_7 : decode cX12_valueOf 7 = .ok (.iconst 1, 1) := by decide +kernel
theorem dX12_valueOf_8 : decode cX12_valueOf 8 = .ok (.iload_n 3, 1) := by decide +kernel
theorem dX12_valueOf_9 : decode cX12_valueOf 9 = .ok (.invokevirtual 178, 3) := by decide +kernel
theorem dX12_valueOf_12 : decode cX12_valueOf 12 = .ok (.aload_n 0, 1) := by decide +kernel
theorem dX12_valueOf_13 : decode cX12_valueOf 13 = .ok (.iconst 2, 1) := by decide +kernel
theorem dX12_valueOf_14 : decode cX12_valueOf 14 = .ok (.iload 4, 2) := by decide +kernel
theorem dX12_valueOf_16 : decode cX12_valueOf 16 = .ok (.invokevirtual 178, 3) := by decide +kernel
theorem dX12_valueOf_19 : decode cX12_valueOf 19 = .ok (.iconst 0, 1) := by decide +kernel
theorem dX12_valueOf_20 : decode cX12_valueOf 20 = .ok (.istore 5, 2) := by decide +kernel
theorem dX12_valueOf_22 : decode cX12_valueOf 22 = .ok (.iconst 0, 1) := by decide +kernel
theorem dX12_valueOf_23 : decode cX12_valueOf 23 = .ok (.istore 6, 2) := by decide +kernel
theorem dX12_valueOf_25 : decode cX12_valueOf 25 = .ok (.iload 6, 2) := by decide +kernel
theorem dX12_valueOf_27 : decode cX12_valueOf 27 = .ok (.aload_n 0, 1) := by decide +kernel
theorem dX12_valueOf_28 : decode cX12_valueOf 28 = .ok (.getfield 13, 3) := by decide +kernel
theorem dX12_valueOf_31 : decode cX12_valueOf 31 = .ok (.iload_n 1, 1) := by decide +kernel
theorem dX12_valueOf_32 : decode cX12_valueOf 32 = .ok (.iaload, 1) := by decide +kernel
theorem dX12_valueOf_33 : decode cX12_valueOf 33 = .ok (.if_icmp .ge 77, 3) := by decide +kernel
theorem dX12_valueOf_36 : decode cX12_valueOf 36 = .ok (.aload_n 0, 1) := by decide +kernel
theorem dX12_valueOf_37 : decode cX12_valueOf 37 = .ok (.iload_n 1, 1) := by decide +kernel
theorem dX12_valueOf_38 : decode cX12_valueOf 38 = .ok (.iload 6, 2) := by decide +kernel
theorem dX12_valueOf_40 : decode cX12_valueOf 40 = .ok (.invokevirtual 123, 3) := by decide +kernel
theorem dX12_valueOf_43 : decode cX12_valueOf 43 = .ok (.istore 7, 2) := by decide +kernel
theorem dX12_valueOf_45 : decode cX12_valueOf 45 = .ok (.iload 5, 2) := by decide +kernel
theorem dX12_valueOf_47 : decode cX12_valueOf 47 = .ok (.aload_n 0, 1) := by decide +kernel
theorem dX12_valueOf_48 : decode cX12_valueOf 48 = .ok (.iload_n 1, 1) := by decide +kernel
theorem dX12_valueOf_49 : decode cX12_valueOf 49 = .ok (.iload 6, 2) := by decide +kernel
theorem dX12_valueOf_51 : decode cX12_valueOf 51 = .ok (.invokevirtual 126, 3) := by decide +kernel
theorem dX12_valueOf_54 : decode cX12_valueOf 54 = .ok (.aload_n 0, 1) := by decide +kernel
theorem dX12_valueOf_55 : decode cX12_valueOf 55 = .ok (.getfield 31, 3) := by decide +kernel
theorem dX12_valueOf_58 : decode cX12_valueOf 58 = .ok (.iload 7, 2) := by decide +kernel
theorem dX12_valueOf_60 : decode cX12_valueOf 60 = .ok (.iconst 0, 1) := by decide +kernel
theorem dX12_valueOf_61 : decode cX12_valueOf 61 = .ok (.invokestatic 119, 3) := by decide +kernel
theorem dX12_valueOf_64 : decode cX12_valueOf 64 = .ok (.iaload, 1) := by decide +kernel
theorem dX12_valueOf_65 : decode cX12_valueOf 65 = .ok (.imul, 1) := by decide +kernel
theorem dX12_valueOf_66 : decode cX12_valueOf 66 = .ok (.aload_n 0, 1) := by decide +kernel
theorem dX12_valueOf_67 : decode cX12_valueOf 67 = .ok (.getfield 31, 3) := by decide +kernel
theorem dX12_valueOf_70 : decode cX12_valueOf 70 = .ok (.bipush 41, 2) := by decide +kernel
theorem dX12_valueOf_72 : decode cX12_valueOf 72 = .ok (.iload 7, 2) := by decide +kernel
theorem dX12_valueOf_74 : decode cX12_valueOf 74 = .ok (.iconst 1, 1) := by decide +kernel
theorem dX12_valueOf_75 : decode cX12_valueOf 75 = .ok (.invokestatic 119, 3) := by decide +kernel
theorem dX12_valueOf_78 : decode cX12_valueOf 78 = .ok (.iadd, 1) := by decide +kernel
theorem dX12_valueOf_79 : decode cX12_valueOf 79 = .ok (.iaload, 1) := by decide +kernel
theorem dX12_valueOf_80 : decode cX12_valueOf 80 = .ok (.imul, 1) := by decide +kernel
theorem dX12_valueOf_81 : decode cX12_valueOf 81 = .ok (.aload_n 0, 1) := by decide +kernel
theorem dX12_valueOf_82 : decode cX12_valueOf 82 = .ok (.getfield 31, 3) := by decide +kernel
theorem dX12_valueOf_85 : decode cX12_valueOf 85 = .ok (.bipush 82, 2) := by decide +kernel
theorem dX12_valueOf_87 : decode cX12_valueOf 87 = .ok (.iload 7, 2) := by decide +kernel
theorem dX12_valueOf_89 : decode cX12_valueOf 89 = .ok (.iconst 2, 1) := by decide +kernel
theorem dX12_valueOf_90 : decode cX12_valueOf 90 = .ok (.invokestatic 119, 3) := by decide +kernel
theorem dX12_valueOf_93 : decode cX12_valueOf 93 = .ok (.iadd, 1) := by decide +kernel
theorem dX12_valueOf_94 : decode cX12_valueOf 94 = .ok (.iaload, 1) := by decide +kernel
theorem dX12_valueOf_95 : decode cX12_valueOf 95 = .ok (.imul, 1) := by decide +kernel
theorem dX12_valueOf_96 : decode cX12_valueOf 96 = .ok (.aload_n 0, 1) := by decide +kernel
theorem dX12_valueOf_97 : decode cX12_valueOf 97 = .ok (.getfield 9, 3) := by decide +kernel
theorem dX12_valueOf_100 : decode cX12_valueOf 100 = .ok (.irem, 1) := by decide +kernel
theorem dX12_valueOf_101 : decode cX12_valueOf 101 = .ok (.iadd, 1) := by decide +kernel
theorem dX12_valueOf_102 : decode cX12_valueOf 102 = .ok (.istore 5, 2) := by decide +kernel
theorem dX12_valueOf_104 : decode cX12_valueOf 104 = .ok (.iinc 6 1, 3) := by decide +kernel
theorem dX12_valueOf_107 : decode cX12_valueOf 107 = .ok (.goto (-82), 3) := by decide +kernel
theorem dX12_valueOf_110 : decode cX12_valueOf 110 = .ok (.iload 5, 2) := by decide +kernel
theorem dX12_valueOf_112 : decode cX12_valueOf 112 = .ok (.aload_n 0, 1) := by decide +kernel
theorem dX12_valueOf_113 : decode cX12_valueOf 113 = .ok (.getfield 9, 3) := by decide +kernel
theorem dX12_valueOf_116 : decode cX12_valueOf 116 = .ok (.irem, 1) := by decide +kernel
theorem dX12_valueOf_117 : decode cX12_valueOf 117 = .ok (.ireturn, 1) := by decide +kernel
theorem dX12_isPoint_0 : decode cX12_isPoint 0 = .ok (.iload_n 1, 1) := by decide +kernel
theorem dX12_isPoint_1 : decode cX12_isPoint 1 = .ok (.iconst 0, 1) := by decide +kernel
theorem dX12_isPoint_2 : decode cX12_isPoint 2 = .ok (.aload_n 0, 1) := by decide +kernel
theorem dX12_isPoint_3 : decode cX12_isPoint 3 = .ok (.getfield 9, 3) := by decide +kernel
theorem dX12_isPoint_6 : decode cX12_isPoint 6 = .ok (.iconst 1, 1) := by decide +kernel
theorem dX12_isPoint_7 : decode cX12_isPoint 7 = .ok (.isub, 1) := by decide +kernel
theorem dX12_isPoint_8 : decode cX12_isPoint 8 = .ok (.invokestatic 181, 3) := by decide +kernel
theorem dX12_isPoint_11 : decode cX12_isPoint 11 = .ok (.ifCond .eq 35, 3) := by decide +kernel
theorem dX12_isPoint_14 : decode cX12_isPoint 14 = .ok (.iload_n 2, 1) := by decide +kernel
theorem dX12_isPoint_15 : decode cX12_isPoint 15 = .ok (.iconst 0, 1) := by decide +kernel
theorem dX12_isPoint_16 : decode cX12_isPoint 16 = .ok (.aload_n 0, 1) := by decide +kernel
theorem dX12_isPoint_17 : decode cX12_isPoint 17 = .ok (.getfield 9, 3) := by decide +kernel
theorem dX12_isPoint_20 : decode cX12_isPoint 20 = .ok (.iconst 1, 1) := by decide +kernel
theorem dX12_isPoint_21 : decode cX12_isPoint 21 = .ok (.isub, 1) := by decide +kernel
theorem dX12_isPoint_22 : decode cX12_isPoint 22 = .ok (.invokestatic 181, 3) := by decide +kernel
theorem dX12_isPoint_25 : decode cX12_isPoint 25 = .ok (.ifCond .eq 21, 3) := by decide +kernel
theorem dX12_isPoint_28 : decode cX12_isPoint 28 = .ok (.iload_n 3, 1) := by decide +kernel
theorem dX12_isPoint_29 : decode cX12_isPoint 29 = .ok (.iconst 0, 1) := by decide +kernel
theorem dX12_isPoint_30 : decode cX12_isPoint 30 = .ok (.aload_n 0, 1) := by decide +kernel
theorem dX12_isPoint_31 : decode cX12_isPoint 31 = .ok (.getfield 9, 3) := by decide +kernel
theorem dX12_isPoint_34 : decode cX12_isPoint 34 = .ok (.iconst 1, 1) := by decide +kernel
theorem dX12_isPoint_35 : decode cX12_isPoint 35 = .ok (.isub, 1) := by decide +kernel
theorem dX12_isPoint_36 : decode cX12_isPoint 36 = .ok (.invokestatic 181, 3) := by decide +kernel
theorem dX12_isPoint_39 : decode cX12_isPoint 39 = .ok (.ifCond .eq 7, 3) := by decide +kernel
theorem dX12_isPoint_42 : decode cX12_isPoint 42 = .ok (.iconst 1, 1) := by decide +kernel
theorem dX12_isPoint_43 : decode cX12_isPoint 43 = .ok (.goto 4, 3) := by decide +kernel
theorem dX12_isPoint_46 : decode cX12_isPoint 46 = .ok (.iconst 0, 1) := by decide +kernel
theorem dX12_isPoint_47 : decode cX12_isPoint 47 = .ok (.ireturn, 1) := by decide +kernel
theorem dX12_zeros_0 : decode cX12_zeros 0 = .ok (.iconst 0, 1) := by decide +kernel
theorem dX12_zeros_1 : decode cX12_zeros 1 = .ok (.istore_n 2, 1) := by decide +kernel
theorem dX12_zeros_2 : decode cX12_zeros 2 = .ok (.iconst 0, 1) := by decide +kernel
theorem dX12_zeros_3 : decode cX12_zeros 3 = .ok (.istore_n 3, 1) := by decide +kernel
theorem dX12_zeros_4 : decode cX12_zeros 4 = .ok (.iload_n 3, 1) := by decide +kernel
theorem dX12_zeros_5 : decode cX12_zeros 5 = .ok (.aload_n 0, 1) := by decide +kernel
theorem dX12_zeros_6 : decode cX12_zeros 6 = .ok (.getfield 9, 3) := by decide +kernel
theorem dX12_zeros_9 : decode cX12_zeros 9 = .ok (.if_icmp .ge 66, 3) := by decide +kernel
theorem dX12_zeros_12 : decode cX12_zeros 12 = .ok (.iconst 0, 1) := by decide +kernel
theorem dX12_zeros_13 : decode cX12_zeros 13 = .ok (.istore 4, 2) := by decide +kernel
theorem dX12_zeros_15 : decode cX12_zeros 15 = .ok (.iload 4, 2) := by decide +kernel
theorem dX12_zeros_17 : decode cX12_zeros 17 = .ok (.aload_n 0, 1) := by decide +kernel
theorem dX12_zeros_18 : decode cX12_zeros 18 = .ok (.getfield 9, 3) := by decide +kernel
theorem dX12_zeros_21 : decode cX12_zeros 21 = .ok (.if_icmp .ge 48, 3) := by decide +kernel
theorem dX12_zeros_24 : decode cX12_zeros 24 = .ok (.iconst 0, 1) := by decide +kernel
theorem dX12_zeros_25 : decode cX12_zeros 25 = .ok (.istore 5, 2) := by decide +kernel
theorem dX12_zeros_27 : decode cX12_zeros 27 = .ok (.iload 5, 2) := by decide +kernel
theorem dX12_zeros_29 : decode cX12_zeros 29 = .ok (.aload_n 0, 1) := by decide +kernel
theorem dX12_zeros_30 : decode cX12_zeros 30 = .ok (.getfield 9, 3) := by decide +kernel
theorem dX12_zeros_33 : decode cX12_zeros 33 = .ok (.if_icmp .ge 30, 3) := by decide +kernel
theorem dX12_zeros_36 : decode cX12_zeros 36 = .ok (.iload_n 2, 1) := by decide +kernel
theorem dX12_zeros_37 : decode cX12_zeros 37 = .ok (.aload_n 0, 1) := by decide +kernel
theorem dX12_zeros_38 : decode cX12_zeros 38 = .ok (.iload_n 1, 1) := by decide +kernel
theorem dX12_zeros_39 : decode cX12_zeros 39 = .ok (.iload_n 3, 1) := by decide +kernel
theorem dX12_zeros_40 : decode cX12_zeros 40 = .ok (.iload 4, 2) := by decide +kernel
theorem dX12_zeros_42 : decode cX12_zeros 42 = .ok (.iload 5, 2) := by decide +kernel
theorem dX12_zeros_44 : decode cX12_zeros 44 = .ok (.invokevirtual 184, 3) := by decide +kernel
theorem dX12_zeros_47 : decode cX12_zeros 47 = .ok (.ifCond .ne 7, 3) := by decide +kernel
theorem dX12_zeros_50 : decode cX12_zeros 50 = .ok (.iconst 1, 1) := by decide +kernel
theorem dX12_zeros_51 : decode cX12_zeros 51 = .ok (.goto 4, 3) := by decide +kernel
theorem dX12_zeros_54 : decode cX12_zeros 54 = .ok (.iconst 0, 1) := by decide +kernel
theorem dX12_zeros_55 : decode cX12_zeros 55 = .ok (.iadd, 1) := by decide +kernel
theorem dX12_zeros_56 : decode cX12_zeros 56 = .ok (.istore_n 2, 1) := by decide +kernel
theorem dX12_zeros_57 : decode cX12_zeros 57 = .ok (.iinc 5 1, 3) := by decide +kernel
theorem dX12_zeros_60 : decode cX12_zeros 60 = .ok (.goto (-33), 3) := by decide +kernel
theorem dX12_zeros_63 : decode cX12_zeros 63 = .ok (.iinc 4 1, 3) := by decide +kernel
theorem dX12_zeros_66 : decode cX12_zeros 66 = .ok (.goto (-51), 3) := by decide +kernel
theorem dX12_zeros_69 : decode cX12_zeros 69 = .ok (.iinc 3 1, 3) := by decide +kernel
theorem dX12_zeros_72 : decode cX12_zeros 72 = .ok (.goto (-68), 3) := by decide +kernel
theorem dX12_zeros_75 : decode cX12_zeros 75 = .ok (.iload_n 2, 1) := by decide +kernel
theorem dX12_zeros_76 : decode cX12_zeros 76 = .ok (.ireturn, 1) := by decide +kernel
theorem dX12_witnessOf_0 : decode cX12_witnessOf 0 = .ok (.iconst 0, 1) := by decide +kernel
theorem dX12_witnessOf_1 : decode cX12_witnessOf 1 = .ok (.istore_n 3, 1) := by decide +kernel
theorem dX12_witnessOf_2 : decode cX12_witnessOf 2 = .ok (.iload_n 3, 1) := by decide +kernel
theorem dX12_witnessOf_3 : decode cX12_witnessOf 3 = .ok (.aload_n 0, 1) := by decide +kernel
theorem dX12_witnessOf_4 : decode cX12_witnessOf 4 = .ok (.getfield 9, 3) := by decide +kernel
theorem dX12_witnessOf_7 : decode cX12_witnessOf 7 = .ok (.if_icmp .ge 86, 3) := by decide +kernel
theorem dX12_witnessOf_10 : decode cX12_witnessOf 10 = .ok (.iconst 0, 1) := by decide +kernel
theorem dX12_witnessOf_11 : decode cX12_witnessOf 11 = .ok (.istore 4, 2) := by decide +kernel
theorem dX12_witnessOf_13 : decode cX12_witnessOf 13 = .ok (.iload 4, 2) := by decide +kernel
theorem dX12_witnessOf_15 : decode cX12_witnessOf 15 = .ok (.aload_n 0, 1) := by decide +kernel
theorem dX12_witnessOf_16 : decode cX12_witnessOf 16 = .ok (.getfield 9, 3) := by decide +kernel
theorem dX12_witnessOf_19 : decode cX12_witnessOf 19 = .ok (.if_icmp .ge 68, 3) := by decide +kernel
theorem dX12_witnessOf_22 : decode cX12_witnessOf 22 = .ok (.iconst 0, 1) := by decide +kernel
theorem dX12_witnessOf_23 : decode cX12_witnessOf 23 = .ok (.istore 5, 2) := by decide +kernel
theorem dX12_witnessOf_25 : decode cX12_witnessOf 25 = .ok (.iload 5, 2) := by decide +kernel
theorem dX12_witnessOf_27 : decode cX12_witnessOf 27 = .ok (.aload_n 0, 1) := by decide +kernel
theorem dX12_witnessOf_28 : decode cX12_witnessOf 28 = .ok (.getfield 9, 3) := by decide +kernel
theorem dX12_witnessOf_31 : decode cX12_witnessOf 31 = .ok (.if_icmp .ge 50, 3) := by decide +kernel
theorem dX12_witnessOf_34 : decode cX12_witnessOf 34 = .ok (.aload_n 0, 1) := by decide +kernel
theorem dX12_witnessOf_35 : decode cX12_witnessOf 35 = .ok (.iload_n 1, 1) := by decide +kernel
theorem dX12_witnessOf_36 : decode cX12_witnessOf 36 = .ok (.iload_n 3, 1) := by decide +kernel
theorem dX12_witnessOf_37 : decode cX12_witnessOf 37 = .ok (.iload 4, 2) := by decide +kernel
theorem dX12_witnessOf_39 : decode cX12_witnessOf 39 = .ok (.iload 5, 2) := by decide +kernel
theorem dX12_witnessOf_41 : decode cX12_witnessOf 41 = .ok (.invokevirtual 184, 3) := by decide +kernel
theorem dX12_witnessOf_44 : decode cX12_witnessOf 44 = .ok (.aload_n 0, 1) := by decide +kernel
theorem dX12_witnessOf_45 : decode cX12_witnessOf 45 = .ok (.iload_n 2, 1) := by decide +kernel
theorem dX12_witnessOf_46 : decode cX12_witnessOf 46 = .ok (.iload_n 3, 1) := by decide +kernel
theorem dX12_witnessOf_47 : decode cX12_witnessOf 47 = .ok (.iload 4, 2) := by decide +kernel
theorem dX12_witnessOf_49 : decode cX12_witnessOf 49 = .ok (.iload 5, 2) := by decide +kernel
theorem dX12_witnessOf_51 : decode cX12_witnessOf 51 = .ok (.invokevirtual 184, 3) := by decide +kernel
theorem dX12_witnessOf_54 : decode cX12_witnessOf 54 = .ok (.if_icmp .eq 21, 3) := by decide +kernel
theorem dX12_witnessOf_57 : decode cX12_witnessOf 57 = .ok (.iload_n 3, 1) := by decide +kernel
theorem dX12_witnessOf_58 : decode cX12_witnessOf 58 = .ok (.aload_n 0, 1) := by decide +kernel
theorem dX12_witnessOf_59 : decode cX12_witnessOf 59 = .ok (.getfield 9, 3) := by decide +kernel
theorem dX12_witnessOf_62 : decode cX12_witnessOf 62 = .ok (.imul, 1) := by decide +kernel
theorem dX12_witnessOf_63 : decode cX12_witnessOf 63 = .ok (.iload 4, 2) := by decide +kernel
theorem dX12_witnessOf_65 : decode cX12_witnessOf 65 = .ok (.iadd, 1) := by decide +kernel
theorem dX12_witnessOf_66 : decode cX12_witnessOf 66 = .ok (.aload_n 0, 1) := by decide +kernel
theorem dX12_witnessOf_67 : decode cX12_witnessOf 67 = .ok (.getfield 9, 3) := by decide +kernel
theorem dX12_witnessOf_70 : decode cX12_witnessOf 70 = .ok (.imul, 1) := by decide +kernel
theorem dX12_witnessOf_71 : decode cX12_witnessOf 71 = .ok (.iload 5, 2) := by decide +kernel
theorem dX12_witnessOf_73 : decode cX12_witnessOf 73 = .ok (.iadd, 1) := by decide +kernel
theorem dX12_witnessOf_74 : decode cX12_witnessOf 74 = .ok (.ireturn, 1) := by decide +kernel
theorem dX12_witnessOf_75 : decode cX12_witnessOf 75 = .ok (.iinc 5 1, 3) := by decide +kernel
theorem dX12_witnessOf_78 : decode cX12_witnessOf 78 = .ok (.goto (-53), 3) := by decide +kernel
theorem dX12_witnessOf_81 : decode cX12_witnessOf 81 = .ok (.iinc 4 1, 3) := by decide +kernel
theorem dX12_witnessOf_84 : decode cX12_witnessOf 84 = .ok (.goto (-71), 3) := by decide +kernel
theorem dX12_witnessOf_87 : decode cX12_witnessOf 87 = .ok (.iinc 3 1, 3) := by decide +kernel
theorem dX12_witnessOf_90 : decode cX12_witnessOf 90 = .ok (.goto (-88), 3) := by decide +kernel
theorem dX12_witnessOf_93 : decode cX12_witnessOf 93 = .ok (.iconst (-1), 1) := by decide +kernel
theorem dX12_witnessOf_94 : decode cX12_witnessOf 94 = .ok (.ireturn, 1) := by decide +kernel
theorem dX12_keep_0 : decode cX12_keep 0 = .ok (.aload_n 0, 1) := by decide +kernel
theorem dX12_keep_1 : decode cX12_keep 1 = .ok (.getfield 188, 3) := by decide +kernel
theorem dX12_keep_4 : decode cX12_keep 4 = .ok (.bipush 20, 2) := by decide +kernel
theorem dX12_keep_6 : decode cX12_keep 6 = .ok (.if_icmp .ne 104, 3) := by decide +kernel
theorem dX12_keep_9 : decode cX12_keep 9 = .ok (.iconst 1, 1) := by decide +kernel
theorem dX12_keep_10 : decode cX12_keep 10 = .ok (.istore_n 2, 1) := by decide +kernel
theorem dX12_keep_11 : decode cX12_keep 11 = .ok (.iload_n 2, 1) := by decide +kernel
theorem dX12_keep_12 : decode cX12_keep 12 = .ok (.bipush 20, 2) := by decide +kernel
theorem dX12_keep_14 : decode cX12_keep 14 = .ok (.if_icmp .ge 37, 3) := by decide +kernel
theorem dX12_keep_17 : decode cX12_keep 17 = .ok (.aload_n 0, 1) := by decide +kernel
theorem dX12_keep_18 : decode cX12_keep 18 = .ok (.getfield 34, 3) := by decide +kernel
theorem dX12_keep_21 : decode cX12_keep 21 = .ok (.iload_n 2, 1) := by decide +kernel
theorem dX12_keep_22 : decode cX12_keep 22 = .ok (.iconst 1, 1) := by decide +kernel
theorem dX12_keep_23 : decode cX12_keep 23 = .ok (.isub, 1) := by decide +kernel
theorem dX12_keep_24 : decode cX12_keep 24 = .ok (.aload_n 0, 1) := by decide +kernel
theorem dX12_keep_25 : decode cX12_keep 25 = .ok (.getfield 34, 3) := by decide +kernel
theorem dX12_keep_28 : decode cX12_keep 28 = .ok (.iload_n 2, 1) := by decide +kernel
theorem dX12_keep_29 : decode cX12_keep 29 = .ok (.iaload, 1) := by decide +kernel
theorem dX12_keep_30 : decode cX12_keep 30 = .ok (.iastore, 1) := by decide +kernel
theorem dX12_keep_31 : decode cX12_keep 31 = .ok (.aload_n 0, 1) := by decide +kernel
theorem dX12_keep_32 : decode cX12_keep 32 = .ok (.getfield 37, 3) := by decide +kernel
theorem dX12_keep_35 : decode cX12_keep 35 = .ok (.iload_n 2, 1) := by decide +kernel
theorem dX12_keep_36 : decode cX12_keep 36 = .ok (.iconst 1, 1) := by decide +kernel
theorem dX12_keep_37 : decode cX12_keep 37 = .ok (.isub, 1) := by decide +kernel
theorem dX12_keep_38 : decode cX12_keep 38 = .ok (.aload_n 0, 1) := by decide +kernel
theorem dX12_keep_39 : decode cX12_keep 39 = .ok (.getfield 37, 3) := by decide +kernel
theorem dX12_keep_42 : decode cX12_keep 42 = .ok (.iload_n 2, 1) := by decide +kernel
theorem dX12_keep_43 : decode cX12_keep 43 = .ok (.iaload, 1) := by decide +kernel
theorem dX12_keep_44 : decode cX12_keep 44 = .ok (.iastore, 1) := by decide +kernel
theorem dX12_keep_45 : decode cX12_keep 45 = .ok (.iinc 2 1, 3) := by decide +kernel
theorem dX12_keep_48 : decode cX12_keep 48 = .ok (.goto (-37), 3) := by decide +kernel
theorem dX12_keep_51 : decode cX12_keep 51 = .ok (.sipush 300, 3) := by decide +kernel
theorem dX12_keep_54 : decode cX12_keep 54 = .ok (.istore_n 2, 1) := by decide +kernel
theorem dX12_keep_55 : decode cX12_keep 55 = .ok (.iload_n 2, 1) := by decide +kernel
theorem dX12_keep_56 : decode cX12_keep 56 = .ok (.sipush 6000, 3) := by decide +kernel
theorem dX12_keep_59 : decode cX12_keep 59 = .ok (.if_icmp .ge 41, 3) := by decide +kernel
theorem dX12_keep_62 : decode cX12_keep 62 = .ok (.aload_n 0, 1) := by decide +kernel
theorem dX12_keep_63 : decode cX12_keep 63 = .ok (.getfield 40, 3) := by decide +kernel
theorem dX12_keep_66 : decode cX12_keep 66 = .ok (.iload_n 2, 1) := by decide +kernel
theorem dX12_keep_67 : decode cX12_keep 67 = .ok (.sipush 300, 3) := by decide +kernel
theorem dX12_keep_70 : decode cX12_keep 70 = .ok (.isub, 1) := by decide +kernel
theorem dX12_keep_71 : decode cX12_keep 71 = .ok (.aload_n 0, 1) := by decide +kernel
theorem dX12_keep_72 : decode cX12_keep 72 = .ok (.getfield 40, 3) := by decide +kernel
theorem dX12_keep_75 : decode cX12_keep 75 = .ok (.iload_n 2, 1) := by decide +kernel
theorem dX12_keep_76 : decode cX12_keep 76 = .ok (.iaload, 1) := by decide +kernel
theorem dX12_keep_77 : decode cX12_keep 77 = .ok (.iastore, 1) := by decide +kernel
theorem dX12_keep_78 : decode cX12_keep 78 = .ok (.aload_n 0, 1) := by decide +kernel
theorem dX12_keep_79 : decode cX12_keep 79 = .ok (.getfield 43, 3) := by decide +kernel
theorem dX12_keep_82 : decode cX12_keep 82 = .ok (.iload_n 2, 1) := by decide +kernel
theorem dX12_keep_83 : decode cX12_keep 83 = .ok (.sipush 300, 3) := by decide +kernel
theorem dX12_keep_86 : decode cX12_keep 86 = .ok (.isub, 1) := by decide +kernel
theorem dX12_keep_87 : decode cX12_keep 87 = .ok (.aload_n 0, 1) := by decide +kernel
theorem dX12_keep_88 : decode cX12_keep 88 = .ok (.getfield 43, 3) := by decide +kernel
theorem dX12_keep_91 : decode cX12_keep 91 = .ok (.iload_n 2, 1) := by decide +kernel
theorem dX12_keep_92 : decode cX12_keep 92 = .ok (.iaload, 1) := by decide +kernel
theorem dX12_keep_93 : decode cX12_keep 93 = .ok (.iastore, 1) := by decide +kernel
theorem dX12_keep_94 : decode cX12_keep 94 = .ok (.iinc 2 1, 3) := by decide +kernel
theorem dX12_keep_97 : decode cX12_keep 97 = .ok (.goto (-42), 3) := by decide +kernel
theorem dX12_keep_100 : decode cX12_keep 100 = .ok (.aload_n 0, 1) := by decide +kernel
theorem dX12_keep_101 : decode cX12_keep 101 = .ok (.dup, 1) := by decide +kernel
theorem dX12_keep_102 : decode cX12_keep 102 = .ok (.getfield 188, 3) := by decide +kernel
theorem dX12_keep_105 : decode cX12_keep 105 = .ok (.iconst 1, 1) := by decide +kernel
theorem dX12_keep_106 : decode cX12_keep 106 = .ok (.isub, 1) := by decide +kernel
theorem dX12_keep_107 : decode cX12_keep 107 = .ok (.putfield 188, 3) := by decide +kernel
theorem dX12_keep_110 : decode cX12_keep 110 = .ok (.aload_n 0, 1) := by decide +kernel
theorem dX12_keep_111 : decode cX12_keep 111 = .ok (.getfield 34, 3) := by decide +kernel
theorem dX12_keep_114 : decode cX12_keep 114 = .ok (.aload_n 0, 1) := by decide +kernel
theorem dX12_keep_115 : decode cX12_keep 115 = .ok (.getfield 188, 3) := by decide +kernel
theorem dX12_keep_118 : decode cX12_keep 118 = .ok (.iload_n 1, 1) := by decide +kernel
theorem dX12_keep_119 : decode cX12_keep 119 = .ok (.iastore, 1) := by decide +kernel
theorem dX12_keep_120 : decode cX12_keep 120 = .ok (.aload_n 0, 1) := by decide +kernel
theorem dX12_keep_121 : decode cX12_keep 121 = .ok (.getfield 37, 3) := by decide +kernel
theorem dX12_keep_124 : decode cX12_keep 124 = .ok (.aload_n 0, 1) := by decide +kernel
theorem dX12_keep_125 : decode cX12_keep 125 = .ok (.getfield 188, 3) := by decide +kernel
theorem dX12_keep_128 : decode cX12_keep 128 = .ok (.aload_n 0, 1) := by decide +kernel
theorem dX12_keep_129 : decode cX12_keep 129 = .ok (.getfield 13, 3) := by decide +kernel
theorem dX12_keep_132 : decode cX12_keep 132 = .ok (.iload_n 1, 1) := by decide +kernel
theorem dX12_keep_133 : decode cX12_keep 133 = .ok (.iaload, 1) := by decide +kernel
theorem dX12_keep_134 : decode cX12_keep 134 = .ok (.iastore, 1) := by decide +kernel
theorem dX12_keep_135 : decode cX12_keep 135 = .ok (.iconst 0, 1) := by decide +kernel
theorem dX12_keep_136 : decode cX12_keep 136 = .ok (.istore_n 2, 1) := by decide +kernel
theorem dX12_keep_137 : decode cX12_keep 137 = .ok (.iload_n 2, 1) := by decide +kernel
theorem dX12_keep_138 : decode cX12_keep 138 = .ok (.aload_n 0, 1) := by decide +kernel
theorem dX12_keep_139 : decode cX12_keep 139 = .ok (.getfield 13, 3) := by decide +kernel
theorem dX12_keep_142 : decode cX12_keep 142 = .ok (.iload_n 1, 1) := by decide +kernel
theorem dX12_keep_143 : decode cX12_keep 143 = .ok (.iaload, 1) := by decide +kernel
theorem dX12_keep_144 : decode cX12_keep 144 = .ok (.if_icmp .ge 51, 3) := by decide +kernel
theorem dX12_keep_147 : decode cX12_keep 147 = .ok (.aload_n 0, 1) := by decide +kernel
theorem dX12_keep_148 : decode cX12_keep 148 = .ok (.getfield 40, 3) := by decide +kernel
theorem dX12_keep_151 : decode cX12_keep 151 = .ok (.sipush 300, 3) := by decide +kernel
theorem dX12_keep_154 : decode cX12_keep 154 = .ok (.aload_n 0, 1) := by decide +kernel
theorem dX12_keep_155 : decode cX12_keep 155 = .ok (.getfield 188, 3) := by decide +kernel
theorem dX12_keep_158 : decode cX12_keep 158 = .ok (.imul, 1) := by decide +kernel
theorem dX12_keep_159 : decode cX12_keep 159 = .ok (.iload_n 2, 1) := by decide +kernel
theorem dX12_keep_160 : decode cX12_keep 160 = .ok (.iadd, 1) := by decide +kernel
theorem dX12_keep_161 : decode cX12_keep 161 = .ok (.aload_n 0, 1) := by decide +kernel
theorem dX12_keep_162 : decode cX12_keep 162 = .ok (.iload_n 1, 1) := by decide +kernel
theorem dX12_keep_163 : decode cX12_keep 163 = .ok (.iload_n 2, 1) := by decide +kernel
theorem dX12_keep_164 : decode cX12_keep 164 = .ok (.invokevirtual 123, 3) := by decide +kernel
theorem dX12_keep_167 : decode cX12_keep 167 = .ok (.iastore, 1) := by decide +kernel
theorem dX12_keep_168 : decode cX12_keep 168 = .ok (.aload_n 0, 1) := by decide +kernel
theorem dX12_keep_169 : decode cX12_keep 169 = .ok (.getfield 43, 3) := by decide +kernel
theorem dX12_keep_172 : decode cX12_keep 172 = .ok (.sipush 300, 3) := by decide +kernel
theorem dX12_keep_175 : decode cX12_keep 175 = .ok (.aload_n 0, 1) := by decide +kernel
theorem dX12_keep_176 : decode cX12_keep 176 = .ok (.getfield 188, 3) := by decide +kernel
theorem dX12_keep_179 : decode cX12_keep 179 = .ok (.imul, 1) := by decide +kernel
theorem dX12_keep_180 : decode cX12_keep 180 = .ok (.iload_n 2, 1) := by decide +kernel
theorem dX12_keep_181 : decode cX12_keep 181 = .ok (.iadd, 1) := by decide +kernel
theorem dX12_keep_182 : decode cX12_keep 182 = .ok (.aload_n 0, 1) := by decide +kernel
theorem dX12_keep_183 : decode cX12_keep 183 = .ok (.iload_n 1, 1) := by decide +kernel
theorem dX12_keep_184 : decode cX12_keep 184 = .ok (.iload_n 2, 1) := by decide +kernel
theorem dX12_keep_185 : decode cX12_keep 185 = .ok (.invokevirtual 126, 3) := by decide +kernel
theorem dX12_keep_188 : decode cX12_keep 188 = .ok (.iastore, 1) := by decide +kernel
theorem dX12_keep_189 : decode cX12_keep 189 = .ok (.iinc 2 1, 3) := by decide +kernel
theorem dX12_keep_192 : decode cX12_keep 192 = .ok (.goto (-55), 3) := by decide +kernel
theorem dX12_keep_195 : decode cX12_keep 195 = .ok (.aload_n 0, 1) := by decide +kernel
theorem dX12_keep_196 : decode cX12_keep 196 = .ok (.dup, 1) := by decide +kernel
theorem dX12_keep_197 : decode cX12_keep 197 = .ok (.getfield 188, 3) := by decide +kernel
theorem dX12_keep_200 : decode cX12_keep 200 = .ok (.iconst 1, 1) := by decide +kernel
theorem dX12_keep_201 : decode cX12_keep 201 = .ok (.iadd, 1) := by decide +kernel
theorem dX12_keep_202 : decode cX12_keep 202 = .ok (.putfield 188, 3) := by decide +kernel
theorem dX12_keep_205 : decode cX12_keep 205 = .ok (.return_, 1) := by decide +kernel
theorem dX12_become_0 : decode cX12_become 0 = .ok (.aload_n 0, 1) := by decide +kernel
theorem dX12_become_1 : decode cX12_become 1 = .ok (.iload_n 1, 1) := by decide +kernel
theorem dX12_become_2 : decode cX12_become 2 = .ok (.invokevirtual 191, 3) := by decide +kernel
theorem dX12_become_5 : decode cX12_become 5 = .ok (.aload_n 0, 1) := by decide +kernel
theorem dX12_become_6 : decode cX12_become 6 = .ok (.iload_n 1, 1) := by decide +kernel
theorem dX12_become_7 : decode cX12_become 7 = .ok (.iload_n 2, 1) := by decide +kernel
theorem dX12_become_8 : decode cX12_become 8 = .ok (.invokevirtual 168, 3) := by decide +kernel
theorem dX12_become_11 : decode cX12_become 11 = .ok (.aload_n 0, 1) := by decide +kernel
theorem dX12_become_12 : decode cX12_become 12 = .ok (.getfield 13, 3) := by decide +kernel
theorem dX12_become_15 : decode cX12_become 15 = .ok (.iload_n 1, 1) := by decide +kernel
theorem dX12_become_16 : decode cX12_become 16 = .ok (.iaload, 1) := by decide +kernel
theorem dX12_become_17 : decode cX12_become 17 = .ok (.ireturn, 1) := by decide +kernel
theorem dX12_undo_0 : decode cX12_undo 0 = .ok (.aload_n 0, 1) := by decide +kernel
theorem dX12_undo_1 : decode cX12_undo 1 = .ok (.iconst 0, 1) := by decide +kernel
theorem dX12_undo_2 : decode cX12_undo 2 = .ok (.putfield 116, 3) := by decide +kernel
theorem dX12_undo_5 : decode cX12_undo 5 = .ok (.aload_n 0, 1) := by decide +kernel
theorem dX12_undo_6 : decode cX12_undo 6 = .ok (.getfield 188, 3) := by decide +kernel
theorem dX12_undo_9 : decode cX12_undo 9 = .ok (.ifCond .ne 5, 3) := by decide +kernel
theorem dX12_undo_12 : decode cX12_undo 12 = .ok (.iconst (-1), 1) := by decide +kernel
theorem dX12_undo_13 : decode cX12_undo 13 = .ok (.ireturn, 1) := by decide +kernel
theorem dX12_undo_14 : decode cX12_undo 14 = .ok (.aload_n 0, 1) := by decide +kernel
theorem dX12_undo_15 : decode cX12_undo 15 = .ok (.dup, 1) := by decide +kernel
theorem dX12_undo_16 : decode cX12_undo 16 = .ok (.getfield 188, 3) := by decide +kernel
theorem dX12_undo_19 : decode cX12_undo 19 = .ok (.iconst 1, 1) := by decide +kernel
theorem dX12_undo_20 : decode cX12_undo 20 = .ok (.isub, 1) := by decide +kernel
theorem dX12_undo_21 : decode cX12_undo 21 = .ok (.putfield 188, 3) := by decide +kernel
theorem dX12_undo_24 : decode cX12_undo 24 = .ok (.aload_n 0, 1) := by decide +kernel
theorem dX12_undo_25 : decode cX12_undo 25 = .ok (.getfield 34, 3) := by decide +kernel
theorem dX12_undo_28 : decode cX12_undo 28 = .ok (.aload_n 0, 1) := by decide +kernel
theorem dX12_undo_29 : decode cX12_undo 29 = .ok (.getfield 188, 3) := by decide +kernel
theorem dX12_undo_32 : decode cX12_undo 32 = .ok (.iaload, 1) := by decide +kernel
theorem dX12_undo_33 : decode cX12_undo 33 = .ok (.istore_n 1, 1) := by decide +kernel
theorem dX12_undo_34 : decode cX12_undo 34 = .ok (.aload_n 0, 1) := by decide +kernel
theorem dX12_undo_35 : decode cX12_undo 35 = .ok (.getfield 13, 3) := by decide +kernel
theorem dX12_undo_38 : decode cX12_undo 38 = .ok (.iload_n 1, 1) := by decide +kernel
theorem dX12_undo_39 : decode cX12_undo 39 = .ok (.aload_n 0, 1) := by decide +kernel
theorem dX12_undo_40 : decode cX12_undo 40 = .ok (.getfield 37, 3) := by decide +kernel
theorem dX12_undo_43 : decode cX12_undo 43 = .ok (.aload_n 0, 1) := by decide +kernel
theorem dX12_undo_44 : decode cX12_undo 44 = .ok (.getfield 188, 3) := by decide +kernel
theorem dX12_undo_47 : decode cX12_undo 47 = .ok (.iaload, 1) := by decide +kernel
theorem dX12_undo_48 : decode cX12_undo 48 = .ok (.iastore, 1) := by decide +kernel
theorem dX12_undo_49 : decode cX12_undo 49 = .ok (.iconst 0, 1) := by decide +kernel
theorem dX12_undo_50 : decode cX12_undo 50 = .ok (.istore_n 2, 1) := by decide +kernel
theorem dX12_undo_51 : decode cX12_undo 51 = .ok (.iload_n 2, 1) := by decide +kernel
theorem dX12_undo_52 : decode cX12_undo 52 = .ok (.aload_n 0, 1) := by decide +kernel
theorem dX12_undo_53 : decode cX12_undo 53 = .ok (.getfield 13, 3) := by decide +kernel
theorem dX12_undo_56 : decode cX12_undo 56 = .ok (.iload_n 1, 1) := by decide +kernel
theorem dX12_undo_57 : decode cX12_undo 57 = .ok (.iaload, 1) := by decide +kernel
theorem dX12_undo_58 : decode cX12_undo 58 = .ok (.if_icmp .ge 63, 3) := by decide +kernel
theorem dX12_undo_61 : decode cX12_undo 61 = .ok (.aload_n 0, 1) := by decide +kernel
theorem dX12_undo_62 : decode cX12_undo 62 = .ok (.getfield 17, 3) := by decide +kernel
theorem dX12_undo_65 : decode cX12_undo 65 = .ok (.sipush 300, 3) := by decide +kernel
theorem dX12_undo_68 : decode cX12_undo 68 = .ok (.iload_n 1, 1) := by decide +kernel
theorem dX12_undo_69 : decode cX12_undo 69 = .ok (.imul, 1) := by decide +kernel
theorem dX12_undo_70 : decode cX12_undo 70 = .ok (.iload_n 2, 1) := by decide +kernel
theorem dX12_undo_71 : decode cX12_undo 71 = .ok (.iadd, 1) := by decide +kernel
theorem dX12_undo_72 : decode cX12_undo 72 = .ok (.aload_n 0, 1) := by decide +kernel
theorem dX12_undo_73 : decode cX12_undo 73 = .ok (.getfield 40, 3) := by decide +kernel
theorem dX12_undo_76 : decode cX12_undo 76 = .ok (.sipush 300, 3) := by decide +kernel
theorem dX12_undo_79 : decode cX12_undo 79 = .ok (.aload_n 0, 1) := by decide +kernel
theorem dX12_undo_80 : decode cX12_undo 80 = .ok (.getfield 188, 3) := by decide +kernel
theorem dX12_undo_83 : decode cX12_undo 83 = .ok (.imul, 1) := by decide +kernel
theorem dX12_undo_84 : decode cX12_undo 84 = .ok (.iload_n 2, 1) := by decide +kernel
theorem dX12_undo_85 : decode cX12_undo 85 = .ok (.iadd, 1) := by decide +kernel
theorem dX12_undo_86 : decode cX12_undo 86 = .ok (.iaload, 1) := by decide +kernel
theorem dX12_undo_87 : decode cX12_undo 87 = .ok (.iastore, 1) := by decide +kernel
theorem dX12_undo_88 : decode cX12_undo 88 = .ok (.aload_n 0, 1) := by decide +kernel
theorem dX12_undo_89 : decode cX12_undo 89 = .ok (.getfield 20, 3) := by decide +kernel
theorem dX12_undo_92 : decode cX12_undo 92 = .ok (.sipush 300, 3) := by decide +kernel
theorem dX12_undo_95 : decode cX12_undo 95 = .ok (.iload_n 1, 1) := by decide +kernel
theorem dX12_undo_96 : decode cX12_undo 96 = .ok (.imul, 1) := by decide +kernel
theorem dX12_undo_97 : decode cX12_undo 97 = .ok (.iload_n 2, 1) := by decide +kernel
theorem dX12_undo_98 : decode cX12_undo 98 = .ok (.iadd, 1) := by decide +kernel
theorem dX12_undo_99 : decode cX12_undo 99 = .ok (.aload_n 0, 1) := by decide +kernel
theorem dX12_undo_100 : decode cX12_undo 100 = .ok (.getfield 43, 3) := by decide +kernel
theorem dX12_undo_103 : decode cX12_undo 103 = .ok (.sipush 300, 3) := by decide +kernel
theorem dX12_undo_106 : decode cX12_undo 106 = .ok (.aload_n 0, 1) := by decide +kernel
theorem dX12_undo_107 : decode cX12_undo 107 = .ok (.getfield 188, 3) := by decide +kernel
theorem dX12_undo_110 : decode cX12_undo 110 = .ok (.imul, 1) := by decide +kernel
theorem dX12_undo_111 : decode cX12_undo 111 = .ok (.iload_n 2, 1) := by decide +kernel
theorem dX12_undo_112 : decode cX12_undo 112 = .ok (.iadd, 1) := by decide +kernel
theorem dX12_undo_113 : decode cX12_undo 113 = .ok (.iaload, 1) := by decide +kernel
theorem dX12_undo_114 : decode cX12_undo 114 = .ok (.iastore, 1) := by decide +kernel
theorem dX12_undo_115 : decode cX12_undo 115 = .ok (.iinc 2 1, 3) := by decide +kernel
theorem dX12_undo_118 : decode cX12_undo 118 = .ok (.goto (-67), 3) := by decide +kernel
theorem dX12_undo_121 : decode cX12_undo 121 = .ok (.aload_n 0, 1) := by decide +kernel
theorem dX12_undo_122 : decode cX12_undo 122 = .ok (.getfield 188, 3) := by decide +kernel
theorem dX12_undo_125 : decode cX12_undo 125 = .ok (.ireturn, 1) := by decide +kernel
theorem dX12_field_0 : decode cX12_field 0 = .ok (.aload_n 0, 1) := by decide +kernel
theorem dX12_field_1 : decode cX12_field 1 = .ok (.iconst 0, 1) := by decide +kernel
theorem dX12_field_2 : decode cX12_field 2 = .ok (.putfield 116, 3) := by decide +kernel
theorem dX12_field_5 : decode cX12_field 5 = .ok (.iload_n 1, 1) := by decide +kernel
theorem dX12_field_6 : decode cX12_field 6 = .ok (.iconst 2, 1) := by decide +kernel
theorem dX12_field_7 : decode cX12_field 7 = .ok (.if_icmp .eq 31, 3) := by decide +kernel
theorem dX12_field_10 : decode cX12_field 10 = .ok (.iload_n 1, 1) := by decide +kernel
theorem dX12_field_11 : decode cX12_field 11 = .ok (.iconst 3, 1) := by decide +kernel
theorem dX12_field_12 : decode cX12_field 12 = .ok (.if_icmp .eq 26, 3) := by decide +kernel
theorem dX12_field_15 : decode cX12_field 15 = .ok (.iload_n 1, 1) := by decide +kernel
theorem dX12_field_16 : decode cX12_field 16 = .ok (.iconst 5, 1) := by decide +kernel
theorem dX12_field_17 : decode cX12_field 17 = .ok (.if_icmp .eq 21, 3) := by decide +kernel
theorem dX12_field_20 : decode cX12_field 20 = .ok (.iload_n 1, 1) := by decide +kernel
theorem dX12_field_21 : decode cX12_field 21 = .ok (.bipush 7, 2) := by decide +kernel
theorem dX12_field_23 : decode cX12_field 23 = .ok (.if_icmp .eq 15, 3) := by decide +kernel
theorem dX12_field_26 : decode cX12_field 26 = .ok (.iload_n 1, 1) := by decide +kernel
theorem dX12_field_27 : decode cX12_field 27 = .ok (.bipush 11, 2) := by decide +kernel
theorem dX12_field_29 : decode cX12_field 29 = .ok (.if_icmp .eq 9, 3) := by decide +kernel
theorem dX12_field_32 : decode cX12_field 32 = .ok (.iload_n 1, 1) := by decide +kernel
theorem dX12_field_33 : decode cX12_field 33 = .ok (.bipush 13, 2) := by decide +kernel
theorem dX12_field_35 : decode cX12_field 35 = .ok (.if_icmp .ne 7, 3) := by decide +kernel
theorem dX12_field_38 : decode cX12_field 38 = .ok (.iconst 1, 1) := by decide +kernel
theorem dX12_field_39 : decode cX12_field 39 = .ok (.goto 4, 3) := by decide +kernel
theorem dX12_field_42 : decode cX12_field 42 = .ok (.iconst 0, 1) := by decide +kernel
theorem dX12_field_43 : decode cX12_field 43 = .ok (.istore_n 2, 1) := by decide +kernel
theorem dX12_field_44 : decode cX12_field 44 = .ok (.iload_n 2, 1) := by decide +kernel
theorem dX12_field_45 : decode cX12_field 45 = .ok (.ifCond .ne 5, 3) := by decide +kernel
theorem dX12_field_48 : decode cX12_field 48 = .ok (.iconst (-1), 1) := by decide +kernel
theorem dX12_field_49 : decode cX12_field 49 = .ok (.ireturn, 1) := by decide +kernel
theorem dX12_field_50 : decode cX12_field 50 = .ok (.aload_n 0, 1) := by decide +kernel
theorem dX12_field_51 : decode cX12_field 51 = .ok (.getfield 9, 3) := by decide +kernel
theorem dX12_field_54 : decode cX12_field 54 = .ok (.istore_n 3, 1) := by decide +kernel
theorem dX12_field_55 : decode cX12_field 55 = .ok (.aload_n 0, 1) := by decide +kernel
theorem dX12_field_56 : decode cX12_field 56 = .ok (.iload_n 1, 1) := by decide +kernel
theorem dX12_field_57 : decode cX12_field 57 = .ok (.putfield 9, 3) := by decide +kernel
theorem dX12_field_60 : decode cX12_field 60 = .ok (.iconst 0, 1) := by decide +kernel
theorem dX12_field_61 : decode cX12_field 61 = .ok (.istore 4, 2) := by decide +kernel
theorem dX12_field_63 : decode cX12_field 63 = .ok (.iload 4, 2) := by decide +kernel
theorem dX12_field_65 : decode cX12_field 65 = .ok (.bipush 6, 2) := by decide +kernel
theorem dX12_field_67 : decode cX12_field 67 = .ok (.if_icmp .ge 17, 3) := by decide +kernel
theorem dX12_field_70 : decode cX12_field 70 = .ok (.aload_n 0, 1) := by decide +kernel
theorem dX12_field_71 : decode cX12_field 71 = .ok (.getfield 13, 3) := by decide +kernel
theorem dX12_field_74 : decode cX12_field 74 = .ok (.iload 4, 2) := by decide +kernel
theorem dX12_field_76 : decode cX12_field 76 = .ok (.iconst 0, 1) := by decide +kernel
theorem dX12_field_77 : decode cX12_field 77 = .ok (.iastore, 1) := by decide +kernel
theorem dX12_field_78 : decode cX12_field 78 = .ok (.iinc 4 1, 3) := by decide +kernel
theorem dX12_field_81 : decode cX12_field 81 = .ok (.goto (-18), 3) := by decide +kernel
theorem dX12_field_84 : decode cX12_field 84 = .ok (.aload_n 0, 1) := by decide +kernel
theorem dX12_field_85 : decode cX12_field 85 = .ok (.iconst 0, 1) := by decide +kernel
theorem dX12_field_86 : decode cX12_field 86 = .ok (.putfield 194, 3) := by decide +kernel
theorem dX12_field_89 : decode cX12_field 89 = .ok (.aload_n 0, 1) := by decide +kernel
theorem dX12_field_90 : decode cX12_field 90 = .ok (.iconst 0, 1) := by decide +kernel
theorem dX12_field_91 : decode cX12_field 91 = .ok (.putfield 188, 3) := by decide +kernel
theorem dX12_field_94 : decode cX12_field 94 = .ok (.iload_n 3, 1) := by decide +kernel
theorem dX12_field_95 : decode cX12_field 95 = .ok (.ireturn, 1) := by decide +kernel
theorem dX12_derivative_0 : decode cX12_derivative 0 = .ok (.iconst 0, 1) := by decide +kernel
theorem dX12_derivative_1 : decode cX12_derivative 1 = .ok (.istore 4, 2) := by decide +kernel
theorem dX12_derivative_3 : decode cX12_derivative 3 = .ok (.iload 4, 2) := by decide +kernel
theorem dX12_derivative_5 : decode cX12_derivative 5 = .ok (.aload_n 0, 1) := by decide +kernel
theorem dX12_derivative_6 : decode cX12_derivative 6 = .ok (.getfield 13, 3) := by decide +kernel
theorem dX12_derivative_9 : decode cX12_derivative 9 = .ok (.iload_n 2, 1) := by decide +kernel
theorem dX12_derivative_10 : decode cX12_derivative 10 = .ok (.iaload, 1) := by decide +kernel
theorem dX12_derivative_11 : decode cX12_derivative 11 = .ok (.if_icmp .ge 98, 3) := by decide +kernel
theorem dX12_derivative_14 : decode cX12_derivative 14 = .ok (.aload_n 0, 1) := by decide +kernel
theorem dX12_derivative_15 : decode cX12_derivative 15 = .ok (.iload_n 2, 1) := by decide +kernel
theorem dX12_derivative_16 : decode cX12_derivative 16 = .ok (.iload 4, 2) := by decide +kernel
theorem dX12_derivative_18 : decode cX12_derivative 18 = .ok (.invokevirtual 123, 3) := by decide +kernel
theorem dX12_derivative_21 : decode cX12_derivative 21 = .ok (.istore 5, 2) := by decide +kernel
theorem dX12_derivative_23 : decode cX12_derivative 23 = .ok (.iload 5, 2) := by decide +kernel
theorem dX12_derivative_25 : decode cX12_derivative 25 = .ok (.iload_n 3, 1) := by decide +kernel
theorem dX12_derivative_26 : decode cX12_derivative 26 = .ok (.invokestatic 119, 3) := by decide +kernel
theorem dX12_derivative_29 : decode cX12_derivative 29 = .ok (.istore 6, 2) := by decide +kernel
theorem dX12_derivative_31 : decode cX12_derivative 31 = .ok (.iload 6, 2) := by decide +kernel
theorem dX12_derivative_33 : decode cX12_derivative 33 = .ok (.ifCond .ne 6, 3) := by decide +kernel
theorem dX12_derivative_36 : decode cX12_derivative 36 = .ok (.goto 67, 3) := by decide +kernel
theorem dX12_derivative_39 : decode cX12_derivative 39 = .ok (.aload_n 0, 1) := by decide +kernel
theorem dX12_derivative_40 : decode cX12_derivative 40 = .ok (.iload 5, 2) := by decide +kernel
theorem dX12_derivative_42 : decode cX12_derivative 42 = .ok (.iconst 0, 1) := by decide +kernel
theorem dX12_derivative_43 : decode cX12_derivative 43 = .ok (.invokestatic 119, 3) := by decide +kernel
theorem dX12_derivative_46 : decode cX12_derivative 46 = .ok (.iload_n 3, 1) := by decide +kernel
theorem dX12_derivative_47 : decode cX12_derivative 47 = .ok (.ifCond .ne 7, 3) := by decide +kernel
theorem dX12_derivative_50 : decode cX12_derivative 50 = .ok (.iconst 1, 1) := by decide +kernel
theorem dX12_derivative_51 : decode cX12_derivative 51 = .ok (.goto 4, 3) := by decide +kernel
theorem dX12_derivative_54 : decode cX12_derivative 54 = .ok (.iconst 0, 1) := by decide +kernel
theorem dX12_derivative_55 : decode cX12_derivative 55 = .ok (.isub, 1) := by decide +kernel
theorem dX12_derivative_56 : decode cX12_derivative 56 = .ok (.iload 5, 2) := by decide +kernel
theorem dX12_derivative_58 : decode cX12_derivative 58 = .ok (.iconst 1, 1) := by decide +kernel
theorem dX12_derivative_59 : decode cX12_derivative 59 = .ok (.invokestatic 119, 3) := by decide +kernel
theorem dX12_derivative_62 : decode cX12_derivative 62 = .ok (.iload_n 3, 1) := by decide +kernel
theorem dX12_derivative_63 : decode cX12_derivative 63 = .ok (.iconst 1, 1) := by decide +kernel
theorem dX12_derivative_64 : decode cX12_derivative 64 = .ok (.if_icmp .ne 7, 3) := by decide +kernel
theorem dX12_derivative_67 : decode cX12_derivative 67 = .ok (.iconst 1, 1) := by decide +kernel
theorem dX12_derivative_68 : decode cX12_derivative 68 = .ok (.goto 4, 3) := by decide +kernel
theorem dX12_derivative_71 : decode cX12_derivative 71 = .ok (.iconst 0, 1) := by decide +kernel
theorem dX12_derivative_72 : decode cX12_derivative 72 = .ok (.isub, 1) := by decide +kernel
theorem dX12_derivative_73 : decode cX12_derivative 73 = .ok (.iload 5, 2) := by decide +kernel
theorem dX12_derivative_75 : decode cX12_derivative 75 = .ok (.iconst 2, 1) := by decide +kernel
theorem dX12_derivative_76 : decode cX12_derivative 76 = .ok (.invokestatic 119, 3) := by decide +kernel
theorem dX12_derivative_79 : decode cX12_derivative 79 = .ok (.iload_n 3, 1) := by decide +kernel
theorem dX12_derivative_80 : decode cX12_derivative 80 = .ok (.iconst 2, 1) := by decide +kernel
theorem dX12_derivative_81 : decode cX12_derivative 81 = .ok (.if_icmp .ne 7, 3) := by decide +kernel
theorem dX12_derivative_84 : decode cX12_derivative 84 = .ok (.iconst 1, 1) := by decide +kernel
theorem dX12_derivative_85 : decode cX12_derivative 85 = .ok (.goto 4, 3) := by decide +kernel
theorem dX12_derivative_88 : decode cX12_derivative 88 = .ok (.iconst 0, 1) := by decide +kernel
theorem dX12_derivative_89 : decode cX12_derivative 89 = .ok (.isub, 1) := by decide +kernel
theorem dX12_derivative_90 : decode cX12_derivative 90 = .ok (.iload 6, 2) := by decide +kernel
theorem dX12_derivative_92 : decode cX12_derivative 92 = .ok (.aload_n 0, 1) := by decide +kernel
theorem dX12_derivative_93 : decode cX12_derivative 93 = .ok (.iload_n 2, 1) := by decide +kernel
theorem dX12_derivative_94 : decode cX12_derivative 94 = .ok (.iload 4, 2) := by decide +kernel
theorem dX12_derivative_96 : decode cX12_derivative 96 = .ok (.invokevirtual 126, 3) := by decide +kernel
theorem dX12_derivative_99 : decode cX12_derivative 99 = .ok (.imul, 1) := by decide +kernel
theorem dX12_derivative_100 : decode cX12_derivative 100 = .ok (.invokevirtual 152, 3) := by decide +kernel
theorem dX12_derivative_103 : decode cX12_derivative 103 = .ok (.iinc 4 1, 3) := by decide +kernel
theorem dX12_derivative_106 : decode cX12_derivative 106 = .ok (.goto (-103), 3) := by decide +kernel
theorem dX12_derivative_109 : decode cX12_derivative 109 = .ok (.aload_n 0, 1) := by decide +kernel
theorem dX12_derivative_110 : decode cX12_derivative 110 = .ok (.iload_n 1, 1) := by decide +kernel
theorem dX12_derivative_111 : decode cX12_derivative 111 = .ok (.invokevirtual 160, 3) := by decide +kernel
theorem dX12_derivative_114 : decode cX12_derivative 114 = .ok (.ireturn, 1) := by decide +kernel
theorem dX12_part_0 : decode cX12_part 0 = .ok (.iconst 0, 1) := by decide +kernel
theorem dX12_part_1 : decode cX12_part 1 = .ok (.istore 4, 2) := by decide +kernel
theorem dX12_part_3 : decode cX12_part 3 = .ok (.iload 4, 2) := by decide +kernel
theorem dX12_part_5 : decode cX12_part 5 = .ok (.aload_n 0, 1) := by decide +kernel
theorem dX12_part_6 : decode cX12_part 6 = .ok (.getfield 13, 3) := by decide +kernel
theorem dX12_part_9 : decode cX12_part 9 = .ok (.iload_n 2, 1) := by decide +kernel
theorem dX12_part_10 : decode cX12_part 10 = .ok (.iaload, 1) := by decide +kernel
theorem dX12_part_11 : decode cX12_part 11 = .ok (.if_icmp .ge 67, 3) := by decide +kernel
theorem dX12_part_14 : decode cX12_part 14 = .ok (.aload_n 0, 1) := by decide +kernel
theorem dX12_part_15 : decode cX12_part 15 = .ok (.iload_n 2, 1) := by decide +kernel
theorem dX12_part_16 : decode cX12_part 16 = .ok (.iload 4, 2) := by decide +kernel
theorem dX12_part_18 : decode cX12_part 18 = .ok (.invokevirtual 123, 3) := by decide +kernel
theorem dX12_part_21 : decode cX12_part 21 = .ok (.invokestatic 129, 3) := by decide +kernel
theorem dX12_part_24 : decode cX12_part 24 = .ok (.iload_n 3, 1) := by decide +kernel
theorem dX12_part_25 : decode cX12_part 25 = .ok (.if_icmp .ne 47, 3) := by decide +kernel
theorem dX12_part_28 : decode cX12_part 28 = .ok (.aload_n 0, 1) := by decide +kernel
theorem dX12_part_29 : decode cX12_part 29 = .ok (.aload_n 0, 1) := by decide +kernel
theorem dX12_part_30 : decode cX12_part 30 = .ok (.iload_n 2, 1) := by decide +kernel
theorem dX12_part_31 : decode cX12_part 31 = .ok (.iload 4, 2) := by decide +kernel
theorem dX12_part_33 : decode cX12_part 33 = .ok (.invokevirtual 123, 3) := by decide +kernel
theorem dX12_part_36 : decode cX12_part 36 = .ok (.iconst 0, 1) := by decide +kernel
theorem dX12_part_37 : decode cX12_part 37 = .ok (.invokestatic 119, 3) := by decide +kernel
theorem dX12_part_40 : decode cX12_part 40 = .ok (.aload_n 0, 1) := by decide +kernel
theorem dX12_part_41 : decode cX12_part 41 = .ok (.iload_n 2, 1) := by decide +kernel
theorem dX12_part_42 : decode cX12_part 42 = .ok (.iload 4, 2) := by decide +kernel
theorem dX12_part_44 : decode cX12_part 44 = .ok (.invokevirtual 123, 3) := by decide +kernel
theorem dX12_part_47 : decode cX12_part 47 = .ok (.iconst 1, 1) := by decide +kernel
theorem dX12_part_48 : decode cX12_part 48 = .ok (.invokestatic 119, 3) := by decide +kernel
theorem dX12_part_51 : decode cX12_part 51 = .ok (.aload_n 0, 1) := by decide +kernel
theorem dX12_part_52 : decode cX12_part 52 = .ok (.iload_n 2, 1) := by decide +kernel
theorem dX12_part_53 : decode cX12_part 53 = .ok (.iload 4, 2) := by decide +kernel
theorem dX12_part_55 : decode cX12_part 55 = .ok (.invokevirtual 123, 3) := by decide +kernel
theorem dX12_part_58 : decode cX12_part 58 = .ok (.iconst 2, 1) := by decide +kernel
theorem dX12_part_59 : decode cX12_part 59 = .ok (.invokestatic 119, 3) := by decide +kernel
theorem dX12_part_62 : decode cX12_part 62 = .ok (.aload_n 0, 1) := by decide +kernel
theorem dX12_part_63 : decode cX12_part 63 = .ok (.iload_n 2, 1) := by decide +kernel
theorem dX12_part_64 : decode cX12_part 64 = .ok (.iload 4, 2) := by decide +kernel
theorem dX12_part_66 : decode cX12_part 66 = .ok (.invokevirtual 126, 3) := by decide +kernel
theorem dX12_part_69 : decode cX12_part 69 = .ok (.invokevirtual 152, 3) := by decide +kernel
theorem dX12_part_72 : decode cX12_part 72 = .ok (.iinc 4 1, 3) := by decide +kernel
theorem dX12_part_75 : decode cX12_part 75 = .ok (.goto (-72), 3) := by decide +kernel
theorem dX12_part_78 : decode cX12_part 78 = .ok (.aload_n 0, 1) := by decide +kernel
theorem dX12_part_79 : decode cX12_part 79 = .ok (.iload_n 1, 1) := by decide +kernel
theorem dX12_part_80 : decode cX12_part 80 = .ok (.invokevirtual 160, 3) := by decide +kernel
theorem dX12_part_83 : decode cX12_part 83 = .ok (.ireturn, 1) := by decide +kernel
theorem dX12_reducedExponent_0 : decode cX12_reducedExponent 0 = .ok (.iload_n 1, 1) := by decide +kernel
theorem dX12_reducedExponent_1 : decode cX12_reducedExponent 1 = .ok (.istore_n 2, 1) := by decide +kernel
theorem dX12_reducedExponent_2 : decode cX12_reducedExponent 2 = .ok (.iload_n 2, 1) := by decide +kernel
theorem dX12_reducedExponent_3 : decode cX12_reducedExponent 3 = .ok (.aload_n 0, 1) := by decide +kernel
theorem dX12_reducedExponent_4 : decode cX12_reducedExponent 4 = .ok (.getfield 9, 3) := by decide +kernel
theorem dX12_reducedExponent_7 : decode cX12_reducedExponent 7 = .ok (.if_icmp .lt 15, 3) := by decide +kernel
theorem dX12_reducedExponent_10 : decode cX12_reducedExponent 10 = .ok (.iload_n 2, 1) := by decide +kernel
theorem dX12_reducedExponent_11 : decode cX12_reducedExponent 11 = .ok (.aload_n 0, 1) := by decide +kernel
theorem dX12_reducedExponent_12 : decode cX12_reducedExponent 12 = .ok (.getfield 9, 3) := by decide +kernel
theorem dX12_reducedExponent_15 : decode cX12_reducedExponent 15 = .ok (.iconst 1, 1) := by decide +kernel
theorem dX12_reducedExponent_16 : decode cX12_reducedExponent 16 = .ok (.isub, 1) := by decide +kernel
theorem dX12_reducedExponent_17 : decode cX12_reducedExponent 17 = .ok (.isub, 1) := by decide +kernel
theorem dX12_reducedExponent_18 : decode cX12_reducedExponent 18 = .ok (.istore_n 2, 1) := by decide +kernel
theorem dX12_reducedExponent_19 : decode cX12_reducedExponent 19 = .ok (.goto (-17), 3) := by decide +kernel
theorem dX12_reducedExponent_22 : decode cX12_reducedExponent 22 = .ok (.iload_n 2, 1) := by decide +kernel
theorem dX12_reducedExponent_23 : decode cX12_reducedExponent 23 = .ok (.ireturn, 1) := by decide +kernel
theorem dX12_reduced_0 : decode cX12_reduced 0 = .ok (.iconst 0, 1) := by decide +kernel
theorem dX12_reduced_1 : decode cX12_reduced 1 = .ok (.istore_n 3, 1) := by decide +kernel
theorem dX12_reduced_2 : decode cX12_reduced 2 = .ok (.iload_n 3, 1) := by decide +kernel
theorem dX12_reduced_3 : decode cX12_reduced 3 = .ok (.aload_n 0, 1) := by decide +kernel
theorem dX12_reduced_4 : decode cX12_reduced 4 = .ok (.getfield 13, 3) := by decide +kernel
theorem dX12_reduced_7 : decode cX12_reduced 7 = .ok (.iload_n 2, 1) := by decide +kernel
theorem dX12_reduced_8 : decode cX12_reduced 8 = .ok (.iaload, 1) := by decide +kernel
theorem dX12_reduced_9 : decode cX12_reduced 9 = .ok (.if_icmp .ge 57, 3) := by decide +kernel
theorem dX12_reduced_12 : decode cX12_reduced 12 = .ok (.aload_n 0, 1) := by decide +kernel
theorem dX12_reduced_13 : decode cX12_reduced 13 = .ok (.iload_n 2, 1) := by decide +kernel
theorem dX12_reduced_14 : decode cX12_reduced 14 = .ok (.iload_n 3, 1) := by decide +kernel
theorem dX12_reduced_15 : decode cX12_reduced 15 = .ok (.invokevirtual 123, 3) := by decide +kernel
theorem dX12_reduced_18 : decode cX12_reduced 18 = .ok (.istore 4, 2) := by decide +kernel
theorem dX12_reduced_20 : decode cX12_reduced 20 = .ok (.aload_n 0, 1) := by decide +kernel
theorem dX12_reduced_21 : decode cX12_reduced 21 = .ok (.aload_n 0, 1) := by decide +kernel
theorem dX12_reduced_22 : decode cX12_reduced 22 = .ok (.iload 4, 2) := by decide +kernel
theorem dX12_reduced_24 : decode cX12_reduced 24 = .ok (.iconst 0, 1) := by decide +kernel
theorem dX12_reduced_25 : decode cX12_reduced 25 = .ok (.invokestatic 119, 3) := by decide +kernel
theorem dX12_reduced_28 : decode cX12_reduced 28 = .ok (.invokevirtual 197, 3) := by decide +kernel
theorem dX12_reduced_31 : decode cX12_reduced 31 = .ok (.aload_n 0, 1) := by decide +kernel
theorem dX12_reduced_32 : decode cX12_reduced 32 = .ok (.iload 4, 2) := by decide +kernel
theorem dX12_reduced_34 : decode cX12_reduced 34 = .ok (.iconst 1, 1) := by decide +kernel
theorem dX12_reduced_35 : decode cX12_reduced 35 = .ok (.invokestatic 119, 3) := by decide +kernel
theorem dX12_reduced_38 : decode cX12_reduced 38 = .ok (.invokevirtual 197, 3) := by decide +kernel
theorem dX12_reduced_41 : decode cX12_reduced 41 = .ok (.aload_n 0, 1) := by decide +kernel
theorem dX12_reduced_42 : decode cX12_reduced 42 = .ok (.iload 4, 2) := by decide +kernel
theorem dX12_reduced_44 : decode cX12_reduced 44 = .ok (.iconst 2, 1) := by decide +kernel
theorem dX12_reduced_45 : decode cX12_reduced 45 = .ok (.invokestatic 119, 3) := by decide +kernel
theorem dX12_reduced_48 : decode cX12_reduced 48 = .ok (.invokevirtual 197, 3) := by decide +kernel
theorem dX12_reduced_51 : decode cX12_reduced 51 = .ok (.aload_n 0, 1) := by decide +kernel
theorem dX12_reduced_52 : decode cX12_reduced 52 = .ok (.iload_n 2, 1) := by decide +kernel
theorem dX12_reduced_53 : decode cX12_reduced 53 = .ok (.iload_n 3, 1) := by decide +kernel
theorem dX12_reduced_54 : decode cX12_reduced 54 = .ok (.invokevirtual 126, 3) := by decide +kernel
theorem dX12_reduced_57 : decode cX12_reduced 57 = .ok (.invokevirtual 152, 3) := by decide +kernel
theorem dX12_reduced_60 : decode cX12_reduced 60 = .ok (.iinc 3 1, 3) := by decide +kernel
theorem dX12_reduced_63 : decode cX12_reduced 63 = .ok (.goto (-61), 3) := by decide +kernel
theorem dX12_reduced_66 : decode cX12_reduced 66 = .ok (.aload_n 0, 1) := by decide +kernel
theorem dX12_reduced_67 : decode cX12_reduced 67 = .ok (.iload_n 1, 1) := by decide +kernel
theorem dX12_reduced_68 : decode cX12_reduced 68 = .ok (.invokevirtual 160, 3) := by decide +kernel
theorem dX12_reduced_71 : decode cX12_reduced 71 = .ok (.ireturn, 1) := by decide +kernel
theorem dX12_becomes_0 : decode cX12_becomes 0 = .ok (.iload_n 1, 1) := by decide +kernel
theorem dX12_becomes_1 : decode cX12_becomes 1 = .ok (.tableswitch 74 0 4 #[35, 37, 49, 62, 68], 35) := by decide +kernel
theorem dX12_becomes_36 : decode cX12_becomes 36 = .ok (.iload_n 0, 1) := by decide +kernel
theorem dX12_becomes_37 : decode cX12_becomes 37 = .ok (.ireturn, 1) := by decide +kernel
theorem dX12_becomes_38 : decode cX12_becomes 38 = .ok (.iload_n 0, 1) := by decide +kernel
theorem dX12_becomes_39 : decode cX12_becomes 39 = .ok (.ifCond .ne 7, 3) := by decide +kernel
theorem dX12_becomes_42 : decode cX12_becomes 42 = .ok (.iconst 0, 1) := by decide +kernel
theorem dX12_becomes_43 : decode cX12_becomes 43 = .ok (.goto 6, 3) := by decide +kernel
theorem dX12_becomes_46 : decode cX12_becomes 46 = .ok (.iconst 3, 1) := by decide +kernel
theorem dX12_becomes_47 : decode cX12_becomes 47 = .ok (.iload_n 0, 1) := by decide +kernel
theorem dX12_becomes_48 : decode cX12_becomes 48 = .ok (.isub, 1) := by decide +kernel
theorem dX12_becomes_49 : decode cX12_becomes 49 = .ok (.ireturn, 1) := by decide +kernel
theorem dX12_becomes_50 : decode cX12_becomes 50 = .ok (.iload_n 0, 1) := by decide +kernel
theorem dX12_becomes_51 : decode cX12_becomes 51 = .ok (.iconst 2, 1) := by decide +kernel
theorem dX12_becomes_52 : decode cX12_becomes 52 = .ok (.if_icmp .ne 7, 3) := by decide +kernel
theorem dX12_becomes_55 : decode cX12_becomes 55 = .ok (.iconst 2, 1) := by decide +kernel
theorem dX12_becomes_56 : decode cX12_becomes 56 = .ok (.goto 6, 3) := by decide +kernel
theorem dX12_becomes_59 : decode cX12_becomes 59 = .ok (.iconst 1, 1) := by decide +kernel
theorem dX12_becomes_60 : decode cX12_becomes 60 = .ok (.iload_n 0, 1) := by decide +kernel
theorem dX12_becomes_61 : decode cX12_becomes 61 = .ok (.isub, 1) := by decide +kernel
theorem dX12_becomes_62 : decode cX12_becomes 62 = .ok (.ireturn, 1) := by decide +kernel
theorem dX12_becomes_63 : decode cX12_becomes 63 = .ok (.iload_n 0, 1) := by decide +kernel
theorem dX12_becomes_64 : decode cX12_becomes 64 = .ok (.iconst 1, 1) := by decide +kernel
theorem dX12_becomes_65 : decode cX12_becomes 65 = .ok (.iadd, 1) := by decide +kernel
theorem dX12_becomes_66 : decode cX12_becomes 66 = .ok (.iconst 3, 1) := by decide +kernel
theorem dX12_becomes_67 : decode cX12_becomes 67 = .ok (.irem, 1) := by decide +kernel
theorem dX12_becomes_68 : decode cX12_becomes 68 = .ok (.ireturn, 1) := by decide +kernel
theorem dX12_becomes_69 : decode cX12_becomes 69 = .ok (.iload_n 0, 1) := by decide +kernel
theorem dX12_becomes_70 : decode cX12_becomes 70 = .ok (.iconst 2, 1) := by decide +kernel
theorem dX12_becomes_71 : decode cX12_becomes 71 = .ok (.iadd, 1) := by decide +kernel
theorem dX12_becomes_72 : decode cX12_becomes 72 = .ok (.iconst 3, 1) := by decide +kernel
theorem dX12_becomes_73 : decode cX12_becomes 73 = .ok (.irem, 1) := by decide +kernel
theorem dX12_becomes_74 : decode cX12_becomes 74 = .ok (.ireturn, 1) := by decide +kernel
theorem dX12_becomes_75 : decode cX12_becomes 75 = .ok (.iconst 2, 1) := by decide +kernel
theorem dX12_becomes_76 : decode cX12_becomes 76 = .ok (.iload_n 0, 1) := by decide +kernel
theorem dX12_becomes_77 : decode cX12_becomes 77 = .ok (.isub, 1) := by decide +kernel
theorem dX12_becomes_78 : decode cX12_becomes 78 = .ok (.ireturn, 1) := by decide +kernel
theorem dX12_turned_0 : decode cX12_turned 0 = .ok (.iconst 0, 1) := by decide +kernel
theorem dX12_turned_1 : decode cX12_turned 1 = .ok (.istore 4, 2) := by decide +kernel
theorem dX12_turned_3 : decode cX12_turned 3 = .ok (.iload 4, 2) := by decide +kernel
theorem dX12_turned_5 : decode cX12_turned 5 = .ok (.aload_n 0, 1) := by decide +kernel
theorem dX12_turned_6 : decode cX12_turned 6 = .ok (.getfield 13, 3) := by decide +kernel
theorem dX12_turned_9 : decode cX12_turned 9 = .ok (.iload_n 2, 1) := by decide +kernel
theorem dX12_turned_10 : decode cX12_turned 10 = .ok (.iaload, 1) := by decide +kernel
theorem dX12_turned_11 : decode cX12_turned 11 = .ok (.if_icmp .ge 76, 3) := by decide +kernel
theorem dX12_turned_14 : decode cX12_turned 14 = .ok (.iconst 0, 1) := by decide +kernel
theorem dX12_turned_15 : decode cX12_turned 15 = .ok (.istore 5, 2) := by decide +kernel
theorem dX12_turned_17 : decode cX12_turned 17 = .ok (.iload 5, 2) := by decide +kernel
theorem dX12_turned_19 : decode cX12_turned 19 = .ok (.iconst 3, 1) := by decide +kernel
theorem dX12_turned_20 : decode cX12_turned 20 = .ok (.if_icmp .ge 32, 3) := by decide +kernel
theorem dX12_turned_23 : decode cX12_turned 23 = .ok (.aload_n 0, 1) := by decide +kernel
theorem dX12_turned_24 : decode cX12_turned 24 = .ok (.getfield 46, 3) := by decide +kernel
theorem dX12_turned_27 : decode cX12_turned 27 = .ok (.iload 5, 2) := by decide +kernel
theorem dX12_turned_29 : decode cX12_turned 29 = .ok (.iload_n 3, 1) := by decide +kernel
theorem dX12_turned_30 : decode cX12_turned 30 = .ok (.invokestatic 200, 3) := by decide +kernel
theorem dX12_turned_33 : decode cX12_turned 33 = .ok (.aload_n 0, 1) := by decide +kernel
theorem dX12_turned_34 : decode cX12_turned 34 = .ok (.iload_n 2, 1) := by decide +kernel
theorem dX12_turned_35 : decode cX12_turned 35 = .ok (.iload 4, 2) := by decide +kernel
theorem dX12_turned_37 : decode cX12_turned 37 = .ok (.invokevirtual 123, 3) := by decide +kernel
theorem dX12_turned_40 : decode cX12_turned 40 = .ok (.iload 5, 2) := by decide +kernel
theorem dX12_turned_42 : decode cX12_turned 42 = .ok (.invokestatic 119, 3) := by decide +kernel
theorem dX12_turned_45 : decode cX12_turned 45 = .ok (.iastore, 1) := by decide +kernel
theorem dX12_turned_46 : decode cX12_turned 46 = .ok (.iinc 5 1, 3) := by decide +kernel
theorem dX12_turned_49 : decode cX12_turned 49 = .ok (.goto (-32), 3) := by decide +kernel
theorem dX12_turned_52 : decode cX12_turned 52 = .ok (.aload_n 0, 1) := by decide +kernel
theorem dX12_turned_53 : decode cX12_turned 53 = .ok (.aload_n 0, 1) := by decide +kernel
theorem dX12_turned_54 : decode cX12_turned 54 = .ok (.getfield 46, 3) := by decide +kernel
theorem dX12_turned_57 : decode cX12_turned 57 = .ok (.iconst 0, 1) := by decide +kernel
theorem dX12_turned_58 : decode cX12_turned 58 = .ok (.iaload, 1) := by decide +kernel
theorem dX12_turned_59 : decode cX12_turned 59 = .ok (.aload_n 0, 1) := by decide +kernel
theorem dX12_turned_60 : decode cX12_turned 60 = .ok (.getfield 46, 3) := by decide +kernel
theorem dX12_turned_63 : decode cX12_turned 63 = .ok (.iconst 1, 1) := by decide +kernel
theorem dX12_turned_64 : decode cX12_turned 64 = .ok (.iaload, 1) := by decide +kernel
theorem dX12_turned_65 : decode cX12_turned 65 = .ok (.aload_n 0, 1) := by decide +kernel
theorem dX12_turned_66 : decode cX12_turned 66 = .ok (.getfield 46, 3) := by decide +kernel
theorem dX12_turned_69 : decode cX12_turned 69 = .ok (.iconst 2, 1) := by decide +kernel
theorem dX12_turned_70 : decode cX12_turned 70 = .ok (.iaload, 1) := by decide +kernel
theorem dX12_turned_71 : decode cX12_turned 71 = .ok (.aload_n 0, 1) := by decide +kernel
theorem dX12_turned_72 : decode cX12_turned 72 = .ok (.iload_n 2, 1) := by decide +kernel
theorem dX12_turned_73 : decode cX12_turned 73 = .ok (.iload 4, 2) := by decide +kernel
theorem dX12_turned_75 : decode cX12_turned 75 = .ok (.invokevirtual 126, 3) := by decide +kernel
theorem dX12_turned_78 : decode cX12_turned 78 = .ok (.invokevirtual 152, 3) := by decide +kernel
theorem dX12_turned_81 : decode cX12_turned 81 = .ok (.iinc 4 1, 3) := by decide +kernel
theorem dX12_turned_84 : decode cX12_turned 84 = .ok (.goto (-81), 3) := by decide +kernel
theorem dX12_turned_87 : decode cX12_turned 87 = .ok (.aload_n 0, 1) := by decide +kernel
theorem dX12_turned_88 : decode cX12_turned 88 = .ok (.iload_n 1, 1) := by decide +kernel
theorem dX12_turned_89 : decode cX12_turned 89 = .ok (.invokevirtual 160, 3) := by decide +kernel
theorem dX12_turned_92 : decode cX12_turned 92 = .ok (.ireturn, 1) := by decide +kernel
theorem dX12_isInX_0 : decode cX12_isInX 0 = .ok (.aload_n 0, 1) := by decide +kernel
theorem dX12_isInX_1 : decode cX12_isInX 1 = .ok (.iload_n 1, 1) := by decide +kernel
theorem dX12_isInX_2 : decode cX12_isInX 2 = .ok (.iconst 1, 1) := by decide +kernel
theorem dX12_isInX_3 : decode cX12_isInX 3 = .ok (.invokevirtual 203, 3) := by decide +kernel
theorem dX12_isInX_6 : decode cX12_isInX 6 = .ok (.iconst 1, 1) := by decide +kernel
theorem dX12_isInX_7 : decode cX12_isInX 7 = .ok (.if_icmp .ge 17, 3) := by decide +kernel
theorem dX12_isInX_10 : decode cX12_isInX 10 = .ok (.aload_n 0, 1) := by decide +kernel
theorem dX12_isInX_11 : decode cX12_isInX 11 = .ok (.iload_n 1, 1) := by decide +kernel
theorem dX12_isInX_12 : decode cX12_isInX 12 = .ok (.iconst 2, 1) := by decide +kernel
theorem dX12_isInX_13 : decode cX12_isInX 13 = .ok (.invokevirtual 203, 3) := by decide +kernel
theorem dX12_isInX_16 : decode cX12_isInX 16 = .ok (.iconst 1, 1) := by decide +kernel
theorem dX12_isInX_17 : decode cX12_isInX 17 = .ok (.if_icmp .ge 7, 3) := by decide +kernel
theorem dX12_isInX_20 : decode cX12_isInX 20 = .ok (.iconst 1, 1) := by decide +kernel
theorem dX12_isInX_21 : decode cX12_isInX 21 = .ok (.goto 4, 3) := by decide +kernel
theorem dX12_isInX_24 : decode cX12_isInX 24 = .ok (.iconst 0, 1) := by decide +kernel
theorem dX12_isInX_25 : decode cX12_isInX 25 = .ok (.ireturn, 1) := by decide +kernel
theorem dX12_spread_0 : decode cX12_spread 0 = .ok (.iconst 0, 1) := by decide +kernel
theorem dX12_spread_1 : decode cX12_spread 1 = .ok (.istore_n 3, 1) := by decide +kernel
theorem dX12_spread_2 : decode cX12_spread 2 = .ok (.iload_n 3, 1) := by decide +kernel
theorem dX12_spread_3 : decode cX12_spread 3 = .ok (.bipush 41, 2) := by decide +kernel
theorem dX12_spread_5 : decode cX12_spread 5 = .ok (.if_icmp .ge 13, 3) := by decide +kernel
theorem dX12_spread_8 : decode cX12_spread 8 = .ok (.aload_n 2, 1) := by decide +kernel
theorem dX12_spread_9 : decode cX12_spread 9 = .ok (.iload_n 3, 1) := by decide +kernel
theorem dX12_spread_10 : decode cX12_spread 10 = .ok (.iconst 0, 1) := by decide +kernel
theorem dX12_spread_11 : decode cX12_spread 11 = .ok (.iastore, 1) := by decide +kernel
theorem dX12_spread_12 : decode cX12_spread 12 = .ok (.iinc 3 1, 3) := by decide +kernel
theorem dX12_spread_15 : decode cX12_spread 15 = .ok (.goto (-13), 3) := by decide +kernel
theorem dX12_spread_18 : decode cX12_spread 18 = .ok (.iconst 0, 1) := by decide +kernel
theorem dX12_spread_19 : decode cX12_spread 19 = .ok (.istore_n 3, 1) := by decide +kernel
theorem dX12_spread_20 : decode cX12_spread 20 = .ok (.iload_n 3, 1) := by decide +kernel
theorem dX12_spread_21 : decode cX12_spread 21 = .ok (.aload_n 0, 1) := by decide +kernel
theorem dX12_spread_22 : decode cX12_spread 22 = .ok (.getfield 13, 3) := by decide +kernel
theorem dX12_spread_25 : decode cX12_spread 25 = .ok (.iload_n 1, 1) := by decide +kernel
theorem dX12_spread_26 : decode cX12_spread 26 = .ok (.iaload, 1) := by decide +kernel
theorem dX12_spread_27 : decode cX12_spread 27 = .ok (.if_icmp .ge 27, 3) := by decide +kernel
theorem dX12_spread_30 : decode cX12_spread 30 = .ok (.aload_n 2, 1) := by decide +kernel
theorem dX12_spread_31 : decode cX12_spread 31 = .ok (.aload_n 0, 1) := by decide +kernel
theorem dX12_spread_32 : decode cX12_spread 32 = .ok (.iload_n 1, 1) := by decide +kernel
theorem dX12_spread_33 : decode cX12_spread 33 = .ok (.iload_n 3, 1) := by decide +kernel
theorem dX12_spread_34 : decode cX12_spread 34 = .ok (.invokevirtual 123, 3) := by decide +kernel
theorem dX12_spread_37 : decode cX12_spread 37 = .ok (.iconst 0, 1) := by decide +kernel
theorem dX12_spread_38 : decode cX12_spread 38 = .ok (.invokestatic 119, 3) := by decide +kernel
theorem dX12_spread_41 : decode cX12_spread 41 = .ok (.aload_n 0, 1) := by decide +kernel
theorem dX12_spread_42 : decode cX12_spread 42 = .ok (.iload_n 1, 1) := by decide +kernel
theorem dX12_spread_43 : decode cX12_spread 43 = .ok (.iload_n 3, 1) := by decide +kernel
theorem dX12_spread_44 : decode cX12_spread 44 = .ok (.invokevirtual 126, 3) := by decide +kernel
theorem dX12_spread_47 : decode cX12_spread 47 = .ok (.iastore, 1) := by decide +kernel
theorem dX12_spread_48 : decode cX12_spread 48 = .ok (.iinc 3 1, 3) := by decide +kernel
theorem dX12_spread_51 : decode cX12_spread 51 = .ok (.goto (-31), 3) := by decide +kernel
theorem dX12_spread_54 : decode cX12_spread 54 = .ok (.return_, 1) := by decide +kernel
theorem dX12_topOf_0 : decode cX12_topOf 0 = .ok (.bipush 40, 2) := by decide +kernel
theorem dX12_topOf_2 : decode cX12_topOf 2 = .ok (.istore_n 1, 1) := by decide +kernel
theorem dX12_topOf_3 : decode cX12_topOf 3 = .ok (.iload_n 1, 1) := by decide +kernel
theorem dX12_topOf_4 : decode cX12_topOf 4 = .ok (.ifCond .lt 15, 3) := by decide +kernel
theorem dX12_topOf_7 : decode cX12_topOf 7 = .ok (.aload_n 0, 1) := by decide +kernel
theorem dX12_topOf_8 : decode cX12_topOf 8 = .ok (.iload_n 1, 1) := by decide +kernel
theorem dX12_topOf_9 : decode cX12_topOf 9 = .ok (.iaload, 1) := by decide +kernel
theorem dX12_topOf_10 : decode cX12_topOf 10 = .ok (.ifCond .ne 9, 3) := by decide +kernel
theorem dX12_topOf_13 : decode cX12_topOf 13 = .ok (.iinc 1 (-1), 3) := by decide +kernel
theorem dX12_topOf_16 : decode cX12_topOf 16 = .ok (.goto (-13), 3) := by decide +kernel
theorem dX12_topOf_19 : decode cX12_topOf 19 = .ok (.iload_n 1, 1) := by decide +kernel
theorem dX12_topOf_20 : decode cX12_topOf 20 = .ok (.ireturn, 1) := by decide +kernel
theorem dX12_leaves_0 : decode cX12_leaves 0 = .ok (.aload_n 2, 1) := by decide +kernel
theorem dX12_leaves_1 : decode cX12_leaves 1 = .ok (.invokestatic 206, 3) := by decide +kernel
theorem dX12_leaves_4 : decode cX12_leaves 4 = .ok (.istore_n 3, 1) := by decide +kernel
theorem dX12_leaves_5 : decode cX12_leaves 5 = .ok (.aload_n 1, 1) := by decide +kernel
theorem dX12_leaves_6 : decode cX12_leaves 6 = .ok (.invokestatic 206, 3) := by decide +kernel
theorem dX12_leaves_9 : decode cX12_leaves 9 = .ok (.istore 4, 2) := by decide +kernel
theorem dX12_leaves_11 : decode cX12_leaves 11 = .ok (.iload 4, 2) := by decide +kernel
theorem dX12_leaves_13 : decode cX12_leaves 13 = .ok (.iload_n 3, 1) := by decide +kernel
theorem dX12_leaves_14 : decode cX12_leaves 14 = .ok (.if_icmp .lt 76, 3) := by decide +kernel
theorem dX12_leaves_17 : decode cX12_leaves 17 = .ok (.aload_n 1, 1) := by decide +kernel
theorem dX12_leaves_18 : decode cX12_leaves 18 = .ok (.iload 4, 2) := by decide +kernel
theorem dX12_leaves_20 : decode cX12_leaves 20 = .ok (.iaload, 1) := by decide +kernel
theorem dX12_leaves_21 : decode cX12_leaves 21 = .ok (.aload_n 0, 1) := by decide +kernel
theorem dX12_leaves_22 : decode cX12_leaves 22 = .ok (.aload_n 2, 1) := by decide +kernel
theorem dX12_leaves_23 : decode cX12_leaves 23 = .ok (.iload_n 3, 1) := by decide +kernel
theorem dX12_leaves_24 : decode cX12_leaves 24 = .ok (.iaload, 1) := by decide +kernel
theorem dX12_leaves_25 : decode cX12_leaves 25 = .ok (.invokevirtual 210, 3) := by decide +kernel
theorem dX12_leaves_28 : decode cX12_leaves 28 = .ok (.imul, 1) := by decide +kernel
theorem dX12_leaves_29 : decode cX12_leaves 29 = .ok (.aload_n 0, 1) := by decide +kernel
theorem dX12_leaves_30 : decode cX12_leaves 30 = .ok (.getfield 9, 3) := by decide +kernel
theorem dX12_leaves_33 : decode cX12_leaves 33 = .ok (.irem, 1) := by decide +kernel
theorem dX12_leaves_34 : decode cX12_leaves 34 = .ok (.istore 5, 2) := by decide +kernel
theorem dX12_leaves_36 : decode cX12_leaves 36 = .ok (.iconst 0, 1) := by decide +kernel
theorem dX12_leaves_37 : decode cX12_leaves 37 = .ok (.istore 6, 2) := by decide +kernel
theorem dX12_leaves_39 : decode cX12_leaves 39 = .ok (.iload 6, 2) := by decide +kernel
theorem dX12_leaves_41 : decode cX12_leaves 41 = .ok (.iload_n 3, 1) := by decide +kernel
theorem dX12_leaves_42 : decode cX12_leaves 42 = .ok (.if_icmp .gt 39, 3) := by decide +kernel
theorem dX12_leaves_45 : decode cX12_leaves 45 = .ok (.aload_n 1, 1) := by decide +kernel
theorem dX12_leaves_46 : decode cX12_leaves 46 = .ok (.iload 6, 2) := by decide +kernel
theorem dX12_leaves_48 : decode cX12_leaves 48 = .ok (.iload 4, 2) := by decide +kernel
theorem dX12_leaves_50 : decode cX12_leaves 50 = .ok (.iadd, 1) := by decide +kernel
theorem dX12_leaves_51 : decode cX12_leaves 51 = .ok (.iload_n 3, 1) := by decide +kernel
theorem dX12_leaves_52 : decode cX12_leaves 52 = .ok (.isub, 1) := by decide +kernel
theorem dX12_leaves_53 : decode cX12_leaves 53 = .ok (.aload_n 0, 1) := by decide +kernel
theorem dX12_leaves_54 : decode cX12_leaves 54 = .ok (.aload_n 1, 1) := by decide +kernel
theorem dX12_leaves_55 : decode cX12_leaves 55 = .ok (.iload 6, 2) := by decide +kernel
theorem dX12_leaves_57 : decode cX12_leaves 57 = .ok (.iload 4, 2) := by decide +kernel
theorem dX12_leaves_59 : decode cX12_leaves 59 = .ok (.iadd, 1) := by decide +kernel
theorem dX12_leaves_60 : decode cX12_leaves 60 = .ok (.iload_n 3, 1) := by decide +kernel
theorem dX12_leaves_61 : decode cX12_leaves 61 = .ok (.isub, 1) := by decide +kernel
theorem dX12_leaves_62 : decode cX12_leaves 62 = .ok (.iaload, 1) := by decide +kernel
theorem dX12_leaves_63 : decode cX12_leaves 63 = .ok (.iload 5, 2) := by decide +kernel
theorem dX12_leaves_65 : decode cX12_leaves 65 = .ok (.aload_n 2, 1) := by decide +kernel
theorem dX12_leaves_66 : decode cX12_leaves 66 = .ok (.iload 6, 2) := by decide +kernel
theorem dX12_leaves_68 : decode cX12_leaves 68 = .ok (.iaload, 1) := by decide +kernel
theorem dX12_leaves_69 : decode cX12_leaves 69 = .ok (.imul, 1) := by decide +kernel
theorem dX12_leaves_70 : decode cX12_leaves 70 = .ok (.isub, 1) := by decide +kernel
theorem dX12_leaves_71 : decode cX12_leaves 71 = .ok (.invokevirtual 138, 3) := by decide +kernel
theorem dX12_leaves_74 : decode cX12_leaves 74 = .ok (.iastore, 1) := by decide +kernel
theorem dX12_leaves_75 : decode cX12_leaves 75 = .ok (.iinc 6 1, 3) := by decide +kernel
theorem dX12_leaves_78 : decode cX12_leaves 78 = .ok (.goto (-39), 3) := by decide +kernel
theorem dX12_leaves_81 : decode cX12_leaves 81 = .ok (.aload_n 1, 1) := by decide +kernel
theorem dX12_leaves_82 : decode cX12_leaves 82 = .ok (.invokestatic 206, 3) := by decide +kernel
theorem dX12_leaves_85 : decode cX12_leaves 85 = .ok (.istore 4, 2) := by decide +kernel
theorem dX12_leaves_87 : decode cX12_leaves 87 = .ok (.goto (-76), 3) := by decide +kernel
theorem dX12_leaves_90 : decode cX12_leaves 90 = .ok (.return_, 1) := by decide +kernel
theorem dX12_common_0 : decode cX12_common 0 = .ok (.aload_n 0, 1) := by decide +kernel
theorem dX12_common_1 : decode cX12_common 1 = .ok (.iload_n 2, 1) := by decide +kernel
theorem dX12_common_2 : decode cX12_common 2 = .ok (.aload_n 0, 1) := by decide +kernel
theorem dX12_common_3 : decode cX12_common 3 = .ok (.getfield 49, 3) := by decide +kernel
theorem dX12_common_6 : decode cX12_common 6 = .ok (.invokevirtual 213, 3) := by decide +kernel
theorem dX12_common_9 : decode cX12_common 9 = .ok (.aload_n 0, 1) := by decide +kernel
theorem dX12_common_10 : decode cX12_common 10 = .ok (.iload_n 3, 1) := by decide +kernel
theorem dX12_common_11 : decode cX12_common 11 = .ok (.aload_n 0, 1) := by decide +kernel
theorem dX12_common_12 : decode cX12_common 12 = .ok (.getfield 52, 3) := by decide +kernel
theorem dX12_common_15 : decode cX12_common 15 = .ok (.invokevirtual 213, 3) := by decide +kernel
theorem dX12_common_18 : decode cX12_common 18 = .ok (.aload_n 0, 1) := by decide +kernel
theorem dX12_common_19 : decode cX12_common 19 = .ok (.getfield 52, 3) := by decide +kernel
theorem dX12_common_22 : decode cX12_common 22 = .ok (.invokestatic 206, 3) := by decide +kernel
theorem dX12_common_25 : decode cX12_common 25 = .ok (.ifCond .lt 66, 3) := by decide +kernel
theorem dX12_common_28 : decode cX12_common 28 = .ok (.aload_n 0, 1) := by decide +kernel
theorem dX12_common_29 : decode cX12_common 29 = .ok (.aload_n 0, 1) := by decide +kernel
theorem dX12_common_30 : decode cX12_common 30 = .ok (.getfield 49, 3) := by decide +kernel
theorem dX12_common_33 : decode cX12_common 33 = .ok (.aload_n 0, 1) := by decide +kernel
theorem dX12_common_34 : decode cX12_common 34 = .ok (.getfield 52, 3) := by decide +kernel
theorem dX12_common_37 : decode cX12_common 37 = .ok (.invokevirtual 217, 3) := by decide +kernel
theorem dX12_common_40 : decode cX12_common 40 = .ok (.iconst 0, 1) := by decide +kernel
theorem dX12_common_41 : decode cX12_common 41 = .ok (.istore 4, 2) := by decide +kernel
theorem dX12_common_43 : decode cX12_common 43 = .ok (.iload 4, 2) := by decide +kernel
theorem dX12_common_45 : decode cX12_common 45 = .ok (.bipush 41, 2) := by decide +kernel
theorem dX12_common_47 : decode cX12_common 47 = .ok (.if_icmp .ge 41, 3) := by decide +kernel
theorem dX12_common_50 : decode cX12_common 50 = .ok (.aload_n 0, 1) := by decide +kernel
theorem dX12_common_51 : decode cX12_common 51 = .ok (.getfield 49, 3) := by decide +kernel
theorem dX12_common_54 : decode cX12_common 54 = .ok (.iload 4, 2) := by decide +kernel
theorem dX12_common_56 : decode cX12_common 56 = .ok (.iaload, 1) := by decide +kernel
theorem dX12_common_57 : decode cX12_common 57 = .ok (.istore 5, 2) := by decide +kernel
theorem dX12_common_59 : decode cX12_common 59 = .ok (.aload_n 0, 1) := by decide +kernel
theorem dX12_common_60 : decode cX12_common 60 = .ok (.getfield 49, 3) := by decide +kernel
theorem dX12_common_63 : decode cX12_common 63 = .ok (.iload 4, 2) := by decide +kernel
theorem dX12_common_65 : decode cX12_common 65 = .ok (.aload_n 0, 1) := by decide +kernel
theorem dX12_common_66 : decode cX12_common 66 = .ok (.getfield 52, 3) := by decide +kernel
theorem dX12_common_69 : decode cX12_common 69 = .ok (.iload 4, 2) := by decide +kernel
theorem dX12_common_71 : decode cX12_common 71 = .ok (.iaload, 1) := by decide +kernel
theorem dX12_common_72 : decode cX12_common 72 = .ok (.iastore, 1) := by decide +kernel
theorem dX12_common_73 : decode cX12_common 73 = .ok (.aload_n 0, 1) := by decide +kernel
theorem dX12_common_74 : decode cX12_common 74 = .ok (.getfield 52, 3) := by decide +kernel
theorem dX12_common_77 : decode cX12_common 77 = .ok (.iload 4, 2) := by decide +kernel
theorem dX12_common_79 : decode cX12_common 79 = .ok (.iload 5, 2) := by decide +kernel
theorem dX12_common_81 : decode cX12_common 81 = .ok (.iastore, 1) := by decide +kernel
theorem dX12_common_82 : decode cX12_common 82 = .ok (.iinc 4 1, 3) := by decide +kernel
theorem dX12_common_85 : decode cX12_common 85 = .ok (.goto (-42), 3) := by decide +kernel
theorem dX12_common_88 : decode cX12_common 88 = .ok (.goto (-70), 3) := by decide +kernel
theorem dX12_common_91 : decode cX12_common 91 = .ok (.aload_n 0, 1) := by decide +kernel
theorem dX12_common_92 : decode cX12_common 92 = .ok (.getfield 49, 3) := by decide +kernel
theorem dX12_common_95 : decode cX12_common 95 = .ok (.invokestatic 206, 3) := by decide +kernel
theorem dX12_common_98 : decode cX12_common 98 = .ok (.istore 4, 2) := by decide +kernel
theorem dX12_common_100 : decode cX12_common 100 = .ok (.iload 4, 2) := by decide +kernel
theorem dX12_common_102 : decode cX12_common 102 = .ok (.ifCond .ge 7, 3) := by decide +kernel
theorem dX12_common_105 : decode cX12_common 105 = .ok (.iconst 0, 1) := by decide +kernel
theorem dX12_common_106 : decode cX12_common 106 = .ok (.goto 14, 3) := by decide +kernel
theorem dX12_common_109 : decode cX12_common 109 = .ok (.aload_n 0, 1) := by decide +kernel
theorem dX12_common_110 : decode cX12_common 110 = .ok (.aload_n 0, 1) := by decide +kernel
theorem dX12_common_111 : decode cX12_common 111 = .ok (.getfield 49, 3) := by decide +kernel
theorem dX12_common_114 : decode cX12_common 114 = .ok (.iload 4, 2) := by decide +kernel
theorem dX12_common_116 : decode cX12_common 116 = .ok (.iaload, 1) := by decide +kernel
theorem dX12_common_117 : decode cX12_common 117 = .ok (.invokevirtual 210, 3) := by decide +kernel
theorem dX12_common_120 : decode cX12_common 120 = .ok (.istore 5, 2) := by decide +kernel
theorem dX12_common_122 : decode cX12_common 122 = .ok (.iconst 0, 1) := by decide +kernel
theorem dX12_common_123 : decode cX12_common 123 = .ok (.istore 6, 2) := by decide +kernel
theorem dX12_common_125 : decode cX12_common 125 = .ok (.iload 6, 2) := by decide +kernel
theorem dX12_common_127 : decode cX12_common 127 = .ok (.iload 4, 2) := by decide +kernel
theorem dX12_common_129 : decode cX12_common 129 = .ok (.if_icmp .gt 37, 3) := by decide +kernel
theorem dX12_common_132 : decode cX12_common 132 = .ok (.aload_n 0, 1) := by decide +kernel
theorem dX12_common_133 : decode cX12_common 133 = .ok (.getfield 49, 3) := by decide +kernel
theorem dX12_common_136 : decode cX12_common 136 = .ok (.iload 6, 2) := by decide +kernel
theorem dX12_common_138 : decode cX12_common 138 = .ok (.iaload, 1) := by decide +kernel
theorem dX12_common_139 : decode cX12_common 139 = .ok (.ifCond .eq 21, 3) := by decide +kernel
theorem dX12_common_142 : decode cX12_common 142 = .ok (.aload_n 0, 1) := by decide +kernel
theorem dX12_common_143 : decode cX12_common 143 = .ok (.iload 6, 2) := by decide +kernel
theorem dX12_common_145 : decode cX12_common 145 = .ok (.iconst 0, 1) := by decide +kernel
theorem dX12_common_146 : decode cX12_common 146 = .ok (.iconst 0, 1) := by decide +kernel
theorem dX12_common_147 : decode cX12_common 147 = .ok (.aload_n 0, 1) := by decide +kernel
theorem dX12_common_148 : decode cX12_common 148 = .ok (.getfield 49, 3) := by decide +kernel
theorem dX12_common_151 : decode cX12_common 151 = .ok (.iload 6, 2) := by decide +kernel
theorem dX12_common_153 : decode cX12_common 153 = .ok (.iaload, 1) := by decide +kernel
theorem dX12_common_154 : decode cX12_common 154 = .ok (.iload 5, 2) := by decide +kernel
theorem dX12_common_156 : decode cX12_common 156 = .ok (.imul, 1) := by decide +kernel
theorem dX12_common_157 : decode cX12_common 157 = .ok (.invokevirtual 152, 3) := by decide +kernel
theorem dX12_common_160 : decode cX12_common 160 = .ok (.iinc 6 1, 3) := by decide +kernel
theorem dX12_common_163 : decode cX12_common 163 = .ok (.goto (-38), 3) := by decide +kernel
theorem dX12_common_166 : decode cX12_common 166 = .ok (.aload_n 0, 1) := by decide +kernel
theorem dX12_common_167 : decode cX12_common 167 = .ok (.iload_n 1, 1) := by decide +kernel
theorem dX12_common_168 : decode cX12_common 168 = .ok (.invokevirtual 160, 3) := by decide +kernel
theorem dX12_common_171 : decode cX12_common 171 = .ok (.ireturn, 1) := by decide +kernel
theorem dX12_layWhole_0 : decode cX12_layWhole 0 = .ok (.iconst 0, 1) := by decide +kernel
theorem dX12_layWhole_1 : decode cX12_layWhole 1 = .ok (.istore_n 2, 1) := by decide +kernel
theorem dX12_layWhole_2 : decode cX12_layWhole 2 = .ok (.iload_n 2, 1) := by decide +kernel
theorem dX12_layWhole_3 : decode cX12_layWhole 3 = .ok (.aload_n 0, 1) := by decide +kernel
theorem dX12_layWhole_4 : decode cX12_layWhole 4 = .ok (.getfield 56, 3) := by decide +kernel
theorem dX12_layWhole_7 : decode cX12_layWhole 7 = .ok (.arraylength, 1) := by decide +kernel
theorem dX12_layWhole_8 : decode cX12_layWhole 8 = .ok (.if_icmp .ge 16, 3) := by decide +kernel
theorem dX12_layWhole_11 : decode cX12_layWhole 11 = .ok (.aload_n 0, 1) := by decide +kernel
theorem dX12_layWhole_12 : decode cX12_layWhole 12 = .ok (.getfield 56, 3) := by decide +kernel
theorem dX12_layWhole_15 : decode cX12_layWhole 15 = .ok (.iload_n 2, 1) := by decide +kernel
theorem dX12_layWhole_16 : decode cX12_layWhole 16 = .ok (.iconst 0, 1) := by decide +kernel
theorem dX12_layWhole_17 : decode cX12_layWhole 17 = .ok (.iastore, 1) := by decide +kernel
theorem dX12_layWhole_18 : decode cX12_layWhole 18 = .ok (.iinc 2 1, 3) := by decide +kernel
theorem dX12_layWhole_21 : decode cX12_layWhole 21 = .ok (.goto (-19), 3) := by decide +kernel
theorem dX12_layWhole_24 : decode cX12_layWhole 24 = .ok (.iconst 0, 1) := by decide +kernel
theorem dX12_layWhole_25 : decode cX12_layWhole 25 = .ok (.istore_n 2, 1) := by decide +kernel
theorem dX12_layWhole_26 : decode cX12_layWhole 26 = .ok (.iload_n 2, 1) := by decide +kernel
theorem dX12_layWhole_27 : decode cX12_layWhole 27 = .ok (.aload_n 0, 1) := by decide +kernel
theorem dX12_layWhole_28 : decode cX12_layWhole 28 = .ok (.getfield 13, 3) := by decide +kernel
theorem dX12_layWhole_31 : decode cX12_layWhole 31 = .ok (.iload_n 1, 1) := by decide +kernel
theorem dX12_layWhole_32 : decode cX12_layWhole 32 = .ok (.iaload, 1) := by decide +kernel
theorem dX12_layWhole_33 : decode cX12_layWhole 33 = .ok (.if_icmp .ge 26, 3) := by decide +kernel
theorem dX12_layWhole_36 : decode cX12_layWhole 36 = .ok (.aload_n 0, 1) := by decide +kernel
theorem dX12_layWhole_37 : decode cX12_layWhole 37 = .ok (.getfield 56, 3) := by decide +kernel
theorem dX12_layWhole_40 : decode cX12_layWhole 40 = .ok (.aload_n 0, 1) := by decide +kernel
theorem dX12_layWhole_41 : decode cX12_layWhole 41 = .ok (.iload_n 1, 1) := by decide +kernel
theorem dX12_layWhole_42 : decode cX12_layWhole 42 = .ok (.iload_n 2, 1) := by decide +kernel
theorem dX12_layWhole_43 : decode cX12_layWhole 43 = .ok (.invokevirtual 123, 3) := by decide +kernel
theorem dX12_layWhole_46 : decode cX12_layWhole 46 = .ok (.aload_n 0, 1) := by decide +kernel
theorem dX12_layWhole_47 : decode cX12_layWhole 47 = .ok (.iload_n 1, 1) := by decide +kernel
theorem dX12_layWhole_48 : decode cX12_layWhole 48 = .ok (.iload_n 2, 1) := by decide +kernel
theorem dX12_layWhole_49 : decode cX12_layWhole 49 = .ok (.invokevirtual 126, 3) := by decide +kernel
theorem dX12_layWhole_52 : decode cX12_layWhole 52 = .ok (.iastore, 1) := by decide +kernel
theorem dX12_layWhole_53 : decode cX12_layWhole 53 = .ok (.iinc 2 1, 3) := by decide +kernel
theorem dX12_layWhole_56 : decode cX12_layWhole 56 = .ok (.goto (-30), 3) := by decide +kernel
theorem dX12_layWhole_59 : decode cX12_layWhole 59 = .ok (.return_, 1) := by decide +kernel
theorem dX12_layValues_0 : decode cX12_layValues 0 = .ok (.iconst 0, 1) := by decide +kernel
theorem dX12_layValues_1 : decode cX12_layValues 1 = .ok (.istore_n 2, 1) := by decide +kernel
theorem dX12_layValues_2 : decode cX12_layValues 2 = .ok (.iload_n 2, 1) := by decide +kernel
theorem dX12_layValues_3 : decode cX12_layValues 3 = .ok (.aload_n 0, 1) := by decide +kernel
theorem dX12_layValues_4 : decode cX12_layValues 4 = .ok (.getfield 9, 3) := by decide +kernel
theorem dX12_layValues_7 : decode cX12_layValues 7 = .ok (.if_icmp .ge 73, 3) := by decide +kernel
theorem dX12_layValues_10 : decode cX12_layValues 10 = .ok (.iconst 0, 1) := by decide +kernel
theorem dX12_layValues_11 : decode cX12_layValues 11 = .ok (.istore_n 3, 1) := by decide +kernel
theorem dX12_layValues_12 : decode cX12_layValues 12 = .ok (.iload_n 3, 1) := by decide +kernel
theorem dX12_layValues_13 : decode cX12_layValues 13 = .ok (.aload_n 0, 1) := by decide +kernel
theorem dX12_layValues_14 : decode cX12_layValues 14 = .ok (.getfield 9, 3) := by decide +kernel
theorem dX12_layValues_17 : decode cX12_layValues 17 = .ok (.if_icmp .ge 57, 3) := by decide +kernel
theorem dX12_layValues_20 : decode cX12_layValues 20 = .ok (.iconst 0, 1) := by decide +kernel
theorem dX12_layValues_21 : decode cX12_layValues 21 = .ok (.istore 4, 2) := by decide +kernel
theorem dX12_layValues_23 : decode cX12_layValues 23 = .ok (.iload 4, 2) := by decide +kernel
theorem dX12_layValues_25 : decode cX12_layValues 25 = .ok (.aload_n 0, 1) := by decide +kernel
theorem dX12_layValues_26 : decode cX12_layValues 26 = .ok (.getfield 9, 3) := by decide +kernel
theorem dX12_layValues_29 : decode cX12_layValues 29 = .ok (.if_icmp .ge 39, 3) := by decide +kernel
theorem dX12_layValues_32 : decode cX12_layValues 32 = .ok (.aload_n 0, 1) := by decide +kernel
theorem dX12_layValues_33 : decode cX12_layValues 33 = .ok (.getfield 68, 3) := by decide +kernel
theorem dX12_layValues_36 : decode cX12_layValues 36 = .ok (.iload_n 2, 1) := by decide +kernel
theorem dX12_layValues_37 : decode cX12_layValues 37 = .ok (.aload_n 0, 1) := by decide +kernel
theorem dX12_layValues_38 : decode cX12_layValues 38 = .ok (.getfield 9, 3) := by decide +kernel
theorem dX12_layValues_41 : decode cX12_layValues 41 = .ok (.imul, 1) := by decide +kernel
theorem dX12_layValues_42 : decode cX12_layValues 42 = .ok (.iload_n 3, 1) := by decide +kernel
theorem dX12_layValues_43 : decode cX12_layValues 43 = .ok (.iadd, 1) := by decide +kernel
theorem dX12_layValues_44 : decode cX12_layValues 44 = .ok (.aload_n 0, 1) := by decide +kernel
theorem dX12_layValues_45 : decode cX12_layValues 45 = .ok (.getfield 9, 3) := by decide +kernel
theorem dX12_layValues_48 : decode cX12_layValues 48 = .ok (.imul, 1) := by decide +kernel
theorem dX12_layValues_49 : decode cX12_layValues 49 = .ok (.iload 4, 2) := by decide +kernel
theorem dX12_layValues_51 : decode cX12_layValues 51 = .ok (.iadd, 1) := by decide +kernel
theorem dX12_layValues_52 : decode cX12_layValues 52 = .ok (.aload_n 0, 1) := by decide +kernel
theorem dX12_layValues_53 : decode cX12_layValues 53 = .ok (.iload_n 1, 1) := by decide +kernel
theorem dX12_layValues_54 : decode cX12_layValues 54 = .ok (.iload_n 2, 1) := by decide +kernel
theorem dX12_layValues_55 : decode cX12_layValues 55 = .ok (.iload_n 3, 1) := by decide +kernel
