theorem dX12_init_0 : decode cX12_init 0 = .ok (.aload_n 0, 1) := by decide +kernel
theorem dX12_init_1 : decode cX12_init 1 = .ok (.invokespecial 1, 3) := by decide +kernel
theorem dX12_init_4 : decode cX12_init 4 = .ok (.aload_n 0, 1) := by decide +kernel
theorem dX12_init_5 : decode cX12_init 5 = .ok (.sipush 137, 3) := by decide +kernel
theorem dX12_init_8 : decode cX12_init 8 = .ok (.newarray .int, 2) := by decide +kernel
theorem dX12_init_10 : decode cX12_init 10 = .ok (.putfield 7, 3) := by decide +kernel
theorem dX12_init_13 : decode cX12_init 13 = .ok (.aload_n 0, 1) := by decide +kernel
theorem dX12_init_14 : decode cX12_init 14 = .ok (.sipush 137, 3) := by decide +kernel
theorem dX12_init_17 : decode cX12_init 17 = .ok (.newarray .int, 2) := by decide +kernel
theorem dX12_init_19 : decode cX12_init 19 = .ok (.putfield 13, 3) := by decide +kernel
theorem dX12_init_22 : decode cX12_init 22 = .ok (.aload_n 0, 1) := by decide +kernel
theorem dX12_init_23 : decode cX12_init 23 = .ok (.sipush 1644, 3) := by decide +kernel
theorem dX12_init_26 : decode cX12_init 26 = .ok (.newarray .int, 2) := by decide +kernel
theorem dX12_init_28 : decode cX12_init 28 = .ok (.putfield 16, 3) := by decide +kernel
theorem dX12_init_31 : decode cX12_init 31 = .ok (.aload_n 0, 1) := by decide +kernel
theorem dX12_init_32 : decode cX12_init 32 = .ok (.sipush 250, 3) := by decide +kernel
theorem dX12_init_35 : decode cX12_init 35 = .ok (.newarray .int, 2) := by decide +kernel
theorem dX12_init_37 : decode cX12_init 37 = .ok (.putfield 19, 3) := by decide +kernel
theorem dX12_init_40 : decode cX12_init 40 = .ok (.aload_n 0, 1) := by decide +kernel
theorem dX12_init_41 : decode cX12_init 41 = .ok (.iconst 2, 1) := by decide +kernel
theorem dX12_init_42 : decode cX12_init 42 = .ok (.newarray .boolean, 2) := by decide +kernel
theorem dX12_init_44 : decode cX12_init 44 = .ok (.putfield 22, 3) := by decide +kernel
theorem dX12_init_47 : decode cX12_init 47 = .ok (.aload_n 0, 1) := by decide +kernel
theorem dX12_init_48 : decode cX12_init 48 = .ok (.bipush 10, 2) := by decide +kernel
theorem dX12_init_50 : decode cX12_init 50 = .ok (.newarray .int, 2) := by decide +kernel
theorem dX12_init_52 : decode cX12_init 52 = .ok (.putfield 26, 3) := by decide +kernel
theorem dX12_init_55 : decode cX12_init 55 = .ok (.aload_n 0, 1) := by decide +kernel
theorem dX12_init_56 : decode cX12_init 56 = .ok (.bipush 10, 2) := by decide +kernel
theorem dX12_init_58 : decode cX12_init 58 = .ok (.newarray .int, 2) := by decide +kernel
theorem dX12_init_60 : decode cX12_init 60 = .ok (.putfield 29, 3) := by decide +kernel
theorem dX12_init_63 : decode cX12_init 63 = .ok (.aload_n 0, 1) := by decide +kernel
theorem dX12_init_64 : decode cX12_init 64 = .ok (.bipush 10, 2) := by decide +kernel
theorem dX12_init_66 : decode cX12_init 66 = .ok (.newarray .int, 2) := by decide +kernel
theorem dX12_init_68 : decode cX12_init 68 = .ok (.putfield 32, 3) := by decide +kernel
theorem dX12_init_71 : decode cX12_init 71 = .ok (.aload_n 0, 1) := by decide +kernel
theorem dX12_init_72 : decode cX12_init 72 = .ok (.bipush 10, 2) := by decide +kernel
theorem dX12_init_74 : decode cX12_init 74 = .ok (.newarray .int, 2) := by decide +kernel
theorem dX12_init_76 : decode cX12_init 76 = .ok (.putfield 35, 3) := by decide +kernel
theorem dX12_init_79 : decode cX12_init 79 = .ok (.aload_n 0, 1) := by decide +kernel
theorem dX12_init_80 : decode cX12_init 80 = .ok (.sipush 160, 3) := by decide +kernel
theorem dX12_init_83 : decode cX12_init 83 = .ok (.newarray .int, 2) := by decide +kernel
theorem dX12_init_85 : decode cX12_init 85 = .ok (.putfield 38, 3) := by decide +kernel
theorem dX12_init_88 : decode cX12_init 88 = .ok (.aload_n 0, 1) := by decide +kernel
theorem dX12_init_89 : decode cX12_init 89 = .ok (.bipush 7, 2) := by decide +kernel
theorem dX12_init_91 : decode cX12_init 91 = .ok (.newarray .int, 2) := by decide +kernel
theorem dX12_init_93 : decode cX12_init 93 = .ok (.putfield 41, 3) := by decide +kernel
theorem dX12_init_96 : decode cX12_init 96 = .ok (.aload_n 0, 1) := by decide +kernel
theorem dX12_init_97 : decode cX12_init 97 = .ok (.sipush 137, 3) := by decide +kernel
theorem dX12_init_100 : decode cX12_init 100 = .ok (.newarray .int, 2) := by decide +kernel
theorem dX12_init_102 : decode cX12_init 102 = .ok (.putfield 44, 3) := by decide +kernel
theorem dX12_init_105 : decode cX12_init 105 = .ok (.aload_n 0, 1) := by decide +kernel
theorem dX12_init_106 : decode cX12_init 106 = .ok (.bipush 30, 2) := by decide +kernel
theorem dX12_init_108 : decode cX12_init 108 = .ok (.newarray .int, 2) := by decide +kernel
theorem dX12_init_110 : decode cX12_init 110 = .ok (.putfield 47, 3) := by decide +kernel
theorem dX12_init_113 : decode cX12_init 113 = .ok (.aload_n 0, 1) := by decide +kernel
theorem dX12_init_114 : decode cX12_init 114 = .ok (.bipush 30, 2) := by decide +kernel
theorem dX12_init_116 : decode cX12_init 116 = .ok (.newarray .int, 2) := by decide +kernel
theorem dX12_init_118 : decode cX12_init 118 = .ok (.putfield 50, 3) := by decide +kernel
theorem dX12_init_121 : decode cX12_init 121 = .ok (.aload_n 0, 1) := by decide +kernel
theorem dX12_init_122 : decode cX12_init 122 = .ok (.bipush 30, 2) := by decide +kernel
theorem dX12_init_124 : decode cX12_init 124 = .ok (.newarray .int, 2) := by decide +kernel
theorem dX12_init_126 : decode cX12_init 126 = .ok (.putfield 53, 3) := by decide +kernel
theorem dX12_init_129 : decode cX12_init 129 = .ok (.aload_n 0, 1) := by decide +kernel
theorem dX12_init_130 : decode cX12_init 130 = .ok (.bipush 30, 2) := by decide +kernel
theorem dX12_init_132 : decode cX12_init 132 = .ok (.newarray .int, 2) := by decide +kernel
theorem dX12_init_134 : decode cX12_init 134 = .ok (.putfield 56, 3) := by decide +kernel
theorem dX12_init_137 : decode cX12_init 137 = .ok (.aload_n 0, 1) := by decide +kernel
theorem dX12_init_138 : decode cX12_init 138 = .ok (.bipush 30, 2) := by decide +kernel
theorem dX12_init_140 : decode cX12_init 140 = .ok (.newarray .int, 2) := by decide +kernel
theorem dX12_init_142 : decode cX12_init 142 = .ok (.putfield 59, 3) := by decide +kernel
theorem dX12_init_145 : decode cX12_init 145 = .ok (.aload_n 0, 1) := by decide +kernel
theorem dX12_init_146 : decode cX12_init 146 = .ok (.bipush 30, 2) := by decide +kernel
theorem dX12_init_148 : decode cX12_init 148 = .ok (.newarray .int, 2) := by decide +kernel
theorem dX12_init_150 : decode cX12_init 150 = .ok (.putfield 62, 3) := by decide +kernel
theorem dX12_init_153 : decode cX12_init 153 = .ok (.aload_n 0, 1) := by decide +kernel
theorem dX12_init_154 : decode cX12_init 154 = .ok (.bipush 10, 2) := by decide +kernel
theorem dX12_init_156 : decode cX12_init 156 = .ok (.newarray .int, 2) := by decide +kernel
theorem dX12_init_158 : decode cX12_init 158 = .ok (.putfield 65, 3) := by decide +kernel
theorem dX12_init_161 : decode cX12_init 161 = .ok (.aload_n 0, 1) := by decide +kernel
theorem dX12_init_162 : decode cX12_init 162 = .ok (.sipush 6480, 3) := by decide +kernel
theorem dX12_init_165 : decode cX12_init 165 = .ok (.newarray .int, 2) := by decide +kernel
theorem dX12_init_167 : decode cX12_init 167 = .ok (.putfield 68, 3) := by decide +kernel
theorem dX12_init_170 : decode cX12_init 170 = .ok (.aload_n 0, 1) := by decide +kernel
theorem dX12_init_171 : decode cX12_init 171 = .ok (.sipush 9600, 3) := by decide +kernel
theorem dX12_init_174 : decode cX12_init 174 = .ok (.newarray .int, 2) := by decide +kernel
theorem dX12_init_176 : decode cX12_init 176 = .ok (.putfield 71, 3) := by decide +kernel
theorem dX12_init_179 : decode cX12_init 179 = .ok (.aload_n 0, 1) := by decide +kernel
theorem dX12_init_180 : decode cX12_init 180 = .ok (.iconst 4, 1) := by decide +kernel
theorem dX12_init_181 : decode cX12_init 181 = .ok (.newarray .int, 2) := by decide +kernel
theorem dX12_init_183 : decode cX12_init 183 = .ok (.putfield 74, 3) := by decide +kernel
theorem dX12_init_186 : decode cX12_init 186 = .ok (.aload_n 0, 1) := by decide +kernel
theorem dX12_init_187 : decode cX12_init 187 = .ok (.sipush 1024, 3) := by decide +kernel
theorem dX12_init_190 : decode cX12_init 190 = .ok (.newarray .boolean, 2) := by decide +kernel
theorem dX12_init_192 : decode cX12_init 192 = .ok (.putfield 77, 3) := by decide +kernel
theorem dX12_init_195 : decode cX12_init 195 = .ok (.aload_n 0, 1) := by decide +kernel
theorem dX12_init_196 : decode cX12_init 196 = .ok (.invokevirtual 80, 3) := by decide +kernel
theorem dX12_init_199 : decode cX12_init 199 = .ok (.aload_n 0, 1) := by decide +kernel
theorem dX12_init_200 : decode cX12_init 200 = .ok (.getfield 7, 3) := by decide +kernel
theorem dX12_init_203 : decode cX12_init 203 = .ok (.bipush 125, 2) := by decide +kernel
theorem dX12_init_205 : decode cX12_init 205 = .ok (.iconst 1, 1) := by decide +kernel
theorem dX12_init_206 : decode cX12_init 206 = .ok (.iastore, 1) := by decide +kernel
theorem dX12_init_207 : decode cX12_init 207 = .ok (.aload_n 0, 1) := by decide +kernel
theorem dX12_init_208 : decode cX12_init 208 = .ok (.getfield 7, 3) := by decide +kernel
theorem dX12_init_211 : decode cX12_init 211 = .ok (.bipush 126, 2) := by decide +kernel
theorem dX12_init_213 : decode cX12_init 213 = .ok (.iconst 3, 1) := by decide +kernel
theorem dX12_init_214 : decode cX12_init 214 = .ok (.iastore, 1) := by decide +kernel
theorem dX12_init_215 : decode cX12_init 215 = .ok (.aload_n 0, 1) := by decide +kernel
theorem dX12_init_216 : decode cX12_init 216 = .ok (.getfield 7, 3) := by decide +kernel
theorem dX12_init_219 : decode cX12_init 219 = .ok (.bipush 127, 2) := by decide +kernel
theorem dX12_init_221 : decode cX12_init 221 = .ok (.iconst 2, 1) := by decide +kernel
theorem dX12_init_222 : decode cX12_init 222 = .ok (.iastore, 1) := by decide +kernel
theorem dX12_init_223 : decode cX12_init 223 = .ok (.aload_n 0, 1) := by decide +kernel
theorem dX12_init_224 : decode cX12_init 224 = .ok (.getfield 7, 3) := by decide +kernel
theorem dX12_init_227 : decode cX12_init 227 = .ok (.sipush 128, 3) := by decide +kernel
theorem dX12_init_230 : decode cX12_init 230 = .ok (.bipush 80, 2) := by decide +kernel
theorem dX12_init_232 : decode cX12_init 232 = .ok (.iastore, 1) := by decide +kernel
theorem dX12_init_233 : decode cX12_init 233 = .ok (.iconst 0, 1) := by decide +kernel
theorem dX12_init_234 : decode cX12_init 234 = .ok (.istore_n 1, 1) := by decide +kernel
theorem dX12_init_235 : decode cX12_init 235 = .ok (.iload_n 1, 1) := by decide +kernel
theorem dX12_init_236 : decode cX12_init 236 = .ok (.bipush 8, 2) := by decide +kernel
theorem dX12_init_238 : decode cX12_init 238 = .ok (.if_icmp .ge 20, 3) := by decide +kernel
theorem dX12_init_241 : decode cX12_init 241 = .ok (.aload_n 0, 1) := by decide +kernel
theorem dX12_init_242 : decode cX12_init 242 = .ok (.getfield 7, 3) := by decide +kernel
theorem dX12_init_245 : decode cX12_init 245 = .ok (.sipush 129, 3) := by decide +kernel
theorem dX12_init_248 : decode cX12_init 248 = .ok (.iload_n 1, 1) := by decide +kernel
theorem dX12_init_249 : decode cX12_init 249 = .ok (.iadd, 1) := by decide +kernel
theorem dX12_init_250 : decode cX12_init 250 = .ok (.iconst 1, 1) := by decide +kernel
theorem dX12_init_251 : decode cX12_init 251 = .ok (.iastore, 1) := by decide +kernel
theorem dX12_init_252 : decode cX12_init 252 = .ok (.iinc 1 1, 3) := by decide +kernel
theorem dX12_init_255 : decode cX12_init 255 = .ok (.goto (-20), 3) := by decide +kernel
theorem dX12_init_258 : decode cX12_init 258 = .ok (.return_, 1) := by decide +kernel
theorem dX12_in_0 : decode cX12_in 0 = .ok (.iload_n 0, 1) := by decide +kernel
theorem dX12_in_1 : decode cX12_in 1 = .ok (.iload_n 1, 1) := by decide +kernel
theorem dX12_in_2 : decode cX12_in 2 = .ok (.if_icmp .lt 12, 3) := by decide +kernel
theorem dX12_in_5 : decode cX12_in 5 = .ok (.iload_n 0, 1) := by decide +kernel
theorem dX12_in_6 : decode cX12_in 6 = .ok (.iload_n 2, 1) := by decide +kernel
theorem dX12_in_7 : decode cX12_in 7 = .ok (.if_icmp .gt 7, 3) := by decide +kernel
theorem dX12_in_10 : decode cX12_in 10 = .ok (.iconst 1, 1) := by decide +kernel
theorem dX12_in_11 : decode cX12_in 11 = .ok (.goto 4, 3) := by decide +kernel
theorem dX12_in_14 : decode cX12_in 14 = .ok (.iconst 0, 1) := by decide +kernel
theorem dX12_in_15 : decode cX12_in 15 = .ok (.ireturn, 1) := by decide +kernel
theorem dX12_least_0 : decode cX12_least 0 = .ok (.iload_n 0, 1) := by decide +kernel
theorem dX12_least_1 : decode cX12_least 1 = .ok (.iload_n 1, 1) := by decide +kernel
theorem dX12_least_2 : decode cX12_least 2 = .ok (.if_icmp .ge 7, 3) := by decide +kernel
theorem dX12_least_5 : decode cX12_least 5 = .ok (.iload_n 0, 1) := by decide +kernel
theorem dX12_least_6 : decode cX12_least 6 = .ok (.goto 4, 3) := by decide +kernel
theorem dX12_least_9 : decode cX12_least 9 = .ok (.iload_n 1, 1) := by decide +kernel
theorem dX12_least_10 : decode cX12_least 10 = .ok (.ireturn, 1) := by decide +kernel
theorem dX12_most_0 : decode cX12_most 0 = .ok (.iload_n 0, 1) := by decide +kernel
theorem dX12_most_1 : decode cX12_most 1 = .ok (.iload_n 1, 1) := by decide +kernel
theorem dX12_most_2 : decode cX12_most 2 = .ok (.if_icmp .le 7, 3) := by decide +kernel
theorem dX12_most_5 : decode cX12_most 5 = .ok (.iload_n 0, 1) := by decide +kernel
theorem dX12_most_6 : decode cX12_most 6 = .ok (.goto 4, 3) := by decide +kernel
theorem dX12_most_9 : decode cX12_most 9 = .ok (.iload_n 1, 1) := by decide +kernel
theorem dX12_most_10 : decode cX12_most 10 = .ok (.ireturn, 1) := by decide +kernel
theorem dX12_amount_0 : decode cX12_amount 0 = .ok (.iload_n 0, 1) := by decide +kernel
theorem dX12_amount_1 : decode cX12_amount 1 = .ok (.ifCond .ge 8, 3) := by decide +kernel
theorem dX12_amount_4 : decode cX12_amount 4 = .ok (.iload_n 0, 1) := by decide +kernel
theorem dX12_amount_5 : decode cX12_amount 5 = .ok (.ineg, 1) := by decide +kernel
theorem dX12_amount_6 : decode cX12_amount 6 = .ok (.goto 4, 3) := by decide +kernel
theorem dX12_amount_9 : decode cX12_amount 9 = .ok (.iload_n 0, 1) := by decide +kernel
theorem dX12_amount_10 : decode cX12_amount 10 = .ok (.ireturn, 1) := by decide +kernel
theorem dX12_bits_0 : decode cX12_bits 0 = .ok (.iconst 0, 1) := by decide +kernel
theorem dX12_bits_1 : decode cX12_bits 1 = .ok (.istore_n 1, 1) := by decide +kernel
theorem dX12_bits_2 : decode cX12_bits 2 = .ok (.iconst 0, 1) := by decide +kernel
theorem dX12_bits_3 : decode cX12_bits 3 = .ok (.istore_n 2, 1) := by decide +kernel
theorem dX12_bits_4 : decode cX12_bits 4 = .ok (.iload_n 2, 1) := by decide +kernel
theorem dX12_bits_5 : decode cX12_bits 5 = .ok (.bipush 32, 2) := by decide +kernel
theorem dX12_bits_7 : decode cX12_bits 7 = .ok (.if_icmp .ge 17, 3) := by decide +kernel
theorem dX12_bits_10 : decode cX12_bits 10 = .ok (.iload_n 1, 1) := by decide +kernel
theorem dX12_bits_11 : decode cX12_bits 11 = .ok (.iload_n 0, 1) := by decide +kernel
theorem dX12_bits_12 : decode cX12_bits 12 = .ok (.iload_n 2, 1) := by decide +kernel
theorem dX12_bits_13 : decode cX12_bits 13 = .ok (.ishr, 1) := by decide +kernel
theorem dX12_bits_14 : decode cX12_bits 14 = .ok (.iconst 1, 1) := by decide +kernel
theorem dX12_bits_15 : decode cX12_bits 15 = .ok (.iand, 1) := by decide +kernel
theorem dX12_bits_16 : decode cX12_bits 16 = .ok (.iadd, 1) := by decide +kernel
theorem dX12_bits_17 : decode cX12_bits 17 = .ok (.istore_n 1, 1) := by decide +kernel
theorem dX12_bits_18 : decode cX12_bits 18 = .ok (.iinc 2 1, 3) := by decide +kernel
theorem dX12_bits_21 : decode cX12_bits 21 = .ok (.goto (-17), 3) := by decide +kernel
theorem dX12_bits_24 : decode cX12_bits 24 = .ok (.iload_n 1, 1) := by decide +kernel
theorem dX12_bits_25 : decode cX12_bits 25 = .ok (.ireturn, 1) := by decide +kernel
theorem dX12_clearDesign_0 : decode cX12_clearDesign 0 = .ok (.iconst 0, 1) := by decide +kernel
theorem dX12_clearDesign_1 : decode cX12_clearDesign 1 = .ok (.istore_n 1, 1) := by decide +kernel
theorem dX12_clearDesign_2 : decode cX12_clearDesign 2 = .ok (.iload_n 1, 1) := by decide +kernel
theorem dX12_clearDesign_3 : decode cX12_clearDesign 3 = .ok (.bipush 125, 2) := by decide +kernel
theorem dX12_clearDesign_5 : decode cX12_clearDesign 5 = .ok (.if_icmp .ge 16, 3) := by decide +kernel
theorem dX12_clearDesign_8 : decode cX12_clearDesign 8 = .ok (.aload_n 0, 1) := by decide +kernel
theorem dX12_clearDesign_9 : decode cX12_clearDesign 9 = .ok (.getfield 7, 3) := by decide +kernel
theorem dX12_clearDesign_12 : decode cX12_clearDesign 12 = .ok (.iload_n 1, 1) := by decide +kernel
theorem dX12_clearDesign_13 : decode cX12_clearDesign 13 = .ok (.iconst 0, 1) := by decide +kernel
theorem dX12_clearDesign_14 : decode cX12_clearDesign 14 = .ok (.iastore, 1) := by decide +kernel
theorem dX12_clearDesign_15 : decode cX12_clearDesign 15 = .ok (.iinc 1 1, 3) := by decide +kernel
theorem dX12_clearDesign_18 : decode cX12_clearDesign 18 = .ok (.goto (-16), 3) := by decide +kernel
theorem dX12_clearDesign_21 : decode cX12_clearDesign 21 = .ok (.aload_n 0, 1) := by decide +kernel
theorem dX12_clearDesign_22 : decode cX12_clearDesign 22 = .ok (.getfield 7, 3) := by decide +kernel
theorem dX12_clearDesign_25 : decode cX12_clearDesign 25 = .ok (.iconst 0, 1) := by decide +kernel
theorem dX12_clearDesign_26 : decode cX12_clearDesign 26 = .ok (.sipush 200, 3) := by decide +kernel
theorem dX12_clearDesign_29 : decode cX12_clearDesign 29 = .ok (.iastore, 1) := by decide +kernel
theorem dX12_clearDesign_30 : decode cX12_clearDesign 30 = .ok (.aload_n 0, 1) := by decide +kernel
theorem dX12_clearDesign_31 : decode cX12_clearDesign 31 = .ok (.getfield 7, 3) := by decide +kernel
theorem dX12_clearDesign_34 : decode cX12_clearDesign 34 = .ok (.iconst 1, 1) := by decide +kernel
theorem dX12_clearDesign_35 : decode cX12_clearDesign 35 = .ok (.sipush 200, 3) := by decide +kernel
theorem dX12_clearDesign_38 : decode cX12_clearDesign 38 = .ok (.iastore, 1) := by decide +kernel
theorem dX12_clearDesign_39 : decode cX12_clearDesign 39 = .ok (.return_, 1) := by decide +kernel
theorem dX12_many_0 : decode cX12_many 0 = .ok (.aload_n 0, 1) := by decide +kernel
theorem dX12_many_1 : decode cX12_many 1 = .ok (.getfield 7, 3) := by decide +kernel
theorem dX12_many_4 : decode cX12_many 4 = .ok (.iconst 2, 1) := by decide +kernel
theorem dX12_many_5 : decode cX12_many 5 = .ok (.iaload, 1) := by decide +kernel
theorem dX12_many_6 : decode cX12_many 6 = .ok (.ireturn, 1) := by decide +kernel
theorem dX12_of_0 : decode cX12_of 0 = .ok (.aload_n 0, 1) := by decide +kernel
theorem dX12_of_1 : decode cX12_of 1 = .ok (.getfield 7, 3) := by decide +kernel
theorem dX12_of_4 : decode cX12_of 4 = .ok (.bipush 11, 2) := by decide +kernel
theorem dX12_of_6 : decode cX12_of 6 = .ok (.bipush 11, 2) := by decide +kernel
theorem dX12_of_8 : decode cX12_of 8 = .ok (.iload_n 1, 1) := by decide +kernel
theorem dX12_of_9 : decode cX12_of 9 = .ok (.imul, 1) := by decide +kernel
theorem dX12_of_10 : decode cX12_of 10 = .ok (.iadd, 1) := by decide +kernel
theorem dX12_of_11 : decode cX12_of 11 = .ok (.iload_n 2, 1) := by decide +kernel
theorem dX12_of_12 : decode cX12_of 12 = .ok (.iadd, 1) := by decide +kernel
theorem dX12_of_13 : decode cX12_of 13 = .ok (.iaload, 1) := by decide +kernel
theorem dX12_of_14 : decode cX12_of 14 = .ok (.ireturn, 1) := by decide +kernel
theorem dX12_put_0 : decode cX12_put 0 = .ok (.aload_n 0, 1) := by decide +kernel
theorem dX12_put_1 : decode cX12_put 1 = .ok (.getfield 7, 3) := by decide +kernel
theorem dX12_put_4 : decode cX12_put 4 = .ok (.bipush 11, 2) := by decide +kernel
theorem dX12_put_6 : decode cX12_put 6 = .ok (.bipush 11, 2) := by decide +kernel
theorem dX12_put_8 : decode cX12_put 8 = .ok (.iload_n 1, 1) := by decide +kernel
theorem dX12_put_9 : decode cX12_put 9 = .ok (.imul, 1) := by decide +kernel
theorem dX12_put_10 : decode cX12_put 10 = .ok (.iadd, 1) := by decide +kernel
theorem dX12_put_11 : decode cX12_put 11 = .ok (.iload_n 2, 1) := by decide +kernel
theorem dX12_put_12 : decode cX12_put 12 = .ok (.iadd, 1) := by decide +kernel
theorem dX12_put_13 : decode cX12_put 13 = .ok (.iload_n 3, 1) := by decide +kernel
theorem dX12_put_14 : decode cX12_put 14 = .ok (.iastore, 1) := by decide +kernel
theorem dX12_put_15 : decode cX12_put 15 = .ok (.return_, 1) := by decide +kernel
theorem dX12_isPanel_0 : decode cX12_isPanel 0 = .ok (.iload_n 1, 1) := by decide +kernel
theorem dX12_isPanel_1 : decode cX12_isPanel 1 = .ok (.iconst 0, 1) := by decide +kernel
theorem dX12_isPanel_2 : decode cX12_isPanel 2 = .ok (.aload_n 0, 1) := by decide +kernel
theorem dX12_isPanel_3 : decode cX12_isPanel 3 = .ok (.invokevirtual 83, 3) := by decide +kernel
theorem dX12_isPanel_6 : decode cX12_isPanel 6 = .ok (.iconst 1, 1) := by decide +kernel
theorem dX12_isPanel_7 : decode cX12_isPanel 7 = .ok (.isub, 1) := by decide +kernel
theorem dX12_isPanel_8 : decode cX12_isPanel 8 = .ok (.invokestatic 87, 3) := by decide +kernel
theorem dX12_isPanel_11 : decode cX12_isPanel 11 = .ok (.ireturn, 1) := by decide +kernel
theorem dX12_isHung_0 : decode cX12_isHung 0 = .ok (.iload_n 1, 1) := by decide +kernel
theorem dX12_isHung_1 : decode cX12_isHung 1 = .ok (.iconst 1, 1) := by decide +kernel
theorem dX12_isHung_2 : decode cX12_isHung 2 = .ok (.aload_n 0, 1) := by decide +kernel
theorem dX12_isHung_3 : decode cX12_isHung 3 = .ok (.invokevirtual 83, 3) := by decide +kernel
theorem dX12_isHung_6 : decode cX12_isHung 6 = .ok (.iconst 1, 1) := by decide +kernel
theorem dX12_isHung_7 : decode cX12_isHung 7 = .ok (.isub, 1) := by decide +kernel
theorem dX12_isHung_8 : decode cX12_isHung 8 = .ok (.invokestatic 87, 3) := by decide +kernel
theorem dX12_isHung_11 : decode cX12_isHung 11 = .ok (.ireturn, 1) := by decide +kernel
theorem dX12_limitOf_0 : decode cX12_limitOf 0 = .ok (.aload_n 0, 1) := by decide +kernel
theorem dX12_limitOf_1 : decode cX12_limitOf 1 = .ok (.getfield 7, 3) := by decide +kernel
theorem dX12_limitOf_4 : decode cX12_limitOf 4 = .ok (.bipush 125, 2) := by decide +kernel
theorem dX12_limitOf_6 : decode cX12_limitOf 6 = .ok (.iload_n 1, 1) := by decide +kernel
theorem dX12_limitOf_7 : decode cX12_limitOf 7 = .ok (.iadd, 1) := by decide +kernel
theorem dX12_limitOf_8 : decode cX12_limitOf 8 = .ok (.iaload, 1) := by decide +kernel
theorem dX12_limitOf_9 : decode cX12_limitOf 9 = .ok (.ireturn, 1) := by decide +kernel
theorem dX12_isFlap_0 : decode cX12_isFlap 0 = .ok (.aload_n 0, 1) := by decide +kernel
theorem dX12_isFlap_1 : decode cX12_isFlap 1 = .ok (.iload_n 1, 1) := by decide +kernel
theorem dX12_isFlap_2 : decode cX12_isFlap 2 = .ok (.bipush 6, 2) := by decide +kernel
theorem dX12_isFlap_4 : decode cX12_isFlap 4 = .ok (.invokevirtual 91, 3) := by decide +kernel
theorem dX12_isFlap_7 : decode cX12_isFlap 7 = .ok (.bipush (-9), 2) := by decide +kernel
theorem dX12_isFlap_9 : decode cX12_isFlap 9 = .ok (.if_icmp .eq 7, 3) := by decide +kernel
theorem dX12_isFlap_12 : decode cX12_isFlap 12 = .ok (.iconst 1, 1) := by decide +kernel
theorem dX12_isFlap_13 : decode cX12_isFlap 13 = .ok (.goto 4, 3) := by decide +kernel
theorem dX12_isFlap_16 : decode cX12_isFlap 16 = .ok (.iconst 0, 1) := by decide +kernel
theorem dX12_isFlap_17 : decode cX12_isFlap 17 = .ok (.ireturn, 1) := by decide +kernel
theorem dX12_begins_0 : decode cX12_begins 0 = .ok (.aload_n 0, 1) := by decide +kernel
theorem dX12_begins_1 : decode cX12_begins 1 = .ok (.iconst 0, 1) := by decide +kernel
theorem dX12_begins_2 : decode cX12_begins 2 = .ok (.putfield 95, 3) := by decide +kernel
theorem dX12_begins_5 : decode cX12_begins 5 = .ok (.iconst 0, 1) := by decide +kernel
theorem dX12_begins_6 : decode cX12_begins 6 = .ok (.istore_n 1, 1) := by decide +kernel
theorem dX12_begins_7 : decode cX12_begins 7 = .ok (.iload_n 1, 1) := by decide +kernel
theorem dX12_begins_8 : decode cX12_begins 8 = .ok (.sipush 137, 3) := by decide +kernel
theorem dX12_begins_11 : decode cX12_begins 11 = .ok (.if_icmp .ge 21, 3) := by decide +kernel
theorem dX12_begins_14 : decode cX12_begins 14 = .ok (.aload_n 0, 1) := by decide +kernel
theorem dX12_begins_15 : decode cX12_begins 15 = .ok (.getfield 13, 3) := by decide +kernel
theorem dX12_begins_18 : decode cX12_begins 18 = .ok (.iload_n 1, 1) := by decide +kernel
theorem dX12_begins_19 : decode cX12_begins 19 = .ok (.aload_n 0, 1) := by decide +kernel
theorem dX12_begins_20 : decode cX12_begins 20 = .ok (.getfield 7, 3) := by decide +kernel
theorem dX12_begins_23 : decode cX12_begins 23 = .ok (.iload_n 1, 1) := by decide +kernel
theorem dX12_begins_24 : decode cX12_begins 24 = .ok (.iaload, 1) := by decide +kernel
theorem dX12_begins_25 : decode cX12_begins 25 = .ok (.iastore, 1) := by decide +kernel
theorem dX12_begins_26 : decode cX12_begins 26 = .ok (.iinc 1 1, 3) := by decide +kernel
theorem dX12_begins_29 : decode cX12_begins 29 = .ok (.goto (-22), 3) := by decide +kernel
theorem dX12_begins_32 : decode cX12_begins 32 = .ok (.return_, 1) := by decide +kernel
theorem dX12_refuse_0 : decode cX12_refuse 0 = .ok (.aload_n 0, 1) := by decide +kernel
theorem dX12_refuse_1 : decode cX12_refuse 1 = .ok (.iconst 1, 1) := by decide +kernel
theorem dX12_refuse_2 : decode cX12_refuse 2 = .ok (.putfield 95, 3) := by decide +kernel
theorem dX12_refuse_5 : decode cX12_refuse 5 = .ok (.iconst 0, 1) := by decide +kernel
theorem dX12_refuse_6 : decode cX12_refuse 6 = .ok (.istore_n 2, 1) := by decide +kernel
theorem dX12_refuse_7 : decode cX12_refuse 7 = .ok (.iload_n 2, 1) := by decide +kernel
theorem dX12_refuse_8 : decode cX12_refuse 8 = .ok (.sipush 137, 3) := by decide +kernel
theorem dX12_refuse_11 : decode cX12_refuse 11 = .ok (.if_icmp .ge 21, 3) := by decide +kernel
theorem dX12_refuse_14 : decode cX12_refuse 14 = .ok (.aload_n 0, 1) := by decide +kernel
theorem dX12_refuse_15 : decode cX12_refuse 15 = .ok (.getfield 7, 3) := by decide +kernel
theorem dX12_refuse_18 : decode cX12_refuse 18 = .ok (.iload_n 2, 1) := by decide +kernel
theorem dX12_refuse_19 : decode cX12_refuse 19 = .ok (.aload_n 0, 1) := by decide +kernel
theorem dX12_refuse_20 : decode cX12_refuse 20 = .ok (.getfield 13, 3) := by decide +kernel
theorem dX12_refuse_23 : decode cX12_refuse 23 = .ok (.iload_n 2, 1) := by decide +kernel
theorem dX12_refuse_24 : decode cX12_refuse 24 = .ok (.iaload, 1) := by decide +kernel
theorem dX12_refuse_25 : decode cX12_refuse 25 = .ok (.iastore, 1) := by decide +kernel
theorem dX12_refuse_26 : decode cX12_refuse 26 = .ok (.iinc 2 1, 3) := by decide +kernel
theorem dX12_refuse_29 : decode cX12_refuse 29 = .ok (.goto (-22), 3) := by decide +kernel
theorem dX12_refuse_32 : decode cX12_refuse 32 = .ok (.iload_n 1, 1) := by decide +kernel
theorem dX12_refuse_33 : decode cX12_refuse 33 = .ok (.ireturn, 1) := by decide +kernel
theorem dX12_ends_0 : decode cX12_ends 0 = .ok (.aload_n 0, 1) := by decide +kernel
theorem dX12_ends_1 : decode cX12_ends 1 = .ok (.getfield 95, 3) := by decide +kernel
theorem dX12_ends_4 : decode cX12_ends 4 = .ok (.ifCond .eq 5, 3) := by decide +kernel
theorem dX12_ends_7 : decode cX12_ends 7 = .ok (.iload_n 1, 1) := by decide +kernel
theorem dX12_ends_8 : decode cX12_ends 8 = .ok (.ireturn, 1) := by decide +kernel
theorem dX12_ends_9 : decode cX12_ends 9 = .ok (.aload_n 0, 1) := by decide +kernel
theorem dX12_ends_10 : decode cX12_ends 10 = .ok (.getfield 99, 3) := by decide +kernel
theorem dX12_ends_13 : decode cX12_ends 13 = .ok (.bipush 12, 2) := by decide +kernel
theorem dX12_ends_15 : decode cX12_ends 15 = .ok (.if_icmp .ne 44, 3) := by decide +kernel
theorem dX12_ends_18 : decode cX12_ends 18 = .ok (.iconst 0, 1) := by decide +kernel
theorem dX12_ends_19 : decode cX12_ends 19 = .ok (.istore_n 2, 1) := by decide +kernel
theorem dX12_ends_20 : decode cX12_ends 20 = .ok (.iload_n 2, 1) := by decide +kernel
theorem dX12_ends_21 : decode cX12_ends 21 = .ok (.sipush 1507, 3) := by decide +kernel
theorem dX12_ends_24 : decode cX12_ends 24 = .ok (.if_icmp .ge 25, 3) := by decide +kernel
theorem dX12_ends_27 : decode cX12_ends 27 = .ok (.aload_n 0, 1) := by decide +kernel
theorem dX12_ends_28 : decode cX12_ends 28 = .ok (.getfield 16, 3) := by decide +kernel
theorem dX12_ends_31 : decode cX12_ends 31 = .ok (.iload_n 2, 1) := by decide +kernel
theorem dX12_ends_32 : decode cX12_ends 32 = .ok (.aload_n 0, 1) := by decide +kernel
theorem dX12_ends_33 : decode cX12_ends 33 = .ok (.getfield 16, 3) := by decide +kernel
theorem dX12_ends_36 : decode cX12_ends 36 = .ok (.iload_n 2, 1) := by decide +kernel
theorem dX12_ends_37 : decode cX12_ends 37 = .ok (.sipush 137, 3) := by decide +kernel
theorem dX12_ends_40 : decode cX12_ends 40 = .ok (.iadd, 1) := by decide +kernel
theorem dX12_ends_41 : decode cX12_ends 41 = .ok (.iaload, 1) := by decide +kernel
theorem dX12_ends_42 : decode cX12_ends 42 = .ok (.iastore, 1) := by decide +kernel
theorem dX12_ends_43 : decode cX12_ends 43 = .ok (.iinc 2 1, 3) := by decide +kernel
theorem dX12_ends_46 : decode cX12_ends 46 = .ok (.goto (-26), 3) := by decide +kernel
theorem dX12_ends_49 : decode cX12_ends 49 = .ok (.aload_n 0, 1) := by decide +kernel
theorem dX12_ends_50 : decode cX12_ends 50 = .ok (.dup, 1) := by decide +kernel
theorem dX12_ends_51 : decode cX12_ends 51 = .ok (.getfield 99, 3) := by decide +kernel
theorem dX12_ends_54 : decode cX12_ends 54 = .ok (.iconst 1, 1) := by decide +kernel
theorem dX12_ends_55 : decode cX12_ends 55 = .ok (.isub, 1) := by decide +kernel
theorem dX12_ends_56 : decode cX12_ends 56 = .ok (.putfield 99, 3) := by decide +kernel
theorem dX12_ends_59 : decode cX12_ends 59 = .ok (.iconst 0, 1) := by decide +kernel
theorem dX12_ends_60 : decode cX12_ends 60 = .ok (.istore_n 2, 1) := by decide +kernel
theorem dX12_ends_61 : decode cX12_ends 61 = .ok (.iload_n 2, 1) := by decide +kernel
theorem dX12_ends_62 : decode cX12_ends 62 = .ok (.sipush 137, 3) := by decide +kernel
theorem dX12_ends_65 : decode cX12_ends 65 = .ok (.if_icmp .ge 30, 3) := by decide +kernel
theorem dX12_ends_68 : decode cX12_ends 68 = .ok (.aload_n 0, 1) := by decide +kernel
theorem dX12_ends_69 : decode cX12_ends 69 = .ok (.getfield 16, 3) := by decide +kernel
theorem dX12_ends_72 : decode cX12_ends 72 = .ok (.sipush 137, 3) := by decide +kernel
theorem dX12_ends_75 : decode cX12_ends 75 = .ok (.aload_n 0, 1) := by decide +kernel
theorem dX12_ends_76 : decode cX12_ends 76 = .ok (.getfield 99, 3) := by decide +kernel
theorem dX12_ends_79 : decode cX12_ends 79 = .ok (.imul, 1) := by decide +kernel
theorem dX12_ends_80 : decode cX12_ends 80 = .ok (.iload_n 2, 1) := by decide +kernel
theorem dX12_ends_81 : decode cX12_ends 81 = .ok (.iadd, 1) := by decide +kernel
theorem dX12_ends_82 : decode cX12_ends 82 = .ok (.aload_n 0, 1) := by decide +kernel
theorem dX12_ends_83 : decode cX12_ends 83 = .ok (.getfield 13, 3) := by decide +kernel
theorem dX12_ends_86 : decode cX12_ends 86 = .ok (.iload_n 2, 1) := by decide +kernel
theorem dX12_ends_87 : decode cX12_ends 87 = .ok (.iaload, 1) := by decide +kernel
theorem dX12_ends_88 : decode cX12_ends 88 = .ok (.iastore, 1) := by decide +kernel
theorem dX12_ends_89 : decode cX12_ends 89 = .ok (.iinc 2 1, 3) := by decide +kernel
theorem dX12_ends_92 : decode cX12_ends 92 = .ok (.goto (-31), 3) := by decide +kernel
theorem dX12_ends_95 : decode cX12_ends 95 = .ok (.aload_n 0, 1) := by decide +kernel
theorem dX12_ends_96 : decode cX12_ends 96 = .ok (.dup, 1) := by decide +kernel
theorem dX12_ends_97 : decode cX12_ends 97 = .ok (.getfield 99, 3) := by decide +kernel
theorem dX12_ends_100 : decode cX12_ends 100 = .ok (.iconst 1, 1) := by decide +kernel
theorem dX12_ends_101 : decode cX12_ends 101 = .ok (.iadd, 1) := by decide +kernel
theorem dX12_ends_102 : decode cX12_ends 102 = .ok (.putfield 99, 3) := by decide +kernel
theorem dX12_ends_105 : decode cX12_ends 105 = .ok (.iload_n 1, 1) := by decide +kernel
theorem dX12_ends_106 : decode cX12_ends 106 = .ok (.ireturn, 1) := by decide +kernel
theorem dX12_undo_0 : decode cX12_undo 0 = .ok (.aload_n 0, 1) := by decide +kernel
theorem dX12_undo_1 : decode cX12_undo 1 = .ok (.getfield 99, 3) := by decide +kernel
theorem dX12_undo_4 : decode cX12_undo 4 = .ok (.ifCond .ne 6, 3) := by decide +kernel
theorem dX12_undo_7 : decode cX12_undo 7 = .ok (.bipush (-2), 2) := by decide +kernel
theorem dX12_undo_9 : decode cX12_undo 9 = .ok (.ireturn, 1) := by decide +kernel
theorem dX12_undo_10 : decode cX12_undo 10 = .ok (.aload_n 0, 1) := by decide +kernel
theorem dX12_undo_11 : decode cX12_undo 11 = .ok (.dup, 1) := by decide +kernel
theorem dX12_undo_12 : decode cX12_undo 12 = .ok (.getfield 99, 3) := by decide +kernel
theorem dX12_undo_15 : decode cX12_undo 15 = .ok (.iconst 1, 1) := by decide +kernel
theorem dX12_undo_16 : decode cX12_undo 16 = .ok (.isub, 1) := by decide +kernel
theorem dX12_undo_17 : decode cX12_undo 17 = .ok (.putfield 99, 3) := by decide +kernel
theorem dX12_undo_20 : decode cX12_undo 20 = .ok (.iconst 0, 1) := by decide +kernel
theorem dX12_undo_21 : decode cX12_undo 21 = .ok (.istore_n 1, 1) := by decide +kernel
theorem dX12_undo_22 : decode cX12_undo 22 = .ok (.iload_n 1, 1) := by decide +kernel
theorem dX12_undo_23 : decode cX12_undo 23 = .ok (.sipush 137, 3) := by decide +kernel
theorem dX12_undo_26 : decode cX12_undo 26 = .ok (.if_icmp .ge 30, 3) := by decide +kernel
theorem dX12_undo_29 : decode cX12_undo 29 = .ok (.aload_n 0, 1) := by decide +kernel
theorem dX12_undo_30 : decode cX12_undo 30 = .ok (.getfield 7, 3) := by decide +kernel
theorem dX12_undo_33 : decode cX12_undo 33 = .ok (.iload_n 1, 1) := by decide +kernel
theorem dX12_undo_34 : decode cX12_undo 34 = .ok (.aload_n 0, 1) := by decide +kernel
theorem dX12_undo_35 : decode cX12_undo 35 = .ok (.getfield 16, 3) := by decide +kernel
theorem dX12_undo_38 : decode cX12_undo 38 = .ok (.sipush 137, 3) := by decide +kernel
theorem dX12_undo_41 : decode cX12_undo 41 = .ok (.aload_n 0, 1) := by decide +kernel
theorem dX12_undo_42 : decode cX12_undo 42 = .ok (.getfield 99, 3) := by decide +kernel
theorem dX12_undo_45 : decode cX12_undo 45 = .ok (.imul, 1) := by decide +kernel
theorem dX12_undo_46 : decode cX12_undo 46 = .ok (.iload_n 1, 1) := by decide +kernel
theorem dX12_undo_47 : decode cX12_undo 47 = .ok (.iadd, 1) := by decide +kernel
theorem dX12_undo_48 : decode cX12_undo 48 = .ok (.iaload, 1) := by decide +kernel
theorem dX12_undo_49 : decode cX12_undo 49 = .ok (.iastore, 1) := by decide +kernel
theorem dX12_undo_50 : decode cX12_undo 50 = .ok (.iinc 1 1, 3) := by decide +kernel
theorem dX12_undo_53 : decode cX12_undo 53 = .ok (.goto (-31), 3) := by decide +kernel
theorem dX12_undo_56 : decode cX12_undo 56 = .ok (.aload_n 0, 1) := by decide +kernel
theorem dX12_undo_57 : decode cX12_undo 57 = .ok (.getfield 99, 3) := by decide +kernel
theorem dX12_undo_60 : decode cX12_undo 60 = .ok (.ireturn, 1) := by decide +kernel
theorem dX12_save_0 : decode cX12_save 0 = .ok (.iload_n 1, 1) := by decide +kernel
theorem dX12_save_1 : decode cX12_save 1 = .ok (.iconst 0, 1) := by decide +kernel
theorem dX12_save_2 : decode cX12_save 2 = .ok (.iconst 1, 1) := by decide +kernel
theorem dX12_save_3 : decode cX12_save 3 = .ok (.invokestatic 87, 3) := by decide +kernel
theorem dX12_save_6 : decode cX12_save 6 = .ok (.ifCond .ne 5, 3) := by decide +kernel
theorem dX12_save_9 : decode cX12_save 9 = .ok (.iconst (-1), 1) := by decide +kernel
theorem dX12_save_10 : decode cX12_save 10 = .ok (.ireturn, 1) := by decide +kernel
theorem dX12_save_11 : decode cX12_save 11 = .ok (.aload_n 0, 1) := by decide +kernel
theorem dX12_save_12 : decode cX12_save 12 = .ok (.getfield 22, 3) := by decide +kernel
theorem dX12_save_15 : decode cX12_save 15 = .ok (.iload_n 1, 1) := by decide +kernel
theorem dX12_save_16 : decode cX12_save 16 = .ok (.iconst 1, 1) := by decide +kernel
theorem dX12_save_17 : decode cX12_save 17 = .ok (.bastore, 1) := by decide +kernel
theorem dX12_save_18 : decode cX12_save 18 = .ok (.iconst 0, 1) := by decide +kernel
theorem dX12_save_19 : decode cX12_save 19 = .ok (.istore_n 2, 1) := by decide +kernel
theorem dX12_save_20 : decode cX12_save 20 = .ok (.iload_n 2, 1) := by decide +kernel
theorem dX12_save_21 : decode cX12_save 21 = .ok (.bipush 125, 2) := by decide +kernel
theorem dX12_save_23 : decode cX12_save 23 = .ok (.if_icmp .ge 26, 3) := by decide +kernel
theorem dX12_save_26 : decode cX12_save 26 = .ok (.aload_n 0, 1) := by decide +kernel
theorem dX12_save_27 : decode cX12_save 27 = .ok (.getfield 19, 3) := by decide +kernel
theorem dX12_save_30 : decode cX12_save 30 = .ok (.bipush 125, 2) := by decide +kernel
theorem dX12_save_32 : decode cX12_save 32 = .ok (.iload_n 1, 1) := by decide +kernel
theorem dX12_save_33 : decode cX12_save 33 = .ok (.imul, 1) := by decide +kernel
theorem dX12_save_34 : decode cX12_save 34 = .ok (.iload_n 2, 1) := by decide +kernel
theorem dX12_save_35 : decode cX12_save 35 = .ok (.iadd, 1) := by decide +kernel
theorem dX12_save_36 : decode cX12_save 36 = .ok (.aload_n 0, 1) := by decide +kernel
theorem dX12_save_37 : decode cX12_save 37 = .ok (.getfield 7, 3) := by decide +kernel
theorem dX12_save_40 : decode cX12_save 40 = .ok (.iload_n 2, 1) := by decide +kernel
theorem dX12_save_41 : decode cX12_save 41 = .ok (.iaload, 1) := by decide +kernel
theorem dX12_save_42 : decode cX12_save 42 = .ok (.iastore, 1) := by decide +kernel
theorem dX12_save_43 : decode cX12_save 43 = .ok (.iinc 2 1, 3) := by decide +kernel
theorem dX12_save_46 : decode cX12_save 46 = .ok (.goto (-26), 3) := by decide +kernel
theorem dX12_save_49 : decode cX12_save 49 = .ok (.aload_n 0, 1) := by decide +kernel
theorem dX12_save_50 : decode cX12_save 50 = .ok (.invokevirtual 83, 3) := by decide +kernel
theorem dX12_save_53 : decode cX12_save 53 = .ok (.ireturn, 1) := by decide +kernel
theorem dX12_restore_0 : decode cX12_restore 0 = .ok (.aload_n 0, 1) := by decide +kernel
theorem dX12_restore_1 : decode cX12_restore 1 = .ok (.invokevirtual 103, 3) := by decide +kernel
theorem dX12_restore_4 : decode cX12_restore 4 = .ok (.iload_n 1, 1) := by decide +kernel
theorem dX12_restore_5 : decode cX12_restore 5 = .ok (.iconst 0, 1) := by decide +kernel
theorem dX12_restore_6 : decode cX12_restore 6 = .ok (.iconst 1, 1) := by decide +kernel
theorem dX12_restore_7 : decode cX12_restore 7 = .ok (.invokestatic 87, 3) := by decide +kernel
theorem dX12_restore_10 : decode cX12_restore 10 = .ok (.ifCond .ne 5, 3) := by decide +kernel
theorem dX12_restore_13 : decode cX12_restore 13 = .ok (.iconst (-1), 1) := by decide +kernel
theorem dX12_restore_14 : decode cX12_restore 14 = .ok (.ireturn, 1) := by decide +kernel
theorem dX12_restore_15 : decode cX12_restore 15 = .ok (.aload_n 0, 1) := by decide +kernel
theorem dX12_restore_16 : decode cX12_restore 16 = .ok (.getfield 22, 3) := by decide +kernel
theorem dX12_restore_19 : decode cX12_restore 19 = .ok (.iload_n 1, 1) := by decide +kernel
theorem dX12_restore_20 : decode cX12_restore 20 = .ok (.baload, 1) := by decide +kernel
theorem dX12_restore_21 : decode cX12_restore 21 = .ok (.ifCond .ne 6, 3) := by decide +kernel
theorem dX12_restore_24 : decode cX12_restore 24 = .ok (.bipush (-2), 2) := by decide +kernel
theorem dX12_restore_26 : decode cX12_restore 26 = .ok (.ireturn, 1) := by decide +kernel
theorem dX12_restore_27 : decode cX12_restore 27 = .ok (.iconst 0, 1) := by decide +kernel
theorem dX12_restore_28 : decode cX12_restore 28 = .ok (.istore_n 2, 1) := by decide +kernel
theorem dX12_restore_29 : decode cX12_restore 29 = .ok (.iload_n 2, 1) := by decide +kernel
theorem dX12_restore_30 : decode cX12_restore 30 = .ok (.bipush 125, 2) := by decide +kernel
theorem dX12_restore_32 : decode cX12_restore 32 = .ok (.if_icmp .ge 26, 3) := by decide +kernel
theorem dX12_restore_35 : decode cX12_restore 35 = .ok (.aload_n 0, 1) := by decide +kernel
theorem dX12_restore_36 : decode cX12_restore 36 = .ok (.getfield 7, 3) := by decide +kernel
theorem dX12_restore_39 : decode cX12_restore 39 = .ok (.iload_n 2, 1) := by decide +kernel
theorem dX12_restore_40 : decode cX12_restore 40 = .ok (.aload_n 0, 1) := by decide +kernel
theorem dX12_restore_41 : decode cX12_restore 41 = .ok (.getfield 19, 3) := by decide +kernel
theorem dX12_restore_44 : decode cX12_restore 44 = .ok (.bipush 125, 2) := by decide +kernel
theorem dX12_restore_46 : decode cX12_restore 46 = .ok (.iload_n 1, 1) := by decide +kernel
theorem dX12_restore_47 : decode cX12_restore 47 = .ok (.imul, 1) := by decide +kernel
theorem dX12_restore_48 : decode cX12_restore 48 = .ok (.iload_n 2, 1) := by decide +kernel
theorem dX12_restore_49 : decode cX12_restore 49 = .ok (.iadd, 1) := by decide +kernel
theorem dX12_restore_50 : decode cX12_restore 50 = .ok (.iaload, 1) := by decide +kernel
theorem dX12_restore_51 : decode cX12_restore 51 = .ok (.iastore, 1) := by decide +kernel
theorem dX12_restore_52 : decode cX12_restore 52 = .ok (.iinc 2 1, 3) := by decide +kernel
theorem dX12_restore_55 : decode cX12_restore 55 = .ok (.goto (-26), 3) := by decide +kernel
theorem dX12_restore_58 : decode cX12_restore 58 = .ok (.aload_n 0, 1) := by decide +kernel
theorem dX12_restore_59 : decode cX12_restore 59 = .ok (.aload_n 0, 1) := by decide +kernel
theorem dX12_restore_60 : decode cX12_restore 60 = .ok (.invokevirtual 83, 3) := by decide +kernel
theorem dX12_restore_63 : decode cX12_restore 63 = .ok (.invokevirtual 106, 3) := by decide +kernel
theorem dX12_restore_66 : decode cX12_restore 66 = .ok (.ireturn, 1) := by decide +kernel
theorem dX12_layFlat_0 : decode cX12_layFlat 0 = .ok (.iconst 0, 1) := by decide +kernel
theorem dX12_layFlat_1 : decode cX12_layFlat 1 = .ok (.istore_n 1, 1) := by decide +kernel
theorem dX12_layFlat_2 : decode cX12_layFlat 2 = .ok (.iload_n 1, 1) := by decide +kernel
theorem dX12_layFlat_3 : decode cX12_layFlat 3 = .ok (.aload_n 0, 1) := by decide +kernel
theorem dX12_layFlat_4 : decode cX12_layFlat 4 = .ok (.invokevirtual 83, 3) := by decide +kernel
theorem dX12_layFlat_7 : decode cX12_layFlat 7 = .ok (.if_icmp .ge 261, 3) := by decide +kernel
theorem dX12_layFlat_10 : decode cX12_layFlat 10 = .ok (.iload_n 1, 1) := by decide +kernel
theorem dX12_layFlat_11 : decode cX12_layFlat 11 = .ok (.ifCond .ne 58, 3) := by decide +kernel
theorem dX12_layFlat_14 : decode cX12_layFlat 14 = .ok (.aload_n 0, 1) := by decide +kernel
theorem dX12_layFlat_15 : decode cX12_layFlat 15 = .ok (.getfield 26, 3) := by decide +kernel
theorem dX12_layFlat_18 : decode cX12_layFlat 18 = .ok (.iconst 0, 1) := by decide +kernel
theorem dX12_layFlat_19 : decode cX12_layFlat 19 = .ok (.aload_n 0, 1) := by decide +kernel
theorem dX12_layFlat_20 : decode cX12_layFlat 20 = .ok (.getfield 7, 3) := by decide +kernel
theorem dX12_layFlat_23 : decode cX12_layFlat 23 = .ok (.bipush 121, 2) := by decide +kernel
theorem dX12_layFlat_25 : decode cX12_layFlat 25 = .ok (.iaload, 1) := by decide +kernel
theorem dX12_layFlat_26 : decode cX12_layFlat 26 = .ok (.iastore, 1) := by decide +kernel
theorem dX12_layFlat_27 : decode cX12_layFlat 27 = .ok (.aload_n 0, 1) := by decide +kernel
theorem dX12_layFlat_28 : decode cX12_layFlat 28 = .ok (.getfield 29, 3) := by decide +kernel
theorem dX12_layFlat_31 : decode cX12_layFlat 31 = .ok (.iconst 0, 1) := by decide +kernel
theorem dX12_layFlat_32 : decode cX12_layFlat 32 = .ok (.aload_n 0, 1) := by decide +kernel
theorem dX12_layFlat_33 : decode cX12_layFlat 33 = .ok (.getfield 7, 3) := by decide +kernel
theorem dX12_layFlat_36 : decode cX12_layFlat 36 = .ok (.bipush 122, 2) := by decide +kernel
theorem dX12_layFlat_38 : decode cX12_layFlat 38 = .ok (.iaload, 1) := by decide +kernel
theorem dX12_layFlat_39 : decode cX12_layFlat 39 = .ok (.iastore, 1) := by decide +kernel
theorem dX12_layFlat_40 : decode cX12_layFlat 40 = .ok (.aload_n 0, 1) := by decide +kernel
theorem dX12_layFlat_41 : decode cX12_layFlat 41 = .ok (.getfield 32, 3) := by decide +kernel
theorem dX12_layFlat_44 : decode cX12_layFlat 44 = .ok (.iconst 0, 1) := by decide +kernel
theorem dX12_layFlat_45 : decode cX12_layFlat 45 = .ok (.aload_n 0, 1) := by decide +kernel
theorem dX12_layFlat_46 : decode cX12_layFlat 46 = .ok (.getfield 7, 3) := by decide +kernel
theorem dX12_layFlat_49 : decode cX12_layFlat 49 = .ok (.bipush 123, 2) := by decide +kernel
theorem dX12_layFlat_51 : decode cX12_layFlat 51 = .ok (.iaload, 1) := by decide +kernel
theorem dX12_layFlat_52 : decode cX12_layFlat 52 = .ok (.iastore, 1) := by decide +kernel
theorem dX12_layFlat_53 : decode cX12_layFlat 53 = .ok (.aload_n 0, 1) := by decide +kernel
theorem dX12_layFlat_54 : decode cX12_layFlat 54 = .ok (.getfield 35, 3) := by decide +kernel
theorem dX12_layFlat_57 : decode cX12_layFlat 57 = .ok (.iconst 0, 1) := by decide +kernel
theorem dX12_layFlat_58 : decode cX12_layFlat 58 = .ok (.aload_n 0, 1) := by decide +kernel
theorem dX12_layFlat_59 : decode cX12_layFlat 59 = .ok (.getfield 7, 3) := by decide +kernel
theorem dX12_layFlat_62 : decode cX12_layFlat 62 = .ok (.bipush 124, 2) := by decide +kernel
theorem dX12_layFlat_64 : decode cX12_layFlat 64 = .ok (.iaload, 1) := by decide +kernel
theorem dX12_layFlat_65 : decode cX12_layFlat 65 = .ok (.iastore, 1) := by decide +kernel
theorem dX12_layFlat_66 : decode cX12_layFlat 66 = .ok (.goto 196, 3) := by decide +kernel
theorem dX12_layFlat_69 : decode cX12_layFlat 69 = .ok (.aload_n 0, 1) := by decide +kernel
theorem dX12_layFlat_70 : decode cX12_layFlat 70 = .ok (.iload_n 1, 1) := by decide +kernel
theorem dX12_layFlat_71 : decode cX12_layFlat 71 = .ok (.iconst 0, 1) := by decide +kernel
theorem dX12_layFlat_72 : decode cX12_layFlat 72 = .ok (.invokevirtual 91, 3) := by decide +kernel
theorem dX12_layFlat_75 : decode cX12_layFlat 75 = .ok (.istore_n 2, 1) := by decide +kernel
theorem dX12_layFlat_76 : decode cX12_layFlat 76 = .ok (.aload_n 0, 1) := by decide +kernel
theorem dX12_layFlat_77 : decode cX12_layFlat 77 = .ok (.iload_n 1, 1) := by decide +kernel
theorem dX12_layFlat_78 : decode cX12_layFlat 78 = .ok (.iconst 1, 1) := by decide +kernel
theorem dX12_layFlat_79 : decode cX12_layFlat 79 = .ok (.invokevirtual 91, 3) := by decide +kernel
theorem dX12_layFlat_82 : decode cX12_layFlat 82 = .ok (.istore_n 3, 1) := by decide +kernel
theorem dX12_layFlat_83 : decode cX12_layFlat 83 = .ok (.aload_n 0, 1) := by decide +kernel
theorem dX12_layFlat_84 : decode cX12_layFlat 84 = .ok (.iload_n 1, 1) := by decide +kernel
theorem dX12_layFlat_85 : decode cX12_layFlat 85 = .ok (.iconst 4, 1) := by decide +kernel
theorem dX12_layFlat_86 : decode cX12_layFlat 86 = .ok (.invokevirtual 91, 3) := by decide +kernel
theorem dX12_layFlat_89 : decode cX12_layFlat 89 = .ok (.istore 4, 2) := by decide +kernel
theorem dX12_layFlat_91 : decode cX12_layFlat 91 = .ok (.iload_n 3, 1) := by decide +kernel
theorem dX12_layFlat_92 : decode cX12_layFlat 92 = .ok (.iconst 2, 1) := by decide +kernel
theorem dX12_layFlat_93 : decode cX12_layFlat 93 = .ok (.irem, 1) := by decide +kernel
theorem dX12_layFlat_94 : decode cX12_layFlat 94 = .ok (.ifCond .ne 7, 3) := by decide +kernel
theorem dX12_layFlat_97 : decode cX12_layFlat 97 = .ok (.iconst 1, 1) := by decide +kernel
theorem dX12_layFlat_98 : decode cX12_layFlat 98 = .ok (.goto 4, 3) := by decide +kernel
theorem dX12_layFlat_101 : decode cX12_layFlat 101 = .ok (.iconst 0, 1) := by decide +kernel
theorem dX12_layFlat_102 : decode cX12_layFlat 102 = .ok (.istore 5, 2) := by decide +kernel
theorem dX12_layFlat_104 : decode cX12_layFlat 104 = .ok (.aload_n 0, 1) := by decide +kernel
theorem dX12_layFlat_105 : decode cX12_layFlat 105 = .ok (.getfield 32, 3) := by decide +kernel
theorem dX12_layFlat_108 : decode cX12_layFlat 108 = .ok (.iload_n 1, 1) := by decide +kernel
theorem dX12_layFlat_109 : decode cX12_layFlat 109 = .ok (.iload 5, 2) := by decide +kernel
theorem dX12_layFlat_111 : decode cX12_layFlat 111 = .ok (.ifCond .eq 12, 3) := by decide +kernel
theorem dX12_layFlat_114 : decode cX12_layFlat 114 = .ok (.aload_n 0, 1) := by decide +kernel
theorem dX12_layFlat_115 : decode cX12_layFlat 115 = .ok (.iload_n 1, 1) := by decide +kernel
theorem dX12_layFlat_116 : decode cX12_layFlat 116 = .ok (.iconst 3, 1) := by decide +kernel
theorem dX12_layFlat_117 : decode cX12_layFlat 117 = .ok (.invokevirtual 91, 3) := by decide +kernel
theorem dX12_layFlat_120 : decode cX12_layFlat 120 = .ok (.goto 5, 3) := by decide +kernel
theorem dX12_layFlat_123 : decode cX12_layFlat 123 = .ok (.iload 4, 2) := by decide +kernel
theorem dX12_layFlat_125 : decode cX12_layFlat 125 = .ok (.iastore, 1) := by decide +kernel
theorem dX12_layFlat_126 : decode cX12_layFlat 126 = .ok (.aload_n 0, 1) := by decide +kernel
theorem dX12_layFlat_127 : decode cX12_layFlat 127 = .ok (.getfield 35, 3) := by decide +kernel
theorem dX12_layFlat_130 : decode cX12_layFlat 130 = .ok (.iload_n 1, 1) := by decide +kernel
theorem dX12_layFlat_131 : decode cX12_layFlat 131 = .ok (.iload 5, 2) := by decide +kernel
theorem dX12_layFlat_133 : decode cX12_layFlat 133 = .ok (.ifCond .eq 8, 3) := by decide +kernel
theorem dX12_layFlat_136 : decode cX12_layFlat 136 = .ok (.iload 4, 2) := by decide +kernel
theorem dX12_layFlat_138 : decode cX12_layFlat 138 = .ok (.goto 9, 3) := by decide +kernel
theorem dX12_layFlat_141 : decode cX12_layFlat 141 = .ok (.aload_n 0, 1) := by decide +kernel
theorem dX12_layFlat_142 : decode cX12_layFlat 142 = .ok (.iload_n 1, 1) := by decide +kernel
theorem dX12_layFlat_143 : decode cX12_layFlat 143 = .ok (.iconst 3, 1) := by decide +kernel
theorem dX12_layFlat_144 : decode cX12_layFlat 144 = .ok (.invokevirtual 91, 3) := by decide +kernel
theorem dX12_layFlat_147 : decode cX12_layFlat 147 = .ok (.iastore, 1) := by decide +kernel
theorem dX12_layFlat_148 : decode cX12_layFlat 148 = .ok (.aload_n 0, 1) := by decide +kernel
theorem dX12_layFlat_149 : decode cX12_layFlat 149 = .ok (.getfield 26, 3) := by decide +kernel
theorem dX12_layFlat_152 : decode cX12_layFlat 152 = .ok (.iload_n 1, 1) := by decide +kernel
theorem dX12_layFlat_153 : decode cX12_layFlat 153 = .ok (.iload 5, 2) := by decide +kernel
theorem dX12_layFlat_155 : decode cX12_layFlat 155 = .ok (.ifCond .eq 19, 3) := by decide +kernel
theorem dX12_layFlat_158 : decode cX12_layFlat 158 = .ok (.aload_n 0, 1) := by decide +kernel
theorem dX12_layFlat_159 : decode cX12_layFlat 159 = .ok (.getfield 26, 3) := by decide +kernel
theorem dX12_layFlat_162 : decode cX12_layFlat 162 = .ok (.iload_n 2, 1) := by decide +kernel
theorem dX12_layFlat_163 : decode cX12_layFlat 163 = .ok (.iaload, 1) := by decide +kernel
theorem dX12_layFlat_164 : decode cX12_layFlat 164 = .ok (.aload_n 0, 1) := by decide +kernel
theorem dX12_layFlat_165 : decode cX12_layFlat 165 = .ok (.iload_n 1, 1) := by decide +kernel
theorem dX12_layFlat_166 : decode cX12_layFlat 166 = .ok (.iconst 2, 1) := by decide +kernel
theorem dX12_layFlat_167 : decode cX12_layFlat 167 = .ok (.invokevirtual 91, 3) := by decide +kernel
theorem dX12_layFlat_170 : decode cX12_layFlat 170 = .ok (.iadd, 1) := by decide +kernel
theorem dX12_layFlat_171 : decode cX12_layFlat 171 = .ok (.goto 33, 3) := by decide +kernel
theorem dX12_layFlat_174 : decode cX12_layFlat 174 = .ok (.iload_n 3, 1) := by decide +kernel
theorem dX12_layFlat_175 : decode cX12_layFlat 175 = .ok (.iconst 1, 1) := by decide +kernel
theorem dX12_layFlat_176 : decode cX12_layFlat 176 = .ok (.if_icmp .ne 19, 3) := by decide +kernel
theorem dX12_layFlat_179 : decode cX12_layFlat 179 = .ok (.aload_n 0, 1) := by decide +kernel
theorem dX12_layFlat_180 : decode cX12_layFlat 180 = .ok (.getfield 26, 3) := by decide +kernel
theorem dX12_layFlat_183 : decode cX12_layFlat 183 = .ok (.iload_n 2, 1) := by decide +kernel
theorem dX12_layFlat_184 : decode cX12_layFlat 184 = .ok (.iaload, 1) := by decide +kernel
theorem dX12_layFlat_185 : decode cX12_layFlat 185 = .ok (.aload_n 0, 1) := by decide +kernel
theorem dX12_layFlat_186 : decode cX12_layFlat 186 = .ok (.getfield 32, 3) := by decide +kernel
theorem dX12_layFlat_189 : decode cX12_layFlat 189 = .ok (.iload_n 2, 1) := by decide +kernel
theorem dX12_layFlat_190 : decode cX12_layFlat 190 = .ok (.iaload, 1) := by decide +kernel
theorem dX12_layFlat_191 : decode cX12_layFlat 191 = .ok (.iadd, 1) := by decide +kernel
theorem dX12_layFlat_192 : decode cX12_layFlat 192 = .ok (.goto 12, 3) := by decide +kernel
theorem dX12_layFlat_195 : decode cX12_layFlat 195 = .ok (.aload_n 0, 1) := by decide +kernel
theorem dX12_layFlat_196 : decode cX12_layFlat 196 = .ok (.getfield 26, 3) := by decide +kernel
theorem dX12_layFlat_199 : decode cX12_layFlat 199 = .ok (.iload_n 2, 1) := by decide +kernel
theorem dX12_layFlat_200 : decode cX12_layFlat 200 = .ok (.iaload, 1) := by decide +kernel
theorem dX12_layFlat_201 : decode cX12_layFlat 201 = .ok (.iload 4, 2) := by decide +kernel
theorem dX12_layFlat_203 : decode cX12_layFlat 203 = .ok (.isub, 1) := by decide +kernel
theorem dX12_layFlat_204 : decode cX12_layFlat 204 = .ok (.iastore, 1) := by decide +kernel
theorem dX12_layFlat_205 : decode cX12_layFlat 205 = .ok (.aload_n 0, 1) := by decide +kernel
theorem dX12_layFlat_206 : decode cX12_layFlat 206 = .ok (.getfield 29, 3) := by decide +kernel
theorem dX12_layFlat_209 : decode cX12_layFlat 209 = .ok (.iload_n 1, 1) := by decide +kernel
theorem dX12_layFlat_210 : decode cX12_layFlat 210 = .ok (.iload 5, 2) := by decide +kernel
theorem dX12_layFlat_212 : decode cX12_layFlat 212 = .ok (.ifCond .ne 19, 3) := by decide +kernel
theorem dX12_layFlat_215 : decode cX12_layFlat 215 = .ok (.aload_n 0, 1) := by decide +kernel
theorem dX12_layFlat_216 : decode cX12_layFlat 216 = .ok (.getfield 29, 3) := by decide +kernel
theorem dX12_layFlat_219 : decode cX12_layFlat 219 = .ok (.iload_n 2, 1) := by decide +kernel
theorem dX12_layFlat_220 : decode cX12_layFlat 220 = .ok (.iaload, 1) := by decide +kernel
theorem dX12_layFlat_221 : decode cX12_layFlat 221 = .ok (.aload_n 0, 1) := by decide +kernel
theorem dX12_layFlat_222 : decode cX12_layFlat 222 = .ok (.iload_n 1, 1) := by decide +kernel
theorem dX12_layFlat_223 : decode cX12_layFlat 223 = .ok (.iconst 2, 1) := by decide +kernel
theorem dX12_layFlat_224 : decode cX12_layFlat 224 = .ok (.invokevirtual 91, 3) := by decide +kernel
theorem dX12_layFlat_227 : decode cX12_layFlat 227 = .ok (.iadd, 1) := by decide +kernel
theorem dX12_layFlat_228 : decode cX12_layFlat 228 = .ok (.goto 33, 3) := by decide +kernel
theorem dX12_layFlat_231 : decode cX12_layFlat 231 = .ok (.iload_n 3, 1) := by decide +kernel
theorem dX12_layFlat_232 : decode cX12_layFlat 232 = .ok (.iconst 2, 1) := by decide +kernel
theorem dX12_layFlat_233 : decode cX12_layFlat 233 = .ok (.if_icmp .ne 19, 3) := by decide +kernel
theorem dX12_layFlat_236 : decode cX12_layFlat 236 = .ok (.aload_n 0, 1) := by decide +kernel
theorem dX12_layFlat_237 : decode cX12_layFlat 237 = .ok (.getfield 29, 3) := by decide +kernel
theorem dX12_layFlat_240 : decode cX12_layFlat 240 = .ok (.iload_n 2, 1) := by decide +kernel
theorem dX12_layFlat_241 : decode cX12_layFlat 241 = .ok (.iaload, 1) := by decide +kernel
theorem dX12_layFlat_242 : decode cX12_layFlat 242 = .ok (.aload_n 0, 1) := by decide +kernel
theorem dX12_layFlat_243 : decode cX12_layFlat 243 = .ok (.getfield 35, 3) := by decide +kernel
theorem dX12_layFlat_246 : decode cX12_layFlat 246 = .ok (.iload_n 2, 1) := by decide +kernel
theorem dX12_layFlat_247 : decode cX12_layFlat 247 = .ok (.iaload, 1) := by decide +kernel
theorem dX12_layFlat_248 : decode cX12_layFlat 248 = .ok (.iadd, 1) := by decide +kernel
theorem dX12_layFlat_249 : decode cX12_layFlat 249 = .ok (.goto 12, 3) := by decide +kernel
theorem dX12_layFlat_252 : decode cX12_layFlat 252 = .ok (.aload_n 0, 1) := by decide +kernel
theorem dX12_layFlat_253 : decode cX12_layFlat 253 = .ok (.getfield 29, 3) := by decide +kernel
theorem dX12_layFlat_256 : decode cX12_layFlat 256 = .ok (.iload_n 2, 1) := by decide +kernel
theorem dX12_layFlat_257 : decode cX12_layFlat 257 = .ok (.iaload, 1) := by decide +kernel
theorem dX12_layFlat_258 : decode cX12_layFlat 258 = .ok (.iload 4, 2) := by decide +kernel
theorem dX12_layFlat_260 : decode cX12_layFlat 260 = .ok (.isub, 1) := by decide +kernel
theorem dX12_layFlat_261 : decode cX12_layFlat 261 = .ok (.iastore, 1) := by decide +kernel
theorem dX12_layFlat_262 : decode cX12_layFlat 262 = .ok (.iinc 1 1, 3) := by decide +kernel
theorem dX12_layFlat_265 : decode cX12_layFlat 265 = .ok (.goto (-263), 3) := by decide +kernel
theorem dX12_layFlat_268 : decode cX12_layFlat 268 = .ok (.return_, 1) := by decide +kernel
theorem dX12_sideLength_0 : decode cX12_sideLength 0 = .ok (.iload_n 2, 1) := by decide +kernel
theorem dX12_sideLength_1 : decode cX12_sideLength 1 = .ok (.iconst 2, 1) := by decide +kernel
theorem dX12_sideLength_2 : decode cX12_sideLength 2 = .ok (.irem, 1) := by decide +kernel
theorem dX12_sideLength_3 : decode cX12_sideLength 3 = .ok (.ifCond .ne 12, 3) := by decide +kernel
theorem dX12_sideLength_6 : decode cX12_sideLength 6 = .ok (.aload_n 0, 1) := by decide +kernel
theorem dX12_sideLength_7 : decode cX12_sideLength 7 = .ok (.getfield 32, 3) := by decide +kernel
theorem dX12_sideLength_10 : decode cX12_sideLength 10 = .ok (.iload_n 1, 1) := by decide +kernel
theorem dX12_sideLength_11 : decode cX12_sideLength 11 = .ok (.iaload, 1) := by decide +kernel
theorem dX12_sideLength_12 : decode cX12_sideLength 12 = .ok (.goto 9, 3) := by decide +kernel
theorem dX12_sideLength_15 : decode cX12_sideLength 15 = .ok (.aload_n 0, 1) := by decide +kernel
theorem dX12_sideLength_16 : decode cX12_sideLength 16 = .ok (.getfield 35, 3) := by decide +kernel
theorem dX12_sideLength_19 : decode cX12_sideLength 19 = .ok (.iload_n 1, 1) := by decide +kernel
theorem dX12_sideLength_20 : decode cX12_sideLength 20 = .ok (.iaload, 1) := by decide +kernel
theorem dX12_sideLength_21 : decode cX12_sideLength 21 = .ok (.ireturn, 1) := by decide +kernel
theorem dX12_common_0 : decode cX12_common 0 = .ok (.iload_n 1, 1) := by decide +kernel
theorem dX12_common_1 : decode cX12_common 1 = .ok (.iload_n 3, 1) := by decide +kernel
theorem dX12_common_2 : decode cX12_common 2 = .ok (.invokestatic 110, 3) := by decide +kernel
theorem dX12_common_5 : decode cX12_common 5 = .ok (.iload_n 0, 1) := by decide +kernel
theorem dX12_common_6 : decode cX12_common 6 = .ok (.iload_n 2, 1) := by decide +kernel
theorem dX12_common_7 : decode cX12_common 7 = .ok (.invokestatic 113, 3) := by decide +kernel
theorem dX12_common_10 : decode cX12_common 10 = .ok (.isub, 1) := by decide +kernel
theorem dX12_common_11 : decode cX12_common 11 = .ok (.ireturn, 1) := by decide +kernel
theorem dX12_overlap_0 : decode cX12_overlap 0 = .ok (.aload_n 0, 1) := by decide +kernel
theorem dX12_overlap_1 : decode cX12_overlap 1 = .ok (.getfield 26, 3) := by decide +kernel
theorem dX12_overlap_4 : decode cX12_overlap 4 = .ok (.iload_n 1, 1) := by decide +kernel
theorem dX12_overlap_5 : decode cX12_overlap 5 = .ok (.iaload, 1) := by decide +kernel
theorem dX12_overlap_6 : decode cX12_overlap 6 = .ok (.aload_n 0, 1) := by decide +kernel
theorem dX12_overlap_7 : decode cX12_overlap 7 = .ok (.getfield 26, 3) := by decide +kernel
theorem dX12_overlap_10 : decode cX12_overlap 10 = .ok (.iload_n 1, 1) := by decide +kernel
theorem dX12_overlap_11 : decode cX12_overlap 11 = .ok (.iaload, 1) := by decide +kernel
theorem dX12_overlap_12 : decode cX12_overlap 12 = .ok (.aload_n 0, 1) := by decide +kernel
theorem dX12_overlap_13 : decode cX12_overlap 13 = .ok (.getfield 32, 3) := by decide +kernel
theorem dX12_overlap_16 : decode cX12_overlap 16 = .ok (.iload_n 1, 1) := by decide +kernel
theorem dX12_overlap_17 : decode cX12_overlap 17 = .ok (.iaload, 1) := by decide +kernel
theorem dX12_overlap_18 : decode cX12_overlap 18 = .ok (.iadd, 1) := by decide +kernel
theorem dX12_overlap_19 : decode cX12_overlap 19 = .ok (.aload_n 0, 1) := by decide +kernel
theorem dX12_overlap_20 : decode cX12_overlap 20 = .ok (.getfield 26, 3) := by decide +kernel
theorem dX12_overlap_23 : decode cX12_overlap 23 = .ok (.iload_n 2, 1) := by decide +kernel
theorem dX12_overlap_24 : decode cX12_overlap 24 = .ok (.iaload, 1) := by decide +kernel
theorem dX12_overlap_25 : decode cX12_overlap 25 = .ok (.aload_n 0, 1) := by decide +kernel
theorem dX12_overlap_26 : decode cX12_overlap 26 = .ok (.getfield 26, 3) := by decide +kernel
theorem dX12_overlap_29 : decode cX12_overlap 29 = .ok (.iload_n 2, 1) := by decide +kernel
theorem dX12_overlap_30 : decode cX12_overlap 30 = .ok (.iaload, 1) := by decide +kernel
theorem dX12_overlap_31 : decode cX12_overlap 31 = .ok (.aload_n 0, 1) := by decide +kernel
theorem dX12_overlap_32 : decode cX12_overlap 32 = .ok (.getfield 32, 3) := by decide +kernel
theorem dX12_overlap_35 : decode cX12_overlap 35 = .ok (.iload_n 2, 1) := by decide +kernel
theorem dX12_overlap_36 : decode cX12_overlap 36 = .ok (.iaload, 1) := by decide +kernel
theorem dX12_overlap_37 : decode cX12_overlap 37 = .ok (.iadd, 1) := by decide +kernel
theorem dX12_overlap_38 : decode cX12_overlap 38 = .ok (.invokestatic 116, 3) := by decide +kernel
theorem dX12_overlap_41 : decode cX12_overlap 41 = .ok (.ifCond .le 51, 3) := by decide +kernel
theorem dX12_overlap_44 : decode cX12_overlap 44 = .ok (.aload_n 0, 1) := by decide +kernel
theorem dX12_overlap_45 : decode cX12_overlap 45 = .ok (.getfield 29, 3) := by decide +kernel
theorem dX12_overlap_48 : decode cX12_overlap 48 = .ok (.iload_n 1, 1) := by decide +kernel
theorem dX12_overlap_49 : decode cX12_overlap 49 = .ok (.iaload, 1) := by decide +kernel
theorem dX12_overlap_50 : decode cX12_overlap 50 = .ok (.aload_n 0, 1) := by decide +kernel
theorem dX12_overlap_51 : decode cX12_overlap 51 = .ok (.getfield 29, 3) := by decide +kernel
theorem dX12_overlap_54 : decode cX12_overlap 54 = .ok (.iload_n 1, 1) := by decide +kernel
theorem dX12_overlap_55 : decode cX12_overlap 55 = .ok (.iaload, 1) := by decide +kernel
theorem dX12_overlap_56 : decode cX12_overlap 56 = .ok (.aload_n 0, 1) := by decide +kernel
theorem dX12_overlap_57 : decode cX12_overlap 57 = .ok (.getfield 35, 3) := by decide +kernel
theorem dX12_overlap_60 : decode cX12_overlap 60 = .ok (.iload_n 1, 1) := by decide +kernel
theorem dX12_overlap_61 : decode cX12_overlap 61 = .ok (.iaload, 1) := by decide +kernel
theorem dX12_overlap_62 : decode cX12_overlap 62 = .ok (.iadd, 1) := by decide +kernel
theorem dX12_overlap_63 : decode cX12_overlap 63 = .ok (.aload_n 0, 1) := by decide +kernel
theorem dX12_overlap_64 : decode cX12_overlap 64 = .ok (.getfield 29, 3) := by decide +kernel
theorem dX12_overlap_67 : decode cX12_overlap 67 = .ok (.iload_n 2, 1) := by decide +kernel
theorem dX12_overlap_68 : decode cX12_overlap 68 = .ok (.iaload, 1) := by decide +kernel
theorem dX12_overlap_69 : decode cX12_overlap 69 = .ok (.aload_n 0, 1) := by decide +kernel
theorem dX12_overlap_70 : decode cX12_overlap 70 = .ok (.getfield 29, 3) := by decide +kernel
theorem dX12_overlap_73 : decode cX12_overlap 73 = .ok (.iload_n 2, 1) := by decide +kernel
theorem dX12_overlap_74 : decode cX12_overlap 74 = .ok (.iaload, 1) := by decide +kernel
theorem dX12_overlap_75 : decode cX12_overlap 75 = .ok (.aload_n 0, 1) := by decide +kernel
theorem dX12_overlap_76 : decode cX12_overlap 76 = .ok (.getfield 35, 3) := by decide +kernel
theorem dX12_overlap_79 : decode cX12_overlap 79 = .ok (.iload_n 2, 1) := by decide +kernel
theorem dX12_overlap_80 : decode cX12_overlap 80 = .ok (.iaload, 1) := by decide +kernel
theorem dX12_overlap_81 : decode cX12_overlap 81 = .ok (.iadd, 1) := by decide +kernel
theorem dX12_overlap_82 : decode cX12_overlap 82 = .ok (.invokestatic 116, 3) := by decide +kernel
theorem dX12_overlap_85 : decode cX12_overlap 85 = .ok (.ifCond .le 7, 3) := by decide +kernel
theorem dX12_overlap_88 : decode cX12_overlap 88 = .ok (.iconst 1, 1) := by decide +kernel
theorem dX12_overlap_89 : decode cX12_overlap 89 = .ok (.goto 4, 3) := by decide +kernel
theorem dX12_overlap_92 : decode cX12_overlap 92 = .ok (.iconst 0, 1) := by decide +kernel
theorem dX12_overlap_93 : decode cX12_overlap 93 = .ok (.ireturn, 1) := by decide +kernel
theorem dX12_isValid_0 : decode cX12_isValid 0 = .ok (.aload_n 0, 1) := by decide +kernel
theorem dX12_isValid_1 : decode cX12_isValid 1 = .ok (.invokevirtual 120, 3) := by decide +kernel
theorem dX12_isValid_4 : decode cX12_isValid 4 = .ok (.iconst 1, 1) := by decide +kernel
theorem dX12_isValid_5 : decode cX12_isValid 5 = .ok (.istore_n 1, 1) := by decide +kernel
theorem dX12_isValid_6 : decode cX12_isValid 6 = .ok (.iconst 0, 1) := by decide +kernel
theorem dX12_isValid_7 : decode cX12_isValid 7 = .ok (.istore_n 2, 1) := by decide +kernel
theorem dX12_isValid_8 : decode cX12_isValid 8 = .ok (.iload_n 2, 1) := by decide +kernel
theorem dX12_isValid_9 : decode cX12_isValid 9 = .ok (.aload_n 0, 1) := by decide +kernel
theorem dX12_isValid_10 : decode cX12_isValid 10 = .ok (.invokevirtual 83, 3) := by decide +kernel
theorem dX12_isValid_13 : decode cX12_isValid 13 = .ok (.if_icmp .ge 159, 3) := by decide +kernel
theorem dX12_isValid_16 : decode cX12_isValid 16 = .ok (.iload_n 1, 1) := by decide +kernel
theorem dX12_isValid_17 : decode cX12_isValid 17 = .ok (.ifCond .eq 69, 3) := by decide +kernel
theorem dX12_isValid_20 : decode cX12_isValid 20 = .ok (.aload_n 0, 1) := by decide +kernel
theorem dX12_isValid_21 : decode cX12_isValid 21 = .ok (.getfield 26, 3) := by decide +kernel
theorem dX12_isValid_24 : decode cX12_isValid 24 = .ok (.iload_n 2, 1) := by decide +kernel
theorem dX12_isValid_25 : decode cX12_isValid 25 = .ok (.iaload, 1) := by decide +kernel
theorem dX12_isValid_26 : decode cX12_isValid 26 = .ok (.ifCond .lt 60, 3) := by decide +kernel
theorem dX12_isValid_29 : decode cX12_isValid 29 = .ok (.aload_n 0, 1) := by decide +kernel
theorem dX12_isValid_30 : decode cX12_isValid 30 = .ok (.getfield 29, 3) := by decide +kernel
theorem dX12_isValid_33 : decode cX12_isValid 33 = .ok (.iload_n 2, 1) := by decide +kernel
theorem dX12_isValid_34 : decode cX12_isValid 34 = .ok (.iaload, 1) := by decide +kernel
theorem dX12_isValid_35 : decode cX12_isValid 35 = .ok (.ifCond .lt 51, 3) := by decide +kernel
theorem dX12_isValid_38 : decode cX12_isValid 38 = .ok (.aload_n 0, 1) := by decide +kernel
theorem dX12_isValid_39 : decode cX12_isValid 39 = .ok (.getfield 26, 3) := by decide +kernel
theorem dX12_isValid_42 : decode cX12_isValid 42 = .ok (.iload_n 2, 1) := by decide +kernel
theorem dX12_isValid_43 : decode cX12_isValid 43 = .ok (.iaload, 1) := by decide +kernel
theorem dX12_isValid_44 : decode cX12_isValid 44 = .ok (.aload_n 0, 1) := by decide +kernel
theorem dX12_isValid_45 : decode cX12_isValid 45 = .ok (.getfield 32, 3) := by decide +kernel
theorem dX12_isValid_48 : decode cX12_isValid 48 = .ok (.iload_n 2, 1) := by decide +kernel
theorem dX12_isValid_49 : decode cX12_isValid 49 = .ok (.iaload, 1) := by decide +kernel
theorem dX12_isValid_50 : decode cX12_isValid 50 = .ok (.iadd, 1) := by decide +kernel
theorem dX12_isValid_51 : decode cX12_isValid 51 = .ok (.aload_n 0, 1) := by decide +kernel
theorem dX12_isValid_52 : decode cX12_isValid 52 = .ok (.getfield 7, 3) := by decide +kernel
theorem dX12_isValid_55 : decode cX12_isValid 55 = .ok (.iconst 0, 1) := by decide +kernel
theorem dX12_isValid_56 : decode cX12_isValid 56 = .ok (.iaload, 1) := by decide +kernel
theorem dX12_isValid_57 : decode cX12_isValid 57 = .ok (.if_icmp .gt 29, 3) := by decide +kernel
theorem dX12_isValid_60 : decode cX12_isValid 60 = .ok (.aload_n 0, 1) := by decide +kernel
theorem dX12_isValid_61 : decode cX12_isValid 61 = .ok (.getfield 29, 3) := by decide +kernel
theorem dX12_isValid_64 : decode cX12_isValid 64 = .ok (.iload_n 2, 1) := by decide +kernel
theorem dX12_isValid_65 : decode cX12_isValid 65 = .ok (.iaload, 1) := by decide +kernel
theorem dX12_isValid_66 : decode cX12_isValid 66 = .ok (.aload_n 0, 1) := by decide +kernel
theorem dX12_isValid_67 : decode cX12_isValid 67 = .ok (.getfield 35, 3) := by decide +kernel
theorem dX12_isValid_70 : decode cX12_isValid 70 = .ok (.iload_n 2, 1) := by decide +kernel
theorem dX12_isValid_71 : decode cX12_isValid 71 = .ok (.iaload, 1) := by decide +kernel
theorem dX12_isValid_72 : decode cX12_isValid 72 = .ok (.iadd, 1) := by decide +kernel
theorem dX12_isValid_73 : decode cX12_isValid 73 = .ok (.aload_n 0, 1) := by decide +kernel
theorem dX12_isValid_74 : decode cX12_isValid 74 = .ok (.getfield 7, 3) := by decide +kernel
theorem dX12_isValid_77 : decode cX12_isValid 77 = .ok (.iconst 1, 1) := by decide +kernel
theorem dX12_isValid_78 : decode cX12_isValid 78 = .ok (.iaload, 1) := by decide +kernel
theorem dX12_isValid_79 : decode cX12_isValid 79 = .ok (.if_icmp .gt 7, 3) := by decide +kernel
theorem dX12_isValid_82 : decode cX12_isValid 82 = .ok (.iconst 1, 1) := by decide +kernel
theorem dX12_isValid_83 : decode cX12_isValid 83 = .ok (.goto 4, 3) := by decide +kernel
theorem dX12_isValid_86 : decode cX12_isValid 86 = .ok (.iconst 0, 1) := by decide +kernel
theorem dX12_isValid_87 : decode cX12_isValid 87 = .ok (.istore_n 1, 1) := by decide +kernel
theorem dX12_isValid_88 : decode cX12_isValid 88 = .ok (.iload_n 1, 1) := by decide +kernel
theorem dX12_isValid_89 : decode cX12_isValid 89 = .ok (.ifCond .eq 43, 3) := by decide +kernel
theorem dX12_isValid_92 : decode cX12_isValid 92 = .ok (.iload_n 2, 1) := by decide +kernel
theorem dX12_isValid_93 : decode cX12_isValid 93 = .ok (.ifCond .eq 35, 3) := by decide +kernel
theorem dX12_isValid_96 : decode cX12_isValid 96 = .ok (.aload_n 0, 1) := by decide +kernel
theorem dX12_isValid_97 : decode cX12_isValid 97 = .ok (.iload_n 2, 1) := by decide +kernel
theorem dX12_isValid_98 : decode cX12_isValid 98 = .ok (.iconst 2, 1) := by decide +kernel
theorem dX12_isValid_99 : decode cX12_isValid 99 = .ok (.invokevirtual 91, 3) := by decide +kernel
theorem dX12_isValid_102 : decode cX12_isValid 102 = .ok (.aload_n 0, 1) := by decide +kernel
theorem dX12_isValid_103 : decode cX12_isValid 103 = .ok (.iload_n 2, 1) := by decide +kernel
theorem dX12_isValid_104 : decode cX12_isValid 104 = .ok (.iconst 3, 1) := by decide +kernel
theorem dX12_isValid_105 : decode cX12_isValid 105 = .ok (.invokevirtual 91, 3) := by decide +kernel
theorem dX12_isValid_108 : decode cX12_isValid 108 = .ok (.iadd, 1) := by decide +kernel
theorem dX12_isValid_109 : decode cX12_isValid 109 = .ok (.aload_n 0, 1) := by decide +kernel
theorem dX12_isValid_110 : decode cX12_isValid 110 = .ok (.aload_n 0, 1) := by decide +kernel
theorem dX12_isValid_111 : decode cX12_isValid 111 = .ok (.iload_n 2, 1) := by decide +kernel
theorem dX12_isValid_112 : decode cX12_isValid 112 = .ok (.iconst 0, 1) := by decide +kernel
theorem dX12_isValid_113 : decode cX12_isValid 113 = .ok (.invokevirtual 91, 3) := by decide +kernel
theorem dX12_isValid_116 : decode cX12_isValid 116 = .ok (.aload_n 0, 1) := by decide +kernel
theorem dX12_isValid_117 : decode cX12_isValid 117 = .ok (.iload_n 2, 1) := by decide +kernel
theorem dX12_isValid_118 : decode cX12_isValid 118 = .ok (.iconst 1, 1) := by decide +kernel
theorem dX12_isValid_119 : decode cX12_isValid 119 = .ok (.invokevirtual 91, 3) := by decide +kernel
theorem dX12_isValid_122 : decode cX12_isValid 122 = .ok (.invokevirtual 123, 3) := by decide +kernel
theorem dX12_isValid_125 : decode cX12_isValid 125 = .ok (.if_icmp .gt 7, 3) := by decide +kernel
theorem dX12_isValid_128 : decode cX12_isValid 128 = .ok (.iconst 1, 1) := by decide +kernel
theorem dX12_isValid_129 : decode cX12_isValid 129 = .ok (.goto 4, 3) := by decide +kernel
theorem dX12_isValid_132 : decode cX12_isValid 132 = .ok (.iconst 0, 1) := by decide +kernel
theorem dX12_isValid_133 : decode cX12_isValid 133 = .ok (.istore_n 1, 1) := by decide +kernel
theorem dX12_isValid_134 : decode cX12_isValid 134 = .ok (.iconst 0, 1) := by decide +kernel
theorem dX12_isValid_135 : decode cX12_isValid 135 = .ok (.istore_n 3, 1) := by decide +kernel
theorem dX12_isValid_136 : decode cX12_isValid 136 = .ok (.iload_n 3, 1) := by decide +kernel
theorem dX12_isValid_137 : decode cX12_isValid 137 = .ok (.iload_n 2, 1) := by decide +kernel
theorem dX12_isValid_138 : decode cX12_isValid 138 = .ok (.if_icmp .ge 28, 3) := by decide +kernel
theorem dX12_isValid_141 : decode cX12_isValid 141 = .ok (.iload_n 1, 1) := by decide +kernel
theorem dX12_isValid_142 : decode cX12_isValid 142 = .ok (.ifCond .eq 16, 3) := by decide +kernel
theorem dX12_isValid_145 : decode cX12_isValid 145 = .ok (.aload_n 0, 1) := by decide +kernel
theorem dX12_isValid_146 : decode cX12_isValid 146 = .ok (.iload_n 3, 1) := by decide +kernel
theorem dX12_isValid_147 : decode cX12_isValid 147 = .ok (.iload_n 2, 1) := by decide +kernel
theorem dX12_isValid_148 : decode cX12_isValid 148 = .ok (.invokevirtual 126, 3) := by decide +kernel
theorem dX12_isValid_151 : decode cX12_isValid 151 = .ok (.ifCond .ne 7, 3) := by decide +kernel
theorem dX12_isValid_154 : decode cX12_isValid 154 = .ok (.iconst 1, 1) := by decide +kernel
theorem dX12_isValid_155 : decode cX12_isValid 155 = .ok (.goto 4, 3) := by decide +kernel
theorem dX12_isValid_158 : decode cX12_isValid 158 = .ok (.iconst 0, 1) := by decide +kernel
theorem dX12_isValid_159 : decode cX12_isValid 159 = .ok (.istore_n 1, 1) := by decide +kernel
theorem dX12_isValid_160 : decode cX12_isValid 160 = .ok (.iinc 3 1, 3) := by decide +kernel
theorem dX12_isValid_163 : decode cX12_isValid 163 = .ok (.goto (-27), 3) := by decide +kernel
theorem dX12_isValid_166 : decode cX12_isValid 166 = .ok (.iinc 2 1, 3) := by decide +kernel
theorem dX12_isValid_169 : decode cX12_isValid 169 = .ok (.goto (-161), 3) := by decide +kernel
theorem dX12_isValid_172 : decode cX12_isValid 172 = .ok (.iload_n 1, 1) := by decide +kernel
theorem dX12_isValid_173 : decode cX12_isValid 173 = .ok (.ireturn, 1) := by decide +kernel
theorem dX12_doSheet_0 : decode cX12_doSheet 0 = .ok (.iload_n 1, 1) := by decide +kernel
theorem dX12_doSheet_1 : decode cX12_doSheet 1 = .ok (.bipush 20, 2) := by decide +kernel
theorem dX12_doSheet_3 : decode cX12_doSheet 3 = .ok (.sipush 300, 3) := by decide +kernel
theorem dX12_doSheet_6 : decode cX12_doSheet 6 = .ok (.invokestatic 87, 3) := by decide +kernel
theorem dX12_doSheet_9 : decode cX12_doSheet 9 = .ok (.ifCond .eq 15, 3) := by decide +kernel
theorem dX12_doSheet_12 : decode cX12_doSheet 12 = .ok (.iload_n 2, 1) := by decide +kernel
theorem dX12_doSheet_13 : decode cX12_doSheet 13 = .ok (.bipush 20, 2) := by decide +kernel
theorem dX12_doSheet_15 : decode cX12_doSheet 15 = .ok (.sipush 300, 3) := by decide +kernel
theorem dX12_doSheet_18 : decode cX12_doSheet 18 = .ok (.invokestatic 87, 3) := by decide +kernel
theorem dX12_doSheet_21 : decode cX12_doSheet 21 = .ok (.ifCond .ne 9, 3) := by decide +kernel
theorem dX12_doSheet_24 : decode cX12_doSheet 24 = .ok (.aload_n 0, 1) := by decide +kernel
theorem dX12_doSheet_25 : decode cX12_doSheet 25 = .ok (.iconst (-1), 1) := by decide +kernel
theorem dX12_doSheet_26 : decode cX12_doSheet 26 = .ok (.invokevirtual 130, 3) := by decide +kernel
theorem dX12_doSheet_29 : decode cX12_doSheet 29 = .ok (.ireturn, 1) := by decide +kernel
theorem dX12_doSheet_30 : decode cX12_doSheet 30 = .ok (.aload_n 0, 1) := by decide +kernel
theorem dX12_doSheet_31 : decode cX12_doSheet 31 = .ok (.getfield 7, 3) := by decide +kernel
theorem dX12_doSheet_34 : decode cX12_doSheet 34 = .ok (.iconst 0, 1) := by decide +kernel
theorem dX12_doSheet_35 : decode cX12_doSheet 35 = .ok (.iaload, 1) := by decide +kernel
theorem dX12_doSheet_36 : decode cX12_doSheet 36 = .ok (.istore_n 3, 1) := by decide +kernel
theorem dX12_doSheet_37 : decode cX12_doSheet 37 = .ok (.aload_n 0, 1) := by decide +kernel
theorem dX12_doSheet_38 : decode cX12_doSheet 38 = .ok (.getfield 7, 3) := by decide +kernel
theorem dX12_doSheet_41 : decode cX12_doSheet 41 = .ok (.iconst 0, 1) := by decide +kernel
theorem dX12_doSheet_42 : decode cX12_doSheet 42 = .ok (.iload_n 1, 1) := by decide +kernel
theorem dX12_doSheet_43 : decode cX12_doSheet 43 = .ok (.iastore, 1) := by decide +kernel
theorem dX12_doSheet_44 : decode cX12_doSheet 44 = .ok (.aload_n 0, 1) := by decide +kernel
theorem dX12_doSheet_45 : decode cX12_doSheet 45 = .ok (.getfield 7, 3) := by decide +kernel
theorem dX12_doSheet_48 : decode cX12_doSheet 48 = .ok (.iconst 1, 1) := by decide +kernel
theorem dX12_doSheet_49 : decode cX12_doSheet 49 = .ok (.iload_n 2, 1) := by decide +kernel
theorem dX12_doSheet_50 : decode cX12_doSheet 50 = .ok (.iastore, 1) := by decide +kernel
theorem dX12_doSheet_51 : decode cX12_doSheet 51 = .ok (.aload_n 0, 1) := by decide +kernel
theorem dX12_doSheet_52 : decode cX12_doSheet 52 = .ok (.invokevirtual 133, 3) := by decide +kernel
theorem dX12_doSheet_55 : decode cX12_doSheet 55 = .ok (.ifCond .eq 7, 3) := by decide +kernel
theorem dX12_doSheet_58 : decode cX12_doSheet 58 = .ok (.iload_n 3, 1) := by decide +kernel
theorem dX12_doSheet_59 : decode cX12_doSheet 59 = .ok (.goto 9, 3) := by decide +kernel
theorem dX12_doSheet_62 : decode cX12_doSheet 62 = .ok (.aload_n 0, 1) := by decide +kernel
theorem dX12_doSheet_63 : decode cX12_doSheet 63 = .ok (.bipush (-4), 2) := by decide +kernel
theorem dX12_doSheet_65 : decode cX12_doSheet 65 = .ok (.invokevirtual 130, 3) := by decide +kernel
theorem dX12_doSheet_68 : decode cX12_doSheet 68 = .ok (.ireturn, 1) := by decide +kernel
theorem dX12_newPanel_0 : decode cX12_newPanel 0 = .ok (.iconst 0, 1) := by decide +kernel
theorem dX12_newPanel_1 : decode cX12_newPanel 1 = .ok (.istore_n 2, 1) := by decide +kernel
theorem dX12_newPanel_2 : decode cX12_newPanel 2 = .ok (.iload_n 2, 1) := by decide +kernel
theorem dX12_newPanel_3 : decode cX12_newPanel 3 = .ok (.bipush 11, 2) := by decide +kernel
theorem dX12_newPanel_5 : decode cX12_newPanel 5 = .ok (.if_icmp .ge 16, 3) := by decide +kernel
theorem dX12_newPanel_8 : decode cX12_newPanel 8 = .ok (.aload_n 0, 1) := by decide +kernel
theorem dX12_newPanel_9 : decode cX12_newPanel 9 = .ok (.iload_n 1, 1) := by decide +kernel
theorem dX12_newPanel_10 : decode cX12_newPanel 10 = .ok (.iload_n 2, 1) := by decide +kernel
theorem dX12_newPanel_11 : decode cX12_newPanel 11 = .ok (.iconst 0, 1) := by decide +kernel
theorem dX12_newPanel_12 : decode cX12_newPanel 12 = .ok (.invokevirtual 137, 3) := by decide +kernel
theorem dX12_newPanel_15 : decode cX12_newPanel 15 = .ok (.iinc 2 1, 3) := by decide +kernel
theorem dX12_newPanel_18 : decode cX12_newPanel 18 = .ok (.goto (-16), 3) := by decide +kernel
theorem dX12_newPanel_21 : decode cX12_newPanel 21 = .ok (.aload_n 0, 1) := by decide +kernel
theorem dX12_newPanel_22 : decode cX12_newPanel 22 = .ok (.iload_n 1, 1) := by decide +kernel
theorem dX12_newPanel_23 : decode cX12_newPanel 23 = .ok (.bipush 6, 2) := by decide +kernel
theorem dX12_newPanel_25 : decode cX12_newPanel 25 = .ok (.bipush (-9), 2) := by decide +kernel
theorem dX12_newPanel_27 : decode cX12_newPanel 27 = .ok (.invokevirtual 137, 3) := by decide +kernel
theorem dX12_newPanel_30 : decode cX12_newPanel 30 = .ok (.aload_n 0, 1) := by decide +kernel
theorem dX12_newPanel_31 : decode cX12_newPanel 31 = .ok (.iload_n 1, 1) := by decide +kernel
theorem dX12_newPanel_32 : decode cX12_newPanel 32 = .ok (.bipush 7, 2) := by decide +kernel
theorem dX12_newPanel_34 : decode cX12_newPanel 34 = .ok (.bipush (-9), 2) := by decide +kernel
theorem dX12_newPanel_36 : decode cX12_newPanel 36 = .ok (.invokevirtual 137, 3) := by decide +kernel
theorem dX12_newPanel_39 : decode cX12_newPanel 39 = .ok (.return_, 1) := by decide +kernel
theorem dX12_doBase_0 : decode cX12_doBase 0 = .ok (.iload_n 1, 1) := by decide +kernel
theorem dX12_doBase_1 : decode cX12_doBase 1 = .ok (.iconst 0, 1) := by decide +kernel
theorem dX12_doBase_2 : decode cX12_doBase 2 = .ok (.sipush 300, 3) := by decide +kernel
theorem dX12_doBase_5 : decode cX12_doBase 5 = .ok (.invokestatic 87, 3) := by decide +kernel
theorem dX12_doBase_8 : decode cX12_doBase 8 = .ok (.ifCond .eq 37, 3) := by decide +kernel
theorem dX12_doBase_11 : decode cX12_doBase 11 = .ok (.iload_n 2, 1) := by decide +kernel
theorem dX12_doBase_12 : decode cX12_doBase 12 = .ok (.iconst 0, 1) := by decide +kernel
theorem dX12_doBase_13 : decode cX12_doBase 13 = .ok (.sipush 300, 3) := by decide +kernel
theorem dX12_doBase_16 : decode cX12_doBase 16 = .ok (.invokestatic 87, 3) := by decide +kernel
theorem dX12_doBase_19 : decode cX12_doBase 19 = .ok (.ifCond .eq 26, 3) := by decide +kernel
theorem dX12_doBase_22 : decode cX12_doBase 22 = .ok (.iload_n 3, 1) := by decide +kernel
theorem dX12_doBase_23 : decode cX12_doBase 23 = .ok (.iconst 1, 1) := by decide +kernel
theorem dX12_doBase_24 : decode cX12_doBase 24 = .ok (.sipush 300, 3) := by decide +kernel
theorem dX12_doBase_27 : decode cX12_doBase 27 = .ok (.invokestatic 87, 3) := by decide +kernel
theorem dX12_doBase_30 : decode cX12_doBase 30 = .ok (.ifCond .eq 15, 3) := by decide +kernel
theorem dX12_doBase_33 : decode cX12_doBase 33 = .ok (.iload 4, 2) := by decide +kernel
theorem dX12_doBase_35 : decode cX12_doBase 35 = .ok (.iconst 1, 1) := by decide +kernel
theorem dX12_doBase_36 : decode cX12_doBase 36 = .ok (.sipush 300, 3) := by decide +kernel
theorem dX12_doBase_39 : decode cX12_doBase 39 = .ok (.invokestatic 87, 3) := by decide +kernel
theorem dX12_doBase_42 : decode cX12_doBase 42 = .ok (.ifCond .ne 9, 3) := by decide +kernel
theorem dX12_doBase_45 : decode cX12_doBase 45 = .ok (.aload_n 0, 1) := by decide +kernel
theorem dX12_doBase_46 : decode cX12_doBase 46 = .ok (.iconst (-1), 1) := by decide +kernel
theorem dX12_doBase_47 : decode cX12_doBase 47 = .ok (.invokevirtual 130, 3) := by decide +kernel
theorem dX12_doBase_50 : decode cX12_doBase 50 = .ok (.ireturn, 1) := by decide +kernel
theorem dX12_doBase_51 : decode cX12_doBase 51 = .ok (.aload_n 0, 1) := by decide +kernel
theorem dX12_doBase_52 : decode cX12_doBase 52 = .ok (.invokevirtual 83, 3) := by decide +kernel
theorem dX12_doBase_55 : decode cX12_doBase 55 = .ok (.istore 5, 2) := by decide +kernel
theorem dX12_doBase_57 : decode cX12_doBase 57 = .ok (.aload_n 0, 1) := by decide +kernel
theorem dX12_doBase_58 : decode cX12_doBase 58 = .ok (.getfield 7, 3) := by decide +kernel
theorem dX12_doBase_61 : decode cX12_doBase 61 = .ok (.iconst 2, 1) := by decide +kernel
theorem dX12_doBase_62 : decode cX12_doBase 62 = .ok (.iconst 1, 1) := by decide +kernel
theorem dX12_doBase_63 : decode cX12_doBase 63 = .ok (.iastore, 1) := by decide +kernel
theorem dX12_doBase_64 : decode cX12_doBase 64 = .ok (.aload_n 0, 1) := by decide +kernel
theorem dX12_doBase_65 : decode cX12_doBase 65 = .ok (.iconst 0, 1) := by decide +kernel
theorem dX12_doBase_66 : decode cX12_doBase 66 = .ok (.invokevirtual 141, 3) := by decide +kernel
theorem dX12_doBase_69 : decode cX12_doBase 69 = .ok (.aload_n 0, 1) := by decide +kernel
theorem dX12_doBase_70 : decode cX12_doBase 70 = .ok (.getfield 7, 3) := by decide +kernel
theorem dX12_doBase_73 : decode cX12_doBase 73 = .ok (.bipush 121, 2) := by decide +kernel
theorem dX12_doBase_75 : decode cX12_doBase 75 = .ok (.iload_n 1, 1) := by decide +kernel
theorem dX12_doBase_76 : decode cX12_doBase 76 = .ok (.iastore, 1) := by decide +kernel
theorem dX12_doBase_77 : decode cX12_doBase 77 = .ok (.aload_n 0, 1) := by decide +kernel
theorem dX12_doBase_78 : decode cX12_doBase 78 = .ok (.getfield 7, 3) := by decide +kernel
theorem dX12_doBase_81 : decode cX12_doBase 81 = .ok (.bipush 122, 2) := by decide +kernel
theorem dX12_doBase_83 : decode cX12_doBase 83 = .ok (.iload_n 2, 1) := by decide +kernel
theorem dX12_doBase_84 : decode cX12_doBase 84 = .ok (.iastore, 1) := by decide +kernel
theorem dX12_doBase_85 : decode cX12_doBase 85 = .ok (.aload_n 0, 1) := by decide +kernel
theorem dX12_doBase_86 : decode cX12_doBase 86 = .ok (.getfield 7, 3) := by decide +kernel
theorem dX12_doBase_89 : decode cX12_doBase 89 = .ok (.bipush 123, 2) := by decide +kernel
theorem dX12_doBase_91 : decode cX12_doBase 91 = .ok (.iload_n 3, 1) := by decide +kernel
theorem dX12_doBase_92 : decode cX12_doBase 92 = .ok (.iastore, 1) := by decide +kernel
theorem dX12_doBase_93 : decode cX12_doBase 93 = .ok (.aload_n 0, 1) := by decide +kernel
theorem dX12_doBase_94 : decode cX12_doBase 94 = .ok (.getfield 7, 3) := by decide +kernel
theorem dX12_doBase_97 : decode cX12_doBase 97 = .ok (.bipush 124, 2) := by decide +kernel
theorem dX12_doBase_99 : decode cX12_doBase 99 = .ok (.iload 4, 2) := by decide +kernel
theorem dX12_doBase_101 : decode cX12_doBase 101 = .ok (.iastore, 1) := by decide +kernel
theorem dX12_doBase_102 : decode cX12_doBase 102 = .ok (.aload_n 0, 1) := by decide +kernel
theorem dX12_doBase_103 : decode cX12_doBase 103 = .ok (.invokevirtual 133, 3) := by decide +kernel
theorem dX12_doBase_106 : decode cX12_doBase 106 = .ok (.ifCond .eq 8, 3) := by decide +kernel
theorem dX12_doBase_109 : decode cX12_doBase 109 = .ok (.iload 5, 2) := by decide +kernel
theorem dX12_doBase_111 : decode cX12_doBase 111 = .ok (.goto 9, 3) := by decide +kernel
theorem dX12_doBase_114 : decode cX12_doBase 114 = .ok (.aload_n 0, 1) := by decide +kernel
theorem dX12_doBase_115 : decode cX12_doBase 115 = .ok (.bipush (-4), 2) := by decide +kernel
theorem dX12_doBase_117 : decode cX12_doBase 117 = .ok (.invokevirtual 130, 3) := by decide +kernel
theorem dX12_doBase_120 : decode cX12_doBase 120 = .ok (.ireturn, 1) := by decide +kernel
theorem dX12_doPanel_0 : decode cX12_doPanel 0 = .ok (.aload_n 0, 1) := by decide +kernel
theorem dX12_doPanel_1 : decode cX12_doPanel 1 = .ok (.iload_n 1, 1) := by decide +kernel
theorem dX12_doPanel_2 : decode cX12_doPanel 2 = .ok (.invokevirtual 145, 3) := by decide +kernel
theorem dX12_doPanel_5 : decode cX12_doPanel 5 = .ok (.ifCond .eq 57, 3) := by decide +kernel
theorem dX12_doPanel_8 : decode cX12_doPanel 8 = .ok (.iload_n 2, 1) := by decide +kernel
theorem dX12_doPanel_9 : decode cX12_doPanel 9 = .ok (.iconst 0, 1) := by decide +kernel
theorem dX12_doPanel_10 : decode cX12_doPanel 10 = .ok (.iconst 3, 1) := by decide +kernel
theorem dX12_doPanel_11 : decode cX12_doPanel 11 = .ok (.invokestatic 87, 3) := by decide +kernel
theorem dX12_doPanel_14 : decode cX12_doPanel 14 = .ok (.ifCond .eq 48, 3) := by decide +kernel
theorem dX12_doPanel_17 : decode cX12_doPanel 17 = .ok (.iload_n 3, 1) := by decide +kernel
theorem dX12_doPanel_18 : decode cX12_doPanel 18 = .ok (.iconst 0, 1) := by decide +kernel
theorem dX12_doPanel_19 : decode cX12_doPanel 19 = .ok (.sipush 300, 3) := by decide +kernel
theorem dX12_doPanel_22 : decode cX12_doPanel 22 = .ok (.invokestatic 87, 3) := by decide +kernel
theorem dX12_doPanel_25 : decode cX12_doPanel 25 = .ok (.ifCond .eq 37, 3) := by decide +kernel
theorem dX12_doPanel_28 : decode cX12_doPanel 28 = .ok (.iload 4, 2) := by decide +kernel
theorem dX12_doPanel_30 : decode cX12_doPanel 30 = .ok (.iconst 1, 1) := by decide +kernel
theorem dX12_doPanel_31 : decode cX12_doPanel 31 = .ok (.sipush 300, 3) := by decide +kernel
theorem dX12_doPanel_34 : decode cX12_doPanel 34 = .ok (.invokestatic 87, 3) := by decide +kernel
theorem dX12_doPanel_37 : decode cX12_doPanel 37 = .ok (.ifCond .eq 25, 3) := by decide +kernel
theorem dX12_doPanel_40 : decode cX12_doPanel 40 = .ok (.iload 5, 2) := by decide +kernel
theorem dX12_doPanel_42 : decode cX12_doPanel 42 = .ok (.iconst 1, 1) := by decide +kernel
theorem dX12_doPanel_43 : decode cX12_doPanel 43 = .ok (.sipush 300, 3) := by decide +kernel
theorem dX12_doPanel_46 : decode cX12_doPanel 46 = .ok (.invokestatic 87, 3) := by decide +kernel
theorem dX12_doPanel_49 : decode cX12_doPanel 49 = .ok (.ifCond .eq 13, 3) := by decide +kernel
theorem dX12_doPanel_52 : decode cX12_doPanel 52 = .ok (.iload 6, 2) := by decide +kernel
theorem dX12_doPanel_54 : decode cX12_doPanel 54 = .ok (.iconst (-1), 1) := by decide +kernel
theorem dX12_doPanel_55 : decode cX12_doPanel 55 = .ok (.iconst 2, 1) := by decide +kernel
theorem dX12_doPanel_56 : decode cX12_doPanel 56 = .ok (.invokestatic 87, 3) := by decide +kernel
theorem dX12_doPanel_59 : decode cX12_doPanel 59 = .ok (.ifCond .ne 9, 3) := by decide +kernel
theorem dX12_doPanel_62 : decode cX12_doPanel 62 = .ok (.aload_n 0, 1) := by decide +kernel
theorem dX12_doPanel_63 : decode cX12_doPanel 63 = .ok (.iconst (-1), 1) := by decide +kernel
theorem dX12_doPanel_64 : decode cX12_doPanel 64 = .ok (.invokevirtual 130, 3) := by decide +kernel
theorem dX12_doPanel_67 : decode cX12_doPanel 67 = .ok (.ireturn, 1) := by decide +kernel
theorem dX12_doPanel_68 : decode cX12_doPanel 68 = .ok (.aload_n 0, 1) := by decide +kernel
theorem dX12_doPanel_69 : decode cX12_doPanel 69 = .ok (.invokevirtual 83, 3) := by decide +kernel
theorem dX12_doPanel_72 : decode cX12_doPanel 72 = .ok (.istore 7, 2) := by decide +kernel
theorem dX12_doPanel_74 : decode cX12_doPanel 74 = .ok (.iload 7, 2) := by decide +kernel
theorem dX12_doPanel_76 : decode cX12_doPanel 76 = .ok (.bipush 10, 2) := by decide +kernel
theorem dX12_doPanel_78 : decode cX12_doPanel 78 = .ok (.if_icmp .ne 10, 3) := by decide +kernel
theorem dX12_doPanel_81 : decode cX12_doPanel 81 = .ok (.aload_n 0, 1) := by decide +kernel
theorem dX12_doPanel_82 : decode cX12_doPanel 82 = .ok (.bipush (-3), 2) := by decide +kernel
theorem dX12_doPanel_84 : decode cX12_doPanel 84 = .ok (.invokevirtual 130, 3) := by decide +kernel
theorem dX12_doPanel_87 : decode cX12_doPanel 87 = .ok (.ireturn, 1) := by decide +kernel
theorem dX12_doPanel_88 : decode cX12_doPanel 88 = .ok (.aload_n 0, 1) := by decide +kernel
theorem dX12_doPanel_89 : decode cX12_doPanel 89 = .ok (.getfield 7, 3) := by decide +kernel
theorem dX12_doPanel_92 : decode cX12_doPanel 92 = .ok (.iconst 2, 1) := by decide +kernel
theorem dX12_doPanel_93 : decode cX12_doPanel 93 = .ok (.dup2, 1) := by decide +kernel
theorem dX12_doPanel_94 : decode cX12_doPanel 94 = .ok (.iaload, 1) := by decide +kernel
theorem dX12_doPanel_95 : decode cX12_doPanel 95 = .ok (.iconst 1, 1) := by decide +kernel
theorem dX12_doPanel_96 : decode cX12_doPanel 96 = .ok (.iadd, 1) := by decide +kernel
theorem dX12_doPanel_97 : decode cX12_doPanel 97 = .ok (.iastore, 1) := by decide +kernel
theorem dX12_doPanel_98 : decode cX12_doPanel 98 = .ok (.aload_n 0, 1) := by decide +kernel
theorem dX12_doPanel_99 : decode cX12_doPanel 99 = .ok (.iload 7, 2) := by decide +kernel
theorem dX12_doPanel_101 : decode cX12_doPanel 101 = .ok (.invokevirtual 141, 3) := by decide +kernel
theorem dX12_doPanel_104 : decode cX12_doPanel 104 = .ok (.aload_n 0, 1) := by decide +kernel
theorem dX12_doPanel_105 : decode cX12_doPanel 105 = .ok (.iload 7, 2) := by decide +kernel
theorem dX12_doPanel_107 : decode cX12_doPanel 107 = .ok (.iconst 0, 1) := by decide +kernel
theorem dX12_doPanel_108 : decode cX12_doPanel 108 = .ok (.iload_n 1, 1) := by decide +kernel
theorem dX12_doPanel_109 : decode cX12_doPanel 109 = .ok (.invokevirtual 137, 3) := by decide +kernel
theorem dX12_doPanel_112 : decode cX12_doPanel 112 = .ok (.aload_n 0, 1) := by decide +kernel
theorem dX12_doPanel_113 : decode cX12_doPanel 113 = .ok (.iload 7, 2) := by decide +kernel
theorem dX12_doPanel_115 : decode cX12_doPanel 115 = .ok (.iconst 1, 1) := by decide +kernel
theorem dX12_doPanel_116 : decode cX12_doPanel 116 = .ok (.iload_n 2, 1) := by decide +kernel
theorem dX12_doPanel_117 : decode cX12_doPanel 117 = .ok (.invokevirtual 137, 3) := by decide +kernel
theorem dX12_doPanel_120 : decode cX12_doPanel 120 = .ok (.aload_n 0, 1) := by decide +kernel
theorem dX12_doPanel_121 : decode cX12_doPanel 121 = .ok (.iload 7, 2) := by decide +kernel
theorem dX12_doPanel_123 : decode cX12_doPanel 123 = .ok (.iconst 2, 1) := by decide +kernel
theorem dX12_doPanel_124 : decode cX12_doPanel 124 = .ok (.iload_n 3, 1) := by decide +kernel
theorem dX12_doPanel_125 : decode cX12_doPanel 125 = .ok (.invokevirtual 137, 3) := by decide +kernel
theorem dX12_doPanel_128 : decode cX12_doPanel 128 = .ok (.aload_n 0, 1) := by decide +kernel
theorem dX12_doPanel_129 : decode cX12_doPanel 129 = .ok (.iload 7, 2) := by decide +kernel
theorem dX12_doPanel_131 : decode cX12_doPanel 131 = .ok (.iconst 3, 1) := by decide +kernel
theorem dX12_doPanel_132 : decode cX12_doPanel 132 = .ok (.iload 4, 2) := by decide +kernel
theorem dX12_doPanel_134 : decode cX12_doPanel 134 = .ok (.invokevirtual 137, 3) := by decide +kernel
theorem dX12_doPanel_137 : decode cX12_doPanel 137 = .ok (.aload_n 0, 1) := by decide +kernel
theorem dX12_doPanel_138 : decode cX12_doPanel 138 = .ok (.iload 7, 2) := by decide +kernel
theorem dX12_doPanel_140 : decode cX12_doPanel 140 = .ok (.iconst 4, 1) := by decide +kernel
theorem dX12_doPanel_141 : decode cX12_doPanel 141 = .ok (.iload 5, 2) := by decide +kernel
theorem dX12_doPanel_143 : decode cX12_doPanel 143 = .ok (.invokevirtual 137, 3) := by decide +kernel
theorem dX12_doPanel_146 : decode cX12_doPanel 146 = .ok (.aload_n 0, 1) := by decide +kernel
theorem dX12_doPanel_147 : decode cX12_doPanel 147 = .ok (.iload 7, 2) := by decide +kernel
theorem dX12_doPanel_149 : decode cX12_doPanel 149 = .ok (.iconst 5, 1) := by decide +kernel
theorem dX12_doPanel_150 : decode cX12_doPanel 150 = .ok (.iload 6, 2) := by decide +kernel
theorem dX12_doPanel_152 : decode cX12_doPanel 152 = .ok (.invokevirtual 137, 3) := by decide +kernel
theorem dX12_doPanel_155 : decode cX12_doPanel 155 = .ok (.aload_n 0, 1) := by decide +kernel
theorem dX12_doPanel_156 : decode cX12_doPanel 156 = .ok (.invokevirtual 133, 3) := by decide +kernel
theorem dX12_doPanel_159 : decode cX12_doPanel 159 = .ok (.ifCond .eq 8, 3) := by decide +kernel
theorem dX12_doPanel_162 : decode cX12_doPanel 162 = .ok (.iload 7, 2) := by decide +kernel
theorem dX12_doPanel_164 : decode cX12_doPanel 164 = .ok (.goto 9, 3) := by decide +kernel
theorem dX12_doPanel_167 : decode cX12_doPanel 167 = .ok (.aload_n 0, 1) := by decide +kernel
theorem dX12_doPanel_168 : decode cX12_doPanel 168 = .ok (.bipush (-4), 2) := by decide +kernel
theorem dX12_doPanel_170 : decode cX12_doPanel 170 = .ok (.invokevirtual 130, 3) := by decide +kernel
theorem dX12_doPanel_173 : decode cX12_doPanel 173 = .ok (.ireturn, 1) := by decide +kernel
theorem dX12_doFlap_0 : decode cX12_doFlap 0 = .ok (.aload_n 0, 1) := by decide +kernel
theorem dX12_doFlap_1 : decode cX12_doFlap 1 = .ok (.iload_n 1, 1) := by decide +kernel
theorem dX12_doFlap_2 : decode cX12_doFlap 2 = .ok (.invokevirtual 149, 3) := by decide +kernel
theorem dX12_doFlap_5 : decode cX12_doFlap 5 = .ok (.ifCond .eq 22, 3) := by decide +kernel
theorem dX12_doFlap_8 : decode cX12_doFlap 8 = .ok (.iload_n 2, 1) := by decide +kernel
theorem dX12_doFlap_9 : decode cX12_doFlap 9 = .ok (.bipush (-9), 2) := by decide +kernel
theorem dX12_doFlap_11 : decode cX12_doFlap 11 = .ok (.if_icmp .eq 22, 3) := by decide +kernel
theorem dX12_doFlap_14 : decode cX12_doFlap 14 = .ok (.aload_n 0, 1) := by decide +kernel
theorem dX12_doFlap_15 : decode cX12_doFlap 15 = .ok (.iload_n 2, 1) := by decide +kernel
theorem dX12_doFlap_16 : decode cX12_doFlap 16 = .ok (.invokevirtual 145, 3) := by decide +kernel
theorem dX12_doFlap_19 : decode cX12_doFlap 19 = .ok (.ifCond .eq 8, 3) := by decide +kernel
theorem dX12_doFlap_22 : decode cX12_doFlap 22 = .ok (.iload_n 2, 1) := by decide +kernel
theorem dX12_doFlap_23 : decode cX12_doFlap 23 = .ok (.iload_n 1, 1) := by decide +kernel
theorem dX12_doFlap_24 : decode cX12_doFlap 24 = .ok (.if_icmp .ne 9, 3) := by decide +kernel
theorem dX12_doFlap_27 : decode cX12_doFlap 27 = .ok (.aload_n 0, 1) := by decide +kernel
theorem dX12_doFlap_28 : decode cX12_doFlap 28 = .ok (.iconst (-1), 1) := by decide +kernel
theorem dX12_doFlap_29 : decode cX12_doFlap 29 = .ok (.invokevirtual 130, 3) := by decide +kernel
theorem dX12_doFlap_32 : decode cX12_doFlap 32 = .ok (.ireturn, 1) := by decide +kernel
theorem dX12_doFlap_33 : decode cX12_doFlap 33 = .ok (.aload_n 0, 1) := by decide +kernel
theorem dX12_doFlap_34 : decode cX12_doFlap 34 = .ok (.iload_n 1, 1) := by decide +kernel
theorem dX12_doFlap_35 : decode cX12_doFlap 35 = .ok (.bipush 6, 2) := by decide +kernel
theorem dX12_doFlap_37 : decode cX12_doFlap 37 = .ok (.invokevirtual 91, 3) := by decide +kernel
theorem dX12_doFlap_40 : decode cX12_doFlap 40 = .ok (.istore_n 3, 1) := by decide +kernel
theorem dX12_doFlap_41 : decode cX12_doFlap 41 = .ok (.aload_n 0, 1) := by decide +kernel
theorem dX12_doFlap_42 : decode cX12_doFlap 42 = .ok (.iload_n 1, 1) := by decide +kernel
theorem dX12_doFlap_43 : decode cX12_doFlap 43 = .ok (.bipush 6, 2) := by decide +kernel
theorem dX12_doFlap_45 : decode cX12_doFlap 45 = .ok (.iload_n 2, 1) := by decide +kernel
theorem dX12_doFlap_46 : decode cX12_doFlap 46 = .ok (.invokevirtual 137, 3) := by decide +kernel
theorem dX12_doFlap_49 : decode cX12_doFlap 49 = .ok (.iload_n 3, 1) := by decide +kernel
theorem dX12_doFlap_50 : decode cX12_doFlap 50 = .ok (.ireturn, 1) := by decide +kernel
theorem dX12_doImage_0 : decode cX12_doImage 0 = .ok (.iload_n 1, 1) := by decide +kernel
theorem dX12_doImage_1 : decode cX12_doImage 1 = .ok (.iconst 0, 1) := by decide +kernel
theorem dX12_doImage_2 : decode cX12_doImage 2 = .ok (.iconst 3, 1) := by decide +kernel
theorem dX12_doImage_3 : decode cX12_doImage 3 = .ok (.invokestatic 87, 3) := by decide +kernel
theorem dX12_doImage_6 : decode cX12_doImage 6 = .ok (.ifCond .eq 25, 3) := by decide +kernel
theorem dX12_doImage_9 : decode cX12_doImage 9 = .ok (.iload_n 2, 1) := by decide +kernel
theorem dX12_doImage_10 : decode cX12_doImage 10 = .ok (.iconst 1, 1) := by decide +kernel
theorem dX12_doImage_11 : decode cX12_doImage 11 = .ok (.sipush 200, 3) := by decide +kernel
theorem dX12_doImage_14 : decode cX12_doImage 14 = .ok (.invokestatic 87, 3) := by decide +kernel
theorem dX12_doImage_17 : decode cX12_doImage 17 = .ok (.ifCond .eq 14, 3) := by decide +kernel
theorem dX12_doImage_20 : decode cX12_doImage 20 = .ok (.iload_n 3, 1) := by decide +kernel
theorem dX12_doImage_21 : decode cX12_doImage 21 = .ok (.iconst 1, 1) := by decide +kernel
theorem dX12_doImage_22 : decode cX12_doImage 22 = .ok (.sipush 200, 3) := by decide +kernel
theorem dX12_doImage_25 : decode cX12_doImage 25 = .ok (.invokestatic 87, 3) := by decide +kernel
theorem dX12_doImage_28 : decode cX12_doImage 28 = .ok (.ifCond .ne 9, 3) := by decide +kernel
theorem dX12_doImage_31 : decode cX12_doImage 31 = .ok (.aload_n 0, 1) := by decide +kernel
theorem dX12_doImage_32 : decode cX12_doImage 32 = .ok (.iconst (-1), 1) := by decide +kernel
theorem dX12_doImage_33 : decode cX12_doImage 33 = .ok (.invokevirtual 130, 3) := by decide +kernel
theorem dX12_doImage_36 : decode cX12_doImage 36 = .ok (.ireturn, 1) := by decide +kernel
theorem dX12_doImage_37 : decode cX12_doImage 37 = .ok (.aload_n 0, 1) := by decide +kernel
theorem dX12_doImage_38 : decode cX12_doImage 38 = .ok (.getfield 7, 3) := by decide +kernel
theorem dX12_doImage_41 : decode cX12_doImage 41 = .ok (.iconst 3, 1) := by decide +kernel
theorem dX12_doImage_42 : decode cX12_doImage 42 = .ok (.iconst 2, 1) := by decide +kernel
theorem dX12_doImage_43 : decode cX12_doImage 43 = .ok (.iload_n 1, 1) := by decide +kernel
theorem dX12_doImage_44 : decode cX12_doImage 44 = .ok (.imul, 1) := by decide +kernel
theorem dX12_doImage_45 : decode cX12_doImage 45 = .ok (.iadd, 1) := by decide +kernel
theorem dX12_doImage_46 : decode cX12_doImage 46 = .ok (.iaload, 1) := by decide +kernel
theorem dX12_doImage_47 : decode cX12_doImage 47 = .ok (.ifCond .le 7, 3) := by decide +kernel
theorem dX12_doImage_50 : decode cX12_doImage 50 = .ok (.iconst 1, 1) := by decide +kernel
theorem dX12_doImage_51 : decode cX12_doImage 51 = .ok (.goto 4, 3) := by decide +kernel
theorem dX12_doImage_54 : decode cX12_doImage 54 = .ok (.iconst 0, 1) := by decide +kernel
theorem dX12_doImage_55 : decode cX12_doImage 55 = .ok (.istore 4, 2) := by decide +kernel
theorem dX12_doImage_57 : decode cX12_doImage 57 = .ok (.aload_n 0, 1) := by decide +kernel
theorem dX12_doImage_58 : decode cX12_doImage 58 = .ok (.getfield 7, 3) := by decide +kernel
theorem dX12_doImage_61 : decode cX12_doImage 61 = .ok (.iconst 3, 1) := by decide +kernel
theorem dX12_doImage_62 : decode cX12_doImage 62 = .ok (.iconst 2, 1) := by decide +kernel
theorem dX12_doImage_63 : decode cX12_doImage 63 = .ok (.iload_n 1, 1) := by decide +kernel
theorem dX12_doImage_64 : decode cX12_doImage 64 = .ok (.imul, 1) := by decide +kernel
theorem dX12_doImage_65 : decode cX12_doImage 65 = .ok (.iadd, 1) := by decide +kernel
theorem dX12_doImage_66 : decode cX12_doImage 66 = .ok (.iload_n 2, 1) := by decide +kernel
theorem dX12_doImage_67 : decode cX12_doImage 67 = .ok (.iastore, 1) := by decide +kernel
theorem dX12_doImage_68 : decode cX12_doImage 68 = .ok (.aload_n 0, 1) := by decide +kernel
theorem dX12_doImage_69 : decode cX12_doImage 69 = .ok (.getfield 7, 3) := by decide +kernel
theorem dX12_doImage_72 : decode cX12_doImage 72 = .ok (.iconst 3, 1) := by decide +kernel
theorem dX12_doImage_73 : decode cX12_doImage 73 = .ok (.iconst 2, 1) := by decide +kernel
theorem dX12_doImage_74 : decode cX12_doImage 74 = .ok (.iload_n 1, 1) := by decide +kernel
theorem dX12_doImage_75 : decode cX12_doImage 75 = .ok (.imul, 1) := by decide +kernel
theorem dX12_doImage_76 : decode cX12_doImage 76 = .ok (.iadd, 1) := by decide +kernel
theorem dX12_doImage_77 : decode cX12_doImage 77 = .ok (.iconst 1, 1) := by decide +kernel
theorem dX12_doImage_78 : decode cX12_doImage 78 = .ok (.iadd, 1) := by decide +kernel
theorem dX12_doImage_79 : decode cX12_doImage 79 = .ok (.iload_n 3, 1) := by decide +kernel
theorem dX12_doImage_80 : decode cX12_doImage 80 = .ok (.iastore, 1) := by decide +kernel
theorem dX12_doImage_81 : decode cX12_doImage 81 = .ok (.iload 4, 2) := by decide +kernel
theorem dX12_doImage_83 : decode cX12_doImage 83 = .ok (.ireturn, 1) := by decide +kernel
theorem dX12_doPlace_0 : decode cX12_doPlace 0 = .ok (.aload_n 0, 1) := by decide +kernel
theorem dX12_doPlace_1 : decode cX12_doPlace 1 = .ok (.iload_n 1, 1) := by decide +kernel
theorem dX12_doPlace_2 : decode cX12_doPlace 2 = .ok (.invokevirtual 145, 3) := by decide +kernel
theorem dX12_doPlace_5 : decode cX12_doPlace 5 = .ok (.ifCond .eq 50, 3) := by decide +kernel
theorem dX12_doPlace_8 : decode cX12_doPlace 8 = .ok (.iload_n 2, 1) := by decide +kernel
theorem dX12_doPlace_9 : decode cX12_doPlace 9 = .ok (.iconst 0, 1) := by decide +kernel
theorem dX12_doPlace_10 : decode cX12_doPlace 10 = .ok (.iconst 3, 1) := by decide +kernel
theorem dX12_doPlace_11 : decode cX12_doPlace 11 = .ok (.invokestatic 87, 3) := by decide +kernel
theorem dX12_doPlace_14 : decode cX12_doPlace 14 = .ok (.ifCond .eq 41, 3) := by decide +kernel
theorem dX12_doPlace_17 : decode cX12_doPlace 17 = .ok (.iload_n 3, 1) := by decide +kernel
theorem dX12_doPlace_18 : decode cX12_doPlace 18 = .ok (.iconst 0, 1) := by decide +kernel
theorem dX12_doPlace_19 : decode cX12_doPlace 19 = .ok (.bipush 7, 2) := by decide +kernel
theorem dX12_doPlace_21 : decode cX12_doPlace 21 = .ok (.invokestatic 87, 3) := by decide +kernel
theorem dX12_doPlace_24 : decode cX12_doPlace 24 = .ok (.ifCond .eq 31, 3) := by decide +kernel
theorem dX12_doPlace_27 : decode cX12_doPlace 27 = .ok (.iload 4, 2) := by decide +kernel
theorem dX12_doPlace_29 : decode cX12_doPlace 29 = .ok (.sipush (-300), 3) := by decide +kernel
theorem dX12_doPlace_32 : decode cX12_doPlace 32 = .ok (.sipush 300, 3) := by decide +kernel
theorem dX12_doPlace_35 : decode cX12_doPlace 35 = .ok (.invokestatic 87, 3) := by decide +kernel
theorem dX12_doPlace_38 : decode cX12_doPlace 38 = .ok (.ifCond .eq 17, 3) := by decide +kernel
theorem dX12_doPlace_41 : decode cX12_doPlace 41 = .ok (.iload 5, 2) := by decide +kernel
theorem dX12_doPlace_43 : decode cX12_doPlace 43 = .ok (.sipush (-300), 3) := by decide +kernel
theorem dX12_doPlace_46 : decode cX12_doPlace 46 = .ok (.sipush 300, 3) := by decide +kernel
theorem dX12_doPlace_49 : decode cX12_doPlace 49 = .ok (.invokestatic 87, 3) := by decide +kernel
theorem dX12_doPlace_52 : decode cX12_doPlace 52 = .ok (.ifCond .ne 9, 3) := by decide +kernel
theorem dX12_doPlace_55 : decode cX12_doPlace 55 = .ok (.aload_n 0, 1) := by decide +kernel
theorem dX12_doPlace_56 : decode cX12_doPlace 56 = .ok (.iconst (-1), 1) := by decide +kernel
theorem dX12_doPlace_57 : decode cX12_doPlace 57 = .ok (.invokevirtual 130, 3) := by decide +kernel
theorem dX12_doPlace_60 : decode cX12_doPlace 60 = .ok (.ireturn, 1) := by decide +kernel
theorem dX12_doPlace_61 : decode cX12_doPlace 61 = .ok (.aload_n 0, 1) := by decide +kernel
theorem dX12_doPlace_62 : decode cX12_doPlace 62 = .ok (.getfield 7, 3) := by decide +kernel
theorem dX12_doPlace_65 : decode cX12_doPlace 65 = .ok (.iconst 3, 1) := by decide +kernel
theorem dX12_doPlace_66 : decode cX12_doPlace 66 = .ok (.iconst 2, 1) := by decide +kernel
theorem dX12_doPlace_67 : decode cX12_doPlace 67 = .ok (.iload_n 2, 1) := by decide +kernel
theorem dX12_doPlace_68 : decode cX12_doPlace 68 = .ok (.imul, 1) := by decide +kernel
theorem dX12_doPlace_69 : decode cX12_doPlace 69 = .ok (.iadd, 1) := by decide +kernel
theorem dX12_doPlace_70 : decode cX12_doPlace 70 = .ok (.iaload, 1) := by decide +kernel
theorem dX12_doPlace_71 : decode cX12_doPlace 71 = .ok (.ifCond .ne 10, 3) := by decide +kernel
theorem dX12_doPlace_74 : decode cX12_doPlace 74 = .ok (.aload_n 0, 1) := by decide +kernel
theorem dX12_doPlace_75 : decode cX12_doPlace 75 = .ok (.bipush (-2), 2) := by decide +kernel
theorem dX12_doPlace_77 : decode cX12_doPlace 77 = .ok (.invokevirtual 130, 3) := by decide +kernel
theorem dX12_doPlace_80 : decode cX12_doPlace 80 = .ok (.ireturn, 1) := by decide +kernel
theorem dX12_doPlace_81 : decode cX12_doPlace 81 = .ok (.aload_n 0, 1) := by decide +kernel
theorem dX12_doPlace_82 : decode cX12_doPlace 82 = .ok (.iload_n 1, 1) := by decide +kernel
theorem dX12_doPlace_83 : decode cX12_doPlace 83 = .ok (.bipush 7, 2) := by decide +kernel
theorem dX12_doPlace_85 : decode cX12_doPlace 85 = .ok (.invokevirtual 91, 3) := by decide +kernel
theorem dX12_doPlace_88 : decode cX12_doPlace 88 = .ok (.istore 6, 2) := by decide +kernel
theorem dX12_doPlace_90 : decode cX12_doPlace 90 = .ok (.aload_n 0, 1) := by decide +kernel
theorem dX12_doPlace_91 : decode cX12_doPlace 91 = .ok (.iload_n 1, 1) := by decide +kernel
theorem dX12_doPlace_92 : decode cX12_doPlace 92 = .ok (.bipush 7, 2) := by decide +kernel
theorem dX12_doPlace_94 : decode cX12_doPlace 94 = .ok (.iload_n 2, 1) := by decide +kernel
theorem dX12_doPlace_95 : decode cX12_doPlace 95 = .ok (.invokevirtual 137, 3) := by decide +kernel
theorem dX12_doPlace_98 : decode cX12_doPlace 98 = .ok (.aload_n 0, 1) := by decide +kernel
theorem dX12_doPlace_99 : decode cX12_doPlace 99 = .ok (.iload_n 1, 1) := by decide +kernel
theorem dX12_doPlace_100 : decode cX12_doPlace 100 = .ok (.bipush 8, 2) := by decide +kernel
theorem dX12_doPlace_102 : decode cX12_doPlace 102 = .ok (.iload_n 3, 1) := by decide +kernel
theorem dX12_doPlace_103 : decode cX12_doPlace 103 = .ok (.invokevirtual 137, 3) := by decide +kernel
theorem dX12_doPlace_106 : decode cX12_doPlace 106 = .ok (.aload_n 0, 1) := by decide +kernel
theorem dX12_doPlace_107 : decode cX12_doPlace 107 = .ok (.iload_n 1, 1) := by decide +kernel
theorem dX12_doPlace_108 : decode cX12_doPlace 108 = .ok (.bipush 9, 2) := by decide +kernel
theorem dX12_doPlace_110 : decode cX12_doPlace 110 = .ok (.iload 4, 2) := by decide +kernel
theorem dX12_doPlace_112 : decode cX12_doPlace 112 = .ok (.invokevirtual 137, 3) := by decide +kernel
theorem dX12_doPlace_115 : decode cX12_doPlace 115 = .ok (.aload_n 0, 1) := by decide +kernel
theorem dX12_doPlace_116 : decode cX12_doPlace 116 = .ok (.iload_n 1, 1) := by decide +kernel
theorem dX12_doPlace_117 : decode cX12_doPlace 117 = .ok (.bipush 10, 2) := by decide +kernel
theorem dX12_doPlace_119 : decode cX12_doPlace 119 = .ok (.iload 5, 2) := by decide +kernel
theorem dX12_doPlace_121 : decode cX12_doPlace 121 = .ok (.invokevirtual 137, 3) := by decide +kernel
theorem dX12_doPlace_124 : decode cX12_doPlace 124 = .ok (.iload 6, 2) := by decide +kernel
theorem dX12_doPlace_126 : decode cX12_doPlace 126 = .ok (.ireturn, 1) := by decide +kernel
theorem dX12_setSheet_0 : decode cX12_setSheet 0 = .ok (.aload_n 0, 1) := by decide +kernel
theorem dX12_setSheet_1 : decode cX12_setSheet 1 = .ok (.invokevirtual 103, 3) := by decide +kernel
theorem dX12_setSheet_4 : decode cX12_setSheet 4 = .ok (.aload_n 0, 1) := by decide +kernel
theorem dX12_setSheet_5 : decode cX12_setSheet 5 = .ok (.aload_n 0, 1) := by decide +kernel
theorem dX12_setSheet_6 : decode cX12_setSheet 6 = .ok (.iload_n 1, 1) := by decide +kernel
theorem dX12_setSheet_7 : decode cX12_setSheet 7 = .ok (.iload_n 2, 1) := by decide +kernel
theorem dX12_setSheet_8 : decode cX12_setSheet 8 = .ok (.invokevirtual 152, 3) := by decide +kernel
theorem dX12_setSheet_11 : decode cX12_setSheet 11 = .ok (.invokevirtual 106, 3) := by decide +kernel
theorem dX12_setSheet_14 : decode cX12_setSheet 14 = .ok (.ireturn, 1) := by decide +kernel
theorem dX12_setBase_0 : decode cX12_setBase 0 = .ok (.aload_n 0, 1) := by decide +kernel
theorem dX12_setBase_1 : decode cX12_setBase 1 = .ok (.invokevirtual 103, 3) := by decide +kernel
theorem dX12_setBase_4 : decode cX12_setBase 4 = .ok (.aload_n 0, 1) := by decide +kernel
theorem dX12_setBase_5 : decode cX12_setBase 5 = .ok (.aload_n 0, 1) := by decide +kernel
theorem dX12_setBase_6 : decode cX12_setBase 6 = .ok (.iload_n 1, 1) := by decide +kernel
theorem dX12_setBase_7 : decode cX12_setBase 7 = .ok (.iload_n 2, 1) := by decide +kernel
theorem dX12_setBase_8 : decode cX12_setBase 8 = .ok (.iload_n 3, 1) := by decide +kernel
theorem dX12_setBase_9 : decode cX12_setBase 9 = .ok (.iload 4, 2) := by decide +kernel
theorem dX12_setBase_11 : decode cX12_setBase 11 = .ok (.invokevirtual 155, 3) := by decide +kernel
theorem dX12_setBase_14 : decode cX12_setBase 14 = .ok (.invokevirtual 106, 3) := by decide +kernel
theorem dX12_setBase_17 : decode cX12_setBase 17 = .ok (.ireturn, 1) := by decide +kernel
theorem dX12_addPanel_0 : decode cX12_addPanel 0 = .ok (.aload_n 0, 1) := by decide +kernel
theorem dX12_addPanel_1 : decode cX12_addPanel 1 = .ok (.invokevirtual 103, 3) := by decide +kernel
theorem dX12_addPanel_4 : decode cX12_addPanel 4 = .ok (.aload_n 0, 1) := by decide +kernel
theorem dX12_addPanel_5 : decode cX12_addPanel 5 = .ok (.aload_n 0, 1) := by decide +kernel
theorem dX12_addPanel_6 : decode cX12_addPanel 6 = .ok (.iload_n 1, 1) := by decide +kernel
theorem dX12_addPanel_7 : decode cX12_addPanel 7 = .ok (.iload_n 2, 1) := by decide +kernel
theorem dX12_addPanel_8 : decode cX12_addPanel 8 = .ok (.iload_n 3, 1) := by decide +kernel
theorem dX12_addPanel_9 : decode cX12_addPanel 9 = .ok (.iload 4, 2) := by decide +kernel
theorem dX12_addPanel_11 : decode cX12_addPanel 11 = .ok (.iload 5, 2) := by decide +kernel
theorem dX12_addPanel_13 : decode cX12_addPanel 13 = .ok (.iload 6, 2) := by decide +kernel
theorem dX12_addPanel_15 : decode cX12_addPanel 15 = .ok (.invokevirtual 158, 3) := by decide +kernel
theorem dX12_addPanel_18 : decode cX12_addPanel 18 = .ok (.invokevirtual 106, 3) := by decide +kernel
theorem dX12_addPanel_21 : decode cX12_addPanel 21 = .ok (.ireturn, 1) := by decide +kernel
theorem dX12_removeLast_0 : decode cX12_removeLast 0 = .ok (.aload_n 0, 1) := by decide +kernel
theorem dX12_removeLast_1 : decode cX12_removeLast 1 = .ok (.invokevirtual 103, 3) := by decide +kernel
theorem dX12_removeLast_4 : decode cX12_removeLast 4 = .ok (.aload_n 0, 1) := by decide +kernel
theorem dX12_removeLast_5 : decode cX12_removeLast 5 = .ok (.invokevirtual 83, 3) := by decide +kernel
theorem dX12_removeLast_8 : decode cX12_removeLast 8 = .ok (.iconst 1, 1) := by decide +kernel
theorem dX12_removeLast_9 : decode cX12_removeLast 9 = .ok (.isub, 1) := by decide +kernel
theorem dX12_removeLast_10 : decode cX12_removeLast 10 = .ok (.istore_n 1, 1) := by decide +kernel
theorem dX12_removeLast_11 : decode cX12_removeLast 11 = .ok (.iload_n 1, 1) := by decide +kernel
theorem dX12_removeLast_12 : decode cX12_removeLast 12 = .ok (.ifCond .ge 7, 3) := by decide +kernel
theorem dX12_removeLast_15 : decode cX12_removeLast 15 = .ok (.iconst 1, 1) := by decide +kernel
theorem dX12_removeLast_16 : decode cX12_removeLast 16 = .ok (.goto 4, 3) := by decide +kernel
theorem dX12_removeLast_19 : decode cX12_removeLast 19 = .ok (.iconst 0, 1) := by decide +kernel
theorem dX12_removeLast_20 : decode cX12_removeLast 20 = .ok (.istore_n 2, 1) := by decide +kernel
theorem dX12_removeLast_21 : decode cX12_removeLast 21 = .ok (.iconst 0, 1) := by decide +kernel
theorem dX12_removeLast_22 : decode cX12_removeLast 22 = .ok (.istore_n 3, 1) := by decide +kernel
theorem dX12_removeLast_23 : decode cX12_removeLast 23 = .ok (.iload_n 3, 1) := by decide +kernel
theorem dX12_removeLast_24 : decode cX12_removeLast 24 = .ok (.aload_n 0, 1) := by decide +kernel
theorem dX12_removeLast_25 : decode cX12_removeLast 25 = .ok (.invokevirtual 83, 3) := by decide +kernel
theorem dX12_removeLast_28 : decode cX12_removeLast 28 = .ok (.if_icmp .ge 30, 3) := by decide +kernel
theorem dX12_removeLast_31 : decode cX12_removeLast 31 = .ok (.iload_n 2, 1) := by decide +kernel
theorem dX12_removeLast_32 : decode cX12_removeLast 32 = .ok (.ifCond .ne 14, 3) := by decide +kernel
theorem dX12_removeLast_35 : decode cX12_removeLast 35 = .ok (.aload_n 0, 1) := by decide +kernel
theorem dX12_removeLast_36 : decode cX12_removeLast 36 = .ok (.iload_n 3, 1) := by decide +kernel
theorem dX12_removeLast_37 : decode cX12_removeLast 37 = .ok (.bipush 6, 2) := by decide +kernel
theorem dX12_removeLast_39 : decode cX12_removeLast 39 = .ok (.invokevirtual 91, 3) := by decide +kernel
theorem dX12_removeLast_42 : decode cX12_removeLast 42 = .ok (.iload_n 1, 1) := by decide +kernel
theorem dX12_removeLast_43 : decode cX12_removeLast 43 = .ok (.if_icmp .ne 7, 3) := by decide +kernel
theorem dX12_removeLast_46 : decode cX12_removeLast 46 = .ok (.iconst 1, 1) := by decide +kernel
theorem dX12_removeLast_47 : decode cX12_removeLast 47 = .ok (.goto 4, 3) := by decide +kernel
theorem dX12_removeLast_50 : decode cX12_removeLast 50 = .ok (.iconst 0, 1) := by decide +kernel
theorem dX12_removeLast_51 : decode cX12_removeLast 51 = .ok (.istore_n 2, 1) := by decide +kernel
theorem dX12_removeLast_52 : decode cX12_removeLast 52 = .ok (.iinc 3 1, 3) := by decide +kernel
theorem dX12_removeLast_55 : decode cX12_removeLast 55 = .ok (.goto (-32), 3) := by decide +kernel
theorem dX12_removeLast_58 : decode cX12_removeLast 58 = .ok (.iload_n 2, 1) := by decide +kernel
theorem dX12_removeLast_59 : decode cX12_removeLast 59 = .ok (.ifCond .eq 6, 3) := by decide +kernel
theorem dX12_removeLast_62 : decode cX12_removeLast 62 = .ok (.bipush (-2), 2) := by decide +kernel
theorem dX12_removeLast_64 : decode cX12_removeLast 64 = .ok (.ireturn, 1) := by decide +kernel
theorem dX12_removeLast_65 : decode cX12_removeLast 65 = .ok (.aload_n 0, 1) := by decide +kernel
theorem dX12_removeLast_66 : decode cX12_removeLast 66 = .ok (.getfield 7, 3) := by decide +kernel
theorem dX12_removeLast_69 : decode cX12_removeLast 69 = .ok (.iconst 2, 1) := by decide +kernel
theorem dX12_removeLast_70 : decode cX12_removeLast 70 = .ok (.dup2, 1) := by decide +kernel
theorem dX12_removeLast_71 : decode cX12_removeLast 71 = .ok (.iaload, 1) := by decide +kernel
theorem dX12_removeLast_72 : decode cX12_removeLast 72 = .ok (.iconst 1, 1) := by decide +kernel
theorem dX12_removeLast_73 : decode cX12_removeLast 73 = .ok (.isub, 1) := by decide +kernel
theorem dX12_removeLast_74 : decode cX12_removeLast 74 = .ok (.iastore, 1) := by decide +kernel
theorem dX12_removeLast_75 : decode cX12_removeLast 75 = .ok (.aload_n 0, 1) := by decide +kernel
theorem dX12_removeLast_76 : decode cX12_removeLast 76 = .ok (.aload_n 0, 1) := by decide +kernel
theorem dX12_removeLast_77 : decode cX12_removeLast 77 = .ok (.invokevirtual 83, 3) := by decide +kernel
theorem dX12_removeLast_80 : decode cX12_removeLast 80 = .ok (.invokevirtual 106, 3) := by decide +kernel
theorem dX12_removeLast_83 : decode cX12_removeLast 83 = .ok (.ireturn, 1) := by decide +kernel
theorem dX12_setAngle_0 : decode cX12_setAngle 0 = .ok (.aload_n 0, 1) := by decide +kernel
theorem dX12_setAngle_1 : decode cX12_setAngle 1 = .ok (.invokevirtual 103, 3) := by decide +kernel
theorem dX12_setAngle_4 : decode cX12_setAngle 4 = .ok (.aload_n 0, 1) := by decide +kernel
theorem dX12_setAngle_5 : decode cX12_setAngle 5 = .ok (.iload_n 1, 1) := by decide +kernel
theorem dX12_setAngle_6 : decode cX12_setAngle 6 = .ok (.invokevirtual 149, 3) := by decide +kernel
theorem dX12_setAngle_9 : decode cX12_setAngle 9 = .ok (.ifCond .eq 12, 3) := by decide +kernel
theorem dX12_setAngle_12 : decode cX12_setAngle 12 = .ok (.iload_n 2, 1) := by decide +kernel
theorem dX12_setAngle_13 : decode cX12_setAngle 13 = .ok (.iconst (-1), 1) := by decide +kernel
theorem dX12_setAngle_14 : decode cX12_setAngle 14 = .ok (.iconst 2, 1) := by decide +kernel
theorem dX12_setAngle_15 : decode cX12_setAngle 15 = .ok (.invokestatic 87, 3) := by decide +kernel
theorem dX12_setAngle_18 : decode cX12_setAngle 18 = .ok (.ifCond .ne 5, 3) := by decide +kernel
theorem dX12_setAngle_21 : decode cX12_setAngle 21 = .ok (.iconst (-1), 1) := by decide +kernel
theorem dX12_setAngle_22 : decode cX12_setAngle 22 = .ok (.ireturn, 1) := by decide +kernel
theorem dX12_setAngle_23 : decode cX12_setAngle 23 = .ok (.aload_n 0, 1) := by decide +kernel
theorem dX12_setAngle_24 : decode cX12_setAngle 24 = .ok (.iload_n 1, 1) := by decide +kernel
theorem dX12_setAngle_25 : decode cX12_setAngle 25 = .ok (.iconst 5, 1) := by decide +kernel
theorem dX12_setAngle_26 : decode cX12_setAngle 26 = .ok (.invokevirtual 91, 3) := by decide +kernel
theorem dX12_setAngle_29 : decode cX12_setAngle 29 = .ok (.istore_n 3, 1) := by decide +kernel
theorem dX12_setAngle_30 : decode cX12_setAngle 30 = .ok (.aload_n 0, 1) := by decide +kernel
theorem dX12_setAngle_31 : decode cX12_setAngle 31 = .ok (.iload_n 1, 1) := by decide +kernel
theorem dX12_setAngle_32 : decode cX12_setAngle 32 = .ok (.iconst 5, 1) := by decide +kernel
theorem dX12_setAngle_33 : decode cX12_setAngle 33 = .ok (.iload_n 2, 1) := by decide +kernel
theorem dX12_setAngle_34 : decode cX12_setAngle 34 = .ok (.invokevirtual 137, 3) := by decide +kernel
theorem dX12_setAngle_37 : decode cX12_setAngle 37 = .ok (.aload_n 0, 1) := by decide +kernel
theorem dX12_setAngle_38 : decode cX12_setAngle 38 = .ok (.iload_n 3, 1) := by decide +kernel
theorem dX12_setAngle_39 : decode cX12_setAngle 39 = .ok (.invokevirtual 106, 3) := by decide +kernel
theorem dX12_setAngle_42 : decode cX12_setAngle 42 = .ok (.ireturn, 1) := by decide +kernel
theorem dX12_setSize_0 : decode cX12_setSize 0 = .ok (.aload_n 0, 1) := by decide +kernel
theorem dX12_setSize_1 : decode cX12_setSize 1 = .ok (.invokevirtual 103, 3) := by decide +kernel
theorem dX12_setSize_4 : decode cX12_setSize 4 = .ok (.aload_n 0, 1) := by decide +kernel
theorem dX12_setSize_5 : decode cX12_setSize 5 = .ok (.iload_n 1, 1) := by decide +kernel
theorem dX12_setSize_6 : decode cX12_setSize 6 = .ok (.invokevirtual 149, 3) := by decide +kernel
theorem dX12_setSize_9 : decode cX12_setSize 9 = .ok (.ifCond .eq 31, 3) := by decide +kernel
theorem dX12_setSize_12 : decode cX12_setSize 12 = .ok (.iload_n 2, 1) := by decide +kernel
theorem dX12_setSize_13 : decode cX12_setSize 13 = .ok (.iconst 0, 1) := by decide +kernel
theorem dX12_setSize_14 : decode cX12_setSize 14 = .ok (.iconst 2, 1) := by decide +kernel
theorem dX12_setSize_15 : decode cX12_setSize 15 = .ok (.invokestatic 87, 3) := by decide +kernel
theorem dX12_setSize_18 : decode cX12_setSize 18 = .ok (.ifCond .eq 22, 3) := by decide +kernel
theorem dX12_setSize_21 : decode cX12_setSize 21 = .ok (.iload_n 3, 1) := by decide +kernel
theorem dX12_setSize_22 : decode cX12_setSize 22 = .ok (.iload_n 2, 1) := by decide +kernel
theorem dX12_setSize_23 : decode cX12_setSize 23 = .ok (.ifCond .ne 7, 3) := by decide +kernel
theorem dX12_setSize_26 : decode cX12_setSize 26 = .ok (.iconst 0, 1) := by decide +kernel
theorem dX12_setSize_27 : decode cX12_setSize 27 = .ok (.goto 4, 3) := by decide +kernel
theorem dX12_setSize_30 : decode cX12_setSize 30 = .ok (.iconst 1, 1) := by decide +kernel
theorem dX12_setSize_31 : decode cX12_setSize 31 = .ok (.sipush 300, 3) := by decide +kernel
theorem dX12_setSize_34 : decode cX12_setSize 34 = .ok (.invokestatic 87, 3) := by decide +kernel
theorem dX12_setSize_37 : decode cX12_setSize 37 = .ok (.ifCond .ne 5, 3) := by decide +kernel
theorem dX12_setSize_40 : decode cX12_setSize 40 = .ok (.iconst (-1), 1) := by decide +kernel
theorem dX12_setSize_41 : decode cX12_setSize 41 = .ok (.ireturn, 1) := by decide +kernel
theorem dX12_setSize_42 : decode cX12_setSize 42 = .ok (.aload_n 0, 1) := by decide +kernel
theorem dX12_setSize_43 : decode cX12_setSize 43 = .ok (.iload_n 1, 1) := by decide +kernel
theorem dX12_setSize_44 : decode cX12_setSize 44 = .ok (.iconst 2, 1) := by decide +kernel
theorem dX12_setSize_45 : decode cX12_setSize 45 = .ok (.iload_n 2, 1) := by decide +kernel
theorem dX12_setSize_46 : decode cX12_setSize 46 = .ok (.iadd, 1) := by decide +kernel
theorem dX12_setSize_47 : decode cX12_setSize 47 = .ok (.invokevirtual 91, 3) := by decide +kernel
theorem dX12_setSize_50 : decode cX12_setSize 50 = .ok (.istore 4, 2) := by decide +kernel
theorem dX12_setSize_52 : decode cX12_setSize 52 = .ok (.aload_n 0, 1) := by decide +kernel
theorem dX12_setSize_53 : decode cX12_setSize 53 = .ok (.iload_n 1, 1) := by decide +kernel
theorem dX12_setSize_54 : decode cX12_setSize 54 = .ok (.iconst 2, 1) := by decide +kernel
theorem dX12_setSize_55 : decode cX12_setSize 55 = .ok (.iload_n 2, 1) := by decide +kernel
theorem dX12_setSize_56 : decode cX12_setSize 56 = .ok (.iadd, 1) := by decide +kernel
theorem dX12_setSize_57 : decode cX12_setSize 57 = .ok (.iload_n 3, 1) := by decide +kernel
theorem dX12_setSize_58 : decode cX12_setSize 58 = .ok (.invokevirtual 137, 3) := by decide +kernel
theorem dX12_setSize_61 : decode cX12_setSize 61 = .ok (.aload_n 0, 1) := by decide +kernel
theorem dX12_setSize_62 : decode cX12_setSize 62 = .ok (.aload_n 0, 1) := by decide +kernel
theorem dX12_setSize_63 : decode cX12_setSize 63 = .ok (.invokevirtual 133, 3) := by decide +kernel
theorem dX12_setSize_66 : decode cX12_setSize 66 = .ok (.ifCond .eq 8, 3) := by decide +kernel
theorem dX12_setSize_69 : decode cX12_setSize 69 = .ok (.iload 4, 2) := by decide +kernel
theorem dX12_setSize_71 : decode cX12_setSize 71 = .ok (.goto 9, 3) := by decide +kernel
theorem dX12_setSize_74 : decode cX12_setSize 74 = .ok (.aload_n 0, 1) := by decide +kernel
theorem dX12_setSize_75 : decode cX12_setSize 75 = .ok (.bipush (-4), 2) := by decide +kernel
theorem dX12_setSize_77 : decode cX12_setSize 77 = .ok (.invokevirtual 130, 3) := by decide +kernel
theorem dX12_setSize_80 : decode cX12_setSize 80 = .ok (.invokevirtual 106, 3) := by decide +kernel
theorem dX12_setSize_83 : decode cX12_setSize 83 = .ok (.ireturn, 1) := by decide +kernel
theorem dX12_setFlap_0 : decode cX12_setFlap 0 = .ok (.aload_n 0, 1) := by decide +kernel
theorem dX12_setFlap_1 : decode cX12_setFlap 1 = .ok (.invokevirtual 103, 3) := by decide +kernel
theorem dX12_setFlap_4 : decode cX12_setFlap 4 = .ok (.aload_n 0, 1) := by decide +kernel
theorem dX12_setFlap_5 : decode cX12_setFlap 5 = .ok (.aload_n 0, 1) := by decide +kernel
theorem dX12_setFlap_6 : decode cX12_setFlap 6 = .ok (.iload_n 1, 1) := by decide +kernel
theorem dX12_setFlap_7 : decode cX12_setFlap 7 = .ok (.iload_n 2, 1) := by decide +kernel
theorem dX12_setFlap_8 : decode cX12_setFlap 8 = .ok (.invokevirtual 162, 3) := by decide +kernel
theorem dX12_setFlap_11 : decode cX12_setFlap 11 = .ok (.invokevirtual 106, 3) := by decide +kernel
theorem dX12_setFlap_14 : decode cX12_setFlap 14 = .ok (.ireturn, 1) := by decide +kernel
theorem dX12_defineImage_0 : decode cX12_defineImage 0 = .ok (.aload_n 0, 1) := by decide +kernel
theorem dX12_defineImage_1 : decode cX12_defineImage 1 = .ok (.invokevirtual 103, 3) := by decide +kernel
theorem dX12_defineImage_4 : decode cX12_defineImage 4 = .ok (.aload_n 0, 1) := by decide +kernel
theorem dX12_defineImage_5 : decode cX12_defineImage 5 = .ok (.aload_n 0, 1) := by decide +kernel
theorem dX12_defineImage_6 : decode cX12_defineImage 6 = .ok (.iload_n 1, 1) := by decide +kernel
theorem dX12_defineImage_7 : decode cX12_defineImage 7 = .ok (.iload_n 2, 1) := by decide +kernel
theorem dX12_defineImage_8 : decode cX12_defineImage 8 = .ok (.iload_n 3, 1) := by decide +kernel
theorem dX12_defineImage_9 : decode cX12_defineImage 9 = .ok (.invokevirtual 165, 3) := by decide +kernel
theorem dX12_defineImage_12 : decode cX12_defineImage 12 = .ok (.invokevirtual 106, 3) := by decide +kernel
theorem dX12_defineImage_15 : decode cX12_defineImage 15 = .ok (.ireturn, 1) := by decide +kernel
theorem dX12_place_0 : decode cX12_place 0 = .ok (.aload_n 0, 1) := by decide +kernel
theorem dX12_place_1 : decode cX12_place 1 = .ok (.invokevirtual 103, 3) := by decide +kernel
theorem dX12_place_4 : decode cX12_place 4 = .ok (.aload_n 0, 1) := by decide +kernel
theorem dX12_place_5 : decode cX12_place 5 = .ok (.aload_n 0, 1) := by decide +kernel
theorem dX12_place_6 : decode cX12_place 6 = .ok (.iload_n 1, 1) := by decide +kernel
theorem dX12_place_7 : decode cX12_place 7 = .ok (.iload_n 2, 1) := by decide +kernel
theorem dX12_place_8 : decode cX12_place 8 = .ok (.iload_n 3, 1) := by decide +kernel
theorem dX12_place_9 : decode cX12_place 9 = .ok (.iload 4, 2) := by decide +kernel
theorem dX12_place_11 : decode cX12_place 11 = .ok (.iload 5, 2) := by decide +kernel
theorem dX12_place_13 : decode cX12_place 13 = .ok (.invokevirtual 169, 3) := by decide +kernel
theorem dX12_place_16 : decode cX12_place 16 = .ok (.invokevirtual 106, 3) := by decide +kernel
theorem dX12_place_19 : decode cX12_place 19 = .ok (.ireturn, 1) := by decide +kernel
theorem dX12_clearImage_0 : decode cX12_clearImage 0 = .ok (.aload_n 0, 1) := by decide +kernel
theorem dX12_clearImage_1 : decode cX12_clearImage 1 = .ok (.invokevirtual 103, 3) := by decide +kernel
theorem dX12_clearImage_4 : decode cX12_clearImage 4 = .ok (.aload_n 0, 1) := by decide +kernel
theorem dX12_clearImage_5 : decode cX12_clearImage 5 = .ok (.iload_n 1, 1) := by decide +kernel
theorem dX12_clearImage_6 : decode cX12_clearImage 6 = .ok (.invokevirtual 145, 3) := by decide +kernel
theorem dX12_clearImage_9 : decode cX12_clearImage 9 = .ok (.ifCond .ne 5, 3) := by decide +kernel
theorem dX12_clearImage_12 : decode cX12_clearImage 12 = .ok (.iconst (-1), 1) := by decide +kernel
theorem dX12_clearImage_13 : decode cX12_clearImage 13 = .ok (.ireturn, 1) := by decide +kernel
theorem dX12_clearImage_14 : decode cX12_clearImage 14 = .ok (.aload_n 0, 1) := by decide +kernel
theorem dX12_clearImage_15 : decode cX12_clearImage 15 = .ok (.iload_n 1, 1) := by decide +kernel
theorem dX12_clearImage_16 : decode cX12_clearImage 16 = .ok (.bipush 7, 2) := by decide +kernel
theorem dX12_clearImage_18 : decode cX12_clearImage 18 = .ok (.invokevirtual 91, 3) := by decide +kernel
theorem dX12_clearImage_21 : decode cX12_clearImage 21 = .ok (.istore_n 2, 1) := by decide +kernel
theorem dX12_clearImage_22 : decode cX12_clearImage 22 = .ok (.iload_n 2, 1) := by decide +kernel
theorem dX12_clearImage_23 : decode cX12_clearImage 23 = .ok (.bipush (-9), 2) := by decide +kernel
theorem dX12_clearImage_25 : decode cX12_clearImage 25 = .ok (.if_icmp .ne 6, 3) := by decide +kernel
theorem dX12_clearImage_28 : decode cX12_clearImage 28 = .ok (.bipush (-2), 2) := by decide +kernel
theorem dX12_clearImage_30 : decode cX12_clearImage 30 = .ok (.ireturn, 1) := by decide +kernel
theorem dX12_clearImage_31 : decode cX12_clearImage 31 = .ok (.aload_n 0, 1) := by decide +kernel
theorem dX12_clearImage_32 : decode cX12_clearImage 32 = .ok (.iload_n 1, 1) := by decide +kernel
theorem dX12_clearImage_33 : decode cX12_clearImage 33 = .ok (.bipush 7, 2) := by decide +kernel
theorem dX12_clearImage_35 : decode cX12_clearImage 35 = .ok (.bipush (-9), 2) := by decide +kernel
theorem dX12_clearImage_37 : decode cX12_clearImage 37 = .ok (.invokevirtual 137, 3) := by decide +kernel
theorem dX12_clearImage_40 : decode cX12_clearImage 40 = .ok (.aload_n 0, 1) := by decide +kernel
theorem dX12_clearImage_41 : decode cX12_clearImage 41 = .ok (.iload_n 2, 1) := by decide +kernel
theorem dX12_clearImage_42 : decode cX12_clearImage 42 = .ok (.invokevirtual 106, 3) := by decide +kernel
theorem dX12_clearImage_45 : decode cX12_clearImage 45 = .ok (.ireturn, 1) := by decide +kernel
theorem dX12_setLimit_0 : decode cX12_setLimit 0 = .ok (.aload_n 0, 1) := by decide +kernel
theorem dX12_setLimit_1 : decode cX12_setLimit 1 = .ok (.invokevirtual 103, 3) := by decide +kernel
theorem dX12_setLimit_4 : decode cX12_setLimit 4 = .ok (.iload_n 1, 1) := by decide +kernel
theorem dX12_setLimit_5 : decode cX12_setLimit 5 = .ok (.iconst 0, 1) := by decide +kernel
theorem dX12_setLimit_6 : decode cX12_setLimit 6 = .ok (.iconst 3, 1) := by decide +kernel
theorem dX12_setLimit_7 : decode cX12_setLimit 7 = .ok (.invokestatic 87, 3) := by decide +kernel
theorem dX12_setLimit_10 : decode cX12_setLimit 10 = .ok (.ifCond .eq 23, 3) := by decide +kernel
theorem dX12_setLimit_13 : decode cX12_setLimit 13 = .ok (.iload_n 2, 1) := by decide +kernel
theorem dX12_setLimit_14 : decode cX12_setLimit 14 = .ok (.iconst 0, 1) := by decide +kernel
theorem dX12_setLimit_15 : decode cX12_setLimit 15 = .ok (.iload_n 1, 1) := by decide +kernel
theorem dX12_setLimit_16 : decode cX12_setLimit 16 = .ok (.iconst 3, 1) := by decide +kernel
theorem dX12_setLimit_17 : decode cX12_setLimit 17 = .ok (.if_icmp .ne 8, 3) := by decide +kernel
theorem dX12_setLimit_20 : decode cX12_setLimit 20 = .ok (.bipush 100, 2) := by decide +kernel
theorem dX12_setLimit_22 : decode cX12_setLimit 22 = .ok (.goto 5, 3) := by decide +kernel
theorem dX12_setLimit_25 : decode cX12_setLimit 25 = .ok (.bipush 20, 2) := by decide +kernel
theorem dX12_setLimit_27 : decode cX12_setLimit 27 = .ok (.invokestatic 87, 3) := by decide +kernel
theorem dX12_setLimit_30 : decode cX12_setLimit 30 = .ok (.ifCond .ne 5, 3) := by decide +kernel
theorem dX12_setLimit_33 : decode cX12_setLimit 33 = .ok (.iconst (-1), 1) := by decide +kernel
theorem dX12_setLimit_34 : decode cX12_setLimit 34 = .ok (.ireturn, 1) := by decide +kernel
theorem dX12_setLimit_35 : decode cX12_setLimit 35 = .ok (.aload_n 0, 1) := by decide +kernel
theorem dX12_setLimit_36 : decode cX12_setLimit 36 = .ok (.getfield 7, 3) := by decide +kernel
theorem dX12_setLimit_39 : decode cX12_setLimit 39 = .ok (.bipush 125, 2) := by decide +kernel
theorem dX12_setLimit_41 : decode cX12_setLimit 41 = .ok (.iload_n 1, 1) := by decide +kernel
theorem dX12_setLimit_42 : decode cX12_setLimit 42 = .ok (.iadd, 1) := by decide +kernel
theorem dX12_setLimit_43 : decode cX12_setLimit 43 = .ok (.iaload, 1) := by decide +kernel
theorem dX12_setLimit_44 : decode cX12_setLimit 44 = .ok (.istore_n 3, 1) := by decide +kernel
theorem dX12_setLimit_45 : decode cX12_setLimit 45 = .ok (.aload_n 0, 1) := by decide +kernel
theorem dX12_setLimit_46 : decode cX12_setLimit 46 = .ok (.getfield 7, 3) := by decide +kernel
theorem dX12_setLimit_49 : decode cX12_setLimit 49 = .ok (.bipush 125, 2) := by decide +kernel
theorem dX12_setLimit_51 : decode cX12_setLimit 51 = .ok (.iload_n 1, 1) := by decide +kernel
theorem dX12_setLimit_52 : decode cX12_setLimit 52 = .ok (.iadd, 1) := by decide +kernel
theorem dX12_setLimit_53 : decode cX12_setLimit 53 = .ok (.iload_n 2, 1) := by decide +kernel
theorem dX12_setLimit_54 : decode cX12_setLimit 54 = .ok (.iastore, 1) := by decide +kernel
theorem dX12_setLimit_55 : decode cX12_setLimit 55 = .ok (.aload_n 0, 1) := by decide +kernel
theorem dX12_setLimit_56 : decode cX12_setLimit 56 = .ok (.iload_n 3, 1) := by decide +kernel
theorem dX12_setLimit_57 : decode cX12_setLimit 57 = .ok (.invokevirtual 106, 3) := by decide +kernel
theorem dX12_setLimit_60 : decode cX12_setLimit 60 = .ok (.ireturn, 1) := by decide +kernel
theorem dX12_setWeight_0 : decode cX12_setWeight 0 = .ok (.aload_n 0, 1) := by decide +kernel
theorem dX12_setWeight_1 : decode cX12_setWeight 1 = .ok (.invokevirtual 103, 3) := by decide +kernel
theorem dX12_setWeight_4 : decode cX12_setWeight 4 = .ok (.iload_n 1, 1) := by decide +kernel
theorem dX12_setWeight_5 : decode cX12_setWeight 5 = .ok (.iconst 0, 1) := by decide +kernel
theorem dX12_setWeight_6 : decode cX12_setWeight 6 = .ok (.bipush 7, 2) := by decide +kernel
theorem dX12_setWeight_8 : decode cX12_setWeight 8 = .ok (.invokestatic 87, 3) := by decide +kernel
theorem dX12_setWeight_11 : decode cX12_setWeight 11 = .ok (.ifCond .eq 13, 3) := by decide +kernel
theorem dX12_setWeight_14 : decode cX12_setWeight 14 = .ok (.iload_n 2, 1) := by decide +kernel
theorem dX12_setWeight_15 : decode cX12_setWeight 15 = .ok (.iconst 0, 1) := by decide +kernel
theorem dX12_setWeight_16 : decode cX12_setWeight 16 = .ok (.bipush 9, 2) := by decide +kernel
theorem dX12_setWeight_18 : decode cX12_setWeight 18 = .ok (.invokestatic 87, 3) := by decide +kernel
theorem dX12_setWeight_21 : decode cX12_setWeight 21 = .ok (.ifCond .ne 5, 3) := by decide +kernel
theorem dX12_setWeight_24 : decode cX12_setWeight 24 = .ok (.iconst (-1), 1) := by decide +kernel
theorem dX12_setWeight_25 : decode cX12_setWeight 25 = .ok (.ireturn, 1) := by decide +kernel
theorem dX12_setWeight_26 : decode cX12_setWeight 26 = .ok (.aload_n 0, 1) := by decide +kernel
theorem dX12_setWeight_27 : decode cX12_setWeight 27 = .ok (.getfield 7, 3) := by decide +kernel
theorem dX12_setWeight_30 : decode cX12_setWeight 30 = .ok (.sipush 129, 3) := by decide +kernel
theorem dX12_setWeight_33 : decode cX12_setWeight 33 = .ok (.iload_n 1, 1) := by decide +kernel
theorem dX12_setWeight_34 : decode cX12_setWeight 34 = .ok (.iadd, 1) := by decide +kernel
theorem dX12_setWeight_35 : decode cX12_setWeight 35 = .ok (.iaload, 1) := by decide +kernel
theorem dX12_setWeight_36 : decode cX12_setWeight 36 = .ok (.istore_n 3, 1) := by decide +kernel
theorem dX12_setWeight_37 : decode cX12_setWeight 37 = .ok (.aload_n 0, 1) := by decide +kernel
theorem dX12_setWeight_38 : decode cX12_setWeight 38 = .ok (.getfield 7, 3) := by decide +kernel
theorem dX12_setWeight_41 : decode cX12_setWeight 41 = .ok (.sipush 129, 3) := by decide +kernel
theorem dX12_setWeight_44 : decode cX12_setWeight 44 = .ok (.iload_n 1, 1) := by decide +kernel
theorem dX12_setWeight_45 : decode cX12_setWeight 45 = .ok (.iadd, 1) := by decide +kernel
theorem dX12_setWeight_46 : decode cX12_setWeight 46 = .ok (.iload_n 2, 1) := by decide +kernel
theorem dX12_setWeight_47 : decode cX12_setWeight 47 = .ok (.iastore, 1) := by decide +kernel
theorem dX12_setWeight_48 : decode cX12_setWeight 48 = .ok (.aload_n 0, 1) := by decide +kernel
theorem dX12_setWeight_49 : decode cX12_setWeight 49 = .ok (.iload_n 3, 1) := by decide +kernel
theorem dX12_setWeight_50 : decode cX12_setWeight 50 = .ok (.invokevirtual 106, 3) := by decide +kernel
theorem dX12_setWeight_53 : decode cX12_setWeight 53 = .ok (.ireturn, 1) := by decide +kernel
theorem dX12_type_0 : decode cX12_type 0 = .ok (.iload_n 1, 1) := by decide +kernel
theorem dX12_type_1 : decode cX12_type 1 = .ok (.iconst 0, 1) := by decide +kernel
theorem dX12_type_2 : decode cX12_type 2 = .ok (.bipush 127, 2) := by decide +kernel
theorem dX12_type_4 : decode cX12_type 4 = .ok (.invokestatic 87, 3) := by decide +kernel
theorem dX12_type_7 : decode cX12_type 7 = .ok (.ifCond .ne 5, 3) := by decide +kernel
theorem dX12_type_10 : decode cX12_type 10 = .ok (.iconst (-1), 1) := by decide +kernel
theorem dX12_type_11 : decode cX12_type 11 = .ok (.ireturn, 1) := by decide +kernel
theorem dX12_type_12 : decode cX12_type 12 = .ok (.aload_n 0, 1) := by decide +kernel
theorem dX12_type_13 : decode cX12_type 13 = .ok (.getfield 173, 3) := by decide +kernel
theorem dX12_type_16 : decode cX12_type 16 = .ok (.sipush 160, 3) := by decide +kernel
theorem dX12_type_19 : decode cX12_type 19 = .ok (.if_icmp .ne 6, 3) := by decide +kernel
theorem dX12_type_22 : decode cX12_type 22 = .ok (.bipush (-3), 2) := by decide +kernel
theorem dX12_type_24 : decode cX12_type 24 = .ok (.ireturn, 1) := by decide +kernel
theorem dX12_type_25 : decode cX12_type 25 = .ok (.aload_n 0, 1) := by decide +kernel
theorem dX12_type_26 : decode cX12_type 26 = .ok (.getfield 38, 3) := by decide +kernel
theorem dX12_type_29 : decode cX12_type 29 = .ok (.aload_n 0, 1) := by decide +kernel
theorem dX12_type_30 : decode cX12_type 30 = .ok (.getfield 173, 3) := by decide +kernel
theorem dX12_type_33 : decode cX12_type 33 = .ok (.iload_n 1, 1) := by decide +kernel
theorem dX12_type_34 : decode cX12_type 34 = .ok (.iastore, 1) := by decide +kernel
theorem dX12_type_35 : decode cX12_type 35 = .ok (.aload_n 0, 1) := by decide +kernel
theorem dX12_type_36 : decode cX12_type 36 = .ok (.dup, 1) := by decide +kernel
theorem dX12_type_37 : decode cX12_type 37 = .ok (.getfield 173, 3) := by decide +kernel
theorem dX12_type_40 : decode cX12_type 40 = .ok (.iconst 1, 1) := by decide +kernel
theorem dX12_type_41 : decode cX12_type 41 = .ok (.iadd, 1) := by decide +kernel
theorem dX12_type_42 : decode cX12_type 42 = .ok (.putfield 173, 3) := by decide +kernel
theorem dX12_type_45 : decode cX12_type 45 = .ok (.aload_n 0, 1) := by decide +kernel
theorem dX12_type_46 : decode cX12_type 46 = .ok (.getfield 173, 3) := by decide +kernel
theorem dX12_type_49 : decode cX12_type 49 = .ok (.ireturn, 1) := by decide +kernel
theorem dX12_clearText_0 : decode cX12_clearText 0 = .ok (.aload_n 0, 1) := by decide +kernel
theorem dX12_clearText_1 : decode cX12_clearText 1 = .ok (.getfield 173, 3) := by decide +kernel
theorem dX12_clearText_4 : decode cX12_clearText 4 = .ok (.istore_n 1, 1) := by decide +kernel
theorem dX12_clearText_5 : decode cX12_clearText 5 = .ok (.aload_n 0, 1) := by decide +kernel
theorem dX12_clearText_6 : decode cX12_clearText 6 = .ok (.iconst 0, 1) := by decide +kernel
theorem dX12_clearText_7 : decode cX12_clearText 7 = .ok (.putfield 173, 3) := by decide +kernel
theorem dX12_clearText_10 : decode cX12_clearText 10 = .ok (.iload_n 1, 1) := by decide +kernel
theorem dX12_clearText_11 : decode cX12_clearText 11 = .ok (.ireturn, 1) := by decide +kernel
theorem dX12_here_0 : decode cX12_here 0 = .ok (.iload_n 1, 1) := by decide +kernel
theorem dX12_here_1 : decode cX12_here 1 = .ok (.aload_n 0, 1) := by decide +kernel
theorem dX12_here_2 : decode cX12_here 2 = .ok (.getfield 173, 3) := by decide +kernel
theorem dX12_here_5 : decode cX12_here 5 = .ok (.if_icmp .ge 12, 3) := by decide +kernel
theorem dX12_here_8 : decode cX12_here 8 = .ok (.aload_n 0, 1) := by decide +kernel
theorem dX12_here_9 : decode cX12_here 9 = .ok (.getfield 38, 3) := by decide +kernel
theorem dX12_here_12 : decode cX12_here 12 = .ok (.iload_n 1, 1) := by decide +kernel
theorem dX12_here_13 : decode cX12_here 13 = .ok (.iaload, 1) := by decide +kernel
theorem dX12_here_14 : decode cX12_here 14 = .ok (.goto 5, 3) := by decide +kernel
theorem dX12_here_17 : decode cX12_here 17 = .ok (.bipush (-9), 2) := by decide +kernel
theorem dX12_here_19 : decode cX12_here 19 = .ok (.ireturn, 1) := by decide +kernel
theorem dX12_isDigit_0 : decode cX12_isDigit 0 = .ok (.aload_n 0, 1) := by decide +kernel
theorem dX12_isDigit_1 : decode cX12_isDigit 1 = .ok (.iload_n 1, 1) := by decide +kernel
theorem dX12_isDigit_2 : decode cX12_isDigit 2 = .ok (.invokevirtual 176, 3) := by decide +kernel
theorem dX12_isDigit_5 : decode cX12_isDigit 5 = .ok (.bipush 48, 2) := by decide +kernel
theorem dX12_isDigit_7 : decode cX12_isDigit 7 = .ok (.bipush 57, 2) := by decide +kernel
theorem dX12_isDigit_9 : decode cX12_isDigit 9 = .ok (.invokestatic 87, 3) := by decide +kernel
theorem dX12_isDigit_12 : decode cX12_isDigit 12 = .ok (.ireturn, 1) := by decide +kernel
theorem dX12_numbersOf_0 : decode cX12_numbersOf 0 = .ok (.iload_n 0, 1) := by decide +kernel
theorem dX12_numbersOf_1 : decode cX12_numbersOf 1 = .ok (.bipush 115, 2) := by decide +kernel
theorem dX12_numbersOf_3 : decode cX12_numbersOf 3 = .ok (.if_icmp .eq 9, 3) := by decide +kernel
theorem dX12_numbersOf_6 : decode cX12_numbersOf 6 = .ok (.iload_n 0, 1) := by decide +kernel
theorem dX12_numbersOf_7 : decode cX12_numbersOf 7 = .ok (.bipush 102, 2) := by decide +kernel
theorem dX12_numbersOf_9 : decode cX12_numbersOf 9 = .ok (.if_icmp .ne 7, 3) := by decide +kernel
theorem dX12_numbersOf_12 : decode cX12_numbersOf 12 = .ok (.iconst 2, 1) := by decide +kernel
theorem dX12_numbersOf_13 : decode cX12_numbersOf 13 = .ok (.goto 45, 3) := by decide +kernel
theorem dX12_numbersOf_16 : decode cX12_numbersOf 16 = .ok (.iload_n 0, 1) := by decide +kernel
theorem dX12_numbersOf_17 : decode cX12_numbersOf 17 = .ok (.bipush 105, 2) := by decide +kernel
theorem dX12_numbersOf_19 : decode cX12_numbersOf 19 = .ok (.if_icmp .ne 7, 3) := by decide +kernel
theorem dX12_numbersOf_22 : decode cX12_numbersOf 22 = .ok (.iconst 3, 1) := by decide +kernel
theorem dX12_numbersOf_23 : decode cX12_numbersOf 23 = .ok (.goto 35, 3) := by decide +kernel
theorem dX12_numbersOf_26 : decode cX12_numbersOf 26 = .ok (.iload_n 0, 1) := by decide +kernel
theorem dX12_numbersOf_27 : decode cX12_numbersOf 27 = .ok (.bipush 98, 2) := by decide +kernel
theorem dX12_numbersOf_29 : decode cX12_numbersOf 29 = .ok (.if_icmp .ne 7, 3) := by decide +kernel
theorem dX12_numbersOf_32 : decode cX12_numbersOf 32 = .ok (.iconst 4, 1) := by decide +kernel
theorem dX12_numbersOf_33 : decode cX12_numbersOf 33 = .ok (.goto 25, 3) := by decide +kernel
theorem dX12_numbersOf_36 : decode cX12_numbersOf 36 = .ok (.iload_n 0, 1) := by decide +kernel
theorem dX12_numbersOf_37 : decode cX12_numbersOf 37 = .ok (.bipush 97, 2) := by decide +kernel
theorem dX12_numbersOf_39 : decode cX12_numbersOf 39 = .ok (.if_icmp .ne 7, 3) := by decide +kernel
theorem dX12_numbersOf_42 : decode cX12_numbersOf 42 = .ok (.iconst 5, 1) := by decide +kernel
theorem dX12_numbersOf_43 : decode cX12_numbersOf 43 = .ok (.goto 15, 3) := by decide +kernel
theorem dX12_numbersOf_46 : decode cX12_numbersOf 46 = .ok (.iload_n 0, 1) := by decide +kernel
theorem dX12_numbersOf_47 : decode cX12_numbersOf 47 = .ok (.bipush 112, 2) := by decide +kernel
theorem dX12_numbersOf_49 : decode cX12_numbersOf 49 = .ok (.if_icmp .ne 8, 3) := by decide +kernel
theorem dX12_numbersOf_52 : decode cX12_numbersOf 52 = .ok (.bipush 6, 2) := by decide +kernel
theorem dX12_numbersOf_54 : decode cX12_numbersOf 54 = .ok (.goto 4, 3) := by decide +kernel
theorem dX12_numbersOf_57 : decode cX12_numbersOf 57 = .ok (.iconst 0, 1) := by decide +kernel
theorem dX12_numbersOf_58 : decode cX12_numbersOf 58 = .ok (.ireturn, 1) := by decide +kernel
theorem dX12_numberEnd_0 : decode cX12_numberEnd 0 = .ok (.aload_n 0, 1) := by decide +kernel
theorem dX12_numberEnd_1 : decode cX12_numberEnd 1 = .ok (.iload_n 1, 1) := by decide +kernel
theorem dX12_numberEnd_2 : decode cX12_numberEnd 2 = .ok (.invokevirtual 176, 3) := by decide +kernel
theorem dX12_numberEnd_5 : decode cX12_numberEnd 5 = .ok (.bipush 45, 2) := by decide +kernel
theorem dX12_numberEnd_7 : decode cX12_numberEnd 7 = .ok (.if_icmp .ne 9, 3) := by decide +kernel
theorem dX12_numberEnd_10 : decode cX12_numberEnd 10 = .ok (.iload_n 1, 1) := by decide +kernel
theorem dX12_numberEnd_11 : decode cX12_numberEnd 11 = .ok (.iconst 1, 1) := by decide +kernel
theorem dX12_numberEnd_12 : decode cX12_numberEnd 12 = .ok (.iadd, 1) := by decide +kernel
theorem dX12_numberEnd_13 : decode cX12_numberEnd 13 = .ok (.goto 4, 3) := by decide +kernel
theorem dX12_numberEnd_16 : decode cX12_numberEnd 16 = .ok (.iload_n 1, 1) := by decide +kernel
theorem dX12_numberEnd_17 : decode cX12_numberEnd 17 = .ok (.istore_n 2, 1) := by decide +kernel
theorem dX12_numberEnd_18 : decode cX12_numberEnd 18 = .ok (.iload_n 2, 1) := by decide +kernel
theorem dX12_numberEnd_19 : decode cX12_numberEnd 19 = .ok (.istore_n 3, 1) := by decide +kernel
theorem dX12_numberEnd_20 : decode cX12_numberEnd 20 = .ok (.aload_n 0, 1) := by decide +kernel
theorem dX12_numberEnd_21 : decode cX12_numberEnd 21 = .ok (.iload_n 3, 1) := by decide +kernel
theorem dX12_numberEnd_22 : decode cX12_numberEnd 22 = .ok (.invokevirtual 179, 3) := by decide +kernel
theorem dX12_numberEnd_25 : decode cX12_numberEnd 25 = .ok (.ifCond .eq 9, 3) := by decide +kernel
theorem dX12_numberEnd_28 : decode cX12_numberEnd 28 = .ok (.iinc 3 1, 3) := by decide +kernel
theorem dX12_numberEnd_31 : decode cX12_numberEnd 31 = .ok (.goto (-11), 3) := by decide +kernel
theorem dX12_numberEnd_34 : decode cX12_numberEnd 34 = .ok (.iload_n 3, 1) := by decide +kernel
theorem dX12_numberEnd_35 : decode cX12_numberEnd 35 = .ok (.iload_n 2, 1) := by decide +kernel
theorem dX12_numberEnd_36 : decode cX12_numberEnd 36 = .ok (.isub, 1) := by decide +kernel
theorem dX12_numberEnd_37 : decode cX12_numberEnd 37 = .ok (.iconst 1, 1) := by decide +kernel
theorem dX12_numberEnd_38 : decode cX12_numberEnd 38 = .ok (.iconst 3, 1) := by decide +kernel
theorem dX12_numberEnd_39 : decode cX12_numberEnd 39 = .ok (.invokestatic 87, 3) := by decide +kernel
theorem dX12_numberEnd_42 : decode cX12_numberEnd 42 = .ok (.ifCond .eq 7, 3) := by decide +kernel
theorem dX12_numberEnd_45 : decode cX12_numberEnd 45 = .ok (.iload_n 3, 1) := by decide +kernel
theorem dX12_numberEnd_46 : decode cX12_numberEnd 46 = .ok (.goto 4, 3) := by decide +kernel
theorem dX12_numberEnd_49 : decode cX12_numberEnd 49 = .ok (.iload_n 1, 1) := by decide +kernel
theorem dX12_numberEnd_50 : decode cX12_numberEnd 50 = .ok (.ireturn, 1) := by decide +kernel
theorem dX12_numberAt_0 : decode cX12_numberAt 0 = .ok (.iconst 0, 1) := by decide +kernel
theorem dX12_numberAt_1 : decode cX12_numberAt 1 = .ok (.istore_n 3, 1) := by decide +kernel
theorem dX12_numberAt_2 : decode cX12_numberAt 2 = .ok (.aload_n 0, 1) := by decide +kernel
theorem dX12_numberAt_3 : decode cX12_numberAt 3 = .ok (.iload_n 1, 1) := by decide +kernel
theorem dX12_numberAt_4 : decode cX12_numberAt 4 = .ok (.invokevirtual 176, 3) := by decide +kernel
theorem dX12_numberAt_7 : decode cX12_numberAt 7 = .ok (.bipush 45, 2) := by decide +kernel
theorem dX12_numberAt_9 : decode cX12_numberAt 9 = .ok (.if_icmp .ne 9, 3) := by decide +kernel
theorem dX12_numberAt_12 : decode cX12_numberAt 12 = .ok (.iload_n 1, 1) := by decide +kernel
theorem dX12_numberAt_13 : decode cX12_numberAt 13 = .ok (.iconst 1, 1) := by decide +kernel
theorem dX12_numberAt_14 : decode cX12_numberAt 14 = .ok (.iadd, 1) := by decide +kernel
theorem dX12_numberAt_15 : decode cX12_numberAt 15 = .ok (.goto 4, 3) := by decide +kernel
theorem dX12_numberAt_18 : decode cX12_numberAt 18 = .ok (.iload_n 1, 1) := by decide +kernel
theorem dX12_numberAt_19 : decode cX12_numberAt 19 = .ok (.istore 4, 2) := by decide +kernel
theorem dX12_numberAt_21 : decode cX12_numberAt 21 = .ok (.iload 4, 2) := by decide +kernel
theorem dX12_numberAt_23 : decode cX12_numberAt 23 = .ok (.iload_n 2, 1) := by decide +kernel
theorem dX12_numberAt_24 : decode cX12_numberAt 24 = .ok (.if_icmp .ge 24, 3) := by decide +kernel
theorem dX12_numberAt_27 : decode cX12_numberAt 27 = .ok (.bipush 10, 2) := by decide +kernel
theorem dX12_numberAt_29 : decode cX12_numberAt 29 = .ok (.iload_n 3, 1) := by decide +kernel
theorem dX12_numberAt_30 : decode cX12_numberAt 30 = .ok (.imul, 1) := by decide +kernel
theorem dX12_numberAt_31 : decode cX12_numberAt 31 = .ok (.aload_n 0, 1) := by decide +kernel
theorem dX12_numberAt_32 : decode cX12_numberAt 32 = .ok (.iload 4, 2) := by decide +kernel
theorem dX12_numberAt_34 : decode cX12_numberAt 34 = .ok (.invokevirtual 176, 3) := by decide +kernel
theorem dX12_numberAt_37 : decode cX12_numberAt 37 = .ok (.iadd, 1) := by decide +kernel
theorem dX12_numberAt_38 : decode cX12_numberAt 38 = .ok (.bipush 48, 2) := by decide +kernel
theorem dX12_numberAt_40 : decode cX12_numberAt 40 = .ok (.isub, 1) := by decide +kernel
theorem dX12_numberAt_41 : decode cX12_numberAt 41 = .ok (.istore_n 3, 1) := by decide +kernel
theorem dX12_numberAt_42 : decode cX12_numberAt 42 = .ok (.iinc 4 1, 3) := by decide +kernel
theorem dX12_numberAt_45 : decode cX12_numberAt 45 = .ok (.goto (-24), 3) := by decide +kernel
theorem dX12_numberAt_48 : decode cX12_numberAt 48 = .ok (.aload_n 0, 1) := by decide +kernel
theorem dX12_numberAt_49 : decode cX12_numberAt 49 = .ok (.iload_n 1, 1) := by decide +kernel
theorem dX12_numberAt_50 : decode cX12_numberAt 50 = .ok (.invokevirtual 176, 3) := by decide +kernel
theorem dX12_numberAt_53 : decode cX12_numberAt 53 = .ok (.bipush 45, 2) := by decide +kernel
theorem dX12_numberAt_55 : decode cX12_numberAt 55 = .ok (.if_icmp .ne 8, 3) := by decide +kernel
theorem dX12_numberAt_58 : decode cX12_numberAt 58 = .ok (.iload_n 3, 1) := by decide +kernel
theorem dX12_numberAt_59 : decode cX12_numberAt 59 = .ok (.ineg, 1) := by decide +kernel
theorem dX12_numberAt_60 : decode cX12_numberAt 60 = .ok (.goto 4, 3) := by decide +kernel
theorem dX12_numberAt_63 : decode cX12_numberAt 63 = .ok (.iload_n 3, 1) := by decide +kernel
theorem dX12_numberAt_64 : decode cX12_numberAt 64 = .ok (.ireturn, 1) := by decide +kernel
theorem dX12_faulty_0 : decode cX12_faulty 0 = .ok (.aload_n 0, 1) := by decide +kernel
theorem dX12_faulty_1 : decode cX12_faulty 1 = .ok (.getfield 182, 3) := by decide +kernel
theorem dX12_faulty_4 : decode cX12_faulty 4 = .ok (.ifCond .ne 8, 3) := by decide +kernel
theorem dX12_faulty_7 : decode cX12_faulty 7 = .ok (.aload_n 0, 1) := by decide +kernel
theorem dX12_faulty_8 : decode cX12_faulty 8 = .ok (.iload_n 1, 1) := by decide +kernel
theorem dX12_faulty_9 : decode cX12_faulty 9 = .ok (.putfield 182, 3) := by decide +kernel
theorem dX12_faulty_12 : decode cX12_faulty 12 = .ok (.return_, 1) := by decide +kernel
theorem dX12_skips_0 : decode cX12_skips 0 = .ok (.aload_n 0, 1) := by decide +kernel
theorem dX12_skips_1 : decode cX12_skips 1 = .ok (.aload_n 0, 1) := by decide +kernel
theorem dX12_skips_2 : decode cX12_skips 2 = .ok (.getfield 185, 3) := by decide +kernel
theorem dX12_skips_5 : decode cX12_skips 5 = .ok (.invokevirtual 176, 3) := by decide +kernel
theorem dX12_skips_8 : decode cX12_skips 8 = .ok (.bipush 32, 2) := by decide +kernel
theorem dX12_skips_10 : decode cX12_skips 10 = .ok (.if_icmp .ne 16, 3) := by decide +kernel
theorem dX12_skips_13 : decode cX12_skips 13 = .ok (.aload_n 0, 1) := by decide +kernel
theorem dX12_skips_14 : decode cX12_skips 14 = .ok (.dup, 1) := by decide +kernel
theorem dX12_skips_15 : decode cX12_skips 15 = .ok (.getfield 185, 3) := by decide +kernel
theorem dX12_skips_18 : decode cX12_skips 18 = .ok (.iconst 1, 1) := by decide +kernel
theorem dX12_skips_19 : decode cX12_skips 19 = .ok (.iadd, 1) := by decide +kernel
theorem dX12_skips_20 : decode cX12_skips 20 = .ok (.putfield 185, 3) := by decide +kernel
theorem dX12_skips_23 : decode cX12_skips 23 = .ok (.goto (-23), 3) := by decide +kernel
theorem dX12_skips_26 : decode cX12_skips 26 = .ok (.return_, 1) := by decide +kernel
theorem dX12_readItem_0 : decode cX12_readItem 0 = .ok (.aload_n 0, 1) := by decide +kernel
theorem dX12_readItem_1 : decode cX12_readItem 1 = .ok (.aload_n 0, 1) := by decide +kernel
theorem dX12_readItem_2 : decode cX12_readItem 2 = .ok (.getfield 185, 3) := by decide +kernel
theorem dX12_readItem_5 : decode cX12_readItem 5 = .ok (.invokevirtual 176, 3) := by decide +kernel
theorem dX12_readItem_8 : decode cX12_readItem 8 = .ok (.istore_n 1, 1) := by decide +kernel
theorem dX12_readItem_9 : decode cX12_readItem 9 = .ok (.iload_n 1, 1) := by decide +kernel
theorem dX12_readItem_10 : decode cX12_readItem 10 = .ok (.invokestatic 188, 3) := by decide +kernel
theorem dX12_readItem_13 : decode cX12_readItem 13 = .ok (.istore_n 2, 1) := by decide +kernel
theorem dX12_readItem_14 : decode cX12_readItem 14 = .ok (.aload_n 0, 1) := by decide +kernel
theorem dX12_readItem_15 : decode cX12_readItem 15 = .ok (.aload_n 0, 1) := by decide +kernel
theorem dX12_readItem_16 : decode cX12_readItem 16 = .ok (.getfield 185, 3) := by decide +kernel
theorem dX12_readItem_19 : decode cX12_readItem 19 = .ok (.invokevirtual 179, 3) := by decide +kernel
theorem dX12_readItem_22 : decode cX12_readItem 22 = .ok (.ifCond .ne 9, 3) := by decide +kernel
theorem dX12_readItem_25 : decode cX12_readItem 25 = .ok (.iload_n 1, 1) := by decide +kernel
theorem dX12_readItem_26 : decode cX12_readItem 26 = .ok (.bipush 45, 2) := by decide +kernel
theorem dX12_readItem_28 : decode cX12_readItem 28 = .ok (.if_icmp .ne 7, 3) := by decide +kernel
theorem dX12_readItem_31 : decode cX12_readItem 31 = .ok (.iconst 1, 1) := by decide +kernel
theorem dX12_readItem_32 : decode cX12_readItem 32 = .ok (.goto 4, 3) := by decide +kernel
theorem dX12_readItem_35 : decode cX12_readItem 35 = .ok (.iconst 0, 1) := by decide +kernel
theorem dX12_readItem_36 : decode cX12_readItem 36 = .ok (.istore_n 3, 1) := by decide +kernel
theorem dX12_readItem_37 : decode cX12_readItem 37 = .ok (.iload_n 2, 1) := by decide +kernel
theorem dX12_readItem_38 : decode cX12_readItem 38 = .ok (.ifCond .ne 38, 3) := by decide +kernel
theorem dX12_readItem_41 : decode cX12_readItem 41 = .ok (.aload_n 0, 1) := by decide +kernel
theorem dX12_readItem_42 : decode cX12_readItem 42 = .ok (.iload_n 3, 1) := by decide +kernel
theorem dX12_readItem_43 : decode cX12_readItem 43 = .ok (.ifCond .eq 18, 3) := by decide +kernel
theorem dX12_readItem_46 : decode cX12_readItem 46 = .ok (.aload_n 0, 1) := by decide +kernel
theorem dX12_readItem_47 : decode cX12_readItem 47 = .ok (.aload_n 0, 1) := by decide +kernel
theorem dX12_readItem_48 : decode cX12_readItem 48 = .ok (.getfield 185, 3) := by decide +kernel
theorem dX12_readItem_51 : decode cX12_readItem 51 = .ok (.invokevirtual 191, 3) := by decide +kernel
theorem dX12_readItem_54 : decode cX12_readItem 54 = .ok (.aload_n 0, 1) := by decide +kernel
theorem dX12_readItem_55 : decode cX12_readItem 55 = .ok (.getfield 185, 3) := by decide +kernel
theorem dX12_readItem_58 : decode cX12_readItem 58 = .ok (.if_icmp .gt 9, 3) := by decide +kernel
theorem dX12_readItem_61 : decode cX12_readItem 61 = .ok (.iload_n 1, 1) := by decide +kernel
theorem dX12_readItem_62 : decode cX12_readItem 62 = .ok (.bipush 59, 2) := by decide +kernel
theorem dX12_readItem_64 : decode cX12_readItem 64 = .ok (.if_icmp .ne 7, 3) := by decide +kernel
theorem dX12_readItem_67 : decode cX12_readItem 67 = .ok (.iconst 2, 1) := by decide +kernel
theorem dX12_readItem_68 : decode cX12_readItem 68 = .ok (.goto 4, 3) := by decide +kernel
theorem dX12_readItem_71 : decode cX12_readItem 71 = .ok (.iconst 1, 1) := by decide +kernel
theorem dX12_readItem_72 : decode cX12_readItem 72 = .ok (.invokevirtual 194, 3) := by decide +kernel
theorem dX12_readItem_75 : decode cX12_readItem 75 = .ok (.return_, 1) := by decide +kernel
theorem dX12_readItem_76 : decode cX12_readItem 76 = .ok (.aload_n 0, 1) := by decide +kernel
theorem dX12_readItem_77 : decode cX12_readItem 77 = .ok (.dup, 1) := by decide +kernel
theorem dX12_readItem_78 : decode cX12_readItem 78 = .ok (.getfield 185, 3) := by decide +kernel
theorem dX12_readItem_81 : decode cX12_readItem 81 = .ok (.iconst 1, 1) := by decide +kernel
theorem dX12_readItem_82 : decode cX12_readItem 82 = .ok (.iadd, 1) := by decide +kernel
theorem dX12_readItem_83 : decode cX12_readItem 83 = .ok (.putfield 185, 3) := by decide +kernel
theorem dX12_readItem_86 : decode cX12_readItem 86 = .ok (.iconst 0, 1) := by decide +kernel
theorem dX12_readItem_87 : decode cX12_readItem 87 = .ok (.istore 4, 2) := by decide +kernel
theorem dX12_readItem_89 : decode cX12_readItem 89 = .ok (.iload 4, 2) := by decide +kernel
theorem dX12_readItem_91 : decode cX12_readItem 91 = .ok (.iload_n 2, 1) := by decide +kernel
theorem dX12_readItem_92 : decode cX12_readItem 92 = .ok (.if_icmp .gt 183, 3) := by decide +kernel
theorem dX12_readItem_95 : decode cX12_readItem 95 = .ok (.aload_n 0, 1) := by decide +kernel
theorem dX12_readItem_96 : decode cX12_readItem 96 = .ok (.getfield 182, 3) := by decide +kernel
theorem dX12_readItem_99 : decode cX12_readItem 99 = .ok (.ifCond .ne 176, 3) := by decide +kernel
theorem dX12_readItem_102 : decode cX12_readItem 102 = .ok (.aload_n 0, 1) := by decide +kernel
theorem dX12_readItem_103 : decode cX12_readItem 103 = .ok (.invokevirtual 197, 3) := by decide +kernel
theorem dX12_readItem_106 : decode cX12_readItem 106 = .ok (.aload_n 0, 1) := by decide +kernel
theorem dX12_readItem_107 : decode cX12_readItem 107 = .ok (.aload_n 0, 1) := by decide +kernel
theorem dX12_readItem_108 : decode cX12_readItem 108 = .ok (.getfield 185, 3) := by decide +kernel
theorem dX12_readItem_111 : decode cX12_readItem 111 = .ok (.invokevirtual 176, 3) := by decide +kernel
theorem dX12_readItem_114 : decode cX12_readItem 114 = .ok (.istore 5, 2) := by decide +kernel
theorem dX12_readItem_116 : decode cX12_readItem 116 = .ok (.iload 5, 2) := by decide +kernel
theorem dX12_readItem_118 : decode cX12_readItem 118 = .ok (.bipush (-9), 2) := by decide +kernel
theorem dX12_readItem_120 : decode cX12_readItem 120 = .ok (.if_icmp .ne 11, 3) := by decide +kernel
theorem dX12_readItem_123 : decode cX12_readItem 123 = .ok (.aload_n 0, 1) := by decide +kernel
theorem dX12_readItem_124 : decode cX12_readItem 124 = .ok (.iconst 2, 1) := by decide +kernel
theorem dX12_readItem_125 : decode cX12_readItem 125 = .ok (.invokevirtual 194, 3) := by decide +kernel
theorem dX12_readItem_128 : decode cX12_readItem 128 = .ok (.goto 141, 3) := by decide +kernel
theorem dX12_readItem_131 : decode cX12_readItem 131 = .ok (.aload_n 0, 1) := by decide +kernel
theorem dX12_readItem_132 : decode cX12_readItem 132 = .ok (.aload_n 0, 1) := by decide +kernel
theorem dX12_readItem_133 : decode cX12_readItem 133 = .ok (.getfield 185, 3) := by decide +kernel
theorem dX12_readItem_136 : decode cX12_readItem 136 = .ok (.invokevirtual 179, 3) := by decide +kernel
theorem dX12_readItem_139 : decode cX12_readItem 139 = .ok (.ifCond .ne 10, 3) := by decide +kernel
theorem dX12_readItem_142 : decode cX12_readItem 142 = .ok (.iload 5, 2) := by decide +kernel
theorem dX12_readItem_144 : decode cX12_readItem 144 = .ok (.bipush 45, 2) := by decide +kernel
theorem dX12_readItem_146 : decode cX12_readItem 146 = .ok (.if_icmp .ne 81, 3) := by decide +kernel
theorem dX12_readItem_149 : decode cX12_readItem 149 = .ok (.aload_n 0, 1) := by decide +kernel
theorem dX12_readItem_150 : decode cX12_readItem 150 = .ok (.aload_n 0, 1) := by decide +kernel
theorem dX12_readItem_151 : decode cX12_readItem 151 = .ok (.getfield 185, 3) := by decide +kernel
theorem dX12_readItem_154 : decode cX12_readItem 154 = .ok (.invokevirtual 191, 3) := by decide +kernel
theorem dX12_readItem_157 : decode cX12_readItem 157 = .ok (.istore 6, 2) := by decide +kernel
theorem dX12_readItem_159 : decode cX12_readItem 159 = .ok (.aload_n 0, 1) := by decide +kernel
theorem dX12_readItem_160 : decode cX12_readItem 160 = .ok (.iload 6, 2) := by decide +kernel
theorem dX12_readItem_162 : decode cX12_readItem 162 = .ok (.aload_n 0, 1) := by decide +kernel
theorem dX12_readItem_163 : decode cX12_readItem 163 = .ok (.getfield 185, 3) := by decide +kernel
theorem dX12_readItem_166 : decode cX12_readItem 166 = .ok (.if_icmp .ne 7, 3) := by decide +kernel
theorem dX12_readItem_169 : decode cX12_readItem 169 = .ok (.iconst 1, 1) := by decide +kernel
theorem dX12_readItem_170 : decode cX12_readItem 170 = .ok (.goto 14, 3) := by decide +kernel
theorem dX12_readItem_173 : decode cX12_readItem 173 = .ok (.iload 4, 2) := by decide +kernel
theorem dX12_readItem_175 : decode cX12_readItem 175 = .ok (.iload_n 2, 1) := by decide +kernel
theorem dX12_readItem_176 : decode cX12_readItem 176 = .ok (.if_icmp .ne 7, 3) := by decide +kernel
theorem dX12_readItem_179 : decode cX12_readItem 179 = .ok (.iconst 2, 1) := by decide +kernel
theorem dX12_readItem_180 : decode cX12_readItem 180 = .ok (.goto 4, 3) := by decide +kernel
theorem dX12_readItem_183 : decode cX12_readItem 183 = .ok (.iconst 0, 1) := by decide +kernel
theorem dX12_readItem_184 : decode cX12_readItem 184 = .ok (.invokevirtual 194, 3) := by decide +kernel
theorem dX12_readItem_187 : decode cX12_readItem 187 = .ok (.aload_n 0, 1) := by decide +kernel
theorem dX12_readItem_188 : decode cX12_readItem 188 = .ok (.getfield 41, 3) := by decide +kernel
theorem dX12_readItem_191 : decode cX12_readItem 191 = .ok (.iload 4, 2) := by decide +kernel
theorem dX12_readItem_193 : decode cX12_readItem 193 = .ok (.aload_n 0, 1) := by decide +kernel
theorem dX12_readItem_194 : decode cX12_readItem 194 = .ok (.aload_n 0, 1) := by decide +kernel
theorem dX12_readItem_195 : decode cX12_readItem 195 = .ok (.getfield 185, 3) := by decide +kernel
theorem dX12_readItem_198 : decode cX12_readItem 198 = .ok (.iload 6, 2) := by decide +kernel
theorem dX12_readItem_200 : decode cX12_readItem 200 = .ok (.invokevirtual 200, 3) := by decide +kernel
theorem dX12_readItem_203 : decode cX12_readItem 203 = .ok (.iastore, 1) := by decide +kernel
theorem dX12_readItem_204 : decode cX12_readItem 204 = .ok (.aload_n 0, 1) := by decide +kernel
theorem dX12_readItem_205 : decode cX12_readItem 205 = .ok (.aload_n 0, 1) := by decide +kernel
theorem dX12_readItem_206 : decode cX12_readItem 206 = .ok (.getfield 182, 3) := by decide +kernel
theorem dX12_readItem_209 : decode cX12_readItem 209 = .ok (.ifCond .ne 8, 3) := by decide +kernel
theorem dX12_readItem_212 : decode cX12_readItem 212 = .ok (.iload 6, 2) := by decide +kernel
theorem dX12_readItem_214 : decode cX12_readItem 214 = .ok (.goto 7, 3) := by decide +kernel
theorem dX12_readItem_217 : decode cX12_readItem 217 = .ok (.aload_n 0, 1) := by decide +kernel
theorem dX12_readItem_218 : decode cX12_readItem 218 = .ok (.getfield 185, 3) := by decide +kernel
theorem dX12_readItem_221 : decode cX12_readItem 221 = .ok (.putfield 185, 3) := by decide +kernel
theorem dX12_readItem_224 : decode cX12_readItem 224 = .ok (.goto 45, 3) := by decide +kernel
theorem dX12_readItem_227 : decode cX12_readItem 227 = .ok (.iload 5, 2) := by decide +kernel
theorem dX12_readItem_229 : decode cX12_readItem 229 = .ok (.bipush 59, 2) := by decide +kernel
theorem dX12_readItem_231 : decode cX12_readItem 231 = .ok (.if_icmp .ne 21, 3) := by decide +kernel
theorem dX12_readItem_234 : decode cX12_readItem 234 = .ok (.aload_n 0, 1) := by decide +kernel
theorem dX12_readItem_235 : decode cX12_readItem 235 = .ok (.iload 4, 2) := by decide +kernel
theorem dX12_readItem_237 : decode cX12_readItem 237 = .ok (.iload_n 2, 1) := by decide +kernel
theorem dX12_readItem_238 : decode cX12_readItem 238 = .ok (.if_icmp .ge 7, 3) := by decide +kernel
theorem dX12_readItem_241 : decode cX12_readItem 241 = .ok (.iconst 2, 1) := by decide +kernel
theorem dX12_readItem_242 : decode cX12_readItem 242 = .ok (.goto 4, 3) := by decide +kernel
theorem dX12_readItem_245 : decode cX12_readItem 245 = .ok (.iconst 0, 1) := by decide +kernel
theorem dX12_readItem_246 : decode cX12_readItem 246 = .ok (.invokevirtual 194, 3) := by decide +kernel
theorem dX12_readItem_249 : decode cX12_readItem 249 = .ok (.goto 20, 3) := by decide +kernel
theorem dX12_readItem_252 : decode cX12_readItem 252 = .ok (.aload_n 0, 1) := by decide +kernel
theorem dX12_readItem_253 : decode cX12_readItem 253 = .ok (.iload 5, 2) := by decide +kernel
theorem dX12_readItem_255 : decode cX12_readItem 255 = .ok (.invokestatic 188, 3) := by decide +kernel
theorem dX12_readItem_258 : decode cX12_readItem 258 = .ok (.ifCond .le 7, 3) := by decide +kernel
theorem dX12_readItem_261 : decode cX12_readItem 261 = .ok (.iconst 2, 1) := by decide +kernel
theorem dX12_readItem_262 : decode cX12_readItem 262 = .ok (.goto 4, 3) := by decide +kernel
theorem dX12_readItem_265 : decode cX12_readItem 265 = .ok (.iconst 1, 1) := by decide +kernel
theorem dX12_readItem_266 : decode cX12_readItem 266 = .ok (.invokevirtual 194, 3) := by decide +kernel
theorem dX12_readItem_269 : decode cX12_readItem 269 = .ok (.iinc 4 1, 3) := by decide +kernel
theorem dX12_readItem_272 : decode cX12_readItem 272 = .ok (.goto (-183), 3) := by decide +kernel
theorem dX12_readItem_275 : decode cX12_readItem 275 = .ok (.aload_n 0, 1) := by decide +kernel
theorem dX12_readItem_276 : decode cX12_readItem 276 = .ok (.getfield 182, 3) := by decide +kernel
theorem dX12_readItem_279 : decode cX12_readItem 279 = .ok (.ifCond .ne 49, 3) := by decide +kernel
theorem dX12_readItem_282 : decode cX12_readItem 282 = .ok (.aload_n 0, 1) := by decide +kernel
theorem dX12_readItem_283 : decode cX12_readItem 283 = .ok (.invokevirtual 103, 3) := by decide +kernel
theorem dX12_readItem_286 : decode cX12_readItem 286 = .ok (.aload_n 0, 1) := by decide +kernel
theorem dX12_readItem_287 : decode cX12_readItem 287 = .ok (.iload_n 1, 1) := by decide +kernel
theorem dX12_readItem_288 : decode cX12_readItem 288 = .ok (.invokevirtual 203, 3) := by decide +kernel
theorem dX12_readItem_291 : decode cX12_readItem 291 = .ok (.aload_n 0, 1) := by decide +kernel
theorem dX12_readItem_292 : decode cX12_readItem 292 = .ok (.aload_n 0, 1) := by decide +kernel
theorem dX12_readItem_293 : decode cX12_readItem 293 = .ok (.getfield 95, 3) := by decide +kernel
theorem dX12_readItem_296 : decode cX12_readItem 296 = .ok (.ifCond .eq 7, 3) := by decide +kernel
theorem dX12_readItem_299 : decode cX12_readItem 299 = .ok (.iconst 3, 1) := by decide +kernel
theorem dX12_readItem_300 : decode cX12_readItem 300 = .ok (.goto 4, 3) := by decide +kernel
theorem dX12_readItem_303 : decode cX12_readItem 303 = .ok (.iconst 0, 1) := by decide +kernel
theorem dX12_readItem_304 : decode cX12_readItem 304 = .ok (.invokevirtual 194, 3) := by decide +kernel
theorem dX12_readItem_307 : decode cX12_readItem 307 = .ok (.aload_n 0, 1) := by decide +kernel
theorem dX12_readItem_308 : decode cX12_readItem 308 = .ok (.dup, 1) := by decide +kernel
theorem dX12_readItem_309 : decode cX12_readItem 309 = .ok (.getfield 185, 3) := by decide +kernel
theorem dX12_readItem_312 : decode cX12_readItem 312 = .ok (.aload_n 0, 1) := by decide +kernel
theorem dX12_readItem_313 : decode cX12_readItem 313 = .ok (.getfield 182, 3) := by decide +kernel
theorem dX12_readItem_316 : decode cX12_readItem 316 = .ok (.ifCond .ne 7, 3) := by decide +kernel
theorem dX12_readItem_319 : decode cX12_readItem 319 = .ok (.iconst 1, 1) := by decide +kernel
theorem dX12_readItem_320 : decode cX12_readItem 320 = .ok (.goto 4, 3) := by decide +kernel
theorem dX12_readItem_323 : decode cX12_readItem 323 = .ok (.iconst 0, 1) := by decide +kernel
theorem dX12_readItem_324 : decode cX12_readItem 324 = .ok (.iadd, 1) := by decide +kernel
theorem dX12_readItem_325 : decode cX12_readItem 325 = .ok (.putfield 185, 3) := by decide +kernel
theorem dX12_readItem_328 : decode cX12_readItem 328 = .ok (.return_, 1) := by decide +kernel
theorem dX12_carryOut_0 : decode cX12_carryOut 0 = .ok (.iload_n 1, 1) := by decide +kernel
theorem dX12_carryOut_1 : decode cX12_carryOut 1 = .ok (.lookupswitch 246 #[(98, 71), (102, 181), (105, 220), (112, 103), (115, 51)], 51) := by decide +kernel
theorem dX12_carryOut_52 : decode cX12_carryOut 52 = .ok (.aload_n 0, 1) := by decide +kernel
theorem dX12_carryOut_53 : decode cX12_carryOut 53 = .ok (.aload_n 0, 1) := by decide +kernel
theorem dX12_carryOut_54 : decode cX12_carryOut 54 = .ok (.getfield 41, 3) := by decide +kernel
theorem dX12_carryOut_57 : decode cX12_carryOut 57 = .ok (.iconst 0, 1) := by decide +kernel
theorem dX12_carryOut_58 : decode cX12_carryOut 58 = .ok (.iaload, 1) := by decide +kernel
theorem dX12_carryOut_59 : decode cX12_carryOut 59 = .ok (.aload_n 0, 1) := by decide +kernel
theorem dX12_carryOut_60 : decode cX12_carryOut 60 = .ok (.getfield 41, 3) := by decide +kernel
theorem dX12_carryOut_63 : decode cX12_carryOut 63 = .ok (.iconst 1, 1) := by decide +kernel
theorem dX12_carryOut_64 : decode cX12_carryOut 64 = .ok (.iaload, 1) := by decide +kernel
theorem dX12_carryOut_65 : decode cX12_carryOut 65 = .ok (.invokevirtual 152, 3) := by decide +kernel
theorem dX12_carryOut_68 : decode cX12_carryOut 68 = .ok (.pop, 1) := by decide +kernel
theorem dX12_carryOut_69 : decode cX12_carryOut 69 = .ok (.goto 213, 3) := by decide +kernel
theorem dX12_carryOut_72 : decode cX12_carryOut 72 = .ok (.aload_n 0, 1) := by decide +kernel
theorem dX12_carryOut_73 : decode cX12_carryOut 73 = .ok (.aload_n 0, 1) := by decide +kernel
theorem dX12_carryOut_74 : decode cX12_carryOut 74 = .ok (.getfield 41, 3) := by decide +kernel
theorem dX12_carryOut_77 : decode cX12_carryOut 77 = .ok (.iconst 0, 1) := by decide +kernel
theorem dX12_carryOut_78 : decode cX12_carryOut 78 = .ok (.iaload, 1) := by decide +kernel
theorem dX12_carryOut_79 : decode cX12_carryOut 79 = .ok (.aload_n 0, 1) := by decide +kernel
theorem dX12_carryOut_80 : decode cX12_carryOut 80 = .ok (.getfield 41, 3) := by decide +kernel
theorem dX12_carryOut_83 : decode cX12_carryOut 83 = .ok (.iconst 1, 1) := by decide +kernel
theorem dX12_carryOut_84 : decode cX12_carryOut 84 = .ok (.iaload, 1) := by decide +kernel
theorem dX12_carryOut_85 : decode cX12_carryOut 85 = .ok (.aload_n 0, 1) := by decide +kernel
theorem dX12_carryOut_86 : decode cX12_carryOut 86 = .ok (.getfield 41, 3) := by decide +kernel
theorem dX12_carryOut_89 : decode cX12_carryOut 89 = .ok (.iconst 2, 1) := by decide +kernel
theorem dX12_carryOut_90 : decode cX12_carryOut 90 = .ok (.iaload, 1) := by decide +kernel
theorem dX12_carryOut_91 : decode cX12_carryOut 91 = .ok (.aload_n 0, 1) := by decide +kernel
theorem dX12_carryOut_92 : decode cX12_carryOut 92 = .ok (.getfield 41, 3) := by decide +kernel
theorem dX12_carryOut_95 : decode cX12_carryOut 95 = .ok (.iconst 3, 1) := by decide +kernel
theorem dX12_carryOut_96 : decode cX12_carryOut 96 = .ok (.iaload, 1) := by decide +kernel
theorem dX12_carryOut_97 : decode cX12_carryOut 97 = .ok (.invokevirtual 155, 3) := by decide +kernel
theorem dX12_carryOut_100 : decode cX12_carryOut 100 = .ok (.pop, 1) := by decide +kernel
theorem dX12_carryOut_101 : decode cX12_carryOut 101 = .ok (.goto 181, 3) := by decide +kernel
theorem dX12_carryOut_104 : decode cX12_carryOut 104 = .ok (.aload_n 0, 1) := by decide +kernel
theorem dX12_carryOut_105 : decode cX12_carryOut 105 = .ok (.aload_n 0, 1) := by decide +kernel
theorem dX12_carryOut_106 : decode cX12_carryOut 106 = .ok (.getfield 41, 3) := by decide +kernel
theorem dX12_carryOut_109 : decode cX12_carryOut 109 = .ok (.iconst 0, 1) := by decide +kernel
theorem dX12_carryOut_110 : decode cX12_carryOut 110 = .ok (.iaload, 1) := by decide +kernel
theorem dX12_carryOut_111 : decode cX12_carryOut 111 = .ok (.aload_n 0, 1) := by decide +kernel
theorem dX12_carryOut_112 : decode cX12_carryOut 112 = .ok (.getfield 41, 3) := by decide +kernel
theorem dX12_carryOut_115 : decode cX12_carryOut 115 = .ok (.iconst 1, 1) := by decide +kernel
theorem dX12_carryOut_116 : decode cX12_carryOut 116 = .ok (.iaload, 1) := by decide +kernel
theorem dX12_carryOut_117 : decode cX12_carryOut 117 = .ok (.aload_n 0, 1) := by decide +kernel
theorem dX12_carryOut_118 : decode cX12_carryOut 118 = .ok (.getfield 41, 3) := by decide +kernel
theorem dX12_carryOut_121 : decode cX12_carryOut 121 = .ok (.iconst 2, 1) := by decide +kernel
theorem dX12_carryOut_122 : decode cX12_carryOut 122 = .ok (.iaload, 1) := by decide +kernel
theorem dX12_carryOut_123 : decode cX12_carryOut 123 = .ok (.aload_n 0, 1) := by decide +kernel
theorem dX12_carryOut_124 : decode cX12_carryOut 124 = .ok (.getfield 41, 3) := by decide +kernel
theorem dX12_carryOut_127 : decode cX12_carryOut 127 = .ok (.iconst 3, 1) := by decide +kernel
theorem dX12_carryOut_128 : decode cX12_carryOut 128 = .ok (.iaload, 1) := by decide +kernel
theorem dX12_carryOut_129 : decode cX12_carryOut 129 = .ok (.aload_n 0, 1) := by decide +kernel
theorem dX12_carryOut_130 : decode cX12_carryOut 130 = .ok (.getfield 41, 3) := by decide +kernel
theorem dX12_carryOut_133 : decode cX12_carryOut 133 = .ok (.iconst 4, 1) := by decide +kernel
theorem dX12_carryOut_134 : decode cX12_carryOut 134 = .ok (.iaload, 1) := by decide +kernel
theorem dX12_carryOut_135 : decode cX12_carryOut 135 = .ok (.aload_n 0, 1) := by decide +kernel
theorem dX12_carryOut_136 : decode cX12_carryOut 136 = .ok (.getfield 41, 3) := by decide +kernel
theorem dX12_carryOut_139 : decode cX12_carryOut 139 = .ok (.iconst 5, 1) := by decide +kernel
theorem dX12_carryOut_140 : decode cX12_carryOut 140 = .ok (.iaload, 1) := by decide +kernel
theorem dX12_carryOut_141 : decode cX12_carryOut 141 = .ok (.iconst 0, 1) := by decide +kernel
theorem dX12_carryOut_142 : decode cX12_carryOut 142 = .ok (.iconst 3, 1) := by decide +kernel
theorem dX12_carryOut_143 : decode cX12_carryOut 143 = .ok (.invokestatic 87, 3) := by decide +kernel
theorem dX12_carryOut_146 : decode cX12_carryOut 146 = .ok (.ifCond .eq 26, 3) := by decide +kernel
theorem dX12_carryOut_149 : decode cX12_carryOut 149 = .ok (.aload_n 0, 1) := by decide +kernel
theorem dX12_carryOut_150 : decode cX12_carryOut 150 = .ok (.getfield 41, 3) := by decide +kernel
theorem dX12_carryOut_153 : decode cX12_carryOut 153 = .ok (.iconst 5, 1) := by decide +kernel
theorem dX12_carryOut_154 : decode cX12_carryOut 154 = .ok (.iaload, 1) := by decide +kernel
theorem dX12_carryOut_155 : decode cX12_carryOut 155 = .ok (.iconst 3, 1) := by decide +kernel
theorem dX12_carryOut_156 : decode cX12_carryOut 156 = .ok (.if_icmp .ne 7, 3) := by decide +kernel
theorem dX12_carryOut_159 : decode cX12_carryOut 159 = .ok (.iconst (-1), 1) := by decide +kernel
theorem dX12_carryOut_160 : decode cX12_carryOut 160 = .ok (.goto 15, 3) := by decide +kernel
theorem dX12_carryOut_163 : decode cX12_carryOut 163 = .ok (.aload_n 0, 1) := by decide +kernel
theorem dX12_carryOut_164 : decode cX12_carryOut 164 = .ok (.getfield 41, 3) := by decide +kernel
theorem dX12_carryOut_167 : decode cX12_carryOut 167 = .ok (.iconst 5, 1) := by decide +kernel
theorem dX12_carryOut_168 : decode cX12_carryOut 168 = .ok (.iaload, 1) := by decide +kernel
theorem dX12_carryOut_169 : decode cX12_carryOut 169 = .ok (.goto 6, 3) := by decide +kernel
theorem dX12_carryOut_172 : decode cX12_carryOut 172 = .ok (.sipush 300, 3) := by decide +kernel
theorem dX12_carryOut_175 : decode cX12_carryOut 175 = .ok (.invokevirtual 158, 3) := by decide +kernel
theorem dX12_carryOut_178 : decode cX12_carryOut 178 = .ok (.pop, 1) := by decide +kernel
theorem dX12_carryOut_179 : decode cX12_carryOut 179 = .ok (.goto 103, 3) := by decide +kernel
theorem dX12_carryOut_182 : decode cX12_carryOut 182 = .ok (.aload_n 0, 1) := by decide +kernel
theorem dX12_carryOut_183 : decode cX12_carryOut 183 = .ok (.aload_n 0, 1) := by decide +kernel
theorem dX12_carryOut_184 : decode cX12_carryOut 184 = .ok (.getfield 41, 3) := by decide +kernel
theorem dX12_carryOut_187 : decode cX12_carryOut 187 = .ok (.iconst 0, 1) := by decide +kernel
theorem dX12_carryOut_188 : decode cX12_carryOut 188 = .ok (.iaload, 1) := by decide +kernel
theorem dX12_carryOut_189 : decode cX12_carryOut 189 = .ok (.aload_n 0, 1) := by decide +kernel
theorem dX12_carryOut_190 : decode cX12_carryOut 190 = .ok (.aload_n 0, 1) := by decide +kernel
theorem dX12_carryOut_191 : decode cX12_carryOut 191 = .ok (.getfield 41, 3) := by decide +kernel
theorem dX12_carryOut_194 : decode cX12_carryOut 194 = .ok (.iconst 1, 1) := by decide +kernel
theorem dX12_carryOut_195 : decode cX12_carryOut 195 = .ok (.iaload, 1) := by decide +kernel
theorem dX12_carryOut_196 : decode cX12_carryOut 196 = .ok (.invokevirtual 145, 3) := by decide +kernel
theorem dX12_carryOut_199 : decode cX12_carryOut 199 = .ok (.ifCond .eq 12, 3) := by decide +kernel
theorem dX12_carryOut_202 : decode cX12_carryOut 202 = .ok (.aload_n 0, 1) := by decide +kernel
theorem dX12_carryOut_203 : decode cX12_carryOut 203 = .ok (.getfield 41, 3) := by decide +kernel
theorem dX12_carryOut_206 : decode cX12_carryOut 206 = .ok (.iconst 1, 1) := by decide +kernel
theorem dX12_carryOut_207 : decode cX12_carryOut 207 = .ok (.iaload, 1) := by decide +kernel
theorem dX12_carryOut_208 : decode cX12_carryOut 208 = .ok (.goto 6, 3) := by decide +kernel
theorem dX12_carryOut_211 : decode cX12_carryOut 211 = .ok (.sipush 300, 3) := by decide +kernel
theorem dX12_carryOut_214 : decode cX12_carryOut 214 = .ok (.invokevirtual 162, 3) := by decide +kernel
theorem dX12_carryOut_217 : decode cX12_carryOut 217 = .ok (.pop, 1) := by decide +kernel
theorem dX12_carryOut_218 : decode cX12_carryOut 218 = .ok (.goto 64, 3) := by decide +kernel
theorem dX12_carryOut_221 : decode cX12_carryOut 221 = .ok (.aload_n 0, 1) := by decide +kernel
theorem dX12_carryOut_222 : decode cX12_carryOut 222 = .ok (.aload_n 0, 1) := by decide +kernel
theorem dX12_carryOut_223 : decode cX12_carryOut 223 = .ok (.getfield 41, 3) := by decide +kernel
theorem dX12_carryOut_226 : decode cX12_carryOut 226 = .ok (.iconst 0, 1) := by decide +kernel
theorem dX12_carryOut_227 : decode cX12_carryOut 227 = .ok (.iaload, 1) := by decide +kernel
theorem dX12_carryOut_228 : decode cX12_carryOut 228 = .ok (.aload_n 0, 1) := by decide +kernel
theorem dX12_carryOut_229 : decode cX12_carryOut 229 = .ok (.getfield 41, 3) := by decide +kernel
theorem dX12_carryOut_232 : decode cX12_carryOut 232 = .ok (.iconst 1, 1) := by decide +kernel
theorem dX12_carryOut_233 : decode cX12_carryOut 233 = .ok (.iaload, 1) := by decide +kernel
theorem dX12_carryOut_234 : decode cX12_carryOut 234 = .ok (.aload_n 0, 1) := by decide +kernel
theorem dX12_carryOut_235 : decode cX12_carryOut 235 = .ok (.getfield 41, 3) := by decide +kernel
theorem dX12_carryOut_238 : decode cX12_carryOut 238 = .ok (.iconst 2, 1) := by decide +kernel
theorem dX12_carryOut_239 : decode cX12_carryOut 239 = .ok (.iaload, 1) := by decide +kernel
theorem dX12_carryOut_240 : decode cX12_carryOut 240 = .ok (.invokevirtual 165, 3) := by decide +kernel
theorem dX12_carryOut_243 : decode cX12_carryOut 243 = .ok (.pop, 1) := by decide +kernel
theorem dX12_carryOut_244 : decode cX12_carryOut 244 = .ok (.goto 38, 3) := by decide +kernel
theorem dX12_carryOut_247 : decode cX12_carryOut 247 = .ok (.aload_n 0, 1) := by decide +kernel
theorem dX12_carryOut_248 : decode cX12_carryOut 248 = .ok (.aload_n 0, 1) := by decide +kernel
theorem dX12_carryOut_249 : decode cX12_carryOut 249 = .ok (.getfield 41, 3) := by decide +kernel
theorem dX12_carryOut_252 : decode cX12_carryOut 252 = .ok (.iconst 0, 1) := by decide +kernel
theorem dX12_carryOut_253 : decode cX12_carryOut 253 = .ok (.iaload, 1) := by decide +kernel
theorem dX12_carryOut_254 : decode cX12_carryOut 254 = .ok (.aload_n 0, 1) := by decide +kernel
theorem dX12_carryOut_255 : decode cX12_carryOut 255 = .ok (.getfield 41, 3) := by decide +kernel
theorem dX12_carryOut_258 : decode cX12_carryOut 258 = .ok (.iconst 1, 1) := by decide +kernel
theorem dX12_carryOut_259 : decode cX12_carryOut 259 = .ok (.iaload, 1) := by decide +kernel
theorem dX12_carryOut_260 : decode cX12_carryOut 260 = .ok (.aload_n 0, 1) := by decide +kernel
theorem dX12_carryOut_261 : decode cX12_carryOut 261 = .ok (.getfield 41, 3) := by decide +kernel
theorem dX12_carryOut_264 : decode cX12_carryOut 264 = .ok (.iconst 2, 1) := by decide +kernel
theorem dX12_carryOut_265 : decode cX12_carryOut 265 = .ok (.iaload, 1) := by decide +kernel
theorem dX12_carryOut_266 : decode cX12_carryOut 266 = .ok (.aload_n 0, 1) := by decide +kernel
theorem dX12_carryOut_267 : decode cX12_carryOut 267 = .ok (.getfield 41, 3) := by decide +kernel
theorem dX12_carryOut_270 : decode cX12_carryOut 270 = .ok (.iconst 3, 1) := by decide +kernel
theorem dX12_carryOut_271 : decode cX12_carryOut 271 = .ok (.iaload, 1) := by decide +kernel
theorem dX12_carryOut_272 : decode cX12_carryOut 272 = .ok (.aload_n 0, 1) := by decide +kernel
theorem dX12_carryOut_273 : decode cX12_carryOut 273 = .ok (.getfield 41, 3) := by decide +kernel
theorem dX12_carryOut_276 : decode cX12_carryOut 276 = .ok (.iconst 4, 1) := by decide +kernel
theorem dX12_carryOut_277 : decode cX12_carryOut 277 = .ok (.iaload, 1) := by decide +kernel
theorem dX12_carryOut_278 : decode cX12_carryOut 278 = .ok (.invokevirtual 169, 3) := by decide +kernel
theorem dX12_carryOut_281 : decode cX12_carryOut 281 = .ok (.pop, 1) := by decide +kernel
theorem dX12_carryOut_282 : decode cX12_carryOut 282 = .ok (.return_, 1) := by decide +kernel
theorem dX12_load_0 : decode cX12_load 0 = .ok (.iconst 0, 1) := by decide +kernel
theorem dX12_load_1 : decode cX12_load 1 = .ok (.istore_n 1, 1) := by decide +kernel
theorem dX12_load_2 : decode cX12_load 2 = .ok (.iload_n 1, 1) := by decide +kernel
theorem dX12_load_3 : decode cX12_load 3 = .ok (.sipush 137, 3) := by decide +kernel
theorem dX12_load_6 : decode cX12_load 6 = .ok (.if_icmp .ge 21, 3) := by decide +kernel
theorem dX12_load_9 : decode cX12_load 9 = .ok (.aload_n 0, 1) := by decide +kernel
theorem dX12_load_10 : decode cX12_load 10 = .ok (.getfield 44, 3) := by decide +kernel
theorem dX12_load_13 : decode cX12_load 13 = .ok (.iload_n 1, 1) := by decide +kernel
theorem dX12_load_14 : decode cX12_load 14 = .ok (.aload_n 0, 1) := by decide +kernel
theorem dX12_load_15 : decode cX12_load 15 = .ok (.getfield 7, 3) := by decide +kernel
theorem dX12_load_18 : decode cX12_load 18 = .ok (.iload_n 1, 1) := by decide +kernel
theorem dX12_load_19 : decode cX12_load 19 = .ok (.iaload, 1) := by decide +kernel
theorem dX12_load_20 : decode cX12_load 20 = .ok (.iastore, 1) := by decide +kernel
theorem dX12_load_21 : decode cX12_load 21 = .ok (.iinc 1 1, 3) := by decide +kernel
theorem dX12_load_24 : decode cX12_load 24 = .ok (.goto (-22), 3) := by decide +kernel
theorem dX12_load_27 : decode cX12_load 27 = .ok (.aload_n 0, 1) := by decide +kernel
theorem dX12_load_28 : decode cX12_load 28 = .ok (.invokevirtual 80, 3) := by decide +kernel
theorem dX12_load_31 : decode cX12_load 31 = .ok (.aload_n 0, 1) := by decide +kernel
theorem dX12_load_32 : decode cX12_load 32 = .ok (.iconst 0, 1) := by decide +kernel
theorem dX12_load_33 : decode cX12_load 33 = .ok (.putfield 182, 3) := by decide +kernel
theorem dX12_load_36 : decode cX12_load 36 = .ok (.aload_n 0, 1) := by decide +kernel
theorem dX12_load_37 : decode cX12_load 37 = .ok (.iconst 0, 1) := by decide +kernel
theorem dX12_load_38 : decode cX12_load 38 = .ok (.putfield 185, 3) := by decide +kernel
theorem dX12_load_41 : decode cX12_load 41 = .ok (.iconst 0, 1) := by decide +kernel
theorem dX12_load_42 : decode cX12_load 42 = .ok (.istore_n 1, 1) := by decide +kernel
theorem dX12_load_43 : decode cX12_load 43 = .ok (.aload_n 0, 1) := by decide +kernel
theorem dX12_load_44 : decode cX12_load 44 = .ok (.invokevirtual 197, 3) := by decide +kernel
theorem dX12_load_47 : decode cX12_load 47 = .ok (.aload_n 0, 1) := by decide +kernel
theorem dX12_load_48 : decode cX12_load 48 = .ok (.getfield 182, 3) := by decide +kernel
theorem dX12_load_51 : decode cX12_load 51 = .ok (.ifCond .ne 35, 3) := by decide +kernel
theorem dX12_load_54 : decode cX12_load 54 = .ok (.aload_n 0, 1) := by decide +kernel
theorem dX12_load_55 : decode cX12_load 55 = .ok (.getfield 185, 3) := by decide +kernel
theorem dX12_load_58 : decode cX12_load 58 = .ok (.aload_n 0, 1) := by decide +kernel
theorem dX12_load_59 : decode cX12_load 59 = .ok (.getfield 173, 3) := by decide +kernel
theorem dX12_load_62 : decode cX12_load 62 = .ok (.if_icmp .ge 24, 3) := by decide +kernel
theorem dX12_load_65 : decode cX12_load 65 = .ok (.aload_n 0, 1) := by decide +kernel
theorem dX12_load_66 : decode cX12_load 66 = .ok (.invokevirtual 206, 3) := by decide +kernel
theorem dX12_load_69 : decode cX12_load 69 = .ok (.iinc 1 1, 3) := by decide +kernel
theorem dX12_load_72 : decode cX12_load 72 = .ok (.aload_n 0, 1) := by decide +kernel
theorem dX12_load_73 : decode cX12_load 73 = .ok (.getfield 182, 3) := by decide +kernel
theorem dX12_load_76 : decode cX12_load 76 = .ok (.ifCond .ne (-29), 3) := by decide +kernel
theorem dX12_load_79 : decode cX12_load 79 = .ok (.aload_n 0, 1) := by decide +kernel
theorem dX12_load_80 : decode cX12_load 80 = .ok (.invokevirtual 197, 3) := by decide +kernel
theorem dX12_load_83 : decode cX12_load 83 = .ok (.goto (-36), 3) := by decide +kernel
theorem dX12_load_86 : decode cX12_load 86 = .ok (.aload_n 0, 1) := by decide +kernel
theorem dX12_load_87 : decode cX12_load 87 = .ok (.getfield 182, 3) := by decide +kernel
theorem dX12_load_90 : decode cX12_load 90 = .ok (.ifCond .le 38, 3) := by decide +kernel
theorem dX12_load_93 : decode cX12_load 93 = .ok (.iconst 0, 1) := by decide +kernel
theorem dX12_load_94 : decode cX12_load 94 = .ok (.istore_n 2, 1) := by decide +kernel
theorem dX12_load_95 : decode cX12_load 95 = .ok (.iload_n 2, 1) := by decide +kernel
theorem dX12_load_96 : decode cX12_load 96 = .ok (.sipush 137, 3) := by decide +kernel
theorem dX12_load_99 : decode cX12_load 99 = .ok (.if_icmp .ge 21, 3) := by decide +kernel
theorem dX12_load_102 : decode cX12_load 102 = .ok (.aload_n 0, 1) := by decide +kernel
theorem dX12_load_103 : decode cX12_load 103 = .ok (.getfield 7, 3) := by decide +kernel
theorem dX12_load_106 : decode cX12_load 106 = .ok (.iload_n 2, 1) := by decide +kernel
theorem dX12_load_107 : decode cX12_load 107 = .ok (.aload_n 0, 1) := by decide +kernel
theorem dX12_load_108 : decode cX12_load 108 = .ok (.getfield 44, 3) := by decide +kernel
theorem dX12_load_111 : decode cX12_load 111 = .ok (.iload_n 2, 1) := by decide +kernel
theorem dX12_load_112 : decode cX12_load 112 = .ok (.iaload, 1) := by decide +kernel
theorem dX12_load_113 : decode cX12_load 113 = .ok (.iastore, 1) := by decide +kernel
theorem dX12_load_114 : decode cX12_load 114 = .ok (.iinc 2 1, 3) := by decide +kernel
theorem dX12_load_117 : decode cX12_load 117 = .ok (.goto (-22), 3) := by decide +kernel
theorem dX12_load_120 : decode cX12_load 120 = .ok (.bipush (-10), 2) := by decide +kernel
theorem dX12_load_122 : decode cX12_load 122 = .ok (.aload_n 0, 1) := by decide +kernel
theorem dX12_load_123 : decode cX12_load 123 = .ok (.getfield 185, 3) := by decide +kernel
theorem dX12_load_126 : decode cX12_load 126 = .ok (.isub, 1) := by decide +kernel
theorem dX12_load_127 : decode cX12_load 127 = .ok (.ireturn, 1) := by decide +kernel
theorem dX12_load_128 : decode cX12_load 128 = .ok (.aload_n 0, 1) := by decide +kernel
theorem dX12_load_129 : decode cX12_load 129 = .ok (.iconst 0, 1) := by decide +kernel
theorem dX12_load_130 : decode cX12_load 130 = .ok (.putfield 99, 3) := by decide +kernel
theorem dX12_load_133 : decode cX12_load 133 = .ok (.iload_n 1, 1) := by decide +kernel
theorem dX12_load_134 : decode cX12_load 134 = .ok (.ireturn, 1) := by decide +kernel
theorem dX12_faultKind_0 : decode cX12_faultKind 0 = .ok (.aload_n 0, 1) := by decide +kernel
theorem dX12_faultKind_1 : decode cX12_faultKind 1 = .ok (.getfield 182, 3) := by decide +kernel
theorem dX12_faultKind_4 : decode cX12_faultKind 4 = .ok (.ireturn, 1) := by decide +kernel
theorem dX12_layBase_0 : decode cX12_layBase 0 = .ok (.iconst 0, 1) := by decide +kernel
theorem dX12_layBase_1 : decode cX12_layBase 1 = .ok (.istore_n 1, 1) := by decide +kernel
theorem dX12_layBase_2 : decode cX12_layBase 2 = .ok (.iload_n 1, 1) := by decide +kernel
theorem dX12_layBase_3 : decode cX12_layBase 3 = .ok (.iconst 3, 1) := by decide +kernel
theorem dX12_layBase_4 : decode cX12_layBase 4 = .ok (.if_icmp .ge 90, 3) := by decide +kernel
theorem dX12_layBase_7 : decode cX12_layBase 7 = .ok (.aload_n 0, 1) := by decide +kernel
theorem dX12_layBase_8 : decode cX12_layBase 8 = .ok (.getfield 47, 3) := by decide +kernel
theorem dX12_layBase_11 : decode cX12_layBase 11 = .ok (.iload_n 1, 1) := by decide +kernel
theorem dX12_layBase_12 : decode cX12_layBase 12 = .ok (.iload_n 1, 1) := by decide +kernel
theorem dX12_layBase_13 : decode cX12_layBase 13 = .ok (.ifCond .ne 12, 3) := by decide +kernel
theorem dX12_layBase_16 : decode cX12_layBase 16 = .ok (.aload_n 0, 1) := by decide +kernel
theorem dX12_layBase_17 : decode cX12_layBase 17 = .ok (.getfield 26, 3) := by decide +kernel
theorem dX12_layBase_20 : decode cX12_layBase 20 = .ok (.iconst 0, 1) := by decide +kernel
theorem dX12_layBase_21 : decode cX12_layBase 21 = .ok (.iaload, 1) := by decide +kernel
theorem dX12_layBase_22 : decode cX12_layBase 22 = .ok (.goto 18, 3) := by decide +kernel
theorem dX12_layBase_25 : decode cX12_layBase 25 = .ok (.iload_n 1, 1) := by decide +kernel
theorem dX12_layBase_26 : decode cX12_layBase 26 = .ok (.iconst 1, 1) := by decide +kernel
theorem dX12_layBase_27 : decode cX12_layBase 27 = .ok (.if_icmp .ne 12, 3) := by decide +kernel
theorem dX12_layBase_30 : decode cX12_layBase 30 = .ok (.aload_n 0, 1) := by decide +kernel
theorem dX12_layBase_31 : decode cX12_layBase 31 = .ok (.getfield 29, 3) := by decide +kernel
theorem dX12_layBase_34 : decode cX12_layBase 34 = .ok (.iconst 0, 1) := by decide +kernel
theorem dX12_layBase_35 : decode cX12_layBase 35 = .ok (.iaload, 1) := by decide +kernel
theorem dX12_layBase_36 : decode cX12_layBase 36 = .ok (.goto 4, 3) := by decide +kernel
theorem dX12_layBase_39 : decode cX12_layBase 39 = .ok (.iconst 0, 1) := by decide +kernel
theorem dX12_layBase_40 : decode cX12_layBase 40 = .ok (.iastore, 1) := by decide +kernel
theorem dX12_layBase_41 : decode cX12_layBase 41 = .ok (.aload_n 0, 1) := by decide +kernel
theorem dX12_layBase_42 : decode cX12_layBase 42 = .ok (.getfield 50, 3) := by decide +kernel
theorem dX12_layBase_45 : decode cX12_layBase 45 = .ok (.iload_n 1, 1) := by decide +kernel
theorem dX12_layBase_46 : decode cX12_layBase 46 = .ok (.iload_n 1, 1) := by decide +kernel
theorem dX12_layBase_47 : decode cX12_layBase 47 = .ok (.ifCond .ne 7, 3) := by decide +kernel
theorem dX12_layBase_50 : decode cX12_layBase 50 = .ok (.iconst 1, 1) := by decide +kernel
theorem dX12_layBase_51 : decode cX12_layBase 51 = .ok (.goto 4, 3) := by decide +kernel
theorem dX12_layBase_54 : decode cX12_layBase 54 = .ok (.iconst 0, 1) := by decide +kernel
theorem dX12_layBase_55 : decode cX12_layBase 55 = .ok (.iastore, 1) := by decide +kernel
theorem dX12_layBase_56 : decode cX12_layBase 56 = .ok (.aload_n 0, 1) := by decide +kernel
theorem dX12_layBase_57 : decode cX12_layBase 57 = .ok (.getfield 53, 3) := by decide +kernel
theorem dX12_layBase_60 : decode cX12_layBase 60 = .ok (.iload_n 1, 1) := by decide +kernel
theorem dX12_layBase_61 : decode cX12_layBase 61 = .ok (.iload_n 1, 1) := by decide +kernel
theorem dX12_layBase_62 : decode cX12_layBase 62 = .ok (.iconst 1, 1) := by decide +kernel
theorem dX12_layBase_63 : decode cX12_layBase 63 = .ok (.if_icmp .ne 7, 3) := by decide +kernel
theorem dX12_layBase_66 : decode cX12_layBase 66 = .ok (.iconst 1, 1) := by decide +kernel
theorem dX12_layBase_67 : decode cX12_layBase 67 = .ok (.goto 4, 3) := by decide +kernel
theorem dX12_layBase_70 : decode cX12_layBase 70 = .ok (.iconst 0, 1) := by decide +kernel
theorem dX12_layBase_71 : decode cX12_layBase 71 = .ok (.iastore, 1) := by decide +kernel
theorem dX12_layBase_72 : decode cX12_layBase 72 = .ok (.aload_n 0, 1) := by decide +kernel
theorem dX12_layBase_73 : decode cX12_layBase 73 = .ok (.getfield 56, 3) := by decide +kernel
theorem dX12_layBase_76 : decode cX12_layBase 76 = .ok (.iload_n 1, 1) := by decide +kernel
theorem dX12_layBase_77 : decode cX12_layBase 77 = .ok (.iload_n 1, 1) := by decide +kernel
theorem dX12_layBase_78 : decode cX12_layBase 78 = .ok (.iconst 2, 1) := by decide +kernel
theorem dX12_layBase_79 : decode cX12_layBase 79 = .ok (.if_icmp .ne 7, 3) := by decide +kernel
theorem dX12_layBase_82 : decode cX12_layBase 82 = .ok (.iconst 1, 1) := by decide +kernel
theorem dX12_layBase_83 : decode cX12_layBase 83 = .ok (.goto 4, 3) := by decide +kernel
theorem dX12_layBase_86 : decode cX12_layBase 86 = .ok (.iconst 0, 1) := by decide +kernel
theorem dX12_layBase_87 : decode cX12_layBase 87 = .ok (.iastore, 1) := by decide +kernel
theorem dX12_layBase_88 : decode cX12_layBase 88 = .ok (.iinc 1 1, 3) := by decide +kernel
theorem dX12_layBase_91 : decode cX12_layBase 91 = .ok (.goto (-89), 3) := by decide +kernel
theorem dX12_layBase_94 : decode cX12_layBase 94 = .ok (.return_, 1) := by decide +kernel
theorem dX12_layHung_0 : decode cX12_layHung 0 = .ok (.aload_n 0, 1) := by decide +kernel
theorem dX12_layHung_1 : decode cX12_layHung 1 = .ok (.iload_n 1, 1) := by decide +kernel
theorem dX12_layHung_2 : decode cX12_layHung 2 = .ok (.iconst 0, 1) := by decide +kernel
theorem dX12_layHung_3 : decode cX12_layHung 3 = .ok (.invokevirtual 91, 3) := by decide +kernel
theorem dX12_layHung_6 : decode cX12_layHung 6 = .ok (.istore_n 3, 1) := by decide +kernel
theorem dX12_layHung_7 : decode cX12_layHung 7 = .ok (.aload_n 0, 1) := by decide +kernel
theorem dX12_layHung_8 : decode cX12_layHung 8 = .ok (.iload_n 1, 1) := by decide +kernel
theorem dX12_layHung_9 : decode cX12_layHung 9 = .ok (.iconst 1, 1) := by decide +kernel
theorem dX12_layHung_10 : decode cX12_layHung 10 = .ok (.invokevirtual 91, 3) := by decide +kernel
theorem dX12_layHung_13 : decode cX12_layHung 13 = .ok (.istore 4, 2) := by decide +kernel
theorem dX12_layHung_15 : decode cX12_layHung 15 = .ok (.iload 4, 2) := by decide +kernel
theorem dX12_layHung_17 : decode cX12_layHung 17 = .ok (.iconst 2, 1) := by decide +kernel
theorem dX12_layHung_18 : decode cX12_layHung 18 = .ok (.irem, 1) := by decide +kernel
theorem dX12_layHung_19 : decode cX12_layHung 19 = .ok (.ifCond .ne 7, 3) := by decide +kernel
theorem dX12_layHung_22 : decode cX12_layHung 22 = .ok (.iconst 1, 1) := by decide +kernel
theorem dX12_layHung_23 : decode cX12_layHung 23 = .ok (.goto 4, 3) := by decide +kernel
theorem dX12_layHung_26 : decode cX12_layHung 26 = .ok (.iconst 0, 1) := by decide +kernel
theorem dX12_layHung_27 : decode cX12_layHung 27 = .ok (.istore 5, 2) := by decide +kernel
theorem dX12_layHung_29 : decode cX12_layHung 29 = .ok (.iconst 0, 1) := by decide +kernel
theorem dX12_layHung_30 : decode cX12_layHung 30 = .ok (.istore 6, 2) := by decide +kernel
theorem dX12_layHung_32 : decode cX12_layHung 32 = .ok (.iload 6, 2) := by decide +kernel
theorem dX12_layHung_34 : decode cX12_layHung 34 = .ok (.iconst 3, 1) := by decide +kernel
theorem dX12_layHung_35 : decode cX12_layHung 35 = .ok (.if_icmp .ge 349, 3) := by decide +kernel
theorem dX12_layHung_38 : decode cX12_layHung 38 = .ok (.aload_n 0, 1) := by decide +kernel
theorem dX12_layHung_39 : decode cX12_layHung 39 = .ok (.getfield 50, 3) := by decide +kernel
theorem dX12_layHung_42 : decode cX12_layHung 42 = .ok (.iconst 3, 1) := by decide +kernel
theorem dX12_layHung_43 : decode cX12_layHung 43 = .ok (.iload_n 3, 1) := by decide +kernel
theorem dX12_layHung_44 : decode cX12_layHung 44 = .ok (.imul, 1) := by decide +kernel
theorem dX12_layHung_45 : decode cX12_layHung 45 = .ok (.iload 6, 2) := by decide +kernel
theorem dX12_layHung_47 : decode cX12_layHung 47 = .ok (.iadd, 1) := by decide +kernel
theorem dX12_layHung_48 : decode cX12_layHung 48 = .ok (.iaload, 1) := by decide +kernel
theorem dX12_layHung_49 : decode cX12_layHung 49 = .ok (.istore 7, 2) := by decide +kernel
theorem dX12_layHung_51 : decode cX12_layHung 51 = .ok (.aload_n 0, 1) := by decide +kernel
theorem dX12_layHung_52 : decode cX12_layHung 52 = .ok (.getfield 53, 3) := by decide +kernel
theorem dX12_layHung_55 : decode cX12_layHung 55 = .ok (.iconst 3, 1) := by decide +kernel
theorem dX12_layHung_56 : decode cX12_layHung 56 = .ok (.iload_n 3, 1) := by decide +kernel
theorem dX12_layHung_57 : decode cX12_layHung 57 = .ok (.imul, 1) := by decide +kernel
theorem dX12_layHung_58 : decode cX12_layHung 58 = .ok (.iload 6, 2) := by decide +kernel
theorem dX12_layHung_60 : decode cX12_layHung 60 = .ok (.iadd, 1) := by decide +kernel
theorem dX12_layHung_61 : decode cX12_layHung 61 = .ok (.iaload, 1) := by decide +kernel
theorem dX12_layHung_62 : decode cX12_layHung 62 = .ok (.istore 8, 2) := by decide +kernel
theorem dX12_layHung_64 : decode cX12_layHung 64 = .ok (.aload_n 0, 1) := by decide +kernel
theorem dX12_layHung_65 : decode cX12_layHung 65 = .ok (.getfield 56, 3) := by decide +kernel
theorem dX12_layHung_68 : decode cX12_layHung 68 = .ok (.iconst 3, 1) := by decide +kernel
theorem dX12_layHung_69 : decode cX12_layHung 69 = .ok (.iload_n 3, 1) := by decide +kernel
theorem dX12_layHung_70 : decode cX12_layHung 70 = .ok (.imul, 1) := by decide +kernel
theorem dX12_layHung_71 : decode cX12_layHung 71 = .ok (.iload 6, 2) := by decide +kernel
theorem dX12_layHung_73 : decode cX12_layHung 73 = .ok (.iadd, 1) := by decide +kernel
theorem dX12_layHung_74 : decode cX12_layHung 74 = .ok (.iaload, 1) := by decide +kernel
theorem dX12_layHung_75 : decode cX12_layHung 75 = .ok (.istore 9, 2) := by decide +kernel
theorem dX12_layHung_77 : decode cX12_layHung 77 = .ok (.iload 4, 2) := by decide +kernel
theorem dX12_layHung_79 : decode cX12_layHung 79 = .ok (.ifCond .ne 9, 3) := by decide +kernel
theorem dX12_layHung_82 : decode cX12_layHung 82 = .ok (.iload 8, 2) := by decide +kernel
theorem dX12_layHung_84 : decode cX12_layHung 84 = .ok (.ineg, 1) := by decide +kernel
theorem dX12_layHung_85 : decode cX12_layHung 85 = .ok (.goto 28, 3) := by decide +kernel
theorem dX12_layHung_88 : decode cX12_layHung 88 = .ok (.iload 4, 2) := by decide +kernel
theorem dX12_layHung_90 : decode cX12_layHung 90 = .ok (.iconst 1, 1) := by decide +kernel
theorem dX12_layHung_91 : decode cX12_layHung 91 = .ok (.if_icmp .ne 8, 3) := by decide +kernel
theorem dX12_layHung_94 : decode cX12_layHung 94 = .ok (.iload 7, 2) := by decide +kernel
theorem dX12_layHung_96 : decode cX12_layHung 96 = .ok (.goto 17, 3) := by decide +kernel
theorem dX12_layHung_99 : decode cX12_layHung 99 = .ok (.iload 4, 2) := by decide +kernel
theorem dX12_layHung_101 : decode cX12_layHung 101 = .ok (.iconst 2, 1) := by decide +kernel
theorem dX12_layHung_102 : decode cX12_layHung 102 = .ok (.if_icmp .ne 8, 3) := by decide +kernel
theorem dX12_layHung_105 : decode cX12_layHung 105 = .ok (.iload 8, 2) := by decide +kernel
theorem dX12_layHung_107 : decode cX12_layHung 107 = .ok (.goto 6, 3) := by decide +kernel
theorem dX12_layHung_110 : decode cX12_layHung 110 = .ok (.iload 7, 2) := by decide +kernel
theorem dX12_layHung_112 : decode cX12_layHung 112 = .ok (.ineg, 1) := by decide +kernel
theorem dX12_layHung_113 : decode cX12_layHung 113 = .ok (.istore 10, 2) := by decide +kernel
theorem dX12_layHung_115 : decode cX12_layHung 115 = .ok (.iload_n 2, 1) := by decide +kernel
theorem dX12_layHung_116 : decode cX12_layHung 116 = .ok (.ifCond .ne 8, 3) := by decide +kernel
theorem dX12_layHung_119 : decode cX12_layHung 119 = .ok (.iload 10, 2) := by decide +kernel
theorem dX12_layHung_121 : decode cX12_layHung 121 = .ok (.goto 27, 3) := by decide +kernel
theorem dX12_layHung_124 : decode cX12_layHung 124 = .ok (.iload_n 2, 1) := by decide +kernel
theorem dX12_layHung_125 : decode cX12_layHung 125 = .ok (.iconst 1, 1) := by decide +kernel
theorem dX12_layHung_126 : decode cX12_layHung 126 = .ok (.if_icmp .ne 9, 3) := by decide +kernel
theorem dX12_layHung_129 : decode cX12_layHung 129 = .ok (.iload 9, 2) := by decide +kernel
theorem dX12_layHung_131 : decode cX12_layHung 131 = .ok (.ineg, 1) := by decide +kernel
theorem dX12_layHung_132 : decode cX12_layHung 132 = .ok (.goto 16, 3) := by decide +kernel
theorem dX12_layHung_135 : decode cX12_layHung 135 = .ok (.iload_n 2, 1) := by decide +kernel
theorem dX12_layHung_136 : decode cX12_layHung 136 = .ok (.iconst 2, 1) := by decide +kernel
theorem dX12_layHung_137 : decode cX12_layHung 137 = .ok (.if_icmp .ne 9, 3) := by decide +kernel
theorem dX12_layHung_140 : decode cX12_layHung 140 = .ok (.iload 10, 2) := by decide +kernel
theorem dX12_layHung_142 : decode cX12_layHung 142 = .ok (.ineg, 1) := by decide +kernel
theorem dX12_layHung_143 : decode cX12_layHung 143 = .ok (.goto 5, 3) := by decide +kernel
theorem dX12_layHung_146 : decode cX12_layHung 146 = .ok (.iload 9, 2) := by decide +kernel
theorem dX12_layHung_148 : decode cX12_layHung 148 = .ok (.istore 11, 2) := by decide +kernel
theorem dX12_layHung_150 : decode cX12_layHung 150 = .ok (.aload_n 0, 1) := by decide +kernel
theorem dX12_layHung_151 : decode cX12_layHung 151 = .ok (.getfield 56, 3) := by decide +kernel
theorem dX12_layHung_154 : decode cX12_layHung 154 = .ok (.iconst 3, 1) := by decide +kernel
theorem dX12_layHung_155 : decode cX12_layHung 155 = .ok (.iload_n 1, 1) := by decide +kernel
theorem dX12_layHung_156 : decode cX12_layHung 156 = .ok (.imul, 1) := by decide +kernel
theorem dX12_layHung_157 : decode cX12_layHung 157 = .ok (.iload 6, 2) := by decide +kernel
theorem dX12_layHung_159 : decode cX12_layHung 159 = .ok (.iadd, 1) := by decide +kernel
theorem dX12_layHung_160 : decode cX12_layHung 160 = .ok (.iload_n 2, 1) := by decide +kernel
theorem dX12_layHung_161 : decode cX12_layHung 161 = .ok (.ifCond .ne 8, 3) := by decide +kernel
theorem dX12_layHung_164 : decode cX12_layHung 164 = .ok (.iload 9, 2) := by decide +kernel
theorem dX12_layHung_166 : decode cX12_layHung 166 = .ok (.goto 27, 3) := by decide +kernel
theorem dX12_layHung_169 : decode cX12_layHung 169 = .ok (.iload_n 2, 1) := by decide +kernel
theorem dX12_layHung_170 : decode cX12_layHung 170 = .ok (.iconst 1, 1) := by decide +kernel
theorem dX12_layHung_171 : decode cX12_layHung 171 = .ok (.if_icmp .ne 8, 3) := by decide +kernel
theorem dX12_layHung_174 : decode cX12_layHung 174 = .ok (.iload 10, 2) := by decide +kernel
theorem dX12_layHung_176 : decode cX12_layHung 176 = .ok (.goto 17, 3) := by decide +kernel
theorem dX12_layHung_179 : decode cX12_layHung 179 = .ok (.iload_n 2, 1) := by decide +kernel
theorem dX12_layHung_180 : decode cX12_layHung 180 = .ok (.iconst 2, 1) := by decide +kernel
theorem dX12_layHung_181 : decode cX12_layHung 181 = .ok (.if_icmp .ne 9, 3) := by decide +kernel
theorem dX12_layHung_184 : decode cX12_layHung 184 = .ok (.iload 9, 2) := by decide +kernel
theorem dX12_layHung_186 : decode cX12_layHung 186 = .ok (.ineg, 1) := by decide +kernel
theorem dX12_layHung_187 : decode cX12_layHung 187 = .ok (.goto 6, 3) := by decide +kernel
theorem dX12_layHung_190 : decode cX12_layHung 190 = .ok (.iload 10, 2) := by decide +kernel
theorem dX12_layHung_192 : decode cX12_layHung 192 = .ok (.ineg, 1) := by decide +kernel
theorem dX12_layHung_193 : decode cX12_layHung 193 = .ok (.iastore, 1) := by decide +kernel
theorem dX12_layHung_194 : decode cX12_layHung 194 = .ok (.aload_n 0, 1) := by decide +kernel
theorem dX12_layHung_195 : decode cX12_layHung 195 = .ok (.getfield 50, 3) := by decide +kernel
theorem dX12_layHung_198 : decode cX12_layHung 198 = .ok (.iconst 3, 1) := by decide +kernel
theorem dX12_layHung_199 : decode cX12_layHung 199 = .ok (.iload_n 1, 1) := by decide +kernel
theorem dX12_layHung_200 : decode cX12_layHung 200 = .ok (.imul, 1) := by decide +kernel
theorem dX12_layHung_201 : decode cX12_layHung 201 = .ok (.iload 6, 2) := by decide +kernel
theorem dX12_layHung_203 : decode cX12_layHung 203 = .ok (.iadd, 1) := by decide +kernel
theorem dX12_layHung_204 : decode cX12_layHung 204 = .ok (.iload 5, 2) := by decide +kernel
theorem dX12_layHung_206 : decode cX12_layHung 206 = .ok (.ifCond .eq 8, 3) := by decide +kernel
theorem dX12_layHung_209 : decode cX12_layHung 209 = .ok (.iload 7, 2) := by decide +kernel
theorem dX12_layHung_211 : decode cX12_layHung 211 = .ok (.goto 17, 3) := by decide +kernel
theorem dX12_layHung_214 : decode cX12_layHung 214 = .ok (.iload 4, 2) := by decide +kernel
theorem dX12_layHung_216 : decode cX12_layHung 216 = .ok (.iconst 1, 1) := by decide +kernel
theorem dX12_layHung_217 : decode cX12_layHung 217 = .ok (.if_icmp .ne 8, 3) := by decide +kernel
theorem dX12_layHung_220 : decode cX12_layHung 220 = .ok (.iload 11, 2) := by decide +kernel
theorem dX12_layHung_222 : decode cX12_layHung 222 = .ok (.goto 6, 3) := by decide +kernel
theorem dX12_layHung_225 : decode cX12_layHung 225 = .ok (.iload 11, 2) := by decide +kernel
theorem dX12_layHung_227 : decode cX12_layHung 227 = .ok (.ineg, 1) := by decide +kernel
theorem dX12_layHung_228 : decode cX12_layHung 228 = .ok (.iastore, 1) := by decide +kernel
theorem dX12_layHung_229 : decode cX12_layHung 229 = .ok (.aload_n 0, 1) := by decide +kernel
theorem dX12_layHung_230 : decode cX12_layHung 230 = .ok (.getfield 53, 3) := by decide +kernel
theorem dX12_layHung_233 : decode cX12_layHung 233 = .ok (.iconst 3, 1) := by decide +kernel
theorem dX12_layHung_234 : decode cX12_layHung 234 = .ok (.iload_n 1, 1) := by decide +kernel
theorem dX12_layHung_235 : decode cX12_layHung 235 = .ok (.imul, 1) := by decide +kernel
theorem dX12_layHung_236 : decode cX12_layHung 236 = .ok (.iload 6, 2) := by decide +kernel
theorem dX12_layHung_238 : decode cX12_layHung 238 = .ok (.iadd, 1) := by decide +kernel
theorem dX12_layHung_239 : decode cX12_layHung 239 = .ok (.iload 5, 2) := by decide +kernel
theorem dX12_layHung_241 : decode cX12_layHung 241 = .ok (.ifCond .ne 8, 3) := by decide +kernel
theorem dX12_layHung_244 : decode cX12_layHung 244 = .ok (.iload 8, 2) := by decide +kernel
theorem dX12_layHung_246 : decode cX12_layHung 246 = .ok (.goto 17, 3) := by decide +kernel
theorem dX12_layHung_249 : decode cX12_layHung 249 = .ok (.iload 4, 2) := by decide +kernel
theorem dX12_layHung_251 : decode cX12_layHung 251 = .ok (.iconst 2, 1) := by decide +kernel
theorem dX12_layHung_252 : decode cX12_layHung 252 = .ok (.if_icmp .ne 8, 3) := by decide +kernel
theorem dX12_layHung_255 : decode cX12_layHung 255 = .ok (.iload 11, 2) := by decide +kernel
theorem dX12_layHung_257 : decode cX12_layHung 257 = .ok (.goto 6, 3) := by decide +kernel
theorem dX12_layHung_260 : decode cX12_layHung 260 = .ok (.iload 11, 2) := by decide +kernel
theorem dX12_layHung_262 : decode cX12_layHung 262 = .ok (.ineg, 1) := by decide +kernel
theorem dX12_layHung_263 : decode cX12_layHung 263 = .ok (.iastore, 1) := by decide +kernel
theorem dX12_layHung_264 : decode cX12_layHung 264 = .ok (.aload_n 0, 1) := by decide +kernel
theorem dX12_layHung_265 : decode cX12_layHung 265 = .ok (.getfield 47, 3) := by decide +kernel
theorem dX12_layHung_268 : decode cX12_layHung 268 = .ok (.iconst 3, 1) := by decide +kernel
theorem dX12_layHung_269 : decode cX12_layHung 269 = .ok (.iload_n 3, 1) := by decide +kernel
theorem dX12_layHung_270 : decode cX12_layHung 270 = .ok (.imul, 1) := by decide +kernel
theorem dX12_layHung_271 : decode cX12_layHung 271 = .ok (.iload 6, 2) := by decide +kernel
theorem dX12_layHung_273 : decode cX12_layHung 273 = .ok (.iadd, 1) := by decide +kernel
theorem dX12_layHung_274 : decode cX12_layHung 274 = .ok (.iaload, 1) := by decide +kernel
theorem dX12_layHung_275 : decode cX12_layHung 275 = .ok (.aload_n 0, 1) := by decide +kernel
theorem dX12_layHung_276 : decode cX12_layHung 276 = .ok (.iload_n 1, 1) := by decide +kernel
theorem dX12_layHung_277 : decode cX12_layHung 277 = .ok (.iconst 2, 1) := by decide +kernel
theorem dX12_layHung_278 : decode cX12_layHung 278 = .ok (.invokevirtual 91, 3) := by decide +kernel
theorem dX12_layHung_281 : decode cX12_layHung 281 = .ok (.iload 5, 2) := by decide +kernel
theorem dX12_layHung_283 : decode cX12_layHung 283 = .ok (.ifCond .eq 8, 3) := by decide +kernel
theorem dX12_layHung_286 : decode cX12_layHung 286 = .ok (.iload 7, 2) := by decide +kernel
theorem dX12_layHung_288 : decode cX12_layHung 288 = .ok (.goto 5, 3) := by decide +kernel
theorem dX12_layHung_291 : decode cX12_layHung 291 = .ok (.iload 8, 2) := by decide +kernel
theorem dX12_layHung_293 : decode cX12_layHung 293 = .ok (.imul, 1) := by decide +kernel
theorem dX12_layHung_294 : decode cX12_layHung 294 = .ok (.iadd, 1) := by decide +kernel
theorem dX12_layHung_295 : decode cX12_layHung 295 = .ok (.istore 12, 2) := by decide +kernel
theorem dX12_layHung_297 : decode cX12_layHung 297 = .ok (.iload 12, 2) := by decide +kernel
theorem dX12_layHung_299 : decode cX12_layHung 299 = .ok (.iload 4, 2) := by decide +kernel
theorem dX12_layHung_301 : decode cX12_layHung 301 = .ok (.iconst 1, 1) := by decide +kernel
theorem dX12_layHung_302 : decode cX12_layHung 302 = .ok (.if_icmp .ne 15, 3) := by decide +kernel
theorem dX12_layHung_305 : decode cX12_layHung 305 = .ok (.aload_n 0, 1) := by decide +kernel
theorem dX12_layHung_306 : decode cX12_layHung 306 = .ok (.getfield 32, 3) := by decide +kernel
theorem dX12_layHung_309 : decode cX12_layHung 309 = .ok (.iload_n 3, 1) := by decide +kernel
theorem dX12_layHung_310 : decode cX12_layHung 310 = .ok (.iaload, 1) := by decide +kernel
theorem dX12_layHung_311 : decode cX12_layHung 311 = .ok (.iload 7, 2) := by decide +kernel
theorem dX12_layHung_313 : decode cX12_layHung 313 = .ok (.imul, 1) := by decide +kernel
theorem dX12_layHung_314 : decode cX12_layHung 314 = .ok (.goto 22, 3) := by decide +kernel
theorem dX12_layHung_317 : decode cX12_layHung 317 = .ok (.iload 4, 2) := by decide +kernel
theorem dX12_layHung_319 : decode cX12_layHung 319 = .ok (.iconst 2, 1) := by decide +kernel
theorem dX12_layHung_320 : decode cX12_layHung 320 = .ok (.if_icmp .ne 15, 3) := by decide +kernel
theorem dX12_layHung_323 : decode cX12_layHung 323 = .ok (.aload_n 0, 1) := by decide +kernel
theorem dX12_layHung_324 : decode cX12_layHung 324 = .ok (.getfield 35, 3) := by decide +kernel
theorem dX12_layHung_327 : decode cX12_layHung 327 = .ok (.iload_n 3, 1) := by decide +kernel
theorem dX12_layHung_328 : decode cX12_layHung 328 = .ok (.iaload, 1) := by decide +kernel
theorem dX12_layHung_329 : decode cX12_layHung 329 = .ok (.iload 8, 2) := by decide +kernel
theorem dX12_layHung_331 : decode cX12_layHung 331 = .ok (.imul, 1) := by decide +kernel
theorem dX12_layHung_332 : decode cX12_layHung 332 = .ok (.goto 4, 3) := by decide +kernel
theorem dX12_layHung_335 : decode cX12_layHung 335 = .ok (.iconst 0, 1) := by decide +kernel
theorem dX12_layHung_336 : decode cX12_layHung 336 = .ok (.iadd, 1) := by decide +kernel
theorem dX12_layHung_337 : decode cX12_layHung 337 = .ok (.istore 12, 2) := by decide +kernel
theorem dX12_layHung_339 : decode cX12_layHung 339 = .ok (.aload_n 0, 1) := by decide +kernel
theorem dX12_layHung_340 : decode cX12_layHung 340 = .ok (.getfield 47, 3) := by decide +kernel
theorem dX12_layHung_343 : decode cX12_layHung 343 = .ok (.iconst 3, 1) := by decide +kernel
theorem dX12_layHung_344 : decode cX12_layHung 344 = .ok (.iload_n 1, 1) := by decide +kernel
theorem dX12_layHung_345 : decode cX12_layHung 345 = .ok (.imul, 1) := by decide +kernel
theorem dX12_layHung_346 : decode cX12_layHung 346 = .ok (.iload 6, 2) := by decide +kernel
theorem dX12_layHung_348 : decode cX12_layHung 348 = .ok (.iadd, 1) := by decide +kernel
theorem dX12_layHung_349 : decode cX12_layHung 349 = .ok (.iload 4, 2) := by decide +kernel
theorem dX12_layHung_351 : decode cX12_layHung 351 = .ok (.ifCond .eq 9, 3) := by decide +kernel
theorem dX12_layHung_354 : decode cX12_layHung 354 = .ok (.iload 4, 2) := by decide +kernel
theorem dX12_layHung_356 : decode cX12_layHung 356 = .ok (.iconst 3, 1) := by decide +kernel
theorem dX12_layHung_357 : decode cX12_layHung 357 = .ok (.if_icmp .ne 18, 3) := by decide +kernel
theorem dX12_layHung_360 : decode cX12_layHung 360 = .ok (.iload 12, 2) := by decide +kernel
theorem dX12_layHung_362 : decode cX12_layHung 362 = .ok (.aload_n 0, 1) := by decide +kernel
theorem dX12_layHung_363 : decode cX12_layHung 363 = .ok (.iload_n 1, 1) := by decide +kernel
theorem dX12_layHung_364 : decode cX12_layHung 364 = .ok (.iconst 4, 1) := by decide +kernel
theorem dX12_layHung_365 : decode cX12_layHung 365 = .ok (.invokevirtual 91, 3) := by decide +kernel
theorem dX12_layHung_368 : decode cX12_layHung 368 = .ok (.iload 11, 2) := by decide +kernel
theorem dX12_layHung_370 : decode cX12_layHung 370 = .ok (.imul, 1) := by decide +kernel
theorem dX12_layHung_371 : decode cX12_layHung 371 = .ok (.iadd, 1) := by decide +kernel
theorem dX12_layHung_372 : decode cX12_layHung 372 = .ok (.goto 5, 3) := by decide +kernel
theorem dX12_layHung_375 : decode cX12_layHung 375 = .ok (.iload 12, 2) := by decide +kernel
theorem dX12_layHung_377 : decode cX12_layHung 377 = .ok (.iastore, 1) := by decide +kernel
theorem dX12_layHung_378 : decode cX12_layHung 378 = .ok (.iinc 6 1, 3) := by decide +kernel
theorem dX12_layHung_381 : decode cX12_layHung 381 = .ok (.goto (-349), 3) := by decide +kernel
theorem dX12_layHung_384 : decode cX12_layHung 384 = .ok (.return_, 1) := by decide +kernel
theorem dX12_fold_0 : decode cX12_fold 0 = .ok (.aload_n 0, 1) := by decide +kernel
theorem dX12_fold_1 : decode cX12_fold 1 = .ok (.invokevirtual 120, 3) := by decide +kernel
theorem dX12_fold_4 : decode cX12_fold 4 = .ok (.iconst 0, 1) := by decide +kernel
theorem dX12_fold_5 : decode cX12_fold 5 = .ok (.istore_n 2, 1) := by decide +kernel
theorem dX12_fold_6 : decode cX12_fold 6 = .ok (.iload_n 2, 1) := by decide +kernel
theorem dX12_fold_7 : decode cX12_fold 7 = .ok (.aload_n 0, 1) := by decide +kernel
theorem dX12_fold_8 : decode cX12_fold 8 = .ok (.invokevirtual 83, 3) := by decide +kernel
theorem dX12_fold_11 : decode cX12_fold 11 = .ok (.if_icmp .ge 184, 3) := by decide +kernel
theorem dX12_fold_14 : decode cX12_fold 14 = .ok (.iload_n 2, 1) := by decide +kernel
theorem dX12_fold_15 : decode cX12_fold 15 = .ok (.ifCond .ne 10, 3) := by decide +kernel
theorem dX12_fold_18 : decode cX12_fold 18 = .ok (.aload_n 0, 1) := by decide +kernel
theorem dX12_fold_19 : decode cX12_fold 19 = .ok (.invokevirtual 209, 3) := by decide +kernel
theorem dX12_fold_22 : decode cX12_fold 22 = .ok (.goto 27, 3) := by decide +kernel
theorem dX12_fold_25 : decode cX12_fold 25 = .ok (.aload_n 0, 1) := by decide +kernel
theorem dX12_fold_26 : decode cX12_fold 26 = .ok (.iload_n 2, 1) := by decide +kernel
theorem dX12_fold_27 : decode cX12_fold 27 = .ok (.iload_n 1, 1) := by decide +kernel
theorem dX12_fold_28 : decode cX12_fold 28 = .ok (.iload_n 2, 1) := by decide +kernel
theorem dX12_fold_29 : decode cX12_fold 29 = .ok (.ishr, 1) := by decide +kernel
theorem dX12_fold_30 : decode cX12_fold 30 = .ok (.iconst 1, 1) := by decide +kernel
theorem dX12_fold_31 : decode cX12_fold 31 = .ok (.iand, 1) := by decide +kernel
theorem dX12_fold_32 : decode cX12_fold 32 = .ok (.iconst 1, 1) := by decide +kernel
theorem dX12_fold_33 : decode cX12_fold 33 = .ok (.if_icmp .ne 12, 3) := by decide +kernel
theorem dX12_fold_36 : decode cX12_fold 36 = .ok (.aload_n 0, 1) := by decide +kernel
theorem dX12_fold_37 : decode cX12_fold 37 = .ok (.iload_n 2, 1) := by decide +kernel
theorem dX12_fold_38 : decode cX12_fold 38 = .ok (.iconst 5, 1) := by decide +kernel
theorem dX12_fold_39 : decode cX12_fold 39 = .ok (.invokevirtual 91, 3) := by decide +kernel
theorem dX12_fold_42 : decode cX12_fold 42 = .ok (.goto 4, 3) := by decide +kernel
theorem dX12_fold_45 : decode cX12_fold 45 = .ok (.iconst 0, 1) := by decide +kernel
theorem dX12_fold_46 : decode cX12_fold 46 = .ok (.invokevirtual 212, 3) := by decide +kernel
theorem dX12_fold_49 : decode cX12_fold 49 = .ok (.iconst 0, 1) := by decide +kernel
theorem dX12_fold_50 : decode cX12_fold 50 = .ok (.istore_n 3, 1) := by decide +kernel
theorem dX12_fold_51 : decode cX12_fold 51 = .ok (.iload_n 3, 1) := by decide +kernel
theorem dX12_fold_52 : decode cX12_fold 52 = .ok (.iconst 3, 1) := by decide +kernel
theorem dX12_fold_53 : decode cX12_fold 53 = .ok (.if_icmp .ge 136, 3) := by decide +kernel
theorem dX12_fold_56 : decode cX12_fold 56 = .ok (.aload_n 0, 1) := by decide +kernel
theorem dX12_fold_57 : decode cX12_fold 57 = .ok (.getfield 47, 3) := by decide +kernel
theorem dX12_fold_60 : decode cX12_fold 60 = .ok (.iconst 3, 1) := by decide +kernel
theorem dX12_fold_61 : decode cX12_fold 61 = .ok (.iload_n 2, 1) := by decide +kernel
theorem dX12_fold_62 : decode cX12_fold 62 = .ok (.imul, 1) := by decide +kernel
theorem dX12_fold_63 : decode cX12_fold 63 = .ok (.iload_n 3, 1) := by decide +kernel
theorem dX12_fold_64 : decode cX12_fold 64 = .ok (.iadd, 1) := by decide +kernel
theorem dX12_fold_65 : decode cX12_fold 65 = .ok (.iaload, 1) := by decide +kernel
theorem dX12_fold_66 : decode cX12_fold 66 = .ok (.aload_n 0, 1) := by decide +kernel
theorem dX12_fold_67 : decode cX12_fold 67 = .ok (.getfield 32, 3) := by decide +kernel
theorem dX12_fold_70 : decode cX12_fold 70 = .ok (.iload_n 2, 1) := by decide +kernel
theorem dX12_fold_71 : decode cX12_fold 71 = .ok (.iaload, 1) := by decide +kernel
theorem dX12_fold_72 : decode cX12_fold 72 = .ok (.aload_n 0, 1) := by decide +kernel
theorem dX12_fold_73 : decode cX12_fold 73 = .ok (.getfield 50, 3) := by decide +kernel
theorem dX12_fold_76 : decode cX12_fold 76 = .ok (.iconst 3, 1) := by decide +kernel
theorem dX12_fold_77 : decode cX12_fold 77 = .ok (.iload_n 2, 1) := by decide +kernel
theorem dX12_fold_78 : decode cX12_fold 78 = .ok (.imul, 1) := by decide +kernel
theorem dX12_fold_79 : decode cX12_fold 79 = .ok (.iload_n 3, 1) := by decide +kernel
theorem dX12_fold_80 : decode cX12_fold 80 = .ok (.iadd, 1) := by decide +kernel
theorem dX12_fold_81 : decode cX12_fold 81 = .ok (.iaload, 1) := by decide +kernel
theorem dX12_fold_82 : decode cX12_fold 82 = .ok (.imul, 1) := by decide +kernel
theorem dX12_fold_83 : decode cX12_fold 83 = .ok (.iadd, 1) := by decide +kernel
theorem dX12_fold_84 : decode cX12_fold 84 = .ok (.aload_n 0, 1) := by decide +kernel
theorem dX12_fold_85 : decode cX12_fold 85 = .ok (.getfield 35, 3) := by decide +kernel
theorem dX12_fold_88 : decode cX12_fold 88 = .ok (.iload_n 2, 1) := by decide +kernel
theorem dX12_fold_89 : decode cX12_fold 89 = .ok (.iaload, 1) := by decide +kernel
theorem dX12_fold_90 : decode cX12_fold 90 = .ok (.aload_n 0, 1) := by decide +kernel
theorem dX12_fold_91 : decode cX12_fold 91 = .ok (.getfield 53, 3) := by decide +kernel
theorem dX12_fold_94 : decode cX12_fold 94 = .ok (.iconst 3, 1) := by decide +kernel
theorem dX12_fold_95 : decode cX12_fold 95 = .ok (.iload_n 2, 1) := by decide +kernel
theorem dX12_fold_96 : decode cX12_fold 96 = .ok (.imul, 1) := by decide +kernel
theorem dX12_fold_97 : decode cX12_fold 97 = .ok (.iload_n 3, 1) := by decide +kernel
theorem dX12_fold_98 : decode cX12_fold 98 = .ok (.iadd, 1) := by decide +kernel
theorem dX12_fold_99 : decode cX12_fold 99 = .ok (.iaload, 1) := by decide +kernel
theorem dX12_fold_100 : decode cX12_fold 100 = .ok (.imul, 1) := by decide +kernel
theorem dX12_fold_101 : decode cX12_fold 101 = .ok (.iadd, 1) := by decide +kernel
theorem dX12_fold_102 : decode cX12_fold 102 = .ok (.istore 4, 2) := by decide +kernel
theorem dX12_fold_104 : decode cX12_fold 104 = .ok (.aload_n 0, 1) := by decide +kernel
theorem dX12_fold_105 : decode cX12_fold 105 = .ok (.getfield 59, 3) := by decide +kernel
theorem dX12_fold_108 : decode cX12_fold 108 = .ok (.iconst 3, 1) := by decide +kernel
theorem dX12_fold_109 : decode cX12_fold 109 = .ok (.iload_n 2, 1) := by decide +kernel
theorem dX12_fold_110 : decode cX12_fold 110 = .ok (.imul, 1) := by decide +kernel
theorem dX12_fold_111 : decode cX12_fold 111 = .ok (.iload_n 3, 1) := by decide +kernel
theorem dX12_fold_112 : decode cX12_fold 112 = .ok (.iadd, 1) := by decide +kernel
theorem dX12_fold_113 : decode cX12_fold 113 = .ok (.aload_n 0, 1) := by decide +kernel
theorem dX12_fold_114 : decode cX12_fold 114 = .ok (.getfield 47, 3) := by decide +kernel
theorem dX12_fold_117 : decode cX12_fold 117 = .ok (.iconst 3, 1) := by decide +kernel
theorem dX12_fold_118 : decode cX12_fold 118 = .ok (.iload_n 2, 1) := by decide +kernel
theorem dX12_fold_119 : decode cX12_fold 119 = .ok (.imul, 1) := by decide +kernel
theorem dX12_fold_120 : decode cX12_fold 120 = .ok (.iload_n 3, 1) := by decide +kernel
theorem dX12_fold_121 : decode cX12_fold 121 = .ok (.iadd, 1) := by decide +kernel
theorem dX12_fold_122 : decode cX12_fold 122 = .ok (.iaload, 1) := by decide +kernel
theorem dX12_fold_123 : decode cX12_fold 123 = .ok (.iload 4, 2) := by decide +kernel
theorem dX12_fold_125 : decode cX12_fold 125 = .ok (.invokestatic 110, 3) := by decide +kernel
theorem dX12_fold_128 : decode cX12_fold 128 = .ok (.iastore, 1) := by decide +kernel
theorem dX12_fold_129 : decode cX12_fold 129 = .ok (.aload_n 0, 1) := by decide +kernel
theorem dX12_fold_130 : decode cX12_fold 130 = .ok (.getfield 62, 3) := by decide +kernel
theorem dX12_fold_133 : decode cX12_fold 133 = .ok (.iconst 3, 1) := by decide +kernel
theorem dX12_fold_134 : decode cX12_fold 134 = .ok (.iload_n 2, 1) := by decide +kernel
theorem dX12_fold_135 : decode cX12_fold 135 = .ok (.imul, 1) := by decide +kernel
theorem dX12_fold_136 : decode cX12_fold 136 = .ok (.iload_n 3, 1) := by decide +kernel
theorem dX12_fold_137 : decode cX12_fold 137 = .ok (.iadd, 1) := by decide +kernel
theorem dX12_fold_138 : decode cX12_fold 138 = .ok (.aload_n 0, 1) := by decide +kernel
theorem dX12_fold_139 : decode cX12_fold 139 = .ok (.getfield 47, 3) := by decide +kernel
theorem dX12_fold_142 : decode cX12_fold 142 = .ok (.iconst 3, 1) := by decide +kernel
theorem dX12_fold_143 : decode cX12_fold 143 = .ok (.iload_n 2, 1) := by decide +kernel
theorem dX12_fold_144 : decode cX12_fold 144 = .ok (.imul, 1) := by decide +kernel
theorem dX12_fold_145 : decode cX12_fold 145 = .ok (.iload_n 3, 1) := by decide +kernel
theorem dX12_fold_146 : decode cX12_fold 146 = .ok (.iadd, 1) := by decide +kernel
theorem dX12_fold_147 : decode cX12_fold 147 = .ok (.iaload, 1) := by decide +kernel
theorem dX12_fold_148 : decode cX12_fold 148 = .ok (.iload 4, 2) := by decide +kernel
theorem dX12_fold_150 : decode cX12_fold 150 = .ok (.invokestatic 113, 3) := by decide +kernel
theorem dX12_fold_153 : decode cX12_fold 153 = .ok (.iastore, 1) := by decide +kernel
theorem dX12_fold_154 : decode cX12_fold 154 = .ok (.aload_n 0, 1) := by decide +kernel
theorem dX12_fold_155 : decode cX12_fold 155 = .ok (.getfield 65, 3) := by decide +kernel
theorem dX12_fold_158 : decode cX12_fold 158 = .ok (.iload_n 2, 1) := by decide +kernel
theorem dX12_fold_159 : decode cX12_fold 159 = .ok (.aload_n 0, 1) := by decide +kernel
theorem dX12_fold_160 : decode cX12_fold 160 = .ok (.getfield 56, 3) := by decide +kernel
theorem dX12_fold_163 : decode cX12_fold 163 = .ok (.iconst 3, 1) := by decide +kernel
theorem dX12_fold_164 : decode cX12_fold 164 = .ok (.iload_n 2, 1) := by decide +kernel
theorem dX12_fold_165 : decode cX12_fold 165 = .ok (.imul, 1) := by decide +kernel
theorem dX12_fold_166 : decode cX12_fold 166 = .ok (.iload_n 3, 1) := by decide +kernel
theorem dX12_fold_167 : decode cX12_fold 167 = .ok (.iadd, 1) := by decide +kernel
theorem dX12_fold_168 : decode cX12_fold 168 = .ok (.iaload, 1) := by decide +kernel
theorem dX12_fold_169 : decode cX12_fold 169 = .ok (.ifCond .eq 7, 3) := by decide +kernel
theorem dX12_fold_172 : decode cX12_fold 172 = .ok (.iload_n 3, 1) := by decide +kernel
theorem dX12_fold_173 : decode cX12_fold 173 = .ok (.goto 9, 3) := by decide +kernel
theorem dX12_fold_176 : decode cX12_fold 176 = .ok (.aload_n 0, 1) := by decide +kernel
theorem dX12_fold_177 : decode cX12_fold 177 = .ok (.getfield 65, 3) := by decide +kernel
theorem dX12_fold_180 : decode cX12_fold 180 = .ok (.iload_n 2, 1) := by decide +kernel
theorem dX12_fold_181 : decode cX12_fold 181 = .ok (.iaload, 1) := by decide +kernel
theorem dX12_fold_182 : decode cX12_fold 182 = .ok (.iastore, 1) := by decide +kernel
theorem dX12_fold_183 : decode cX12_fold 183 = .ok (.iinc 3 1, 3) := by decide +kernel
theorem dX12_fold_186 : decode cX12_fold 186 = .ok (.goto (-135), 3) := by decide +kernel
theorem dX12_fold_189 : decode cX12_fold 189 = .ok (.iinc 2 1, 3) := by decide +kernel
theorem dX12_fold_192 : decode cX12_fold 192 = .ok (.goto (-186), 3) := by decide +kernel
theorem dX12_fold_195 : decode cX12_fold 195 = .ok (.return_, 1) := by decide +kernel
theorem dX12_cornerOf_0 : decode cX12_cornerOf 0 = .ok (.iconst 3, 1) := by decide +kernel
theorem dX12_cornerOf_1 : decode cX12_cornerOf 1 = .ok (.iload_n 1, 1) := by decide +kernel
theorem dX12_cornerOf_2 : decode cX12_cornerOf 2 = .ok (.imul, 1) := by decide +kernel
theorem dX12_cornerOf_3 : decode cX12_cornerOf 3 = .ok (.iload_n 3, 1) := by decide +kernel
theorem dX12_cornerOf_4 : decode cX12_cornerOf 4 = .ok (.iadd, 1) := by decide +kernel
theorem dX12_cornerOf_5 : decode cX12_cornerOf 5 = .ok (.istore 4, 2) := by decide +kernel
theorem dX12_cornerOf_7 : decode cX12_cornerOf 7 = .ok (.aload_n 0, 1) := by decide +kernel
theorem dX12_cornerOf_8 : decode cX12_cornerOf 8 = .ok (.getfield 47, 3) := by decide +kernel
theorem dX12_cornerOf_11 : decode cX12_cornerOf 11 = .ok (.iload 4, 2) := by decide +kernel
theorem dX12_cornerOf_13 : decode cX12_cornerOf 13 = .ok (.iaload, 1) := by decide +kernel
theorem dX12_cornerOf_14 : decode cX12_cornerOf 14 = .ok (.iload_n 2, 1) := by decide +kernel
theorem dX12_cornerOf_15 : decode cX12_cornerOf 15 = .ok (.iconst 1, 1) := by decide +kernel
theorem dX12_cornerOf_16 : decode cX12_cornerOf 16 = .ok (.if_icmp .eq 8, 3) := by decide +kernel
theorem dX12_cornerOf_19 : decode cX12_cornerOf 19 = .ok (.iload_n 2, 1) := by decide +kernel
theorem dX12_cornerOf_20 : decode cX12_cornerOf 20 = .ok (.iconst 2, 1) := by decide +kernel
theorem dX12_cornerOf_21 : decode cX12_cornerOf 21 = .ok (.if_icmp .ne 20, 3) := by decide +kernel
theorem dX12_cornerOf_24 : decode cX12_cornerOf 24 = .ok (.aload_n 0, 1) := by decide +kernel
theorem dX12_cornerOf_25 : decode cX12_cornerOf 25 = .ok (.getfield 32, 3) := by decide +kernel
theorem dX12_cornerOf_28 : decode cX12_cornerOf 28 = .ok (.iload_n 1, 1) := by decide +kernel
theorem dX12_cornerOf_29 : decode cX12_cornerOf 29 = .ok (.iaload, 1) := by decide +kernel
theorem dX12_cornerOf_30 : decode cX12_cornerOf 30 = .ok (.aload_n 0, 1) := by decide +kernel
theorem dX12_cornerOf_31 : decode cX12_cornerOf 31 = .ok (.getfield 50, 3) := by decide +kernel
theorem dX12_cornerOf_34 : decode cX12_cornerOf 34 = .ok (.iload 4, 2) := by decide +kernel
theorem dX12_cornerOf_36 : decode cX12_cornerOf 36 = .ok (.iaload, 1) := by decide +kernel
theorem dX12_cornerOf_37 : decode cX12_cornerOf 37 = .ok (.imul, 1) := by decide +kernel
theorem dX12_cornerOf_38 : decode cX12_cornerOf 38 = .ok (.goto 4, 3) := by decide +kernel
theorem dX12_cornerOf_41 : decode cX12_cornerOf 41 = .ok (.iconst 0, 1) := by decide +kernel
theorem dX12_cornerOf_42 : decode cX12_cornerOf 42 = .ok (.iadd, 1) := by decide +kernel
theorem dX12_cornerOf_43 : decode cX12_cornerOf 43 = .ok (.iload_n 2, 1) := by decide +kernel
theorem dX12_cornerOf_44 : decode cX12_cornerOf 44 = .ok (.iconst 1, 1) := by decide +kernel
theorem dX12_cornerOf_45 : decode cX12_cornerOf 45 = .ok (.if_icmp .le 20, 3) := by decide +kernel
theorem dX12_cornerOf_48 : decode cX12_cornerOf 48 = .ok (.aload_n 0, 1) := by decide +kernel
theorem dX12_cornerOf_49 : decode cX12_cornerOf 49 = .ok (.getfield 35, 3) := by decide +kernel
theorem dX12_cornerOf_52 : decode cX12_cornerOf 52 = .ok (.iload_n 1, 1) := by decide +kernel
theorem dX12_cornerOf_53 : decode cX12_cornerOf 53 = .ok (.iaload, 1) := by decide +kernel
theorem dX12_cornerOf_54 : decode cX12_cornerOf 54 = .ok (.aload_n 0, 1) := by decide +kernel
theorem dX12_cornerOf_55 : decode cX12_cornerOf 55 = .ok (.getfield 53, 3) := by decide +kernel
theorem dX12_cornerOf_58 : decode cX12_cornerOf 58 = .ok (.iload 4, 2) := by decide +kernel
theorem dX12_cornerOf_60 : decode cX12_cornerOf 60 = .ok (.iaload, 1) := by decide +kernel
theorem dX12_cornerOf_61 : decode cX12_cornerOf 61 = .ok (.imul, 1) := by decide +kernel
theorem dX12_cornerOf_62 : decode cX12_cornerOf 62 = .ok (.goto 4, 3) := by decide +kernel
theorem dX12_cornerOf_65 : decode cX12_cornerOf 65 = .ok (.iconst 0, 1) := by decide +kernel
theorem dX12_cornerOf_66 : decode cX12_cornerOf 66 = .ok (.iadd, 1) := by decide +kernel
theorem dX12_cornerOf_67 : decode cX12_cornerOf 67 = .ok (.ireturn, 1) := by decide +kernel
theorem dX12_shared_0 : decode cX12_shared 0 = .ok (.aload_n 0, 1) := by decide +kernel
theorem dX12_shared_1 : decode cX12_shared 1 = .ok (.getfield 59, 3) := by decide +kernel
theorem dX12_shared_4 : decode cX12_shared 4 = .ok (.iconst 3, 1) := by decide +kernel
theorem dX12_shared_5 : decode cX12_shared 5 = .ok (.iload_n 1, 1) := by decide +kernel
theorem dX12_shared_6 : decode cX12_shared 6 = .ok (.imul, 1) := by decide +kernel
theorem dX12_shared_7 : decode cX12_shared 7 = .ok (.iload_n 3, 1) := by decide +kernel
theorem dX12_shared_8 : decode cX12_shared 8 = .ok (.iadd, 1) := by decide +kernel
theorem dX12_shared_9 : decode cX12_shared 9 = .ok (.iaload, 1) := by decide +kernel
theorem dX12_shared_10 : decode cX12_shared 10 = .ok (.aload_n 0, 1) := by decide +kernel
theorem dX12_shared_11 : decode cX12_shared 11 = .ok (.getfield 62, 3) := by decide +kernel
theorem dX12_shared_14 : decode cX12_shared 14 = .ok (.iconst 3, 1) := by decide +kernel
theorem dX12_shared_15 : decode cX12_shared 15 = .ok (.iload_n 1, 1) := by decide +kernel
theorem dX12_shared_16 : decode cX12_shared 16 = .ok (.imul, 1) := by decide +kernel
theorem dX12_shared_17 : decode cX12_shared 17 = .ok (.iload_n 3, 1) := by decide +kernel
theorem dX12_shared_18 : decode cX12_shared 18 = .ok (.iadd, 1) := by decide +kernel
theorem dX12_shared_19 : decode cX12_shared 19 = .ok (.iaload, 1) := by decide +kernel
theorem dX12_shared_20 : decode cX12_shared 20 = .ok (.aload_n 0, 1) := by decide +kernel
theorem dX12_shared_21 : decode cX12_shared 21 = .ok (.getfield 59, 3) := by decide +kernel
theorem dX12_shared_24 : decode cX12_shared 24 = .ok (.iconst 3, 1) := by decide +kernel
theorem dX12_shared_25 : decode cX12_shared 25 = .ok (.iload_n 2, 1) := by decide +kernel
theorem dX12_shared_26 : decode cX12_shared 26 = .ok (.imul, 1) := by decide +kernel
theorem dX12_shared_27 : decode cX12_shared 27 = .ok (.iload_n 3, 1) := by decide +kernel
theorem dX12_shared_28 : decode cX12_shared 28 = .ok (.iadd, 1) := by decide +kernel
theorem dX12_shared_29 : decode cX12_shared 29 = .ok (.iaload, 1) := by decide +kernel
theorem dX12_shared_30 : decode cX12_shared 30 = .ok (.aload_n 0, 1) := by decide +kernel
theorem dX12_shared_31 : decode cX12_shared 31 = .ok (.getfield 62, 3) := by decide +kernel
theorem dX12_shared_34 : decode cX12_shared 34 = .ok (.iconst 3, 1) := by decide +kernel
theorem dX12_shared_35 : decode cX12_shared 35 = .ok (.iload_n 2, 1) := by decide +kernel
theorem dX12_shared_36 : decode cX12_shared 36 = .ok (.imul, 1) := by decide +kernel
theorem dX12_shared_37 : decode cX12_shared 37 = .ok (.iload_n 3, 1) := by decide +kernel
theorem dX12_shared_38 : decode cX12_shared 38 = .ok (.iadd, 1) := by decide +kernel
theorem dX12_shared_39 : decode cX12_shared 39 = .ok (.iaload, 1) := by decide +kernel
theorem dX12_shared_40 : decode cX12_shared 40 = .ok (.invokestatic 116, 3) := by decide +kernel
theorem dX12_shared_43 : decode cX12_shared 43 = .ok (.ireturn, 1) := by decide +kernel
theorem dX12_cuts_0 : decode cX12_cuts 0 = .ok (.aload_n 0, 1) := by decide +kernel
theorem dX12_cuts_1 : decode cX12_cuts 1 = .ok (.getfield 65, 3) := by decide +kernel
theorem dX12_cuts_4 : decode cX12_cuts 4 = .ok (.iload_n 1, 1) := by decide +kernel
theorem dX12_cuts_5 : decode cX12_cuts 5 = .ok (.iaload, 1) := by decide +kernel
theorem dX12_cuts_6 : decode cX12_cuts 6 = .ok (.istore 4, 2) := by decide +kernel
theorem dX12_cuts_8 : decode cX12_cuts 8 = .ok (.aload_n 0, 1) := by decide +kernel
theorem dX12_cuts_9 : decode cX12_cuts 9 = .ok (.getfield 59, 3) := by decide +kernel
theorem dX12_cuts_12 : decode cX12_cuts 12 = .ok (.iconst 3, 1) := by decide +kernel
theorem dX12_cuts_13 : decode cX12_cuts 13 = .ok (.iload_n 1, 1) := by decide +kernel
theorem dX12_cuts_14 : decode cX12_cuts 14 = .ok (.imul, 1) := by decide +kernel
theorem dX12_cuts_15 : decode cX12_cuts 15 = .ok (.iload 4, 2) := by decide +kernel
theorem dX12_cuts_17 : decode cX12_cuts 17 = .ok (.iadd, 1) := by decide +kernel
theorem dX12_cuts_18 : decode cX12_cuts 18 = .ok (.iaload, 1) := by decide +kernel
theorem dX12_cuts_19 : decode cX12_cuts 19 = .ok (.istore 5, 2) := by decide +kernel
theorem dX12_cuts_21 : decode cX12_cuts 21 = .ok (.iload 5, 2) := by decide +kernel
theorem dX12_cuts_23 : decode cX12_cuts 23 = .ok (.aload_n 0, 1) := by decide +kernel
theorem dX12_cuts_24 : decode cX12_cuts 24 = .ok (.getfield 59, 3) := by decide +kernel
theorem dX12_cuts_27 : decode cX12_cuts 27 = .ok (.iconst 3, 1) := by decide +kernel
theorem dX12_cuts_28 : decode cX12_cuts 28 = .ok (.iload_n 2, 1) := by decide +kernel
theorem dX12_cuts_29 : decode cX12_cuts 29 = .ok (.imul, 1) := by decide +kernel
theorem dX12_cuts_30 : decode cX12_cuts 30 = .ok (.iload 4, 2) := by decide +kernel
theorem dX12_cuts_32 : decode cX12_cuts 32 = .ok (.iadd, 1) := by decide +kernel
theorem dX12_cuts_33 : decode cX12_cuts 33 = .ok (.iaload, 1) := by decide +kernel
theorem dX12_cuts_34 : decode cX12_cuts 34 = .ok (.iload_n 3, 1) := by decide +kernel
theorem dX12_cuts_35 : decode cX12_cuts 35 = .ok (.iadd, 1) := by decide +kernel
theorem dX12_cuts_36 : decode cX12_cuts 36 = .ok (.if_icmp .le 25, 3) := by decide +kernel
theorem dX12_cuts_39 : decode cX12_cuts 39 = .ok (.iload 5, 2) := by decide +kernel
theorem dX12_cuts_41 : decode cX12_cuts 41 = .ok (.aload_n 0, 1) := by decide +kernel
theorem dX12_cuts_42 : decode cX12_cuts 42 = .ok (.getfield 62, 3) := by decide +kernel
theorem dX12_cuts_45 : decode cX12_cuts 45 = .ok (.iconst 3, 1) := by decide +kernel
theorem dX12_cuts_46 : decode cX12_cuts 46 = .ok (.iload_n 2, 1) := by decide +kernel
theorem dX12_cuts_47 : decode cX12_cuts 47 = .ok (.imul, 1) := by decide +kernel
theorem dX12_cuts_48 : decode cX12_cuts 48 = .ok (.iload 4, 2) := by decide +kernel
theorem dX12_cuts_50 : decode cX12_cuts 50 = .ok (.iadd, 1) := by decide +kernel
theorem dX12_cuts_51 : decode cX12_cuts 51 = .ok (.iaload, 1) := by decide +kernel
theorem dX12_cuts_52 : decode cX12_cuts 52 = .ok (.iload_n 3, 1) := by decide +kernel
theorem dX12_cuts_53 : decode cX12_cuts 53 = .ok (.isub, 1) := by decide +kernel
theorem dX12_cuts_54 : decode cX12_cuts 54 = .ok (.if_icmp .ge 7, 3) := by decide +kernel
theorem dX12_cuts_57 : decode cX12_cuts 57 = .ok (.iconst 1, 1) := by decide +kernel
theorem dX12_cuts_58 : decode cX12_cuts 58 = .ok (.goto 4, 3) := by decide +kernel
theorem dX12_cuts_61 : decode cX12_cuts 61 = .ok (.iconst 0, 1) := by decide +kernel
theorem dX12_cuts_62 : decode cX12_cuts 62 = .ok (.ireturn, 1) := by decide +kernel
theorem dX12_crossing_0 : decode cX12_crossing 0 = .ok (.aload_n 0, 1) := by decide +kernel
theorem dX12_crossing_1 : decode cX12_crossing 1 = .ok (.getfield 65, 3) := by decide +kernel
theorem dX12_crossing_4 : decode cX12_crossing 4 = .ok (.iload_n 1, 1) := by decide +kernel
theorem dX12_crossing_5 : decode cX12_crossing 5 = .ok (.iaload, 1) := by decide +kernel
theorem dX12_crossing_6 : decode cX12_crossing 6 = .ok (.aload_n 0, 1) := by decide +kernel
theorem dX12_crossing_7 : decode cX12_crossing 7 = .ok (.getfield 65, 3) := by decide +kernel
theorem dX12_crossing_10 : decode cX12_crossing 10 = .ok (.iload_n 2, 1) := by decide +kernel
theorem dX12_crossing_11 : decode cX12_crossing 11 = .ok (.iaload, 1) := by decide +kernel
theorem dX12_crossing_12 : decode cX12_crossing 12 = .ok (.if_icmp .eq 23, 3) := by decide +kernel
theorem dX12_crossing_15 : decode cX12_crossing 15 = .ok (.aload_n 0, 1) := by decide +kernel
theorem dX12_crossing_16 : decode cX12_crossing 16 = .ok (.iload_n 1, 1) := by decide +kernel
theorem dX12_crossing_17 : decode cX12_crossing 17 = .ok (.iload_n 2, 1) := by decide +kernel
theorem dX12_crossing_18 : decode cX12_crossing 18 = .ok (.iload_n 3, 1) := by decide +kernel
theorem dX12_crossing_19 : decode cX12_crossing 19 = .ok (.invokevirtual 216, 3) := by decide +kernel
theorem dX12_crossing_22 : decode cX12_crossing 22 = .ok (.ifCond .eq 13, 3) := by decide +kernel
theorem dX12_crossing_25 : decode cX12_crossing 25 = .ok (.aload_n 0, 1) := by decide +kernel
theorem dX12_crossing_26 : decode cX12_crossing 26 = .ok (.iload_n 2, 1) := by decide +kernel
theorem dX12_crossing_27 : decode cX12_crossing 27 = .ok (.iload_n 1, 1) := by decide +kernel
theorem dX12_crossing_28 : decode cX12_crossing 28 = .ok (.iload_n 3, 1) := by decide +kernel
theorem dX12_crossing_29 : decode cX12_crossing 29 = .ok (.invokevirtual 216, 3) := by decide +kernel
theorem dX12_crossing_32 : decode cX12_crossing 32 = .ok (.ifCond .ne 5, 3) := by decide +kernel
theorem dX12_crossing_35 : decode cX12_crossing 35 = .ok (.iconst 0, 1) := by decide +kernel
theorem dX12_crossing_36 : decode cX12_crossing 36 = .ok (.ireturn, 1) := by decide +kernel
theorem dX12_crossing_37 : decode cX12_crossing 37 = .ok (.iconst 0, 1) := by decide +kernel
theorem dX12_crossing_38 : decode cX12_crossing 38 = .ok (.aload_n 0, 1) := by decide +kernel
theorem dX12_crossing_39 : decode cX12_crossing 39 = .ok (.iload_n 1, 1) := by decide +kernel
theorem dX12_crossing_40 : decode cX12_crossing 40 = .ok (.iload_n 2, 1) := by decide +kernel
theorem dX12_crossing_41 : decode cX12_crossing 41 = .ok (.iconst 3, 1) := by decide +kernel
theorem dX12_crossing_42 : decode cX12_crossing 42 = .ok (.aload_n 0, 1) := by decide +kernel
theorem dX12_crossing_43 : decode cX12_crossing 43 = .ok (.getfield 65, 3) := by decide +kernel
theorem dX12_crossing_46 : decode cX12_crossing 46 = .ok (.iload_n 1, 1) := by decide +kernel
theorem dX12_crossing_47 : decode cX12_crossing 47 = .ok (.iaload, 1) := by decide +kernel
theorem dX12_crossing_48 : decode cX12_crossing 48 = .ok (.isub, 1) := by decide +kernel
theorem dX12_crossing_49 : decode cX12_crossing 49 = .ok (.aload_n 0, 1) := by decide +kernel
theorem dX12_crossing_50 : decode cX12_crossing 50 = .ok (.getfield 65, 3) := by decide +kernel
theorem dX12_crossing_53 : decode cX12_crossing 53 = .ok (.iload_n 2, 1) := by decide +kernel
theorem dX12_crossing_54 : decode cX12_crossing 54 = .ok (.iaload, 1) := by decide +kernel
theorem dX12_crossing_55 : decode cX12_crossing 55 = .ok (.isub, 1) := by decide +kernel
theorem dX12_crossing_56 : decode cX12_crossing 56 = .ok (.invokevirtual 219, 3) := by decide +kernel
theorem dX12_crossing_59 : decode cX12_crossing 59 = .ok (.invokestatic 113, 3) := by decide +kernel
theorem dX12_crossing_62 : decode cX12_crossing 62 = .ok (.ireturn, 1) := by decide +kernel
theorem dX12_doubled_0 : decode cX12_doubled 0 = .ok (.aload_n 0, 1) := by decide +kernel
theorem dX12_doubled_1 : decode cX12_doubled 1 = .ok (.getfield 65, 3) := by decide +kernel
theorem dX12_doubled_4 : decode cX12_doubled 4 = .ok (.iload_n 1, 1) := by decide +kernel
theorem dX12_doubled_5 : decode cX12_doubled 5 = .ok (.iaload, 1) := by decide +kernel
theorem dX12_doubled_6 : decode cX12_doubled 6 = .ok (.istore 4, 2) := by decide +kernel
theorem dX12_doubled_8 : decode cX12_doubled 8 = .ok (.iload 4, 2) := by decide +kernel
theorem dX12_doubled_10 : decode cX12_doubled 10 = .ok (.aload_n 0, 1) := by decide +kernel
theorem dX12_doubled_11 : decode cX12_doubled 11 = .ok (.getfield 65, 3) := by decide +kernel
theorem dX12_doubled_14 : decode cX12_doubled 14 = .ok (.iload_n 2, 1) := by decide +kernel
theorem dX12_doubled_15 : decode cX12_doubled 15 = .ok (.iaload, 1) := by decide +kernel
theorem dX12_doubled_16 : decode cX12_doubled 16 = .ok (.if_icmp .ne 33, 3) := by decide +kernel
theorem dX12_doubled_19 : decode cX12_doubled 19 = .ok (.aload_n 0, 1) := by decide +kernel
theorem dX12_doubled_20 : decode cX12_doubled 20 = .ok (.getfield 59, 3) := by decide +kernel
theorem dX12_doubled_23 : decode cX12_doubled 23 = .ok (.iconst 3, 1) := by decide +kernel
theorem dX12_doubled_24 : decode cX12_doubled 24 = .ok (.iload_n 1, 1) := by decide +kernel
theorem dX12_doubled_25 : decode cX12_doubled 25 = .ok (.imul, 1) := by decide +kernel
theorem dX12_doubled_26 : decode cX12_doubled 26 = .ok (.iload 4, 2) := by decide +kernel
theorem dX12_doubled_28 : decode cX12_doubled 28 = .ok (.iadd, 1) := by decide +kernel
theorem dX12_doubled_29 : decode cX12_doubled 29 = .ok (.iaload, 1) := by decide +kernel
theorem dX12_doubled_30 : decode cX12_doubled 30 = .ok (.aload_n 0, 1) := by decide +kernel
theorem dX12_doubled_31 : decode cX12_doubled 31 = .ok (.getfield 59, 3) := by decide +kernel
theorem dX12_doubled_34 : decode cX12_doubled 34 = .ok (.iconst 3, 1) := by decide +kernel
theorem dX12_doubled_35 : decode cX12_doubled 35 = .ok (.iload_n 2, 1) := by decide +kernel
theorem dX12_doubled_36 : decode cX12_doubled 36 = .ok (.imul, 1) := by decide +kernel
theorem dX12_doubled_37 : decode cX12_doubled 37 = .ok (.iload 4, 2) := by decide +kernel
theorem dX12_doubled_39 : decode cX12_doubled 39 = .ok (.iadd, 1) := by decide +kernel
theorem dX12_doubled_40 : decode cX12_doubled 40 = .ok (.iaload, 1) := by decide +kernel
theorem dX12_doubled_41 : decode cX12_doubled 41 = .ok (.isub, 1) := by decide +kernel
theorem dX12_doubled_42 : decode cX12_doubled 42 = .ok (.invokestatic 222, 3) := by decide +kernel
theorem dX12_doubled_45 : decode cX12_doubled 45 = .ok (.iload_n 3, 1) := by decide +kernel
theorem dX12_doubled_46 : decode cX12_doubled 46 = .ok (.if_icmp .le 5, 3) := by decide +kernel
theorem dX12_doubled_49 : decode cX12_doubled 49 = .ok (.iconst 0, 1) := by decide +kernel
theorem dX12_doubled_50 : decode cX12_doubled 50 = .ok (.ireturn, 1) := by decide +kernel
theorem dX12_doubled_51 : decode cX12_doubled 51 = .ok (.aload_n 0, 1) := by decide +kernel
theorem dX12_doubled_52 : decode cX12_doubled 52 = .ok (.iload_n 1, 1) := by decide +kernel
theorem dX12_doubled_53 : decode cX12_doubled 53 = .ok (.iload_n 2, 1) := by decide +kernel
theorem dX12_doubled_54 : decode cX12_doubled 54 = .ok (.iload 4, 2) := by decide +kernel
theorem dX12_doubled_56 : decode cX12_doubled 56 = .ok (.iconst 1, 1) := by decide +kernel
theorem dX12_doubled_57 : decode cX12_doubled 57 = .ok (.iadd, 1) := by decide +kernel
theorem dX12_doubled_58 : decode cX12_doubled 58 = .ok (.iconst 3, 1) := by decide +kernel
theorem dX12_doubled_59 : decode cX12_doubled 59 = .ok (.irem, 1) := by decide +kernel
theorem dX12_doubled_60 : decode cX12_doubled 60 = .ok (.invokevirtual 219, 3) := by decide +kernel
theorem dX12_doubled_63 : decode cX12_doubled 63 = .ok (.istore 5, 2) := by decide +kernel
theorem dX12_doubled_65 : decode cX12_doubled 65 = .ok (.aload_n 0, 1) := by decide +kernel
theorem dX12_doubled_66 : decode cX12_doubled 66 = .ok (.iload_n 1, 1) := by decide +kernel
theorem dX12_doubled_67 : decode cX12_doubled 67 = .ok (.iload_n 2, 1) := by decide +kernel
theorem dX12_doubled_68 : decode cX12_doubled 68 = .ok (.iload 4, 2) := by decide +kernel
theorem dX12_doubled_70 : decode cX12_doubled 70 = .ok (.iconst 2, 1) := by decide +kernel
theorem dX12_doubled_71 : decode cX12_doubled 71 = .ok (.iadd, 1) := by decide +kernel
theorem dX12_doubled_72 : decode cX12_doubled 72 = .ok (.iconst 3, 1) := by decide +kernel
theorem dX12_doubled_73 : decode cX12_doubled 73 = .ok (.irem, 1) := by decide +kernel
theorem dX12_doubled_74 : decode cX12_doubled 74 = .ok (.invokevirtual 219, 3) := by decide +kernel
theorem dX12_doubled_77 : decode cX12_doubled 77 = .ok (.istore 6, 2) := by decide +kernel
theorem dX12_doubled_79 : decode cX12_doubled 79 = .ok (.iload 5, 2) := by decide +kernel
theorem dX12_doubled_81 : decode cX12_doubled 81 = .ok (.ifCond .le 16, 3) := by decide +kernel
theorem dX12_doubled_84 : decode cX12_doubled 84 = .ok (.iload 6, 2) := by decide +kernel
theorem dX12_doubled_86 : decode cX12_doubled 86 = .ok (.ifCond .le 11, 3) := by decide +kernel
theorem dX12_doubled_89 : decode cX12_doubled 89 = .ok (.iload 5, 2) := by decide +kernel
theorem dX12_doubled_91 : decode cX12_doubled 91 = .ok (.iload 6, 2) := by decide +kernel
theorem dX12_doubled_93 : decode cX12_doubled 93 = .ok (.imul, 1) := by decide +kernel
theorem dX12_doubled_94 : decode cX12_doubled 94 = .ok (.goto 4, 3) := by decide +kernel
theorem dX12_doubled_97 : decode cX12_doubled 97 = .ok (.iconst 0, 1) := by decide +kernel
theorem dX12_doubled_98 : decode cX12_doubled 98 = .ok (.ireturn, 1) := by decide +kernel
theorem dX12_firstCorner_0 : decode cX12_firstCorner 0 = .ok (.iload_n 0, 1) := by decide +kernel
theorem dX12_firstCorner_1 : decode cX12_firstCorner 1 = .ok (.iconst 1, 1) := by decide +kernel
theorem dX12_firstCorner_2 : decode cX12_firstCorner 2 = .ok (.if_icmp .ne 7, 3) := by decide +kernel
theorem dX12_firstCorner_5 : decode cX12_firstCorner 5 = .ok (.iconst 1, 1) := by decide +kernel
theorem dX12_firstCorner_6 : decode cX12_firstCorner 6 = .ok (.goto 13, 3) := by decide +kernel
theorem dX12_firstCorner_9 : decode cX12_firstCorner 9 = .ok (.iload_n 0, 1) := by decide +kernel
theorem dX12_firstCorner_10 : decode cX12_firstCorner 10 = .ok (.iconst 2, 1) := by decide +kernel
theorem dX12_firstCorner_11 : decode cX12_firstCorner 11 = .ok (.if_icmp .ne 7, 3) := by decide +kernel
theorem dX12_firstCorner_14 : decode cX12_firstCorner 14 = .ok (.iconst 3, 1) := by decide +kernel
theorem dX12_firstCorner_15 : decode cX12_firstCorner 15 = .ok (.goto 4, 3) := by decide +kernel
theorem dX12_firstCorner_18 : decode cX12_firstCorner 18 = .ok (.iconst 0, 1) := by decide +kernel
theorem dX12_firstCorner_19 : decode cX12_firstCorner 19 = .ok (.ireturn, 1) := by decide +kernel
theorem dX12_lastCorner_0 : decode cX12_lastCorner 0 = .ok (.iload_n 0, 1) := by decide +kernel
theorem dX12_lastCorner_1 : decode cX12_lastCorner 1 = .ok (.ifCond .ne 7, 3) := by decide +kernel
theorem dX12_lastCorner_4 : decode cX12_lastCorner 4 = .ok (.iconst 1, 1) := by decide +kernel
theorem dX12_lastCorner_5 : decode cX12_lastCorner 5 = .ok (.goto 13, 3) := by decide +kernel
theorem dX12_lastCorner_8 : decode cX12_lastCorner 8 = .ok (.iload_n 0, 1) := by decide +kernel
theorem dX12_lastCorner_9 : decode cX12_lastCorner 9 = .ok (.iconst 3, 1) := by decide +kernel
theorem dX12_lastCorner_10 : decode cX12_lastCorner 10 = .ok (.if_icmp .ne 7, 3) := by decide +kernel
theorem dX12_lastCorner_13 : decode cX12_lastCorner 13 = .ok (.iconst 3, 1) := by decide +kernel
theorem dX12_lastCorner_14 : decode cX12_lastCorner 14 = .ok (.goto 4, 3) := by decide +kernel
theorem dX12_lastCorner_17 : decode cX12_lastCorner 17 = .ok (.iconst 2, 1) := by decide +kernel
theorem dX12_lastCorner_18 : decode cX12_lastCorner 18 = .ok (.ireturn, 1) := by decide +kernel
theorem dX12_sideAxis_0 : decode cX12_sideAxis 0 = .ok (.iconst 3, 1) := by decide +kernel
theorem dX12_sideAxis_1 : decode cX12_sideAxis 1 = .ok (.iload_n 1, 1) := by decide +kernel
theorem dX12_sideAxis_2 : decode cX12_sideAxis 2 = .ok (.imul, 1) := by decide +kernel
theorem dX12_sideAxis_3 : decode cX12_sideAxis 3 = .ok (.istore_n 3, 1) := by decide +kernel
theorem dX12_sideAxis_4 : decode cX12_sideAxis 4 = .ok (.iconst 0, 1) := by decide +kernel
theorem dX12_sideAxis_5 : decode cX12_sideAxis 5 = .ok (.istore 4, 2) := by decide +kernel
theorem dX12_sideAxis_7 : decode cX12_sideAxis 7 = .ok (.iconst 0, 1) := by decide +kernel
theorem dX12_sideAxis_8 : decode cX12_sideAxis 8 = .ok (.istore 5, 2) := by decide +kernel
theorem dX12_sideAxis_10 : decode cX12_sideAxis 10 = .ok (.iload 5, 2) := by decide +kernel
theorem dX12_sideAxis_12 : decode cX12_sideAxis 12 = .ok (.iconst 3, 1) := by decide +kernel
theorem dX12_sideAxis_13 : decode cX12_sideAxis 13 = .ok (.if_icmp .ge 48, 3) := by decide +kernel
theorem dX12_sideAxis_16 : decode cX12_sideAxis 16 = .ok (.iload_n 2, 1) := by decide +kernel
theorem dX12_sideAxis_17 : decode cX12_sideAxis 17 = .ok (.iconst 2, 1) := by decide +kernel
theorem dX12_sideAxis_18 : decode cX12_sideAxis 18 = .ok (.irem, 1) := by decide +kernel
theorem dX12_sideAxis_19 : decode cX12_sideAxis 19 = .ok (.ifCond .ne 15, 3) := by decide +kernel
theorem dX12_sideAxis_22 : decode cX12_sideAxis 22 = .ok (.aload_n 0, 1) := by decide +kernel
theorem dX12_sideAxis_23 : decode cX12_sideAxis 23 = .ok (.getfield 50, 3) := by decide +kernel
theorem dX12_sideAxis_26 : decode cX12_sideAxis 26 = .ok (.iload_n 3, 1) := by decide +kernel
theorem dX12_sideAxis_27 : decode cX12_sideAxis 27 = .ok (.iload 5, 2) := by decide +kernel
theorem dX12_sideAxis_29 : decode cX12_sideAxis 29 = .ok (.iadd, 1) := by decide +kernel
theorem dX12_sideAxis_30 : decode cX12_sideAxis 30 = .ok (.iaload, 1) := by decide +kernel
theorem dX12_sideAxis_31 : decode cX12_sideAxis 31 = .ok (.goto 12, 3) := by decide +kernel
theorem dX12_sideAxis_34 : decode cX12_sideAxis 34 = .ok (.aload_n 0, 1) := by decide +kernel
theorem dX12_sideAxis_35 : decode cX12_sideAxis 35 = .ok (.getfield 53, 3) := by decide +kernel
theorem dX12_sideAxis_38 : decode cX12_sideAxis 38 = .ok (.iload_n 3, 1) := by decide +kernel
theorem dX12_sideAxis_39 : decode cX12_sideAxis 39 = .ok (.iload 5, 2) := by decide +kernel
theorem dX12_sideAxis_41 : decode cX12_sideAxis 41 = .ok (.iadd, 1) := by decide +kernel
theorem dX12_sideAxis_42 : decode cX12_sideAxis 42 = .ok (.iaload, 1) := by decide +kernel
theorem dX12_sideAxis_43 : decode cX12_sideAxis 43 = .ok (.ifCond .eq 8, 3) := by decide +kernel
theorem dX12_sideAxis_46 : decode cX12_sideAxis 46 = .ok (.iload 5, 2) := by decide +kernel
theorem dX12_sideAxis_48 : decode cX12_sideAxis 48 = .ok (.goto 5, 3) := by decide +kernel
theorem dX12_sideAxis_51 : decode cX12_sideAxis 51 = .ok (.iload 4, 2) := by decide +kernel
theorem dX12_sideAxis_53 : decode cX12_sideAxis 53 = .ok (.istore 4, 2) := by decide +kernel
theorem dX12_sideAxis_55 : decode cX12_sideAxis 55 = .ok (.iinc 5 1, 3) := by decide +kernel
theorem dX12_sideAxis_58 : decode cX12_sideAxis 58 = .ok (.goto (-48), 3) := by decide +kernel
theorem dX12_sideAxis_61 : decode cX12_sideAxis 61 = .ok (.iload 4, 2) := by decide +kernel
theorem dX12_sideAxis_63 : decode cX12_sideAxis 63 = .ok (.ireturn, 1) := by decide +kernel
theorem dX12_sideFrom_0 : decode cX12_sideFrom 0 = .ok (.aload_n 0, 1) := by decide +kernel
theorem dX12_sideFrom_1 : decode cX12_sideFrom 1 = .ok (.iload_n 1, 1) := by decide +kernel
theorem dX12_sideFrom_2 : decode cX12_sideFrom 2 = .ok (.iload_n 2, 1) := by decide +kernel
theorem dX12_sideFrom_3 : decode cX12_sideFrom 3 = .ok (.invokestatic 225, 3) := by decide +kernel
theorem dX12_sideFrom_6 : decode cX12_sideFrom 6 = .ok (.iload_n 3, 1) := by decide +kernel
theorem dX12_sideFrom_7 : decode cX12_sideFrom 7 = .ok (.invokevirtual 228, 3) := by decide +kernel
theorem dX12_sideFrom_10 : decode cX12_sideFrom 10 = .ok (.aload_n 0, 1) := by decide +kernel
theorem dX12_sideFrom_11 : decode cX12_sideFrom 11 = .ok (.iload_n 1, 1) := by decide +kernel
theorem dX12_sideFrom_12 : decode cX12_sideFrom 12 = .ok (.iload_n 2, 1) := by decide +kernel
theorem dX12_sideFrom_13 : decode cX12_sideFrom 13 = .ok (.invokestatic 231, 3) := by decide +kernel
theorem dX12_sideFrom_16 : decode cX12_sideFrom 16 = .ok (.iload_n 3, 1) := by decide +kernel
theorem dX12_sideFrom_17 : decode cX12_sideFrom 17 = .ok (.invokevirtual 228, 3) := by decide +kernel
theorem dX12_sideFrom_20 : decode cX12_sideFrom 20 = .ok (.invokestatic 110, 3) := by decide +kernel
theorem dX12_sideFrom_23 : decode cX12_sideFrom 23 = .ok (.ireturn, 1) := by decide +kernel
theorem dX12_sideTo_0 : decode cX12_sideTo 0 = .ok (.aload_n 0, 1) := by decide +kernel
theorem dX12_sideTo_1 : decode cX12_sideTo 1 = .ok (.iload_n 1, 1) := by decide +kernel
theorem dX12_sideTo_2 : decode cX12_sideTo 2 = .ok (.iload_n 2, 1) := by decide +kernel
theorem dX12_sideTo_3 : decode cX12_sideTo 3 = .ok (.invokestatic 225, 3) := by decide +kernel
theorem dX12_sideTo_6 : decode cX12_sideTo 6 = .ok (.iload_n 3, 1) := by decide +kernel
theorem dX12_sideTo_7 : decode cX12_sideTo 7 = .ok (.invokevirtual 228, 3) := by decide +kernel
theorem dX12_sideTo_10 : decode cX12_sideTo 10 = .ok (.aload_n 0, 1) := by decide +kernel
theorem dX12_sideTo_11 : decode cX12_sideTo 11 = .ok (.iload_n 1, 1) := by decide +kernel
theorem dX12_sideTo_12 : decode cX12_sideTo 12 = .ok (.iload_n 2, 1) := by decide +kernel
theorem dX12_sideTo_13 : decode cX12_sideTo 13 = .ok (.invokestatic 231, 3) := by decide +kernel
theorem dX12_sideTo_16 : decode cX12_sideTo 16 = .ok (.iload_n 3, 1) := by decide +kernel
theorem dX12_sideTo_17 : decode cX12_sideTo 17 = .ok (.invokevirtual 228, 3) := by decide +kernel
theorem dX12_sideTo_20 : decode cX12_sideTo 20 = .ok (.invokestatic 113, 3) := by decide +kernel
theorem dX12_sideTo_23 : decode cX12_sideTo 23 = .ok (.ireturn, 1) := by decide +kernel
theorem dX12_meet_0 : decode cX12_meet 0 = .ok (.aload_n 0, 1) := by decide +kernel
theorem dX12_meet_1 : decode cX12_meet 1 = .ok (.iload_n 1, 1) := by decide +kernel
theorem dX12_meet_2 : decode cX12_meet 2 = .ok (.iload_n 2, 1) := by decide +kernel
theorem dX12_meet_3 : decode cX12_meet 3 = .ok (.invokevirtual 234, 3) := by decide +kernel
theorem dX12_meet_6 : decode cX12_meet 6 = .ok (.istore 6, 2) := by decide +kernel
theorem dX12_meet_8 : decode cX12_meet 8 = .ok (.iload 6, 2) := by decide +kernel
theorem dX12_meet_10 : decode cX12_meet 10 = .ok (.aload_n 0, 1) := by decide +kernel
theorem dX12_meet_11 : decode cX12_meet 11 = .ok (.iload_n 3, 1) := by decide +kernel
theorem dX12_meet_12 : decode cX12_meet 12 = .ok (.iload 4, 2) := by decide +kernel
theorem dX12_meet_14 : decode cX12_meet 14 = .ok (.invokevirtual 234, 3) := by decide +kernel
theorem dX12_meet_17 : decode cX12_meet 17 = .ok (.if_icmp .eq 4, 3) := by decide +kernel
theorem dX12_meet_20 : decode cX12_meet 20 = .ok (.return_, 1) := by decide +kernel
theorem dX12_meet_21 : decode cX12_meet 21 = .ok (.iconst 0, 1) := by decide +kernel
theorem dX12_meet_22 : decode cX12_meet 22 = .ok (.istore 7, 2) := by decide +kernel
theorem dX12_meet_24 : decode cX12_meet 24 = .ok (.iconst 0, 1) := by decide +kernel
theorem dX12_meet_25 : decode cX12_meet 25 = .ok (.istore 8, 2) := by decide +kernel
theorem dX12_meet_27 : decode cX12_meet 27 = .ok (.iload 8, 2) := by decide +kernel
theorem dX12_meet_29 : decode cX12_meet 29 = .ok (.iconst 3, 1) := by decide +kernel
theorem dX12_meet_30 : decode cX12_meet 30 = .ok (.if_icmp .ge 49, 3) := by decide +kernel
theorem dX12_meet_33 : decode cX12_meet 33 = .ok (.iload 8, 2) := by decide +kernel
theorem dX12_meet_35 : decode cX12_meet 35 = .ok (.iload 6, 2) := by decide +kernel
theorem dX12_meet_37 : decode cX12_meet 37 = .ok (.if_icmp .ne 8, 3) := by decide +kernel
theorem dX12_meet_40 : decode cX12_meet 40 = .ok (.iload 7, 2) := by decide +kernel
theorem dX12_meet_42 : decode cX12_meet 42 = .ok (.goto 29, 3) := by decide +kernel
theorem dX12_meet_45 : decode cX12_meet 45 = .ok (.iload 7, 2) := by decide +kernel
theorem dX12_meet_47 : decode cX12_meet 47 = .ok (.aload_n 0, 1) := by decide +kernel
theorem dX12_meet_48 : decode cX12_meet 48 = .ok (.iload_n 1, 1) := by decide +kernel
theorem dX12_meet_49 : decode cX12_meet 49 = .ok (.iload_n 2, 1) := by decide +kernel
theorem dX12_meet_50 : decode cX12_meet 50 = .ok (.iload 8, 2) := by decide +kernel
theorem dX12_meet_52 : decode cX12_meet 52 = .ok (.invokevirtual 237, 3) := by decide +kernel
theorem dX12_meet_55 : decode cX12_meet 55 = .ok (.aload_n 0, 1) := by decide +kernel
theorem dX12_meet_56 : decode cX12_meet 56 = .ok (.iload_n 3, 1) := by decide +kernel
theorem dX12_meet_57 : decode cX12_meet 57 = .ok (.iload 4, 2) := by decide +kernel
theorem dX12_meet_59 : decode cX12_meet 59 = .ok (.iload 8, 2) := by decide +kernel
theorem dX12_meet_61 : decode cX12_meet 61 = .ok (.invokevirtual 237, 3) := by decide +kernel
theorem dX12_meet_64 : decode cX12_meet 64 = .ok (.isub, 1) := by decide +kernel
theorem dX12_meet_65 : decode cX12_meet 65 = .ok (.invokestatic 222, 3) := by decide +kernel
theorem dX12_meet_68 : decode cX12_meet 68 = .ok (.invokestatic 113, 3) := by decide +kernel
theorem dX12_meet_71 : decode cX12_meet 71 = .ok (.istore 7, 2) := by decide +kernel
theorem dX12_meet_73 : decode cX12_meet 73 = .ok (.iinc 8 1, 3) := by decide +kernel
theorem dX12_meet_76 : decode cX12_meet 76 = .ok (.goto (-49), 3) := by decide +kernel
theorem dX12_meet_79 : decode cX12_meet 79 = .ok (.aload_n 0, 1) := by decide +kernel
theorem dX12_meet_80 : decode cX12_meet 80 = .ok (.iload_n 1, 1) := by decide +kernel
theorem dX12_meet_81 : decode cX12_meet 81 = .ok (.iload_n 2, 1) := by decide +kernel
theorem dX12_meet_82 : decode cX12_meet 82 = .ok (.iload 6, 2) := by decide +kernel
theorem dX12_meet_84 : decode cX12_meet 84 = .ok (.invokevirtual 237, 3) := by decide +kernel
theorem dX12_meet_87 : decode cX12_meet 87 = .ok (.aload_n 0, 1) := by decide +kernel
theorem dX12_meet_88 : decode cX12_meet 88 = .ok (.iload_n 3, 1) := by decide +kernel
theorem dX12_meet_89 : decode cX12_meet 89 = .ok (.iload 4, 2) := by decide +kernel
theorem dX12_meet_91 : decode cX12_meet 91 = .ok (.iload 6, 2) := by decide +kernel
theorem dX12_meet_93 : decode cX12_meet 93 = .ok (.invokevirtual 237, 3) := by decide +kernel
theorem dX12_meet_96 : decode cX12_meet 96 = .ok (.invokestatic 113, 3) := by decide +kernel
theorem dX12_meet_99 : decode cX12_meet 99 = .ok (.istore 8, 2) := by decide +kernel
theorem dX12_meet_101 : decode cX12_meet 101 = .ok (.aload_n 0, 1) := by decide +kernel
theorem dX12_meet_102 : decode cX12_meet 102 = .ok (.iload_n 1, 1) := by decide +kernel
theorem dX12_meet_103 : decode cX12_meet 103 = .ok (.iload_n 2, 1) := by decide +kernel
theorem dX12_meet_104 : decode cX12_meet 104 = .ok (.iload 6, 2) := by decide +kernel
theorem dX12_meet_106 : decode cX12_meet 106 = .ok (.invokevirtual 240, 3) := by decide +kernel
theorem dX12_meet_109 : decode cX12_meet 109 = .ok (.aload_n 0, 1) := by decide +kernel
theorem dX12_meet_110 : decode cX12_meet 110 = .ok (.iload_n 3, 1) := by decide +kernel
theorem dX12_meet_111 : decode cX12_meet 111 = .ok (.iload 4, 2) := by decide +kernel
theorem dX12_meet_113 : decode cX12_meet 113 = .ok (.iload 6, 2) := by decide +kernel
theorem dX12_meet_115 : decode cX12_meet 115 = .ok (.invokevirtual 240, 3) := by decide +kernel
theorem dX12_meet_118 : decode cX12_meet 118 = .ok (.invokestatic 110, 3) := by decide +kernel
theorem dX12_meet_121 : decode cX12_meet 121 = .ok (.istore 9, 2) := by decide +kernel
theorem dX12_meet_123 : decode cX12_meet 123 = .ok (.iload 7, 2) := by decide +kernel
theorem dX12_meet_125 : decode cX12_meet 125 = .ok (.iload 5, 2) := by decide +kernel
theorem dX12_meet_127 : decode cX12_meet 127 = .ok (.if_icmp .gt 12, 3) := by decide +kernel
theorem dX12_meet_130 : decode cX12_meet 130 = .ok (.iload 9, 2) := by decide +kernel
theorem dX12_meet_132 : decode cX12_meet 132 = .ok (.iload 8, 2) := by decide +kernel
theorem dX12_meet_134 : decode cX12_meet 134 = .ok (.isub, 1) := by decide +kernel
theorem dX12_meet_135 : decode cX12_meet 135 = .ok (.iconst 1, 1) := by decide +kernel
theorem dX12_meet_136 : decode cX12_meet 136 = .ok (.if_icmp .ge 4, 3) := by decide +kernel
theorem dX12_meet_139 : decode cX12_meet 139 = .ok (.return_, 1) := by decide +kernel
theorem dX12_meet_140 : decode cX12_meet 140 = .ok (.bipush 9, 2) := by decide +kernel
theorem dX12_meet_142 : decode cX12_meet 142 = .ok (.aload_n 0, 1) := by decide +kernel
theorem dX12_meet_143 : decode cX12_meet 143 = .ok (.getfield 243, 3) := by decide +kernel
theorem dX12_meet_146 : decode cX12_meet 146 = .ok (.imul, 1) := by decide +kernel
theorem dX12_meet_147 : decode cX12_meet 147 = .ok (.istore 10, 2) := by decide +kernel
theorem dX12_meet_149 : decode cX12_meet 149 = .ok (.aload_n 0, 1) := by decide +kernel
theorem dX12_meet_150 : decode cX12_meet 150 = .ok (.getfield 68, 3) := by decide +kernel
theorem dX12_meet_153 : decode cX12_meet 153 = .ok (.iload 10, 2) := by decide +kernel
theorem dX12_meet_155 : decode cX12_meet 155 = .ok (.iload_n 1, 1) := by decide +kernel
theorem dX12_meet_156 : decode cX12_meet 156 = .ok (.iastore, 1) := by decide +kernel
theorem dX12_meet_157 : decode cX12_meet 157 = .ok (.aload_n 0, 1) := by decide +kernel
theorem dX12_meet_158 : decode cX12_meet 158 = .ok (.getfield 68, 3) := by decide +kernel
theorem dX12_meet_161 : decode cX12_meet 161 = .ok (.iload 10, 2) := by decide +kernel
theorem dX12_meet_163 : decode cX12_meet 163 = .ok (.iconst 1, 1) := by decide +kernel
theorem dX12_meet_164 : decode cX12_meet 164 = .ok (.iadd, 1) := by decide +kernel
theorem dX12_meet_165 : decode cX12_meet 165 = .ok (.iload_n 2, 1) := by decide +kernel
theorem dX12_meet_166 : decode cX12_meet 166 = .ok (.iastore, 1) := by decide +kernel
theorem dX12_meet_167 : decode cX12_meet 167 = .ok (.aload_n 0, 1) := by decide +kernel
theorem dX12_meet_168 : decode cX12_meet 168 = .ok (.getfield 68, 3) := by decide +kernel
theorem dX12_meet_171 : decode cX12_meet 171 = .ok (.iload 10, 2) := by decide +kernel
theorem dX12_meet_173 : decode cX12_meet 173 = .ok (.iconst 2, 1) := by decide +kernel
theorem dX12_meet_174 : decode cX12_meet 174 = .ok (.iadd, 1) := by decide +kernel
theorem dX12_meet_175 : decode cX12_meet 175 = .ok (.iload_n 3, 1) := by decide +kernel
theorem dX12_meet_176 : decode cX12_meet 176 = .ok (.iastore, 1) := by decide +kernel
theorem dX12_meet_177 : decode cX12_meet 177 = .ok (.aload_n 0, 1) := by decide +kernel
theorem dX12_meet_178 : decode cX12_meet 178 = .ok (.getfield 68, 3) := by decide +kernel
theorem dX12_meet_181 : decode cX12_meet 181 = .ok (.iload 10, 2) := by decide +kernel
theorem dX12_meet_183 : decode cX12_meet 183 = .ok (.iconst 3, 1) := by decide +kernel
theorem dX12_meet_184 : decode cX12_meet 184 = .ok (.iadd, 1) := by decide +kernel
theorem dX12_meet_185 : decode cX12_meet 185 = .ok (.iload 4, 2) := by decide +kernel
theorem dX12_meet_187 : decode cX12_meet 187 = .ok (.iastore, 1) := by decide +kernel
theorem dX12_meet_188 : decode cX12_meet 188 = .ok (.aload_n 0, 1) := by decide +kernel
theorem dX12_meet_189 : decode cX12_meet 189 = .ok (.getfield 68, 3) := by decide +kernel
theorem dX12_meet_192 : decode cX12_meet 192 = .ok (.iload 10, 2) := by decide +kernel
theorem dX12_meet_194 : decode cX12_meet 194 = .ok (.iconst 4, 1) := by decide +kernel
theorem dX12_meet_195 : decode cX12_meet 195 = .ok (.iadd, 1) := by decide +kernel
theorem dX12_meet_196 : decode cX12_meet 196 = .ok (.iload 6, 2) := by decide +kernel
theorem dX12_meet_198 : decode cX12_meet 198 = .ok (.iastore, 1) := by decide +kernel
theorem dX12_meet_199 : decode cX12_meet 199 = .ok (.aload_n 0, 1) := by decide +kernel
theorem dX12_meet_200 : decode cX12_meet 200 = .ok (.getfield 68, 3) := by decide +kernel
theorem dX12_meet_203 : decode cX12_meet 203 = .ok (.iload 10, 2) := by decide +kernel
theorem dX12_meet_205 : decode cX12_meet 205 = .ok (.iconst 5, 1) := by decide +kernel
theorem dX12_meet_206 : decode cX12_meet 206 = .ok (.iadd, 1) := by decide +kernel
theorem dX12_meet_207 : decode cX12_meet 207 = .ok (.iload 8, 2) := by decide +kernel
theorem dX12_meet_209 : decode cX12_meet 209 = .ok (.iastore, 1) := by decide +kernel
theorem dX12_meet_210 : decode cX12_meet 210 = .ok (.aload_n 0, 1) := by decide +kernel
theorem dX12_meet_211 : decode cX12_meet 211 = .ok (.getfield 68, 3) := by decide +kernel
theorem dX12_meet_214 : decode cX12_meet 214 = .ok (.iload 10, 2) := by decide +kernel
theorem dX12_meet_216 : decode cX12_meet 216 = .ok (.bipush 6, 2) := by decide +kernel
theorem dX12_meet_218 : decode cX12_meet 218 = .ok (.iadd, 1) := by decide +kernel
theorem dX12_meet_219 : decode cX12_meet 219 = .ok (.iload 9, 2) := by decide +kernel
theorem dX12_meet_221 : decode cX12_meet 221 = .ok (.iastore, 1) := by decide +kernel
theorem dX12_meet_222 : decode cX12_meet 222 = .ok (.aload_n 0, 1) := by decide +kernel
theorem dX12_meet_223 : decode cX12_meet 223 = .ok (.getfield 68, 3) := by decide +kernel
theorem dX12_meet_226 : decode cX12_meet 226 = .ok (.iload 10, 2) := by decide +kernel
theorem dX12_meet_228 : decode cX12_meet 228 = .ok (.bipush 7, 2) := by decide +kernel
theorem dX12_meet_230 : decode cX12_meet 230 = .ok (.iadd, 1) := by decide +kernel
theorem dX12_meet_231 : decode cX12_meet 231 = .ok (.iload 7, 2) := by decide +kernel
theorem dX12_meet_233 : decode cX12_meet 233 = .ok (.iastore, 1) := by decide +kernel
theorem dX12_meet_234 : decode cX12_meet 234 = .ok (.aload_n 0, 1) := by decide +kernel
theorem dX12_meet_235 : decode cX12_meet 235 = .ok (.getfield 68, 3) := by decide +kernel
theorem dX12_meet_238 : decode cX12_meet 238 = .ok (.iload 10, 2) := by decide +kernel
theorem dX12_meet_240 : decode cX12_meet 240 = .ok (.bipush 8, 2) := by decide +kernel
theorem dX12_meet_242 : decode cX12_meet 242 = .ok (.iadd, 1) := by decide +kernel
theorem dX12_meet_243 : decode cX12_meet 243 = .ok (.iload_n 3, 1) := by decide +kernel
theorem dX12_meet_244 : decode cX12_meet 244 = .ok (.ifCond .le 37, 3) := by decide +kernel
theorem dX12_meet_247 : decode cX12_meet 247 = .ok (.aload_n 0, 1) := by decide +kernel
theorem dX12_meet_248 : decode cX12_meet 248 = .ok (.iload_n 3, 1) := by decide +kernel
theorem dX12_meet_249 : decode cX12_meet 249 = .ok (.iconst 0, 1) := by decide +kernel
theorem dX12_meet_250 : decode cX12_meet 250 = .ok (.invokevirtual 91, 3) := by decide +kernel
theorem dX12_meet_253 : decode cX12_meet 253 = .ok (.iload_n 1, 1) := by decide +kernel
theorem dX12_meet_254 : decode cX12_meet 254 = .ok (.if_icmp .ne 27, 3) := by decide +kernel
theorem dX12_meet_257 : decode cX12_meet 257 = .ok (.aload_n 0, 1) := by decide +kernel
theorem dX12_meet_258 : decode cX12_meet 258 = .ok (.iload_n 3, 1) := by decide +kernel
theorem dX12_meet_259 : decode cX12_meet 259 = .ok (.iconst 1, 1) := by decide +kernel
theorem dX12_meet_260 : decode cX12_meet 260 = .ok (.invokevirtual 91, 3) := by decide +kernel
theorem dX12_meet_263 : decode cX12_meet 263 = .ok (.iload_n 2, 1) := by decide +kernel
theorem dX12_meet_264 : decode cX12_meet 264 = .ok (.if_icmp .ne 17, 3) := by decide +kernel
theorem dX12_meet_267 : decode cX12_meet 267 = .ok (.iload_n 2, 1) := by decide +kernel
theorem dX12_meet_268 : decode cX12_meet 268 = .ok (.iconst 2, 1) := by decide +kernel
theorem dX12_meet_269 : decode cX12_meet 269 = .ok (.iadd, 1) := by decide +kernel
theorem dX12_meet_270 : decode cX12_meet 270 = .ok (.iconst 4, 1) := by decide +kernel
theorem dX12_meet_271 : decode cX12_meet 271 = .ok (.irem, 1) := by decide +kernel
theorem dX12_meet_272 : decode cX12_meet 272 = .ok (.iload 4, 2) := by decide +kernel
theorem dX12_meet_274 : decode cX12_meet 274 = .ok (.if_icmp .ne 7, 3) := by decide +kernel
theorem dX12_meet_277 : decode cX12_meet 277 = .ok (.iconst 1, 1) := by decide +kernel
theorem dX12_meet_278 : decode cX12_meet 278 = .ok (.goto 4, 3) := by decide +kernel
theorem dX12_meet_281 : decode cX12_meet 281 = .ok (.iconst 0, 1) := by decide +kernel
theorem dX12_meet_282 : decode cX12_meet 282 = .ok (.iastore, 1) := by decide +kernel
theorem dX12_meet_283 : decode cX12_meet 283 = .ok (.aload_n 0, 1) := by decide +kernel
theorem dX12_meet_284 : decode cX12_meet 284 = .ok (.dup, 1) := by decide +kernel
theorem dX12_meet_285 : decode cX12_meet 285 = .ok (.getfield 243, 3) := by decide +kernel
theorem dX12_meet_288 : decode cX12_meet 288 = .ok (.iconst 1, 1) := by decide +kernel
theorem dX12_meet_289 : decode cX12_meet 289 = .ok (.iadd, 1) := by decide +kernel
theorem dX12_meet_290 : decode cX12_meet 290 = .ok (.putfield 243, 3) := by decide +kernel
theorem dX12_meet_293 : decode cX12_meet 293 = .ok (.return_, 1) := by decide +kernel
theorem dX12_findSeams_0 : decode cX12_findSeams 0 = .ok (.aload_n 0, 1) := by decide +kernel
theorem dX12_findSeams_1 : decode cX12_findSeams 1 = .ok (.iconst (-1), 1) := by decide +kernel
theorem dX12_findSeams_2 : decode cX12_findSeams 2 = .ok (.invokevirtual 246, 3) := by decide +kernel
theorem dX12_findSeams_5 : decode cX12_findSeams 5 = .ok (.aload_n 0, 1) := by decide +kernel
theorem dX12_findSeams_6 : decode cX12_findSeams 6 = .ok (.iconst 0, 1) := by decide +kernel
theorem dX12_findSeams_7 : decode cX12_findSeams 7 = .ok (.putfield 243, 3) := by decide +kernel
theorem dX12_findSeams_10 : decode cX12_findSeams 10 = .ok (.iconst 0, 1) := by decide +kernel
theorem dX12_findSeams_11 : decode cX12_findSeams 11 = .ok (.istore_n 2, 1) := by decide +kernel
theorem dX12_findSeams_12 : decode cX12_findSeams 12 = .ok (.iload_n 2, 1) := by decide +kernel
theorem dX12_findSeams_13 : decode cX12_findSeams 13 = .ok (.aload_n 0, 1) := by decide +kernel
theorem dX12_findSeams_14 : decode cX12_findSeams 14 = .ok (.invokevirtual 83, 3) := by decide +kernel
theorem dX12_findSeams_17 : decode cX12_findSeams 17 = .ok (.if_icmp .ge 68, 3) := by decide +kernel
theorem dX12_findSeams_20 : decode cX12_findSeams 20 = .ok (.iconst 0, 1) := by decide +kernel
theorem dX12_findSeams_21 : decode cX12_findSeams 21 = .ok (.istore_n 3, 1) := by decide +kernel
theorem dX12_findSeams_22 : decode cX12_findSeams 22 = .ok (.iload_n 3, 1) := by decide +kernel
theorem dX12_findSeams_23 : decode cX12_findSeams 23 = .ok (.iconst 4, 1) := by decide +kernel
theorem dX12_findSeams_24 : decode cX12_findSeams 24 = .ok (.if_icmp .ge 55, 3) := by decide +kernel
theorem dX12_findSeams_27 : decode cX12_findSeams 27 = .ok (.iload_n 2, 1) := by decide +kernel
theorem dX12_findSeams_28 : decode cX12_findSeams 28 = .ok (.iconst 1, 1) := by decide +kernel
theorem dX12_findSeams_29 : decode cX12_findSeams 29 = .ok (.iadd, 1) := by decide +kernel
theorem dX12_findSeams_30 : decode cX12_findSeams 30 = .ok (.istore 4, 2) := by decide +kernel
theorem dX12_findSeams_32 : decode cX12_findSeams 32 = .ok (.iload 4, 2) := by decide +kernel
theorem dX12_findSeams_34 : decode cX12_findSeams 34 = .ok (.aload_n 0, 1) := by decide +kernel
theorem dX12_findSeams_35 : decode cX12_findSeams 35 = .ok (.invokevirtual 83, 3) := by decide +kernel
theorem dX12_findSeams_38 : decode cX12_findSeams 38 = .ok (.if_icmp .ge 35, 3) := by decide +kernel
theorem dX12_findSeams_41 : decode cX12_findSeams 41 = .ok (.iconst 0, 1) := by decide +kernel
theorem dX12_findSeams_42 : decode cX12_findSeams 42 = .ok (.istore 5, 2) := by decide +kernel
theorem dX12_findSeams_44 : decode cX12_findSeams 44 = .ok (.iload 5, 2) := by decide +kernel
theorem dX12_findSeams_46 : decode cX12_findSeams 46 = .ok (.iconst 4, 1) := by decide +kernel
theorem dX12_findSeams_47 : decode cX12_findSeams 47 = .ok (.if_icmp .ge 20, 3) := by decide +kernel
theorem dX12_findSeams_50 : decode cX12_findSeams 50 = .ok (.aload_n 0, 1) := by decide +kernel
theorem dX12_findSeams_51 : decode cX12_findSeams 51 = .ok (.iload_n 2, 1) := by decide +kernel
theorem dX12_findSeams_52 : decode cX12_findSeams 52 = .ok (.iload_n 3, 1) := by decide +kernel
theorem dX12_findSeams_53 : decode cX12_findSeams 53 = .ok (.iload 4, 2) := by decide +kernel
theorem dX12_findSeams_55 : decode cX12_findSeams 55 = .ok (.iload 5, 2) := by decide +kernel
theorem dX12_findSeams_57 : decode cX12_findSeams 57 = .ok (.iload_n 1, 1) := by decide +kernel
theorem dX12_findSeams_58 : decode cX12_findSeams 58 = .ok (.invokevirtual 249, 3) := by decide +kernel
theorem dX12_findSeams_61 : decode cX12_findSeams 61 = .ok (.iinc 5 1, 3) := by decide +kernel
theorem dX12_findSeams_64 : decode cX12_findSeams 64 = .ok (.goto (-20), 3) := by decide +kernel
theorem dX12_findSeams_67 : decode cX12_findSeams 67 = .ok (.iinc 4 1, 3) := by decide +kernel
theorem dX12_findSeams_70 : decode cX12_findSeams 70 = .ok (.goto (-38), 3) := by decide +kernel
theorem dX12_findSeams_73 : decode cX12_findSeams 73 = .ok (.iinc 3 1, 3) := by decide +kernel
theorem dX12_findSeams_76 : decode cX12_findSeams 76 = .ok (.goto (-54), 3) := by decide +kernel
theorem dX12_findSeams_79 : decode cX12_findSeams 79 = .ok (.iinc 2 1, 3) := by decide +kernel
theorem dX12_findSeams_82 : decode cX12_findSeams 82 = .ok (.goto (-70), 3) := by decide +kernel
theorem dX12_findSeams_85 : decode cX12_findSeams 85 = .ok (.return_, 1) := by decide +kernel
theorem dX12_openOf_0 : decode cX12_openOf 0 = .ok (.aload_n 0, 1) := by decide +kernel
theorem dX12_openOf_1 : decode cX12_openOf 1 = .ok (.iload_n 1, 1) := by decide +kernel
theorem dX12_openOf_2 : decode cX12_openOf 2 = .ok (.iload_n 2, 1) := by decide +kernel
theorem dX12_openOf_3 : decode cX12_openOf 3 = .ok (.invokevirtual 234, 3) := by decide +kernel
theorem dX12_openOf_6 : decode cX12_openOf 6 = .ok (.istore 4, 2) := by decide +kernel
theorem dX12_openOf_8 : decode cX12_openOf 8 = .ok (.iconst 0, 1) := by decide +kernel
theorem dX12_openOf_9 : decode cX12_openOf 9 = .ok (.istore 5, 2) := by decide +kernel
theorem dX12_openOf_11 : decode cX12_openOf 11 = .ok (.aload_n 0, 1) := by decide +kernel
theorem dX12_openOf_12 : decode cX12_openOf 12 = .ok (.iload_n 1, 1) := by decide +kernel
theorem dX12_openOf_13 : decode cX12_openOf 13 = .ok (.iload_n 2, 1) := by decide +kernel
theorem dX12_openOf_14 : decode cX12_openOf 14 = .ok (.iload 4, 2) := by decide +kernel
theorem dX12_openOf_16 : decode cX12_openOf 16 = .ok (.invokevirtual 237, 3) := by decide +kernel
theorem dX12_openOf_19 : decode cX12_openOf 19 = .ok (.istore 6, 2) := by decide +kernel
theorem dX12_openOf_21 : decode cX12_openOf 21 = .ok (.iload 6, 2) := by decide +kernel
theorem dX12_openOf_23 : decode cX12_openOf 23 = .ok (.aload_n 0, 1) := by decide +kernel
theorem dX12_openOf_24 : decode cX12_openOf 24 = .ok (.iload_n 1, 1) := by decide +kernel
theorem dX12_openOf_25 : decode cX12_openOf 25 = .ok (.iload_n 2, 1) := by decide +kernel
theorem dX12_openOf_26 : decode cX12_openOf 26 = .ok (.iload 4, 2) := by decide +kernel
theorem dX12_openOf_28 : decode cX12_openOf 28 = .ok (.invokevirtual 240, 3) := by decide +kernel
theorem dX12_openOf_31 : decode cX12_openOf 31 = .ok (.if_icmp .ge 155, 3) := by decide +kernel
theorem dX12_openOf_34 : decode cX12_openOf 34 = .ok (.iconst 0, 1) := by decide +kernel
theorem dX12_openOf_35 : decode cX12_openOf 35 = .ok (.istore 7, 2) := by decide +kernel
theorem dX12_openOf_37 : decode cX12_openOf 37 = .ok (.iconst 0, 1) := by decide +kernel
theorem dX12_openOf_38 : decode cX12_openOf 38 = .ok (.istore 8, 2) := by decide +kernel
theorem dX12_openOf_40 : decode cX12_openOf 40 = .ok (.iload 8, 2) := by decide +kernel
theorem dX12_openOf_42 : decode cX12_openOf 42 = .ok (.bipush 9, 2) := by decide +kernel
theorem dX12_openOf_44 : decode cX12_openOf 44 = .ok (.aload_n 0, 1) := by decide +kernel
theorem dX12_openOf_45 : decode cX12_openOf 45 = .ok (.getfield 243, 3) := by decide +kernel
theorem dX12_openOf_48 : decode cX12_openOf 48 = .ok (.imul, 1) := by decide +kernel
theorem dX12_openOf_49 : decode cX12_openOf 49 = .ok (.if_icmp .ge 116, 3) := by decide +kernel
theorem dX12_openOf_52 : decode cX12_openOf 52 = .ok (.aload_n 0, 1) := by decide +kernel
theorem dX12_openOf_53 : decode cX12_openOf 53 = .ok (.getfield 68, 3) := by decide +kernel
theorem dX12_openOf_56 : decode cX12_openOf 56 = .ok (.iload 8, 2) := by decide +kernel
theorem dX12_openOf_58 : decode cX12_openOf 58 = .ok (.iaload, 1) := by decide +kernel
theorem dX12_openOf_59 : decode cX12_openOf 59 = .ok (.iload_n 1, 1) := by decide +kernel
theorem dX12_openOf_60 : decode cX12_openOf 60 = .ok (.if_icmp .ne 16, 3) := by decide +kernel
theorem dX12_openOf_63 : decode cX12_openOf 63 = .ok (.aload_n 0, 1) := by decide +kernel
theorem dX12_openOf_64 : decode cX12_openOf 64 = .ok (.getfield 68, 3) := by decide +kernel
theorem dX12_openOf_67 : decode cX12_openOf 67 = .ok (.iload 8, 2) := by decide +kernel
theorem dX12_openOf_69 : decode cX12_openOf 69 = .ok (.iconst 1, 1) := by decide +kernel
theorem dX12_openOf_70 : decode cX12_openOf 70 = .ok (.iadd, 1) := by decide +kernel
theorem dX12_openOf_71 : decode cX12_openOf 71 = .ok (.iaload, 1) := by decide +kernel
theorem dX12_openOf_72 : decode cX12_openOf 72 = .ok (.iload_n 2, 1) := by decide +kernel
theorem dX12_openOf_73 : decode cX12_openOf 73 = .ok (.if_icmp .eq 29, 3) := by decide +kernel
theorem dX12_openOf_76 : decode cX12_openOf 76 = .ok (.aload_n 0, 1) := by decide +kernel
theorem dX12_openOf_77 : decode cX12_openOf 77 = .ok (.getfield 68, 3) := by decide +kernel
theorem dX12_openOf_80 : decode cX12_openOf 80 = .ok (.iload 8, 2) := by decide +kernel
theorem dX12_openOf_82 : decode cX12_openOf 82 = .ok (.iconst 2, 1) := by decide +kernel
theorem dX12_openOf_83 : decode cX12_openOf 83 = .ok (.iadd, 1) := by decide +kernel
theorem dX12_openOf_84 : decode cX12_openOf 84 = .ok (.iaload, 1) := by decide +kernel
theorem dX12_openOf_85 : decode cX12_openOf 85 = .ok (.iload_n 1, 1) := by decide +kernel
theorem dX12_openOf_86 : decode cX12_openOf 86 = .ok (.if_icmp .ne 20, 3) := by decide +kernel
theorem dX12_openOf_89 : decode cX12_openOf 89 = .ok (.aload_n 0, 1) := by decide +kernel
theorem dX12_openOf_90 : decode cX12_openOf 90 = .ok (.getfield 68, 3) := by decide +kernel
theorem dX12_openOf_93 : decode cX12_openOf 93 = .ok (.iload 8, 2) := by decide +kernel
theorem dX12_openOf_95 : decode cX12_openOf 95 = .ok (.iconst 3, 1) := by decide +kernel
theorem dX12_openOf_96 : decode cX12_openOf 96 = .ok (.iadd, 1) := by decide +kernel
theorem dX12_openOf_97 : decode cX12_openOf 97 = .ok (.iaload, 1) := by decide +kernel
theorem dX12_openOf_98 : decode cX12_openOf 98 = .ok (.iload_n 2, 1) := by decide +kernel
theorem dX12_openOf_99 : decode cX12_openOf 99 = .ok (.if_icmp .ne 7, 3) := by decide +kernel
theorem dX12_openOf_102 : decode cX12_openOf 102 = .ok (.iconst 1, 1) := by decide +kernel
theorem dX12_openOf_103 : decode cX12_openOf 103 = .ok (.goto 4, 3) := by decide +kernel
theorem dX12_openOf_106 : decode cX12_openOf 106 = .ok (.iconst 0, 1) := by decide +kernel
theorem dX12_openOf_107 : decode cX12_openOf 107 = .ok (.istore 9, 2) := by decide +kernel
theorem dX12_openOf_109 : decode cX12_openOf 109 = .ok (.iload 7, 2) := by decide +kernel
theorem dX12_openOf_111 : decode cX12_openOf 111 = .ok (.ifCond .ne 41, 3) := by decide +kernel
theorem dX12_openOf_114 : decode cX12_openOf 114 = .ok (.iload 9, 2) := by decide +kernel
theorem dX12_openOf_116 : decode cX12_openOf 116 = .ok (.ifCond .eq 40, 3) := by decide +kernel
theorem dX12_openOf_119 : decode cX12_openOf 119 = .ok (.iload 6, 2) := by decide +kernel
theorem dX12_openOf_121 : decode cX12_openOf 121 = .ok (.aload_n 0, 1) := by decide +kernel
theorem dX12_openOf_122 : decode cX12_openOf 122 = .ok (.getfield 68, 3) := by decide +kernel
theorem dX12_openOf_125 : decode cX12_openOf 125 = .ok (.iload 8, 2) := by decide +kernel
theorem dX12_openOf_127 : decode cX12_openOf 127 = .ok (.iconst 5, 1) := by decide +kernel
theorem dX12_openOf_128 : decode cX12_openOf 128 = .ok (.iadd, 1) := by decide +kernel
theorem dX12_openOf_129 : decode cX12_openOf 129 = .ok (.iaload, 1) := by decide +kernel
theorem dX12_openOf_130 : decode cX12_openOf 130 = .ok (.iload_n 3, 1) := by decide +kernel
theorem dX12_openOf_131 : decode cX12_openOf 131 = .ok (.isub, 1) := by decide +kernel
theorem dX12_openOf_132 : decode cX12_openOf 132 = .ok (.if_icmp .lt 24, 3) := by decide +kernel
theorem dX12_openOf_135 : decode cX12_openOf 135 = .ok (.iload 6, 2) := by decide +kernel
theorem dX12_openOf_137 : decode cX12_openOf 137 = .ok (.aload_n 0, 1) := by decide +kernel
theorem dX12_openOf_138 : decode cX12_openOf 138 = .ok (.getfield 68, 3) := by decide +kernel
theorem dX12_openOf_141 : decode cX12_openOf 141 = .ok (.iload 8, 2) := by decide +kernel
theorem dX12_openOf_143 : decode cX12_openOf 143 = .ok (.bipush 6, 2) := by decide +kernel
theorem dX12_openOf_145 : decode cX12_openOf 145 = .ok (.iadd, 1) := by decide +kernel
theorem dX12_openOf_146 : decode cX12_openOf 146 = .ok (.iaload, 1) := by decide +kernel
theorem dX12_openOf_147 : decode cX12_openOf 147 = .ok (.iload_n 3, 1) := by decide +kernel
theorem dX12_openOf_148 : decode cX12_openOf 148 = .ok (.iadd, 1) := by decide +kernel
theorem dX12_openOf_149 : decode cX12_openOf 149 = .ok (.if_icmp .ge 7, 3) := by decide +kernel
theorem dX12_openOf_152 : decode cX12_openOf 152 = .ok (.iconst 1, 1) := by decide +kernel
theorem dX12_openOf_153 : decode cX12_openOf 153 = .ok (.goto 4, 3) := by decide +kernel
theorem dX12_openOf_156 : decode cX12_openOf 156 = .ok (.iconst 0, 1) := by decide +kernel
theorem dX12_openOf_157 : decode cX12_openOf 157 = .ok (.istore 7, 2) := by decide +kernel
theorem dX12_openOf_159 : decode cX12_openOf 159 = .ok (.iinc 8 9, 3) := by decide +kernel
theorem dX12_openOf_162 : decode cX12_openOf 162 = .ok (.goto (-122), 3) := by decide +kernel
theorem dX12_openOf_165 : decode cX12_openOf 165 = .ok (.iload 5, 2) := by decide +kernel
theorem dX12_openOf_167 : decode cX12_openOf 167 = .ok (.iload 7, 2) := by decide +kernel
theorem dX12_openOf_169 : decode cX12_openOf 169 = .ok (.ifCond .eq 7, 3) := by decide +kernel
theorem dX12_openOf_172 : decode cX12_openOf 172 = .ok (.iconst 0, 1) := by decide +kernel
theorem dX12_openOf_173 : decode cX12_openOf 173 = .ok (.goto 4, 3) := by decide +kernel
theorem dX12_openOf_176 : decode cX12_openOf 176 = .ok (.iconst 1, 1) := by decide +kernel
theorem dX12_openOf_177 : decode cX12_openOf 177 = .ok (.iadd, 1) := by decide +kernel
theorem dX12_openOf_178 : decode cX12_openOf 178 = .ok (.istore 5, 2) := by decide +kernel
theorem dX12_openOf_180 : decode cX12_openOf 180 = .ok (.iinc 6 1, 3) := by decide +kernel
theorem dX12_openOf_183 : decode cX12_openOf 183 = .ok (.goto (-162), 3) := by decide +kernel
theorem dX12_openOf_186 : decode cX12_openOf 186 = .ok (.iload 5, 2) := by decide +kernel
theorem dX12_openOf_188 : decode cX12_openOf 188 = .ok (.ireturn, 1) := by decide +kernel
theorem dX12_covered_0 : decode cX12_covered 0 = .ok (.aload_n 0, 1) := by decide +kernel
theorem dX12_covered_1 : decode cX12_covered 1 = .ok (.iload_n 1, 1) := by decide +kernel
theorem dX12_covered_2 : decode cX12_covered 2 = .ok (.bipush 6, 2) := by decide +kernel
theorem dX12_covered_4 : decode cX12_covered 4 = .ok (.invokevirtual 91, 3) := by decide +kernel
theorem dX12_covered_7 : decode cX12_covered 7 = .ok (.istore_n 3, 1) := by decide +kernel
theorem dX12_covered_8 : decode cX12_covered 8 = .ok (.iconst 1, 1) := by decide +kernel
theorem dX12_covered_9 : decode cX12_covered 9 = .ok (.istore 4, 2) := by decide +kernel
theorem dX12_covered_11 : decode cX12_covered 11 = .ok (.iconst 0, 1) := by decide +kernel
theorem dX12_covered_12 : decode cX12_covered 12 = .ok (.istore 5, 2) := by decide +kernel
theorem dX12_covered_14 : decode cX12_covered 14 = .ok (.iload 5, 2) := by decide +kernel
theorem dX12_covered_16 : decode cX12_covered 16 = .ok (.iconst 3, 1) := by decide +kernel
theorem dX12_covered_17 : decode cX12_covered 17 = .ok (.if_icmp .ge 46, 3) := by decide +kernel
theorem dX12_covered_20 : decode cX12_covered 20 = .ok (.iload 4, 2) := by decide +kernel
theorem dX12_covered_22 : decode cX12_covered 22 = .ok (.ifCond .eq 32, 3) := by decide +kernel
theorem dX12_covered_25 : decode cX12_covered 25 = .ok (.aload_n 0, 1) := by decide +kernel
theorem dX12_covered_26 : decode cX12_covered 26 = .ok (.getfield 56, 3) := by decide +kernel
theorem dX12_covered_29 : decode cX12_covered 29 = .ok (.iconst 3, 1) := by decide +kernel
theorem dX12_covered_30 : decode cX12_covered 30 = .ok (.iload_n 1, 1) := by decide +kernel
theorem dX12_covered_31 : decode cX12_covered 31 = .ok (.imul, 1) := by decide +kernel
theorem dX12_covered_32 : decode cX12_covered 32 = .ok (.iload 5, 2) := by decide +kernel
theorem dX12_covered_34 : decode cX12_covered 34 = .ok (.iadd, 1) := by decide +kernel
theorem dX12_covered_35 : decode cX12_covered 35 = .ok (.iaload, 1) := by decide +kernel
theorem dX12_covered_36 : decode cX12_covered 36 = .ok (.aload_n 0, 1) := by decide +kernel
theorem dX12_covered_37 : decode cX12_covered 37 = .ok (.getfield 56, 3) := by decide +kernel
theorem dX12_covered_40 : decode cX12_covered 40 = .ok (.iconst 3, 1) := by decide +kernel
theorem dX12_covered_41 : decode cX12_covered 41 = .ok (.iload_n 3, 1) := by decide +kernel
theorem dX12_covered_42 : decode cX12_covered 42 = .ok (.imul, 1) := by decide +kernel
theorem dX12_covered_43 : decode cX12_covered 43 = .ok (.iload 5, 2) := by decide +kernel
theorem dX12_covered_45 : decode cX12_covered 45 = .ok (.iadd, 1) := by decide +kernel
theorem dX12_covered_46 : decode cX12_covered 46 = .ok (.iaload, 1) := by decide +kernel
theorem dX12_covered_47 : decode cX12_covered 47 = .ok (.if_icmp .ne 7, 3) := by decide +kernel
theorem dX12_covered_50 : decode cX12_covered 50 = .ok (.iconst 1, 1) := by decide +kernel
theorem dX12_covered_51 : decode cX12_covered 51 = .ok (.goto 4, 3) := by decide +kernel
theorem dX12_covered_54 : decode cX12_covered 54 = .ok (.iconst 0, 1) := by decide +kernel
theorem dX12_covered_55 : decode cX12_covered 55 = .ok (.istore 4, 2) := by decide +kernel
theorem dX12_covered_57 : decode cX12_covered 57 = .ok (.iinc 5 1, 3) := by decide +kernel
theorem dX12_covered_60 : decode cX12_covered 60 = .ok (.goto (-46), 3) := by decide +kernel
theorem dX12_covered_63 : decode cX12_covered 63 = .ok (.iload 4, 2) := by decide +kernel
theorem dX12_covered_65 : decode cX12_covered 65 = .ok (.ifCond .eq 30, 3) := by decide +kernel
theorem dX12_covered_68 : decode cX12_covered 68 = .ok (.bipush 100, 2) := by decide +kernel
theorem dX12_covered_70 : decode cX12_covered 70 = .ok (.aload_n 0, 1) := by decide +kernel
theorem dX12_covered_71 : decode cX12_covered 71 = .ok (.iload_n 1, 1) := by decide +kernel
theorem dX12_covered_72 : decode cX12_covered 72 = .ok (.iload_n 3, 1) := by decide +kernel
theorem dX12_covered_73 : decode cX12_covered 73 = .ok (.iload_n 2, 1) := by decide +kernel
theorem dX12_covered_74 : decode cX12_covered 74 = .ok (.invokevirtual 253, 3) := by decide +kernel
theorem dX12_covered_77 : decode cX12_covered 77 = .ok (.imul, 1) := by decide +kernel
theorem dX12_covered_78 : decode cX12_covered 78 = .ok (.aload_n 0, 1) := by decide +kernel
theorem dX12_covered_79 : decode cX12_covered 79 = .ok (.getfield 32, 3) := by decide +kernel
theorem dX12_covered_82 : decode cX12_covered 82 = .ok (.iload_n 1, 1) := by decide +kernel
theorem dX12_covered_83 : decode cX12_covered 83 = .ok (.iaload, 1) := by decide +kernel
theorem dX12_covered_84 : decode cX12_covered 84 = .ok (.aload_n 0, 1) := by decide +kernel
theorem dX12_covered_85 : decode cX12_covered 85 = .ok (.getfield 35, 3) := by decide +kernel
theorem dX12_covered_88 : decode cX12_covered 88 = .ok (.iload_n 1, 1) := by decide +kernel
theorem dX12_covered_89 : decode cX12_covered 89 = .ok (.iaload, 1) := by decide +kernel
theorem dX12_covered_90 : decode cX12_covered 90 = .ok (.imul, 1) := by decide +kernel
theorem dX12_covered_91 : decode cX12_covered 91 = .ok (.idiv, 1) := by decide +kernel
theorem dX12_covered_92 : decode cX12_covered 92 = .ok (.goto 4, 3) := by decide +kernel
theorem dX12_covered_95 : decode cX12_covered 95 = .ok (.iconst 0, 1) := by decide +kernel
theorem dX12_covered_96 : decode cX12_covered 96 = .ok (.ireturn, 1) := by decide +kernel
theorem dX12_imageSize_0 : decode cX12_imageSize 0 = .ok (.aload_n 0, 1) := by decide +kernel
theorem dX12_imageSize_1 : decode cX12_imageSize 1 = .ok (.getfield 7, 3) := by decide +kernel
theorem dX12_imageSize_4 : decode cX12_imageSize 4 = .ok (.iconst 3, 1) := by decide +kernel
theorem dX12_imageSize_5 : decode cX12_imageSize 5 = .ok (.iconst 2, 1) := by decide +kernel
theorem dX12_imageSize_6 : decode cX12_imageSize 6 = .ok (.aload_n 0, 1) := by decide +kernel
theorem dX12_imageSize_7 : decode cX12_imageSize 7 = .ok (.iload_n 1, 1) := by decide +kernel
theorem dX12_imageSize_8 : decode cX12_imageSize 8 = .ok (.bipush 7, 2) := by decide +kernel
theorem dX12_imageSize_10 : decode cX12_imageSize 10 = .ok (.invokevirtual 91, 3) := by decide +kernel
theorem dX12_imageSize_13 : decode cX12_imageSize 13 = .ok (.imul, 1) := by decide +kernel
theorem dX12_imageSize_14 : decode cX12_imageSize 14 = .ok (.iadd, 1) := by decide +kernel
theorem dX12_imageSize_15 : decode cX12_imageSize 15 = .ok (.iload_n 2, 1) := by decide +kernel
theorem dX12_imageSize_16 : decode cX12_imageSize 16 = .ok (.ifCond .eq 7, 3) := by decide +kernel
theorem dX12_imageSize_19 : decode cX12_imageSize 19 = .ok (.iconst 1, 1) := by decide +kernel
theorem dX12_imageSize_20 : decode cX12_imageSize 20 = .ok (.goto 4, 3) := by decide +kernel
theorem dX12_imageSize_23 : decode cX12_imageSize 23 = .ok (.iconst 0, 1) := by decide +kernel
theorem dX12_imageSize_24 : decode cX12_imageSize 24 = .ok (.iadd, 1) := by decide +kernel
theorem dX12_imageSize_25 : decode cX12_imageSize 25 = .ok (.iaload, 1) := by decide +kernel
theorem dX12_imageSize_26 : decode cX12_imageSize 26 = .ok (.ireturn, 1) := by decide +kernel
theorem dX12_turnedSize_0 : decode cX12_turnedSize 0 = .ok (.aload_n 0, 1) := by decide +kernel
theorem dX12_turnedSize_1 : decode cX12_turnedSize 1 = .ok (.iload_n 1, 1) := by decide +kernel
theorem dX12_turnedSize_2 : decode cX12_turnedSize 2 = .ok (.iload_n 2, 1) := by decide +kernel
theorem dX12_turnedSize_3 : decode cX12_turnedSize 3 = .ok (.aload_n 0, 1) := by decide +kernel
theorem dX12_turnedSize_4 : decode cX12_turnedSize 4 = .ok (.iload_n 1, 1) := by decide +kernel
theorem dX12_turnedSize_5 : decode cX12_turnedSize 5 = .ok (.bipush 8, 2) := by decide +kernel
theorem dX12_turnedSize_7 : decode cX12_turnedSize 7 = .ok (.invokevirtual 91, 3) := by decide +kernel
theorem dX12_turnedSize_10 : decode cX12_turnedSize 10 = .ok (.iconst 2, 1) := by decide +kernel
theorem dX12_turnedSize_11 : decode cX12_turnedSize 11 = .ok (.irem, 1) := by decide +kernel
theorem dX12_turnedSize_12 : decode cX12_turnedSize 12 = .ok (.iconst 1, 1) := by decide +kernel
theorem dX12_turnedSize_13 : decode cX12_turnedSize 13 = .ok (.if_icmp .ne 7, 3) := by decide +kernel
theorem dX12_turnedSize_16 : decode cX12_turnedSize 16 = .ok (.iconst 1, 1) := by decide +kernel
theorem dX12_turnedSize_17 : decode cX12_turnedSize 17 = .ok (.goto 4, 3) := by decide +kernel
theorem dX12_turnedSize_20 : decode cX12_turnedSize 20 = .ok (.iconst 0, 1) := by decide +kernel
theorem dX12_turnedSize_21 : decode cX12_turnedSize 21 = .ok (.if_icmp .eq 7, 3) := by decide +kernel
theorem dX12_turnedSize_24 : decode cX12_turnedSize 24 = .ok (.iconst 1, 1) := by decide +kernel
theorem dX12_turnedSize_25 : decode cX12_turnedSize 25 = .ok (.goto 4, 3) := by decide +kernel
theorem dX12_turnedSize_28 : decode cX12_turnedSize 28 = .ok (.iconst 0, 1) := by decide +kernel
theorem dX12_turnedSize_29 : decode cX12_turnedSize 29 = .ok (.invokevirtual 256, 3) := by decide +kernel
theorem dX12_turnedSize_32 : decode cX12_turnedSize 32 = .ok (.ireturn, 1) := by decide +kernel
theorem dX12_shows_0 : decode cX12_shows 0 = .ok (.aload_n 0, 1) := by decide +kernel
theorem dX12_shows_1 : decode cX12_shows 1 = .ok (.iload_n 1, 1) := by decide +kernel
theorem dX12_shows_2 : decode cX12_shows 2 = .ok (.bipush 7, 2) := by decide +kernel
theorem dX12_shows_4 : decode cX12_shows 4 = .ok (.invokevirtual 91, 3) := by decide +kernel
theorem dX12_shows_7 : decode cX12_shows 7 = .ok (.bipush (-9), 2) := by decide +kernel
theorem dX12_shows_9 : decode cX12_shows 9 = .ok (.if_icmp .eq 75, 3) := by decide +kernel
theorem dX12_shows_12 : decode cX12_shows 12 = .ok (.iconst 0, 1) := by decide +kernel
theorem dX12_shows_13 : decode cX12_shows 13 = .ok (.aload_n 0, 1) := by decide +kernel
theorem dX12_shows_14 : decode cX12_shows 14 = .ok (.getfield 32, 3) := by decide +kernel
theorem dX12_shows_17 : decode cX12_shows 17 = .ok (.iload_n 1, 1) := by decide +kernel
theorem dX12_shows_18 : decode cX12_shows 18 = .ok (.iaload, 1) := by decide +kernel
theorem dX12_shows_19 : decode cX12_shows 19 = .ok (.aload_n 0, 1) := by decide +kernel
theorem dX12_shows_20 : decode cX12_shows 20 = .ok (.iload_n 1, 1) := by decide +kernel
theorem dX12_shows_21 : decode cX12_shows 21 = .ok (.bipush 9, 2) := by decide +kernel
theorem dX12_shows_23 : decode cX12_shows 23 = .ok (.invokevirtual 91, 3) := by decide +kernel
theorem dX12_shows_26 : decode cX12_shows 26 = .ok (.aload_n 0, 1) := by decide +kernel
theorem dX12_shows_27 : decode cX12_shows 27 = .ok (.iload_n 1, 1) := by decide +kernel
theorem dX12_shows_28 : decode cX12_shows 28 = .ok (.bipush 9, 2) := by decide +kernel
theorem dX12_shows_30 : decode cX12_shows 30 = .ok (.invokevirtual 91, 3) := by decide +kernel
theorem dX12_shows_33 : decode cX12_shows 33 = .ok (.aload_n 0, 1) := by decide +kernel
theorem dX12_shows_34 : decode cX12_shows 34 = .ok (.iload_n 1, 1) := by decide +kernel
theorem dX12_shows_35 : decode cX12_shows 35 = .ok (.iconst 0, 1) := by decide +kernel
theorem dX12_shows_36 : decode cX12_shows 36 = .ok (.invokevirtual 260, 3) := by decide +kernel
theorem dX12_shows_39 : decode cX12_shows 39 = .ok (.iadd, 1) := by decide +kernel
theorem dX12_shows_40 : decode cX12_shows 40 = .ok (.invokestatic 116, 3) := by decide +kernel
theorem dX12_shows_43 : decode cX12_shows 43 = .ok (.ifCond .le 41, 3) := by decide +kernel
theorem dX12_shows_46 : decode cX12_shows 46 = .ok (.iconst 0, 1) := by decide +kernel
theorem dX12_shows_47 : decode cX12_shows 47 = .ok (.aload_n 0, 1) := by decide +kernel
theorem dX12_shows_48 : decode cX12_shows 48 = .ok (.getfield 35, 3) := by decide +kernel
theorem dX12_shows_51 : decode cX12_shows 51 = .ok (.iload_n 1, 1) := by decide +kernel
theorem dX12_shows_52 : decode cX12_shows 52 = .ok (.iaload, 1) := by decide +kernel
theorem dX12_shows_53 : decode cX12_shows 53 = .ok (.aload_n 0, 1) := by decide +kernel
theorem dX12_shows_54 : decode cX12_shows 54 = .ok (.iload_n 1, 1) := by decide +kernel
theorem dX12_shows_55 : decode cX12_shows 55 = .ok (.bipush 10, 2) := by decide +kernel
theorem dX12_shows_57 : decode cX12_shows 57 = .ok (.invokevirtual 91, 3) := by decide +kernel
theorem dX12_shows_60 : decode cX12_shows 60 = .ok (.aload_n 0, 1) := by decide +kernel
theorem dX12_shows_61 : decode cX12_shows 61 = .ok (.iload_n 1, 1) := by decide +kernel
theorem dX12_shows_62 : decode cX12_shows 62 = .ok (.bipush 10, 2) := by decide +kernel
theorem dX12_shows_64 : decode cX12_shows 64 = .ok (.invokevirtual 91, 3) := by decide +kernel
theorem dX12_shows_67 : decode cX12_shows 67 = .ok (.aload_n 0, 1) := by decide +kernel
theorem dX12_shows_68 : decode cX12_shows 68 = .ok (.iload_n 1, 1) := by decide +kernel
theorem dX12_shows_69 : decode cX12_shows 69 = .ok (.iconst 1, 1) := by decide +kernel
theorem dX12_shows_70 : decode cX12_shows 70 = .ok (.invokevirtual 260, 3) := by decide +kernel
theorem dX12_shows_73 : decode cX12_shows 73 = .ok (.iadd, 1) := by decide +kernel
theorem dX12_shows_74 : decode cX12_shows 74 = .ok (.invokestatic 116, 3) := by decide +kernel
theorem dX12_shows_77 : decode cX12_shows 77 = .ok (.ifCond .le 7, 3) := by decide +kernel
theorem dX12_shows_80 : decode cX12_shows 80 = .ok (.iconst 1, 1) := by decide +kernel
theorem dX12_shows_81 : decode cX12_shows 81 = .ok (.goto 4, 3) := by decide +kernel
theorem dX12_shows_84 : decode cX12_shows 84 = .ok (.iconst 0, 1) := by decide +kernel
theorem dX12_shows_85 : decode cX12_shows 85 = .ok (.ireturn, 1) := by decide +kernel
theorem dX12_reachOf_0 : decode cX12_reachOf 0 = .ok (.aload_n 0, 1) := by decide +kernel
theorem dX12_reachOf_1 : decode cX12_reachOf 1 = .ok (.iload_n 1, 1) := by decide +kernel
theorem dX12_reachOf_2 : decode cX12_reachOf 2 = .ok (.invokevirtual 263, 3) := by decide +kernel
theorem dX12_reachOf_5 : decode cX12_reachOf 5 = .ok (.ifCond .ne 6, 3) := by decide +kernel
theorem dX12_reachOf_8 : decode cX12_reachOf 8 = .ok (.bipush (-9), 2) := by decide +kernel
theorem dX12_reachOf_10 : decode cX12_reachOf 10 = .ok (.ireturn, 1) := by decide +kernel
theorem dX12_reachOf_11 : decode cX12_reachOf 11 = .ok (.aload_n 0, 1) := by decide +kernel
theorem dX12_reachOf_12 : decode cX12_reachOf 12 = .ok (.iload_n 1, 1) := by decide +kernel
theorem dX12_reachOf_13 : decode cX12_reachOf 13 = .ok (.bipush 9, 2) := by decide +kernel
theorem dX12_reachOf_15 : decode cX12_reachOf 15 = .ok (.invokevirtual 91, 3) := by decide +kernel
theorem dX12_reachOf_18 : decode cX12_reachOf 18 = .ok (.istore_n 3, 1) := by decide +kernel
theorem dX12_reachOf_19 : decode cX12_reachOf 19 = .ok (.aload_n 0, 1) := by decide +kernel
theorem dX12_reachOf_20 : decode cX12_reachOf 20 = .ok (.iload_n 1, 1) := by decide +kernel
theorem dX12_reachOf_21 : decode cX12_reachOf 21 = .ok (.bipush 10, 2) := by decide +kernel
theorem dX12_reachOf_23 : decode cX12_reachOf 23 = .ok (.invokevirtual 91, 3) := by decide +kernel
theorem dX12_reachOf_26 : decode cX12_reachOf 26 = .ok (.istore 4, 2) := by decide +kernel
theorem dX12_reachOf_28 : decode cX12_reachOf 28 = .ok (.iload_n 2, 1) := by decide +kernel
theorem dX12_reachOf_29 : decode cX12_reachOf 29 = .ok (.ifCond .ne 9, 3) := by decide +kernel
theorem dX12_reachOf_32 : decode cX12_reachOf 32 = .ok (.iload 4, 2) := by decide +kernel
theorem dX12_reachOf_34 : decode cX12_reachOf 34 = .ok (.ineg, 1) := by decide +kernel
theorem dX12_reachOf_35 : decode cX12_reachOf 35 = .ok (.goto 52, 3) := by decide +kernel
theorem dX12_reachOf_38 : decode cX12_reachOf 38 = .ok (.iload_n 2, 1) := by decide +kernel
theorem dX12_reachOf_39 : decode cX12_reachOf 39 = .ok (.iconst 1, 1) := by decide +kernel
theorem dX12_reachOf_40 : decode cX12_reachOf 40 = .ok (.if_icmp .ne 21, 3) := by decide +kernel
theorem dX12_reachOf_43 : decode cX12_reachOf 43 = .ok (.iload_n 3, 1) := by decide +kernel
theorem dX12_reachOf_44 : decode cX12_reachOf 44 = .ok (.aload_n 0, 1) := by decide +kernel
theorem dX12_reachOf_45 : decode cX12_reachOf 45 = .ok (.iload_n 1, 1) := by decide +kernel
theorem dX12_reachOf_46 : decode cX12_reachOf 46 = .ok (.iconst 0, 1) := by decide +kernel
theorem dX12_reachOf_47 : decode cX12_reachOf 47 = .ok (.invokevirtual 260, 3) := by decide +kernel
theorem dX12_reachOf_50 : decode cX12_reachOf 50 = .ok (.iadd, 1) := by decide +kernel
theorem dX12_reachOf_51 : decode cX12_reachOf 51 = .ok (.aload_n 0, 1) := by decide +kernel
theorem dX12_reachOf_52 : decode cX12_reachOf 52 = .ok (.getfield 32, 3) := by decide +kernel
theorem dX12_reachOf_55 : decode cX12_reachOf 55 = .ok (.iload_n 1, 1) := by decide +kernel
theorem dX12_reachOf_56 : decode cX12_reachOf 56 = .ok (.iaload, 1) := by decide +kernel
theorem dX12_reachOf_57 : decode cX12_reachOf 57 = .ok (.isub, 1) := by decide +kernel
theorem dX12_reachOf_58 : decode cX12_reachOf 58 = .ok (.goto 29, 3) := by decide +kernel
theorem dX12_reachOf_61 : decode cX12_reachOf 61 = .ok (.iload_n 2, 1) := by decide +kernel
theorem dX12_reachOf_62 : decode cX12_reachOf 62 = .ok (.iconst 2, 1) := by decide +kernel
theorem dX12_reachOf_63 : decode cX12_reachOf 63 = .ok (.if_icmp .ne 22, 3) := by decide +kernel
theorem dX12_reachOf_66 : decode cX12_reachOf 66 = .ok (.iload 4, 2) := by decide +kernel
theorem dX12_reachOf_68 : decode cX12_reachOf 68 = .ok (.aload_n 0, 1) := by decide +kernel
theorem dX12_reachOf_69 : decode cX12_reachOf 69 = .ok (.iload_n 1, 1) := by decide +kernel
theorem dX12_reachOf_70 : decode cX12_reachOf 70 = .ok (.iconst 1, 1) := by decide +kernel
theorem dX12_reachOf_71 : decode cX12_reachOf 71 = .ok (.invokevirtual 260, 3) := by decide +kernel
theorem dX12_reachOf_74 : decode cX12_reachOf 74 = .ok (.iadd, 1) := by decide +kernel
theorem dX12_reachOf_75 : decode cX12_reachOf 75 = .ok (.aload_n 0, 1) := by decide +kernel
theorem dX12_reachOf_76 : decode cX12_reachOf 76 = .ok (.getfield 35, 3) := by decide +kernel
theorem dX12_reachOf_79 : decode cX12_reachOf 79 = .ok (.iload_n 1, 1) := by decide +kernel
theorem dX12_reachOf_80 : decode cX12_reachOf 80 = .ok (.iaload, 1) := by decide +kernel
theorem dX12_reachOf_81 : decode cX12_reachOf 81 = .ok (.isub, 1) := by decide +kernel
theorem dX12_reachOf_82 : decode cX12_reachOf 82 = .ok (.goto 5, 3) := by decide +kernel
theorem dX12_reachOf_85 : decode cX12_reachOf 85 = .ok (.iload_n 3, 1) := by decide +kernel
theorem dX12_reachOf_86 : decode cX12_reachOf 86 = .ok (.ineg, 1) := by decide +kernel
theorem dX12_reachOf_87 : decode cX12_reachOf 87 = .ok (.istore 5, 2) := by decide +kernel
theorem dX12_reachOf_89 : decode cX12_reachOf 89 = .ok (.iload 5, 2) := by decide +kernel
theorem dX12_reachOf_91 : decode cX12_reachOf 91 = .ok (.ifCond .lt 8, 3) := by decide +kernel
theorem dX12_reachOf_94 : decode cX12_reachOf 94 = .ok (.iload 5, 2) := by decide +kernel
theorem dX12_reachOf_96 : decode cX12_reachOf 96 = .ok (.goto 5, 3) := by decide +kernel
theorem dX12_reachOf_99 : decode cX12_reachOf 99 = .ok (.bipush (-9), 2) := by decide +kernel
theorem dX12_reachOf_101 : decode cX12_reachOf 101 = .ok (.ireturn, 1) := by decide +kernel
theorem dX12_inImage_0 : decode cX12_inImage 0 = .ok (.iload_n 0, 1) := by decide +kernel
theorem dX12_inImage_1 : decode cX12_inImage 1 = .ok (.iconst 4, 1) := by decide +kernel
theorem dX12_inImage_2 : decode cX12_inImage 2 = .ok (.irem, 1) := by decide +kernel
theorem dX12_inImage_3 : decode cX12_inImage 3 = .ok (.istore 6, 2) := by decide +kernel
theorem dX12_inImage_5 : decode cX12_inImage 5 = .ok (.iload 6, 2) := by decide +kernel
theorem dX12_inImage_7 : decode cX12_inImage 7 = .ok (.ifCond .ne 7, 3) := by decide +kernel
theorem dX12_inImage_10 : decode cX12_inImage 10 = .ok (.iload_n 3, 1) := by decide +kernel
theorem dX12_inImage_11 : decode cX12_inImage 11 = .ok (.goto 30, 3) := by decide +kernel
theorem dX12_inImage_14 : decode cX12_inImage 14 = .ok (.iload 6, 2) := by decide +kernel
theorem dX12_inImage_16 : decode cX12_inImage 16 = .ok (.iconst 1, 1) := by decide +kernel
theorem dX12_inImage_17 : decode cX12_inImage 17 = .ok (.if_icmp .ne 8, 3) := by decide +kernel
theorem dX12_inImage_20 : decode cX12_inImage 20 = .ok (.iload 4, 2) := by decide +kernel
theorem dX12_inImage_22 : decode cX12_inImage 22 = .ok (.goto 19, 3) := by decide +kernel
theorem dX12_inImage_25 : decode cX12_inImage 25 = .ok (.iload 6, 2) := by decide +kernel
theorem dX12_inImage_27 : decode cX12_inImage 27 = .ok (.iconst 2, 1) := by decide +kernel
theorem dX12_inImage_28 : decode cX12_inImage 28 = .ok (.if_icmp .ne 9, 3) := by decide +kernel
theorem dX12_inImage_31 : decode cX12_inImage 31 = .ok (.iload_n 1, 1) := by decide +kernel
theorem dX12_inImage_32 : decode cX12_inImage 32 = .ok (.iload_n 3, 1) := by decide +kernel
theorem dX12_inImage_33 : decode cX12_inImage 33 = .ok (.isub, 1) := by decide +kernel
theorem dX12_inImage_34 : decode cX12_inImage 34 = .ok (.goto 7, 3) := by decide +kernel
theorem dX12_inImage_37 : decode cX12_inImage 37 = .ok (.iload_n 1, 1) := by decide +kernel
theorem dX12_inImage_38 : decode cX12_inImage 38 = .ok (.iload 4, 2) := by decide +kernel
theorem dX12_inImage_40 : decode cX12_inImage 40 = .ok (.isub, 1) := by decide +kernel
theorem dX12_inImage_41 : decode cX12_inImage 41 = .ok (.istore 7, 2) := by decide +kernel
theorem dX12_inImage_43 : decode cX12_inImage 43 = .ok (.iload 6, 2) := by decide +kernel
theorem dX12_inImage_45 : decode cX12_inImage 45 = .ok (.ifCond .ne 8, 3) := by decide +kernel
theorem dX12_inImage_48 : decode cX12_inImage 48 = .ok (.iload 4, 2) := by decide +kernel
theorem dX12_inImage_50 : decode cX12_inImage 50 = .ok (.goto 29, 3) := by decide +kernel
theorem dX12_inImage_53 : decode cX12_inImage 53 = .ok (.iload 6, 2) := by decide +kernel
theorem dX12_inImage_55 : decode cX12_inImage 55 = .ok (.iconst 1, 1) := by decide +kernel
theorem dX12_inImage_56 : decode cX12_inImage 56 = .ok (.if_icmp .ne 9, 3) := by decide +kernel
theorem dX12_inImage_59 : decode cX12_inImage 59 = .ok (.iload_n 2, 1) := by decide +kernel
theorem dX12_inImage_60 : decode cX12_inImage 60 = .ok (.iload_n 3, 1) := by decide +kernel
theorem dX12_inImage_61 : decode cX12_inImage 61 = .ok (.isub, 1) := by decide +kernel
theorem dX12_inImage_62 : decode cX12_inImage 62 = .ok (.goto 17, 3) := by decide +kernel
theorem dX12_inImage_65 : decode cX12_inImage 65 = .ok (.iload 6, 2) := by decide +kernel
theorem dX12_inImage_67 : decode cX12_inImage 67 = .ok (.iconst 2, 1) := by decide +kernel
theorem dX12_inImage_68 : decode cX12_inImage 68 = .ok (.if_icmp .ne 10, 3) := by decide +kernel
theorem dX12_inImage_71 : decode cX12_inImage 71 = .ok (.iload_n 2, 1) := by decide +kernel
theorem dX12_inImage_72 : decode cX12_inImage 72 = .ok (.iload 4, 2) := by decide +kernel
theorem dX12_inImage_74 : decode cX12_inImage 74 = .ok (.isub, 1) := by decide +kernel
theorem dX12_inImage_75 : decode cX12_inImage 75 = .ok (.goto 4, 3) := by decide +kernel
theorem dX12_inImage_78 : decode cX12_inImage 78 = .ok (.iload_n 3, 1) := by decide +kernel
theorem dX12_inImage_79 : decode cX12_inImage 79 = .ok (.istore 8, 2) := by decide +kernel
theorem dX12_inImage_81 : decode cX12_inImage 81 = .ok (.iload 5, 2) := by decide +kernel
theorem dX12_inImage_83 : decode cX12_inImage 83 = .ok (.ifCond .eq 8, 3) := by decide +kernel
theorem dX12_inImage_86 : decode cX12_inImage 86 = .ok (.iload 8, 2) := by decide +kernel
theorem dX12_inImage_88 : decode cX12_inImage 88 = .ok (.goto 17, 3) := by decide +kernel
theorem dX12_inImage_91 : decode cX12_inImage 91 = .ok (.iload_n 0, 1) := by decide +kernel
theorem dX12_inImage_92 : decode cX12_inImage 92 = .ok (.iconst 3, 1) := by decide +kernel
theorem dX12_inImage_93 : decode cX12_inImage 93 = .ok (.if_icmp .le 10, 3) := by decide +kernel
