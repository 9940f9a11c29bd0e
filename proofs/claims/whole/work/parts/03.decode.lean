theorem dX10_init_0 : decode cX10_init 0 = .ok (.aload_n 0, 1) := by decide +kernel
theorem dX10_init_1 : decode cX10_init 1 = .ok (.invokespecial 1, 3) := by decide +kernel
theorem dX10_init_4 : decode cX10_init 4 = .ok (.aload_n 0, 1) := by decide +kernel
theorem dX10_init_5 : decode cX10_init 5 = .ok (.bipush 7, 2) := by decide +kernel
theorem dX10_init_7 : decode cX10_init 7 = .ok (.newarray .int, 2) := by decide +kernel
theorem dX10_init_9 : decode cX10_init 9 = .ok (.putfield 7, 3) := by decide +kernel
theorem dX10_init_12 : decode cX10_init 12 = .ok (.aload_n 0, 1) := by decide +kernel
theorem dX10_init_13 : decode cX10_init 13 = .ok (.iconst 3, 1) := by decide +kernel
theorem dX10_init_14 : decode cX10_init 14 = .ok (.newarray .int, 2) := by decide +kernel
theorem dX10_init_16 : decode cX10_init 16 = .ok (.putfield 13, 3) := by decide +kernel
theorem dX10_init_19 : decode cX10_init 19 = .ok (.aload_n 0, 1) := by decide +kernel
theorem dX10_init_20 : decode cX10_init 20 = .ok (.bipush 8, 2) := by decide +kernel
theorem dX10_init_22 : decode cX10_init 22 = .ok (.newarray .int, 2) := by decide +kernel
theorem dX10_init_24 : decode cX10_init 24 = .ok (.putfield 16, 3) := by decide +kernel
theorem dX10_init_27 : decode cX10_init 27 = .ok (.aload_n 0, 1) := by decide +kernel
theorem dX10_init_28 : decode cX10_init 28 = .ok (.bipush 8, 2) := by decide +kernel
theorem dX10_init_30 : decode cX10_init 30 = .ok (.newarray .int, 2) := by decide +kernel
theorem dX10_init_32 : decode cX10_init 32 = .ok (.putfield 19, 3) := by decide +kernel
theorem dX10_init_35 : decode cX10_init 35 = .ok (.aload_n 0, 1) := by decide +kernel
theorem dX10_init_36 : decode cX10_init 36 = .ok (.bipush 25, 2) := by decide +kernel
theorem dX10_init_38 : decode cX10_init 38 = .ok (.newarray .int, 2) := by decide +kernel
theorem dX10_init_40 : decode cX10_init 40 = .ok (.putfield 22, 3) := by decide +kernel
theorem dX10_init_43 : decode cX10_init 43 = .ok (.aload_n 0, 1) := by decide +kernel
theorem dX10_init_44 : decode cX10_init 44 = .ok (.bipush 25, 2) := by decide +kernel
theorem dX10_init_46 : decode cX10_init 46 = .ok (.newarray .int, 2) := by decide +kernel
theorem dX10_init_48 : decode cX10_init 48 = .ok (.putfield 25, 3) := by decide +kernel
theorem dX10_init_51 : decode cX10_init 51 = .ok (.aload_n 0, 1) := by decide +kernel
theorem dX10_init_52 : decode cX10_init 52 = .ok (.bipush 96, 2) := by decide +kernel
theorem dX10_init_54 : decode cX10_init 54 = .ok (.newarray .int, 2) := by decide +kernel
theorem dX10_init_56 : decode cX10_init 56 = .ok (.putfield 28, 3) := by decide +kernel
theorem dX10_init_59 : decode cX10_init 59 = .ok (.aload_n 0, 1) := by decide +kernel
theorem dX10_init_60 : decode cX10_init 60 = .ok (.bipush 48, 2) := by decide +kernel
theorem dX10_init_62 : decode cX10_init 62 = .ok (.newarray .int, 2) := by decide +kernel
theorem dX10_init_64 : decode cX10_init 64 = .ok (.putfield 31, 3) := by decide +kernel
theorem dX10_init_67 : decode cX10_init 67 = .ok (.aload_n 0, 1) := by decide +kernel
theorem dX10_init_68 : decode cX10_init 68 = .ok (.bipush 48, 2) := by decide +kernel
theorem dX10_init_70 : decode cX10_init 70 = .ok (.newarray .int, 2) := by decide +kernel
theorem dX10_init_72 : decode cX10_init 72 = .ok (.putfield 34, 3) := by decide +kernel
theorem dX10_init_75 : decode cX10_init 75 = .ok (.aload_n 0, 1) := by decide +kernel
theorem dX10_init_76 : decode cX10_init 76 = .ok (.sipush 144, 3) := by decide +kernel
theorem dX10_init_79 : decode cX10_init 79 = .ok (.newarray .int, 2) := by decide +kernel
theorem dX10_init_81 : decode cX10_init 81 = .ok (.putfield 37, 3) := by decide +kernel
theorem dX10_init_84 : decode cX10_init 84 = .ok (.aload_n 0, 1) := by decide +kernel
theorem dX10_init_85 : decode cX10_init 85 = .ok (.sipush 240, 3) := by decide +kernel
theorem dX10_init_88 : decode cX10_init 88 = .ok (.newarray .int, 2) := by decide +kernel
theorem dX10_init_90 : decode cX10_init 90 = .ok (.putfield 40, 3) := by decide +kernel
theorem dX10_init_93 : decode cX10_init 93 = .ok (.aload_n 0, 1) := by decide +kernel
theorem dX10_init_94 : decode cX10_init 94 = .ok (.bipush 8, 2) := by decide +kernel
theorem dX10_init_96 : decode cX10_init 96 = .ok (.newarray .int, 2) := by decide +kernel
theorem dX10_init_98 : decode cX10_init 98 = .ok (.putfield 43, 3) := by decide +kernel
theorem dX10_init_101 : decode cX10_init 101 = .ok (.aload_n 0, 1) := by decide +kernel
theorem dX10_init_102 : decode cX10_init 102 = .ok (.bipush 8, 2) := by decide +kernel
theorem dX10_init_104 : decode cX10_init 104 = .ok (.newarray .int, 2) := by decide +kernel
theorem dX10_init_106 : decode cX10_init 106 = .ok (.putfield 46, 3) := by decide +kernel
theorem dX10_init_109 : decode cX10_init 109 = .ok (.aload_n 0, 1) := by decide +kernel
theorem dX10_init_110 : decode cX10_init 110 = .ok (.bipush 8, 2) := by decide +kernel
theorem dX10_init_112 : decode cX10_init 112 = .ok (.newarray .int, 2) := by decide +kernel
theorem dX10_init_114 : decode cX10_init 114 = .ok (.putfield 49, 3) := by decide +kernel
theorem dX10_init_117 : decode cX10_init 117 = .ok (.aload_n 0, 1) := by decide +kernel
theorem dX10_init_118 : decode cX10_init 118 = .ok (.bipush 8, 2) := by decide +kernel
theorem dX10_init_120 : decode cX10_init 120 = .ok (.newarray .int, 2) := by decide +kernel
theorem dX10_init_122 : decode cX10_init 122 = .ok (.putfield 52, 3) := by decide +kernel
theorem dX10_init_125 : decode cX10_init 125 = .ok (.aload_n 0, 1) := by decide +kernel
theorem dX10_init_126 : decode cX10_init 126 = .ok (.bipush 8, 2) := by decide +kernel
theorem dX10_init_128 : decode cX10_init 128 = .ok (.newarray .int, 2) := by decide +kernel
theorem dX10_init_130 : decode cX10_init 130 = .ok (.putfield 55, 3) := by decide +kernel
theorem dX10_init_133 : decode cX10_init 133 = .ok (.aload_n 0, 1) := by decide +kernel
theorem dX10_init_134 : decode cX10_init 134 = .ok (.bipush 6, 2) := by decide +kernel
theorem dX10_init_136 : decode cX10_init 136 = .ok (.newarray .int, 2) := by decide +kernel
theorem dX10_init_138 : decode cX10_init 138 = .ok (.putfield 58, 3) := by decide +kernel
theorem dX10_init_141 : decode cX10_init 141 = .ok (.aload_n 0, 1) := by decide +kernel
theorem dX10_init_142 : decode cX10_init 142 = .ok (.bipush 6, 2) := by decide +kernel
theorem dX10_init_144 : decode cX10_init 144 = .ok (.newarray .int, 2) := by decide +kernel
theorem dX10_init_146 : decode cX10_init 146 = .ok (.putfield 61, 3) := by decide +kernel
theorem dX10_init_149 : decode cX10_init 149 = .ok (.aload_n 0, 1) := by decide +kernel
theorem dX10_init_150 : decode cX10_init 150 = .ok (.bipush 8, 2) := by decide +kernel
theorem dX10_init_152 : decode cX10_init 152 = .ok (.newarray .int, 2) := by decide +kernel
theorem dX10_init_154 : decode cX10_init 154 = .ok (.putfield 64, 3) := by decide +kernel
theorem dX10_init_157 : decode cX10_init 157 = .ok (.aload_n 0, 1) := by decide +kernel
theorem dX10_init_158 : decode cX10_init 158 = .ok (.bipush 8, 2) := by decide +kernel
theorem dX10_init_160 : decode cX10_init 160 = .ok (.newarray .int, 2) := by decide +kernel
theorem dX10_init_162 : decode cX10_init 162 = .ok (.putfield 67, 3) := by decide +kernel
theorem dX10_init_165 : decode cX10_init 165 = .ok (.aload_n 0, 1) := by decide +kernel
theorem dX10_init_166 : decode cX10_init 166 = .ok (.bipush 16, 2) := by decide +kernel
theorem dX10_init_168 : decode cX10_init 168 = .ok (.newarray .long, 2) := by decide +kernel
theorem dX10_init_170 : decode cX10_init 170 = .ok (.putfield 70, 3) := by decide +kernel
theorem dX10_init_173 : decode cX10_init 173 = .ok (.aload_n 0, 1) := by decide +kernel
theorem dX10_init_174 : decode cX10_init 174 = .ok (.bipush 16, 2) := by decide +kernel
theorem dX10_init_176 : decode cX10_init 176 = .ok (.newarray .long, 2) := by decide +kernel
theorem dX10_init_178 : decode cX10_init 178 = .ok (.putfield 74, 3) := by decide +kernel
theorem dX10_init_181 : decode cX10_init 181 = .ok (.aload_n 0, 1) := by decide +kernel
theorem dX10_init_182 : decode cX10_init 182 = .ok (.bipush 9, 2) := by decide +kernel
theorem dX10_init_184 : decode cX10_init 184 = .ok (.newarray .int, 2) := by decide +kernel
theorem dX10_init_186 : decode cX10_init 186 = .ok (.putfield 77, 3) := by decide +kernel
theorem dX10_init_189 : decode cX10_init 189 = .ok (.aload_n 0, 1) := by decide +kernel
theorem dX10_init_190 : decode cX10_init 190 = .ok (.iconst 3, 1) := by decide +kernel
theorem dX10_init_191 : decode cX10_init 191 = .ok (.newarray .int, 2) := by decide +kernel
theorem dX10_init_193 : decode cX10_init 193 = .ok (.putfield 80, 3) := by decide +kernel
theorem dX10_init_196 : decode cX10_init 196 = .ok (.aload_n 0, 1) := by decide +kernel
theorem dX10_init_197 : decode cX10_init 197 = .ok (.bipush 12, 2) := by decide +kernel
theorem dX10_init_199 : decode cX10_init 199 = .ok (.newarray .int, 2) := by decide +kernel
theorem dX10_init_201 : decode cX10_init 201 = .ok (.putfield 83, 3) := by decide +kernel
theorem dX10_init_204 : decode cX10_init 204 = .ok (.aload_n 0, 1) := by decide +kernel
theorem dX10_init_205 : decode cX10_init 205 = .ok (.getfield 13, 3) := by decide +kernel
theorem dX10_init_208 : decode cX10_init 208 = .ok (.iconst 1, 1) := by decide +kernel
theorem dX10_init_209 : decode cX10_init 209 = .ok (.iconst 1, 1) := by decide +kernel
theorem dX10_init_210 : decode cX10_init 210 = .ok (.iastore, 1) := by decide +kernel
theorem dX10_init_211 : decode cX10_init 211 = .ok (.aload_n 0, 1) := by decide +kernel
theorem dX10_init_212 : decode cX10_init 212 = .ok (.getfield 13, 3) := by decide +kernel
theorem dX10_init_215 : decode cX10_init 215 = .ok (.iconst 2, 1) := by decide +kernel
theorem dX10_init_216 : decode cX10_init 216 = .ok (.bipush 12, 2) := by decide +kernel
theorem dX10_init_218 : decode cX10_init 218 = .ok (.iastore, 1) := by decide +kernel
theorem dX10_init_219 : decode cX10_init 219 = .ok (.return_, 1) := by decide +kernel
theorem dX10_no_0 : decode cX10_no 0 = .ok (.aload_n 0, 1) := by decide +kernel
theorem dX10_no_1 : decode cX10_no 1 = .ok (.getfield 7, 3) := by decide +kernel
theorem dX10_no_4 : decode cX10_no 4 = .ok (.iload_n 1, 1) := by decide +kernel
theorem dX10_no_5 : decode cX10_no 5 = .ok (.ineg, 1) := by decide +kernel
theorem dX10_no_6 : decode cX10_no 6 = .ok (.dup2, 1) := by decide +kernel
theorem dX10_no_7 : decode cX10_no 7 = .ok (.iaload, 1) := by decide +kernel
theorem dX10_no_8 : decode cX10_no 8 = .ok (.iconst 1, 1) := by decide +kernel
theorem dX10_no_9 : decode cX10_no 9 = .ok (.iadd, 1) := by decide +kernel
theorem dX10_no_10 : decode cX10_no 10 = .ok (.iastore, 1) := by decide +kernel
theorem dX10_no_11 : decode cX10_no 11 = .ok (.iload_n 1, 1) := by decide +kernel
theorem dX10_no_12 : decode cX10_no 12 = .ok (.ireturn, 1) := by decide +kernel
theorem dX10_lowest_0 : decode cX10_lowest 0 = .ok (.aload_n 0, 1) := by decide +kernel
theorem dX10_lowest_1 : decode cX10_lowest 1 = .ok (.getfield 7, 3) := by decide +kernel
theorem dX10_lowest_4 : decode cX10_lowest 4 = .ok (.iload_n 1, 1) := by decide +kernel
theorem dX10_lowest_5 : decode cX10_lowest 5 = .ok (.ineg, 1) := by decide +kernel
theorem dX10_lowest_6 : decode cX10_lowest 6 = .ok (.dup2, 1) := by decide +kernel
theorem dX10_lowest_7 : decode cX10_lowest 7 = .ok (.iaload, 1) := by decide +kernel
theorem dX10_lowest_8 : decode cX10_lowest 8 = .ok (.iconst 1, 1) := by decide +kernel
theorem dX10_lowest_9 : decode cX10_lowest 9 = .ok (.iadd, 1) := by decide +kernel
theorem dX10_lowest_10 : decode cX10_lowest 10 = .ok (.iastore, 1) := by decide +kernel
theorem dX10_lowest_11 : decode cX10_lowest 11 = .ok (.ldc2_w 86, 3) := by decide +kernel
theorem dX10_lowest_14 : decode cX10_lowest 14 = .ok (.iload_n 1, 1) := by decide +kernel
theorem dX10_lowest_15 : decode cX10_lowest 15 = .ok (.i2l, 1) := by decide +kernel
theorem dX10_lowest_16 : decode cX10_lowest 16 = .ok (.lsub, 1) := by decide +kernel
theorem dX10_lowest_17 : decode cX10_lowest 17 = .ok (.lreturn, 1) := by decide +kernel
theorem dX10_isIn_0 : decode cX10_isIn 0 = .ok (.iload_n 0, 1) := by decide +kernel
theorem dX10_isIn_1 : decode cX10_isIn 1 = .ok (.iload_n 1, 1) := by decide +kernel
theorem dX10_isIn_2 : decode cX10_isIn 2 = .ok (.if_icmp .lt 12, 3) := by decide +kernel
theorem dX10_isIn_5 : decode cX10_isIn 5 = .ok (.iload_n 0, 1) := by decide +kernel
theorem dX10_isIn_6 : decode cX10_isIn 6 = .ok (.iload_n 2, 1) := by decide +kernel
theorem dX10_isIn_7 : decode cX10_isIn 7 = .ok (.if_icmp .gt 7, 3) := by decide +kernel
theorem dX10_isIn_10 : decode cX10_isIn 10 = .ok (.iconst 1, 1) := by decide +kernel
theorem dX10_isIn_11 : decode cX10_isIn 11 = .ok (.goto 4, 3) := by decide +kernel
theorem dX10_isIn_14 : decode cX10_isIn 14 = .ok (.iconst 0, 1) := by decide +kernel
theorem dX10_isIn_15 : decode cX10_isIn 15 = .ok (.ireturn, 1) := by decide +kernel
theorem dX10_bound_0 : decode cX10_bound 0 = .ok (.iload_n 0, 1) := by decide +kernel
theorem dX10_bound_1 : decode cX10_bound 1 = .ok (.iload_n 1, 1) := by decide +kernel
theorem dX10_bound_2 : decode cX10_bound 2 = .ok (.if_icmp .ge 8, 3) := by decide +kernel
theorem dX10_bound_5 : decode cX10_bound 5 = .ok (.bipush (-4), 2) := by decide +kernel
theorem dX10_bound_7 : decode cX10_bound 7 = .ok (.goto 14, 3) := by decide +kernel
theorem dX10_bound_10 : decode cX10_bound 10 = .ok (.iload_n 0, 1) := by decide +kernel
theorem dX10_bound_11 : decode cX10_bound 11 = .ok (.iload_n 2, 1) := by decide +kernel
theorem dX10_bound_12 : decode cX10_bound 12 = .ok (.if_icmp .le 8, 3) := by decide +kernel
theorem dX10_bound_15 : decode cX10_bound 15 = .ok (.bipush (-6), 2) := by decide +kernel
theorem dX10_bound_17 : decode cX10_bound 17 = .ok (.goto 4, 3) := by decide +kernel
theorem dX10_bound_20 : decode cX10_bound 20 = .ok (.iconst 0, 1) := by decide +kernel
theorem dX10_bound_21 : decode cX10_bound 21 = .ok (.ireturn, 1) := by decide +kernel
theorem dX10_has_0 : decode cX10_has 0 = .ok (.iload_n 0, 1) := by decide +kernel
theorem dX10_has_1 : decode cX10_has 1 = .ok (.iload_n 1, 1) := by decide +kernel
theorem dX10_has_2 : decode cX10_has 2 = .ok (.ishr, 1) := by decide +kernel
theorem dX10_has_3 : decode cX10_has 3 = .ok (.iconst 1, 1) := by decide +kernel
theorem dX10_has_4 : decode cX10_has 4 = .ok (.iand, 1) := by decide +kernel
theorem dX10_has_5 : decode cX10_has 5 = .ok (.iconst 1, 1) := by decide +kernel
theorem dX10_has_6 : decode cX10_has 6 = .ok (.if_icmp .ne 7, 3) := by decide +kernel
theorem dX10_has_9 : decode cX10_has 9 = .ok (.iconst 1, 1) := by decide +kernel
theorem dX10_has_10 : decode cX10_has 10 = .ok (.goto 4, 3) := by decide +kernel
theorem dX10_has_13 : decode cX10_has 13 = .ok (.iconst 0, 1) := by decide +kernel
theorem dX10_has_14 : decode cX10_has 14 = .ok (.ireturn, 1) := by decide +kernel
theorem dX10_bits_0 : decode cX10_bits 0 = .ok (.iconst 0, 1) := by decide +kernel
theorem dX10_bits_1 : decode cX10_bits 1 = .ok (.istore_n 1, 1) := by decide +kernel
theorem dX10_bits_2 : decode cX10_bits 2 = .ok (.iconst 0, 1) := by decide +kernel
theorem dX10_bits_3 : decode cX10_bits 3 = .ok (.istore_n 2, 1) := by decide +kernel
theorem dX10_bits_4 : decode cX10_bits 4 = .ok (.iload_n 2, 1) := by decide +kernel
theorem dX10_bits_5 : decode cX10_bits 5 = .ok (.bipush 31, 2) := by decide +kernel
theorem dX10_bits_7 : decode cX10_bits 7 = .ok (.if_icmp .ge 17, 3) := by decide +kernel
theorem dX10_bits_10 : decode cX10_bits 10 = .ok (.iload_n 1, 1) := by decide +kernel
theorem dX10_bits_11 : decode cX10_bits 11 = .ok (.iload_n 0, 1) := by decide +kernel
theorem dX10_bits_12 : decode cX10_bits 12 = .ok (.iload_n 2, 1) := by decide +kernel
theorem dX10_bits_13 : decode cX10_bits 13 = .ok (.ishr, 1) := by decide +kernel
theorem dX10_bits_14 : decode cX10_bits 14 = .ok (.iconst 1, 1) := by decide +kernel
theorem dX10_bits_15 : decode cX10_bits 15 = .ok (.iand, 1) := by decide +kernel
theorem dX10_bits_16 : decode cX10_bits 16 = .ok (.iadd, 1) := by decide +kernel
theorem dX10_bits_17 : decode cX10_bits 17 = .ok (.istore_n 1, 1) := by decide +kernel
theorem dX10_bits_18 : decode cX10_bits 18 = .ok (.iinc 2 1, 3) := by decide +kernel
theorem dX10_bits_21 : decode cX10_bits 21 = .ok (.goto (-17), 3) := by decide +kernel
theorem dX10_bits_24 : decode cX10_bits 24 = .ok (.iload_n 1, 1) := by decide +kernel
theorem dX10_bits_25 : decode cX10_bits 25 = .ok (.ireturn, 1) := by decide +kernel
theorem dX10_isPerson_0 : decode cX10_isPerson 0 = .ok (.iload_n 1, 1) := by decide +kernel
theorem dX10_isPerson_1 : decode cX10_isPerson 1 = .ok (.ifCond .lt 15, 3) := by decide +kernel
theorem dX10_isPerson_4 : decode cX10_isPerson 4 = .ok (.iload_n 1, 1) := by decide +kernel
theorem dX10_isPerson_5 : decode cX10_isPerson 5 = .ok (.aload_n 0, 1) := by decide +kernel
theorem dX10_isPerson_6 : decode cX10_isPerson 6 = .ok (.getfield 88, 3) := by decide +kernel
theorem dX10_isPerson_9 : decode cX10_isPerson 9 = .ok (.if_icmp .ge 7, 3) := by decide +kernel
theorem dX10_isPerson_12 : decode cX10_isPerson 12 = .ok (.iconst 1, 1) := by decide +kernel
theorem dX10_isPerson_13 : decode cX10_isPerson 13 = .ok (.goto 4, 3) := by decide +kernel
theorem dX10_isPerson_16 : decode cX10_isPerson 16 = .ok (.iconst 0, 1) := by decide +kernel
theorem dX10_isPerson_17 : decode cX10_isPerson 17 = .ok (.ireturn, 1) := by decide +kernel
theorem dX10_doorAt_0 : decode cX10_doorAt 0 = .ok (.aload_n 0, 1) := by decide +kernel
theorem dX10_doorAt_1 : decode cX10_doorAt 1 = .ok (.getfield 13, 3) := by decide +kernel
theorem dX10_doorAt_4 : decode cX10_doorAt 4 = .ok (.iconst 2, 1) := by decide +kernel
theorem dX10_doorAt_5 : decode cX10_doorAt 5 = .ok (.iaload, 1) := by decide +kernel
theorem dX10_doorAt_6 : decode cX10_doorAt 6 = .ok (.ireturn, 1) := by decide +kernel
theorem dX10_feed_0 : decode cX10_feed 0 = .ok (.iload_n 1, 1) := by decide +kernel
theorem dX10_feed_1 : decode cX10_feed 1 = .ok (.iconst 0, 1) := by decide +kernel
theorem dX10_feed_2 : decode cX10_feed 2 = .ok (.sipush 255, 3) := by decide +kernel
theorem dX10_feed_5 : decode cX10_feed 5 = .ok (.invokestatic 92, 3) := by decide +kernel
theorem dX10_feed_8 : decode cX10_feed 8 = .ok (.istore_n 2, 1) := by decide +kernel
theorem dX10_feed_9 : decode cX10_feed 9 = .ok (.iload_n 2, 1) := by decide +kernel
theorem dX10_feed_10 : decode cX10_feed 10 = .ok (.ifCond .ne 15, 3) := by decide +kernel
theorem dX10_feed_13 : decode cX10_feed 13 = .ok (.aload_n 0, 1) := by decide +kernel
theorem dX10_feed_14 : decode cX10_feed 14 = .ok (.getfield 96, 3) := by decide +kernel
theorem dX10_feed_17 : decode cX10_feed 17 = .ok (.bipush 96, 2) := by decide +kernel
theorem dX10_feed_19 : decode cX10_feed 19 = .ok (.if_icmp .ne 6, 3) := by decide +kernel
theorem dX10_feed_22 : decode cX10_feed 22 = .ok (.bipush (-6), 2) := by decide +kernel
theorem dX10_feed_24 : decode cX10_feed 24 = .ok (.istore_n 2, 1) := by decide +kernel
theorem dX10_feed_25 : decode cX10_feed 25 = .ok (.iload_n 2, 1) := by decide +kernel
theorem dX10_feed_26 : decode cX10_feed 26 = .ok (.ifCond .eq 9, 3) := by decide +kernel
theorem dX10_feed_29 : decode cX10_feed 29 = .ok (.aload_n 0, 1) := by decide +kernel
theorem dX10_feed_30 : decode cX10_feed 30 = .ok (.iload_n 2, 1) := by decide +kernel
theorem dX10_feed_31 : decode cX10_feed 31 = .ok (.invokevirtual 99, 3) := by decide +kernel
theorem dX10_feed_34 : decode cX10_feed 34 = .ok (.ireturn, 1) := by decide +kernel
theorem dX10_feed_35 : decode cX10_feed 35 = .ok (.aload_n 0, 1) := by decide +kernel
theorem dX10_feed_36 : decode cX10_feed 36 = .ok (.getfield 28, 3) := by decide +kernel
theorem dX10_feed_39 : decode cX10_feed 39 = .ok (.aload_n 0, 1) := by decide +kernel
theorem dX10_feed_40 : decode cX10_feed 40 = .ok (.getfield 96, 3) := by decide +kernel
theorem dX10_feed_43 : decode cX10_feed 43 = .ok (.iload_n 1, 1) := by decide +kernel
theorem dX10_feed_44 : decode cX10_feed 44 = .ok (.iastore, 1) := by decide +kernel
theorem dX10_feed_45 : decode cX10_feed 45 = .ok (.aload_n 0, 1) := by decide +kernel
theorem dX10_feed_46 : decode cX10_feed 46 = .ok (.dup, 1) := by decide +kernel
theorem dX10_feed_47 : decode cX10_feed 47 = .ok (.getfield 96, 3) := by decide +kernel
theorem dX10_feed_50 : decode cX10_feed 50 = .ok (.iconst 1, 1) := by decide +kernel
theorem dX10_feed_51 : decode cX10_feed 51 = .ok (.iadd, 1) := by decide +kernel
theorem dX10_feed_52 : decode cX10_feed 52 = .ok (.putfield 96, 3) := by decide +kernel
theorem dX10_feed_55 : decode cX10_feed 55 = .ok (.aload_n 0, 1) := by decide +kernel
theorem dX10_feed_56 : decode cX10_feed 56 = .ok (.getfield 96, 3) := by decide +kernel
theorem dX10_feed_59 : decode cX10_feed 59 = .ok (.ireturn, 1) := by decide +kernel
theorem dX10_next_0 : decode cX10_next 0 = .ok (.aload_n 0, 1) := by decide +kernel
theorem dX10_next_1 : decode cX10_next 1 = .ok (.getfield 103, 3) := by decide +kernel
theorem dX10_next_4 : decode cX10_next 4 = .ok (.aload_n 0, 1) := by decide +kernel
theorem dX10_next_5 : decode cX10_next 5 = .ok (.getfield 96, 3) := by decide +kernel
theorem dX10_next_8 : decode cX10_next 8 = .ok (.if_icmp .ge 15, 3) := by decide +kernel
theorem dX10_next_11 : decode cX10_next 11 = .ok (.aload_n 0, 1) := by decide +kernel
theorem dX10_next_12 : decode cX10_next 12 = .ok (.getfield 28, 3) := by decide +kernel
theorem dX10_next_15 : decode cX10_next 15 = .ok (.aload_n 0, 1) := by decide +kernel
theorem dX10_next_16 : decode cX10_next 16 = .ok (.getfield 103, 3) := by decide +kernel
theorem dX10_next_19 : decode cX10_next 19 = .ok (.iaload, 1) := by decide +kernel
theorem dX10_next_20 : decode cX10_next 20 = .ok (.goto 4, 3) := by decide +kernel
theorem dX10_next_23 : decode cX10_next 23 = .ok (.iconst (-1), 1) := by decide +kernel
theorem dX10_next_24 : decode cX10_next 24 = .ok (.ireturn, 1) := by decide +kernel
theorem dX10_readsDigits_0 : decode cX10_readsDigits 0 = .ok (.iconst 0, 1) := by decide +kernel
theorem dX10_readsDigits_1 : decode cX10_readsDigits 1 = .ok (.istore_n 3, 1) := by decide +kernel
theorem dX10_readsDigits_2 : decode cX10_readsDigits 2 = .ok (.iconst 0, 1) := by decide +kernel
theorem dX10_readsDigits_3 : decode cX10_readsDigits 3 = .ok (.istore 4, 2) := by decide +kernel
theorem dX10_readsDigits_5 : decode cX10_readsDigits 5 = .ok (.iload 4, 2) := by decide +kernel
theorem dX10_readsDigits_7 : decode cX10_readsDigits 7 = .ok (.iload_n 2, 1) := by decide +kernel
theorem dX10_readsDigits_8 : decode cX10_readsDigits 8 = .ok (.if_icmp .ge 48, 3) := by decide +kernel
theorem dX10_readsDigits_11 : decode cX10_readsDigits 11 = .ok (.aload_n 0, 1) := by decide +kernel
theorem dX10_readsDigits_12 : decode cX10_readsDigits 12 = .ok (.invokevirtual 106, 3) := by decide +kernel
theorem dX10_readsDigits_15 : decode cX10_readsDigits 15 = .ok (.bipush 48, 2) := by decide +kernel
theorem dX10_readsDigits_17 : decode cX10_readsDigits 17 = .ok (.bipush 57, 2) := by decide +kernel
theorem dX10_readsDigits_19 : decode cX10_readsDigits 19 = .ok (.invokestatic 110, 3) := by decide +kernel
theorem dX10_readsDigits_22 : decode cX10_readsDigits 22 = .ok (.ifCond .ne 5, 3) := by decide +kernel
theorem dX10_readsDigits_25 : decode cX10_readsDigits 25 = .ok (.iconst 0, 1) := by decide +kernel
theorem dX10_readsDigits_26 : decode cX10_readsDigits 26 = .ok (.ireturn, 1) := by decide +kernel
theorem dX10_readsDigits_27 : decode cX10_readsDigits 27 = .ok (.bipush 10, 2) := by decide +kernel
theorem dX10_readsDigits_29 : decode cX10_readsDigits 29 = .ok (.iload_n 3, 1) := by decide +kernel
theorem dX10_readsDigits_30 : decode cX10_readsDigits 30 = .ok (.imul, 1) := by decide +kernel
theorem dX10_readsDigits_31 : decode cX10_readsDigits 31 = .ok (.aload_n 0, 1) := by decide +kernel
theorem dX10_readsDigits_32 : decode cX10_readsDigits 32 = .ok (.invokevirtual 106, 3) := by decide +kernel
theorem dX10_readsDigits_35 : decode cX10_readsDigits 35 = .ok (.iadd, 1) := by decide +kernel
theorem dX10_readsDigits_36 : decode cX10_readsDigits 36 = .ok (.bipush 48, 2) := by decide +kernel
theorem dX10_readsDigits_38 : decode cX10_readsDigits 38 = .ok (.isub, 1) := by decide +kernel
theorem dX10_readsDigits_39 : decode cX10_readsDigits 39 = .ok (.istore_n 3, 1) := by decide +kernel
theorem dX10_readsDigits_40 : decode cX10_readsDigits 40 = .ok (.aload_n 0, 1) := by decide +kernel
theorem dX10_readsDigits_41 : decode cX10_readsDigits 41 = .ok (.dup, 1) := by decide +kernel
theorem dX10_readsDigits_42 : decode cX10_readsDigits 42 = .ok (.getfield 103, 3) := by decide +kernel
theorem dX10_readsDigits_45 : decode cX10_readsDigits 45 = .ok (.iconst 1, 1) := by decide +kernel
theorem dX10_readsDigits_46 : decode cX10_readsDigits 46 = .ok (.iadd, 1) := by decide +kernel
theorem dX10_readsDigits_47 : decode cX10_readsDigits 47 = .ok (.putfield 103, 3) := by decide +kernel
theorem dX10_readsDigits_50 : decode cX10_readsDigits 50 = .ok (.iinc 4 1, 3) := by decide +kernel
theorem dX10_readsDigits_53 : decode cX10_readsDigits 53 = .ok (.goto (-48), 3) := by decide +kernel
theorem dX10_readsDigits_56 : decode cX10_readsDigits 56 = .ok (.aload_n 0, 1) := by decide +kernel
theorem dX10_readsDigits_57 : decode cX10_readsDigits 57 = .ok (.getfield 37, 3) := by decide +kernel
theorem dX10_readsDigits_60 : decode cX10_readsDigits 60 = .ok (.iload_n 1, 1) := by decide +kernel
theorem dX10_readsDigits_61 : decode cX10_readsDigits 61 = .ok (.iload_n 3, 1) := by decide +kernel
theorem dX10_readsDigits_62 : decode cX10_readsDigits 62 = .ok (.iastore, 1) := by decide +kernel
theorem dX10_readsDigits_63 : decode cX10_readsDigits 63 = .ok (.iconst 1, 1) := by decide +kernel
theorem dX10_readsDigits_64 : decode cX10_readsDigits 64 = .ok (.ireturn, 1) := by decide +kernel
theorem dX10_readsAll_0 : decode cX10_readsAll 0 = .ok (.iload_n 1, 1) := by decide +kernel
theorem dX10_readsAll_1 : decode cX10_readsAll 1 = .ok (.lookupswitch 150 #[(100, 143), (102, 117), (112, 43), (119, 80)], 43) := by decide +kernel
theorem dX10_readsAll_44 : decode cX10_readsAll 44 = .ok (.aload_n 0, 1) := by decide +kernel
theorem dX10_readsAll_45 : decode cX10_readsAll 45 = .ok (.iload_n 2, 1) := by decide +kernel
theorem dX10_readsAll_46 : decode cX10_readsAll 46 = .ok (.iconst 1, 1) := by decide +kernel
theorem dX10_readsAll_47 : decode cX10_readsAll 47 = .ok (.invokevirtual 114, 3) := by decide +kernel
theorem dX10_readsAll_50 : decode cX10_readsAll 50 = .ok (.ifCond .eq 29, 3) := by decide +kernel
theorem dX10_readsAll_53 : decode cX10_readsAll 53 = .ok (.aload_n 0, 1) := by decide +kernel
theorem dX10_readsAll_54 : decode cX10_readsAll 54 = .ok (.iload_n 2, 1) := by decide +kernel
theorem dX10_readsAll_55 : decode cX10_readsAll 55 = .ok (.iconst 1, 1) := by decide +kernel
theorem dX10_readsAll_56 : decode cX10_readsAll 56 = .ok (.iadd, 1) := by decide +kernel
theorem dX10_readsAll_57 : decode cX10_readsAll 57 = .ok (.iconst 1, 1) := by decide +kernel
theorem dX10_readsAll_58 : decode cX10_readsAll 58 = .ok (.invokevirtual 114, 3) := by decide +kernel
theorem dX10_readsAll_61 : decode cX10_readsAll 61 = .ok (.ifCond .eq 18, 3) := by decide +kernel
theorem dX10_readsAll_64 : decode cX10_readsAll 64 = .ok (.aload_n 0, 1) := by decide +kernel
theorem dX10_readsAll_65 : decode cX10_readsAll 65 = .ok (.iload_n 2, 1) := by decide +kernel
theorem dX10_readsAll_66 : decode cX10_readsAll 66 = .ok (.iconst 2, 1) := by decide +kernel
theorem dX10_readsAll_67 : decode cX10_readsAll 67 = .ok (.iadd, 1) := by decide +kernel
theorem dX10_readsAll_68 : decode cX10_readsAll 68 = .ok (.iconst 1, 1) := by decide +kernel
theorem dX10_readsAll_69 : decode cX10_readsAll 69 = .ok (.invokevirtual 114, 3) := by decide +kernel
theorem dX10_readsAll_72 : decode cX10_readsAll 72 = .ok (.ifCond .eq 7, 3) := by decide +kernel
theorem dX10_readsAll_75 : decode cX10_readsAll 75 = .ok (.iconst 1, 1) := by decide +kernel
theorem dX10_readsAll_76 : decode cX10_readsAll 76 = .ok (.goto 4, 3) := by decide +kernel
theorem dX10_readsAll_79 : decode cX10_readsAll 79 = .ok (.iconst 0, 1) := by decide +kernel
theorem dX10_readsAll_80 : decode cX10_readsAll 80 = .ok (.ireturn, 1) := by decide +kernel
theorem dX10_readsAll_81 : decode cX10_readsAll 81 = .ok (.aload_n 0, 1) := by decide +kernel
theorem dX10_readsAll_82 : decode cX10_readsAll 82 = .ok (.iload_n 2, 1) := by decide +kernel
theorem dX10_readsAll_83 : decode cX10_readsAll 83 = .ok (.iconst 2, 1) := by decide +kernel
theorem dX10_readsAll_84 : decode cX10_readsAll 84 = .ok (.invokevirtual 114, 3) := by decide +kernel
theorem dX10_readsAll_87 : decode cX10_readsAll 87 = .ok (.ifCond .eq 29, 3) := by decide +kernel
theorem dX10_readsAll_90 : decode cX10_readsAll 90 = .ok (.aload_n 0, 1) := by decide +kernel
theorem dX10_readsAll_91 : decode cX10_readsAll 91 = .ok (.iload_n 2, 1) := by decide +kernel
theorem dX10_readsAll_92 : decode cX10_readsAll 92 = .ok (.iconst 1, 1) := by decide +kernel
theorem dX10_readsAll_93 : decode cX10_readsAll 93 = .ok (.iadd, 1) := by decide +kernel
theorem dX10_readsAll_94 : decode cX10_readsAll 94 = .ok (.iconst 1, 1) := by decide +kernel
theorem dX10_readsAll_95 : decode cX10_readsAll 95 = .ok (.invokevirtual 114, 3) := by decide +kernel
theorem dX10_readsAll_98 : decode cX10_readsAll 98 = .ok (.ifCond .eq 18, 3) := by decide +kernel
theorem dX10_readsAll_101 : decode cX10_readsAll 101 = .ok (.aload_n 0, 1) := by decide +kernel
theorem dX10_readsAll_102 : decode cX10_readsAll 102 = .ok (.iload_n 2, 1) := by decide +kernel
theorem dX10_readsAll_103 : decode cX10_readsAll 103 = .ok (.iconst 2, 1) := by decide +kernel
theorem dX10_readsAll_104 : decode cX10_readsAll 104 = .ok (.iadd, 1) := by decide +kernel
theorem dX10_readsAll_105 : decode cX10_readsAll 105 = .ok (.iconst 1, 1) := by decide +kernel
theorem dX10_readsAll_106 : decode cX10_readsAll 106 = .ok (.invokevirtual 114, 3) := by decide +kernel
theorem dX10_readsAll_109 : decode cX10_readsAll 109 = .ok (.ifCond .eq 7, 3) := by decide +kernel
theorem dX10_readsAll_112 : decode cX10_readsAll 112 = .ok (.iconst 1, 1) := by decide +kernel
theorem dX10_readsAll_113 : decode cX10_readsAll 113 = .ok (.goto 4, 3) := by decide +kernel
theorem dX10_readsAll_116 : decode cX10_readsAll 116 = .ok (.iconst 0, 1) := by decide +kernel
theorem dX10_readsAll_117 : decode cX10_readsAll 117 = .ok (.ireturn, 1) := by decide +kernel
theorem dX10_readsAll_118 : decode cX10_readsAll 118 = .ok (.aload_n 0, 1) := by decide +kernel
theorem dX10_readsAll_119 : decode cX10_readsAll 119 = .ok (.iload_n 2, 1) := by decide +kernel
theorem dX10_readsAll_120 : decode cX10_readsAll 120 = .ok (.iconst 1, 1) := by decide +kernel
theorem dX10_readsAll_121 : decode cX10_readsAll 121 = .ok (.invokevirtual 114, 3) := by decide +kernel
theorem dX10_readsAll_124 : decode cX10_readsAll 124 = .ok (.ifCond .eq 18, 3) := by decide +kernel
theorem dX10_readsAll_127 : decode cX10_readsAll 127 = .ok (.aload_n 0, 1) := by decide +kernel
theorem dX10_readsAll_128 : decode cX10_readsAll 128 = .ok (.iload_n 2, 1) := by decide +kernel
theorem dX10_readsAll_129 : decode cX10_readsAll 129 = .ok (.iconst 1, 1) := by decide +kernel
theorem dX10_readsAll_130 : decode cX10_readsAll 130 = .ok (.iadd, 1) := by decide +kernel
theorem dX10_readsAll_131 : decode cX10_readsAll 131 = .ok (.iconst 1, 1) := by decide +kernel
theorem dX10_readsAll_132 : decode cX10_readsAll 132 = .ok (.invokevirtual 114, 3) := by decide +kernel
theorem dX10_readsAll_135 : decode cX10_readsAll 135 = .ok (.ifCond .eq 7, 3) := by decide +kernel
theorem dX10_readsAll_138 : decode cX10_readsAll 138 = .ok (.iconst 1, 1) := by decide +kernel
theorem dX10_readsAll_139 : decode cX10_readsAll 139 = .ok (.goto 4, 3) := by decide +kernel
theorem dX10_readsAll_142 : decode cX10_readsAll 142 = .ok (.iconst 0, 1) := by decide +kernel
theorem dX10_readsAll_143 : decode cX10_readsAll 143 = .ok (.ireturn, 1) := by decide +kernel
theorem dX10_readsAll_144 : decode cX10_readsAll 144 = .ok (.aload_n 0, 1) := by decide +kernel
theorem dX10_readsAll_145 : decode cX10_readsAll 145 = .ok (.iload_n 2, 1) := by decide +kernel
theorem dX10_readsAll_146 : decode cX10_readsAll 146 = .ok (.iconst 2, 1) := by decide +kernel
theorem dX10_readsAll_147 : decode cX10_readsAll 147 = .ok (.invokevirtual 114, 3) := by decide +kernel
theorem dX10_readsAll_150 : decode cX10_readsAll 150 = .ok (.ireturn, 1) := by decide +kernel
theorem dX10_readsAll_151 : decode cX10_readsAll 151 = .ok (.aload_n 0, 1) := by decide +kernel
theorem dX10_readsAll_152 : decode cX10_readsAll 152 = .ok (.iload_n 2, 1) := by decide +kernel
theorem dX10_readsAll_153 : decode cX10_readsAll 153 = .ok (.iconst 1, 1) := by decide +kernel
theorem dX10_readsAll_154 : decode cX10_readsAll 154 = .ok (.invokevirtual 114, 3) := by decide +kernel
theorem dX10_readsAll_157 : decode cX10_readsAll 157 = .ok (.ireturn, 1) := by decide +kernel
theorem dX10_statement_0 : decode cX10_statement 0 = .ok (.aload_n 0, 1) := by decide +kernel
theorem dX10_statement_1 : decode cX10_statement 1 = .ok (.invokevirtual 106, 3) := by decide +kernel
theorem dX10_statement_4 : decode cX10_statement 4 = .ok (.istore_n 1, 1) := by decide +kernel
theorem dX10_statement_5 : decode cX10_statement 5 = .ok (.iload_n 1, 1) := by decide +kernel
theorem dX10_statement_6 : decode cX10_statement 6 = .ok (.bipush 112, 2) := by decide +kernel
theorem dX10_statement_8 : decode cX10_statement 8 = .ok (.if_icmp .eq 35, 3) := by decide +kernel
theorem dX10_statement_11 : decode cX10_statement 11 = .ok (.iload_n 1, 1) := by decide +kernel
theorem dX10_statement_12 : decode cX10_statement 12 = .ok (.bipush 119, 2) := by decide +kernel
theorem dX10_statement_14 : decode cX10_statement 14 = .ok (.if_icmp .eq 29, 3) := by decide +kernel
theorem dX10_statement_17 : decode cX10_statement 17 = .ok (.iload_n 1, 1) := by decide +kernel
theorem dX10_statement_18 : decode cX10_statement 18 = .ok (.bipush 102, 2) := by decide +kernel
theorem dX10_statement_20 : decode cX10_statement 20 = .ok (.if_icmp .eq 23, 3) := by decide +kernel
theorem dX10_statement_23 : decode cX10_statement 23 = .ok (.iload_n 1, 1) := by decide +kernel
theorem dX10_statement_24 : decode cX10_statement 24 = .ok (.bipush 100, 2) := by decide +kernel
theorem dX10_statement_26 : decode cX10_statement 26 = .ok (.if_icmp .eq 17, 3) := by decide +kernel
theorem dX10_statement_29 : decode cX10_statement 29 = .ok (.iload_n 1, 1) := by decide +kernel
theorem dX10_statement_30 : decode cX10_statement 30 = .ok (.bipush 108, 2) := by decide +kernel
theorem dX10_statement_32 : decode cX10_statement 32 = .ok (.if_icmp .eq 11, 3) := by decide +kernel
theorem dX10_statement_35 : decode cX10_statement 35 = .ok (.iload_n 1, 1) := by decide +kernel
theorem dX10_statement_36 : decode cX10_statement 36 = .ok (.bipush 109, 2) := by decide +kernel
theorem dX10_statement_38 : decode cX10_statement 38 = .ok (.if_icmp .eq 5, 3) := by decide +kernel
theorem dX10_statement_41 : decode cX10_statement 41 = .ok (.iconst 0, 1) := by decide +kernel
theorem dX10_statement_42 : decode cX10_statement 42 = .ok (.ireturn, 1) := by decide +kernel
theorem dX10_statement_43 : decode cX10_statement 43 = .ok (.aload_n 0, 1) := by decide +kernel
theorem dX10_statement_44 : decode cX10_statement 44 = .ok (.getfield 31, 3) := by decide +kernel
theorem dX10_statement_47 : decode cX10_statement 47 = .ok (.aload_n 0, 1) := by decide +kernel
theorem dX10_statement_48 : decode cX10_statement 48 = .ok (.getfield 118, 3) := by decide +kernel
theorem dX10_statement_51 : decode cX10_statement 51 = .ok (.iload_n 1, 1) := by decide +kernel
theorem dX10_statement_52 : decode cX10_statement 52 = .ok (.iastore, 1) := by decide +kernel
theorem dX10_statement_53 : decode cX10_statement 53 = .ok (.aload_n 0, 1) := by decide +kernel
theorem dX10_statement_54 : decode cX10_statement 54 = .ok (.getfield 34, 3) := by decide +kernel
theorem dX10_statement_57 : decode cX10_statement 57 = .ok (.aload_n 0, 1) := by decide +kernel
theorem dX10_statement_58 : decode cX10_statement 58 = .ok (.getfield 118, 3) := by decide +kernel
theorem dX10_statement_61 : decode cX10_statement 61 = .ok (.aload_n 0, 1) := by decide +kernel
theorem dX10_statement_62 : decode cX10_statement 62 = .ok (.getfield 103, 3) := by decide +kernel
theorem dX10_statement_65 : decode cX10_statement 65 = .ok (.iastore, 1) := by decide +kernel
theorem dX10_statement_66 : decode cX10_statement 66 = .ok (.aload_n 0, 1) := by decide +kernel
theorem dX10_statement_67 : decode cX10_statement 67 = .ok (.dup, 1) := by decide +kernel
theorem dX10_statement_68 : decode cX10_statement 68 = .ok (.getfield 103, 3) := by decide +kernel
theorem dX10_statement_71 : decode cX10_statement 71 = .ok (.iconst 1, 1) := by decide +kernel
theorem dX10_statement_72 : decode cX10_statement 72 = .ok (.iadd, 1) := by decide +kernel
theorem dX10_statement_73 : decode cX10_statement 73 = .ok (.putfield 103, 3) := by decide +kernel
theorem dX10_statement_76 : decode cX10_statement 76 = .ok (.aload_n 0, 1) := by decide +kernel
theorem dX10_statement_77 : decode cX10_statement 77 = .ok (.iload_n 1, 1) := by decide +kernel
theorem dX10_statement_78 : decode cX10_statement 78 = .ok (.iconst 3, 1) := by decide +kernel
theorem dX10_statement_79 : decode cX10_statement 79 = .ok (.aload_n 0, 1) := by decide +kernel
theorem dX10_statement_80 : decode cX10_statement 80 = .ok (.getfield 118, 3) := by decide +kernel
theorem dX10_statement_83 : decode cX10_statement 83 = .ok (.imul, 1) := by decide +kernel
theorem dX10_statement_84 : decode cX10_statement 84 = .ok (.invokevirtual 121, 3) := by decide +kernel
theorem dX10_statement_87 : decode cX10_statement 87 = .ok (.ifCond .eq 12, 3) := by decide +kernel
theorem dX10_statement_90 : decode cX10_statement 90 = .ok (.aload_n 0, 1) := by decide +kernel
theorem dX10_statement_91 : decode cX10_statement 91 = .ok (.invokevirtual 106, 3) := by decide +kernel
theorem dX10_statement_94 : decode cX10_statement 94 = .ok (.bipush 59, 2) := by decide +kernel
theorem dX10_statement_96 : decode cX10_statement 96 = .ok (.if_icmp .eq 5, 3) := by decide +kernel
theorem dX10_statement_99 : decode cX10_statement 99 = .ok (.iconst 0, 1) := by decide +kernel
theorem dX10_statement_100 : decode cX10_statement 100 = .ok (.ireturn, 1) := by decide +kernel
theorem dX10_statement_101 : decode cX10_statement 101 = .ok (.aload_n 0, 1) := by decide +kernel
theorem dX10_statement_102 : decode cX10_statement 102 = .ok (.dup, 1) := by decide +kernel
theorem dX10_statement_103 : decode cX10_statement 103 = .ok (.getfield 103, 3) := by decide +kernel
theorem dX10_statement_106 : decode cX10_statement 106 = .ok (.iconst 1, 1) := by decide +kernel
theorem dX10_statement_107 : decode cX10_statement 107 = .ok (.iadd, 1) := by decide +kernel
theorem dX10_statement_108 : decode cX10_statement 108 = .ok (.putfield 103, 3) := by decide +kernel
theorem dX10_statement_111 : decode cX10_statement 111 = .ok (.iconst 1, 1) := by decide +kernel
theorem dX10_statement_112 : decode cX10_statement 112 = .ok (.ireturn, 1) := by decide +kernel
theorem dX10_comesOne_0 : decode cX10_comesOne 0 = .ok (.aload_n 0, 1) := by decide +kernel
theorem dX10_comesOne_1 : decode cX10_comesOne 1 = .ok (.getfield 37, 3) := by decide +kernel
theorem dX10_comesOne_4 : decode cX10_comesOne 4 = .ok (.iload_n 1, 1) := by decide +kernel
theorem dX10_comesOne_5 : decode cX10_comesOne 5 = .ok (.iaload, 1) := by decide +kernel
theorem dX10_comesOne_6 : decode cX10_comesOne 6 = .ok (.bipush 6, 2) := by decide +kernel
theorem dX10_comesOne_8 : decode cX10_comesOne 8 = .ok (.if_icmp .gt 47, 3) := by decide +kernel
theorem dX10_comesOne_11 : decode cX10_comesOne 11 = .ok (.aload_n 0, 1) := by decide +kernel
theorem dX10_comesOne_12 : decode cX10_comesOne 12 = .ok (.getfield 37, 3) := by decide +kernel
theorem dX10_comesOne_15 : decode cX10_comesOne 15 = .ok (.iload_n 1, 1) := by decide +kernel
theorem dX10_comesOne_16 : decode cX10_comesOne 16 = .ok (.iconst 2, 1) := by decide +kernel
theorem dX10_comesOne_17 : decode cX10_comesOne 17 = .ok (.iadd, 1) := by decide +kernel
theorem dX10_comesOne_18 : decode cX10_comesOne 18 = .ok (.iaload, 1) := by decide +kernel
theorem dX10_comesOne_19 : decode cX10_comesOne 19 = .ok (.iconst 1, 1) := by decide +kernel
theorem dX10_comesOne_20 : decode cX10_comesOne 20 = .ok (.if_icmp .gt 35, 3) := by decide +kernel
theorem dX10_comesOne_23 : decode cX10_comesOne 23 = .ok (.aload_n 0, 1) := by decide +kernel
theorem dX10_comesOne_24 : decode cX10_comesOne 24 = .ok (.getfield 37, 3) := by decide +kernel
theorem dX10_comesOne_27 : decode cX10_comesOne 27 = .ok (.iload_n 1, 1) := by decide +kernel
theorem dX10_comesOne_28 : decode cX10_comesOne 28 = .ok (.iaload, 1) := by decide +kernel
theorem dX10_comesOne_29 : decode cX10_comesOne 29 = .ok (.bipush 6, 2) := by decide +kernel
theorem dX10_comesOne_31 : decode cX10_comesOne 31 = .ok (.if_icmp .ne 15, 3) := by decide +kernel
theorem dX10_comesOne_34 : decode cX10_comesOne 34 = .ok (.aload_n 0, 1) := by decide +kernel
theorem dX10_comesOne_35 : decode cX10_comesOne 35 = .ok (.getfield 37, 3) := by decide +kernel
theorem dX10_comesOne_38 : decode cX10_comesOne 38 = .ok (.iload_n 1, 1) := by decide +kernel
theorem dX10_comesOne_39 : decode cX10_comesOne 39 = .ok (.iconst 2, 1) := by decide +kernel
theorem dX10_comesOne_40 : decode cX10_comesOne 40 = .ok (.iadd, 1) := by decide +kernel
theorem dX10_comesOne_41 : decode cX10_comesOne 41 = .ok (.iaload, 1) := by decide +kernel
theorem dX10_comesOne_42 : decode cX10_comesOne 42 = .ok (.iconst 1, 1) := by decide +kernel
theorem dX10_comesOne_43 : decode cX10_comesOne 43 = .ok (.if_icmp .eq 12, 3) := by decide +kernel
theorem dX10_comesOne_46 : decode cX10_comesOne 46 = .ok (.aload_n 0, 1) := by decide +kernel
theorem dX10_comesOne_47 : decode cX10_comesOne 47 = .ok (.getfield 88, 3) := by decide +kernel
theorem dX10_comesOne_50 : decode cX10_comesOne 50 = .ok (.bipush 8, 2) := by decide +kernel
theorem dX10_comesOne_52 : decode cX10_comesOne 52 = .ok (.if_icmp .ne 5, 3) := by decide +kernel
theorem dX10_comesOne_55 : decode cX10_comesOne 55 = .ok (.iconst 0, 1) := by decide +kernel
theorem dX10_comesOne_56 : decode cX10_comesOne 56 = .ok (.ireturn, 1) := by decide +kernel
theorem dX10_comesOne_57 : decode cX10_comesOne 57 = .ok (.aload_n 0, 1) := by decide +kernel
theorem dX10_comesOne_58 : decode cX10_comesOne 58 = .ok (.getfield 16, 3) := by decide +kernel
theorem dX10_comesOne_61 : decode cX10_comesOne 61 = .ok (.aload_n 0, 1) := by decide +kernel
theorem dX10_comesOne_62 : decode cX10_comesOne 62 = .ok (.getfield 88, 3) := by decide +kernel
theorem dX10_comesOne_65 : decode cX10_comesOne 65 = .ok (.aload_n 0, 1) := by decide +kernel
theorem dX10_comesOne_66 : decode cX10_comesOne 66 = .ok (.getfield 37, 3) := by decide +kernel
theorem dX10_comesOne_69 : decode cX10_comesOne 69 = .ok (.iload_n 1, 1) := by decide +kernel
theorem dX10_comesOne_70 : decode cX10_comesOne 70 = .ok (.iaload, 1) := by decide +kernel
theorem dX10_comesOne_71 : decode cX10_comesOne 71 = .ok (.iastore, 1) := by decide +kernel
theorem dX10_comesOne_72 : decode cX10_comesOne 72 = .ok (.aload_n 0, 1) := by decide +kernel
theorem dX10_comesOne_73 : decode cX10_comesOne 73 = .ok (.getfield 19, 3) := by decide +kernel
theorem dX10_comesOne_76 : decode cX10_comesOne 76 = .ok (.aload_n 0, 1) := by decide +kernel
theorem dX10_comesOne_77 : decode cX10_comesOne 77 = .ok (.getfield 88, 3) := by decide +kernel
theorem dX10_comesOne_80 : decode cX10_comesOne 80 = .ok (.aload_n 0, 1) := by decide +kernel
theorem dX10_comesOne_81 : decode cX10_comesOne 81 = .ok (.getfield 37, 3) := by decide +kernel
theorem dX10_comesOne_84 : decode cX10_comesOne 84 = .ok (.iload_n 1, 1) := by decide +kernel
theorem dX10_comesOne_85 : decode cX10_comesOne 85 = .ok (.iconst 1, 1) := by decide +kernel
theorem dX10_comesOne_86 : decode cX10_comesOne 86 = .ok (.iadd, 1) := by decide +kernel
theorem dX10_comesOne_87 : decode cX10_comesOne 87 = .ok (.iaload, 1) := by decide +kernel
theorem dX10_comesOne_88 : decode cX10_comesOne 88 = .ok (.iastore, 1) := by decide +kernel
theorem dX10_comesOne_89 : decode cX10_comesOne 89 = .ok (.aload_n 0, 1) := by decide +kernel
theorem dX10_comesOne_90 : decode cX10_comesOne 90 = .ok (.dup, 1) := by decide +kernel
theorem dX10_comesOne_91 : decode cX10_comesOne 91 = .ok (.getfield 124, 3) := by decide +kernel
theorem dX10_comesOne_94 : decode cX10_comesOne 94 = .ok (.aload_n 0, 1) := by decide +kernel
theorem dX10_comesOne_95 : decode cX10_comesOne 95 = .ok (.getfield 37, 3) := by decide +kernel
theorem dX10_comesOne_98 : decode cX10_comesOne 98 = .ok (.iload_n 1, 1) := by decide +kernel
theorem dX10_comesOne_99 : decode cX10_comesOne 99 = .ok (.iconst 2, 1) := by decide +kernel
theorem dX10_comesOne_100 : decode cX10_comesOne 100 = .ok (.iadd, 1) := by decide +kernel
theorem dX10_comesOne_101 : decode cX10_comesOne 101 = .ok (.iaload, 1) := by decide +kernel
theorem dX10_comesOne_102 : decode cX10_comesOne 102 = .ok (.aload_n 0, 1) := by decide +kernel
theorem dX10_comesOne_103 : decode cX10_comesOne 103 = .ok (.getfield 88, 3) := by decide +kernel
theorem dX10_comesOne_106 : decode cX10_comesOne 106 = .ok (.ishl, 1) := by decide +kernel
theorem dX10_comesOne_107 : decode cX10_comesOne 107 = .ok (.ior, 1) := by decide +kernel
theorem dX10_comesOne_108 : decode cX10_comesOne 108 = .ok (.putfield 124, 3) := by decide +kernel
theorem dX10_comesOne_111 : decode cX10_comesOne 111 = .ok (.aload_n 0, 1) := by decide +kernel
theorem dX10_comesOne_112 : decode cX10_comesOne 112 = .ok (.dup, 1) := by decide +kernel
theorem dX10_comesOne_113 : decode cX10_comesOne 113 = .ok (.getfield 88, 3) := by decide +kernel
theorem dX10_comesOne_116 : decode cX10_comesOne 116 = .ok (.iconst 1, 1) := by decide +kernel
theorem dX10_comesOne_117 : decode cX10_comesOne 117 = .ok (.iadd, 1) := by decide +kernel
theorem dX10_comesOne_118 : decode cX10_comesOne 118 = .ok (.putfield 88, 3) := by decide +kernel
theorem dX10_comesOne_121 : decode cX10_comesOne 121 = .ok (.iconst 1, 1) := by decide +kernel
theorem dX10_comesOne_122 : decode cX10_comesOne 122 = .ok (.ireturn, 1) := by decide +kernel
theorem dX10_comesMinute_0 : decode cX10_comesMinute 0 = .ok (.iload_n 1, 1) := by decide +kernel
theorem dX10_comesMinute_1 : decode cX10_comesMinute 1 = .ok (.iconst 1, 1) := by decide +kernel
theorem dX10_comesMinute_2 : decode cX10_comesMinute 2 = .ok (.if_icmp .gt 24, 3) := by decide +kernel
theorem dX10_comesMinute_5 : decode cX10_comesMinute 5 = .ok (.aload_n 0, 1) := by decide +kernel
theorem dX10_comesMinute_6 : decode cX10_comesMinute 6 = .ok (.getfield 127, 3) := by decide +kernel
theorem dX10_comesMinute_9 : decode cX10_comesMinute 9 = .ok (.aload_n 0, 1) := by decide +kernel
theorem dX10_comesMinute_10 : decode cX10_comesMinute 10 = .ok (.invokevirtual 130, 3) := by decide +kernel
theorem dX10_comesMinute_13 : decode cX10_comesMinute 13 = .ok (.if_icmp .eq 13, 3) := by decide +kernel
theorem dX10_comesMinute_16 : decode cX10_comesMinute 16 = .ok (.aload_n 0, 1) := by decide +kernel
theorem dX10_comesMinute_17 : decode cX10_comesMinute 17 = .ok (.getfield 133, 3) := by decide +kernel
theorem dX10_comesMinute_20 : decode cX10_comesMinute 20 = .ok (.sipush 999, 3) := by decide +kernel
theorem dX10_comesMinute_23 : decode cX10_comesMinute 23 = .ok (.if_icmp .ne 5, 3) := by decide +kernel
theorem dX10_comesMinute_26 : decode cX10_comesMinute 26 = .ok (.iconst 0, 1) := by decide +kernel
theorem dX10_comesMinute_27 : decode cX10_comesMinute 27 = .ok (.ireturn, 1) := by decide +kernel
theorem dX10_comesMinute_28 : decode cX10_comesMinute 28 = .ok (.aload_n 0, 1) := by decide +kernel
theorem dX10_comesMinute_29 : decode cX10_comesMinute 29 = .ok (.iload_n 1, 1) := by decide +kernel
theorem dX10_comesMinute_30 : decode cX10_comesMinute 30 = .ok (.iconst 1, 1) := by decide +kernel
theorem dX10_comesMinute_31 : decode cX10_comesMinute 31 = .ok (.if_icmp .ne 7, 3) := by decide +kernel
theorem dX10_comesMinute_34 : decode cX10_comesMinute 34 = .ok (.iconst 1, 1) := by decide +kernel
theorem dX10_comesMinute_35 : decode cX10_comesMinute 35 = .ok (.goto 4, 3) := by decide +kernel
theorem dX10_comesMinute_38 : decode cX10_comesMinute 38 = .ok (.iconst 0, 1) := by decide +kernel
theorem dX10_comesMinute_39 : decode cX10_comesMinute 39 = .ok (.invokevirtual 136, 3) := by decide +kernel
theorem dX10_comesMinute_42 : decode cX10_comesMinute 42 = .ok (.iconst 1, 1) := by decide +kernel
theorem dX10_comesMinute_43 : decode cX10_comesMinute 43 = .ok (.ireturn, 1) := by decide +kernel
theorem dX10_comes_0 : decode cX10_comes 0 = .ok (.iconst 3, 1) := by decide +kernel
theorem dX10_comes_1 : decode cX10_comes 1 = .ok (.iload_n 1, 1) := by decide +kernel
theorem dX10_comes_2 : decode cX10_comes 2 = .ok (.imul, 1) := by decide +kernel
theorem dX10_comes_3 : decode cX10_comes 3 = .ok (.istore_n 2, 1) := by decide +kernel
theorem dX10_comes_4 : decode cX10_comes 4 = .ok (.aload_n 0, 1) := by decide +kernel
theorem dX10_comes_5 : decode cX10_comes 5 = .ok (.getfield 37, 3) := by decide +kernel
theorem dX10_comes_8 : decode cX10_comes 8 = .ok (.iload_n 2, 1) := by decide +kernel
theorem dX10_comes_9 : decode cX10_comes 9 = .ok (.iaload, 1) := by decide +kernel
theorem dX10_comes_10 : decode cX10_comes 10 = .ok (.istore_n 3, 1) := by decide +kernel
theorem dX10_comes_11 : decode cX10_comes 11 = .ok (.aload_n 0, 1) := by decide +kernel
theorem dX10_comes_12 : decode cX10_comes 12 = .ok (.getfield 37, 3) := by decide +kernel
theorem dX10_comes_15 : decode cX10_comes 15 = .ok (.iload_n 2, 1) := by decide +kernel
theorem dX10_comes_16 : decode cX10_comes 16 = .ok (.iconst 1, 1) := by decide +kernel
theorem dX10_comes_17 : decode cX10_comes 17 = .ok (.iadd, 1) := by decide +kernel
theorem dX10_comes_18 : decode cX10_comes 18 = .ok (.iaload, 1) := by decide +kernel
theorem dX10_comes_19 : decode cX10_comes 19 = .ok (.istore 4, 2) := by decide +kernel
theorem dX10_comes_21 : decode cX10_comes 21 = .ok (.aload_n 0, 1) := by decide +kernel
theorem dX10_comes_22 : decode cX10_comes 22 = .ok (.getfield 31, 3) := by decide +kernel
theorem dX10_comes_25 : decode cX10_comes 25 = .ok (.iload_n 1, 1) := by decide +kernel
theorem dX10_comes_26 : decode cX10_comes 26 = .ok (.iaload, 1) := by decide +kernel
theorem dX10_comes_27 : decode cX10_comes 27 = .ok (.lookupswitch 212 #[(100, 135), (102, 99), (108, 166), (112, 49), (119, 55)], 49) := by decide +kernel
theorem dX10_comes_76 : decode cX10_comes 76 = .ok (.aload_n 0, 1) := by decide +kernel
theorem dX10_comes_77 : decode cX10_comes 77 = .ok (.iload_n 2, 1) := by decide +kernel
theorem dX10_comes_78 : decode cX10_comes 78 = .ok (.invokevirtual 140, 3) := by decide +kernel
theorem dX10_comes_81 : decode cX10_comes 81 = .ok (.ireturn, 1) := by decide +kernel
theorem dX10_comes_82 : decode cX10_comes 82 = .ok (.iload_n 3, 1) := by decide +kernel
theorem dX10_comes_83 : decode cX10_comes 83 = .ok (.bipush 24, 2) := by decide +kernel
theorem dX10_comes_85 : decode cX10_comes 85 = .ok (.if_icmp .gt 15, 3) := by decide +kernel
theorem dX10_comes_88 : decode cX10_comes 88 = .ok (.aload_n 0, 1) := by decide +kernel
theorem dX10_comes_89 : decode cX10_comes 89 = .ok (.getfield 37, 3) := by decide +kernel
theorem dX10_comes_92 : decode cX10_comes 92 = .ok (.iload_n 2, 1) := by decide +kernel
theorem dX10_comes_93 : decode cX10_comes 93 = .ok (.iconst 2, 1) := by decide +kernel
theorem dX10_comes_94 : decode cX10_comes 94 = .ok (.iadd, 1) := by decide +kernel
theorem dX10_comes_95 : decode cX10_comes 95 = .ok (.iaload, 1) := by decide +kernel
theorem dX10_comes_96 : decode cX10_comes 96 = .ok (.iconst 2, 1) := by decide +kernel
theorem dX10_comes_97 : decode cX10_comes 97 = .ok (.if_icmp .le 5, 3) := by decide +kernel
theorem dX10_comes_100 : decode cX10_comes 100 = .ok (.iconst 0, 1) := by decide +kernel
theorem dX10_comes_101 : decode cX10_comes 101 = .ok (.ireturn, 1) := by decide +kernel
theorem dX10_comes_102 : decode cX10_comes 102 = .ok (.aload_n 0, 1) := by decide +kernel
theorem dX10_comes_103 : decode cX10_comes 103 = .ok (.getfield 22, 3) := by decide +kernel
theorem dX10_comes_106 : decode cX10_comes 106 = .ok (.iload_n 3, 1) := by decide +kernel
theorem dX10_comes_107 : decode cX10_comes 107 = .ok (.iload 4, 2) := by decide +kernel
theorem dX10_comes_109 : decode cX10_comes 109 = .ok (.iastore, 1) := by decide +kernel
theorem dX10_comes_110 : decode cX10_comes 110 = .ok (.aload_n 0, 1) := by decide +kernel
theorem dX10_comes_111 : decode cX10_comes 111 = .ok (.getfield 25, 3) := by decide +kernel
theorem dX10_comes_114 : decode cX10_comes 114 = .ok (.iload_n 3, 1) := by decide +kernel
theorem dX10_comes_115 : decode cX10_comes 115 = .ok (.aload_n 0, 1) := by decide +kernel
theorem dX10_comes_116 : decode cX10_comes 116 = .ok (.getfield 37, 3) := by decide +kernel
theorem dX10_comes_119 : decode cX10_comes 119 = .ok (.iload_n 2, 1) := by decide +kernel
theorem dX10_comes_120 : decode cX10_comes 120 = .ok (.iconst 2, 1) := by decide +kernel
theorem dX10_comes_121 : decode cX10_comes 121 = .ok (.iadd, 1) := by decide +kernel
theorem dX10_comes_122 : decode cX10_comes 122 = .ok (.iaload, 1) := by decide +kernel
theorem dX10_comes_123 : decode cX10_comes 123 = .ok (.iastore, 1) := by decide +kernel
theorem dX10_comes_124 : decode cX10_comes 124 = .ok (.iconst 1, 1) := by decide +kernel
theorem dX10_comes_125 : decode cX10_comes 125 = .ok (.ireturn, 1) := by decide +kernel
theorem dX10_comes_126 : decode cX10_comes 126 = .ok (.aload_n 0, 1) := by decide +kernel
theorem dX10_comes_127 : decode cX10_comes 127 = .ok (.getfield 13, 3) := by decide +kernel
theorem dX10_comes_130 : decode cX10_comes 130 = .ok (.iconst 0, 1) := by decide +kernel
theorem dX10_comes_131 : decode cX10_comes 131 = .ok (.iload_n 3, 1) := by decide +kernel
theorem dX10_comes_132 : decode cX10_comes 132 = .ok (.iastore, 1) := by decide +kernel
theorem dX10_comes_133 : decode cX10_comes 133 = .ok (.aload_n 0, 1) := by decide +kernel
theorem dX10_comes_134 : decode cX10_comes 134 = .ok (.getfield 13, 3) := by decide +kernel
theorem dX10_comes_137 : decode cX10_comes 137 = .ok (.iconst 1, 1) := by decide +kernel
theorem dX10_comes_138 : decode cX10_comes 138 = .ok (.iload 4, 2) := by decide +kernel
theorem dX10_comes_140 : decode cX10_comes 140 = .ok (.iastore, 1) := by decide +kernel
theorem dX10_comes_141 : decode cX10_comes 141 = .ok (.iload_n 3, 1) := by decide +kernel
theorem dX10_comes_142 : decode cX10_comes 142 = .ok (.iconst 3, 1) := by decide +kernel
theorem dX10_comes_143 : decode cX10_comes 143 = .ok (.if_icmp .ge 17, 3) := by decide +kernel
theorem dX10_comes_146 : decode cX10_comes 146 = .ok (.iload 4, 2) := by decide +kernel
theorem dX10_comes_148 : decode cX10_comes 148 = .ok (.iconst 1, 1) := by decide +kernel
theorem dX10_comes_149 : decode cX10_comes 149 = .ok (.iconst 2, 1) := by decide +kernel
theorem dX10_comes_150 : decode cX10_comes 150 = .ok (.invokestatic 110, 3) := by decide +kernel
theorem dX10_comes_153 : decode cX10_comes 153 = .ok (.ifCond .eq 7, 3) := by decide +kernel
theorem dX10_comes_156 : decode cX10_comes 156 = .ok (.iconst 1, 1) := by decide +kernel
theorem dX10_comes_157 : decode cX10_comes 157 = .ok (.goto 4, 3) := by decide +kernel
theorem dX10_comes_160 : decode cX10_comes 160 = .ok (.iconst 0, 1) := by decide +kernel
theorem dX10_comes_161 : decode cX10_comes 161 = .ok (.ireturn, 1) := by decide +kernel
theorem dX10_comes_162 : decode cX10_comes 162 = .ok (.aload_n 0, 1) := by decide +kernel
theorem dX10_comes_163 : decode cX10_comes 163 = .ok (.getfield 13, 3) := by decide +kernel
theorem dX10_comes_166 : decode cX10_comes 166 = .ok (.iconst 2, 1) := by decide +kernel
theorem dX10_comes_167 : decode cX10_comes 167 = .ok (.iload_n 3, 1) := by decide +kernel
theorem dX10_comes_168 : decode cX10_comes 168 = .ok (.iastore, 1) := by decide +kernel
theorem dX10_comes_169 : decode cX10_comes 169 = .ok (.iload_n 3, 1) := by decide +kernel
theorem dX10_comes_170 : decode cX10_comes 170 = .ok (.iconst 1, 1) := by decide +kernel
theorem dX10_comes_171 : decode cX10_comes 171 = .ok (.bipush 24, 2) := by decide +kernel
theorem dX10_comes_173 : decode cX10_comes 173 = .ok (.invokestatic 110, 3) := by decide +kernel
theorem dX10_comes_176 : decode cX10_comes 176 = .ok (.ifCond .eq 15, 3) := by decide +kernel
theorem dX10_comes_179 : decode cX10_comes 179 = .ok (.iload_n 3, 1) := by decide +kernel
theorem dX10_comes_180 : decode cX10_comes 180 = .ok (.aload_n 0, 1) := by decide +kernel
theorem dX10_comes_181 : decode cX10_comes 181 = .ok (.getfield 127, 3) := by decide +kernel
theorem dX10_comes_184 : decode cX10_comes 184 = .ok (.if_icmp .lt 7, 3) := by decide +kernel
theorem dX10_comes_187 : decode cX10_comes 187 = .ok (.iconst 1, 1) := by decide +kernel
theorem dX10_comes_188 : decode cX10_comes 188 = .ok (.goto 4, 3) := by decide +kernel
theorem dX10_comes_191 : decode cX10_comes 191 = .ok (.iconst 0, 1) := by decide +kernel
theorem dX10_comes_192 : decode cX10_comes 192 = .ok (.ireturn, 1) := by decide +kernel
theorem dX10_comes_193 : decode cX10_comes 193 = .ok (.aload_n 0, 1) := by decide +kernel
theorem dX10_comes_194 : decode cX10_comes 194 = .ok (.iload_n 3, 1) := by decide +kernel
theorem dX10_comes_195 : decode cX10_comes 195 = .ok (.invokevirtual 144, 3) := by decide +kernel
theorem dX10_comes_198 : decode cX10_comes 198 = .ok (.ifCond .eq 25, 3) := by decide +kernel
theorem dX10_comes_201 : decode cX10_comes 201 = .ok (.aload_n 0, 1) := by decide +kernel
theorem dX10_comes_202 : decode cX10_comes 202 = .ok (.getfield 16, 3) := by decide +kernel
theorem dX10_comes_205 : decode cX10_comes 205 = .ok (.iload_n 3, 1) := by decide +kernel
theorem dX10_comes_206 : decode cX10_comes 206 = .ok (.iaload, 1) := by decide +kernel
theorem dX10_comes_207 : decode cX10_comes 207 = .ok (.bipush 6, 2) := by decide +kernel
theorem dX10_comes_209 : decode cX10_comes 209 = .ok (.if_icmp .ne 16, 3) := by decide +kernel
theorem dX10_comes_212 : decode cX10_comes 212 = .ok (.aload_n 0, 1) := by decide +kernel
theorem dX10_comes_213 : decode cX10_comes 213 = .ok (.getfield 124, 3) := by decide +kernel
theorem dX10_comes_216 : decode cX10_comes 216 = .ok (.iload_n 3, 1) := by decide +kernel
theorem dX10_comes_217 : decode cX10_comes 217 = .ok (.invokestatic 147, 3) := by decide +kernel
theorem dX10_comes_220 : decode cX10_comes 220 = .ok (.ifCond .ne 5, 3) := by decide +kernel
theorem dX10_comes_223 : decode cX10_comes 223 = .ok (.iconst 0, 1) := by decide +kernel
theorem dX10_comes_224 : decode cX10_comes 224 = .ok (.ireturn, 1) := by decide +kernel
theorem dX10_comes_225 : decode cX10_comes 225 = .ok (.aload_n 0, 1) := by decide +kernel
theorem dX10_comes_226 : decode cX10_comes 226 = .ok (.dup, 1) := by decide +kernel
theorem dX10_comes_227 : decode cX10_comes 227 = .ok (.getfield 124, 3) := by decide +kernel
theorem dX10_comes_230 : decode cX10_comes 230 = .ok (.iconst 1, 1) := by decide +kernel
theorem dX10_comes_231 : decode cX10_comes 231 = .ok (.iload_n 3, 1) := by decide +kernel
theorem dX10_comes_232 : decode cX10_comes 232 = .ok (.ishl, 1) := by decide +kernel
theorem dX10_comes_233 : decode cX10_comes 233 = .ok (.ixor, 1) := by decide +kernel
theorem dX10_comes_234 : decode cX10_comes 234 = .ok (.putfield 124, 3) := by decide +kernel
theorem dX10_comes_237 : decode cX10_comes 237 = .ok (.iconst 1, 1) := by decide +kernel
theorem dX10_comes_238 : decode cX10_comes 238 = .ok (.ireturn, 1) := by decide +kernel
theorem dX10_comes_239 : decode cX10_comes 239 = .ok (.aload_n 0, 1) := by decide +kernel
theorem dX10_comes_240 : decode cX10_comes 240 = .ok (.iload_n 3, 1) := by decide +kernel
theorem dX10_comes_241 : decode cX10_comes 241 = .ok (.invokevirtual 150, 3) := by decide +kernel
theorem dX10_comes_244 : decode cX10_comes 244 = .ok (.ireturn, 1) := by decide +kernel
theorem dX10_road_0 : decode cX10_road 0 = .ok (.aload_n 0, 1) := by decide +kernel
theorem dX10_road_1 : decode cX10_road 1 = .ok (.iconst 0, 1) := by decide +kernel
theorem dX10_road_2 : decode cX10_road 2 = .ok (.putfield 103, 3) := by decide +kernel
theorem dX10_road_5 : decode cX10_road 5 = .ok (.aload_n 0, 1) := by decide +kernel
theorem dX10_road_6 : decode cX10_road 6 = .ok (.iconst 0, 1) := by decide +kernel
theorem dX10_road_7 : decode cX10_road 7 = .ok (.putfield 118, 3) := by decide +kernel
theorem dX10_road_10 : decode cX10_road 10 = .ok (.iconst 1, 1) := by decide +kernel
theorem dX10_road_11 : decode cX10_road 11 = .ok (.istore_n 1, 1) := by decide +kernel
theorem dX10_road_12 : decode cX10_road 12 = .ok (.iload_n 1, 1) := by decide +kernel
theorem dX10_road_13 : decode cX10_road 13 = .ok (.ifCond .eq 47, 3) := by decide +kernel
theorem dX10_road_16 : decode cX10_road 16 = .ok (.aload_n 0, 1) := by decide +kernel
theorem dX10_road_17 : decode cX10_road 17 = .ok (.getfield 103, 3) := by decide +kernel
theorem dX10_road_20 : decode cX10_road 20 = .ok (.aload_n 0, 1) := by decide +kernel
theorem dX10_road_21 : decode cX10_road 21 = .ok (.getfield 96, 3) := by decide +kernel
theorem dX10_road_24 : decode cX10_road 24 = .ok (.if_icmp .lt 10, 3) := by decide +kernel
theorem dX10_road_27 : decode cX10_road 27 = .ok (.aload_n 0, 1) := by decide +kernel
theorem dX10_road_28 : decode cX10_road 28 = .ok (.getfield 118, 3) := by decide +kernel
theorem dX10_road_31 : decode cX10_road 31 = .ok (.ifCond .ne 29, 3) := by decide +kernel
theorem dX10_road_34 : decode cX10_road 34 = .ok (.aload_n 0, 1) := by decide +kernel
theorem dX10_road_35 : decode cX10_road 35 = .ok (.invokevirtual 153, 3) := by decide +kernel
theorem dX10_road_38 : decode cX10_road 38 = .ok (.istore_n 1, 1) := by decide +kernel
theorem dX10_road_39 : decode cX10_road 39 = .ok (.aload_n 0, 1) := by decide +kernel
theorem dX10_road_40 : decode cX10_road 40 = .ok (.dup, 1) := by decide +kernel
theorem dX10_road_41 : decode cX10_road 41 = .ok (.getfield 118, 3) := by decide +kernel
theorem dX10_road_44 : decode cX10_road 44 = .ok (.iload_n 1, 1) := by decide +kernel
theorem dX10_road_45 : decode cX10_road 45 = .ok (.ifCond .eq 7, 3) := by decide +kernel
theorem dX10_road_48 : decode cX10_road 48 = .ok (.iconst 1, 1) := by decide +kernel
theorem dX10_road_49 : decode cX10_road 49 = .ok (.goto 4, 3) := by decide +kernel
theorem dX10_road_52 : decode cX10_road 52 = .ok (.iconst 0, 1) := by decide +kernel
theorem dX10_road_53 : decode cX10_road 53 = .ok (.iadd, 1) := by decide +kernel
theorem dX10_road_54 : decode cX10_road 54 = .ok (.putfield 118, 3) := by decide +kernel
theorem dX10_road_57 : decode cX10_road 57 = .ok (.goto (-45), 3) := by decide +kernel
theorem dX10_road_60 : decode cX10_road 60 = .ok (.aload_n 0, 1) := by decide +kernel
theorem dX10_road_61 : decode cX10_road 61 = .ok (.iconst 0, 1) := by decide +kernel
theorem dX10_road_62 : decode cX10_road 62 = .ok (.putfield 96, 3) := by decide +kernel
theorem dX10_road_65 : decode cX10_road 65 = .ok (.iload_n 1, 1) := by decide +kernel
theorem dX10_road_66 : decode cX10_road 66 = .ok (.ifCond .ne 12, 3) := by decide +kernel
theorem dX10_road_69 : decode cX10_road 69 = .ok (.sipush (-1000), 3) := by decide +kernel
theorem dX10_road_72 : decode cX10_road 72 = .ok (.aload_n 0, 1) := by decide +kernel
theorem dX10_road_73 : decode cX10_road 73 = .ok (.getfield 103, 3) := by decide +kernel
theorem dX10_road_76 : decode cX10_road 76 = .ok (.isub, 1) := by decide +kernel
theorem dX10_road_77 : decode cX10_road 77 = .ok (.ireturn, 1) := by decide +kernel
theorem dX10_road_78 : decode cX10_road 78 = .ok (.aload_n 0, 1) := by decide +kernel
theorem dX10_road_79 : decode cX10_road 79 = .ok (.iconst 1, 1) := by decide +kernel
theorem dX10_road_80 : decode cX10_road 80 = .ok (.iconst 1, 1) := by decide +kernel
theorem dX10_road_81 : decode cX10_road 81 = .ok (.invokevirtual 157, 3) := by decide +kernel
theorem dX10_road_84 : decode cX10_road 84 = .ok (.iconst 0, 1) := by decide +kernel
theorem dX10_road_85 : decode cX10_road 85 = .ok (.istore_n 2, 1) := by decide +kernel
theorem dX10_road_86 : decode cX10_road 86 = .ok (.iload_n 2, 1) := by decide +kernel
theorem dX10_road_87 : decode cX10_road 87 = .ok (.aload_n 0, 1) := by decide +kernel
theorem dX10_road_88 : decode cX10_road 88 = .ok (.getfield 118, 3) := by decide +kernel
theorem dX10_road_91 : decode cX10_road 91 = .ok (.if_icmp .ge 37, 3) := by decide +kernel
theorem dX10_road_94 : decode cX10_road 94 = .ok (.aload_n 0, 1) := by decide +kernel
theorem dX10_road_95 : decode cX10_road 95 = .ok (.iload_n 2, 1) := by decide +kernel
theorem dX10_road_96 : decode cX10_road 96 = .ok (.invokevirtual 161, 3) := by decide +kernel
theorem dX10_road_99 : decode cX10_road 99 = .ok (.ifCond .eq 6, 3) := by decide +kernel
theorem dX10_road_102 : decode cX10_road 102 = .ok (.goto 20, 3) := by decide +kernel
theorem dX10_road_105 : decode cX10_road 105 = .ok (.aload_n 0, 1) := by decide +kernel
theorem dX10_road_106 : decode cX10_road 106 = .ok (.iconst 1, 1) := by decide +kernel
theorem dX10_road_107 : decode cX10_road 107 = .ok (.iconst 0, 1) := by decide +kernel
theorem dX10_road_108 : decode cX10_road 108 = .ok (.invokevirtual 157, 3) := by decide +kernel
theorem dX10_road_111 : decode cX10_road 111 = .ok (.sipush (-2000), 3) := by decide +kernel
theorem dX10_road_114 : decode cX10_road 114 = .ok (.aload_n 0, 1) := by decide +kernel
theorem dX10_road_115 : decode cX10_road 115 = .ok (.getfield 34, 3) := by decide +kernel
theorem dX10_road_118 : decode cX10_road 118 = .ok (.iload_n 2, 1) := by decide +kernel
theorem dX10_road_119 : decode cX10_road 119 = .ok (.iaload, 1) := by decide +kernel
theorem dX10_road_120 : decode cX10_road 120 = .ok (.isub, 1) := by decide +kernel
theorem dX10_road_121 : decode cX10_road 121 = .ok (.ireturn, 1) := by decide +kernel
theorem dX10_road_122 : decode cX10_road 122 = .ok (.iinc 2 1, 3) := by decide +kernel
theorem dX10_road_125 : decode cX10_road 125 = .ok (.goto (-39), 3) := by decide +kernel
theorem dX10_road_128 : decode cX10_road 128 = .ok (.aload_n 0, 1) := by decide +kernel
theorem dX10_road_129 : decode cX10_road 129 = .ok (.iconst 0, 1) := by decide +kernel
theorem dX10_road_130 : decode cX10_road 130 = .ok (.putfield 164, 3) := by decide +kernel
theorem dX10_road_133 : decode cX10_road 133 = .ok (.aload_n 0, 1) := by decide +kernel
theorem dX10_road_134 : decode cX10_road 134 = .ok (.getfield 118, 3) := by decide +kernel
theorem dX10_road_137 : decode cX10_road 137 = .ok (.ireturn, 1) := by decide +kernel
theorem dX10_passes_0 : decode cX10_passes 0 = .ok (.iconst 0, 1) := by decide +kernel
theorem dX10_passes_1 : decode cX10_passes 1 = .ok (.istore_n 2, 1) := by decide +kernel
theorem dX10_passes_2 : decode cX10_passes 2 = .ok (.iload_n 2, 1) := by decide +kernel
theorem dX10_passes_3 : decode cX10_passes 3 = .ok (.aload_n 1, 1) := by decide +kernel
theorem dX10_passes_4 : decode cX10_passes 4 = .ok (.arraylength, 1) := by decide +kernel
theorem dX10_passes_5 : decode cX10_passes 5 = .ok (.if_icmp .ge 53, 3) := by decide +kernel
theorem dX10_passes_8 : decode cX10_passes 8 = .ok (.aload_n 0, 1) := by decide +kernel
theorem dX10_passes_9 : decode cX10_passes 9 = .ok (.getfield 167, 3) := by decide +kernel
theorem dX10_passes_12 : decode cX10_passes 12 = .ok (.ifCond .eq 18, 3) := by decide +kernel
theorem dX10_passes_15 : decode cX10_passes 15 = .ok (.aload_n 0, 1) := by decide +kernel
theorem dX10_passes_16 : decode cX10_passes 16 = .ok (.getfield 40, 3) := by decide +kernel
theorem dX10_passes_19 : decode cX10_passes 19 = .ok (.aload_n 0, 1) := by decide +kernel
theorem dX10_passes_20 : decode cX10_passes 20 = .ok (.getfield 171, 3) := by decide +kernel
theorem dX10_passes_23 : decode cX10_passes 23 = .ok (.aload_n 1, 1) := by decide +kernel
theorem dX10_passes_24 : decode cX10_passes 24 = .ok (.iload_n 2, 1) := by decide +kernel
theorem dX10_passes_25 : decode cX10_passes 25 = .ok (.iaload, 1) := by decide +kernel
theorem dX10_passes_26 : decode cX10_passes 26 = .ok (.iastore, 1) := by decide +kernel
theorem dX10_passes_27 : decode cX10_passes 27 = .ok (.goto 15, 3) := by decide +kernel
theorem dX10_passes_30 : decode cX10_passes 30 = .ok (.aload_n 1, 1) := by decide +kernel
theorem dX10_passes_31 : decode cX10_passes 31 = .ok (.iload_n 2, 1) := by decide +kernel
theorem dX10_passes_32 : decode cX10_passes 32 = .ok (.aload_n 0, 1) := by decide +kernel
theorem dX10_passes_33 : decode cX10_passes 33 = .ok (.getfield 40, 3) := by decide +kernel
theorem dX10_passes_36 : decode cX10_passes 36 = .ok (.aload_n 0, 1) := by decide +kernel
theorem dX10_passes_37 : decode cX10_passes 37 = .ok (.getfield 171, 3) := by decide +kernel
theorem dX10_passes_40 : decode cX10_passes 40 = .ok (.iaload, 1) := by decide +kernel
theorem dX10_passes_41 : decode cX10_passes 41 = .ok (.iastore, 1) := by decide +kernel
theorem dX10_passes_42 : decode cX10_passes 42 = .ok (.aload_n 0, 1) := by decide +kernel
theorem dX10_passes_43 : decode cX10_passes 43 = .ok (.dup, 1) := by decide +kernel
theorem dX10_passes_44 : decode cX10_passes 44 = .ok (.getfield 171, 3) := by decide +kernel
theorem dX10_passes_47 : decode cX10_passes 47 = .ok (.iconst 1, 1) := by decide +kernel
theorem dX10_passes_48 : decode cX10_passes 48 = .ok (.iadd, 1) := by decide +kernel
theorem dX10_passes_49 : decode cX10_passes 49 = .ok (.putfield 171, 3) := by decide +kernel
theorem dX10_passes_52 : decode cX10_passes 52 = .ok (.iinc 2 1, 3) := by decide +kernel
theorem dX10_passes_55 : decode cX10_passes 55 = .ok (.goto (-53), 3) := by decide +kernel
theorem dX10_passes_58 : decode cX10_passes 58 = .ok (.return_, 1) := by decide +kernel
theorem dX10_passOne_0 : decode cX10_passOne 0 = .ok (.aload_n 0, 1) := by decide +kernel
theorem dX10_passOne_1 : decode cX10_passOne 1 = .ok (.getfield 167, 3) := by decide +kernel
theorem dX10_passOne_4 : decode cX10_passOne 4 = .ok (.ifCond .eq 7, 3) := by decide +kernel
theorem dX10_passOne_7 : decode cX10_passOne 7 = .ok (.iload_n 1, 1) := by decide +kernel
theorem dX10_passOne_8 : decode cX10_passOne 8 = .ok (.goto 12, 3) := by decide +kernel
theorem dX10_passOne_11 : decode cX10_passOne 11 = .ok (.aload_n 0, 1) := by decide +kernel
theorem dX10_passOne_12 : decode cX10_passOne 12 = .ok (.getfield 40, 3) := by decide +kernel
theorem dX10_passOne_15 : decode cX10_passOne 15 = .ok (.aload_n 0, 1) := by decide +kernel
theorem dX10_passOne_16 : decode cX10_passOne 16 = .ok (.getfield 171, 3) := by decide +kernel
theorem dX10_passOne_19 : decode cX10_passOne 19 = .ok (.iaload, 1) := by decide +kernel
theorem dX10_passOne_20 : decode cX10_passOne 20 = .ok (.istore_n 2, 1) := by decide +kernel
theorem dX10_passOne_21 : decode cX10_passOne 21 = .ok (.aload_n 0, 1) := by decide +kernel
theorem dX10_passOne_22 : decode cX10_passOne 22 = .ok (.getfield 167, 3) := by decide +kernel
theorem dX10_passOne_25 : decode cX10_passOne 25 = .ok (.ifCond .eq 13, 3) := by decide +kernel
theorem dX10_passOne_28 : decode cX10_passOne 28 = .ok (.aload_n 0, 1) := by decide +kernel
theorem dX10_passOne_29 : decode cX10_passOne 29 = .ok (.getfield 40, 3) := by decide +kernel
theorem dX10_passOne_32 : decode cX10_passOne 32 = .ok (.aload_n 0, 1) := by decide +kernel
theorem dX10_passOne_33 : decode cX10_passOne 33 = .ok (.getfield 171, 3) := by decide +kernel
theorem dX10_passOne_36 : decode cX10_passOne 36 = .ok (.iload_n 1, 1) := by decide +kernel
theorem dX10_passOne_37 : decode cX10_passOne 37 = .ok (.iastore, 1) := by decide +kernel
theorem dX10_passOne_38 : decode cX10_passOne 38 = .ok (.aload_n 0, 1) := by decide +kernel
theorem dX10_passOne_39 : decode cX10_passOne 39 = .ok (.dup, 1) := by decide +kernel
theorem dX10_passOne_40 : decode cX10_passOne 40 = .ok (.getfield 171, 3) := by decide +kernel
theorem dX10_passOne_43 : decode cX10_passOne 43 = .ok (.iconst 1, 1) := by decide +kernel
theorem dX10_passOne_44 : decode cX10_passOne 44 = .ok (.iadd, 1) := by decide +kernel
theorem dX10_passOne_45 : decode cX10_passOne 45 = .ok (.putfield 171, 3) := by decide +kernel
theorem dX10_passOne_48 : decode cX10_passOne 48 = .ok (.iload_n 2, 1) := by decide +kernel
theorem dX10_passOne_49 : decode cX10_passOne 49 = .ok (.ireturn, 1) := by decide +kernel
theorem dX10_passesAll_0 : decode cX10_passesAll 0 = .ok (.aload_n 0, 1) := by decide +kernel
theorem dX10_passesAll_1 : decode cX10_passesAll 1 = .ok (.bipush 80, 2) := by decide +kernel
theorem dX10_passesAll_3 : decode cX10_passesAll 3 = .ok (.iload_n 1, 1) := by decide +kernel
theorem dX10_passesAll_4 : decode cX10_passesAll 4 = .ok (.imul, 1) := by decide +kernel
theorem dX10_passesAll_5 : decode cX10_passesAll 5 = .ok (.putfield 171, 3) := by decide +kernel
theorem dX10_passesAll_8 : decode cX10_passesAll 8 = .ok (.aload_n 0, 1) := by decide +kernel
theorem dX10_passesAll_9 : decode cX10_passesAll 9 = .ok (.iload_n 2, 1) := by decide +kernel
theorem dX10_passesAll_10 : decode cX10_passesAll 10 = .ok (.putfield 167, 3) := by decide +kernel
theorem dX10_passesAll_13 : decode cX10_passesAll 13 = .ok (.aload_n 0, 1) := by decide +kernel
theorem dX10_passesAll_14 : decode cX10_passesAll 14 = .ok (.aload_n 0, 1) := by decide +kernel
theorem dX10_passesAll_15 : decode cX10_passesAll 15 = .ok (.getfield 13, 3) := by decide +kernel
theorem dX10_passesAll_18 : decode cX10_passesAll 18 = .ok (.invokevirtual 174, 3) := by decide +kernel
theorem dX10_passesAll_21 : decode cX10_passesAll 21 = .ok (.aload_n 0, 1) := by decide +kernel
theorem dX10_passesAll_22 : decode cX10_passesAll 22 = .ok (.aload_n 0, 1) := by decide +kernel
theorem dX10_passesAll_23 : decode cX10_passesAll 23 = .ok (.getfield 16, 3) := by decide +kernel
theorem dX10_passesAll_26 : decode cX10_passesAll 26 = .ok (.invokevirtual 174, 3) := by decide +kernel
theorem dX10_passesAll_29 : decode cX10_passesAll 29 = .ok (.aload_n 0, 1) := by decide +kernel
theorem dX10_passesAll_30 : decode cX10_passesAll 30 = .ok (.aload_n 0, 1) := by decide +kernel
theorem dX10_passesAll_31 : decode cX10_passesAll 31 = .ok (.getfield 19, 3) := by decide +kernel
theorem dX10_passesAll_34 : decode cX10_passesAll 34 = .ok (.invokevirtual 174, 3) := by decide +kernel
theorem dX10_passesAll_37 : decode cX10_passesAll 37 = .ok (.aload_n 0, 1) := by decide +kernel
theorem dX10_passesAll_38 : decode cX10_passesAll 38 = .ok (.aload_n 0, 1) := by decide +kernel
theorem dX10_passesAll_39 : decode cX10_passesAll 39 = .ok (.getfield 22, 3) := by decide +kernel
theorem dX10_passesAll_42 : decode cX10_passesAll 42 = .ok (.invokevirtual 174, 3) := by decide +kernel
theorem dX10_passesAll_45 : decode cX10_passesAll 45 = .ok (.aload_n 0, 1) := by decide +kernel
theorem dX10_passesAll_46 : decode cX10_passesAll 46 = .ok (.aload_n 0, 1) := by decide +kernel
theorem dX10_passesAll_47 : decode cX10_passesAll 47 = .ok (.getfield 25, 3) := by decide +kernel
theorem dX10_passesAll_50 : decode cX10_passesAll 50 = .ok (.invokevirtual 174, 3) := by decide +kernel
theorem dX10_passesAll_53 : decode cX10_passesAll 53 = .ok (.aload_n 0, 1) := by decide +kernel
theorem dX10_passesAll_54 : decode cX10_passesAll 54 = .ok (.aload_n 0, 1) := by decide +kernel
theorem dX10_passesAll_55 : decode cX10_passesAll 55 = .ok (.aload_n 0, 1) := by decide +kernel
theorem dX10_passesAll_56 : decode cX10_passesAll 56 = .ok (.getfield 88, 3) := by decide +kernel
theorem dX10_passesAll_59 : decode cX10_passesAll 59 = .ok (.invokevirtual 178, 3) := by decide +kernel
theorem dX10_passesAll_62 : decode cX10_passesAll 62 = .ok (.putfield 88, 3) := by decide +kernel
theorem dX10_passesAll_65 : decode cX10_passesAll 65 = .ok (.aload_n 0, 1) := by decide +kernel
theorem dX10_passesAll_66 : decode cX10_passesAll 66 = .ok (.aload_n 0, 1) := by decide +kernel
theorem dX10_passesAll_67 : decode cX10_passesAll 67 = .ok (.aload_n 0, 1) := by decide +kernel
theorem dX10_passesAll_68 : decode cX10_passesAll 68 = .ok (.getfield 124, 3) := by decide +kernel
theorem dX10_passesAll_71 : decode cX10_passesAll 71 = .ok (.invokevirtual 178, 3) := by decide +kernel
theorem dX10_passesAll_74 : decode cX10_passesAll 74 = .ok (.putfield 124, 3) := by decide +kernel
theorem dX10_passesAll_77 : decode cX10_passesAll 77 = .ok (.aload_n 0, 1) := by decide +kernel
theorem dX10_passesAll_78 : decode cX10_passesAll 78 = .ok (.aload_n 0, 1) := by decide +kernel
theorem dX10_passesAll_79 : decode cX10_passesAll 79 = .ok (.aload_n 0, 1) := by decide +kernel
theorem dX10_passesAll_80 : decode cX10_passesAll 80 = .ok (.getfield 127, 3) := by decide +kernel
theorem dX10_passesAll_83 : decode cX10_passesAll 83 = .ok (.invokevirtual 178, 3) := by decide +kernel
theorem dX10_passesAll_86 : decode cX10_passesAll 86 = .ok (.putfield 127, 3) := by decide +kernel
theorem dX10_passesAll_89 : decode cX10_passesAll 89 = .ok (.aload_n 0, 1) := by decide +kernel
theorem dX10_passesAll_90 : decode cX10_passesAll 90 = .ok (.aload_n 0, 1) := by decide +kernel
theorem dX10_passesAll_91 : decode cX10_passesAll 91 = .ok (.aload_n 0, 1) := by decide +kernel
theorem dX10_passesAll_92 : decode cX10_passesAll 92 = .ok (.getfield 133, 3) := by decide +kernel
theorem dX10_passesAll_95 : decode cX10_passesAll 95 = .ok (.invokevirtual 178, 3) := by decide +kernel
theorem dX10_passesAll_98 : decode cX10_passesAll 98 = .ok (.putfield 133, 3) := by decide +kernel
theorem dX10_passesAll_101 : decode cX10_passesAll 101 = .ok (.return_, 1) := by decide +kernel
theorem dX10_image_0 : decode cX10_image 0 = .ok (.aload_n 0, 1) := by decide +kernel
theorem dX10_image_1 : decode cX10_image 1 = .ok (.iconst 1, 1) := by decide +kernel
theorem dX10_image_2 : decode cX10_image 2 = .ok (.putfield 181, 3) := by decide +kernel
theorem dX10_image_5 : decode cX10_image 5 = .ok (.aload_n 0, 1) := by decide +kernel
theorem dX10_image_6 : decode cX10_image 6 = .ok (.iconst 0, 1) := by decide +kernel
theorem dX10_image_7 : decode cX10_image 7 = .ok (.iconst 1, 1) := by decide +kernel
theorem dX10_image_8 : decode cX10_image 8 = .ok (.invokevirtual 157, 3) := by decide +kernel
theorem dX10_image_11 : decode cX10_image 11 = .ok (.aload_n 0, 1) := by decide +kernel
theorem dX10_image_12 : decode cX10_image 12 = .ok (.getfield 127, 3) := by decide +kernel
theorem dX10_image_15 : decode cX10_image 15 = .ok (.ireturn, 1) := by decide +kernel
theorem dX10_restore_0 : decode cX10_restore 0 = .ok (.aload_n 0, 1) := by decide +kernel
theorem dX10_restore_1 : decode cX10_restore 1 = .ok (.getfield 181, 3) := by decide +kernel
theorem dX10_restore_4 : decode cX10_restore 4 = .ok (.ifCond .ne 10, 3) := by decide +kernel
theorem dX10_restore_7 : decode cX10_restore 7 = .ok (.aload_n 0, 1) := by decide +kernel
theorem dX10_restore_8 : decode cX10_restore 8 = .ok (.bipush (-3), 2) := by decide +kernel
theorem dX10_restore_10 : decode cX10_restore 10 = .ok (.invokevirtual 99, 3) := by decide +kernel
theorem dX10_restore_13 : decode cX10_restore 13 = .ok (.ireturn, 1) := by decide +kernel
theorem dX10_restore_14 : decode cX10_restore 14 = .ok (.aload_n 0, 1) := by decide +kernel
theorem dX10_restore_15 : decode cX10_restore 15 = .ok (.iconst 0, 1) := by decide +kernel
theorem dX10_restore_16 : decode cX10_restore 16 = .ok (.iconst 0, 1) := by decide +kernel
theorem dX10_restore_17 : decode cX10_restore 17 = .ok (.invokevirtual 157, 3) := by decide +kernel
theorem dX10_restore_20 : decode cX10_restore 20 = .ok (.aload_n 0, 1) := by decide +kernel
theorem dX10_restore_21 : decode cX10_restore 21 = .ok (.iconst 0, 1) := by decide +kernel
theorem dX10_restore_22 : decode cX10_restore 22 = .ok (.putfield 164, 3) := by decide +kernel
theorem dX10_restore_25 : decode cX10_restore 25 = .ok (.aload_n 0, 1) := by decide +kernel
theorem dX10_restore_26 : decode cX10_restore 26 = .ok (.getfield 127, 3) := by decide +kernel
theorem dX10_restore_29 : decode cX10_restore 29 = .ok (.ireturn, 1) := by decide +kernel
theorem dX10_coverOf_0 : decode cX10_coverOf 0 = .ok (.iload_n 0, 1) := by decide +kernel
theorem dX10_coverOf_1 : decode cX10_coverOf 1 = .ok (.tableswitch 39 2 6 #[35, 39, 37, 39, 35], 35) := by decide +kernel
theorem dX10_coverOf_36 : decode cX10_coverOf 36 = .ok (.iconst 0, 1) := by decide +kernel
theorem dX10_coverOf_37 : decode cX10_coverOf 37 = .ok (.ireturn, 1) := by decide +kernel
theorem dX10_coverOf_38 : decode cX10_coverOf 38 = .ok (.iconst 3, 1) := by decide +kernel
theorem dX10_coverOf_39 : decode cX10_coverOf 39 = .ok (.ireturn, 1) := by decide +kernel
theorem dX10_coverOf_40 : decode cX10_coverOf 40 = .ok (.iconst 1, 1) := by decide +kernel
theorem dX10_coverOf_41 : decode cX10_coverOf 41 = .ok (.ireturn, 1) := by decide +kernel
theorem dX10_holdsOf_0 : decode cX10_holdsOf 0 = .ok (.iconst 3, 1) := by decide +kernel
theorem dX10_holdsOf_1 : decode cX10_holdsOf 1 = .ok (.iload_n 1, 1) := by decide +kernel
theorem dX10_holdsOf_2 : decode cX10_holdsOf 2 = .ok (.iconst 3, 1) := by decide +kernel
theorem dX10_holdsOf_3 : decode cX10_holdsOf 3 = .ok (.idiv, 1) := by decide +kernel
theorem dX10_holdsOf_4 : decode cX10_holdsOf 4 = .ok (.iadd, 1) := by decide +kernel
theorem dX10_holdsOf_5 : decode cX10_holdsOf 5 = .ok (.istore_n 2, 1) := by decide +kernel
theorem dX10_holdsOf_6 : decode cX10_holdsOf 6 = .ok (.iload_n 0, 1) := by decide +kernel
theorem dX10_holdsOf_7 : decode cX10_holdsOf 7 = .ok (.tableswitch 60 1 6 #[37, 41, 45, 48, 52, 41], 37) := by decide +kernel
theorem dX10_holdsOf_44 : decode cX10_holdsOf 44 = .ok (.iload_n 2, 1) := by decide +kernel
theorem dX10_holdsOf_45 : decode cX10_holdsOf 45 = .ok (.iconst 2, 1) := by decide +kernel
theorem dX10_holdsOf_46 : decode cX10_holdsOf 46 = .ok (.iadd, 1) := by decide +kernel
theorem dX10_holdsOf_47 : decode cX10_holdsOf 47 = .ok (.ireturn, 1) := by decide +kernel
theorem dX10_holdsOf_48 : decode cX10_holdsOf 48 = .ok (.iload_n 2, 1) := by decide +kernel
theorem dX10_holdsOf_49 : decode cX10_holdsOf 49 = .ok (.iconst 1, 1) := by decide +kernel
theorem dX10_holdsOf_50 : decode cX10_holdsOf 50 = .ok (.iadd, 1) := by decide +kernel
theorem dX10_holdsOf_51 : decode cX10_holdsOf 51 = .ok (.ireturn, 1) := by decide +kernel
theorem dX10_holdsOf_52 : decode cX10_holdsOf 52 = .ok (.bipush 99, 2) := by decide +kernel
theorem dX10_holdsOf_54 : decode cX10_holdsOf 54 = .ok (.ireturn, 1) := by decide +kernel
theorem dX10_holdsOf_55 : decode cX10_holdsOf 55 = .ok (.iload_n 2, 1) := by decide +kernel
theorem dX10_holdsOf_56 : decode cX10_holdsOf 56 = .ok (.iconst 1, 1) := by decide +kernel
theorem dX10_holdsOf_57 : decode cX10_holdsOf 57 = .ok (.isub, 1) := by decide +kernel
theorem dX10_holdsOf_58 : decode cX10_holdsOf 58 = .ok (.ireturn, 1) := by decide +kernel
theorem dX10_holdsOf_59 : decode cX10_holdsOf 59 = .ok (.iload_n 2, 1) := by decide +kernel
theorem dX10_holdsOf_60 : decode cX10_holdsOf 60 = .ok (.iconst 1, 1) := by decide +kernel
theorem dX10_holdsOf_61 : decode cX10_holdsOf 61 = .ok (.iadd, 1) := by decide +kernel
theorem dX10_holdsOf_62 : decode cX10_holdsOf 62 = .ok (.iload_n 1, 1) := by decide +kernel
theorem dX10_holdsOf_63 : decode cX10_holdsOf 63 = .ok (.iconst 2, 1) := by decide +kernel
theorem dX10_holdsOf_64 : decode cX10_holdsOf 64 = .ok (.idiv, 1) := by decide +kernel
theorem dX10_holdsOf_65 : decode cX10_holdsOf 65 = .ok (.iadd, 1) := by decide +kernel
theorem dX10_holdsOf_66 : decode cX10_holdsOf 66 = .ok (.ireturn, 1) := by decide +kernel
theorem dX10_holdsOf_67 : decode cX10_holdsOf 67 = .ok (.iload_n 2, 1) := by decide +kernel
theorem dX10_holdsOf_68 : decode cX10_holdsOf 68 = .ok (.ireturn, 1) := by decide +kernel
theorem dX10_givesOf_0 : decode cX10_givesOf 0 = .ok (.iload_n 0, 1) := by decide +kernel
theorem dX10_givesOf_1 : decode cX10_givesOf 1 = .ok (.tableswitch 39 0 4 #[35, 39, 39, 37, 37], 35) := by decide +kernel
theorem dX10_givesOf_36 : decode cX10_givesOf 36 = .ok (.iconst 2, 1) := by decide +kernel
theorem dX10_givesOf_37 : decode cX10_givesOf 37 = .ok (.ireturn, 1) := by decide +kernel
theorem dX10_givesOf_38 : decode cX10_givesOf 38 = .ok (.iconst 3, 1) := by decide +kernel
theorem dX10_givesOf_39 : decode cX10_givesOf 39 = .ok (.ireturn, 1) := by decide +kernel
theorem dX10_givesOf_40 : decode cX10_givesOf 40 = .ok (.iconst 1, 1) := by decide +kernel
theorem dX10_givesOf_41 : decode cX10_givesOf 41 = .ok (.ireturn, 1) := by decide +kernel
theorem dX10_along_0 : decode cX10_along 0 = .ok (.iload_n 1, 1) := by decide +kernel
theorem dX10_along_1 : decode cX10_along 1 = .ok (.iload_n 2, 1) := by decide +kernel
theorem dX10_along_2 : decode cX10_along 2 = .ok (.iadd, 1) := by decide +kernel
theorem dX10_along_3 : decode cX10_along 3 = .ok (.istore_n 3, 1) := by decide +kernel
theorem dX10_along_4 : decode cX10_along 4 = .ok (.aload_n 0, 1) := by decide +kernel
theorem dX10_along_5 : decode cX10_along 5 = .ok (.getfield 13, 3) := by decide +kernel
theorem dX10_along_8 : decode cX10_along 8 = .ok (.iconst 0, 1) := by decide +kernel
theorem dX10_along_9 : decode cX10_along 9 = .ok (.iaload, 1) := by decide +kernel
theorem dX10_along_10 : decode cX10_along 10 = .ok (.iconst 1, 1) := by decide +kernel
theorem dX10_along_11 : decode cX10_along 11 = .ok (.if_icmp .ne 35, 3) := by decide +kernel
theorem dX10_along_14 : decode cX10_along 14 = .ok (.iload_n 3, 1) := by decide +kernel
theorem dX10_along_15 : decode cX10_along 15 = .ok (.ifCond .ge 12, 3) := by decide +kernel
theorem dX10_along_18 : decode cX10_along 18 = .ok (.iload_n 3, 1) := by decide +kernel
theorem dX10_along_19 : decode cX10_along 19 = .ok (.aload_n 0, 1) := by decide +kernel
theorem dX10_along_20 : decode cX10_along 20 = .ok (.getfield 88, 3) := by decide +kernel
theorem dX10_along_23 : decode cX10_along 23 = .ok (.iadd, 1) := by decide +kernel
theorem dX10_along_24 : decode cX10_along 24 = .ok (.goto 21, 3) := by decide +kernel
theorem dX10_along_27 : decode cX10_along 27 = .ok (.iload_n 3, 1) := by decide +kernel
theorem dX10_along_28 : decode cX10_along 28 = .ok (.aload_n 0, 1) := by decide +kernel
theorem dX10_along_29 : decode cX10_along 29 = .ok (.getfield 88, 3) := by decide +kernel
theorem dX10_along_32 : decode cX10_along 32 = .ok (.if_icmp .lt 12, 3) := by decide +kernel
theorem dX10_along_35 : decode cX10_along 35 = .ok (.iload_n 3, 1) := by decide +kernel
theorem dX10_along_36 : decode cX10_along 36 = .ok (.aload_n 0, 1) := by decide +kernel
theorem dX10_along_37 : decode cX10_along 37 = .ok (.getfield 88, 3) := by decide +kernel
theorem dX10_along_40 : decode cX10_along 40 = .ok (.isub, 1) := by decide +kernel
theorem dX10_along_41 : decode cX10_along 41 = .ok (.goto 4, 3) := by decide +kernel
theorem dX10_along_44 : decode cX10_along 44 = .ok (.iload_n 3, 1) := by decide +kernel
theorem dX10_along_45 : decode cX10_along 45 = .ok (.istore_n 3, 1) := by decide +kernel
theorem dX10_along_46 : decode cX10_along 46 = .ok (.aload_n 0, 1) := by decide +kernel
theorem dX10_along_47 : decode cX10_along 47 = .ok (.iload_n 3, 1) := by decide +kernel
theorem dX10_along_48 : decode cX10_along 48 = .ok (.invokevirtual 144, 3) := by decide +kernel
theorem dX10_along_51 : decode cX10_along 51 = .ok (.ifCond .eq 12, 3) := by decide +kernel
theorem dX10_along_54 : decode cX10_along 54 = .ok (.iload_n 3, 1) := by decide +kernel
theorem dX10_along_55 : decode cX10_along 55 = .ok (.iload_n 1, 1) := by decide +kernel
theorem dX10_along_56 : decode cX10_along 56 = .ok (.if_icmp .eq 7, 3) := by decide +kernel
theorem dX10_along_59 : decode cX10_along 59 = .ok (.iload_n 3, 1) := by decide +kernel
theorem dX10_along_60 : decode cX10_along 60 = .ok (.goto 5, 3) := by decide +kernel
theorem dX10_along_63 : decode cX10_along 63 = .ok (.bipush (-9), 2) := by decide +kernel
theorem dX10_along_65 : decode cX10_along 65 = .ok (.ireturn, 1) := by decide +kernel
theorem dX10_bit_0 : decode cX10_bit 0 = .ok (.iload_n 0, 1) := by decide +kernel
theorem dX10_bit_1 : decode cX10_bit 1 = .ok (.ifCond .ge 7, 3) := by decide +kernel
theorem dX10_bit_4 : decode cX10_bit 4 = .ok (.iconst 0, 1) := by decide +kernel
theorem dX10_bit_5 : decode cX10_bit 5 = .ok (.goto 6, 3) := by decide +kernel
theorem dX10_bit_8 : decode cX10_bit 8 = .ok (.iconst 1, 1) := by decide +kernel
theorem dX10_bit_9 : decode cX10_bit 9 = .ok (.iload_n 0, 1) := by decide +kernel
theorem dX10_bit_10 : decode cX10_bit 10 = .ok (.ishl, 1) := by decide +kernel
theorem dX10_bit_11 : decode cX10_bit 11 = .ok (.ireturn, 1) := by decide +kernel
theorem dX10_besideBits_0 : decode cX10_besideBits 0 = .ok (.aload_n 0, 1) := by decide +kernel
theorem dX10_besideBits_1 : decode cX10_besideBits 1 = .ok (.getfield 13, 3) := by decide +kernel
theorem dX10_besideBits_4 : decode cX10_besideBits 4 = .ok (.iconst 0, 1) := by decide +kernel
theorem dX10_besideBits_5 : decode cX10_besideBits 5 = .ok (.iaload, 1) := by decide +kernel
theorem dX10_besideBits_6 : decode cX10_besideBits 6 = .ok (.iconst 2, 1) := by decide +kernel
theorem dX10_besideBits_7 : decode cX10_besideBits 7 = .ok (.if_icmp .ne 46, 3) := by decide +kernel
theorem dX10_besideBits_10 : decode cX10_besideBits 10 = .ok (.aload_n 0, 1) := by decide +kernel
theorem dX10_besideBits_11 : decode cX10_besideBits 11 = .ok (.iload_n 1, 1) := by decide +kernel
theorem dX10_besideBits_12 : decode cX10_besideBits 12 = .ok (.iconst 1, 1) := by decide +kernel
theorem dX10_besideBits_13 : decode cX10_besideBits 13 = .ok (.ixor, 1) := by decide +kernel
theorem dX10_besideBits_14 : decode cX10_besideBits 14 = .ok (.invokevirtual 144, 3) := by decide +kernel
theorem dX10_besideBits_17 : decode cX10_besideBits 17 = .ok (.ifCond .eq 9, 3) := by decide +kernel
theorem dX10_besideBits_20 : decode cX10_besideBits 20 = .ok (.iload_n 1, 1) := by decide +kernel
theorem dX10_besideBits_21 : decode cX10_besideBits 21 = .ok (.iconst 1, 1) := by decide +kernel
theorem dX10_besideBits_22 : decode cX10_besideBits 22 = .ok (.ixor, 1) := by decide +kernel
theorem dX10_besideBits_23 : decode cX10_besideBits 23 = .ok (.goto 5, 3) := by decide +kernel
theorem dX10_besideBits_26 : decode cX10_besideBits 26 = .ok (.bipush (-9), 2) := by decide +kernel
theorem dX10_besideBits_28 : decode cX10_besideBits 28 = .ok (.invokestatic 184, 3) := by decide +kernel
theorem dX10_besideBits_31 : decode cX10_besideBits 31 = .ok (.aload_n 0, 1) := by decide +kernel
theorem dX10_besideBits_32 : decode cX10_besideBits 32 = .ok (.iload_n 1, 1) := by decide +kernel
theorem dX10_besideBits_33 : decode cX10_besideBits 33 = .ok (.bipush (-2), 2) := by decide +kernel
theorem dX10_besideBits_35 : decode cX10_besideBits 35 = .ok (.invokevirtual 187, 3) := by decide +kernel
theorem dX10_besideBits_38 : decode cX10_besideBits 38 = .ok (.invokestatic 184, 3) := by decide +kernel
theorem dX10_besideBits_41 : decode cX10_besideBits 41 = .ok (.ior, 1) := by decide +kernel
theorem dX10_besideBits_42 : decode cX10_besideBits 42 = .ok (.aload_n 0, 1) := by decide +kernel
theorem dX10_besideBits_43 : decode cX10_besideBits 43 = .ok (.iload_n 1, 1) := by decide +kernel
theorem dX10_besideBits_44 : decode cX10_besideBits 44 = .ok (.iconst 2, 1) := by decide +kernel
theorem dX10_besideBits_45 : decode cX10_besideBits 45 = .ok (.invokevirtual 187, 3) := by decide +kernel
theorem dX10_besideBits_48 : decode cX10_besideBits 48 = .ok (.invokestatic 184, 3) := by decide +kernel
theorem dX10_besideBits_51 : decode cX10_besideBits 51 = .ok (.ior, 1) := by decide +kernel
theorem dX10_besideBits_52 : decode cX10_besideBits 52 = .ok (.ireturn, 1) := by decide +kernel
theorem dX10_besideBits_53 : decode cX10_besideBits 53 = .ok (.aload_n 0, 1) := by decide +kernel
theorem dX10_besideBits_54 : decode cX10_besideBits 54 = .ok (.iload_n 1, 1) := by decide +kernel
theorem dX10_besideBits_55 : decode cX10_besideBits 55 = .ok (.iconst (-1), 1) := by decide +kernel
theorem dX10_besideBits_56 : decode cX10_besideBits 56 = .ok (.invokevirtual 187, 3) := by decide +kernel
theorem dX10_besideBits_59 : decode cX10_besideBits 59 = .ok (.invokestatic 184, 3) := by decide +kernel
theorem dX10_besideBits_62 : decode cX10_besideBits 62 = .ok (.aload_n 0, 1) := by decide +kernel
theorem dX10_besideBits_63 : decode cX10_besideBits 63 = .ok (.iload_n 1, 1) := by decide +kernel
theorem dX10_besideBits_64 : decode cX10_besideBits 64 = .ok (.iconst 1, 1) := by decide +kernel
theorem dX10_besideBits_65 : decode cX10_besideBits 65 = .ok (.invokevirtual 187, 3) := by decide +kernel
theorem dX10_besideBits_68 : decode cX10_besideBits 68 = .ok (.invokestatic 184, 3) := by decide +kernel
theorem dX10_besideBits_71 : decode cX10_besideBits 71 = .ok (.ior, 1) := by decide +kernel
theorem dX10_besideBits_72 : decode cX10_besideBits 72 = .ok (.ireturn, 1) := by decide +kernel
theorem dX10_coverer_0 : decode cX10_coverer 0 = .ok (.aload_n 0, 1) := by decide +kernel
theorem dX10_coverer_1 : decode cX10_coverer 1 = .ok (.getfield 13, 3) := by decide +kernel
theorem dX10_coverer_4 : decode cX10_coverer 4 = .ok (.iconst 0, 1) := by decide +kernel
theorem dX10_coverer_5 : decode cX10_coverer 5 = .ok (.iaload, 1) := by decide +kernel
theorem dX10_coverer_6 : decode cX10_coverer 6 = .ok (.iconst 2, 1) := by decide +kernel
theorem dX10_coverer_7 : decode cX10_coverer 7 = .ok (.if_icmp .ne 7, 3) := by decide +kernel
theorem dX10_coverer_10 : decode cX10_coverer 10 = .ok (.iconst 2, 1) := by decide +kernel
theorem dX10_coverer_11 : decode cX10_coverer 11 = .ok (.goto 4, 3) := by decide +kernel
theorem dX10_coverer_14 : decode cX10_coverer 14 = .ok (.iconst 1, 1) := by decide +kernel
theorem dX10_coverer_15 : decode cX10_coverer 15 = .ok (.istore_n 3, 1) := by decide +kernel
theorem dX10_coverer_16 : decode cX10_coverer 16 = .ok (.aload_n 0, 1) := by decide +kernel
theorem dX10_coverer_17 : decode cX10_coverer 17 = .ok (.getfield 25, 3) := by decide +kernel
theorem dX10_coverer_20 : decode cX10_coverer 20 = .ok (.iload_n 2, 1) := by decide +kernel
theorem dX10_coverer_21 : decode cX10_coverer 21 = .ok (.iaload, 1) := by decide +kernel
theorem dX10_coverer_22 : decode cX10_coverer 22 = .ok (.iconst 2, 1) := by decide +kernel
theorem dX10_coverer_23 : decode cX10_coverer 23 = .ok (.if_icmp .ne 8, 3) := by decide +kernel
theorem dX10_coverer_26 : decode cX10_coverer 26 = .ok (.bipush (-9), 2) := by decide +kernel
theorem dX10_coverer_28 : decode cX10_coverer 28 = .ok (.goto 23, 3) := by decide +kernel
theorem dX10_coverer_31 : decode cX10_coverer 31 = .ok (.aload_n 0, 1) := by decide +kernel
theorem dX10_coverer_32 : decode cX10_coverer 32 = .ok (.iload_n 1, 1) := by decide +kernel
theorem dX10_coverer_33 : decode cX10_coverer 33 = .ok (.aload_n 0, 1) := by decide +kernel
theorem dX10_coverer_34 : decode cX10_coverer 34 = .ok (.getfield 25, 3) := by decide +kernel
theorem dX10_coverer_37 : decode cX10_coverer 37 = .ok (.iload_n 2, 1) := by decide +kernel
theorem dX10_coverer_38 : decode cX10_coverer 38 = .ok (.iaload, 1) := by decide +kernel
theorem dX10_coverer_39 : decode cX10_coverer 39 = .ok (.ifCond .ne 8, 3) := by decide +kernel
theorem dX10_coverer_42 : decode cX10_coverer 42 = .ok (.iload_n 3, 1) := by decide +kernel
theorem dX10_coverer_43 : decode cX10_coverer 43 = .ok (.ineg, 1) := by decide +kernel
theorem dX10_coverer_44 : decode cX10_coverer 44 = .ok (.goto 4, 3) := by decide +kernel
theorem dX10_coverer_47 : decode cX10_coverer 47 = .ok (.iload_n 3, 1) := by decide +kernel
theorem dX10_coverer_48 : decode cX10_coverer 48 = .ok (.invokevirtual 187, 3) := by decide +kernel
theorem dX10_coverer_51 : decode cX10_coverer 51 = .ok (.ireturn, 1) := by decide +kernel
theorem dX10_feltBy_0 : decode cX10_feltBy 0 = .ok (.aload_n 0, 1) := by decide +kernel
theorem dX10_feltBy_1 : decode cX10_feltBy 1 = .ok (.iload_n 1, 1) := by decide +kernel
theorem dX10_feltBy_2 : decode cX10_feltBy 2 = .ok (.iload_n 2, 1) := by decide +kernel
theorem dX10_feltBy_3 : decode cX10_feltBy 3 = .ok (.invokevirtual 191, 3) := by decide +kernel
theorem dX10_feltBy_6 : decode cX10_feltBy 6 = .ok (.istore_n 3, 1) := by decide +kernel
theorem dX10_feltBy_7 : decode cX10_feltBy 7 = .ok (.aload_n 0, 1) := by decide +kernel
theorem dX10_feltBy_8 : decode cX10_feltBy 8 = .ok (.getfield 22, 3) := by decide +kernel
theorem dX10_feltBy_11 : decode cX10_feltBy 11 = .ok (.iload_n 2, 1) := by decide +kernel
theorem dX10_feltBy_12 : decode cX10_feltBy 12 = .ok (.iaload, 1) := by decide +kernel
theorem dX10_feltBy_13 : decode cX10_feltBy 13 = .ok (.iload_n 3, 1) := by decide +kernel
theorem dX10_feltBy_14 : decode cX10_feltBy 14 = .ok (.ifCond .ge 7, 3) := by decide +kernel
theorem dX10_feltBy_17 : decode cX10_feltBy 17 = .ok (.iconst 0, 1) := by decide +kernel
theorem dX10_feltBy_18 : decode cX10_feltBy 18 = .ok (.goto 12, 3) := by decide +kernel
theorem dX10_feltBy_21 : decode cX10_feltBy 21 = .ok (.aload_n 0, 1) := by decide +kernel
theorem dX10_feltBy_22 : decode cX10_feltBy 22 = .ok (.getfield 16, 3) := by decide +kernel
theorem dX10_feltBy_25 : decode cX10_feltBy 25 = .ok (.iload_n 3, 1) := by decide +kernel
theorem dX10_feltBy_26 : decode cX10_feltBy 26 = .ok (.iaload, 1) := by decide +kernel
theorem dX10_feltBy_27 : decode cX10_feltBy 27 = .ok (.invokestatic 194, 3) := by decide +kernel
theorem dX10_feltBy_30 : decode cX10_feltBy 30 = .ok (.isub, 1) := by decide +kernel
theorem dX10_feltBy_31 : decode cX10_feltBy 31 = .ok (.istore 4, 2) := by decide +kernel
theorem dX10_feltBy_33 : decode cX10_feltBy 33 = .ok (.iload 4, 2) := by decide +kernel
theorem dX10_feltBy_35 : decode cX10_feltBy 35 = .ok (.ifCond .ge 7, 3) := by decide +kernel
theorem dX10_feltBy_38 : decode cX10_feltBy 38 = .ok (.iconst 0, 1) := by decide +kernel
theorem dX10_feltBy_39 : decode cX10_feltBy 39 = .ok (.goto 5, 3) := by decide +kernel
theorem dX10_feltBy_42 : decode cX10_feltBy 42 = .ok (.iload 4, 2) := by decide +kernel
theorem dX10_feltBy_44 : decode cX10_feltBy 44 = .ok (.ireturn, 1) := by decide +kernel
theorem dX10_holds_0 : decode cX10_holds 0 = .ok (.aload_n 0, 1) := by decide +kernel
theorem dX10_holds_1 : decode cX10_holds 1 = .ok (.iload_n 1, 1) := by decide +kernel
theorem dX10_holds_2 : decode cX10_holds 2 = .ok (.aload_n 0, 1) := by decide +kernel
theorem dX10_holds_3 : decode cX10_holds 3 = .ok (.getfield 127, 3) := by decide +kernel
theorem dX10_holds_6 : decode cX10_holds 6 = .ok (.invokevirtual 197, 3) := by decide +kernel
theorem dX10_holds_9 : decode cX10_holds 9 = .ok (.aload_n 0, 1) := by decide +kernel
theorem dX10_holds_10 : decode cX10_holds 10 = .ok (.getfield 16, 3) := by decide +kernel
theorem dX10_holds_13 : decode cX10_holds 13 = .ok (.iload_n 1, 1) := by decide +kernel
theorem dX10_holds_14 : decode cX10_holds 14 = .ok (.iaload, 1) := by decide +kernel
theorem dX10_holds_15 : decode cX10_holds 15 = .ok (.aload_n 0, 1) := by decide +kernel
theorem dX10_holds_16 : decode cX10_holds 16 = .ok (.getfield 19, 3) := by decide +kernel
theorem dX10_holds_19 : decode cX10_holds 19 = .ok (.iload_n 1, 1) := by decide +kernel
theorem dX10_holds_20 : decode cX10_holds 20 = .ok (.iaload, 1) := by decide +kernel
theorem dX10_holds_21 : decode cX10_holds 21 = .ok (.invokestatic 200, 3) := by decide +kernel
theorem dX10_holds_24 : decode cX10_holds 24 = .ok (.if_icmp .gt 7, 3) := by decide +kernel
theorem dX10_holds_27 : decode cX10_holds 27 = .ok (.iconst 1, 1) := by decide +kernel
theorem dX10_holds_28 : decode cX10_holds 28 = .ok (.goto 4, 3) := by decide +kernel
theorem dX10_holds_31 : decode cX10_holds 31 = .ok (.iconst 0, 1) := by decide +kernel
theorem dX10_holds_32 : decode cX10_holds 32 = .ok (.ireturn, 1) := by decide +kernel
theorem dX10_holding_0 : decode cX10_holding 0 = .ok (.iconst 0, 1) := by decide +kernel
theorem dX10_holding_1 : decode cX10_holding 1 = .ok (.istore_n 1, 1) := by decide +kernel
theorem dX10_holding_2 : decode cX10_holding 2 = .ok (.iconst 0, 1) := by decide +kernel
theorem dX10_holding_3 : decode cX10_holding 3 = .ok (.istore_n 2, 1) := by decide +kernel
theorem dX10_holding_4 : decode cX10_holding 4 = .ok (.iload_n 2, 1) := by decide +kernel
theorem dX10_holding_5 : decode cX10_holding 5 = .ok (.aload_n 0, 1) := by decide +kernel
theorem dX10_holding_6 : decode cX10_holding 6 = .ok (.getfield 88, 3) := by decide +kernel
theorem dX10_holding_9 : decode cX10_holding 9 = .ok (.if_icmp .ge 38, 3) := by decide +kernel
theorem dX10_holding_12 : decode cX10_holding 12 = .ok (.iload_n 1, 1) := by decide +kernel
theorem dX10_holding_13 : decode cX10_holding 13 = .ok (.aload_n 0, 1) := by decide +kernel
theorem dX10_holding_14 : decode cX10_holding 14 = .ok (.getfield 124, 3) := by decide +kernel
theorem dX10_holding_17 : decode cX10_holding 17 = .ok (.iload_n 2, 1) := by decide +kernel
theorem dX10_holding_18 : decode cX10_holding 18 = .ok (.invokestatic 147, 3) := by decide +kernel
theorem dX10_holding_21 : decode cX10_holding 21 = .ok (.ifCond .eq 17, 3) := by decide +kernel
theorem dX10_holding_24 : decode cX10_holding 24 = .ok (.aload_n 0, 1) := by decide +kernel
theorem dX10_holding_25 : decode cX10_holding 25 = .ok (.iload_n 2, 1) := by decide +kernel
theorem dX10_holding_26 : decode cX10_holding 26 = .ok (.invokevirtual 203, 3) := by decide +kernel
theorem dX10_holding_29 : decode cX10_holding 29 = .ok (.ifCond .eq 9, 3) := by decide +kernel
theorem dX10_holding_32 : decode cX10_holding 32 = .ok (.iconst 1, 1) := by decide +kernel
theorem dX10_holding_33 : decode cX10_holding 33 = .ok (.iload_n 2, 1) := by decide +kernel
theorem dX10_holding_34 : decode cX10_holding 34 = .ok (.ishl, 1) := by decide +kernel
theorem dX10_holding_35 : decode cX10_holding 35 = .ok (.goto 4, 3) := by decide +kernel
theorem dX10_holding_38 : decode cX10_holding 38 = .ok (.iconst 0, 1) := by decide +kernel
theorem dX10_holding_39 : decode cX10_holding 39 = .ok (.ior, 1) := by decide +kernel
theorem dX10_holding_40 : decode cX10_holding 40 = .ok (.istore_n 1, 1) := by decide +kernel
theorem dX10_holding_41 : decode cX10_holding 41 = .ok (.iinc 2 1, 3) := by decide +kernel
theorem dX10_holding_44 : decode cX10_holding 44 = .ok (.goto (-40), 3) := by decide +kernel
theorem dX10_holding_47 : decode cX10_holding 47 = .ok (.iload_n 1, 1) := by decide +kernel
theorem dX10_holding_48 : decode cX10_holding 48 = .ok (.ireturn, 1) := by decide +kernel
theorem dX10_spread_0 : decode cX10_spread 0 = .ok (.iload_n 1, 1) := by decide +kernel
theorem dX10_spread_1 : decode cX10_spread 1 = .ok (.istore_n 2, 1) := by decide +kernel
theorem dX10_spread_2 : decode cX10_spread 2 = .ok (.iconst 0, 1) := by decide +kernel
theorem dX10_spread_3 : decode cX10_spread 3 = .ok (.istore_n 3, 1) := by decide +kernel
theorem dX10_spread_4 : decode cX10_spread 4 = .ok (.iload_n 3, 1) := by decide +kernel
theorem dX10_spread_5 : decode cX10_spread 5 = .ok (.aload_n 0, 1) := by decide +kernel
theorem dX10_spread_6 : decode cX10_spread 6 = .ok (.getfield 88, 3) := by decide +kernel
theorem dX10_spread_9 : decode cX10_spread 9 = .ok (.if_icmp .ge 134, 3) := by decide +kernel
theorem dX10_spread_12 : decode cX10_spread 12 = .ok (.iload_n 1, 1) := by decide +kernel
theorem dX10_spread_13 : decode cX10_spread 13 = .ok (.iload_n 3, 1) := by decide +kernel
theorem dX10_spread_14 : decode cX10_spread 14 = .ok (.invokestatic 147, 3) := by decide +kernel
theorem dX10_spread_17 : decode cX10_spread 17 = .ok (.ifCond .eq 12, 3) := by decide +kernel
theorem dX10_spread_20 : decode cX10_spread 20 = .ok (.aload_n 0, 1) := by decide +kernel
theorem dX10_spread_21 : decode cX10_spread 21 = .ok (.getfield 13, 3) := by decide +kernel
theorem dX10_spread_24 : decode cX10_spread 24 = .ok (.iconst 1, 1) := by decide +kernel
theorem dX10_spread_25 : decode cX10_spread 25 = .ok (.iaload, 1) := by decide +kernel
theorem dX10_spread_26 : decode cX10_spread 26 = .ok (.goto 4, 3) := by decide +kernel
theorem dX10_spread_29 : decode cX10_spread 29 = .ok (.iconst 0, 1) := by decide +kernel
theorem dX10_spread_30 : decode cX10_spread 30 = .ok (.istore 4, 2) := by decide +kernel
theorem dX10_spread_32 : decode cX10_spread 32 = .ok (.aload_n 0, 1) := by decide +kernel
theorem dX10_spread_33 : decode cX10_spread 33 = .ok (.iload_n 3, 1) := by decide +kernel
theorem dX10_spread_34 : decode cX10_spread 34 = .ok (.invokevirtual 206, 3) := by decide +kernel
theorem dX10_spread_37 : decode cX10_spread 37 = .ok (.istore 5, 2) := by decide +kernel
theorem dX10_spread_39 : decode cX10_spread 39 = .ok (.iconst 0, 1) := by decide +kernel
theorem dX10_spread_40 : decode cX10_spread 40 = .ok (.istore 6, 2) := by decide +kernel
theorem dX10_spread_42 : decode cX10_spread 42 = .ok (.iload 6, 2) := by decide +kernel
theorem dX10_spread_44 : decode cX10_spread 44 = .ok (.aload_n 0, 1) := by decide +kernel
theorem dX10_spread_45 : decode cX10_spread 45 = .ok (.getfield 88, 3) := by decide +kernel
theorem dX10_spread_48 : decode cX10_spread 48 = .ok (.if_icmp .ge 89, 3) := by decide +kernel
theorem dX10_spread_51 : decode cX10_spread 51 = .ok (.iload 4, 2) := by decide +kernel
theorem dX10_spread_53 : decode cX10_spread 53 = .ok (.ifCond .le 84, 3) := by decide +kernel
theorem dX10_spread_56 : decode cX10_spread 56 = .ok (.iload 5, 2) := by decide +kernel
theorem dX10_spread_58 : decode cX10_spread 58 = .ok (.iload 6, 2) := by decide +kernel
theorem dX10_spread_60 : decode cX10_spread 60 = .ok (.invokestatic 147, 3) := by decide +kernel
theorem dX10_spread_63 : decode cX10_spread 63 = .ok (.ifCond .eq 68, 3) := by decide +kernel
theorem dX10_spread_66 : decode cX10_spread 66 = .ok (.iload_n 2, 1) := by decide +kernel
theorem dX10_spread_67 : decode cX10_spread 67 = .ok (.iload 6, 2) := by decide +kernel
theorem dX10_spread_69 : decode cX10_spread 69 = .ok (.invokestatic 147, 3) := by decide +kernel
theorem dX10_spread_72 : decode cX10_spread 72 = .ok (.ifCond .ne 59, 3) := by decide +kernel
theorem dX10_spread_75 : decode cX10_spread 75 = .ok (.aload_n 0, 1) := by decide +kernel
theorem dX10_spread_76 : decode cX10_spread 76 = .ok (.getfield 16, 3) := by decide +kernel
theorem dX10_spread_79 : decode cX10_spread 79 = .ok (.iload 6, 2) := by decide +kernel
theorem dX10_spread_81 : decode cX10_spread 81 = .ok (.iaload, 1) := by decide +kernel
theorem dX10_spread_82 : decode cX10_spread 82 = .ok (.bipush 6, 2) := by decide +kernel
theorem dX10_spread_84 : decode cX10_spread 84 = .ok (.if_icmp .ne 6, 3) := by decide +kernel
theorem dX10_spread_87 : decode cX10_spread 87 = .ok (.goto 44, 3) := by decide +kernel
theorem dX10_spread_90 : decode cX10_spread 90 = .ok (.iload_n 2, 1) := by decide +kernel
theorem dX10_spread_91 : decode cX10_spread 91 = .ok (.iconst 1, 1) := by decide +kernel
theorem dX10_spread_92 : decode cX10_spread 92 = .ok (.iload 6, 2) := by decide +kernel
theorem dX10_spread_94 : decode cX10_spread 94 = .ok (.ishl, 1) := by decide +kernel
theorem dX10_spread_95 : decode cX10_spread 95 = .ok (.ior, 1) := by decide +kernel
theorem dX10_spread_96 : decode cX10_spread 96 = .ok (.istore_n 2, 1) := by decide +kernel
theorem dX10_spread_97 : decode cX10_spread 97 = .ok (.aload_n 0, 1) := by decide +kernel
theorem dX10_spread_98 : decode cX10_spread 98 = .ok (.getfield 43, 3) := by decide +kernel
theorem dX10_spread_101 : decode cX10_spread 101 = .ok (.iload 6, 2) := by decide +kernel
theorem dX10_spread_103 : decode cX10_spread 103 = .ok (.iload_n 3, 1) := by decide +kernel
theorem dX10_spread_104 : decode cX10_spread 104 = .ok (.iastore, 1) := by decide +kernel
theorem dX10_spread_105 : decode cX10_spread 105 = .ok (.aload_n 0, 1) := by decide +kernel
theorem dX10_spread_106 : decode cX10_spread 106 = .ok (.getfield 46, 3) := by decide +kernel
theorem dX10_spread_109 : decode cX10_spread 109 = .ok (.iload 6, 2) := by decide +kernel
theorem dX10_spread_111 : decode cX10_spread 111 = .ok (.aload_n 0, 1) := by decide +kernel
theorem dX10_spread_112 : decode cX10_spread 112 = .ok (.getfield 46, 3) := by decide +kernel
theorem dX10_spread_115 : decode cX10_spread 115 = .ok (.iload_n 3, 1) := by decide +kernel
theorem dX10_spread_116 : decode cX10_spread 116 = .ok (.iaload, 1) := by decide +kernel
theorem dX10_spread_117 : decode cX10_spread 117 = .ok (.iastore, 1) := by decide +kernel
theorem dX10_spread_118 : decode cX10_spread 118 = .ok (.aload_n 0, 1) := by decide +kernel
theorem dX10_spread_119 : decode cX10_spread 119 = .ok (.dup, 1) := by decide +kernel
theorem dX10_spread_120 : decode cX10_spread 120 = .ok (.getfield 209, 3) := by decide +kernel
theorem dX10_spread_123 : decode cX10_spread 123 = .ok (.iconst 1, 1) := by decide +kernel
theorem dX10_spread_124 : decode cX10_spread 124 = .ok (.iadd, 1) := by decide +kernel
theorem dX10_spread_125 : decode cX10_spread 125 = .ok (.putfield 209, 3) := by decide +kernel
theorem dX10_spread_128 : decode cX10_spread 128 = .ok (.iinc 4 (-1), 3) := by decide +kernel
theorem dX10_spread_131 : decode cX10_spread 131 = .ok (.iinc 6 1, 3) := by decide +kernel
theorem dX10_spread_134 : decode cX10_spread 134 = .ok (.goto (-92), 3) := by decide +kernel
theorem dX10_spread_137 : decode cX10_spread 137 = .ok (.iinc 3 1, 3) := by decide +kernel
theorem dX10_spread_140 : decode cX10_spread 140 = .ok (.goto (-136), 3) := by decide +kernel
theorem dX10_spread_143 : decode cX10_spread 143 = .ok (.iload_n 2, 1) := by decide +kernel
theorem dX10_spread_144 : decode cX10_spread 144 = .ok (.ireturn, 1) := by decide +kernel
theorem dX10_goes_0 : decode cX10_goes 0 = .ok (.aload_n 0, 1) := by decide +kernel
theorem dX10_goes_1 : decode cX10_goes 1 = .ok (.aload_n 0, 1) := by decide +kernel
theorem dX10_goes_2 : decode cX10_goes 2 = .ok (.aload_n 0, 1) := by decide +kernel
theorem dX10_goes_3 : decode cX10_goes 3 = .ok (.invokevirtual 212, 3) := by decide +kernel
theorem dX10_goes_6 : decode cX10_goes 6 = .ok (.invokevirtual 215, 3) := by decide +kernel
theorem dX10_goes_9 : decode cX10_goes 9 = .ok (.putfield 124, 3) := by decide +kernel
theorem dX10_goes_12 : decode cX10_goes 12 = .ok (.aload_n 0, 1) := by decide +kernel
theorem dX10_goes_13 : decode cX10_goes 13 = .ok (.dup, 1) := by decide +kernel
theorem dX10_goes_14 : decode cX10_goes 14 = .ok (.getfield 133, 3) := by decide +kernel
theorem dX10_goes_17 : decode cX10_goes 17 = .ok (.iconst 1, 1) := by decide +kernel
theorem dX10_goes_18 : decode cX10_goes 18 = .ok (.iadd, 1) := by decide +kernel
theorem dX10_goes_19 : decode cX10_goes 19 = .ok (.putfield 133, 3) := by decide +kernel
theorem dX10_goes_22 : decode cX10_goes 22 = .ok (.aload_n 0, 1) := by decide +kernel
theorem dX10_goes_23 : decode cX10_goes 23 = .ok (.dup, 1) := by decide +kernel
theorem dX10_goes_24 : decode cX10_goes 24 = .ok (.getfield 127, 3) := by decide +kernel
theorem dX10_goes_27 : decode cX10_goes 27 = .ok (.iload_n 1, 1) := by decide +kernel
theorem dX10_goes_28 : decode cX10_goes 28 = .ok (.ifCond .eq 7, 3) := by decide +kernel
theorem dX10_goes_31 : decode cX10_goes 31 = .ok (.iconst 0, 1) := by decide +kernel
theorem dX10_goes_32 : decode cX10_goes 32 = .ok (.goto 4, 3) := by decide +kernel
theorem dX10_goes_35 : decode cX10_goes 35 = .ok (.iconst 1, 1) := by decide +kernel
theorem dX10_goes_36 : decode cX10_goes 36 = .ok (.iadd, 1) := by decide +kernel
theorem dX10_goes_37 : decode cX10_goes 37 = .ok (.putfield 127, 3) := by decide +kernel
theorem dX10_goes_40 : decode cX10_goes 40 = .ok (.return_, 1) := by decide +kernel
theorem dX10_goesToDoor_0 : decode cX10_goesToDoor 0 = .ok (.aload_n 0, 1) := by decide +kernel
theorem dX10_goesToDoor_1 : decode cX10_goesToDoor 1 = .ok (.getfield 127, 3) := by decide +kernel
theorem dX10_goesToDoor_4 : decode cX10_goesToDoor 4 = .ok (.aload_n 0, 1) := by decide +kernel
theorem dX10_goesToDoor_5 : decode cX10_goesToDoor 5 = .ok (.invokevirtual 130, 3) := by decide +kernel
theorem dX10_goesToDoor_8 : decode cX10_goesToDoor 8 = .ok (.if_icmp .ge 11, 3) := by decide +kernel
theorem dX10_goesToDoor_11 : decode cX10_goesToDoor 11 = .ok (.aload_n 0, 1) := by decide +kernel
theorem dX10_goesToDoor_12 : decode cX10_goesToDoor 12 = .ok (.iconst 0, 1) := by decide +kernel
theorem dX10_goesToDoor_13 : decode cX10_goesToDoor 13 = .ok (.invokevirtual 136, 3) := by decide +kernel
theorem dX10_goesToDoor_16 : decode cX10_goesToDoor 16 = .ok (.goto (-16), 3) := by decide +kernel
theorem dX10_goesToDoor_19 : decode cX10_goesToDoor 19 = .ok (.return_, 1) := by decide +kernel
theorem dX10_lightOf_0 : decode cX10_lightOf 0 = .ok (.iconst 0, 1) := by decide +kernel
theorem dX10_lightOf_1 : decode cX10_lightOf 1 = .ok (.istore_n 2, 1) := by decide +kernel
theorem dX10_lightOf_2 : decode cX10_lightOf 2 = .ok (.iconst 0, 1) := by decide +kernel
theorem dX10_lightOf_3 : decode cX10_lightOf 3 = .ok (.istore_n 3, 1) := by decide +kernel
theorem dX10_lightOf_4 : decode cX10_lightOf 4 = .ok (.iload_n 3, 1) := by decide +kernel
theorem dX10_lightOf_5 : decode cX10_lightOf 5 = .ok (.aload_n 0, 1) := by decide +kernel
theorem dX10_lightOf_6 : decode cX10_lightOf 6 = .ok (.getfield 88, 3) := by decide +kernel
theorem dX10_lightOf_9 : decode cX10_lightOf 9 = .ok (.if_icmp .ge 33, 3) := by decide +kernel
theorem dX10_lightOf_12 : decode cX10_lightOf 12 = .ok (.iload_n 2, 1) := by decide +kernel
theorem dX10_lightOf_13 : decode cX10_lightOf 13 = .ok (.iload_n 1, 1) := by decide +kernel
theorem dX10_lightOf_14 : decode cX10_lightOf 14 = .ok (.iload_n 3, 1) := by decide +kernel
theorem dX10_lightOf_15 : decode cX10_lightOf 15 = .ok (.invokestatic 147, 3) := by decide +kernel
theorem dX10_lightOf_18 : decode cX10_lightOf 18 = .ok (.ifCond .eq 15, 3) := by decide +kernel
theorem dX10_lightOf_21 : decode cX10_lightOf 21 = .ok (.aload_n 0, 1) := by decide +kernel
theorem dX10_lightOf_22 : decode cX10_lightOf 22 = .ok (.getfield 16, 3) := by decide +kernel
theorem dX10_lightOf_25 : decode cX10_lightOf 25 = .ok (.iload_n 3, 1) := by decide +kernel
theorem dX10_lightOf_26 : decode cX10_lightOf 26 = .ok (.iaload, 1) := by decide +kernel
theorem dX10_lightOf_27 : decode cX10_lightOf 27 = .ok (.invokestatic 218, 3) := by decide +kernel
theorem dX10_lightOf_30 : decode cX10_lightOf 30 = .ok (.goto 4, 3) := by decide +kernel
theorem dX10_lightOf_33 : decode cX10_lightOf 33 = .ok (.iconst 0, 1) := by decide +kernel
theorem dX10_lightOf_34 : decode cX10_lightOf 34 = .ok (.iadd, 1) := by decide +kernel
theorem dX10_lightOf_35 : decode cX10_lightOf 35 = .ok (.istore_n 2, 1) := by decide +kernel
theorem dX10_lightOf_36 : decode cX10_lightOf 36 = .ok (.iinc 3 1, 3) := by decide +kernel
theorem dX10_lightOf_39 : decode cX10_lightOf 39 = .ok (.goto (-35), 3) := by decide +kernel
theorem dX10_lightOf_42 : decode cX10_lightOf 42 = .ok (.iload_n 2, 1) := by decide +kernel
theorem dX10_lightOf_43 : decode cX10_lightOf 43 = .ok (.ireturn, 1) := by decide +kernel
theorem dX10_person_0 : decode cX10_person 0 = .ok (.aload_n 0, 1) := by decide +kernel
theorem dX10_person_1 : decode cX10_person 1 = .ok (.iload_n 1, 1) := by decide +kernel
theorem dX10_person_2 : decode cX10_person 2 = .ok (.invokevirtual 144, 3) := by decide +kernel
theorem dX10_person_5 : decode cX10_person 5 = .ok (.ifCond .ne 9, 3) := by decide +kernel
theorem dX10_person_8 : decode cX10_person 8 = .ok (.aload_n 0, 1) := by decide +kernel
theorem dX10_person_9 : decode cX10_person 9 = .ok (.iconst (-1), 1) := by decide +kernel
theorem dX10_person_10 : decode cX10_person 10 = .ok (.invokevirtual 99, 3) := by decide +kernel
theorem dX10_person_13 : decode cX10_person 13 = .ok (.ireturn, 1) := by decide +kernel
theorem dX10_person_14 : decode cX10_person 14 = .ok (.iload_n 2, 1) := by decide +kernel
theorem dX10_person_15 : decode cX10_person 15 = .ok (.tableswitch 110 0 6 #[41, 48, 55, 64, 74, 90, 100], 41) := by decide +kernel
theorem dX10_person_56 : decode cX10_person 56 = .ok (.aload_n 0, 1) := by decide +kernel
theorem dX10_person_57 : decode cX10_person 57 = .ok (.getfield 16, 3) := by decide +kernel
theorem dX10_person_60 : decode cX10_person 60 = .ok (.iload_n 1, 1) := by decide +kernel
theorem dX10_person_61 : decode cX10_person 61 = .ok (.iaload, 1) := by decide +kernel
theorem dX10_person_62 : decode cX10_person 62 = .ok (.ireturn, 1) := by decide +kernel
theorem dX10_person_63 : decode cX10_person 63 = .ok (.aload_n 0, 1) := by decide +kernel
theorem dX10_person_64 : decode cX10_person 64 = .ok (.getfield 19, 3) := by decide +kernel
theorem dX10_person_67 : decode cX10_person 67 = .ok (.iload_n 1, 1) := by decide +kernel
theorem dX10_person_68 : decode cX10_person 68 = .ok (.iaload, 1) := by decide +kernel
theorem dX10_person_69 : decode cX10_person 69 = .ok (.ireturn, 1) := by decide +kernel
theorem dX10_person_70 : decode cX10_person 70 = .ok (.aload_n 0, 1) := by decide +kernel
theorem dX10_person_71 : decode cX10_person 71 = .ok (.getfield 124, 3) := by decide +kernel
theorem dX10_person_74 : decode cX10_person 74 = .ok (.iload_n 1, 1) := by decide +kernel
theorem dX10_person_75 : decode cX10_person 75 = .ok (.ishr, 1) := by decide +kernel
theorem dX10_person_76 : decode cX10_person 76 = .ok (.iconst 1, 1) := by decide +kernel
theorem dX10_person_77 : decode cX10_person 77 = .ok (.iand, 1) := by decide +kernel
theorem dX10_person_78 : decode cX10_person 78 = .ok (.ireturn, 1) := by decide +kernel
theorem dX10_person_79 : decode cX10_person 79 = .ok (.aload_n 0, 1) := by decide +kernel
theorem dX10_person_80 : decode cX10_person 80 = .ok (.getfield 16, 3) := by decide +kernel
theorem dX10_person_83 : decode cX10_person 83 = .ok (.iload_n 1, 1) := by decide +kernel
theorem dX10_person_84 : decode cX10_person 84 = .ok (.iaload, 1) := by decide +kernel
theorem dX10_person_85 : decode cX10_person 85 = .ok (.invokestatic 194, 3) := by decide +kernel
theorem dX10_person_88 : decode cX10_person 88 = .ok (.ireturn, 1) := by decide +kernel
theorem dX10_person_89 : decode cX10_person 89 = .ok (.aload_n 0, 1) := by decide +kernel
theorem dX10_person_90 : decode cX10_person 90 = .ok (.getfield 16, 3) := by decide +kernel
theorem dX10_person_93 : decode cX10_person 93 = .ok (.iload_n 1, 1) := by decide +kernel
theorem dX10_person_94 : decode cX10_person 94 = .ok (.iaload, 1) := by decide +kernel
theorem dX10_person_95 : decode cX10_person 95 = .ok (.aload_n 0, 1) := by decide +kernel
theorem dX10_person_96 : decode cX10_person 96 = .ok (.getfield 19, 3) := by decide +kernel
theorem dX10_person_99 : decode cX10_person 99 = .ok (.iload_n 1, 1) := by decide +kernel
theorem dX10_person_100 : decode cX10_person 100 = .ok (.iaload, 1) := by decide +kernel
theorem dX10_person_101 : decode cX10_person 101 = .ok (.invokestatic 200, 3) := by decide +kernel
theorem dX10_person_104 : decode cX10_person 104 = .ok (.ireturn, 1) := by decide +kernel
theorem dX10_person_105 : decode cX10_person 105 = .ok (.aload_n 0, 1) := by decide +kernel
theorem dX10_person_106 : decode cX10_person 106 = .ok (.getfield 16, 3) := by decide +kernel
theorem dX10_person_109 : decode cX10_person 109 = .ok (.iload_n 1, 1) := by decide +kernel
theorem dX10_person_110 : decode cX10_person 110 = .ok (.iaload, 1) := by decide +kernel
theorem dX10_person_111 : decode cX10_person 111 = .ok (.invokestatic 218, 3) := by decide +kernel
theorem dX10_person_114 : decode cX10_person 114 = .ok (.ireturn, 1) := by decide +kernel
theorem dX10_person_115 : decode cX10_person 115 = .ok (.aload_n 0, 1) := by decide +kernel
theorem dX10_person_116 : decode cX10_person 116 = .ok (.iload_n 1, 1) := by decide +kernel
theorem dX10_person_117 : decode cX10_person 117 = .ok (.aload_n 0, 1) := by decide +kernel
theorem dX10_person_118 : decode cX10_person 118 = .ok (.getfield 127, 3) := by decide +kernel
theorem dX10_person_121 : decode cX10_person 121 = .ok (.invokevirtual 197, 3) := by decide +kernel
theorem dX10_person_124 : decode cX10_person 124 = .ok (.ireturn, 1) := by decide +kernel
theorem dX10_person_125 : decode cX10_person 125 = .ok (.aload_n 0, 1) := by decide +kernel
theorem dX10_person_126 : decode cX10_person 126 = .ok (.bipush (-2), 2) := by decide +kernel
theorem dX10_person_128 : decode cX10_person 128 = .ok (.invokevirtual 99, 3) := by decide +kernel
theorem dX10_person_131 : decode cX10_person 131 = .ok (.ireturn, 1) := by decide +kernel
theorem dX10_light_0 : decode cX10_light 0 = .ok (.aload_n 0, 1) := by decide +kernel
theorem dX10_light_1 : decode cX10_light 1 = .ok (.iload_n 1, 1) := by decide +kernel
theorem dX10_light_2 : decode cX10_light 2 = .ok (.invokevirtual 144, 3) := by decide +kernel
theorem dX10_light_5 : decode cX10_light 5 = .ok (.ifCond .ne 7, 3) := by decide +kernel
theorem dX10_light_8 : decode cX10_light 8 = .ok (.iconst (-1), 1) := by decide +kernel
theorem dX10_light_9 : decode cX10_light 9 = .ok (.goto 39, 3) := by decide +kernel
theorem dX10_light_12 : decode cX10_light 12 = .ok (.iload_n 2, 1) := by decide +kernel
theorem dX10_light_13 : decode cX10_light 13 = .ok (.iconst 0, 1) := by decide +kernel
theorem dX10_light_14 : decode cX10_light 14 = .ok (.iconst 1, 1) := by decide +kernel
theorem dX10_light_15 : decode cX10_light 15 = .ok (.invokestatic 110, 3) := by decide +kernel
theorem dX10_light_18 : decode cX10_light 18 = .ok (.ifCond .ne 8, 3) := by decide +kernel
theorem dX10_light_21 : decode cX10_light 21 = .ok (.bipush (-2), 2) := by decide +kernel
theorem dX10_light_23 : decode cX10_light 23 = .ok (.goto 25, 3) := by decide +kernel
theorem dX10_light_26 : decode cX10_light 26 = .ok (.aload_n 0, 1) := by decide +kernel
theorem dX10_light_27 : decode cX10_light 27 = .ok (.getfield 16, 3) := by decide +kernel
theorem dX10_light_30 : decode cX10_light 30 = .ok (.iload_n 1, 1) := by decide +kernel
theorem dX10_light_31 : decode cX10_light 31 = .ok (.iaload, 1) := by decide +kernel
theorem dX10_light_32 : decode cX10_light 32 = .ok (.bipush 6, 2) := by decide +kernel
theorem dX10_light_34 : decode cX10_light 34 = .ok (.if_icmp .ne 13, 3) := by decide +kernel
theorem dX10_light_37 : decode cX10_light 37 = .ok (.iload_n 2, 1) := by decide +kernel
theorem dX10_light_38 : decode cX10_light 38 = .ok (.iconst 1, 1) := by decide +kernel
theorem dX10_light_39 : decode cX10_light 39 = .ok (.if_icmp .ne 8, 3) := by decide +kernel
theorem dX10_light_42 : decode cX10_light 42 = .ok (.bipush (-3), 2) := by decide +kernel
theorem dX10_light_44 : decode cX10_light 44 = .ok (.goto 4, 3) := by decide +kernel
theorem dX10_light_47 : decode cX10_light 47 = .ok (.iconst 0, 1) := by decide +kernel
theorem dX10_light_48 : decode cX10_light 48 = .ok (.istore_n 3, 1) := by decide +kernel
theorem dX10_light_49 : decode cX10_light 49 = .ok (.iload_n 3, 1) := by decide +kernel
theorem dX10_light_50 : decode cX10_light 50 = .ok (.ifCond .eq 9, 3) := by decide +kernel
theorem dX10_light_53 : decode cX10_light 53 = .ok (.aload_n 0, 1) := by decide +kernel
theorem dX10_light_54 : decode cX10_light 54 = .ok (.iload_n 3, 1) := by decide +kernel
theorem dX10_light_55 : decode cX10_light 55 = .ok (.invokevirtual 99, 3) := by decide +kernel
theorem dX10_light_58 : decode cX10_light 58 = .ok (.ireturn, 1) := by decide +kernel
theorem dX10_light_59 : decode cX10_light 59 = .ok (.aload_n 0, 1) := by decide +kernel
theorem dX10_light_60 : decode cX10_light 60 = .ok (.getfield 124, 3) := by decide +kernel
theorem dX10_light_63 : decode cX10_light 63 = .ok (.iload_n 1, 1) := by decide +kernel
theorem dX10_light_64 : decode cX10_light 64 = .ok (.ishr, 1) := by decide +kernel
theorem dX10_light_65 : decode cX10_light 65 = .ok (.iconst 1, 1) := by decide +kernel
theorem dX10_light_66 : decode cX10_light 66 = .ok (.iand, 1) := by decide +kernel
theorem dX10_light_67 : decode cX10_light 67 = .ok (.istore 4, 2) := by decide +kernel
theorem dX10_light_69 : decode cX10_light 69 = .ok (.aload_n 0, 1) := by decide +kernel
theorem dX10_light_70 : decode cX10_light 70 = .ok (.aload_n 0, 1) := by decide +kernel
theorem dX10_light_71 : decode cX10_light 71 = .ok (.getfield 124, 3) := by decide +kernel
theorem dX10_light_74 : decode cX10_light 74 = .ok (.iconst 1, 1) := by decide +kernel
theorem dX10_light_75 : decode cX10_light 75 = .ok (.iload_n 1, 1) := by decide +kernel
theorem dX10_light_76 : decode cX10_light 76 = .ok (.ishl, 1) := by decide +kernel
theorem dX10_light_77 : decode cX10_light 77 = .ok (.iconst (-1), 1) := by decide +kernel
theorem dX10_light_78 : decode cX10_light 78 = .ok (.ixor, 1) := by decide +kernel
theorem dX10_light_79 : decode cX10_light 79 = .ok (.iand, 1) := by decide +kernel
theorem dX10_light_80 : decode cX10_light 80 = .ok (.iload_n 2, 1) := by decide +kernel
theorem dX10_light_81 : decode cX10_light 81 = .ok (.iload_n 1, 1) := by decide +kernel
theorem dX10_light_82 : decode cX10_light 82 = .ok (.ishl, 1) := by decide +kernel
theorem dX10_light_83 : decode cX10_light 83 = .ok (.ior, 1) := by decide +kernel
theorem dX10_light_84 : decode cX10_light 84 = .ok (.putfield 124, 3) := by decide +kernel
theorem dX10_light_87 : decode cX10_light 87 = .ok (.aload_n 0, 1) := by decide +kernel
theorem dX10_light_88 : decode cX10_light 88 = .ok (.iconst 0, 1) := by decide +kernel
theorem dX10_light_89 : decode cX10_light 89 = .ok (.putfield 164, 3) := by decide +kernel
theorem dX10_light_92 : decode cX10_light 92 = .ok (.iload 4, 2) := by decide +kernel
theorem dX10_light_94 : decode cX10_light 94 = .ok (.ireturn, 1) := by decide +kernel
theorem dX10_becomes_0 : decode cX10_becomes 0 = .ok (.aload_n 0, 1) := by decide +kernel
theorem dX10_becomes_1 : decode cX10_becomes 1 = .ok (.getfield 16, 3) := by decide +kernel
theorem dX10_becomes_4 : decode cX10_becomes 4 = .ok (.iload_n 1, 1) := by decide +kernel
theorem dX10_becomes_5 : decode cX10_becomes 5 = .ok (.iload_n 2, 1) := by decide +kernel
theorem dX10_becomes_6 : decode cX10_becomes 6 = .ok (.iastore, 1) := by decide +kernel
theorem dX10_becomes_7 : decode cX10_becomes 7 = .ok (.iload_n 2, 1) := by decide +kernel
theorem dX10_becomes_8 : decode cX10_becomes 8 = .ok (.bipush 6, 2) := by decide +kernel
theorem dX10_becomes_10 : decode cX10_becomes 10 = .ok (.if_icmp .ne 17, 3) := by decide +kernel
theorem dX10_becomes_13 : decode cX10_becomes 13 = .ok (.aload_n 0, 1) := by decide +kernel
theorem dX10_becomes_14 : decode cX10_becomes 14 = .ok (.dup, 1) := by decide +kernel
theorem dX10_becomes_15 : decode cX10_becomes 15 = .ok (.getfield 124, 3) := by decide +kernel
theorem dX10_becomes_18 : decode cX10_becomes 18 = .ok (.iconst 1, 1) := by decide +kernel
theorem dX10_becomes_19 : decode cX10_becomes 19 = .ok (.iload_n 1, 1) := by decide +kernel
theorem dX10_becomes_20 : decode cX10_becomes 20 = .ok (.ishl, 1) := by decide +kernel
theorem dX10_becomes_21 : decode cX10_becomes 21 = .ok (.iconst (-1), 1) := by decide +kernel
theorem dX10_becomes_22 : decode cX10_becomes 22 = .ok (.ixor, 1) := by decide +kernel
theorem dX10_becomes_23 : decode cX10_becomes 23 = .ok (.iand, 1) := by decide +kernel
theorem dX10_becomes_24 : decode cX10_becomes 24 = .ok (.putfield 124, 3) := by decide +kernel
theorem dX10_becomes_27 : decode cX10_becomes 27 = .ok (.return_, 1) := by decide +kernel
theorem dX10_kind_0 : decode cX10_kind 0 = .ok (.aload_n 0, 1) := by decide +kernel
theorem dX10_kind_1 : decode cX10_kind 1 = .ok (.iload_n 1, 1) := by decide +kernel
theorem dX10_kind_2 : decode cX10_kind 2 = .ok (.invokevirtual 144, 3) := by decide +kernel
theorem dX10_kind_5 : decode cX10_kind 5 = .ok (.ifCond .ne 7, 3) := by decide +kernel
theorem dX10_kind_8 : decode cX10_kind 8 = .ok (.iconst (-1), 1) := by decide +kernel
theorem dX10_kind_9 : decode cX10_kind 9 = .ok (.goto 25, 3) := by decide +kernel
theorem dX10_kind_12 : decode cX10_kind 12 = .ok (.iload_n 2, 1) := by decide +kernel
theorem dX10_kind_13 : decode cX10_kind 13 = .ok (.iconst 0, 1) := by decide +kernel
theorem dX10_kind_14 : decode cX10_kind 14 = .ok (.bipush 6, 2) := by decide +kernel
theorem dX10_kind_16 : decode cX10_kind 16 = .ok (.invokestatic 110, 3) := by decide +kernel
theorem dX10_kind_19 : decode cX10_kind 19 = .ok (.ifCond .ne 8, 3) := by decide +kernel
theorem dX10_kind_22 : decode cX10_kind 22 = .ok (.bipush (-2), 2) := by decide +kernel
theorem dX10_kind_24 : decode cX10_kind 24 = .ok (.goto 10, 3) := by decide +kernel
theorem dX10_kind_27 : decode cX10_kind 27 = .ok (.iload_n 3, 1) := by decide +kernel
theorem dX10_kind_28 : decode cX10_kind 28 = .ok (.iconst 0, 1) := by decide +kernel
theorem dX10_kind_29 : decode cX10_kind 29 = .ok (.bipush 9, 2) := by decide +kernel
theorem dX10_kind_31 : decode cX10_kind 31 = .ok (.invokestatic 92, 3) := by decide +kernel
theorem dX10_kind_34 : decode cX10_kind 34 = .ok (.istore 4, 2) := by decide +kernel
theorem dX10_kind_36 : decode cX10_kind 36 = .ok (.iload 4, 2) := by decide +kernel
theorem dX10_kind_38 : decode cX10_kind 38 = .ok (.ifCond .eq 10, 3) := by decide +kernel
theorem dX10_kind_41 : decode cX10_kind 41 = .ok (.aload_n 0, 1) := by decide +kernel
theorem dX10_kind_42 : decode cX10_kind 42 = .ok (.iload 4, 2) := by decide +kernel
theorem dX10_kind_44 : decode cX10_kind 44 = .ok (.invokevirtual 99, 3) := by decide +kernel
theorem dX10_kind_47 : decode cX10_kind 47 = .ok (.ireturn, 1) := by decide +kernel
theorem dX10_kind_48 : decode cX10_kind 48 = .ok (.bipush 10, 2) := by decide +kernel
theorem dX10_kind_50 : decode cX10_kind 50 = .ok (.aload_n 0, 1) := by decide +kernel
theorem dX10_kind_51 : decode cX10_kind 51 = .ok (.getfield 16, 3) := by decide +kernel
theorem dX10_kind_54 : decode cX10_kind 54 = .ok (.iload_n 1, 1) := by decide +kernel
theorem dX10_kind_55 : decode cX10_kind 55 = .ok (.iaload, 1) := by decide +kernel
theorem dX10_kind_56 : decode cX10_kind 56 = .ok (.imul, 1) := by decide +kernel
theorem dX10_kind_57 : decode cX10_kind 57 = .ok (.aload_n 0, 1) := by decide +kernel
theorem dX10_kind_58 : decode cX10_kind 58 = .ok (.getfield 19, 3) := by decide +kernel
theorem dX10_kind_61 : decode cX10_kind 61 = .ok (.iload_n 1, 1) := by decide +kernel
theorem dX10_kind_62 : decode cX10_kind 62 = .ok (.iaload, 1) := by decide +kernel
theorem dX10_kind_63 : decode cX10_kind 63 = .ok (.iadd, 1) := by decide +kernel
theorem dX10_kind_64 : decode cX10_kind 64 = .ok (.istore 5, 2) := by decide +kernel
theorem dX10_kind_66 : decode cX10_kind 66 = .ok (.aload_n 0, 1) := by decide +kernel
theorem dX10_kind_67 : decode cX10_kind 67 = .ok (.iload_n 1, 1) := by decide +kernel
theorem dX10_kind_68 : decode cX10_kind 68 = .ok (.iload_n 2, 1) := by decide +kernel
theorem dX10_kind_69 : decode cX10_kind 69 = .ok (.invokevirtual 221, 3) := by decide +kernel
theorem dX10_kind_72 : decode cX10_kind 72 = .ok (.aload_n 0, 1) := by decide +kernel
theorem dX10_kind_73 : decode cX10_kind 73 = .ok (.getfield 19, 3) := by decide +kernel
theorem dX10_kind_76 : decode cX10_kind 76 = .ok (.iload_n 1, 1) := by decide +kernel
theorem dX10_kind_77 : decode cX10_kind 77 = .ok (.iload_n 3, 1) := by decide +kernel
theorem dX10_kind_78 : decode cX10_kind 78 = .ok (.iastore, 1) := by decide +kernel
theorem dX10_kind_79 : decode cX10_kind 79 = .ok (.aload_n 0, 1) := by decide +kernel
theorem dX10_kind_80 : decode cX10_kind 80 = .ok (.iconst 0, 1) := by decide +kernel
theorem dX10_kind_81 : decode cX10_kind 81 = .ok (.putfield 164, 3) := by decide +kernel
theorem dX10_kind_84 : decode cX10_kind 84 = .ok (.iload 5, 2) := by decide +kernel
theorem dX10_kind_86 : decode cX10_kind 86 = .ok (.ireturn, 1) := by decide +kernel
theorem dX10_isPlace_0 : decode cX10_isPlace 0 = .ok (.iload_n 0, 1) := by decide +kernel
theorem dX10_isPlace_1 : decode cX10_isPlace 1 = .ok (.ifCond .lt 13, 3) := by decide +kernel
theorem dX10_isPlace_4 : decode cX10_isPlace 4 = .ok (.iload_n 0, 1) := by decide +kernel
theorem dX10_isPlace_5 : decode cX10_isPlace 5 = .ok (.bipush 24, 2) := by decide +kernel
theorem dX10_isPlace_7 : decode cX10_isPlace 7 = .ok (.if_icmp .gt 7, 3) := by decide +kernel
theorem dX10_isPlace_10 : decode cX10_isPlace 10 = .ok (.iconst 1, 1) := by decide +kernel
theorem dX10_isPlace_11 : decode cX10_isPlace 11 = .ok (.goto 4, 3) := by decide +kernel
theorem dX10_isPlace_14 : decode cX10_isPlace 14 = .ok (.iconst 0, 1) := by decide +kernel
theorem dX10_isPlace_15 : decode cX10_isPlace 15 = .ok (.ireturn, 1) := by decide +kernel
theorem dX10_wind_0 : decode cX10_wind 0 = .ok (.iload_n 1, 1) := by decide +kernel
theorem dX10_wind_1 : decode cX10_wind 1 = .ok (.invokestatic 225, 3) := by decide +kernel
theorem dX10_wind_4 : decode cX10_wind 4 = .ok (.ifCond .ne 9, 3) := by decide +kernel
theorem dX10_wind_7 : decode cX10_wind 7 = .ok (.aload_n 0, 1) := by decide +kernel
theorem dX10_wind_8 : decode cX10_wind 8 = .ok (.iconst (-1), 1) := by decide +kernel
theorem dX10_wind_9 : decode cX10_wind 9 = .ok (.invokevirtual 99, 3) := by decide +kernel
theorem dX10_wind_12 : decode cX10_wind 12 = .ok (.ireturn, 1) := by decide +kernel
theorem dX10_wind_13 : decode cX10_wind 13 = .ok (.iload_n 2, 1) := by decide +kernel
theorem dX10_wind_14 : decode cX10_wind 14 = .ok (.iconst 0, 1) := by decide +kernel
theorem dX10_wind_15 : decode cX10_wind 15 = .ok (.iconst 1, 1) := by decide +kernel
theorem dX10_wind_16 : decode cX10_wind 16 = .ok (.invokestatic 110, 3) := by decide +kernel
theorem dX10_wind_19 : decode cX10_wind 19 = .ok (.ifCond .ne 10, 3) := by decide +kernel
theorem dX10_wind_22 : decode cX10_wind 22 = .ok (.aload_n 0, 1) := by decide +kernel
theorem dX10_wind_23 : decode cX10_wind 23 = .ok (.bipush (-2), 2) := by decide +kernel
theorem dX10_wind_25 : decode cX10_wind 25 = .ok (.invokevirtual 99, 3) := by decide +kernel
theorem dX10_wind_28 : decode cX10_wind 28 = .ok (.ireturn, 1) := by decide +kernel
theorem dX10_wind_29 : decode cX10_wind 29 = .ok (.iload_n 2, 1) := by decide +kernel
theorem dX10_wind_30 : decode cX10_wind 30 = .ok (.ifCond .ne 12, 3) := by decide +kernel
theorem dX10_wind_33 : decode cX10_wind 33 = .ok (.aload_n 0, 1) := by decide +kernel
theorem dX10_wind_34 : decode cX10_wind 34 = .ok (.getfield 22, 3) := by decide +kernel
theorem dX10_wind_37 : decode cX10_wind 37 = .ok (.iload_n 1, 1) := by decide +kernel
theorem dX10_wind_38 : decode cX10_wind 38 = .ok (.iaload, 1) := by decide +kernel
theorem dX10_wind_39 : decode cX10_wind 39 = .ok (.goto 9, 3) := by decide +kernel
theorem dX10_wind_42 : decode cX10_wind 42 = .ok (.aload_n 0, 1) := by decide +kernel
theorem dX10_wind_43 : decode cX10_wind 43 = .ok (.getfield 25, 3) := by decide +kernel
theorem dX10_wind_46 : decode cX10_wind 46 = .ok (.iload_n 1, 1) := by decide +kernel
theorem dX10_wind_47 : decode cX10_wind 47 = .ok (.iaload, 1) := by decide +kernel
theorem dX10_wind_48 : decode cX10_wind 48 = .ok (.ireturn, 1) := by decide +kernel
theorem dX10_blows_0 : decode cX10_blows 0 = .ok (.iload_n 1, 1) := by decide +kernel
theorem dX10_blows_1 : decode cX10_blows 1 = .ok (.invokestatic 225, 3) := by decide +kernel
theorem dX10_blows_4 : decode cX10_blows 4 = .ok (.ifCond .ne 7, 3) := by decide +kernel
theorem dX10_blows_7 : decode cX10_blows 7 = .ok (.iconst (-1), 1) := by decide +kernel
theorem dX10_blows_8 : decode cX10_blows 8 = .ok (.goto 33, 3) := by decide +kernel
theorem dX10_blows_11 : decode cX10_blows 11 = .ok (.iload_n 2, 1) := by decide +kernel
theorem dX10_blows_12 : decode cX10_blows 12 = .ok (.ifCond .lt 7, 3) := by decide +kernel
theorem dX10_blows_15 : decode cX10_blows 15 = .ok (.iload_n 3, 1) := by decide +kernel
theorem dX10_blows_16 : decode cX10_blows 16 = .ok (.ifCond .ge 8, 3) := by decide +kernel
theorem dX10_blows_19 : decode cX10_blows 19 = .ok (.bipush (-4), 2) := by decide +kernel
theorem dX10_blows_21 : decode cX10_blows 21 = .ok (.goto 20, 3) := by decide +kernel
theorem dX10_blows_24 : decode cX10_blows 24 = .ok (.iload_n 2, 1) := by decide +kernel
theorem dX10_blows_25 : decode cX10_blows 25 = .ok (.bipush 9, 2) := by decide +kernel
theorem dX10_blows_27 : decode cX10_blows 27 = .ok (.if_icmp .gt 8, 3) := by decide +kernel
theorem dX10_blows_30 : decode cX10_blows 30 = .ok (.iload_n 3, 1) := by decide +kernel
theorem dX10_blows_31 : decode cX10_blows 31 = .ok (.iconst 2, 1) := by decide +kernel
theorem dX10_blows_32 : decode cX10_blows 32 = .ok (.if_icmp .le 8, 3) := by decide +kernel
theorem dX10_blows_35 : decode cX10_blows 35 = .ok (.bipush (-6), 2) := by decide +kernel
theorem dX10_blows_37 : decode cX10_blows 37 = .ok (.goto 4, 3) := by decide +kernel
theorem dX10_blows_40 : decode cX10_blows 40 = .ok (.iconst 0, 1) := by decide +kernel
theorem dX10_blows_41 : decode cX10_blows 41 = .ok (.istore 4, 2) := by decide +kernel
theorem dX10_blows_43 : decode cX10_blows 43 = .ok (.iload 4, 2) := by decide +kernel
theorem dX10_blows_45 : decode cX10_blows 45 = .ok (.ifCond .eq 10, 3) := by decide +kernel
theorem dX10_blows_48 : decode cX10_blows 48 = .ok (.aload_n 0, 1) := by decide +kernel
theorem dX10_blows_49 : decode cX10_blows 49 = .ok (.iload 4, 2) := by decide +kernel
theorem dX10_blows_51 : decode cX10_blows 51 = .ok (.invokevirtual 99, 3) := by decide +kernel
theorem dX10_blows_54 : decode cX10_blows 54 = .ok (.ireturn, 1) := by decide +kernel
theorem dX10_blows_55 : decode cX10_blows 55 = .ok (.bipush 10, 2) := by decide +kernel
theorem dX10_blows_57 : decode cX10_blows 57 = .ok (.aload_n 0, 1) := by decide +kernel
theorem dX10_blows_58 : decode cX10_blows 58 = .ok (.getfield 22, 3) := by decide +kernel
theorem dX10_blows_61 : decode cX10_blows 61 = .ok (.iload_n 1, 1) := by decide +kernel
theorem dX10_blows_62 : decode cX10_blows 62 = .ok (.iaload, 1) := by decide +kernel
theorem dX10_blows_63 : decode cX10_blows 63 = .ok (.imul, 1) := by decide +kernel
theorem dX10_blows_64 : decode cX10_blows 64 = .ok (.aload_n 0, 1) := by decide +kernel
theorem dX10_blows_65 : decode cX10_blows 65 = .ok (.getfield 25, 3) := by decide +kernel
theorem dX10_blows_68 : decode cX10_blows 68 = .ok (.iload_n 1, 1) := by decide +kernel
theorem dX10_blows_69 : decode cX10_blows 69 = .ok (.iaload, 1) := by decide +kernel
theorem dX10_blows_70 : decode cX10_blows 70 = .ok (.iadd, 1) := by decide +kernel
theorem dX10_blows_71 : decode cX10_blows 71 = .ok (.istore 5, 2) := by decide +kernel
theorem dX10_blows_73 : decode cX10_blows 73 = .ok (.aload_n 0, 1) := by decide +kernel
theorem dX10_blows_74 : decode cX10_blows 74 = .ok (.getfield 22, 3) := by decide +kernel
theorem dX10_blows_77 : decode cX10_blows 77 = .ok (.iload_n 1, 1) := by decide +kernel
theorem dX10_blows_78 : decode cX10_blows 78 = .ok (.iload_n 2, 1) := by decide +kernel
theorem dX10_blows_79 : decode cX10_blows 79 = .ok (.iastore, 1) := by decide +kernel
theorem dX10_blows_80 : decode cX10_blows 80 = .ok (.aload_n 0, 1) := by decide +kernel
theorem dX10_blows_81 : decode cX10_blows 81 = .ok (.getfield 25, 3) := by decide +kernel
theorem dX10_blows_84 : decode cX10_blows 84 = .ok (.iload_n 1, 1) := by decide +kernel
theorem dX10_blows_85 : decode cX10_blows 85 = .ok (.iload_n 3, 1) := by decide +kernel
theorem dX10_blows_86 : decode cX10_blows 86 = .ok (.iastore, 1) := by decide +kernel
theorem dX10_blows_87 : decode cX10_blows 87 = .ok (.aload_n 0, 1) := by decide +kernel
theorem dX10_blows_88 : decode cX10_blows 88 = .ok (.iconst 0, 1) := by decide +kernel
theorem dX10_blows_89 : decode cX10_blows 89 = .ok (.putfield 164, 3) := by decide +kernel
theorem dX10_blows_92 : decode cX10_blows 92 = .ok (.iload 5, 2) := by decide +kernel
theorem dX10_blows_94 : decode cX10_blows 94 = .ok (.ireturn, 1) := by decide +kernel
theorem dX10_set_0 : decode cX10_set 0 = .ok (.iload_n 1, 1) := by decide +kernel
theorem dX10_set_1 : decode cX10_set 1 = .ok (.iconst 0, 1) := by decide +kernel
theorem dX10_set_2 : decode cX10_set 2 = .ok (.iconst 2, 1) := by decide +kernel
theorem dX10_set_3 : decode cX10_set 3 = .ok (.invokestatic 110, 3) := by decide +kernel
theorem dX10_set_6 : decode cX10_set 6 = .ok (.ifCond .ne 8, 3) := by decide +kernel
theorem dX10_set_9 : decode cX10_set 9 = .ok (.bipush (-2), 2) := by decide +kernel
theorem dX10_set_11 : decode cX10_set 11 = .ok (.goto 27, 3) := by decide +kernel
theorem dX10_set_14 : decode cX10_set 14 = .ok (.iload_n 2, 1) := by decide +kernel
theorem dX10_set_15 : decode cX10_set 15 = .ok (.iload_n 1, 1) := by decide +kernel
theorem dX10_set_16 : decode cX10_set 16 = .ok (.ifCond .ne 7, 3) := by decide +kernel
theorem dX10_set_19 : decode cX10_set 19 = .ok (.iconst 0, 1) := by decide +kernel
theorem dX10_set_20 : decode cX10_set 20 = .ok (.goto 4, 3) := by decide +kernel
theorem dX10_set_23 : decode cX10_set 23 = .ok (.iconst 1, 1) := by decide +kernel
theorem dX10_set_24 : decode cX10_set 24 = .ok (.iload_n 1, 1) := by decide +kernel
theorem dX10_set_25 : decode cX10_set 25 = .ok (.iconst 2, 1) := by decide +kernel
theorem dX10_set_26 : decode cX10_set 26 = .ok (.if_icmp .ne 8, 3) := by decide +kernel
theorem dX10_set_29 : decode cX10_set 29 = .ok (.bipush 24, 2) := by decide +kernel
theorem dX10_set_31 : decode cX10_set 31 = .ok (.goto 4, 3) := by decide +kernel
theorem dX10_set_34 : decode cX10_set 34 = .ok (.iconst 2, 1) := by decide +kernel
theorem dX10_set_35 : decode cX10_set 35 = .ok (.invokestatic 92, 3) := by decide +kernel
theorem dX10_set_38 : decode cX10_set 38 = .ok (.istore_n 3, 1) := by decide +kernel
theorem dX10_set_39 : decode cX10_set 39 = .ok (.iload_n 3, 1) := by decide +kernel
theorem dX10_set_40 : decode cX10_set 40 = .ok (.ifCond .ne 19, 3) := by decide +kernel
theorem dX10_set_43 : decode cX10_set 43 = .ok (.iload_n 1, 1) := by decide +kernel
theorem dX10_set_44 : decode cX10_set 44 = .ok (.iconst 2, 1) := by decide +kernel
theorem dX10_set_45 : decode cX10_set 45 = .ok (.if_icmp .ne 14, 3) := by decide +kernel
theorem dX10_set_48 : decode cX10_set 48 = .ok (.iload_n 2, 1) := by decide +kernel
theorem dX10_set_49 : decode cX10_set 49 = .ok (.aload_n 0, 1) := by decide +kernel
theorem dX10_set_50 : decode cX10_set 50 = .ok (.getfield 127, 3) := by decide +kernel
theorem dX10_set_53 : decode cX10_set 53 = .ok (.if_icmp .ge 6, 3) := by decide +kernel
theorem dX10_set_56 : decode cX10_set 56 = .ok (.bipush (-3), 2) := by decide +kernel
theorem dX10_set_58 : decode cX10_set 58 = .ok (.istore_n 3, 1) := by decide +kernel
theorem dX10_set_59 : decode cX10_set 59 = .ok (.iload_n 3, 1) := by decide +kernel
theorem dX10_set_60 : decode cX10_set 60 = .ok (.ifCond .eq 9, 3) := by decide +kernel
theorem dX10_set_63 : decode cX10_set 63 = .ok (.aload_n 0, 1) := by decide +kernel
theorem dX10_set_64 : decode cX10_set 64 = .ok (.iload_n 3, 1) := by decide +kernel
theorem dX10_set_65 : decode cX10_set 65 = .ok (.invokevirtual 99, 3) := by decide +kernel
theorem dX10_set_68 : decode cX10_set 68 = .ok (.ireturn, 1) := by decide +kernel
theorem dX10_set_69 : decode cX10_set 69 = .ok (.aload_n 0, 1) := by decide +kernel
theorem dX10_set_70 : decode cX10_set 70 = .ok (.getfield 13, 3) := by decide +kernel
theorem dX10_set_73 : decode cX10_set 73 = .ok (.iload_n 1, 1) := by decide +kernel
theorem dX10_set_74 : decode cX10_set 74 = .ok (.iaload, 1) := by decide +kernel
theorem dX10_set_75 : decode cX10_set 75 = .ok (.istore 4, 2) := by decide +kernel
theorem dX10_set_77 : decode cX10_set 77 = .ok (.aload_n 0, 1) := by decide +kernel
theorem dX10_set_78 : decode cX10_set 78 = .ok (.getfield 13, 3) := by decide +kernel
theorem dX10_set_81 : decode cX10_set 81 = .ok (.iload_n 1, 1) := by decide +kernel
theorem dX10_set_82 : decode cX10_set 82 = .ok (.iload_n 2, 1) := by decide +kernel
theorem dX10_set_83 : decode cX10_set 83 = .ok (.iastore, 1) := by decide +kernel
theorem dX10_set_84 : decode cX10_set 84 = .ok (.aload_n 0, 1) := by decide +kernel
theorem dX10_set_85 : decode cX10_set 85 = .ok (.iconst 0, 1) := by decide +kernel
theorem dX10_set_86 : decode cX10_set 86 = .ok (.putfield 164, 3) := by decide +kernel
theorem dX10_set_89 : decode cX10_set 89 = .ok (.iload 4, 2) := by decide +kernel
theorem dX10_set_91 : decode cX10_set 91 = .ok (.ireturn, 1) := by decide +kernel
theorem dX10_beside_0 : decode cX10_beside 0 = .ok (.aload_n 0, 1) := by decide +kernel
theorem dX10_beside_1 : decode cX10_beside 1 = .ok (.iload_n 1, 1) := by decide +kernel
theorem dX10_beside_2 : decode cX10_beside 2 = .ok (.invokevirtual 144, 3) := by decide +kernel
theorem dX10_beside_5 : decode cX10_beside 5 = .ok (.ifCond .eq 11, 3) := by decide +kernel
theorem dX10_beside_8 : decode cX10_beside 8 = .ok (.aload_n 0, 1) := by decide +kernel
theorem dX10_beside_9 : decode cX10_beside 9 = .ok (.iload_n 1, 1) := by decide +kernel
theorem dX10_beside_10 : decode cX10_beside 10 = .ok (.invokevirtual 206, 3) := by decide +kernel
theorem dX10_beside_13 : decode cX10_beside 13 = .ok (.goto 8, 3) := by decide +kernel
theorem dX10_beside_16 : decode cX10_beside 16 = .ok (.aload_n 0, 1) := by decide +kernel
theorem dX10_beside_17 : decode cX10_beside 17 = .ok (.iconst (-1), 1) := by decide +kernel
theorem dX10_beside_18 : decode cX10_beside 18 = .ok (.invokevirtual 99, 3) := by decide +kernel
theorem dX10_beside_21 : decode cX10_beside 21 = .ok (.ireturn, 1) := by decide +kernel
theorem dX10_covers_0 : decode cX10_covers 0 = .ok (.aload_n 0, 1) := by decide +kernel
theorem dX10_covers_1 : decode cX10_covers 1 = .ok (.iload_n 1, 1) := by decide +kernel
theorem dX10_covers_2 : decode cX10_covers 2 = .ok (.invokevirtual 144, 3) := by decide +kernel
theorem dX10_covers_5 : decode cX10_covers 5 = .ok (.ifCond .eq 19, 3) := by decide +kernel
theorem dX10_covers_8 : decode cX10_covers 8 = .ok (.iload_n 2, 1) := by decide +kernel
theorem dX10_covers_9 : decode cX10_covers 9 = .ok (.invokestatic 225, 3) := by decide +kernel
theorem dX10_covers_12 : decode cX10_covers 12 = .ok (.ifCond .eq 12, 3) := by decide +kernel
theorem dX10_covers_15 : decode cX10_covers 15 = .ok (.aload_n 0, 1) := by decide +kernel
theorem dX10_covers_16 : decode cX10_covers 16 = .ok (.iload_n 1, 1) := by decide +kernel
theorem dX10_covers_17 : decode cX10_covers 17 = .ok (.iload_n 2, 1) := by decide +kernel
theorem dX10_covers_18 : decode cX10_covers 18 = .ok (.invokevirtual 191, 3) := by decide +kernel
theorem dX10_covers_21 : decode cX10_covers 21 = .ok (.goto 8, 3) := by decide +kernel
theorem dX10_covers_24 : decode cX10_covers 24 = .ok (.aload_n 0, 1) := by decide +kernel
theorem dX10_covers_25 : decode cX10_covers 25 = .ok (.iconst (-1), 1) := by decide +kernel
theorem dX10_covers_26 : decode cX10_covers 26 = .ok (.invokevirtual 99, 3) := by decide +kernel
theorem dX10_covers_29 : decode cX10_covers 29 = .ok (.ireturn, 1) := by decide +kernel
theorem dX10_keepsMinute_0 : decode cX10_keepsMinute 0 = .ok (.bipush 7, 2) := by decide +kernel
theorem dX10_keepsMinute_2 : decode cX10_keepsMinute 2 = .ok (.istore_n 1, 1) := by decide +kernel
theorem dX10_keepsMinute_3 : decode cX10_keepsMinute 3 = .ok (.iload_n 1, 1) := by decide +kernel
theorem dX10_keepsMinute_4 : decode cX10_keepsMinute 4 = .ok (.ifCond .le 51, 3) := by decide +kernel
theorem dX10_keepsMinute_7 : decode cX10_keepsMinute 7 = .ok (.aload_n 0, 1) := by decide +kernel
theorem dX10_keepsMinute_8 : decode cX10_keepsMinute 8 = .ok (.getfield 49, 3) := by decide +kernel
theorem dX10_keepsMinute_11 : decode cX10_keepsMinute 11 = .ok (.iload_n 1, 1) := by decide +kernel
theorem dX10_keepsMinute_12 : decode cX10_keepsMinute 12 = .ok (.aload_n 0, 1) := by decide +kernel
theorem dX10_keepsMinute_13 : decode cX10_keepsMinute 13 = .ok (.getfield 49, 3) := by decide +kernel
theorem dX10_keepsMinute_16 : decode cX10_keepsMinute 16 = .ok (.iload_n 1, 1) := by decide +kernel
theorem dX10_keepsMinute_17 : decode cX10_keepsMinute 17 = .ok (.iconst 1, 1) := by decide +kernel
theorem dX10_keepsMinute_18 : decode cX10_keepsMinute 18 = .ok (.isub, 1) := by decide +kernel
theorem dX10_keepsMinute_19 : decode cX10_keepsMinute 19 = .ok (.iaload, 1) := by decide +kernel
theorem dX10_keepsMinute_20 : decode cX10_keepsMinute 20 = .ok (.iastore, 1) := by decide +kernel
theorem dX10_keepsMinute_21 : decode cX10_keepsMinute 21 = .ok (.aload_n 0, 1) := by decide +kernel
theorem dX10_keepsMinute_22 : decode cX10_keepsMinute 22 = .ok (.getfield 52, 3) := by decide +kernel
theorem dX10_keepsMinute_25 : decode cX10_keepsMinute 25 = .ok (.iload_n 1, 1) := by decide +kernel
theorem dX10_keepsMinute_26 : decode cX10_keepsMinute 26 = .ok (.aload_n 0, 1) := by decide +kernel
theorem dX10_keepsMinute_27 : decode cX10_keepsMinute 27 = .ok (.getfield 52, 3) := by decide +kernel
theorem dX10_keepsMinute_30 : decode cX10_keepsMinute 30 = .ok (.iload_n 1, 1) := by decide +kernel
theorem dX10_keepsMinute_31 : decode cX10_keepsMinute 31 = .ok (.iconst 1, 1) := by decide +kernel
theorem dX10_keepsMinute_32 : decode cX10_keepsMinute 32 = .ok (.isub, 1) := by decide +kernel
theorem dX10_keepsMinute_33 : decode cX10_keepsMinute 33 = .ok (.iaload, 1) := by decide +kernel
theorem dX10_keepsMinute_34 : decode cX10_keepsMinute 34 = .ok (.iastore, 1) := by decide +kernel
theorem dX10_keepsMinute_35 : decode cX10_keepsMinute 35 = .ok (.aload_n 0, 1) := by decide +kernel
theorem dX10_keepsMinute_36 : decode cX10_keepsMinute 36 = .ok (.getfield 55, 3) := by decide +kernel
theorem dX10_keepsMinute_39 : decode cX10_keepsMinute 39 = .ok (.iload_n 1, 1) := by decide +kernel
theorem dX10_keepsMinute_40 : decode cX10_keepsMinute 40 = .ok (.aload_n 0, 1) := by decide +kernel
theorem dX10_keepsMinute_41 : decode cX10_keepsMinute 41 = .ok (.getfield 55, 3) := by decide +kernel
theorem dX10_keepsMinute_44 : decode cX10_keepsMinute 44 = .ok (.iload_n 1, 1) := by decide +kernel
theorem dX10_keepsMinute_45 : decode cX10_keepsMinute 45 = .ok (.iconst 1, 1) := by decide +kernel
theorem dX10_keepsMinute_46 : decode cX10_keepsMinute 46 = .ok (.isub, 1) := by decide +kernel
theorem dX10_keepsMinute_47 : decode cX10_keepsMinute 47 = .ok (.iaload, 1) := by decide +kernel
theorem dX10_keepsMinute_48 : decode cX10_keepsMinute 48 = .ok (.iastore, 1) := by decide +kernel
theorem dX10_keepsMinute_49 : decode cX10_keepsMinute 49 = .ok (.iinc 1 (-1), 3) := by decide +kernel
theorem dX10_keepsMinute_52 : decode cX10_keepsMinute 52 = .ok (.goto (-49), 3) := by decide +kernel
theorem dX10_keepsMinute_55 : decode cX10_keepsMinute 55 = .ok (.aload_n 0, 1) := by decide +kernel
theorem dX10_keepsMinute_56 : decode cX10_keepsMinute 56 = .ok (.getfield 49, 3) := by decide +kernel
theorem dX10_keepsMinute_59 : decode cX10_keepsMinute 59 = .ok (.iconst 0, 1) := by decide +kernel
theorem dX10_keepsMinute_60 : decode cX10_keepsMinute 60 = .ok (.aload_n 0, 1) := by decide +kernel
theorem dX10_keepsMinute_61 : decode cX10_keepsMinute 61 = .ok (.getfield 124, 3) := by decide +kernel
theorem dX10_keepsMinute_64 : decode cX10_keepsMinute 64 = .ok (.iastore, 1) := by decide +kernel
theorem dX10_keepsMinute_65 : decode cX10_keepsMinute 65 = .ok (.aload_n 0, 1) := by decide +kernel
theorem dX10_keepsMinute_66 : decode cX10_keepsMinute 66 = .ok (.getfield 52, 3) := by decide +kernel
theorem dX10_keepsMinute_69 : decode cX10_keepsMinute 69 = .ok (.iconst 0, 1) := by decide +kernel
theorem dX10_keepsMinute_70 : decode cX10_keepsMinute 70 = .ok (.aload_n 0, 1) := by decide +kernel
theorem dX10_keepsMinute_71 : decode cX10_keepsMinute 71 = .ok (.getfield 127, 3) := by decide +kernel
theorem dX10_keepsMinute_74 : decode cX10_keepsMinute 74 = .ok (.iastore, 1) := by decide +kernel
theorem dX10_keepsMinute_75 : decode cX10_keepsMinute 75 = .ok (.aload_n 0, 1) := by decide +kernel
theorem dX10_keepsMinute_76 : decode cX10_keepsMinute 76 = .ok (.getfield 55, 3) := by decide +kernel
theorem dX10_keepsMinute_79 : decode cX10_keepsMinute 79 = .ok (.iconst 0, 1) := by decide +kernel
theorem dX10_keepsMinute_80 : decode cX10_keepsMinute 80 = .ok (.aload_n 0, 1) := by decide +kernel
theorem dX10_keepsMinute_81 : decode cX10_keepsMinute 81 = .ok (.getfield 133, 3) := by decide +kernel
theorem dX10_keepsMinute_84 : decode cX10_keepsMinute 84 = .ok (.iastore, 1) := by decide +kernel
theorem dX10_keepsMinute_85 : decode cX10_keepsMinute 85 = .ok (.aload_n 0, 1) := by decide +kernel
theorem dX10_keepsMinute_86 : decode cX10_keepsMinute 86 = .ok (.aload_n 0, 1) := by decide +kernel
theorem dX10_keepsMinute_87 : decode cX10_keepsMinute 87 = .ok (.getfield 164, 3) := by decide +kernel
theorem dX10_keepsMinute_90 : decode cX10_keepsMinute 90 = .ok (.bipush 8, 2) := by decide +kernel
theorem dX10_keepsMinute_92 : decode cX10_keepsMinute 92 = .ok (.if_icmp .ge 12, 3) := by decide +kernel
theorem dX10_keepsMinute_95 : decode cX10_keepsMinute 95 = .ok (.aload_n 0, 1) := by decide +kernel
theorem dX10_keepsMinute_96 : decode cX10_keepsMinute 96 = .ok (.getfield 164, 3) := by decide +kernel
theorem dX10_keepsMinute_99 : decode cX10_keepsMinute 99 = .ok (.iconst 1, 1) := by decide +kernel
theorem dX10_keepsMinute_100 : decode cX10_keepsMinute 100 = .ok (.iadd, 1) := by decide +kernel
theorem dX10_keepsMinute_101 : decode cX10_keepsMinute 101 = .ok (.goto 5, 3) := by decide +kernel
theorem dX10_keepsMinute_104 : decode cX10_keepsMinute 104 = .ok (.bipush 8, 2) := by decide +kernel
theorem dX10_keepsMinute_106 : decode cX10_keepsMinute 106 = .ok (.putfield 164, 3) := by decide +kernel
theorem dX10_keepsMinute_109 : decode cX10_keepsMinute 109 = .ok (.return_, 1) := by decide +kernel
theorem dX10_back_0 : decode cX10_back 0 = .ok (.aload_n 0, 1) := by decide +kernel
theorem dX10_back_1 : decode cX10_back 1 = .ok (.getfield 164, 3) := by decide +kernel
theorem dX10_back_4 : decode cX10_back 4 = .ok (.ifCond .ne 10, 3) := by decide +kernel
theorem dX10_back_7 : decode cX10_back 7 = .ok (.aload_n 0, 1) := by decide +kernel
theorem dX10_back_8 : decode cX10_back 8 = .ok (.bipush (-3), 2) := by decide +kernel
theorem dX10_back_10 : decode cX10_back 10 = .ok (.invokevirtual 99, 3) := by decide +kernel
theorem dX10_back_13 : decode cX10_back 13 = .ok (.ireturn, 1) := by decide +kernel
theorem dX10_back_14 : decode cX10_back 14 = .ok (.aload_n 0, 1) := by decide +kernel
theorem dX10_back_15 : decode cX10_back 15 = .ok (.aload_n 0, 1) := by decide +kernel
theorem dX10_back_16 : decode cX10_back 16 = .ok (.getfield 49, 3) := by decide +kernel
theorem dX10_back_19 : decode cX10_back 19 = .ok (.iconst 0, 1) := by decide +kernel
theorem dX10_back_20 : decode cX10_back 20 = .ok (.iaload, 1) := by decide +kernel
theorem dX10_back_21 : decode cX10_back 21 = .ok (.putfield 124, 3) := by decide +kernel
theorem dX10_back_24 : decode cX10_back 24 = .ok (.aload_n 0, 1) := by decide +kernel
theorem dX10_back_25 : decode cX10_back 25 = .ok (.aload_n 0, 1) := by decide +kernel
theorem dX10_back_26 : decode cX10_back 26 = .ok (.getfield 52, 3) := by decide +kernel
theorem dX10_back_29 : decode cX10_back 29 = .ok (.iconst 0, 1) := by decide +kernel
theorem dX10_back_30 : decode cX10_back 30 = .ok (.iaload, 1) := by decide +kernel
theorem dX10_back_31 : decode cX10_back 31 = .ok (.putfield 127, 3) := by decide +kernel
theorem dX10_back_34 : decode cX10_back 34 = .ok (.aload_n 0, 1) := by decide +kernel
theorem dX10_back_35 : decode cX10_back 35 = .ok (.aload_n 0, 1) := by decide +kernel
theorem dX10_back_36 : decode cX10_back 36 = .ok (.getfield 55, 3) := by decide +kernel
theorem dX10_back_39 : decode cX10_back 39 = .ok (.iconst 0, 1) := by decide +kernel
theorem dX10_back_40 : decode cX10_back 40 = .ok (.iaload, 1) := by decide +kernel
theorem dX10_back_41 : decode cX10_back 41 = .ok (.putfield 133, 3) := by decide +kernel
theorem dX10_back_44 : decode cX10_back 44 = .ok (.iconst 0, 1) := by decide +kernel
theorem dX10_back_45 : decode cX10_back 45 = .ok (.istore_n 1, 1) := by decide +kernel
theorem dX10_back_46 : decode cX10_back 46 = .ok (.iload_n 1, 1) := by decide +kernel
theorem dX10_back_47 : decode cX10_back 47 = .ok (.bipush 7, 2) := by decide +kernel
theorem dX10_back_49 : decode cX10_back 49 = .ok (.if_icmp .ge 51, 3) := by decide +kernel
theorem dX10_back_52 : decode cX10_back 52 = .ok (.aload_n 0, 1) := by decide +kernel
theorem dX10_back_53 : decode cX10_back 53 = .ok (.getfield 49, 3) := by decide +kernel
theorem dX10_back_56 : decode cX10_back 56 = .ok (.iload_n 1, 1) := by decide +kernel
theorem dX10_back_57 : decode cX10_back 57 = .ok (.aload_n 0, 1) := by decide +kernel
theorem dX10_back_58 : decode cX10_back 58 = .ok (.getfield 49, 3) := by decide +kernel
theorem dX10_back_61 : decode cX10_back 61 = .ok (.iload_n 1, 1) := by decide +kernel
theorem dX10_back_62 : decode cX10_back 62 = .ok (.iconst 1, 1) := by decide +kernel
theorem dX10_back_63 : decode cX10_back 63 = .ok (.iadd, 1) := by decide +kernel
theorem dX10_back_64 : decode cX10_back 64 = .ok (.iaload, 1) := by decide +kernel
theorem dX10_back_65 : decode cX10_back 65 = .ok (.iastore, 1) := by decide +kernel
theorem dX10_back_66 : decode cX10_back 66 = .ok (.aload_n 0, 1) := by decide +kernel
theorem dX10_back_67 : decode cX10_back 67 = .ok (.getfield 52, 3) := by decide +kernel
theorem dX10_back_70 : decode cX10_back 70 = .ok (.iload_n 1, 1) := by decide +kernel
theorem dX10_back_71 : decode cX10_back 71 = .ok (.aload_n 0, 1) := by decide +kernel
theorem dX10_back_72 : decode cX10_back 72 = .ok (.getfield 52, 3) := by decide +kernel
theorem dX10_back_75 : decode cX10_back 75 = .ok (.iload_n 1, 1) := by decide +kernel
theorem dX10_back_76 : decode cX10_back 76 = .ok (.iconst 1, 1) := by decide +kernel
theorem dX10_back_77 : decode cX10_back 77 = .ok (.iadd, 1) := by decide +kernel
theorem dX10_back_78 : decode cX10_back 78 = .ok (.iaload, 1) := by decide +kernel
theorem dX10_back_79 : decode cX10_back 79 = .ok (.iastore, 1) := by decide +kernel
theorem dX10_back_80 : decode cX10_back 80 = .ok (.aload_n 0, 1) := by decide +kernel
theorem dX10_back_81 : decode cX10_back 81 = .ok (.getfield 55, 3) := by decide +kernel
theorem dX10_back_84 : decode cX10_back 84 = .ok (.iload_n 1, 1) := by decide +kernel
theorem dX10_back_85 : decode cX10_back 85 = .ok (.aload_n 0, 1) := by decide +kernel
theorem dX10_back_86 : decode cX10_back 86 = .ok (.getfield 55, 3) := by decide +kernel
theorem dX10_back_89 : decode cX10_back 89 = .ok (.iload_n 1, 1) := by decide +kernel
theorem dX10_back_90 : decode cX10_back 90 = .ok (.iconst 1, 1) := by decide +kernel
theorem dX10_back_91 : decode cX10_back 91 = .ok (.iadd, 1) := by decide +kernel
theorem dX10_back_92 : decode cX10_back 92 = .ok (.iaload, 1) := by decide +kernel
theorem dX10_back_93 : decode cX10_back 93 = .ok (.iastore, 1) := by decide +kernel
theorem dX10_back_94 : decode cX10_back 94 = .ok (.iinc 1 1, 3) := by decide +kernel
theorem dX10_back_97 : decode cX10_back 97 = .ok (.goto (-51), 3) := by decide +kernel
theorem dX10_back_100 : decode cX10_back 100 = .ok (.aload_n 0, 1) := by decide +kernel
theorem dX10_back_101 : decode cX10_back 101 = .ok (.dup, 1) := by decide +kernel
theorem dX10_back_102 : decode cX10_back 102 = .ok (.getfield 164, 3) := by decide +kernel
theorem dX10_back_105 : decode cX10_back 105 = .ok (.iconst 1, 1) := by decide +kernel
theorem dX10_back_106 : decode cX10_back 106 = .ok (.isub, 1) := by decide +kernel
theorem dX10_back_107 : decode cX10_back 107 = .ok (.putfield 164, 3) := by decide +kernel
theorem dX10_back_110 : decode cX10_back 110 = .ok (.aload_n 0, 1) := by decide +kernel
theorem dX10_back_111 : decode cX10_back 111 = .ok (.getfield 127, 3) := by decide +kernel
theorem dX10_back_114 : decode cX10_back 114 = .ok (.ireturn, 1) := by decide +kernel
theorem dX10_go_0 : decode cX10_go 0 = .ok (.iload_n 1, 1) := by decide +kernel
theorem dX10_go_1 : decode cX10_go 1 = .ok (.iconst 0, 1) := by decide +kernel
theorem dX10_go_2 : decode cX10_go 2 = .ok (.iconst 1, 1) := by decide +kernel
theorem dX10_go_3 : decode cX10_go 3 = .ok (.invokestatic 110, 3) := by decide +kernel
theorem dX10_go_6 : decode cX10_go 6 = .ok (.ifCond .ne 8, 3) := by decide +kernel
theorem dX10_go_9 : decode cX10_go 9 = .ok (.bipush (-2), 2) := by decide +kernel
theorem dX10_go_11 : decode cX10_go 11 = .ok (.goto 35, 3) := by decide +kernel
theorem dX10_go_14 : decode cX10_go 14 = .ok (.aload_n 0, 1) := by decide +kernel
theorem dX10_go_15 : decode cX10_go 15 = .ok (.getfield 127, 3) := by decide +kernel
theorem dX10_go_18 : decode cX10_go 18 = .ok (.aload_n 0, 1) := by decide +kernel
theorem dX10_go_19 : decode cX10_go 19 = .ok (.invokevirtual 130, 3) := by decide +kernel
theorem dX10_go_22 : decode cX10_go 22 = .ok (.if_icmp .ne 8, 3) := by decide +kernel
theorem dX10_go_25 : decode cX10_go 25 = .ok (.bipush (-3), 2) := by decide +kernel
theorem dX10_go_27 : decode cX10_go 27 = .ok (.goto 19, 3) := by decide +kernel
theorem dX10_go_30 : decode cX10_go 30 = .ok (.aload_n 0, 1) := by decide +kernel
theorem dX10_go_31 : decode cX10_go 31 = .ok (.getfield 133, 3) := by decide +kernel
theorem dX10_go_34 : decode cX10_go 34 = .ok (.sipush 999, 3) := by decide +kernel
theorem dX10_go_37 : decode cX10_go 37 = .ok (.if_icmp .ne 8, 3) := by decide +kernel
theorem dX10_go_40 : decode cX10_go 40 = .ok (.bipush (-6), 2) := by decide +kernel
theorem dX10_go_42 : decode cX10_go 42 = .ok (.goto 4, 3) := by decide +kernel
theorem dX10_go_45 : decode cX10_go 45 = .ok (.iconst 0, 1) := by decide +kernel
theorem dX10_go_46 : decode cX10_go 46 = .ok (.istore_n 2, 1) := by decide +kernel
theorem dX10_go_47 : decode cX10_go 47 = .ok (.iload_n 2, 1) := by decide +kernel
theorem dX10_go_48 : decode cX10_go 48 = .ok (.ifCond .eq 9, 3) := by decide +kernel
theorem dX10_go_51 : decode cX10_go 51 = .ok (.aload_n 0, 1) := by decide +kernel
theorem dX10_go_52 : decode cX10_go 52 = .ok (.iload_n 2, 1) := by decide +kernel
theorem dX10_go_53 : decode cX10_go 53 = .ok (.invokevirtual 99, 3) := by decide +kernel
theorem dX10_go_56 : decode cX10_go 56 = .ok (.ireturn, 1) := by decide +kernel
theorem dX10_go_57 : decode cX10_go 57 = .ok (.aload_n 0, 1) := by decide +kernel
theorem dX10_go_58 : decode cX10_go 58 = .ok (.invokevirtual 228, 3) := by decide +kernel
theorem dX10_go_61 : decode cX10_go 61 = .ok (.aload_n 0, 1) := by decide +kernel
theorem dX10_go_62 : decode cX10_go 62 = .ok (.iload_n 1, 1) := by decide +kernel
theorem dX10_go_63 : decode cX10_go 63 = .ok (.iconst 1, 1) := by decide +kernel
theorem dX10_go_64 : decode cX10_go 64 = .ok (.if_icmp .ne 7, 3) := by decide +kernel
theorem dX10_go_67 : decode cX10_go 67 = .ok (.iconst 1, 1) := by decide +kernel
theorem dX10_go_68 : decode cX10_go 68 = .ok (.goto 4, 3) := by decide +kernel
theorem dX10_go_71 : decode cX10_go 71 = .ok (.iconst 0, 1) := by decide +kernel
theorem dX10_go_72 : decode cX10_go 72 = .ok (.invokevirtual 136, 3) := by decide +kernel
theorem dX10_go_75 : decode cX10_go 75 = .ok (.aload_n 0, 1) := by decide +kernel
theorem dX10_go_76 : decode cX10_go 76 = .ok (.getfield 124, 3) := by decide +kernel
theorem dX10_go_79 : decode cX10_go 79 = .ok (.invokestatic 231, 3) := by decide +kernel
theorem dX10_go_82 : decode cX10_go 82 = .ok (.ireturn, 1) := by decide +kernel
theorem dX10_lit_0 : decode cX10_lit 0 = .ok (.aload_n 0, 1) := by decide +kernel
theorem dX10_lit_1 : decode cX10_lit 1 = .ok (.getfield 124, 3) := by decide +kernel
theorem dX10_lit_4 : decode cX10_lit 4 = .ok (.ireturn, 1) := by decide +kernel
theorem dX10_goesAhead_0 : decode cX10_goesAhead 0 = .ok (.iconst 0, 1) := by decide +kernel
theorem dX10_goesAhead_1 : decode cX10_goesAhead 1 = .ok (.istore_n 2, 1) := by decide +kernel
theorem dX10_goesAhead_2 : decode cX10_goesAhead 2 = .ok (.iload_n 2, 1) := by decide +kernel
theorem dX10_goesAhead_3 : decode cX10_goesAhead 3 = .ok (.iload_n 1, 1) := by decide +kernel
theorem dX10_goesAhead_4 : decode cX10_goesAhead 4 = .ok (.if_icmp .ge 25, 3) := by decide +kernel
theorem dX10_goesAhead_7 : decode cX10_goesAhead 7 = .ok (.aload_n 0, 1) := by decide +kernel
theorem dX10_goesAhead_8 : decode cX10_goesAhead 8 = .ok (.getfield 127, 3) := by decide +kernel
theorem dX10_goesAhead_11 : decode cX10_goesAhead 11 = .ok (.aload_n 0, 1) := by decide +kernel
theorem dX10_goesAhead_12 : decode cX10_goesAhead 12 = .ok (.invokevirtual 130, 3) := by decide +kernel
theorem dX10_goesAhead_15 : decode cX10_goesAhead 15 = .ok (.if_icmp .ge 14, 3) := by decide +kernel
theorem dX10_goesAhead_18 : decode cX10_goesAhead 18 = .ok (.aload_n 0, 1) := by decide +kernel
theorem dX10_goesAhead_19 : decode cX10_goesAhead 19 = .ok (.iconst 0, 1) := by decide +kernel
theorem dX10_goesAhead_20 : decode cX10_goesAhead 20 = .ok (.invokevirtual 136, 3) := by decide +kernel
theorem dX10_goesAhead_23 : decode cX10_goesAhead 23 = .ok (.iinc 2 1, 3) := by decide +kernel
theorem dX10_goesAhead_26 : decode cX10_goesAhead 26 = .ok (.goto (-24), 3) := by decide +kernel
theorem dX10_goesAhead_29 : decode cX10_goesAhead 29 = .ok (.return_, 1) := by decide +kernel
theorem dX10_then_0 : decode cX10_then 0 = .ok (.iload_n 1, 1) := by decide +kernel
theorem dX10_then_1 : decode cX10_then 1 = .ok (.iconst 0, 1) := by decide +kernel
theorem dX10_then_2 : decode cX10_then 2 = .ok (.bipush 24, 2) := by decide +kernel
theorem dX10_then_4 : decode cX10_then 4 = .ok (.invokestatic 92, 3) := by decide +kernel
theorem dX10_then_7 : decode cX10_then 7 = .ok (.istore_n 2, 1) := by decide +kernel
theorem dX10_then_8 : decode cX10_then 8 = .ok (.iload_n 2, 1) := by decide +kernel
theorem dX10_then_9 : decode cX10_then 9 = .ok (.ifCond .eq 9, 3) := by decide +kernel
theorem dX10_then_12 : decode cX10_then 12 = .ok (.aload_n 0, 1) := by decide +kernel
theorem dX10_then_13 : decode cX10_then 13 = .ok (.iload_n 2, 1) := by decide +kernel
theorem dX10_then_14 : decode cX10_then 14 = .ok (.invokevirtual 99, 3) := by decide +kernel
theorem dX10_then_17 : decode cX10_then 17 = .ok (.ireturn, 1) := by decide +kernel
theorem dX10_then_18 : decode cX10_then 18 = .ok (.aload_n 0, 1) := by decide +kernel
theorem dX10_then_19 : decode cX10_then 19 = .ok (.iconst 1, 1) := by decide +kernel
theorem dX10_then_20 : decode cX10_then 20 = .ok (.iconst 1, 1) := by decide +kernel
theorem dX10_then_21 : decode cX10_then 21 = .ok (.invokevirtual 157, 3) := by decide +kernel
theorem dX10_then_24 : decode cX10_then 24 = .ok (.aload_n 0, 1) := by decide +kernel
theorem dX10_then_25 : decode cX10_then 25 = .ok (.iload_n 1, 1) := by decide +kernel
theorem dX10_then_26 : decode cX10_then 26 = .ok (.invokevirtual 234, 3) := by decide +kernel
theorem dX10_then_29 : decode cX10_then 29 = .ok (.aload_n 0, 1) := by decide +kernel
theorem dX10_then_30 : decode cX10_then 30 = .ok (.getfield 124, 3) := by decide +kernel
theorem dX10_then_33 : decode cX10_then 33 = .ok (.istore_n 3, 1) := by decide +kernel
theorem dX10_then_34 : decode cX10_then 34 = .ok (.aload_n 0, 1) := by decide +kernel
theorem dX10_then_35 : decode cX10_then 35 = .ok (.iconst 1, 1) := by decide +kernel
theorem dX10_then_36 : decode cX10_then 36 = .ok (.iconst 0, 1) := by decide +kernel
theorem dX10_then_37 : decode cX10_then 37 = .ok (.invokevirtual 157, 3) := by decide +kernel
theorem dX10_then_40 : decode cX10_then 40 = .ok (.iload_n 3, 1) := by decide +kernel
theorem dX10_then_41 : decode cX10_then 41 = .ok (.ireturn, 1) := by decide +kernel
theorem dX10_atDoor_0 : decode cX10_atDoor 0 = .ok (.aload_n 0, 1) := by decide +kernel
theorem dX10_atDoor_1 : decode cX10_atDoor 1 = .ok (.iconst 2, 1) := by decide +kernel
theorem dX10_atDoor_2 : decode cX10_atDoor 2 = .ok (.iconst 1, 1) := by decide +kernel
theorem dX10_atDoor_3 : decode cX10_atDoor 3 = .ok (.invokevirtual 157, 3) := by decide +kernel
theorem dX10_atDoor_6 : decode cX10_atDoor 6 = .ok (.aload_n 0, 1) := by decide +kernel
theorem dX10_atDoor_7 : decode cX10_atDoor 7 = .ok (.invokevirtual 238, 3) := by decide +kernel
theorem dX10_atDoor_10 : decode cX10_atDoor 10 = .ok (.aload_n 0, 1) := by decide +kernel
theorem dX10_atDoor_11 : decode cX10_atDoor 11 = .ok (.getfield 124, 3) := by decide +kernel
theorem dX10_atDoor_14 : decode cX10_atDoor 14 = .ok (.istore_n 1, 1) := by decide +kernel
theorem dX10_atDoor_15 : decode cX10_atDoor 15 = .ok (.aload_n 0, 1) := by decide +kernel
theorem dX10_atDoor_16 : decode cX10_atDoor 16 = .ok (.iconst 2, 1) := by decide +kernel
theorem dX10_atDoor_17 : decode cX10_atDoor 17 = .ok (.iconst 0, 1) := by decide +kernel
theorem dX10_atDoor_18 : decode cX10_atDoor 18 = .ok (.invokevirtual 157, 3) := by decide +kernel
theorem dX10_atDoor_21 : decode cX10_atDoor 21 = .ok (.iload_n 1, 1) := by decide +kernel
theorem dX10_atDoor_22 : decode cX10_atDoor 22 = .ok (.ireturn, 1) := by decide +kernel
theorem dX10_door_0 : decode cX10_door 0 = .ok (.iload_n 1, 1) := by decide +kernel
theorem dX10_door_1 : decode cX10_door 1 = .ok (.iconst 0, 1) := by decide +kernel
theorem dX10_door_2 : decode cX10_door 2 = .ok (.iconst 2, 1) := by decide +kernel
theorem dX10_door_3 : decode cX10_door 3 = .ok (.invokestatic 110, 3) := by decide +kernel
theorem dX10_door_6 : decode cX10_door 6 = .ok (.ifCond .ne 10, 3) := by decide +kernel
theorem dX10_door_9 : decode cX10_door 9 = .ok (.aload_n 0, 1) := by decide +kernel
theorem dX10_door_10 : decode cX10_door 10 = .ok (.bipush (-2), 2) := by decide +kernel
theorem dX10_door_12 : decode cX10_door 12 = .ok (.invokevirtual 99, 3) := by decide +kernel
theorem dX10_door_15 : decode cX10_door 15 = .ok (.ireturn, 1) := by decide +kernel
theorem dX10_door_16 : decode cX10_door 16 = .ok (.aload_n 0, 1) := by decide +kernel
theorem dX10_door_17 : decode cX10_door 17 = .ok (.invokevirtual 241, 3) := by decide +kernel
theorem dX10_door_20 : decode cX10_door 20 = .ok (.istore_n 2, 1) := by decide +kernel
theorem dX10_door_21 : decode cX10_door 21 = .ok (.iload_n 1, 1) := by decide +kernel
theorem dX10_door_22 : decode cX10_door 22 = .ok (.ifCond .ne 7, 3) := by decide +kernel
theorem dX10_door_25 : decode cX10_door 25 = .ok (.iload_n 2, 1) := by decide +kernel
theorem dX10_door_26 : decode cX10_door 26 = .ok (.goto 20, 3) := by decide +kernel
theorem dX10_door_29 : decode cX10_door 29 = .ok (.iload_n 1, 1) := by decide +kernel
theorem dX10_door_30 : decode cX10_door 30 = .ok (.iconst 1, 1) := by decide +kernel
theorem dX10_door_31 : decode cX10_door 31 = .ok (.if_icmp .ne 10, 3) := by decide +kernel
theorem dX10_door_34 : decode cX10_door 34 = .ok (.iload_n 2, 1) := by decide +kernel
theorem dX10_door_35 : decode cX10_door 35 = .ok (.invokestatic 231, 3) := by decide +kernel
theorem dX10_door_38 : decode cX10_door 38 = .ok (.goto 8, 3) := by decide +kernel
theorem dX10_door_41 : decode cX10_door 41 = .ok (.aload_n 0, 1) := by decide +kernel
theorem dX10_door_42 : decode cX10_door 42 = .ok (.iload_n 2, 1) := by decide +kernel
theorem dX10_door_43 : decode cX10_door 43 = .ok (.invokevirtual 244, 3) := by decide +kernel
theorem dX10_door_46 : decode cX10_door 46 = .ok (.ireturn, 1) := by decide +kernel
theorem dX10_dark_0 : decode cX10_dark 0 = .ok (.iload_n 1, 1) := by decide +kernel
theorem dX10_dark_1 : decode cX10_dark 1 = .ok (.iconst 0, 1) := by decide +kernel
theorem dX10_dark_2 : decode cX10_dark 2 = .ok (.iconst 1, 1) := by decide +kernel
theorem dX10_dark_3 : decode cX10_dark 3 = .ok (.invokestatic 110, 3) := by decide +kernel
theorem dX10_dark_6 : decode cX10_dark 6 = .ok (.ifCond .ne 10, 3) := by decide +kernel
theorem dX10_dark_9 : decode cX10_dark 9 = .ok (.aload_n 0, 1) := by decide +kernel
theorem dX10_dark_10 : decode cX10_dark 10 = .ok (.bipush (-2), 2) := by decide +kernel
theorem dX10_dark_12 : decode cX10_dark 12 = .ok (.invokevirtual 99, 3) := by decide +kernel
theorem dX10_dark_15 : decode cX10_dark 15 = .ok (.ireturn, 1) := by decide +kernel
theorem dX10_dark_16 : decode cX10_dark 16 = .ok (.aload_n 0, 1) := by decide +kernel
theorem dX10_dark_17 : decode cX10_dark 17 = .ok (.iconst 1, 1) := by decide +kernel
theorem dX10_dark_18 : decode cX10_dark 18 = .ok (.iconst 1, 1) := by decide +kernel
theorem dX10_dark_19 : decode cX10_dark 19 = .ok (.invokevirtual 157, 3) := by decide +kernel
theorem dX10_dark_22 : decode cX10_dark 22 = .ok (.aload_n 0, 1) := by decide +kernel
theorem dX10_dark_23 : decode cX10_dark 23 = .ok (.getfield 124, 3) := by decide +kernel
theorem dX10_dark_26 : decode cX10_dark 26 = .ok (.ifCond .ne 7, 3) := by decide +kernel
theorem dX10_dark_29 : decode cX10_dark 29 = .ok (.iconst 0, 1) := by decide +kernel
theorem dX10_dark_30 : decode cX10_dark 30 = .ok (.goto 5, 3) := by decide +kernel
theorem dX10_dark_33 : decode cX10_dark 33 = .ok (.bipush (-9), 2) := by decide +kernel
theorem dX10_dark_35 : decode cX10_dark 35 = .ok (.istore_n 2, 1) := by decide +kernel
theorem dX10_dark_36 : decode cX10_dark 36 = .ok (.iconst 0, 1) := by decide +kernel
theorem dX10_dark_37 : decode cX10_dark 37 = .ok (.istore_n 3, 1) := by decide +kernel
theorem dX10_dark_38 : decode cX10_dark 38 = .ok (.iconst 0, 1) := by decide +kernel
theorem dX10_dark_39 : decode cX10_dark 39 = .ok (.istore 4, 2) := by decide +kernel
theorem dX10_dark_41 : decode cX10_dark 41 = .ok (.iconst 1, 1) := by decide +kernel
theorem dX10_dark_42 : decode cX10_dark 42 = .ok (.istore 5, 2) := by decide +kernel
theorem dX10_dark_44 : decode cX10_dark 44 = .ok (.aload_n 0, 1) := by decide +kernel
theorem dX10_dark_45 : decode cX10_dark 45 = .ok (.getfield 127, 3) := by decide +kernel
theorem dX10_dark_48 : decode cX10_dark 48 = .ok (.aload_n 0, 1) := by decide +kernel
theorem dX10_dark_49 : decode cX10_dark 49 = .ok (.invokevirtual 130, 3) := by decide +kernel
theorem dX10_dark_52 : decode cX10_dark 52 = .ok (.if_icmp .ge 61, 3) := by decide +kernel
theorem dX10_dark_55 : decode cX10_dark 55 = .ok (.aload_n 0, 1) := by decide +kernel
theorem dX10_dark_56 : decode cX10_dark 56 = .ok (.iconst 0, 1) := by decide +kernel
theorem dX10_dark_57 : decode cX10_dark 57 = .ok (.invokevirtual 136, 3) := by decide +kernel
theorem dX10_dark_60 : decode cX10_dark 60 = .ok (.aload_n 0, 1) := by decide +kernel
theorem dX10_dark_61 : decode cX10_dark 61 = .ok (.getfield 124, 3) := by decide +kernel
theorem dX10_dark_64 : decode cX10_dark 64 = .ok (.ifCond .ne 9, 3) := by decide +kernel
theorem dX10_dark_67 : decode cX10_dark 67 = .ok (.iload_n 3, 1) := by decide +kernel
theorem dX10_dark_68 : decode cX10_dark 68 = .ok (.iconst 1, 1) := by decide +kernel
theorem dX10_dark_69 : decode cX10_dark 69 = .ok (.iadd, 1) := by decide +kernel
theorem dX10_dark_70 : decode cX10_dark 70 = .ok (.goto 4, 3) := by decide +kernel
theorem dX10_dark_73 : decode cX10_dark 73 = .ok (.iconst 0, 1) := by decide +kernel
theorem dX10_dark_74 : decode cX10_dark 74 = .ok (.istore_n 3, 1) := by decide +kernel
theorem dX10_dark_75 : decode cX10_dark 75 = .ok (.iload_n 3, 1) := by decide +kernel
theorem dX10_dark_76 : decode cX10_dark 76 = .ok (.iload 4, 2) := by decide +kernel
theorem dX10_dark_78 : decode cX10_dark 78 = .ok (.if_icmp .le 7, 3) := by decide +kernel
theorem dX10_dark_81 : decode cX10_dark 81 = .ok (.iload_n 3, 1) := by decide +kernel
theorem dX10_dark_82 : decode cX10_dark 82 = .ok (.goto 5, 3) := by decide +kernel
theorem dX10_dark_85 : decode cX10_dark 85 = .ok (.iload 4, 2) := by decide +kernel
theorem dX10_dark_87 : decode cX10_dark 87 = .ok (.istore 4, 2) := by decide +kernel
theorem dX10_dark_89 : decode cX10_dark 89 = .ok (.aload_n 0, 1) := by decide +kernel
theorem dX10_dark_90 : decode cX10_dark 90 = .ok (.getfield 124, 3) := by decide +kernel
theorem dX10_dark_93 : decode cX10_dark 93 = .ok (.ifCond .ne 12, 3) := by decide +kernel
theorem dX10_dark_96 : decode cX10_dark 96 = .ok (.iload_n 2, 1) := by decide +kernel
theorem dX10_dark_97 : decode cX10_dark 97 = .ok (.ifCond .ge 8, 3) := by decide +kernel
theorem dX10_dark_100 : decode cX10_dark 100 = .ok (.iload 5, 2) := by decide +kernel
theorem dX10_dark_102 : decode cX10_dark 102 = .ok (.goto 4, 3) := by decide +kernel
theorem dX10_dark_105 : decode cX10_dark 105 = .ok (.iload_n 2, 1) := by decide +kernel
theorem dX10_dark_106 : decode cX10_dark 106 = .ok (.istore_n 2, 1) := by decide +kernel
theorem dX10_dark_107 : decode cX10_dark 107 = .ok (.iinc 5 1, 3) := by decide +kernel
theorem dX10_dark_110 : decode cX10_dark 110 = .ok (.goto (-66), 3) := by decide +kernel
theorem dX10_dark_113 : decode cX10_dark 113 = .ok (.aload_n 0, 1) := by decide +kernel
theorem dX10_dark_114 : decode cX10_dark 114 = .ok (.iconst 1, 1) := by decide +kernel
theorem dX10_dark_115 : decode cX10_dark 115 = .ok (.iconst 0, 1) := by decide +kernel
theorem dX10_dark_116 : decode cX10_dark 116 = .ok (.invokevirtual 157, 3) := by decide +kernel
theorem dX10_dark_119 : decode cX10_dark 119 = .ok (.iload_n 1, 1) := by decide +kernel
theorem dX10_dark_120 : decode cX10_dark 120 = .ok (.ifCond .ne 7, 3) := by decide +kernel
theorem dX10_dark_123 : decode cX10_dark 123 = .ok (.iload_n 2, 1) := by decide +kernel
theorem dX10_dark_124 : decode cX10_dark 124 = .ok (.goto 5, 3) := by decide +kernel
theorem dX10_dark_127 : decode cX10_dark 127 = .ok (.iload 4, 2) := by decide +kernel
theorem dX10_dark_129 : decode cX10_dark 129 = .ok (.ireturn, 1) := by decide +kernel
theorem dX10_darkEnds_0 : decode cX10_darkEnds 0 = .ok (.aload_n 0, 1) := by decide +kernel
theorem dX10_darkEnds_1 : decode cX10_darkEnds 1 = .ok (.iconst 2, 1) := by decide +kernel
theorem dX10_darkEnds_2 : decode cX10_darkEnds 2 = .ok (.iconst 1, 1) := by decide +kernel
theorem dX10_darkEnds_3 : decode cX10_darkEnds 3 = .ok (.invokevirtual 157, 3) := by decide +kernel
theorem dX10_darkEnds_6 : decode cX10_darkEnds 6 = .ok (.iconst 0, 1) := by decide +kernel
theorem dX10_darkEnds_7 : decode cX10_darkEnds 7 = .ok (.istore_n 2, 1) := by decide +kernel
theorem dX10_darkEnds_8 : decode cX10_darkEnds 8 = .ok (.aload_n 0, 1) := by decide +kernel
theorem dX10_darkEnds_9 : decode cX10_darkEnds 9 = .ok (.getfield 127, 3) := by decide +kernel
theorem dX10_darkEnds_12 : decode cX10_darkEnds 12 = .ok (.aload_n 0, 1) := by decide +kernel
theorem dX10_darkEnds_13 : decode cX10_darkEnds 13 = .ok (.invokevirtual 130, 3) := by decide +kernel
theorem dX10_darkEnds_16 : decode cX10_darkEnds 16 = .ok (.if_icmp .ge 30, 3) := by decide +kernel
theorem dX10_darkEnds_19 : decode cX10_darkEnds 19 = .ok (.aload_n 0, 1) := by decide +kernel
theorem dX10_darkEnds_20 : decode cX10_darkEnds 20 = .ok (.iconst 0, 1) := by decide +kernel
theorem dX10_darkEnds_21 : decode cX10_darkEnds 21 = .ok (.invokevirtual 136, 3) := by decide +kernel
theorem dX10_darkEnds_24 : decode cX10_darkEnds 24 = .ok (.iload_n 2, 1) := by decide +kernel
theorem dX10_darkEnds_25 : decode cX10_darkEnds 25 = .ok (.aload_n 0, 1) := by decide +kernel
theorem dX10_darkEnds_26 : decode cX10_darkEnds 26 = .ok (.getfield 124, 3) := by decide +kernel
theorem dX10_darkEnds_29 : decode cX10_darkEnds 29 = .ok (.iload_n 1, 1) := by decide +kernel
theorem dX10_darkEnds_30 : decode cX10_darkEnds 30 = .ok (.invokestatic 147, 3) := by decide +kernel
theorem dX10_darkEnds_33 : decode cX10_darkEnds 33 = .ok (.ifCond .eq 7, 3) := by decide +kernel
theorem dX10_darkEnds_36 : decode cX10_darkEnds 36 = .ok (.iconst 0, 1) := by decide +kernel
theorem dX10_darkEnds_37 : decode cX10_darkEnds 37 = .ok (.goto 4, 3) := by decide +kernel
theorem dX10_darkEnds_40 : decode cX10_darkEnds 40 = .ok (.iconst 1, 1) := by decide +kernel
theorem dX10_darkEnds_41 : decode cX10_darkEnds 41 = .ok (.iadd, 1) := by decide +kernel
theorem dX10_darkEnds_42 : decode cX10_darkEnds 42 = .ok (.istore_n 2, 1) := by decide +kernel
theorem dX10_darkEnds_43 : decode cX10_darkEnds 43 = .ok (.goto (-35), 3) := by decide +kernel
theorem dX10_darkEnds_46 : decode cX10_darkEnds 46 = .ok (.aload_n 0, 1) := by decide +kernel
theorem dX10_darkEnds_47 : decode cX10_darkEnds 47 = .ok (.iconst 2, 1) := by decide +kernel
theorem dX10_darkEnds_48 : decode cX10_darkEnds 48 = .ok (.iconst 0, 1) := by decide +kernel
theorem dX10_darkEnds_49 : decode cX10_darkEnds 49 = .ok (.invokevirtual 157, 3) := by decide +kernel
theorem dX10_darkEnds_52 : decode cX10_darkEnds 52 = .ok (.iload_n 2, 1) := by decide +kernel
theorem dX10_darkEnds_53 : decode cX10_darkEnds 53 = .ok (.ireturn, 1) := by decide +kernel
theorem dX10_darkFor_0 : decode cX10_darkFor 0 = .ok (.aload_n 0, 1) := by decide +kernel
theorem dX10_darkFor_1 : decode cX10_darkFor 1 = .ok (.iload_n 1, 1) := by decide +kernel
theorem dX10_darkFor_2 : decode cX10_darkFor 2 = .ok (.invokevirtual 144, 3) := by decide +kernel
theorem dX10_darkFor_5 : decode cX10_darkFor 5 = .ok (.ifCond .eq 11, 3) := by decide +kernel
theorem dX10_darkFor_8 : decode cX10_darkFor 8 = .ok (.aload_n 0, 1) := by decide +kernel
theorem dX10_darkFor_9 : decode cX10_darkFor 9 = .ok (.iload_n 1, 1) := by decide +kernel
theorem dX10_darkFor_10 : decode cX10_darkFor 10 = .ok (.invokevirtual 247, 3) := by decide +kernel
theorem dX10_darkFor_13 : decode cX10_darkFor 13 = .ok (.goto 8, 3) := by decide +kernel
theorem dX10_darkFor_16 : decode cX10_darkFor 16 = .ok (.aload_n 0, 1) := by decide +kernel
theorem dX10_darkFor_17 : decode cX10_darkFor 17 = .ok (.iconst (-1), 1) := by decide +kernel
theorem dX10_darkFor_18 : decode cX10_darkFor 18 = .ok (.invokevirtual 99, 3) := by decide +kernel
theorem dX10_darkFor_21 : decode cX10_darkFor 21 = .ok (.ireturn, 1) := by decide +kernel
theorem dX10_litBy_0 : decode cX10_litBy 0 = .ok (.aload_n 0, 1) := by decide +kernel
theorem dX10_litBy_1 : decode cX10_litBy 1 = .ok (.iload_n 1, 1) := by decide +kernel
theorem dX10_litBy_2 : decode cX10_litBy 2 = .ok (.invokevirtual 144, 3) := by decide +kernel
theorem dX10_litBy_5 : decode cX10_litBy 5 = .ok (.ifCond .ne 7, 3) := by decide +kernel
theorem dX10_litBy_8 : decode cX10_litBy 8 = .ok (.iconst (-1), 1) := by decide +kernel
theorem dX10_litBy_9 : decode cX10_litBy 9 = .ok (.goto 10, 3) := by decide +kernel
theorem dX10_litBy_12 : decode cX10_litBy 12 = .ok (.iload_n 2, 1) := by decide +kernel
theorem dX10_litBy_13 : decode cX10_litBy 13 = .ok (.iconst 0, 1) := by decide +kernel
theorem dX10_litBy_14 : decode cX10_litBy 14 = .ok (.bipush 24, 2) := by decide +kernel
theorem dX10_litBy_16 : decode cX10_litBy 16 = .ok (.invokestatic 92, 3) := by decide +kernel
theorem dX10_litBy_19 : decode cX10_litBy 19 = .ok (.istore_n 3, 1) := by decide +kernel
theorem dX10_litBy_20 : decode cX10_litBy 20 = .ok (.iload_n 3, 1) := by decide +kernel
theorem dX10_litBy_21 : decode cX10_litBy 21 = .ok (.ifCond .eq 9, 3) := by decide +kernel
theorem dX10_litBy_24 : decode cX10_litBy 24 = .ok (.aload_n 0, 1) := by decide +kernel
theorem dX10_litBy_25 : decode cX10_litBy 25 = .ok (.iload_n 3, 1) := by decide +kernel
theorem dX10_litBy_26 : decode cX10_litBy 26 = .ok (.invokevirtual 99, 3) := by decide +kernel
theorem dX10_litBy_29 : decode cX10_litBy 29 = .ok (.ireturn, 1) := by decide +kernel
theorem dX10_litBy_30 : decode cX10_litBy 30 = .ok (.aload_n 0, 1) := by decide +kernel
theorem dX10_litBy_31 : decode cX10_litBy 31 = .ok (.iconst 1, 1) := by decide +kernel
theorem dX10_litBy_32 : decode cX10_litBy 32 = .ok (.iconst 1, 1) := by decide +kernel
theorem dX10_litBy_33 : decode cX10_litBy 33 = .ok (.invokevirtual 157, 3) := by decide +kernel
theorem dX10_litBy_36 : decode cX10_litBy 36 = .ok (.iconst 0, 1) := by decide +kernel
theorem dX10_litBy_37 : decode cX10_litBy 37 = .ok (.istore 4, 2) := by decide +kernel
theorem dX10_litBy_39 : decode cX10_litBy 39 = .ok (.iload 4, 2) := by decide +kernel
theorem dX10_litBy_41 : decode cX10_litBy 41 = .ok (.bipush 8, 2) := by decide +kernel
theorem dX10_litBy_43 : decode cX10_litBy 43 = .ok (.if_icmp .ge 18, 3) := by decide +kernel
theorem dX10_litBy_46 : decode cX10_litBy 46 = .ok (.aload_n 0, 1) := by decide +kernel
theorem dX10_litBy_47 : decode cX10_litBy 47 = .ok (.getfield 43, 3) := by decide +kernel
theorem dX10_litBy_50 : decode cX10_litBy 50 = .ok (.iload 4, 2) := by decide +kernel
theorem dX10_litBy_52 : decode cX10_litBy 52 = .ok (.bipush (-9), 2) := by decide +kernel
theorem dX10_litBy_54 : decode cX10_litBy 54 = .ok (.iastore, 1) := by decide +kernel
theorem dX10_litBy_55 : decode cX10_litBy 55 = .ok (.iinc 4 1, 3) := by decide +kernel
theorem dX10_litBy_58 : decode cX10_litBy 58 = .ok (.goto (-19), 3) := by decide +kernel
theorem dX10_litBy_61 : decode cX10_litBy 61 = .ok (.aload_n 0, 1) := by decide +kernel
theorem dX10_litBy_62 : decode cX10_litBy 62 = .ok (.iload_n 2, 1) := by decide +kernel
theorem dX10_litBy_63 : decode cX10_litBy 63 = .ok (.invokevirtual 234, 3) := by decide +kernel
theorem dX10_litBy_66 : decode cX10_litBy 66 = .ok (.aload_n 0, 1) := by decide +kernel
theorem dX10_litBy_67 : decode cX10_litBy 67 = .ok (.iconst 1, 1) := by decide +kernel
theorem dX10_litBy_68 : decode cX10_litBy 68 = .ok (.iconst 0, 1) := by decide +kernel
theorem dX10_litBy_69 : decode cX10_litBy 69 = .ok (.invokevirtual 157, 3) := by decide +kernel
theorem dX10_litBy_72 : decode cX10_litBy 72 = .ok (.aload_n 0, 1) := by decide +kernel
theorem dX10_litBy_73 : decode cX10_litBy 73 = .ok (.getfield 43, 3) := by decide +kernel
theorem dX10_litBy_76 : decode cX10_litBy 76 = .ok (.iload_n 1, 1) := by decide +kernel
theorem dX10_litBy_77 : decode cX10_litBy 77 = .ok (.iaload, 1) := by decide +kernel
theorem dX10_litBy_78 : decode cX10_litBy 78 = .ok (.ireturn, 1) := by decide +kernel
theorem dX10_stopBy_0 : decode cX10_stopBy 0 = .ok (.aload_n 0, 1) := by decide +kernel
theorem dX10_stopBy_1 : decode cX10_stopBy 1 = .ok (.iconst 2, 1) := by decide +kernel
theorem dX10_stopBy_2 : decode cX10_stopBy 2 = .ok (.iconst 1, 1) := by decide +kernel
theorem dX10_stopBy_3 : decode cX10_stopBy 3 = .ok (.invokevirtual 157, 3) := by decide +kernel
theorem dX10_stopBy_6 : decode cX10_stopBy 6 = .ok (.aload_n 0, 1) := by decide +kernel
theorem dX10_stopBy_7 : decode cX10_stopBy 7 = .ok (.getfield 127, 3) := by decide +kernel
theorem dX10_stopBy_10 : decode cX10_stopBy 10 = .ok (.aload_n 0, 1) := by decide +kernel
theorem dX10_stopBy_11 : decode cX10_stopBy 11 = .ok (.invokevirtual 130, 3) := by decide +kernel
theorem dX10_stopBy_14 : decode cX10_stopBy 14 = .ok (.if_icmp .ge 37, 3) := by decide +kernel
theorem dX10_stopBy_17 : decode cX10_stopBy 17 = .ok (.iconst 0, 1) := by decide +kernel
theorem dX10_stopBy_18 : decode cX10_stopBy 18 = .ok (.istore_n 3, 1) := by decide +kernel
theorem dX10_stopBy_19 : decode cX10_stopBy 19 = .ok (.iload_n 3, 1) := by decide +kernel
theorem dX10_stopBy_20 : decode cX10_stopBy 20 = .ok (.iload_n 2, 1) := by decide +kernel
theorem dX10_stopBy_21 : decode cX10_stopBy 21 = .ok (.if_icmp .ge 22, 3) := by decide +kernel
theorem dX10_stopBy_24 : decode cX10_stopBy 24 = .ok (.aload_n 0, 1) := by decide +kernel
theorem dX10_stopBy_25 : decode cX10_stopBy 25 = .ok (.getfield 127, 3) := by decide +kernel
theorem dX10_stopBy_28 : decode cX10_stopBy 28 = .ok (.iload_n 1, 1) := by decide +kernel
theorem dX10_stopBy_29 : decode cX10_stopBy 29 = .ok (.if_icmp .ne 14, 3) := by decide +kernel
theorem dX10_stopBy_32 : decode cX10_stopBy 32 = .ok (.aload_n 0, 1) := by decide +kernel
theorem dX10_stopBy_33 : decode cX10_stopBy 33 = .ok (.iconst 1, 1) := by decide +kernel
theorem dX10_stopBy_34 : decode cX10_stopBy 34 = .ok (.invokevirtual 136, 3) := by decide +kernel
theorem dX10_stopBy_37 : decode cX10_stopBy 37 = .ok (.iinc 3 1, 3) := by decide +kernel
theorem dX10_stopBy_40 : decode cX10_stopBy 40 = .ok (.goto (-21), 3) := by decide +kernel
theorem dX10_stopBy_43 : decode cX10_stopBy 43 = .ok (.aload_n 0, 1) := by decide +kernel
theorem dX10_stopBy_44 : decode cX10_stopBy 44 = .ok (.iconst 0, 1) := by decide +kernel
theorem dX10_stopBy_45 : decode cX10_stopBy 45 = .ok (.invokevirtual 136, 3) := by decide +kernel
theorem dX10_stopBy_48 : decode cX10_stopBy 48 = .ok (.goto (-42), 3) := by decide +kernel
theorem dX10_stopBy_51 : decode cX10_stopBy 51 = .ok (.aload_n 0, 1) := by decide +kernel
theorem dX10_stopBy_52 : decode cX10_stopBy 52 = .ok (.getfield 124, 3) := by decide +kernel
theorem dX10_stopBy_55 : decode cX10_stopBy 55 = .ok (.invokestatic 231, 3) := by decide +kernel
theorem dX10_stopBy_58 : decode cX10_stopBy 58 = .ok (.istore_n 3, 1) := by decide +kernel
theorem dX10_stopBy_59 : decode cX10_stopBy 59 = .ok (.aload_n 0, 1) := by decide +kernel
theorem dX10_stopBy_60 : decode cX10_stopBy 60 = .ok (.iconst 2, 1) := by decide +kernel
theorem dX10_stopBy_61 : decode cX10_stopBy 61 = .ok (.iconst 0, 1) := by decide +kernel
theorem dX10_stopBy_62 : decode cX10_stopBy 62 = .ok (.invokevirtual 157, 3) := by decide +kernel
theorem dX10_stopBy_65 : decode cX10_stopBy 65 = .ok (.iload_n 3, 1) := by decide +kernel
theorem dX10_stopBy_66 : decode cX10_stopBy 66 = .ok (.ireturn, 1) := by decide +kernel
theorem dX10_stop_0 : decode cX10_stop 0 = .ok (.aload_n 0, 1) := by decide +kernel
theorem dX10_stop_1 : decode cX10_stop 1 = .ok (.invokevirtual 241, 3) := by decide +kernel
theorem dX10_stop_4 : decode cX10_stop 4 = .ok (.invokestatic 231, 3) := by decide +kernel
theorem dX10_stop_7 : decode cX10_stop 7 = .ok (.istore_n 1, 1) := by decide +kernel
theorem dX10_stop_8 : decode cX10_stop 8 = .ok (.bipush (-9), 2) := by decide +kernel
theorem dX10_stop_10 : decode cX10_stop 10 = .ok (.istore_n 2, 1) := by decide +kernel
theorem dX10_stop_11 : decode cX10_stop 11 = .ok (.iconst 1, 1) := by decide +kernel
theorem dX10_stop_12 : decode cX10_stop 12 = .ok (.istore_n 3, 1) := by decide +kernel
theorem dX10_stop_13 : decode cX10_stop 13 = .ok (.iload_n 3, 1) := by decide +kernel
theorem dX10_stop_14 : decode cX10_stop 14 = .ok (.bipush 6, 2) := by decide +kernel
theorem dX10_stop_16 : decode cX10_stop 16 = .ok (.if_icmp .ge 59, 3) := by decide +kernel
theorem dX10_stop_19 : decode cX10_stop 19 = .ok (.aload_n 0, 1) := by decide +kernel
theorem dX10_stop_20 : decode cX10_stop 20 = .ok (.getfield 127, 3) := by decide +kernel
theorem dX10_stop_23 : decode cX10_stop 23 = .ok (.istore 4, 2) := by decide +kernel
theorem dX10_stop_25 : decode cX10_stop 25 = .ok (.iload 4, 2) := by decide +kernel
theorem dX10_stop_27 : decode cX10_stop 27 = .ok (.aload_n 0, 1) := by decide +kernel
theorem dX10_stop_28 : decode cX10_stop 28 = .ok (.invokevirtual 130, 3) := by decide +kernel
theorem dX10_stop_31 : decode cX10_stop 31 = .ok (.if_icmp .ge 38, 3) := by decide +kernel
theorem dX10_stop_34 : decode cX10_stop 34 = .ok (.aload_n 0, 1) := by decide +kernel
theorem dX10_stop_35 : decode cX10_stop 35 = .ok (.iload 4, 2) := by decide +kernel
theorem dX10_stop_37 : decode cX10_stop 37 = .ok (.iload_n 3, 1) := by decide +kernel
theorem dX10_stop_38 : decode cX10_stop 38 = .ok (.invokevirtual 250, 3) := by decide +kernel
theorem dX10_stop_41 : decode cX10_stop 41 = .ok (.istore 5, 2) := by decide +kernel
theorem dX10_stop_43 : decode cX10_stop 43 = .ok (.iload 5, 2) := by decide +kernel
theorem dX10_stop_45 : decode cX10_stop 45 = .ok (.iload_n 1, 1) := by decide +kernel
theorem dX10_stop_46 : decode cX10_stop 46 = .ok (.if_icmp .gt 6, 3) := by decide +kernel
theorem dX10_stop_49 : decode cX10_stop 49 = .ok (.goto 14, 3) := by decide +kernel
theorem dX10_stop_52 : decode cX10_stop 52 = .ok (.iload 5, 2) := by decide +kernel
theorem dX10_stop_54 : decode cX10_stop 54 = .ok (.istore_n 1, 1) := by decide +kernel
theorem dX10_stop_55 : decode cX10_stop 55 = .ok (.bipush 10, 2) := by decide +kernel
theorem dX10_stop_57 : decode cX10_stop 57 = .ok (.iload 4, 2) := by decide +kernel
theorem dX10_stop_59 : decode cX10_stop 59 = .ok (.imul, 1) := by decide +kernel
theorem dX10_stop_60 : decode cX10_stop 60 = .ok (.iload_n 3, 1) := by decide +kernel
theorem dX10_stop_61 : decode cX10_stop 61 = .ok (.iadd, 1) := by decide +kernel
theorem dX10_stop_62 : decode cX10_stop 62 = .ok (.istore_n 2, 1) := by decide +kernel
theorem dX10_stop_63 : decode cX10_stop 63 = .ok (.iinc 4 1, 3) := by decide +kernel
theorem dX10_stop_66 : decode cX10_stop 66 = .ok (.goto (-41), 3) := by decide +kernel
theorem dX10_stop_69 : decode cX10_stop 69 = .ok (.iinc 3 1, 3) := by decide +kernel
theorem dX10_stop_72 : decode cX10_stop 72 = .ok (.goto (-59), 3) := by decide +kernel
theorem dX10_stop_75 : decode cX10_stop 75 = .ok (.iload_n 2, 1) := by decide +kernel
theorem dX10_stop_76 : decode cX10_stop 76 = .ok (.ireturn, 1) := by decide +kernel
theorem dX10_lower_0 : decode cX10_lower 0 = .ok (.aload_n 0, 1) := by decide +kernel
theorem dX10_lower_1 : decode cX10_lower 1 = .ok (.aload_n 0, 1) := by decide +kernel
theorem dX10_lower_2 : decode cX10_lower 2 = .ok (.invokevirtual 241, 3) := by decide +kernel
theorem dX10_lower_5 : decode cX10_lower 5 = .ok (.invokevirtual 244, 3) := by decide +kernel
theorem dX10_lower_8 : decode cX10_lower 8 = .ok (.istore_n 1, 1) := by decide +kernel
theorem dX10_lower_9 : decode cX10_lower 9 = .ok (.bipush (-9), 2) := by decide +kernel
theorem dX10_lower_11 : decode cX10_lower 11 = .ok (.istore_n 2, 1) := by decide +kernel
theorem dX10_lower_12 : decode cX10_lower 12 = .ok (.iconst 0, 1) := by decide +kernel
theorem dX10_lower_13 : decode cX10_lower 13 = .ok (.istore_n 3, 1) := by decide +kernel
theorem dX10_lower_14 : decode cX10_lower 14 = .ok (.iload_n 3, 1) := by decide +kernel
theorem dX10_lower_15 : decode cX10_lower 15 = .ok (.aload_n 0, 1) := by decide +kernel
theorem dX10_lower_16 : decode cX10_lower 16 = .ok (.getfield 88, 3) := by decide +kernel
theorem dX10_lower_19 : decode cX10_lower 19 = .ok (.if_icmp .ge 52, 3) := by decide +kernel
theorem dX10_lower_22 : decode cX10_lower 22 = .ok (.aload_n 0, 1) := by decide +kernel
theorem dX10_lower_23 : decode cX10_lower 23 = .ok (.iconst 1, 1) := by decide +kernel
theorem dX10_lower_24 : decode cX10_lower 24 = .ok (.iconst 1, 1) := by decide +kernel
theorem dX10_lower_25 : decode cX10_lower 25 = .ok (.invokevirtual 157, 3) := by decide +kernel
theorem dX10_lower_28 : decode cX10_lower 28 = .ok (.aload_n 0, 1) := by decide +kernel
theorem dX10_lower_29 : decode cX10_lower 29 = .ok (.getfield 16, 3) := by decide +kernel
theorem dX10_lower_32 : decode cX10_lower 32 = .ok (.iload_n 3, 1) := by decide +kernel
theorem dX10_lower_33 : decode cX10_lower 33 = .ok (.iconst 2, 1) := by decide +kernel
theorem dX10_lower_34 : decode cX10_lower 34 = .ok (.iastore, 1) := by decide +kernel
theorem dX10_lower_35 : decode cX10_lower 35 = .ok (.aload_n 0, 1) := by decide +kernel
theorem dX10_lower_36 : decode cX10_lower 36 = .ok (.aload_n 0, 1) := by decide +kernel
theorem dX10_lower_37 : decode cX10_lower 37 = .ok (.invokevirtual 241, 3) := by decide +kernel
theorem dX10_lower_40 : decode cX10_lower 40 = .ok (.invokevirtual 244, 3) := by decide +kernel
theorem dX10_lower_43 : decode cX10_lower 43 = .ok (.istore 4, 2) := by decide +kernel
theorem dX10_lower_45 : decode cX10_lower 45 = .ok (.aload_n 0, 1) := by decide +kernel
theorem dX10_lower_46 : decode cX10_lower 46 = .ok (.iconst 1, 1) := by decide +kernel
theorem dX10_lower_47 : decode cX10_lower 47 = .ok (.iconst 0, 1) := by decide +kernel
theorem dX10_lower_48 : decode cX10_lower 48 = .ok (.invokevirtual 157, 3) := by decide +kernel
theorem dX10_lower_51 : decode cX10_lower 51 = .ok (.iload 4, 2) := by decide +kernel
theorem dX10_lower_53 : decode cX10_lower 53 = .ok (.iload_n 1, 1) := by decide +kernel
theorem dX10_lower_54 : decode cX10_lower 54 = .ok (.if_icmp .gt 6, 3) := by decide +kernel
theorem dX10_lower_57 : decode cX10_lower 57 = .ok (.goto 8, 3) := by decide +kernel
theorem dX10_lower_60 : decode cX10_lower 60 = .ok (.iload 4, 2) := by decide +kernel
theorem dX10_lower_62 : decode cX10_lower 62 = .ok (.istore_n 1, 1) := by decide +kernel
theorem dX10_lower_63 : decode cX10_lower 63 = .ok (.iload_n 3, 1) := by decide +kernel
theorem dX10_lower_64 : decode cX10_lower 64 = .ok (.istore_n 2, 1) := by decide +kernel
theorem dX10_lower_65 : decode cX10_lower 65 = .ok (.iinc 3 1, 3) := by decide +kernel
theorem dX10_lower_68 : decode cX10_lower 68 = .ok (.goto (-54), 3) := by decide +kernel
theorem dX10_lower_71 : decode cX10_lower 71 = .ok (.iload_n 2, 1) := by decide +kernel
theorem dX10_lower_72 : decode cX10_lower 72 = .ok (.ireturn, 1) := by decide +kernel
theorem dX10_exchanges_0 : decode cX10_exchanges 0 = .ok (.aload_n 0, 1) := by decide +kernel
theorem dX10_exchanges_1 : decode cX10_exchanges 1 = .ok (.getfield 16, 3) := by decide +kernel
theorem dX10_exchanges_4 : decode cX10_exchanges 4 = .ok (.iload_n 1, 1) := by decide +kernel
theorem dX10_exchanges_5 : decode cX10_exchanges 5 = .ok (.iaload, 1) := by decide +kernel
theorem dX10_exchanges_6 : decode cX10_exchanges 6 = .ok (.istore_n 3, 1) := by decide +kernel
theorem dX10_exchanges_7 : decode cX10_exchanges 7 = .ok (.aload_n 0, 1) := by decide +kernel
theorem dX10_exchanges_8 : decode cX10_exchanges 8 = .ok (.getfield 19, 3) := by decide +kernel
theorem dX10_exchanges_11 : decode cX10_exchanges 11 = .ok (.iload_n 1, 1) := by decide +kernel
theorem dX10_exchanges_12 : decode cX10_exchanges 12 = .ok (.iaload, 1) := by decide +kernel
theorem dX10_exchanges_13 : decode cX10_exchanges 13 = .ok (.istore 4, 2) := by decide +kernel
theorem dX10_exchanges_15 : decode cX10_exchanges 15 = .ok (.aload_n 0, 1) := by decide +kernel
theorem dX10_exchanges_16 : decode cX10_exchanges 16 = .ok (.getfield 124, 3) := by decide +kernel
theorem dX10_exchanges_19 : decode cX10_exchanges 19 = .ok (.iload_n 1, 1) := by decide +kernel
theorem dX10_exchanges_20 : decode cX10_exchanges 20 = .ok (.ishr, 1) := by decide +kernel
theorem dX10_exchanges_21 : decode cX10_exchanges 21 = .ok (.aload_n 0, 1) := by decide +kernel
theorem dX10_exchanges_22 : decode cX10_exchanges 22 = .ok (.getfield 124, 3) := by decide +kernel
theorem dX10_exchanges_25 : decode cX10_exchanges 25 = .ok (.iload_n 2, 1) := by decide +kernel
theorem dX10_exchanges_26 : decode cX10_exchanges 26 = .ok (.ishr, 1) := by decide +kernel
theorem dX10_exchanges_27 : decode cX10_exchanges 27 = .ok (.ixor, 1) := by decide +kernel
theorem dX10_exchanges_28 : decode cX10_exchanges 28 = .ok (.iconst 1, 1) := by decide +kernel
theorem dX10_exchanges_29 : decode cX10_exchanges 29 = .ok (.iand, 1) := by decide +kernel
theorem dX10_exchanges_30 : decode cX10_exchanges 30 = .ok (.istore 5, 2) := by decide +kernel
theorem dX10_exchanges_32 : decode cX10_exchanges 32 = .ok (.aload_n 0, 1) := by decide +kernel
theorem dX10_exchanges_33 : decode cX10_exchanges 33 = .ok (.getfield 16, 3) := by decide +kernel
theorem dX10_exchanges_36 : decode cX10_exchanges 36 = .ok (.iload_n 1, 1) := by decide +kernel
theorem dX10_exchanges_37 : decode cX10_exchanges 37 = .ok (.aload_n 0, 1) := by decide +kernel
theorem dX10_exchanges_38 : decode cX10_exchanges 38 = .ok (.getfield 16, 3) := by decide +kernel
theorem dX10_exchanges_41 : decode cX10_exchanges 41 = .ok (.iload_n 2, 1) := by decide +kernel
theorem dX10_exchanges_42 : decode cX10_exchanges 42 = .ok (.iaload, 1) := by decide +kernel
theorem dX10_exchanges_43 : decode cX10_exchanges 43 = .ok (.iastore, 1) := by decide +kernel
theorem dX10_exchanges_44 : decode cX10_exchanges 44 = .ok (.aload_n 0, 1) := by decide +kernel
theorem dX10_exchanges_45 : decode cX10_exchanges 45 = .ok (.getfield 19, 3) := by decide +kernel
theorem dX10_exchanges_48 : decode cX10_exchanges 48 = .ok (.iload_n 1, 1) := by decide +kernel
theorem dX10_exchanges_49 : decode cX10_exchanges 49 = .ok (.aload_n 0, 1) := by decide +kernel
theorem dX10_exchanges_50 : decode cX10_exchanges 50 = .ok (.getfield 19, 3) := by decide +kernel
theorem dX10_exchanges_53 : decode cX10_exchanges 53 = .ok (.iload_n 2, 1) := by decide +kernel
theorem dX10_exchanges_54 : decode cX10_exchanges 54 = .ok (.iaload, 1) := by decide +kernel
theorem dX10_exchanges_55 : decode cX10_exchanges 55 = .ok (.iastore, 1) := by decide +kernel
theorem dX10_exchanges_56 : decode cX10_exchanges 56 = .ok (.aload_n 0, 1) := by decide +kernel
theorem dX10_exchanges_57 : decode cX10_exchanges 57 = .ok (.getfield 16, 3) := by decide +kernel
theorem dX10_exchanges_60 : decode cX10_exchanges 60 = .ok (.iload_n 2, 1) := by decide +kernel
theorem dX10_exchanges_61 : decode cX10_exchanges 61 = .ok (.iload_n 3, 1) := by decide +kernel
theorem dX10_exchanges_62 : decode cX10_exchanges 62 = .ok (.iastore, 1) := by decide +kernel
theorem dX10_exchanges_63 : decode cX10_exchanges 63 = .ok (.aload_n 0, 1) := by decide +kernel
theorem dX10_exchanges_64 : decode cX10_exchanges 64 = .ok (.getfield 19, 3) := by decide +kernel
theorem dX10_exchanges_67 : decode cX10_exchanges 67 = .ok (.iload_n 2, 1) := by decide +kernel
theorem dX10_exchanges_68 : decode cX10_exchanges 68 = .ok (.iload 4, 2) := by decide +kernel
theorem dX10_exchanges_70 : decode cX10_exchanges 70 = .ok (.iastore, 1) := by decide +kernel
theorem dX10_exchanges_71 : decode cX10_exchanges 71 = .ok (.aload_n 0, 1) := by decide +kernel
theorem dX10_exchanges_72 : decode cX10_exchanges 72 = .ok (.dup, 1) := by decide +kernel
theorem dX10_exchanges_73 : decode cX10_exchanges 73 = .ok (.getfield 124, 3) := by decide +kernel
theorem dX10_exchanges_76 : decode cX10_exchanges 76 = .ok (.iload 5, 2) := by decide +kernel
theorem dX10_exchanges_78 : decode cX10_exchanges 78 = .ok (.iload_n 1, 1) := by decide +kernel
theorem dX10_exchanges_79 : decode cX10_exchanges 79 = .ok (.ishl, 1) := by decide +kernel
theorem dX10_exchanges_80 : decode cX10_exchanges 80 = .ok (.iload 5, 2) := by decide +kernel
theorem dX10_exchanges_82 : decode cX10_exchanges 82 = .ok (.iload_n 2, 1) := by decide +kernel
theorem dX10_exchanges_83 : decode cX10_exchanges 83 = .ok (.ishl, 1) := by decide +kernel
theorem dX10_exchanges_84 : decode cX10_exchanges 84 = .ok (.ior, 1) := by decide +kernel
theorem dX10_exchanges_85 : decode cX10_exchanges 85 = .ok (.ixor, 1) := by decide +kernel
theorem dX10_exchanges_86 : decode cX10_exchanges 86 = .ok (.putfield 124, 3) := by decide +kernel
theorem dX10_exchanges_89 : decode cX10_exchanges 89 = .ok (.return_, 1) := by decide +kernel
theorem dX10_changed_0 : decode cX10_changed 0 = .ok (.aload_n 0, 1) := by decide +kernel
theorem dX10_changed_1 : decode cX10_changed 1 = .ok (.invokevirtual 241, 3) := by decide +kernel
theorem dX10_changed_4 : decode cX10_changed 4 = .ok (.invokestatic 231, 3) := by decide +kernel
theorem dX10_changed_7 : decode cX10_changed 7 = .ok (.istore_n 1, 1) := by decide +kernel
theorem dX10_changed_8 : decode cX10_changed 8 = .ok (.bipush (-9), 2) := by decide +kernel
theorem dX10_changed_10 : decode cX10_changed 10 = .ok (.istore_n 2, 1) := by decide +kernel
theorem dX10_changed_11 : decode cX10_changed 11 = .ok (.iconst 0, 1) := by decide +kernel
theorem dX10_changed_12 : decode cX10_changed 12 = .ok (.istore_n 3, 1) := by decide +kernel
theorem dX10_changed_13 : decode cX10_changed 13 = .ok (.iload_n 3, 1) := by decide +kernel
theorem dX10_changed_14 : decode cX10_changed 14 = .ok (.aload_n 0, 1) := by decide +kernel
theorem dX10_changed_15 : decode cX10_changed 15 = .ok (.getfield 88, 3) := by decide +kernel
theorem dX10_changed_18 : decode cX10_changed 18 = .ok (.if_icmp .ge 77, 3) := by decide +kernel
theorem dX10_changed_21 : decode cX10_changed 21 = .ok (.iload_n 3, 1) := by decide +kernel
theorem dX10_changed_22 : decode cX10_changed 22 = .ok (.iconst 1, 1) := by decide +kernel
theorem dX10_changed_23 : decode cX10_changed 23 = .ok (.iadd, 1) := by decide +kernel
theorem dX10_changed_24 : decode cX10_changed 24 = .ok (.istore 4, 2) := by decide +kernel
theorem dX10_changed_26 : decode cX10_changed 26 = .ok (.iload 4, 2) := by decide +kernel
theorem dX10_changed_28 : decode cX10_changed 28 = .ok (.aload_n 0, 1) := by decide +kernel
theorem dX10_changed_29 : decode cX10_changed 29 = .ok (.getfield 88, 3) := by decide +kernel
theorem dX10_changed_32 : decode cX10_changed 32 = .ok (.if_icmp .ge 57, 3) := by decide +kernel
theorem dX10_changed_35 : decode cX10_changed 35 = .ok (.aload_n 0, 1) := by decide +kernel
theorem dX10_changed_36 : decode cX10_changed 36 = .ok (.iconst 1, 1) := by decide +kernel
theorem dX10_changed_37 : decode cX10_changed 37 = .ok (.iconst 1, 1) := by decide +kernel
theorem dX10_changed_38 : decode cX10_changed 38 = .ok (.invokevirtual 157, 3) := by decide +kernel
theorem dX10_changed_41 : decode cX10_changed 41 = .ok (.aload_n 0, 1) := by decide +kernel
theorem dX10_changed_42 : decode cX10_changed 42 = .ok (.iload_n 3, 1) := by decide +kernel
theorem dX10_changed_43 : decode cX10_changed 43 = .ok (.iload 4, 2) := by decide +kernel
theorem dX10_changed_45 : decode cX10_changed 45 = .ok (.invokevirtual 253, 3) := by decide +kernel
theorem dX10_changed_48 : decode cX10_changed 48 = .ok (.aload_n 0, 1) := by decide +kernel
theorem dX10_changed_49 : decode cX10_changed 49 = .ok (.invokevirtual 241, 3) := by decide +kernel
theorem dX10_changed_52 : decode cX10_changed 52 = .ok (.invokestatic 231, 3) := by decide +kernel
theorem dX10_changed_55 : decode cX10_changed 55 = .ok (.istore 5, 2) := by decide +kernel
theorem dX10_changed_57 : decode cX10_changed 57 = .ok (.aload_n 0, 1) := by decide +kernel
theorem dX10_changed_58 : decode cX10_changed 58 = .ok (.iconst 1, 1) := by decide +kernel
theorem dX10_changed_59 : decode cX10_changed 59 = .ok (.iconst 0, 1) := by decide +kernel
theorem dX10_changed_60 : decode cX10_changed 60 = .ok (.invokevirtual 157, 3) := by decide +kernel
theorem dX10_changed_63 : decode cX10_changed 63 = .ok (.iload 5, 2) := by decide +kernel
theorem dX10_changed_65 : decode cX10_changed 65 = .ok (.iload_n 1, 1) := by decide +kernel
theorem dX10_changed_66 : decode cX10_changed 66 = .ok (.if_icmp .gt 6, 3) := by decide +kernel
theorem dX10_changed_69 : decode cX10_changed 69 = .ok (.goto 14, 3) := by decide +kernel
theorem dX10_changed_72 : decode cX10_changed 72 = .ok (.iload 5, 2) := by decide +kernel
theorem dX10_changed_74 : decode cX10_changed 74 = .ok (.istore_n 1, 1) := by decide +kernel
theorem dX10_changed_75 : decode cX10_changed 75 = .ok (.bipush 10, 2) := by decide +kernel
theorem dX10_changed_77 : decode cX10_changed 77 = .ok (.iload_n 3, 1) := by decide +kernel
theorem dX10_changed_78 : decode cX10_changed 78 = .ok (.imul, 1) := by decide +kernel
theorem dX10_changed_79 : decode cX10_changed 79 = .ok (.iload 4, 2) := by decide +kernel
theorem dX10_changed_81 : decode cX10_changed 81 = .ok (.iadd, 1) := by decide +kernel
theorem dX10_changed_82 : decode cX10_changed 82 = .ok (.istore_n 2, 1) := by decide +kernel
theorem dX10_changed_83 : decode cX10_changed 83 = .ok (.iinc 4 1, 3) := by decide +kernel
theorem dX10_changed_86 : decode cX10_changed 86 = .ok (.goto (-60), 3) := by decide +kernel
theorem dX10_changed_89 : decode cX10_changed 89 = .ok (.iinc 3 1, 3) := by decide +kernel
theorem dX10_changed_92 : decode cX10_changed 92 = .ok (.goto (-79), 3) := by decide +kernel
theorem dX10_changed_95 : decode cX10_changed 95 = .ok (.iload_n 2, 1) := by decide +kernel
theorem dX10_changed_96 : decode cX10_changed 96 = .ok (.ireturn, 1) := by decide +kernel
theorem dX10_tellsOrder_0 : decode cX10_tellsOrder 0 = .ok (.iload_n 1, 1) := by decide +kernel
theorem dX10_tellsOrder_1 : decode cX10_tellsOrder 1 = .ok (.istore_n 2, 1) := by decide +kernel
theorem dX10_tellsOrder_2 : decode cX10_tellsOrder 2 = .ok (.iconst 0, 1) := by decide +kernel
theorem dX10_tellsOrder_3 : decode cX10_tellsOrder 3 = .ok (.istore_n 3, 1) := by decide +kernel
theorem dX10_tellsOrder_4 : decode cX10_tellsOrder 4 = .ok (.aload_n 0, 1) := by decide +kernel
theorem dX10_tellsOrder_5 : decode cX10_tellsOrder 5 = .ok (.getfield 88, 3) := by decide +kernel
theorem dX10_tellsOrder_8 : decode cX10_tellsOrder 8 = .ok (.iconst 1, 1) := by decide +kernel
theorem dX10_tellsOrder_9 : decode cX10_tellsOrder 9 = .ok (.isub, 1) := by decide +kernel
theorem dX10_tellsOrder_10 : decode cX10_tellsOrder 10 = .ok (.istore 4, 2) := by decide +kernel
theorem dX10_tellsOrder_12 : decode cX10_tellsOrder 12 = .ok (.iload 4, 2) := by decide +kernel
theorem dX10_tellsOrder_14 : decode cX10_tellsOrder 14 = .ok (.ifCond .lt 41, 3) := by decide +kernel
theorem dX10_tellsOrder_17 : decode cX10_tellsOrder 17 = .ok (.aload_n 0, 1) := by decide +kernel
theorem dX10_tellsOrder_18 : decode cX10_tellsOrder 18 = .ok (.getfield 58, 3) := by decide +kernel
theorem dX10_tellsOrder_21 : decode cX10_tellsOrder 21 = .ok (.iload 4, 2) := by decide +kernel
theorem dX10_tellsOrder_23 : decode cX10_tellsOrder 23 = .ok (.iload_n 2, 1) := by decide +kernel
theorem dX10_tellsOrder_24 : decode cX10_tellsOrder 24 = .ok (.aload_n 0, 1) := by decide +kernel
theorem dX10_tellsOrder_25 : decode cX10_tellsOrder 25 = .ok (.getfield 88, 3) := by decide +kernel
theorem dX10_tellsOrder_28 : decode cX10_tellsOrder 28 = .ok (.irem, 1) := by decide +kernel
theorem dX10_tellsOrder_29 : decode cX10_tellsOrder 29 = .ok (.iastore, 1) := by decide +kernel
theorem dX10_tellsOrder_30 : decode cX10_tellsOrder 30 = .ok (.iload_n 2, 1) := by decide +kernel
theorem dX10_tellsOrder_31 : decode cX10_tellsOrder 31 = .ok (.aload_n 0, 1) := by decide +kernel
theorem dX10_tellsOrder_32 : decode cX10_tellsOrder 32 = .ok (.getfield 88, 3) := by decide +kernel
theorem dX10_tellsOrder_35 : decode cX10_tellsOrder 35 = .ok (.idiv, 1) := by decide +kernel
theorem dX10_tellsOrder_36 : decode cX10_tellsOrder 36 = .ok (.istore_n 2, 1) := by decide +kernel
theorem dX10_tellsOrder_37 : decode cX10_tellsOrder 37 = .ok (.iload_n 3, 1) := by decide +kernel
theorem dX10_tellsOrder_38 : decode cX10_tellsOrder 38 = .ok (.iconst 1, 1) := by decide +kernel
theorem dX10_tellsOrder_39 : decode cX10_tellsOrder 39 = .ok (.aload_n 0, 1) := by decide +kernel
theorem dX10_tellsOrder_40 : decode cX10_tellsOrder 40 = .ok (.getfield 58, 3) := by decide +kernel
theorem dX10_tellsOrder_43 : decode cX10_tellsOrder 43 = .ok (.iload 4, 2) := by decide +kernel
theorem dX10_tellsOrder_45 : decode cX10_tellsOrder 45 = .ok (.iaload, 1) := by decide +kernel
theorem dX10_tellsOrder_46 : decode cX10_tellsOrder 46 = .ok (.ishl, 1) := by decide +kernel
theorem dX10_tellsOrder_47 : decode cX10_tellsOrder 47 = .ok (.ior, 1) := by decide +kernel
theorem dX10_tellsOrder_48 : decode cX10_tellsOrder 48 = .ok (.istore_n 3, 1) := by decide +kernel
theorem dX10_tellsOrder_49 : decode cX10_tellsOrder 49 = .ok (.iinc 4 (-1), 3) := by decide +kernel
theorem dX10_tellsOrder_52 : decode cX10_tellsOrder 52 = .ok (.goto (-40), 3) := by decide +kernel
theorem dX10_tellsOrder_55 : decode cX10_tellsOrder 55 = .ok (.iload_n 3, 1) := by decide +kernel
theorem dX10_tellsOrder_56 : decode cX10_tellsOrder 56 = .ok (.invokestatic 231, 3) := by decide +kernel
theorem dX10_tellsOrder_59 : decode cX10_tellsOrder 59 = .ok (.aload_n 0, 1) := by decide +kernel
theorem dX10_tellsOrder_60 : decode cX10_tellsOrder 60 = .ok (.getfield 88, 3) := by decide +kernel
theorem dX10_tellsOrder_63 : decode cX10_tellsOrder 63 = .ok (.if_icmp .ne 7, 3) := by decide +kernel
theorem dX10_tellsOrder_66 : decode cX10_tellsOrder 66 = .ok (.iconst 1, 1) := by decide +kernel
theorem dX10_tellsOrder_67 : decode cX10_tellsOrder 67 = .ok (.goto 4, 3) := by decide +kernel
theorem dX10_tellsOrder_70 : decode cX10_tellsOrder 70 = .ok (.iconst 0, 1) := by decide +kernel
theorem dX10_tellsOrder_71 : decode cX10_tellsOrder 71 = .ok (.ireturn, 1) := by decide +kernel
theorem dX10_doorBy_0 : decode cX10_doorBy 0 = .ok (.iconst 0, 1) := by decide +kernel
theorem dX10_doorBy_1 : decode cX10_doorBy 1 = .ok (.istore_n 2, 1) := by decide +kernel
theorem dX10_doorBy_2 : decode cX10_doorBy 2 = .ok (.iload_n 2, 1) := by decide +kernel
theorem dX10_doorBy_3 : decode cX10_doorBy 3 = .ok (.aload_n 0, 1) := by decide +kernel
theorem dX10_doorBy_4 : decode cX10_doorBy 4 = .ok (.getfield 88, 3) := by decide +kernel
theorem dX10_doorBy_7 : decode cX10_doorBy 7 = .ok (.if_icmp .ge 70, 3) := by decide +kernel
theorem dX10_doorBy_10 : decode cX10_doorBy 10 = .ok (.aload_n 0, 1) := by decide +kernel
theorem dX10_doorBy_11 : decode cX10_doorBy 11 = .ok (.getfield 16, 3) := by decide +kernel
theorem dX10_doorBy_14 : decode cX10_doorBy 14 = .ok (.iload_n 2, 1) := by decide +kernel
theorem dX10_doorBy_15 : decode cX10_doorBy 15 = .ok (.aload_n 0, 1) := by decide +kernel
theorem dX10_doorBy_16 : decode cX10_doorBy 16 = .ok (.getfield 64, 3) := by decide +kernel
theorem dX10_doorBy_19 : decode cX10_doorBy 19 = .ok (.aload_n 0, 1) := by decide +kernel
theorem dX10_doorBy_20 : decode cX10_doorBy 20 = .ok (.getfield 58, 3) := by decide +kernel
theorem dX10_doorBy_23 : decode cX10_doorBy 23 = .ok (.iload_n 2, 1) := by decide +kernel
theorem dX10_doorBy_24 : decode cX10_doorBy 24 = .ok (.iaload, 1) := by decide +kernel
theorem dX10_doorBy_25 : decode cX10_doorBy 25 = .ok (.iaload, 1) := by decide +kernel
theorem dX10_doorBy_26 : decode cX10_doorBy 26 = .ok (.iastore, 1) := by decide +kernel
theorem dX10_doorBy_27 : decode cX10_doorBy 27 = .ok (.aload_n 0, 1) := by decide +kernel
theorem dX10_doorBy_28 : decode cX10_doorBy 28 = .ok (.getfield 19, 3) := by decide +kernel
theorem dX10_doorBy_31 : decode cX10_doorBy 31 = .ok (.iload_n 2, 1) := by decide +kernel
theorem dX10_doorBy_32 : decode cX10_doorBy 32 = .ok (.aload_n 0, 1) := by decide +kernel
theorem dX10_doorBy_33 : decode cX10_doorBy 33 = .ok (.getfield 67, 3) := by decide +kernel
theorem dX10_doorBy_36 : decode cX10_doorBy 36 = .ok (.aload_n 0, 1) := by decide +kernel
theorem dX10_doorBy_37 : decode cX10_doorBy 37 = .ok (.getfield 58, 3) := by decide +kernel
theorem dX10_doorBy_40 : decode cX10_doorBy 40 = .ok (.iload_n 2, 1) := by decide +kernel
theorem dX10_doorBy_41 : decode cX10_doorBy 41 = .ok (.iaload, 1) := by decide +kernel
theorem dX10_doorBy_42 : decode cX10_doorBy 42 = .ok (.iaload, 1) := by decide +kernel
theorem dX10_doorBy_43 : decode cX10_doorBy 43 = .ok (.iastore, 1) := by decide +kernel
theorem dX10_doorBy_44 : decode cX10_doorBy 44 = .ok (.aload_n 0, 1) := by decide +kernel
theorem dX10_doorBy_45 : decode cX10_doorBy 45 = .ok (.aload_n 0, 1) := by decide +kernel
theorem dX10_doorBy_46 : decode cX10_doorBy 46 = .ok (.getfield 124, 3) := by decide +kernel
theorem dX10_doorBy_49 : decode cX10_doorBy 49 = .ok (.iconst 1, 1) := by decide +kernel
theorem dX10_doorBy_50 : decode cX10_doorBy 50 = .ok (.iload_n 2, 1) := by decide +kernel
theorem dX10_doorBy_51 : decode cX10_doorBy 51 = .ok (.ishl, 1) := by decide +kernel
theorem dX10_doorBy_52 : decode cX10_doorBy 52 = .ok (.iconst (-1), 1) := by decide +kernel
theorem dX10_doorBy_53 : decode cX10_doorBy 53 = .ok (.ixor, 1) := by decide +kernel
theorem dX10_doorBy_54 : decode cX10_doorBy 54 = .ok (.iand, 1) := by decide +kernel
theorem dX10_doorBy_55 : decode cX10_doorBy 55 = .ok (.iload_n 1, 1) := by decide +kernel
theorem dX10_doorBy_56 : decode cX10_doorBy 56 = .ok (.aload_n 0, 1) := by decide +kernel
theorem dX10_doorBy_57 : decode cX10_doorBy 57 = .ok (.getfield 58, 3) := by decide +kernel
theorem dX10_doorBy_60 : decode cX10_doorBy 60 = .ok (.iload_n 2, 1) := by decide +kernel
theorem dX10_doorBy_61 : decode cX10_doorBy 61 = .ok (.iaload, 1) := by decide +kernel
theorem dX10_doorBy_62 : decode cX10_doorBy 62 = .ok (.ishr, 1) := by decide +kernel
theorem dX10_doorBy_63 : decode cX10_doorBy 63 = .ok (.iconst 1, 1) := by decide +kernel
theorem dX10_doorBy_64 : decode cX10_doorBy 64 = .ok (.iand, 1) := by decide +kernel
theorem dX10_doorBy_65 : decode cX10_doorBy 65 = .ok (.iload_n 2, 1) := by decide +kernel
theorem dX10_doorBy_66 : decode cX10_doorBy 66 = .ok (.ishl, 1) := by decide +kernel
theorem dX10_doorBy_67 : decode cX10_doorBy 67 = .ok (.ior, 1) := by decide +kernel
theorem dX10_doorBy_68 : decode cX10_doorBy 68 = .ok (.putfield 124, 3) := by decide +kernel
theorem dX10_doorBy_71 : decode cX10_doorBy 71 = .ok (.iinc 2 1, 3) := by decide +kernel
theorem dX10_doorBy_74 : decode cX10_doorBy 74 = .ok (.goto (-72), 3) := by decide +kernel
theorem dX10_doorBy_77 : decode cX10_doorBy 77 = .ok (.aload_n 0, 1) := by decide +kernel
theorem dX10_doorBy_78 : decode cX10_doorBy 78 = .ok (.invokevirtual 241, 3) := by decide +kernel
theorem dX10_doorBy_81 : decode cX10_doorBy 81 = .ok (.invokestatic 231, 3) := by decide +kernel
theorem dX10_doorBy_84 : decode cX10_doorBy 84 = .ok (.ireturn, 1) := by decide +kernel
theorem dX10_order_0 : decode cX10_order 0 = .ok (.iload_n 1, 1) := by decide +kernel
theorem dX10_order_1 : decode cX10_order 1 = .ok (.iconst 0, 1) := by decide +kernel
theorem dX10_order_2 : decode cX10_order 2 = .ok (.iconst 1, 1) := by decide +kernel
theorem dX10_order_3 : decode cX10_order 3 = .ok (.invokestatic 110, 3) := by decide +kernel
theorem dX10_order_6 : decode cX10_order 6 = .ok (.ifCond .ne 8, 3) := by decide +kernel
theorem dX10_order_9 : decode cX10_order 9 = .ok (.bipush (-2), 2) := by decide +kernel
theorem dX10_order_11 : decode cX10_order 11 = .ok (.goto 22, 3) := by decide +kernel
theorem dX10_order_14 : decode cX10_order 14 = .ok (.aload_n 0, 1) := by decide +kernel
theorem dX10_order_15 : decode cX10_order 15 = .ok (.getfield 88, 3) := by decide +kernel
theorem dX10_order_18 : decode cX10_order 18 = .ok (.iconst 1, 1) := by decide +kernel
theorem dX10_order_19 : decode cX10_order 19 = .ok (.bipush 6, 2) := by decide +kernel
theorem dX10_order_21 : decode cX10_order 21 = .ok (.invokestatic 110, 3) := by decide +kernel
theorem dX10_order_24 : decode cX10_order 24 = .ok (.ifCond .ne 8, 3) := by decide +kernel
theorem dX10_order_27 : decode cX10_order 27 = .ok (.bipush (-3), 2) := by decide +kernel
theorem dX10_order_29 : decode cX10_order 29 = .ok (.goto 4, 3) := by decide +kernel
theorem dX10_order_32 : decode cX10_order 32 = .ok (.iconst 0, 1) := by decide +kernel
theorem dX10_order_33 : decode cX10_order 33 = .ok (.istore_n 2, 1) := by decide +kernel
theorem dX10_order_34 : decode cX10_order 34 = .ok (.iload_n 2, 1) := by decide +kernel
theorem dX10_order_35 : decode cX10_order 35 = .ok (.ifCond .eq 9, 3) := by decide +kernel
theorem dX10_order_38 : decode cX10_order 38 = .ok (.aload_n 0, 1) := by decide +kernel
theorem dX10_order_39 : decode cX10_order 39 = .ok (.iload_n 2, 1) := by decide +kernel
theorem dX10_order_40 : decode cX10_order 40 = .ok (.invokevirtual 99, 3) := by decide +kernel
theorem dX10_order_43 : decode cX10_order 43 = .ok (.ireturn, 1) := by decide +kernel
theorem dX10_order_44 : decode cX10_order 44 = .ok (.aload_n 0, 1) := by decide +kernel
theorem dX10_order_45 : decode cX10_order 45 = .ok (.iconst 1, 1) := by decide +kernel
theorem dX10_order_46 : decode cX10_order 46 = .ok (.iconst 1, 1) := by decide +kernel
theorem dX10_order_47 : decode cX10_order 47 = .ok (.invokevirtual 157, 3) := by decide +kernel
theorem dX10_order_50 : decode cX10_order 50 = .ok (.aload_n 0, 1) := by decide +kernel
theorem dX10_order_51 : decode cX10_order 51 = .ok (.getfield 124, 3) := by decide +kernel
theorem dX10_order_54 : decode cX10_order 54 = .ok (.istore_n 3, 1) := by decide +kernel
theorem dX10_order_55 : decode cX10_order 55 = .ok (.iconst 1, 1) := by decide +kernel
theorem dX10_order_56 : decode cX10_order 56 = .ok (.istore 4, 2) := by decide +kernel
theorem dX10_order_58 : decode cX10_order 58 = .ok (.bipush (-9), 2) := by decide +kernel
theorem dX10_order_60 : decode cX10_order 60 = .ok (.istore 5, 2) := by decide +kernel
theorem dX10_order_62 : decode cX10_order 62 = .ok (.iconst 0, 1) := by decide +kernel
theorem dX10_order_63 : decode cX10_order 63 = .ok (.istore 6, 2) := by decide +kernel
theorem dX10_order_65 : decode cX10_order 65 = .ok (.iload 6, 2) := by decide +kernel
theorem dX10_order_67 : decode cX10_order 67 = .ok (.aload_n 0, 1) := by decide +kernel
theorem dX10_order_68 : decode cX10_order 68 = .ok (.getfield 88, 3) := by decide +kernel
theorem dX10_order_71 : decode cX10_order 71 = .ok (.if_icmp .ge 46, 3) := by decide +kernel
theorem dX10_order_74 : decode cX10_order 74 = .ok (.aload_n 0, 1) := by decide +kernel
theorem dX10_order_75 : decode cX10_order 75 = .ok (.getfield 64, 3) := by decide +kernel
theorem dX10_order_78 : decode cX10_order 78 = .ok (.iload 6, 2) := by decide +kernel
theorem dX10_order_80 : decode cX10_order 80 = .ok (.aload_n 0, 1) := by decide +kernel
theorem dX10_order_81 : decode cX10_order 81 = .ok (.getfield 16, 3) := by decide +kernel
theorem dX10_order_84 : decode cX10_order 84 = .ok (.iload 6, 2) := by decide +kernel
theorem dX10_order_86 : decode cX10_order 86 = .ok (.iaload, 1) := by decide +kernel
theorem dX10_order_87 : decode cX10_order 87 = .ok (.iastore, 1) := by decide +kernel
theorem dX10_order_88 : decode cX10_order 88 = .ok (.aload_n 0, 1) := by decide +kernel
theorem dX10_order_89 : decode cX10_order 89 = .ok (.getfield 67, 3) := by decide +kernel
theorem dX10_order_92 : decode cX10_order 92 = .ok (.iload 6, 2) := by decide +kernel
theorem dX10_order_94 : decode cX10_order 94 = .ok (.aload_n 0, 1) := by decide +kernel
theorem dX10_order_95 : decode cX10_order 95 = .ok (.getfield 19, 3) := by decide +kernel
theorem dX10_order_98 : decode cX10_order 98 = .ok (.iload 6, 2) := by decide +kernel
theorem dX10_order_100 : decode cX10_order 100 = .ok (.iaload, 1) := by decide +kernel
theorem dX10_order_101 : decode cX10_order 101 = .ok (.iastore, 1) := by decide +kernel
theorem dX10_order_102 : decode cX10_order 102 = .ok (.iload 4, 2) := by decide +kernel
theorem dX10_order_104 : decode cX10_order 104 = .ok (.aload_n 0, 1) := by decide +kernel
theorem dX10_order_105 : decode cX10_order 105 = .ok (.getfield 88, 3) := by decide +kernel
theorem dX10_order_108 : decode cX10_order 108 = .ok (.imul, 1) := by decide +kernel
theorem dX10_order_109 : decode cX10_order 109 = .ok (.istore 4, 2) := by decide +kernel
theorem dX10_order_111 : decode cX10_order 111 = .ok (.iinc 6 1, 3) := by decide +kernel
theorem dX10_order_114 : decode cX10_order 114 = .ok (.goto (-49), 3) := by decide +kernel
theorem dX10_order_117 : decode cX10_order 117 = .ok (.iconst 0, 1) := by decide +kernel
theorem dX10_order_118 : decode cX10_order 118 = .ok (.istore 6, 2) := by decide +kernel
theorem dX10_order_120 : decode cX10_order 120 = .ok (.iload 6, 2) := by decide +kernel
theorem dX10_order_122 : decode cX10_order 122 = .ok (.iload 4, 2) := by decide +kernel
theorem dX10_order_124 : decode cX10_order 124 = .ok (.if_icmp .ge 74, 3) := by decide +kernel
theorem dX10_order_127 : decode cX10_order 127 = .ok (.aload_n 0, 1) := by decide +kernel
theorem dX10_order_128 : decode cX10_order 128 = .ok (.iload 6, 2) := by decide +kernel
theorem dX10_order_130 : decode cX10_order 130 = .ok (.invokevirtual 256, 3) := by decide +kernel
theorem dX10_order_133 : decode cX10_order 133 = .ok (.ifCond .ne 6, 3) := by decide +kernel
theorem dX10_order_136 : decode cX10_order 136 = .ok (.goto 56, 3) := by decide +kernel
theorem dX10_order_139 : decode cX10_order 139 = .ok (.aload_n 0, 1) := by decide +kernel
theorem dX10_order_140 : decode cX10_order 140 = .ok (.iload_n 3, 1) := by decide +kernel
theorem dX10_order_141 : decode cX10_order 141 = .ok (.invokevirtual 259, 3) := by decide +kernel
theorem dX10_order_144 : decode cX10_order 144 = .ok (.istore 7, 2) := by decide +kernel
theorem dX10_order_146 : decode cX10_order 146 = .ok (.iload 7, 2) := by decide +kernel
theorem dX10_order_148 : decode cX10_order 148 = .ok (.iload 5, 2) := by decide +kernel
theorem dX10_order_150 : decode cX10_order 150 = .ok (.if_icmp .gt 6, 3) := by decide +kernel
theorem dX10_order_153 : decode cX10_order 153 = .ok (.goto 39, 3) := by decide +kernel
theorem dX10_order_156 : decode cX10_order 156 = .ok (.iload 7, 2) := by decide +kernel
theorem dX10_order_158 : decode cX10_order 158 = .ok (.istore 5, 2) := by decide +kernel
theorem dX10_order_160 : decode cX10_order 160 = .ok (.iconst 0, 1) := by decide +kernel
theorem dX10_order_161 : decode cX10_order 161 = .ok (.istore 8, 2) := by decide +kernel
theorem dX10_order_163 : decode cX10_order 163 = .ok (.iload 8, 2) := by decide +kernel
theorem dX10_order_165 : decode cX10_order 165 = .ok (.aload_n 0, 1) := by decide +kernel
theorem dX10_order_166 : decode cX10_order 166 = .ok (.getfield 88, 3) := by decide +kernel
theorem dX10_order_169 : decode cX10_order 169 = .ok (.if_icmp .ge 23, 3) := by decide +kernel
theorem dX10_order_172 : decode cX10_order 172 = .ok (.aload_n 0, 1) := by decide +kernel
theorem dX10_order_173 : decode cX10_order 173 = .ok (.getfield 61, 3) := by decide +kernel
theorem dX10_order_176 : decode cX10_order 176 = .ok (.iload 8, 2) := by decide +kernel
theorem dX10_order_178 : decode cX10_order 178 = .ok (.aload_n 0, 1) := by decide +kernel
theorem dX10_order_179 : decode cX10_order 179 = .ok (.getfield 58, 3) := by decide +kernel
theorem dX10_order_182 : decode cX10_order 182 = .ok (.iload 8, 2) := by decide +kernel
theorem dX10_order_184 : decode cX10_order 184 = .ok (.iaload, 1) := by decide +kernel
theorem dX10_order_185 : decode cX10_order 185 = .ok (.iastore, 1) := by decide +kernel
theorem dX10_order_186 : decode cX10_order 186 = .ok (.iinc 8 1, 3) := by decide +kernel
theorem dX10_order_189 : decode cX10_order 189 = .ok (.goto (-26), 3) := by decide +kernel
theorem dX10_order_192 : decode cX10_order 192 = .ok (.iinc 6 1, 3) := by decide +kernel
theorem dX10_order_195 : decode cX10_order 195 = .ok (.goto (-75), 3) := by decide +kernel
theorem dX10_order_198 : decode cX10_order 198 = .ok (.aload_n 0, 1) := by decide +kernel
theorem dX10_order_199 : decode cX10_order 199 = .ok (.iconst 1, 1) := by decide +kernel
theorem dX10_order_200 : decode cX10_order 200 = .ok (.iconst 0, 1) := by decide +kernel
theorem dX10_order_201 : decode cX10_order 201 = .ok (.invokevirtual 157, 3) := by decide +kernel
theorem dX10_order_204 : decode cX10_order 204 = .ok (.iconst 0, 1) := by decide +kernel
theorem dX10_order_205 : decode cX10_order 205 = .ok (.istore 6, 2) := by decide +kernel
theorem dX10_order_207 : decode cX10_order 207 = .ok (.aload_n 0, 1) := by decide +kernel
theorem dX10_order_208 : decode cX10_order 208 = .ok (.getfield 88, 3) := by decide +kernel
theorem dX10_order_211 : decode cX10_order 211 = .ok (.iconst 1, 1) := by decide +kernel
theorem dX10_order_212 : decode cX10_order 212 = .ok (.isub, 1) := by decide +kernel
theorem dX10_order_213 : decode cX10_order 213 = .ok (.istore 7, 2) := by decide +kernel
theorem dX10_order_215 : decode cX10_order 215 = .ok (.iload 7, 2) := by decide +kernel
theorem dX10_order_217 : decode cX10_order 217 = .ok (.ifCond .lt 24, 3) := by decide +kernel
theorem dX10_order_220 : decode cX10_order 220 = .ok (.bipush 10, 2) := by decide +kernel
theorem dX10_order_222 : decode cX10_order 222 = .ok (.iload 6, 2) := by decide +kernel
theorem dX10_order_224 : decode cX10_order 224 = .ok (.imul, 1) := by decide +kernel
theorem dX10_order_225 : decode cX10_order 225 = .ok (.aload_n 0, 1) := by decide +kernel
theorem dX10_order_226 : decode cX10_order 226 = .ok (.getfield 61, 3) := by decide +kernel
theorem dX10_order_229 : decode cX10_order 229 = .ok (.iload 7, 2) := by decide +kernel
theorem dX10_order_231 : decode cX10_order 231 = .ok (.iaload, 1) := by decide +kernel
theorem dX10_order_232 : decode cX10_order 232 = .ok (.iadd, 1) := by decide +kernel
theorem dX10_order_233 : decode cX10_order 233 = .ok (.istore 6, 2) := by decide +kernel
theorem dX10_order_235 : decode cX10_order 235 = .ok (.iinc 7 (-1), 3) := by decide +kernel
theorem dX10_order_238 : decode cX10_order 238 = .ok (.goto (-23), 3) := by decide +kernel
theorem dX10_order_241 : decode cX10_order 241 = .ok (.iload_n 1, 1) := by decide +kernel
theorem dX10_order_242 : decode cX10_order 242 = .ok (.ifCond .ne 8, 3) := by decide +kernel
theorem dX10_order_245 : decode cX10_order 245 = .ok (.iload 6, 2) := by decide +kernel
theorem dX10_order_247 : decode cX10_order 247 = .ok (.goto 5, 3) := by decide +kernel
theorem dX10_order_250 : decode cX10_order 250 = .ok (.iload 5, 2) := by decide +kernel
theorem dX10_order_252 : decode cX10_order 252 = .ok (.ireturn, 1) := by decide +kernel
theorem dX10_withLanterns_0 : decode cX10_withLanterns 0 = .ok (.aload_n 0, 1) := by decide +kernel
theorem dX10_withLanterns_1 : decode cX10_withLanterns 1 = .ok (.iconst 1, 1) := by decide +kernel
theorem dX10_withLanterns_2 : decode cX10_withLanterns 2 = .ok (.iconst 1, 1) := by decide +kernel
theorem dX10_withLanterns_3 : decode cX10_withLanterns 3 = .ok (.invokevirtual 157, 3) := by decide +kernel
theorem dX10_withLanterns_6 : decode cX10_withLanterns 6 = .ok (.iconst 0, 1) := by decide +kernel
theorem dX10_withLanterns_7 : decode cX10_withLanterns 7 = .ok (.istore_n 2, 1) := by decide +kernel
theorem dX10_withLanterns_8 : decode cX10_withLanterns 8 = .ok (.iload_n 2, 1) := by decide +kernel
theorem dX10_withLanterns_9 : decode cX10_withLanterns 9 = .ok (.aload_n 0, 1) := by decide +kernel
theorem dX10_withLanterns_10 : decode cX10_withLanterns 10 = .ok (.getfield 88, 3) := by decide +kernel
theorem dX10_withLanterns_13 : decode cX10_withLanterns 13 = .ok (.if_icmp .ge 33, 3) := by decide +kernel
theorem dX10_withLanterns_16 : decode cX10_withLanterns 16 = .ok (.aload_n 0, 1) := by decide +kernel
theorem dX10_withLanterns_17 : decode cX10_withLanterns 17 = .ok (.getfield 16, 3) := by decide +kernel
theorem dX10_withLanterns_20 : decode cX10_withLanterns 20 = .ok (.iload_n 2, 1) := by decide +kernel
theorem dX10_withLanterns_21 : decode cX10_withLanterns 21 = .ok (.iload_n 1, 1) := by decide +kernel
theorem dX10_withLanterns_22 : decode cX10_withLanterns 22 = .ok (.iload_n 2, 1) := by decide +kernel
theorem dX10_withLanterns_23 : decode cX10_withLanterns 23 = .ok (.invokestatic 147, 3) := by decide +kernel
theorem dX10_withLanterns_26 : decode cX10_withLanterns 26 = .ok (.ifCond .eq 7, 3) := by decide +kernel
theorem dX10_withLanterns_29 : decode cX10_withLanterns 29 = .ok (.iconst 3, 1) := by decide +kernel
theorem dX10_withLanterns_30 : decode cX10_withLanterns 30 = .ok (.goto 9, 3) := by decide +kernel
theorem dX10_withLanterns_33 : decode cX10_withLanterns 33 = .ok (.aload_n 0, 1) := by decide +kernel
theorem dX10_withLanterns_34 : decode cX10_withLanterns 34 = .ok (.getfield 16, 3) := by decide +kernel
theorem dX10_withLanterns_37 : decode cX10_withLanterns 37 = .ok (.iload_n 2, 1) := by decide +kernel
theorem dX10_withLanterns_38 : decode cX10_withLanterns 38 = .ok (.iaload, 1) := by decide +kernel
theorem dX10_withLanterns_39 : decode cX10_withLanterns 39 = .ok (.iastore, 1) := by decide +kernel
theorem dX10_withLanterns_40 : decode cX10_withLanterns 40 = .ok (.iinc 2 1, 3) := by decide +kernel
theorem dX10_withLanterns_43 : decode cX10_withLanterns 43 = .ok (.goto (-35), 3) := by decide +kernel
theorem dX10_withLanterns_46 : decode cX10_withLanterns 46 = .ok (.aload_n 0, 1) := by decide +kernel
theorem dX10_withLanterns_47 : decode cX10_withLanterns 47 = .ok (.dup, 1) := by decide +kernel
theorem dX10_withLanterns_48 : decode cX10_withLanterns 48 = .ok (.getfield 124, 3) := by decide +kernel
theorem dX10_withLanterns_51 : decode cX10_withLanterns 51 = .ok (.iload_n 1, 1) := by decide +kernel
theorem dX10_withLanterns_52 : decode cX10_withLanterns 52 = .ok (.ior, 1) := by decide +kernel
theorem dX10_withLanterns_53 : decode cX10_withLanterns 53 = .ok (.putfield 124, 3) := by decide +kernel
theorem dX10_withLanterns_56 : decode cX10_withLanterns 56 = .ok (.aload_n 0, 1) := by decide +kernel
theorem dX10_withLanterns_57 : decode cX10_withLanterns 57 = .ok (.invokevirtual 241, 3) := by decide +kernel
theorem dX10_withLanterns_60 : decode cX10_withLanterns 60 = .ok (.istore_n 2, 1) := by decide +kernel
theorem dX10_withLanterns_61 : decode cX10_withLanterns 61 = .ok (.iconst 0, 1) := by decide +kernel
theorem dX10_withLanterns_62 : decode cX10_withLanterns 62 = .ok (.istore_n 3, 1) := by decide +kernel
theorem dX10_withLanterns_63 : decode cX10_withLanterns 63 = .ok (.iconst 0, 1) := by decide +kernel
theorem dX10_withLanterns_64 : decode cX10_withLanterns 64 = .ok (.istore 4, 2) := by decide +kernel
theorem dX10_withLanterns_66 : decode cX10_withLanterns 66 = .ok (.iload 4, 2) := by decide +kernel
theorem dX10_withLanterns_68 : decode cX10_withLanterns 68 = .ok (.aload_n 0, 1) := by decide +kernel
theorem dX10_withLanterns_69 : decode cX10_withLanterns 69 = .ok (.getfield 88, 3) := by decide +kernel
theorem dX10_withLanterns_72 : decode cX10_withLanterns 72 = .ok (.if_icmp .ge 32, 3) := by decide +kernel
theorem dX10_withLanterns_75 : decode cX10_withLanterns 75 = .ok (.iload_n 3, 1) := by decide +kernel
theorem dX10_withLanterns_76 : decode cX10_withLanterns 76 = .ok (.aload_n 0, 1) := by decide +kernel
theorem dX10_withLanterns_77 : decode cX10_withLanterns 77 = .ok (.getfield 16, 3) := by decide +kernel
theorem dX10_withLanterns_80 : decode cX10_withLanterns 80 = .ok (.iload 4, 2) := by decide +kernel
theorem dX10_withLanterns_82 : decode cX10_withLanterns 82 = .ok (.iaload, 1) := by decide +kernel
theorem dX10_withLanterns_83 : decode cX10_withLanterns 83 = .ok (.bipush 6, 2) := by decide +kernel
theorem dX10_withLanterns_85 : decode cX10_withLanterns 85 = .ok (.if_icmp .ne 10, 3) := by decide +kernel
theorem dX10_withLanterns_88 : decode cX10_withLanterns 88 = .ok (.iconst 1, 1) := by decide +kernel
theorem dX10_withLanterns_89 : decode cX10_withLanterns 89 = .ok (.iload 4, 2) := by decide +kernel
theorem dX10_withLanterns_91 : decode cX10_withLanterns 91 = .ok (.ishl, 1) := by decide +kernel
theorem dX10_withLanterns_92 : decode cX10_withLanterns 92 = .ok (.goto 4, 3) := by decide +kernel
theorem dX10_withLanterns_95 : decode cX10_withLanterns 95 = .ok (.iconst 0, 1) := by decide +kernel
theorem dX10_withLanterns_96 : decode cX10_withLanterns 96 = .ok (.ior, 1) := by decide +kernel
theorem dX10_withLanterns_97 : decode cX10_withLanterns 97 = .ok (.istore_n 3, 1) := by decide +kernel
theorem dX10_withLanterns_98 : decode cX10_withLanterns 98 = .ok (.iinc 4 1, 3) := by decide +kernel
theorem dX10_withLanterns_101 : decode cX10_withLanterns 101 = .ok (.goto (-35), 3) := by decide +kernel
theorem dX10_withLanterns_104 : decode cX10_withLanterns 104 = .ok (.aload_n 0, 1) := by decide +kernel
theorem dX10_withLanterns_105 : decode cX10_withLanterns 105 = .ok (.iconst 1, 1) := by decide +kernel
theorem dX10_withLanterns_106 : decode cX10_withLanterns 106 = .ok (.aload_n 0, 1) := by decide +kernel
theorem dX10_withLanterns_107 : decode cX10_withLanterns 107 = .ok (.getfield 88, 3) := by decide +kernel
theorem dX10_withLanterns_110 : decode cX10_withLanterns 110 = .ok (.ishl, 1) := by decide +kernel
theorem dX10_withLanterns_111 : decode cX10_withLanterns 111 = .ok (.iconst 1, 1) := by decide +kernel
theorem dX10_withLanterns_112 : decode cX10_withLanterns 112 = .ok (.isub, 1) := by decide +kernel
theorem dX10_withLanterns_113 : decode cX10_withLanterns 113 = .ok (.iload_n 2, 1) := by decide +kernel
theorem dX10_withLanterns_114 : decode cX10_withLanterns 114 = .ok (.iload_n 3, 1) := by decide +kernel
theorem dX10_withLanterns_115 : decode cX10_withLanterns 115 = .ok (.ior, 1) := by decide +kernel
theorem dX10_withLanterns_116 : decode cX10_withLanterns 116 = .ok (.iconst (-1), 1) := by decide +kernel
theorem dX10_withLanterns_117 : decode cX10_withLanterns 117 = .ok (.ixor, 1) := by decide +kernel
theorem dX10_withLanterns_118 : decode cX10_withLanterns 118 = .ok (.iand, 1) := by decide +kernel
theorem dX10_withLanterns_119 : decode cX10_withLanterns 119 = .ok (.ifCond .ne 7, 3) := by decide +kernel
theorem dX10_withLanterns_122 : decode cX10_withLanterns 122 = .ok (.iconst 1, 1) := by decide +kernel
theorem dX10_withLanterns_123 : decode cX10_withLanterns 123 = .ok (.goto 4, 3) := by decide +kernel
theorem dX10_withLanterns_126 : decode cX10_withLanterns 126 = .ok (.iconst 0, 1) := by decide +kernel
theorem dX10_withLanterns_127 : decode cX10_withLanterns 127 = .ok (.putfield 262, 3) := by decide +kernel
theorem dX10_withLanterns_130 : decode cX10_withLanterns 130 = .ok (.aload_n 0, 1) := by decide +kernel
theorem dX10_withLanterns_131 : decode cX10_withLanterns 131 = .ok (.iconst 1, 1) := by decide +kernel
theorem dX10_withLanterns_132 : decode cX10_withLanterns 132 = .ok (.iconst 0, 1) := by decide +kernel
theorem dX10_withLanterns_133 : decode cX10_withLanterns 133 = .ok (.invokevirtual 157, 3) := by decide +kernel
theorem dX10_withLanterns_136 : decode cX10_withLanterns 136 = .ok (.iload_n 2, 1) := by decide +kernel
theorem dX10_withLanterns_137 : decode cX10_withLanterns 137 = .ok (.ireturn, 1) := by decide +kernel
theorem dX10_lantern_0 : decode cX10_lantern 0 = .ok (.iload_n 1, 1) := by decide +kernel
theorem dX10_lantern_1 : decode cX10_lantern 1 = .ok (.iconst 0, 1) := by decide +kernel
theorem dX10_lantern_2 : decode cX10_lantern 2 = .ok (.iconst 1, 1) := by decide +kernel
theorem dX10_lantern_3 : decode cX10_lantern 3 = .ok (.invokestatic 110, 3) := by decide +kernel
theorem dX10_lantern_6 : decode cX10_lantern 6 = .ok (.ifCond .ne 8, 3) := by decide +kernel
theorem dX10_lantern_9 : decode cX10_lantern 9 = .ok (.bipush (-2), 2) := by decide +kernel
theorem dX10_lantern_11 : decode cX10_lantern 11 = .ok (.goto 16, 3) := by decide +kernel
theorem dX10_lantern_14 : decode cX10_lantern 14 = .ok (.aload_n 0, 1) := by decide +kernel
theorem dX10_lantern_15 : decode cX10_lantern 15 = .ok (.getfield 88, 3) := by decide +kernel
theorem dX10_lantern_18 : decode cX10_lantern 18 = .ok (.ifCond .ne 8, 3) := by decide +kernel
theorem dX10_lantern_21 : decode cX10_lantern 21 = .ok (.bipush (-3), 2) := by decide +kernel
theorem dX10_lantern_23 : decode cX10_lantern 23 = .ok (.goto 4, 3) := by decide +kernel
theorem dX10_lantern_26 : decode cX10_lantern 26 = .ok (.iconst 0, 1) := by decide +kernel
theorem dX10_lantern_27 : decode cX10_lantern 27 = .ok (.istore_n 2, 1) := by decide +kernel
theorem dX10_lantern_28 : decode cX10_lantern 28 = .ok (.iload_n 2, 1) := by decide +kernel
theorem dX10_lantern_29 : decode cX10_lantern 29 = .ok (.ifCond .eq 9, 3) := by decide +kernel
theorem dX10_lantern_32 : decode cX10_lantern 32 = .ok (.aload_n 0, 1) := by decide +kernel
theorem dX10_lantern_33 : decode cX10_lantern 33 = .ok (.iload_n 2, 1) := by decide +kernel
theorem dX10_lantern_34 : decode cX10_lantern 34 = .ok (.invokevirtual 99, 3) := by decide +kernel
theorem dX10_lantern_37 : decode cX10_lantern 37 = .ok (.ireturn, 1) := by decide +kernel
theorem dX10_lantern_38 : decode cX10_lantern 38 = .ok (.iconst 0, 1) := by decide +kernel
theorem dX10_lantern_39 : decode cX10_lantern 39 = .ok (.istore_n 3, 1) := by decide +kernel
theorem dX10_lantern_40 : decode cX10_lantern 40 = .ok (.bipush (-9), 2) := by decide +kernel
theorem dX10_lantern_42 : decode cX10_lantern 42 = .ok (.istore 4, 2) := by decide +kernel
theorem dX10_lantern_44 : decode cX10_lantern 44 = .ok (.iconst 0, 1) := by decide +kernel
theorem dX10_lantern_45 : decode cX10_lantern 45 = .ok (.istore 5, 2) := by decide +kernel
theorem dX10_lantern_47 : decode cX10_lantern 47 = .ok (.iload 5, 2) := by decide +kernel
theorem dX10_lantern_49 : decode cX10_lantern 49 = .ok (.aload_n 0, 1) := by decide +kernel
theorem dX10_lantern_50 : decode cX10_lantern 50 = .ok (.getfield 88, 3) := by decide +kernel
theorem dX10_lantern_53 : decode cX10_lantern 53 = .ok (.if_icmp .ge 39, 3) := by decide +kernel
theorem dX10_lantern_56 : decode cX10_lantern 56 = .ok (.aload_n 0, 1) := by decide +kernel
theorem dX10_lantern_57 : decode cX10_lantern 57 = .ok (.iconst 1, 1) := by decide +kernel
theorem dX10_lantern_58 : decode cX10_lantern 58 = .ok (.iload 5, 2) := by decide +kernel
theorem dX10_lantern_60 : decode cX10_lantern 60 = .ok (.ishl, 1) := by decide +kernel
theorem dX10_lantern_61 : decode cX10_lantern 61 = .ok (.invokevirtual 265, 3) := by decide +kernel
theorem dX10_lantern_64 : decode cX10_lantern 64 = .ok (.invokestatic 231, 3) := by decide +kernel
theorem dX10_lantern_67 : decode cX10_lantern 67 = .ok (.istore 6, 2) := by decide +kernel
theorem dX10_lantern_69 : decode cX10_lantern 69 = .ok (.iload 6, 2) := by decide +kernel
theorem dX10_lantern_71 : decode cX10_lantern 71 = .ok (.iload 4, 2) := by decide +kernel
theorem dX10_lantern_73 : decode cX10_lantern 73 = .ok (.if_icmp .gt 6, 3) := by decide +kernel
theorem dX10_lantern_76 : decode cX10_lantern 76 = .ok (.goto 10, 3) := by decide +kernel
theorem dX10_lantern_79 : decode cX10_lantern 79 = .ok (.iload 5, 2) := by decide +kernel
theorem dX10_lantern_81 : decode cX10_lantern 81 = .ok (.istore_n 3, 1) := by decide +kernel
theorem dX10_lantern_82 : decode cX10_lantern 82 = .ok (.iload 6, 2) := by decide +kernel
theorem dX10_lantern_84 : decode cX10_lantern 84 = .ok (.istore 4, 2) := by decide +kernel
theorem dX10_lantern_86 : decode cX10_lantern 86 = .ok (.iinc 5 1, 3) := by decide +kernel
theorem dX10_lantern_89 : decode cX10_lantern 89 = .ok (.goto (-42), 3) := by decide +kernel
theorem dX10_lantern_92 : decode cX10_lantern 92 = .ok (.iload_n 1, 1) := by decide +kernel
theorem dX10_lantern_93 : decode cX10_lantern 93 = .ok (.ifCond .ne 7, 3) := by decide +kernel
theorem dX10_lantern_96 : decode cX10_lantern 96 = .ok (.iload_n 3, 1) := by decide +kernel
theorem dX10_lantern_97 : decode cX10_lantern 97 = .ok (.goto 5, 3) := by decide +kernel
theorem dX10_lantern_100 : decode cX10_lantern 100 = .ok (.iload 4, 2) := by decide +kernel
theorem dX10_lantern_102 : decode cX10_lantern 102 = .ok (.ireturn, 1) := by decide +kernel
theorem dX10_fewest_0 : decode cX10_fewest 0 = .ok (.iload_n 1, 1) := by decide +kernel
theorem dX10_fewest_1 : decode cX10_fewest 1 = .ok (.iconst 0, 1) := by decide +kernel
theorem dX10_fewest_2 : decode cX10_fewest 2 = .ok (.iconst 1, 1) := by decide +kernel
theorem dX10_fewest_3 : decode cX10_fewest 3 = .ok (.invokestatic 110, 3) := by decide +kernel
theorem dX10_fewest_6 : decode cX10_fewest 6 = .ok (.ifCond .ne 10, 3) := by decide +kernel
theorem dX10_fewest_9 : decode cX10_fewest 9 = .ok (.aload_n 0, 1) := by decide +kernel
theorem dX10_fewest_10 : decode cX10_fewest 10 = .ok (.bipush (-2), 2) := by decide +kernel
theorem dX10_fewest_12 : decode cX10_fewest 12 = .ok (.invokevirtual 99, 3) := by decide +kernel
theorem dX10_fewest_15 : decode cX10_fewest 15 = .ok (.ireturn, 1) := by decide +kernel
theorem dX10_fewest_16 : decode cX10_fewest 16 = .ok (.bipush (-9), 2) := by decide +kernel
theorem dX10_fewest_18 : decode cX10_fewest 18 = .ok (.istore_n 2, 1) := by decide +kernel
theorem dX10_fewest_19 : decode cX10_fewest 19 = .ok (.iconst 0, 1) := by decide +kernel
theorem dX10_fewest_20 : decode cX10_fewest 20 = .ok (.istore_n 3, 1) := by decide +kernel
theorem dX10_fewest_21 : decode cX10_fewest 21 = .ok (.iload_n 3, 1) := by decide +kernel
theorem dX10_fewest_22 : decode cX10_fewest 22 = .ok (.iconst 1, 1) := by decide +kernel
theorem dX10_fewest_23 : decode cX10_fewest 23 = .ok (.aload_n 0, 1) := by decide +kernel
theorem dX10_fewest_24 : decode cX10_fewest 24 = .ok (.getfield 88, 3) := by decide +kernel
theorem dX10_fewest_27 : decode cX10_fewest 27 = .ok (.ishl, 1) := by decide +kernel
theorem dX10_fewest_28 : decode cX10_fewest 28 = .ok (.if_icmp .ge 39, 3) := by decide +kernel
theorem dX10_fewest_31 : decode cX10_fewest 31 = .ok (.aload_n 0, 1) := by decide +kernel
theorem dX10_fewest_32 : decode cX10_fewest 32 = .ok (.iload_n 3, 1) := by decide +kernel
theorem dX10_fewest_33 : decode cX10_fewest 33 = .ok (.invokevirtual 265, 3) := by decide +kernel
theorem dX10_fewest_36 : decode cX10_fewest 36 = .ok (.pop, 1) := by decide +kernel
theorem dX10_fewest_37 : decode cX10_fewest 37 = .ok (.aload_n 0, 1) := by decide +kernel
theorem dX10_fewest_38 : decode cX10_fewest 38 = .ok (.getfield 262, 3) := by decide +kernel
theorem dX10_fewest_41 : decode cX10_fewest 41 = .ok (.ifCond .eq 20, 3) := by decide +kernel
theorem dX10_fewest_44 : decode cX10_fewest 44 = .ok (.iload_n 2, 1) := by decide +kernel
theorem dX10_fewest_45 : decode cX10_fewest 45 = .ok (.ifCond .lt 14, 3) := by decide +kernel
theorem dX10_fewest_48 : decode cX10_fewest 48 = .ok (.iload_n 3, 1) := by decide +kernel
theorem dX10_fewest_49 : decode cX10_fewest 49 = .ok (.invokestatic 231, 3) := by decide +kernel
theorem dX10_fewest_52 : decode cX10_fewest 52 = .ok (.iload_n 2, 1) := by decide +kernel
theorem dX10_fewest_53 : decode cX10_fewest 53 = .ok (.invokestatic 231, 3) := by decide +kernel
theorem dX10_fewest_56 : decode cX10_fewest 56 = .ok (.if_icmp .ge 5, 3) := by decide +kernel
theorem dX10_fewest_59 : decode cX10_fewest 59 = .ok (.iload_n 3, 1) := by decide +kernel
theorem dX10_fewest_60 : decode cX10_fewest 60 = .ok (.istore_n 2, 1) := by decide +kernel
theorem dX10_fewest_61 : decode cX10_fewest 61 = .ok (.iinc 3 1, 3) := by decide +kernel
theorem dX10_fewest_64 : decode cX10_fewest 64 = .ok (.goto (-43), 3) := by decide +kernel
theorem dX10_fewest_67 : decode cX10_fewest 67 = .ok (.iload_n 1, 1) := by decide +kernel
theorem dX10_fewest_68 : decode cX10_fewest 68 = .ok (.iconst 1, 1) := by decide +kernel
theorem dX10_fewest_69 : decode cX10_fewest 69 = .ok (.if_icmp .eq 7, 3) := by decide +kernel
theorem dX10_fewest_72 : decode cX10_fewest 72 = .ok (.iload_n 2, 1) := by decide +kernel
theorem dX10_fewest_73 : decode cX10_fewest 73 = .ok (.ifCond .ge 7, 3) := by decide +kernel
theorem dX10_fewest_76 : decode cX10_fewest 76 = .ok (.iload_n 2, 1) := by decide +kernel
theorem dX10_fewest_77 : decode cX10_fewest 77 = .ok (.goto 7, 3) := by decide +kernel
theorem dX10_fewest_80 : decode cX10_fewest 80 = .ok (.iload_n 2, 1) := by decide +kernel
theorem dX10_fewest_81 : decode cX10_fewest 81 = .ok (.invokestatic 231, 3) := by decide +kernel
theorem dX10_fewest_84 : decode cX10_fewest 84 = .ok (.ireturn, 1) := by decide +kernel
theorem dX10_doorByMatch_0 : decode cX10_doorByMatch 0 = .ok (.aload_n 0, 1) := by decide +kernel
theorem dX10_doorByMatch_1 : decode cX10_doorByMatch 1 = .ok (.iconst 2, 1) := by decide +kernel
theorem dX10_doorByMatch_2 : decode cX10_doorByMatch 2 = .ok (.iconst 1, 1) := by decide +kernel
theorem dX10_doorByMatch_3 : decode cX10_doorByMatch 3 = .ok (.invokevirtual 157, 3) := by decide +kernel
theorem dX10_doorByMatch_6 : decode cX10_doorByMatch 6 = .ok (.iconst 0, 1) := by decide +kernel
theorem dX10_doorByMatch_7 : decode cX10_doorByMatch 7 = .ok (.istore_n 3, 1) := by decide +kernel
theorem dX10_doorByMatch_8 : decode cX10_doorByMatch 8 = .ok (.aload_n 0, 1) := by decide +kernel
theorem dX10_doorByMatch_9 : decode cX10_doorByMatch 9 = .ok (.getfield 127, 3) := by decide +kernel
theorem dX10_doorByMatch_12 : decode cX10_doorByMatch 12 = .ok (.aload_n 0, 1) := by decide +kernel
theorem dX10_doorByMatch_13 : decode cX10_doorByMatch 13 = .ok (.invokevirtual 130, 3) := by decide +kernel
theorem dX10_doorByMatch_16 : decode cX10_doorByMatch 16 = .ok (.if_icmp .ge 31, 3) := by decide +kernel
theorem dX10_doorByMatch_19 : decode cX10_doorByMatch 19 = .ok (.iload_n 3, 1) := by decide +kernel
theorem dX10_doorByMatch_20 : decode cX10_doorByMatch 20 = .ok (.iload_n 1, 1) := by decide +kernel
theorem dX10_doorByMatch_21 : decode cX10_doorByMatch 21 = .ok (.if_icmp .ne 15, 3) := by decide +kernel
theorem dX10_doorByMatch_24 : decode cX10_doorByMatch 24 = .ok (.aload_n 0, 1) := by decide +kernel
theorem dX10_doorByMatch_25 : decode cX10_doorByMatch 25 = .ok (.dup, 1) := by decide +kernel
theorem dX10_doorByMatch_26 : decode cX10_doorByMatch 26 = .ok (.getfield 124, 3) := by decide +kernel
theorem dX10_doorByMatch_29 : decode cX10_doorByMatch 29 = .ok (.iconst 1, 1) := by decide +kernel
theorem dX10_doorByMatch_30 : decode cX10_doorByMatch 30 = .ok (.iload_n 2, 1) := by decide +kernel
theorem dX10_doorByMatch_31 : decode cX10_doorByMatch 31 = .ok (.ishl, 1) := by decide +kernel
theorem dX10_doorByMatch_32 : decode cX10_doorByMatch 32 = .ok (.ior, 1) := by decide +kernel
theorem dX10_doorByMatch_33 : decode cX10_doorByMatch 33 = .ok (.putfield 124, 3) := by decide +kernel
theorem dX10_doorByMatch_36 : decode cX10_doorByMatch 36 = .ok (.aload_n 0, 1) := by decide +kernel
theorem dX10_doorByMatch_37 : decode cX10_doorByMatch 37 = .ok (.iconst 0, 1) := by decide +kernel
theorem dX10_doorByMatch_38 : decode cX10_doorByMatch 38 = .ok (.invokevirtual 136, 3) := by decide +kernel
theorem dX10_doorByMatch_41 : decode cX10_doorByMatch 41 = .ok (.iinc 3 1, 3) := by decide +kernel
theorem dX10_doorByMatch_44 : decode cX10_doorByMatch 44 = .ok (.goto (-36), 3) := by decide +kernel
theorem dX10_doorByMatch_47 : decode cX10_doorByMatch 47 = .ok (.aload_n 0, 1) := by decide +kernel
theorem dX10_doorByMatch_48 : decode cX10_doorByMatch 48 = .ok (.getfield 124, 3) := by decide +kernel
theorem dX10_doorByMatch_51 : decode cX10_doorByMatch 51 = .ok (.invokestatic 231, 3) := by decide +kernel
theorem dX10_doorByMatch_54 : decode cX10_doorByMatch 54 = .ok (.istore_n 3, 1) := by decide +kernel
theorem dX10_doorByMatch_55 : decode cX10_doorByMatch 55 = .ok (.aload_n 0, 1) := by decide +kernel
theorem dX10_doorByMatch_56 : decode cX10_doorByMatch 56 = .ok (.iconst 2, 1) := by decide +kernel
theorem dX10_doorByMatch_57 : decode cX10_doorByMatch 57 = .ok (.iconst 0, 1) := by decide +kernel
theorem dX10_doorByMatch_58 : decode cX10_doorByMatch 58 = .ok (.invokevirtual 157, 3) := by decide +kernel
theorem dX10_doorByMatch_61 : decode cX10_doorByMatch 61 = .ok (.iload_n 3, 1) := by decide +kernel
theorem dX10_doorByMatch_62 : decode cX10_doorByMatch 62 = .ok (.ireturn, 1) := by decide +kernel
theorem dX10_match_0 : decode cX10_match 0 = .ok (.aload_n 0, 1) := by decide +kernel
theorem dX10_match_1 : decode cX10_match 1 = .ok (.invokevirtual 241, 3) := by decide +kernel
theorem dX10_match_4 : decode cX10_match 4 = .ok (.invokestatic 231, 3) := by decide +kernel
theorem dX10_match_7 : decode cX10_match 7 = .ok (.istore_n 1, 1) := by decide +kernel
theorem dX10_match_8 : decode cX10_match 8 = .ok (.bipush (-9), 2) := by decide +kernel
theorem dX10_match_10 : decode cX10_match 10 = .ok (.istore_n 2, 1) := by decide +kernel
theorem dX10_match_11 : decode cX10_match 11 = .ok (.aload_n 0, 1) := by decide +kernel
theorem dX10_match_12 : decode cX10_match 12 = .ok (.invokevirtual 130, 3) := by decide +kernel
theorem dX10_match_15 : decode cX10_match 15 = .ok (.aload_n 0, 1) := by decide +kernel
theorem dX10_match_16 : decode cX10_match 16 = .ok (.getfield 127, 3) := by decide +kernel
theorem dX10_match_19 : decode cX10_match 19 = .ok (.isub, 1) := by decide +kernel
theorem dX10_match_20 : decode cX10_match 20 = .ok (.iconst 1, 1) := by decide +kernel
theorem dX10_match_21 : decode cX10_match 21 = .ok (.isub, 1) := by decide +kernel
theorem dX10_match_22 : decode cX10_match 22 = .ok (.istore_n 3, 1) := by decide +kernel
theorem dX10_match_23 : decode cX10_match 23 = .ok (.iload_n 3, 1) := by decide +kernel
theorem dX10_match_24 : decode cX10_match 24 = .ok (.ifCond .lt 69, 3) := by decide +kernel
theorem dX10_match_27 : decode cX10_match 27 = .ok (.iconst 0, 1) := by decide +kernel
theorem dX10_match_28 : decode cX10_match 28 = .ok (.istore 4, 2) := by decide +kernel
theorem dX10_match_30 : decode cX10_match 30 = .ok (.iload 4, 2) := by decide +kernel
theorem dX10_match_32 : decode cX10_match 32 = .ok (.aload_n 0, 1) := by decide +kernel
theorem dX10_match_33 : decode cX10_match 33 = .ok (.getfield 88, 3) := by decide +kernel
theorem dX10_match_36 : decode cX10_match 36 = .ok (.if_icmp .ge 51, 3) := by decide +kernel
theorem dX10_match_39 : decode cX10_match 39 = .ok (.aload_n 0, 1) := by decide +kernel
theorem dX10_match_40 : decode cX10_match 40 = .ok (.getfield 16, 3) := by decide +kernel
theorem dX10_match_43 : decode cX10_match 43 = .ok (.iload 4, 2) := by decide +kernel
theorem dX10_match_45 : decode cX10_match 45 = .ok (.iaload, 1) := by decide +kernel
theorem dX10_match_46 : decode cX10_match 46 = .ok (.bipush 6, 2) := by decide +kernel
theorem dX10_match_48 : decode cX10_match 48 = .ok (.if_icmp .eq 33, 3) := by decide +kernel
theorem dX10_match_51 : decode cX10_match 51 = .ok (.aload_n 0, 1) := by decide +kernel
theorem dX10_match_52 : decode cX10_match 52 = .ok (.iload_n 3, 1) := by decide +kernel
theorem dX10_match_53 : decode cX10_match 53 = .ok (.iload 4, 2) := by decide +kernel
theorem dX10_match_55 : decode cX10_match 55 = .ok (.invokevirtual 268, 3) := by decide +kernel
theorem dX10_match_58 : decode cX10_match 58 = .ok (.iload_n 1, 1) := by decide +kernel
theorem dX10_match_59 : decode cX10_match 59 = .ok (.if_icmp .gt 6, 3) := by decide +kernel
theorem dX10_match_62 : decode cX10_match 62 = .ok (.goto 19, 3) := by decide +kernel
theorem dX10_match_65 : decode cX10_match 65 = .ok (.aload_n 0, 1) := by decide +kernel
theorem dX10_match_66 : decode cX10_match 66 = .ok (.iload_n 3, 1) := by decide +kernel
theorem dX10_match_67 : decode cX10_match 67 = .ok (.iload 4, 2) := by decide +kernel
theorem dX10_match_69 : decode cX10_match 69 = .ok (.invokevirtual 268, 3) := by decide +kernel
theorem dX10_match_72 : decode cX10_match 72 = .ok (.istore_n 1, 1) := by decide +kernel
theorem dX10_match_73 : decode cX10_match 73 = .ok (.bipush 10, 2) := by decide +kernel
theorem dX10_match_75 : decode cX10_match 75 = .ok (.iload_n 3, 1) := by decide +kernel
theorem dX10_match_76 : decode cX10_match 76 = .ok (.imul, 1) := by decide +kernel
theorem dX10_match_77 : decode cX10_match 77 = .ok (.iload 4, 2) := by decide +kernel
theorem dX10_match_79 : decode cX10_match 79 = .ok (.iadd, 1) := by decide +kernel
theorem dX10_match_80 : decode cX10_match 80 = .ok (.istore_n 2, 1) := by decide +kernel
theorem dX10_match_81 : decode cX10_match 81 = .ok (.iinc 4 1, 3) := by decide +kernel
theorem dX10_match_84 : decode cX10_match 84 = .ok (.goto (-54), 3) := by decide +kernel
theorem dX10_match_87 : decode cX10_match 87 = .ok (.iinc 3 (-1), 3) := by decide +kernel
theorem dX10_match_90 : decode cX10_match 90 = .ok (.goto (-67), 3) := by decide +kernel
theorem dX10_match_93 : decode cX10_match 93 = .ok (.iload_n 2, 1) := by decide +kernel
theorem dX10_match_94 : decode cX10_match 94 = .ok (.ireturn, 1) := by decide +kernel
theorem dX10_tail_0 : decode cX10_tail 0 = .ok (.aload_n 0, 1) := by decide +kernel
theorem dX10_tail_1 : decode cX10_tail 1 = .ok (.getfield 88, 3) := by decide +kernel
theorem dX10_tail_4 : decode cX10_tail 4 = .ok (.ifCond .ne 10, 3) := by decide +kernel
theorem dX10_tail_7 : decode cX10_tail 7 = .ok (.aload_n 0, 1) := by decide +kernel
theorem dX10_tail_8 : decode cX10_tail 8 = .ok (.bipush (-3), 2) := by decide +kernel
theorem dX10_tail_10 : decode cX10_tail 10 = .ok (.invokevirtual 99, 3) := by decide +kernel
theorem dX10_tail_13 : decode cX10_tail 13 = .ok (.ireturn, 1) := by decide +kernel
theorem dX10_tail_14 : decode cX10_tail 14 = .ok (.iconst 0, 1) := by decide +kernel
theorem dX10_tail_15 : decode cX10_tail 15 = .ok (.istore_n 1, 1) := by decide +kernel
theorem dX10_tail_16 : decode cX10_tail 16 = .ok (.aload_n 0, 1) := by decide +kernel
theorem dX10_tail_17 : decode cX10_tail 17 = .ok (.invokevirtual 241, 3) := by decide +kernel
theorem dX10_tail_20 : decode cX10_tail 20 = .ok (.invokestatic 231, 3) := by decide +kernel
theorem dX10_tail_23 : decode cX10_tail 23 = .ok (.istore_n 2, 1) := by decide +kernel
theorem dX10_tail_24 : decode cX10_tail 24 = .ok (.aload_n 0, 1) := by decide +kernel
theorem dX10_tail_25 : decode cX10_tail 25 = .ok (.getfield 88, 3) := by decide +kernel
theorem dX10_tail_28 : decode cX10_tail 28 = .ok (.istore_n 3, 1) := by decide +kernel
theorem dX10_tail_29 : decode cX10_tail 29 = .ok (.iconst 1, 1) := by decide +kernel
theorem dX10_tail_30 : decode cX10_tail 30 = .ok (.istore 4, 2) := by decide +kernel
theorem dX10_tail_32 : decode cX10_tail 32 = .ok (.iload 4, 2) := by decide +kernel
theorem dX10_tail_34 : decode cX10_tail 34 = .ok (.aload_n 0, 1) := by decide +kernel
theorem dX10_tail_35 : decode cX10_tail 35 = .ok (.getfield 88, 3) := by decide +kernel
theorem dX10_tail_38 : decode cX10_tail 38 = .ok (.if_icmp .ge 87, 3) := by decide +kernel
theorem dX10_tail_41 : decode cX10_tail 41 = .ok (.aload_n 0, 1) := by decide +kernel
theorem dX10_tail_42 : decode cX10_tail 42 = .ok (.iconst 1, 1) := by decide +kernel
theorem dX10_tail_43 : decode cX10_tail 43 = .ok (.iconst 1, 1) := by decide +kernel
theorem dX10_tail_44 : decode cX10_tail 44 = .ok (.invokevirtual 157, 3) := by decide +kernel
theorem dX10_tail_47 : decode cX10_tail 47 = .ok (.aload_n 0, 1) := by decide +kernel
theorem dX10_tail_48 : decode cX10_tail 48 = .ok (.dup, 1) := by decide +kernel
theorem dX10_tail_49 : decode cX10_tail 49 = .ok (.getfield 88, 3) := by decide +kernel
theorem dX10_tail_52 : decode cX10_tail 52 = .ok (.iload 4, 2) := by decide +kernel
theorem dX10_tail_54 : decode cX10_tail 54 = .ok (.isub, 1) := by decide +kernel
theorem dX10_tail_55 : decode cX10_tail 55 = .ok (.putfield 88, 3) := by decide +kernel
theorem dX10_tail_58 : decode cX10_tail 58 = .ok (.aload_n 0, 1) := by decide +kernel
theorem dX10_tail_59 : decode cX10_tail 59 = .ok (.dup, 1) := by decide +kernel
theorem dX10_tail_60 : decode cX10_tail 60 = .ok (.getfield 124, 3) := by decide +kernel
theorem dX10_tail_63 : decode cX10_tail 63 = .ok (.iconst 1, 1) := by decide +kernel
theorem dX10_tail_64 : decode cX10_tail 64 = .ok (.aload_n 0, 1) := by decide +kernel
theorem dX10_tail_65 : decode cX10_tail 65 = .ok (.getfield 88, 3) := by decide +kernel
theorem dX10_tail_68 : decode cX10_tail 68 = .ok (.ishl, 1) := by decide +kernel
theorem dX10_tail_69 : decode cX10_tail 69 = .ok (.iconst 1, 1) := by decide +kernel
theorem dX10_tail_70 : decode cX10_tail 70 = .ok (.isub, 1) := by decide +kernel
theorem dX10_tail_71 : decode cX10_tail 71 = .ok (.iand, 1) := by decide +kernel
theorem dX10_tail_72 : decode cX10_tail 72 = .ok (.putfield 124, 3) := by decide +kernel
theorem dX10_tail_75 : decode cX10_tail 75 = .ok (.aload_n 0, 1) := by decide +kernel
theorem dX10_tail_76 : decode cX10_tail 76 = .ok (.invokevirtual 241, 3) := by decide +kernel
theorem dX10_tail_79 : decode cX10_tail 79 = .ok (.invokestatic 231, 3) := by decide +kernel
theorem dX10_tail_82 : decode cX10_tail 82 = .ok (.istore 5, 2) := by decide +kernel
theorem dX10_tail_84 : decode cX10_tail 84 = .ok (.aload_n 0, 1) := by decide +kernel
theorem dX10_tail_85 : decode cX10_tail 85 = .ok (.getfield 88, 3) := by decide +kernel
theorem dX10_tail_88 : decode cX10_tail 88 = .ok (.istore 6, 2) := by decide +kernel
theorem dX10_tail_90 : decode cX10_tail 90 = .ok (.aload_n 0, 1) := by decide +kernel
theorem dX10_tail_91 : decode cX10_tail 91 = .ok (.iconst 1, 1) := by decide +kernel
theorem dX10_tail_92 : decode cX10_tail 92 = .ok (.iconst 0, 1) := by decide +kernel
theorem dX10_tail_93 : decode cX10_tail 93 = .ok (.invokevirtual 157, 3) := by decide +kernel
theorem dX10_tail_96 : decode cX10_tail 96 = .ok (.iload 5, 2) := by decide +kernel
theorem dX10_tail_98 : decode cX10_tail 98 = .ok (.iload_n 3, 1) := by decide +kernel
theorem dX10_tail_99 : decode cX10_tail 99 = .ok (.imul, 1) := by decide +kernel
theorem dX10_tail_100 : decode cX10_tail 100 = .ok (.iload_n 2, 1) := by decide +kernel
theorem dX10_tail_101 : decode cX10_tail 101 = .ok (.iload 6, 2) := by decide +kernel
theorem dX10_tail_103 : decode cX10_tail 103 = .ok (.imul, 1) := by decide +kernel
theorem dX10_tail_104 : decode cX10_tail 104 = .ok (.if_icmp .gt 6, 3) := by decide +kernel
theorem dX10_tail_107 : decode cX10_tail 107 = .ok (.goto 12, 3) := by decide +kernel
theorem dX10_tail_110 : decode cX10_tail 110 = .ok (.iload 4, 2) := by decide +kernel
theorem dX10_tail_112 : decode cX10_tail 112 = .ok (.istore_n 1, 1) := by decide +kernel
theorem dX10_tail_113 : decode cX10_tail 113 = .ok (.iload 5, 2) := by decide +kernel
theorem dX10_tail_115 : decode cX10_tail 115 = .ok (.istore_n 2, 1) := by decide +kernel
theorem dX10_tail_116 : decode cX10_tail 116 = .ok (.iload 6, 2) := by decide +kernel
theorem dX10_tail_118 : decode cX10_tail 118 = .ok (.istore_n 3, 1) := by decide +kernel
theorem dX10_tail_119 : decode cX10_tail 119 = .ok (.iinc 4 1, 3) := by decide +kernel
theorem dX10_tail_122 : decode cX10_tail 122 = .ok (.goto (-90), 3) := by decide +kernel
theorem dX10_tail_125 : decode cX10_tail 125 = .ok (.iload_n 1, 1) := by decide +kernel
theorem dX10_tail_126 : decode cX10_tail 126 = .ok (.ireturn, 1) := by decide +kernel
theorem dX10_isSomebodyDark_0 : decode cX10_isSomebodyDark 0 = .ok (.iconst 0, 1) := by decide +kernel
theorem dX10_isSomebodyDark_1 : decode cX10_isSomebodyDark 1 = .ok (.istore_n 1, 1) := by decide +kernel
theorem dX10_isSomebodyDark_2 : decode cX10_isSomebodyDark 2 = .ok (.iload_n 1, 1) := by decide +kernel
theorem dX10_isSomebodyDark_3 : decode cX10_isSomebodyDark 3 = .ok (.aload_n 0, 1) := by decide +kernel
theorem dX10_isSomebodyDark_4 : decode cX10_isSomebodyDark 4 = .ok (.getfield 88, 3) := by decide +kernel
theorem dX10_isSomebodyDark_7 : decode cX10_isSomebodyDark 7 = .ok (.if_icmp .ge 33, 3) := by decide +kernel
theorem dX10_isSomebodyDark_10 : decode cX10_isSomebodyDark 10 = .ok (.aload_n 0, 1) := by decide +kernel
theorem dX10_isSomebodyDark_11 : decode cX10_isSomebodyDark 11 = .ok (.getfield 16, 3) := by decide +kernel
theorem dX10_isSomebodyDark_14 : decode cX10_isSomebodyDark 14 = .ok (.iload_n 1, 1) := by decide +kernel
theorem dX10_isSomebodyDark_15 : decode cX10_isSomebodyDark 15 = .ok (.iaload, 1) := by decide +kernel
theorem dX10_isSomebodyDark_16 : decode cX10_isSomebodyDark 16 = .ok (.bipush 6, 2) := by decide +kernel
theorem dX10_isSomebodyDark_18 : decode cX10_isSomebodyDark 18 = .ok (.if_icmp .eq 16, 3) := by decide +kernel
theorem dX10_isSomebodyDark_21 : decode cX10_isSomebodyDark 21 = .ok (.aload_n 0, 1) := by decide +kernel
theorem dX10_isSomebodyDark_22 : decode cX10_isSomebodyDark 22 = .ok (.getfield 124, 3) := by decide +kernel
theorem dX10_isSomebodyDark_25 : decode cX10_isSomebodyDark 25 = .ok (.iload_n 1, 1) := by decide +kernel
theorem dX10_isSomebodyDark_26 : decode cX10_isSomebodyDark 26 = .ok (.invokestatic 147, 3) := by decide +kernel
theorem dX10_isSomebodyDark_29 : decode cX10_isSomebodyDark 29 = .ok (.ifCond .ne 5, 3) := by decide +kernel
theorem dX10_isSomebodyDark_32 : decode cX10_isSomebodyDark 32 = .ok (.iconst 1, 1) := by decide +kernel
theorem dX10_isSomebodyDark_33 : decode cX10_isSomebodyDark 33 = .ok (.ireturn, 1) := by decide +kernel
theorem dX10_isSomebodyDark_34 : decode cX10_isSomebodyDark 34 = .ok (.iinc 1 1, 3) := by decide +kernel
theorem dX10_isSomebodyDark_37 : decode cX10_isSomebodyDark 37 = .ok (.goto (-35), 3) := by decide +kernel
theorem dX10_isSomebodyDark_40 : decode cX10_isSomebodyDark 40 = .ok (.iconst 0, 1) := by decide +kernel
theorem dX10_isSomebodyDark_41 : decode cX10_isSomebodyDark 41 = .ok (.ireturn, 1) := by decide +kernel
theorem dX10_doesStop_0 : decode cX10_doesStop 0 = .ok (.aload_n 0, 1) := by decide +kernel
theorem dX10_doesStop_1 : decode cX10_doesStop 1 = .ok (.getfield 124, 3) := by decide +kernel
theorem dX10_doesStop_4 : decode cX10_doesStop 4 = .ok (.ifCond .ne 5, 3) := by decide +kernel
theorem dX10_doesStop_7 : decode cX10_doesStop 7 = .ok (.iconst 0, 1) := by decide +kernel
theorem dX10_doesStop_8 : decode cX10_doesStop 8 = .ok (.ireturn, 1) := by decide +kernel
theorem dX10_doesStop_9 : decode cX10_doesStop 9 = .ok (.iload_n 1, 1) := by decide +kernel
theorem dX10_doesStop_10 : decode cX10_doesStop 10 = .ok (.tableswitch 111 1 4 #[30, 52, 57, 83], 30) := by decide +kernel
theorem dX10_doesStop_40 : decode cX10_doesStop 40 = .ok (.iconst 2, 1) := by decide +kernel
theorem dX10_doesStop_41 : decode cX10_doesStop 41 = .ok (.aload_n 0, 1) := by decide +kernel
theorem dX10_doesStop_42 : decode cX10_doesStop 42 = .ok (.getfield 124, 3) := by decide +kernel
theorem dX10_doesStop_45 : decode cX10_doesStop 45 = .ok (.invokestatic 231, 3) := by decide +kernel
theorem dX10_doesStop_48 : decode cX10_doesStop 48 = .ok (.imul, 1) := by decide +kernel
theorem dX10_doesStop_49 : decode cX10_doesStop 49 = .ok (.aload_n 0, 1) := by decide +kernel
theorem dX10_doesStop_50 : decode cX10_doesStop 50 = .ok (.getfield 88, 3) := by decide +kernel
theorem dX10_doesStop_53 : decode cX10_doesStop 53 = .ok (.if_icmp .ge 7, 3) := by decide +kernel
theorem dX10_doesStop_56 : decode cX10_doesStop 56 = .ok (.iconst 1, 1) := by decide +kernel
theorem dX10_doesStop_57 : decode cX10_doesStop 57 = .ok (.goto 4, 3) := by decide +kernel
theorem dX10_doesStop_60 : decode cX10_doesStop 60 = .ok (.iconst 0, 1) := by decide +kernel
theorem dX10_doesStop_61 : decode cX10_doesStop 61 = .ok (.ireturn, 1) := by decide +kernel
theorem dX10_doesStop_62 : decode cX10_doesStop 62 = .ok (.aload_n 0, 1) := by decide +kernel
theorem dX10_doesStop_63 : decode cX10_doesStop 63 = .ok (.invokevirtual 271, 3) := by decide +kernel
theorem dX10_doesStop_66 : decode cX10_doesStop 66 = .ok (.ireturn, 1) := by decide +kernel
theorem dX10_doesStop_67 : decode cX10_doesStop 67 = .ok (.aload_n 0, 1) := by decide +kernel
theorem dX10_doesStop_68 : decode cX10_doesStop 68 = .ok (.getfield 22, 3) := by decide +kernel
theorem dX10_doesStop_71 : decode cX10_doesStop 71 = .ok (.aload_n 0, 1) := by decide +kernel
theorem dX10_doesStop_72 : decode cX10_doesStop 72 = .ok (.getfield 127, 3) := by decide +kernel
theorem dX10_doesStop_75 : decode cX10_doesStop 75 = .ok (.iaload, 1) := by decide +kernel
theorem dX10_doesStop_76 : decode cX10_doesStop 76 = .ok (.iconst 2, 1) := by decide +kernel
theorem dX10_doesStop_77 : decode cX10_doesStop 77 = .ok (.if_icmp .gt 14, 3) := by decide +kernel
theorem dX10_doesStop_80 : decode cX10_doesStop 80 = .ok (.aload_n 0, 1) := by decide +kernel
theorem dX10_doesStop_81 : decode cX10_doesStop 81 = .ok (.invokevirtual 271, 3) := by decide +kernel
theorem dX10_doesStop_84 : decode cX10_doesStop 84 = .ok (.ifCond .eq 7, 3) := by decide +kernel
theorem dX10_doesStop_87 : decode cX10_doesStop 87 = .ok (.iconst 1, 1) := by decide +kernel
theorem dX10_doesStop_88 : decode cX10_doesStop 88 = .ok (.goto 4, 3) := by decide +kernel
theorem dX10_doesStop_91 : decode cX10_doesStop 91 = .ok (.iconst 0, 1) := by decide +kernel
theorem dX10_doesStop_92 : decode cX10_doesStop 92 = .ok (.ireturn, 1) := by decide +kernel
theorem dX10_doesStop_93 : decode cX10_doesStop 93 = .ok (.aload_n 0, 1) := by decide +kernel
theorem dX10_doesStop_94 : decode cX10_doesStop 94 = .ok (.getfield 22, 3) := by decide +kernel
theorem dX10_doesStop_97 : decode cX10_doesStop 97 = .ok (.aload_n 0, 1) := by decide +kernel
theorem dX10_doesStop_98 : decode cX10_doesStop 98 = .ok (.getfield 127, 3) := by decide +kernel
theorem dX10_doesStop_101 : decode cX10_doesStop 101 = .ok (.iconst 1, 1) := by decide +kernel
theorem dX10_doesStop_102 : decode cX10_doesStop 102 = .ok (.iadd, 1) := by decide +kernel
theorem dX10_doesStop_103 : decode cX10_doesStop 103 = .ok (.iaload, 1) := by decide +kernel
theorem dX10_doesStop_104 : decode cX10_doesStop 104 = .ok (.iconst 5, 1) := by decide +kernel
theorem dX10_doesStop_105 : decode cX10_doesStop 105 = .ok (.if_icmp .le 14, 3) := by decide +kernel
theorem dX10_doesStop_108 : decode cX10_doesStop 108 = .ok (.aload_n 0, 1) := by decide +kernel
theorem dX10_doesStop_109 : decode cX10_doesStop 109 = .ok (.invokevirtual 271, 3) := by decide +kernel
theorem dX10_doesStop_112 : decode cX10_doesStop 112 = .ok (.ifCond .eq 7, 3) := by decide +kernel
theorem dX10_doesStop_115 : decode cX10_doesStop 115 = .ok (.iconst 1, 1) := by decide +kernel
theorem dX10_doesStop_116 : decode cX10_doesStop 116 = .ok (.goto 4, 3) := by decide +kernel
theorem dX10_doesStop_119 : decode cX10_doesStop 119 = .ok (.iconst 0, 1) := by decide +kernel
theorem dX10_doesStop_120 : decode cX10_doesStop 120 = .ok (.ireturn, 1) := by decide +kernel
theorem dX10_doesStop_121 : decode cX10_doesStop 121 = .ok (.iconst 0, 1) := by decide +kernel
theorem dX10_doesStop_122 : decode cX10_doesStop 122 = .ok (.ireturn, 1) := by decide +kernel
theorem dX10_goesByRule_0 : decode cX10_goesByRule 0 = .ok (.aload_n 0, 1) := by decide +kernel
theorem dX10_goesByRule_1 : decode cX10_goesByRule 1 = .ok (.iconst 1, 1) := by decide +kernel
theorem dX10_goesByRule_2 : decode cX10_goesByRule 2 = .ok (.iconst 1, 1) := by decide +kernel
theorem dX10_goesByRule_3 : decode cX10_goesByRule 3 = .ok (.invokevirtual 157, 3) := by decide +kernel
theorem dX10_goesByRule_6 : decode cX10_goesByRule 6 = .ok (.aload_n 0, 1) := by decide +kernel
theorem dX10_goesByRule_7 : decode cX10_goesByRule 7 = .ok (.iconst 0, 1) := by decide +kernel
theorem dX10_goesByRule_8 : decode cX10_goesByRule 8 = .ok (.putfield 274, 3) := by decide +kernel
theorem dX10_goesByRule_11 : decode cX10_goesByRule 11 = .ok (.iconst 0, 1) := by decide +kernel
theorem dX10_goesByRule_12 : decode cX10_goesByRule 12 = .ok (.istore_n 2, 1) := by decide +kernel
theorem dX10_goesByRule_13 : decode cX10_goesByRule 13 = .ok (.aload_n 0, 1) := by decide +kernel
theorem dX10_goesByRule_14 : decode cX10_goesByRule 14 = .ok (.getfield 127, 3) := by decide +kernel
theorem dX10_goesByRule_17 : decode cX10_goesByRule 17 = .ok (.aload_n 0, 1) := by decide +kernel
theorem dX10_goesByRule_18 : decode cX10_goesByRule 18 = .ok (.invokevirtual 130, 3) := by decide +kernel
theorem dX10_goesByRule_21 : decode cX10_goesByRule 21 = .ok (.if_icmp .ge 52, 3) := by decide +kernel
theorem dX10_goesByRule_24 : decode cX10_goesByRule 24 = .ok (.iload_n 2, 1) := by decide +kernel
theorem dX10_goesByRule_25 : decode cX10_goesByRule 25 = .ok (.iconst 5, 1) := by decide +kernel
theorem dX10_goesByRule_26 : decode cX10_goesByRule 26 = .ok (.if_icmp .ge 15, 3) := by decide +kernel
theorem dX10_goesByRule_29 : decode cX10_goesByRule 29 = .ok (.aload_n 0, 1) := by decide +kernel
theorem dX10_goesByRule_30 : decode cX10_goesByRule 30 = .ok (.iload_n 1, 1) := by decide +kernel
theorem dX10_goesByRule_31 : decode cX10_goesByRule 31 = .ok (.invokevirtual 277, 3) := by decide +kernel
theorem dX10_goesByRule_34 : decode cX10_goesByRule 34 = .ok (.ifCond .eq 7, 3) := by decide +kernel
theorem dX10_goesByRule_37 : decode cX10_goesByRule 37 = .ok (.iconst 1, 1) := by decide +kernel
theorem dX10_goesByRule_38 : decode cX10_goesByRule 38 = .ok (.goto 4, 3) := by decide +kernel
theorem dX10_goesByRule_41 : decode cX10_goesByRule 41 = .ok (.iconst 0, 1) := by decide +kernel
theorem dX10_goesByRule_42 : decode cX10_goesByRule 42 = .ok (.istore_n 3, 1) := by decide +kernel
theorem dX10_goesByRule_43 : decode cX10_goesByRule 43 = .ok (.aload_n 0, 1) := by decide +kernel
theorem dX10_goesByRule_44 : decode cX10_goesByRule 44 = .ok (.iload_n 3, 1) := by decide +kernel
theorem dX10_goesByRule_45 : decode cX10_goesByRule 45 = .ok (.invokevirtual 136, 3) := by decide +kernel
theorem dX10_goesByRule_48 : decode cX10_goesByRule 48 = .ok (.iload_n 3, 1) := by decide +kernel
theorem dX10_goesByRule_49 : decode cX10_goesByRule 49 = .ok (.ifCond .eq 9, 3) := by decide +kernel
theorem dX10_goesByRule_52 : decode cX10_goesByRule 52 = .ok (.iload_n 2, 1) := by decide +kernel
theorem dX10_goesByRule_53 : decode cX10_goesByRule 53 = .ok (.iconst 1, 1) := by decide +kernel
theorem dX10_goesByRule_54 : decode cX10_goesByRule 54 = .ok (.iadd, 1) := by decide +kernel
theorem dX10_goesByRule_55 : decode cX10_goesByRule 55 = .ok (.goto 4, 3) := by decide +kernel
theorem dX10_goesByRule_58 : decode cX10_goesByRule 58 = .ok (.iconst 0, 1) := by decide +kernel
theorem dX10_goesByRule_59 : decode cX10_goesByRule 59 = .ok (.istore_n 2, 1) := by decide +kernel
theorem dX10_goesByRule_60 : decode cX10_goesByRule 60 = .ok (.aload_n 0, 1) := by decide +kernel
theorem dX10_goesByRule_61 : decode cX10_goesByRule 61 = .ok (.dup, 1) := by decide +kernel
theorem dX10_goesByRule_62 : decode cX10_goesByRule 62 = .ok (.getfield 274, 3) := by decide +kernel
theorem dX10_goesByRule_65 : decode cX10_goesByRule 65 = .ok (.iconst 1, 1) := by decide +kernel
theorem dX10_goesByRule_66 : decode cX10_goesByRule 66 = .ok (.iadd, 1) := by decide +kernel
theorem dX10_goesByRule_67 : decode cX10_goesByRule 67 = .ok (.putfield 274, 3) := by decide +kernel
theorem dX10_goesByRule_70 : decode cX10_goesByRule 70 = .ok (.goto (-57), 3) := by decide +kernel
theorem dX10_goesByRule_73 : decode cX10_goesByRule 73 = .ok (.aload_n 0, 1) := by decide +kernel
theorem dX10_goesByRule_74 : decode cX10_goesByRule 74 = .ok (.aload_n 0, 1) := by decide +kernel
theorem dX10_goesByRule_75 : decode cX10_goesByRule 75 = .ok (.getfield 124, 3) := by decide +kernel
theorem dX10_goesByRule_78 : decode cX10_goesByRule 78 = .ok (.invokestatic 231, 3) := by decide +kernel
theorem dX10_goesByRule_81 : decode cX10_goesByRule 81 = .ok (.putfield 280, 3) := by decide +kernel
theorem dX10_goesByRule_84 : decode cX10_goesByRule 84 = .ok (.aload_n 0, 1) := by decide +kernel
theorem dX10_goesByRule_85 : decode cX10_goesByRule 85 = .ok (.iconst 1, 1) := by decide +kernel
theorem dX10_goesByRule_86 : decode cX10_goesByRule 86 = .ok (.iconst 0, 1) := by decide +kernel
theorem dX10_goesByRule_87 : decode cX10_goesByRule 87 = .ok (.invokevirtual 157, 3) := by decide +kernel
theorem dX10_goesByRule_90 : decode cX10_goesByRule 90 = .ok (.return_, 1) := by decide +kernel
theorem dX10_rule_0 : decode cX10_rule 0 = .ok (.iload_n 1, 1) := by decide +kernel
theorem dX10_rule_1 : decode cX10_rule 1 = .ok (.iconst 0, 1) := by decide +kernel
theorem dX10_rule_2 : decode cX10_rule 2 = .ok (.iconst 4, 1) := by decide +kernel
theorem dX10_rule_3 : decode cX10_rule 3 = .ok (.invokestatic 110, 3) := by decide +kernel
theorem dX10_rule_6 : decode cX10_rule 6 = .ok (.ifCond .eq 12, 3) := by decide +kernel
theorem dX10_rule_9 : decode cX10_rule 9 = .ok (.iload_n 2, 1) := by decide +kernel
theorem dX10_rule_10 : decode cX10_rule 10 = .ok (.iconst 0, 1) := by decide +kernel
theorem dX10_rule_11 : decode cX10_rule 11 = .ok (.iconst 1, 1) := by decide +kernel
theorem dX10_rule_12 : decode cX10_rule 12 = .ok (.invokestatic 110, 3) := by decide +kernel
theorem dX10_rule_15 : decode cX10_rule 15 = .ok (.ifCond .ne 10, 3) := by decide +kernel
theorem dX10_rule_18 : decode cX10_rule 18 = .ok (.aload_n 0, 1) := by decide +kernel
theorem dX10_rule_19 : decode cX10_rule 19 = .ok (.bipush (-2), 2) := by decide +kernel
theorem dX10_rule_21 : decode cX10_rule 21 = .ok (.invokevirtual 99, 3) := by decide +kernel
theorem dX10_rule_24 : decode cX10_rule 24 = .ok (.ireturn, 1) := by decide +kernel
theorem dX10_rule_25 : decode cX10_rule 25 = .ok (.aload_n 0, 1) := by decide +kernel
theorem dX10_rule_26 : decode cX10_rule 26 = .ok (.iload_n 1, 1) := by decide +kernel
theorem dX10_rule_27 : decode cX10_rule 27 = .ok (.invokevirtual 283, 3) := by decide +kernel
theorem dX10_rule_30 : decode cX10_rule 30 = .ok (.iload_n 2, 1) := by decide +kernel
theorem dX10_rule_31 : decode cX10_rule 31 = .ok (.ifCond .ne 10, 3) := by decide +kernel
theorem dX10_rule_34 : decode cX10_rule 34 = .ok (.aload_n 0, 1) := by decide +kernel
theorem dX10_rule_35 : decode cX10_rule 35 = .ok (.getfield 280, 3) := by decide +kernel
theorem dX10_rule_38 : decode cX10_rule 38 = .ok (.goto 7, 3) := by decide +kernel
theorem dX10_rule_41 : decode cX10_rule 41 = .ok (.aload_n 0, 1) := by decide +kernel
theorem dX10_rule_42 : decode cX10_rule 42 = .ok (.getfield 274, 3) := by decide +kernel
theorem dX10_rule_45 : decode cX10_rule 45 = .ok (.ireturn, 1) := by decide +kernel
theorem dX10_best_0 : decode cX10_best 0 = .ok (.iconst 0, 1) := by decide +kernel
theorem dX10_best_1 : decode cX10_best 1 = .ok (.istore_n 1, 1) := by decide +kernel
theorem dX10_best_2 : decode cX10_best 2 = .ok (.aload_n 0, 1) := by decide +kernel
theorem dX10_best_3 : decode cX10_best 3 = .ok (.iconst 0, 1) := by decide +kernel
theorem dX10_best_4 : decode cX10_best 4 = .ok (.invokevirtual 283, 3) := by decide +kernel
theorem dX10_best_7 : decode cX10_best 7 = .ok (.aload_n 0, 1) := by decide +kernel
theorem dX10_best_8 : decode cX10_best 8 = .ok (.getfield 280, 3) := by decide +kernel
theorem dX10_best_11 : decode cX10_best 11 = .ok (.istore_n 2, 1) := by decide +kernel
theorem dX10_best_12 : decode cX10_best 12 = .ok (.aload_n 0, 1) := by decide +kernel
theorem dX10_best_13 : decode cX10_best 13 = .ok (.getfield 274, 3) := by decide +kernel
theorem dX10_best_16 : decode cX10_best 16 = .ok (.istore_n 3, 1) := by decide +kernel
theorem dX10_best_17 : decode cX10_best 17 = .ok (.iconst 1, 1) := by decide +kernel
theorem dX10_best_18 : decode cX10_best 18 = .ok (.istore 4, 2) := by decide +kernel
theorem dX10_best_20 : decode cX10_best 20 = .ok (.iload 4, 2) := by decide +kernel
theorem dX10_best_22 : decode cX10_best 22 = .ok (.iconst 5, 1) := by decide +kernel
theorem dX10_best_23 : decode cX10_best 23 = .ok (.if_icmp .ge 55, 3) := by decide +kernel
theorem dX10_best_26 : decode cX10_best 26 = .ok (.aload_n 0, 1) := by decide +kernel
theorem dX10_best_27 : decode cX10_best 27 = .ok (.iload 4, 2) := by decide +kernel
theorem dX10_best_29 : decode cX10_best 29 = .ok (.invokevirtual 283, 3) := by decide +kernel
theorem dX10_best_32 : decode cX10_best 32 = .ok (.aload_n 0, 1) := by decide +kernel
theorem dX10_best_33 : decode cX10_best 33 = .ok (.getfield 280, 3) := by decide +kernel
theorem dX10_best_36 : decode cX10_best 36 = .ok (.iload_n 2, 1) := by decide +kernel
theorem dX10_best_37 : decode cX10_best 37 = .ok (.if_icmp .lt 35, 3) := by decide +kernel
theorem dX10_best_40 : decode cX10_best 40 = .ok (.aload_n 0, 1) := by decide +kernel
theorem dX10_best_41 : decode cX10_best 41 = .ok (.getfield 280, 3) := by decide +kernel
theorem dX10_best_44 : decode cX10_best 44 = .ok (.iload_n 2, 1) := by decide +kernel
theorem dX10_best_45 : decode cX10_best 45 = .ok (.if_icmp .ne 14, 3) := by decide +kernel
theorem dX10_best_48 : decode cX10_best 48 = .ok (.aload_n 0, 1) := by decide +kernel
theorem dX10_best_49 : decode cX10_best 49 = .ok (.getfield 274, 3) := by decide +kernel
theorem dX10_best_52 : decode cX10_best 52 = .ok (.iload_n 3, 1) := by decide +kernel
theorem dX10_best_53 : decode cX10_best 53 = .ok (.if_icmp .lt 6, 3) := by decide +kernel
theorem dX10_best_56 : decode cX10_best 56 = .ok (.goto 16, 3) := by decide +kernel
theorem dX10_best_59 : decode cX10_best 59 = .ok (.iload 4, 2) := by decide +kernel
theorem dX10_best_61 : decode cX10_best 61 = .ok (.istore_n 1, 1) := by decide +kernel
theorem dX10_best_62 : decode cX10_best 62 = .ok (.aload_n 0, 1) := by decide +kernel
theorem dX10_best_63 : decode cX10_best 63 = .ok (.getfield 280, 3) := by decide +kernel
theorem dX10_best_66 : decode cX10_best 66 = .ok (.istore_n 2, 1) := by decide +kernel
theorem dX10_best_67 : decode cX10_best 67 = .ok (.aload_n 0, 1) := by decide +kernel
theorem dX10_best_68 : decode cX10_best 68 = .ok (.getfield 274, 3) := by decide +kernel
theorem dX10_best_71 : decode cX10_best 71 = .ok (.istore_n 3, 1) := by decide +kernel
theorem dX10_best_72 : decode cX10_best 72 = .ok (.iinc 4 1, 3) := by decide +kernel
theorem dX10_best_75 : decode cX10_best 75 = .ok (.goto (-55), 3) := by decide +kernel
theorem dX10_best_78 : decode cX10_best 78 = .ok (.iload_n 1, 1) := by decide +kernel
theorem dX10_best_79 : decode cX10_best 79 = .ok (.ireturn, 1) := by decide +kernel
theorem dX10_calm_0 : decode cX10_calm 0 = .ok (.iload_n 1, 1) := by decide +kernel
theorem dX10_calm_1 : decode cX10_calm 1 = .ok (.iconst 1, 1) := by decide +kernel
theorem dX10_calm_2 : decode cX10_calm 2 = .ok (.if_icmp .lt 7, 3) := by decide +kernel
theorem dX10_calm_5 : decode cX10_calm 5 = .ok (.iload_n 2, 1) := by decide +kernel
theorem dX10_calm_6 : decode cX10_calm 6 = .ok (.ifCond .ge 8, 3) := by decide +kernel
theorem dX10_calm_9 : decode cX10_calm 9 = .ok (.bipush (-4), 2) := by decide +kernel
theorem dX10_calm_11 : decode cX10_calm 11 = .ok (.goto 21, 3) := by decide +kernel
theorem dX10_calm_14 : decode cX10_calm 14 = .ok (.iload_n 1, 1) := by decide +kernel
theorem dX10_calm_15 : decode cX10_calm 15 = .ok (.bipush 99, 2) := by decide +kernel
theorem dX10_calm_17 : decode cX10_calm 17 = .ok (.if_icmp .gt 9, 3) := by decide +kernel
theorem dX10_calm_20 : decode cX10_calm 20 = .ok (.iload_n 2, 1) := by decide +kernel
theorem dX10_calm_21 : decode cX10_calm 21 = .ok (.bipush 99, 2) := by decide +kernel
theorem dX10_calm_23 : decode cX10_calm 23 = .ok (.if_icmp .le 8, 3) := by decide +kernel
theorem dX10_calm_26 : decode cX10_calm 26 = .ok (.bipush (-6), 2) := by decide +kernel
theorem dX10_calm_28 : decode cX10_calm 28 = .ok (.goto 4, 3) := by decide +kernel
theorem dX10_calm_31 : decode cX10_calm 31 = .ok (.iconst 0, 1) := by decide +kernel
theorem dX10_calm_32 : decode cX10_calm 32 = .ok (.istore_n 3, 1) := by decide +kernel
theorem dX10_calm_33 : decode cX10_calm 33 = .ok (.iload_n 3, 1) := by decide +kernel
theorem dX10_calm_34 : decode cX10_calm 34 = .ok (.ifCond .eq 11, 3) := by decide +kernel
theorem dX10_calm_37 : decode cX10_calm 37 = .ok (.aload_n 0, 1) := by decide +kernel
theorem dX10_calm_38 : decode cX10_calm 38 = .ok (.iload_n 3, 1) := by decide +kernel
theorem dX10_calm_39 : decode cX10_calm 39 = .ok (.invokevirtual 99, 3) := by decide +kernel
theorem dX10_calm_42 : decode cX10_calm 42 = .ok (.goto 14, 3) := by decide +kernel
theorem dX10_calm_45 : decode cX10_calm 45 = .ok (.iload_n 1, 1) := by decide +kernel
theorem dX10_calm_46 : decode cX10_calm 46 = .ok (.iconst 2, 1) := by decide +kernel
theorem dX10_calm_47 : decode cX10_calm 47 = .ok (.iload_n 2, 1) := by decide +kernel
theorem dX10_calm_48 : decode cX10_calm 48 = .ok (.imul, 1) := by decide +kernel
theorem dX10_calm_49 : decode cX10_calm 49 = .ok (.iadd, 1) := by decide +kernel
theorem dX10_calm_50 : decode cX10_calm 50 = .ok (.iconst 2, 1) := by decide +kernel
theorem dX10_calm_51 : decode cX10_calm 51 = .ok (.iload_n 2, 1) := by decide +kernel
theorem dX10_calm_52 : decode cX10_calm 52 = .ok (.imul, 1) := by decide +kernel
theorem dX10_calm_53 : decode cX10_calm 53 = .ok (.iconst 1, 1) := by decide +kernel
theorem dX10_calm_54 : decode cX10_calm 54 = .ok (.iadd, 1) := by decide +kernel
theorem dX10_calm_55 : decode cX10_calm 55 = .ok (.idiv, 1) := by decide +kernel
theorem dX10_calm_56 : decode cX10_calm 56 = .ok (.ireturn, 1) := by decide +kernel
theorem dX10_spreads_0 : decode cX10_spreads 0 = .ok (.iload_n 1, 1) := by decide +kernel
theorem dX10_spreads_1 : decode cX10_spreads 1 = .ok (.iconst 1, 1) := by decide +kernel
theorem dX10_spreads_2 : decode cX10_spreads 2 = .ok (.if_icmp .lt 7, 3) := by decide +kernel
theorem dX10_spreads_5 : decode cX10_spreads 5 = .ok (.iload_n 2, 1) := by decide +kernel
theorem dX10_spreads_6 : decode cX10_spreads 6 = .ok (.ifCond .ge 8, 3) := by decide +kernel
theorem dX10_spreads_9 : decode cX10_spreads 9 = .ok (.bipush (-4), 2) := by decide +kernel
theorem dX10_spreads_11 : decode cX10_spreads 11 = .ok (.goto 30, 3) := by decide +kernel
theorem dX10_spreads_14 : decode cX10_spreads 14 = .ok (.iload_n 1, 1) := by decide +kernel
theorem dX10_spreads_15 : decode cX10_spreads 15 = .ok (.bipush 99, 2) := by decide +kernel
theorem dX10_spreads_17 : decode cX10_spreads 17 = .ok (.if_icmp .gt 9, 3) := by decide +kernel
theorem dX10_spreads_20 : decode cX10_spreads 20 = .ok (.iload_n 2, 1) := by decide +kernel
theorem dX10_spreads_21 : decode cX10_spreads 21 = .ok (.bipush 99, 2) := by decide +kernel
theorem dX10_spreads_23 : decode cX10_spreads 23 = .ok (.if_icmp .le 8, 3) := by decide +kernel
theorem dX10_spreads_26 : decode cX10_spreads 26 = .ok (.bipush (-6), 2) := by decide +kernel
theorem dX10_spreads_28 : decode cX10_spreads 28 = .ok (.goto 13, 3) := by decide +kernel
theorem dX10_spreads_31 : decode cX10_spreads 31 = .ok (.iload_n 2, 1) := by decide +kernel
theorem dX10_spreads_32 : decode cX10_spreads 32 = .ok (.iload_n 1, 1) := by decide +kernel
theorem dX10_spreads_33 : decode cX10_spreads 33 = .ok (.if_icmp .lt 7, 3) := by decide +kernel
theorem dX10_spreads_36 : decode cX10_spreads 36 = .ok (.iconst (-1), 1) := by decide +kernel
theorem dX10_spreads_37 : decode cX10_spreads 37 = .ok (.goto 4, 3) := by decide +kernel
theorem dX10_spreads_40 : decode cX10_spreads 40 = .ok (.iconst 0, 1) := by decide +kernel
theorem dX10_spreads_41 : decode cX10_spreads 41 = .ok (.istore_n 3, 1) := by decide +kernel
theorem dX10_spreads_42 : decode cX10_spreads 42 = .ok (.iload_n 3, 1) := by decide +kernel
theorem dX10_spreads_43 : decode cX10_spreads 43 = .ok (.ifCond .eq 9, 3) := by decide +kernel
theorem dX10_spreads_46 : decode cX10_spreads 46 = .ok (.aload_n 0, 1) := by decide +kernel
theorem dX10_spreads_47 : decode cX10_spreads 47 = .ok (.iload_n 3, 1) := by decide +kernel
theorem dX10_spreads_48 : decode cX10_spreads 48 = .ok (.invokevirtual 99, 3) := by decide +kernel
theorem dX10_spreads_51 : decode cX10_spreads 51 = .ok (.ireturn, 1) := by decide +kernel
theorem dX10_spreads_52 : decode cX10_spreads 52 = .ok (.iload_n 2, 1) := by decide +kernel
theorem dX10_spreads_53 : decode cX10_spreads 53 = .ok (.iload_n 1, 1) := by decide +kernel
theorem dX10_spreads_54 : decode cX10_spreads 54 = .ok (.iconst 1, 1) := by decide +kernel
theorem dX10_spreads_55 : decode cX10_spreads 55 = .ok (.isub, 1) := by decide +kernel
theorem dX10_spreads_56 : decode cX10_spreads 56 = .ok (.iload_n 2, 1) := by decide +kernel
theorem dX10_spreads_57 : decode cX10_spreads 57 = .ok (.isub, 1) := by decide +kernel
theorem dX10_spreads_58 : decode cX10_spreads 58 = .ok (.if_icmp .le 7, 3) := by decide +kernel
theorem dX10_spreads_61 : decode cX10_spreads 61 = .ok (.iload_n 2, 1) := by decide +kernel
theorem dX10_spreads_62 : decode cX10_spreads 62 = .ok (.goto 8, 3) := by decide +kernel
theorem dX10_spreads_65 : decode cX10_spreads 65 = .ok (.iload_n 1, 1) := by decide +kernel
theorem dX10_spreads_66 : decode cX10_spreads 66 = .ok (.iconst 1, 1) := by decide +kernel
theorem dX10_spreads_67 : decode cX10_spreads 67 = .ok (.isub, 1) := by decide +kernel
theorem dX10_spreads_68 : decode cX10_spreads 68 = .ok (.iload_n 2, 1) := by decide +kernel
theorem dX10_spreads_69 : decode cX10_spreads 69 = .ok (.isub, 1) := by decide +kernel
theorem dX10_spreads_70 : decode cX10_spreads 70 = .ok (.ireturn, 1) := by decide +kernel
theorem dX10_tenthsOut_0 : decode cX10_tenthsOut 0 = .ok (.aload_n 0, 1) := by decide +kernel
theorem dX10_tenthsOut_1 : decode cX10_tenthsOut 1 = .ok (.getfield 16, 3) := by decide +kernel
theorem dX10_tenthsOut_4 : decode cX10_tenthsOut 4 = .ok (.iload_n 1, 1) := by decide +kernel
theorem dX10_tenthsOut_5 : decode cX10_tenthsOut 5 = .ok (.iaload, 1) := by decide +kernel
theorem dX10_tenthsOut_6 : decode cX10_tenthsOut 6 = .ok (.iconst 3, 1) := by decide +kernel
theorem dX10_tenthsOut_7 : decode cX10_tenthsOut 7 = .ok (.if_icmp .ne 5, 3) := by decide +kernel
theorem dX10_tenthsOut_10 : decode cX10_tenthsOut 10 = .ok (.iconst 0, 1) := by decide +kernel
theorem dX10_tenthsOut_11 : decode cX10_tenthsOut 11 = .ok (.ireturn, 1) := by decide +kernel
theorem dX10_tenthsOut_12 : decode cX10_tenthsOut 12 = .ok (.aload_n 0, 1) := by decide +kernel
theorem dX10_tenthsOut_13 : decode cX10_tenthsOut 13 = .ok (.iload_n 1, 1) := by decide +kernel
theorem dX10_tenthsOut_14 : decode cX10_tenthsOut 14 = .ok (.aload_n 0, 1) := by decide +kernel
theorem dX10_tenthsOut_15 : decode cX10_tenthsOut 15 = .ok (.getfield 127, 3) := by decide +kernel
theorem dX10_tenthsOut_18 : decode cX10_tenthsOut 18 = .ok (.invokevirtual 197, 3) := by decide +kernel
theorem dX10_tenthsOut_21 : decode cX10_tenthsOut 21 = .ok (.aload_n 0, 1) := by decide +kernel
theorem dX10_tenthsOut_22 : decode cX10_tenthsOut 22 = .ok (.getfield 16, 3) := by decide +kernel
theorem dX10_tenthsOut_25 : decode cX10_tenthsOut 25 = .ok (.iload_n 1, 1) := by decide +kernel
theorem dX10_tenthsOut_26 : decode cX10_tenthsOut 26 = .ok (.iaload, 1) := by decide +kernel
theorem dX10_tenthsOut_27 : decode cX10_tenthsOut 27 = .ok (.aload_n 0, 1) := by decide +kernel
theorem dX10_tenthsOut_28 : decode cX10_tenthsOut 28 = .ok (.getfield 19, 3) := by decide +kernel
theorem dX10_tenthsOut_31 : decode cX10_tenthsOut 31 = .ok (.iload_n 1, 1) := by decide +kernel
theorem dX10_tenthsOut_32 : decode cX10_tenthsOut 32 = .ok (.iaload, 1) := by decide +kernel
theorem dX10_tenthsOut_33 : decode cX10_tenthsOut 33 = .ok (.invokestatic 200, 3) := by decide +kernel
theorem dX10_tenthsOut_36 : decode cX10_tenthsOut 36 = .ok (.isub, 1) := by decide +kernel
theorem dX10_tenthsOut_37 : decode cX10_tenthsOut 37 = .ok (.iconst 2, 1) := by decide +kernel
theorem dX10_tenthsOut_38 : decode cX10_tenthsOut 38 = .ok (.iadd, 1) := by decide +kernel
theorem dX10_tenthsOut_39 : decode cX10_tenthsOut 39 = .ok (.istore_n 2, 1) := by decide +kernel
theorem dX10_tenthsOut_40 : decode cX10_tenthsOut 40 = .ok (.iload_n 2, 1) := by decide +kernel
theorem dX10_tenthsOut_41 : decode cX10_tenthsOut 41 = .ok (.ifCond .ge 7, 3) := by decide +kernel
theorem dX10_tenthsOut_44 : decode cX10_tenthsOut 44 = .ok (.iconst 0, 1) := by decide +kernel
theorem dX10_tenthsOut_45 : decode cX10_tenthsOut 45 = .ok (.goto 15, 3) := by decide +kernel
theorem dX10_tenthsOut_48 : decode cX10_tenthsOut 48 = .ok (.iload_n 2, 1) := by decide +kernel
theorem dX10_tenthsOut_49 : decode cX10_tenthsOut 49 = .ok (.bipush 9, 2) := by decide +kernel
theorem dX10_tenthsOut_51 : decode cX10_tenthsOut 51 = .ok (.if_icmp .le 8, 3) := by decide +kernel
theorem dX10_tenthsOut_54 : decode cX10_tenthsOut 54 = .ok (.bipush 9, 2) := by decide +kernel
theorem dX10_tenthsOut_56 : decode cX10_tenthsOut 56 = .ok (.goto 4, 3) := by decide +kernel
theorem dX10_tenthsOut_59 : decode cX10_tenthsOut 59 = .ok (.iload_n 2, 1) := by decide +kernel
theorem dX10_tenthsOut_60 : decode cX10_tenthsOut 60 = .ok (.ireturn, 1) := by decide +kernel
theorem dX10_stays_0 : decode cX10_stays 0 = .ok (.lconst 1, 1) := by decide +kernel
theorem dX10_stays_1 : decode cX10_stays 1 = .ok (.lstore_n 3, 1) := by decide +kernel
theorem dX10_stays_2 : decode cX10_stays 2 = .ok (.iconst 0, 1) := by decide +kernel
theorem dX10_stays_3 : decode cX10_stays 3 = .ok (.istore 5, 2) := by decide +kernel
theorem dX10_stays_5 : decode cX10_stays 5 = .ok (.iload 5, 2) := by decide +kernel
theorem dX10_stays_7 : decode cX10_stays 7 = .ok (.aload_n 0, 1) := by decide +kernel
theorem dX10_stays_8 : decode cX10_stays 8 = .ok (.getfield 88, 3) := by decide +kernel
theorem dX10_stays_11 : decode cX10_stays 11 = .ok (.if_icmp .ge 56, 3) := by decide +kernel
theorem dX10_stays_14 : decode cX10_stays 14 = .ok (.aload_n 0, 1) := by decide +kernel
theorem dX10_stays_15 : decode cX10_stays 15 = .ok (.iload 5, 2) := by decide +kernel
theorem dX10_stays_17 : decode cX10_stays 17 = .ok (.invokevirtual 286, 3) := by decide +kernel
theorem dX10_stays_20 : decode cX10_stays 20 = .ok (.istore 6, 2) := by decide +kernel
theorem dX10_stays_22 : decode cX10_stays 22 = .ok (.lload_n 3, 1) := by decide +kernel
theorem dX10_stays_23 : decode cX10_stays 23 = .ok (.iload_n 1, 1) := by decide +kernel
theorem dX10_stays_24 : decode cX10_stays 24 = .ok (.iload 5, 2) := by decide +kernel
theorem dX10_stays_26 : decode cX10_stays 26 = .ok (.invokestatic 147, 3) := by decide +kernel
theorem dX10_stays_29 : decode cX10_stays 29 = .ok (.ifCond .ne 9, 3) := by decide +kernel
theorem dX10_stays_32 : decode cX10_stays 32 = .ok (.ldc2_w 289, 3) := by decide +kernel
theorem dX10_stays_35 : decode cX10_stays 35 = .ok (.goto 24, 3) := by decide +kernel
theorem dX10_stays_38 : decode cX10_stays 38 = .ok (.iload_n 2, 1) := by decide +kernel
theorem dX10_stays_39 : decode cX10_stays 39 = .ok (.iload 5, 2) := by decide +kernel
theorem dX10_stays_41 : decode cX10_stays 41 = .ok (.invokestatic 147, 3) := by decide +kernel
theorem dX10_stays_44 : decode cX10_stays 44 = .ok (.ifCond .eq 12, 3) := by decide +kernel
theorem dX10_stays_47 : decode cX10_stays 47 = .ok (.bipush 10, 2) := by decide +kernel
theorem dX10_stays_49 : decode cX10_stays 49 = .ok (.iload 6, 2) := by decide +kernel
theorem dX10_stays_51 : decode cX10_stays 51 = .ok (.isub, 1) := by decide +kernel
theorem dX10_stays_52 : decode cX10_stays 52 = .ok (.i2l, 1) := by decide +kernel
theorem dX10_stays_53 : decode cX10_stays 53 = .ok (.goto 6, 3) := by decide +kernel
theorem dX10_stays_56 : decode cX10_stays 56 = .ok (.iload 6, 2) := by decide +kernel
theorem dX10_stays_58 : decode cX10_stays 58 = .ok (.i2l, 1) := by decide +kernel
theorem dX10_stays_59 : decode cX10_stays 59 = .ok (.lmul, 1) := by decide +kernel
theorem dX10_stays_60 : decode cX10_stays 60 = .ok (.lstore_n 3, 1) := by decide +kernel
theorem dX10_stays_61 : decode cX10_stays 61 = .ok (.iinc 5 1, 3) := by decide +kernel
theorem dX10_stays_64 : decode cX10_stays 64 = .ok (.goto (-59), 3) := by decide +kernel
theorem dX10_stays_67 : decode cX10_stays 67 = .ok (.lload_n 3, 1) := by decide +kernel
theorem dX10_stays_68 : decode cX10_stays 68 = .ok (.lreturn, 1) := by decide +kernel
theorem dX10_goesChances_0 : decode cX10_goesChances 0 = .ok (.iconst 0, 1) := by decide +kernel
theorem dX10_goesChances_1 : decode cX10_goesChances 1 = .ok (.istore_n 1, 1) := by decide +kernel
theorem dX10_goesChances_2 : decode cX10_goesChances 2 = .ok (.iload_n 1, 1) := by decide +kernel
theorem dX10_goesChances_3 : decode cX10_goesChances 3 = .ok (.bipush 16, 2) := by decide +kernel
theorem dX10_goesChances_5 : decode cX10_goesChances 5 = .ok (.if_icmp .ge 16, 3) := by decide +kernel
theorem dX10_goesChances_8 : decode cX10_goesChances 8 = .ok (.aload_n 0, 1) := by decide +kernel
theorem dX10_goesChances_9 : decode cX10_goesChances 9 = .ok (.getfield 74, 3) := by decide +kernel
theorem dX10_goesChances_12 : decode cX10_goesChances 12 = .ok (.iload_n 1, 1) := by decide +kernel
theorem dX10_goesChances_13 : decode cX10_goesChances 13 = .ok (.lconst 0, 1) := by decide +kernel
theorem dX10_goesChances_14 : decode cX10_goesChances 14 = .ok (.lastore, 1) := by decide +kernel
theorem dX10_goesChances_15 : decode cX10_goesChances 15 = .ok (.iinc 1 1, 3) := by decide +kernel
theorem dX10_goesChances_18 : decode cX10_goesChances 18 = .ok (.goto (-16), 3) := by decide +kernel
theorem dX10_goesChances_21 : decode cX10_goesChances 21 = .ok (.iconst 0, 1) := by decide +kernel
theorem dX10_goesChances_22 : decode cX10_goesChances 22 = .ok (.istore_n 1, 1) := by decide +kernel
theorem dX10_goesChances_23 : decode cX10_goesChances 23 = .ok (.iload_n 1, 1) := by decide +kernel
theorem dX10_goesChances_24 : decode cX10_goesChances 24 = .ok (.sipush 256, 3) := by decide +kernel
theorem dX10_goesChances_27 : decode cX10_goesChances 27 = .ok (.if_icmp .ge 67, 3) := by decide +kernel
theorem dX10_goesChances_30 : decode cX10_goesChances 30 = .ok (.iload_n 1, 1) := by decide +kernel
theorem dX10_goesChances_31 : decode cX10_goesChances 31 = .ok (.bipush 16, 2) := by decide +kernel
theorem dX10_goesChances_33 : decode cX10_goesChances 33 = .ok (.idiv, 1) := by decide +kernel
theorem dX10_goesChances_34 : decode cX10_goesChances 34 = .ok (.istore_n 2, 1) := by decide +kernel
theorem dX10_goesChances_35 : decode cX10_goesChances 35 = .ok (.iload_n 1, 1) := by decide +kernel
theorem dX10_goesChances_36 : decode cX10_goesChances 36 = .ok (.bipush 16, 2) := by decide +kernel
theorem dX10_goesChances_38 : decode cX10_goesChances 38 = .ok (.irem, 1) := by decide +kernel
theorem dX10_goesChances_39 : decode cX10_goesChances 39 = .ok (.istore_n 3, 1) := by decide +kernel
theorem dX10_goesChances_40 : decode cX10_goesChances 40 = .ok (.aload_n 0, 1) := by decide +kernel
theorem dX10_goesChances_41 : decode cX10_goesChances 41 = .ok (.getfield 70, 3) := by decide +kernel
theorem dX10_goesChances_44 : decode cX10_goesChances 44 = .ok (.iload_n 2, 1) := by decide +kernel
theorem dX10_goesChances_45 : decode cX10_goesChances 45 = .ok (.laload, 1) := by decide +kernel
theorem dX10_goesChances_46 : decode cX10_goesChances 46 = .ok (.lconst 0, 1) := by decide +kernel
theorem dX10_goesChances_47 : decode cX10_goesChances 47 = .ok (.lcmp, 1) := by decide +kernel
theorem dX10_goesChances_48 : decode cX10_goesChances 48 = .ok (.ifCond .eq 40, 3) := by decide +kernel
theorem dX10_goesChances_51 : decode cX10_goesChances 51 = .ok (.iload_n 3, 1) := by decide +kernel
theorem dX10_goesChances_52 : decode cX10_goesChances 52 = .ok (.iload_n 2, 1) := by decide +kernel
theorem dX10_goesChances_53 : decode cX10_goesChances 53 = .ok (.iconst (-1), 1) := by decide +kernel
theorem dX10_goesChances_54 : decode cX10_goesChances 54 = .ok (.ixor, 1) := by decide +kernel
theorem dX10_goesChances_55 : decode cX10_goesChances 55 = .ok (.iand, 1) := by decide +kernel
theorem dX10_goesChances_56 : decode cX10_goesChances 56 = .ok (.ifCond .eq 6, 3) := by decide +kernel
theorem dX10_goesChances_59 : decode cX10_goesChances 59 = .ok (.goto 29, 3) := by decide +kernel
theorem dX10_goesChances_62 : decode cX10_goesChances 62 = .ok (.aload_n 0, 1) := by decide +kernel
theorem dX10_goesChances_63 : decode cX10_goesChances 63 = .ok (.getfield 74, 3) := by decide +kernel
theorem dX10_goesChances_66 : decode cX10_goesChances 66 = .ok (.aload_n 0, 1) := by decide +kernel
theorem dX10_goesChances_67 : decode cX10_goesChances 67 = .ok (.iload_n 3, 1) := by decide +kernel
theorem dX10_goesChances_68 : decode cX10_goesChances 68 = .ok (.invokevirtual 215, 3) := by decide +kernel
theorem dX10_goesChances_71 : decode cX10_goesChances 71 = .ok (.dup2, 1) := by decide +kernel
theorem dX10_goesChances_72 : decode cX10_goesChances 72 = .ok (.laload, 1) := by decide +kernel
theorem dX10_goesChances_73 : decode cX10_goesChances 73 = .ok (.aload_n 0, 1) := by decide +kernel
theorem dX10_goesChances_74 : decode cX10_goesChances 74 = .ok (.getfield 70, 3) := by decide +kernel
theorem dX10_goesChances_77 : decode cX10_goesChances 77 = .ok (.iload_n 2, 1) := by decide +kernel
theorem dX10_goesChances_78 : decode cX10_goesChances 78 = .ok (.laload, 1) := by decide +kernel
theorem dX10_goesChances_79 : decode cX10_goesChances 79 = .ok (.aload_n 0, 1) := by decide +kernel
theorem dX10_goesChances_80 : decode cX10_goesChances 80 = .ok (.iload_n 2, 1) := by decide +kernel
theorem dX10_goesChances_81 : decode cX10_goesChances 81 = .ok (.iload_n 3, 1) := by decide +kernel
theorem dX10_goesChances_82 : decode cX10_goesChances 82 = .ok (.invokevirtual 291, 3) := by decide +kernel
theorem dX10_goesChances_85 : decode cX10_goesChances 85 = .ok (.lmul, 1) := by decide +kernel
theorem dX10_goesChances_86 : decode cX10_goesChances 86 = .ok (.ladd, 1) := by decide +kernel
theorem dX10_goesChances_87 : decode cX10_goesChances 87 = .ok (.lastore, 1) := by decide +kernel
theorem dX10_goesChances_88 : decode cX10_goesChances 88 = .ok (.iinc 1 1, 3) := by decide +kernel
theorem dX10_goesChances_91 : decode cX10_goesChances 91 = .ok (.goto (-68), 3) := by decide +kernel
theorem dX10_goesChances_94 : decode cX10_goesChances 94 = .ok (.iconst 0, 1) := by decide +kernel
theorem dX10_goesChances_95 : decode cX10_goesChances 95 = .ok (.istore_n 1, 1) := by decide +kernel
theorem dX10_goesChances_96 : decode cX10_goesChances 96 = .ok (.iload_n 1, 1) := by decide +kernel
theorem dX10_goesChances_97 : decode cX10_goesChances 97 = .ok (.bipush 16, 2) := by decide +kernel
theorem dX10_goesChances_99 : decode cX10_goesChances 99 = .ok (.if_icmp .ge 21, 3) := by decide +kernel
theorem dX10_goesChances_102 : decode cX10_goesChances 102 = .ok (.aload_n 0, 1) := by decide +kernel
theorem dX10_goesChances_103 : decode cX10_goesChances 103 = .ok (.getfield 70, 3) := by decide +kernel
theorem dX10_goesChances_106 : decode cX10_goesChances 106 = .ok (.iload_n 1, 1) := by decide +kernel
theorem dX10_goesChances_107 : decode cX10_goesChances 107 = .ok (.aload_n 0, 1) := by decide +kernel
theorem dX10_goesChances_108 : decode cX10_goesChances 108 = .ok (.getfield 74, 3) := by decide +kernel
theorem dX10_goesChances_111 : decode cX10_goesChances 111 = .ok (.iload_n 1, 1) := by decide +kernel
theorem dX10_goesChances_112 : decode cX10_goesChances 112 = .ok (.laload, 1) := by decide +kernel
theorem dX10_goesChances_113 : decode cX10_goesChances 113 = .ok (.lastore, 1) := by decide +kernel
theorem dX10_goesChances_114 : decode cX10_goesChances 114 = .ok (.iinc 1 1, 3) := by decide +kernel
theorem dX10_goesChances_117 : decode cX10_goesChances 117 = .ok (.goto (-21), 3) := by decide +kernel
theorem dX10_goesChances_120 : decode cX10_goesChances 120 = .ok (.aload_n 0, 1) := by decide +kernel
theorem dX10_goesChances_121 : decode cX10_goesChances 121 = .ok (.dup, 1) := by decide +kernel
theorem dX10_goesChances_122 : decode cX10_goesChances 122 = .ok (.getfield 127, 3) := by decide +kernel
theorem dX10_goesChances_125 : decode cX10_goesChances 125 = .ok (.iconst 1, 1) := by decide +kernel
theorem dX10_goesChances_126 : decode cX10_goesChances 126 = .ok (.iadd, 1) := by decide +kernel
theorem dX10_goesChances_127 : decode cX10_goesChances 127 = .ok (.putfield 127, 3) := by decide +kernel
theorem dX10_goesChances_130 : decode cX10_goesChances 130 = .ok (.return_, 1) := by decide +kernel
theorem dX10_divisor_0 : decode cX10_divisor 0 = .ok (.lload_n 0, 1) := by decide +kernel
theorem dX10_divisor_1 : decode cX10_divisor 1 = .ok (.lstore 4, 2) := by decide +kernel
theorem dX10_divisor_3 : decode cX10_divisor 3 = .ok (.lload_n 2, 1) := by decide +kernel
theorem dX10_divisor_4 : decode cX10_divisor 4 = .ok (.lstore 6, 2) := by decide +kernel
theorem dX10_divisor_6 : decode cX10_divisor 6 = .ok (.lload 6, 2) := by decide +kernel
theorem dX10_divisor_8 : decode cX10_divisor 8 = .ok (.lconst 0, 1) := by decide +kernel
theorem dX10_divisor_9 : decode cX10_divisor 9 = .ok (.lcmp, 1) := by decide +kernel
theorem dX10_divisor_10 : decode cX10_divisor 10 = .ok (.ifCond .eq 21, 3) := by decide +kernel
theorem dX10_divisor_13 : decode cX10_divisor 13 = .ok (.lload 4, 2) := by decide +kernel
theorem dX10_divisor_15 : decode cX10_divisor 15 = .ok (.lload 6, 2) := by decide +kernel
theorem dX10_divisor_17 : decode cX10_divisor 17 = .ok (.lrem, 1) := by decide +kernel
theorem dX10_divisor_18 : decode cX10_divisor 18 = .ok (.lstore 8, 2) := by decide +kernel
theorem dX10_divisor_20 : decode cX10_divisor 20 = .ok (.lload 6, 2) := by decide +kernel
theorem dX10_divisor_22 : decode cX10_divisor 22 = .ok (.lstore 4, 2) := by decide +kernel
theorem dX10_divisor_24 : decode cX10_divisor 24 = .ok (.lload 8, 2) := by decide +kernel
theorem dX10_divisor_26 : decode cX10_divisor 26 = .ok (.lstore 6, 2) := by decide +kernel
theorem dX10_divisor_28 : decode cX10_divisor 28 = .ok (.goto (-22), 3) := by decide +kernel
theorem dX10_divisor_31 : decode cX10_divisor 31 = .ok (.lload 4, 2) := by decide +kernel
theorem dX10_divisor_33 : decode cX10_divisor 33 = .ok (.lreturn, 1) := by decide +kernel
theorem dX10_chances_0 : decode cX10_chances 0 = .ok (.iload_n 1, 1) := by decide +kernel
theorem dX10_chances_1 : decode cX10_chances 1 = .ok (.iconst 0, 1) := by decide +kernel
theorem dX10_chances_2 : decode cX10_chances 2 = .ok (.iconst 3, 1) := by decide +kernel
theorem dX10_chances_3 : decode cX10_chances 3 = .ok (.invokestatic 92, 3) := by decide +kernel
theorem dX10_chances_6 : decode cX10_chances 6 = .ok (.istore 4, 2) := by decide +kernel
theorem dX10_chances_8 : decode cX10_chances 8 = .ok (.iload 4, 2) := by decide +kernel
theorem dX10_chances_10 : decode cX10_chances 10 = .ok (.ifCond .ne 55, 3) := by decide +kernel
theorem dX10_chances_13 : decode cX10_chances 13 = .ok (.iload_n 2, 1) := by decide +kernel
theorem dX10_chances_14 : decode cX10_chances 14 = .ok (.iconst 0, 1) := by decide +kernel
theorem dX10_chances_15 : decode cX10_chances 15 = .ok (.iconst 1, 1) := by decide +kernel
theorem dX10_chances_16 : decode cX10_chances 16 = .ok (.invokestatic 110, 3) := by decide +kernel
theorem dX10_chances_19 : decode cX10_chances 19 = .ok (.ifCond .eq 12, 3) := by decide +kernel
theorem dX10_chances_22 : decode cX10_chances 22 = .ok (.iload_n 3, 1) := by decide +kernel
theorem dX10_chances_23 : decode cX10_chances 23 = .ok (.iconst 0, 1) := by decide +kernel
theorem dX10_chances_24 : decode cX10_chances 24 = .ok (.iconst 1, 1) := by decide +kernel
theorem dX10_chances_25 : decode cX10_chances 25 = .ok (.invokestatic 110, 3) := by decide +kernel
theorem dX10_chances_28 : decode cX10_chances 28 = .ok (.ifCond .ne 8, 3) := by decide +kernel
theorem dX10_chances_31 : decode cX10_chances 31 = .ok (.bipush (-2), 2) := by decide +kernel
theorem dX10_chances_33 : decode cX10_chances 33 = .ok (.goto 30, 3) := by decide +kernel
theorem dX10_chances_36 : decode cX10_chances 36 = .ok (.aload_n 0, 1) := by decide +kernel
theorem dX10_chances_37 : decode cX10_chances 37 = .ok (.getfield 88, 3) := by decide +kernel
theorem dX10_chances_40 : decode cX10_chances 40 = .ok (.iconst 4, 1) := by decide +kernel
theorem dX10_chances_41 : decode cX10_chances 41 = .ok (.if_icmp .gt 16, 3) := by decide +kernel
theorem dX10_chances_44 : decode cX10_chances 44 = .ok (.aload_n 0, 1) := by decide +kernel
theorem dX10_chances_45 : decode cX10_chances 45 = .ok (.getfield 127, 3) := by decide +kernel
theorem dX10_chances_48 : decode cX10_chances 48 = .ok (.iload_n 1, 1) := by decide +kernel
theorem dX10_chances_49 : decode cX10_chances 49 = .ok (.iadd, 1) := by decide +kernel
theorem dX10_chances_50 : decode cX10_chances 50 = .ok (.aload_n 0, 1) := by decide +kernel
theorem dX10_chances_51 : decode cX10_chances 51 = .ok (.invokevirtual 130, 3) := by decide +kernel
theorem dX10_chances_54 : decode cX10_chances 54 = .ok (.if_icmp .le 8, 3) := by decide +kernel
theorem dX10_chances_57 : decode cX10_chances 57 = .ok (.bipush (-3), 2) := by decide +kernel
theorem dX10_chances_59 : decode cX10_chances 59 = .ok (.goto 4, 3) := by decide +kernel
theorem dX10_chances_62 : decode cX10_chances 62 = .ok (.iconst 0, 1) := by decide +kernel
theorem dX10_chances_63 : decode cX10_chances 63 = .ok (.istore 4, 2) := by decide +kernel
theorem dX10_chances_65 : decode cX10_chances 65 = .ok (.iload 4, 2) := by decide +kernel
theorem dX10_chances_67 : decode cX10_chances 67 = .ok (.ifCond .eq 10, 3) := by decide +kernel
theorem dX10_chances_70 : decode cX10_chances 70 = .ok (.aload_n 0, 1) := by decide +kernel
theorem dX10_chances_71 : decode cX10_chances 71 = .ok (.iload 4, 2) := by decide +kernel
theorem dX10_chances_73 : decode cX10_chances 73 = .ok (.invokevirtual 295, 3) := by decide +kernel
theorem dX10_chances_76 : decode cX10_chances 76 = .ok (.lreturn, 1) := by decide +kernel
theorem dX10_chances_77 : decode cX10_chances 77 = .ok (.aload_n 0, 1) := by decide +kernel
theorem dX10_chances_78 : decode cX10_chances 78 = .ok (.getfield 127, 3) := by decide +kernel
theorem dX10_chances_81 : decode cX10_chances 81 = .ok (.istore 5, 2) := by decide +kernel
theorem dX10_chances_83 : decode cX10_chances 83 = .ok (.iconst 0, 1) := by decide +kernel
theorem dX10_chances_84 : decode cX10_chances 84 = .ok (.istore 6, 2) := by decide +kernel
theorem dX10_chances_86 : decode cX10_chances 86 = .ok (.iload 6, 2) := by decide +kernel
theorem dX10_chances_88 : decode cX10_chances 88 = .ok (.bipush 16, 2) := by decide +kernel
theorem dX10_chances_90 : decode cX10_chances 90 = .ok (.if_icmp .ge 30, 3) := by decide +kernel
theorem dX10_chances_93 : decode cX10_chances 93 = .ok (.aload_n 0, 1) := by decide +kernel
theorem dX10_chances_94 : decode cX10_chances 94 = .ok (.getfield 70, 3) := by decide +kernel
theorem dX10_chances_97 : decode cX10_chances 97 = .ok (.iload 6, 2) := by decide +kernel
theorem dX10_chances_99 : decode cX10_chances 99 = .ok (.iload 6, 2) := by decide +kernel
theorem dX10_chances_101 : decode cX10_chances 101 = .ok (.aload_n 0, 1) := by decide +kernel
theorem dX10_chances_102 : decode cX10_chances 102 = .ok (.getfield 124, 3) := by decide +kernel
theorem dX10_chances_105 : decode cX10_chances 105 = .ok (.if_icmp .ne 7, 3) := by decide +kernel
theorem dX10_chances_108 : decode cX10_chances 108 = .ok (.lconst 1, 1) := by decide +kernel
theorem dX10_chances_109 : decode cX10_chances 109 = .ok (.goto 4, 3) := by decide +kernel
theorem dX10_chances_112 : decode cX10_chances 112 = .ok (.lconst 0, 1) := by decide +kernel
theorem dX10_chances_113 : decode cX10_chances 113 = .ok (.lastore, 1) := by decide +kernel
theorem dX10_chances_114 : decode cX10_chances 114 = .ok (.iinc 6 1, 3) := by decide +kernel
theorem dX10_chances_117 : decode cX10_chances 117 = .ok (.goto (-31), 3) := by decide +kernel
theorem dX10_chances_120 : decode cX10_chances 120 = .ok (.lconst 1, 1) := by decide +kernel
theorem dX10_chances_121 : decode cX10_chances 121 = .ok (.lstore 6, 2) := by decide +kernel
theorem dX10_chances_123 : decode cX10_chances 123 = .ok (.iconst 0, 1) := by decide +kernel
theorem dX10_chances_124 : decode cX10_chances 124 = .ok (.istore 8, 2) := by decide +kernel
theorem dX10_chances_126 : decode cX10_chances 126 = .ok (.iload 8, 2) := by decide +kernel
theorem dX10_chances_128 : decode cX10_chances 128 = .ok (.iload_n 1, 1) := by decide +kernel
theorem dX10_chances_129 : decode cX10_chances 129 = .ok (.if_icmp .ge 39, 3) := by decide +kernel
theorem dX10_chances_132 : decode cX10_chances 132 = .ok (.aload_n 0, 1) := by decide +kernel
theorem dX10_chances_133 : decode cX10_chances 133 = .ok (.invokevirtual 299, 3) := by decide +kernel
theorem dX10_chances_136 : decode cX10_chances 136 = .ok (.iconst 0, 1) := by decide +kernel
theorem dX10_chances_137 : decode cX10_chances 137 = .ok (.istore 9, 2) := by decide +kernel
theorem dX10_chances_139 : decode cX10_chances 139 = .ok (.iload 9, 2) := by decide +kernel
theorem dX10_chances_141 : decode cX10_chances 141 = .ok (.aload_n 0, 1) := by decide +kernel
theorem dX10_chances_142 : decode cX10_chances 142 = .ok (.getfield 88, 3) := by decide +kernel
theorem dX10_chances_145 : decode cX10_chances 145 = .ok (.if_icmp .ge 17, 3) := by decide +kernel
theorem dX10_chances_148 : decode cX10_chances 148 = .ok (.lload 6, 2) := by decide +kernel
theorem dX10_chances_150 : decode cX10_chances 150 = .ok (.ldc2_w 289, 3) := by decide +kernel
theorem dX10_chances_153 : decode cX10_chances 153 = .ok (.lmul, 1) := by decide +kernel
theorem dX10_chances_154 : decode cX10_chances 154 = .ok (.lstore 6, 2) := by decide +kernel
theorem dX10_chances_156 : decode cX10_chances 156 = .ok (.iinc 9 1, 3) := by decide +kernel
theorem dX10_chances_159 : decode cX10_chances 159 = .ok (.goto (-20), 3) := by decide +kernel
theorem dX10_chances_162 : decode cX10_chances 162 = .ok (.iinc 8 1, 3) := by decide +kernel
theorem dX10_chances_165 : decode cX10_chances 165 = .ok (.goto (-39), 3) := by decide +kernel
theorem dX10_chances_168 : decode cX10_chances 168 = .ok (.aload_n 0, 1) := by decide +kernel
theorem dX10_chances_169 : decode cX10_chances 169 = .ok (.iload 5, 2) := by decide +kernel
theorem dX10_chances_171 : decode cX10_chances 171 = .ok (.putfield 127, 3) := by decide +kernel
theorem dX10_chances_174 : decode cX10_chances 174 = .ok (.lconst 0, 1) := by decide +kernel
theorem dX10_chances_175 : decode cX10_chances 175 = .ok (.lstore 8, 2) := by decide +kernel
theorem dX10_chances_177 : decode cX10_chances 177 = .ok (.iconst 1, 1) := by decide +kernel
theorem dX10_chances_178 : decode cX10_chances 178 = .ok (.istore 10, 2) := by decide +kernel
theorem dX10_chances_180 : decode cX10_chances 180 = .ok (.iload 10, 2) := by decide +kernel
theorem dX10_chances_182 : decode cX10_chances 182 = .ok (.bipush 16, 2) := by decide +kernel
theorem dX10_chances_184 : decode cX10_chances 184 = .ok (.if_icmp .ge 36, 3) := by decide +kernel
theorem dX10_chances_187 : decode cX10_chances 187 = .ok (.lload 8, 2) := by decide +kernel
theorem dX10_chances_189 : decode cX10_chances 189 = .ok (.aload_n 0, 1) := by decide +kernel
theorem dX10_chances_190 : decode cX10_chances 190 = .ok (.getfield 70, 3) := by decide +kernel
theorem dX10_chances_193 : decode cX10_chances 193 = .ok (.iload 10, 2) := by decide +kernel
theorem dX10_chances_195 : decode cX10_chances 195 = .ok (.laload, 1) := by decide +kernel
theorem dX10_chances_196 : decode cX10_chances 196 = .ok (.iload_n 2, 1) := by decide +kernel
theorem dX10_chances_197 : decode cX10_chances 197 = .ok (.ifCond .ne 7, 3) := by decide +kernel
theorem dX10_chances_200 : decode cX10_chances 200 = .ok (.iconst 1, 1) := by decide +kernel
theorem dX10_chances_201 : decode cX10_chances 201 = .ok (.goto 8, 3) := by decide +kernel
theorem dX10_chances_204 : decode cX10_chances 204 = .ok (.iload 10, 2) := by decide +kernel
theorem dX10_chances_206 : decode cX10_chances 206 = .ok (.invokestatic 231, 3) := by decide +kernel
theorem dX10_chances_209 : decode cX10_chances 209 = .ok (.i2l, 1) := by decide +kernel
theorem dX10_chances_210 : decode cX10_chances 210 = .ok (.lmul, 1) := by decide +kernel
theorem dX10_chances_211 : decode cX10_chances 211 = .ok (.ladd, 1) := by decide +kernel
theorem dX10_chances_212 : decode cX10_chances 212 = .ok (.lstore 8, 2) := by decide +kernel
theorem dX10_chances_214 : decode cX10_chances 214 = .ok (.iinc 10 1, 3) := by decide +kernel
theorem dX10_chances_217 : decode cX10_chances 217 = .ok (.goto (-37), 3) := by decide +kernel
theorem dX10_chances_220 : decode cX10_chances 220 = .ok (.iload_n 3, 1) := by decide +kernel
theorem dX10_chances_221 : decode cX10_chances 221 = .ok (.ifCond .ne 8, 3) := by decide +kernel
theorem dX10_chances_224 : decode cX10_chances 224 = .ok (.lload 8, 2) := by decide +kernel
theorem dX10_chances_226 : decode cX10_chances 226 = .ok (.goto 5, 3) := by decide +kernel
theorem dX10_chances_229 : decode cX10_chances 229 = .ok (.lload 6, 2) := by decide +kernel
theorem dX10_chances_231 : decode cX10_chances 231 = .ok (.lload 8, 2) := by decide +kernel
theorem dX10_chances_233 : decode cX10_chances 233 = .ok (.lload 6, 2) := by decide +kernel
theorem dX10_chances_235 : decode cX10_chances 235 = .ok (.invokestatic 302, 3) := by decide +kernel
theorem dX10_chances_238 : decode cX10_chances 238 = .ok (.ldiv, 1) := by decide +kernel
theorem dX10_chances_239 : decode cX10_chances 239 = .ok (.lreturn, 1) := by decide +kernel
theorem dX10_smallBits_0 : decode cX10_smallBits 0 = .ok (.iconst 0, 1) := by decide +kernel
theorem dX10_smallBits_1 : decode cX10_smallBits 1 = .ok (.istore_n 1, 1) := by decide +kernel
theorem dX10_smallBits_2 : decode cX10_smallBits 2 = .ok (.iconst 0, 1) := by decide +kernel
theorem dX10_smallBits_3 : decode cX10_smallBits 3 = .ok (.istore_n 2, 1) := by decide +kernel
theorem dX10_smallBits_4 : decode cX10_smallBits 4 = .ok (.iload_n 2, 1) := by decide +kernel
theorem dX10_smallBits_5 : decode cX10_smallBits 5 = .ok (.aload_n 0, 1) := by decide +kernel
theorem dX10_smallBits_6 : decode cX10_smallBits 6 = .ok (.getfield 88, 3) := by decide +kernel
theorem dX10_smallBits_9 : decode cX10_smallBits 9 = .ok (.if_icmp .ge 30, 3) := by decide +kernel
theorem dX10_smallBits_12 : decode cX10_smallBits 12 = .ok (.iload_n 1, 1) := by decide +kernel
theorem dX10_smallBits_13 : decode cX10_smallBits 13 = .ok (.aload_n 0, 1) := by decide +kernel
theorem dX10_smallBits_14 : decode cX10_smallBits 14 = .ok (.getfield 16, 3) := by decide +kernel
theorem dX10_smallBits_17 : decode cX10_smallBits 17 = .ok (.iload_n 2, 1) := by decide +kernel
theorem dX10_smallBits_18 : decode cX10_smallBits 18 = .ok (.iaload, 1) := by decide +kernel
theorem dX10_smallBits_19 : decode cX10_smallBits 19 = .ok (.bipush 6, 2) := by decide +kernel
theorem dX10_smallBits_21 : decode cX10_smallBits 21 = .ok (.if_icmp .ne 9, 3) := by decide +kernel
theorem dX10_smallBits_24 : decode cX10_smallBits 24 = .ok (.iconst 1, 1) := by decide +kernel
theorem dX10_smallBits_25 : decode cX10_smallBits 25 = .ok (.iload_n 2, 1) := by decide +kernel
theorem dX10_smallBits_26 : decode cX10_smallBits 26 = .ok (.ishl, 1) := by decide +kernel
theorem dX10_smallBits_27 : decode cX10_smallBits 27 = .ok (.goto 4, 3) := by decide +kernel
theorem dX10_smallBits_30 : decode cX10_smallBits 30 = .ok (.iconst 0, 1) := by decide +kernel
theorem dX10_smallBits_31 : decode cX10_smallBits 31 = .ok (.ior, 1) := by decide +kernel
theorem dX10_smallBits_32 : decode cX10_smallBits 32 = .ok (.istore_n 1, 1) := by decide +kernel
theorem dX10_smallBits_33 : decode cX10_smallBits 33 = .ok (.iinc 2 1, 3) := by decide +kernel
theorem dX10_smallBits_36 : decode cX10_smallBits 36 = .ok (.goto (-32), 3) := by decide +kernel
theorem dX10_smallBits_39 : decode cX10_smallBits 39 = .ok (.iload_n 1, 1) := by decide +kernel
theorem dX10_smallBits_40 : decode cX10_smallBits 40 = .ok (.ireturn, 1) := by decide +kernel
theorem dX10_areAllLit_0 : decode cX10_areAllLit 0 = .ok (.iconst 1, 1) := by decide +kernel
theorem dX10_areAllLit_1 : decode cX10_areAllLit 1 = .ok (.aload_n 0, 1) := by decide +kernel
theorem dX10_areAllLit_2 : decode cX10_areAllLit 2 = .ok (.getfield 88, 3) := by decide +kernel
theorem dX10_areAllLit_5 : decode cX10_areAllLit 5 = .ok (.ishl, 1) := by decide +kernel
theorem dX10_areAllLit_6 : decode cX10_areAllLit 6 = .ok (.iconst 1, 1) := by decide +kernel
theorem dX10_areAllLit_7 : decode cX10_areAllLit 7 = .ok (.isub, 1) := by decide +kernel
theorem dX10_areAllLit_8 : decode cX10_areAllLit 8 = .ok (.iload_n 1, 1) := by decide +kernel
theorem dX10_areAllLit_9 : decode cX10_areAllLit 9 = .ok (.aload_n 0, 1) := by decide +kernel
theorem dX10_areAllLit_10 : decode cX10_areAllLit 10 = .ok (.invokevirtual 306, 3) := by decide +kernel
theorem dX10_areAllLit_13 : decode cX10_areAllLit 13 = .ok (.ior, 1) := by decide +kernel
theorem dX10_areAllLit_14 : decode cX10_areAllLit 14 = .ok (.iconst (-1), 1) := by decide +kernel
theorem dX10_areAllLit_15 : decode cX10_areAllLit 15 = .ok (.ixor, 1) := by decide +kernel
theorem dX10_areAllLit_16 : decode cX10_areAllLit 16 = .ok (.iand, 1) := by decide +kernel
theorem dX10_areAllLit_17 : decode cX10_areAllLit 17 = .ok (.ifCond .ne 7, 3) := by decide +kernel
theorem dX10_areAllLit_20 : decode cX10_areAllLit 20 = .ok (.iconst 1, 1) := by decide +kernel
theorem dX10_areAllLit_21 : decode cX10_areAllLit 21 = .ok (.goto 4, 3) := by decide +kernel
theorem dX10_areAllLit_24 : decode cX10_areAllLit 24 = .ok (.iconst 0, 1) := by decide +kernel
theorem dX10_areAllLit_25 : decode cX10_areAllLit 25 = .ok (.ireturn, 1) := by decide +kernel
theorem dX10_all_0 : decode cX10_all 0 = .ok (.aload_n 0, 1) := by decide +kernel
theorem dX10_all_1 : decode cX10_all 1 = .ok (.getfield 124, 3) := by decide +kernel
theorem dX10_all_4 : decode cX10_all 4 = .ok (.istore_n 1, 1) := by decide +kernel
theorem dX10_all_5 : decode cX10_all 5 = .ok (.iconst 0, 1) := by decide +kernel
theorem dX10_all_6 : decode cX10_all 6 = .ok (.istore_n 2, 1) := by decide +kernel
theorem dX10_all_7 : decode cX10_all 7 = .ok (.iload_n 2, 1) := by decide +kernel
theorem dX10_all_8 : decode cX10_all 8 = .ok (.bipush 61, 2) := by decide +kernel
theorem dX10_all_10 : decode cX10_all 10 = .ok (.if_icmp .ge 25, 3) := by decide +kernel
theorem dX10_all_13 : decode cX10_all 13 = .ok (.aload_n 0, 1) := by decide +kernel
theorem dX10_all_14 : decode cX10_all 14 = .ok (.iload_n 1, 1) := by decide +kernel
theorem dX10_all_15 : decode cX10_all 15 = .ok (.invokevirtual 309, 3) := by decide +kernel
theorem dX10_all_18 : decode cX10_all 18 = .ok (.ifCond .eq 5, 3) := by decide +kernel
theorem dX10_all_21 : decode cX10_all 21 = .ok (.iload_n 2, 1) := by decide +kernel
theorem dX10_all_22 : decode cX10_all 22 = .ok (.ireturn, 1) := by decide +kernel
theorem dX10_all_23 : decode cX10_all 23 = .ok (.aload_n 0, 1) := by decide +kernel
theorem dX10_all_24 : decode cX10_all 24 = .ok (.iload_n 1, 1) := by decide +kernel
theorem dX10_all_25 : decode cX10_all 25 = .ok (.invokevirtual 215, 3) := by decide +kernel
theorem dX10_all_28 : decode cX10_all 28 = .ok (.istore_n 1, 1) := by decide +kernel
theorem dX10_all_29 : decode cX10_all 29 = .ok (.iinc 2 1, 3) := by decide +kernel
theorem dX10_all_32 : decode cX10_all 32 = .ok (.goto (-25), 3) := by decide +kernel
theorem dX10_all_35 : decode cX10_all 35 = .ok (.bipush (-9), 2) := by decide +kernel
theorem dX10_all_37 : decode cX10_all 37 = .ok (.ireturn, 1) := by decide +kernel
theorem dX10_behind_0 : decode cX10_behind 0 = .ok (.iload_n 1, 1) := by decide +kernel
theorem dX10_behind_1 : decode cX10_behind 1 = .ok (.iconst 0, 1) := by decide +kernel
theorem dX10_behind_2 : decode cX10_behind 2 = .ok (.bipush 60, 2) := by decide +kernel
theorem dX10_behind_4 : decode cX10_behind 4 = .ok (.invokestatic 92, 3) := by decide +kernel
theorem dX10_behind_7 : decode cX10_behind 7 = .ok (.istore_n 2, 1) := by decide +kernel
theorem dX10_behind_8 : decode cX10_behind 8 = .ok (.iload_n 2, 1) := by decide +kernel
theorem dX10_behind_9 : decode cX10_behind 9 = .ok (.ifCond .eq 9, 3) := by decide +kernel
theorem dX10_behind_12 : decode cX10_behind 12 = .ok (.aload_n 0, 1) := by decide +kernel
theorem dX10_behind_13 : decode cX10_behind 13 = .ok (.iload_n 2, 1) := by decide +kernel
theorem dX10_behind_14 : decode cX10_behind 14 = .ok (.invokevirtual 99, 3) := by decide +kernel
theorem dX10_behind_17 : decode cX10_behind 17 = .ok (.ireturn, 1) := by decide +kernel
theorem dX10_behind_18 : decode cX10_behind 18 = .ok (.aload_n 0, 1) := by decide +kernel
theorem dX10_behind_19 : decode cX10_behind 19 = .ok (.getfield 124, 3) := by decide +kernel
theorem dX10_behind_22 : decode cX10_behind 22 = .ok (.istore_n 3, 1) := by decide +kernel
theorem dX10_behind_23 : decode cX10_behind 23 = .ok (.iconst 0, 1) := by decide +kernel
theorem dX10_behind_24 : decode cX10_behind 24 = .ok (.istore 4, 2) := by decide +kernel
theorem dX10_behind_26 : decode cX10_behind 26 = .ok (.iload 4, 2) := by decide +kernel
theorem dX10_behind_28 : decode cX10_behind 28 = .ok (.iload_n 1, 1) := by decide +kernel
theorem dX10_behind_29 : decode cX10_behind 29 = .ok (.if_icmp .ge 15, 3) := by decide +kernel
theorem dX10_behind_32 : decode cX10_behind 32 = .ok (.aload_n 0, 1) := by decide +kernel
theorem dX10_behind_33 : decode cX10_behind 33 = .ok (.iload_n 3, 1) := by decide +kernel
theorem dX10_behind_34 : decode cX10_behind 34 = .ok (.invokevirtual 215, 3) := by decide +kernel
theorem dX10_behind_37 : decode cX10_behind 37 = .ok (.istore_n 3, 1) := by decide +kernel
theorem dX10_behind_38 : decode cX10_behind 38 = .ok (.iinc 4 1, 3) := by decide +kernel
theorem dX10_behind_41 : decode cX10_behind 41 = .ok (.goto (-15), 3) := by decide +kernel
theorem dX10_behind_44 : decode cX10_behind 44 = .ok (.iload_n 3, 1) := by decide +kernel
theorem dX10_behind_45 : decode cX10_behind 45 = .ok (.ireturn, 1) := by decide +kernel
theorem dX10_atFirst_0 : decode cX10_atFirst 0 = .ok (.iload_n 1, 1) := by decide +kernel
theorem dX10_atFirst_1 : decode cX10_atFirst 1 = .ok (.iconst 0, 1) := by decide +kernel
theorem dX10_atFirst_2 : decode cX10_atFirst 2 = .ok (.iconst 1, 1) := by decide +kernel
theorem dX10_atFirst_3 : decode cX10_atFirst 3 = .ok (.invokestatic 110, 3) := by decide +kernel
theorem dX10_atFirst_6 : decode cX10_atFirst 6 = .ok (.ifCond .ne 10, 3) := by decide +kernel
theorem dX10_atFirst_9 : decode cX10_atFirst 9 = .ok (.aload_n 0, 1) := by decide +kernel
theorem dX10_atFirst_10 : decode cX10_atFirst 10 = .ok (.bipush (-2), 2) := by decide +kernel
theorem dX10_atFirst_12 : decode cX10_atFirst 12 = .ok (.invokevirtual 99, 3) := by decide +kernel
theorem dX10_atFirst_15 : decode cX10_atFirst 15 = .ok (.ireturn, 1) := by decide +kernel
theorem dX10_atFirst_16 : decode cX10_atFirst 16 = .ok (.aload_n 0, 1) := by decide +kernel
theorem dX10_atFirst_17 : decode cX10_atFirst 17 = .ok (.getfield 124, 3) := by decide +kernel
theorem dX10_atFirst_20 : decode cX10_atFirst 20 = .ok (.istore_n 2, 1) := by decide +kernel
theorem dX10_atFirst_21 : decode cX10_atFirst 21 = .ok (.bipush (-9), 2) := by decide +kernel
theorem dX10_atFirst_23 : decode cX10_atFirst 23 = .ok (.istore_n 3, 1) := by decide +kernel
theorem dX10_atFirst_24 : decode cX10_atFirst 24 = .ok (.iconst 0, 1) := by decide +kernel
theorem dX10_atFirst_25 : decode cX10_atFirst 25 = .ok (.istore 4, 2) := by decide +kernel
theorem dX10_atFirst_27 : decode cX10_atFirst 27 = .ok (.iload 4, 2) := by decide +kernel
theorem dX10_atFirst_29 : decode cX10_atFirst 29 = .ok (.iconst 1, 1) := by decide +kernel
theorem dX10_atFirst_30 : decode cX10_atFirst 30 = .ok (.aload_n 0, 1) := by decide +kernel
theorem dX10_atFirst_31 : decode cX10_atFirst 31 = .ok (.getfield 88, 3) := by decide +kernel
theorem dX10_atFirst_34 : decode cX10_atFirst 34 = .ok (.ishl, 1) := by decide +kernel
theorem dX10_atFirst_35 : decode cX10_atFirst 35 = .ok (.if_icmp .ge 58, 3) := by decide +kernel
theorem dX10_atFirst_38 : decode cX10_atFirst 38 = .ok (.iload 4, 2) := by decide +kernel
theorem dX10_atFirst_40 : decode cX10_atFirst 40 = .ok (.aload_n 0, 1) := by decide +kernel
theorem dX10_atFirst_41 : decode cX10_atFirst 41 = .ok (.invokevirtual 306, 3) := by decide +kernel
theorem dX10_atFirst_44 : decode cX10_atFirst 44 = .ok (.iand, 1) := by decide +kernel
theorem dX10_atFirst_45 : decode cX10_atFirst 45 = .ok (.ifCond .ne 42, 3) := by decide +kernel
theorem dX10_atFirst_48 : decode cX10_atFirst 48 = .ok (.iload_n 3, 1) := by decide +kernel
theorem dX10_atFirst_49 : decode cX10_atFirst 49 = .ok (.ifCond .lt 18, 3) := by decide +kernel
theorem dX10_atFirst_52 : decode cX10_atFirst 52 = .ok (.iload 4, 2) := by decide +kernel
theorem dX10_atFirst_54 : decode cX10_atFirst 54 = .ok (.invokestatic 231, 3) := by decide +kernel
theorem dX10_atFirst_57 : decode cX10_atFirst 57 = .ok (.iload_n 3, 1) := by decide +kernel
theorem dX10_atFirst_58 : decode cX10_atFirst 58 = .ok (.invokestatic 231, 3) := by decide +kernel
theorem dX10_atFirst_61 : decode cX10_atFirst 61 = .ok (.if_icmp .lt 6, 3) := by decide +kernel
theorem dX10_atFirst_64 : decode cX10_atFirst 64 = .ok (.goto 23, 3) := by decide +kernel
theorem dX10_atFirst_67 : decode cX10_atFirst 67 = .ok (.aload_n 0, 1) := by decide +kernel
theorem dX10_atFirst_68 : decode cX10_atFirst 68 = .ok (.iload 4, 2) := by decide +kernel
theorem dX10_atFirst_70 : decode cX10_atFirst 70 = .ok (.putfield 124, 3) := by decide +kernel
theorem dX10_atFirst_73 : decode cX10_atFirst 73 = .ok (.aload_n 0, 1) := by decide +kernel
theorem dX10_atFirst_74 : decode cX10_atFirst 74 = .ok (.aload_n 0, 1) := by decide +kernel
theorem dX10_atFirst_75 : decode cX10_atFirst 75 = .ok (.invokevirtual 241, 3) := by decide +kernel
theorem dX10_atFirst_78 : decode cX10_atFirst 78 = .ok (.invokevirtual 309, 3) := by decide +kernel
theorem dX10_atFirst_81 : decode cX10_atFirst 81 = .ok (.ifCond .eq 6, 3) := by decide +kernel
theorem dX10_atFirst_84 : decode cX10_atFirst 84 = .ok (.iload 4, 2) := by decide +kernel
theorem dX10_atFirst_86 : decode cX10_atFirst 86 = .ok (.istore_n 3, 1) := by decide +kernel
theorem dX10_atFirst_87 : decode cX10_atFirst 87 = .ok (.iinc 4 1, 3) := by decide +kernel
theorem dX10_atFirst_90 : decode cX10_atFirst 90 = .ok (.goto (-63), 3) := by decide +kernel
theorem dX10_atFirst_93 : decode cX10_atFirst 93 = .ok (.aload_n 0, 1) := by decide +kernel
theorem dX10_atFirst_94 : decode cX10_atFirst 94 = .ok (.iload_n 2, 1) := by decide +kernel
theorem dX10_atFirst_95 : decode cX10_atFirst 95 = .ok (.putfield 124, 3) := by decide +kernel
theorem dX10_atFirst_98 : decode cX10_atFirst 98 = .ok (.iload_n 1, 1) := by decide +kernel
theorem dX10_atFirst_99 : decode cX10_atFirst 99 = .ok (.iconst 1, 1) := by decide +kernel
theorem dX10_atFirst_100 : decode cX10_atFirst 100 = .ok (.if_icmp .eq 7, 3) := by decide +kernel
theorem dX10_atFirst_103 : decode cX10_atFirst 103 = .ok (.iload_n 3, 1) := by decide +kernel
theorem dX10_atFirst_104 : decode cX10_atFirst 104 = .ok (.ifCond .ge 7, 3) := by decide +kernel
theorem dX10_atFirst_107 : decode cX10_atFirst 107 = .ok (.iload_n 3, 1) := by decide +kernel
theorem dX10_atFirst_108 : decode cX10_atFirst 108 = .ok (.goto 7, 3) := by decide +kernel
theorem dX10_atFirst_111 : decode cX10_atFirst 111 = .ok (.iload_n 3, 1) := by decide +kernel
theorem dX10_atFirst_112 : decode cX10_atFirst 112 = .ok (.invokestatic 231, 3) := by decide +kernel
theorem dX10_atFirst_115 : decode cX10_atFirst 115 = .ok (.ireturn, 1) := by decide +kernel
theorem dX10_forms_0 : decode cX10_forms 0 = .ok (.iload_n 1, 1) := by decide +kernel
theorem dX10_forms_1 : decode cX10_forms 1 = .ok (.iconst 0, 1) := by decide +kernel
theorem dX10_forms_2 : decode cX10_forms 2 = .ok (.iconst 1, 1) := by decide +kernel
theorem dX10_forms_3 : decode cX10_forms 3 = .ok (.invokestatic 110, 3) := by decide +kernel
theorem dX10_forms_6 : decode cX10_forms 6 = .ok (.ifCond .ne 10, 3) := by decide +kernel
theorem dX10_forms_9 : decode cX10_forms 9 = .ok (.aload_n 0, 1) := by decide +kernel
theorem dX10_forms_10 : decode cX10_forms 10 = .ok (.bipush (-2), 2) := by decide +kernel
theorem dX10_forms_12 : decode cX10_forms 12 = .ok (.invokevirtual 99, 3) := by decide +kernel
theorem dX10_forms_15 : decode cX10_forms 15 = .ok (.ireturn, 1) := by decide +kernel
theorem dX10_forms_16 : decode cX10_forms 16 = .ok (.aload_n 0, 1) := by decide +kernel
theorem dX10_forms_17 : decode cX10_forms 17 = .ok (.getfield 13, 3) := by decide +kernel
theorem dX10_forms_20 : decode cX10_forms 20 = .ok (.iconst 0, 1) := by decide +kernel
theorem dX10_forms_21 : decode cX10_forms 21 = .ok (.iaload, 1) := by decide +kernel
theorem dX10_forms_22 : decode cX10_forms 22 = .ok (.istore_n 2, 1) := by decide +kernel
theorem dX10_forms_23 : decode cX10_forms 23 = .ok (.aload_n 0, 1) := by decide +kernel
theorem dX10_forms_24 : decode cX10_forms 24 = .ok (.getfield 13, 3) := by decide +kernel
theorem dX10_forms_27 : decode cX10_forms 27 = .ok (.iconst 1, 1) := by decide +kernel
theorem dX10_forms_28 : decode cX10_forms 28 = .ok (.iaload, 1) := by decide +kernel
theorem dX10_forms_29 : decode cX10_forms 29 = .ok (.istore_n 3, 1) := by decide +kernel
theorem dX10_forms_30 : decode cX10_forms 30 = .ok (.iconst 1, 1) := by decide +kernel
theorem dX10_forms_31 : decode cX10_forms 31 = .ok (.istore 4, 2) := by decide +kernel
theorem dX10_forms_33 : decode cX10_forms 33 = .ok (.bipush (-9), 2) := by decide +kernel
theorem dX10_forms_35 : decode cX10_forms 35 = .ok (.istore 5, 2) := by decide +kernel
theorem dX10_forms_37 : decode cX10_forms 37 = .ok (.iconst 0, 1) := by decide +kernel
theorem dX10_forms_38 : decode cX10_forms 38 = .ok (.istore 6, 2) := by decide +kernel
theorem dX10_forms_40 : decode cX10_forms 40 = .ok (.iload 6, 2) := by decide +kernel
theorem dX10_forms_42 : decode cX10_forms 42 = .ok (.bipush 6, 2) := by decide +kernel
theorem dX10_forms_44 : decode cX10_forms 44 = .ok (.if_icmp .ge 70, 3) := by decide +kernel
theorem dX10_forms_47 : decode cX10_forms 47 = .ok (.aload_n 0, 1) := by decide +kernel
theorem dX10_forms_48 : decode cX10_forms 48 = .ok (.getfield 13, 3) := by decide +kernel
theorem dX10_forms_51 : decode cX10_forms 51 = .ok (.iconst 0, 1) := by decide +kernel
theorem dX10_forms_52 : decode cX10_forms 52 = .ok (.iload 6, 2) := by decide +kernel
theorem dX10_forms_54 : decode cX10_forms 54 = .ok (.iconst 2, 1) := by decide +kernel
theorem dX10_forms_55 : decode cX10_forms 55 = .ok (.idiv, 1) := by decide +kernel
theorem dX10_forms_56 : decode cX10_forms 56 = .ok (.iastore, 1) := by decide +kernel
theorem dX10_forms_57 : decode cX10_forms 57 = .ok (.aload_n 0, 1) := by decide +kernel
theorem dX10_forms_58 : decode cX10_forms 58 = .ok (.getfield 13, 3) := by decide +kernel
theorem dX10_forms_61 : decode cX10_forms 61 = .ok (.iconst 1, 1) := by decide +kernel
theorem dX10_forms_62 : decode cX10_forms 62 = .ok (.iload 6, 2) := by decide +kernel
theorem dX10_forms_64 : decode cX10_forms 64 = .ok (.iconst 2, 1) := by decide +kernel
theorem dX10_forms_65 : decode cX10_forms 65 = .ok (.irem, 1) := by decide +kernel
theorem dX10_forms_66 : decode cX10_forms 66 = .ok (.iconst 1, 1) := by decide +kernel
theorem dX10_forms_67 : decode cX10_forms 67 = .ok (.iadd, 1) := by decide +kernel
theorem dX10_forms_68 : decode cX10_forms 68 = .ok (.iastore, 1) := by decide +kernel
theorem dX10_forms_69 : decode cX10_forms 69 = .ok (.aload_n 0, 1) := by decide +kernel
theorem dX10_forms_70 : decode cX10_forms 70 = .ok (.invokevirtual 241, 3) := by decide +kernel
theorem dX10_forms_73 : decode cX10_forms 73 = .ok (.invokestatic 231, 3) := by decide +kernel
theorem dX10_forms_76 : decode cX10_forms 76 = .ok (.istore 7, 2) := by decide +kernel
theorem dX10_forms_78 : decode cX10_forms 78 = .ok (.iload 7, 2) := by decide +kernel
theorem dX10_forms_80 : decode cX10_forms 80 = .ok (.iload 5, 2) := by decide +kernel
theorem dX10_forms_82 : decode cX10_forms 82 = .ok (.if_icmp .gt 6, 3) := by decide +kernel
theorem dX10_forms_85 : decode cX10_forms 85 = .ok (.goto 23, 3) := by decide +kernel
theorem dX10_forms_88 : decode cX10_forms 88 = .ok (.bipush 10, 2) := by decide +kernel
theorem dX10_forms_90 : decode cX10_forms 90 = .ok (.iload 6, 2) := by decide +kernel
theorem dX10_forms_92 : decode cX10_forms 92 = .ok (.iconst 2, 1) := by decide +kernel
theorem dX10_forms_93 : decode cX10_forms 93 = .ok (.idiv, 1) := by decide +kernel
theorem dX10_forms_94 : decode cX10_forms 94 = .ok (.imul, 1) := by decide +kernel
theorem dX10_forms_95 : decode cX10_forms 95 = .ok (.iload 6, 2) := by decide +kernel
theorem dX10_forms_97 : decode cX10_forms 97 = .ok (.iconst 2, 1) := by decide +kernel
theorem dX10_forms_98 : decode cX10_forms 98 = .ok (.irem, 1) := by decide +kernel
theorem dX10_forms_99 : decode cX10_forms 99 = .ok (.iadd, 1) := by decide +kernel
theorem dX10_forms_100 : decode cX10_forms 100 = .ok (.iconst 1, 1) := by decide +kernel
theorem dX10_forms_101 : decode cX10_forms 101 = .ok (.iadd, 1) := by decide +kernel
theorem dX10_forms_102 : decode cX10_forms 102 = .ok (.istore 4, 2) := by decide +kernel
theorem dX10_forms_104 : decode cX10_forms 104 = .ok (.iload 7, 2) := by decide +kernel
theorem dX10_forms_106 : decode cX10_forms 106 = .ok (.istore 5, 2) := by decide +kernel
theorem dX10_forms_108 : decode cX10_forms 108 = .ok (.iinc 6 1, 3) := by decide +kernel
theorem dX10_forms_111 : decode cX10_forms 111 = .ok (.goto (-71), 3) := by decide +kernel
theorem dX10_forms_114 : decode cX10_forms 114 = .ok (.aload_n 0, 1) := by decide +kernel
theorem dX10_forms_115 : decode cX10_forms 115 = .ok (.getfield 13, 3) := by decide +kernel
theorem dX10_forms_118 : decode cX10_forms 118 = .ok (.iconst 0, 1) := by decide +kernel
theorem dX10_forms_119 : decode cX10_forms 119 = .ok (.iload_n 2, 1) := by decide +kernel
theorem dX10_forms_120 : decode cX10_forms 120 = .ok (.iastore, 1) := by decide +kernel
theorem dX10_forms_121 : decode cX10_forms 121 = .ok (.aload_n 0, 1) := by decide +kernel
theorem dX10_forms_122 : decode cX10_forms 122 = .ok (.getfield 13, 3) := by decide +kernel
theorem dX10_forms_125 : decode cX10_forms 125 = .ok (.iconst 1, 1) := by decide +kernel
theorem dX10_forms_126 : decode cX10_forms 126 = .ok (.iload_n 3, 1) := by decide +kernel
theorem dX10_forms_127 : decode cX10_forms 127 = .ok (.iastore, 1) := by decide +kernel
theorem dX10_forms_128 : decode cX10_forms 128 = .ok (.iload_n 1, 1) := by decide +kernel
theorem dX10_forms_129 : decode cX10_forms 129 = .ok (.ifCond .ne 8, 3) := by decide +kernel
theorem dX10_forms_132 : decode cX10_forms 132 = .ok (.iload 4, 2) := by decide +kernel
theorem dX10_forms_134 : decode cX10_forms 134 = .ok (.goto 5, 3) := by decide +kernel
theorem dX10_forms_137 : decode cX10_forms 137 = .ok (.iload 5, 2) := by decide +kernel
theorem dX10_forms_139 : decode cX10_forms 139 = .ok (.ireturn, 1) := by decide +kernel
theorem dX10_doorCalm_0 : decode cX10_doorCalm 0 = .ok (.aload_n 0, 1) := by decide +kernel
theorem dX10_doorCalm_1 : decode cX10_doorCalm 1 = .ok (.getfield 22, 3) := by decide +kernel
theorem dX10_doorCalm_4 : decode cX10_doorCalm 4 = .ok (.iload_n 1, 1) := by decide +kernel
theorem dX10_doorCalm_5 : decode cX10_doorCalm 5 = .ok (.iaload, 1) := by decide +kernel
theorem dX10_doorCalm_6 : decode cX10_doorCalm 6 = .ok (.istore_n 3, 1) := by decide +kernel
theorem dX10_doorCalm_7 : decode cX10_doorCalm 7 = .ok (.aload_n 0, 1) := by decide +kernel
theorem dX10_doorCalm_8 : decode cX10_doorCalm 8 = .ok (.getfield 22, 3) := by decide +kernel
theorem dX10_doorCalm_11 : decode cX10_doorCalm 11 = .ok (.iload_n 2, 1) := by decide +kernel
theorem dX10_doorCalm_12 : decode cX10_doorCalm 12 = .ok (.iaload, 1) := by decide +kernel
theorem dX10_doorCalm_13 : decode cX10_doorCalm 13 = .ok (.istore 4, 2) := by decide +kernel
theorem dX10_doorCalm_15 : decode cX10_doorCalm 15 = .ok (.aload_n 0, 1) := by decide +kernel
theorem dX10_doorCalm_16 : decode cX10_doorCalm 16 = .ok (.getfield 22, 3) := by decide +kernel
theorem dX10_doorCalm_19 : decode cX10_doorCalm 19 = .ok (.iload_n 1, 1) := by decide +kernel
theorem dX10_doorCalm_20 : decode cX10_doorCalm 20 = .ok (.iconst 0, 1) := by decide +kernel
theorem dX10_doorCalm_21 : decode cX10_doorCalm 21 = .ok (.iastore, 1) := by decide +kernel
theorem dX10_doorCalm_22 : decode cX10_doorCalm 22 = .ok (.aload_n 0, 1) := by decide +kernel
theorem dX10_doorCalm_23 : decode cX10_doorCalm 23 = .ok (.getfield 22, 3) := by decide +kernel
theorem dX10_doorCalm_26 : decode cX10_doorCalm 26 = .ok (.iload_n 2, 1) := by decide +kernel
theorem dX10_doorCalm_27 : decode cX10_doorCalm 27 = .ok (.iconst 0, 1) := by decide +kernel
theorem dX10_doorCalm_28 : decode cX10_doorCalm 28 = .ok (.iastore, 1) := by decide +kernel
theorem dX10_doorCalm_29 : decode cX10_doorCalm 29 = .ok (.aload_n 0, 1) := by decide +kernel
theorem dX10_doorCalm_30 : decode cX10_doorCalm 30 = .ok (.invokevirtual 241, 3) := by decide +kernel
theorem dX10_doorCalm_33 : decode cX10_doorCalm 33 = .ok (.invokestatic 231, 3) := by decide +kernel
theorem dX10_doorCalm_36 : decode cX10_doorCalm 36 = .ok (.istore 5, 2) := by decide +kernel
theorem dX10_doorCalm_38 : decode cX10_doorCalm 38 = .ok (.aload_n 0, 1) := by decide +kernel
theorem dX10_doorCalm_39 : decode cX10_doorCalm 39 = .ok (.getfield 22, 3) := by decide +kernel
theorem dX10_doorCalm_42 : decode cX10_doorCalm 42 = .ok (.iload_n 2, 1) := by decide +kernel
theorem dX10_doorCalm_43 : decode cX10_doorCalm 43 = .ok (.iload 4, 2) := by decide +kernel
theorem dX10_doorCalm_45 : decode cX10_doorCalm 45 = .ok (.iastore, 1) := by decide +kernel
theorem dX10_doorCalm_46 : decode cX10_doorCalm 46 = .ok (.aload_n 0, 1) := by decide +kernel
theorem dX10_doorCalm_47 : decode cX10_doorCalm 47 = .ok (.getfield 22, 3) := by decide +kernel
theorem dX10_doorCalm_50 : decode cX10_doorCalm 50 = .ok (.iload_n 1, 1) := by decide +kernel
theorem dX10_doorCalm_51 : decode cX10_doorCalm 51 = .ok (.iload_n 3, 1) := by decide +kernel
theorem dX10_doorCalm_52 : decode cX10_doorCalm 52 = .ok (.iastore, 1) := by decide +kernel
theorem dX10_doorCalm_53 : decode cX10_doorCalm 53 = .ok (.iload 5, 2) := by decide +kernel
theorem dX10_doorCalm_55 : decode cX10_doorCalm 55 = .ok (.ireturn, 1) := by decide +kernel
theorem dX10_calms_0 : decode cX10_calms 0 = .ok (.iload_n 1, 1) := by decide +kernel
theorem dX10_calms_1 : decode cX10_calms 1 = .ok (.iconst 0, 1) := by decide +kernel
theorem dX10_calms_2 : decode cX10_calms 2 = .ok (.iconst 1, 1) := by decide +kernel
theorem dX10_calms_3 : decode cX10_calms 3 = .ok (.invokestatic 110, 3) := by decide +kernel
theorem dX10_calms_6 : decode cX10_calms 6 = .ok (.ifCond .ne 10, 3) := by decide +kernel
theorem dX10_calms_9 : decode cX10_calms 9 = .ok (.aload_n 0, 1) := by decide +kernel
theorem dX10_calms_10 : decode cX10_calms 10 = .ok (.bipush (-2), 2) := by decide +kernel
theorem dX10_calms_12 : decode cX10_calms 12 = .ok (.invokevirtual 99, 3) := by decide +kernel
theorem dX10_calms_15 : decode cX10_calms 15 = .ok (.ireturn, 1) := by decide +kernel
theorem dX10_calms_16 : decode cX10_calms 16 = .ok (.aload_n 0, 1) := by decide +kernel
theorem dX10_calms_17 : decode cX10_calms 17 = .ok (.invokevirtual 241, 3) := by decide +kernel
theorem dX10_calms_20 : decode cX10_calms 20 = .ok (.invokestatic 231, 3) := by decide +kernel
theorem dX10_calms_23 : decode cX10_calms 23 = .ok (.istore_n 2, 1) := by decide +kernel
theorem dX10_calms_24 : decode cX10_calms 24 = .ok (.bipush (-9), 2) := by decide +kernel
theorem dX10_calms_26 : decode cX10_calms 26 = .ok (.istore_n 3, 1) := by decide +kernel
theorem dX10_calms_27 : decode cX10_calms 27 = .ok (.aload_n 0, 1) := by decide +kernel
theorem dX10_calms_28 : decode cX10_calms 28 = .ok (.getfield 127, 3) := by decide +kernel
theorem dX10_calms_31 : decode cX10_calms 31 = .ok (.istore 4, 2) := by decide +kernel
theorem dX10_calms_33 : decode cX10_calms 33 = .ok (.iload 4, 2) := by decide +kernel
theorem dX10_calms_35 : decode cX10_calms 35 = .ok (.aload_n 0, 1) := by decide +kernel
theorem dX10_calms_36 : decode cX10_calms 36 = .ok (.invokevirtual 130, 3) := by decide +kernel
theorem dX10_calms_39 : decode cX10_calms 39 = .ok (.if_icmp .ge 90, 3) := by decide +kernel
theorem dX10_calms_42 : decode cX10_calms 42 = .ok (.iload_n 1, 1) := by decide +kernel
theorem dX10_calms_43 : decode cX10_calms 43 = .ok (.ifCond .ne 8, 3) := by decide +kernel
theorem dX10_calms_46 : decode cX10_calms 46 = .ok (.iload 4, 2) := by decide +kernel
theorem dX10_calms_48 : decode cX10_calms 48 = .ok (.goto 7, 3) := by decide +kernel
theorem dX10_calms_51 : decode cX10_calms 51 = .ok (.iload 4, 2) := by decide +kernel
theorem dX10_calms_53 : decode cX10_calms 53 = .ok (.iconst 1, 1) := by decide +kernel
theorem dX10_calms_54 : decode cX10_calms 54 = .ok (.iadd, 1) := by decide +kernel
theorem dX10_calms_55 : decode cX10_calms 55 = .ok (.istore 5, 2) := by decide +kernel
theorem dX10_calms_57 : decode cX10_calms 57 = .ok (.iload 5, 2) := by decide +kernel
theorem dX10_calms_59 : decode cX10_calms 59 = .ok (.iload_n 1, 1) := by decide +kernel
theorem dX10_calms_60 : decode cX10_calms 60 = .ok (.ifCond .ne 10, 3) := by decide +kernel
theorem dX10_calms_63 : decode cX10_calms 63 = .ok (.iload 4, 2) := by decide +kernel
theorem dX10_calms_65 : decode cX10_calms 65 = .ok (.iconst 1, 1) := by decide +kernel
theorem dX10_calms_66 : decode cX10_calms 66 = .ok (.iadd, 1) := by decide +kernel
theorem dX10_calms_67 : decode cX10_calms 67 = .ok (.goto 7, 3) := by decide +kernel
theorem dX10_calms_70 : decode cX10_calms 70 = .ok (.aload_n 0, 1) := by decide +kernel
theorem dX10_calms_71 : decode cX10_calms 71 = .ok (.invokevirtual 130, 3) := by decide +kernel
theorem dX10_calms_74 : decode cX10_calms 74 = .ok (.if_icmp .ge 49, 3) := by decide +kernel
theorem dX10_calms_77 : decode cX10_calms 77 = .ok (.aload_n 0, 1) := by decide +kernel
theorem dX10_calms_78 : decode cX10_calms 78 = .ok (.iload 4, 2) := by decide +kernel
theorem dX10_calms_80 : decode cX10_calms 80 = .ok (.iload 5, 2) := by decide +kernel
theorem dX10_calms_82 : decode cX10_calms 82 = .ok (.invokevirtual 312, 3) := by decide +kernel
theorem dX10_calms_85 : decode cX10_calms 85 = .ok (.istore 6, 2) := by decide +kernel
theorem dX10_calms_87 : decode cX10_calms 87 = .ok (.iload 6, 2) := by decide +kernel
theorem dX10_calms_89 : decode cX10_calms 89 = .ok (.iload_n 2, 1) := by decide +kernel
theorem dX10_calms_90 : decode cX10_calms 90 = .ok (.if_icmp .gt 6, 3) := by decide +kernel
theorem dX10_calms_93 : decode cX10_calms 93 = .ok (.goto 24, 3) := by decide +kernel
theorem dX10_calms_96 : decode cX10_calms 96 = .ok (.iload 6, 2) := by decide +kernel
theorem dX10_calms_98 : decode cX10_calms 98 = .ok (.istore_n 2, 1) := by decide +kernel
theorem dX10_calms_99 : decode cX10_calms 99 = .ok (.iload_n 1, 1) := by decide +kernel
theorem dX10_calms_100 : decode cX10_calms 100 = .ok (.ifCond .ne 8, 3) := by decide +kernel
theorem dX10_calms_103 : decode cX10_calms 103 = .ok (.iload 4, 2) := by decide +kernel
theorem dX10_calms_105 : decode cX10_calms 105 = .ok (.goto 11, 3) := by decide +kernel
theorem dX10_calms_108 : decode cX10_calms 108 = .ok (.bipush 100, 2) := by decide +kernel
theorem dX10_calms_110 : decode cX10_calms 110 = .ok (.iload 4, 2) := by decide +kernel
theorem dX10_calms_112 : decode cX10_calms 112 = .ok (.imul, 1) := by decide +kernel
theorem dX10_calms_113 : decode cX10_calms 113 = .ok (.iload 5, 2) := by decide +kernel
theorem dX10_calms_115 : decode cX10_calms 115 = .ok (.iadd, 1) := by decide +kernel
theorem dX10_calms_116 : decode cX10_calms 116 = .ok (.istore_n 3, 1) := by decide +kernel
theorem dX10_calms_117 : decode cX10_calms 117 = .ok (.iinc 5 1, 3) := by decide +kernel
theorem dX10_calms_120 : decode cX10_calms 120 = .ok (.goto (-63), 3) := by decide +kernel
theorem dX10_calms_123 : decode cX10_calms 123 = .ok (.iinc 4 1, 3) := by decide +kernel
theorem dX10_calms_126 : decode cX10_calms 126 = .ok (.goto (-93), 3) := by decide +kernel
theorem dX10_calms_129 : decode cX10_calms 129 = .ok (.iload_n 3, 1) := by decide +kernel
theorem dX10_calms_130 : decode cX10_calms 130 = .ok (.ireturn, 1) := by decide +kernel
theorem dX10_farthest_0 : decode cX10_farthest 0 = .ok (.aload_n 0, 1) := by decide +kernel
theorem dX10_farthest_1 : decode cX10_farthest 1 = .ok (.getfield 13, 3) := by decide +kernel
theorem dX10_farthest_4 : decode cX10_farthest 4 = .ok (.iconst 2, 1) := by decide +kernel
theorem dX10_farthest_5 : decode cX10_farthest 5 = .ok (.iaload, 1) := by decide +kernel
theorem dX10_farthest_6 : decode cX10_farthest 6 = .ok (.istore_n 1, 1) := by decide +kernel
theorem dX10_farthest_7 : decode cX10_farthest 7 = .ok (.bipush (-9), 2) := by decide +kernel
theorem dX10_farthest_9 : decode cX10_farthest 9 = .ok (.istore_n 2, 1) := by decide +kernel
theorem dX10_farthest_10 : decode cX10_farthest 10 = .ok (.bipush 24, 2) := by decide +kernel
theorem dX10_farthest_12 : decode cX10_farthest 12 = .ok (.istore_n 3, 1) := by decide +kernel
theorem dX10_farthest_13 : decode cX10_farthest 13 = .ok (.iload_n 3, 1) := by decide +kernel
theorem dX10_farthest_14 : decode cX10_farthest 14 = .ok (.aload_n 0, 1) := by decide +kernel
theorem dX10_farthest_15 : decode cX10_farthest 15 = .ok (.getfield 127, 3) := by decide +kernel
theorem dX10_farthest_18 : decode cX10_farthest 18 = .ok (.if_icmp .lt 38, 3) := by decide +kernel
theorem dX10_farthest_21 : decode cX10_farthest 21 = .ok (.iload_n 3, 1) := by decide +kernel
theorem dX10_farthest_22 : decode cX10_farthest 22 = .ok (.ifCond .le 34, 3) := by decide +kernel
theorem dX10_farthest_25 : decode cX10_farthest 25 = .ok (.iload_n 2, 1) := by decide +kernel
theorem dX10_farthest_26 : decode cX10_farthest 26 = .ok (.ifCond .ge 30, 3) := by decide +kernel
theorem dX10_farthest_29 : decode cX10_farthest 29 = .ok (.aload_n 0, 1) := by decide +kernel
theorem dX10_farthest_30 : decode cX10_farthest 30 = .ok (.getfield 13, 3) := by decide +kernel
theorem dX10_farthest_33 : decode cX10_farthest 33 = .ok (.iconst 2, 1) := by decide +kernel
theorem dX10_farthest_34 : decode cX10_farthest 34 = .ok (.iload_n 3, 1) := by decide +kernel
theorem dX10_farthest_35 : decode cX10_farthest 35 = .ok (.iastore, 1) := by decide +kernel
theorem dX10_farthest_36 : decode cX10_farthest 36 = .ok (.aload_n 0, 1) := by decide +kernel
theorem dX10_farthest_37 : decode cX10_farthest 37 = .ok (.invokevirtual 241, 3) := by decide +kernel
theorem dX10_farthest_40 : decode cX10_farthest 40 = .ok (.ifCond .eq 7, 3) := by decide +kernel
theorem dX10_farthest_43 : decode cX10_farthest 43 = .ok (.iload_n 3, 1) := by decide +kernel
theorem dX10_farthest_44 : decode cX10_farthest 44 = .ok (.goto 5, 3) := by decide +kernel
theorem dX10_farthest_47 : decode cX10_farthest 47 = .ok (.bipush (-9), 2) := by decide +kernel
theorem dX10_farthest_49 : decode cX10_farthest 49 = .ok (.istore_n 2, 1) := by decide +kernel
theorem dX10_farthest_50 : decode cX10_farthest 50 = .ok (.iinc 3 (-1), 3) := by decide +kernel
theorem dX10_farthest_53 : decode cX10_farthest 53 = .ok (.goto (-40), 3) := by decide +kernel
theorem dX10_farthest_56 : decode cX10_farthest 56 = .ok (.aload_n 0, 1) := by decide +kernel
theorem dX10_farthest_57 : decode cX10_farthest 57 = .ok (.getfield 13, 3) := by decide +kernel
theorem dX10_farthest_60 : decode cX10_farthest 60 = .ok (.iconst 2, 1) := by decide +kernel
theorem dX10_farthest_61 : decode cX10_farthest 61 = .ok (.iload_n 1, 1) := by decide +kernel
theorem dX10_farthest_62 : decode cX10_farthest 62 = .ok (.iastore, 1) := by decide +kernel
theorem dX10_farthest_63 : decode cX10_farthest 63 = .ok (.iload_n 2, 1) := by decide +kernel
theorem dX10_farthest_64 : decode cX10_farthest 64 = .ok (.ireturn, 1) := by decide +kernel
theorem dX10_turned_0 : decode cX10_turned 0 = .ok (.aload_n 0, 1) := by decide +kernel
theorem dX10_turned_1 : decode cX10_turned 1 = .ok (.iconst 1, 1) := by decide +kernel
theorem dX10_turned_2 : decode cX10_turned 2 = .ok (.iconst 1, 1) := by decide +kernel
theorem dX10_turned_3 : decode cX10_turned 3 = .ok (.invokevirtual 157, 3) := by decide +kernel
theorem dX10_turned_6 : decode cX10_turned 6 = .ok (.iconst 0, 1) := by decide +kernel
theorem dX10_turned_7 : decode cX10_turned 7 = .ok (.istore_n 1, 1) := by decide +kernel
theorem dX10_turned_8 : decode cX10_turned 8 = .ok (.iload_n 1, 1) := by decide +kernel
theorem dX10_turned_9 : decode cX10_turned 9 = .ok (.aload_n 0, 1) := by decide +kernel
theorem dX10_turned_10 : decode cX10_turned 10 = .ok (.getfield 88, 3) := by decide +kernel
theorem dX10_turned_13 : decode cX10_turned 13 = .ok (.iconst 2, 1) := by decide +kernel
theorem dX10_turned_14 : decode cX10_turned 14 = .ok (.idiv, 1) := by decide +kernel
theorem dX10_turned_15 : decode cX10_turned 15 = .ok (.if_icmp .ge 22, 3) := by decide +kernel
theorem dX10_turned_18 : decode cX10_turned 18 = .ok (.aload_n 0, 1) := by decide +kernel
theorem dX10_turned_19 : decode cX10_turned 19 = .ok (.iload_n 1, 1) := by decide +kernel
theorem dX10_turned_20 : decode cX10_turned 20 = .ok (.aload_n 0, 1) := by decide +kernel
theorem dX10_turned_21 : decode cX10_turned 21 = .ok (.getfield 88, 3) := by decide +kernel
theorem dX10_turned_24 : decode cX10_turned 24 = .ok (.iconst 1, 1) := by decide +kernel
theorem dX10_turned_25 : decode cX10_turned 25 = .ok (.isub, 1) := by decide +kernel
theorem dX10_turned_26 : decode cX10_turned 26 = .ok (.iload_n 1, 1) := by decide +kernel
theorem dX10_turned_27 : decode cX10_turned 27 = .ok (.isub, 1) := by decide +kernel
theorem dX10_turned_28 : decode cX10_turned 28 = .ok (.invokevirtual 253, 3) := by decide +kernel
theorem dX10_turned_31 : decode cX10_turned 31 = .ok (.iinc 1 1, 3) := by decide +kernel
theorem dX10_turned_34 : decode cX10_turned 34 = .ok (.goto (-26), 3) := by decide +kernel
theorem dX10_turned_37 : decode cX10_turned 37 = .ok (.aload_n 0, 1) := by decide +kernel
theorem dX10_turned_38 : decode cX10_turned 38 = .ok (.invokevirtual 241, 3) := by decide +kernel
theorem dX10_turned_41 : decode cX10_turned 41 = .ok (.invokestatic 231, 3) := by decide +kernel
theorem dX10_turned_44 : decode cX10_turned 44 = .ok (.istore_n 1, 1) := by decide +kernel
theorem dX10_turned_45 : decode cX10_turned 45 = .ok (.aload_n 0, 1) := by decide +kernel
theorem dX10_turned_46 : decode cX10_turned 46 = .ok (.iconst 1, 1) := by decide +kernel
theorem dX10_turned_47 : decode cX10_turned 47 = .ok (.iconst 0, 1) := by decide +kernel
theorem dX10_turned_48 : decode cX10_turned 48 = .ok (.invokevirtual 157, 3) := by decide +kernel
theorem dX10_turned_51 : decode cX10_turned 51 = .ok (.iload_n 1, 1) := by decide +kernel
theorem dX10_turned_52 : decode cX10_turned 52 = .ok (.ireturn, 1) := by decide +kernel
theorem dX10_goesCounting_0 : decode cX10_goesCounting 0 = .ok (.aload_n 0, 1) := by decide +kernel
theorem dX10_goesCounting_1 : decode cX10_goesCounting 1 = .ok (.iconst 0, 1) := by decide +kernel
theorem dX10_goesCounting_2 : decode cX10_goesCounting 2 = .ok (.putfield 315, 3) := by decide +kernel
theorem dX10_goesCounting_5 : decode cX10_goesCounting 5 = .ok (.aload_n 0, 1) := by decide +kernel
theorem dX10_goesCounting_6 : decode cX10_goesCounting 6 = .ok (.iconst 0, 1) := by decide +kernel
theorem dX10_goesCounting_7 : decode cX10_goesCounting 7 = .ok (.putfield 209, 3) := by decide +kernel
theorem dX10_goesCounting_10 : decode cX10_goesCounting 10 = .ok (.iconst 0, 1) := by decide +kernel
theorem dX10_goesCounting_11 : decode cX10_goesCounting 11 = .ok (.istore_n 2, 1) := by decide +kernel
theorem dX10_goesCounting_12 : decode cX10_goesCounting 12 = .ok (.iload_n 2, 1) := by decide +kernel
theorem dX10_goesCounting_13 : decode cX10_goesCounting 13 = .ok (.bipush 8, 2) := by decide +kernel
theorem dX10_goesCounting_15 : decode cX10_goesCounting 15 = .ok (.if_icmp .ge 16, 3) := by decide +kernel
theorem dX10_goesCounting_18 : decode cX10_goesCounting 18 = .ok (.aload_n 0, 1) := by decide +kernel
theorem dX10_goesCounting_19 : decode cX10_goesCounting 19 = .ok (.getfield 46, 3) := by decide +kernel
theorem dX10_goesCounting_22 : decode cX10_goesCounting 22 = .ok (.iload_n 2, 1) := by decide +kernel
theorem dX10_goesCounting_23 : decode cX10_goesCounting 23 = .ok (.iload_n 2, 1) := by decide +kernel
theorem dX10_goesCounting_24 : decode cX10_goesCounting 24 = .ok (.iastore, 1) := by decide +kernel
theorem dX10_goesCounting_25 : decode cX10_goesCounting 25 = .ok (.iinc 2 1, 3) := by decide +kernel
theorem dX10_goesCounting_28 : decode cX10_goesCounting 28 = .ok (.goto (-16), 3) := by decide +kernel
theorem dX10_goesCounting_31 : decode cX10_goesCounting 31 = .ok (.aload_n 0, 1) := by decide +kernel
theorem dX10_goesCounting_32 : decode cX10_goesCounting 32 = .ok (.getfield 127, 3) := by decide +kernel
theorem dX10_goesCounting_35 : decode cX10_goesCounting 35 = .ok (.aload_n 0, 1) := by decide +kernel
theorem dX10_goesCounting_36 : decode cX10_goesCounting 36 = .ok (.invokevirtual 130, 3) := by decide +kernel
theorem dX10_goesCounting_39 : decode cX10_goesCounting 39 = .ok (.if_icmp .ge 44, 3) := by decide +kernel
theorem dX10_goesCounting_42 : decode cX10_goesCounting 42 = .ok (.aload_n 0, 1) := by decide +kernel
theorem dX10_goesCounting_43 : decode cX10_goesCounting 43 = .ok (.dup, 1) := by decide +kernel
theorem dX10_goesCounting_44 : decode cX10_goesCounting 44 = .ok (.getfield 315, 3) := by decide +kernel
theorem dX10_goesCounting_47 : decode cX10_goesCounting 47 = .ok (.aload_n 0, 1) := by decide +kernel
theorem dX10_goesCounting_48 : decode cX10_goesCounting 48 = .ok (.getfield 124, 3) := by decide +kernel
theorem dX10_goesCounting_51 : decode cX10_goesCounting 51 = .ok (.iload_n 1, 1) := by decide +kernel
theorem dX10_goesCounting_52 : decode cX10_goesCounting 52 = .ok (.invokestatic 147, 3) := by decide +kernel
theorem dX10_goesCounting_55 : decode cX10_goesCounting 55 = .ok (.ifCond .eq 15, 3) := by decide +kernel
theorem dX10_goesCounting_58 : decode cX10_goesCounting 58 = .ok (.aload_n 0, 1) := by decide +kernel
theorem dX10_goesCounting_59 : decode cX10_goesCounting 59 = .ok (.iload_n 1, 1) := by decide +kernel
theorem dX10_goesCounting_60 : decode cX10_goesCounting 60 = .ok (.invokevirtual 203, 3) := by decide +kernel
theorem dX10_goesCounting_63 : decode cX10_goesCounting 63 = .ok (.ifCond .ne 7, 3) := by decide +kernel
theorem dX10_goesCounting_66 : decode cX10_goesCounting 66 = .ok (.iconst 1, 1) := by decide +kernel
theorem dX10_goesCounting_67 : decode cX10_goesCounting 67 = .ok (.goto 4, 3) := by decide +kernel
theorem dX10_goesCounting_70 : decode cX10_goesCounting 70 = .ok (.iconst 0, 1) := by decide +kernel
theorem dX10_goesCounting_71 : decode cX10_goesCounting 71 = .ok (.iadd, 1) := by decide +kernel
theorem dX10_goesCounting_72 : decode cX10_goesCounting 72 = .ok (.putfield 315, 3) := by decide +kernel
theorem dX10_goesCounting_75 : decode cX10_goesCounting 75 = .ok (.aload_n 0, 1) := by decide +kernel
theorem dX10_goesCounting_76 : decode cX10_goesCounting 76 = .ok (.iconst 0, 1) := by decide +kernel
theorem dX10_goesCounting_77 : decode cX10_goesCounting 77 = .ok (.invokevirtual 136, 3) := by decide +kernel
theorem dX10_goesCounting_80 : decode cX10_goesCounting 80 = .ok (.goto (-49), 3) := by decide +kernel
theorem dX10_goesCounting_83 : decode cX10_goesCounting 83 = .ok (.return_, 1) := by decide +kernel
theorem dX10_flame_0 : decode cX10_flame 0 = .ok (.aload_n 0, 1) := by decide +kernel
theorem dX10_flame_1 : decode cX10_flame 1 = .ok (.iload_n 1, 1) := by decide +kernel
theorem dX10_flame_2 : decode cX10_flame 2 = .ok (.invokevirtual 144, 3) := by decide +kernel
theorem dX10_flame_5 : decode cX10_flame 5 = .ok (.ifCond .ne 9, 3) := by decide +kernel
theorem dX10_flame_8 : decode cX10_flame 8 = .ok (.aload_n 0, 1) := by decide +kernel
theorem dX10_flame_9 : decode cX10_flame 9 = .ok (.iconst (-1), 1) := by decide +kernel
theorem dX10_flame_10 : decode cX10_flame 10 = .ok (.invokevirtual 99, 3) := by decide +kernel
theorem dX10_flame_13 : decode cX10_flame 13 = .ok (.ireturn, 1) := by decide +kernel
theorem dX10_flame_14 : decode cX10_flame 14 = .ok (.aload_n 0, 1) := by decide +kernel
theorem dX10_flame_15 : decode cX10_flame 15 = .ok (.iconst 1, 1) := by decide +kernel
theorem dX10_flame_16 : decode cX10_flame 16 = .ok (.iconst 1, 1) := by decide +kernel
theorem dX10_flame_17 : decode cX10_flame 17 = .ok (.invokevirtual 157, 3) := by decide +kernel
theorem dX10_flame_20 : decode cX10_flame 20 = .ok (.aload_n 0, 1) := by decide +kernel
theorem dX10_flame_21 : decode cX10_flame 21 = .ok (.iload_n 1, 1) := by decide +kernel
theorem dX10_flame_22 : decode cX10_flame 22 = .ok (.invokevirtual 318, 3) := by decide +kernel
theorem dX10_flame_25 : decode cX10_flame 25 = .ok (.aload_n 0, 1) := by decide +kernel
theorem dX10_flame_26 : decode cX10_flame 26 = .ok (.getfield 124, 3) := by decide +kernel
theorem dX10_flame_29 : decode cX10_flame 29 = .ok (.iload_n 1, 1) := by decide +kernel
theorem dX10_flame_30 : decode cX10_flame 30 = .ok (.invokestatic 147, 3) := by decide +kernel
theorem dX10_flame_33 : decode cX10_flame 33 = .ok (.ifCond .eq 12, 3) := by decide +kernel
theorem dX10_flame_36 : decode cX10_flame 36 = .ok (.aload_n 0, 1) := by decide +kernel
theorem dX10_flame_37 : decode cX10_flame 37 = .ok (.getfield 46, 3) := by decide +kernel
theorem dX10_flame_40 : decode cX10_flame 40 = .ok (.iload_n 1, 1) := by decide +kernel
theorem dX10_flame_41 : decode cX10_flame 41 = .ok (.iaload, 1) := by decide +kernel
theorem dX10_flame_42 : decode cX10_flame 42 = .ok (.goto 5, 3) := by decide +kernel
theorem dX10_flame_45 : decode cX10_flame 45 = .ok (.bipush (-9), 2) := by decide +kernel
theorem dX10_flame_47 : decode cX10_flame 47 = .ok (.istore_n 2, 1) := by decide +kernel
theorem dX10_flame_48 : decode cX10_flame 48 = .ok (.aload_n 0, 1) := by decide +kernel
theorem dX10_flame_49 : decode cX10_flame 49 = .ok (.iconst 1, 1) := by decide +kernel
theorem dX10_flame_50 : decode cX10_flame 50 = .ok (.iconst 0, 1) := by decide +kernel
theorem dX10_flame_51 : decode cX10_flame 51 = .ok (.invokevirtual 157, 3) := by decide +kernel
theorem dX10_flame_54 : decode cX10_flame 54 = .ok (.iload_n 2, 1) := by decide +kernel
theorem dX10_flame_55 : decode cX10_flame 55 = .ok (.ireturn, 1) := by decide +kernel
theorem dX10_out_0 : decode cX10_out 0 = .ok (.aload_n 0, 1) := by decide +kernel
theorem dX10_out_1 : decode cX10_out 1 = .ok (.iload_n 1, 1) := by decide +kernel
theorem dX10_out_2 : decode cX10_out 2 = .ok (.invokevirtual 144, 3) := by decide +kernel
theorem dX10_out_5 : decode cX10_out 5 = .ok (.ifCond .ne 9, 3) := by decide +kernel
theorem dX10_out_8 : decode cX10_out 8 = .ok (.aload_n 0, 1) := by decide +kernel
theorem dX10_out_9 : decode cX10_out 9 = .ok (.iconst (-1), 1) := by decide +kernel
theorem dX10_out_10 : decode cX10_out 10 = .ok (.invokevirtual 99, 3) := by decide +kernel
theorem dX10_out_13 : decode cX10_out 13 = .ok (.ireturn, 1) := by decide +kernel
theorem dX10_out_14 : decode cX10_out 14 = .ok (.aload_n 0, 1) := by decide +kernel
theorem dX10_out_15 : decode cX10_out 15 = .ok (.iconst 1, 1) := by decide +kernel
theorem dX10_out_16 : decode cX10_out 16 = .ok (.iconst 1, 1) := by decide +kernel
theorem dX10_out_17 : decode cX10_out 17 = .ok (.invokevirtual 157, 3) := by decide +kernel
theorem dX10_out_20 : decode cX10_out 20 = .ok (.aload_n 0, 1) := by decide +kernel
theorem dX10_out_21 : decode cX10_out 21 = .ok (.iload_n 1, 1) := by decide +kernel
theorem dX10_out_22 : decode cX10_out 22 = .ok (.invokevirtual 318, 3) := by decide +kernel
theorem dX10_out_25 : decode cX10_out 25 = .ok (.aload_n 0, 1) := by decide +kernel
theorem dX10_out_26 : decode cX10_out 26 = .ok (.iconst 1, 1) := by decide +kernel
theorem dX10_out_27 : decode cX10_out 27 = .ok (.iconst 0, 1) := by decide +kernel
theorem dX10_out_28 : decode cX10_out 28 = .ok (.invokevirtual 157, 3) := by decide +kernel
theorem dX10_out_31 : decode cX10_out 31 = .ok (.aload_n 0, 1) := by decide +kernel
theorem dX10_out_32 : decode cX10_out 32 = .ok (.getfield 315, 3) := by decide +kernel
theorem dX10_out_35 : decode cX10_out 35 = .ok (.ireturn, 1) := by decide +kernel
theorem dX10_again_0 : decode cX10_again 0 = .ok (.aload_n 0, 1) := by decide +kernel
theorem dX10_again_1 : decode cX10_again 1 = .ok (.iconst 1, 1) := by decide +kernel
theorem dX10_again_2 : decode cX10_again 2 = .ok (.iconst 1, 1) := by decide +kernel
theorem dX10_again_3 : decode cX10_again 3 = .ok (.invokevirtual 157, 3) := by decide +kernel
theorem dX10_again_6 : decode cX10_again 6 = .ok (.aload_n 0, 1) := by decide +kernel
theorem dX10_again_7 : decode cX10_again 7 = .ok (.iconst 0, 1) := by decide +kernel
theorem dX10_again_8 : decode cX10_again 8 = .ok (.invokevirtual 318, 3) := by decide +kernel
theorem dX10_again_11 : decode cX10_again 11 = .ok (.aload_n 0, 1) := by decide +kernel
theorem dX10_again_12 : decode cX10_again 12 = .ok (.iconst 1, 1) := by decide +kernel
theorem dX10_again_13 : decode cX10_again 13 = .ok (.iconst 0, 1) := by decide +kernel
theorem dX10_again_14 : decode cX10_again 14 = .ok (.invokevirtual 157, 3) := by decide +kernel
theorem dX10_again_17 : decode cX10_again 17 = .ok (.aload_n 0, 1) := by decide +kernel
theorem dX10_again_18 : decode cX10_again 18 = .ok (.getfield 209, 3) := by decide +kernel
theorem dX10_again_21 : decode cX10_again 21 = .ok (.ireturn, 1) := by decide +kernel
theorem dX10_findGame_0 : decode cX10_findGame 0 = .ok (.aload_n 0, 1) := by decide +kernel
theorem dX10_findGame_1 : decode cX10_findGame 1 = .ok (.iconst 1, 1) := by decide +kernel
theorem dX10_findGame_2 : decode cX10_findGame 2 = .ok (.iconst 1, 1) := by decide +kernel
theorem dX10_findGame_3 : decode cX10_findGame 3 = .ok (.invokevirtual 157, 3) := by decide +kernel
theorem dX10_findGame_6 : decode cX10_findGame 6 = .ok (.iconst 0, 1) := by decide +kernel
theorem dX10_findGame_7 : decode cX10_findGame 7 = .ok (.istore_n 1, 1) := by decide +kernel
theorem dX10_findGame_8 : decode cX10_findGame 8 = .ok (.iload_n 1, 1) := by decide +kernel
theorem dX10_findGame_9 : decode cX10_findGame 9 = .ok (.bipush 9, 2) := by decide +kernel
theorem dX10_findGame_11 : decode cX10_findGame 11 = .ok (.if_icmp .ge 54, 3) := by decide +kernel
theorem dX10_findGame_14 : decode cX10_findGame 14 = .ok (.aload_n 0, 1) := by decide +kernel
theorem dX10_findGame_15 : decode cX10_findGame 15 = .ok (.getfield 13, 3) := by decide +kernel
theorem dX10_findGame_18 : decode cX10_findGame 18 = .ok (.iconst 0, 1) := by decide +kernel
theorem dX10_findGame_19 : decode cX10_findGame 19 = .ok (.iload_n 1, 1) := by decide +kernel
theorem dX10_findGame_20 : decode cX10_findGame 20 = .ok (.iconst 3, 1) := by decide +kernel
theorem dX10_findGame_21 : decode cX10_findGame 21 = .ok (.idiv, 1) := by decide +kernel
theorem dX10_findGame_22 : decode cX10_findGame 22 = .ok (.iastore, 1) := by decide +kernel
theorem dX10_findGame_23 : decode cX10_findGame 23 = .ok (.iconst 0, 1) := by decide +kernel
theorem dX10_findGame_24 : decode cX10_findGame 24 = .ok (.istore_n 2, 1) := by decide +kernel
theorem dX10_findGame_25 : decode cX10_findGame 25 = .ok (.iload_n 2, 1) := by decide +kernel
theorem dX10_findGame_26 : decode cX10_findGame 26 = .ok (.bipush 25, 2) := by decide +kernel
theorem dX10_findGame_28 : decode cX10_findGame 28 = .ok (.if_icmp .ge 18, 3) := by decide +kernel
theorem dX10_findGame_31 : decode cX10_findGame 31 = .ok (.aload_n 0, 1) := by decide +kernel
theorem dX10_findGame_32 : decode cX10_findGame 32 = .ok (.getfield 25, 3) := by decide +kernel
theorem dX10_findGame_35 : decode cX10_findGame 35 = .ok (.iload_n 2, 1) := by decide +kernel
theorem dX10_findGame_36 : decode cX10_findGame 36 = .ok (.iload_n 1, 1) := by decide +kernel
theorem dX10_findGame_37 : decode cX10_findGame 37 = .ok (.iconst 3, 1) := by decide +kernel
theorem dX10_findGame_38 : decode cX10_findGame 38 = .ok (.irem, 1) := by decide +kernel
theorem dX10_findGame_39 : decode cX10_findGame 39 = .ok (.iastore, 1) := by decide +kernel
theorem dX10_findGame_40 : decode cX10_findGame 40 = .ok (.iinc 2 1, 3) := by decide +kernel
theorem dX10_findGame_43 : decode cX10_findGame 43 = .ok (.goto (-18), 3) := by decide +kernel
theorem dX10_findGame_46 : decode cX10_findGame 46 = .ok (.aload_n 0, 1) := by decide +kernel
theorem dX10_findGame_47 : decode cX10_findGame 47 = .ok (.getfield 77, 3) := by decide +kernel
theorem dX10_findGame_50 : decode cX10_findGame 50 = .ok (.iload_n 1, 1) := by decide +kernel
theorem dX10_findGame_51 : decode cX10_findGame 51 = .ok (.aload_n 0, 1) := by decide +kernel
theorem dX10_findGame_52 : decode cX10_findGame 52 = .ok (.invokevirtual 241, 3) := by decide +kernel
theorem dX10_findGame_55 : decode cX10_findGame 55 = .ok (.invokestatic 231, 3) := by decide +kernel
theorem dX10_findGame_58 : decode cX10_findGame 58 = .ok (.iastore, 1) := by decide +kernel
theorem dX10_findGame_59 : decode cX10_findGame 59 = .ok (.iinc 1 1, 3) := by decide +kernel
theorem dX10_findGame_62 : decode cX10_findGame 62 = .ok (.goto (-54), 3) := by decide +kernel
theorem dX10_findGame_65 : decode cX10_findGame 65 = .ok (.aload_n 0, 1) := by decide +kernel
theorem dX10_findGame_66 : decode cX10_findGame 66 = .ok (.iconst 1, 1) := by decide +kernel
theorem dX10_findGame_67 : decode cX10_findGame 67 = .ok (.iconst 0, 1) := by decide +kernel
theorem dX10_findGame_68 : decode cX10_findGame 68 = .ok (.invokevirtual 157, 3) := by decide +kernel
theorem dX10_findGame_71 : decode cX10_findGame 71 = .ok (.return_, 1) := by decide +kernel
theorem dX10_rests_0 : decode cX10_rests 0 = .ok (.iconst 0, 1) := by decide +kernel
theorem dX10_rests_1 : decode cX10_rests 1 = .ok (.istore_n 2, 1) := by decide +kernel
theorem dX10_rests_2 : decode cX10_rests 2 = .ok (.iload_n 2, 1) := by decide +kernel
theorem dX10_rests_3 : decode cX10_rests 3 = .ok (.iconst 3, 1) := by decide +kernel
theorem dX10_rests_4 : decode cX10_rests 4 = .ok (.if_icmp .ge 53, 3) := by decide +kernel
theorem dX10_rests_7 : decode cX10_rests 7 = .ok (.aload_n 0, 1) := by decide +kernel
theorem dX10_rests_8 : decode cX10_rests 8 = .ok (.getfield 77, 3) := by decide +kernel
theorem dX10_rests_11 : decode cX10_rests 11 = .ok (.iconst 3, 1) := by decide +kernel
theorem dX10_rests_12 : decode cX10_rests 12 = .ok (.iload_n 2, 1) := by decide +kernel
theorem dX10_rests_13 : decode cX10_rests 13 = .ok (.imul, 1) := by decide +kernel
theorem dX10_rests_14 : decode cX10_rests 14 = .ok (.iload_n 1, 1) := by decide +kernel
theorem dX10_rests_15 : decode cX10_rests 15 = .ok (.iconst 3, 1) := by decide +kernel
theorem dX10_rests_16 : decode cX10_rests 16 = .ok (.irem, 1) := by decide +kernel
theorem dX10_rests_17 : decode cX10_rests 17 = .ok (.iadd, 1) := by decide +kernel
theorem dX10_rests_18 : decode cX10_rests 18 = .ok (.iaload, 1) := by decide +kernel
theorem dX10_rests_19 : decode cX10_rests 19 = .ok (.aload_n 0, 1) := by decide +kernel
theorem dX10_rests_20 : decode cX10_rests 20 = .ok (.getfield 77, 3) := by decide +kernel
theorem dX10_rests_23 : decode cX10_rests 23 = .ok (.iload_n 1, 1) := by decide +kernel
theorem dX10_rests_24 : decode cX10_rests 24 = .ok (.iaload, 1) := by decide +kernel
theorem dX10_rests_25 : decode cX10_rests 25 = .ok (.if_icmp .gt 24, 3) := by decide +kernel
theorem dX10_rests_28 : decode cX10_rests 28 = .ok (.aload_n 0, 1) := by decide +kernel
theorem dX10_rests_29 : decode cX10_rests 29 = .ok (.getfield 77, 3) := by decide +kernel
theorem dX10_rests_32 : decode cX10_rests 32 = .ok (.iload_n 1, 1) := by decide +kernel
theorem dX10_rests_33 : decode cX10_rests 33 = .ok (.iconst 3, 1) := by decide +kernel
theorem dX10_rests_34 : decode cX10_rests 34 = .ok (.idiv, 1) := by decide +kernel
theorem dX10_rests_35 : decode cX10_rests 35 = .ok (.iconst 3, 1) := by decide +kernel
theorem dX10_rests_36 : decode cX10_rests 36 = .ok (.imul, 1) := by decide +kernel
theorem dX10_rests_37 : decode cX10_rests 37 = .ok (.iload_n 2, 1) := by decide +kernel
theorem dX10_rests_38 : decode cX10_rests 38 = .ok (.iadd, 1) := by decide +kernel
theorem dX10_rests_39 : decode cX10_rests 39 = .ok (.iaload, 1) := by decide +kernel
theorem dX10_rests_40 : decode cX10_rests 40 = .ok (.aload_n 0, 1) := by decide +kernel
theorem dX10_rests_41 : decode cX10_rests 41 = .ok (.getfield 77, 3) := by decide +kernel
theorem dX10_rests_44 : decode cX10_rests 44 = .ok (.iload_n 1, 1) := by decide +kernel
theorem dX10_rests_45 : decode cX10_rests 45 = .ok (.iaload, 1) := by decide +kernel
theorem dX10_rests_46 : decode cX10_rests 46 = .ok (.if_icmp .ge 5, 3) := by decide +kernel
theorem dX10_rests_49 : decode cX10_rests 49 = .ok (.iconst 0, 1) := by decide +kernel
theorem dX10_rests_50 : decode cX10_rests 50 = .ok (.ireturn, 1) := by decide +kernel
theorem dX10_rests_51 : decode cX10_rests 51 = .ok (.iinc 2 1, 3) := by decide +kernel
theorem dX10_rests_54 : decode cX10_rests 54 = .ok (.goto (-52), 3) := by decide +kernel
theorem dX10_rests_57 : decode cX10_rests 57 = .ok (.iconst 1, 1) := by decide +kernel
theorem dX10_rests_58 : decode cX10_rests 58 = .ok (.ireturn, 1) := by decide +kernel
theorem dX10_sureBy_0 : decode cX10_sureBy 0 = .ok (.bipush (-9), 2) := by decide +kernel
theorem dX10_sureBy_2 : decode cX10_sureBy 2 = .ok (.istore_n 2, 1) := by decide +kernel
theorem dX10_sureBy_3 : decode cX10_sureBy 3 = .ok (.iconst 0, 1) := by decide +kernel
theorem dX10_sureBy_4 : decode cX10_sureBy 4 = .ok (.istore_n 3, 1) := by decide +kernel
theorem dX10_sureBy_5 : decode cX10_sureBy 5 = .ok (.iload_n 3, 1) := by decide +kernel
theorem dX10_sureBy_6 : decode cX10_sureBy 6 = .ok (.iconst 3, 1) := by decide +kernel
theorem dX10_sureBy_7 : decode cX10_sureBy 7 = .ok (.if_icmp .ge 119, 3) := by decide +kernel
theorem dX10_sureBy_10 : decode cX10_sureBy 10 = .ok (.bipush (-9), 2) := by decide +kernel
theorem dX10_sureBy_12 : decode cX10_sureBy 12 = .ok (.istore 4, 2) := by decide +kernel
theorem dX10_sureBy_14 : decode cX10_sureBy 14 = .ok (.iconst 0, 1) := by decide +kernel
theorem dX10_sureBy_15 : decode cX10_sureBy 15 = .ok (.istore 5, 2) := by decide +kernel
theorem dX10_sureBy_17 : decode cX10_sureBy 17 = .ok (.iload 5, 2) := by decide +kernel
theorem dX10_sureBy_19 : decode cX10_sureBy 19 = .ok (.iconst 3, 1) := by decide +kernel
theorem dX10_sureBy_20 : decode cX10_sureBy 20 = .ok (.if_icmp .ge 70, 3) := by decide +kernel
theorem dX10_sureBy_23 : decode cX10_sureBy 23 = .ok (.aload_n 0, 1) := by decide +kernel
theorem dX10_sureBy_24 : decode cX10_sureBy 24 = .ok (.getfield 77, 3) := by decide +kernel
theorem dX10_sureBy_27 : decode cX10_sureBy 27 = .ok (.iload_n 1, 1) := by decide +kernel
theorem dX10_sureBy_28 : decode cX10_sureBy 28 = .ok (.ifCond .eq 12, 3) := by decide +kernel
theorem dX10_sureBy_31 : decode cX10_sureBy 31 = .ok (.iconst 3, 1) := by decide +kernel
theorem dX10_sureBy_32 : decode cX10_sureBy 32 = .ok (.iload_n 3, 1) := by decide +kernel
theorem dX10_sureBy_33 : decode cX10_sureBy 33 = .ok (.imul, 1) := by decide +kernel
theorem dX10_sureBy_34 : decode cX10_sureBy 34 = .ok (.iload 5, 2) := by decide +kernel
theorem dX10_sureBy_36 : decode cX10_sureBy 36 = .ok (.iadd, 1) := by decide +kernel
theorem dX10_sureBy_37 : decode cX10_sureBy 37 = .ok (.goto 9, 3) := by decide +kernel
theorem dX10_sureBy_40 : decode cX10_sureBy 40 = .ok (.iconst 3, 1) := by decide +kernel
theorem dX10_sureBy_41 : decode cX10_sureBy 41 = .ok (.iload 5, 2) := by decide +kernel
theorem dX10_sureBy_43 : decode cX10_sureBy 43 = .ok (.imul, 1) := by decide +kernel
theorem dX10_sureBy_44 : decode cX10_sureBy 44 = .ok (.iload_n 3, 1) := by decide +kernel
theorem dX10_sureBy_45 : decode cX10_sureBy 45 = .ok (.iadd, 1) := by decide +kernel
theorem dX10_sureBy_46 : decode cX10_sureBy 46 = .ok (.iaload, 1) := by decide +kernel
theorem dX10_sureBy_47 : decode cX10_sureBy 47 = .ok (.istore 6, 2) := by decide +kernel
theorem dX10_sureBy_49 : decode cX10_sureBy 49 = .ok (.iload 4, 2) := by decide +kernel
theorem dX10_sureBy_51 : decode cX10_sureBy 51 = .ok (.ifCond .lt 24, 3) := by decide +kernel
theorem dX10_sureBy_54 : decode cX10_sureBy 54 = .ok (.iload_n 1, 1) := by decide +kernel
theorem dX10_sureBy_55 : decode cX10_sureBy 55 = .ok (.ifCond .eq 13, 3) := by decide +kernel
theorem dX10_sureBy_58 : decode cX10_sureBy 58 = .ok (.iload 6, 2) := by decide +kernel
theorem dX10_sureBy_60 : decode cX10_sureBy 60 = .ok (.iload 4, 2) := by decide +kernel
theorem dX10_sureBy_62 : decode cX10_sureBy 62 = .ok (.if_icmp .ge 18, 3) := by decide +kernel
theorem dX10_sureBy_65 : decode cX10_sureBy 65 = .ok (.goto 10, 3) := by decide +kernel
theorem dX10_sureBy_68 : decode cX10_sureBy 68 = .ok (.iload 6, 2) := by decide +kernel
theorem dX10_sureBy_70 : decode cX10_sureBy 70 = .ok (.iload 4, 2) := by decide +kernel
theorem dX10_sureBy_72 : decode cX10_sureBy 72 = .ok (.if_icmp .le 8, 3) := by decide +kernel
theorem dX10_sureBy_75 : decode cX10_sureBy 75 = .ok (.iload 6, 2) := by decide +kernel
theorem dX10_sureBy_77 : decode cX10_sureBy 77 = .ok (.goto 5, 3) := by decide +kernel
theorem dX10_sureBy_80 : decode cX10_sureBy 80 = .ok (.iload 4, 2) := by decide +kernel
theorem dX10_sureBy_82 : decode cX10_sureBy 82 = .ok (.istore 4, 2) := by decide +kernel
theorem dX10_sureBy_84 : decode cX10_sureBy 84 = .ok (.iinc 5 1, 3) := by decide +kernel
theorem dX10_sureBy_87 : decode cX10_sureBy 87 = .ok (.goto (-70), 3) := by decide +kernel
theorem dX10_sureBy_90 : decode cX10_sureBy 90 = .ok (.iload_n 2, 1) := by decide +kernel
theorem dX10_sureBy_91 : decode cX10_sureBy 91 = .ok (.ifCond .lt 22, 3) := by decide +kernel
theorem dX10_sureBy_94 : decode cX10_sureBy 94 = .ok (.iload_n 1, 1) := by decide +kernel
theorem dX10_sureBy_95 : decode cX10_sureBy 95 = .ok (.ifCond .eq 12, 3) := by decide +kernel
theorem dX10_sureBy_98 : decode cX10_sureBy 98 = .ok (.iload 4, 2) := by decide +kernel
theorem dX10_sureBy_100 : decode cX10_sureBy 100 = .ok (.iload_n 2, 1) := by decide +kernel
theorem dX10_sureBy_101 : decode cX10_sureBy 101 = .ok (.if_icmp .le 17, 3) := by decide +kernel
theorem dX10_sureBy_104 : decode cX10_sureBy 104 = .ok (.goto 9, 3) := by decide +kernel
theorem dX10_sureBy_107 : decode cX10_sureBy 107 = .ok (.iload 4, 2) := by decide +kernel
theorem dX10_sureBy_109 : decode cX10_sureBy 109 = .ok (.iload_n 2, 1) := by decide +kernel
theorem dX10_sureBy_110 : decode cX10_sureBy 110 = .ok (.if_icmp .ge 8, 3) := by decide +kernel
theorem dX10_sureBy_113 : decode cX10_sureBy 113 = .ok (.iload 4, 2) := by decide +kernel
theorem dX10_sureBy_115 : decode cX10_sureBy 115 = .ok (.goto 4, 3) := by decide +kernel
theorem dX10_sureBy_118 : decode cX10_sureBy 118 = .ok (.iload_n 2, 1) := by decide +kernel
theorem dX10_sureBy_119 : decode cX10_sureBy 119 = .ok (.istore_n 2, 1) := by decide +kernel
theorem dX10_sureBy_120 : decode cX10_sureBy 120 = .ok (.iinc 3 1, 3) := by decide +kernel
theorem dX10_sureBy_123 : decode cX10_sureBy 123 = .ok (.goto (-118), 3) := by decide +kernel
theorem dX10_sureBy_126 : decode cX10_sureBy 126 = .ok (.iload_n 2, 1) := by decide +kernel
theorem dX10_sureBy_127 : decode cX10_sureBy 127 = .ok (.ireturn, 1) := by decide +kernel
theorem dX10_game_0 : decode cX10_game 0 = .ok (.iload_n 1, 1) := by decide +kernel
theorem dX10_game_1 : decode cX10_game 1 = .ok (.iconst 0, 1) := by decide +kernel
theorem dX10_game_2 : decode cX10_game 2 = .ok (.iconst 2, 1) := by decide +kernel
theorem dX10_game_3 : decode cX10_game 3 = .ok (.invokestatic 110, 3) := by decide +kernel
theorem dX10_game_6 : decode cX10_game 6 = .ok (.ifCond .ne 10, 3) := by decide +kernel
theorem dX10_game_9 : decode cX10_game 9 = .ok (.aload_n 0, 1) := by decide +kernel
theorem dX10_game_10 : decode cX10_game 10 = .ok (.bipush (-2), 2) := by decide +kernel
theorem dX10_game_12 : decode cX10_game 12 = .ok (.invokevirtual 99, 3) := by decide +kernel
theorem dX10_game_15 : decode cX10_game 15 = .ok (.ireturn, 1) := by decide +kernel
theorem dX10_game_16 : decode cX10_game 16 = .ok (.aload_n 0, 1) := by decide +kernel
theorem dX10_game_17 : decode cX10_game 17 = .ok (.invokevirtual 321, 3) := by decide +kernel
theorem dX10_game_20 : decode cX10_game 20 = .ok (.iload_n 1, 1) := by decide +kernel
theorem dX10_game_21 : decode cX10_game 21 = .ok (.ifCond .le 18, 3) := by decide +kernel
theorem dX10_game_24 : decode cX10_game 24 = .ok (.aload_n 0, 1) := by decide +kernel
theorem dX10_game_25 : decode cX10_game 25 = .ok (.iload_n 1, 1) := by decide +kernel
theorem dX10_game_26 : decode cX10_game 26 = .ok (.iconst 1, 1) := by decide +kernel
theorem dX10_game_27 : decode cX10_game 27 = .ok (.if_icmp .ne 7, 3) := by decide +kernel
theorem dX10_game_30 : decode cX10_game 30 = .ok (.iconst 1, 1) := by decide +kernel
theorem dX10_game_31 : decode cX10_game 31 = .ok (.goto 4, 3) := by decide +kernel
theorem dX10_game_34 : decode cX10_game 34 = .ok (.iconst 0, 1) := by decide +kernel
theorem dX10_game_35 : decode cX10_game 35 = .ok (.invokevirtual 324, 3) := by decide +kernel
theorem dX10_game_38 : decode cX10_game 38 = .ok (.ireturn, 1) := by decide +kernel
theorem dX10_game_39 : decode cX10_game 39 = .ok (.iconst 0, 1) := by decide +kernel
theorem dX10_game_40 : decode cX10_game 40 = .ok (.istore_n 2, 1) := by decide +kernel
theorem dX10_game_41 : decode cX10_game 41 = .ok (.iload_n 2, 1) := by decide +kernel
theorem dX10_game_42 : decode cX10_game 42 = .ok (.bipush 9, 2) := by decide +kernel
theorem dX10_game_44 : decode cX10_game 44 = .ok (.if_icmp .ge 28, 3) := by decide +kernel
theorem dX10_game_47 : decode cX10_game 47 = .ok (.aload_n 0, 1) := by decide +kernel
theorem dX10_game_48 : decode cX10_game 48 = .ok (.iload_n 2, 1) := by decide +kernel
theorem dX10_game_49 : decode cX10_game 49 = .ok (.invokevirtual 328, 3) := by decide +kernel
theorem dX10_game_52 : decode cX10_game 52 = .ok (.ifCond .eq 14, 3) := by decide +kernel
theorem dX10_game_55 : decode cX10_game 55 = .ok (.bipush 10, 2) := by decide +kernel
theorem dX10_game_57 : decode cX10_game 57 = .ok (.iload_n 2, 1) := by decide +kernel
theorem dX10_game_58 : decode cX10_game 58 = .ok (.iconst 3, 1) := by decide +kernel
theorem dX10_game_59 : decode cX10_game 59 = .ok (.idiv, 1) := by decide +kernel
theorem dX10_game_60 : decode cX10_game 60 = .ok (.imul, 1) := by decide +kernel
theorem dX10_game_61 : decode cX10_game 61 = .ok (.iload_n 2, 1) := by decide +kernel
theorem dX10_game_62 : decode cX10_game 62 = .ok (.iconst 3, 1) := by decide +kernel
theorem dX10_game_63 : decode cX10_game 63 = .ok (.irem, 1) := by decide +kernel
theorem dX10_game_64 : decode cX10_game 64 = .ok (.iadd, 1) := by decide +kernel
theorem dX10_game_65 : decode cX10_game 65 = .ok (.ireturn, 1) := by decide +kernel
theorem dX10_game_66 : decode cX10_game 66 = .ok (.iinc 2 1, 3) := by decide +kernel
theorem dX10_game_69 : decode cX10_game 69 = .ok (.goto (-28), 3) := by decide +kernel
theorem dX10_game_72 : decode cX10_game 72 = .ok (.bipush (-9), 2) := by decide +kernel
theorem dX10_game_74 : decode cX10_game 74 = .ok (.ireturn, 1) := by decide +kernel
theorem dX10_heirs_0 : decode cX10_heirs 0 = .ok (.aload_n 0, 1) := by decide +kernel
theorem dX10_heirs_1 : decode cX10_heirs 1 = .ok (.iload_n 1, 1) := by decide +kernel
theorem dX10_heirs_2 : decode cX10_heirs 2 = .ok (.invokevirtual 144, 3) := by decide +kernel
theorem dX10_heirs_5 : decode cX10_heirs 5 = .ok (.ifCond .ne 9, 3) := by decide +kernel
theorem dX10_heirs_8 : decode cX10_heirs 8 = .ok (.aload_n 0, 1) := by decide +kernel
theorem dX10_heirs_9 : decode cX10_heirs 9 = .ok (.iconst (-1), 1) := by decide +kernel
theorem dX10_heirs_10 : decode cX10_heirs 10 = .ok (.invokevirtual 99, 3) := by decide +kernel
theorem dX10_heirs_13 : decode cX10_heirs 13 = .ok (.ireturn, 1) := by decide +kernel
theorem dX10_heirs_14 : decode cX10_heirs 14 = .ok (.iconst 0, 1) := by decide +kernel
theorem dX10_heirs_15 : decode cX10_heirs 15 = .ok (.istore_n 2, 1) := by decide +kernel
theorem dX10_heirs_16 : decode cX10_heirs 16 = .ok (.iconst 0, 1) := by decide +kernel
theorem dX10_heirs_17 : decode cX10_heirs 17 = .ok (.istore_n 3, 1) := by decide +kernel
theorem dX10_heirs_18 : decode cX10_heirs 18 = .ok (.iload_n 3, 1) := by decide +kernel
theorem dX10_heirs_19 : decode cX10_heirs 19 = .ok (.bipush 6, 2) := by decide +kernel
theorem dX10_heirs_21 : decode cX10_heirs 21 = .ok (.if_icmp .gt 48, 3) := by decide +kernel
theorem dX10_heirs_24 : decode cX10_heirs 24 = .ok (.aload_n 0, 1) := by decide +kernel
theorem dX10_heirs_25 : decode cX10_heirs 25 = .ok (.iconst 1, 1) := by decide +kernel
theorem dX10_heirs_26 : decode cX10_heirs 26 = .ok (.iconst 1, 1) := by decide +kernel
theorem dX10_heirs_27 : decode cX10_heirs 27 = .ok (.invokevirtual 157, 3) := by decide +kernel
theorem dX10_heirs_30 : decode cX10_heirs 30 = .ok (.aload_n 0, 1) := by decide +kernel
theorem dX10_heirs_31 : decode cX10_heirs 31 = .ok (.iload_n 1, 1) := by decide +kernel
theorem dX10_heirs_32 : decode cX10_heirs 32 = .ok (.iload_n 3, 1) := by decide +kernel
theorem dX10_heirs_33 : decode cX10_heirs 33 = .ok (.invokevirtual 221, 3) := by decide +kernel
theorem dX10_heirs_36 : decode cX10_heirs 36 = .ok (.iload_n 2, 1) := by decide +kernel
theorem dX10_heirs_37 : decode cX10_heirs 37 = .ok (.aload_n 0, 1) := by decide +kernel
theorem dX10_heirs_38 : decode cX10_heirs 38 = .ok (.invokevirtual 241, 3) := by decide +kernel
theorem dX10_heirs_41 : decode cX10_heirs 41 = .ok (.iload_n 1, 1) := by decide +kernel
theorem dX10_heirs_42 : decode cX10_heirs 42 = .ok (.invokestatic 147, 3) := by decide +kernel
theorem dX10_heirs_45 : decode cX10_heirs 45 = .ok (.ifCond .eq 9, 3) := by decide +kernel
theorem dX10_heirs_48 : decode cX10_heirs 48 = .ok (.iconst 1, 1) := by decide +kernel
theorem dX10_heirs_49 : decode cX10_heirs 49 = .ok (.iload_n 3, 1) := by decide +kernel
theorem dX10_heirs_50 : decode cX10_heirs 50 = .ok (.ishl, 1) := by decide +kernel
theorem dX10_heirs_51 : decode cX10_heirs 51 = .ok (.goto 4, 3) := by decide +kernel
theorem dX10_heirs_54 : decode cX10_heirs 54 = .ok (.iconst 0, 1) := by decide +kernel
theorem dX10_heirs_55 : decode cX10_heirs 55 = .ok (.ior, 1) := by decide +kernel
theorem dX10_heirs_56 : decode cX10_heirs 56 = .ok (.istore_n 2, 1) := by decide +kernel
theorem dX10_heirs_57 : decode cX10_heirs 57 = .ok (.aload_n 0, 1) := by decide +kernel
theorem dX10_heirs_58 : decode cX10_heirs 58 = .ok (.iconst 1, 1) := by decide +kernel
theorem dX10_heirs_59 : decode cX10_heirs 59 = .ok (.iconst 0, 1) := by decide +kernel
theorem dX10_heirs_60 : decode cX10_heirs 60 = .ok (.invokevirtual 157, 3) := by decide +kernel
theorem dX10_heirs_63 : decode cX10_heirs 63 = .ok (.iinc 3 1, 3) := by decide +kernel
theorem dX10_heirs_66 : decode cX10_heirs 66 = .ok (.goto (-48), 3) := by decide +kernel
theorem dX10_heirs_69 : decode cX10_heirs 69 = .ok (.iload_n 2, 1) := by decide +kernel
theorem dX10_heirs_70 : decode cX10_heirs 70 = .ok (.ireturn, 1) := by decide +kernel
theorem dX10_longestDark_0 : decode cX10_longestDark 0 = .ok (.iconst 0, 1) := by decide +kernel
theorem dX10_longestDark_1 : decode cX10_longestDark 1 = .ok (.istore_n 1, 1) := by decide +kernel
theorem dX10_longestDark_2 : decode cX10_longestDark 2 = .ok (.iconst 0, 1) := by decide +kernel
theorem dX10_longestDark_3 : decode cX10_longestDark 3 = .ok (.istore_n 2, 1) := by decide +kernel
theorem dX10_longestDark_4 : decode cX10_longestDark 4 = .ok (.iconst 0, 1) := by decide +kernel
theorem dX10_longestDark_5 : decode cX10_longestDark 5 = .ok (.istore_n 3, 1) := by decide +kernel
theorem dX10_longestDark_6 : decode cX10_longestDark 6 = .ok (.iload_n 3, 1) := by decide +kernel
theorem dX10_longestDark_7 : decode cX10_longestDark 7 = .ok (.aload_n 0, 1) := by decide +kernel
theorem dX10_longestDark_8 : decode cX10_longestDark 8 = .ok (.getfield 88, 3) := by decide +kernel
theorem dX10_longestDark_11 : decode cX10_longestDark 11 = .ok (.if_icmp .ge 39, 3) := by decide +kernel
theorem dX10_longestDark_14 : decode cX10_longestDark 14 = .ok (.aload_n 0, 1) := by decide +kernel
theorem dX10_longestDark_15 : decode cX10_longestDark 15 = .ok (.getfield 124, 3) := by decide +kernel
theorem dX10_longestDark_18 : decode cX10_longestDark 18 = .ok (.iload_n 3, 1) := by decide +kernel
theorem dX10_longestDark_19 : decode cX10_longestDark 19 = .ok (.invokestatic 147, 3) := by decide +kernel
theorem dX10_longestDark_22 : decode cX10_longestDark 22 = .ok (.ifCond .eq 7, 3) := by decide +kernel
theorem dX10_longestDark_25 : decode cX10_longestDark 25 = .ok (.iconst 0, 1) := by decide +kernel
theorem dX10_longestDark_26 : decode cX10_longestDark 26 = .ok (.goto 6, 3) := by decide +kernel
theorem dX10_longestDark_29 : decode cX10_longestDark 29 = .ok (.iload_n 1, 1) := by decide +kernel
theorem dX10_longestDark_30 : decode cX10_longestDark 30 = .ok (.iconst 1, 1) := by decide +kernel
theorem dX10_longestDark_31 : decode cX10_longestDark 31 = .ok (.iadd, 1) := by decide +kernel
theorem dX10_longestDark_32 : decode cX10_longestDark 32 = .ok (.istore_n 1, 1) := by decide +kernel
theorem dX10_longestDark_33 : decode cX10_longestDark 33 = .ok (.iload_n 1, 1) := by decide +kernel
theorem dX10_longestDark_34 : decode cX10_longestDark 34 = .ok (.iload_n 2, 1) := by decide +kernel
theorem dX10_longestDark_35 : decode cX10_longestDark 35 = .ok (.if_icmp .le 7, 3) := by decide +kernel
theorem dX10_longestDark_38 : decode cX10_longestDark 38 = .ok (.iload_n 1, 1) := by decide +kernel
theorem dX10_longestDark_39 : decode cX10_longestDark 39 = .ok (.goto 4, 3) := by decide +kernel
theorem dX10_longestDark_42 : decode cX10_longestDark 42 = .ok (.iload_n 2, 1) := by decide +kernel
theorem dX10_longestDark_43 : decode cX10_longestDark 43 = .ok (.istore_n 2, 1) := by decide +kernel
theorem dX10_longestDark_44 : decode cX10_longestDark 44 = .ok (.iinc 3 1, 3) := by decide +kernel
theorem dX10_longestDark_47 : decode cX10_longestDark 47 = .ok (.goto (-41), 3) := by decide +kernel
theorem dX10_longestDark_50 : decode cX10_longestDark 50 = .ok (.iload_n 2, 1) := by decide +kernel
theorem dX10_longestDark_51 : decode cX10_longestDark 51 = .ok (.ireturn, 1) := by decide +kernel
theorem dX10_gaps_0 : decode cX10_gaps 0 = .ok (.iload_n 1, 1) := by decide +kernel
theorem dX10_gaps_1 : decode cX10_gaps 1 = .ok (.iconst 0, 1) := by decide +kernel
theorem dX10_gaps_2 : decode cX10_gaps 2 = .ok (.iconst 1, 1) := by decide +kernel
theorem dX10_gaps_3 : decode cX10_gaps 3 = .ok (.invokestatic 110, 3) := by decide +kernel
theorem dX10_gaps_6 : decode cX10_gaps 6 = .ok (.ifCond .ne 10, 3) := by decide +kernel
theorem dX10_gaps_9 : decode cX10_gaps 9 = .ok (.aload_n 0, 1) := by decide +kernel
theorem dX10_gaps_10 : decode cX10_gaps 10 = .ok (.bipush (-2), 2) := by decide +kernel
theorem dX10_gaps_12 : decode cX10_gaps 12 = .ok (.invokevirtual 99, 3) := by decide +kernel
theorem dX10_gaps_15 : decode cX10_gaps 15 = .ok (.ireturn, 1) := by decide +kernel
theorem dX10_gaps_16 : decode cX10_gaps 16 = .ok (.aload_n 0, 1) := by decide +kernel
theorem dX10_gaps_17 : decode cX10_gaps 17 = .ok (.iconst 1, 1) := by decide +kernel
theorem dX10_gaps_18 : decode cX10_gaps 18 = .ok (.iconst 1, 1) := by decide +kernel
theorem dX10_gaps_19 : decode cX10_gaps 19 = .ok (.invokevirtual 157, 3) := by decide +kernel
theorem dX10_gaps_22 : decode cX10_gaps 22 = .ok (.iconst 0, 1) := by decide +kernel
theorem dX10_gaps_23 : decode cX10_gaps 23 = .ok (.istore_n 2, 1) := by decide +kernel
theorem dX10_gaps_24 : decode cX10_gaps 24 = .ok (.bipush (-9), 2) := by decide +kernel
theorem dX10_gaps_26 : decode cX10_gaps 26 = .ok (.istore_n 3, 1) := by decide +kernel
theorem dX10_gaps_27 : decode cX10_gaps 27 = .ok (.iconst 1, 1) := by decide +kernel
theorem dX10_gaps_28 : decode cX10_gaps 28 = .ok (.istore 4, 2) := by decide +kernel
theorem dX10_gaps_30 : decode cX10_gaps 30 = .ok (.aload_n 0, 1) := by decide +kernel
theorem dX10_gaps_31 : decode cX10_gaps 31 = .ok (.getfield 127, 3) := by decide +kernel
theorem dX10_gaps_34 : decode cX10_gaps 34 = .ok (.aload_n 0, 1) := by decide +kernel
theorem dX10_gaps_35 : decode cX10_gaps 35 = .ok (.invokevirtual 130, 3) := by decide +kernel
theorem dX10_gaps_38 : decode cX10_gaps 38 = .ok (.if_icmp .ge 46, 3) := by decide +kernel
theorem dX10_gaps_41 : decode cX10_gaps 41 = .ok (.aload_n 0, 1) := by decide +kernel
theorem dX10_gaps_42 : decode cX10_gaps 42 = .ok (.iconst 0, 1) := by decide +kernel
theorem dX10_gaps_43 : decode cX10_gaps 43 = .ok (.invokevirtual 136, 3) := by decide +kernel
theorem dX10_gaps_46 : decode cX10_gaps 46 = .ok (.aload_n 0, 1) := by decide +kernel
theorem dX10_gaps_47 : decode cX10_gaps 47 = .ok (.invokevirtual 331, 3) := by decide +kernel
theorem dX10_gaps_50 : decode cX10_gaps 50 = .ok (.istore 5, 2) := by decide +kernel
theorem dX10_gaps_52 : decode cX10_gaps 52 = .ok (.iload 5, 2) := by decide +kernel
theorem dX10_gaps_54 : decode cX10_gaps 54 = .ok (.iload_n 2, 1) := by decide +kernel
theorem dX10_gaps_55 : decode cX10_gaps 55 = .ok (.if_icmp .le 8, 3) := by decide +kernel
theorem dX10_gaps_58 : decode cX10_gaps 58 = .ok (.iload 4, 2) := by decide +kernel
theorem dX10_gaps_60 : decode cX10_gaps 60 = .ok (.goto 4, 3) := by decide +kernel
theorem dX10_gaps_63 : decode cX10_gaps 63 = .ok (.iload_n 3, 1) := by decide +kernel
theorem dX10_gaps_64 : decode cX10_gaps 64 = .ok (.istore_n 3, 1) := by decide +kernel
theorem dX10_gaps_65 : decode cX10_gaps 65 = .ok (.iload 5, 2) := by decide +kernel
theorem dX10_gaps_67 : decode cX10_gaps 67 = .ok (.iload_n 2, 1) := by decide +kernel
theorem dX10_gaps_68 : decode cX10_gaps 68 = .ok (.if_icmp .le 8, 3) := by decide +kernel
theorem dX10_gaps_71 : decode cX10_gaps 71 = .ok (.iload 5, 2) := by decide +kernel
theorem dX10_gaps_73 : decode cX10_gaps 73 = .ok (.goto 4, 3) := by decide +kernel
theorem dX10_gaps_76 : decode cX10_gaps 76 = .ok (.iload_n 2, 1) := by decide +kernel
theorem dX10_gaps_77 : decode cX10_gaps 77 = .ok (.istore_n 2, 1) := by decide +kernel
theorem dX10_gaps_78 : decode cX10_gaps 78 = .ok (.iinc 4 1, 3) := by decide +kernel
theorem dX10_gaps_81 : decode cX10_gaps 81 = .ok (.goto (-51), 3) := by decide +kernel
theorem dX10_gaps_84 : decode cX10_gaps 84 = .ok (.aload_n 0, 1) := by decide +kernel
theorem dX10_gaps_85 : decode cX10_gaps 85 = .ok (.iconst 1, 1) := by decide +kernel
theorem dX10_gaps_86 : decode cX10_gaps 86 = .ok (.iconst 0, 1) := by decide +kernel
theorem dX10_gaps_87 : decode cX10_gaps 87 = .ok (.invokevirtual 157, 3) := by decide +kernel
theorem dX10_gaps_90 : decode cX10_gaps 90 = .ok (.iload_n 1, 1) := by decide +kernel
theorem dX10_gaps_91 : decode cX10_gaps 91 = .ok (.ifCond .ne 7, 3) := by decide +kernel
theorem dX10_gaps_94 : decode cX10_gaps 94 = .ok (.iload_n 2, 1) := by decide +kernel
theorem dX10_gaps_95 : decode cX10_gaps 95 = .ok (.goto 4, 3) := by decide +kernel
theorem dX10_gaps_98 : decode cX10_gaps 98 = .ok (.iload_n 3, 1) := by decide +kernel
theorem dX10_gaps_99 : decode cX10_gaps 99 = .ok (.ireturn, 1) := by decide +kernel
theorem dX10_lightsOne_0 : decode cX10_lightsOne 0 = .ok (.iconst 0, 1) := by decide +kernel
theorem dX10_lightsOne_1 : decode cX10_lightsOne 1 = .ok (.istore_n 1, 1) := by decide +kernel
theorem dX10_lightsOne_2 : decode cX10_lightsOne 2 = .ok (.iload_n 1, 1) := by decide +kernel
theorem dX10_lightsOne_3 : decode cX10_lightsOne 3 = .ok (.aload_n 0, 1) := by decide +kernel
theorem dX10_lightsOne_4 : decode cX10_lightsOne 4 = .ok (.getfield 88, 3) := by decide +kernel
theorem dX10_lightsOne_7 : decode cX10_lightsOne 7 = .ok (.if_icmp .ge 47, 3) := by decide +kernel
theorem dX10_lightsOne_10 : decode cX10_lightsOne 10 = .ok (.aload_n 0, 1) := by decide +kernel
theorem dX10_lightsOne_11 : decode cX10_lightsOne 11 = .ok (.getfield 16, 3) := by decide +kernel
theorem dX10_lightsOne_14 : decode cX10_lightsOne 14 = .ok (.iload_n 1, 1) := by decide +kernel
theorem dX10_lightsOne_15 : decode cX10_lightsOne 15 = .ok (.iaload, 1) := by decide +kernel
theorem dX10_lightsOne_16 : decode cX10_lightsOne 16 = .ok (.bipush 6, 2) := by decide +kernel
theorem dX10_lightsOne_18 : decode cX10_lightsOne 18 = .ok (.if_icmp .eq 30, 3) := by decide +kernel
theorem dX10_lightsOne_21 : decode cX10_lightsOne 21 = .ok (.aload_n 0, 1) := by decide +kernel
theorem dX10_lightsOne_22 : decode cX10_lightsOne 22 = .ok (.getfield 124, 3) := by decide +kernel
theorem dX10_lightsOne_25 : decode cX10_lightsOne 25 = .ok (.iload_n 1, 1) := by decide +kernel
theorem dX10_lightsOne_26 : decode cX10_lightsOne 26 = .ok (.invokestatic 147, 3) := by decide +kernel
theorem dX10_lightsOne_29 : decode cX10_lightsOne 29 = .ok (.ifCond .eq 6, 3) := by decide +kernel
theorem dX10_lightsOne_32 : decode cX10_lightsOne 32 = .ok (.goto 16, 3) := by decide +kernel
theorem dX10_lightsOne_35 : decode cX10_lightsOne 35 = .ok (.aload_n 0, 1) := by decide +kernel
theorem dX10_lightsOne_36 : decode cX10_lightsOne 36 = .ok (.dup, 1) := by decide +kernel
theorem dX10_lightsOne_37 : decode cX10_lightsOne 37 = .ok (.getfield 124, 3) := by decide +kernel
theorem dX10_lightsOne_40 : decode cX10_lightsOne 40 = .ok (.iconst 1, 1) := by decide +kernel
theorem dX10_lightsOne_41 : decode cX10_lightsOne 41 = .ok (.iload_n 1, 1) := by decide +kernel
theorem dX10_lightsOne_42 : decode cX10_lightsOne 42 = .ok (.ishl, 1) := by decide +kernel
theorem dX10_lightsOne_43 : decode cX10_lightsOne 43 = .ok (.ior, 1) := by decide +kernel
theorem dX10_lightsOne_44 : decode cX10_lightsOne 44 = .ok (.putfield 124, 3) := by decide +kernel
theorem dX10_lightsOne_47 : decode cX10_lightsOne 47 = .ok (.return_, 1) := by decide +kernel
theorem dX10_lightsOne_48 : decode cX10_lightsOne 48 = .ok (.iinc 1 1, 3) := by decide +kernel
theorem dX10_lightsOne_51 : decode cX10_lightsOne 51 = .ok (.goto (-49), 3) := by decide +kernel
theorem dX10_lightsOne_54 : decode cX10_lightsOne 54 = .ok (.return_, 1) := by decide +kernel
theorem dX10_doesLight_0 : decode cX10_doesLight 0 = .ok (.aload_n 0, 1) := by decide +kernel
theorem dX10_doesLight_1 : decode cX10_doesLight 1 = .ok (.iconst 1, 1) := by decide +kernel
theorem dX10_doesLight_2 : decode cX10_doesLight 2 = .ok (.iconst 1, 1) := by decide +kernel
theorem dX10_doesLight_3 : decode cX10_doesLight 3 = .ok (.invokevirtual 157, 3) := by decide +kernel
theorem dX10_doesLight_6 : decode cX10_doesLight 6 = .ok (.iconst 0, 1) := by decide +kernel
theorem dX10_doesLight_7 : decode cX10_doesLight 7 = .ok (.istore_n 2, 1) := by decide +kernel
theorem dX10_doesLight_8 : decode cX10_doesLight 8 = .ok (.aload_n 0, 1) := by decide +kernel
theorem dX10_doesLight_9 : decode cX10_doesLight 9 = .ok (.getfield 127, 3) := by decide +kernel
theorem dX10_doesLight_12 : decode cX10_doesLight 12 = .ok (.aload_n 0, 1) := by decide +kernel
theorem dX10_doesLight_13 : decode cX10_doesLight 13 = .ok (.invokevirtual 130, 3) := by decide +kernel
theorem dX10_doesLight_16 : decode cX10_doesLight 16 = .ok (.if_icmp .ge 41, 3) := by decide +kernel
theorem dX10_doesLight_19 : decode cX10_doesLight 19 = .ok (.iconst 0, 1) := by decide +kernel
theorem dX10_doesLight_20 : decode cX10_doesLight 20 = .ok (.istore_n 3, 1) := by decide +kernel
theorem dX10_doesLight_21 : decode cX10_doesLight 21 = .ok (.iload_n 3, 1) := by decide +kernel
theorem dX10_doesLight_22 : decode cX10_doesLight 22 = .ok (.iload_n 1, 1) := by decide +kernel
theorem dX10_doesLight_23 : decode cX10_doesLight 23 = .ok (.if_icmp .ge 23, 3) := by decide +kernel
theorem dX10_doesLight_26 : decode cX10_doesLight 26 = .ok (.aload_n 0, 1) := by decide +kernel
theorem dX10_doesLight_27 : decode cX10_doesLight 27 = .ok (.getfield 80, 3) := by decide +kernel
theorem dX10_doesLight_30 : decode cX10_doesLight 30 = .ok (.iload_n 3, 1) := by decide +kernel
theorem dX10_doesLight_31 : decode cX10_doesLight 31 = .ok (.iaload, 1) := by decide +kernel
theorem dX10_doesLight_32 : decode cX10_doesLight 32 = .ok (.iload_n 2, 1) := by decide +kernel
theorem dX10_doesLight_33 : decode cX10_doesLight 33 = .ok (.if_icmp .ne 7, 3) := by decide +kernel
theorem dX10_doesLight_36 : decode cX10_doesLight 36 = .ok (.aload_n 0, 1) := by decide +kernel
theorem dX10_doesLight_37 : decode cX10_doesLight 37 = .ok (.invokevirtual 334, 3) := by decide +kernel
theorem dX10_doesLight_40 : decode cX10_doesLight 40 = .ok (.iinc 3 1, 3) := by decide +kernel
theorem dX10_doesLight_43 : decode cX10_doesLight 43 = .ok (.goto (-22), 3) := by decide +kernel
theorem dX10_doesLight_46 : decode cX10_doesLight 46 = .ok (.aload_n 0, 1) := by decide +kernel
theorem dX10_doesLight_47 : decode cX10_doesLight 47 = .ok (.iconst 0, 1) := by decide +kernel
theorem dX10_doesLight_48 : decode cX10_doesLight 48 = .ok (.invokevirtual 136, 3) := by decide +kernel
theorem dX10_doesLight_51 : decode cX10_doesLight 51 = .ok (.iinc 2 1, 3) := by decide +kernel
theorem dX10_doesLight_54 : decode cX10_doesLight 54 = .ok (.goto (-46), 3) := by decide +kernel
theorem dX10_doesLight_57 : decode cX10_doesLight 57 = .ok (.aload_n 0, 1) := by decide +kernel
theorem dX10_doesLight_58 : decode cX10_doesLight 58 = .ok (.getfield 124, 3) := by decide +kernel
theorem dX10_doesLight_61 : decode cX10_doesLight 61 = .ok (.ifCond .eq 7, 3) := by decide +kernel
theorem dX10_doesLight_64 : decode cX10_doesLight 64 = .ok (.iconst 1, 1) := by decide +kernel
theorem dX10_doesLight_65 : decode cX10_doesLight 65 = .ok (.goto 4, 3) := by decide +kernel
theorem dX10_doesLight_68 : decode cX10_doesLight 68 = .ok (.iconst 0, 1) := by decide +kernel
theorem dX10_doesLight_69 : decode cX10_doesLight 69 = .ok (.istore_n 2, 1) := by decide +kernel
theorem dX10_doesLight_70 : decode cX10_doesLight 70 = .ok (.aload_n 0, 1) := by decide +kernel
theorem dX10_doesLight_71 : decode cX10_doesLight 71 = .ok (.iconst 1, 1) := by decide +kernel
theorem dX10_doesLight_72 : decode cX10_doesLight 72 = .ok (.iconst 0, 1) := by decide +kernel
theorem dX10_doesLight_73 : decode cX10_doesLight 73 = .ok (.invokevirtual 157, 3) := by decide +kernel
theorem dX10_doesLight_76 : decode cX10_doesLight 76 = .ok (.iload_n 2, 1) := by decide +kernel
theorem dX10_doesLight_77 : decode cX10_doesLight 77 = .ok (.ireturn, 1) := by decide +kernel
theorem dX10_findMatches_0 : decode cX10_findMatches 0 = .ok (.aload_n 0, 1) := by decide +kernel
theorem dX10_findMatches_1 : decode cX10_findMatches 1 = .ok (.invokevirtual 130, 3) := by decide +kernel
theorem dX10_findMatches_4 : decode cX10_findMatches 4 = .ok (.aload_n 0, 1) := by decide +kernel
theorem dX10_findMatches_5 : decode cX10_findMatches 5 = .ok (.getfield 127, 3) := by decide +kernel
theorem dX10_findMatches_8 : decode cX10_findMatches 8 = .ok (.isub, 1) := by decide +kernel
theorem dX10_findMatches_9 : decode cX10_findMatches 9 = .ok (.istore_n 2, 1) := by decide +kernel
theorem dX10_findMatches_10 : decode cX10_findMatches 10 = .ok (.iconst 1, 1) := by decide +kernel
theorem dX10_findMatches_11 : decode cX10_findMatches 11 = .ok (.istore_n 3, 1) := by decide +kernel
theorem dX10_findMatches_12 : decode cX10_findMatches 12 = .ok (.iconst 0, 1) := by decide +kernel
theorem dX10_findMatches_13 : decode cX10_findMatches 13 = .ok (.istore 4, 2) := by decide +kernel
theorem dX10_findMatches_15 : decode cX10_findMatches 15 = .ok (.iload 4, 2) := by decide +kernel
theorem dX10_findMatches_17 : decode cX10_findMatches 17 = .ok (.iload_n 1, 1) := by decide +kernel
theorem dX10_findMatches_18 : decode cX10_findMatches 18 = .ok (.if_icmp .ge 13, 3) := by decide +kernel
theorem dX10_findMatches_21 : decode cX10_findMatches 21 = .ok (.iload_n 3, 1) := by decide +kernel
theorem dX10_findMatches_22 : decode cX10_findMatches 22 = .ok (.iload_n 2, 1) := by decide +kernel
theorem dX10_findMatches_23 : decode cX10_findMatches 23 = .ok (.imul, 1) := by decide +kernel
theorem dX10_findMatches_24 : decode cX10_findMatches 24 = .ok (.istore_n 3, 1) := by decide +kernel
theorem dX10_findMatches_25 : decode cX10_findMatches 25 = .ok (.iinc 4 1, 3) := by decide +kernel
theorem dX10_findMatches_28 : decode cX10_findMatches 28 = .ok (.goto (-13), 3) := by decide +kernel
theorem dX10_findMatches_31 : decode cX10_findMatches 31 = .ok (.iconst 0, 1) := by decide +kernel
theorem dX10_findMatches_32 : decode cX10_findMatches 32 = .ok (.istore 4, 2) := by decide +kernel
theorem dX10_findMatches_34 : decode cX10_findMatches 34 = .ok (.iload 4, 2) := by decide +kernel
theorem dX10_findMatches_36 : decode cX10_findMatches 36 = .ok (.iload_n 3, 1) := by decide +kernel
theorem dX10_findMatches_37 : decode cX10_findMatches 37 = .ok (.if_icmp .ge 101, 3) := by decide +kernel
theorem dX10_findMatches_40 : decode cX10_findMatches 40 = .ok (.iload 4, 2) := by decide +kernel
theorem dX10_findMatches_42 : decode cX10_findMatches 42 = .ok (.istore 5, 2) := by decide +kernel
theorem dX10_findMatches_44 : decode cX10_findMatches 44 = .ok (.iconst 1, 1) := by decide +kernel
theorem dX10_findMatches_45 : decode cX10_findMatches 45 = .ok (.istore 6, 2) := by decide +kernel
theorem dX10_findMatches_47 : decode cX10_findMatches 47 = .ok (.iload_n 1, 1) := by decide +kernel
theorem dX10_findMatches_48 : decode cX10_findMatches 48 = .ok (.iconst 1, 1) := by decide +kernel
theorem dX10_findMatches_49 : decode cX10_findMatches 49 = .ok (.isub, 1) := by decide +kernel
theorem dX10_findMatches_50 : decode cX10_findMatches 50 = .ok (.istore 7, 2) := by decide +kernel
theorem dX10_findMatches_52 : decode cX10_findMatches 52 = .ok (.iload 7, 2) := by decide +kernel
theorem dX10_findMatches_54 : decode cX10_findMatches 54 = .ok (.ifCond .lt 63, 3) := by decide +kernel
theorem dX10_findMatches_57 : decode cX10_findMatches 57 = .ok (.aload_n 0, 1) := by decide +kernel
theorem dX10_findMatches_58 : decode cX10_findMatches 58 = .ok (.getfield 80, 3) := by decide +kernel
theorem dX10_findMatches_61 : decode cX10_findMatches 61 = .ok (.iload 7, 2) := by decide +kernel
theorem dX10_findMatches_63 : decode cX10_findMatches 63 = .ok (.iload 5, 2) := by decide +kernel
theorem dX10_findMatches_65 : decode cX10_findMatches 65 = .ok (.iload_n 2, 1) := by decide +kernel
theorem dX10_findMatches_66 : decode cX10_findMatches 66 = .ok (.irem, 1) := by decide +kernel
theorem dX10_findMatches_67 : decode cX10_findMatches 67 = .ok (.iastore, 1) := by decide +kernel
theorem dX10_findMatches_68 : decode cX10_findMatches 68 = .ok (.iload 5, 2) := by decide +kernel
theorem dX10_findMatches_70 : decode cX10_findMatches 70 = .ok (.iload_n 2, 1) := by decide +kernel
theorem dX10_findMatches_71 : decode cX10_findMatches 71 = .ok (.idiv, 1) := by decide +kernel
theorem dX10_findMatches_72 : decode cX10_findMatches 72 = .ok (.istore 5, 2) := by decide +kernel
theorem dX10_findMatches_74 : decode cX10_findMatches 74 = .ok (.iload 6, 2) := by decide +kernel
theorem dX10_findMatches_76 : decode cX10_findMatches 76 = .ok (.iload 7, 2) := by decide +kernel
theorem dX10_findMatches_78 : decode cX10_findMatches 78 = .ok (.iload_n 1, 1) := by decide +kernel
theorem dX10_findMatches_79 : decode cX10_findMatches 79 = .ok (.iconst 1, 1) := by decide +kernel
theorem dX10_findMatches_80 : decode cX10_findMatches 80 = .ok (.isub, 1) := by decide +kernel
theorem dX10_findMatches_81 : decode cX10_findMatches 81 = .ok (.if_icmp .eq 22, 3) := by decide +kernel
theorem dX10_findMatches_84 : decode cX10_findMatches 84 = .ok (.aload_n 0, 1) := by decide +kernel
theorem dX10_findMatches_85 : decode cX10_findMatches 85 = .ok (.getfield 80, 3) := by decide +kernel
theorem dX10_findMatches_88 : decode cX10_findMatches 88 = .ok (.iload 7, 2) := by decide +kernel
theorem dX10_findMatches_90 : decode cX10_findMatches 90 = .ok (.iaload, 1) := by decide +kernel
theorem dX10_findMatches_91 : decode cX10_findMatches 91 = .ok (.aload_n 0, 1) := by decide +kernel
theorem dX10_findMatches_92 : decode cX10_findMatches 92 = .ok (.getfield 80, 3) := by decide +kernel
theorem dX10_findMatches_95 : decode cX10_findMatches 95 = .ok (.iload 7, 2) := by decide +kernel
theorem dX10_findMatches_97 : decode cX10_findMatches 97 = .ok (.iconst 1, 1) := by decide +kernel
theorem dX10_findMatches_98 : decode cX10_findMatches 98 = .ok (.iadd, 1) := by decide +kernel
theorem dX10_findMatches_99 : decode cX10_findMatches 99 = .ok (.iaload, 1) := by decide +kernel
theorem dX10_findMatches_100 : decode cX10_findMatches 100 = .ok (.if_icmp .ge 7, 3) := by decide +kernel
theorem dX10_findMatches_103 : decode cX10_findMatches 103 = .ok (.iconst 1, 1) := by decide +kernel
theorem dX10_findMatches_104 : decode cX10_findMatches 104 = .ok (.goto 4, 3) := by decide +kernel
theorem dX10_findMatches_107 : decode cX10_findMatches 107 = .ok (.iconst 0, 1) := by decide +kernel
theorem dX10_findMatches_108 : decode cX10_findMatches 108 = .ok (.iand, 1) := by decide +kernel
theorem dX10_findMatches_109 : decode cX10_findMatches 109 = .ok (.istore 6, 2) := by decide +kernel
theorem dX10_findMatches_111 : decode cX10_findMatches 111 = .ok (.iinc 7 (-1), 3) := by decide +kernel
theorem dX10_findMatches_114 : decode cX10_findMatches 114 = .ok (.goto (-62), 3) := by decide +kernel
theorem dX10_findMatches_117 : decode cX10_findMatches 117 = .ok (.iload 6, 2) := by decide +kernel
theorem dX10_findMatches_119 : decode cX10_findMatches 119 = .ok (.ifCond .eq 13, 3) := by decide +kernel
theorem dX10_findMatches_122 : decode cX10_findMatches 122 = .ok (.aload_n 0, 1) := by decide +kernel
theorem dX10_findMatches_123 : decode cX10_findMatches 123 = .ok (.iload_n 1, 1) := by decide +kernel
theorem dX10_findMatches_124 : decode cX10_findMatches 124 = .ok (.invokevirtual 337, 3) := by decide +kernel
theorem dX10_findMatches_127 : decode cX10_findMatches 127 = .ok (.ifCond .eq 5, 3) := by decide +kernel
theorem dX10_findMatches_130 : decode cX10_findMatches 130 = .ok (.iconst 1, 1) := by decide +kernel
theorem dX10_findMatches_131 : decode cX10_findMatches 131 = .ok (.ireturn, 1) := by decide +kernel
theorem dX10_findMatches_132 : decode cX10_findMatches 132 = .ok (.iinc 4 1, 3) := by decide +kernel
theorem dX10_findMatches_135 : decode cX10_findMatches 135 = .ok (.goto (-101), 3) := by decide +kernel
theorem dX10_findMatches_138 : decode cX10_findMatches 138 = .ok (.iconst 0, 1) := by decide +kernel
theorem dX10_findMatches_139 : decode cX10_findMatches 139 = .ok (.ireturn, 1) := by decide +kernel
theorem dX10_matches_0 : decode cX10_matches 0 = .ok (.iload_n 1, 1) := by decide +kernel
theorem dX10_matches_1 : decode cX10_matches 1 = .ok (.iconst (-1), 1) := by decide +kernel
theorem dX10_matches_2 : decode cX10_matches 2 = .ok (.if_icmp .ge 10, 3) := by decide +kernel
theorem dX10_matches_5 : decode cX10_matches 5 = .ok (.aload_n 0, 1) := by decide +kernel
theorem dX10_matches_6 : decode cX10_matches 6 = .ok (.bipush (-4), 2) := by decide +kernel
theorem dX10_matches_8 : decode cX10_matches 8 = .ok (.invokevirtual 99, 3) := by decide +kernel
theorem dX10_matches_11 : decode cX10_matches 11 = .ok (.ireturn, 1) := by decide +kernel
theorem dX10_matches_12 : decode cX10_matches 12 = .ok (.iconst 0, 1) := by decide +kernel
theorem dX10_matches_13 : decode cX10_matches 13 = .ok (.istore_n 2, 1) := by decide +kernel
theorem dX10_matches_14 : decode cX10_matches 14 = .ok (.iload_n 2, 1) := by decide +kernel
theorem dX10_matches_15 : decode cX10_matches 15 = .ok (.iconst 4, 1) := by decide +kernel
theorem dX10_matches_16 : decode cX10_matches 16 = .ok (.if_icmp .ge 42, 3) := by decide +kernel
theorem dX10_matches_19 : decode cX10_matches 19 = .ok (.aload_n 0, 1) := by decide +kernel
theorem dX10_matches_20 : decode cX10_matches 20 = .ok (.iload_n 2, 1) := by decide +kernel
theorem dX10_matches_21 : decode cX10_matches 21 = .ok (.invokevirtual 340, 3) := by decide +kernel
theorem dX10_matches_24 : decode cX10_matches 24 = .ok (.ifCond .eq 28, 3) := by decide +kernel
theorem dX10_matches_27 : decode cX10_matches 27 = .ok (.iload_n 1, 1) := by decide +kernel
theorem dX10_matches_28 : decode cX10_matches 28 = .ok (.ifCond .ge 7, 3) := by decide +kernel
theorem dX10_matches_31 : decode cX10_matches 31 = .ok (.iload_n 2, 1) := by decide +kernel
theorem dX10_matches_32 : decode cX10_matches 32 = .ok (.goto 19, 3) := by decide +kernel
theorem dX10_matches_35 : decode cX10_matches 35 = .ok (.iload_n 1, 1) := by decide +kernel
theorem dX10_matches_36 : decode cX10_matches 36 = .ok (.iload_n 2, 1) := by decide +kernel
theorem dX10_matches_37 : decode cX10_matches 37 = .ok (.if_icmp .ge 12, 3) := by decide +kernel
theorem dX10_matches_40 : decode cX10_matches 40 = .ok (.aload_n 0, 1) := by decide +kernel
theorem dX10_matches_41 : decode cX10_matches 41 = .ok (.getfield 80, 3) := by decide +kernel
theorem dX10_matches_44 : decode cX10_matches 44 = .ok (.iload_n 1, 1) := by decide +kernel
theorem dX10_matches_45 : decode cX10_matches 45 = .ok (.iaload, 1) := by decide +kernel
theorem dX10_matches_46 : decode cX10_matches 46 = .ok (.goto 5, 3) := by decide +kernel
theorem dX10_matches_49 : decode cX10_matches 49 = .ok (.bipush (-9), 2) := by decide +kernel
theorem dX10_matches_51 : decode cX10_matches 51 = .ok (.ireturn, 1) := by decide +kernel
theorem dX10_matches_52 : decode cX10_matches 52 = .ok (.iinc 2 1, 3) := by decide +kernel
theorem dX10_matches_55 : decode cX10_matches 55 = .ok (.goto (-41), 3) := by decide +kernel
theorem dX10_matches_58 : decode cX10_matches 58 = .ok (.bipush (-9), 2) := by decide +kernel
theorem dX10_matches_60 : decode cX10_matches 60 = .ok (.ireturn, 1) := by decide +kernel
theorem dX10_isWax_0 : decode cX10_isWax 0 = .ok (.aload_n 0, 1) := by decide +kernel
theorem dX10_isWax_1 : decode cX10_isWax 1 = .ok (.iconst 1, 1) := by decide +kernel
theorem dX10_isWax_2 : decode cX10_isWax 2 = .ok (.iconst 1, 1) := by decide +kernel
theorem dX10_isWax_3 : decode cX10_isWax 3 = .ok (.invokevirtual 157, 3) := by decide +kernel
theorem dX10_isWax_6 : decode cX10_isWax 6 = .ok (.aload_n 0, 1) := by decide +kernel
theorem dX10_isWax_7 : decode cX10_isWax 7 = .ok (.iload_n 1, 1) := by decide +kernel
theorem dX10_isWax_8 : decode cX10_isWax 8 = .ok (.putfield 124, 3) := by decide +kernel
theorem dX10_isWax_11 : decode cX10_isWax 11 = .ok (.iconst 1, 1) := by decide +kernel
theorem dX10_isWax_12 : decode cX10_isWax 12 = .ok (.istore_n 2, 1) := by decide +kernel
theorem dX10_isWax_13 : decode cX10_isWax 13 = .ok (.iconst 0, 1) := by decide +kernel
theorem dX10_isWax_14 : decode cX10_isWax 14 = .ok (.istore_n 3, 1) := by decide +kernel
theorem dX10_isWax_15 : decode cX10_isWax 15 = .ok (.iload_n 3, 1) := by decide +kernel
theorem dX10_isWax_16 : decode cX10_isWax 16 = .ok (.aload_n 0, 1) := by decide +kernel
theorem dX10_isWax_17 : decode cX10_isWax 17 = .ok (.getfield 88, 3) := by decide +kernel
theorem dX10_isWax_20 : decode cX10_isWax 20 = .ok (.if_icmp .ge 33, 3) := by decide +kernel
theorem dX10_isWax_23 : decode cX10_isWax 23 = .ok (.iload_n 2, 1) := by decide +kernel
theorem dX10_isWax_24 : decode cX10_isWax 24 = .ok (.ifCond .eq 29, 3) := by decide +kernel
theorem dX10_isWax_27 : decode cX10_isWax 27 = .ok (.aload_n 0, 1) := by decide +kernel
theorem dX10_isWax_28 : decode cX10_isWax 28 = .ok (.iload_n 3, 1) := by decide +kernel
theorem dX10_isWax_29 : decode cX10_isWax 29 = .ok (.invokevirtual 247, 3) := by decide +kernel
theorem dX10_isWax_32 : decode cX10_isWax 32 = .ok (.aload_n 0, 1) := by decide +kernel
theorem dX10_isWax_33 : decode cX10_isWax 33 = .ok (.getfield 83, 3) := by decide +kernel
theorem dX10_isWax_36 : decode cX10_isWax 36 = .ok (.iload_n 3, 1) := by decide +kernel
theorem dX10_isWax_37 : decode cX10_isWax 37 = .ok (.iaload, 1) := by decide +kernel
theorem dX10_isWax_38 : decode cX10_isWax 38 = .ok (.if_icmp .ne 7, 3) := by decide +kernel
theorem dX10_isWax_41 : decode cX10_isWax 41 = .ok (.iconst 1, 1) := by decide +kernel
theorem dX10_isWax_42 : decode cX10_isWax 42 = .ok (.goto 4, 3) := by decide +kernel
theorem dX10_isWax_45 : decode cX10_isWax 45 = .ok (.iconst 0, 1) := by decide +kernel
theorem dX10_isWax_46 : decode cX10_isWax 46 = .ok (.istore_n 2, 1) := by decide +kernel
theorem dX10_isWax_47 : decode cX10_isWax 47 = .ok (.iinc 3 1, 3) := by decide +kernel
theorem dX10_isWax_50 : decode cX10_isWax 50 = .ok (.goto (-35), 3) := by decide +kernel
theorem dX10_isWax_53 : decode cX10_isWax 53 = .ok (.aload_n 0, 1) := by decide +kernel
theorem dX10_isWax_54 : decode cX10_isWax 54 = .ok (.iconst 1, 1) := by decide +kernel
theorem dX10_isWax_55 : decode cX10_isWax 55 = .ok (.iconst 0, 1) := by decide +kernel
theorem dX10_isWax_56 : decode cX10_isWax 56 = .ok (.invokevirtual 157, 3) := by decide +kernel
theorem dX10_isWax_59 : decode cX10_isWax 59 = .ok (.iload_n 2, 1) := by decide +kernel
theorem dX10_isWax_60 : decode cX10_isWax 60 = .ok (.ireturn, 1) := by decide +kernel
theorem dX10_wax_0 : decode cX10_wax 0 = .ok (.iload_n 1, 1) := by decide +kernel
theorem dX10_wax_1 : decode cX10_wax 1 = .ok (.iconst 0, 1) := by decide +kernel
theorem dX10_wax_2 : decode cX10_wax 2 = .ok (.iconst 1, 1) := by decide +kernel
theorem dX10_wax_3 : decode cX10_wax 3 = .ok (.invokestatic 110, 3) := by decide +kernel
theorem dX10_wax_6 : decode cX10_wax 6 = .ok (.ifCond .ne 8, 3) := by decide +kernel
theorem dX10_wax_9 : decode cX10_wax 9 = .ok (.bipush (-2), 2) := by decide +kernel
theorem dX10_wax_11 : decode cX10_wax 11 = .ok (.goto 20, 3) := by decide +kernel
theorem dX10_wax_14 : decode cX10_wax 14 = .ok (.aload_n 0, 1) := by decide +kernel
theorem dX10_wax_15 : decode cX10_wax 15 = .ok (.getfield 343, 3) := by decide +kernel
theorem dX10_wax_18 : decode cX10_wax 18 = .ok (.aload_n 0, 1) := by decide +kernel
theorem dX10_wax_19 : decode cX10_wax 19 = .ok (.getfield 88, 3) := by decide +kernel
theorem dX10_wax_22 : decode cX10_wax 22 = .ok (.if_icmp .eq 8, 3) := by decide +kernel
theorem dX10_wax_25 : decode cX10_wax 25 = .ok (.bipush (-3), 2) := by decide +kernel
theorem dX10_wax_27 : decode cX10_wax 27 = .ok (.goto 4, 3) := by decide +kernel
theorem dX10_wax_30 : decode cX10_wax 30 = .ok (.iconst 0, 1) := by decide +kernel
theorem dX10_wax_31 : decode cX10_wax 31 = .ok (.istore_n 2, 1) := by decide +kernel
theorem dX10_wax_32 : decode cX10_wax 32 = .ok (.iload_n 2, 1) := by decide +kernel
theorem dX10_wax_33 : decode cX10_wax 33 = .ok (.ifCond .eq 9, 3) := by decide +kernel
theorem dX10_wax_36 : decode cX10_wax 36 = .ok (.aload_n 0, 1) := by decide +kernel
theorem dX10_wax_37 : decode cX10_wax 37 = .ok (.iload_n 2, 1) := by decide +kernel
theorem dX10_wax_38 : decode cX10_wax 38 = .ok (.invokevirtual 99, 3) := by decide +kernel
theorem dX10_wax_41 : decode cX10_wax 41 = .ok (.ireturn, 1) := by decide +kernel
theorem dX10_wax_42 : decode cX10_wax 42 = .ok (.iconst 0, 1) := by decide +kernel
theorem dX10_wax_43 : decode cX10_wax 43 = .ok (.istore_n 3, 1) := by decide +kernel
theorem dX10_wax_44 : decode cX10_wax 44 = .ok (.iconst 0, 1) := by decide +kernel
theorem dX10_wax_45 : decode cX10_wax 45 = .ok (.istore 4, 2) := by decide +kernel
theorem dX10_wax_47 : decode cX10_wax 47 = .ok (.iload 4, 2) := by decide +kernel
theorem dX10_wax_49 : decode cX10_wax 49 = .ok (.aload_n 0, 1) := by decide +kernel
theorem dX10_wax_50 : decode cX10_wax 50 = .ok (.getfield 88, 3) := by decide +kernel
theorem dX10_wax_53 : decode cX10_wax 53 = .ok (.if_icmp .ge 32, 3) := by decide +kernel
theorem dX10_wax_56 : decode cX10_wax 56 = .ok (.iload_n 3, 1) := by decide +kernel
theorem dX10_wax_57 : decode cX10_wax 57 = .ok (.aload_n 0, 1) := by decide +kernel
theorem dX10_wax_58 : decode cX10_wax 58 = .ok (.getfield 16, 3) := by decide +kernel
theorem dX10_wax_61 : decode cX10_wax 61 = .ok (.iload 4, 2) := by decide +kernel
theorem dX10_wax_63 : decode cX10_wax 63 = .ok (.iaload, 1) := by decide +kernel
theorem dX10_wax_64 : decode cX10_wax 64 = .ok (.bipush 6, 2) := by decide +kernel
theorem dX10_wax_66 : decode cX10_wax 66 = .ok (.if_icmp .ne 10, 3) := by decide +kernel
theorem dX10_wax_69 : decode cX10_wax 69 = .ok (.iconst 1, 1) := by decide +kernel
theorem dX10_wax_70 : decode cX10_wax 70 = .ok (.iload 4, 2) := by decide +kernel
theorem dX10_wax_72 : decode cX10_wax 72 = .ok (.ishl, 1) := by decide +kernel
theorem dX10_wax_73 : decode cX10_wax 73 = .ok (.goto 4, 3) := by decide +kernel
theorem dX10_wax_76 : decode cX10_wax 76 = .ok (.iconst 0, 1) := by decide +kernel
theorem dX10_wax_77 : decode cX10_wax 77 = .ok (.ior, 1) := by decide +kernel
theorem dX10_wax_78 : decode cX10_wax 78 = .ok (.istore_n 3, 1) := by decide +kernel
theorem dX10_wax_79 : decode cX10_wax 79 = .ok (.iinc 4 1, 3) := by decide +kernel
theorem dX10_wax_82 : decode cX10_wax 82 = .ok (.goto (-35), 3) := by decide +kernel
theorem dX10_wax_85 : decode cX10_wax 85 = .ok (.iconst 0, 1) := by decide +kernel
theorem dX10_wax_86 : decode cX10_wax 86 = .ok (.istore 4, 2) := by decide +kernel
theorem dX10_wax_88 : decode cX10_wax 88 = .ok (.bipush (-9), 2) := by decide +kernel
theorem dX10_wax_90 : decode cX10_wax 90 = .ok (.istore 5, 2) := by decide +kernel
theorem dX10_wax_92 : decode cX10_wax 92 = .ok (.iconst 0, 1) := by decide +kernel
theorem dX10_wax_93 : decode cX10_wax 93 = .ok (.istore 6, 2) := by decide +kernel
theorem dX10_wax_95 : decode cX10_wax 95 = .ok (.iload 6, 2) := by decide +kernel
theorem dX10_wax_97 : decode cX10_wax 97 = .ok (.iconst 1, 1) := by decide +kernel
theorem dX10_wax_98 : decode cX10_wax 98 = .ok (.aload_n 0, 1) := by decide +kernel
theorem dX10_wax_99 : decode cX10_wax 99 = .ok (.getfield 88, 3) := by decide +kernel
theorem dX10_wax_102 : decode cX10_wax 102 = .ok (.ishl, 1) := by decide +kernel
theorem dX10_wax_103 : decode cX10_wax 103 = .ok (.if_icmp .ge 45, 3) := by decide +kernel
theorem dX10_wax_106 : decode cX10_wax 106 = .ok (.iload 6, 2) := by decide +kernel
theorem dX10_wax_108 : decode cX10_wax 108 = .ok (.iload_n 3, 1) := by decide +kernel
theorem dX10_wax_109 : decode cX10_wax 109 = .ok (.iand, 1) := by decide +kernel
theorem dX10_wax_110 : decode cX10_wax 110 = .ok (.ifCond .ne 32, 3) := by decide +kernel
theorem dX10_wax_113 : decode cX10_wax 113 = .ok (.aload_n 0, 1) := by decide +kernel
theorem dX10_wax_114 : decode cX10_wax 114 = .ok (.iload 6, 2) := by decide +kernel
theorem dX10_wax_116 : decode cX10_wax 116 = .ok (.invokevirtual 346, 3) := by decide +kernel
theorem dX10_wax_119 : decode cX10_wax 119 = .ok (.ifCond .ne 6, 3) := by decide +kernel
theorem dX10_wax_122 : decode cX10_wax 122 = .ok (.goto 20, 3) := by decide +kernel
theorem dX10_wax_125 : decode cX10_wax 125 = .ok (.iload 4, 2) := by decide +kernel
theorem dX10_wax_127 : decode cX10_wax 127 = .ok (.ifCond .ne 8, 3) := by decide +kernel
theorem dX10_wax_130 : decode cX10_wax 130 = .ok (.iload 6, 2) := by decide +kernel
theorem dX10_wax_132 : decode cX10_wax 132 = .ok (.goto 5, 3) := by decide +kernel
theorem dX10_wax_135 : decode cX10_wax 135 = .ok (.iload 5, 2) := by decide +kernel
theorem dX10_wax_137 : decode cX10_wax 137 = .ok (.istore 5, 2) := by decide +kernel
theorem dX10_wax_139 : decode cX10_wax 139 = .ok (.iinc 4 1, 3) := by decide +kernel
theorem dX10_wax_142 : decode cX10_wax 142 = .ok (.iinc 6 1, 3) := by decide +kernel
theorem dX10_wax_145 : decode cX10_wax 145 = .ok (.goto (-50), 3) := by decide +kernel
theorem dX10_wax_148 : decode cX10_wax 148 = .ok (.iload_n 1, 1) := by decide +kernel
theorem dX10_wax_149 : decode cX10_wax 149 = .ok (.ifCond .ne 8, 3) := by decide +kernel
theorem dX10_wax_152 : decode cX10_wax 152 = .ok (.iload 4, 2) := by decide +kernel
theorem dX10_wax_154 : decode cX10_wax 154 = .ok (.goto 5, 3) := by decide +kernel
theorem dX10_wax_157 : decode cX10_wax 157 = .ok (.iload 5, 2) := by decide +kernel
theorem dX10_wax_159 : decode cX10_wax 159 = .ok (.ireturn, 1) := by decide +kernel
theorem dX10_sides_0 : decode cX10_sides 0 = .ok (.aload_n 0, 1) := by decide +kernel
theorem dX10_sides_1 : decode cX10_sides 1 = .ok (.iconst 1, 1) := by decide +kernel
theorem dX10_sides_2 : decode cX10_sides 2 = .ok (.iconst 1, 1) := by decide +kernel
theorem dX10_sides_3 : decode cX10_sides 3 = .ok (.invokevirtual 157, 3) := by decide +kernel
theorem dX10_sides_6 : decode cX10_sides 6 = .ok (.iconst 0, 1) := by decide +kernel
theorem dX10_sides_7 : decode cX10_sides 7 = .ok (.istore_n 1, 1) := by decide +kernel
theorem dX10_sides_8 : decode cX10_sides 8 = .ok (.bipush (-9), 2) := by decide +kernel
theorem dX10_sides_10 : decode cX10_sides 10 = .ok (.istore_n 2, 1) := by decide +kernel
theorem dX10_sides_11 : decode cX10_sides 11 = .ok (.iconst 0, 1) := by decide +kernel
theorem dX10_sides_12 : decode cX10_sides 12 = .ok (.istore_n 3, 1) := by decide +kernel
theorem dX10_sides_13 : decode cX10_sides 13 = .ok (.iload_n 3, 1) := by decide +kernel
theorem dX10_sides_14 : decode cX10_sides 14 = .ok (.iconst 3, 1) := by decide +kernel
theorem dX10_sides_15 : decode cX10_sides 15 = .ok (.if_icmp .ge 56, 3) := by decide +kernel
theorem dX10_sides_18 : decode cX10_sides 18 = .ok (.iconst 0, 1) := by decide +kernel
theorem dX10_sides_19 : decode cX10_sides 19 = .ok (.istore 4, 2) := by decide +kernel
theorem dX10_sides_21 : decode cX10_sides 21 = .ok (.iload 4, 2) := by decide +kernel
theorem dX10_sides_23 : decode cX10_sides 23 = .ok (.bipush 25, 2) := by decide +kernel
theorem dX10_sides_25 : decode cX10_sides 25 = .ok (.if_icmp .ge 17, 3) := by decide +kernel
theorem dX10_sides_28 : decode cX10_sides 28 = .ok (.aload_n 0, 1) := by decide +kernel
theorem dX10_sides_29 : decode cX10_sides 29 = .ok (.getfield 25, 3) := by decide +kernel
theorem dX10_sides_32 : decode cX10_sides 32 = .ok (.iload 4, 2) := by decide +kernel
theorem dX10_sides_34 : decode cX10_sides 34 = .ok (.iload_n 3, 1) := by decide +kernel
theorem dX10_sides_35 : decode cX10_sides 35 = .ok (.iastore, 1) := by decide +kernel
theorem dX10_sides_36 : decode cX10_sides 36 = .ok (.iinc 4 1, 3) := by decide +kernel
theorem dX10_sides_39 : decode cX10_sides 39 = .ok (.goto (-18), 3) := by decide +kernel
theorem dX10_sides_42 : decode cX10_sides 42 = .ok (.aload_n 0, 1) := by decide +kernel
theorem dX10_sides_43 : decode cX10_sides 43 = .ok (.invokevirtual 241, 3) := by decide +kernel
theorem dX10_sides_46 : decode cX10_sides 46 = .ok (.invokestatic 231, 3) := by decide +kernel
theorem dX10_sides_49 : decode cX10_sides 49 = .ok (.istore 4, 2) := by decide +kernel
theorem dX10_sides_51 : decode cX10_sides 51 = .ok (.iload 4, 2) := by decide +kernel
theorem dX10_sides_53 : decode cX10_sides 53 = .ok (.iload_n 2, 1) := by decide +kernel
theorem dX10_sides_54 : decode cX10_sides 54 = .ok (.if_icmp .gt 6, 3) := by decide +kernel
theorem dX10_sides_57 : decode cX10_sides 57 = .ok (.goto 8, 3) := by decide +kernel
theorem dX10_sides_60 : decode cX10_sides 60 = .ok (.iload_n 3, 1) := by decide +kernel
theorem dX10_sides_61 : decode cX10_sides 61 = .ok (.istore_n 1, 1) := by decide +kernel
theorem dX10_sides_62 : decode cX10_sides 62 = .ok (.iload 4, 2) := by decide +kernel
theorem dX10_sides_64 : decode cX10_sides 64 = .ok (.istore_n 2, 1) := by decide +kernel
theorem dX10_sides_65 : decode cX10_sides 65 = .ok (.iinc 3 1, 3) := by decide +kernel
theorem dX10_sides_68 : decode cX10_sides 68 = .ok (.goto (-55), 3) := by decide +kernel
theorem dX10_sides_71 : decode cX10_sides 71 = .ok (.aload_n 0, 1) := by decide +kernel
theorem dX10_sides_72 : decode cX10_sides 72 = .ok (.iconst 1, 1) := by decide +kernel
theorem dX10_sides_73 : decode cX10_sides 73 = .ok (.iconst 0, 1) := by decide +kernel
theorem dX10_sides_74 : decode cX10_sides 74 = .ok (.invokevirtual 157, 3) := by decide +kernel
theorem dX10_sides_77 : decode cX10_sides 77 = .ok (.iload_n 1, 1) := by decide +kernel
theorem dX10_sides_78 : decode cX10_sides 78 = .ok (.ireturn, 1) := by decide +kernel
theorem dX10_row_0 : decode cX10_row 0 = .ok (.iload_n 1, 1) := by decide +kernel
theorem dX10_row_1 : decode cX10_row 1 = .ok (.iconst 0, 1) := by decide +kernel
theorem dX10_row_2 : decode cX10_row 2 = .ok (.bipush 99, 2) := by decide +kernel
theorem dX10_row_4 : decode cX10_row 4 = .ok (.invokestatic 92, 3) := by decide +kernel
theorem dX10_row_7 : decode cX10_row 7 = .ok (.istore_n 2, 1) := by decide +kernel
theorem dX10_row_8 : decode cX10_row 8 = .ok (.iload_n 2, 1) := by decide +kernel
theorem dX10_row_9 : decode cX10_row 9 = .ok (.ifCond .ne 15, 3) := by decide +kernel
theorem dX10_row_12 : decode cX10_row 12 = .ok (.aload_n 0, 1) := by decide +kernel
theorem dX10_row_13 : decode cX10_row 13 = .ok (.getfield 343, 3) := by decide +kernel
theorem dX10_row_16 : decode cX10_row 16 = .ok (.bipush 12, 2) := by decide +kernel
theorem dX10_row_18 : decode cX10_row 18 = .ok (.if_icmp .ne 6, 3) := by decide +kernel
theorem dX10_row_21 : decode cX10_row 21 = .ok (.bipush (-6), 2) := by decide +kernel
theorem dX10_row_23 : decode cX10_row 23 = .ok (.istore_n 2, 1) := by decide +kernel
theorem dX10_row_24 : decode cX10_row 24 = .ok (.iload_n 2, 1) := by decide +kernel
theorem dX10_row_25 : decode cX10_row 25 = .ok (.ifCond .eq 9, 3) := by decide +kernel
theorem dX10_row_28 : decode cX10_row 28 = .ok (.aload_n 0, 1) := by decide +kernel
theorem dX10_row_29 : decode cX10_row 29 = .ok (.iload_n 2, 1) := by decide +kernel
theorem dX10_row_30 : decode cX10_row 30 = .ok (.invokevirtual 99, 3) := by decide +kernel
theorem dX10_row_33 : decode cX10_row 33 = .ok (.ireturn, 1) := by decide +kernel
theorem dX10_row_34 : decode cX10_row 34 = .ok (.aload_n 0, 1) := by decide +kernel
theorem dX10_row_35 : decode cX10_row 35 = .ok (.getfield 83, 3) := by decide +kernel
theorem dX10_row_38 : decode cX10_row 38 = .ok (.aload_n 0, 1) := by decide +kernel
theorem dX10_row_39 : decode cX10_row 39 = .ok (.getfield 343, 3) := by decide +kernel
theorem dX10_row_42 : decode cX10_row 42 = .ok (.iload_n 1, 1) := by decide +kernel
theorem dX10_row_43 : decode cX10_row 43 = .ok (.iastore, 1) := by decide +kernel
theorem dX10_row_44 : decode cX10_row 44 = .ok (.aload_n 0, 1) := by decide +kernel
theorem dX10_row_45 : decode cX10_row 45 = .ok (.dup, 1) := by decide +kernel
theorem dX10_row_46 : decode cX10_row 46 = .ok (.getfield 343, 3) := by decide +kernel
theorem dX10_row_49 : decode cX10_row 49 = .ok (.iconst 1, 1) := by decide +kernel
theorem dX10_row_50 : decode cX10_row 50 = .ok (.iadd, 1) := by decide +kernel
theorem dX10_row_51 : decode cX10_row 51 = .ok (.putfield 343, 3) := by decide +kernel
theorem dX10_row_54 : decode cX10_row 54 = .ok (.aload_n 0, 1) := by decide +kernel
theorem dX10_row_55 : decode cX10_row 55 = .ok (.getfield 343, 3) := by decide +kernel
theorem dX10_row_58 : decode cX10_row 58 = .ok (.ireturn, 1) := by decide +kernel
theorem dX10_judge_0 : decode cX10_judge 0 = .ok (.aload_n 0, 1) := by decide +kernel
theorem dX10_judge_1 : decode cX10_judge 1 = .ok (.getfield 343, 3) := by decide +kernel
theorem dX10_judge_4 : decode cX10_judge 4 = .ok (.istore_n 1, 1) := by decide +kernel
theorem dX10_judge_5 : decode cX10_judge 5 = .ok (.aload_n 0, 1) := by decide +kernel
theorem dX10_judge_6 : decode cX10_judge 6 = .ok (.iconst 0, 1) := by decide +kernel
theorem dX10_judge_7 : decode cX10_judge 7 = .ok (.putfield 343, 3) := by decide +kernel
theorem dX10_judge_10 : decode cX10_judge 10 = .ok (.aload_n 0, 1) := by decide +kernel
theorem dX10_judge_11 : decode cX10_judge 11 = .ok (.iconst 1, 1) := by decide +kernel
theorem dX10_judge_12 : decode cX10_judge 12 = .ok (.iconst 1, 1) := by decide +kernel
theorem dX10_judge_13 : decode cX10_judge 13 = .ok (.invokevirtual 157, 3) := by decide +kernel
theorem dX10_judge_16 : decode cX10_judge 16 = .ok (.bipush (-9), 2) := by decide +kernel
theorem dX10_judge_18 : decode cX10_judge 18 = .ok (.istore_n 2, 1) := by decide +kernel
theorem dX10_judge_19 : decode cX10_judge 19 = .ok (.iconst 0, 1) := by decide +kernel
theorem dX10_judge_20 : decode cX10_judge 20 = .ok (.istore_n 3, 1) := by decide +kernel
theorem dX10_judge_21 : decode cX10_judge 21 = .ok (.iload_n 3, 1) := by decide +kernel
theorem dX10_judge_22 : decode cX10_judge 22 = .ok (.iload_n 1, 1) := by decide +kernel
theorem dX10_judge_23 : decode cX10_judge 23 = .ok (.if_icmp .ge 69, 3) := by decide +kernel
theorem dX10_judge_26 : decode cX10_judge 26 = .ok (.iload_n 2, 1) := by decide +kernel
theorem dX10_judge_27 : decode cX10_judge 27 = .ok (.ifCond .ge 65, 3) := by decide +kernel
theorem dX10_judge_30 : decode cX10_judge 30 = .ok (.aload_n 0, 1) := by decide +kernel
theorem dX10_judge_31 : decode cX10_judge 31 = .ok (.getfield 127, 3) := by decide +kernel
theorem dX10_judge_34 : decode cX10_judge 34 = .ok (.aload_n 0, 1) := by decide +kernel
theorem dX10_judge_35 : decode cX10_judge 35 = .ok (.invokevirtual 130, 3) := by decide +kernel
theorem dX10_judge_38 : decode cX10_judge 38 = .ok (.if_icmp .ge 7, 3) := by decide +kernel
theorem dX10_judge_41 : decode cX10_judge 41 = .ok (.iconst 1, 1) := by decide +kernel
theorem dX10_judge_42 : decode cX10_judge 42 = .ok (.goto 4, 3) := by decide +kernel
theorem dX10_judge_45 : decode cX10_judge 45 = .ok (.iconst 0, 1) := by decide +kernel
theorem dX10_judge_46 : decode cX10_judge 46 = .ok (.istore 4, 2) := by decide +kernel
theorem dX10_judge_48 : decode cX10_judge 48 = .ok (.iload 4, 2) := by decide +kernel
theorem dX10_judge_50 : decode cX10_judge 50 = .ok (.ifCond .eq 8, 3) := by decide +kernel
theorem dX10_judge_53 : decode cX10_judge 53 = .ok (.aload_n 0, 1) := by decide +kernel
theorem dX10_judge_54 : decode cX10_judge 54 = .ok (.iconst 0, 1) := by decide +kernel
theorem dX10_judge_55 : decode cX10_judge 55 = .ok (.invokevirtual 136, 3) := by decide +kernel
theorem dX10_judge_58 : decode cX10_judge 58 = .ok (.iload 4, 2) := by decide +kernel
theorem dX10_judge_60 : decode cX10_judge 60 = .ok (.ifCond .eq 24, 3) := by decide +kernel
theorem dX10_judge_63 : decode cX10_judge 63 = .ok (.aload_n 0, 1) := by decide +kernel
theorem dX10_judge_64 : decode cX10_judge 64 = .ok (.getfield 124, 3) := by decide +kernel
theorem dX10_judge_67 : decode cX10_judge 67 = .ok (.invokestatic 231, 3) := by decide +kernel
theorem dX10_judge_70 : decode cX10_judge 70 = .ok (.aload_n 0, 1) := by decide +kernel
theorem dX10_judge_71 : decode cX10_judge 71 = .ok (.getfield 83, 3) := by decide +kernel
theorem dX10_judge_74 : decode cX10_judge 74 = .ok (.iload_n 3, 1) := by decide +kernel
theorem dX10_judge_75 : decode cX10_judge 75 = .ok (.iaload, 1) := by decide +kernel
theorem dX10_judge_76 : decode cX10_judge 76 = .ok (.if_icmp .ne 8, 3) := by decide +kernel
theorem dX10_judge_79 : decode cX10_judge 79 = .ok (.bipush (-9), 2) := by decide +kernel
theorem dX10_judge_81 : decode cX10_judge 81 = .ok (.goto 4, 3) := by decide +kernel
theorem dX10_judge_84 : decode cX10_judge 84 = .ok (.iload_n 3, 1) := by decide +kernel
theorem dX10_judge_85 : decode cX10_judge 85 = .ok (.istore_n 2, 1) := by decide +kernel
theorem dX10_judge_86 : decode cX10_judge 86 = .ok (.iinc 3 1, 3) := by decide +kernel
theorem dX10_judge_89 : decode cX10_judge 89 = .ok (.goto (-68), 3) := by decide +kernel
theorem dX10_judge_92 : decode cX10_judge 92 = .ok (.aload_n 0, 1) := by decide +kernel
theorem dX10_judge_93 : decode cX10_judge 93 = .ok (.iconst 1, 1) := by decide +kernel
theorem dX10_judge_94 : decode cX10_judge 94 = .ok (.iconst 0, 1) := by decide +kernel
theorem dX10_judge_95 : decode cX10_judge 95 = .ok (.invokevirtual 157, 3) := by decide +kernel
theorem dX10_judge_98 : decode cX10_judge 98 = .ok (.iload_n 2, 1) := by decide +kernel
theorem dX10_judge_99 : decode cX10_judge 99 = .ok (.ireturn, 1) := by decide +kernel
theorem dX10_clear_0 : decode cX10_clear 0 = .ok (.aload_n 0, 1) := by decide +kernel
theorem dX10_clear_1 : decode cX10_clear 1 = .ok (.getfield 343, 3) := by decide +kernel
theorem dX10_clear_4 : decode cX10_clear 4 = .ok (.istore_n 1, 1) := by decide +kernel
theorem dX10_clear_5 : decode cX10_clear 5 = .ok (.aload_n 0, 1) := by decide +kernel
theorem dX10_clear_6 : decode cX10_clear 6 = .ok (.iconst 0, 1) := by decide +kernel
theorem dX10_clear_7 : decode cX10_clear 7 = .ok (.putfield 343, 3) := by decide +kernel
theorem dX10_clear_10 : decode cX10_clear 10 = .ok (.iload_n 1, 1) := by decide +kernel
theorem dX10_clear_11 : decode cX10_clear 11 = .ok (.ireturn, 1) := by decide +kernel
theorem dX10_draw_0 : decode cX10_draw 0 = .ok (.aload_n 0, 1) := by decide +kernel
theorem dX10_draw_1 : decode cX10_draw 1 = .ok (.aload_n 0, 1) := by decide +kernel
theorem dX10_draw_2 : decode cX10_draw 2 = .ok (.getfield 349, 3) := by decide +kernel
theorem dX10_draw_5 : decode cX10_draw 5 = .ok (.ldc_w 352, 3) := by decide +kernel
theorem dX10_draw_8 : decode cX10_draw 8 = .ok (.imul, 1) := by decide +kernel
theorem dX10_draw_9 : decode cX10_draw 9 = .ok (.sipush 12345, 3) := by decide +kernel
theorem dX10_draw_12 : decode cX10_draw 12 = .ok (.iadd, 1) := by decide +kernel
theorem dX10_draw_13 : decode cX10_draw 13 = .ok (.putfield 349, 3) := by decide +kernel
theorem dX10_draw_16 : decode cX10_draw 16 = .ok (.aload_n 0, 1) := by decide +kernel
theorem dX10_draw_17 : decode cX10_draw 17 = .ok (.getfield 349, 3) := by decide +kernel
theorem dX10_draw_20 : decode cX10_draw 20 = .ok (.ldc_w 353, 3) := by decide +kernel
theorem dX10_draw_23 : decode cX10_draw 23 = .ok (.iand, 1) := by decide +kernel
theorem dX10_draw_24 : decode cX10_draw 24 = .ok (.ldc_w 354, 3) := by decide +kernel
theorem dX10_draw_27 : decode cX10_draw 27 = .ok (.idiv, 1) := by decide +kernel
theorem dX10_draw_28 : decode cX10_draw 28 = .ok (.iload_n 1, 1) := by decide +kernel
theorem dX10_draw_29 : decode cX10_draw 29 = .ok (.irem, 1) := by decide +kernel
theorem dX10_draw_30 : decode cX10_draw 30 = .ok (.ireturn, 1) := by decide +kernel
theorem dX10_seeds_0 : decode cX10_seeds 0 = .ok (.iload_n 1, 1) := by decide +kernel
theorem dX10_seeds_1 : decode cX10_seeds 1 = .ok (.iconst 1, 1) := by decide +kernel
theorem dX10_seeds_2 : decode cX10_seeds 2 = .ok (.bipush 20, 2) := by decide +kernel
theorem dX10_seeds_4 : decode cX10_seeds 4 = .ok (.invokestatic 92, 3) := by decide +kernel
theorem dX10_seeds_7 : decode cX10_seeds 7 = .ok (.istore 4, 2) := by decide +kernel
theorem dX10_seeds_9 : decode cX10_seeds 9 = .ok (.iload 4, 2) := by decide +kernel
theorem dX10_seeds_11 : decode cX10_seeds 11 = .ok (.ifCond .ne 16, 3) := by decide +kernel
theorem dX10_seeds_14 : decode cX10_seeds 14 = .ok (.iload_n 3, 1) := by decide +kernel
theorem dX10_seeds_15 : decode cX10_seeds 15 = .ok (.iconst 0, 1) := by decide +kernel
theorem dX10_seeds_16 : decode cX10_seeds 16 = .ok (.iconst 1, 1) := by decide +kernel
theorem dX10_seeds_17 : decode cX10_seeds 17 = .ok (.invokestatic 110, 3) := by decide +kernel
theorem dX10_seeds_20 : decode cX10_seeds 20 = .ok (.ifCond .ne 7, 3) := by decide +kernel
theorem dX10_seeds_23 : decode cX10_seeds 23 = .ok (.bipush (-2), 2) := by decide +kernel
theorem dX10_seeds_25 : decode cX10_seeds 25 = .ok (.istore 4, 2) := by decide +kernel
theorem dX10_seeds_27 : decode cX10_seeds 27 = .ok (.iload 4, 2) := by decide +kernel
theorem dX10_seeds_29 : decode cX10_seeds 29 = .ok (.ifCond .eq 10, 3) := by decide +kernel
theorem dX10_seeds_32 : decode cX10_seeds 32 = .ok (.aload_n 0, 1) := by decide +kernel
theorem dX10_seeds_33 : decode cX10_seeds 33 = .ok (.iload 4, 2) := by decide +kernel
theorem dX10_seeds_35 : decode cX10_seeds 35 = .ok (.invokevirtual 99, 3) := by decide +kernel
theorem dX10_seeds_38 : decode cX10_seeds 38 = .ok (.ireturn, 1) := by decide +kernel
theorem dX10_seeds_39 : decode cX10_seeds 39 = .ok (.aload_n 0, 1) := by decide +kernel
theorem dX10_seeds_40 : decode cX10_seeds 40 = .ok (.iconst 1, 1) := by decide +kernel
theorem dX10_seeds_41 : decode cX10_seeds 41 = .ok (.iconst 1, 1) := by decide +kernel
theorem dX10_seeds_42 : decode cX10_seeds 42 = .ok (.invokevirtual 157, 3) := by decide +kernel
theorem dX10_seeds_45 : decode cX10_seeds 45 = .ok (.aload_n 0, 1) := by decide +kernel
theorem dX10_seeds_46 : decode cX10_seeds 46 = .ok (.iload_n 2, 1) := by decide +kernel
theorem dX10_seeds_47 : decode cX10_seeds 47 = .ok (.putfield 349, 3) := by decide +kernel
theorem dX10_seeds_50 : decode cX10_seeds 50 = .ok (.iconst 0, 1) := by decide +kernel
theorem dX10_seeds_51 : decode cX10_seeds 51 = .ok (.istore 5, 2) := by decide +kernel
theorem dX10_seeds_53 : decode cX10_seeds 53 = .ok (.iconst 0, 1) := by decide +kernel
theorem dX10_seeds_54 : decode cX10_seeds 54 = .ok (.istore 6, 2) := by decide +kernel
theorem dX10_seeds_56 : decode cX10_seeds 56 = .ok (.iconst 0, 1) := by decide +kernel
theorem dX10_seeds_57 : decode cX10_seeds 57 = .ok (.istore 7, 2) := by decide +kernel
theorem dX10_seeds_59 : decode cX10_seeds 59 = .ok (.iload 7, 2) := by decide +kernel
theorem dX10_seeds_61 : decode cX10_seeds 61 = .ok (.iload_n 1, 1) := by decide +kernel
theorem dX10_seeds_62 : decode cX10_seeds 62 = .ok (.if_icmp .ge 84, 3) := by decide +kernel
theorem dX10_seeds_65 : decode cX10_seeds 65 = .ok (.aload_n 0, 1) := by decide +kernel
theorem dX10_seeds_66 : decode cX10_seeds 66 = .ok (.getfield 127, 3) := by decide +kernel
theorem dX10_seeds_69 : decode cX10_seeds 69 = .ok (.istore 8, 2) := by decide +kernel
theorem dX10_seeds_71 : decode cX10_seeds 71 = .ok (.iload 8, 2) := by decide +kernel
theorem dX10_seeds_73 : decode cX10_seeds 73 = .ok (.bipush 25, 2) := by decide +kernel
theorem dX10_seeds_75 : decode cX10_seeds 75 = .ok (.if_icmp .ge 34, 3) := by decide +kernel
theorem dX10_seeds_78 : decode cX10_seeds 78 = .ok (.aload_n 0, 1) := by decide +kernel
theorem dX10_seeds_79 : decode cX10_seeds 79 = .ok (.getfield 22, 3) := by decide +kernel
theorem dX10_seeds_82 : decode cX10_seeds 82 = .ok (.iload 8, 2) := by decide +kernel
theorem dX10_seeds_84 : decode cX10_seeds 84 = .ok (.aload_n 0, 1) := by decide +kernel
theorem dX10_seeds_85 : decode cX10_seeds 85 = .ok (.bipush 10, 2) := by decide +kernel
theorem dX10_seeds_87 : decode cX10_seeds 87 = .ok (.invokevirtual 355, 3) := by decide +kernel
theorem dX10_seeds_90 : decode cX10_seeds 90 = .ok (.iastore, 1) := by decide +kernel
theorem dX10_seeds_91 : decode cX10_seeds 91 = .ok (.aload_n 0, 1) := by decide +kernel
theorem dX10_seeds_92 : decode cX10_seeds 92 = .ok (.getfield 25, 3) := by decide +kernel
theorem dX10_seeds_95 : decode cX10_seeds 95 = .ok (.iload 8, 2) := by decide +kernel
theorem dX10_seeds_97 : decode cX10_seeds 97 = .ok (.aload_n 0, 1) := by decide +kernel
theorem dX10_seeds_98 : decode cX10_seeds 98 = .ok (.iconst 3, 1) := by decide +kernel
theorem dX10_seeds_99 : decode cX10_seeds 99 = .ok (.invokevirtual 355, 3) := by decide +kernel
theorem dX10_seeds_102 : decode cX10_seeds 102 = .ok (.iastore, 1) := by decide +kernel
theorem dX10_seeds_103 : decode cX10_seeds 103 = .ok (.iinc 8 1, 3) := by decide +kernel
theorem dX10_seeds_106 : decode cX10_seeds 106 = .ok (.goto (-35), 3) := by decide +kernel
theorem dX10_seeds_109 : decode cX10_seeds 109 = .ok (.aload_n 0, 1) := by decide +kernel
theorem dX10_seeds_110 : decode cX10_seeds 110 = .ok (.invokevirtual 241, 3) := by decide +kernel
theorem dX10_seeds_113 : decode cX10_seeds 113 = .ok (.invokestatic 231, 3) := by decide +kernel
theorem dX10_seeds_116 : decode cX10_seeds 116 = .ok (.istore 8, 2) := by decide +kernel
theorem dX10_seeds_118 : decode cX10_seeds 118 = .ok (.iload 5, 2) := by decide +kernel
theorem dX10_seeds_120 : decode cX10_seeds 120 = .ok (.iload 8, 2) := by decide +kernel
theorem dX10_seeds_122 : decode cX10_seeds 122 = .ok (.iadd, 1) := by decide +kernel
theorem dX10_seeds_123 : decode cX10_seeds 123 = .ok (.istore 5, 2) := by decide +kernel
theorem dX10_seeds_125 : decode cX10_seeds 125 = .ok (.iload 6, 2) := by decide +kernel
theorem dX10_seeds_127 : decode cX10_seeds 127 = .ok (.iload 8, 2) := by decide +kernel
theorem dX10_seeds_129 : decode cX10_seeds 129 = .ok (.ifCond .ne 7, 3) := by decide +kernel
theorem dX10_seeds_132 : decode cX10_seeds 132 = .ok (.iconst 1, 1) := by decide +kernel
theorem dX10_seeds_133 : decode cX10_seeds 133 = .ok (.goto 4, 3) := by decide +kernel
theorem dX10_seeds_136 : decode cX10_seeds 136 = .ok (.iconst 0, 1) := by decide +kernel
theorem dX10_seeds_137 : decode cX10_seeds 137 = .ok (.iadd, 1) := by decide +kernel
theorem dX10_seeds_138 : decode cX10_seeds 138 = .ok (.istore 6, 2) := by decide +kernel
theorem dX10_seeds_140 : decode cX10_seeds 140 = .ok (.iinc 7 1, 3) := by decide +kernel
theorem dX10_seeds_143 : decode cX10_seeds 143 = .ok (.goto (-84), 3) := by decide +kernel
theorem dX10_seeds_146 : decode cX10_seeds 146 = .ok (.aload_n 0, 1) := by decide +kernel
theorem dX10_seeds_147 : decode cX10_seeds 147 = .ok (.iconst 1, 1) := by decide +kernel
theorem dX10_seeds_148 : decode cX10_seeds 148 = .ok (.iconst 0, 1) := by decide +kernel
theorem dX10_seeds_149 : decode cX10_seeds 149 = .ok (.invokevirtual 157, 3) := by decide +kernel
theorem dX10_seeds_152 : decode cX10_seeds 152 = .ok (.iload_n 3, 1) := by decide +kernel
theorem dX10_seeds_153 : decode cX10_seeds 153 = .ok (.ifCond .ne 8, 3) := by decide +kernel
theorem dX10_seeds_156 : decode cX10_seeds 156 = .ok (.iload 5, 2) := by decide +kernel
theorem dX10_seeds_158 : decode cX10_seeds 158 = .ok (.goto 5, 3) := by decide +kernel
theorem dX10_seeds_161 : decode cX10_seeds 161 = .ok (.iload 6, 2) := by decide +kernel
theorem dX10_seeds_163 : decode cX10_seeds 163 = .ok (.ireturn, 1) := by decide +kernel
theorem dX10_count_0 : decode cX10_count 0 = .ok (.iload_n 1, 1) := by decide +kernel
theorem dX10_count_1 : decode cX10_count 1 = .ok (.bipush 11, 2) := by decide +kernel
theorem dX10_count_3 : decode cX10_count 3 = .ok (.bipush 16, 2) := by decide +kernel
theorem dX10_count_5 : decode cX10_count 5 = .ok (.invokestatic 110, 3) := by decide +kernel
theorem dX10_count_8 : decode cX10_count 8 = .ok (.ifCond .eq 13, 3) := by decide +kernel
theorem dX10_count_11 : decode cX10_count 11 = .ok (.aload_n 0, 1) := by decide +kernel
theorem dX10_count_12 : decode cX10_count 12 = .ok (.getfield 7, 3) := by decide +kernel
theorem dX10_count_15 : decode cX10_count 15 = .ok (.iload_n 1, 1) := by decide +kernel
theorem dX10_count_16 : decode cX10_count 16 = .ok (.bipush 10, 2) := by decide +kernel
theorem dX10_count_18 : decode cX10_count 18 = .ok (.isub, 1) := by decide +kernel
theorem dX10_count_19 : decode cX10_count 19 = .ok (.iaload, 1) := by decide +kernel
theorem dX10_count_20 : decode cX10_count 20 = .ok (.ireturn, 1) := by decide +kernel
theorem dX10_count_21 : decode cX10_count 21 = .ok (.iload_n 1, 1) := by decide +kernel
theorem dX10_count_22 : decode cX10_count 22 = .ok (.tableswitch 114 0 10 #[58, 63, 71, 76, 81, 81, 81, 90, 95, 100, 109], 58) := by decide +kernel
theorem dX10_count_80 : decode cX10_count 80 = .ok (.aload_n 0, 1) := by decide +kernel
theorem dX10_count_81 : decode cX10_count 81 = .ok (.getfield 88, 3) := by decide +kernel
theorem dX10_count_84 : decode cX10_count 84 = .ok (.ireturn, 1) := by decide +kernel
theorem dX10_count_85 : decode cX10_count 85 = .ok (.aload_n 0, 1) := by decide +kernel
theorem dX10_count_86 : decode cX10_count 86 = .ok (.getfield 124, 3) := by decide +kernel
theorem dX10_count_89 : decode cX10_count 89 = .ok (.invokestatic 231, 3) := by decide +kernel
theorem dX10_count_92 : decode cX10_count 92 = .ok (.ireturn, 1) := by decide +kernel
theorem dX10_count_93 : decode cX10_count 93 = .ok (.aload_n 0, 1) := by decide +kernel
theorem dX10_count_94 : decode cX10_count 94 = .ok (.getfield 127, 3) := by decide +kernel
theorem dX10_count_97 : decode cX10_count 97 = .ok (.ireturn, 1) := by decide +kernel
theorem dX10_count_98 : decode cX10_count 98 = .ok (.aload_n 0, 1) := by decide +kernel
theorem dX10_count_99 : decode cX10_count 99 = .ok (.getfield 133, 3) := by decide +kernel
theorem dX10_count_102 : decode cX10_count 102 = .ok (.ireturn, 1) := by decide +kernel
theorem dX10_count_103 : decode cX10_count 103 = .ok (.aload_n 0, 1) := by decide +kernel
theorem dX10_count_104 : decode cX10_count 104 = .ok (.getfield 13, 3) := by decide +kernel
theorem dX10_count_107 : decode cX10_count 107 = .ok (.iload_n 1, 1) := by decide +kernel
theorem dX10_count_108 : decode cX10_count 108 = .ok (.iconst 4, 1) := by decide +kernel
theorem dX10_count_109 : decode cX10_count 109 = .ok (.isub, 1) := by decide +kernel
theorem dX10_count_110 : decode cX10_count 110 = .ok (.iaload, 1) := by decide +kernel
theorem dX10_count_111 : decode cX10_count 111 = .ok (.ireturn, 1) := by decide +kernel
theorem dX10_count_112 : decode cX10_count 112 = .ok (.aload_n 0, 1) := by decide +kernel
theorem dX10_count_113 : decode cX10_count 113 = .ok (.getfield 96, 3) := by decide +kernel
theorem dX10_count_116 : decode cX10_count 116 = .ok (.ireturn, 1) := by decide +kernel
theorem dX10_count_117 : decode cX10_count 117 = .ok (.aload_n 0, 1) := by decide +kernel
theorem dX10_count_118 : decode cX10_count 118 = .ok (.getfield 343, 3) := by decide +kernel
theorem dX10_count_121 : decode cX10_count 121 = .ok (.ireturn, 1) := by decide +kernel
theorem dX10_count_122 : decode cX10_count 122 = .ok (.aload_n 0, 1) := by decide +kernel
theorem dX10_count_123 : decode cX10_count 123 = .ok (.aload_n 0, 1) := by decide +kernel
theorem dX10_count_124 : decode cX10_count 124 = .ok (.getfield 124, 3) := by decide +kernel
theorem dX10_count_127 : decode cX10_count 127 = .ok (.invokevirtual 244, 3) := by decide +kernel
theorem dX10_count_130 : decode cX10_count 130 = .ok (.ireturn, 1) := by decide +kernel
theorem dX10_count_131 : decode cX10_count 131 = .ok (.aload_n 0, 1) := by decide +kernel
theorem dX10_count_132 : decode cX10_count 132 = .ok (.getfield 164, 3) := by decide +kernel
theorem dX10_count_135 : decode cX10_count 135 = .ok (.ireturn, 1) := by decide +kernel
theorem dX10_count_136 : decode cX10_count 136 = .ok (.bipush (-9), 2) := by decide +kernel
theorem dX10_count_138 : decode cX10_count 138 = .ok (.ireturn, 1) := by decide +kernel
theorem dL_law_0 : decode cL_law 0 = .ok (.new 7, 3) := by decide +kernel
theorem dL_law_3 : decode cL_law 3 = .ok (.dup, 1) := by decide +kernel
theorem dL_law_4 : decode cL_law 4 = .ok (.invokespecial 9, 3) := by decide +kernel
theorem dL_law_7 : decode cL_law 7 = .ok (.astore_n 1, 1) := by decide +kernel
theorem dL_law_8 : decode cL_law 8 = .ok (.new 10, 3) := by decide +kernel
theorem dL_law_11 : decode cL_law 11 = .ok (.dup, 1) := by decide +kernel
theorem dL_law_12 : decode cL_law 12 = .ok (.invokespecial 12, 3) := by decide +kernel
theorem dL_law_15 : decode cL_law 15 = .ok (.astore_n 2, 1) := by decide +kernel
theorem dL_law_16 : decode cL_law 16 = .ok (.iconst 0, 1) := by decide +kernel
theorem dL_law_17 : decode cL_law 17 = .ok (.istore_n 3, 1) := by decide +kernel
theorem dL_law_18 : decode cL_law 18 = .ok (.iload_n 3, 1) := by decide +kernel
theorem dL_law_19 : decode cL_law 19 = .ok (.aload_n 0, 1) := by decide +kernel
theorem dL_law_20 : decode cL_law 20 = .ok (.arraylength, 1) := by decide +kernel
theorem dL_law_21 : decode cL_law 21 = .ok (.iconst 4, 1) := by decide +kernel
theorem dL_law_22 : decode cL_law 22 = .ok (.isub, 1) := by decide +kernel
theorem dL_law_23 : decode cL_law 23 = .ok (.if_icmp .gt 1480, 3) := by decide +kernel
theorem dL_law_26 : decode cL_law 26 = .ok (.aload_n 0, 1) := by decide +kernel
theorem dL_law_27 : decode cL_law 27 = .ok (.iload_n 3, 1) := by decide +kernel
theorem dL_law_28 : decode cL_law 28 = .ok (.iaload, 1) := by decide +kernel
theorem dL_law_29 : decode cL_law 29 = .ok (.bipush 63, 2) := by decide +kernel
theorem dL_law_31 : decode cL_law 31 = .ok (.iand, 1) := by decide +kernel
theorem dL_law_32 : decode cL_law 32 = .ok (.tableswitch 1465 0 53 #[232, 255, 268, 301, 334, 377, 410, 453, 486, 509, 542, 565, 578, 601, 624, 647, 670, 703, 716, 729, 742, 765, 788, 811, 824, 837, 870, 883, 916, 949, 993, 1016, 1029, 1052, 1065, 1078, 1121, 1134, 1147, 1170, 1193, 1216, 1239, 1252, 1265, 1288, 1311, 1324, 1347, 1370, 1393, 1416, 1429, 1442], 232) := by decide +kernel
theorem dL_law_264 : decode cL_law 264 = .ok (.aload_n 1, 1) := by decide +kernel
theorem dL_law_265 : decode cL_law 265 = .ok (.aload_n 0, 1) := by decide +kernel
theorem dL_law_266 : decode cL_law 266 = .ok (.iload_n 3, 1) := by decide +kernel
theorem dL_law_267 : decode cL_law 267 = .ok (.iconst 1, 1) := by decide +kernel
theorem dL_law_268 : decode cL_law 268 = .ok (.iadd, 1) := by decide +kernel
theorem dL_law_269 : decode cL_law 269 = .ok (.iaload, 1) := by decide +kernel
theorem dL_law_270 : decode cL_law 270 = .ok (.invokevirtual 13, 3) := by decide +kernel
theorem dL_law_273 : decode cL_law 273 = .ok (.aload_n 2, 1) := by decide +kernel
theorem dL_law_274 : decode cL_law 274 = .ok (.aload_n 0, 1) := by decide +kernel
theorem dL_law_275 : decode cL_law 275 = .ok (.iload_n 3, 1) := by decide +kernel
theorem dL_law_276 : decode cL_law 276 = .ok (.iconst 1, 1) := by decide +kernel
theorem dL_law_277 : decode cL_law 277 = .ok (.iadd, 1) := by decide +kernel
theorem dL_law_278 : decode cL_law 278 = .ok (.iaload, 1) := by decide +kernel
theorem dL_law_279 : decode cL_law 279 = .ok (.invokevirtual 17, 3) := by decide +kernel
theorem dL_law_282 : decode cL_law 282 = .ok (.if_icmp .eq 1215, 3) := by decide +kernel
theorem dL_law_285 : decode cL_law 285 = .ok (.iconst 0, 1) := by decide +kernel
theorem dL_law_286 : decode cL_law 286 = .ok (.ireturn, 1) := by decide +kernel
theorem dL_law_287 : decode cL_law 287 = .ok (.aload_n 1, 1) := by decide +kernel
theorem dL_law_288 : decode cL_law 288 = .ok (.invokevirtual 18, 3) := by decide +kernel
theorem dL_law_291 : decode cL_law 291 = .ok (.aload_n 2, 1) := by decide +kernel
theorem dL_law_292 : decode cL_law 292 = .ok (.invokevirtual 22, 3) := by decide +kernel
theorem dL_law_295 : decode cL_law 295 = .ok (.if_icmp .eq 1202, 3) := by decide +kernel
theorem dL_law_298 : decode cL_law 298 = .ok (.iconst 0, 1) := by decide +kernel
theorem dL_law_299 : decode cL_law 299 = .ok (.ireturn, 1) := by decide +kernel
theorem dL_law_300 : decode cL_law 300 = .ok (.aload_n 1, 1) := by decide +kernel
theorem dL_law_301 : decode cL_law 301 = .ok (.aload_n 0, 1) := by decide +kernel
theorem dL_law_302 : decode cL_law 302 = .ok (.iload_n 3, 1) := by decide +kernel
theorem dL_law_303 : decode cL_law 303 = .ok (.iconst 1, 1) := by decide +kernel
theorem dL_law_304 : decode cL_law 304 = .ok (.iadd, 1) := by decide +kernel
theorem dL_law_305 : decode cL_law 305 = .ok (.iaload, 1) := by decide +kernel
theorem dL_law_306 : decode cL_law 306 = .ok (.aload_n 0, 1) := by decide +kernel
theorem dL_law_307 : decode cL_law 307 = .ok (.iload_n 3, 1) := by decide +kernel
theorem dL_law_308 : decode cL_law 308 = .ok (.iconst 2, 1) := by decide +kernel
theorem dL_law_309 : decode cL_law 309 = .ok (.iadd, 1) := by decide +kernel
theorem dL_law_310 : decode cL_law 310 = .ok (.iaload, 1) := by decide +kernel
theorem dL_law_311 : decode cL_law 311 = .ok (.invokevirtual 23, 3) := by decide +kernel
theorem dL_law_314 : decode cL_law 314 = .ok (.aload_n 2, 1) := by decide +kernel
theorem dL_law_315 : decode cL_law 315 = .ok (.aload_n 0, 1) := by decide +kernel
theorem dL_law_316 : decode cL_law 316 = .ok (.iload_n 3, 1) := by decide +kernel
theorem dL_law_317 : decode cL_law 317 = .ok (.iconst 1, 1) := by decide +kernel
theorem dL_law_318 : decode cL_law 318 = .ok (.iadd, 1) := by decide +kernel
theorem dL_law_319 : decode cL_law 319 = .ok (.iaload, 1) := by decide +kernel
theorem dL_law_320 : decode cL_law 320 = .ok (.aload_n 0, 1) := by decide +kernel
theorem dL_law_321 : decode cL_law 321 = .ok (.iload_n 3, 1) := by decide +kernel
theorem dL_law_322 : decode cL_law 322 = .ok (.iconst 2, 1) := by decide +kernel
theorem dL_law_323 : decode cL_law 323 = .ok (.iadd, 1) := by decide +kernel
theorem dL_law_324 : decode cL_law 324 = .ok (.iaload, 1) := by decide +kernel
theorem dL_law_325 : decode cL_law 325 = .ok (.invokevirtual 27, 3) := by decide +kernel
theorem dL_law_328 : decode cL_law 328 = .ok (.if_icmp .eq 1169, 3) := by decide +kernel
theorem dL_law_331 : decode cL_law 331 = .ok (.iconst 0, 1) := by decide +kernel
theorem dL_law_332 : decode cL_law 332 = .ok (.ireturn, 1) := by decide +kernel
theorem dL_law_333 : decode cL_law 333 = .ok (.aload_n 1, 1) := by decide +kernel
theorem dL_law_334 : decode cL_law 334 = .ok (.aload_n 0, 1) := by decide +kernel
theorem dL_law_335 : decode cL_law 335 = .ok (.iload_n 3, 1) := by decide +kernel
theorem dL_law_336 : decode cL_law 336 = .ok (.iconst 1, 1) := by decide +kernel
theorem dL_law_337 : decode cL_law 337 = .ok (.iadd, 1) := by decide +kernel
theorem dL_law_338 : decode cL_law 338 = .ok (.iaload, 1) := by decide +kernel
theorem dL_law_339 : decode cL_law 339 = .ok (.aload_n 0, 1) := by decide +kernel
theorem dL_law_340 : decode cL_law 340 = .ok (.iload_n 3, 1) := by decide +kernel
theorem dL_law_341 : decode cL_law 341 = .ok (.iconst 2, 1) := by decide +kernel
theorem dL_law_342 : decode cL_law 342 = .ok (.iadd, 1) := by decide +kernel
theorem dL_law_343 : decode cL_law 343 = .ok (.iaload, 1) := by decide +kernel
theorem dL_law_344 : decode cL_law 344 = .ok (.invokevirtual 28, 3) := by decide +kernel
theorem dL_law_347 : decode cL_law 347 = .ok (.aload_n 2, 1) := by decide +kernel
theorem dL_law_348 : decode cL_law 348 = .ok (.aload_n 0, 1) := by decide +kernel
theorem dL_law_349 : decode cL_law 349 = .ok (.iload_n 3, 1) := by decide +kernel
theorem dL_law_350 : decode cL_law 350 = .ok (.iconst 1, 1) := by decide +kernel
theorem dL_law_351 : decode cL_law 351 = .ok (.iadd, 1) := by decide +kernel
theorem dL_law_352 : decode cL_law 352 = .ok (.iaload, 1) := by decide +kernel
theorem dL_law_353 : decode cL_law 353 = .ok (.aload_n 0, 1) := by decide +kernel
theorem dL_law_354 : decode cL_law 354 = .ok (.iload_n 3, 1) := by decide +kernel
theorem dL_law_355 : decode cL_law 355 = .ok (.iconst 2, 1) := by decide +kernel
theorem dL_law_356 : decode cL_law 356 = .ok (.iadd, 1) := by decide +kernel
theorem dL_law_357 : decode cL_law 357 = .ok (.iaload, 1) := by decide +kernel
theorem dL_law_358 : decode cL_law 358 = .ok (.invokevirtual 31, 3) := by decide +kernel
theorem dL_law_361 : decode cL_law 361 = .ok (.if_icmp .eq 1136, 3) := by decide +kernel
theorem dL_law_364 : decode cL_law 364 = .ok (.iconst 0, 1) := by decide +kernel
theorem dL_law_365 : decode cL_law 365 = .ok (.ireturn, 1) := by decide +kernel
theorem dL_law_366 : decode cL_law 366 = .ok (.aload_n 1, 1) := by decide +kernel
theorem dL_law_367 : decode cL_law 367 = .ok (.aload_n 0, 1) := by decide +kernel
theorem dL_law_368 : decode cL_law 368 = .ok (.iload_n 3, 1) := by decide +kernel
theorem dL_law_369 : decode cL_law 369 = .ok (.iconst 1, 1) := by decide +kernel
theorem dL_law_370 : decode cL_law 370 = .ok (.iadd, 1) := by decide +kernel
theorem dL_law_371 : decode cL_law 371 = .ok (.iaload, 1) := by decide +kernel
theorem dL_law_372 : decode cL_law 372 = .ok (.aload_n 0, 1) := by decide +kernel
theorem dL_law_373 : decode cL_law 373 = .ok (.iload_n 3, 1) := by decide +kernel
theorem dL_law_374 : decode cL_law 374 = .ok (.iconst 2, 1) := by decide +kernel
theorem dL_law_375 : decode cL_law 375 = .ok (.iadd, 1) := by decide +kernel
theorem dL_law_376 : decode cL_law 376 = .ok (.iaload, 1) := by decide +kernel
theorem dL_law_377 : decode cL_law 377 = .ok (.aload_n 0, 1) := by decide +kernel
theorem dL_law_378 : decode cL_law 378 = .ok (.iload_n 3, 1) := by decide +kernel
theorem dL_law_379 : decode cL_law 379 = .ok (.iconst 3, 1) := by decide +kernel
theorem dL_law_380 : decode cL_law 380 = .ok (.iadd, 1) := by decide +kernel
theorem dL_law_381 : decode cL_law 381 = .ok (.iaload, 1) := by decide +kernel
theorem dL_law_382 : decode cL_law 382 = .ok (.invokevirtual 32, 3) := by decide +kernel
theorem dL_law_385 : decode cL_law 385 = .ok (.aload_n 2, 1) := by decide +kernel
theorem dL_law_386 : decode cL_law 386 = .ok (.aload_n 0, 1) := by decide +kernel
theorem dL_law_387 : decode cL_law 387 = .ok (.iload_n 3, 1) := by decide +kernel
theorem dL_law_388 : decode cL_law 388 = .ok (.iconst 1, 1) := by decide +kernel
theorem dL_law_389 : decode cL_law 389 = .ok (.iadd, 1) := by decide +kernel
theorem dL_law_390 : decode cL_law 390 = .ok (.iaload, 1) := by decide +kernel
theorem dL_law_391 : decode cL_law 391 = .ok (.aload_n 0, 1) := by decide +kernel
theorem dL_law_392 : decode cL_law 392 = .ok (.iload_n 3, 1) := by decide +kernel
theorem dL_law_393 : decode cL_law 393 = .ok (.iconst 2, 1) := by decide +kernel
theorem dL_law_394 : decode cL_law 394 = .ok (.iadd, 1) := by decide +kernel
theorem dL_law_395 : decode cL_law 395 = .ok (.iaload, 1) := by decide +kernel
theorem dL_law_396 : decode cL_law 396 = .ok (.aload_n 0, 1) := by decide +kernel
theorem dL_law_397 : decode cL_law 397 = .ok (.iload_n 3, 1) := by decide +kernel
theorem dL_law_398 : decode cL_law 398 = .ok (.iconst 3, 1) := by decide +kernel
theorem dL_law_399 : decode cL_law 399 = .ok (.iadd, 1) := by decide +kernel
theorem dL_law_400 : decode cL_law 400 = .ok (.iaload, 1) := by decide +kernel
theorem dL_law_401 : decode cL_law 401 = .ok (.invokevirtual 36, 3) := by decide +kernel
theorem dL_law_404 : decode cL_law 404 = .ok (.if_icmp .eq 1093, 3) := by decide +kernel
theorem dL_law_407 : decode cL_law 407 = .ok (.iconst 0, 1) := by decide +kernel
theorem dL_law_408 : decode cL_law 408 = .ok (.ireturn, 1) := by decide +kernel
theorem dL_law_409 : decode cL_law 409 = .ok (.aload_n 1, 1) := by decide +kernel
theorem dL_law_410 : decode cL_law 410 = .ok (.aload_n 0, 1) := by decide +kernel
theorem dL_law_411 : decode cL_law 411 = .ok (.iload_n 3, 1) := by decide +kernel
theorem dL_law_412 : decode cL_law 412 = .ok (.iconst 1, 1) := by decide +kernel
theorem dL_law_413 : decode cL_law 413 = .ok (.iadd, 1) := by decide +kernel
theorem dL_law_414 : decode cL_law 414 = .ok (.iaload, 1) := by decide +kernel
theorem dL_law_415 : decode cL_law 415 = .ok (.aload_n 0, 1) := by decide +kernel
theorem dL_law_416 : decode cL_law 416 = .ok (.iload_n 3, 1) := by decide +kernel
theorem dL_law_417 : decode cL_law 417 = .ok (.iconst 2, 1) := by decide +kernel
theorem dL_law_418 : decode cL_law 418 = .ok (.iadd, 1) := by decide +kernel
theorem dL_law_419 : decode cL_law 419 = .ok (.iaload, 1) := by decide +kernel
theorem dL_law_420 : decode cL_law 420 = .ok (.invokevirtual 37, 3) := by decide +kernel
theorem dL_law_423 : decode cL_law 423 = .ok (.aload_n 2, 1) := by decide +kernel
theorem dL_law_424 : decode cL_law 424 = .ok (.aload_n 0, 1) := by decide +kernel
theorem dL_law_425 : decode cL_law 425 = .ok (.iload_n 3, 1) := by decide +kernel
theorem dL_law_426 : decode cL_law 426 = .ok (.iconst 1, 1) := by decide +kernel
theorem dL_law_427 : decode cL_law 427 = .ok (.iadd, 1) := by decide +kernel
theorem dL_law_428 : decode cL_law 428 = .ok (.iaload, 1) := by decide +kernel
theorem dL_law_429 : decode cL_law 429 = .ok (.aload_n 0, 1) := by decide +kernel
theorem dL_law_430 : decode cL_law 430 = .ok (.iload_n 3, 1) := by decide +kernel
theorem dL_law_431 : decode cL_law 431 = .ok (.iconst 2, 1) := by decide +kernel
theorem dL_law_432 : decode cL_law 432 = .ok (.iadd, 1) := by decide +kernel
theorem dL_law_433 : decode cL_law 433 = .ok (.iaload, 1) := by decide +kernel
theorem dL_law_434 : decode cL_law 434 = .ok (.invokevirtual 40, 3) := by decide +kernel
theorem dL_law_437 : decode cL_law 437 = .ok (.if_icmp .eq 1060, 3) := by decide +kernel
theorem dL_law_440 : decode cL_law 440 = .ok (.iconst 0, 1) := by decide +kernel
theorem dL_law_441 : decode cL_law 441 = .ok (.ireturn, 1) := by decide +kernel
theorem dL_law_442 : decode cL_law 442 = .ok (.aload_n 1, 1) := by decide +kernel
theorem dL_law_443 : decode cL_law 443 = .ok (.aload_n 0, 1) := by decide +kernel
theorem dL_law_444 : decode cL_law 444 = .ok (.iload_n 3, 1) := by decide +kernel
theorem dL_law_445 : decode cL_law 445 = .ok (.iconst 1, 1) := by decide +kernel
theorem dL_law_446 : decode cL_law 446 = .ok (.iadd, 1) := by decide +kernel
theorem dL_law_447 : decode cL_law 447 = .ok (.iaload, 1) := by decide +kernel
theorem dL_law_448 : decode cL_law 448 = .ok (.aload_n 0, 1) := by decide +kernel
theorem dL_law_449 : decode cL_law 449 = .ok (.iload_n 3, 1) := by decide +kernel
theorem dL_law_450 : decode cL_law 450 = .ok (.iconst 2, 1) := by decide +kernel
theorem dL_law_451 : decode cL_law 451 = .ok (.iadd, 1) := by decide +kernel
theorem dL_law_452 : decode cL_law 452 = .ok (.iaload, 1) := by decide +kernel
theorem dL_law_453 : decode cL_law 453 = .ok (.aload_n 0, 1) := by decide +kernel
theorem dL_law_454 : decode cL_law 454 = .ok (.iload_n 3, 1) := by decide +kernel
theorem dL_law_455 : decode cL_law 455 = .ok (.iconst 3, 1) := by decide +kernel
theorem dL_law_456 : decode cL_law 456 = .ok (.iadd, 1) := by decide +kernel
theorem dL_law_457 : decode cL_law 457 = .ok (.iaload, 1) := by decide +kernel
theorem dL_law_458 : decode cL_law 458 = .ok (.invokevirtual 41, 3) := by decide +kernel
theorem dL_law_461 : decode cL_law 461 = .ok (.aload_n 2, 1) := by decide +kernel
theorem dL_law_462 : decode cL_law 462 = .ok (.aload_n 0, 1) := by decide +kernel
theorem dL_law_463 : decode cL_law 463 = .ok (.iload_n 3, 1) := by decide +kernel
theorem dL_law_464 : decode cL_law 464 = .ok (.iconst 1, 1) := by decide +kernel
theorem dL_law_465 : decode cL_law 465 = .ok (.iadd, 1) := by decide +kernel
theorem dL_law_466 : decode cL_law 466 = .ok (.iaload, 1) := by decide +kernel
theorem dL_law_467 : decode cL_law 467 = .ok (.aload_n 0, 1) := by decide +kernel
theorem dL_law_468 : decode cL_law 468 = .ok (.iload_n 3, 1) := by decide +kernel
theorem dL_law_469 : decode cL_law 469 = .ok (.iconst 2, 1) := by decide +kernel
theorem dL_law_470 : decode cL_law 470 = .ok (.iadd, 1) := by decide +kernel
theorem dL_law_471 : decode cL_law 471 = .ok (.iaload, 1) := by decide +kernel
theorem dL_law_472 : decode cL_law 472 = .ok (.aload_n 0, 1) := by decide +kernel
theorem dL_law_473 : decode cL_law 473 = .ok (.iload_n 3, 1) := by decide +kernel
theorem dL_law_474 : decode cL_law 474 = .ok (.iconst 3, 1) := by decide +kernel
theorem dL_law_475 : decode cL_law 475 = .ok (.iadd, 1) := by decide +kernel
theorem dL_law_476 : decode cL_law 476 = .ok (.iaload, 1) := by decide +kernel
theorem dL_law_477 : decode cL_law 477 = .ok (.invokevirtual 44, 3) := by decide +kernel
theorem dL_law_480 : decode cL_law 480 = .ok (.if_icmp .eq 1017, 3) := by decide +kernel
theorem dL_law_483 : decode cL_law 483 = .ok (.iconst 0, 1) := by decide +kernel
theorem dL_law_484 : decode cL_law 484 = .ok (.ireturn, 1) := by decide +kernel
theorem dL_law_485 : decode cL_law 485 = .ok (.aload_n 1, 1) := by decide +kernel
theorem dL_law_486 : decode cL_law 486 = .ok (.aload_n 0, 1) := by decide +kernel
theorem dL_law_487 : decode cL_law 487 = .ok (.iload_n 3, 1) := by decide +kernel
theorem dL_law_488 : decode cL_law 488 = .ok (.iconst 1, 1) := by decide +kernel
theorem dL_law_489 : decode cL_law 489 = .ok (.iadd, 1) := by decide +kernel
theorem dL_law_490 : decode cL_law 490 = .ok (.iaload, 1) := by decide +kernel
theorem dL_law_491 : decode cL_law 491 = .ok (.aload_n 0, 1) := by decide +kernel
theorem dL_law_492 : decode cL_law 492 = .ok (.iload_n 3, 1) := by decide +kernel
theorem dL_law_493 : decode cL_law 493 = .ok (.iconst 2, 1) := by decide +kernel
theorem dL_law_494 : decode cL_law 494 = .ok (.iadd, 1) := by decide +kernel
theorem dL_law_495 : decode cL_law 495 = .ok (.iaload, 1) := by decide +kernel
theorem dL_law_496 : decode cL_law 496 = .ok (.invokevirtual 45, 3) := by decide +kernel
theorem dL_law_499 : decode cL_law 499 = .ok (.aload_n 2, 1) := by decide +kernel
theorem dL_law_500 : decode cL_law 500 = .ok (.aload_n 0, 1) := by decide +kernel
theorem dL_law_501 : decode cL_law 501 = .ok (.iload_n 3, 1) := by decide +kernel
theorem dL_law_502 : decode cL_law 502 = .ok (.iconst 1, 1) := by decide +kernel
theorem dL_law_503 : decode cL_law 503 = .ok (.iadd, 1) := by decide +kernel
theorem dL_law_504 : decode cL_law 504 = .ok (.iaload, 1) := by decide +kernel
theorem dL_law_505 : decode cL_law 505 = .ok (.aload_n 0, 1) := by decide +kernel
theorem dL_law_506 : decode cL_law 506 = .ok (.iload_n 3, 1) := by decide +kernel
theorem dL_law_507 : decode cL_law 507 = .ok (.iconst 2, 1) := by decide +kernel
theorem dL_law_508 : decode cL_law 508 = .ok (.iadd, 1) := by decide +kernel
theorem dL_law_509 : decode cL_law 509 = .ok (.iaload, 1) := by decide +kernel
theorem dL_law_510 : decode cL_law 510 = .ok (.invokevirtual 48, 3) := by decide +kernel
theorem dL_law_513 : decode cL_law 513 = .ok (.if_icmp .eq 984, 3) := by decide +kernel
theorem dL_law_516 : decode cL_law 516 = .ok (.iconst 0, 1) := by decide +kernel
theorem dL_law_517 : decode cL_law 517 = .ok (.ireturn, 1) := by decide +kernel
theorem dL_law_518 : decode cL_law 518 = .ok (.aload_n 1, 1) := by decide +kernel
theorem dL_law_519 : decode cL_law 519 = .ok (.aload_n 0, 1) := by decide +kernel
theorem dL_law_520 : decode cL_law 520 = .ok (.iload_n 3, 1) := by decide +kernel
theorem dL_law_521 : decode cL_law 521 = .ok (.iconst 1, 1) := by decide +kernel
theorem dL_law_522 : decode cL_law 522 = .ok (.iadd, 1) := by decide +kernel
theorem dL_law_523 : decode cL_law 523 = .ok (.iaload, 1) := by decide +kernel
theorem dL_law_524 : decode cL_law 524 = .ok (.invokevirtual 49, 3) := by decide +kernel
theorem dL_law_527 : decode cL_law 527 = .ok (.aload_n 2, 1) := by decide +kernel
theorem dL_law_528 : decode cL_law 528 = .ok (.aload_n 0, 1) := by decide +kernel
theorem dL_law_529 : decode cL_law 529 = .ok (.iload_n 3, 1) := by decide +kernel
theorem dL_law_530 : decode cL_law 530 = .ok (.iconst 1, 1) := by decide +kernel
theorem dL_law_531 : decode cL_law 531 = .ok (.iadd, 1) := by decide +kernel
theorem dL_law_532 : decode cL_law 532 = .ok (.iaload, 1) := by decide +kernel
theorem dL_law_533 : decode cL_law 533 = .ok (.invokevirtual 52, 3) := by decide +kernel
theorem dL_law_536 : decode cL_law 536 = .ok (.if_icmp .eq 961, 3) := by decide +kernel
theorem dL_law_539 : decode cL_law 539 = .ok (.iconst 0, 1) := by decide +kernel
theorem dL_law_540 : decode cL_law 540 = .ok (.ireturn, 1) := by decide +kernel
theorem dL_law_541 : decode cL_law 541 = .ok (.aload_n 1, 1) := by decide +kernel
theorem dL_law_542 : decode cL_law 542 = .ok (.aload_n 0, 1) := by decide +kernel
theorem dL_law_543 : decode cL_law 543 = .ok (.iload_n 3, 1) := by decide +kernel
theorem dL_law_544 : decode cL_law 544 = .ok (.iconst 1, 1) := by decide +kernel
theorem dL_law_545 : decode cL_law 545 = .ok (.iadd, 1) := by decide +kernel
theorem dL_law_546 : decode cL_law 546 = .ok (.iaload, 1) := by decide +kernel
theorem dL_law_547 : decode cL_law 547 = .ok (.aload_n 0, 1) := by decide +kernel
theorem dL_law_548 : decode cL_law 548 = .ok (.iload_n 3, 1) := by decide +kernel
theorem dL_law_549 : decode cL_law 549 = .ok (.iconst 2, 1) := by decide +kernel
theorem dL_law_550 : decode cL_law 550 = .ok (.iadd, 1) := by decide +kernel
theorem dL_law_551 : decode cL_law 551 = .ok (.iaload, 1) := by decide +kernel
theorem dL_law_552 : decode cL_law 552 = .ok (.invokevirtual 53, 3) := by decide +kernel
theorem dL_law_555 : decode cL_law 555 = .ok (.aload_n 2, 1) := by decide +kernel
theorem dL_law_556 : decode cL_law 556 = .ok (.aload_n 0, 1) := by decide +kernel
theorem dL_law_557 : decode cL_law 557 = .ok (.iload_n 3, 1) := by decide +kernel
theorem dL_law_558 : decode cL_law 558 = .ok (.iconst 1, 1) := by decide +kernel
theorem dL_law_559 : decode cL_law 559 = .ok (.iadd, 1) := by decide +kernel
theorem dL_law_560 : decode cL_law 560 = .ok (.iaload, 1) := by decide +kernel
theorem dL_law_561 : decode cL_law 561 = .ok (.aload_n 0, 1) := by decide +kernel
theorem dL_law_562 : decode cL_law 562 = .ok (.iload_n 3, 1) := by decide +kernel
theorem dL_law_563 : decode cL_law 563 = .ok (.iconst 2, 1) := by decide +kernel
theorem dL_law_564 : decode cL_law 564 = .ok (.iadd, 1) := by decide +kernel
theorem dL_law_565 : decode cL_law 565 = .ok (.iaload, 1) := by decide +kernel
theorem dL_law_566 : decode cL_law 566 = .ok (.invokevirtual 56, 3) := by decide +kernel
theorem dL_law_569 : decode cL_law 569 = .ok (.if_icmp .eq 928, 3) := by decide +kernel
theorem dL_law_572 : decode cL_law 572 = .ok (.iconst 0, 1) := by decide +kernel
theorem dL_law_573 : decode cL_law 573 = .ok (.ireturn, 1) := by decide +kernel
theorem dL_law_574 : decode cL_law 574 = .ok (.aload_n 1, 1) := by decide +kernel
theorem dL_law_575 : decode cL_law 575 = .ok (.aload_n 0, 1) := by decide +kernel
theorem dL_law_576 : decode cL_law 576 = .ok (.iload_n 3, 1) := by decide +kernel
theorem dL_law_577 : decode cL_law 577 = .ok (.iconst 1, 1) := by decide +kernel
theorem dL_law_578 : decode cL_law 578 = .ok (.iadd, 1) := by decide +kernel
theorem dL_law_579 : decode cL_law 579 = .ok (.iaload, 1) := by decide +kernel
theorem dL_law_580 : decode cL_law 580 = .ok (.invokevirtual 57, 3) := by decide +kernel
theorem dL_law_583 : decode cL_law 583 = .ok (.aload_n 2, 1) := by decide +kernel
theorem dL_law_584 : decode cL_law 584 = .ok (.aload_n 0, 1) := by decide +kernel
theorem dL_law_585 : decode cL_law 585 = .ok (.iload_n 3, 1) := by decide +kernel
theorem dL_law_586 : decode cL_law 586 = .ok (.iconst 1, 1) := by decide +kernel
theorem dL_law_587 : decode cL_law 587 = .ok (.iadd, 1) := by decide +kernel
theorem dL_law_588 : decode cL_law 588 = .ok (.iaload, 1) := by decide +kernel
theorem dL_law_589 : decode cL_law 589 = .ok (.invokevirtual 60, 3) := by decide +kernel
theorem dL_law_592 : decode cL_law 592 = .ok (.if_icmp .eq 905, 3) := by decide +kernel
theorem dL_law_595 : decode cL_law 595 = .ok (.iconst 0, 1) := by decide +kernel
theorem dL_law_596 : decode cL_law 596 = .ok (.ireturn, 1) := by decide +kernel
theorem dL_law_597 : decode cL_law 597 = .ok (.aload_n 1, 1) := by decide +kernel
theorem dL_law_598 : decode cL_law 598 = .ok (.invokevirtual 61, 3) := by decide +kernel
theorem dL_law_601 : decode cL_law 601 = .ok (.aload_n 2, 1) := by decide +kernel
theorem dL_law_602 : decode cL_law 602 = .ok (.invokevirtual 64, 3) := by decide +kernel
theorem dL_law_605 : decode cL_law 605 = .ok (.if_icmp .eq 892, 3) := by decide +kernel
theorem dL_law_608 : decode cL_law 608 = .ok (.iconst 0, 1) := by decide +kernel
theorem dL_law_609 : decode cL_law 609 = .ok (.ireturn, 1) := by decide +kernel
theorem dL_law_610 : decode cL_law 610 = .ok (.aload_n 1, 1) := by decide +kernel
theorem dL_law_611 : decode cL_law 611 = .ok (.aload_n 0, 1) := by decide +kernel
theorem dL_law_612 : decode cL_law 612 = .ok (.iload_n 3, 1) := by decide +kernel
theorem dL_law_613 : decode cL_law 613 = .ok (.iconst 1, 1) := by decide +kernel
theorem dL_law_614 : decode cL_law 614 = .ok (.iadd, 1) := by decide +kernel
theorem dL_law_615 : decode cL_law 615 = .ok (.iaload, 1) := by decide +kernel
theorem dL_law_616 : decode cL_law 616 = .ok (.invokevirtual 65, 3) := by decide +kernel
theorem dL_law_619 : decode cL_law 619 = .ok (.aload_n 2, 1) := by decide +kernel
theorem dL_law_620 : decode cL_law 620 = .ok (.aload_n 0, 1) := by decide +kernel
theorem dL_law_621 : decode cL_law 621 = .ok (.iload_n 3, 1) := by decide +kernel
theorem dL_law_622 : decode cL_law 622 = .ok (.iconst 1, 1) := by decide +kernel
theorem dL_law_623 : decode cL_law 623 = .ok (.iadd, 1) := by decide +kernel
theorem dL_law_624 : decode cL_law 624 = .ok (.iaload, 1) := by decide +kernel
theorem dL_law_625 : decode cL_law 625 = .ok (.invokevirtual 68, 3) := by decide +kernel
theorem dL_law_628 : decode cL_law 628 = .ok (.if_icmp .eq 869, 3) := by decide +kernel
theorem dL_law_631 : decode cL_law 631 = .ok (.iconst 0, 1) := by decide +kernel
theorem dL_law_632 : decode cL_law 632 = .ok (.ireturn, 1) := by decide +kernel
theorem dL_law_633 : decode cL_law 633 = .ok (.aload_n 1, 1) := by decide +kernel
theorem dL_law_634 : decode cL_law 634 = .ok (.aload_n 0, 1) := by decide +kernel
theorem dL_law_635 : decode cL_law 635 = .ok (.iload_n 3, 1) := by decide +kernel
theorem dL_law_636 : decode cL_law 636 = .ok (.iconst 1, 1) := by decide +kernel
theorem dL_law_637 : decode cL_law 637 = .ok (.iadd, 1) := by decide +kernel
theorem dL_law_638 : decode cL_law 638 = .ok (.iaload, 1) := by decide +kernel
theorem dL_law_639 : decode cL_law 639 = .ok (.invokevirtual 69, 3) := by decide +kernel
theorem dL_law_642 : decode cL_law 642 = .ok (.aload_n 2, 1) := by decide +kernel
theorem dL_law_643 : decode cL_law 643 = .ok (.aload_n 0, 1) := by decide +kernel
theorem dL_law_644 : decode cL_law 644 = .ok (.iload_n 3, 1) := by decide +kernel
theorem dL_law_645 : decode cL_law 645 = .ok (.iconst 1, 1) := by decide +kernel
theorem dL_law_646 : decode cL_law 646 = .ok (.iadd, 1) := by decide +kernel
theorem dL_law_647 : decode cL_law 647 = .ok (.iaload, 1) := by decide +kernel
theorem dL_law_648 : decode cL_law 648 = .ok (.invokevirtual 72, 3) := by decide +kernel
theorem dL_law_651 : decode cL_law 651 = .ok (.if_icmp .eq 846, 3) := by decide +kernel
theorem dL_law_654 : decode cL_law 654 = .ok (.iconst 0, 1) := by decide +kernel
theorem dL_law_655 : decode cL_law 655 = .ok (.ireturn, 1) := by decide +kernel
theorem dL_law_656 : decode cL_law 656 = .ok (.aload_n 1, 1) := by decide +kernel
theorem dL_law_657 : decode cL_law 657 = .ok (.aload_n 0, 1) := by decide +kernel
theorem dL_law_658 : decode cL_law 658 = .ok (.iload_n 3, 1) := by decide +kernel
theorem dL_law_659 : decode cL_law 659 = .ok (.iconst 1, 1) := by decide +kernel
theorem dL_law_660 : decode cL_law 660 = .ok (.iadd, 1) := by decide +kernel
theorem dL_law_661 : decode cL_law 661 = .ok (.iaload, 1) := by decide +kernel
theorem dL_law_662 : decode cL_law 662 = .ok (.invokevirtual 73, 3) := by decide +kernel
theorem dL_law_665 : decode cL_law 665 = .ok (.aload_n 2, 1) := by decide +kernel
theorem dL_law_666 : decode cL_law 666 = .ok (.aload_n 0, 1) := by decide +kernel
theorem dL_law_667 : decode cL_law 667 = .ok (.iload_n 3, 1) := by decide +kernel
theorem dL_law_668 : decode cL_law 668 = .ok (.iconst 1, 1) := by decide +kernel
theorem dL_law_669 : decode cL_law 669 = .ok (.iadd, 1) := by decide +kernel
theorem dL_law_670 : decode cL_law 670 = .ok (.iaload, 1) := by decide +kernel
theorem dL_law_671 : decode cL_law 671 = .ok (.invokevirtual 76, 3) := by decide +kernel
theorem dL_law_674 : decode cL_law 674 = .ok (.if_icmp .eq 823, 3) := by decide +kernel
theorem dL_law_677 : decode cL_law 677 = .ok (.iconst 0, 1) := by decide +kernel
theorem dL_law_678 : decode cL_law 678 = .ok (.ireturn, 1) := by decide +kernel
theorem dL_law_679 : decode cL_law 679 = .ok (.aload_n 1, 1) := by decide +kernel
theorem dL_law_680 : decode cL_law 680 = .ok (.aload_n 0, 1) := by decide +kernel
theorem dL_law_681 : decode cL_law 681 = .ok (.iload_n 3, 1) := by decide +kernel
theorem dL_law_682 : decode cL_law 682 = .ok (.iconst 1, 1) := by decide +kernel
theorem dL_law_683 : decode cL_law 683 = .ok (.iadd, 1) := by decide +kernel
theorem dL_law_684 : decode cL_law 684 = .ok (.iaload, 1) := by decide +kernel
theorem dL_law_685 : decode cL_law 685 = .ok (.invokevirtual 77, 3) := by decide +kernel
theorem dL_law_688 : decode cL_law 688 = .ok (.aload_n 2, 1) := by decide +kernel
theorem dL_law_689 : decode cL_law 689 = .ok (.aload_n 0, 1) := by decide +kernel
theorem dL_law_690 : decode cL_law 690 = .ok (.iload_n 3, 1) := by decide +kernel
theorem dL_law_691 : decode cL_law 691 = .ok (.iconst 1, 1) := by decide +kernel
theorem dL_law_692 : decode cL_law 692 = .ok (.iadd, 1) := by decide +kernel
theorem dL_law_693 : decode cL_law 693 = .ok (.iaload, 1) := by decide +kernel
theorem dL_law_694 : decode cL_law 694 = .ok (.invokevirtual 80, 3) := by decide +kernel
theorem dL_law_697 : decode cL_law 697 = .ok (.if_icmp .eq 800, 3) := by decide +kernel
theorem dL_law_700 : decode cL_law 700 = .ok (.iconst 0, 1) := by decide +kernel
theorem dL_law_701 : decode cL_law 701 = .ok (.ireturn, 1) := by decide +kernel
theorem dL_law_702 : decode cL_law 702 = .ok (.aload_n 1, 1) := by decide +kernel
theorem dL_law_703 : decode cL_law 703 = .ok (.aload_n 0, 1) := by decide +kernel
theorem dL_law_704 : decode cL_law 704 = .ok (.iload_n 3, 1) := by decide +kernel
theorem dL_law_705 : decode cL_law 705 = .ok (.iconst 1, 1) := by decide +kernel
theorem dL_law_706 : decode cL_law 706 = .ok (.iadd, 1) := by decide +kernel
theorem dL_law_707 : decode cL_law 707 = .ok (.iaload, 1) := by decide +kernel
theorem dL_law_708 : decode cL_law 708 = .ok (.aload_n 0, 1) := by decide +kernel
theorem dL_law_709 : decode cL_law 709 = .ok (.iload_n 3, 1) := by decide +kernel
theorem dL_law_710 : decode cL_law 710 = .ok (.iconst 2, 1) := by decide +kernel
theorem dL_law_711 : decode cL_law 711 = .ok (.iadd, 1) := by decide +kernel
theorem dL_law_712 : decode cL_law 712 = .ok (.iaload, 1) := by decide +kernel
theorem dL_law_713 : decode cL_law 713 = .ok (.invokevirtual 81, 3) := by decide +kernel
theorem dL_law_716 : decode cL_law 716 = .ok (.aload_n 2, 1) := by decide +kernel
theorem dL_law_717 : decode cL_law 717 = .ok (.aload_n 0, 1) := by decide +kernel
theorem dL_law_718 : decode cL_law 718 = .ok (.iload_n 3, 1) := by decide +kernel
theorem dL_law_719 : decode cL_law 719 = .ok (.iconst 1, 1) := by decide +kernel
theorem dL_law_720 : decode cL_law 720 = .ok (.iadd, 1) := by decide +kernel
theorem dL_law_721 : decode cL_law 721 = .ok (.iaload, 1) := by decide +kernel
theorem dL_law_722 : decode cL_law 722 = .ok (.aload_n 0, 1) := by decide +kernel
theorem dL_law_723 : decode cL_law 723 = .ok (.iload_n 3, 1) := by decide +kernel
theorem dL_law_724 : decode cL_law 724 = .ok (.iconst 2, 1) := by decide +kernel
theorem dL_law_725 : decode cL_law 725 = .ok (.iadd, 1) := by decide +kernel
theorem dL_law_726 : decode cL_law 726 = .ok (.iaload, 1) := by decide +kernel
theorem dL_law_727 : decode cL_law 727 = .ok (.invokevirtual 84, 3) := by decide +kernel
theorem dL_law_730 : decode cL_law 730 = .ok (.if_icmp .eq 767, 3) := by decide +kernel
theorem dL_law_733 : decode cL_law 733 = .ok (.iconst 0, 1) := by decide +kernel
theorem dL_law_734 : decode cL_law 734 = .ok (.ireturn, 1) := by decide +kernel
theorem dL_law_735 : decode cL_law 735 = .ok (.aload_n 1, 1) := by decide +kernel
theorem dL_law_736 : decode cL_law 736 = .ok (.invokevirtual 85, 3) := by decide +kernel
theorem dL_law_739 : decode cL_law 739 = .ok (.aload_n 2, 1) := by decide +kernel
theorem dL_law_740 : decode cL_law 740 = .ok (.invokevirtual 88, 3) := by decide +kernel
theorem dL_law_743 : decode cL_law 743 = .ok (.if_icmp .eq 754, 3) := by decide +kernel
theorem dL_law_746 : decode cL_law 746 = .ok (.iconst 0, 1) := by decide +kernel
theorem dL_law_747 : decode cL_law 747 = .ok (.ireturn, 1) := by decide +kernel
theorem dL_law_748 : decode cL_law 748 = .ok (.aload_n 1, 1) := by decide +kernel
theorem dL_law_749 : decode cL_law 749 = .ok (.invokevirtual 89, 3) := by decide +kernel
theorem dL_law_752 : decode cL_law 752 = .ok (.aload_n 2, 1) := by decide +kernel
theorem dL_law_753 : decode cL_law 753 = .ok (.invokevirtual 92, 3) := by decide +kernel
theorem dL_law_756 : decode cL_law 756 = .ok (.if_icmp .eq 741, 3) := by decide +kernel
theorem dL_law_759 : decode cL_law 759 = .ok (.iconst 0, 1) := by decide +kernel
theorem dL_law_760 : decode cL_law 760 = .ok (.ireturn, 1) := by decide +kernel
theorem dL_law_761 : decode cL_law 761 = .ok (.aload_n 1, 1) := by decide +kernel
theorem dL_law_762 : decode cL_law 762 = .ok (.invokevirtual 93, 3) := by decide +kernel
theorem dL_law_765 : decode cL_law 765 = .ok (.aload_n 2, 1) := by decide +kernel
theorem dL_law_766 : decode cL_law 766 = .ok (.invokevirtual 96, 3) := by decide +kernel
theorem dL_law_769 : decode cL_law 769 = .ok (.if_icmp .eq 728, 3) := by decide +kernel
theorem dL_law_772 : decode cL_law 772 = .ok (.iconst 0, 1) := by decide +kernel
theorem dL_law_773 : decode cL_law 773 = .ok (.ireturn, 1) := by decide +kernel
theorem dL_law_774 : decode cL_law 774 = .ok (.aload_n 1, 1) := by decide +kernel
theorem dL_law_775 : decode cL_law 775 = .ok (.aload_n 0, 1) := by decide +kernel
theorem dL_law_776 : decode cL_law 776 = .ok (.iload_n 3, 1) := by decide +kernel
theorem dL_law_777 : decode cL_law 777 = .ok (.iconst 1, 1) := by decide +kernel
theorem dL_law_778 : decode cL_law 778 = .ok (.iadd, 1) := by decide +kernel
theorem dL_law_779 : decode cL_law 779 = .ok (.iaload, 1) := by decide +kernel
theorem dL_law_780 : decode cL_law 780 = .ok (.invokevirtual 97, 3) := by decide +kernel
theorem dL_law_783 : decode cL_law 783 = .ok (.aload_n 2, 1) := by decide +kernel
theorem dL_law_784 : decode cL_law 784 = .ok (.aload_n 0, 1) := by decide +kernel
theorem dL_law_785 : decode cL_law 785 = .ok (.iload_n 3, 1) := by decide +kernel
theorem dL_law_786 : decode cL_law 786 = .ok (.iconst 1, 1) := by decide +kernel
theorem dL_law_787 : decode cL_law 787 = .ok (.iadd, 1) := by decide +kernel
theorem dL_law_788 : decode cL_law 788 = .ok (.iaload, 1) := by decide +kernel
theorem dL_law_789 : decode cL_law 789 = .ok (.invokevirtual 100, 3) := by decide +kernel
theorem dL_law_792 : decode cL_law 792 = .ok (.if_icmp .eq 705, 3) := by decide +kernel
theorem dL_law_795 : decode cL_law 795 = .ok (.iconst 0, 1) := by decide +kernel
theorem dL_law_796 : decode cL_law 796 = .ok (.ireturn, 1) := by decide +kernel
theorem dL_law_797 : decode cL_law 797 = .ok (.aload_n 1, 1) := by decide +kernel
theorem dL_law_798 : decode cL_law 798 = .ok (.aload_n 0, 1) := by decide +kernel
theorem dL_law_799 : decode cL_law 799 = .ok (.iload_n 3, 1) := by decide +kernel
theorem dL_law_800 : decode cL_law 800 = .ok (.iconst 1, 1) := by decide +kernel
theorem dL_law_801 : decode cL_law 801 = .ok (.iadd, 1) := by decide +kernel
theorem dL_law_802 : decode cL_law 802 = .ok (.iaload, 1) := by decide +kernel
theorem dL_law_803 : decode cL_law 803 = .ok (.invokevirtual 101, 3) := by decide +kernel
theorem dL_law_806 : decode cL_law 806 = .ok (.aload_n 2, 1) := by decide +kernel
theorem dL_law_807 : decode cL_law 807 = .ok (.aload_n 0, 1) := by decide +kernel
theorem dL_law_808 : decode cL_law 808 = .ok (.iload_n 3, 1) := by decide +kernel
theorem dL_law_809 : decode cL_law 809 = .ok (.iconst 1, 1) := by decide +kernel
theorem dL_law_810 : decode cL_law 810 = .ok (.iadd, 1) := by decide +kernel
theorem dL_law_811 : decode cL_law 811 = .ok (.iaload, 1) := by decide +kernel
theorem dL_law_812 : decode cL_law 812 = .ok (.invokevirtual 104, 3) := by decide +kernel
theorem dL_law_815 : decode cL_law 815 = .ok (.if_icmp .eq 682, 3) := by decide +kernel
theorem dL_law_818 : decode cL_law 818 = .ok (.iconst 0, 1) := by decide +kernel
theorem dL_law_819 : decode cL_law 819 = .ok (.ireturn, 1) := by decide +kernel
theorem dL_law_820 : decode cL_law 820 = .ok (.aload_n 1, 1) := by decide +kernel
theorem dL_law_821 : decode cL_law 821 = .ok (.aload_n 0, 1) := by decide +kernel
theorem dL_law_822 : decode cL_law 822 = .ok (.iload_n 3, 1) := by decide +kernel
theorem dL_law_823 : decode cL_law 823 = .ok (.iconst 1, 1) := by decide +kernel
theorem dL_law_824 : decode cL_law 824 = .ok (.iadd, 1) := by decide +kernel
theorem dL_law_825 : decode cL_law 825 = .ok (.iaload, 1) := by decide +kernel
theorem dL_law_826 : decode cL_law 826 = .ok (.invokevirtual 105, 3) := by decide +kernel
theorem dL_law_829 : decode cL_law 829 = .ok (.aload_n 2, 1) := by decide +kernel
theorem dL_law_830 : decode cL_law 830 = .ok (.aload_n 0, 1) := by decide +kernel
theorem dL_law_831 : decode cL_law 831 = .ok (.iload_n 3, 1) := by decide +kernel
theorem dL_law_832 : decode cL_law 832 = .ok (.iconst 1, 1) := by decide +kernel
theorem dL_law_833 : decode cL_law 833 = .ok (.iadd, 1) := by decide +kernel
theorem dL_law_834 : decode cL_law 834 = .ok (.iaload, 1) := by decide +kernel
theorem dL_law_835 : decode cL_law 835 = .ok (.invokevirtual 108, 3) := by decide +kernel
theorem dL_law_838 : decode cL_law 838 = .ok (.if_icmp .eq 659, 3) := by decide +kernel
theorem dL_law_841 : decode cL_law 841 = .ok (.iconst 0, 1) := by decide +kernel
theorem dL_law_842 : decode cL_law 842 = .ok (.ireturn, 1) := by decide +kernel
theorem dL_law_843 : decode cL_law 843 = .ok (.aload_n 1, 1) := by decide +kernel
theorem dL_law_844 : decode cL_law 844 = .ok (.invokevirtual 109, 3) := by decide +kernel
theorem dL_law_847 : decode cL_law 847 = .ok (.aload_n 2, 1) := by decide +kernel
theorem dL_law_848 : decode cL_law 848 = .ok (.invokevirtual 112, 3) := by decide +kernel
theorem dL_law_851 : decode cL_law 851 = .ok (.if_icmp .eq 646, 3) := by decide +kernel
theorem dL_law_854 : decode cL_law 854 = .ok (.iconst 0, 1) := by decide +kernel
theorem dL_law_855 : decode cL_law 855 = .ok (.ireturn, 1) := by decide +kernel
theorem dL_law_856 : decode cL_law 856 = .ok (.aload_n 1, 1) := by decide +kernel
theorem dL_law_857 : decode cL_law 857 = .ok (.invokevirtual 113, 3) := by decide +kernel
theorem dL_law_860 : decode cL_law 860 = .ok (.aload_n 2, 1) := by decide +kernel
theorem dL_law_861 : decode cL_law 861 = .ok (.invokevirtual 116, 3) := by decide +kernel
theorem dL_law_864 : decode cL_law 864 = .ok (.if_icmp .eq 633, 3) := by decide +kernel
theorem dL_law_867 : decode cL_law 867 = .ok (.iconst 0, 1) := by decide +kernel
theorem dL_law_868 : decode cL_law 868 = .ok (.ireturn, 1) := by decide +kernel
theorem dL_law_869 : decode cL_law 869 = .ok (.aload_n 1, 1) := by decide +kernel
theorem dL_law_870 : decode cL_law 870 = .ok (.aload_n 0, 1) := by decide +kernel
theorem dL_law_871 : decode cL_law 871 = .ok (.iload_n 3, 1) := by decide +kernel
theorem dL_law_872 : decode cL_law 872 = .ok (.iconst 1, 1) := by decide +kernel
theorem dL_law_873 : decode cL_law 873 = .ok (.iadd, 1) := by decide +kernel
theorem dL_law_874 : decode cL_law 874 = .ok (.iaload, 1) := by decide +kernel
theorem dL_law_875 : decode cL_law 875 = .ok (.aload_n 0, 1) := by decide +kernel
theorem dL_law_876 : decode cL_law 876 = .ok (.iload_n 3, 1) := by decide +kernel
theorem dL_law_877 : decode cL_law 877 = .ok (.iconst 2, 1) := by decide +kernel
theorem dL_law_878 : decode cL_law 878 = .ok (.iadd, 1) := by decide +kernel
theorem dL_law_879 : decode cL_law 879 = .ok (.iaload, 1) := by decide +kernel
theorem dL_law_880 : decode cL_law 880 = .ok (.invokevirtual 117, 3) := by decide +kernel
theorem dL_law_883 : decode cL_law 883 = .ok (.aload_n 2, 1) := by decide +kernel
theorem dL_law_884 : decode cL_law 884 = .ok (.aload_n 0, 1) := by decide +kernel
theorem dL_law_885 : decode cL_law 885 = .ok (.iload_n 3, 1) := by decide +kernel
theorem dL_law_886 : decode cL_law 886 = .ok (.iconst 1, 1) := by decide +kernel
theorem dL_law_887 : decode cL_law 887 = .ok (.iadd, 1) := by decide +kernel
theorem dL_law_888 : decode cL_law 888 = .ok (.iaload, 1) := by decide +kernel
theorem dL_law_889 : decode cL_law 889 = .ok (.aload_n 0, 1) := by decide +kernel
theorem dL_law_890 : decode cL_law 890 = .ok (.iload_n 3, 1) := by decide +kernel
theorem dL_law_891 : decode cL_law 891 = .ok (.iconst 2, 1) := by decide +kernel
theorem dL_law_892 : decode cL_law 892 = .ok (.iadd, 1) := by decide +kernel
theorem dL_law_893 : decode cL_law 893 = .ok (.iaload, 1) := by decide +kernel
theorem dL_law_894 : decode cL_law 894 = .ok (.invokevirtual 120, 3) := by decide +kernel
theorem dL_law_897 : decode cL_law 897 = .ok (.if_icmp .eq 600, 3) := by decide +kernel
theorem dL_law_900 : decode cL_law 900 = .ok (.iconst 0, 1) := by decide +kernel
theorem dL_law_901 : decode cL_law 901 = .ok (.ireturn, 1) := by decide +kernel
theorem dL_law_902 : decode cL_law 902 = .ok (.aload_n 1, 1) := by decide +kernel
theorem dL_law_903 : decode cL_law 903 = .ok (.invokevirtual 121, 3) := by decide +kernel
theorem dL_law_906 : decode cL_law 906 = .ok (.aload_n 2, 1) := by decide +kernel
theorem dL_law_907 : decode cL_law 907 = .ok (.invokevirtual 124, 3) := by decide +kernel
theorem dL_law_910 : decode cL_law 910 = .ok (.if_icmp .eq 587, 3) := by decide +kernel
theorem dL_law_913 : decode cL_law 913 = .ok (.iconst 0, 1) := by decide +kernel
theorem dL_law_914 : decode cL_law 914 = .ok (.ireturn, 1) := by decide +kernel
theorem dL_law_915 : decode cL_law 915 = .ok (.aload_n 1, 1) := by decide +kernel
theorem dL_law_916 : decode cL_law 916 = .ok (.aload_n 0, 1) := by decide +kernel
theorem dL_law_917 : decode cL_law 917 = .ok (.iload_n 3, 1) := by decide +kernel
theorem dL_law_918 : decode cL_law 918 = .ok (.iconst 1, 1) := by decide +kernel
theorem dL_law_919 : decode cL_law 919 = .ok (.iadd, 1) := by decide +kernel
theorem dL_law_920 : decode cL_law 920 = .ok (.iaload, 1) := by decide +kernel
theorem dL_law_921 : decode cL_law 921 = .ok (.aload_n 0, 1) := by decide +kernel
theorem dL_law_922 : decode cL_law 922 = .ok (.iload_n 3, 1) := by decide +kernel
theorem dL_law_923 : decode cL_law 923 = .ok (.iconst 2, 1) := by decide +kernel
theorem dL_law_924 : decode cL_law 924 = .ok (.iadd, 1) := by decide +kernel
theorem dL_law_925 : decode cL_law 925 = .ok (.iaload, 1) := by decide +kernel
theorem dL_law_926 : decode cL_law 926 = .ok (.invokevirtual 125, 3) := by decide +kernel
theorem dL_law_929 : decode cL_law 929 = .ok (.aload_n 2, 1) := by decide +kernel
theorem dL_law_930 : decode cL_law 930 = .ok (.aload_n 0, 1) := by decide +kernel
theorem dL_law_931 : decode cL_law 931 = .ok (.iload_n 3, 1) := by decide +kernel
theorem dL_law_932 : decode cL_law 932 = .ok (.iconst 1, 1) := by decide +kernel
theorem dL_law_933 : decode cL_law 933 = .ok (.iadd, 1) := by decide +kernel
theorem dL_law_934 : decode cL_law 934 = .ok (.iaload, 1) := by decide +kernel
theorem dL_law_935 : decode cL_law 935 = .ok (.aload_n 0, 1) := by decide +kernel
theorem dL_law_936 : decode cL_law 936 = .ok (.iload_n 3, 1) := by decide +kernel
theorem dL_law_937 : decode cL_law 937 = .ok (.iconst 2, 1) := by decide +kernel
theorem dL_law_938 : decode cL_law 938 = .ok (.iadd, 1) := by decide +kernel
theorem dL_law_939 : decode cL_law 939 = .ok (.iaload, 1) := by decide +kernel
theorem dL_law_940 : decode cL_law 940 = .ok (.invokevirtual 128, 3) := by decide +kernel
theorem dL_law_943 : decode cL_law 943 = .ok (.if_icmp .eq 554, 3) := by decide +kernel
theorem dL_law_946 : decode cL_law 946 = .ok (.iconst 0, 1) := by decide +kernel
theorem dL_law_947 : decode cL_law 947 = .ok (.ireturn, 1) := by decide +kernel
theorem dL_law_948 : decode cL_law 948 = .ok (.aload_n 1, 1) := by decide +kernel
theorem dL_law_949 : decode cL_law 949 = .ok (.aload_n 0, 1) := by decide +kernel
theorem dL_law_950 : decode cL_law 950 = .ok (.iload_n 3, 1) := by decide +kernel
theorem dL_law_951 : decode cL_law 951 = .ok (.iconst 1, 1) := by decide +kernel
theorem dL_law_952 : decode cL_law 952 = .ok (.iadd, 1) := by decide +kernel
theorem dL_law_953 : decode cL_law 953 = .ok (.iaload, 1) := by decide +kernel
theorem dL_law_954 : decode cL_law 954 = .ok (.aload_n 0, 1) := by decide +kernel
theorem dL_law_955 : decode cL_law 955 = .ok (.iload_n 3, 1) := by decide +kernel
theorem dL_law_956 : decode cL_law 956 = .ok (.iconst 2, 1) := by decide +kernel
theorem dL_law_957 : decode cL_law 957 = .ok (.iadd, 1) := by decide +kernel
theorem dL_law_958 : decode cL_law 958 = .ok (.iaload, 1) := by decide +kernel
theorem dL_law_959 : decode cL_law 959 = .ok (.invokevirtual 129, 3) := by decide +kernel
theorem dL_law_962 : decode cL_law 962 = .ok (.aload_n 2, 1) := by decide +kernel
theorem dL_law_963 : decode cL_law 963 = .ok (.aload_n 0, 1) := by decide +kernel
theorem dL_law_964 : decode cL_law 964 = .ok (.iload_n 3, 1) := by decide +kernel
theorem dL_law_965 : decode cL_law 965 = .ok (.iconst 1, 1) := by decide +kernel
theorem dL_law_966 : decode cL_law 966 = .ok (.iadd, 1) := by decide +kernel
theorem dL_law_967 : decode cL_law 967 = .ok (.iaload, 1) := by decide +kernel
theorem dL_law_968 : decode cL_law 968 = .ok (.aload_n 0, 1) := by decide +kernel
theorem dL_law_969 : decode cL_law 969 = .ok (.iload_n 3, 1) := by decide +kernel
theorem dL_law_970 : decode cL_law 970 = .ok (.iconst 2, 1) := by decide +kernel
theorem dL_law_971 : decode cL_law 971 = .ok (.iadd, 1) := by decide +kernel
theorem dL_law_972 : decode cL_law 972 = .ok (.iaload, 1) := by decide +kernel
theorem dL_law_973 : decode cL_law 973 = .ok (.invokevirtual 132, 3) := by decide +kernel
theorem dL_law_976 : decode cL_law 976 = .ok (.if_icmp .eq 521, 3) := by decide +kernel
theorem dL_law_979 : decode cL_law 979 = .ok (.iconst 0, 1) := by decide +kernel
theorem dL_law_980 : decode cL_law 980 = .ok (.ireturn, 1) := by decide +kernel
theorem dL_law_981 : decode cL_law 981 = .ok (.aload_n 1, 1) := by decide +kernel
theorem dL_law_982 : decode cL_law 982 = .ok (.aload_n 0, 1) := by decide +kernel
theorem dL_law_983 : decode cL_law 983 = .ok (.iload_n 3, 1) := by decide +kernel
theorem dL_law_984 : decode cL_law 984 = .ok (.iconst 1, 1) := by decide +kernel
theorem dL_law_985 : decode cL_law 985 = .ok (.iadd, 1) := by decide +kernel
theorem dL_law_986 : decode cL_law 986 = .ok (.iaload, 1) := by decide +kernel
theorem dL_law_987 : decode cL_law 987 = .ok (.aload_n 0, 1) := by decide +kernel
theorem dL_law_988 : decode cL_law 988 = .ok (.iload_n 3, 1) := by decide +kernel
theorem dL_law_989 : decode cL_law 989 = .ok (.iconst 2, 1) := by decide +kernel
theorem dL_law_990 : decode cL_law 990 = .ok (.iadd, 1) := by decide +kernel
theorem dL_law_991 : decode cL_law 991 = .ok (.iaload, 1) := by decide +kernel
theorem dL_law_992 : decode cL_law 992 = .ok (.aload_n 0, 1) := by decide +kernel
theorem dL_law_993 : decode cL_law 993 = .ok (.iload_n 3, 1) := by decide +kernel
theorem dL_law_994 : decode cL_law 994 = .ok (.iconst 3, 1) := by decide +kernel
theorem dL_law_995 : decode cL_law 995 = .ok (.iadd, 1) := by decide +kernel
theorem dL_law_996 : decode cL_law 996 = .ok (.iaload, 1) := by decide +kernel
theorem dL_law_997 : decode cL_law 997 = .ok (.invokevirtual 133, 3) := by decide +kernel
theorem dL_law_1000 : decode cL_law 1000 = .ok (.aload_n 2, 1) := by decide +kernel
theorem dL_law_1001 : decode cL_law 1001 = .ok (.aload_n 0, 1) := by decide +kernel
theorem dL_law_1002 : decode cL_law 1002 = .ok (.iload_n 3, 1) := by decide +kernel
theorem dL_law_1003 : decode cL_law 1003 = .ok (.iconst 1, 1) := by decide +kernel
theorem dL_law_1004 : decode cL_law 1004 = .ok (.iadd, 1) := by decide +kernel
theorem dL_law_1005 : decode cL_law 1005 = .ok (.iaload, 1) := by decide +kernel
theorem dL_law_1006 : decode cL_law 1006 = .ok (.aload_n 0, 1) := by decide +kernel
theorem dL_law_1007 : decode cL_law 1007 = .ok (.iload_n 3, 1) := by decide +kernel
theorem dL_law_1008 : decode cL_law 1008 = .ok (.iconst 2, 1) := by decide +kernel
theorem dL_law_1009 : decode cL_law 1009 = .ok (.iadd, 1) := by decide +kernel
theorem dL_law_1010 : decode cL_law 1010 = .ok (.iaload, 1) := by decide +kernel
theorem dL_law_1011 : decode cL_law 1011 = .ok (.aload_n 0, 1) := by decide +kernel
theorem dL_law_1012 : decode cL_law 1012 = .ok (.iload_n 3, 1) := by decide +kernel
theorem dL_law_1013 : decode cL_law 1013 = .ok (.iconst 3, 1) := by decide +kernel
theorem dL_law_1014 : decode cL_law 1014 = .ok (.iadd, 1) := by decide +kernel
theorem dL_law_1015 : decode cL_law 1015 = .ok (.iaload, 1) := by decide +kernel
theorem dL_law_1016 : decode cL_law 1016 = .ok (.invokevirtual 137, 3) := by decide +kernel
theorem dL_law_1019 : decode cL_law 1019 = .ok (.lcmp, 1) := by decide +kernel
theorem dL_law_1020 : decode cL_law 1020 = .ok (.ifCond .eq 477, 3) := by decide +kernel
theorem dL_law_1023 : decode cL_law 1023 = .ok (.iconst 0, 1) := by decide +kernel
theorem dL_law_1024 : decode cL_law 1024 = .ok (.ireturn, 1) := by decide +kernel
theorem dL_law_1025 : decode cL_law 1025 = .ok (.aload_n 1, 1) := by decide +kernel
theorem dL_law_1026 : decode cL_law 1026 = .ok (.aload_n 0, 1) := by decide +kernel
theorem dL_law_1027 : decode cL_law 1027 = .ok (.iload_n 3, 1) := by decide +kernel
theorem dL_law_1028 : decode cL_law 1028 = .ok (.iconst 1, 1) := by decide +kernel
theorem dL_law_1029 : decode cL_law 1029 = .ok (.iadd, 1) := by decide +kernel
theorem dL_law_1030 : decode cL_law 1030 = .ok (.iaload, 1) := by decide +kernel
theorem dL_law_1031 : decode cL_law 1031 = .ok (.invokevirtual 138, 3) := by decide +kernel
theorem dL_law_1034 : decode cL_law 1034 = .ok (.aload_n 2, 1) := by decide +kernel
theorem dL_law_1035 : decode cL_law 1035 = .ok (.aload_n 0, 1) := by decide +kernel
theorem dL_law_1036 : decode cL_law 1036 = .ok (.iload_n 3, 1) := by decide +kernel
theorem dL_law_1037 : decode cL_law 1037 = .ok (.iconst 1, 1) := by decide +kernel
theorem dL_law_1038 : decode cL_law 1038 = .ok (.iadd, 1) := by decide +kernel
theorem dL_law_1039 : decode cL_law 1039 = .ok (.iaload, 1) := by decide +kernel
theorem dL_law_1040 : decode cL_law 1040 = .ok (.invokevirtual 141, 3) := by decide +kernel
theorem dL_law_1043 : decode cL_law 1043 = .ok (.if_icmp .eq 454, 3) := by decide +kernel
theorem dL_law_1046 : decode cL_law 1046 = .ok (.iconst 0, 1) := by decide +kernel
theorem dL_law_1047 : decode cL_law 1047 = .ok (.ireturn, 1) := by decide +kernel
theorem dL_law_1048 : decode cL_law 1048 = .ok (.aload_n 1, 1) := by decide +kernel
theorem dL_law_1049 : decode cL_law 1049 = .ok (.invokevirtual 142, 3) := by decide +kernel
theorem dL_law_1052 : decode cL_law 1052 = .ok (.aload_n 2, 1) := by decide +kernel
theorem dL_law_1053 : decode cL_law 1053 = .ok (.invokevirtual 145, 3) := by decide +kernel
theorem dL_law_1056 : decode cL_law 1056 = .ok (.if_icmp .eq 441, 3) := by decide +kernel
theorem dL_law_1059 : decode cL_law 1059 = .ok (.iconst 0, 1) := by decide +kernel
theorem dL_law_1060 : decode cL_law 1060 = .ok (.ireturn, 1) := by decide +kernel
theorem dL_law_1061 : decode cL_law 1061 = .ok (.aload_n 1, 1) := by decide +kernel
theorem dL_law_1062 : decode cL_law 1062 = .ok (.aload_n 0, 1) := by decide +kernel
theorem dL_law_1063 : decode cL_law 1063 = .ok (.iload_n 3, 1) := by decide +kernel
theorem dL_law_1064 : decode cL_law 1064 = .ok (.iconst 1, 1) := by decide +kernel
theorem dL_law_1065 : decode cL_law 1065 = .ok (.iadd, 1) := by decide +kernel
theorem dL_law_1066 : decode cL_law 1066 = .ok (.iaload, 1) := by decide +kernel
theorem dL_law_1067 : decode cL_law 1067 = .ok (.invokevirtual 146, 3) := by decide +kernel
theorem dL_law_1070 : decode cL_law 1070 = .ok (.aload_n 2, 1) := by decide +kernel
theorem dL_law_1071 : decode cL_law 1071 = .ok (.aload_n 0, 1) := by decide +kernel
theorem dL_law_1072 : decode cL_law 1072 = .ok (.iload_n 3, 1) := by decide +kernel
theorem dL_law_1073 : decode cL_law 1073 = .ok (.iconst 1, 1) := by decide +kernel
theorem dL_law_1074 : decode cL_law 1074 = .ok (.iadd, 1) := by decide +kernel
theorem dL_law_1075 : decode cL_law 1075 = .ok (.iaload, 1) := by decide +kernel
theorem dL_law_1076 : decode cL_law 1076 = .ok (.invokevirtual 149, 3) := by decide +kernel
theorem dL_law_1079 : decode cL_law 1079 = .ok (.if_icmp .eq 418, 3) := by decide +kernel
theorem dL_law_1082 : decode cL_law 1082 = .ok (.iconst 0, 1) := by decide +kernel
theorem dL_law_1083 : decode cL_law 1083 = .ok (.ireturn, 1) := by decide +kernel
theorem dL_law_1084 : decode cL_law 1084 = .ok (.aload_n 1, 1) := by decide +kernel
theorem dL_law_1085 : decode cL_law 1085 = .ok (.invokevirtual 150, 3) := by decide +kernel
theorem dL_law_1088 : decode cL_law 1088 = .ok (.aload_n 2, 1) := by decide +kernel
theorem dL_law_1089 : decode cL_law 1089 = .ok (.invokevirtual 153, 3) := by decide +kernel
theorem dL_law_1092 : decode cL_law 1092 = .ok (.if_icmp .eq 405, 3) := by decide +kernel
theorem dL_law_1095 : decode cL_law 1095 = .ok (.iconst 0, 1) := by decide +kernel
theorem dL_law_1096 : decode cL_law 1096 = .ok (.ireturn, 1) := by decide +kernel
theorem dL_law_1097 : decode cL_law 1097 = .ok (.aload_n 1, 1) := by decide +kernel
theorem dL_law_1098 : decode cL_law 1098 = .ok (.invokevirtual 154, 3) := by decide +kernel
theorem dL_law_1101 : decode cL_law 1101 = .ok (.aload_n 2, 1) := by decide +kernel
theorem dL_law_1102 : decode cL_law 1102 = .ok (.invokevirtual 157, 3) := by decide +kernel
theorem dL_law_1105 : decode cL_law 1105 = .ok (.if_icmp .eq 392, 3) := by decide +kernel
theorem dL_law_1108 : decode cL_law 1108 = .ok (.iconst 0, 1) := by decide +kernel
theorem dL_law_1109 : decode cL_law 1109 = .ok (.ireturn, 1) := by decide +kernel
theorem dL_law_1110 : decode cL_law 1110 = .ok (.aload_n 1, 1) := by decide +kernel
theorem dL_law_1111 : decode cL_law 1111 = .ok (.aload_n 0, 1) := by decide +kernel
theorem dL_law_1112 : decode cL_law 1112 = .ok (.iload_n 3, 1) := by decide +kernel
theorem dL_law_1113 : decode cL_law 1113 = .ok (.iconst 1, 1) := by decide +kernel
theorem dL_law_1114 : decode cL_law 1114 = .ok (.iadd, 1) := by decide +kernel
theorem dL_law_1115 : decode cL_law 1115 = .ok (.iaload, 1) := by decide +kernel
theorem dL_law_1116 : decode cL_law 1116 = .ok (.aload_n 0, 1) := by decide +kernel
theorem dL_law_1117 : decode cL_law 1117 = .ok (.iload_n 3, 1) := by decide +kernel
theorem dL_law_1118 : decode cL_law 1118 = .ok (.iconst 2, 1) := by decide +kernel
theorem dL_law_1119 : decode cL_law 1119 = .ok (.iadd, 1) := by decide +kernel
theorem dL_law_1120 : decode cL_law 1120 = .ok (.iaload, 1) := by decide +kernel
theorem dL_law_1121 : decode cL_law 1121 = .ok (.aload_n 0, 1) := by decide +kernel
theorem dL_law_1122 : decode cL_law 1122 = .ok (.iload_n 3, 1) := by decide +kernel
theorem dL_law_1123 : decode cL_law 1123 = .ok (.iconst 3, 1) := by decide +kernel
theorem dL_law_1124 : decode cL_law 1124 = .ok (.iadd, 1) := by decide +kernel
theorem dL_law_1125 : decode cL_law 1125 = .ok (.iaload, 1) := by decide +kernel
theorem dL_law_1126 : decode cL_law 1126 = .ok (.invokevirtual 158, 3) := by decide +kernel
theorem dL_law_1129 : decode cL_law 1129 = .ok (.aload_n 2, 1) := by decide +kernel
theorem dL_law_1130 : decode cL_law 1130 = .ok (.aload_n 0, 1) := by decide +kernel
theorem dL_law_1131 : decode cL_law 1131 = .ok (.iload_n 3, 1) := by decide +kernel
theorem dL_law_1132 : decode cL_law 1132 = .ok (.iconst 1, 1) := by decide +kernel
theorem dL_law_1133 : decode cL_law 1133 = .ok (.iadd, 1) := by decide +kernel
theorem dL_law_1134 : decode cL_law 1134 = .ok (.iaload, 1) := by decide +kernel
theorem dL_law_1135 : decode cL_law 1135 = .ok (.aload_n 0, 1) := by decide +kernel
theorem dL_law_1136 : decode cL_law 1136 = .ok (.iload_n 3, 1) := by decide +kernel
theorem dL_law_1137 : decode cL_law 1137 = .ok (.iconst 2, 1) := by decide +kernel
theorem dL_law_1138 : decode cL_law 1138 = .ok (.iadd, 1) := by decide +kernel
theorem dL_law_1139 : decode cL_law 1139 = .ok (.iaload, 1) := by decide +kernel
theorem dL_law_1140 : decode cL_law 1140 = .ok (.aload_n 0, 1) := by decide +kernel
theorem dL_law_1141 : decode cL_law 1141 = .ok (.iload_n 3, 1) := by decide +kernel
theorem dL_law_1142 : decode cL_law 1142 = .ok (.iconst 3, 1) := by decide +kernel
theorem dL_law_1143 : decode cL_law 1143 = .ok (.iadd, 1) := by decide +kernel
theorem dL_law_1144 : decode cL_law 1144 = .ok (.iaload, 1) := by decide +kernel
theorem dL_law_1145 : decode cL_law 1145 = .ok (.invokevirtual 161, 3) := by decide +kernel
theorem dL_law_1148 : decode cL_law 1148 = .ok (.if_icmp .eq 349, 3) := by decide +kernel
theorem dL_law_1151 : decode cL_law 1151 = .ok (.iconst 0, 1) := by decide +kernel
theorem dL_law_1152 : decode cL_law 1152 = .ok (.ireturn, 1) := by decide +kernel
theorem dL_law_1153 : decode cL_law 1153 = .ok (.aload_n 1, 1) := by decide +kernel
theorem dL_law_1154 : decode cL_law 1154 = .ok (.invokevirtual 162, 3) := by decide +kernel
theorem dL_law_1157 : decode cL_law 1157 = .ok (.aload_n 2, 1) := by decide +kernel
theorem dL_law_1158 : decode cL_law 1158 = .ok (.invokevirtual 165, 3) := by decide +kernel
theorem dL_law_1161 : decode cL_law 1161 = .ok (.if_icmp .eq 336, 3) := by decide +kernel
theorem dL_law_1164 : decode cL_law 1164 = .ok (.iconst 0, 1) := by decide +kernel
theorem dL_law_1165 : decode cL_law 1165 = .ok (.ireturn, 1) := by decide +kernel
theorem dL_law_1166 : decode cL_law 1166 = .ok (.aload_n 1, 1) := by decide +kernel
theorem dL_law_1167 : decode cL_law 1167 = .ok (.invokevirtual 166, 3) := by decide +kernel
theorem dL_law_1170 : decode cL_law 1170 = .ok (.aload_n 2, 1) := by decide +kernel
theorem dL_law_1171 : decode cL_law 1171 = .ok (.invokevirtual 169, 3) := by decide +kernel
theorem dL_law_1174 : decode cL_law 1174 = .ok (.if_icmp .eq 323, 3) := by decide +kernel
theorem dL_law_1177 : decode cL_law 1177 = .ok (.iconst 0, 1) := by decide +kernel
theorem dL_law_1178 : decode cL_law 1178 = .ok (.ireturn, 1) := by decide +kernel
theorem dL_law_1179 : decode cL_law 1179 = .ok (.aload_n 1, 1) := by decide +kernel
theorem dL_law_1180 : decode cL_law 1180 = .ok (.aload_n 0, 1) := by decide +kernel
theorem dL_law_1181 : decode cL_law 1181 = .ok (.iload_n 3, 1) := by decide +kernel
theorem dL_law_1182 : decode cL_law 1182 = .ok (.iconst 1, 1) := by decide +kernel
theorem dL_law_1183 : decode cL_law 1183 = .ok (.iadd, 1) := by decide +kernel
theorem dL_law_1184 : decode cL_law 1184 = .ok (.iaload, 1) := by decide +kernel
theorem dL_law_1185 : decode cL_law 1185 = .ok (.invokevirtual 170, 3) := by decide +kernel
theorem dL_law_1188 : decode cL_law 1188 = .ok (.aload_n 2, 1) := by decide +kernel
theorem dL_law_1189 : decode cL_law 1189 = .ok (.aload_n 0, 1) := by decide +kernel
theorem dL_law_1190 : decode cL_law 1190 = .ok (.iload_n 3, 1) := by decide +kernel
theorem dL_law_1191 : decode cL_law 1191 = .ok (.iconst 1, 1) := by decide +kernel
theorem dL_law_1192 : decode cL_law 1192 = .ok (.iadd, 1) := by decide +kernel
theorem dL_law_1193 : decode cL_law 1193 = .ok (.iaload, 1) := by decide +kernel
theorem dL_law_1194 : decode cL_law 1194 = .ok (.invokevirtual 173, 3) := by decide +kernel
theorem dL_law_1197 : decode cL_law 1197 = .ok (.if_icmp .eq 300, 3) := by decide +kernel
theorem dL_law_1200 : decode cL_law 1200 = .ok (.iconst 0, 1) := by decide +kernel
theorem dL_law_1201 : decode cL_law 1201 = .ok (.ireturn, 1) := by decide +kernel
theorem dL_law_1202 : decode cL_law 1202 = .ok (.aload_n 1, 1) := by decide +kernel
theorem dL_law_1203 : decode cL_law 1203 = .ok (.aload_n 0, 1) := by decide +kernel
theorem dL_law_1204 : decode cL_law 1204 = .ok (.iload_n 3, 1) := by decide +kernel
theorem dL_law_1205 : decode cL_law 1205 = .ok (.iconst 1, 1) := by decide +kernel
theorem dL_law_1206 : decode cL_law 1206 = .ok (.iadd, 1) := by decide +kernel
theorem dL_law_1207 : decode cL_law 1207 = .ok (.iaload, 1) := by decide +kernel
theorem dL_law_1208 : decode cL_law 1208 = .ok (.invokevirtual 174, 3) := by decide +kernel
theorem dL_law_1211 : decode cL_law 1211 = .ok (.aload_n 2, 1) := by decide +kernel
theorem dL_law_1212 : decode cL_law 1212 = .ok (.aload_n 0, 1) := by decide +kernel
theorem dL_law_1213 : decode cL_law 1213 = .ok (.iload_n 3, 1) := by decide +kernel
theorem dL_law_1214 : decode cL_law 1214 = .ok (.iconst 1, 1) := by decide +kernel
theorem dL_law_1215 : decode cL_law 1215 = .ok (.iadd, 1) := by decide +kernel
theorem dL_law_1216 : decode cL_law 1216 = .ok (.iaload, 1) := by decide +kernel
theorem dL_law_1217 : decode cL_law 1217 = .ok (.invokevirtual 177, 3) := by decide +kernel
theorem dL_law_1220 : decode cL_law 1220 = .ok (.if_icmp .eq 277, 3) := by decide +kernel
theorem dL_law_1223 : decode cL_law 1223 = .ok (.iconst 0, 1) := by decide +kernel
theorem dL_law_1224 : decode cL_law 1224 = .ok (.ireturn, 1) := by decide +kernel
theorem dL_law_1225 : decode cL_law 1225 = .ok (.aload_n 1, 1) := by decide +kernel
theorem dL_law_1226 : decode cL_law 1226 = .ok (.aload_n 0, 1) := by decide +kernel
theorem dL_law_1227 : decode cL_law 1227 = .ok (.iload_n 3, 1) := by decide +kernel
theorem dL_law_1228 : decode cL_law 1228 = .ok (.iconst 1, 1) := by decide +kernel
theorem dL_law_1229 : decode cL_law 1229 = .ok (.iadd, 1) := by decide +kernel
theorem dL_law_1230 : decode cL_law 1230 = .ok (.iaload, 1) := by decide +kernel
theorem dL_law_1231 : decode cL_law 1231 = .ok (.invokevirtual 178, 3) := by decide +kernel
theorem dL_law_1234 : decode cL_law 1234 = .ok (.aload_n 2, 1) := by decide +kernel
theorem dL_law_1235 : decode cL_law 1235 = .ok (.aload_n 0, 1) := by decide +kernel
theorem dL_law_1236 : decode cL_law 1236 = .ok (.iload_n 3, 1) := by decide +kernel
theorem dL_law_1237 : decode cL_law 1237 = .ok (.iconst 1, 1) := by decide +kernel
theorem dL_law_1238 : decode cL_law 1238 = .ok (.iadd, 1) := by decide +kernel
theorem dL_law_1239 : decode cL_law 1239 = .ok (.iaload, 1) := by decide +kernel
theorem dL_law_1240 : decode cL_law 1240 = .ok (.invokevirtual 181, 3) := by decide +kernel
theorem dL_law_1243 : decode cL_law 1243 = .ok (.if_icmp .eq 254, 3) := by decide +kernel
theorem dL_law_1246 : decode cL_law 1246 = .ok (.iconst 0, 1) := by decide +kernel
theorem dL_law_1247 : decode cL_law 1247 = .ok (.ireturn, 1) := by decide +kernel
theorem dL_law_1248 : decode cL_law 1248 = .ok (.aload_n 1, 1) := by decide +kernel
theorem dL_law_1249 : decode cL_law 1249 = .ok (.aload_n 0, 1) := by decide +kernel
theorem dL_law_1250 : decode cL_law 1250 = .ok (.iload_n 3, 1) := by decide +kernel
theorem dL_law_1251 : decode cL_law 1251 = .ok (.iconst 1, 1) := by decide +kernel
theorem dL_law_1252 : decode cL_law 1252 = .ok (.iadd, 1) := by decide +kernel
theorem dL_law_1253 : decode cL_law 1253 = .ok (.iaload, 1) := by decide +kernel
theorem dL_law_1254 : decode cL_law 1254 = .ok (.invokevirtual 182, 3) := by decide +kernel
theorem dL_law_1257 : decode cL_law 1257 = .ok (.aload_n 2, 1) := by decide +kernel
theorem dL_law_1258 : decode cL_law 1258 = .ok (.aload_n 0, 1) := by decide +kernel
theorem dL_law_1259 : decode cL_law 1259 = .ok (.iload_n 3, 1) := by decide +kernel
theorem dL_law_1260 : decode cL_law 1260 = .ok (.iconst 1, 1) := by decide +kernel
theorem dL_law_1261 : decode cL_law 1261 = .ok (.iadd, 1) := by decide +kernel
theorem dL_law_1262 : decode cL_law 1262 = .ok (.iaload, 1) := by decide +kernel
theorem dL_law_1263 : decode cL_law 1263 = .ok (.invokevirtual 185, 3) := by decide +kernel
theorem dL_law_1266 : decode cL_law 1266 = .ok (.if_icmp .eq 231, 3) := by decide +kernel
theorem dL_law_1269 : decode cL_law 1269 = .ok (.iconst 0, 1) := by decide +kernel
theorem dL_law_1270 : decode cL_law 1270 = .ok (.ireturn, 1) := by decide +kernel
theorem dL_law_1271 : decode cL_law 1271 = .ok (.aload_n 1, 1) := by decide +kernel
theorem dL_law_1272 : decode cL_law 1272 = .ok (.invokevirtual 186, 3) := by decide +kernel
theorem dL_law_1275 : decode cL_law 1275 = .ok (.aload_n 2, 1) := by decide +kernel
theorem dL_law_1276 : decode cL_law 1276 = .ok (.invokevirtual 189, 3) := by decide +kernel
theorem dL_law_1279 : decode cL_law 1279 = .ok (.if_icmp .eq 218, 3) := by decide +kernel
theorem dL_law_1282 : decode cL_law 1282 = .ok (.iconst 0, 1) := by decide +kernel
theorem dL_law_1283 : decode cL_law 1283 = .ok (.ireturn, 1) := by decide +kernel
theorem dL_law_1284 : decode cL_law 1284 = .ok (.aload_n 1, 1) := by decide +kernel
theorem dL_law_1285 : decode cL_law 1285 = .ok (.invokevirtual 190, 3) := by decide +kernel
theorem dL_law_1288 : decode cL_law 1288 = .ok (.aload_n 2, 1) := by decide +kernel
theorem dL_law_1289 : decode cL_law 1289 = .ok (.invokevirtual 193, 3) := by decide +kernel
theorem dL_law_1292 : decode cL_law 1292 = .ok (.if_icmp .eq 205, 3) := by decide +kernel
theorem dL_law_1295 : decode cL_law 1295 = .ok (.iconst 0, 1) := by decide +kernel
theorem dL_law_1296 : decode cL_law 1296 = .ok (.ireturn, 1) := by decide +kernel
theorem dL_law_1297 : decode cL_law 1297 = .ok (.aload_n 1, 1) := by decide +kernel
theorem dL_law_1298 : decode cL_law 1298 = .ok (.aload_n 0, 1) := by decide +kernel
theorem dL_law_1299 : decode cL_law 1299 = .ok (.iload_n 3, 1) := by decide +kernel
theorem dL_law_1300 : decode cL_law 1300 = .ok (.iconst 1, 1) := by decide +kernel
theorem dL_law_1301 : decode cL_law 1301 = .ok (.iadd, 1) := by decide +kernel
theorem dL_law_1302 : decode cL_law 1302 = .ok (.iaload, 1) := by decide +kernel
theorem dL_law_1303 : decode cL_law 1303 = .ok (.invokevirtual 194, 3) := by decide +kernel
theorem dL_law_1306 : decode cL_law 1306 = .ok (.aload_n 2, 1) := by decide +kernel
theorem dL_law_1307 : decode cL_law 1307 = .ok (.aload_n 0, 1) := by decide +kernel
theorem dL_law_1308 : decode cL_law 1308 = .ok (.iload_n 3, 1) := by decide +kernel
theorem dL_law_1309 : decode cL_law 1309 = .ok (.iconst 1, 1) := by decide +kernel
theorem dL_law_1310 : decode cL_law 1310 = .ok (.iadd, 1) := by decide +kernel
theorem dL_law_1311 : decode cL_law 1311 = .ok (.iaload, 1) := by decide +kernel
theorem dL_law_1312 : decode cL_law 1312 = .ok (.invokevirtual 197, 3) := by decide +kernel
theorem dL_law_1315 : decode cL_law 1315 = .ok (.if_icmp .eq 182, 3) := by decide +kernel
theorem dL_law_1318 : decode cL_law 1318 = .ok (.iconst 0, 1) := by decide +kernel
theorem dL_law_1319 : decode cL_law 1319 = .ok (.ireturn, 1) := by decide +kernel
theorem dL_law_1320 : decode cL_law 1320 = .ok (.aload_n 1, 1) := by decide +kernel
theorem dL_law_1321 : decode cL_law 1321 = .ok (.aload_n 0, 1) := by decide +kernel
theorem dL_law_1322 : decode cL_law 1322 = .ok (.iload_n 3, 1) := by decide +kernel
theorem dL_law_1323 : decode cL_law 1323 = .ok (.iconst 1, 1) := by decide +kernel
theorem dL_law_1324 : decode cL_law 1324 = .ok (.iadd, 1) := by decide +kernel
theorem dL_law_1325 : decode cL_law 1325 = .ok (.iaload, 1) := by decide +kernel
theorem dL_law_1326 : decode cL_law 1326 = .ok (.invokevirtual 198, 3) := by decide +kernel
theorem dL_law_1329 : decode cL_law 1329 = .ok (.aload_n 2, 1) := by decide +kernel
theorem dL_law_1330 : decode cL_law 1330 = .ok (.aload_n 0, 1) := by decide +kernel
theorem dL_law_1331 : decode cL_law 1331 = .ok (.iload_n 3, 1) := by decide +kernel
theorem dL_law_1332 : decode cL_law 1332 = .ok (.iconst 1, 1) := by decide +kernel
theorem dL_law_1333 : decode cL_law 1333 = .ok (.iadd, 1) := by decide +kernel
theorem dL_law_1334 : decode cL_law 1334 = .ok (.iaload, 1) := by decide +kernel
theorem dL_law_1335 : decode cL_law 1335 = .ok (.invokevirtual 201, 3) := by decide +kernel
theorem dL_law_1338 : decode cL_law 1338 = .ok (.if_icmp .eq 159, 3) := by decide +kernel
theorem dL_law_1341 : decode cL_law 1341 = .ok (.iconst 0, 1) := by decide +kernel
theorem dL_law_1342 : decode cL_law 1342 = .ok (.ireturn, 1) := by decide +kernel
theorem dL_law_1343 : decode cL_law 1343 = .ok (.aload_n 1, 1) := by decide +kernel
theorem dL_law_1344 : decode cL_law 1344 = .ok (.invokevirtual 202, 3) := by decide +kernel
theorem dL_law_1347 : decode cL_law 1347 = .ok (.aload_n 2, 1) := by decide +kernel
theorem dL_law_1348 : decode cL_law 1348 = .ok (.invokevirtual 205, 3) := by decide +kernel
theorem dL_law_1351 : decode cL_law 1351 = .ok (.if_icmp .eq 146, 3) := by decide +kernel
theorem dL_law_1354 : decode cL_law 1354 = .ok (.iconst 0, 1) := by decide +kernel
theorem dL_law_1355 : decode cL_law 1355 = .ok (.ireturn, 1) := by decide +kernel
theorem dL_law_1356 : decode cL_law 1356 = .ok (.aload_n 1, 1) := by decide +kernel
theorem dL_law_1357 : decode cL_law 1357 = .ok (.aload_n 0, 1) := by decide +kernel
theorem dL_law_1358 : decode cL_law 1358 = .ok (.iload_n 3, 1) := by decide +kernel
theorem dL_law_1359 : decode cL_law 1359 = .ok (.iconst 1, 1) := by decide +kernel
theorem dL_law_1360 : decode cL_law 1360 = .ok (.iadd, 1) := by decide +kernel
theorem dL_law_1361 : decode cL_law 1361 = .ok (.iaload, 1) := by decide +kernel
theorem dL_law_1362 : decode cL_law 1362 = .ok (.invokevirtual 206, 3) := by decide +kernel
theorem dL_law_1365 : decode cL_law 1365 = .ok (.aload_n 2, 1) := by decide +kernel
theorem dL_law_1366 : decode cL_law 1366 = .ok (.aload_n 0, 1) := by decide +kernel
theorem dL_law_1367 : decode cL_law 1367 = .ok (.iload_n 3, 1) := by decide +kernel
theorem dL_law_1368 : decode cL_law 1368 = .ok (.iconst 1, 1) := by decide +kernel
theorem dL_law_1369 : decode cL_law 1369 = .ok (.iadd, 1) := by decide +kernel
theorem dL_law_1370 : decode cL_law 1370 = .ok (.iaload, 1) := by decide +kernel
theorem dL_law_1371 : decode cL_law 1371 = .ok (.invokevirtual 209, 3) := by decide +kernel
theorem dL_law_1374 : decode cL_law 1374 = .ok (.if_icmp .eq 123, 3) := by decide +kernel
theorem dL_law_1377 : decode cL_law 1377 = .ok (.iconst 0, 1) := by decide +kernel
theorem dL_law_1378 : decode cL_law 1378 = .ok (.ireturn, 1) := by decide +kernel
theorem dL_law_1379 : decode cL_law 1379 = .ok (.aload_n 1, 1) := by decide +kernel
theorem dL_law_1380 : decode cL_law 1380 = .ok (.aload_n 0, 1) := by decide +kernel
theorem dL_law_1381 : decode cL_law 1381 = .ok (.iload_n 3, 1) := by decide +kernel
theorem dL_law_1382 : decode cL_law 1382 = .ok (.iconst 1, 1) := by decide +kernel
theorem dL_law_1383 : decode cL_law 1383 = .ok (.iadd, 1) := by decide +kernel
theorem dL_law_1384 : decode cL_law 1384 = .ok (.iaload, 1) := by decide +kernel
theorem dL_law_1385 : decode cL_law 1385 = .ok (.invokevirtual 210, 3) := by decide +kernel
theorem dL_law_1388 : decode cL_law 1388 = .ok (.aload_n 2, 1) := by decide +kernel
theorem dL_law_1389 : decode cL_law 1389 = .ok (.aload_n 0, 1) := by decide +kernel
theorem dL_law_1390 : decode cL_law 1390 = .ok (.iload_n 3, 1) := by decide +kernel
theorem dL_law_1391 : decode cL_law 1391 = .ok (.iconst 1, 1) := by decide +kernel
theorem dL_law_1392 : decode cL_law 1392 = .ok (.iadd, 1) := by decide +kernel
theorem dL_law_1393 : decode cL_law 1393 = .ok (.iaload, 1) := by decide +kernel
theorem dL_law_1394 : decode cL_law 1394 = .ok (.invokevirtual 213, 3) := by decide +kernel
theorem dL_law_1397 : decode cL_law 1397 = .ok (.if_icmp .eq 100, 3) := by decide +kernel
theorem dL_law_1400 : decode cL_law 1400 = .ok (.iconst 0, 1) := by decide +kernel
theorem dL_law_1401 : decode cL_law 1401 = .ok (.ireturn, 1) := by decide +kernel
theorem dL_law_1402 : decode cL_law 1402 = .ok (.aload_n 1, 1) := by decide +kernel
theorem dL_law_1403 : decode cL_law 1403 = .ok (.aload_n 0, 1) := by decide +kernel
theorem dL_law_1404 : decode cL_law 1404 = .ok (.iload_n 3, 1) := by decide +kernel
theorem dL_law_1405 : decode cL_law 1405 = .ok (.iconst 1, 1) := by decide +kernel
theorem dL_law_1406 : decode cL_law 1406 = .ok (.iadd, 1) := by decide +kernel
theorem dL_law_1407 : decode cL_law 1407 = .ok (.iaload, 1) := by decide +kernel
theorem dL_law_1408 : decode cL_law 1408 = .ok (.invokevirtual 214, 3) := by decide +kernel
theorem dL_law_1411 : decode cL_law 1411 = .ok (.aload_n 2, 1) := by decide +kernel
theorem dL_law_1412 : decode cL_law 1412 = .ok (.aload_n 0, 1) := by decide +kernel
theorem dL_law_1413 : decode cL_law 1413 = .ok (.iload_n 3, 1) := by decide +kernel
theorem dL_law_1414 : decode cL_law 1414 = .ok (.iconst 1, 1) := by decide +kernel
theorem dL_law_1415 : decode cL_law 1415 = .ok (.iadd, 1) := by decide +kernel
theorem dL_law_1416 : decode cL_law 1416 = .ok (.iaload, 1) := by decide +kernel
theorem dL_law_1417 : decode cL_law 1417 = .ok (.invokevirtual 217, 3) := by decide +kernel
theorem dL_law_1420 : decode cL_law 1420 = .ok (.if_icmp .eq 77, 3) := by decide +kernel
theorem dL_law_1423 : decode cL_law 1423 = .ok (.iconst 0, 1) := by decide +kernel
theorem dL_law_1424 : decode cL_law 1424 = .ok (.ireturn, 1) := by decide +kernel
theorem dL_law_1425 : decode cL_law 1425 = .ok (.aload_n 1, 1) := by decide +kernel
theorem dL_law_1426 : decode cL_law 1426 = .ok (.aload_n 0, 1) := by decide +kernel
theorem dL_law_1427 : decode cL_law 1427 = .ok (.iload_n 3, 1) := by decide +kernel
theorem dL_law_1428 : decode cL_law 1428 = .ok (.iconst 1, 1) := by decide +kernel
theorem dL_law_1429 : decode cL_law 1429 = .ok (.iadd, 1) := by decide +kernel
theorem dL_law_1430 : decode cL_law 1430 = .ok (.iaload, 1) := by decide +kernel
theorem dL_law_1431 : decode cL_law 1431 = .ok (.invokevirtual 218, 3) := by decide +kernel
theorem dL_law_1434 : decode cL_law 1434 = .ok (.aload_n 2, 1) := by decide +kernel
theorem dL_law_1435 : decode cL_law 1435 = .ok (.aload_n 0, 1) := by decide +kernel
theorem dL_law_1436 : decode cL_law 1436 = .ok (.iload_n 3, 1) := by decide +kernel
theorem dL_law_1437 : decode cL_law 1437 = .ok (.iconst 1, 1) := by decide +kernel
theorem dL_law_1438 : decode cL_law 1438 = .ok (.iadd, 1) := by decide +kernel
theorem dL_law_1439 : decode cL_law 1439 = .ok (.iaload, 1) := by decide +kernel
theorem dL_law_1440 : decode cL_law 1440 = .ok (.invokevirtual 221, 3) := by decide +kernel
theorem dL_law_1443 : decode cL_law 1443 = .ok (.if_icmp .eq 54, 3) := by decide +kernel
theorem dL_law_1446 : decode cL_law 1446 = .ok (.iconst 0, 1) := by decide +kernel
theorem dL_law_1447 : decode cL_law 1447 = .ok (.ireturn, 1) := by decide +kernel
theorem dL_law_1448 : decode cL_law 1448 = .ok (.aload_n 1, 1) := by decide +kernel
theorem dL_law_1449 : decode cL_law 1449 = .ok (.invokevirtual 222, 3) := by decide +kernel
theorem dL_law_1452 : decode cL_law 1452 = .ok (.aload_n 2, 1) := by decide +kernel
theorem dL_law_1453 : decode cL_law 1453 = .ok (.invokevirtual 225, 3) := by decide +kernel
theorem dL_law_1456 : decode cL_law 1456 = .ok (.if_icmp .eq 41, 3) := by decide +kernel
theorem dL_law_1459 : decode cL_law 1459 = .ok (.iconst 0, 1) := by decide +kernel
theorem dL_law_1460 : decode cL_law 1460 = .ok (.ireturn, 1) := by decide +kernel
theorem dL_law_1461 : decode cL_law 1461 = .ok (.aload_n 1, 1) := by decide +kernel
theorem dL_law_1462 : decode cL_law 1462 = .ok (.invokevirtual 226, 3) := by decide +kernel
theorem dL_law_1465 : decode cL_law 1465 = .ok (.aload_n 2, 1) := by decide +kernel
theorem dL_law_1466 : decode cL_law 1466 = .ok (.invokevirtual 229, 3) := by decide +kernel
theorem dL_law_1469 : decode cL_law 1469 = .ok (.if_icmp .eq 28, 3) := by decide +kernel
theorem dL_law_1472 : decode cL_law 1472 = .ok (.iconst 0, 1) := by decide +kernel
theorem dL_law_1473 : decode cL_law 1473 = .ok (.ireturn, 1) := by decide +kernel
theorem dL_law_1474 : decode cL_law 1474 = .ok (.aload_n 1, 1) := by decide +kernel
theorem dL_law_1475 : decode cL_law 1475 = .ok (.aload_n 0, 1) := by decide +kernel
theorem dL_law_1476 : decode cL_law 1476 = .ok (.iload_n 3, 1) := by decide +kernel
theorem dL_law_1477 : decode cL_law 1477 = .ok (.iconst 1, 1) := by decide +kernel
theorem dL_law_1478 : decode cL_law 1478 = .ok (.iadd, 1) := by decide +kernel
theorem dL_law_1479 : decode cL_law 1479 = .ok (.iaload, 1) := by decide +kernel
theorem dL_law_1480 : decode cL_law 1480 = .ok (.invokevirtual 230, 3) := by decide +kernel
theorem dL_law_1483 : decode cL_law 1483 = .ok (.aload_n 2, 1) := by decide +kernel
theorem dL_law_1484 : decode cL_law 1484 = .ok (.aload_n 0, 1) := by decide +kernel
theorem dL_law_1485 : decode cL_law 1485 = .ok (.iload_n 3, 1) := by decide +kernel
theorem dL_law_1486 : decode cL_law 1486 = .ok (.iconst 1, 1) := by decide +kernel
theorem dL_law_1487 : decode cL_law 1487 = .ok (.iadd, 1) := by decide +kernel
theorem dL_law_1488 : decode cL_law 1488 = .ok (.iaload, 1) := by decide +kernel
theorem dL_law_1489 : decode cL_law 1489 = .ok (.invokevirtual 233, 3) := by decide +kernel
theorem dL_law_1492 : decode cL_law 1492 = .ok (.if_icmp .eq 5, 3) := by decide +kernel
theorem dL_law_1495 : decode cL_law 1495 = .ok (.iconst 0, 1) := by decide +kernel
theorem dL_law_1496 : decode cL_law 1496 = .ok (.ireturn, 1) := by decide +kernel
theorem dL_law_1497 : decode cL_law 1497 = .ok (.iinc 3 4, 3) := by decide +kernel
theorem dL_law_1500 : decode cL_law 1500 = .ok (.goto (-1482), 3) := by decide +kernel
theorem dL_law_1503 : decode cL_law 1503 = .ok (.iconst 1, 1) := by decide +kernel
theorem dL_law_1504 : decode cL_law 1504 = .ok (.ireturn, 1) := by decide +kernel
