theorem dX12_init_0 : decode cX12_init 0 = .ok (.aload_n 0, 1) := by decide +kernel
theorem dX12_init_1 : decode cX12_init 1 = .ok (.invokespecial 1, 3) := by decide +kernel
theorem dX12_init_4 : decode cX12_init 4 = .ok (.aload_n 0, 1) := by decide +kernel
theorem dX12_init_5 : decode cX12_init 5 = .ok (.sipush 2380, 3) := by decide +kernel
theorem dX12_init_8 : decode cX12_init 8 = .ok (.newarray .int, 2) := by decide +kernel
theorem dX12_init_10 : decode cX12_init 10 = .ok (.putfield 9, 3) := by decide +kernel
theorem dX12_init_13 : decode cX12_init 13 = .ok (.aload_n 0, 1) := by decide +kernel
theorem dX12_init_14 : decode cX12_init 14 = .ok (.sipush 2380, 3) := by decide +kernel
theorem dX12_init_17 : decode cX12_init 17 = .ok (.newarray .int, 2) := by decide +kernel
theorem dX12_init_19 : decode cX12_init 19 = .ok (.putfield 13, 3) := by decide +kernel
theorem dX12_init_22 : decode cX12_init 22 = .ok (.aload_n 0, 1) := by decide +kernel
theorem dX12_init_23 : decode cX12_init 23 = .ok (.sipush 7140, 3) := by decide +kernel
theorem dX12_init_26 : decode cX12_init 26 = .ok (.newarray .int, 2) := by decide +kernel
theorem dX12_init_28 : decode cX12_init 28 = .ok (.putfield 16, 3) := by decide +kernel
theorem dX12_init_31 : decode cX12_init 31 = .ok (.aload_n 0, 1) := by decide +kernel
theorem dX12_init_32 : decode cX12_init 32 = .ok (.iconst 3, 1) := by decide +kernel
theorem dX12_init_33 : decode cX12_init 33 = .ok (.newarray .boolean, 2) := by decide +kernel
theorem dX12_init_35 : decode cX12_init 35 = .ok (.putfield 19, 3) := by decide +kernel
theorem dX12_init_38 : decode cX12_init 38 = .ok (.aload_n 0, 1) := by decide +kernel
theorem dX12_init_39 : decode cX12_init 39 = .ok (.sipush 900, 3) := by decide +kernel
theorem dX12_init_42 : decode cX12_init 42 = .ok (.newarray .int, 2) := by decide +kernel
theorem dX12_init_44 : decode cX12_init 44 = .ok (.putfield 23, 3) := by decide +kernel
theorem dX12_init_47 : decode cX12_init 47 = .ok (.aload_n 0, 1) := by decide +kernel
theorem dX12_init_48 : decode cX12_init 48 = .ok (.iconst (-1), 1) := by decide +kernel
theorem dX12_init_49 : decode cX12_init 49 = .ok (.putfield 26, 3) := by decide +kernel
theorem dX12_init_52 : decode cX12_init 52 = .ok (.aload_n 0, 1) := by decide +kernel
theorem dX12_init_53 : decode cX12_init 53 = .ok (.bipush 64, 2) := by decide +kernel
theorem dX12_init_55 : decode cX12_init 55 = .ok (.newarray .int, 2) := by decide +kernel
theorem dX12_init_57 : decode cX12_init 57 = .ok (.putfield 30, 3) := by decide +kernel
theorem dX12_init_60 : decode cX12_init 60 = .ok (.aload_n 0, 1) := by decide +kernel
theorem dX12_init_61 : decode cX12_init 61 = .ok (.bipush 7, 2) := by decide +kernel
theorem dX12_init_63 : decode cX12_init 63 = .ok (.newarray .int, 2) := by decide +kernel
theorem dX12_init_65 : decode cX12_init 65 = .ok (.putfield 33, 3) := by decide +kernel
theorem dX12_init_68 : decode cX12_init 68 = .ok (.aload_n 0, 1) := by decide +kernel
theorem dX12_init_69 : decode cX12_init 69 = .ok (.sipush 2400, 3) := by decide +kernel
theorem dX12_init_72 : decode cX12_init 72 = .ok (.newarray .int, 2) := by decide +kernel
theorem dX12_init_74 : decode cX12_init 74 = .ok (.putfield 36, 3) := by decide +kernel
theorem dX12_init_77 : decode cX12_init 77 = .ok (.aload_n 0, 1) := by decide +kernel
theorem dX12_init_78 : decode cX12_init 78 = .ok (.sipush 1024, 3) := by decide +kernel
theorem dX12_init_81 : decode cX12_init 81 = .ok (.newarray .int, 2) := by decide +kernel
theorem dX12_init_83 : decode cX12_init 83 = .ok (.putfield 39, 3) := by decide +kernel
theorem dX12_init_86 : decode cX12_init 86 = .ok (.aload_n 0, 1) := by decide +kernel
theorem dX12_init_87 : decode cX12_init 87 = .ok (.sipush 4096, 3) := by decide +kernel
theorem dX12_init_90 : decode cX12_init 90 = .ok (.newarray .int, 2) := by decide +kernel
theorem dX12_init_92 : decode cX12_init 92 = .ok (.putfield 42, 3) := by decide +kernel
theorem dX12_init_95 : decode cX12_init 95 = .ok (.aload_n 0, 1) := by decide +kernel
theorem dX12_init_96 : decode cX12_init 96 = .ok (.sipush 4096, 3) := by decide +kernel
theorem dX12_init_99 : decode cX12_init 99 = .ok (.newarray .boolean, 2) := by decide +kernel
theorem dX12_init_101 : decode cX12_init 101 = .ok (.putfield 45, 3) := by decide +kernel
theorem dX12_init_104 : decode cX12_init 104 = .ok (.aload_n 0, 1) := by decide +kernel
theorem dX12_init_105 : decode cX12_init 105 = .ok (.bipush 49, 2) := by decide +kernel
theorem dX12_init_107 : decode cX12_init 107 = .ok (.newarray .int, 2) := by decide +kernel
theorem dX12_init_109 : decode cX12_init 109 = .ok (.putfield 48, 3) := by decide +kernel
theorem dX12_init_112 : decode cX12_init 112 = .ok (.aload_n 0, 1) := by decide +kernel
theorem dX12_init_113 : decode cX12_init 113 = .ok (.sipush 201, 3) := by decide +kernel
theorem dX12_init_116 : decode cX12_init 116 = .ok (.newarray .int, 2) := by decide +kernel
theorem dX12_init_118 : decode cX12_init 118 = .ok (.putfield 51, 3) := by decide +kernel
theorem dX12_init_121 : decode cX12_init 121 = .ok (.aload_n 0, 1) := by decide +kernel
theorem dX12_init_122 : decode cX12_init 122 = .ok (.sipush 305, 3) := by decide +kernel
theorem dX12_init_125 : decode cX12_init 125 = .ok (.newarray .int, 2) := by decide +kernel
theorem dX12_init_127 : decode cX12_init 127 = .ok (.putfield 54, 3) := by decide +kernel
theorem dX12_init_130 : decode cX12_init 130 = .ok (.aload_n 0, 1) := by decide +kernel
theorem dX12_init_131 : decode cX12_init 131 = .ok (.bipush 61, 2) := by decide +kernel
theorem dX12_init_133 : decode cX12_init 133 = .ok (.newarray .int, 2) := by decide +kernel
theorem dX12_init_135 : decode cX12_init 135 = .ok (.putfield 57, 3) := by decide +kernel
theorem dX12_init_138 : decode cX12_init 138 = .ok (.aload_n 0, 1) := by decide +kernel
theorem dX12_init_139 : decode cX12_init 139 = .ok (.bipush 61, 2) := by decide +kernel
theorem dX12_init_141 : decode cX12_init 141 = .ok (.newarray .int, 2) := by decide +kernel
theorem dX12_init_143 : decode cX12_init 143 = .ok (.putfield 60, 3) := by decide +kernel
theorem dX12_init_146 : decode cX12_init 146 = .ok (.aload_n 0, 1) := by decide +kernel
theorem dX12_init_147 : decode cX12_init 147 = .ok (.iconst 5, 1) := by decide +kernel
theorem dX12_init_148 : decode cX12_init 148 = .ok (.newarray .int, 2) := by decide +kernel
theorem dX12_init_150 : decode cX12_init 150 = .ok (.putfield 63, 3) := by decide +kernel
theorem dX12_init_153 : decode cX12_init 153 = .ok (.aload_n 0, 1) := by decide +kernel
theorem dX12_init_154 : decode cX12_init 154 = .ok (.iconst 5, 1) := by decide +kernel
theorem dX12_init_155 : decode cX12_init 155 = .ok (.newarray .int, 2) := by decide +kernel
theorem dX12_init_157 : decode cX12_init 157 = .ok (.putfield 66, 3) := by decide +kernel
theorem dX12_init_160 : decode cX12_init 160 = .ok (.aload_n 0, 1) := by decide +kernel
theorem dX12_init_161 : decode cX12_init 161 = .ok (.iconst 5, 1) := by decide +kernel
theorem dX12_init_162 : decode cX12_init 162 = .ok (.newarray .long, 2) := by decide +kernel
theorem dX12_init_164 : decode cX12_init 164 = .ok (.putfield 69, 3) := by decide +kernel
theorem dX12_init_167 : decode cX12_init 167 = .ok (.aload_n 0, 1) := by decide +kernel
theorem dX12_init_168 : decode cX12_init 168 = .ok (.iconst 5, 1) := by decide +kernel
theorem dX12_init_169 : decode cX12_init 169 = .ok (.newarray .long, 2) := by decide +kernel
theorem dX12_init_171 : decode cX12_init 171 = .ok (.putfield 73, 3) := by decide +kernel
theorem dX12_init_174 : decode cX12_init 174 = .ok (.aload_n 0, 1) := by decide +kernel
theorem dX12_init_175 : decode cX12_init 175 = .ok (.iconst 4, 1) := by decide +kernel
theorem dX12_init_176 : decode cX12_init 176 = .ok (.newarray .int, 2) := by decide +kernel
theorem dX12_init_178 : decode cX12_init 178 = .ok (.putfield 76, 3) := by decide +kernel
theorem dX12_init_181 : decode cX12_init 181 = .ok (.aload_n 0, 1) := by decide +kernel
theorem dX12_init_182 : decode cX12_init 182 = .ok (.iconst 4, 1) := by decide +kernel
theorem dX12_init_183 : decode cX12_init 183 = .ok (.newarray .int, 2) := by decide +kernel
theorem dX12_init_185 : decode cX12_init 185 = .ok (.putfield 79, 3) := by decide +kernel
theorem dX12_init_188 : decode cX12_init 188 = .ok (.aload_n 0, 1) := by decide +kernel
theorem dX12_init_189 : decode cX12_init 189 = .ok (.bipush 41, 2) := by decide +kernel
theorem dX12_init_191 : decode cX12_init 191 = .ok (.newarray .int, 2) := by decide +kernel
theorem dX12_init_193 : decode cX12_init 193 = .ok (.putfield 82, 3) := by decide +kernel
theorem dX12_init_196 : decode cX12_init 196 = .ok (.aload_n 0, 1) := by decide +kernel
theorem dX12_init_197 : decode cX12_init 197 = .ok (.sipush 793, 3) := by decide +kernel
theorem dX12_init_200 : decode cX12_init 200 = .ok (.newarray .int, 2) := by decide +kernel
theorem dX12_init_202 : decode cX12_init 202 = .ok (.putfield 85, 3) := by decide +kernel
theorem dX12_init_205 : decode cX12_init 205 = .ok (.aload_n 0, 1) := by decide +kernel
theorem dX12_init_206 : decode cX12_init 206 = .ok (.iconst 4, 1) := by decide +kernel
theorem dX12_init_207 : decode cX12_init 207 = .ok (.newarray .int, 2) := by decide +kernel
theorem dX12_init_209 : decode cX12_init 209 = .ok (.dup, 1) := by decide +kernel
theorem dX12_init_210 : decode cX12_init 210 = .ok (.iconst 0, 1) := by decide +kernel
theorem dX12_init_211 : decode cX12_init 211 = .ok (.iconst (-1), 1) := by decide +kernel
theorem dX12_init_212 : decode cX12_init 212 = .ok (.iastore, 1) := by decide +kernel
theorem dX12_init_213 : decode cX12_init 213 = .ok (.dup, 1) := by decide +kernel
theorem dX12_init_214 : decode cX12_init 214 = .ok (.iconst 1, 1) := by decide +kernel
theorem dX12_init_215 : decode cX12_init 215 = .ok (.iconst (-1), 1) := by decide +kernel
theorem dX12_init_216 : decode cX12_init 216 = .ok (.iastore, 1) := by decide +kernel
theorem dX12_init_217 : decode cX12_init 217 = .ok (.dup, 1) := by decide +kernel
theorem dX12_init_218 : decode cX12_init 218 = .ok (.iconst 2, 1) := by decide +kernel
theorem dX12_init_219 : decode cX12_init 219 = .ok (.iconst (-1), 1) := by decide +kernel
theorem dX12_init_220 : decode cX12_init 220 = .ok (.iastore, 1) := by decide +kernel
theorem dX12_init_221 : decode cX12_init 221 = .ok (.dup, 1) := by decide +kernel
theorem dX12_init_222 : decode cX12_init 222 = .ok (.iconst 3, 1) := by decide +kernel
theorem dX12_init_223 : decode cX12_init 223 = .ok (.iconst (-1), 1) := by decide +kernel
theorem dX12_init_224 : decode cX12_init 224 = .ok (.iastore, 1) := by decide +kernel
theorem dX12_init_225 : decode cX12_init 225 = .ok (.putfield 88, 3) := by decide +kernel
theorem dX12_init_228 : decode cX12_init 228 = .ok (.aload_n 0, 1) := by decide +kernel
theorem dX12_init_229 : decode cX12_init 229 = .ok (.iconst 4, 1) := by decide +kernel
theorem dX12_init_230 : decode cX12_init 230 = .ok (.newarray .int, 2) := by decide +kernel
theorem dX12_init_232 : decode cX12_init 232 = .ok (.putfield 91, 3) := by decide +kernel
theorem dX12_init_235 : decode cX12_init 235 = .ok (.aload_n 0, 1) := by decide +kernel
theorem dX12_init_236 : decode cX12_init 236 = .ok (.bipush 120, 2) := by decide +kernel
theorem dX12_init_238 : decode cX12_init 238 = .ok (.newarray .long, 2) := by decide +kernel
theorem dX12_init_240 : decode cX12_init 240 = .ok (.putfield 94, 3) := by decide +kernel
theorem dX12_init_243 : decode cX12_init 243 = .ok (.return_, 1) := by decide +kernel
theorem dX12_thrown_0 : decode cX12_thrown 0 = .ok (.aload_n 0, 1) := by decide +kernel
theorem dX12_thrown_1 : decode cX12_thrown 1 = .ok (.getfield 97, 3) := by decide +kernel
theorem dX12_thrown_4 : decode cX12_thrown 4 = .ok (.ireturn, 1) := by decide +kernel
theorem dX12_fails_0 : decode cX12_fails 0 = .ok (.aload_n 0, 1) := by decide +kernel
theorem dX12_fails_1 : decode cX12_fails 1 = .ok (.iload_n 1, 1) := by decide +kernel
theorem dX12_fails_2 : decode cX12_fails 2 = .ok (.putfield 97, 3) := by decide +kernel
theorem dX12_fails_5 : decode cX12_fails 5 = .ok (.iconst 0, 1) := by decide +kernel
theorem dX12_fails_6 : decode cX12_fails 6 = .ok (.ireturn, 1) := by decide +kernel
theorem dX12_within_0 : decode cX12_within 0 = .ok (.lload_n 0, 1) := by decide +kernel
theorem dX12_within_1 : decode cX12_within 1 = .ok (.lload_n 2, 1) := by decide +kernel
theorem dX12_within_2 : decode cX12_within 2 = .ok (.lcmp, 1) := by decide +kernel
theorem dX12_within_3 : decode cX12_within 3 = .ok (.ifCond .lt 14, 3) := by decide +kernel
theorem dX12_within_6 : decode cX12_within 6 = .ok (.lload_n 0, 1) := by decide +kernel
theorem dX12_within_7 : decode cX12_within 7 = .ok (.lload 4, 2) := by decide +kernel
theorem dX12_within_9 : decode cX12_within 9 = .ok (.lcmp, 1) := by decide +kernel
theorem dX12_within_10 : decode cX12_within 10 = .ok (.ifCond .gt 7, 3) := by decide +kernel
theorem dX12_within_13 : decode cX12_within 13 = .ok (.iconst 1, 1) := by decide +kernel
theorem dX12_within_14 : decode cX12_within 14 = .ok (.goto 4, 3) := by decide +kernel
theorem dX12_within_17 : decode cX12_within 17 = .ok (.iconst 0, 1) := by decide +kernel
theorem dX12_within_18 : decode cX12_within 18 = .ok (.ireturn, 1) := by decide +kernel
theorem dX12_has_0 : decode cX12_has 0 = .ok (.iload_n 0, 1) := by decide +kernel
theorem dX12_has_1 : decode cX12_has 1 = .ok (.iload_n 1, 1) := by decide +kernel
theorem dX12_has_2 : decode cX12_has 2 = .ok (.ishr, 1) := by decide +kernel
theorem dX12_has_3 : decode cX12_has 3 = .ok (.iconst 1, 1) := by decide +kernel
theorem dX12_has_4 : decode cX12_has 4 = .ok (.iand, 1) := by decide +kernel
theorem dX12_has_5 : decode cX12_has 5 = .ok (.iconst 1, 1) := by decide +kernel
theorem dX12_has_6 : decode cX12_has 6 = .ok (.if_icmp .ne 7, 3) := by decide +kernel
theorem dX12_has_9 : decode cX12_has 9 = .ok (.iconst 1, 1) := by decide +kernel
theorem dX12_has_10 : decode cX12_has 10 = .ok (.goto 4, 3) := by decide +kernel
theorem dX12_has_13 : decode cX12_has 13 = .ok (.iconst 0, 1) := by decide +kernel
theorem dX12_has_14 : decode cX12_has 14 = .ok (.ireturn, 1) := by decide +kernel
theorem dX12_size_0 : decode cX12_size 0 = .ok (.iconst 0, 1) := by decide +kernel
theorem dX12_size_1 : decode cX12_size 1 = .ok (.istore_n 1, 1) := by decide +kernel
theorem dX12_size_2 : decode cX12_size 2 = .ok (.iload_n 0, 1) := by decide +kernel
theorem dX12_size_3 : decode cX12_size 3 = .ok (.istore_n 2, 1) := by decide +kernel
theorem dX12_size_4 : decode cX12_size 4 = .ok (.iload_n 2, 1) := by decide +kernel
theorem dX12_size_5 : decode cX12_size 5 = .ok (.ifCond .eq 15, 3) := by decide +kernel
theorem dX12_size_8 : decode cX12_size 8 = .ok (.iinc 1 1, 3) := by decide +kernel
theorem dX12_size_11 : decode cX12_size 11 = .ok (.iload_n 2, 1) := by decide +kernel
theorem dX12_size_12 : decode cX12_size 12 = .ok (.iload_n 2, 1) := by decide +kernel
theorem dX12_size_13 : decode cX12_size 13 = .ok (.iconst 1, 1) := by decide +kernel
theorem dX12_size_14 : decode cX12_size 14 = .ok (.isub, 1) := by decide +kernel
theorem dX12_size_15 : decode cX12_size 15 = .ok (.iand, 1) := by decide +kernel
theorem dX12_size_16 : decode cX12_size 16 = .ok (.istore_n 2, 1) := by decide +kernel
theorem dX12_size_17 : decode cX12_size 17 = .ok (.goto (-13), 3) := by decide +kernel
theorem dX12_size_20 : decode cX12_size 20 = .ok (.iload_n 1, 1) := by decide +kernel
theorem dX12_size_21 : decode cX12_size 21 = .ok (.ireturn, 1) := by decide +kernel
theorem dX12_feed_0 : decode cX12_feed 0 = .ok (.aload_n 0, 1) := by decide +kernel
theorem dX12_feed_1 : decode cX12_feed 1 = .ok (.iconst 0, 1) := by decide +kernel
theorem dX12_feed_2 : decode cX12_feed 2 = .ok (.putfield 97, 3) := by decide +kernel
theorem dX12_feed_5 : decode cX12_feed 5 = .ok (.aload_n 0, 1) := by decide +kernel
theorem dX12_feed_6 : decode cX12_feed 6 = .ok (.getfield 100, 3) := by decide +kernel
theorem dX12_feed_9 : decode cX12_feed 9 = .ok (.bipush 20, 2) := by decide +kernel
theorem dX12_feed_11 : decode cX12_feed 11 = .ok (.iadd, 1) := by decide +kernel
theorem dX12_feed_12 : decode cX12_feed 12 = .ok (.sipush 900, 3) := by decide +kernel
theorem dX12_feed_15 : decode cX12_feed 15 = .ok (.if_icmp .le 5, 3) := by decide +kernel
theorem dX12_feed_18 : decode cX12_feed 18 = .ok (.iconst (-1), 1) := by decide +kernel
theorem dX12_feed_19 : decode cX12_feed 19 = .ok (.ireturn, 1) := by decide +kernel
theorem dX12_feed_20 : decode cX12_feed 20 = .ok (.iconst 0, 1) := by decide +kernel
theorem dX12_feed_21 : decode cX12_feed 21 = .ok (.istore 6, 2) := by decide +kernel
theorem dX12_feed_23 : decode cX12_feed 23 = .ok (.iload 6, 2) := by decide +kernel
theorem dX12_feed_25 : decode cX12_feed 25 = .ok (.bipush 20, 2) := by decide +kernel
theorem dX12_feed_27 : decode cX12_feed 27 = .ok (.if_icmp .ge 93, 3) := by decide +kernel
theorem dX12_feed_30 : decode cX12_feed 30 = .ok (.iload 6, 2) := by decide +kernel
theorem dX12_feed_32 : decode cX12_feed 32 = .ok (.iconst 4, 1) := by decide +kernel
theorem dX12_feed_33 : decode cX12_feed 33 = .ok (.if_icmp .ge 7, 3) := by decide +kernel
theorem dX12_feed_36 : decode cX12_feed 36 = .ok (.iload_n 1, 1) := by decide +kernel
theorem dX12_feed_37 : decode cX12_feed 37 = .ok (.goto 39, 3) := by decide +kernel
theorem dX12_feed_40 : decode cX12_feed 40 = .ok (.iload 6, 2) := by decide +kernel
theorem dX12_feed_42 : decode cX12_feed 42 = .ok (.bipush 8, 2) := by decide +kernel
theorem dX12_feed_44 : decode cX12_feed 44 = .ok (.if_icmp .ge 7, 3) := by decide +kernel
theorem dX12_feed_47 : decode cX12_feed 47 = .ok (.iload_n 2, 1) := by decide +kernel
theorem dX12_feed_48 : decode cX12_feed 48 = .ok (.goto 28, 3) := by decide +kernel
theorem dX12_feed_51 : decode cX12_feed 51 = .ok (.iload 6, 2) := by decide +kernel
theorem dX12_feed_53 : decode cX12_feed 53 = .ok (.bipush 12, 2) := by decide +kernel
theorem dX12_feed_55 : decode cX12_feed 55 = .ok (.if_icmp .ge 7, 3) := by decide +kernel
theorem dX12_feed_58 : decode cX12_feed 58 = .ok (.iload_n 3, 1) := by decide +kernel
theorem dX12_feed_59 : decode cX12_feed 59 = .ok (.goto 17, 3) := by decide +kernel
theorem dX12_feed_62 : decode cX12_feed 62 = .ok (.iload 6, 2) := by decide +kernel
theorem dX12_feed_64 : decode cX12_feed 64 = .ok (.bipush 16, 2) := by decide +kernel
theorem dX12_feed_66 : decode cX12_feed 66 = .ok (.if_icmp .ge 8, 3) := by decide +kernel
theorem dX12_feed_69 : decode cX12_feed 69 = .ok (.iload 4, 2) := by decide +kernel
theorem dX12_feed_71 : decode cX12_feed 71 = .ok (.goto 5, 3) := by decide +kernel
theorem dX12_feed_74 : decode cX12_feed 74 = .ok (.iload 5, 2) := by decide +kernel
theorem dX12_feed_76 : decode cX12_feed 76 = .ok (.istore 7, 2) := by decide +kernel
theorem dX12_feed_78 : decode cX12_feed 78 = .ok (.aload_n 0, 1) := by decide +kernel
theorem dX12_feed_79 : decode cX12_feed 79 = .ok (.getfield 23, 3) := by decide +kernel
theorem dX12_feed_82 : decode cX12_feed 82 = .ok (.aload_n 0, 1) := by decide +kernel
theorem dX12_feed_83 : decode cX12_feed 83 = .ok (.getfield 100, 3) := by decide +kernel
theorem dX12_feed_86 : decode cX12_feed 86 = .ok (.iload 7, 2) := by decide +kernel
theorem dX12_feed_88 : decode cX12_feed 88 = .ok (.bipush 24, 2) := by decide +kernel
theorem dX12_feed_90 : decode cX12_feed 90 = .ok (.bipush 8, 2) := by decide +kernel
theorem dX12_feed_92 : decode cX12_feed 92 = .ok (.iload 6, 2) := by decide +kernel
theorem dX12_feed_94 : decode cX12_feed 94 = .ok (.iconst 3, 1) := by decide +kernel
theorem dX12_feed_95 : decode cX12_feed 95 = .ok (.iand, 1) := by decide +kernel
theorem dX12_feed_96 : decode cX12_feed 96 = .ok (.imul, 1) := by decide +kernel
theorem dX12_feed_97 : decode cX12_feed 97 = .ok (.isub, 1) := by decide +kernel
theorem dX12_feed_98 : decode cX12_feed 98 = .ok (.iushr, 1) := by decide +kernel
theorem dX12_feed_99 : decode cX12_feed 99 = .ok (.sipush 255, 3) := by decide +kernel
theorem dX12_feed_102 : decode cX12_feed 102 = .ok (.iand, 1) := by decide +kernel
theorem dX12_feed_103 : decode cX12_feed 103 = .ok (.iastore, 1) := by decide +kernel
theorem dX12_feed_104 : decode cX12_feed 104 = .ok (.aload_n 0, 1) := by decide +kernel
theorem dX12_feed_105 : decode cX12_feed 105 = .ok (.dup, 1) := by decide +kernel
theorem dX12_feed_106 : decode cX12_feed 106 = .ok (.getfield 100, 3) := by decide +kernel
theorem dX12_feed_109 : decode cX12_feed 109 = .ok (.iconst 1, 1) := by decide +kernel
theorem dX12_feed_110 : decode cX12_feed 110 = .ok (.iadd, 1) := by decide +kernel
theorem dX12_feed_111 : decode cX12_feed 111 = .ok (.putfield 100, 3) := by decide +kernel
theorem dX12_feed_114 : decode cX12_feed 114 = .ok (.iinc 6 1, 3) := by decide +kernel
theorem dX12_feed_117 : decode cX12_feed 117 = .ok (.goto (-94), 3) := by decide +kernel
theorem dX12_feed_120 : decode cX12_feed 120 = .ok (.aload_n 0, 1) := by decide +kernel
theorem dX12_feed_121 : decode cX12_feed 121 = .ok (.getfield 100, 3) := by decide +kernel
theorem dX12_feed_124 : decode cX12_feed 124 = .ok (.ireturn, 1) := by decide +kernel
theorem dX12_see_0 : decode cX12_see 0 = .ok (.iload_n 1, 1) := by decide +kernel
theorem dX12_see_1 : decode cX12_see 1 = .ok (.aload_n 0, 1) := by decide +kernel
theorem dX12_see_2 : decode cX12_see 2 = .ok (.getfield 103, 3) := by decide +kernel
theorem dX12_see_5 : decode cX12_see 5 = .ok (.if_icmp .ge 12, 3) := by decide +kernel
theorem dX12_see_8 : decode cX12_see 8 = .ok (.aload_n 0, 1) := by decide +kernel
theorem dX12_see_9 : decode cX12_see 9 = .ok (.getfield 23, 3) := by decide +kernel
theorem dX12_see_12 : decode cX12_see 12 = .ok (.iload_n 1, 1) := by decide +kernel
theorem dX12_see_13 : decode cX12_see 13 = .ok (.iaload, 1) := by decide +kernel
theorem dX12_see_14 : decode cX12_see 14 = .ok (.goto 4, 3) := by decide +kernel
theorem dX12_see_17 : decode cX12_see 17 = .ok (.iconst 0, 1) := by decide +kernel
theorem dX12_see_18 : decode cX12_see 18 = .ok (.ireturn, 1) := by decide +kernel
theorem dX12_isLetter_0 : decode cX12_isLetter 0 = .ok (.iload_n 0, 1) := by decide +kernel
theorem dX12_isLetter_1 : decode cX12_isLetter 1 = .ok (.bipush 97, 2) := by decide +kernel
theorem dX12_isLetter_3 : decode cX12_isLetter 3 = .ok (.if_icmp .lt 13, 3) := by decide +kernel
theorem dX12_isLetter_6 : decode cX12_isLetter 6 = .ok (.iload_n 0, 1) := by decide +kernel
theorem dX12_isLetter_7 : decode cX12_isLetter 7 = .ok (.bipush 122, 2) := by decide +kernel
theorem dX12_isLetter_9 : decode cX12_isLetter 9 = .ok (.if_icmp .gt 7, 3) := by decide +kernel
theorem dX12_isLetter_12 : decode cX12_isLetter 12 = .ok (.iconst 1, 1) := by decide +kernel
theorem dX12_isLetter_13 : decode cX12_isLetter 13 = .ok (.goto 4, 3) := by decide +kernel
theorem dX12_isLetter_16 : decode cX12_isLetter 16 = .ok (.iconst 0, 1) := by decide +kernel
theorem dX12_isLetter_17 : decode cX12_isLetter 17 = .ok (.ireturn, 1) := by decide +kernel
theorem dX12_isDigit_0 : decode cX12_isDigit 0 = .ok (.iload_n 0, 1) := by decide +kernel
theorem dX12_isDigit_1 : decode cX12_isDigit 1 = .ok (.bipush 48, 2) := by decide +kernel
theorem dX12_isDigit_3 : decode cX12_isDigit 3 = .ok (.if_icmp .lt 13, 3) := by decide +kernel
theorem dX12_isDigit_6 : decode cX12_isDigit 6 = .ok (.iload_n 0, 1) := by decide +kernel
theorem dX12_isDigit_7 : decode cX12_isDigit 7 = .ok (.bipush 57, 2) := by decide +kernel
theorem dX12_isDigit_9 : decode cX12_isDigit 9 = .ok (.if_icmp .gt 7, 3) := by decide +kernel
theorem dX12_isDigit_12 : decode cX12_isDigit 12 = .ok (.iconst 1, 1) := by decide +kernel
theorem dX12_isDigit_13 : decode cX12_isDigit 13 = .ok (.goto 4, 3) := by decide +kernel
theorem dX12_isDigit_16 : decode cX12_isDigit 16 = .ok (.iconst 0, 1) := by decide +kernel
theorem dX12_isDigit_17 : decode cX12_isDigit 17 = .ok (.ireturn, 1) := by decide +kernel
theorem dX12_isSignByte_0 : decode cX12_isSignByte 0 = .ok (.iload_n 0, 1) := by decide +kernel
theorem dX12_isSignByte_1 : decode cX12_isSignByte 1 = .ok (.bipush 91, 2) := by decide +kernel
theorem dX12_isSignByte_3 : decode cX12_isSignByte 3 = .ok (.if_icmp .eq 33, 3) := by decide +kernel
theorem dX12_isSignByte_6 : decode cX12_isSignByte 6 = .ok (.iload_n 0, 1) := by decide +kernel
theorem dX12_isSignByte_7 : decode cX12_isSignByte 7 = .ok (.bipush 93, 2) := by decide +kernel
theorem dX12_isSignByte_9 : decode cX12_isSignByte 9 = .ok (.if_icmp .eq 27, 3) := by decide +kernel
theorem dX12_isSignByte_12 : decode cX12_isSignByte 12 = .ok (.iload_n 0, 1) := by decide +kernel
theorem dX12_isSignByte_13 : decode cX12_isSignByte 13 = .ok (.bipush 61, 2) := by decide +kernel
theorem dX12_isSignByte_15 : decode cX12_isSignByte 15 = .ok (.if_icmp .eq 21, 3) := by decide +kernel
theorem dX12_isSignByte_18 : decode cX12_isSignByte 18 = .ok (.iload_n 0, 1) := by decide +kernel
theorem dX12_isSignByte_19 : decode cX12_isSignByte 19 = .ok (.bipush 60, 2) := by decide +kernel
theorem dX12_isSignByte_21 : decode cX12_isSignByte 21 = .ok (.if_icmp .eq 15, 3) := by decide +kernel
theorem dX12_isSignByte_24 : decode cX12_isSignByte 24 = .ok (.iload_n 0, 1) := by decide +kernel
theorem dX12_isSignByte_25 : decode cX12_isSignByte 25 = .ok (.bipush 62, 2) := by decide +kernel
theorem dX12_isSignByte_27 : decode cX12_isSignByte 27 = .ok (.if_icmp .eq 9, 3) := by decide +kernel
theorem dX12_isSignByte_30 : decode cX12_isSignByte 30 = .ok (.iload_n 0, 1) := by decide +kernel
theorem dX12_isSignByte_31 : decode cX12_isSignByte 31 = .ok (.bipush 58, 2) := by decide +kernel
theorem dX12_isSignByte_33 : decode cX12_isSignByte 33 = .ok (.if_icmp .ne 7, 3) := by decide +kernel
theorem dX12_isSignByte_36 : decode cX12_isSignByte 36 = .ok (.iconst 1, 1) := by decide +kernel
theorem dX12_isSignByte_37 : decode cX12_isSignByte 37 = .ok (.goto 4, 3) := by decide +kernel
theorem dX12_isSignByte_40 : decode cX12_isSignByte 40 = .ok (.iconst 0, 1) := by decide +kernel
theorem dX12_isSignByte_41 : decode cX12_isSignByte 41 = .ok (.istore_n 1, 1) := by decide +kernel
theorem dX12_isSignByte_42 : decode cX12_isSignByte 42 = .ok (.iload_n 1, 1) := by decide +kernel
theorem dX12_isSignByte_43 : decode cX12_isSignByte 43 = .ok (.ifCond .ne 39, 3) := by decide +kernel
theorem dX12_isSignByte_46 : decode cX12_isSignByte 46 = .ok (.iload_n 0, 1) := by decide +kernel
theorem dX12_isSignByte_47 : decode cX12_isSignByte 47 = .ok (.bipush 59, 2) := by decide +kernel
theorem dX12_isSignByte_49 : decode cX12_isSignByte 49 = .ok (.if_icmp .eq 33, 3) := by decide +kernel
theorem dX12_isSignByte_52 : decode cX12_isSignByte 52 = .ok (.iload_n 0, 1) := by decide +kernel
theorem dX12_isSignByte_53 : decode cX12_isSignByte 53 = .ok (.bipush 43, 2) := by decide +kernel
theorem dX12_isSignByte_55 : decode cX12_isSignByte 55 = .ok (.if_icmp .eq 27, 3) := by decide +kernel
theorem dX12_isSignByte_58 : decode cX12_isSignByte 58 = .ok (.iload_n 0, 1) := by decide +kernel
theorem dX12_isSignByte_59 : decode cX12_isSignByte 59 = .ok (.bipush 45, 2) := by decide +kernel
theorem dX12_isSignByte_61 : decode cX12_isSignByte 61 = .ok (.if_icmp .eq 21, 3) := by decide +kernel
theorem dX12_isSignByte_64 : decode cX12_isSignByte 64 = .ok (.iload_n 0, 1) := by decide +kernel
theorem dX12_isSignByte_65 : decode cX12_isSignByte 65 = .ok (.bipush 42, 2) := by decide +kernel
theorem dX12_isSignByte_67 : decode cX12_isSignByte 67 = .ok (.if_icmp .eq 15, 3) := by decide +kernel
theorem dX12_isSignByte_70 : decode cX12_isSignByte 70 = .ok (.iload_n 0, 1) := by decide +kernel
theorem dX12_isSignByte_71 : decode cX12_isSignByte 71 = .ok (.bipush 40, 2) := by decide +kernel
theorem dX12_isSignByte_73 : decode cX12_isSignByte 73 = .ok (.if_icmp .eq 9, 3) := by decide +kernel
theorem dX12_isSignByte_76 : decode cX12_isSignByte 76 = .ok (.iload_n 0, 1) := by decide +kernel
theorem dX12_isSignByte_77 : decode cX12_isSignByte 77 = .ok (.bipush 41, 2) := by decide +kernel
theorem dX12_isSignByte_79 : decode cX12_isSignByte 79 = .ok (.if_icmp .ne 7, 3) := by decide +kernel
theorem dX12_isSignByte_82 : decode cX12_isSignByte 82 = .ok (.iconst 1, 1) := by decide +kernel
theorem dX12_isSignByte_83 : decode cX12_isSignByte 83 = .ok (.goto 4, 3) := by decide +kernel
theorem dX12_isSignByte_86 : decode cX12_isSignByte 86 = .ok (.iconst 0, 1) := by decide +kernel
theorem dX12_isSignByte_87 : decode cX12_isSignByte 87 = .ok (.ireturn, 1) := by decide +kernel
theorem dX12_readsOn_0 : decode cX12_readsOn 0 = .ok (.aload_n 0, 1) := by decide +kernel
theorem dX12_readsOn_1 : decode cX12_readsOn 1 = .ok (.getfield 106, 3) := by decide +kernel
theorem dX12_readsOn_4 : decode cX12_readsOn 4 = .ok (.aload_n 0, 1) := by decide +kernel
theorem dX12_readsOn_5 : decode cX12_readsOn 5 = .ok (.getfield 103, 3) := by decide +kernel
theorem dX12_readsOn_8 : decode cX12_readsOn 8 = .ok (.if_icmp .ge 44, 3) := by decide +kernel
theorem dX12_readsOn_11 : decode cX12_readsOn 11 = .ok (.aload_n 0, 1) := by decide +kernel
theorem dX12_readsOn_12 : decode cX12_readsOn 12 = .ok (.getfield 23, 3) := by decide +kernel
theorem dX12_readsOn_15 : decode cX12_readsOn 15 = .ok (.aload_n 0, 1) := by decide +kernel
theorem dX12_readsOn_16 : decode cX12_readsOn 16 = .ok (.getfield 106, 3) := by decide +kernel
theorem dX12_readsOn_19 : decode cX12_readsOn 19 = .ok (.iaload, 1) := by decide +kernel
theorem dX12_readsOn_20 : decode cX12_readsOn 20 = .ok (.bipush 32, 2) := by decide +kernel
theorem dX12_readsOn_22 : decode cX12_readsOn 22 = .ok (.if_icmp .eq 17, 3) := by decide +kernel
theorem dX12_readsOn_25 : decode cX12_readsOn 25 = .ok (.aload_n 0, 1) := by decide +kernel
theorem dX12_readsOn_26 : decode cX12_readsOn 26 = .ok (.getfield 23, 3) := by decide +kernel
theorem dX12_readsOn_29 : decode cX12_readsOn 29 = .ok (.aload_n 0, 1) := by decide +kernel
theorem dX12_readsOn_30 : decode cX12_readsOn 30 = .ok (.getfield 106, 3) := by decide +kernel
theorem dX12_readsOn_33 : decode cX12_readsOn 33 = .ok (.iaload, 1) := by decide +kernel
theorem dX12_readsOn_34 : decode cX12_readsOn 34 = .ok (.bipush 10, 2) := by decide +kernel
theorem dX12_readsOn_36 : decode cX12_readsOn 36 = .ok (.if_icmp .ne 16, 3) := by decide +kernel
theorem dX12_readsOn_39 : decode cX12_readsOn 39 = .ok (.aload_n 0, 1) := by decide +kernel
theorem dX12_readsOn_40 : decode cX12_readsOn 40 = .ok (.dup, 1) := by decide +kernel
theorem dX12_readsOn_41 : decode cX12_readsOn 41 = .ok (.getfield 106, 3) := by decide +kernel
theorem dX12_readsOn_44 : decode cX12_readsOn 44 = .ok (.iconst 1, 1) := by decide +kernel
theorem dX12_readsOn_45 : decode cX12_readsOn 45 = .ok (.iadd, 1) := by decide +kernel
theorem dX12_readsOn_46 : decode cX12_readsOn 46 = .ok (.putfield 106, 3) := by decide +kernel
theorem dX12_readsOn_49 : decode cX12_readsOn 49 = .ok (.goto (-49), 3) := by decide +kernel
theorem dX12_readsOn_52 : decode cX12_readsOn 52 = .ok (.aload_n 0, 1) := by decide +kernel
theorem dX12_readsOn_53 : decode cX12_readsOn 53 = .ok (.aload_n 0, 1) := by decide +kernel
theorem dX12_readsOn_54 : decode cX12_readsOn 54 = .ok (.getfield 106, 3) := by decide +kernel
theorem dX12_readsOn_57 : decode cX12_readsOn 57 = .ok (.putfield 109, 3) := by decide +kernel
theorem dX12_readsOn_60 : decode cX12_readsOn 60 = .ok (.aload_n 0, 1) := by decide +kernel
theorem dX12_readsOn_61 : decode cX12_readsOn 61 = .ok (.getfield 106, 3) := by decide +kernel
theorem dX12_readsOn_64 : decode cX12_readsOn 64 = .ok (.aload_n 0, 1) := by decide +kernel
theorem dX12_readsOn_65 : decode cX12_readsOn 65 = .ok (.getfield 103, 3) := by decide +kernel
theorem dX12_readsOn_68 : decode cX12_readsOn 68 = .ok (.if_icmp .lt 9, 3) := by decide +kernel
theorem dX12_readsOn_71 : decode cX12_readsOn 71 = .ok (.aload_n 0, 1) := by decide +kernel
theorem dX12_readsOn_72 : decode cX12_readsOn 72 = .ok (.iconst 0, 1) := by decide +kernel
theorem dX12_readsOn_73 : decode cX12_readsOn 73 = .ok (.putfield 112, 3) := by decide +kernel
theorem dX12_readsOn_76 : decode cX12_readsOn 76 = .ok (.return_, 1) := by decide +kernel
theorem dX12_readsOn_77 : decode cX12_readsOn 77 = .ok (.aload_n 0, 1) := by decide +kernel
theorem dX12_readsOn_78 : decode cX12_readsOn 78 = .ok (.getfield 23, 3) := by decide +kernel
theorem dX12_readsOn_81 : decode cX12_readsOn 81 = .ok (.aload_n 0, 1) := by decide +kernel
theorem dX12_readsOn_82 : decode cX12_readsOn 82 = .ok (.getfield 106, 3) := by decide +kernel
theorem dX12_readsOn_85 : decode cX12_readsOn 85 = .ok (.iaload, 1) := by decide +kernel
theorem dX12_readsOn_86 : decode cX12_readsOn 86 = .ok (.istore_n 1, 1) := by decide +kernel
theorem dX12_readsOn_87 : decode cX12_readsOn 87 = .ok (.iload_n 1, 1) := by decide +kernel
theorem dX12_readsOn_88 : decode cX12_readsOn 88 = .ok (.invokestatic 115, 3) := by decide +kernel
theorem dX12_readsOn_91 : decode cX12_readsOn 91 = .ok (.ifCond .eq 38, 3) := by decide +kernel
theorem dX12_readsOn_94 : decode cX12_readsOn 94 = .ok (.aload_n 0, 1) := by decide +kernel
theorem dX12_readsOn_95 : decode cX12_readsOn 95 = .ok (.aload_n 0, 1) := by decide +kernel
theorem dX12_readsOn_96 : decode cX12_readsOn 96 = .ok (.getfield 106, 3) := by decide +kernel
theorem dX12_readsOn_99 : decode cX12_readsOn 99 = .ok (.invokevirtual 119, 3) := by decide +kernel
theorem dX12_readsOn_102 : decode cX12_readsOn 102 = .ok (.invokestatic 115, 3) := by decide +kernel
theorem dX12_readsOn_105 : decode cX12_readsOn 105 = .ok (.ifCond .eq 16, 3) := by decide +kernel
theorem dX12_readsOn_108 : decode cX12_readsOn 108 = .ok (.aload_n 0, 1) := by decide +kernel
theorem dX12_readsOn_109 : decode cX12_readsOn 109 = .ok (.dup, 1) := by decide +kernel
theorem dX12_readsOn_110 : decode cX12_readsOn 110 = .ok (.getfield 106, 3) := by decide +kernel
theorem dX12_readsOn_113 : decode cX12_readsOn 113 = .ok (.iconst 1, 1) := by decide +kernel
theorem dX12_readsOn_114 : decode cX12_readsOn 114 = .ok (.iadd, 1) := by decide +kernel
theorem dX12_readsOn_115 : decode cX12_readsOn 115 = .ok (.putfield 106, 3) := by decide +kernel
theorem dX12_readsOn_118 : decode cX12_readsOn 118 = .ok (.goto (-24), 3) := by decide +kernel
theorem dX12_readsOn_121 : decode cX12_readsOn 121 = .ok (.aload_n 0, 1) := by decide +kernel
theorem dX12_readsOn_122 : decode cX12_readsOn 122 = .ok (.iconst 1, 1) := by decide +kernel
theorem dX12_readsOn_123 : decode cX12_readsOn 123 = .ok (.putfield 112, 3) := by decide +kernel
theorem dX12_readsOn_126 : decode cX12_readsOn 126 = .ok (.goto 137, 3) := by decide +kernel
theorem dX12_readsOn_129 : decode cX12_readsOn 129 = .ok (.iload_n 1, 1) := by decide +kernel
theorem dX12_readsOn_130 : decode cX12_readsOn 130 = .ok (.invokestatic 123, 3) := by decide +kernel
theorem dX12_readsOn_133 : decode cX12_readsOn 133 = .ok (.ifCond .eq 104, 3) := by decide +kernel
theorem dX12_readsOn_136 : decode cX12_readsOn 136 = .ok (.aload_n 0, 1) := by decide +kernel
theorem dX12_readsOn_137 : decode cX12_readsOn 137 = .ok (.iconst 0, 1) := by decide +kernel
theorem dX12_readsOn_138 : decode cX12_readsOn 138 = .ok (.putfield 126, 3) := by decide +kernel
theorem dX12_readsOn_141 : decode cX12_readsOn 141 = .ok (.aload_n 0, 1) := by decide +kernel
theorem dX12_readsOn_142 : decode cX12_readsOn 142 = .ok (.aload_n 0, 1) := by decide +kernel
theorem dX12_readsOn_143 : decode cX12_readsOn 143 = .ok (.getfield 106, 3) := by decide +kernel
theorem dX12_readsOn_146 : decode cX12_readsOn 146 = .ok (.invokevirtual 119, 3) := by decide +kernel
theorem dX12_readsOn_149 : decode cX12_readsOn 149 = .ok (.invokestatic 123, 3) := by decide +kernel
theorem dX12_readsOn_152 : decode cX12_readsOn 152 = .ok (.ifCond .eq 60, 3) := by decide +kernel
theorem dX12_readsOn_155 : decode cX12_readsOn 155 = .ok (.aload_n 0, 1) := by decide +kernel
theorem dX12_readsOn_156 : decode cX12_readsOn 156 = .ok (.aload_n 0, 1) := by decide +kernel
theorem dX12_readsOn_157 : decode cX12_readsOn 157 = .ok (.getfield 106, 3) := by decide +kernel
theorem dX12_readsOn_160 : decode cX12_readsOn 160 = .ok (.aload_n 0, 1) := by decide +kernel
theorem dX12_readsOn_161 : decode cX12_readsOn 161 = .ok (.getfield 109, 3) := by decide +kernel
theorem dX12_readsOn_164 : decode cX12_readsOn 164 = .ok (.isub, 1) := by decide +kernel
theorem dX12_readsOn_165 : decode cX12_readsOn 165 = .ok (.iconst 3, 1) := by decide +kernel
theorem dX12_readsOn_166 : decode cX12_readsOn 166 = .ok (.if_icmp .ge 26, 3) := by decide +kernel
theorem dX12_readsOn_169 : decode cX12_readsOn 169 = .ok (.bipush 10, 2) := by decide +kernel
theorem dX12_readsOn_171 : decode cX12_readsOn 171 = .ok (.aload_n 0, 1) := by decide +kernel
theorem dX12_readsOn_172 : decode cX12_readsOn 172 = .ok (.getfield 126, 3) := by decide +kernel
theorem dX12_readsOn_175 : decode cX12_readsOn 175 = .ok (.imul, 1) := by decide +kernel
theorem dX12_readsOn_176 : decode cX12_readsOn 176 = .ok (.aload_n 0, 1) := by decide +kernel
theorem dX12_readsOn_177 : decode cX12_readsOn 177 = .ok (.getfield 23, 3) := by decide +kernel
theorem dX12_readsOn_180 : decode cX12_readsOn 180 = .ok (.aload_n 0, 1) := by decide +kernel
theorem dX12_readsOn_181 : decode cX12_readsOn 181 = .ok (.getfield 106, 3) := by decide +kernel
theorem dX12_readsOn_184 : decode cX12_readsOn 184 = .ok (.iaload, 1) := by decide +kernel
theorem dX12_readsOn_185 : decode cX12_readsOn 185 = .ok (.iadd, 1) := by decide +kernel
theorem dX12_readsOn_186 : decode cX12_readsOn 186 = .ok (.bipush 48, 2) := by decide +kernel
theorem dX12_readsOn_188 : decode cX12_readsOn 188 = .ok (.isub, 1) := by decide +kernel
theorem dX12_readsOn_189 : decode cX12_readsOn 189 = .ok (.goto 7, 3) := by decide +kernel
theorem dX12_readsOn_192 : decode cX12_readsOn 192 = .ok (.aload_n 0, 1) := by decide +kernel
theorem dX12_readsOn_193 : decode cX12_readsOn 193 = .ok (.getfield 126, 3) := by decide +kernel
theorem dX12_readsOn_196 : decode cX12_readsOn 196 = .ok (.putfield 126, 3) := by decide +kernel
theorem dX12_readsOn_199 : decode cX12_readsOn 199 = .ok (.aload_n 0, 1) := by decide +kernel
theorem dX12_readsOn_200 : decode cX12_readsOn 200 = .ok (.dup, 1) := by decide +kernel
theorem dX12_readsOn_201 : decode cX12_readsOn 201 = .ok (.getfield 106, 3) := by decide +kernel
theorem dX12_readsOn_204 : decode cX12_readsOn 204 = .ok (.iconst 1, 1) := by decide +kernel
theorem dX12_readsOn_205 : decode cX12_readsOn 205 = .ok (.iadd, 1) := by decide +kernel
theorem dX12_readsOn_206 : decode cX12_readsOn 206 = .ok (.putfield 106, 3) := by decide +kernel
theorem dX12_readsOn_209 : decode cX12_readsOn 209 = .ok (.goto (-68), 3) := by decide +kernel
theorem dX12_readsOn_212 : decode cX12_readsOn 212 = .ok (.aload_n 0, 1) := by decide +kernel
theorem dX12_readsOn_213 : decode cX12_readsOn 213 = .ok (.aload_n 0, 1) := by decide +kernel
theorem dX12_readsOn_214 : decode cX12_readsOn 214 = .ok (.getfield 106, 3) := by decide +kernel
theorem dX12_readsOn_217 : decode cX12_readsOn 217 = .ok (.aload_n 0, 1) := by decide +kernel
theorem dX12_readsOn_218 : decode cX12_readsOn 218 = .ok (.getfield 109, 3) := by decide +kernel
theorem dX12_readsOn_221 : decode cX12_readsOn 221 = .ok (.isub, 1) := by decide +kernel
theorem dX12_readsOn_222 : decode cX12_readsOn 222 = .ok (.iconst 3, 1) := by decide +kernel
theorem dX12_readsOn_223 : decode cX12_readsOn 223 = .ok (.if_icmp .le 7, 3) := by decide +kernel
theorem dX12_readsOn_226 : decode cX12_readsOn 226 = .ok (.iconst 3, 1) := by decide +kernel
theorem dX12_readsOn_227 : decode cX12_readsOn 227 = .ok (.goto 4, 3) := by decide +kernel
theorem dX12_readsOn_230 : decode cX12_readsOn 230 = .ok (.iconst 2, 1) := by decide +kernel
theorem dX12_readsOn_231 : decode cX12_readsOn 231 = .ok (.putfield 112, 3) := by decide +kernel
theorem dX12_readsOn_234 : decode cX12_readsOn 234 = .ok (.goto 29, 3) := by decide +kernel
theorem dX12_readsOn_237 : decode cX12_readsOn 237 = .ok (.aload_n 0, 1) := by decide +kernel
theorem dX12_readsOn_238 : decode cX12_readsOn 238 = .ok (.iload_n 1, 1) := by decide +kernel
theorem dX12_readsOn_239 : decode cX12_readsOn 239 = .ok (.invokestatic 129, 3) := by decide +kernel
theorem dX12_readsOn_242 : decode cX12_readsOn 242 = .ok (.ifCond .eq 7, 3) := by decide +kernel
theorem dX12_readsOn_245 : decode cX12_readsOn 245 = .ok (.iload_n 1, 1) := by decide +kernel
theorem dX12_readsOn_246 : decode cX12_readsOn 246 = .ok (.goto 4, 3) := by decide +kernel
theorem dX12_readsOn_249 : decode cX12_readsOn 249 = .ok (.iconst 3, 1) := by decide +kernel
theorem dX12_readsOn_250 : decode cX12_readsOn 250 = .ok (.putfield 112, 3) := by decide +kernel
theorem dX12_readsOn_253 : decode cX12_readsOn 253 = .ok (.aload_n 0, 1) := by decide +kernel
theorem dX12_readsOn_254 : decode cX12_readsOn 254 = .ok (.dup, 1) := by decide +kernel
theorem dX12_readsOn_255 : decode cX12_readsOn 255 = .ok (.getfield 106, 3) := by decide +kernel
theorem dX12_readsOn_258 : decode cX12_readsOn 258 = .ok (.iconst 1, 1) := by decide +kernel
theorem dX12_readsOn_259 : decode cX12_readsOn 259 = .ok (.iadd, 1) := by decide +kernel
theorem dX12_readsOn_260 : decode cX12_readsOn 260 = .ok (.putfield 106, 3) := by decide +kernel
theorem dX12_readsOn_263 : decode cX12_readsOn 263 = .ok (.return_, 1) := by decide +kernel
theorem dX12_blames_0 : decode cX12_blames 0 = .ok (.aload_n 0, 1) := by decide +kernel
theorem dX12_blames_1 : decode cX12_blames 1 = .ok (.getfield 132, 3) := by decide +kernel
theorem dX12_blames_4 : decode cX12_blames 4 = .ok (.ifCond .eq 4, 3) := by decide +kernel
theorem dX12_blames_7 : decode cX12_blames 7 = .ok (.return_, 1) := by decide +kernel
theorem dX12_blames_8 : decode cX12_blames 8 = .ok (.aload_n 0, 1) := by decide +kernel
theorem dX12_blames_9 : decode cX12_blames 9 = .ok (.aload_n 0, 1) := by decide +kernel
theorem dX12_blames_10 : decode cX12_blames 10 = .ok (.getfield 112, 3) := by decide +kernel
theorem dX12_blames_13 : decode cX12_blames 13 = .ok (.iconst 3, 1) := by decide +kernel
theorem dX12_blames_14 : decode cX12_blames 14 = .ok (.if_icmp .ne 7, 3) := by decide +kernel
theorem dX12_blames_17 : decode cX12_blames 17 = .ok (.iconst 1, 1) := by decide +kernel
theorem dX12_blames_18 : decode cX12_blames 18 = .ok (.goto 4, 3) := by decide +kernel
theorem dX12_blames_21 : decode cX12_blames 21 = .ok (.iload_n 1, 1) := by decide +kernel
theorem dX12_blames_22 : decode cX12_blames 22 = .ok (.putfield 132, 3) := by decide +kernel
theorem dX12_blames_25 : decode cX12_blames 25 = .ok (.aload_n 0, 1) := by decide +kernel
theorem dX12_blames_26 : decode cX12_blames 26 = .ok (.aload_n 0, 1) := by decide +kernel
theorem dX12_blames_27 : decode cX12_blames 27 = .ok (.getfield 109, 3) := by decide +kernel
theorem dX12_blames_30 : decode cX12_blames 30 = .ok (.putfield 135, 3) := by decide +kernel
theorem dX12_blames_33 : decode cX12_blames 33 = .ok (.return_, 1) := by decide +kernel
theorem dX12_isWord_0 : decode cX12_isWord 0 = .ok (.aload_n 0, 1) := by decide +kernel
theorem dX12_isWord_1 : decode cX12_isWord 1 = .ok (.getfield 132, 3) := by decide +kernel
theorem dX12_isWord_4 : decode cX12_isWord 4 = .ok (.ifCond .ne 31, 3) := by decide +kernel
theorem dX12_isWord_7 : decode cX12_isWord 7 = .ok (.aload_n 0, 1) := by decide +kernel
theorem dX12_isWord_8 : decode cX12_isWord 8 = .ok (.getfield 112, 3) := by decide +kernel
theorem dX12_isWord_11 : decode cX12_isWord 11 = .ok (.iconst 1, 1) := by decide +kernel
theorem dX12_isWord_12 : decode cX12_isWord 12 = .ok (.if_icmp .ne 23, 3) := by decide +kernel
theorem dX12_isWord_15 : decode cX12_isWord 15 = .ok (.aload_n 0, 1) := by decide +kernel
theorem dX12_isWord_16 : decode cX12_isWord 16 = .ok (.getfield 106, 3) := by decide +kernel
theorem dX12_isWord_19 : decode cX12_isWord 19 = .ok (.aload_n 0, 1) := by decide +kernel
theorem dX12_isWord_20 : decode cX12_isWord 20 = .ok (.getfield 109, 3) := by decide +kernel
theorem dX12_isWord_23 : decode cX12_isWord 23 = .ok (.isub, 1) := by decide +kernel
theorem dX12_isWord_24 : decode cX12_isWord 24 = .ok (.aload_n 1, 1) := by decide +kernel
theorem dX12_isWord_25 : decode cX12_isWord 25 = .ok (.invokevirtual 138, 3) := by decide +kernel
theorem dX12_isWord_28 : decode cX12_isWord 28 = .ok (.if_icmp .ne 7, 3) := by decide +kernel
theorem dX12_isWord_31 : decode cX12_isWord 31 = .ok (.iconst 1, 1) := by decide +kernel
theorem dX12_isWord_32 : decode cX12_isWord 32 = .ok (.goto 4, 3) := by decide +kernel
theorem dX12_isWord_35 : decode cX12_isWord 35 = .ok (.iconst 0, 1) := by decide +kernel
theorem dX12_isWord_36 : decode cX12_isWord 36 = .ok (.istore_n 2, 1) := by decide +kernel
theorem dX12_isWord_37 : decode cX12_isWord 37 = .ok (.iconst 0, 1) := by decide +kernel
theorem dX12_isWord_38 : decode cX12_isWord 38 = .ok (.istore_n 3, 1) := by decide +kernel
theorem dX12_isWord_39 : decode cX12_isWord 39 = .ok (.iload_n 2, 1) := by decide +kernel
theorem dX12_isWord_40 : decode cX12_isWord 40 = .ok (.ifCond .eq 42, 3) := by decide +kernel
theorem dX12_isWord_43 : decode cX12_isWord 43 = .ok (.iload_n 3, 1) := by decide +kernel
theorem dX12_isWord_44 : decode cX12_isWord 44 = .ok (.aload_n 1, 1) := by decide +kernel
theorem dX12_isWord_45 : decode cX12_isWord 45 = .ok (.invokevirtual 138, 3) := by decide +kernel
theorem dX12_isWord_48 : decode cX12_isWord 48 = .ok (.if_icmp .ge 34, 3) := by decide +kernel
theorem dX12_isWord_51 : decode cX12_isWord 51 = .ok (.aload_n 0, 1) := by decide +kernel
theorem dX12_isWord_52 : decode cX12_isWord 52 = .ok (.getfield 23, 3) := by decide +kernel
theorem dX12_isWord_55 : decode cX12_isWord 55 = .ok (.aload_n 0, 1) := by decide +kernel
theorem dX12_isWord_56 : decode cX12_isWord 56 = .ok (.getfield 109, 3) := by decide +kernel
theorem dX12_isWord_59 : decode cX12_isWord 59 = .ok (.iload_n 3, 1) := by decide +kernel
theorem dX12_isWord_60 : decode cX12_isWord 60 = .ok (.iadd, 1) := by decide +kernel
theorem dX12_isWord_61 : decode cX12_isWord 61 = .ok (.iaload, 1) := by decide +kernel
theorem dX12_isWord_62 : decode cX12_isWord 62 = .ok (.aload_n 1, 1) := by decide +kernel
theorem dX12_isWord_63 : decode cX12_isWord 63 = .ok (.iload_n 3, 1) := by decide +kernel
theorem dX12_isWord_64 : decode cX12_isWord 64 = .ok (.invokevirtual 143, 3) := by decide +kernel
theorem dX12_isWord_67 : decode cX12_isWord 67 = .ok (.if_icmp .ne 7, 3) := by decide +kernel
theorem dX12_isWord_70 : decode cX12_isWord 70 = .ok (.iconst 1, 1) := by decide +kernel
theorem dX12_isWord_71 : decode cX12_isWord 71 = .ok (.goto 4, 3) := by decide +kernel
theorem dX12_isWord_74 : decode cX12_isWord 74 = .ok (.iconst 0, 1) := by decide +kernel
theorem dX12_isWord_75 : decode cX12_isWord 75 = .ok (.istore_n 2, 1) := by decide +kernel
theorem dX12_isWord_76 : decode cX12_isWord 76 = .ok (.iinc 3 1, 3) := by decide +kernel
theorem dX12_isWord_79 : decode cX12_isWord 79 = .ok (.goto (-40), 3) := by decide +kernel
theorem dX12_isWord_82 : decode cX12_isWord 82 = .ok (.iload_n 2, 1) := by decide +kernel
theorem dX12_isWord_83 : decode cX12_isWord 83 = .ok (.ireturn, 1) := by decide +kernel
theorem dX12_took_0 : decode cX12_took 0 = .ok (.aload_n 0, 1) := by decide +kernel
theorem dX12_took_1 : decode cX12_took 1 = .ok (.aload_n 1, 1) := by decide +kernel
theorem dX12_took_2 : decode cX12_took 2 = .ok (.invokevirtual 147, 3) := by decide +kernel
theorem dX12_took_5 : decode cX12_took 5 = .ok (.istore_n 2, 1) := by decide +kernel
theorem dX12_took_6 : decode cX12_took 6 = .ok (.iload_n 2, 1) := by decide +kernel
theorem dX12_took_7 : decode cX12_took 7 = .ok (.ifCond .eq 7, 3) := by decide +kernel
theorem dX12_took_10 : decode cX12_took 10 = .ok (.aload_n 0, 1) := by decide +kernel
theorem dX12_took_11 : decode cX12_took 11 = .ok (.invokevirtual 151, 3) := by decide +kernel
theorem dX12_took_14 : decode cX12_took 14 = .ok (.iload_n 2, 1) := by decide +kernel
theorem dX12_took_15 : decode cX12_took 15 = .ok (.ireturn, 1) := by decide +kernel
theorem dX12_isSign_0 : decode cX12_isSign 0 = .ok (.aload_n 0, 1) := by decide +kernel
theorem dX12_isSign_1 : decode cX12_isSign 1 = .ok (.getfield 132, 3) := by decide +kernel
theorem dX12_isSign_4 : decode cX12_isSign 4 = .ok (.ifCond .ne 15, 3) := by decide +kernel
theorem dX12_isSign_7 : decode cX12_isSign 7 = .ok (.aload_n 0, 1) := by decide +kernel
theorem dX12_isSign_8 : decode cX12_isSign 8 = .ok (.getfield 112, 3) := by decide +kernel
theorem dX12_isSign_11 : decode cX12_isSign 11 = .ok (.iload_n 1, 1) := by decide +kernel
theorem dX12_isSign_12 : decode cX12_isSign 12 = .ok (.if_icmp .ne 7, 3) := by decide +kernel
theorem dX12_isSign_15 : decode cX12_isSign 15 = .ok (.iconst 1, 1) := by decide +kernel
theorem dX12_isSign_16 : decode cX12_isSign 16 = .ok (.goto 4, 3) := by decide +kernel
theorem dX12_isSign_19 : decode cX12_isSign 19 = .ok (.iconst 0, 1) := by decide +kernel
theorem dX12_isSign_20 : decode cX12_isSign 20 = .ok (.ireturn, 1) := by decide +kernel
theorem dX12_mustSign_0 : decode cX12_mustSign 0 = .ok (.aload_n 0, 1) := by decide +kernel
theorem dX12_mustSign_1 : decode cX12_mustSign 1 = .ok (.getfield 112, 3) := by decide +kernel
theorem dX12_mustSign_4 : decode cX12_mustSign 4 = .ok (.iload_n 1, 1) := by decide +kernel
theorem dX12_mustSign_5 : decode cX12_mustSign 5 = .ok (.if_icmp .eq 8, 3) := by decide +kernel
theorem dX12_mustSign_8 : decode cX12_mustSign 8 = .ok (.aload_n 0, 1) := by decide +kernel
theorem dX12_mustSign_9 : decode cX12_mustSign 9 = .ok (.iconst 2, 1) := by decide +kernel
theorem dX12_mustSign_10 : decode cX12_mustSign 10 = .ok (.invokevirtual 154, 3) := by decide +kernel
theorem dX12_mustSign_13 : decode cX12_mustSign 13 = .ok (.aload_n 0, 1) := by decide +kernel
theorem dX12_mustSign_14 : decode cX12_mustSign 14 = .ok (.getfield 132, 3) := by decide +kernel
theorem dX12_mustSign_17 : decode cX12_mustSign 17 = .ok (.ifCond .ne 7, 3) := by decide +kernel
theorem dX12_mustSign_20 : decode cX12_mustSign 20 = .ok (.aload_n 0, 1) := by decide +kernel
theorem dX12_mustSign_21 : decode cX12_mustSign 21 = .ok (.invokevirtual 151, 3) := by decide +kernel
theorem dX12_mustSign_24 : decode cX12_mustSign 24 = .ok (.return_, 1) := by decide +kernel
theorem dX12_number_0 : decode cX12_number 0 = .ok (.aload_n 0, 1) := by decide +kernel
theorem dX12_number_1 : decode cX12_number 1 = .ok (.getfield 112, 3) := by decide +kernel
theorem dX12_number_4 : decode cX12_number 4 = .ok (.iconst 2, 1) := by decide +kernel
theorem dX12_number_5 : decode cX12_number 5 = .ok (.if_icmp .eq 11, 3) := by decide +kernel
theorem dX12_number_8 : decode cX12_number 8 = .ok (.aload_n 0, 1) := by decide +kernel
theorem dX12_number_9 : decode cX12_number 9 = .ok (.iconst 2, 1) := by decide +kernel
theorem dX12_number_10 : decode cX12_number 10 = .ok (.invokevirtual 154, 3) := by decide +kernel
theorem dX12_number_13 : decode cX12_number 13 = .ok (.goto 23, 3) := by decide +kernel
theorem dX12_number_16 : decode cX12_number 16 = .ok (.aload_n 0, 1) := by decide +kernel
theorem dX12_number_17 : decode cX12_number 17 = .ok (.getfield 126, 3) := by decide +kernel
theorem dX12_number_20 : decode cX12_number 20 = .ok (.i2l, 1) := by decide +kernel
theorem dX12_number_21 : decode cX12_number 21 = .ok (.iload_n 1, 1) := by decide +kernel
theorem dX12_number_22 : decode cX12_number 22 = .ok (.i2l, 1) := by decide +kernel
theorem dX12_number_23 : decode cX12_number 23 = .ok (.iload_n 2, 1) := by decide +kernel
theorem dX12_number_24 : decode cX12_number 24 = .ok (.i2l, 1) := by decide +kernel
theorem dX12_number_25 : decode cX12_number 25 = .ok (.invokestatic 158, 3) := by decide +kernel
theorem dX12_number_28 : decode cX12_number 28 = .ok (.ifCond .ne 8, 3) := by decide +kernel
theorem dX12_number_31 : decode cX12_number 31 = .ok (.aload_n 0, 1) := by decide +kernel
theorem dX12_number_32 : decode cX12_number 32 = .ok (.iconst 3, 1) := by decide +kernel
theorem dX12_number_33 : decode cX12_number 33 = .ok (.invokevirtual 154, 3) := by decide +kernel
theorem dX12_number_36 : decode cX12_number 36 = .ok (.aload_n 0, 1) := by decide +kernel
theorem dX12_number_37 : decode cX12_number 37 = .ok (.getfield 126, 3) := by decide +kernel
theorem dX12_number_40 : decode cX12_number 40 = .ok (.istore_n 3, 1) := by decide +kernel
theorem dX12_number_41 : decode cX12_number 41 = .ok (.aload_n 0, 1) := by decide +kernel
theorem dX12_number_42 : decode cX12_number 42 = .ok (.getfield 132, 3) := by decide +kernel
theorem dX12_number_45 : decode cX12_number 45 = .ok (.ifCond .ne 7, 3) := by decide +kernel
theorem dX12_number_48 : decode cX12_number 48 = .ok (.aload_n 0, 1) := by decide +kernel
theorem dX12_number_49 : decode cX12_number 49 = .ok (.invokevirtual 151, 3) := by decide +kernel
theorem dX12_number_52 : decode cX12_number 52 = .ok (.aload_n 0, 1) := by decide +kernel
theorem dX12_number_53 : decode cX12_number 53 = .ok (.getfield 132, 3) := by decide +kernel
theorem dX12_number_56 : decode cX12_number 56 = .ok (.ifCond .ne 7, 3) := by decide +kernel
theorem dX12_number_59 : decode cX12_number 59 = .ok (.iload_n 3, 1) := by decide +kernel
theorem dX12_number_60 : decode cX12_number 60 = .ok (.goto 4, 3) := by decide +kernel
theorem dX12_number_63 : decode cX12_number 63 = .ok (.iload_n 1, 1) := by decide +kernel
theorem dX12_number_64 : decode cX12_number 64 = .ok (.ireturn, 1) := by decide +kernel
theorem dX12_mustWord_0 : decode cX12_mustWord 0 = .ok (.aload_n 0, 1) := by decide +kernel
theorem dX12_mustWord_1 : decode cX12_mustWord 1 = .ok (.aload_n 1, 1) := by decide +kernel
theorem dX12_mustWord_2 : decode cX12_mustWord 2 = .ok (.invokevirtual 162, 3) := by decide +kernel
theorem dX12_mustWord_5 : decode cX12_mustWord 5 = .ok (.ifCond .ne 8, 3) := by decide +kernel
theorem dX12_mustWord_8 : decode cX12_mustWord 8 = .ok (.aload_n 0, 1) := by decide +kernel
theorem dX12_mustWord_9 : decode cX12_mustWord 9 = .ok (.iconst 2, 1) := by decide +kernel
theorem dX12_mustWord_10 : decode cX12_mustWord 10 = .ok (.invokevirtual 154, 3) := by decide +kernel
theorem dX12_mustWord_13 : decode cX12_mustWord 13 = .ok (.return_, 1) := by decide +kernel
theorem dX12_laysStep_0 : decode cX12_laysStep 0 = .ok (.aload_n 0, 1) := by decide +kernel
theorem dX12_laysStep_1 : decode cX12_laysStep 1 = .ok (.getfield 132, 3) := by decide +kernel
theorem dX12_laysStep_4 : decode cX12_laysStep 4 = .ok (.ifCond .eq 4, 3) := by decide +kernel
theorem dX12_laysStep_7 : decode cX12_laysStep 7 = .ok (.return_, 1) := by decide +kernel
theorem dX12_laysStep_8 : decode cX12_laysStep 8 = .ok (.aload_n 0, 1) := by decide +kernel
theorem dX12_laysStep_9 : decode cX12_laysStep 9 = .ok (.getfield 13, 3) := by decide +kernel
theorem dX12_laysStep_12 : decode cX12_laysStep 12 = .ok (.aload_n 0, 1) := by decide +kernel
theorem dX12_laysStep_13 : decode cX12_laysStep 13 = .ok (.getfield 165, 3) := by decide +kernel
theorem dX12_laysStep_16 : decode cX12_laysStep 16 = .ok (.aload_n 0, 1) := by decide +kernel
theorem dX12_laysStep_17 : decode cX12_laysStep 17 = .ok (.getfield 13, 3) := by decide +kernel
theorem dX12_laysStep_20 : decode cX12_laysStep 20 = .ok (.aload_n 0, 1) := by decide +kernel
theorem dX12_laysStep_21 : decode cX12_laysStep 21 = .ok (.getfield 168, 3) := by decide +kernel
theorem dX12_laysStep_24 : decode cX12_laysStep 24 = .ok (.iaload, 1) := by decide +kernel
theorem dX12_laysStep_25 : decode cX12_laysStep 25 = .ok (.iadd, 1) := by decide +kernel
theorem dX12_laysStep_26 : decode cX12_laysStep 26 = .ok (.iload_n 1, 1) := by decide +kernel
theorem dX12_laysStep_27 : decode cX12_laysStep 27 = .ok (.iastore, 1) := by decide +kernel
theorem dX12_laysStep_28 : decode cX12_laysStep 28 = .ok (.aload_n 0, 1) := by decide +kernel
theorem dX12_laysStep_29 : decode cX12_laysStep 29 = .ok (.getfield 13, 3) := by decide +kernel
theorem dX12_laysStep_32 : decode cX12_laysStep 32 = .ok (.aload_n 0, 1) := by decide +kernel
theorem dX12_laysStep_33 : decode cX12_laysStep 33 = .ok (.getfield 168, 3) := by decide +kernel
theorem dX12_laysStep_36 : decode cX12_laysStep 36 = .ok (.dup2, 1) := by decide +kernel
theorem dX12_laysStep_37 : decode cX12_laysStep 37 = .ok (.iaload, 1) := by decide +kernel
theorem dX12_laysStep_38 : decode cX12_laysStep 38 = .ok (.iconst 1, 1) := by decide +kernel
theorem dX12_laysStep_39 : decode cX12_laysStep 39 = .ok (.iadd, 1) := by decide +kernel
theorem dX12_laysStep_40 : decode cX12_laysStep 40 = .ok (.iastore, 1) := by decide +kernel
theorem dX12_laysStep_41 : decode cX12_laysStep 41 = .ok (.return_, 1) := by decide +kernel
theorem dX12_beginsLaw_0 : decode cX12_beginsLaw 0 = .ok (.aload_n 0, 1) := by decide +kernel
theorem dX12_beginsLaw_1 : decode cX12_beginsLaw 1 = .ok (.iload_n 1, 1) := by decide +kernel
theorem dX12_beginsLaw_2 : decode cX12_beginsLaw 2 = .ok (.putfield 168, 3) := by decide +kernel
theorem dX12_beginsLaw_5 : decode cX12_beginsLaw 5 = .ok (.aload_n 0, 1) := by decide +kernel
theorem dX12_beginsLaw_6 : decode cX12_beginsLaw 6 = .ok (.iload_n 2, 1) := by decide +kernel
theorem dX12_beginsLaw_7 : decode cX12_beginsLaw 7 = .ok (.putfield 165, 3) := by decide +kernel
theorem dX12_beginsLaw_10 : decode cX12_beginsLaw 10 = .ok (.aload_n 0, 1) := by decide +kernel
theorem dX12_beginsLaw_11 : decode cX12_beginsLaw 11 = .ok (.getfield 13, 3) := by decide +kernel
theorem dX12_beginsLaw_14 : decode cX12_beginsLaw 14 = .ok (.iload_n 1, 1) := by decide +kernel
theorem dX12_beginsLaw_15 : decode cX12_beginsLaw 15 = .ok (.iconst 0, 1) := by decide +kernel
theorem dX12_beginsLaw_16 : decode cX12_beginsLaw 16 = .ok (.iastore, 1) := by decide +kernel
theorem dX12_beginsLaw_17 : decode cX12_beginsLaw 17 = .ok (.aload_n 0, 1) := by decide +kernel
theorem dX12_beginsLaw_18 : decode cX12_beginsLaw 18 = .ok (.bipush 58, 2) := by decide +kernel
theorem dX12_beginsLaw_20 : decode cX12_beginsLaw 20 = .ok (.invokevirtual 171, 3) := by decide +kernel
theorem dX12_beginsLaw_23 : decode cX12_beginsLaw 23 = .ok (.return_, 1) := by decide +kernel
theorem dX12_goesIn_0 : decode cX12_goesIn 0 = .ok (.aload_n 0, 1) := by decide +kernel
theorem dX12_goesIn_1 : decode cX12_goesIn 1 = .ok (.getfield 174, 3) := by decide +kernel
theorem dX12_goesIn_4 : decode cX12_goesIn 4 = .ok (.bipush 6, 2) := by decide +kernel
theorem dX12_goesIn_6 : decode cX12_goesIn 6 = .ok (.if_icmp .ne 8, 3) := by decide +kernel
theorem dX12_goesIn_9 : decode cX12_goesIn 9 = .ok (.aload_n 0, 1) := by decide +kernel
theorem dX12_goesIn_10 : decode cX12_goesIn 10 = .ok (.iconst 4, 1) := by decide +kernel
theorem dX12_goesIn_11 : decode cX12_goesIn 11 = .ok (.invokevirtual 154, 3) := by decide +kernel
theorem dX12_goesIn_14 : decode cX12_goesIn 14 = .ok (.aload_n 0, 1) := by decide +kernel
theorem dX12_goesIn_15 : decode cX12_goesIn 15 = .ok (.dup, 1) := by decide +kernel
theorem dX12_goesIn_16 : decode cX12_goesIn 16 = .ok (.getfield 174, 3) := by decide +kernel
theorem dX12_goesIn_19 : decode cX12_goesIn 19 = .ok (.iconst 1, 1) := by decide +kernel
theorem dX12_goesIn_20 : decode cX12_goesIn 20 = .ok (.iadd, 1) := by decide +kernel
theorem dX12_goesIn_21 : decode cX12_goesIn 21 = .ok (.putfield 174, 3) := by decide +kernel
theorem dX12_goesIn_24 : decode cX12_goesIn 24 = .ok (.aload_n 0, 1) := by decide +kernel
theorem dX12_goesIn_25 : decode cX12_goesIn 25 = .ok (.getfield 132, 3) := by decide +kernel
theorem dX12_goesIn_28 : decode cX12_goesIn 28 = .ok (.ifCond .ne 7, 3) := by decide +kernel
theorem dX12_goesIn_31 : decode cX12_goesIn 31 = .ok (.aload_n 0, 1) := by decide +kernel
theorem dX12_goesIn_32 : decode cX12_goesIn 32 = .ok (.invokevirtual 151, 3) := by decide +kernel
theorem dX12_goesIn_35 : decode cX12_goesIn 35 = .ok (.return_, 1) := by decide +kernel
theorem dX12_readTruth_0 : decode cX12_readTruth 0 = .ok (.aload_n 0, 1) := by decide +kernel
theorem dX12_readTruth_1 : decode cX12_readTruth 1 = .ok (.invokevirtual 177, 3) := by decide +kernel
theorem dX12_readTruth_4 : decode cX12_readTruth 4 = .ok (.aload_n 0, 1) := by decide +kernel
theorem dX12_readTruth_5 : decode cX12_readTruth 5 = .ok (.ldc 180, 2) := by decide +kernel
theorem dX12_readTruth_7 : decode cX12_readTruth 7 = .ok (.invokevirtual 162, 3) := by decide +kernel
theorem dX12_readTruth_10 : decode cX12_readTruth 10 = .ok (.ifCond .eq 16, 3) := by decide +kernel
theorem dX12_readTruth_13 : decode cX12_readTruth 13 = .ok (.aload_n 0, 1) := by decide +kernel
theorem dX12_readTruth_14 : decode cX12_readTruth 14 = .ok (.invokevirtual 177, 3) := by decide +kernel
theorem dX12_readTruth_17 : decode cX12_readTruth 17 = .ok (.aload_n 0, 1) := by decide +kernel
theorem dX12_readTruth_18 : decode cX12_readTruth 18 = .ok (.bipush 17, 2) := by decide +kernel
theorem dX12_readTruth_20 : decode cX12_readTruth 20 = .ok (.invokevirtual 182, 3) := by decide +kernel
theorem dX12_readTruth_23 : decode cX12_readTruth 23 = .ok (.goto (-19), 3) := by decide +kernel
theorem dX12_readTruth_26 : decode cX12_readTruth 26 = .ok (.return_, 1) := by decide +kernel
theorem dX12_readBoth_0 : decode cX12_readBoth 0 = .ok (.aload_n 0, 1) := by decide +kernel
theorem dX12_readBoth_1 : decode cX12_readBoth 1 = .ok (.invokevirtual 185, 3) := by decide +kernel
theorem dX12_readBoth_4 : decode cX12_readBoth 4 = .ok (.aload_n 0, 1) := by decide +kernel
theorem dX12_readBoth_5 : decode cX12_readBoth 5 = .ok (.ldc 188, 2) := by decide +kernel
theorem dX12_readBoth_7 : decode cX12_readBoth 7 = .ok (.invokevirtual 162, 3) := by decide +kernel
theorem dX12_readBoth_10 : decode cX12_readBoth 10 = .ok (.ifCond .eq 16, 3) := by decide +kernel
theorem dX12_readBoth_13 : decode cX12_readBoth 13 = .ok (.aload_n 0, 1) := by decide +kernel
theorem dX12_readBoth_14 : decode cX12_readBoth 14 = .ok (.invokevirtual 185, 3) := by decide +kernel
theorem dX12_readBoth_17 : decode cX12_readBoth 17 = .ok (.aload_n 0, 1) := by decide +kernel
theorem dX12_readBoth_18 : decode cX12_readBoth 18 = .ok (.bipush 16, 2) := by decide +kernel
theorem dX12_readBoth_20 : decode cX12_readBoth 20 = .ok (.invokevirtual 182, 3) := by decide +kernel
theorem dX12_readBoth_23 : decode cX12_readBoth 23 = .ok (.goto (-19), 3) := by decide +kernel
theorem dX12_readBoth_26 : decode cX12_readBoth 26 = .ok (.return_, 1) := by decide +kernel
theorem dX12_readUnit_0 : decode cX12_readUnit 0 = .ok (.aload_n 0, 1) := by decide +kernel
theorem dX12_readUnit_1 : decode cX12_readUnit 1 = .ok (.getfield 132, 3) := by decide +kernel
theorem dX12_readUnit_4 : decode cX12_readUnit 4 = .ok (.ifCond .eq 4, 3) := by decide +kernel
theorem dX12_readUnit_7 : decode cX12_readUnit 7 = .ok (.return_, 1) := by decide +kernel
theorem dX12_readUnit_8 : decode cX12_readUnit 8 = .ok (.aload_n 0, 1) := by decide +kernel
theorem dX12_readUnit_9 : decode cX12_readUnit 9 = .ok (.ldc 190, 2) := by decide +kernel
theorem dX12_readUnit_11 : decode cX12_readUnit 11 = .ok (.invokevirtual 147, 3) := by decide +kernel
theorem dX12_readUnit_14 : decode cX12_readUnit 14 = .ok (.ifCond .eq 30, 3) := by decide +kernel
theorem dX12_readUnit_17 : decode cX12_readUnit 17 = .ok (.aload_n 0, 1) := by decide +kernel
theorem dX12_readUnit_18 : decode cX12_readUnit 18 = .ok (.invokevirtual 192, 3) := by decide +kernel
theorem dX12_readUnit_21 : decode cX12_readUnit 21 = .ok (.aload_n 0, 1) := by decide +kernel
theorem dX12_readUnit_22 : decode cX12_readUnit 22 = .ok (.invokevirtual 185, 3) := by decide +kernel
theorem dX12_readUnit_25 : decode cX12_readUnit 25 = .ok (.aload_n 0, 1) := by decide +kernel
theorem dX12_readUnit_26 : decode cX12_readUnit 26 = .ok (.bipush 18, 2) := by decide +kernel
theorem dX12_readUnit_28 : decode cX12_readUnit 28 = .ok (.invokevirtual 182, 3) := by decide +kernel
theorem dX12_readUnit_31 : decode cX12_readUnit 31 = .ok (.aload_n 0, 1) := by decide +kernel
theorem dX12_readUnit_32 : decode cX12_readUnit 32 = .ok (.dup, 1) := by decide +kernel
theorem dX12_readUnit_33 : decode cX12_readUnit 33 = .ok (.getfield 174, 3) := by decide +kernel
theorem dX12_readUnit_36 : decode cX12_readUnit 36 = .ok (.iconst 1, 1) := by decide +kernel
theorem dX12_readUnit_37 : decode cX12_readUnit 37 = .ok (.isub, 1) := by decide +kernel
theorem dX12_readUnit_38 : decode cX12_readUnit 38 = .ok (.putfield 174, 3) := by decide +kernel
theorem dX12_readUnit_41 : decode cX12_readUnit 41 = .ok (.goto 114, 3) := by decide +kernel
theorem dX12_readUnit_44 : decode cX12_readUnit 44 = .ok (.aload_n 0, 1) := by decide +kernel
theorem dX12_readUnit_45 : decode cX12_readUnit 45 = .ok (.bipush 91, 2) := by decide +kernel
theorem dX12_readUnit_47 : decode cX12_readUnit 47 = .ok (.invokevirtual 195, 3) := by decide +kernel
theorem dX12_readUnit_50 : decode cX12_readUnit 50 = .ok (.ifCond .eq 30, 3) := by decide +kernel
theorem dX12_readUnit_53 : decode cX12_readUnit 53 = .ok (.aload_n 0, 1) := by decide +kernel
theorem dX12_readUnit_54 : decode cX12_readUnit 54 = .ok (.invokevirtual 192, 3) := by decide +kernel
theorem dX12_readUnit_57 : decode cX12_readUnit 57 = .ok (.aload_n 0, 1) := by decide +kernel
theorem dX12_readUnit_58 : decode cX12_readUnit 58 = .ok (.invokevirtual 198, 3) := by decide +kernel
theorem dX12_readUnit_61 : decode cX12_readUnit 61 = .ok (.aload_n 0, 1) := by decide +kernel
theorem dX12_readUnit_62 : decode cX12_readUnit 62 = .ok (.bipush 93, 2) := by decide +kernel
theorem dX12_readUnit_64 : decode cX12_readUnit 64 = .ok (.invokevirtual 171, 3) := by decide +kernel
theorem dX12_readUnit_67 : decode cX12_readUnit 67 = .ok (.aload_n 0, 1) := by decide +kernel
theorem dX12_readUnit_68 : decode cX12_readUnit 68 = .ok (.dup, 1) := by decide +kernel
theorem dX12_readUnit_69 : decode cX12_readUnit 69 = .ok (.getfield 174, 3) := by decide +kernel
theorem dX12_readUnit_72 : decode cX12_readUnit 72 = .ok (.iconst 1, 1) := by decide +kernel
theorem dX12_readUnit_73 : decode cX12_readUnit 73 = .ok (.isub, 1) := by decide +kernel
theorem dX12_readUnit_74 : decode cX12_readUnit 74 = .ok (.putfield 174, 3) := by decide +kernel
theorem dX12_readUnit_77 : decode cX12_readUnit 77 = .ok (.goto 78, 3) := by decide +kernel
theorem dX12_readUnit_80 : decode cX12_readUnit 80 = .ok (.aload_n 0, 1) := by decide +kernel
theorem dX12_readUnit_81 : decode cX12_readUnit 81 = .ok (.invokevirtual 201, 3) := by decide +kernel
theorem dX12_readUnit_84 : decode cX12_readUnit 84 = .ok (.aload_n 0, 1) := by decide +kernel
theorem dX12_readUnit_85 : decode cX12_readUnit 85 = .ok (.getfield 112, 3) := by decide +kernel
theorem dX12_readUnit_88 : decode cX12_readUnit 88 = .ok (.istore_n 1, 1) := by decide +kernel
theorem dX12_readUnit_89 : decode cX12_readUnit 89 = .ok (.iload_n 1, 1) := by decide +kernel
theorem dX12_readUnit_90 : decode cX12_readUnit 90 = .ok (.bipush 61, 2) := by decide +kernel
theorem dX12_readUnit_92 : decode cX12_readUnit 92 = .ok (.if_icmp .eq 20, 3) := by decide +kernel
theorem dX12_readUnit_95 : decode cX12_readUnit 95 = .ok (.iload_n 1, 1) := by decide +kernel
theorem dX12_readUnit_96 : decode cX12_readUnit 96 = .ok (.bipush 60, 2) := by decide +kernel
theorem dX12_readUnit_98 : decode cX12_readUnit 98 = .ok (.if_icmp .eq 14, 3) := by decide +kernel
theorem dX12_readUnit_101 : decode cX12_readUnit 101 = .ok (.iload_n 1, 1) := by decide +kernel
theorem dX12_readUnit_102 : decode cX12_readUnit 102 = .ok (.bipush 62, 2) := by decide +kernel
theorem dX12_readUnit_104 : decode cX12_readUnit 104 = .ok (.if_icmp .eq 8, 3) := by decide +kernel
theorem dX12_readUnit_107 : decode cX12_readUnit 107 = .ok (.aload_n 0, 1) := by decide +kernel
theorem dX12_readUnit_108 : decode cX12_readUnit 108 = .ok (.iconst 2, 1) := by decide +kernel
theorem dX12_readUnit_109 : decode cX12_readUnit 109 = .ok (.invokevirtual 154, 3) := by decide +kernel
theorem dX12_readUnit_112 : decode cX12_readUnit 112 = .ok (.aload_n 0, 1) := by decide +kernel
theorem dX12_readUnit_113 : decode cX12_readUnit 113 = .ok (.getfield 132, 3) := by decide +kernel
theorem dX12_readUnit_116 : decode cX12_readUnit 116 = .ok (.ifCond .ne 7, 3) := by decide +kernel
theorem dX12_readUnit_119 : decode cX12_readUnit 119 = .ok (.aload_n 0, 1) := by decide +kernel
theorem dX12_readUnit_120 : decode cX12_readUnit 120 = .ok (.invokevirtual 151, 3) := by decide +kernel
theorem dX12_readUnit_123 : decode cX12_readUnit 123 = .ok (.aload_n 0, 1) := by decide +kernel
theorem dX12_readUnit_124 : decode cX12_readUnit 124 = .ok (.invokevirtual 201, 3) := by decide +kernel
theorem dX12_readUnit_127 : decode cX12_readUnit 127 = .ok (.aload_n 0, 1) := by decide +kernel
theorem dX12_readUnit_128 : decode cX12_readUnit 128 = .ok (.iload_n 1, 1) := by decide +kernel
theorem dX12_readUnit_129 : decode cX12_readUnit 129 = .ok (.bipush 61, 2) := by decide +kernel
theorem dX12_readUnit_131 : decode cX12_readUnit 131 = .ok (.if_icmp .ne 8, 3) := by decide +kernel
theorem dX12_readUnit_134 : decode cX12_readUnit 134 = .ok (.bipush 13, 2) := by decide +kernel
theorem dX12_readUnit_136 : decode cX12_readUnit 136 = .ok (.goto 16, 3) := by decide +kernel
theorem dX12_readUnit_139 : decode cX12_readUnit 139 = .ok (.iload_n 1, 1) := by decide +kernel
theorem dX12_readUnit_140 : decode cX12_readUnit 140 = .ok (.bipush 60, 2) := by decide +kernel
theorem dX12_readUnit_142 : decode cX12_readUnit 142 = .ok (.if_icmp .ne 8, 3) := by decide +kernel
theorem dX12_readUnit_145 : decode cX12_readUnit 145 = .ok (.bipush 14, 2) := by decide +kernel
theorem dX12_readUnit_147 : decode cX12_readUnit 147 = .ok (.goto 5, 3) := by decide +kernel
theorem dX12_readUnit_150 : decode cX12_readUnit 150 = .ok (.bipush 15, 2) := by decide +kernel
theorem dX12_readUnit_152 : decode cX12_readUnit 152 = .ok (.invokevirtual 182, 3) := by decide +kernel
theorem dX12_readUnit_155 : decode cX12_readUnit 155 = .ok (.return_, 1) := by decide +kernel
theorem dX12_readSum_0 : decode cX12_readSum 0 = .ok (.aload_n 0, 1) := by decide +kernel
theorem dX12_readSum_1 : decode cX12_readSum 1 = .ok (.invokevirtual 204, 3) := by decide +kernel
theorem dX12_readSum_4 : decode cX12_readSum 4 = .ok (.aload_n 0, 1) := by decide +kernel
theorem dX12_readSum_5 : decode cX12_readSum 5 = .ok (.bipush 43, 2) := by decide +kernel
theorem dX12_readSum_7 : decode cX12_readSum 7 = .ok (.invokevirtual 195, 3) := by decide +kernel
theorem dX12_readSum_10 : decode cX12_readSum 10 = .ok (.ifCond .ne 12, 3) := by decide +kernel
theorem dX12_readSum_13 : decode cX12_readSum 13 = .ok (.aload_n 0, 1) := by decide +kernel
theorem dX12_readSum_14 : decode cX12_readSum 14 = .ok (.bipush 45, 2) := by decide +kernel
theorem dX12_readSum_16 : decode cX12_readSum 16 = .ok (.invokevirtual 195, 3) := by decide +kernel
theorem dX12_readSum_19 : decode cX12_readSum 19 = .ok (.ifCond .eq 36, 3) := by decide +kernel
theorem dX12_readSum_22 : decode cX12_readSum 22 = .ok (.aload_n 0, 1) := by decide +kernel
theorem dX12_readSum_23 : decode cX12_readSum 23 = .ok (.getfield 112, 3) := by decide +kernel
theorem dX12_readSum_26 : decode cX12_readSum 26 = .ok (.istore_n 1, 1) := by decide +kernel
theorem dX12_readSum_27 : decode cX12_readSum 27 = .ok (.aload_n 0, 1) := by decide +kernel
theorem dX12_readSum_28 : decode cX12_readSum 28 = .ok (.invokevirtual 151, 3) := by decide +kernel
theorem dX12_readSum_31 : decode cX12_readSum 31 = .ok (.aload_n 0, 1) := by decide +kernel
theorem dX12_readSum_32 : decode cX12_readSum 32 = .ok (.invokevirtual 204, 3) := by decide +kernel
theorem dX12_readSum_35 : decode cX12_readSum 35 = .ok (.aload_n 0, 1) := by decide +kernel
theorem dX12_readSum_36 : decode cX12_readSum 36 = .ok (.iload_n 1, 1) := by decide +kernel
theorem dX12_readSum_37 : decode cX12_readSum 37 = .ok (.bipush 43, 2) := by decide +kernel
theorem dX12_readSum_39 : decode cX12_readSum 39 = .ok (.if_icmp .ne 8, 3) := by decide +kernel
theorem dX12_readSum_42 : decode cX12_readSum 42 = .ok (.bipush 10, 2) := by decide +kernel
theorem dX12_readSum_44 : decode cX12_readSum 44 = .ok (.goto 5, 3) := by decide +kernel
theorem dX12_readSum_47 : decode cX12_readSum 47 = .ok (.bipush 11, 2) := by decide +kernel
theorem dX12_readSum_49 : decode cX12_readSum 49 = .ok (.invokevirtual 182, 3) := by decide +kernel
theorem dX12_readSum_52 : decode cX12_readSum 52 = .ok (.goto (-48), 3) := by decide +kernel
theorem dX12_readSum_55 : decode cX12_readSum 55 = .ok (.return_, 1) := by decide +kernel
theorem dX12_readTerm_0 : decode cX12_readTerm 0 = .ok (.aload_n 0, 1) := by decide +kernel
theorem dX12_readTerm_1 : decode cX12_readTerm 1 = .ok (.invokevirtual 207, 3) := by decide +kernel
theorem dX12_readTerm_4 : decode cX12_readTerm 4 = .ok (.aload_n 0, 1) := by decide +kernel
theorem dX12_readTerm_5 : decode cX12_readTerm 5 = .ok (.bipush 42, 2) := by decide +kernel
theorem dX12_readTerm_7 : decode cX12_readTerm 7 = .ok (.invokevirtual 195, 3) := by decide +kernel
theorem dX12_readTerm_10 : decode cX12_readTerm 10 = .ok (.ifCond .eq 20, 3) := by decide +kernel
theorem dX12_readTerm_13 : decode cX12_readTerm 13 = .ok (.aload_n 0, 1) := by decide +kernel
theorem dX12_readTerm_14 : decode cX12_readTerm 14 = .ok (.invokevirtual 151, 3) := by decide +kernel
theorem dX12_readTerm_17 : decode cX12_readTerm 17 = .ok (.aload_n 0, 1) := by decide +kernel
theorem dX12_readTerm_18 : decode cX12_readTerm 18 = .ok (.invokevirtual 207, 3) := by decide +kernel
theorem dX12_readTerm_21 : decode cX12_readTerm 21 = .ok (.aload_n 0, 1) := by decide +kernel
theorem dX12_readTerm_22 : decode cX12_readTerm 22 = .ok (.bipush 12, 2) := by decide +kernel
theorem dX12_readTerm_24 : decode cX12_readTerm 24 = .ok (.invokevirtual 182, 3) := by decide +kernel
theorem dX12_readTerm_27 : decode cX12_readTerm 27 = .ok (.goto (-23), 3) := by decide +kernel
theorem dX12_readTerm_30 : decode cX12_readTerm 30 = .ok (.return_, 1) := by decide +kernel
theorem dX12_degreeWord_0 : decode cX12_degreeWord 0 = .ok (.aload_n 0, 1) := by decide +kernel
theorem dX12_degreeWord_1 : decode cX12_degreeWord 1 = .ok (.ldc 210, 2) := by decide +kernel
theorem dX12_degreeWord_3 : decode cX12_degreeWord 3 = .ok (.invokevirtual 162, 3) := by decide +kernel
theorem dX12_degreeWord_6 : decode cX12_degreeWord 6 = .ok (.ifCond .eq 5, 3) := by decide +kernel
theorem dX12_degreeWord_9 : decode cX12_degreeWord 9 = .ok (.iconst 0, 1) := by decide +kernel
theorem dX12_degreeWord_10 : decode cX12_degreeWord 10 = .ok (.ireturn, 1) := by decide +kernel
theorem dX12_degreeWord_11 : decode cX12_degreeWord 11 = .ok (.aload_n 0, 1) := by decide +kernel
theorem dX12_degreeWord_12 : decode cX12_degreeWord 12 = .ok (.ldc 212, 2) := by decide +kernel
theorem dX12_degreeWord_14 : decode cX12_degreeWord 14 = .ok (.invokevirtual 162, 3) := by decide +kernel
theorem dX12_degreeWord_17 : decode cX12_degreeWord 17 = .ok (.ifCond .eq 5, 3) := by decide +kernel
theorem dX12_degreeWord_20 : decode cX12_degreeWord 20 = .ok (.iconst 1, 1) := by decide +kernel
theorem dX12_degreeWord_21 : decode cX12_degreeWord 21 = .ok (.ireturn, 1) := by decide +kernel
theorem dX12_degreeWord_22 : decode cX12_degreeWord 22 = .ok (.aload_n 0, 1) := by decide +kernel
theorem dX12_degreeWord_23 : decode cX12_degreeWord 23 = .ok (.ldc 214, 2) := by decide +kernel
theorem dX12_degreeWord_25 : decode cX12_degreeWord 25 = .ok (.invokevirtual 162, 3) := by decide +kernel
theorem dX12_degreeWord_28 : decode cX12_degreeWord 28 = .ok (.ifCond .eq 5, 3) := by decide +kernel
theorem dX12_degreeWord_31 : decode cX12_degreeWord 31 = .ok (.iconst 2, 1) := by decide +kernel
theorem dX12_degreeWord_32 : decode cX12_degreeWord 32 = .ok (.ireturn, 1) := by decide +kernel
theorem dX12_degreeWord_33 : decode cX12_degreeWord 33 = .ok (.aload_n 0, 1) := by decide +kernel
theorem dX12_degreeWord_34 : decode cX12_degreeWord 34 = .ok (.ldc 216, 2) := by decide +kernel
theorem dX12_degreeWord_36 : decode cX12_degreeWord 36 = .ok (.invokevirtual 162, 3) := by decide +kernel
theorem dX12_degreeWord_39 : decode cX12_degreeWord 39 = .ok (.ifCond .eq 5, 3) := by decide +kernel
theorem dX12_degreeWord_42 : decode cX12_degreeWord 42 = .ok (.iconst 3, 1) := by decide +kernel
theorem dX12_degreeWord_43 : decode cX12_degreeWord 43 = .ok (.ireturn, 1) := by decide +kernel
theorem dX12_degreeWord_44 : decode cX12_degreeWord 44 = .ok (.aload_n 0, 1) := by decide +kernel
theorem dX12_degreeWord_45 : decode cX12_degreeWord 45 = .ok (.ldc 218, 2) := by decide +kernel
theorem dX12_degreeWord_47 : decode cX12_degreeWord 47 = .ok (.invokevirtual 162, 3) := by decide +kernel
theorem dX12_degreeWord_50 : decode cX12_degreeWord 50 = .ok (.ifCond .eq 5, 3) := by decide +kernel
theorem dX12_degreeWord_53 : decode cX12_degreeWord 53 = .ok (.iconst 4, 1) := by decide +kernel
theorem dX12_degreeWord_54 : decode cX12_degreeWord 54 = .ok (.ireturn, 1) := by decide +kernel
theorem dX12_degreeWord_55 : decode cX12_degreeWord 55 = .ok (.aload_n 0, 1) := by decide +kernel
theorem dX12_degreeWord_56 : decode cX12_degreeWord 56 = .ok (.ldc 220, 2) := by decide +kernel
theorem dX12_degreeWord_58 : decode cX12_degreeWord 58 = .ok (.invokevirtual 162, 3) := by decide +kernel
theorem dX12_degreeWord_61 : decode cX12_degreeWord 61 = .ok (.ifCond .eq 7, 3) := by decide +kernel
theorem dX12_degreeWord_64 : decode cX12_degreeWord 64 = .ok (.iconst 5, 1) := by decide +kernel
theorem dX12_degreeWord_65 : decode cX12_degreeWord 65 = .ok (.goto 4, 3) := by decide +kernel
theorem dX12_degreeWord_68 : decode cX12_degreeWord 68 = .ok (.iconst (-1), 1) := by decide +kernel
theorem dX12_degreeWord_69 : decode cX12_degreeWord 69 = .ok (.ireturn, 1) := by decide +kernel
theorem dX12_prevailWord_0 : decode cX12_prevailWord 0 = .ok (.aload_n 0, 1) := by decide +kernel
theorem dX12_prevailWord_1 : decode cX12_prevailWord 1 = .ok (.ldc 222, 2) := by decide +kernel
theorem dX12_prevailWord_3 : decode cX12_prevailWord 3 = .ok (.invokevirtual 162, 3) := by decide +kernel
theorem dX12_prevailWord_6 : decode cX12_prevailWord 6 = .ok (.ifCond .eq 5, 3) := by decide +kernel
theorem dX12_prevailWord_9 : decode cX12_prevailWord 9 = .ok (.iconst 0, 1) := by decide +kernel
theorem dX12_prevailWord_10 : decode cX12_prevailWord 10 = .ok (.ireturn, 1) := by decide +kernel
theorem dX12_prevailWord_11 : decode cX12_prevailWord 11 = .ok (.aload_n 0, 1) := by decide +kernel
theorem dX12_prevailWord_12 : decode cX12_prevailWord 12 = .ok (.ldc 224, 2) := by decide +kernel
theorem dX12_prevailWord_14 : decode cX12_prevailWord 14 = .ok (.invokevirtual 162, 3) := by decide +kernel
theorem dX12_prevailWord_17 : decode cX12_prevailWord 17 = .ok (.ifCond .eq 5, 3) := by decide +kernel
theorem dX12_prevailWord_20 : decode cX12_prevailWord 20 = .ok (.iconst 1, 1) := by decide +kernel
theorem dX12_prevailWord_21 : decode cX12_prevailWord 21 = .ok (.ireturn, 1) := by decide +kernel
theorem dX12_prevailWord_22 : decode cX12_prevailWord 22 = .ok (.aload_n 0, 1) := by decide +kernel
theorem dX12_prevailWord_23 : decode cX12_prevailWord 23 = .ok (.ldc 226, 2) := by decide +kernel
theorem dX12_prevailWord_25 : decode cX12_prevailWord 25 = .ok (.invokevirtual 162, 3) := by decide +kernel
theorem dX12_prevailWord_28 : decode cX12_prevailWord 28 = .ok (.ifCond .eq 5, 3) := by decide +kernel
theorem dX12_prevailWord_31 : decode cX12_prevailWord 31 = .ok (.iconst 2, 1) := by decide +kernel
theorem dX12_prevailWord_32 : decode cX12_prevailWord 32 = .ok (.ireturn, 1) := by decide +kernel
theorem dX12_prevailWord_33 : decode cX12_prevailWord 33 = .ok (.aload_n 0, 1) := by decide +kernel
theorem dX12_prevailWord_34 : decode cX12_prevailWord 34 = .ok (.ldc 228, 2) := by decide +kernel
theorem dX12_prevailWord_36 : decode cX12_prevailWord 36 = .ok (.invokevirtual 162, 3) := by decide +kernel
theorem dX12_prevailWord_39 : decode cX12_prevailWord 39 = .ok (.ifCond .eq 5, 3) := by decide +kernel
theorem dX12_prevailWord_42 : decode cX12_prevailWord 42 = .ok (.iconst 3, 1) := by decide +kernel
theorem dX12_prevailWord_43 : decode cX12_prevailWord 43 = .ok (.ireturn, 1) := by decide +kernel
theorem dX12_prevailWord_44 : decode cX12_prevailWord 44 = .ok (.aload_n 0, 1) := by decide +kernel
theorem dX12_prevailWord_45 : decode cX12_prevailWord 45 = .ok (.ldc 230, 2) := by decide +kernel
theorem dX12_prevailWord_47 : decode cX12_prevailWord 47 = .ok (.invokevirtual 162, 3) := by decide +kernel
theorem dX12_prevailWord_50 : decode cX12_prevailWord 50 = .ok (.ifCond .eq 5, 3) := by decide +kernel
theorem dX12_prevailWord_53 : decode cX12_prevailWord 53 = .ok (.iconst 4, 1) := by decide +kernel
theorem dX12_prevailWord_54 : decode cX12_prevailWord 54 = .ok (.ireturn, 1) := by decide +kernel
theorem dX12_prevailWord_55 : decode cX12_prevailWord 55 = .ok (.aload_n 0, 1) := by decide +kernel
theorem dX12_prevailWord_56 : decode cX12_prevailWord 56 = .ok (.ldc 216, 2) := by decide +kernel
theorem dX12_prevailWord_58 : decode cX12_prevailWord 58 = .ok (.invokevirtual 162, 3) := by decide +kernel
theorem dX12_prevailWord_61 : decode cX12_prevailWord 61 = .ok (.ifCond .eq 5, 3) := by decide +kernel
theorem dX12_prevailWord_64 : decode cX12_prevailWord 64 = .ok (.iconst 5, 1) := by decide +kernel
theorem dX12_prevailWord_65 : decode cX12_prevailWord 65 = .ok (.ireturn, 1) := by decide +kernel
theorem dX12_prevailWord_66 : decode cX12_prevailWord 66 = .ok (.aload_n 0, 1) := by decide +kernel
theorem dX12_prevailWord_67 : decode cX12_prevailWord 67 = .ok (.ldc 220, 2) := by decide +kernel
theorem dX12_prevailWord_69 : decode cX12_prevailWord 69 = .ok (.invokevirtual 162, 3) := by decide +kernel
theorem dX12_prevailWord_72 : decode cX12_prevailWord 72 = .ok (.ifCond .eq 8, 3) := by decide +kernel
theorem dX12_prevailWord_75 : decode cX12_prevailWord 75 = .ok (.bipush 6, 2) := by decide +kernel
theorem dX12_prevailWord_77 : decode cX12_prevailWord 77 = .ok (.goto 4, 3) := by decide +kernel
theorem dX12_prevailWord_80 : decode cX12_prevailWord 80 = .ok (.iconst (-1), 1) := by decide +kernel
theorem dX12_prevailWord_81 : decode cX12_prevailWord 81 = .ok (.ireturn, 1) := by decide +kernel
theorem dX12_lawWord_0 : decode cX12_lawWord 0 = .ok (.aload_n 0, 1) := by decide +kernel
theorem dX12_lawWord_1 : decode cX12_lawWord 1 = .ok (.getfield 168, 3) := by decide +kernel
theorem dX12_lawWord_4 : decode cX12_lawWord 4 = .ok (.iconst 3, 1) := by decide +kernel
theorem dX12_lawWord_5 : decode cX12_lawWord 5 = .ok (.if_icmp .ne 10, 3) := by decide +kernel
theorem dX12_lawWord_8 : decode cX12_lawWord 8 = .ok (.aload_n 0, 1) := by decide +kernel
theorem dX12_lawWord_9 : decode cX12_lawWord 9 = .ok (.invokevirtual 231, 3) := by decide +kernel
theorem dX12_lawWord_12 : decode cX12_lawWord 12 = .ok (.goto 7, 3) := by decide +kernel
theorem dX12_lawWord_15 : decode cX12_lawWord 15 = .ok (.aload_n 0, 1) := by decide +kernel
theorem dX12_lawWord_16 : decode cX12_lawWord 16 = .ok (.invokevirtual 234, 3) := by decide +kernel
theorem dX12_lawWord_19 : decode cX12_lawWord 19 = .ok (.ireturn, 1) := by decide +kernel
theorem dX12_readAtom_0 : decode cX12_readAtom 0 = .ok (.aload_n 0, 1) := by decide +kernel
theorem dX12_readAtom_1 : decode cX12_readAtom 1 = .ok (.getfield 132, 3) := by decide +kernel
theorem dX12_readAtom_4 : decode cX12_readAtom 4 = .ok (.ifCond .eq 4, 3) := by decide +kernel
theorem dX12_readAtom_7 : decode cX12_readAtom 7 = .ok (.return_, 1) := by decide +kernel
theorem dX12_readAtom_8 : decode cX12_readAtom 8 = .ok (.aload_n 0, 1) := by decide +kernel
theorem dX12_readAtom_9 : decode cX12_readAtom 9 = .ok (.invokevirtual 237, 3) := by decide +kernel
theorem dX12_readAtom_12 : decode cX12_readAtom 12 = .ok (.istore_n 1, 1) := by decide +kernel
theorem dX12_readAtom_13 : decode cX12_readAtom 13 = .ok (.iload_n 1, 1) := by decide +kernel
theorem dX12_readAtom_14 : decode cX12_readAtom 14 = .ok (.iconst (-1), 1) := by decide +kernel
theorem dX12_readAtom_15 : decode cX12_readAtom 15 = .ok (.if_icmp .eq 14, 3) := by decide +kernel
theorem dX12_readAtom_18 : decode cX12_readAtom 18 = .ok (.aload_n 0, 1) := by decide +kernel
theorem dX12_readAtom_19 : decode cX12_readAtom 19 = .ok (.bipush 100, 2) := by decide +kernel
theorem dX12_readAtom_21 : decode cX12_readAtom 21 = .ok (.iload_n 1, 1) := by decide +kernel
theorem dX12_readAtom_22 : decode cX12_readAtom 22 = .ok (.iadd, 1) := by decide +kernel
theorem dX12_readAtom_23 : decode cX12_readAtom 23 = .ok (.invokevirtual 182, 3) := by decide +kernel
theorem dX12_readAtom_26 : decode cX12_readAtom 26 = .ok (.goto 57, 3) := by decide +kernel
theorem dX12_readAtom_29 : decode cX12_readAtom 29 = .ok (.aload_n 0, 1) := by decide +kernel
theorem dX12_readAtom_30 : decode cX12_readAtom 30 = .ok (.bipush 40, 2) := by decide +kernel
theorem dX12_readAtom_32 : decode cX12_readAtom 32 = .ok (.invokevirtual 195, 3) := by decide +kernel
theorem dX12_readAtom_35 : decode cX12_readAtom 35 = .ok (.ifCond .eq 30, 3) := by decide +kernel
theorem dX12_readAtom_38 : decode cX12_readAtom 38 = .ok (.aload_n 0, 1) := by decide +kernel
theorem dX12_readAtom_39 : decode cX12_readAtom 39 = .ok (.invokevirtual 192, 3) := by decide +kernel
theorem dX12_readAtom_42 : decode cX12_readAtom 42 = .ok (.aload_n 0, 1) := by decide +kernel
theorem dX12_readAtom_43 : decode cX12_readAtom 43 = .ok (.invokevirtual 201, 3) := by decide +kernel
theorem dX12_readAtom_46 : decode cX12_readAtom 46 = .ok (.aload_n 0, 1) := by decide +kernel
theorem dX12_readAtom_47 : decode cX12_readAtom 47 = .ok (.bipush 41, 2) := by decide +kernel
theorem dX12_readAtom_49 : decode cX12_readAtom 49 = .ok (.invokevirtual 171, 3) := by decide +kernel
theorem dX12_readAtom_52 : decode cX12_readAtom 52 = .ok (.aload_n 0, 1) := by decide +kernel
theorem dX12_readAtom_53 : decode cX12_readAtom 53 = .ok (.dup, 1) := by decide +kernel
theorem dX12_readAtom_54 : decode cX12_readAtom 54 = .ok (.getfield 174, 3) := by decide +kernel
theorem dX12_readAtom_57 : decode cX12_readAtom 57 = .ok (.iconst 1, 1) := by decide +kernel
theorem dX12_readAtom_58 : decode cX12_readAtom 58 = .ok (.isub, 1) := by decide +kernel
theorem dX12_readAtom_59 : decode cX12_readAtom 59 = .ok (.putfield 174, 3) := by decide +kernel
theorem dX12_readAtom_62 : decode cX12_readAtom 62 = .ok (.goto 21, 3) := by decide +kernel
theorem dX12_readAtom_65 : decode cX12_readAtom 65 = .ok (.aload_n 0, 1) := by decide +kernel
theorem dX12_readAtom_66 : decode cX12_readAtom 66 = .ok (.iconst 0, 1) := by decide +kernel
theorem dX12_readAtom_67 : decode cX12_readAtom 67 = .ok (.sipush 999, 3) := by decide +kernel
theorem dX12_readAtom_70 : decode cX12_readAtom 70 = .ok (.invokevirtual 240, 3) := by decide +kernel
theorem dX12_readAtom_73 : decode cX12_readAtom 73 = .ok (.istore_n 2, 1) := by decide +kernel
theorem dX12_readAtom_74 : decode cX12_readAtom 74 = .ok (.aload_n 0, 1) := by decide +kernel
theorem dX12_readAtom_75 : decode cX12_readAtom 75 = .ok (.sipush 1000, 3) := by decide +kernel
theorem dX12_readAtom_78 : decode cX12_readAtom 78 = .ok (.iload_n 2, 1) := by decide +kernel
theorem dX12_readAtom_79 : decode cX12_readAtom 79 = .ok (.iadd, 1) := by decide +kernel
theorem dX12_readAtom_80 : decode cX12_readAtom 80 = .ok (.invokevirtual 182, 3) := by decide +kernel
theorem dX12_readAtom_83 : decode cX12_readAtom 83 = .ok (.return_, 1) := by decide +kernel
theorem dX12_begins_0 : decode cX12_begins 0 = .ok (.aload_n 0, 1) := by decide +kernel
theorem dX12_begins_1 : decode cX12_begins 1 = .ok (.getfield 13, 3) := by decide +kernel
theorem dX12_begins_4 : decode cX12_begins 4 = .ok (.iload_n 1, 1) := by decide +kernel
theorem dX12_begins_5 : decode cX12_begins 5 = .ok (.iaload, 1) := by decide +kernel
theorem dX12_begins_6 : decode cX12_begins 6 = .ok (.iload_n 2, 1) := by decide +kernel
theorem dX12_begins_7 : decode cX12_begins 7 = .ok (.if_icmp .ne 8, 3) := by decide +kernel
theorem dX12_begins_10 : decode cX12_begins 10 = .ok (.aload_n 0, 1) := by decide +kernel
theorem dX12_begins_11 : decode cX12_begins 11 = .ok (.iconst 4, 1) := by decide +kernel
theorem dX12_begins_12 : decode cX12_begins 12 = .ok (.invokevirtual 154, 3) := by decide +kernel
theorem dX12_begins_15 : decode cX12_begins 15 = .ok (.aload_n 0, 1) := by decide +kernel
theorem dX12_begins_16 : decode cX12_begins 16 = .ok (.getfield 132, 3) := by decide +kernel
theorem dX12_begins_19 : decode cX12_begins 19 = .ok (.ifCond .ne 7, 3) := by decide +kernel
theorem dX12_begins_22 : decode cX12_begins 22 = .ok (.aload_n 0, 1) := by decide +kernel
theorem dX12_begins_23 : decode cX12_begins 23 = .ok (.invokevirtual 151, 3) := by decide +kernel
theorem dX12_begins_26 : decode cX12_begins 26 = .ok (.aload_n 0, 1) := by decide +kernel
theorem dX12_begins_27 : decode cX12_begins 27 = .ok (.getfield 132, 3) := by decide +kernel
theorem dX12_begins_30 : decode cX12_begins 30 = .ok (.ifCond .ne 7, 3) := by decide +kernel
theorem dX12_begins_33 : decode cX12_begins 33 = .ok (.iconst 1, 1) := by decide +kernel
theorem dX12_begins_34 : decode cX12_begins 34 = .ok (.goto 4, 3) := by decide +kernel
theorem dX12_begins_37 : decode cX12_begins 37 = .ok (.iconst 0, 1) := by decide +kernel
theorem dX12_begins_38 : decode cX12_begins 38 = .ok (.ireturn, 1) := by decide +kernel
theorem dX12_readWard_0 : decode cX12_readWard 0 = .ok (.aload_n 0, 1) := by decide +kernel
theorem dX12_readWard_1 : decode cX12_readWard 1 = .ok (.iconst 1, 1) := by decide +kernel
theorem dX12_readWard_2 : decode cX12_readWard 2 = .ok (.iconst 5, 1) := by decide +kernel
theorem dX12_readWard_3 : decode cX12_readWard 3 = .ok (.invokevirtual 244, 3) := by decide +kernel
theorem dX12_readWard_6 : decode cX12_readWard 6 = .ok (.ifCond .ne 4, 3) := by decide +kernel
theorem dX12_readWard_9 : decode cX12_readWard 9 = .ok (.return_, 1) := by decide +kernel
theorem dX12_readWard_10 : decode cX12_readWard 10 = .ok (.aload_n 0, 1) := by decide +kernel
theorem dX12_readWard_11 : decode cX12_readWard 11 = .ok (.getfield 13, 3) := by decide +kernel
theorem dX12_readWard_14 : decode cX12_readWard 14 = .ok (.iconst 1, 1) := by decide +kernel
theorem dX12_readWard_15 : decode cX12_readWard 15 = .ok (.iaload, 1) := by decide +kernel
theorem dX12_readWard_16 : decode cX12_readWard 16 = .ok (.istore_n 1, 1) := by decide +kernel
theorem dX12_readWard_17 : decode cX12_readWard 17 = .ok (.aload_n 0, 1) := by decide +kernel
theorem dX12_readWard_18 : decode cX12_readWard 18 = .ok (.iconst 0, 1) := by decide +kernel
theorem dX12_readWard_19 : decode cX12_readWard 19 = .ok (.bipush 99, 2) := by decide +kernel
theorem dX12_readWard_21 : decode cX12_readWard 21 = .ok (.invokevirtual 240, 3) := by decide +kernel
theorem dX12_readWard_24 : decode cX12_readWard 24 = .ok (.istore_n 2, 1) := by decide +kernel
theorem dX12_readWard_25 : decode cX12_readWard 25 = .ok (.iconst 0, 1) := by decide +kernel
theorem dX12_readWard_26 : decode cX12_readWard 26 = .ok (.istore_n 3, 1) := by decide +kernel
theorem dX12_readWard_27 : decode cX12_readWard 27 = .ok (.aload_n 0, 1) := by decide +kernel
theorem dX12_readWard_28 : decode cX12_readWard 28 = .ok (.ldc 248, 2) := by decide +kernel
theorem dX12_readWard_30 : decode cX12_readWard 30 = .ok (.invokevirtual 162, 3) := by decide +kernel
theorem dX12_readWard_33 : decode cX12_readWard 33 = .ok (.ifCond .eq 31, 3) := by decide +kernel
theorem dX12_readWard_36 : decode cX12_readWard 36 = .ok (.iload_n 3, 1) := by decide +kernel
theorem dX12_readWard_37 : decode cX12_readWard 37 = .ok (.iconst 1, 1) := by decide +kernel
theorem dX12_readWard_38 : decode cX12_readWard 38 = .ok (.aload_n 0, 1) := by decide +kernel
theorem dX12_readWard_39 : decode cX12_readWard 39 = .ok (.iconst 0, 1) := by decide +kernel
theorem dX12_readWard_40 : decode cX12_readWard 40 = .ok (.iload_n 1, 1) := by decide +kernel
theorem dX12_readWard_41 : decode cX12_readWard 41 = .ok (.iconst 1, 1) := by decide +kernel
theorem dX12_readWard_42 : decode cX12_readWard 42 = .ok (.isub, 1) := by decide +kernel
theorem dX12_readWard_43 : decode cX12_readWard 43 = .ok (.invokevirtual 240, 3) := by decide +kernel
theorem dX12_readWard_46 : decode cX12_readWard 46 = .ok (.ishl, 1) := by decide +kernel
theorem dX12_readWard_47 : decode cX12_readWard 47 = .ok (.ior, 1) := by decide +kernel
theorem dX12_readWard_48 : decode cX12_readWard 48 = .ok (.istore_n 3, 1) := by decide +kernel
theorem dX12_readWard_49 : decode cX12_readWard 49 = .ok (.aload_n 0, 1) := by decide +kernel
theorem dX12_readWard_50 : decode cX12_readWard 50 = .ok (.getfield 132, 3) := by decide +kernel
theorem dX12_readWard_53 : decode cX12_readWard 53 = .ok (.ifCond .ne 11, 3) := by decide +kernel
theorem dX12_readWard_56 : decode cX12_readWard 56 = .ok (.aload_n 0, 1) := by decide +kernel
theorem dX12_readWard_57 : decode cX12_readWard 57 = .ok (.getfield 112, 3) := by decide +kernel
theorem dX12_readWard_60 : decode cX12_readWard 60 = .ok (.iconst 2, 1) := by decide +kernel
theorem dX12_readWard_61 : decode cX12_readWard 61 = .ok (.if_icmp .eq (-25), 3) := by decide +kernel
theorem dX12_readWard_64 : decode cX12_readWard 64 = .ok (.aload_n 0, 1) := by decide +kernel
theorem dX12_readWard_65 : decode cX12_readWard 65 = .ok (.getfield 132, 3) := by decide +kernel
theorem dX12_readWard_68 : decode cX12_readWard 68 = .ok (.ifCond .eq 4, 3) := by decide +kernel
theorem dX12_readWard_71 : decode cX12_readWard 71 = .ok (.return_, 1) := by decide +kernel
theorem dX12_readWard_72 : decode cX12_readWard 72 = .ok (.aload_n 0, 1) := by decide +kernel
theorem dX12_readWard_73 : decode cX12_readWard 73 = .ok (.getfield 13, 3) := by decide +kernel
theorem dX12_readWard_76 : decode cX12_readWard 76 = .ok (.bipush 56, 2) := by decide +kernel
theorem dX12_readWard_78 : decode cX12_readWard 78 = .ok (.iload_n 1, 1) := by decide +kernel
theorem dX12_readWard_79 : decode cX12_readWard 79 = .ok (.iadd, 1) := by decide +kernel
theorem dX12_readWard_80 : decode cX12_readWard 80 = .ok (.iload_n 2, 1) := by decide +kernel
theorem dX12_readWard_81 : decode cX12_readWard 81 = .ok (.iastore, 1) := by decide +kernel
theorem dX12_readWard_82 : decode cX12_readWard 82 = .ok (.aload_n 0, 1) := by decide +kernel
theorem dX12_readWard_83 : decode cX12_readWard 83 = .ok (.getfield 13, 3) := by decide +kernel
theorem dX12_readWard_86 : decode cX12_readWard 86 = .ok (.bipush 61, 2) := by decide +kernel
theorem dX12_readWard_88 : decode cX12_readWard 88 = .ok (.iload_n 1, 1) := by decide +kernel
theorem dX12_readWard_89 : decode cX12_readWard 89 = .ok (.iadd, 1) := by decide +kernel
theorem dX12_readWard_90 : decode cX12_readWard 90 = .ok (.iload_n 3, 1) := by decide +kernel
theorem dX12_readWard_91 : decode cX12_readWard 91 = .ok (.iastore, 1) := by decide +kernel
theorem dX12_readWard_92 : decode cX12_readWard 92 = .ok (.iconst 0, 1) := by decide +kernel
theorem dX12_readWard_93 : decode cX12_readWard 93 = .ok (.istore 4, 2) := by decide +kernel
theorem dX12_readWard_95 : decode cX12_readWard 95 = .ok (.iload 4, 2) := by decide +kernel
theorem dX12_readWard_97 : decode cX12_readWard 97 = .ok (.iload_n 1, 1) := by decide +kernel
theorem dX12_readWard_98 : decode cX12_readWard 98 = .ok (.if_icmp .ge 38, 3) := by decide +kernel
theorem dX12_readWard_101 : decode cX12_readWard 101 = .ok (.aload_n 0, 1) := by decide +kernel
theorem dX12_readWard_102 : decode cX12_readWard 102 = .ok (.getfield 13, 3) := by decide +kernel
theorem dX12_readWard_105 : decode cX12_readWard 105 = .ok (.bipush 61, 2) := by decide +kernel
theorem dX12_readWard_107 : decode cX12_readWard 107 = .ok (.iload 4, 2) := by decide +kernel
theorem dX12_readWard_109 : decode cX12_readWard 109 = .ok (.iadd, 1) := by decide +kernel
theorem dX12_readWard_110 : decode cX12_readWard 110 = .ok (.dup2, 1) := by decide +kernel
theorem dX12_readWard_111 : decode cX12_readWard 111 = .ok (.iaload, 1) := by decide +kernel
theorem dX12_readWard_112 : decode cX12_readWard 112 = .ok (.iload_n 3, 1) := by decide +kernel
theorem dX12_readWard_113 : decode cX12_readWard 113 = .ok (.iload 4, 2) := by decide +kernel
theorem dX12_readWard_115 : decode cX12_readWard 115 = .ok (.invokestatic 250, 3) := by decide +kernel
theorem dX12_readWard_118 : decode cX12_readWard 118 = .ok (.ifCond .eq 9, 3) := by decide +kernel
theorem dX12_readWard_121 : decode cX12_readWard 121 = .ok (.iconst 1, 1) := by decide +kernel
theorem dX12_readWard_122 : decode cX12_readWard 122 = .ok (.iload_n 1, 1) := by decide +kernel
theorem dX12_readWard_123 : decode cX12_readWard 123 = .ok (.ishl, 1) := by decide +kernel
theorem dX12_readWard_124 : decode cX12_readWard 124 = .ok (.goto 4, 3) := by decide +kernel
theorem dX12_readWard_127 : decode cX12_readWard 127 = .ok (.iconst 0, 1) := by decide +kernel
theorem dX12_readWard_128 : decode cX12_readWard 128 = .ok (.ior, 1) := by decide +kernel
theorem dX12_readWard_129 : decode cX12_readWard 129 = .ok (.iastore, 1) := by decide +kernel
theorem dX12_readWard_130 : decode cX12_readWard 130 = .ok (.iinc 4 1, 3) := by decide +kernel
theorem dX12_readWard_133 : decode cX12_readWard 133 = .ok (.goto (-38), 3) := by decide +kernel
theorem dX12_readWard_136 : decode cX12_readWard 136 = .ok (.aload_n 0, 1) := by decide +kernel
theorem dX12_readWard_137 : decode cX12_readWard 137 = .ok (.getfield 13, 3) := by decide +kernel
theorem dX12_readWard_140 : decode cX12_readWard 140 = .ok (.iconst 1, 1) := by decide +kernel
theorem dX12_readWard_141 : decode cX12_readWard 141 = .ok (.dup2, 1) := by decide +kernel
theorem dX12_readWard_142 : decode cX12_readWard 142 = .ok (.iaload, 1) := by decide +kernel
theorem dX12_readWard_143 : decode cX12_readWard 143 = .ok (.iconst 1, 1) := by decide +kernel
theorem dX12_readWard_144 : decode cX12_readWard 144 = .ok (.iadd, 1) := by decide +kernel
theorem dX12_readWard_145 : decode cX12_readWard 145 = .ok (.iastore, 1) := by decide +kernel
theorem dX12_readWard_146 : decode cX12_readWard 146 = .ok (.return_, 1) := by decide +kernel
theorem dX12_readAct_0 : decode cX12_readAct 0 = .ok (.aload_n 0, 1) := by decide +kernel
theorem dX12_readAct_1 : decode cX12_readAct 1 = .ok (.iconst 2, 1) := by decide +kernel
theorem dX12_readAct_2 : decode cX12_readAct 2 = .ok (.bipush 8, 2) := by decide +kernel
theorem dX12_readAct_4 : decode cX12_readAct 4 = .ok (.invokevirtual 244, 3) := by decide +kernel
theorem dX12_readAct_7 : decode cX12_readAct 7 = .ok (.ifCond .ne 4, 3) := by decide +kernel
theorem dX12_readAct_10 : decode cX12_readAct 10 = .ok (.return_, 1) := by decide +kernel
theorem dX12_readAct_11 : decode cX12_readAct 11 = .ok (.aload_n 0, 1) := by decide +kernel
theorem dX12_readAct_12 : decode cX12_readAct 12 = .ok (.getfield 13, 3) := by decide +kernel
theorem dX12_readAct_15 : decode cX12_readAct 15 = .ok (.iconst 2, 1) := by decide +kernel
theorem dX12_readAct_16 : decode cX12_readAct 16 = .ok (.iaload, 1) := by decide +kernel
theorem dX12_readAct_17 : decode cX12_readAct 17 = .ok (.istore_n 1, 1) := by decide +kernel
theorem dX12_readAct_18 : decode cX12_readAct 18 = .ok (.aload_n 0, 1) := by decide +kernel
theorem dX12_readAct_19 : decode cX12_readAct 19 = .ok (.iconst 0, 1) := by decide +kernel
theorem dX12_readAct_20 : decode cX12_readAct 20 = .ok (.bipush 9, 2) := by decide +kernel
theorem dX12_readAct_22 : decode cX12_readAct 22 = .ok (.invokevirtual 240, 3) := by decide +kernel
theorem dX12_readAct_25 : decode cX12_readAct 25 = .ok (.istore_n 2, 1) := by decide +kernel
theorem dX12_readAct_26 : decode cX12_readAct 26 = .ok (.aload_n 0, 1) := by decide +kernel
theorem dX12_readAct_27 : decode cX12_readAct 27 = .ok (.ldc 253, 2) := by decide +kernel
theorem dX12_readAct_29 : decode cX12_readAct 29 = .ok (.invokevirtual 255, 3) := by decide +kernel
theorem dX12_readAct_32 : decode cX12_readAct 32 = .ok (.aload_n 0, 1) := by decide +kernel
theorem dX12_readAct_33 : decode cX12_readAct 33 = .ok (.iconst 0, 1) := by decide +kernel
theorem dX12_readAct_34 : decode cX12_readAct 34 = .ok (.bipush 99, 2) := by decide +kernel
theorem dX12_readAct_36 : decode cX12_readAct 36 = .ok (.invokevirtual 240, 3) := by decide +kernel
theorem dX12_readAct_39 : decode cX12_readAct 39 = .ok (.istore_n 3, 1) := by decide +kernel
theorem dX12_readAct_40 : decode cX12_readAct 40 = .ok (.aload_n 0, 1) := by decide +kernel
theorem dX12_readAct_41 : decode cX12_readAct 41 = .ok (.ldc_w 259, 3) := by decide +kernel
theorem dX12_readAct_44 : decode cX12_readAct 44 = .ok (.invokevirtual 255, 3) := by decide +kernel
theorem dX12_readAct_47 : decode cX12_readAct 47 = .ok (.aload_n 0, 1) := by decide +kernel
theorem dX12_readAct_48 : decode cX12_readAct 48 = .ok (.iload_n 3, 1) := by decide +kernel
theorem dX12_readAct_49 : decode cX12_readAct 49 = .ok (.bipush 99, 2) := by decide +kernel
theorem dX12_readAct_51 : decode cX12_readAct 51 = .ok (.invokevirtual 240, 3) := by decide +kernel
theorem dX12_readAct_54 : decode cX12_readAct 54 = .ok (.istore 4, 2) := by decide +kernel
theorem dX12_readAct_56 : decode cX12_readAct 56 = .ok (.aload_n 0, 1) := by decide +kernel
theorem dX12_readAct_57 : decode cX12_readAct 57 = .ok (.ldc 226, 2) := by decide +kernel
theorem dX12_readAct_59 : decode cX12_readAct 59 = .ok (.invokevirtual 255, 3) := by decide +kernel
theorem dX12_readAct_62 : decode cX12_readAct 62 = .ok (.aload_n 0, 1) := by decide +kernel
theorem dX12_readAct_63 : decode cX12_readAct 63 = .ok (.iconst 0, 1) := by decide +kernel
theorem dX12_readAct_64 : decode cX12_readAct 64 = .ok (.bipush 99, 2) := by decide +kernel
theorem dX12_readAct_66 : decode cX12_readAct 66 = .ok (.invokevirtual 240, 3) := by decide +kernel
theorem dX12_readAct_69 : decode cX12_readAct 69 = .ok (.istore 5, 2) := by decide +kernel
theorem dX12_readAct_71 : decode cX12_readAct 71 = .ok (.aload_n 0, 1) := by decide +kernel
theorem dX12_readAct_72 : decode cX12_readAct 72 = .ok (.getfield 132, 3) := by decide +kernel
theorem dX12_readAct_75 : decode cX12_readAct 75 = .ok (.ifCond .eq 4, 3) := by decide +kernel
theorem dX12_readAct_78 : decode cX12_readAct 78 = .ok (.return_, 1) := by decide +kernel
theorem dX12_readAct_79 : decode cX12_readAct 79 = .ok (.aload_n 0, 1) := by decide +kernel
theorem dX12_readAct_80 : decode cX12_readAct 80 = .ok (.getfield 13, 3) := by decide +kernel
theorem dX12_readAct_83 : decode cX12_readAct 83 = .ok (.bipush 66, 2) := by decide +kernel
theorem dX12_readAct_85 : decode cX12_readAct 85 = .ok (.iload_n 1, 1) := by decide +kernel
theorem dX12_readAct_86 : decode cX12_readAct 86 = .ok (.iadd, 1) := by decide +kernel
theorem dX12_readAct_87 : decode cX12_readAct 87 = .ok (.iload_n 2, 1) := by decide +kernel
theorem dX12_readAct_88 : decode cX12_readAct 88 = .ok (.iastore, 1) := by decide +kernel
theorem dX12_readAct_89 : decode cX12_readAct 89 = .ok (.aload_n 0, 1) := by decide +kernel
theorem dX12_readAct_90 : decode cX12_readAct 90 = .ok (.getfield 13, 3) := by decide +kernel
theorem dX12_readAct_93 : decode cX12_readAct 93 = .ok (.bipush 37, 2) := by decide +kernel
theorem dX12_readAct_95 : decode cX12_readAct 95 = .ok (.iload_n 1, 1) := by decide +kernel
theorem dX12_readAct_96 : decode cX12_readAct 96 = .ok (.iadd, 1) := by decide +kernel
theorem dX12_readAct_97 : decode cX12_readAct 97 = .ok (.iload_n 3, 1) := by decide +kernel
theorem dX12_readAct_98 : decode cX12_readAct 98 = .ok (.iastore, 1) := by decide +kernel
theorem dX12_readAct_99 : decode cX12_readAct 99 = .ok (.aload_n 0, 1) := by decide +kernel
theorem dX12_readAct_100 : decode cX12_readAct 100 = .ok (.getfield 13, 3) := by decide +kernel
theorem dX12_readAct_103 : decode cX12_readAct 103 = .ok (.bipush 45, 2) := by decide +kernel
theorem dX12_readAct_105 : decode cX12_readAct 105 = .ok (.iload_n 1, 1) := by decide +kernel
theorem dX12_readAct_106 : decode cX12_readAct 106 = .ok (.iadd, 1) := by decide +kernel
theorem dX12_readAct_107 : decode cX12_readAct 107 = .ok (.iload 4, 2) := by decide +kernel
theorem dX12_readAct_109 : decode cX12_readAct 109 = .ok (.iastore, 1) := by decide +kernel
theorem dX12_readAct_110 : decode cX12_readAct 110 = .ok (.aload_n 0, 1) := by decide +kernel
theorem dX12_readAct_111 : decode cX12_readAct 111 = .ok (.getfield 13, 3) := by decide +kernel
theorem dX12_readAct_114 : decode cX12_readAct 114 = .ok (.bipush 74, 2) := by decide +kernel
theorem dX12_readAct_116 : decode cX12_readAct 116 = .ok (.iload_n 1, 1) := by decide +kernel
theorem dX12_readAct_117 : decode cX12_readAct 117 = .ok (.iadd, 1) := by decide +kernel
theorem dX12_readAct_118 : decode cX12_readAct 118 = .ok (.iload 5, 2) := by decide +kernel
theorem dX12_readAct_120 : decode cX12_readAct 120 = .ok (.iastore, 1) := by decide +kernel
theorem dX12_readAct_121 : decode cX12_readAct 121 = .ok (.aload_n 0, 1) := by decide +kernel
theorem dX12_readAct_122 : decode cX12_readAct 122 = .ok (.getfield 13, 3) := by decide +kernel
theorem dX12_readAct_125 : decode cX12_readAct 125 = .ok (.iconst 2, 1) := by decide +kernel
theorem dX12_readAct_126 : decode cX12_readAct 126 = .ok (.dup2, 1) := by decide +kernel
theorem dX12_readAct_127 : decode cX12_readAct 127 = .ok (.iaload, 1) := by decide +kernel
theorem dX12_readAct_128 : decode cX12_readAct 128 = .ok (.iconst 1, 1) := by decide +kernel
theorem dX12_readAct_129 : decode cX12_readAct 129 = .ok (.iadd, 1) := by decide +kernel
theorem dX12_readAct_130 : decode cX12_readAct 130 = .ok (.iastore, 1) := by decide +kernel
theorem dX12_readAct_131 : decode cX12_readAct 131 = .ok (.return_, 1) := by decide +kernel
theorem dX12_readStop_0 : decode cX12_readStop 0 = .ok (.aload_n 0, 1) := by decide +kernel
theorem dX12_readStop_1 : decode cX12_readStop 1 = .ok (.bipush 59, 2) := by decide +kernel
theorem dX12_readStop_3 : decode cX12_readStop 3 = .ok (.invokevirtual 171, 3) := by decide +kernel
theorem dX12_readStop_6 : decode cX12_readStop 6 = .ok (.aload_n 0, 1) := by decide +kernel
theorem dX12_readStop_7 : decode cX12_readStop 7 = .ok (.getfield 132, 3) := by decide +kernel
theorem dX12_readStop_10 : decode cX12_readStop 10 = .ok (.ifCond .ne 13, 3) := by decide +kernel
theorem dX12_readStop_13 : decode cX12_readStop 13 = .ok (.aload_n 0, 1) := by decide +kernel
theorem dX12_readStop_14 : decode cX12_readStop 14 = .ok (.getfield 13, 3) := by decide +kernel
theorem dX12_readStop_17 : decode cX12_readStop 17 = .ok (.iconst 0, 1) := by decide +kernel
theorem dX12_readStop_18 : decode cX12_readStop 18 = .ok (.dup2, 1) := by decide +kernel
theorem dX12_readStop_19 : decode cX12_readStop 19 = .ok (.iaload, 1) := by decide +kernel
theorem dX12_readStop_20 : decode cX12_readStop 20 = .ok (.iconst 1, 1) := by decide +kernel
theorem dX12_readStop_21 : decode cX12_readStop 21 = .ok (.iadd, 1) := by decide +kernel
theorem dX12_readStop_22 : decode cX12_readStop 22 = .ok (.iastore, 1) := by decide +kernel
theorem dX12_readStop_23 : decode cX12_readStop 23 = .ok (.return_, 1) := by decide +kernel
theorem dX12_readLine_0 : decode cX12_readLine 0 = .ok (.aload_n 0, 1) := by decide +kernel
theorem dX12_readLine_1 : decode cX12_readLine 1 = .ok (.ldc 220, 2) := by decide +kernel
theorem dX12_readLine_3 : decode cX12_readLine 3 = .ok (.invokevirtual 147, 3) := by decide +kernel
theorem dX12_readLine_6 : decode cX12_readLine 6 = .ok (.ifCond .eq 10, 3) := by decide +kernel
theorem dX12_readLine_9 : decode cX12_readLine 9 = .ok (.aload_n 0, 1) := by decide +kernel
theorem dX12_readLine_10 : decode cX12_readLine 10 = .ok (.invokevirtual 261, 3) := by decide +kernel
theorem dX12_readLine_13 : decode cX12_readLine 13 = .ok (.goto 143, 3) := by decide +kernel
theorem dX12_readLine_16 : decode cX12_readLine 16 = .ok (.aload_n 0, 1) := by decide +kernel
theorem dX12_readLine_17 : decode cX12_readLine 17 = .ok (.ldc 222, 2) := by decide +kernel
theorem dX12_readLine_19 : decode cX12_readLine 19 = .ok (.invokevirtual 147, 3) := by decide +kernel
theorem dX12_readLine_22 : decode cX12_readLine 22 = .ok (.ifCond .eq 10, 3) := by decide +kernel
theorem dX12_readLine_25 : decode cX12_readLine 25 = .ok (.aload_n 0, 1) := by decide +kernel
theorem dX12_readLine_26 : decode cX12_readLine 26 = .ok (.invokevirtual 264, 3) := by decide +kernel
theorem dX12_readLine_29 : decode cX12_readLine 29 = .ok (.goto 127, 3) := by decide +kernel
theorem dX12_readLine_32 : decode cX12_readLine 32 = .ok (.aload_n 0, 1) := by decide +kernel
theorem dX12_readLine_33 : decode cX12_readLine 33 = .ok (.ldc_w 267, 3) := by decide +kernel
theorem dX12_readLine_36 : decode cX12_readLine 36 = .ok (.invokevirtual 162, 3) := by decide +kernel
theorem dX12_readLine_39 : decode cX12_readLine 39 = .ok (.ifCond .eq 14, 3) := by decide +kernel
theorem dX12_readLine_42 : decode cX12_readLine 42 = .ok (.aload_n 0, 1) := by decide +kernel
theorem dX12_readLine_43 : decode cX12_readLine 43 = .ok (.getfield 13, 3) := by decide +kernel
theorem dX12_readLine_46 : decode cX12_readLine 46 = .ok (.bipush 6, 2) := by decide +kernel
theorem dX12_readLine_48 : decode cX12_readLine 48 = .ok (.iconst 1, 1) := by decide +kernel
theorem dX12_readLine_49 : decode cX12_readLine 49 = .ok (.iastore, 1) := by decide +kernel
theorem dX12_readLine_50 : decode cX12_readLine 50 = .ok (.goto 106, 3) := by decide +kernel
theorem dX12_readLine_53 : decode cX12_readLine 53 = .ok (.aload_n 0, 1) := by decide +kernel
theorem dX12_readLine_54 : decode cX12_readLine 54 = .ok (.ldc_w 269, 3) := by decide +kernel
theorem dX12_readLine_57 : decode cX12_readLine 57 = .ok (.invokevirtual 162, 3) := by decide +kernel
theorem dX12_readLine_60 : decode cX12_readLine 60 = .ok (.ifCond .eq 14, 3) := by decide +kernel
theorem dX12_readLine_63 : decode cX12_readLine 63 = .ok (.aload_n 0, 1) := by decide +kernel
theorem dX12_readLine_64 : decode cX12_readLine 64 = .ok (.getfield 13, 3) := by decide +kernel
theorem dX12_readLine_67 : decode cX12_readLine 67 = .ok (.bipush 6, 2) := by decide +kernel
theorem dX12_readLine_69 : decode cX12_readLine 69 = .ok (.iconst 0, 1) := by decide +kernel
theorem dX12_readLine_70 : decode cX12_readLine 70 = .ok (.iastore, 1) := by decide +kernel
theorem dX12_readLine_71 : decode cX12_readLine 71 = .ok (.goto 85, 3) := by decide +kernel
theorem dX12_readLine_74 : decode cX12_readLine 74 = .ok (.aload_n 0, 1) := by decide +kernel
theorem dX12_readLine_75 : decode cX12_readLine 75 = .ok (.ldc 216, 2) := by decide +kernel
theorem dX12_readLine_77 : decode cX12_readLine 77 = .ok (.invokevirtual 162, 3) := by decide +kernel
theorem dX12_readLine_80 : decode cX12_readLine 80 = .ok (.ifCond .eq 21, 3) := by decide +kernel
theorem dX12_readLine_83 : decode cX12_readLine 83 = .ok (.aload_n 0, 1) := by decide +kernel
theorem dX12_readLine_84 : decode cX12_readLine 84 = .ok (.getfield 13, 3) := by decide +kernel
theorem dX12_readLine_87 : decode cX12_readLine 87 = .ok (.bipush 54, 2) := by decide +kernel
theorem dX12_readLine_89 : decode cX12_readLine 89 = .ok (.aload_n 0, 1) := by decide +kernel
theorem dX12_readLine_90 : decode cX12_readLine 90 = .ok (.iconst 0, 1) := by decide +kernel
theorem dX12_readLine_91 : decode cX12_readLine 91 = .ok (.sipush 999, 3) := by decide +kernel
theorem dX12_readLine_94 : decode cX12_readLine 94 = .ok (.invokevirtual 240, 3) := by decide +kernel
theorem dX12_readLine_97 : decode cX12_readLine 97 = .ok (.iastore, 1) := by decide +kernel
theorem dX12_readLine_98 : decode cX12_readLine 98 = .ok (.goto 58, 3) := by decide +kernel
theorem dX12_readLine_101 : decode cX12_readLine 101 = .ok (.aload_n 0, 1) := by decide +kernel
theorem dX12_readLine_102 : decode cX12_readLine 102 = .ok (.ldc_w 271, 3) := by decide +kernel
theorem dX12_readLine_105 : decode cX12_readLine 105 = .ok (.invokevirtual 162, 3) := by decide +kernel
theorem dX12_readLine_108 : decode cX12_readLine 108 = .ok (.ifCond .eq 18, 3) := by decide +kernel
theorem dX12_readLine_111 : decode cX12_readLine 111 = .ok (.aload_n 0, 1) := by decide +kernel
theorem dX12_readLine_112 : decode cX12_readLine 112 = .ok (.iconst 3, 1) := by decide +kernel
theorem dX12_readLine_113 : decode cX12_readLine 113 = .ok (.sipush 572, 3) := by decide +kernel
theorem dX12_readLine_116 : decode cX12_readLine 116 = .ok (.invokevirtual 273, 3) := by decide +kernel
theorem dX12_readLine_119 : decode cX12_readLine 119 = .ok (.aload_n 0, 1) := by decide +kernel
theorem dX12_readLine_120 : decode cX12_readLine 120 = .ok (.invokevirtual 201, 3) := by decide +kernel
theorem dX12_readLine_123 : decode cX12_readLine 123 = .ok (.goto 33, 3) := by decide +kernel
theorem dX12_readLine_126 : decode cX12_readLine 126 = .ok (.aload_n 0, 1) := by decide +kernel
theorem dX12_readLine_127 : decode cX12_readLine 127 = .ok (.ldc_w 277, 3) := by decide +kernel
theorem dX12_readLine_130 : decode cX12_readLine 130 = .ok (.invokevirtual 162, 3) := by decide +kernel
theorem dX12_readLine_133 : decode cX12_readLine 133 = .ok (.ifCond .eq 18, 3) := by decide +kernel
theorem dX12_readLine_136 : decode cX12_readLine 136 = .ok (.aload_n 0, 1) := by decide +kernel
theorem dX12_readLine_137 : decode cX12_readLine 137 = .ok (.iconst 4, 1) := by decide +kernel
theorem dX12_readLine_138 : decode cX12_readLine 138 = .ok (.sipush 1472, 3) := by decide +kernel
theorem dX12_readLine_141 : decode cX12_readLine 141 = .ok (.invokevirtual 273, 3) := by decide +kernel
theorem dX12_readLine_144 : decode cX12_readLine 144 = .ok (.aload_n 0, 1) := by decide +kernel
theorem dX12_readLine_145 : decode cX12_readLine 145 = .ok (.invokevirtual 198, 3) := by decide +kernel
theorem dX12_readLine_148 : decode cX12_readLine 148 = .ok (.goto 8, 3) := by decide +kernel
theorem dX12_readLine_151 : decode cX12_readLine 151 = .ok (.aload_n 0, 1) := by decide +kernel
theorem dX12_readLine_152 : decode cX12_readLine 152 = .ok (.iconst 2, 1) := by decide +kernel
theorem dX12_readLine_153 : decode cX12_readLine 153 = .ok (.invokevirtual 154, 3) := by decide +kernel
theorem dX12_readLine_156 : decode cX12_readLine 156 = .ok (.aload_n 0, 1) := by decide +kernel
theorem dX12_readLine_157 : decode cX12_readLine 157 = .ok (.invokevirtual 279, 3) := by decide +kernel
theorem dX12_readLine_160 : decode cX12_readLine 160 = .ok (.return_, 1) := by decide +kernel
theorem dX12_land_0 : decode cX12_land 0 = .ok (.aload_n 0, 1) := by decide +kernel
theorem dX12_land_1 : decode cX12_land 1 = .ok (.iconst 0, 1) := by decide +kernel
theorem dX12_land_2 : decode cX12_land 2 = .ok (.putfield 97, 3) := by decide +kernel
theorem dX12_land_5 : decode cX12_land 5 = .ok (.iload_n 1, 1) := by decide +kernel
theorem dX12_land_6 : decode cX12_land 6 = .ok (.i2l, 1) := by decide +kernel
theorem dX12_land_7 : decode cX12_land 7 = .ok (.lconst 0, 1) := by decide +kernel
theorem dX12_land_8 : decode cX12_land 8 = .ok (.aload_n 0, 1) := by decide +kernel
theorem dX12_land_9 : decode cX12_land 9 = .ok (.getfield 100, 3) := by decide +kernel
theorem dX12_land_12 : decode cX12_land 12 = .ok (.i2l, 1) := by decide +kernel
theorem dX12_land_13 : decode cX12_land 13 = .ok (.invokestatic 158, 3) := by decide +kernel
theorem dX12_land_16 : decode cX12_land 16 = .ok (.ifCond .ne 9, 3) := by decide +kernel
theorem dX12_land_19 : decode cX12_land 19 = .ok (.aload_n 0, 1) := by decide +kernel
theorem dX12_land_20 : decode cX12_land 20 = .ok (.iconst 1, 1) := by decide +kernel
theorem dX12_land_21 : decode cX12_land 21 = .ok (.invokevirtual 282, 3) := by decide +kernel
theorem dX12_land_24 : decode cX12_land 24 = .ok (.ireturn, 1) := by decide +kernel
theorem dX12_land_25 : decode cX12_land 25 = .ok (.aload_n 0, 1) := by decide +kernel
theorem dX12_land_26 : decode cX12_land 26 = .ok (.iload_n 1, 1) := by decide +kernel
theorem dX12_land_27 : decode cX12_land 27 = .ok (.putfield 103, 3) := by decide +kernel
theorem dX12_land_30 : decode cX12_land 30 = .ok (.aload_n 0, 1) := by decide +kernel
theorem dX12_land_31 : decode cX12_land 31 = .ok (.iconst 0, 1) := by decide +kernel
theorem dX12_land_32 : decode cX12_land 32 = .ok (.putfield 100, 3) := by decide +kernel
theorem dX12_land_35 : decode cX12_land 35 = .ok (.aload_n 0, 1) := by decide +kernel
theorem dX12_land_36 : decode cX12_land 36 = .ok (.iconst 0, 1) := by decide +kernel
theorem dX12_land_37 : decode cX12_land 37 = .ok (.putfield 106, 3) := by decide +kernel
theorem dX12_land_40 : decode cX12_land 40 = .ok (.aload_n 0, 1) := by decide +kernel
theorem dX12_land_41 : decode cX12_land 41 = .ok (.iconst 0, 1) := by decide +kernel
theorem dX12_land_42 : decode cX12_land 42 = .ok (.putfield 132, 3) := by decide +kernel
theorem dX12_land_45 : decode cX12_land 45 = .ok (.aload_n 0, 1) := by decide +kernel
theorem dX12_land_46 : decode cX12_land 46 = .ok (.iconst 0, 1) := by decide +kernel
theorem dX12_land_47 : decode cX12_land 47 = .ok (.putfield 174, 3) := by decide +kernel
theorem dX12_land_50 : decode cX12_land 50 = .ok (.iconst 0, 1) := by decide +kernel
theorem dX12_land_51 : decode cX12_land 51 = .ok (.istore_n 2, 1) := by decide +kernel
theorem dX12_land_52 : decode cX12_land 52 = .ok (.iload_n 2, 1) := by decide +kernel
theorem dX12_land_53 : decode cX12_land 53 = .ok (.sipush 2380, 3) := by decide +kernel
theorem dX12_land_56 : decode cX12_land 56 = .ok (.if_icmp .ge 16, 3) := by decide +kernel
theorem dX12_land_59 : decode cX12_land 59 = .ok (.aload_n 0, 1) := by decide +kernel
theorem dX12_land_60 : decode cX12_land 60 = .ok (.getfield 13, 3) := by decide +kernel
theorem dX12_land_63 : decode cX12_land 63 = .ok (.iload_n 2, 1) := by decide +kernel
theorem dX12_land_64 : decode cX12_land 64 = .ok (.iconst 0, 1) := by decide +kernel
theorem dX12_land_65 : decode cX12_land 65 = .ok (.iastore, 1) := by decide +kernel
theorem dX12_land_66 : decode cX12_land 66 = .ok (.iinc 2 1, 3) := by decide +kernel
theorem dX12_land_69 : decode cX12_land 69 = .ok (.goto (-17), 3) := by decide +kernel
theorem dX12_land_72 : decode cX12_land 72 = .ok (.aload_n 0, 1) := by decide +kernel
theorem dX12_land_73 : decode cX12_land 73 = .ok (.invokevirtual 151, 3) := by decide +kernel
theorem dX12_land_76 : decode cX12_land 76 = .ok (.aload_n 0, 1) := by decide +kernel
theorem dX12_land_77 : decode cX12_land 77 = .ok (.getfield 132, 3) := by decide +kernel
theorem dX12_land_80 : decode cX12_land 80 = .ok (.ifCond .ne 17, 3) := by decide +kernel
theorem dX12_land_83 : decode cX12_land 83 = .ok (.aload_n 0, 1) := by decide +kernel
theorem dX12_land_84 : decode cX12_land 84 = .ok (.getfield 112, 3) := by decide +kernel
theorem dX12_land_87 : decode cX12_land 87 = .ok (.ifCond .eq 10, 3) := by decide +kernel
theorem dX12_land_90 : decode cX12_land 90 = .ok (.aload_n 0, 1) := by decide +kernel
theorem dX12_land_91 : decode cX12_land 91 = .ok (.invokevirtual 285, 3) := by decide +kernel
theorem dX12_land_94 : decode cX12_land 94 = .ok (.goto (-18), 3) := by decide +kernel
theorem dX12_land_97 : decode cX12_land 97 = .ok (.aload_n 0, 1) := by decide +kernel
theorem dX12_land_98 : decode cX12_land 98 = .ok (.aload_n 0, 1) := by decide +kernel
theorem dX12_land_99 : decode cX12_land 99 = .ok (.getfield 132, 3) := by decide +kernel
theorem dX12_land_102 : decode cX12_land 102 = .ok (.putfield 288, 3) := by decide +kernel
theorem dX12_land_105 : decode cX12_land 105 = .ok (.aload_n 0, 1) := by decide +kernel
theorem dX12_land_106 : decode cX12_land 106 = .ok (.aload_n 0, 1) := by decide +kernel
theorem dX12_land_107 : decode cX12_land 107 = .ok (.getfield 132, 3) := by decide +kernel
theorem dX12_land_110 : decode cX12_land 110 = .ok (.ifCond .ne 7, 3) := by decide +kernel
theorem dX12_land_113 : decode cX12_land 113 = .ok (.iconst (-1), 1) := by decide +kernel
theorem dX12_land_114 : decode cX12_land 114 = .ok (.goto 7, 3) := by decide +kernel
theorem dX12_land_117 : decode cX12_land 117 = .ok (.aload_n 0, 1) := by decide +kernel
theorem dX12_land_118 : decode cX12_land 118 = .ok (.getfield 135, 3) := by decide +kernel
theorem dX12_land_121 : decode cX12_land 121 = .ok (.putfield 26, 3) := by decide +kernel
theorem dX12_land_124 : decode cX12_land 124 = .ok (.aload_n 0, 1) := by decide +kernel
theorem dX12_land_125 : decode cX12_land 125 = .ok (.getfield 132, 3) := by decide +kernel
theorem dX12_land_128 : decode cX12_land 128 = .ok (.ifCond .eq 11, 3) := by decide +kernel
theorem dX12_land_131 : decode cX12_land 131 = .ok (.bipush (-10), 2) := by decide +kernel
theorem dX12_land_133 : decode cX12_land 133 = .ok (.aload_n 0, 1) := by decide +kernel
theorem dX12_land_134 : decode cX12_land 134 = .ok (.getfield 132, 3) := by decide +kernel
theorem dX12_land_137 : decode cX12_land 137 = .ok (.isub, 1) := by decide +kernel
theorem dX12_land_138 : decode cX12_land 138 = .ok (.ireturn, 1) := by decide +kernel
theorem dX12_land_139 : decode cX12_land 139 = .ok (.iconst 0, 1) := by decide +kernel
theorem dX12_land_140 : decode cX12_land 140 = .ok (.istore_n 2, 1) := by decide +kernel
theorem dX12_land_141 : decode cX12_land 141 = .ok (.iload_n 2, 1) := by decide +kernel
theorem dX12_land_142 : decode cX12_land 142 = .ok (.sipush 2380, 3) := by decide +kernel
theorem dX12_land_145 : decode cX12_land 145 = .ok (.if_icmp .ge 21, 3) := by decide +kernel
theorem dX12_land_148 : decode cX12_land 148 = .ok (.aload_n 0, 1) := by decide +kernel
theorem dX12_land_149 : decode cX12_land 149 = .ok (.getfield 9, 3) := by decide +kernel
theorem dX12_land_152 : decode cX12_land 152 = .ok (.iload_n 2, 1) := by decide +kernel
theorem dX12_land_153 : decode cX12_land 153 = .ok (.aload_n 0, 1) := by decide +kernel
theorem dX12_land_154 : decode cX12_land 154 = .ok (.getfield 13, 3) := by decide +kernel
theorem dX12_land_157 : decode cX12_land 157 = .ok (.iload_n 2, 1) := by decide +kernel
theorem dX12_land_158 : decode cX12_land 158 = .ok (.iaload, 1) := by decide +kernel
theorem dX12_land_159 : decode cX12_land 159 = .ok (.iastore, 1) := by decide +kernel
theorem dX12_land_160 : decode cX12_land 160 = .ok (.iinc 2 1, 3) := by decide +kernel
theorem dX12_land_163 : decode cX12_land 163 = .ok (.goto (-22), 3) := by decide +kernel
theorem dX12_land_166 : decode cX12_land 166 = .ok (.aload_n 0, 1) := by decide +kernel
theorem dX12_land_167 : decode cX12_land 167 = .ok (.getfield 9, 3) := by decide +kernel
theorem dX12_land_170 : decode cX12_land 170 = .ok (.iconst 0, 1) := by decide +kernel
theorem dX12_land_171 : decode cX12_land 171 = .ok (.iaload, 1) := by decide +kernel
theorem dX12_land_172 : decode cX12_land 172 = .ok (.ireturn, 1) := by decide +kernel
theorem dX12_fault_0 : decode cX12_fault 0 = .ok (.aload_n 0, 1) := by decide +kernel
theorem dX12_fault_1 : decode cX12_fault 1 = .ok (.iconst 0, 1) := by decide +kernel
theorem dX12_fault_2 : decode cX12_fault 2 = .ok (.putfield 97, 3) := by decide +kernel
theorem dX12_fault_5 : decode cX12_fault 5 = .ok (.iload_n 1, 1) := by decide +kernel
theorem dX12_fault_6 : decode cX12_fault 6 = .ok (.ifCond .ne 10, 3) := by decide +kernel
theorem dX12_fault_9 : decode cX12_fault 9 = .ok (.aload_n 0, 1) := by decide +kernel
theorem dX12_fault_10 : decode cX12_fault 10 = .ok (.getfield 288, 3) := by decide +kernel
theorem dX12_fault_13 : decode cX12_fault 13 = .ok (.goto 16, 3) := by decide +kernel
theorem dX12_fault_16 : decode cX12_fault 16 = .ok (.iload_n 1, 1) := by decide +kernel
theorem dX12_fault_17 : decode cX12_fault 17 = .ok (.iconst 1, 1) := by decide +kernel
theorem dX12_fault_18 : decode cX12_fault 18 = .ok (.if_icmp .ne 10, 3) := by decide +kernel
theorem dX12_fault_21 : decode cX12_fault 21 = .ok (.aload_n 0, 1) := by decide +kernel
theorem dX12_fault_22 : decode cX12_fault 22 = .ok (.getfield 26, 3) := by decide +kernel
theorem dX12_fault_25 : decode cX12_fault 25 = .ok (.goto 4, 3) := by decide +kernel
theorem dX12_fault_28 : decode cX12_fault 28 = .ok (.iconst (-1), 1) := by decide +kernel
theorem dX12_fault_29 : decode cX12_fault 29 = .ok (.ireturn, 1) := by decide +kernel
theorem dX12_wards_0 : decode cX12_wards 0 = .ok (.aload_n 0, 1) := by decide +kernel
theorem dX12_wards_1 : decode cX12_wards 1 = .ok (.getfield 9, 3) := by decide +kernel
theorem dX12_wards_4 : decode cX12_wards 4 = .ok (.iconst 1, 1) := by decide +kernel
theorem dX12_wards_5 : decode cX12_wards 5 = .ok (.iaload, 1) := by decide +kernel
theorem dX12_wards_6 : decode cX12_wards 6 = .ok (.ireturn, 1) := by decide +kernel
theorem dX12_acts_0 : decode cX12_acts 0 = .ok (.aload_n 0, 1) := by decide +kernel
theorem dX12_acts_1 : decode cX12_acts 1 = .ok (.getfield 9, 3) := by decide +kernel
theorem dX12_acts_4 : decode cX12_acts 4 = .ok (.iconst 2, 1) := by decide +kernel
theorem dX12_acts_5 : decode cX12_acts 5 = .ok (.iaload, 1) := by decide +kernel
theorem dX12_acts_6 : decode cX12_acts 6 = .ok (.ireturn, 1) := by decide +kernel
theorem dX12_isWard_0 : decode cX12_isWard 0 = .ok (.lload_n 1, 1) := by decide +kernel
theorem dX12_isWard_1 : decode cX12_isWard 1 = .ok (.lconst 0, 1) := by decide +kernel
theorem dX12_isWard_2 : decode cX12_isWard 2 = .ok (.aload_n 0, 1) := by decide +kernel
theorem dX12_isWard_3 : decode cX12_isWard 3 = .ok (.invokevirtual 291, 3) := by decide +kernel
theorem dX12_isWard_6 : decode cX12_isWard 6 = .ok (.iconst 1, 1) := by decide +kernel
theorem dX12_isWard_7 : decode cX12_isWard 7 = .ok (.isub, 1) := by decide +kernel
theorem dX12_isWard_8 : decode cX12_isWard 8 = .ok (.i2l, 1) := by decide +kernel
theorem dX12_isWard_9 : decode cX12_isWard 9 = .ok (.invokestatic 158, 3) := by decide +kernel
theorem dX12_isWard_12 : decode cX12_isWard 12 = .ok (.ireturn, 1) := by decide +kernel
theorem dX12_isAct_0 : decode cX12_isAct 0 = .ok (.lload_n 1, 1) := by decide +kernel
theorem dX12_isAct_1 : decode cX12_isAct 1 = .ok (.lconst 0, 1) := by decide +kernel
theorem dX12_isAct_2 : decode cX12_isAct 2 = .ok (.aload_n 0, 1) := by decide +kernel
theorem dX12_isAct_3 : decode cX12_isAct 3 = .ok (.invokevirtual 294, 3) := by decide +kernel
theorem dX12_isAct_6 : decode cX12_isAct 6 = .ok (.iconst 1, 1) := by decide +kernel
theorem dX12_isAct_7 : decode cX12_isAct 7 = .ok (.isub, 1) := by decide +kernel
theorem dX12_isAct_8 : decode cX12_isAct 8 = .ok (.i2l, 1) := by decide +kernel
theorem dX12_isAct_9 : decode cX12_isAct 9 = .ok (.invokestatic 158, 3) := by decide +kernel
theorem dX12_isAct_12 : decode cX12_isAct 12 = .ok (.ireturn, 1) := by decide +kernel
theorem dX12_isKind_0 : decode cX12_isKind 0 = .ok (.iload_n 0, 1) := by decide +kernel
theorem dX12_isKind_1 : decode cX12_isKind 1 = .ok (.i2l, 1) := by decide +kernel
theorem dX12_isKind_2 : decode cX12_isKind 2 = .ok (.lconst 0, 1) := by decide +kernel
theorem dX12_isKind_3 : decode cX12_isKind 3 = .ok (.ldc2_w 297, 3) := by decide +kernel
theorem dX12_isKind_6 : decode cX12_isKind 6 = .ok (.invokestatic 158, 3) := by decide +kernel
theorem dX12_isKind_9 : decode cX12_isKind 9 = .ok (.ireturn, 1) := by decide +kernel
theorem dX12_laidOn_0 : decode cX12_laidOn 0 = .ok (.iload_n 3, 1) := by decide +kernel
theorem dX12_laidOn_1 : decode cX12_laidOn 1 = .ok (.i2l, 1) := by decide +kernel
theorem dX12_laidOn_2 : decode cX12_laidOn 2 = .ok (.aload_n 0, 1) := by decide +kernel
theorem dX12_laidOn_3 : decode cX12_laidOn 3 = .ok (.getfield 9, 3) := by decide +kernel
theorem dX12_laidOn_6 : decode cX12_laidOn 6 = .ok (.iload_n 1, 1) := by decide +kernel
theorem dX12_laidOn_7 : decode cX12_laidOn 7 = .ok (.iconst 5, 1) := by decide +kernel
theorem dX12_laidOn_8 : decode cX12_laidOn 8 = .ok (.iadd, 1) := by decide +kernel
theorem dX12_laidOn_9 : decode cX12_laidOn 9 = .ok (.iload_n 2, 1) := by decide +kernel
theorem dX12_laidOn_10 : decode cX12_laidOn 10 = .ok (.iadd, 1) := by decide +kernel
theorem dX12_laidOn_11 : decode cX12_laidOn 11 = .ok (.iaload, 1) := by decide +kernel
theorem dX12_laidOn_12 : decode cX12_laidOn 12 = .ok (.i2l, 1) := by decide +kernel
theorem dX12_laidOn_13 : decode cX12_laidOn 13 = .ok (.aload_n 0, 1) := by decide +kernel
theorem dX12_laidOn_14 : decode cX12_laidOn 14 = .ok (.getfield 9, 3) := by decide +kernel
theorem dX12_laidOn_17 : decode cX12_laidOn 17 = .ok (.iload_n 1, 1) := by decide +kernel
theorem dX12_laidOn_18 : decode cX12_laidOn 18 = .ok (.bipush 10, 2) := by decide +kernel
theorem dX12_laidOn_20 : decode cX12_laidOn 20 = .ok (.iadd, 1) := by decide +kernel
theorem dX12_laidOn_21 : decode cX12_laidOn 21 = .ok (.iload_n 2, 1) := by decide +kernel
theorem dX12_laidOn_22 : decode cX12_laidOn 22 = .ok (.iadd, 1) := by decide +kernel
theorem dX12_laidOn_23 : decode cX12_laidOn 23 = .ok (.iaload, 1) := by decide +kernel
theorem dX12_laidOn_24 : decode cX12_laidOn 24 = .ok (.iconst 1, 1) := by decide +kernel
theorem dX12_laidOn_25 : decode cX12_laidOn 25 = .ok (.isub, 1) := by decide +kernel
theorem dX12_laidOn_26 : decode cX12_laidOn 26 = .ok (.i2l, 1) := by decide +kernel
theorem dX12_laidOn_27 : decode cX12_laidOn 27 = .ok (.invokestatic 158, 3) := by decide +kernel
theorem dX12_laidOn_30 : decode cX12_laidOn 30 = .ok (.ifCond .eq 14, 3) := by decide +kernel
theorem dX12_laidOn_33 : decode cX12_laidOn 33 = .ok (.aload_n 0, 1) := by decide +kernel
theorem dX12_laidOn_34 : decode cX12_laidOn 34 = .ok (.getfield 9, 3) := by decide +kernel
theorem dX12_laidOn_37 : decode cX12_laidOn 37 = .ok (.iload_n 1, 1) := by decide +kernel
theorem dX12_laidOn_38 : decode cX12_laidOn 38 = .ok (.iload_n 2, 1) := by decide +kernel
theorem dX12_laidOn_39 : decode cX12_laidOn 39 = .ok (.iadd, 1) := by decide +kernel
theorem dX12_laidOn_40 : decode cX12_laidOn 40 = .ok (.iaload, 1) := by decide +kernel
theorem dX12_laidOn_41 : decode cX12_laidOn 41 = .ok (.goto 4, 3) := by decide +kernel
theorem dX12_laidOn_44 : decode cX12_laidOn 44 = .ok (.iconst 0, 1) := by decide +kernel
theorem dX12_laidOn_45 : decode cX12_laidOn 45 = .ok (.ireturn, 1) := by decide +kernel
theorem dX12_bound_0 : decode cX12_bound 0 = .ok (.ldc2_w 299, 3) := by decide +kernel
theorem dX12_bound_3 : decode cX12_bound 3 = .ok (.ldc2_w 301, 3) := by decide +kernel
theorem dX12_bound_6 : decode cX12_bound 6 = .ok (.lload_n 0, 1) := by decide +kernel
theorem dX12_bound_7 : decode cX12_bound 7 = .ok (.invokestatic 303, 3) := by decide +kernel
theorem dX12_bound_10 : decode cX12_bound 10 = .ok (.invokestatic 309, 3) := by decide +kernel
theorem dX12_bound_13 : decode cX12_bound 13 = .ok (.l2i, 1) := by decide +kernel
theorem dX12_bound_14 : decode cX12_bound 14 = .ok (.ireturn, 1) := by decide +kernel
theorem dX12_doneStep_0 : decode cX12_doneStep 0 = .ok (.iload_n 0, 1) := by decide +kernel
theorem dX12_doneStep_1 : decode cX12_doneStep 1 = .ok (.tableswitch 114 10 16 #[43, 50, 57, 64, 76, 88, 100], 43) := by decide +kernel
theorem dX12_doneStep_44 : decode cX12_doneStep 44 = .ok (.lload_n 1, 1) := by decide +kernel
theorem dX12_doneStep_45 : decode cX12_doneStep 45 = .ok (.lload_n 3, 1) := by decide +kernel
theorem dX12_doneStep_46 : decode cX12_doneStep 46 = .ok (.ladd, 1) := by decide +kernel
theorem dX12_doneStep_47 : decode cX12_doneStep 47 = .ok (.invokestatic 312, 3) := by decide +kernel
theorem dX12_doneStep_50 : decode cX12_doneStep 50 = .ok (.ireturn, 1) := by decide +kernel
theorem dX12_doneStep_51 : decode cX12_doneStep 51 = .ok (.lload_n 1, 1) := by decide +kernel
theorem dX12_doneStep_52 : decode cX12_doneStep 52 = .ok (.lload_n 3, 1) := by decide +kernel
theorem dX12_doneStep_53 : decode cX12_doneStep 53 = .ok (.lsub, 1) := by decide +kernel
theorem dX12_doneStep_54 : decode cX12_doneStep 54 = .ok (.invokestatic 312, 3) := by decide +kernel
theorem dX12_doneStep_57 : decode cX12_doneStep 57 = .ok (.ireturn, 1) := by decide +kernel
theorem dX12_doneStep_58 : decode cX12_doneStep 58 = .ok (.lload_n 1, 1) := by decide +kernel
theorem dX12_doneStep_59 : decode cX12_doneStep 59 = .ok (.lload_n 3, 1) := by decide +kernel
theorem dX12_doneStep_60 : decode cX12_doneStep 60 = .ok (.lmul, 1) := by decide +kernel
theorem dX12_doneStep_61 : decode cX12_doneStep 61 = .ok (.invokestatic 312, 3) := by decide +kernel
theorem dX12_doneStep_64 : decode cX12_doneStep 64 = .ok (.ireturn, 1) := by decide +kernel
theorem dX12_doneStep_65 : decode cX12_doneStep 65 = .ok (.lload_n 1, 1) := by decide +kernel
theorem dX12_doneStep_66 : decode cX12_doneStep 66 = .ok (.lload_n 3, 1) := by decide +kernel
theorem dX12_doneStep_67 : decode cX12_doneStep 67 = .ok (.lcmp, 1) := by decide +kernel
theorem dX12_doneStep_68 : decode cX12_doneStep 68 = .ok (.ifCond .ne 7, 3) := by decide +kernel
theorem dX12_doneStep_71 : decode cX12_doneStep 71 = .ok (.iconst 1, 1) := by decide +kernel
theorem dX12_doneStep_72 : decode cX12_doneStep 72 = .ok (.goto 4, 3) := by decide +kernel
theorem dX12_doneStep_75 : decode cX12_doneStep 75 = .ok (.iconst 0, 1) := by decide +kernel
theorem dX12_doneStep_76 : decode cX12_doneStep 76 = .ok (.ireturn, 1) := by decide +kernel
theorem dX12_doneStep_77 : decode cX12_doneStep 77 = .ok (.lload_n 1, 1) := by decide +kernel
theorem dX12_doneStep_78 : decode cX12_doneStep 78 = .ok (.lload_n 3, 1) := by decide +kernel
theorem dX12_doneStep_79 : decode cX12_doneStep 79 = .ok (.lcmp, 1) := by decide +kernel
theorem dX12_doneStep_80 : decode cX12_doneStep 80 = .ok (.ifCond .ge 7, 3) := by decide +kernel
theorem dX12_doneStep_83 : decode cX12_doneStep 83 = .ok (.iconst 1, 1) := by decide +kernel
theorem dX12_doneStep_84 : decode cX12_doneStep 84 = .ok (.goto 4, 3) := by decide +kernel
theorem dX12_doneStep_87 : decode cX12_doneStep 87 = .ok (.iconst 0, 1) := by decide +kernel
theorem dX12_doneStep_88 : decode cX12_doneStep 88 = .ok (.ireturn, 1) := by decide +kernel
theorem dX12_doneStep_89 : decode cX12_doneStep 89 = .ok (.lload_n 1, 1) := by decide +kernel
theorem dX12_doneStep_90 : decode cX12_doneStep 90 = .ok (.lload_n 3, 1) := by decide +kernel
theorem dX12_doneStep_91 : decode cX12_doneStep 91 = .ok (.lcmp, 1) := by decide +kernel
theorem dX12_doneStep_92 : decode cX12_doneStep 92 = .ok (.ifCond .le 7, 3) := by decide +kernel
theorem dX12_doneStep_95 : decode cX12_doneStep 95 = .ok (.iconst 1, 1) := by decide +kernel
theorem dX12_doneStep_96 : decode cX12_doneStep 96 = .ok (.goto 4, 3) := by decide +kernel
theorem dX12_doneStep_99 : decode cX12_doneStep 99 = .ok (.iconst 0, 1) := by decide +kernel
theorem dX12_doneStep_100 : decode cX12_doneStep 100 = .ok (.ireturn, 1) := by decide +kernel
theorem dX12_doneStep_101 : decode cX12_doneStep 101 = .ok (.lload_n 1, 1) := by decide +kernel
theorem dX12_doneStep_102 : decode cX12_doneStep 102 = .ok (.lload_n 3, 1) := by decide +kernel
theorem dX12_doneStep_103 : decode cX12_doneStep 103 = .ok (.ladd, 1) := by decide +kernel
theorem dX12_doneStep_104 : decode cX12_doneStep 104 = .ok (.lconst 1, 1) := by decide +kernel
theorem dX12_doneStep_105 : decode cX12_doneStep 105 = .ok (.lcmp, 1) := by decide +kernel
theorem dX12_doneStep_106 : decode cX12_doneStep 106 = .ok (.ifCond .le 7, 3) := by decide +kernel
theorem dX12_doneStep_109 : decode cX12_doneStep 109 = .ok (.iconst 1, 1) := by decide +kernel
theorem dX12_doneStep_110 : decode cX12_doneStep 110 = .ok (.goto 4, 3) := by decide +kernel
theorem dX12_doneStep_113 : decode cX12_doneStep 113 = .ok (.iconst 0, 1) := by decide +kernel
theorem dX12_doneStep_114 : decode cX12_doneStep 114 = .ok (.ireturn, 1) := by decide +kernel
theorem dX12_doneStep_115 : decode cX12_doneStep 115 = .ok (.lload_n 1, 1) := by decide +kernel
theorem dX12_doneStep_116 : decode cX12_doneStep 116 = .ok (.lload_n 3, 1) := by decide +kernel
theorem dX12_doneStep_117 : decode cX12_doneStep 117 = .ok (.ladd, 1) := by decide +kernel
theorem dX12_doneStep_118 : decode cX12_doneStep 118 = .ok (.lconst 0, 1) := by decide +kernel
theorem dX12_doneStep_119 : decode cX12_doneStep 119 = .ok (.lcmp, 1) := by decide +kernel
theorem dX12_doneStep_120 : decode cX12_doneStep 120 = .ok (.ifCond .le 7, 3) := by decide +kernel
theorem dX12_doneStep_123 : decode cX12_doneStep 123 = .ok (.iconst 1, 1) := by decide +kernel
theorem dX12_doneStep_124 : decode cX12_doneStep 124 = .ok (.goto 4, 3) := by decide +kernel
theorem dX12_doneStep_127 : decode cX12_doneStep 127 = .ok (.iconst 0, 1) := by decide +kernel
theorem dX12_doneStep_128 : decode cX12_doneStep 128 = .ok (.ireturn, 1) := by decide +kernel
theorem dX12_lawOf_0 : decode cX12_lawOf 0 = .ok (.iconst 0, 1) := by decide +kernel
theorem dX12_lawOf_1 : decode cX12_lawOf 1 = .ok (.istore_n 3, 1) := by decide +kernel
theorem dX12_lawOf_2 : decode cX12_lawOf 2 = .ok (.iconst 0, 1) := by decide +kernel
theorem dX12_lawOf_3 : decode cX12_lawOf 3 = .ok (.istore 4, 2) := by decide +kernel
theorem dX12_lawOf_5 : decode cX12_lawOf 5 = .ok (.iload 4, 2) := by decide +kernel
theorem dX12_lawOf_7 : decode cX12_lawOf 7 = .ok (.aload_n 0, 1) := by decide +kernel
theorem dX12_lawOf_8 : decode cX12_lawOf 8 = .ok (.getfield 9, 3) := by decide +kernel
theorem dX12_lawOf_11 : decode cX12_lawOf 11 = .ok (.iload_n 1, 1) := by decide +kernel
theorem dX12_lawOf_12 : decode cX12_lawOf 12 = .ok (.iaload, 1) := by decide +kernel
theorem dX12_lawOf_13 : decode cX12_lawOf 13 = .ok (.if_icmp .ge 126, 3) := by decide +kernel
theorem dX12_lawOf_16 : decode cX12_lawOf 16 = .ok (.aload_n 0, 1) := by decide +kernel
theorem dX12_lawOf_17 : decode cX12_lawOf 17 = .ok (.getfield 9, 3) := by decide +kernel
theorem dX12_lawOf_20 : decode cX12_lawOf 20 = .ok (.iload_n 2, 1) := by decide +kernel
theorem dX12_lawOf_21 : decode cX12_lawOf 21 = .ok (.iload 4, 2) := by decide +kernel
theorem dX12_lawOf_23 : decode cX12_lawOf 23 = .ok (.iadd, 1) := by decide +kernel
theorem dX12_lawOf_24 : decode cX12_lawOf 24 = .ok (.iaload, 1) := by decide +kernel
theorem dX12_lawOf_25 : decode cX12_lawOf 25 = .ok (.istore 5, 2) := by decide +kernel
theorem dX12_lawOf_27 : decode cX12_lawOf 27 = .ok (.iload 5, 2) := by decide +kernel
theorem dX12_lawOf_29 : decode cX12_lawOf 29 = .ok (.bipush 100, 2) := by decide +kernel
theorem dX12_lawOf_31 : decode cX12_lawOf 31 = .ok (.if_icmp .lt 42, 3) := by decide +kernel
theorem dX12_lawOf_34 : decode cX12_lawOf 34 = .ok (.aload_n 0, 1) := by decide +kernel
theorem dX12_lawOf_35 : decode cX12_lawOf 35 = .ok (.getfield 30, 3) := by decide +kernel
theorem dX12_lawOf_38 : decode cX12_lawOf 38 = .ok (.iload_n 3, 1) := by decide +kernel
theorem dX12_lawOf_39 : decode cX12_lawOf 39 = .ok (.iload 5, 2) := by decide +kernel
theorem dX12_lawOf_41 : decode cX12_lawOf 41 = .ok (.sipush 1000, 3) := by decide +kernel
theorem dX12_lawOf_44 : decode cX12_lawOf 44 = .ok (.if_icmp .lt 12, 3) := by decide +kernel
theorem dX12_lawOf_47 : decode cX12_lawOf 47 = .ok (.iload 5, 2) := by decide +kernel
theorem dX12_lawOf_49 : decode cX12_lawOf 49 = .ok (.sipush 1000, 3) := by decide +kernel
theorem dX12_lawOf_52 : decode cX12_lawOf 52 = .ok (.isub, 1) := by decide +kernel
theorem dX12_lawOf_53 : decode cX12_lawOf 53 = .ok (.goto 13, 3) := by decide +kernel
theorem dX12_lawOf_56 : decode cX12_lawOf 56 = .ok (.aload_n 0, 1) := by decide +kernel
theorem dX12_lawOf_57 : decode cX12_lawOf 57 = .ok (.getfield 33, 3) := by decide +kernel
theorem dX12_lawOf_60 : decode cX12_lawOf 60 = .ok (.iload 5, 2) := by decide +kernel
theorem dX12_lawOf_62 : decode cX12_lawOf 62 = .ok (.bipush 100, 2) := by decide +kernel
theorem dX12_lawOf_64 : decode cX12_lawOf 64 = .ok (.isub, 1) := by decide +kernel
theorem dX12_lawOf_65 : decode cX12_lawOf 65 = .ok (.iaload, 1) := by decide +kernel
theorem dX12_lawOf_66 : decode cX12_lawOf 66 = .ok (.iastore, 1) := by decide +kernel
theorem dX12_lawOf_67 : decode cX12_lawOf 67 = .ok (.iinc 3 1, 3) := by decide +kernel
theorem dX12_lawOf_70 : decode cX12_lawOf 70 = .ok (.goto 63, 3) := by decide +kernel
theorem dX12_lawOf_73 : decode cX12_lawOf 73 = .ok (.iload 5, 2) := by decide +kernel
theorem dX12_lawOf_75 : decode cX12_lawOf 75 = .ok (.bipush 18, 2) := by decide +kernel
theorem dX12_lawOf_77 : decode cX12_lawOf 77 = .ok (.if_icmp .ne 24, 3) := by decide +kernel
theorem dX12_lawOf_80 : decode cX12_lawOf 80 = .ok (.aload_n 0, 1) := by decide +kernel
theorem dX12_lawOf_81 : decode cX12_lawOf 81 = .ok (.getfield 30, 3) := by decide +kernel
theorem dX12_lawOf_84 : decode cX12_lawOf 84 = .ok (.iload_n 3, 1) := by decide +kernel
theorem dX12_lawOf_85 : decode cX12_lawOf 85 = .ok (.iconst 1, 1) := by decide +kernel
theorem dX12_lawOf_86 : decode cX12_lawOf 86 = .ok (.isub, 1) := by decide +kernel
theorem dX12_lawOf_87 : decode cX12_lawOf 87 = .ok (.iconst 1, 1) := by decide +kernel
theorem dX12_lawOf_88 : decode cX12_lawOf 88 = .ok (.aload_n 0, 1) := by decide +kernel
theorem dX12_lawOf_89 : decode cX12_lawOf 89 = .ok (.getfield 30, 3) := by decide +kernel
theorem dX12_lawOf_92 : decode cX12_lawOf 92 = .ok (.iload_n 3, 1) := by decide +kernel
theorem dX12_lawOf_93 : decode cX12_lawOf 93 = .ok (.iconst 1, 1) := by decide +kernel
theorem dX12_lawOf_94 : decode cX12_lawOf 94 = .ok (.isub, 1) := by decide +kernel
theorem dX12_lawOf_95 : decode cX12_lawOf 95 = .ok (.iaload, 1) := by decide +kernel
theorem dX12_lawOf_96 : decode cX12_lawOf 96 = .ok (.isub, 1) := by decide +kernel
theorem dX12_lawOf_97 : decode cX12_lawOf 97 = .ok (.iastore, 1) := by decide +kernel
theorem dX12_lawOf_98 : decode cX12_lawOf 98 = .ok (.goto 35, 3) := by decide +kernel
theorem dX12_lawOf_101 : decode cX12_lawOf 101 = .ok (.iinc 3 (-1), 3) := by decide +kernel
theorem dX12_lawOf_104 : decode cX12_lawOf 104 = .ok (.aload_n 0, 1) := by decide +kernel
theorem dX12_lawOf_105 : decode cX12_lawOf 105 = .ok (.getfield 30, 3) := by decide +kernel
theorem dX12_lawOf_108 : decode cX12_lawOf 108 = .ok (.iload_n 3, 1) := by decide +kernel
theorem dX12_lawOf_109 : decode cX12_lawOf 109 = .ok (.iconst 1, 1) := by decide +kernel
theorem dX12_lawOf_110 : decode cX12_lawOf 110 = .ok (.isub, 1) := by decide +kernel
theorem dX12_lawOf_111 : decode cX12_lawOf 111 = .ok (.iload 5, 2) := by decide +kernel
theorem dX12_lawOf_113 : decode cX12_lawOf 113 = .ok (.aload_n 0, 1) := by decide +kernel
theorem dX12_lawOf_114 : decode cX12_lawOf 114 = .ok (.getfield 30, 3) := by decide +kernel
theorem dX12_lawOf_117 : decode cX12_lawOf 117 = .ok (.iload_n 3, 1) := by decide +kernel
theorem dX12_lawOf_118 : decode cX12_lawOf 118 = .ok (.iconst 1, 1) := by decide +kernel
theorem dX12_lawOf_119 : decode cX12_lawOf 119 = .ok (.isub, 1) := by decide +kernel
theorem dX12_lawOf_120 : decode cX12_lawOf 120 = .ok (.iaload, 1) := by decide +kernel
theorem dX12_lawOf_121 : decode cX12_lawOf 121 = .ok (.i2l, 1) := by decide +kernel
theorem dX12_lawOf_122 : decode cX12_lawOf 122 = .ok (.aload_n 0, 1) := by decide +kernel
theorem dX12_lawOf_123 : decode cX12_lawOf 123 = .ok (.getfield 30, 3) := by decide +kernel
theorem dX12_lawOf_126 : decode cX12_lawOf 126 = .ok (.iload_n 3, 1) := by decide +kernel
theorem dX12_lawOf_127 : decode cX12_lawOf 127 = .ok (.iaload, 1) := by decide +kernel
theorem dX12_lawOf_128 : decode cX12_lawOf 128 = .ok (.i2l, 1) := by decide +kernel
theorem dX12_lawOf_129 : decode cX12_lawOf 129 = .ok (.invokestatic 316, 3) := by decide +kernel
theorem dX12_lawOf_132 : decode cX12_lawOf 132 = .ok (.iastore, 1) := by decide +kernel
theorem dX12_lawOf_133 : decode cX12_lawOf 133 = .ok (.iinc 4 1, 3) := by decide +kernel
theorem dX12_lawOf_136 : decode cX12_lawOf 136 = .ok (.goto (-131), 3) := by decide +kernel
theorem dX12_lawOf_139 : decode cX12_lawOf 139 = .ok (.aload_n 0, 1) := by decide +kernel
theorem dX12_lawOf_140 : decode cX12_lawOf 140 = .ok (.getfield 30, 3) := by decide +kernel
theorem dX12_lawOf_143 : decode cX12_lawOf 143 = .ok (.iconst 0, 1) := by decide +kernel
theorem dX12_lawOf_144 : decode cX12_lawOf 144 = .ok (.iaload, 1) := by decide +kernel
theorem dX12_lawOf_145 : decode cX12_lawOf 145 = .ok (.ireturn, 1) := by decide +kernel
theorem dX12_kept_0 : decode cX12_kept 0 = .ok (.iconst 0, 1) := by decide +kernel
theorem dX12_kept_1 : decode cX12_kept 1 = .ok (.bipush 99, 2) := by decide +kernel
theorem dX12_kept_3 : decode cX12_kept 3 = .ok (.iload_n 0, 1) := by decide +kernel
theorem dX12_kept_4 : decode cX12_kept 4 = .ok (.invokestatic 320, 3) := by decide +kernel
theorem dX12_kept_7 : decode cX12_kept 7 = .ok (.invokestatic 322, 3) := by decide +kernel
theorem dX12_kept_10 : decode cX12_kept 10 = .ok (.ireturn, 1) := by decide +kernel
theorem dX12_degreeIn_0 : decode cX12_degreeIn 0 = .ok (.aload_n 0, 1) := by decide +kernel
theorem dX12_degreeIn_1 : decode cX12_degreeIn 1 = .ok (.bipush 7, 2) := by decide +kernel
theorem dX12_degreeIn_3 : decode cX12_degreeIn 3 = .ok (.iload_n 1, 1) := by decide +kernel
theorem dX12_degreeIn_4 : decode cX12_degreeIn 4 = .ok (.iload_n 2, 1) := by decide +kernel
theorem dX12_degreeIn_5 : decode cX12_degreeIn 5 = .ok (.invokevirtual 324, 3) := by decide +kernel
theorem dX12_degreeIn_8 : decode cX12_degreeIn 8 = .ok (.istore_n 3, 1) := by decide +kernel
theorem dX12_degreeIn_9 : decode cX12_degreeIn 9 = .ok (.aload_n 0, 1) := by decide +kernel
theorem dX12_degreeIn_10 : decode cX12_degreeIn 10 = .ok (.bipush 22, 2) := by decide +kernel
theorem dX12_degreeIn_12 : decode cX12_degreeIn 12 = .ok (.iload_n 1, 1) := by decide +kernel
theorem dX12_degreeIn_13 : decode cX12_degreeIn 13 = .ok (.iload_n 2, 1) := by decide +kernel
theorem dX12_degreeIn_14 : decode cX12_degreeIn 14 = .ok (.invokevirtual 324, 3) := by decide +kernel
theorem dX12_degreeIn_17 : decode cX12_degreeIn 17 = .ok (.istore 4, 2) := by decide +kernel
theorem dX12_degreeIn_19 : decode cX12_degreeIn 19 = .ok (.aload_n 0, 1) := by decide +kernel
theorem dX12_degreeIn_20 : decode cX12_degreeIn 20 = .ok (.getfield 9, 3) := by decide +kernel
theorem dX12_degreeIn_23 : decode cX12_degreeIn 23 = .ok (.iconst 3, 1) := by decide +kernel
theorem dX12_degreeIn_24 : decode cX12_degreeIn 24 = .ok (.iaload, 1) := by decide +kernel
theorem dX12_degreeIn_25 : decode cX12_degreeIn 25 = .ok (.ifCond .ne 21, 3) := by decide +kernel
theorem dX12_degreeIn_28 : decode cX12_degreeIn 28 = .ok (.aload_n 0, 1) := by decide +kernel
theorem dX12_degreeIn_29 : decode cX12_degreeIn 29 = .ok (.getfield 9, 3) := by decide +kernel
theorem dX12_degreeIn_32 : decode cX12_degreeIn 32 = .ok (.bipush 56, 2) := by decide +kernel
theorem dX12_degreeIn_34 : decode cX12_degreeIn 34 = .ok (.iload_n 1, 1) := by decide +kernel
theorem dX12_degreeIn_35 : decode cX12_degreeIn 35 = .ok (.iadd, 1) := by decide +kernel
theorem dX12_degreeIn_36 : decode cX12_degreeIn 36 = .ok (.iaload, 1) := by decide +kernel
theorem dX12_degreeIn_37 : decode cX12_degreeIn 37 = .ok (.iload_n 3, 1) := by decide +kernel
theorem dX12_degreeIn_38 : decode cX12_degreeIn 38 = .ok (.iadd, 1) := by decide +kernel
theorem dX12_degreeIn_39 : decode cX12_degreeIn 39 = .ok (.iload 4, 2) := by decide +kernel
theorem dX12_degreeIn_41 : decode cX12_degreeIn 41 = .ok (.isub, 1) := by decide +kernel
theorem dX12_degreeIn_42 : decode cX12_degreeIn 42 = .ok (.invokestatic 328, 3) := by decide +kernel
theorem dX12_degreeIn_45 : decode cX12_degreeIn 45 = .ok (.ireturn, 1) := by decide +kernel
theorem dX12_degreeIn_46 : decode cX12_degreeIn 46 = .ok (.aload_n 0, 1) := by decide +kernel
theorem dX12_degreeIn_47 : decode cX12_degreeIn 47 = .ok (.getfield 33, 3) := by decide +kernel
theorem dX12_degreeIn_50 : decode cX12_degreeIn 50 = .ok (.iconst 0, 1) := by decide +kernel
theorem dX12_degreeIn_51 : decode cX12_degreeIn 51 = .ok (.aload_n 0, 1) := by decide +kernel
theorem dX12_degreeIn_52 : decode cX12_degreeIn 52 = .ok (.getfield 9, 3) := by decide +kernel
theorem dX12_degreeIn_55 : decode cX12_degreeIn 55 = .ok (.bipush 56, 2) := by decide +kernel
theorem dX12_degreeIn_57 : decode cX12_degreeIn 57 = .ok (.iload_n 1, 1) := by decide +kernel
theorem dX12_degreeIn_58 : decode cX12_degreeIn 58 = .ok (.iadd, 1) := by decide +kernel
theorem dX12_degreeIn_59 : decode cX12_degreeIn 59 = .ok (.iaload, 1) := by decide +kernel
theorem dX12_degreeIn_60 : decode cX12_degreeIn 60 = .ok (.iastore, 1) := by decide +kernel
theorem dX12_degreeIn_61 : decode cX12_degreeIn 61 = .ok (.aload_n 0, 1) := by decide +kernel
theorem dX12_degreeIn_62 : decode cX12_degreeIn 62 = .ok (.getfield 33, 3) := by decide +kernel
theorem dX12_degreeIn_65 : decode cX12_degreeIn 65 = .ok (.iconst 1, 1) := by decide +kernel
theorem dX12_degreeIn_66 : decode cX12_degreeIn 66 = .ok (.iload_n 3, 1) := by decide +kernel
theorem dX12_degreeIn_67 : decode cX12_degreeIn 67 = .ok (.iastore, 1) := by decide +kernel
theorem dX12_degreeIn_68 : decode cX12_degreeIn 68 = .ok (.aload_n 0, 1) := by decide +kernel
theorem dX12_degreeIn_69 : decode cX12_degreeIn 69 = .ok (.getfield 33, 3) := by decide +kernel
theorem dX12_degreeIn_72 : decode cX12_degreeIn 72 = .ok (.iconst 2, 1) := by decide +kernel
theorem dX12_degreeIn_73 : decode cX12_degreeIn 73 = .ok (.iload 4, 2) := by decide +kernel
theorem dX12_degreeIn_75 : decode cX12_degreeIn 75 = .ok (.iastore, 1) := by decide +kernel
theorem dX12_degreeIn_76 : decode cX12_degreeIn 76 = .ok (.aload_n 0, 1) := by decide +kernel
theorem dX12_degreeIn_77 : decode cX12_degreeIn 77 = .ok (.getfield 33, 3) := by decide +kernel
theorem dX12_degreeIn_80 : decode cX12_degreeIn 80 = .ok (.iconst 3, 1) := by decide +kernel
theorem dX12_degreeIn_81 : decode cX12_degreeIn 81 = .ok (.iload_n 2, 1) := by decide +kernel
theorem dX12_degreeIn_82 : decode cX12_degreeIn 82 = .ok (.bipush 24, 2) := by decide +kernel
theorem dX12_degreeIn_84 : decode cX12_degreeIn 84 = .ok (.irem, 1) := by decide +kernel
theorem dX12_degreeIn_85 : decode cX12_degreeIn 85 = .ok (.iastore, 1) := by decide +kernel
theorem dX12_degreeIn_86 : decode cX12_degreeIn 86 = .ok (.aload_n 0, 1) := by decide +kernel
theorem dX12_degreeIn_87 : decode cX12_degreeIn 87 = .ok (.getfield 33, 3) := by decide +kernel
theorem dX12_degreeIn_90 : decode cX12_degreeIn 90 = .ok (.iconst 4, 1) := by decide +kernel
theorem dX12_degreeIn_91 : decode cX12_degreeIn 91 = .ok (.iload_n 2, 1) := by decide +kernel
theorem dX12_degreeIn_92 : decode cX12_degreeIn 92 = .ok (.bipush 24, 2) := by decide +kernel
theorem dX12_degreeIn_94 : decode cX12_degreeIn 94 = .ok (.idiv, 1) := by decide +kernel
theorem dX12_degreeIn_95 : decode cX12_degreeIn 95 = .ok (.sipush 1000, 3) := by decide +kernel
theorem dX12_degreeIn_98 : decode cX12_degreeIn 98 = .ok (.irem, 1) := by decide +kernel
theorem dX12_degreeIn_99 : decode cX12_degreeIn 99 = .ok (.iastore, 1) := by decide +kernel
theorem dX12_degreeIn_100 : decode cX12_degreeIn 100 = .ok (.aload_n 0, 1) := by decide +kernel
theorem dX12_degreeIn_101 : decode cX12_degreeIn 101 = .ok (.getfield 33, 3) := by decide +kernel
theorem dX12_degreeIn_104 : decode cX12_degreeIn 104 = .ok (.iconst 5, 1) := by decide +kernel
theorem dX12_degreeIn_105 : decode cX12_degreeIn 105 = .ok (.iload_n 1, 1) := by decide +kernel
theorem dX12_degreeIn_106 : decode cX12_degreeIn 106 = .ok (.iastore, 1) := by decide +kernel
theorem dX12_degreeIn_107 : decode cX12_degreeIn 107 = .ok (.aload_n 0, 1) := by decide +kernel
theorem dX12_degreeIn_108 : decode cX12_degreeIn 108 = .ok (.iconst 3, 1) := by decide +kernel
theorem dX12_degreeIn_109 : decode cX12_degreeIn 109 = .ok (.sipush 572, 3) := by decide +kernel
theorem dX12_degreeIn_112 : decode cX12_degreeIn 112 = .ok (.invokevirtual 331, 3) := by decide +kernel
theorem dX12_degreeIn_115 : decode cX12_degreeIn 115 = .ok (.invokestatic 328, 3) := by decide +kernel
theorem dX12_degreeIn_118 : decode cX12_degreeIn 118 = .ok (.ireturn, 1) := by decide +kernel
theorem dX12_speaking_0 : decode cX12_speaking 0 = .ok (.iconst 0, 1) := by decide +kernel
theorem dX12_speaking_1 : decode cX12_speaking 1 = .ok (.istore 4, 2) := by decide +kernel
theorem dX12_speaking_3 : decode cX12_speaking 3 = .ok (.iconst 0, 1) := by decide +kernel
theorem dX12_speaking_4 : decode cX12_speaking 4 = .ok (.istore 5, 2) := by decide +kernel
theorem dX12_speaking_6 : decode cX12_speaking 6 = .ok (.iload 5, 2) := by decide +kernel
theorem dX12_speaking_8 : decode cX12_speaking 8 = .ok (.aload_n 0, 1) := by decide +kernel
theorem dX12_speaking_9 : decode cX12_speaking 9 = .ok (.invokevirtual 294, 3) := by decide +kernel
theorem dX12_speaking_12 : decode cX12_speaking 12 = .ok (.if_icmp .ge 44, 3) := by decide +kernel
theorem dX12_speaking_15 : decode cX12_speaking 15 = .ok (.iload 4, 2) := by decide +kernel
theorem dX12_speaking_17 : decode cX12_speaking 17 = .ok (.aload_n 0, 1) := by decide +kernel
theorem dX12_speaking_18 : decode cX12_speaking 18 = .ok (.getfield 9, 3) := by decide +kernel
theorem dX12_speaking_21 : decode cX12_speaking 21 = .ok (.bipush 66, 2) := by decide +kernel
theorem dX12_speaking_23 : decode cX12_speaking 23 = .ok (.iload 5, 2) := by decide +kernel
theorem dX12_speaking_25 : decode cX12_speaking 25 = .ok (.iadd, 1) := by decide +kernel
theorem dX12_speaking_26 : decode cX12_speaking 26 = .ok (.iaload, 1) := by decide +kernel
theorem dX12_speaking_27 : decode cX12_speaking 27 = .ok (.iload_n 1, 1) := by decide +kernel
theorem dX12_speaking_28 : decode cX12_speaking 28 = .ok (.if_icmp .ne 18, 3) := by decide +kernel
theorem dX12_speaking_31 : decode cX12_speaking 31 = .ok (.aload_n 0, 1) := by decide +kernel
theorem dX12_speaking_32 : decode cX12_speaking 32 = .ok (.iload 5, 2) := by decide +kernel
theorem dX12_speaking_34 : decode cX12_speaking 34 = .ok (.iload_n 2, 1) := by decide +kernel
theorem dX12_speaking_35 : decode cX12_speaking 35 = .ok (.iload_n 3, 1) := by decide +kernel
theorem dX12_speaking_36 : decode cX12_speaking 36 = .ok (.invokevirtual 334, 3) := by decide +kernel
theorem dX12_speaking_39 : decode cX12_speaking 39 = .ok (.ifCond .eq 7, 3) := by decide +kernel
theorem dX12_speaking_42 : decode cX12_speaking 42 = .ok (.iconst 1, 1) := by decide +kernel
theorem dX12_speaking_43 : decode cX12_speaking 43 = .ok (.goto 4, 3) := by decide +kernel
theorem dX12_speaking_46 : decode cX12_speaking 46 = .ok (.iconst 0, 1) := by decide +kernel
theorem dX12_speaking_47 : decode cX12_speaking 47 = .ok (.iadd, 1) := by decide +kernel
theorem dX12_speaking_48 : decode cX12_speaking 48 = .ok (.istore 4, 2) := by decide +kernel
theorem dX12_speaking_50 : decode cX12_speaking 50 = .ok (.iinc 5 1, 3) := by decide +kernel
theorem dX12_speaking_53 : decode cX12_speaking 53 = .ok (.goto (-47), 3) := by decide +kernel
theorem dX12_speaking_56 : decode cX12_speaking 56 = .ok (.iload 4, 2) := by decide +kernel
theorem dX12_speaking_58 : decode cX12_speaking 58 = .ok (.ireturn, 1) := by decide +kernel
theorem dX12_speaks_0 : decode cX12_speaks 0 = .ok (.iload_n 3, 1) := by decide +kernel
theorem dX12_speaks_1 : decode cX12_speaks 1 = .ok (.iload_n 1, 1) := by decide +kernel
theorem dX12_speaks_2 : decode cX12_speaks 2 = .ok (.invokestatic 250, 3) := by decide +kernel
theorem dX12_speaks_5 : decode cX12_speaks 5 = .ok (.ifCond .eq 35, 3) := by decide +kernel
theorem dX12_speaks_8 : decode cX12_speaks 8 = .ok (.iload_n 2, 1) := by decide +kernel
theorem dX12_speaks_9 : decode cX12_speaks 9 = .ok (.i2l, 1) := by decide +kernel
theorem dX12_speaks_10 : decode cX12_speaks 10 = .ok (.aload_n 0, 1) := by decide +kernel
theorem dX12_speaks_11 : decode cX12_speaks 11 = .ok (.getfield 9, 3) := by decide +kernel
theorem dX12_speaks_14 : decode cX12_speaks 14 = .ok (.bipush 37, 2) := by decide +kernel
theorem dX12_speaks_16 : decode cX12_speaks 16 = .ok (.iload_n 1, 1) := by decide +kernel
theorem dX12_speaks_17 : decode cX12_speaks 17 = .ok (.iadd, 1) := by decide +kernel
theorem dX12_speaks_18 : decode cX12_speaks 18 = .ok (.iaload, 1) := by decide +kernel
theorem dX12_speaks_19 : decode cX12_speaks 19 = .ok (.i2l, 1) := by decide +kernel
theorem dX12_speaks_20 : decode cX12_speaks 20 = .ok (.aload_n 0, 1) := by decide +kernel
theorem dX12_speaks_21 : decode cX12_speaks 21 = .ok (.getfield 9, 3) := by decide +kernel
theorem dX12_speaks_24 : decode cX12_speaks 24 = .ok (.bipush 45, 2) := by decide +kernel
theorem dX12_speaks_26 : decode cX12_speaks 26 = .ok (.iload_n 1, 1) := by decide +kernel
theorem dX12_speaks_27 : decode cX12_speaks 27 = .ok (.iadd, 1) := by decide +kernel
theorem dX12_speaks_28 : decode cX12_speaks 28 = .ok (.iaload, 1) := by decide +kernel
theorem dX12_speaks_29 : decode cX12_speaks 29 = .ok (.i2l, 1) := by decide +kernel
theorem dX12_speaks_30 : decode cX12_speaks 30 = .ok (.invokestatic 158, 3) := by decide +kernel
theorem dX12_speaks_33 : decode cX12_speaks 33 = .ok (.ifCond .eq 7, 3) := by decide +kernel
theorem dX12_speaks_36 : decode cX12_speaks 36 = .ok (.iconst 1, 1) := by decide +kernel
theorem dX12_speaks_37 : decode cX12_speaks 37 = .ok (.goto 4, 3) := by decide +kernel
theorem dX12_speaks_40 : decode cX12_speaks 40 = .ok (.iconst 0, 1) := by decide +kernel
theorem dX12_speaks_41 : decode cX12_speaks 41 = .ok (.ireturn, 1) := by decide +kernel
theorem dX12_prevails_0 : decode cX12_prevails 0 = .ok (.aload_n 0, 1) := by decide +kernel
theorem dX12_prevails_1 : decode cX12_prevails 1 = .ok (.getfield 9, 3) := by decide +kernel
theorem dX12_prevails_4 : decode cX12_prevails 4 = .ok (.iconst 4, 1) := by decide +kernel
theorem dX12_prevails_5 : decode cX12_prevails 5 = .ok (.iaload, 1) := by decide +kernel
theorem dX12_prevails_6 : decode cX12_prevails 6 = .ok (.ifCond .ne 5, 3) := by decide +kernel
theorem dX12_prevails_9 : decode cX12_prevails 9 = .ok (.iconst 1, 1) := by decide +kernel
theorem dX12_prevails_10 : decode cX12_prevails 10 = .ok (.ireturn, 1) := by decide +kernel
theorem dX12_prevails_11 : decode cX12_prevails 11 = .ok (.aload_n 0, 1) := by decide +kernel
theorem dX12_prevails_12 : decode cX12_prevails 12 = .ok (.getfield 33, 3) := by decide +kernel
theorem dX12_prevails_15 : decode cX12_prevails 15 = .ok (.iconst 0, 1) := by decide +kernel
theorem dX12_prevails_16 : decode cX12_prevails 16 = .ok (.iload_n 1, 1) := by decide +kernel
theorem dX12_prevails_17 : decode cX12_prevails 17 = .ok (.iastore, 1) := by decide +kernel
theorem dX12_prevails_18 : decode cX12_prevails 18 = .ok (.aload_n 0, 1) := by decide +kernel
theorem dX12_prevails_19 : decode cX12_prevails 19 = .ok (.getfield 33, 3) := by decide +kernel
theorem dX12_prevails_22 : decode cX12_prevails 22 = .ok (.iconst 1, 1) := by decide +kernel
theorem dX12_prevails_23 : decode cX12_prevails 23 = .ok (.aload_n 0, 1) := by decide +kernel
theorem dX12_prevails_24 : decode cX12_prevails 24 = .ok (.getfield 9, 3) := by decide +kernel
theorem dX12_prevails_27 : decode cX12_prevails 27 = .ok (.bipush 66, 2) := by decide +kernel
theorem dX12_prevails_29 : decode cX12_prevails 29 = .ok (.iload_n 1, 1) := by decide +kernel
theorem dX12_prevails_30 : decode cX12_prevails 30 = .ok (.iadd, 1) := by decide +kernel
theorem dX12_prevails_31 : decode cX12_prevails 31 = .ok (.iaload, 1) := by decide +kernel
theorem dX12_prevails_32 : decode cX12_prevails 32 = .ok (.iastore, 1) := by decide +kernel
theorem dX12_prevails_33 : decode cX12_prevails 33 = .ok (.aload_n 0, 1) := by decide +kernel
theorem dX12_prevails_34 : decode cX12_prevails 34 = .ok (.getfield 33, 3) := by decide +kernel
theorem dX12_prevails_37 : decode cX12_prevails 37 = .ok (.iconst 2, 1) := by decide +kernel
theorem dX12_prevails_38 : decode cX12_prevails 38 = .ok (.aload_n 0, 1) := by decide +kernel
theorem dX12_prevails_39 : decode cX12_prevails 39 = .ok (.getfield 9, 3) := by decide +kernel
theorem dX12_prevails_42 : decode cX12_prevails 42 = .ok (.bipush 74, 2) := by decide +kernel
theorem dX12_prevails_44 : decode cX12_prevails 44 = .ok (.iload_n 1, 1) := by decide +kernel
theorem dX12_prevails_45 : decode cX12_prevails 45 = .ok (.iadd, 1) := by decide +kernel
theorem dX12_prevails_46 : decode cX12_prevails 46 = .ok (.iaload, 1) := by decide +kernel
theorem dX12_prevails_47 : decode cX12_prevails 47 = .ok (.iastore, 1) := by decide +kernel
theorem dX12_prevails_48 : decode cX12_prevails 48 = .ok (.aload_n 0, 1) := by decide +kernel
theorem dX12_prevails_49 : decode cX12_prevails 49 = .ok (.getfield 33, 3) := by decide +kernel
theorem dX12_prevails_52 : decode cX12_prevails 52 = .ok (.iconst 3, 1) := by decide +kernel
theorem dX12_prevails_53 : decode cX12_prevails 53 = .ok (.aload_n 0, 1) := by decide +kernel
theorem dX12_prevails_54 : decode cX12_prevails 54 = .ok (.getfield 9, 3) := by decide +kernel
theorem dX12_prevails_57 : decode cX12_prevails 57 = .ok (.bipush 45, 2) := by decide +kernel
theorem dX12_prevails_59 : decode cX12_prevails 59 = .ok (.iload_n 1, 1) := by decide +kernel
theorem dX12_prevails_60 : decode cX12_prevails 60 = .ok (.iadd, 1) := by decide +kernel
theorem dX12_prevails_61 : decode cX12_prevails 61 = .ok (.iaload, 1) := by decide +kernel
theorem dX12_prevails_62 : decode cX12_prevails 62 = .ok (.aload_n 0, 1) := by decide +kernel
theorem dX12_prevails_63 : decode cX12_prevails 63 = .ok (.getfield 9, 3) := by decide +kernel
theorem dX12_prevails_66 : decode cX12_prevails 66 = .ok (.bipush 37, 2) := by decide +kernel
theorem dX12_prevails_68 : decode cX12_prevails 68 = .ok (.iload_n 1, 1) := by decide +kernel
theorem dX12_prevails_69 : decode cX12_prevails 69 = .ok (.iadd, 1) := by decide +kernel
theorem dX12_prevails_70 : decode cX12_prevails 70 = .ok (.iaload, 1) := by decide +kernel
theorem dX12_prevails_71 : decode cX12_prevails 71 = .ok (.isub, 1) := by decide +kernel
theorem dX12_prevails_72 : decode cX12_prevails 72 = .ok (.iastore, 1) := by decide +kernel
theorem dX12_prevails_73 : decode cX12_prevails 73 = .ok (.aload_n 0, 1) := by decide +kernel
theorem dX12_prevails_74 : decode cX12_prevails 74 = .ok (.getfield 33, 3) := by decide +kernel
theorem dX12_prevails_77 : decode cX12_prevails 77 = .ok (.iconst 4, 1) := by decide +kernel
theorem dX12_prevails_78 : decode cX12_prevails 78 = .ok (.iload_n 2, 1) := by decide +kernel
theorem dX12_prevails_79 : decode cX12_prevails 79 = .ok (.iastore, 1) := by decide +kernel
theorem dX12_prevails_80 : decode cX12_prevails 80 = .ok (.aload_n 0, 1) := by decide +kernel
theorem dX12_prevails_81 : decode cX12_prevails 81 = .ok (.getfield 33, 3) := by decide +kernel
theorem dX12_prevails_84 : decode cX12_prevails 84 = .ok (.iconst 5, 1) := by decide +kernel
theorem dX12_prevails_85 : decode cX12_prevails 85 = .ok (.iload_n 3, 1) := by decide +kernel
theorem dX12_prevails_86 : decode cX12_prevails 86 = .ok (.bipush 24, 2) := by decide +kernel
theorem dX12_prevails_88 : decode cX12_prevails 88 = .ok (.irem, 1) := by decide +kernel
theorem dX12_prevails_89 : decode cX12_prevails 89 = .ok (.iastore, 1) := by decide +kernel
theorem dX12_prevails_90 : decode cX12_prevails 90 = .ok (.aload_n 0, 1) := by decide +kernel
theorem dX12_prevails_91 : decode cX12_prevails 91 = .ok (.getfield 33, 3) := by decide +kernel
theorem dX12_prevails_94 : decode cX12_prevails 94 = .ok (.bipush 6, 2) := by decide +kernel
theorem dX12_prevails_96 : decode cX12_prevails 96 = .ok (.iload 4, 2) := by decide +kernel
theorem dX12_prevails_98 : decode cX12_prevails 98 = .ok (.iastore, 1) := by decide +kernel
theorem dX12_prevails_99 : decode cX12_prevails 99 = .ok (.aload_n 0, 1) := by decide +kernel
theorem dX12_prevails_100 : decode cX12_prevails 100 = .ok (.iconst 4, 1) := by decide +kernel
theorem dX12_prevails_101 : decode cX12_prevails 101 = .ok (.sipush 1472, 3) := by decide +kernel
theorem dX12_prevails_104 : decode cX12_prevails 104 = .ok (.invokevirtual 331, 3) := by decide +kernel
theorem dX12_prevails_107 : decode cX12_prevails 107 = .ok (.iconst 1, 1) := by decide +kernel
theorem dX12_prevails_108 : decode cX12_prevails 108 = .ok (.if_icmp .ne 7, 3) := by decide +kernel
theorem dX12_prevails_111 : decode cX12_prevails 111 = .ok (.iconst 1, 1) := by decide +kernel
theorem dX12_prevails_112 : decode cX12_prevails 112 = .ok (.goto 4, 3) := by decide +kernel
theorem dX12_prevails_115 : decode cX12_prevails 115 = .ok (.iconst 0, 1) := by decide +kernel
theorem dX12_prevails_116 : decode cX12_prevails 116 = .ok (.ireturn, 1) := by decide +kernel
theorem dX12_codeAt_0 : decode cX12_codeAt 0 = .ok (.iconst 0, 1) := by decide +kernel
theorem dX12_codeAt_1 : decode cX12_codeAt 1 = .ok (.istore 5, 2) := by decide +kernel
theorem dX12_codeAt_3 : decode cX12_codeAt 3 = .ok (.iconst 0, 1) := by decide +kernel
theorem dX12_codeAt_4 : decode cX12_codeAt 4 = .ok (.istore 6, 2) := by decide +kernel
theorem dX12_codeAt_6 : decode cX12_codeAt 6 = .ok (.iload 6, 2) := by decide +kernel
theorem dX12_codeAt_8 : decode cX12_codeAt 8 = .ok (.aload_n 0, 1) := by decide +kernel
theorem dX12_codeAt_9 : decode cX12_codeAt 9 = .ok (.invokevirtual 294, 3) := by decide +kernel
theorem dX12_codeAt_12 : decode cX12_codeAt 12 = .ok (.if_icmp .ge 58, 3) := by decide +kernel
theorem dX12_codeAt_15 : decode cX12_codeAt 15 = .ok (.aload_n 0, 1) := by decide +kernel
theorem dX12_codeAt_16 : decode cX12_codeAt 16 = .ok (.iload 6, 2) := by decide +kernel
theorem dX12_codeAt_18 : decode cX12_codeAt 18 = .ok (.iload_n 2, 1) := by decide +kernel
theorem dX12_codeAt_19 : decode cX12_codeAt 19 = .ok (.iload 4, 2) := by decide +kernel
theorem dX12_codeAt_21 : decode cX12_codeAt 21 = .ok (.invokevirtual 334, 3) := by decide +kernel
theorem dX12_codeAt_24 : decode cX12_codeAt 24 = .ok (.ifCond .eq 40, 3) := by decide +kernel
theorem dX12_codeAt_27 : decode cX12_codeAt 27 = .ok (.aload_n 0, 1) := by decide +kernel
theorem dX12_codeAt_28 : decode cX12_codeAt 28 = .ok (.iload 6, 2) := by decide +kernel
theorem dX12_codeAt_30 : decode cX12_codeAt 30 = .ok (.aload_n 0, 1) := by decide +kernel
theorem dX12_codeAt_31 : decode cX12_codeAt 31 = .ok (.aload_n 0, 1) := by decide +kernel
theorem dX12_codeAt_32 : decode cX12_codeAt 32 = .ok (.getfield 9, 3) := by decide +kernel
theorem dX12_codeAt_35 : decode cX12_codeAt 35 = .ok (.bipush 66, 2) := by decide +kernel
theorem dX12_codeAt_37 : decode cX12_codeAt 37 = .ok (.iload 6, 2) := by decide +kernel
theorem dX12_codeAt_39 : decode cX12_codeAt 39 = .ok (.iadd, 1) := by decide +kernel
theorem dX12_codeAt_40 : decode cX12_codeAt 40 = .ok (.iaload, 1) := by decide +kernel
theorem dX12_codeAt_41 : decode cX12_codeAt 41 = .ok (.iload_n 2, 1) := by decide +kernel
theorem dX12_codeAt_42 : decode cX12_codeAt 42 = .ok (.iload 4, 2) := by decide +kernel
theorem dX12_codeAt_44 : decode cX12_codeAt 44 = .ok (.invokevirtual 338, 3) := by decide +kernel
theorem dX12_codeAt_47 : decode cX12_codeAt 47 = .ok (.iload_n 3, 1) := by decide +kernel
theorem dX12_codeAt_48 : decode cX12_codeAt 48 = .ok (.iload_n 1, 1) := by decide +kernel
theorem dX12_codeAt_49 : decode cX12_codeAt 49 = .ok (.invokevirtual 341, 3) := by decide +kernel
theorem dX12_codeAt_52 : decode cX12_codeAt 52 = .ok (.ifCond .eq 12, 3) := by decide +kernel
theorem dX12_codeAt_55 : decode cX12_codeAt 55 = .ok (.iload 5, 2) := by decide +kernel
theorem dX12_codeAt_57 : decode cX12_codeAt 57 = .ok (.iconst 1, 1) := by decide +kernel
theorem dX12_codeAt_58 : decode cX12_codeAt 58 = .ok (.iload 6, 2) := by decide +kernel
theorem dX12_codeAt_60 : decode cX12_codeAt 60 = .ok (.ishl, 1) := by decide +kernel
theorem dX12_codeAt_61 : decode cX12_codeAt 61 = .ok (.ior, 1) := by decide +kernel
theorem dX12_codeAt_62 : decode cX12_codeAt 62 = .ok (.istore 5, 2) := by decide +kernel
theorem dX12_codeAt_64 : decode cX12_codeAt 64 = .ok (.iinc 6 1, 3) := by decide +kernel
theorem dX12_codeAt_67 : decode cX12_codeAt 67 = .ok (.goto (-61), 3) := by decide +kernel
theorem dX12_codeAt_70 : decode cX12_codeAt 70 = .ok (.iload 5, 2) := by decide +kernel
theorem dX12_codeAt_72 : decode cX12_codeAt 72 = .ok (.ireturn, 1) := by decide +kernel
theorem dX12_allActs_0 : decode cX12_allActs 0 = .ok (.iconst 1, 1) := by decide +kernel
theorem dX12_allActs_1 : decode cX12_allActs 1 = .ok (.aload_n 0, 1) := by decide +kernel
theorem dX12_allActs_2 : decode cX12_allActs 2 = .ok (.invokevirtual 294, 3) := by decide +kernel
theorem dX12_allActs_5 : decode cX12_allActs 5 = .ok (.ishl, 1) := by decide +kernel
theorem dX12_allActs_6 : decode cX12_allActs 6 = .ok (.iconst 1, 1) := by decide +kernel
theorem dX12_allActs_7 : decode cX12_allActs 7 = .ok (.isub, 1) := by decide +kernel
theorem dX12_allActs_8 : decode cX12_allActs 8 = .ok (.aload_n 0, 1) := by decide +kernel
theorem dX12_allActs_9 : decode cX12_allActs 9 = .ok (.getfield 9, 3) := by decide +kernel
theorem dX12_allActs_12 : decode cX12_allActs 12 = .ok (.bipush 53, 2) := by decide +kernel
theorem dX12_allActs_14 : decode cX12_allActs 14 = .ok (.iaload, 1) := by decide +kernel
theorem dX12_allActs_15 : decode cX12_allActs 15 = .ok (.iconst (-1), 1) := by decide +kernel
theorem dX12_allActs_16 : decode cX12_allActs 16 = .ok (.ixor, 1) := by decide +kernel
theorem dX12_allActs_17 : decode cX12_allActs 17 = .ok (.iand, 1) := by decide +kernel
theorem dX12_allActs_18 : decode cX12_allActs 18 = .ok (.ireturn, 1) := by decide +kernel
theorem dX12_codeIn_0 : decode cX12_codeIn 0 = .ok (.aload_n 0, 1) := by decide +kernel
theorem dX12_codeIn_1 : decode cX12_codeIn 1 = .ok (.iload_n 1, 1) := by decide +kernel
theorem dX12_codeIn_2 : decode cX12_codeIn 2 = .ok (.aload_n 0, 1) := by decide +kernel
theorem dX12_codeIn_3 : decode cX12_codeIn 3 = .ok (.iload_n 1, 1) := by decide +kernel
theorem dX12_codeIn_4 : decode cX12_codeIn 4 = .ok (.iload_n 2, 1) := by decide +kernel
theorem dX12_codeIn_5 : decode cX12_codeIn 5 = .ok (.invokevirtual 344, 3) := by decide +kernel
theorem dX12_codeIn_8 : decode cX12_codeIn 8 = .ok (.iload_n 2, 1) := by decide +kernel
theorem dX12_codeIn_9 : decode cX12_codeIn 9 = .ok (.aload_n 0, 1) := by decide +kernel
theorem dX12_codeIn_10 : decode cX12_codeIn 10 = .ok (.invokevirtual 347, 3) := by decide +kernel
theorem dX12_codeIn_13 : decode cX12_codeIn 13 = .ok (.invokevirtual 350, 3) := by decide +kernel
theorem dX12_codeIn_16 : decode cX12_codeIn 16 = .ok (.ireturn, 1) := by decide +kernel
theorem dX12_ofKind_0 : decode cX12_ofKind 0 = .ok (.iconst 0, 1) := by decide +kernel
theorem dX12_ofKind_1 : decode cX12_ofKind 1 = .ok (.istore_n 2, 1) := by decide +kernel
theorem dX12_ofKind_2 : decode cX12_ofKind 2 = .ok (.iconst 0, 1) := by decide +kernel
theorem dX12_ofKind_3 : decode cX12_ofKind 3 = .ok (.istore_n 3, 1) := by decide +kernel
theorem dX12_ofKind_4 : decode cX12_ofKind 4 = .ok (.iload_n 3, 1) := by decide +kernel
theorem dX12_ofKind_5 : decode cX12_ofKind 5 = .ok (.aload_n 0, 1) := by decide +kernel
theorem dX12_ofKind_6 : decode cX12_ofKind 6 = .ok (.invokevirtual 294, 3) := by decide +kernel
theorem dX12_ofKind_9 : decode cX12_ofKind 9 = .ok (.if_icmp .ge 32, 3) := by decide +kernel
theorem dX12_ofKind_12 : decode cX12_ofKind 12 = .ok (.iload_n 2, 1) := by decide +kernel
theorem dX12_ofKind_13 : decode cX12_ofKind 13 = .ok (.aload_n 0, 1) := by decide +kernel
theorem dX12_ofKind_14 : decode cX12_ofKind 14 = .ok (.getfield 9, 3) := by decide +kernel
theorem dX12_ofKind_17 : decode cX12_ofKind 17 = .ok (.bipush 66, 2) := by decide +kernel
theorem dX12_ofKind_19 : decode cX12_ofKind 19 = .ok (.iload_n 3, 1) := by decide +kernel
theorem dX12_ofKind_20 : decode cX12_ofKind 20 = .ok (.iadd, 1) := by decide +kernel
theorem dX12_ofKind_21 : decode cX12_ofKind 21 = .ok (.iaload, 1) := by decide +kernel
theorem dX12_ofKind_22 : decode cX12_ofKind 22 = .ok (.iload_n 1, 1) := by decide +kernel
theorem dX12_ofKind_23 : decode cX12_ofKind 23 = .ok (.if_icmp .ne 9, 3) := by decide +kernel
theorem dX12_ofKind_26 : decode cX12_ofKind 26 = .ok (.iconst 1, 1) := by decide +kernel
theorem dX12_ofKind_27 : decode cX12_ofKind 27 = .ok (.iload_n 3, 1) := by decide +kernel
theorem dX12_ofKind_28 : decode cX12_ofKind 28 = .ok (.ishl, 1) := by decide +kernel
theorem dX12_ofKind_29 : decode cX12_ofKind 29 = .ok (.goto 4, 3) := by decide +kernel
theorem dX12_ofKind_32 : decode cX12_ofKind 32 = .ok (.iconst 0, 1) := by decide +kernel
theorem dX12_ofKind_33 : decode cX12_ofKind 33 = .ok (.ior, 1) := by decide +kernel
theorem dX12_ofKind_34 : decode cX12_ofKind 34 = .ok (.istore_n 2, 1) := by decide +kernel
theorem dX12_ofKind_35 : decode cX12_ofKind 35 = .ok (.iinc 3 1, 3) := by decide +kernel
theorem dX12_ofKind_38 : decode cX12_ofKind 38 = .ok (.goto (-34), 3) := by decide +kernel
theorem dX12_ofKind_41 : decode cX12_ofKind 41 = .ok (.iload_n 2, 1) := by decide +kernel
theorem dX12_ofKind_42 : decode cX12_ofKind 42 = .ok (.ireturn, 1) := by decide +kernel
theorem dX12_finesOf_0 : decode cX12_finesOf 0 = .ok (.iconst 0, 1) := by decide +kernel
theorem dX12_finesOf_1 : decode cX12_finesOf 1 = .ok (.istore_n 2, 1) := by decide +kernel
theorem dX12_finesOf_2 : decode cX12_finesOf 2 = .ok (.iconst 0, 1) := by decide +kernel
theorem dX12_finesOf_3 : decode cX12_finesOf 3 = .ok (.istore_n 3, 1) := by decide +kernel
theorem dX12_finesOf_4 : decode cX12_finesOf 4 = .ok (.iload_n 3, 1) := by decide +kernel
theorem dX12_finesOf_5 : decode cX12_finesOf 5 = .ok (.aload_n 0, 1) := by decide +kernel
theorem dX12_finesOf_6 : decode cX12_finesOf 6 = .ok (.invokevirtual 294, 3) := by decide +kernel
theorem dX12_finesOf_9 : decode cX12_finesOf 9 = .ok (.if_icmp .ge 33, 3) := by decide +kernel
theorem dX12_finesOf_12 : decode cX12_finesOf 12 = .ok (.iload_n 2, 1) := by decide +kernel
theorem dX12_finesOf_13 : decode cX12_finesOf 13 = .ok (.iload_n 1, 1) := by decide +kernel
theorem dX12_finesOf_14 : decode cX12_finesOf 14 = .ok (.iload_n 3, 1) := by decide +kernel
theorem dX12_finesOf_15 : decode cX12_finesOf 15 = .ok (.invokestatic 250, 3) := by decide +kernel
theorem dX12_finesOf_18 : decode cX12_finesOf 18 = .ok (.ifCond .eq 15, 3) := by decide +kernel
theorem dX12_finesOf_21 : decode cX12_finesOf 21 = .ok (.aload_n 0, 1) := by decide +kernel
theorem dX12_finesOf_22 : decode cX12_finesOf 22 = .ok (.getfield 9, 3) := by decide +kernel
theorem dX12_finesOf_25 : decode cX12_finesOf 25 = .ok (.bipush 74, 2) := by decide +kernel
theorem dX12_finesOf_27 : decode cX12_finesOf 27 = .ok (.iload_n 3, 1) := by decide +kernel
theorem dX12_finesOf_28 : decode cX12_finesOf 28 = .ok (.iadd, 1) := by decide +kernel
theorem dX12_finesOf_29 : decode cX12_finesOf 29 = .ok (.iaload, 1) := by decide +kernel
theorem dX12_finesOf_30 : decode cX12_finesOf 30 = .ok (.goto 4, 3) := by decide +kernel
theorem dX12_finesOf_33 : decode cX12_finesOf 33 = .ok (.iconst 0, 1) := by decide +kernel
theorem dX12_finesOf_34 : decode cX12_finesOf 34 = .ok (.iadd, 1) := by decide +kernel
theorem dX12_finesOf_35 : decode cX12_finesOf 35 = .ok (.istore_n 2, 1) := by decide +kernel
theorem dX12_finesOf_36 : decode cX12_finesOf 36 = .ok (.iinc 3 1, 3) := by decide +kernel
theorem dX12_finesOf_39 : decode cX12_finesOf 39 = .ok (.goto (-35), 3) := by decide +kernel
theorem dX12_finesOf_42 : decode cX12_finesOf 42 = .ok (.iload_n 2, 1) := by decide +kernel
theorem dX12_finesOf_43 : decode cX12_finesOf 43 = .ok (.ireturn, 1) := by decide +kernel
theorem dX12_laysCodes_0 : decode cX12_laysCodes 0 = .ok (.iconst 0, 1) := by decide +kernel
theorem dX12_laysCodes_1 : decode cX12_laysCodes 1 = .ok (.istore_n 3, 1) := by decide +kernel
theorem dX12_laysCodes_2 : decode cX12_laysCodes 2 = .ok (.iload_n 3, 1) := by decide +kernel
theorem dX12_laysCodes_3 : decode cX12_laysCodes 3 = .ok (.bipush 24, 2) := by decide +kernel
theorem dX12_laysCodes_5 : decode cX12_laysCodes 5 = .ok (.if_icmp .ge 46, 3) := by decide +kernel
theorem dX12_laysCodes_8 : decode cX12_laysCodes 8 = .ok (.iconst 0, 1) := by decide +kernel
theorem dX12_laysCodes_9 : decode cX12_laysCodes 9 = .ok (.istore 4, 2) := by decide +kernel
theorem dX12_laysCodes_11 : decode cX12_laysCodes 11 = .ok (.iload 4, 2) := by decide +kernel
theorem dX12_laysCodes_13 : decode cX12_laysCodes 13 = .ok (.bipush 99, 2) := by decide +kernel
theorem dX12_laysCodes_15 : decode cX12_laysCodes 15 = .ok (.if_icmp .gt 30, 3) := by decide +kernel
theorem dX12_laysCodes_18 : decode cX12_laysCodes 18 = .ok (.aload_n 0, 1) := by decide +kernel
theorem dX12_laysCodes_19 : decode cX12_laysCodes 19 = .ok (.getfield 36, 3) := by decide +kernel
theorem dX12_laysCodes_22 : decode cX12_laysCodes 22 = .ok (.bipush 100, 2) := by decide +kernel
theorem dX12_laysCodes_24 : decode cX12_laysCodes 24 = .ok (.iload_n 3, 1) := by decide +kernel
theorem dX12_laysCodes_25 : decode cX12_laysCodes 25 = .ok (.imul, 1) := by decide +kernel
theorem dX12_laysCodes_26 : decode cX12_laysCodes 26 = .ok (.iload 4, 2) := by decide +kernel
theorem dX12_laysCodes_28 : decode cX12_laysCodes 28 = .ok (.iadd, 1) := by decide +kernel
theorem dX12_laysCodes_29 : decode cX12_laysCodes 29 = .ok (.aload_n 0, 1) := by decide +kernel
theorem dX12_laysCodes_30 : decode cX12_laysCodes 30 = .ok (.iload_n 1, 1) := by decide +kernel
theorem dX12_laysCodes_31 : decode cX12_laysCodes 31 = .ok (.iload 4, 2) := by decide +kernel
theorem dX12_laysCodes_33 : decode cX12_laysCodes 33 = .ok (.iload_n 3, 1) := by decide +kernel
theorem dX12_laysCodes_34 : decode cX12_laysCodes 34 = .ok (.iload_n 2, 1) := by decide +kernel
theorem dX12_laysCodes_35 : decode cX12_laysCodes 35 = .ok (.invokevirtual 350, 3) := by decide +kernel
theorem dX12_laysCodes_38 : decode cX12_laysCodes 38 = .ok (.iastore, 1) := by decide +kernel
theorem dX12_laysCodes_39 : decode cX12_laysCodes 39 = .ok (.iinc 4 1, 3) := by decide +kernel
theorem dX12_laysCodes_42 : decode cX12_laysCodes 42 = .ok (.goto (-31), 3) := by decide +kernel
theorem dX12_laysCodes_45 : decode cX12_laysCodes 45 = .ok (.iinc 3 1, 3) := by decide +kernel
theorem dX12_laysCodes_48 : decode cX12_laysCodes 48 = .ok (.goto (-46), 3) := by decide +kernel
theorem dX12_laysCodes_51 : decode cX12_laysCodes 51 = .ok (.return_, 1) := by decide +kernel
theorem dX12_laysDegrees_0 : decode cX12_laysDegrees 0 = .ok (.iconst 0, 1) := by decide +kernel
theorem dX12_laysDegrees_1 : decode cX12_laysDegrees 1 = .ok (.istore 4, 2) := by decide +kernel
theorem dX12_laysDegrees_3 : decode cX12_laysDegrees 3 = .ok (.iload 4, 2) := by decide +kernel
theorem dX12_laysDegrees_5 : decode cX12_laysDegrees 5 = .ok (.iload_n 3, 1) := by decide +kernel
theorem dX12_laysDegrees_6 : decode cX12_laysDegrees 6 = .ok (.if_icmp .ge 25, 3) := by decide +kernel
theorem dX12_laysDegrees_9 : decode cX12_laysDegrees 9 = .ok (.aload_n 0, 1) := by decide +kernel
theorem dX12_laysDegrees_10 : decode cX12_laysDegrees 10 = .ok (.getfield 39, 3) := by decide +kernel
theorem dX12_laysDegrees_13 : decode cX12_laysDegrees 13 = .ok (.iload 4, 2) := by decide +kernel
theorem dX12_laysDegrees_15 : decode cX12_laysDegrees 15 = .ok (.aload_n 0, 1) := by decide +kernel
theorem dX12_laysDegrees_16 : decode cX12_laysDegrees 16 = .ok (.iload_n 1, 1) := by decide +kernel
theorem dX12_laysDegrees_17 : decode cX12_laysDegrees 17 = .ok (.iload_n 2, 1) := by decide +kernel
theorem dX12_laysDegrees_18 : decode cX12_laysDegrees 18 = .ok (.iload 4, 2) := by decide +kernel
theorem dX12_laysDegrees_20 : decode cX12_laysDegrees 20 = .ok (.iadd, 1) := by decide +kernel
theorem dX12_laysDegrees_21 : decode cX12_laysDegrees 21 = .ok (.invokevirtual 344, 3) := by decide +kernel
theorem dX12_laysDegrees_24 : decode cX12_laysDegrees 24 = .ok (.iastore, 1) := by decide +kernel
theorem dX12_laysDegrees_25 : decode cX12_laysDegrees 25 = .ok (.iinc 4 1, 3) := by decide +kernel
theorem dX12_laysDegrees_28 : decode cX12_laysDegrees 28 = .ok (.goto (-25), 3) := by decide +kernel
theorem dX12_laysDegrees_31 : decode cX12_laysDegrees 31 = .ok (.return_, 1) := by decide +kernel
theorem dX12_laysRow_0 : decode cX12_laysRow 0 = .ok (.aload_n 0, 1) := by decide +kernel
theorem dX12_laysRow_1 : decode cX12_laysRow 1 = .ok (.iload_n 2, 1) := by decide +kernel
theorem dX12_laysRow_2 : decode cX12_laysRow 2 = .ok (.invokevirtual 354, 3) := by decide +kernel
theorem dX12_laysRow_5 : decode cX12_laysRow 5 = .ok (.istore 6, 2) := by decide +kernel
theorem dX12_laysRow_7 : decode cX12_laysRow 7 = .ok (.iconst 0, 1) := by decide +kernel
theorem dX12_laysRow_8 : decode cX12_laysRow 8 = .ok (.istore 7, 2) := by decide +kernel
theorem dX12_laysRow_10 : decode cX12_laysRow 10 = .ok (.iload 7, 2) := by decide +kernel
theorem dX12_laysRow_12 : decode cX12_laysRow 12 = .ok (.iload 4, 2) := by decide +kernel
theorem dX12_laysRow_14 : decode cX12_laysRow 14 = .ok (.if_icmp .ge 85, 3) := by decide +kernel
theorem dX12_laysRow_17 : decode cX12_laysRow 17 = .ok (.aload_n 0, 1) := by decide +kernel
theorem dX12_laysRow_18 : decode cX12_laysRow 18 = .ok (.getfield 36, 3) := by decide +kernel
theorem dX12_laysRow_21 : decode cX12_laysRow 21 = .ok (.bipush 100, 2) := by decide +kernel
theorem dX12_laysRow_23 : decode cX12_laysRow 23 = .ok (.iload_n 3, 1) := by decide +kernel
theorem dX12_laysRow_24 : decode cX12_laysRow 24 = .ok (.iload 7, 2) := by decide +kernel
theorem dX12_laysRow_26 : decode cX12_laysRow 26 = .ok (.iadd, 1) := by decide +kernel
theorem dX12_laysRow_27 : decode cX12_laysRow 27 = .ok (.bipush 24, 2) := by decide +kernel
theorem dX12_laysRow_29 : decode cX12_laysRow 29 = .ok (.irem, 1) := by decide +kernel
theorem dX12_laysRow_30 : decode cX12_laysRow 30 = .ok (.imul, 1) := by decide +kernel
theorem dX12_laysRow_31 : decode cX12_laysRow 31 = .ok (.aload_n 0, 1) := by decide +kernel
theorem dX12_laysRow_32 : decode cX12_laysRow 32 = .ok (.getfield 39, 3) := by decide +kernel
theorem dX12_laysRow_35 : decode cX12_laysRow 35 = .ok (.iload 7, 2) := by decide +kernel
theorem dX12_laysRow_37 : decode cX12_laysRow 37 = .ok (.iaload, 1) := by decide +kernel
theorem dX12_laysRow_38 : decode cX12_laysRow 38 = .ok (.iload 5, 2) := by decide +kernel
theorem dX12_laysRow_40 : decode cX12_laysRow 40 = .ok (.iadd, 1) := by decide +kernel
theorem dX12_laysRow_41 : decode cX12_laysRow 41 = .ok (.invokestatic 328, 3) := by decide +kernel
theorem dX12_laysRow_44 : decode cX12_laysRow 44 = .ok (.iadd, 1) := by decide +kernel
theorem dX12_laysRow_45 : decode cX12_laysRow 45 = .ok (.iaload, 1) := by decide +kernel
theorem dX12_laysRow_46 : decode cX12_laysRow 46 = .ok (.iload 6, 2) := by decide +kernel
theorem dX12_laysRow_48 : decode cX12_laysRow 48 = .ok (.iand, 1) := by decide +kernel
theorem dX12_laysRow_49 : decode cX12_laysRow 49 = .ok (.istore 8, 2) := by decide +kernel
theorem dX12_laysRow_51 : decode cX12_laysRow 51 = .ok (.aload_n 0, 1) := by decide +kernel
theorem dX12_laysRow_52 : decode cX12_laysRow 52 = .ok (.getfield 42, 3) := by decide +kernel
theorem dX12_laysRow_55 : decode cX12_laysRow 55 = .ok (.sipush 1024, 3) := by decide +kernel
theorem dX12_laysRow_58 : decode cX12_laysRow 58 = .ok (.iload_n 1, 1) := by decide +kernel
theorem dX12_laysRow_59 : decode cX12_laysRow 59 = .ok (.imul, 1) := by decide +kernel
theorem dX12_laysRow_60 : decode cX12_laysRow 60 = .ok (.iload 7, 2) := by decide +kernel
theorem dX12_laysRow_62 : decode cX12_laysRow 62 = .ok (.iadd, 1) := by decide +kernel
theorem dX12_laysRow_63 : decode cX12_laysRow 63 = .ok (.aload_n 0, 1) := by decide +kernel
theorem dX12_laysRow_64 : decode cX12_laysRow 64 = .ok (.iload 8, 2) := by decide +kernel
theorem dX12_laysRow_66 : decode cX12_laysRow 66 = .ok (.invokevirtual 357, 3) := by decide +kernel
theorem dX12_laysRow_69 : decode cX12_laysRow 69 = .ok (.iastore, 1) := by decide +kernel
theorem dX12_laysRow_70 : decode cX12_laysRow 70 = .ok (.aload_n 0, 1) := by decide +kernel
theorem dX12_laysRow_71 : decode cX12_laysRow 71 = .ok (.getfield 45, 3) := by decide +kernel
theorem dX12_laysRow_74 : decode cX12_laysRow 74 = .ok (.sipush 1024, 3) := by decide +kernel
theorem dX12_laysRow_77 : decode cX12_laysRow 77 = .ok (.iload_n 1, 1) := by decide +kernel
theorem dX12_laysRow_78 : decode cX12_laysRow 78 = .ok (.imul, 1) := by decide +kernel
theorem dX12_laysRow_79 : decode cX12_laysRow 79 = .ok (.iload 7, 2) := by decide +kernel
theorem dX12_laysRow_81 : decode cX12_laysRow 81 = .ok (.iadd, 1) := by decide +kernel
theorem dX12_laysRow_82 : decode cX12_laysRow 82 = .ok (.iload 8, 2) := by decide +kernel
theorem dX12_laysRow_84 : decode cX12_laysRow 84 = .ok (.ifCond .eq 7, 3) := by decide +kernel
theorem dX12_laysRow_87 : decode cX12_laysRow 87 = .ok (.iconst 1, 1) := by decide +kernel
theorem dX12_laysRow_88 : decode cX12_laysRow 88 = .ok (.goto 4, 3) := by decide +kernel
theorem dX12_laysRow_91 : decode cX12_laysRow 91 = .ok (.iconst 0, 1) := by decide +kernel
theorem dX12_laysRow_92 : decode cX12_laysRow 92 = .ok (.bastore, 1) := by decide +kernel
theorem dX12_laysRow_93 : decode cX12_laysRow 93 = .ok (.iinc 7 1, 3) := by decide +kernel
theorem dX12_laysRow_96 : decode cX12_laysRow 96 = .ok (.goto (-86), 3) := by decide +kernel
theorem dX12_laysRow_99 : decode cX12_laysRow 99 = .ok (.return_, 1) := by decide +kernel
theorem dX12_laysHours_0 : decode cX12_laysHours 0 = .ok (.aload_n 0, 1) := by decide +kernel
theorem dX12_laysHours_1 : decode cX12_laysHours 1 = .ok (.iload_n 3, 1) := by decide +kernel
theorem dX12_laysHours_2 : decode cX12_laysHours 2 = .ok (.aload_n 0, 1) := by decide +kernel
theorem dX12_laysHours_3 : decode cX12_laysHours 3 = .ok (.invokevirtual 347, 3) := by decide +kernel
theorem dX12_laysHours_6 : decode cX12_laysHours 6 = .ok (.invokevirtual 360, 3) := by decide +kernel
theorem dX12_laysHours_9 : decode cX12_laysHours 9 = .ok (.aload_n 0, 1) := by decide +kernel
theorem dX12_laysHours_10 : decode cX12_laysHours 10 = .ok (.iload_n 3, 1) := by decide +kernel
theorem dX12_laysHours_11 : decode cX12_laysHours 11 = .ok (.aload_n 0, 1) := by decide +kernel
theorem dX12_laysHours_12 : decode cX12_laysHours 12 = .ok (.getfield 9, 3) := by decide +kernel
theorem dX12_laysHours_15 : decode cX12_laysHours 15 = .ok (.bipush 54, 2) := by decide +kernel
theorem dX12_laysHours_17 : decode cX12_laysHours 17 = .ok (.iaload, 1) := by decide +kernel
theorem dX12_laysHours_18 : decode cX12_laysHours 18 = .ok (.iload 4, 2) := by decide +kernel
theorem dX12_laysHours_20 : decode cX12_laysHours 20 = .ok (.invokevirtual 363, 3) := by decide +kernel
theorem dX12_laysHours_23 : decode cX12_laysHours 23 = .ok (.aload_n 0, 1) := by decide +kernel
theorem dX12_laysHours_24 : decode cX12_laysHours 24 = .ok (.iload_n 1, 1) := by decide +kernel
theorem dX12_laysHours_25 : decode cX12_laysHours 25 = .ok (.iload_n 2, 1) := by decide +kernel
theorem dX12_laysHours_26 : decode cX12_laysHours 26 = .ok (.aload_n 0, 1) := by decide +kernel
theorem dX12_laysHours_27 : decode cX12_laysHours 27 = .ok (.getfield 9, 3) := by decide +kernel
theorem dX12_laysHours_30 : decode cX12_laysHours 30 = .ok (.bipush 54, 2) := by decide +kernel
theorem dX12_laysHours_32 : decode cX12_laysHours 32 = .ok (.iaload, 1) := by decide +kernel
theorem dX12_laysHours_33 : decode cX12_laysHours 33 = .ok (.iload 4, 2) := by decide +kernel
theorem dX12_laysHours_35 : decode cX12_laysHours 35 = .ok (.iconst 0, 1) := by decide +kernel
theorem dX12_laysHours_36 : decode cX12_laysHours 36 = .ok (.invokevirtual 367, 3) := by decide +kernel
theorem dX12_laysHours_39 : decode cX12_laysHours 39 = .ok (.return_, 1) := by decide +kernel
theorem dX12_isLawful_0 : decode cX12_isLawful 0 = .ok (.iload_n 2, 1) := by decide +kernel
theorem dX12_isLawful_1 : decode cX12_isLawful 1 = .ok (.istore 4, 2) := by decide +kernel
theorem dX12_isLawful_3 : decode cX12_isLawful 3 = .ok (.iload 4, 2) := by decide +kernel
theorem dX12_isLawful_5 : decode cX12_isLawful 5 = .ok (.iload_n 2, 1) := by decide +kernel
theorem dX12_isLawful_6 : decode cX12_isLawful 6 = .ok (.aload_n 0, 1) := by decide +kernel
theorem dX12_isLawful_7 : decode cX12_isLawful 7 = .ok (.getfield 9, 3) := by decide +kernel
theorem dX12_isLawful_10 : decode cX12_isLawful 10 = .ok (.bipush 6, 2) := by decide +kernel
theorem dX12_isLawful_12 : decode cX12_isLawful 12 = .ok (.iaload, 1) := by decide +kernel
theorem dX12_isLawful_13 : decode cX12_isLawful 13 = .ok (.iconst 1, 1) := by decide +kernel
theorem dX12_isLawful_14 : decode cX12_isLawful 14 = .ok (.if_icmp .ne 7, 3) := by decide +kernel
theorem dX12_isLawful_17 : decode cX12_isLawful 17 = .ok (.iload_n 3, 1) := by decide +kernel
theorem dX12_isLawful_18 : decode cX12_isLawful 18 = .ok (.goto 4, 3) := by decide +kernel
theorem dX12_isLawful_21 : decode cX12_isLawful 21 = .ok (.iconst 1, 1) := by decide +kernel
theorem dX12_isLawful_22 : decode cX12_isLawful 22 = .ok (.iadd, 1) := by decide +kernel
theorem dX12_isLawful_23 : decode cX12_isLawful 23 = .ok (.if_icmp .ge 27, 3) := by decide +kernel
theorem dX12_isLawful_26 : decode cX12_isLawful 26 = .ok (.aload_n 0, 1) := by decide +kernel
theorem dX12_isLawful_27 : decode cX12_isLawful 27 = .ok (.getfield 45, 3) := by decide +kernel
theorem dX12_isLawful_30 : decode cX12_isLawful 30 = .ok (.sipush 1024, 3) := by decide +kernel
theorem dX12_isLawful_33 : decode cX12_isLawful 33 = .ok (.iload_n 1, 1) := by decide +kernel
theorem dX12_isLawful_34 : decode cX12_isLawful 34 = .ok (.imul, 1) := by decide +kernel
theorem dX12_isLawful_35 : decode cX12_isLawful 35 = .ok (.iload 4, 2) := by decide +kernel
theorem dX12_isLawful_37 : decode cX12_isLawful 37 = .ok (.iadd, 1) := by decide +kernel
theorem dX12_isLawful_38 : decode cX12_isLawful 38 = .ok (.baload, 1) := by decide +kernel
theorem dX12_isLawful_39 : decode cX12_isLawful 39 = .ok (.ifCond .eq 5, 3) := by decide +kernel
theorem dX12_isLawful_42 : decode cX12_isLawful 42 = .ok (.iconst 0, 1) := by decide +kernel
theorem dX12_isLawful_43 : decode cX12_isLawful 43 = .ok (.ireturn, 1) := by decide +kernel
theorem dX12_isLawful_44 : decode cX12_isLawful 44 = .ok (.iinc 4 1, 3) := by decide +kernel
theorem dX12_isLawful_47 : decode cX12_isLawful 47 = .ok (.goto (-44), 3) := by decide +kernel
theorem dX12_isLawful_50 : decode cX12_isLawful 50 = .ok (.iconst 1, 1) := by decide +kernel
theorem dX12_isLawful_51 : decode cX12_isLawful 51 = .ok (.ireturn, 1) := by decide +kernel
theorem dX12_fineOf_0 : decode cX12_fineOf 0 = .ok (.iconst 0, 1) := by decide +kernel
theorem dX12_fineOf_1 : decode cX12_fineOf 1 = .ok (.istore 4, 2) := by decide +kernel
theorem dX12_fineOf_3 : decode cX12_fineOf 3 = .ok (.iload_n 2, 1) := by decide +kernel
theorem dX12_fineOf_4 : decode cX12_fineOf 4 = .ok (.istore 5, 2) := by decide +kernel
theorem dX12_fineOf_6 : decode cX12_fineOf 6 = .ok (.iload 5, 2) := by decide +kernel
theorem dX12_fineOf_8 : decode cX12_fineOf 8 = .ok (.iload_n 2, 1) := by decide +kernel
theorem dX12_fineOf_9 : decode cX12_fineOf 9 = .ok (.aload_n 0, 1) := by decide +kernel
theorem dX12_fineOf_10 : decode cX12_fineOf 10 = .ok (.getfield 9, 3) := by decide +kernel
theorem dX12_fineOf_13 : decode cX12_fineOf 13 = .ok (.bipush 6, 2) := by decide +kernel
theorem dX12_fineOf_15 : decode cX12_fineOf 15 = .ok (.iaload, 1) := by decide +kernel
theorem dX12_fineOf_16 : decode cX12_fineOf 16 = .ok (.iconst 1, 1) := by decide +kernel
theorem dX12_fineOf_17 : decode cX12_fineOf 17 = .ok (.if_icmp .ne 7, 3) := by decide +kernel
theorem dX12_fineOf_20 : decode cX12_fineOf 20 = .ok (.iload_n 3, 1) := by decide +kernel
theorem dX12_fineOf_21 : decode cX12_fineOf 21 = .ok (.goto 4, 3) := by decide +kernel
theorem dX12_fineOf_24 : decode cX12_fineOf 24 = .ok (.iconst 1, 1) := by decide +kernel
theorem dX12_fineOf_25 : decode cX12_fineOf 25 = .ok (.iadd, 1) := by decide +kernel
theorem dX12_fineOf_26 : decode cX12_fineOf 26 = .ok (.if_icmp .ge 27, 3) := by decide +kernel
theorem dX12_fineOf_29 : decode cX12_fineOf 29 = .ok (.iload 4, 2) := by decide +kernel
theorem dX12_fineOf_31 : decode cX12_fineOf 31 = .ok (.aload_n 0, 1) := by decide +kernel
theorem dX12_fineOf_32 : decode cX12_fineOf 32 = .ok (.getfield 42, 3) := by decide +kernel
theorem dX12_fineOf_35 : decode cX12_fineOf 35 = .ok (.sipush 1024, 3) := by decide +kernel
theorem dX12_fineOf_38 : decode cX12_fineOf 38 = .ok (.iload_n 1, 1) := by decide +kernel
theorem dX12_fineOf_39 : decode cX12_fineOf 39 = .ok (.imul, 1) := by decide +kernel
theorem dX12_fineOf_40 : decode cX12_fineOf 40 = .ok (.iload 5, 2) := by decide +kernel
theorem dX12_fineOf_42 : decode cX12_fineOf 42 = .ok (.iadd, 1) := by decide +kernel
theorem dX12_fineOf_43 : decode cX12_fineOf 43 = .ok (.iaload, 1) := by decide +kernel
theorem dX12_fineOf_44 : decode cX12_fineOf 44 = .ok (.iadd, 1) := by decide +kernel
theorem dX12_fineOf_45 : decode cX12_fineOf 45 = .ok (.istore 4, 2) := by decide +kernel
theorem dX12_fineOf_47 : decode cX12_fineOf 47 = .ok (.iinc 5 1, 3) := by decide +kernel
theorem dX12_fineOf_50 : decode cX12_fineOf 50 = .ok (.goto (-44), 3) := by decide +kernel
theorem dX12_fineOf_53 : decode cX12_fineOf 53 = .ok (.iload 4, 2) := by decide +kernel
theorem dX12_fineOf_55 : decode cX12_fineOf 55 = .ok (.ireturn, 1) := by decide +kernel
theorem dX12_ward_0 : decode cX12_ward 0 = .ok (.aload_n 0, 1) := by decide +kernel
theorem dX12_ward_1 : decode cX12_ward 1 = .ok (.aload_n 0, 1) := by decide +kernel
theorem dX12_ward_2 : decode cX12_ward 2 = .ok (.iload_n 1, 1) := by decide +kernel
theorem dX12_ward_3 : decode cX12_ward 3 = .ok (.i2l, 1) := by decide +kernel
theorem dX12_ward_4 : decode cX12_ward 4 = .ok (.invokevirtual 371, 3) := by decide +kernel
theorem dX12_ward_7 : decode cX12_ward 7 = .ok (.ifCond .ne 7, 3) := by decide +kernel
theorem dX12_ward_10 : decode cX12_ward 10 = .ok (.iconst 1, 1) := by decide +kernel
theorem dX12_ward_11 : decode cX12_ward 11 = .ok (.goto 20, 3) := by decide +kernel
theorem dX12_ward_14 : decode cX12_ward 14 = .ok (.iload_n 2, 1) := by decide +kernel
theorem dX12_ward_15 : decode cX12_ward 15 = .ok (.i2l, 1) := by decide +kernel
theorem dX12_ward_16 : decode cX12_ward 16 = .ok (.lconst 0, 1) := by decide +kernel
theorem dX12_ward_17 : decode cX12_ward 17 = .ok (.ldc2_w 375, 3) := by decide +kernel
theorem dX12_ward_20 : decode cX12_ward 20 = .ok (.invokestatic 158, 3) := by decide +kernel
theorem dX12_ward_23 : decode cX12_ward 23 = .ok (.ifCond .eq 7, 3) := by decide +kernel
theorem dX12_ward_26 : decode cX12_ward 26 = .ok (.iconst 0, 1) := by decide +kernel
theorem dX12_ward_27 : decode cX12_ward 27 = .ok (.goto 4, 3) := by decide +kernel
theorem dX12_ward_30 : decode cX12_ward 30 = .ok (.iconst 2, 1) := by decide +kernel
theorem dX12_ward_31 : decode cX12_ward 31 = .ok (.putfield 97, 3) := by decide +kernel
theorem dX12_ward_34 : decode cX12_ward 34 = .ok (.aload_n 0, 1) := by decide +kernel
theorem dX12_ward_35 : decode cX12_ward 35 = .ok (.getfield 97, 3) := by decide +kernel
theorem dX12_ward_38 : decode cX12_ward 38 = .ok (.ifCond .le 5, 3) := by decide +kernel
theorem dX12_ward_41 : decode cX12_ward 41 = .ok (.iconst 0, 1) := by decide +kernel
theorem dX12_ward_42 : decode cX12_ward 42 = .ok (.ireturn, 1) := by decide +kernel
theorem dX12_ward_43 : decode cX12_ward 43 = .ok (.iload_n 2, 1) := by decide +kernel
theorem dX12_ward_44 : decode cX12_ward 44 = .ok (.tableswitch 108 0 4 #[36, 46, 56, 71, 86], 36) := by decide +kernel
theorem dX12_ward_80 : decode cX12_ward 80 = .ok (.aload_n 0, 1) := by decide +kernel
theorem dX12_ward_81 : decode cX12_ward 81 = .ok (.getfield 9, 3) := by decide +kernel
theorem dX12_ward_84 : decode cX12_ward 84 = .ok (.bipush 56, 2) := by decide +kernel
theorem dX12_ward_86 : decode cX12_ward 86 = .ok (.iload_n 1, 1) := by decide +kernel
theorem dX12_ward_87 : decode cX12_ward 87 = .ok (.iadd, 1) := by decide +kernel
theorem dX12_ward_88 : decode cX12_ward 88 = .ok (.iaload, 1) := by decide +kernel
theorem dX12_ward_89 : decode cX12_ward 89 = .ok (.ireturn, 1) := by decide +kernel
theorem dX12_ward_90 : decode cX12_ward 90 = .ok (.aload_n 0, 1) := by decide +kernel
theorem dX12_ward_91 : decode cX12_ward 91 = .ok (.getfield 9, 3) := by decide +kernel
theorem dX12_ward_94 : decode cX12_ward 94 = .ok (.bipush 61, 2) := by decide +kernel
theorem dX12_ward_96 : decode cX12_ward 96 = .ok (.iload_n 1, 1) := by decide +kernel
theorem dX12_ward_97 : decode cX12_ward 97 = .ok (.iadd, 1) := by decide +kernel
theorem dX12_ward_98 : decode cX12_ward 98 = .ok (.iaload, 1) := by decide +kernel
theorem dX12_ward_99 : decode cX12_ward 99 = .ok (.ireturn, 1) := by decide +kernel
theorem dX12_ward_100 : decode cX12_ward 100 = .ok (.aload_n 0, 1) := by decide +kernel
theorem dX12_ward_101 : decode cX12_ward 101 = .ok (.bipush 7, 2) := by decide +kernel
theorem dX12_ward_103 : decode cX12_ward 103 = .ok (.iload_n 1, 1) := by decide +kernel
theorem dX12_ward_104 : decode cX12_ward 104 = .ok (.aload_n 0, 1) := by decide +kernel
theorem dX12_ward_105 : decode cX12_ward 105 = .ok (.getfield 9, 3) := by decide +kernel
theorem dX12_ward_108 : decode cX12_ward 108 = .ok (.bipush 54, 2) := by decide +kernel
theorem dX12_ward_110 : decode cX12_ward 110 = .ok (.iaload, 1) := by decide +kernel
theorem dX12_ward_111 : decode cX12_ward 111 = .ok (.invokevirtual 324, 3) := by decide +kernel
theorem dX12_ward_114 : decode cX12_ward 114 = .ok (.ireturn, 1) := by decide +kernel
theorem dX12_ward_115 : decode cX12_ward 115 = .ok (.aload_n 0, 1) := by decide +kernel
theorem dX12_ward_116 : decode cX12_ward 116 = .ok (.bipush 22, 2) := by decide +kernel
theorem dX12_ward_118 : decode cX12_ward 118 = .ok (.iload_n 1, 1) := by decide +kernel
theorem dX12_ward_119 : decode cX12_ward 119 = .ok (.aload_n 0, 1) := by decide +kernel
theorem dX12_ward_120 : decode cX12_ward 120 = .ok (.getfield 9, 3) := by decide +kernel
theorem dX12_ward_123 : decode cX12_ward 123 = .ok (.bipush 54, 2) := by decide +kernel
theorem dX12_ward_125 : decode cX12_ward 125 = .ok (.iaload, 1) := by decide +kernel
theorem dX12_ward_126 : decode cX12_ward 126 = .ok (.invokevirtual 324, 3) := by decide +kernel
theorem dX12_ward_129 : decode cX12_ward 129 = .ok (.ireturn, 1) := by decide +kernel
theorem dX12_ward_130 : decode cX12_ward 130 = .ok (.iconst 0, 1) := by decide +kernel
theorem dX12_ward_131 : decode cX12_ward 131 = .ok (.aload_n 0, 1) := by decide +kernel
theorem dX12_ward_132 : decode cX12_ward 132 = .ok (.getfield 9, 3) := by decide +kernel
theorem dX12_ward_135 : decode cX12_ward 135 = .ok (.bipush 17, 2) := by decide +kernel
theorem dX12_ward_137 : decode cX12_ward 137 = .ok (.iload_n 1, 1) := by decide +kernel
theorem dX12_ward_138 : decode cX12_ward 138 = .ok (.iadd, 1) := by decide +kernel
theorem dX12_ward_139 : decode cX12_ward 139 = .ok (.iaload, 1) := by decide +kernel
theorem dX12_ward_140 : decode cX12_ward 140 = .ok (.aload_n 0, 1) := by decide +kernel
theorem dX12_ward_141 : decode cX12_ward 141 = .ok (.getfield 9, 3) := by decide +kernel
theorem dX12_ward_144 : decode cX12_ward 144 = .ok (.bipush 54, 2) := by decide +kernel
theorem dX12_ward_146 : decode cX12_ward 146 = .ok (.iaload, 1) := by decide +kernel
theorem dX12_ward_147 : decode cX12_ward 147 = .ok (.isub, 1) := by decide +kernel
theorem dX12_ward_148 : decode cX12_ward 148 = .ok (.invokestatic 322, 3) := by decide +kernel
theorem dX12_ward_151 : decode cX12_ward 151 = .ok (.ireturn, 1) := by decide +kernel
theorem dX12_ward_152 : decode cX12_ward 152 = .ok (.iconst 0, 1) := by decide +kernel
theorem dX12_ward_153 : decode cX12_ward 153 = .ok (.aload_n 0, 1) := by decide +kernel
theorem dX12_ward_154 : decode cX12_ward 154 = .ok (.getfield 9, 3) := by decide +kernel
theorem dX12_ward_157 : decode cX12_ward 157 = .ok (.bipush 32, 2) := by decide +kernel
theorem dX12_ward_159 : decode cX12_ward 159 = .ok (.iload_n 1, 1) := by decide +kernel
theorem dX12_ward_160 : decode cX12_ward 160 = .ok (.iadd, 1) := by decide +kernel
theorem dX12_ward_161 : decode cX12_ward 161 = .ok (.iaload, 1) := by decide +kernel
theorem dX12_ward_162 : decode cX12_ward 162 = .ok (.aload_n 0, 1) := by decide +kernel
theorem dX12_ward_163 : decode cX12_ward 163 = .ok (.getfield 9, 3) := by decide +kernel
theorem dX12_ward_166 : decode cX12_ward 166 = .ok (.bipush 54, 2) := by decide +kernel
theorem dX12_ward_168 : decode cX12_ward 168 = .ok (.iaload, 1) := by decide +kernel
theorem dX12_ward_169 : decode cX12_ward 169 = .ok (.isub, 1) := by decide +kernel
theorem dX12_ward_170 : decode cX12_ward 170 = .ok (.invokestatic 322, 3) := by decide +kernel
theorem dX12_ward_173 : decode cX12_ward 173 = .ok (.ireturn, 1) := by decide +kernel
theorem dX12_act_0 : decode cX12_act 0 = .ok (.aload_n 0, 1) := by decide +kernel
theorem dX12_act_1 : decode cX12_act 1 = .ok (.aload_n 0, 1) := by decide +kernel
theorem dX12_act_2 : decode cX12_act 2 = .ok (.iload_n 1, 1) := by decide +kernel
theorem dX12_act_3 : decode cX12_act 3 = .ok (.i2l, 1) := by decide +kernel
theorem dX12_act_4 : decode cX12_act 4 = .ok (.invokevirtual 377, 3) := by decide +kernel
theorem dX12_act_7 : decode cX12_act 7 = .ok (.ifCond .ne 7, 3) := by decide +kernel
theorem dX12_act_10 : decode cX12_act 10 = .ok (.iconst 1, 1) := by decide +kernel
theorem dX12_act_11 : decode cX12_act 11 = .ok (.goto 20, 3) := by decide +kernel
theorem dX12_act_14 : decode cX12_act 14 = .ok (.iload_n 2, 1) := by decide +kernel
theorem dX12_act_15 : decode cX12_act 15 = .ok (.i2l, 1) := by decide +kernel
theorem dX12_act_16 : decode cX12_act 16 = .ok (.lconst 0, 1) := by decide +kernel
theorem dX12_act_17 : decode cX12_act 17 = .ok (.ldc2_w 380, 3) := by decide +kernel
theorem dX12_act_20 : decode cX12_act 20 = .ok (.invokestatic 158, 3) := by decide +kernel
theorem dX12_act_23 : decode cX12_act 23 = .ok (.ifCond .eq 7, 3) := by decide +kernel
theorem dX12_act_26 : decode cX12_act 26 = .ok (.iconst 0, 1) := by decide +kernel
theorem dX12_act_27 : decode cX12_act 27 = .ok (.goto 4, 3) := by decide +kernel
theorem dX12_act_30 : decode cX12_act 30 = .ok (.iconst 2, 1) := by decide +kernel
theorem dX12_act_31 : decode cX12_act 31 = .ok (.putfield 97, 3) := by decide +kernel
theorem dX12_act_34 : decode cX12_act 34 = .ok (.aload_n 0, 1) := by decide +kernel
theorem dX12_act_35 : decode cX12_act 35 = .ok (.getfield 97, 3) := by decide +kernel
theorem dX12_act_38 : decode cX12_act 38 = .ok (.ifCond .le 5, 3) := by decide +kernel
theorem dX12_act_41 : decode cX12_act 41 = .ok (.iconst 0, 1) := by decide +kernel
theorem dX12_act_42 : decode cX12_act 42 = .ok (.ireturn, 1) := by decide +kernel
theorem dX12_act_43 : decode cX12_act 43 = .ok (.iload_n 2, 1) := by decide +kernel
theorem dX12_act_44 : decode cX12_act 44 = .ok (.tableswitch 72 0 3 #[32, 42, 52, 62], 32) := by decide +kernel
theorem dX12_act_76 : decode cX12_act 76 = .ok (.aload_n 0, 1) := by decide +kernel
theorem dX12_act_77 : decode cX12_act 77 = .ok (.getfield 9, 3) := by decide +kernel
theorem dX12_act_80 : decode cX12_act 80 = .ok (.bipush 66, 2) := by decide +kernel
theorem dX12_act_82 : decode cX12_act 82 = .ok (.iload_n 1, 1) := by decide +kernel
theorem dX12_act_83 : decode cX12_act 83 = .ok (.iadd, 1) := by decide +kernel
theorem dX12_act_84 : decode cX12_act 84 = .ok (.iaload, 1) := by decide +kernel
theorem dX12_act_85 : decode cX12_act 85 = .ok (.ireturn, 1) := by decide +kernel
theorem dX12_act_86 : decode cX12_act 86 = .ok (.aload_n 0, 1) := by decide +kernel
theorem dX12_act_87 : decode cX12_act 87 = .ok (.getfield 9, 3) := by decide +kernel
theorem dX12_act_90 : decode cX12_act 90 = .ok (.bipush 37, 2) := by decide +kernel
theorem dX12_act_92 : decode cX12_act 92 = .ok (.iload_n 1, 1) := by decide +kernel
theorem dX12_act_93 : decode cX12_act 93 = .ok (.iadd, 1) := by decide +kernel
theorem dX12_act_94 : decode cX12_act 94 = .ok (.iaload, 1) := by decide +kernel
theorem dX12_act_95 : decode cX12_act 95 = .ok (.ireturn, 1) := by decide +kernel
theorem dX12_act_96 : decode cX12_act 96 = .ok (.aload_n 0, 1) := by decide +kernel
theorem dX12_act_97 : decode cX12_act 97 = .ok (.getfield 9, 3) := by decide +kernel
theorem dX12_act_100 : decode cX12_act 100 = .ok (.bipush 45, 2) := by decide +kernel
theorem dX12_act_102 : decode cX12_act 102 = .ok (.iload_n 1, 1) := by decide +kernel
theorem dX12_act_103 : decode cX12_act 103 = .ok (.iadd, 1) := by decide +kernel
theorem dX12_act_104 : decode cX12_act 104 = .ok (.iaload, 1) := by decide +kernel
theorem dX12_act_105 : decode cX12_act 105 = .ok (.ireturn, 1) := by decide +kernel
theorem dX12_act_106 : decode cX12_act 106 = .ok (.aload_n 0, 1) := by decide +kernel
theorem dX12_act_107 : decode cX12_act 107 = .ok (.getfield 9, 3) := by decide +kernel
theorem dX12_act_110 : decode cX12_act 110 = .ok (.bipush 74, 2) := by decide +kernel
theorem dX12_act_112 : decode cX12_act 112 = .ok (.iload_n 1, 1) := by decide +kernel
theorem dX12_act_113 : decode cX12_act 113 = .ok (.iadd, 1) := by decide +kernel
theorem dX12_act_114 : decode cX12_act 114 = .ok (.iaload, 1) := by decide +kernel
theorem dX12_act_115 : decode cX12_act 115 = .ok (.ireturn, 1) := by decide +kernel
theorem dX12_act_116 : decode cX12_act 116 = .ok (.aload_n 0, 1) := by decide +kernel
theorem dX12_act_117 : decode cX12_act 117 = .ok (.getfield 9, 3) := by decide +kernel
theorem dX12_act_120 : decode cX12_act 120 = .ok (.bipush 53, 2) := by decide +kernel
theorem dX12_act_122 : decode cX12_act 122 = .ok (.iaload, 1) := by decide +kernel
theorem dX12_act_123 : decode cX12_act 123 = .ok (.iload_n 1, 1) := by decide +kernel
theorem dX12_act_124 : decode cX12_act 124 = .ok (.invokestatic 250, 3) := by decide +kernel
theorem dX12_act_127 : decode cX12_act 127 = .ok (.ifCond .eq 7, 3) := by decide +kernel
theorem dX12_act_130 : decode cX12_act 130 = .ok (.iconst 1, 1) := by decide +kernel
theorem dX12_act_131 : decode cX12_act 131 = .ok (.goto 4, 3) := by decide +kernel
theorem dX12_act_134 : decode cX12_act 134 = .ok (.iconst 0, 1) := by decide +kernel
theorem dX12_act_135 : decode cX12_act 135 = .ok (.ireturn, 1) := by decide +kernel
theorem dX12_degree_0 : decode cX12_degree 0 = .ok (.aload_n 0, 1) := by decide +kernel
theorem dX12_degree_1 : decode cX12_degree 1 = .ok (.aload_n 0, 1) := by decide +kernel
theorem dX12_degree_2 : decode cX12_degree 2 = .ok (.iload_n 1, 1) := by decide +kernel
theorem dX12_degree_3 : decode cX12_degree 3 = .ok (.i2l, 1) := by decide +kernel
theorem dX12_degree_4 : decode cX12_degree 4 = .ok (.invokevirtual 371, 3) := by decide +kernel
theorem dX12_degree_7 : decode cX12_degree 7 = .ok (.ifCond .ne 7, 3) := by decide +kernel
theorem dX12_degree_10 : decode cX12_degree 10 = .ok (.iconst 1, 1) := by decide +kernel
theorem dX12_degree_11 : decode cX12_degree 11 = .ok (.goto 20, 3) := by decide +kernel
theorem dX12_degree_14 : decode cX12_degree 14 = .ok (.iload_n 2, 1) := by decide +kernel
theorem dX12_degree_15 : decode cX12_degree 15 = .ok (.i2l, 1) := by decide +kernel
theorem dX12_degree_16 : decode cX12_degree 16 = .ok (.lconst 0, 1) := by decide +kernel
theorem dX12_degree_17 : decode cX12_degree 17 = .ok (.ldc2_w 382, 3) := by decide +kernel
theorem dX12_degree_20 : decode cX12_degree 20 = .ok (.invokestatic 158, 3) := by decide +kernel
theorem dX12_degree_23 : decode cX12_degree 23 = .ok (.ifCond .eq 7, 3) := by decide +kernel
theorem dX12_degree_26 : decode cX12_degree 26 = .ok (.iconst 0, 1) := by decide +kernel
theorem dX12_degree_27 : decode cX12_degree 27 = .ok (.goto 4, 3) := by decide +kernel
theorem dX12_degree_30 : decode cX12_degree 30 = .ok (.iconst 2, 1) := by decide +kernel
theorem dX12_degree_31 : decode cX12_degree 31 = .ok (.putfield 97, 3) := by decide +kernel
theorem dX12_degree_34 : decode cX12_degree 34 = .ok (.aload_n 0, 1) := by decide +kernel
theorem dX12_degree_35 : decode cX12_degree 35 = .ok (.getfield 97, 3) := by decide +kernel
theorem dX12_degree_38 : decode cX12_degree 38 = .ok (.ifCond .le 7, 3) := by decide +kernel
theorem dX12_degree_41 : decode cX12_degree 41 = .ok (.iconst 0, 1) := by decide +kernel
theorem dX12_degree_42 : decode cX12_degree 42 = .ok (.goto 17, 3) := by decide +kernel
theorem dX12_degree_45 : decode cX12_degree 45 = .ok (.aload_n 0, 1) := by decide +kernel
theorem dX12_degree_46 : decode cX12_degree 46 = .ok (.iload_n 1, 1) := by decide +kernel
theorem dX12_degree_47 : decode cX12_degree 47 = .ok (.aload_n 0, 1) := by decide +kernel
theorem dX12_degree_48 : decode cX12_degree 48 = .ok (.getfield 9, 3) := by decide +kernel
theorem dX12_degree_51 : decode cX12_degree 51 = .ok (.bipush 54, 2) := by decide +kernel
theorem dX12_degree_53 : decode cX12_degree 53 = .ok (.iaload, 1) := by decide +kernel
theorem dX12_degree_54 : decode cX12_degree 54 = .ok (.iload_n 2, 1) := by decide +kernel
theorem dX12_degree_55 : decode cX12_degree 55 = .ok (.iadd, 1) := by decide +kernel
theorem dX12_degree_56 : decode cX12_degree 56 = .ok (.invokevirtual 344, 3) := by decide +kernel
theorem dX12_degree_59 : decode cX12_degree 59 = .ok (.ireturn, 1) := by decide +kernel
theorem dX12_code_0 : decode cX12_code 0 = .ok (.aload_n 0, 1) := by decide +kernel
theorem dX12_code_1 : decode cX12_code 1 = .ok (.aload_n 0, 1) := by decide +kernel
theorem dX12_code_2 : decode cX12_code 2 = .ok (.iload_n 1, 1) := by decide +kernel
theorem dX12_code_3 : decode cX12_code 3 = .ok (.i2l, 1) := by decide +kernel
theorem dX12_code_4 : decode cX12_code 4 = .ok (.invokevirtual 371, 3) := by decide +kernel
theorem dX12_code_7 : decode cX12_code 7 = .ok (.ifCond .ne 7, 3) := by decide +kernel
theorem dX12_code_10 : decode cX12_code 10 = .ok (.iconst 1, 1) := by decide +kernel
theorem dX12_code_11 : decode cX12_code 11 = .ok (.goto 20, 3) := by decide +kernel
theorem dX12_code_14 : decode cX12_code 14 = .ok (.iload_n 2, 1) := by decide +kernel
theorem dX12_code_15 : decode cX12_code 15 = .ok (.i2l, 1) := by decide +kernel
theorem dX12_code_16 : decode cX12_code 16 = .ok (.lconst 0, 1) := by decide +kernel
theorem dX12_code_17 : decode cX12_code 17 = .ok (.ldc2_w 382, 3) := by decide +kernel
theorem dX12_code_20 : decode cX12_code 20 = .ok (.invokestatic 158, 3) := by decide +kernel
theorem dX12_code_23 : decode cX12_code 23 = .ok (.ifCond .eq 7, 3) := by decide +kernel
theorem dX12_code_26 : decode cX12_code 26 = .ok (.iconst 0, 1) := by decide +kernel
theorem dX12_code_27 : decode cX12_code 27 = .ok (.goto 4, 3) := by decide +kernel
theorem dX12_code_30 : decode cX12_code 30 = .ok (.iconst 2, 1) := by decide +kernel
theorem dX12_code_31 : decode cX12_code 31 = .ok (.putfield 97, 3) := by decide +kernel
theorem dX12_code_34 : decode cX12_code 34 = .ok (.aload_n 0, 1) := by decide +kernel
theorem dX12_code_35 : decode cX12_code 35 = .ok (.getfield 97, 3) := by decide +kernel
theorem dX12_code_38 : decode cX12_code 38 = .ok (.ifCond .le 7, 3) := by decide +kernel
theorem dX12_code_41 : decode cX12_code 41 = .ok (.iconst 0, 1) := by decide +kernel
theorem dX12_code_42 : decode cX12_code 42 = .ok (.goto 17, 3) := by decide +kernel
theorem dX12_code_45 : decode cX12_code 45 = .ok (.aload_n 0, 1) := by decide +kernel
theorem dX12_code_46 : decode cX12_code 46 = .ok (.iload_n 1, 1) := by decide +kernel
theorem dX12_code_47 : decode cX12_code 47 = .ok (.aload_n 0, 1) := by decide +kernel
theorem dX12_code_48 : decode cX12_code 48 = .ok (.getfield 9, 3) := by decide +kernel
theorem dX12_code_51 : decode cX12_code 51 = .ok (.bipush 54, 2) := by decide +kernel
theorem dX12_code_53 : decode cX12_code 53 = .ok (.iaload, 1) := by decide +kernel
theorem dX12_code_54 : decode cX12_code 54 = .ok (.iload_n 2, 1) := by decide +kernel
theorem dX12_code_55 : decode cX12_code 55 = .ok (.iadd, 1) := by decide +kernel
theorem dX12_code_56 : decode cX12_code 56 = .ok (.invokevirtual 384, 3) := by decide +kernel
theorem dX12_code_59 : decode cX12_code 59 = .ok (.ireturn, 1) := by decide +kernel
theorem dX12_isLong_0 : decode cX12_isLong 0 = .ok (.iload_n 0, 1) := by decide +kernel
theorem dX12_isLong_1 : decode cX12_isLong 1 = .ok (.i2l, 1) := by decide +kernel
theorem dX12_isLong_2 : decode cX12_isLong 2 = .ok (.lconst 1, 1) := by decide +kernel
theorem dX12_isLong_3 : decode cX12_isLong 3 = .ok (.ldc2_w 387, 3) := by decide +kernel
theorem dX12_isLong_6 : decode cX12_isLong 6 = .ok (.invokestatic 158, 3) := by decide +kernel
theorem dX12_isLong_9 : decode cX12_isLong 9 = .ok (.ireturn, 1) := by decide +kernel
theorem dX12_isDeedOut_0 : decode cX12_isDeedOut 0 = .ok (.aload_n 0, 1) := by decide +kernel
theorem dX12_isDeedOut_1 : decode cX12_isDeedOut 1 = .ok (.aload_n 0, 1) := by decide +kernel
theorem dX12_isDeedOut_2 : decode cX12_isDeedOut 2 = .ok (.iload_n 2, 1) := by decide +kernel
theorem dX12_isDeedOut_3 : decode cX12_isDeedOut 3 = .ok (.i2l, 1) := by decide +kernel
theorem dX12_isDeedOut_4 : decode cX12_isDeedOut 4 = .ok (.invokevirtual 371, 3) := by decide +kernel
theorem dX12_isDeedOut_7 : decode cX12_isDeedOut 7 = .ok (.ifCond .ne 7, 3) := by decide +kernel
theorem dX12_isDeedOut_10 : decode cX12_isDeedOut 10 = .ok (.iconst 1, 1) := by decide +kernel
theorem dX12_isDeedOut_11 : decode cX12_isDeedOut 11 = .ok (.goto 35, 3) := by decide +kernel
theorem dX12_isDeedOut_14 : decode cX12_isDeedOut 14 = .ok (.iload_n 1, 1) := by decide +kernel
theorem dX12_isDeedOut_15 : decode cX12_isDeedOut 15 = .ok (.invokestatic 389, 3) := by decide +kernel
theorem dX12_isDeedOut_18 : decode cX12_isDeedOut 18 = .ok (.ifCond .eq 27, 3) := by decide +kernel
theorem dX12_isDeedOut_21 : decode cX12_isDeedOut 21 = .ok (.iload_n 3, 1) := by decide +kernel
theorem dX12_isDeedOut_22 : decode cX12_isDeedOut 22 = .ok (.i2l, 1) := by decide +kernel
theorem dX12_isDeedOut_23 : decode cX12_isDeedOut 23 = .ok (.lconst 0, 1) := by decide +kernel
theorem dX12_isDeedOut_24 : decode cX12_isDeedOut 24 = .ok (.ldc2_w 382, 3) := by decide +kernel
theorem dX12_isDeedOut_27 : decode cX12_isDeedOut 27 = .ok (.invokestatic 158, 3) := by decide +kernel
theorem dX12_isDeedOut_30 : decode cX12_isDeedOut 30 = .ok (.ifCond .eq 15, 3) := by decide +kernel
theorem dX12_isDeedOut_33 : decode cX12_isDeedOut 33 = .ok (.iload 4, 2) := by decide +kernel
theorem dX12_isDeedOut_35 : decode cX12_isDeedOut 35 = .ok (.invokestatic 392, 3) := by decide +kernel
theorem dX12_isDeedOut_38 : decode cX12_isDeedOut 38 = .ok (.ifCond .eq 7, 3) := by decide +kernel
theorem dX12_isDeedOut_41 : decode cX12_isDeedOut 41 = .ok (.iconst 0, 1) := by decide +kernel
theorem dX12_isDeedOut_42 : decode cX12_isDeedOut 42 = .ok (.goto 4, 3) := by decide +kernel
theorem dX12_isDeedOut_45 : decode cX12_isDeedOut 45 = .ok (.iconst 2, 1) := by decide +kernel
theorem dX12_isDeedOut_46 : decode cX12_isDeedOut 46 = .ok (.putfield 97, 3) := by decide +kernel
theorem dX12_isDeedOut_49 : decode cX12_isDeedOut 49 = .ok (.aload_n 0, 1) := by decide +kernel
theorem dX12_isDeedOut_50 : decode cX12_isDeedOut 50 = .ok (.getfield 97, 3) := by decide +kernel
theorem dX12_isDeedOut_53 : decode cX12_isDeedOut 53 = .ok (.ifCond .le 7, 3) := by decide +kernel
theorem dX12_isDeedOut_56 : decode cX12_isDeedOut 56 = .ok (.iconst 1, 1) := by decide +kernel
theorem dX12_isDeedOut_57 : decode cX12_isDeedOut 57 = .ok (.goto 4, 3) := by decide +kernel
theorem dX12_isDeedOut_60 : decode cX12_isDeedOut 60 = .ok (.iconst 0, 1) := by decide +kernel
theorem dX12_isDeedOut_61 : decode cX12_isDeedOut 61 = .ok (.ireturn, 1) := by decide +kernel
theorem dX12_fine_0 : decode cX12_fine 0 = .ok (.aload_n 0, 1) := by decide +kernel
theorem dX12_fine_1 : decode cX12_fine 1 = .ok (.iload_n 1, 1) := by decide +kernel
theorem dX12_fine_2 : decode cX12_fine 2 = .ok (.iload_n 2, 1) := by decide +kernel
theorem dX12_fine_3 : decode cX12_fine 3 = .ok (.iload_n 3, 1) := by decide +kernel
theorem dX12_fine_4 : decode cX12_fine 4 = .ok (.iload 4, 2) := by decide +kernel
theorem dX12_fine_6 : decode cX12_fine 6 = .ok (.invokevirtual 395, 3) := by decide +kernel
theorem dX12_fine_9 : decode cX12_fine 9 = .ok (.ifCond .eq 5, 3) := by decide +kernel
theorem dX12_fine_12 : decode cX12_fine 12 = .ok (.iconst 0, 1) := by decide +kernel
theorem dX12_fine_13 : decode cX12_fine 13 = .ok (.ireturn, 1) := by decide +kernel
theorem dX12_fine_14 : decode cX12_fine 14 = .ok (.aload_n 0, 1) := by decide +kernel
theorem dX12_fine_15 : decode cX12_fine 15 = .ok (.iconst 0, 1) := by decide +kernel
theorem dX12_fine_16 : decode cX12_fine 16 = .ok (.iload_n 1, 1) := by decide +kernel
theorem dX12_fine_17 : decode cX12_fine 17 = .ok (.iload_n 2, 1) := by decide +kernel
theorem dX12_fine_18 : decode cX12_fine 18 = .ok (.iload_n 3, 1) := by decide +kernel
theorem dX12_fine_19 : decode cX12_fine 19 = .ok (.iload 4, 2) := by decide +kernel
theorem dX12_fine_21 : decode cX12_fine 21 = .ok (.iadd, 1) := by decide +kernel
theorem dX12_fine_22 : decode cX12_fine 22 = .ok (.invokevirtual 398, 3) := by decide +kernel
theorem dX12_fine_25 : decode cX12_fine 25 = .ok (.aload_n 0, 1) := by decide +kernel
theorem dX12_fine_26 : decode cX12_fine 26 = .ok (.iconst 0, 1) := by decide +kernel
theorem dX12_fine_27 : decode cX12_fine 27 = .ok (.iload_n 3, 1) := by decide +kernel
theorem dX12_fine_28 : decode cX12_fine 28 = .ok (.iload 4, 2) := by decide +kernel
theorem dX12_fine_30 : decode cX12_fine 30 = .ok (.invokevirtual 402, 3) := by decide +kernel
theorem dX12_fine_33 : decode cX12_fine 33 = .ok (.ireturn, 1) := by decide +kernel
theorem dX12_lawful_0 : decode cX12_lawful 0 = .ok (.aload_n 0, 1) := by decide +kernel
theorem dX12_lawful_1 : decode cX12_lawful 1 = .ok (.iload_n 1, 1) := by decide +kernel
theorem dX12_lawful_2 : decode cX12_lawful 2 = .ok (.iload_n 2, 1) := by decide +kernel
theorem dX12_lawful_3 : decode cX12_lawful 3 = .ok (.iload_n 3, 1) := by decide +kernel
theorem dX12_lawful_4 : decode cX12_lawful 4 = .ok (.iload 4, 2) := by decide +kernel
theorem dX12_lawful_6 : decode cX12_lawful 6 = .ok (.invokevirtual 395, 3) := by decide +kernel
theorem dX12_lawful_9 : decode cX12_lawful 9 = .ok (.ifCond .eq 5, 3) := by decide +kernel
theorem dX12_lawful_12 : decode cX12_lawful 12 = .ok (.iconst 0, 1) := by decide +kernel
theorem dX12_lawful_13 : decode cX12_lawful 13 = .ok (.ireturn, 1) := by decide +kernel
theorem dX12_lawful_14 : decode cX12_lawful 14 = .ok (.aload_n 0, 1) := by decide +kernel
theorem dX12_lawful_15 : decode cX12_lawful 15 = .ok (.iconst 0, 1) := by decide +kernel
theorem dX12_lawful_16 : decode cX12_lawful 16 = .ok (.iload_n 1, 1) := by decide +kernel
theorem dX12_lawful_17 : decode cX12_lawful 17 = .ok (.iload_n 2, 1) := by decide +kernel
theorem dX12_lawful_18 : decode cX12_lawful 18 = .ok (.iload_n 3, 1) := by decide +kernel
theorem dX12_lawful_19 : decode cX12_lawful 19 = .ok (.iload 4, 2) := by decide +kernel
theorem dX12_lawful_21 : decode cX12_lawful 21 = .ok (.iadd, 1) := by decide +kernel
theorem dX12_lawful_22 : decode cX12_lawful 22 = .ok (.invokevirtual 398, 3) := by decide +kernel
theorem dX12_lawful_25 : decode cX12_lawful 25 = .ok (.aload_n 0, 1) := by decide +kernel
theorem dX12_lawful_26 : decode cX12_lawful 26 = .ok (.iconst 0, 1) := by decide +kernel
theorem dX12_lawful_27 : decode cX12_lawful 27 = .ok (.iload_n 3, 1) := by decide +kernel
theorem dX12_lawful_28 : decode cX12_lawful 28 = .ok (.iload 4, 2) := by decide +kernel
theorem dX12_lawful_30 : decode cX12_lawful 30 = .ok (.invokevirtual 405, 3) := by decide +kernel
theorem dX12_lawful_33 : decode cX12_lawful 33 = .ok (.ireturn, 1) := by decide +kernel
theorem dX12_keeps_0 : decode cX12_keeps 0 = .ok (.aload_n 0, 1) := by decide +kernel
theorem dX12_keeps_1 : decode cX12_keeps 1 = .ok (.getfield 9, 3) := by decide +kernel
theorem dX12_keeps_4 : decode cX12_keeps 4 = .ok (.iconst 5, 1) := by decide +kernel
theorem dX12_keeps_5 : decode cX12_keeps 5 = .ok (.iaload, 1) := by decide +kernel
theorem dX12_keeps_6 : decode cX12_keeps 6 = .ok (.bipush 10, 2) := by decide +kernel
theorem dX12_keeps_8 : decode cX12_keeps 8 = .ok (.if_icmp .ne 44, 3) := by decide +kernel
theorem dX12_keeps_11 : decode cX12_keeps 11 = .ok (.bipush 82, 2) := by decide +kernel
theorem dX12_keeps_13 : decode cX12_keeps 13 = .ok (.istore_n 1, 1) := by decide +kernel
theorem dX12_keeps_14 : decode cX12_keeps 14 = .ok (.iload_n 1, 1) := by decide +kernel
theorem dX12_keeps_15 : decode cX12_keeps 15 = .ok (.sipush 523, 3) := by decide +kernel
theorem dX12_keeps_18 : decode cX12_keeps 18 = .ok (.if_icmp .ge 24, 3) := by decide +kernel
theorem dX12_keeps_21 : decode cX12_keeps 21 = .ok (.aload_n 0, 1) := by decide +kernel
theorem dX12_keeps_22 : decode cX12_keeps 22 = .ok (.getfield 9, 3) := by decide +kernel
theorem dX12_keeps_25 : decode cX12_keeps 25 = .ok (.iload_n 1, 1) := by decide +kernel
theorem dX12_keeps_26 : decode cX12_keeps 26 = .ok (.aload_n 0, 1) := by decide +kernel
theorem dX12_keeps_27 : decode cX12_keeps 27 = .ok (.getfield 9, 3) := by decide +kernel
theorem dX12_keeps_30 : decode cX12_keeps 30 = .ok (.iload_n 1, 1) := by decide +kernel
theorem dX12_keeps_31 : decode cX12_keeps 31 = .ok (.bipush 49, 2) := by decide +kernel
theorem dX12_keeps_33 : decode cX12_keeps 33 = .ok (.iadd, 1) := by decide +kernel
theorem dX12_keeps_34 : decode cX12_keeps 34 = .ok (.iaload, 1) := by decide +kernel
theorem dX12_keeps_35 : decode cX12_keeps 35 = .ok (.iastore, 1) := by decide +kernel
theorem dX12_keeps_36 : decode cX12_keeps 36 = .ok (.iinc 1 1, 3) := by decide +kernel
theorem dX12_keeps_39 : decode cX12_keeps 39 = .ok (.goto (-25), 3) := by decide +kernel
theorem dX12_keeps_42 : decode cX12_keeps 42 = .ok (.aload_n 0, 1) := by decide +kernel
theorem dX12_keeps_43 : decode cX12_keeps 43 = .ok (.getfield 9, 3) := by decide +kernel
theorem dX12_keeps_46 : decode cX12_keeps 46 = .ok (.iconst 5, 1) := by decide +kernel
theorem dX12_keeps_47 : decode cX12_keeps 47 = .ok (.dup2, 1) := by decide +kernel
theorem dX12_keeps_48 : decode cX12_keeps 48 = .ok (.iaload, 1) := by decide +kernel
theorem dX12_keeps_49 : decode cX12_keeps 49 = .ok (.iconst 1, 1) := by decide +kernel
theorem dX12_keeps_50 : decode cX12_keeps 50 = .ok (.isub, 1) := by decide +kernel
theorem dX12_keeps_51 : decode cX12_keeps 51 = .ok (.iastore, 1) := by decide +kernel
theorem dX12_keeps_52 : decode cX12_keeps 52 = .ok (.iconst 0, 1) := by decide +kernel
theorem dX12_keeps_53 : decode cX12_keeps 53 = .ok (.istore_n 1, 1) := by decide +kernel
theorem dX12_keeps_54 : decode cX12_keeps 54 = .ok (.iload_n 1, 1) := by decide +kernel
theorem dX12_keeps_55 : decode cX12_keeps 55 = .ok (.bipush 49, 2) := by decide +kernel
theorem dX12_keeps_57 : decode cX12_keeps 57 = .ok (.if_icmp .ge 37, 3) := by decide +kernel
theorem dX12_keeps_60 : decode cX12_keeps 60 = .ok (.aload_n 0, 1) := by decide +kernel
theorem dX12_keeps_61 : decode cX12_keeps 61 = .ok (.getfield 9, 3) := by decide +kernel
theorem dX12_keeps_64 : decode cX12_keeps 64 = .ok (.bipush 82, 2) := by decide +kernel
theorem dX12_keeps_66 : decode cX12_keeps 66 = .ok (.bipush 49, 2) := by decide +kernel
theorem dX12_keeps_68 : decode cX12_keeps 68 = .ok (.aload_n 0, 1) := by decide +kernel
theorem dX12_keeps_69 : decode cX12_keeps 69 = .ok (.getfield 9, 3) := by decide +kernel
theorem dX12_keeps_72 : decode cX12_keeps 72 = .ok (.iconst 5, 1) := by decide +kernel
theorem dX12_keeps_73 : decode cX12_keeps 73 = .ok (.iaload, 1) := by decide +kernel
theorem dX12_keeps_74 : decode cX12_keeps 74 = .ok (.imul, 1) := by decide +kernel
theorem dX12_keeps_75 : decode cX12_keeps 75 = .ok (.iadd, 1) := by decide +kernel
theorem dX12_keeps_76 : decode cX12_keeps 76 = .ok (.iload_n 1, 1) := by decide +kernel
theorem dX12_keeps_77 : decode cX12_keeps 77 = .ok (.iadd, 1) := by decide +kernel
theorem dX12_keeps_78 : decode cX12_keeps 78 = .ok (.aload_n 0, 1) := by decide +kernel
theorem dX12_keeps_79 : decode cX12_keeps 79 = .ok (.getfield 9, 3) := by decide +kernel
theorem dX12_keeps_82 : decode cX12_keeps 82 = .ok (.bipush 7, 2) := by decide +kernel
theorem dX12_keeps_84 : decode cX12_keeps 84 = .ok (.iload_n 1, 1) := by decide +kernel
theorem dX12_keeps_85 : decode cX12_keeps 85 = .ok (.iadd, 1) := by decide +kernel
theorem dX12_keeps_86 : decode cX12_keeps 86 = .ok (.iaload, 1) := by decide +kernel
theorem dX12_keeps_87 : decode cX12_keeps 87 = .ok (.iastore, 1) := by decide +kernel
theorem dX12_keeps_88 : decode cX12_keeps 88 = .ok (.iinc 1 1, 3) := by decide +kernel
theorem dX12_keeps_91 : decode cX12_keeps 91 = .ok (.goto (-37), 3) := by decide +kernel
theorem dX12_keeps_94 : decode cX12_keeps 94 = .ok (.aload_n 0, 1) := by decide +kernel
theorem dX12_keeps_95 : decode cX12_keeps 95 = .ok (.getfield 9, 3) := by decide +kernel
theorem dX12_keeps_98 : decode cX12_keeps 98 = .ok (.iconst 5, 1) := by decide +kernel
theorem dX12_keeps_99 : decode cX12_keeps 99 = .ok (.dup2, 1) := by decide +kernel
theorem dX12_keeps_100 : decode cX12_keeps 100 = .ok (.iaload, 1) := by decide +kernel
theorem dX12_keeps_101 : decode cX12_keeps 101 = .ok (.iconst 1, 1) := by decide +kernel
theorem dX12_keeps_102 : decode cX12_keeps 102 = .ok (.iadd, 1) := by decide +kernel
theorem dX12_keeps_103 : decode cX12_keeps 103 = .ok (.iastore, 1) := by decide +kernel
theorem dX12_keeps_104 : decode cX12_keeps 104 = .ok (.return_, 1) := by decide +kernel
theorem dX12_putsAside_0 : decode cX12_putsAside 0 = .ok (.iconst 0, 1) := by decide +kernel
theorem dX12_putsAside_1 : decode cX12_putsAside 1 = .ok (.istore_n 1, 1) := by decide +kernel
theorem dX12_putsAside_2 : decode cX12_putsAside 2 = .ok (.iload_n 1, 1) := by decide +kernel
theorem dX12_putsAside_3 : decode cX12_putsAside 3 = .ok (.bipush 49, 2) := by decide +kernel
theorem dX12_putsAside_5 : decode cX12_putsAside 5 = .ok (.if_icmp .ge 24, 3) := by decide +kernel
theorem dX12_putsAside_8 : decode cX12_putsAside 8 = .ok (.aload_n 0, 1) := by decide +kernel
theorem dX12_putsAside_9 : decode cX12_putsAside 9 = .ok (.getfield 48, 3) := by decide +kernel
theorem dX12_putsAside_12 : decode cX12_putsAside 12 = .ok (.iload_n 1, 1) := by decide +kernel
theorem dX12_putsAside_13 : decode cX12_putsAside 13 = .ok (.aload_n 0, 1) := by decide +kernel
theorem dX12_putsAside_14 : decode cX12_putsAside 14 = .ok (.getfield 9, 3) := by decide +kernel
theorem dX12_putsAside_17 : decode cX12_putsAside 17 = .ok (.bipush 7, 2) := by decide +kernel
theorem dX12_putsAside_19 : decode cX12_putsAside 19 = .ok (.iload_n 1, 1) := by decide +kernel
theorem dX12_putsAside_20 : decode cX12_putsAside 20 = .ok (.iadd, 1) := by decide +kernel
theorem dX12_putsAside_21 : decode cX12_putsAside 21 = .ok (.iaload, 1) := by decide +kernel
theorem dX12_putsAside_22 : decode cX12_putsAside 22 = .ok (.iastore, 1) := by decide +kernel
theorem dX12_putsAside_23 : decode cX12_putsAside 23 = .ok (.iinc 1 1, 3) := by decide +kernel
theorem dX12_putsAside_26 : decode cX12_putsAside 26 = .ok (.goto (-24), 3) := by decide +kernel
theorem dX12_putsAside_29 : decode cX12_putsAside 29 = .ok (.return_, 1) := by decide +kernel
theorem dX12_putsBack_0 : decode cX12_putsBack 0 = .ok (.iconst 0, 1) := by decide +kernel
theorem dX12_putsBack_1 : decode cX12_putsBack 1 = .ok (.istore_n 1, 1) := by decide +kernel
theorem dX12_putsBack_2 : decode cX12_putsBack 2 = .ok (.iload_n 1, 1) := by decide +kernel
theorem dX12_putsBack_3 : decode cX12_putsBack 3 = .ok (.bipush 49, 2) := by decide +kernel
theorem dX12_putsBack_5 : decode cX12_putsBack 5 = .ok (.if_icmp .ge 24, 3) := by decide +kernel
theorem dX12_putsBack_8 : decode cX12_putsBack 8 = .ok (.aload_n 0, 1) := by decide +kernel
theorem dX12_putsBack_9 : decode cX12_putsBack 9 = .ok (.getfield 9, 3) := by decide +kernel
theorem dX12_putsBack_12 : decode cX12_putsBack 12 = .ok (.bipush 7, 2) := by decide +kernel
theorem dX12_putsBack_14 : decode cX12_putsBack 14 = .ok (.iload_n 1, 1) := by decide +kernel
theorem dX12_putsBack_15 : decode cX12_putsBack 15 = .ok (.iadd, 1) := by decide +kernel
theorem dX12_putsBack_16 : decode cX12_putsBack 16 = .ok (.aload_n 0, 1) := by decide +kernel
theorem dX12_putsBack_17 : decode cX12_putsBack 17 = .ok (.getfield 48, 3) := by decide +kernel
theorem dX12_putsBack_20 : decode cX12_putsBack 20 = .ok (.iload_n 1, 1) := by decide +kernel
theorem dX12_putsBack_21 : decode cX12_putsBack 21 = .ok (.iaload, 1) := by decide +kernel
theorem dX12_putsBack_22 : decode cX12_putsBack 22 = .ok (.iastore, 1) := by decide +kernel
theorem dX12_putsBack_23 : decode cX12_putsBack 23 = .ok (.iinc 1 1, 3) := by decide +kernel
theorem dX12_putsBack_26 : decode cX12_putsBack 26 = .ok (.goto (-24), 3) := by decide +kernel
theorem dX12_putsBack_29 : decode cX12_putsBack 29 = .ok (.return_, 1) := by decide +kernel
theorem dX12_laysOn_0 : decode cX12_laysOn 0 = .ok (.aload_n 0, 1) := by decide +kernel
theorem dX12_laysOn_1 : decode cX12_laysOn 1 = .ok (.getfield 9, 3) := by decide +kernel
theorem dX12_laysOn_4 : decode cX12_laysOn 4 = .ok (.iload_n 1, 1) := by decide +kernel
theorem dX12_laysOn_5 : decode cX12_laysOn 5 = .ok (.iload_n 2, 1) := by decide +kernel
theorem dX12_laysOn_6 : decode cX12_laysOn 6 = .ok (.iadd, 1) := by decide +kernel
theorem dX12_laysOn_7 : decode cX12_laysOn 7 = .ok (.iload_n 3, 1) := by decide +kernel
theorem dX12_laysOn_8 : decode cX12_laysOn 8 = .ok (.iastore, 1) := by decide +kernel
theorem dX12_laysOn_9 : decode cX12_laysOn 9 = .ok (.aload_n 0, 1) := by decide +kernel
theorem dX12_laysOn_10 : decode cX12_laysOn 10 = .ok (.getfield 9, 3) := by decide +kernel
theorem dX12_laysOn_13 : decode cX12_laysOn 13 = .ok (.iload_n 1, 1) := by decide +kernel
theorem dX12_laysOn_14 : decode cX12_laysOn 14 = .ok (.iconst 5, 1) := by decide +kernel
theorem dX12_laysOn_15 : decode cX12_laysOn 15 = .ok (.iadd, 1) := by decide +kernel
theorem dX12_laysOn_16 : decode cX12_laysOn 16 = .ok (.iload_n 2, 1) := by decide +kernel
theorem dX12_laysOn_17 : decode cX12_laysOn 17 = .ok (.iadd, 1) := by decide +kernel
theorem dX12_laysOn_18 : decode cX12_laysOn 18 = .ok (.aload_n 0, 1) := by decide +kernel
theorem dX12_laysOn_19 : decode cX12_laysOn 19 = .ok (.getfield 9, 3) := by decide +kernel
theorem dX12_laysOn_22 : decode cX12_laysOn 22 = .ok (.bipush 54, 2) := by decide +kernel
theorem dX12_laysOn_24 : decode cX12_laysOn 24 = .ok (.iaload, 1) := by decide +kernel
theorem dX12_laysOn_25 : decode cX12_laysOn 25 = .ok (.iastore, 1) := by decide +kernel
theorem dX12_laysOn_26 : decode cX12_laysOn 26 = .ok (.aload_n 0, 1) := by decide +kernel
theorem dX12_laysOn_27 : decode cX12_laysOn 27 = .ok (.getfield 9, 3) := by decide +kernel
theorem dX12_laysOn_30 : decode cX12_laysOn 30 = .ok (.iload_n 1, 1) := by decide +kernel
theorem dX12_laysOn_31 : decode cX12_laysOn 31 = .ok (.bipush 10, 2) := by decide +kernel
theorem dX12_laysOn_33 : decode cX12_laysOn 33 = .ok (.iadd, 1) := by decide +kernel
theorem dX12_laysOn_34 : decode cX12_laysOn 34 = .ok (.iload_n 2, 1) := by decide +kernel
theorem dX12_laysOn_35 : decode cX12_laysOn 35 = .ok (.iadd, 1) := by decide +kernel
theorem dX12_laysOn_36 : decode cX12_laysOn 36 = .ok (.iload_n 3, 1) := by decide +kernel
theorem dX12_laysOn_37 : decode cX12_laysOn 37 = .ok (.ifCond .ne 13, 3) := by decide +kernel
theorem dX12_laysOn_40 : decode cX12_laysOn 40 = .ok (.aload_n 0, 1) := by decide +kernel
theorem dX12_laysOn_41 : decode cX12_laysOn 41 = .ok (.getfield 9, 3) := by decide +kernel
theorem dX12_laysOn_44 : decode cX12_laysOn 44 = .ok (.bipush 54, 2) := by decide +kernel
theorem dX12_laysOn_46 : decode cX12_laysOn 46 = .ok (.iaload, 1) := by decide +kernel
theorem dX12_laysOn_47 : decode cX12_laysOn 47 = .ok (.goto 13, 3) := by decide +kernel
theorem dX12_laysOn_50 : decode cX12_laysOn 50 = .ok (.aload_n 0, 1) := by decide +kernel
theorem dX12_laysOn_51 : decode cX12_laysOn 51 = .ok (.getfield 9, 3) := by decide +kernel
theorem dX12_laysOn_54 : decode cX12_laysOn 54 = .ok (.bipush 54, 2) := by decide +kernel
theorem dX12_laysOn_56 : decode cX12_laysOn 56 = .ok (.iaload, 1) := by decide +kernel
theorem dX12_laysOn_57 : decode cX12_laysOn 57 = .ok (.iload 4, 2) := by decide +kernel
theorem dX12_laysOn_59 : decode cX12_laysOn 59 = .ok (.iadd, 1) := by decide +kernel
theorem dX12_laysOn_60 : decode cX12_laysOn 60 = .ok (.iastore, 1) := by decide +kernel
theorem dX12_laysOn_61 : decode cX12_laysOn 61 = .ok (.return_, 1) := by decide +kernel
theorem dX12_lays_0 : decode cX12_lays 0 = .ok (.aload_n 0, 1) := by decide +kernel
theorem dX12_lays_1 : decode cX12_lays 1 = .ok (.aload_n 0, 1) := by decide +kernel
theorem dX12_lays_2 : decode cX12_lays 2 = .ok (.iload_n 2, 1) := by decide +kernel
theorem dX12_lays_3 : decode cX12_lays 3 = .ok (.i2l, 1) := by decide +kernel
theorem dX12_lays_4 : decode cX12_lays 4 = .ok (.invokevirtual 371, 3) := by decide +kernel
theorem dX12_lays_7 : decode cX12_lays 7 = .ok (.ifCond .ne 7, 3) := by decide +kernel
theorem dX12_lays_10 : decode cX12_lays 10 = .ok (.iconst 1, 1) := by decide +kernel
theorem dX12_lays_11 : decode cX12_lays 11 = .ok (.goto 33, 3) := by decide +kernel
theorem dX12_lays_14 : decode cX12_lays 14 = .ok (.iload_n 3, 1) := by decide +kernel
theorem dX12_lays_15 : decode cX12_lays 15 = .ok (.i2l, 1) := by decide +kernel
theorem dX12_lays_16 : decode cX12_lays 16 = .ok (.lconst 0, 1) := by decide +kernel
theorem dX12_lays_17 : decode cX12_lays 17 = .ok (.ldc2_w 408, 3) := by decide +kernel
theorem dX12_lays_20 : decode cX12_lays 20 = .ok (.invokestatic 158, 3) := by decide +kernel
theorem dX12_lays_23 : decode cX12_lays 23 = .ok (.ifCond .eq 20, 3) := by decide +kernel
theorem dX12_lays_26 : decode cX12_lays 26 = .ok (.iload 4, 2) := by decide +kernel
theorem dX12_lays_28 : decode cX12_lays 28 = .ok (.i2l, 1) := by decide +kernel
theorem dX12_lays_29 : decode cX12_lays 29 = .ok (.lconst 1, 1) := by decide +kernel
theorem dX12_lays_30 : decode cX12_lays 30 = .ok (.ldc2_w 410, 3) := by decide +kernel
theorem dX12_lays_33 : decode cX12_lays 33 = .ok (.invokestatic 158, 3) := by decide +kernel
theorem dX12_lays_36 : decode cX12_lays 36 = .ok (.ifCond .eq 7, 3) := by decide +kernel
theorem dX12_lays_39 : decode cX12_lays 39 = .ok (.iconst 0, 1) := by decide +kernel
theorem dX12_lays_40 : decode cX12_lays 40 = .ok (.goto 4, 3) := by decide +kernel
theorem dX12_lays_43 : decode cX12_lays 43 = .ok (.iconst 2, 1) := by decide +kernel
theorem dX12_lays_44 : decode cX12_lays 44 = .ok (.putfield 97, 3) := by decide +kernel
theorem dX12_lays_47 : decode cX12_lays 47 = .ok (.aload_n 0, 1) := by decide +kernel
theorem dX12_lays_48 : decode cX12_lays 48 = .ok (.getfield 97, 3) := by decide +kernel
theorem dX12_lays_51 : decode cX12_lays 51 = .ok (.ifCond .le 5, 3) := by decide +kernel
theorem dX12_lays_54 : decode cX12_lays 54 = .ok (.iconst 0, 1) := by decide +kernel
theorem dX12_lays_55 : decode cX12_lays 55 = .ok (.ireturn, 1) := by decide +kernel
theorem dX12_lays_56 : decode cX12_lays 56 = .ok (.aload_n 0, 1) := by decide +kernel
theorem dX12_lays_57 : decode cX12_lays 57 = .ok (.invokevirtual 412, 3) := by decide +kernel
theorem dX12_lays_60 : decode cX12_lays 60 = .ok (.aload_n 0, 1) := by decide +kernel
theorem dX12_lays_61 : decode cX12_lays 61 = .ok (.iload_n 1, 1) := by decide +kernel
theorem dX12_lays_62 : decode cX12_lays 62 = .ok (.iload_n 2, 1) := by decide +kernel
theorem dX12_lays_63 : decode cX12_lays 63 = .ok (.iload_n 3, 1) := by decide +kernel
theorem dX12_lays_64 : decode cX12_lays 64 = .ok (.iload 4, 2) := by decide +kernel
theorem dX12_lays_66 : decode cX12_lays 66 = .ok (.invokevirtual 415, 3) := by decide +kernel
theorem dX12_lays_69 : decode cX12_lays 69 = .ok (.aload_n 0, 1) := by decide +kernel
theorem dX12_lays_70 : decode cX12_lays 70 = .ok (.iload_n 2, 1) := by decide +kernel
theorem dX12_lays_71 : decode cX12_lays 71 = .ok (.aload_n 0, 1) := by decide +kernel
theorem dX12_lays_72 : decode cX12_lays 72 = .ok (.getfield 9, 3) := by decide +kernel
theorem dX12_lays_75 : decode cX12_lays 75 = .ok (.bipush 54, 2) := by decide +kernel
theorem dX12_lays_77 : decode cX12_lays 77 = .ok (.iaload, 1) := by decide +kernel
theorem dX12_lays_78 : decode cX12_lays 78 = .ok (.invokevirtual 344, 3) := by decide +kernel
theorem dX12_lays_81 : decode cX12_lays 81 = .ok (.ireturn, 1) := by decide +kernel
theorem dX12_fire_0 : decode cX12_fire 0 = .ok (.aload_n 0, 1) := by decide +kernel
theorem dX12_fire_1 : decode cX12_fire 1 = .ok (.bipush 7, 2) := by decide +kernel
theorem dX12_fire_3 : decode cX12_fire 3 = .ok (.iload_n 1, 1) := by decide +kernel
theorem dX12_fire_4 : decode cX12_fire 4 = .ok (.iload_n 2, 1) := by decide +kernel
theorem dX12_fire_5 : decode cX12_fire 5 = .ok (.iload_n 3, 1) := by decide +kernel
theorem dX12_fire_6 : decode cX12_fire 6 = .ok (.invokevirtual 418, 3) := by decide +kernel
theorem dX12_fire_9 : decode cX12_fire 9 = .ok (.ireturn, 1) := by decide +kernel
theorem dX12_ice_0 : decode cX12_ice 0 = .ok (.aload_n 0, 1) := by decide +kernel
theorem dX12_ice_1 : decode cX12_ice 1 = .ok (.bipush 22, 2) := by decide +kernel
theorem dX12_ice_3 : decode cX12_ice 3 = .ok (.iload_n 1, 1) := by decide +kernel
theorem dX12_ice_4 : decode cX12_ice 4 = .ok (.iload_n 2, 1) := by decide +kernel
theorem dX12_ice_5 : decode cX12_ice 5 = .ok (.iload_n 3, 1) := by decide +kernel
theorem dX12_ice_6 : decode cX12_ice 6 = .ok (.invokevirtual 418, 3) := by decide +kernel
theorem dX12_ice_9 : decode cX12_ice 9 = .ok (.ireturn, 1) := by decide +kernel
theorem dX12_amend_0 : decode cX12_amend 0 = .ok (.aload_n 0, 1) := by decide +kernel
theorem dX12_amend_1 : decode cX12_amend 1 = .ok (.aload_n 0, 1) := by decide +kernel
theorem dX12_amend_2 : decode cX12_amend 2 = .ok (.iload_n 1, 1) := by decide +kernel
theorem dX12_amend_3 : decode cX12_amend 3 = .ok (.i2l, 1) := by decide +kernel
theorem dX12_amend_4 : decode cX12_amend 4 = .ok (.invokevirtual 377, 3) := by decide +kernel
theorem dX12_amend_7 : decode cX12_amend 7 = .ok (.ifCond .ne 7, 3) := by decide +kernel
theorem dX12_amend_10 : decode cX12_amend 10 = .ok (.iconst 1, 1) := by decide +kernel
theorem dX12_amend_11 : decode cX12_amend 11 = .ok (.goto 33, 3) := by decide +kernel
theorem dX12_amend_14 : decode cX12_amend 14 = .ok (.iload_n 2, 1) := by decide +kernel
theorem dX12_amend_15 : decode cX12_amend 15 = .ok (.i2l, 1) := by decide +kernel
theorem dX12_amend_16 : decode cX12_amend 16 = .ok (.lconst 0, 1) := by decide +kernel
theorem dX12_amend_17 : decode cX12_amend 17 = .ok (.ldc2_w 410, 3) := by decide +kernel
theorem dX12_amend_20 : decode cX12_amend 20 = .ok (.invokestatic 158, 3) := by decide +kernel
theorem dX12_amend_23 : decode cX12_amend 23 = .ok (.ifCond .eq 20, 3) := by decide +kernel
theorem dX12_amend_26 : decode cX12_amend 26 = .ok (.iload_n 3, 1) := by decide +kernel
theorem dX12_amend_27 : decode cX12_amend 27 = .ok (.i2l, 1) := by decide +kernel
theorem dX12_amend_28 : decode cX12_amend 28 = .ok (.iload_n 2, 1) := by decide +kernel
theorem dX12_amend_29 : decode cX12_amend 29 = .ok (.i2l, 1) := by decide +kernel
theorem dX12_amend_30 : decode cX12_amend 30 = .ok (.ldc2_w 410, 3) := by decide +kernel
theorem dX12_amend_33 : decode cX12_amend 33 = .ok (.invokestatic 158, 3) := by decide +kernel
theorem dX12_amend_36 : decode cX12_amend 36 = .ok (.ifCond .eq 7, 3) := by decide +kernel
theorem dX12_amend_39 : decode cX12_amend 39 = .ok (.iconst 0, 1) := by decide +kernel
theorem dX12_amend_40 : decode cX12_amend 40 = .ok (.goto 4, 3) := by decide +kernel
theorem dX12_amend_43 : decode cX12_amend 43 = .ok (.iconst 2, 1) := by decide +kernel
theorem dX12_amend_44 : decode cX12_amend 44 = .ok (.putfield 97, 3) := by decide +kernel
theorem dX12_amend_47 : decode cX12_amend 47 = .ok (.aload_n 0, 1) := by decide +kernel
theorem dX12_amend_48 : decode cX12_amend 48 = .ok (.getfield 97, 3) := by decide +kernel
theorem dX12_amend_51 : decode cX12_amend 51 = .ok (.ifCond .le 5, 3) := by decide +kernel
theorem dX12_amend_54 : decode cX12_amend 54 = .ok (.iconst 0, 1) := by decide +kernel
theorem dX12_amend_55 : decode cX12_amend 55 = .ok (.ireturn, 1) := by decide +kernel
theorem dX12_amend_56 : decode cX12_amend 56 = .ok (.aload_n 0, 1) := by decide +kernel
theorem dX12_amend_57 : decode cX12_amend 57 = .ok (.invokevirtual 412, 3) := by decide +kernel
theorem dX12_amend_60 : decode cX12_amend 60 = .ok (.aload_n 0, 1) := by decide +kernel
theorem dX12_amend_61 : decode cX12_amend 61 = .ok (.getfield 9, 3) := by decide +kernel
theorem dX12_amend_64 : decode cX12_amend 64 = .ok (.bipush 37, 2) := by decide +kernel
theorem dX12_amend_66 : decode cX12_amend 66 = .ok (.iload_n 1, 1) := by decide +kernel
theorem dX12_amend_67 : decode cX12_amend 67 = .ok (.iadd, 1) := by decide +kernel
theorem dX12_amend_68 : decode cX12_amend 68 = .ok (.iload_n 2, 1) := by decide +kernel
theorem dX12_amend_69 : decode cX12_amend 69 = .ok (.iastore, 1) := by decide +kernel
theorem dX12_amend_70 : decode cX12_amend 70 = .ok (.aload_n 0, 1) := by decide +kernel
theorem dX12_amend_71 : decode cX12_amend 71 = .ok (.getfield 9, 3) := by decide +kernel
theorem dX12_amend_74 : decode cX12_amend 74 = .ok (.bipush 45, 2) := by decide +kernel
theorem dX12_amend_76 : decode cX12_amend 76 = .ok (.iload_n 1, 1) := by decide +kernel
theorem dX12_amend_77 : decode cX12_amend 77 = .ok (.iadd, 1) := by decide +kernel
theorem dX12_amend_78 : decode cX12_amend 78 = .ok (.iload_n 3, 1) := by decide +kernel
theorem dX12_amend_79 : decode cX12_amend 79 = .ok (.iastore, 1) := by decide +kernel
theorem dX12_amend_80 : decode cX12_amend 80 = .ok (.iconst 0, 1) := by decide +kernel
theorem dX12_amend_81 : decode cX12_amend 81 = .ok (.istore 4, 2) := by decide +kernel
theorem dX12_amend_83 : decode cX12_amend 83 = .ok (.iconst 0, 1) := by decide +kernel
theorem dX12_amend_84 : decode cX12_amend 84 = .ok (.istore 5, 2) := by decide +kernel
theorem dX12_amend_86 : decode cX12_amend 86 = .ok (.iload 5, 2) := by decide +kernel
theorem dX12_amend_88 : decode cX12_amend 88 = .ok (.aload_n 0, 1) := by decide +kernel
theorem dX12_amend_89 : decode cX12_amend 89 = .ok (.invokevirtual 291, 3) := by decide +kernel
theorem dX12_amend_92 : decode cX12_amend 92 = .ok (.if_icmp .ge 39, 3) := by decide +kernel
theorem dX12_amend_95 : decode cX12_amend 95 = .ok (.iload 4, 2) := by decide +kernel
theorem dX12_amend_97 : decode cX12_amend 97 = .ok (.aload_n 0, 1) := by decide +kernel
theorem dX12_amend_98 : decode cX12_amend 98 = .ok (.iload 5, 2) := by decide +kernel
theorem dX12_amend_100 : decode cX12_amend 100 = .ok (.aload_n 0, 1) := by decide +kernel
theorem dX12_amend_101 : decode cX12_amend 101 = .ok (.getfield 9, 3) := by decide +kernel
theorem dX12_amend_104 : decode cX12_amend 104 = .ok (.bipush 54, 2) := by decide +kernel
theorem dX12_amend_106 : decode cX12_amend 106 = .ok (.iaload, 1) := by decide +kernel
theorem dX12_amend_107 : decode cX12_amend 107 = .ok (.invokevirtual 384, 3) := by decide +kernel
theorem dX12_amend_110 : decode cX12_amend 110 = .ok (.iload_n 1, 1) := by decide +kernel
theorem dX12_amend_111 : decode cX12_amend 111 = .ok (.invokestatic 250, 3) := by decide +kernel
theorem dX12_amend_114 : decode cX12_amend 114 = .ok (.ifCond .eq 7, 3) := by decide +kernel
theorem dX12_amend_117 : decode cX12_amend 117 = .ok (.iconst 1, 1) := by decide +kernel
theorem dX12_amend_118 : decode cX12_amend 118 = .ok (.goto 4, 3) := by decide +kernel
theorem dX12_amend_121 : decode cX12_amend 121 = .ok (.iconst 0, 1) := by decide +kernel
theorem dX12_amend_122 : decode cX12_amend 122 = .ok (.iadd, 1) := by decide +kernel
theorem dX12_amend_123 : decode cX12_amend 123 = .ok (.istore 4, 2) := by decide +kernel
theorem dX12_amend_125 : decode cX12_amend 125 = .ok (.iinc 5 1, 3) := by decide +kernel
theorem dX12_amend_128 : decode cX12_amend 128 = .ok (.goto (-42), 3) := by decide +kernel
theorem dX12_amend_131 : decode cX12_amend 131 = .ok (.iload 4, 2) := by decide +kernel
theorem dX12_amend_133 : decode cX12_amend 133 = .ok (.ireturn, 1) := by decide +kernel
theorem dX12_repeal_0 : decode cX12_repeal 0 = .ok (.aload_n 0, 1) := by decide +kernel
theorem dX12_repeal_1 : decode cX12_repeal 1 = .ok (.aload_n 0, 1) := by decide +kernel
theorem dX12_repeal_2 : decode cX12_repeal 2 = .ok (.iload_n 1, 1) := by decide +kernel
theorem dX12_repeal_3 : decode cX12_repeal 3 = .ok (.i2l, 1) := by decide +kernel
theorem dX12_repeal_4 : decode cX12_repeal 4 = .ok (.invokevirtual 377, 3) := by decide +kernel
theorem dX12_repeal_7 : decode cX12_repeal 7 = .ok (.ifCond .ne 7, 3) := by decide +kernel
theorem dX12_repeal_10 : decode cX12_repeal 10 = .ok (.iconst 1, 1) := by decide +kernel
theorem dX12_repeal_11 : decode cX12_repeal 11 = .ok (.goto 22, 3) := by decide +kernel
theorem dX12_repeal_14 : decode cX12_repeal 14 = .ok (.aload_n 0, 1) := by decide +kernel
theorem dX12_repeal_15 : decode cX12_repeal 15 = .ok (.getfield 9, 3) := by decide +kernel
theorem dX12_repeal_18 : decode cX12_repeal 18 = .ok (.bipush 53, 2) := by decide +kernel
theorem dX12_repeal_20 : decode cX12_repeal 20 = .ok (.iaload, 1) := by decide +kernel
theorem dX12_repeal_21 : decode cX12_repeal 21 = .ok (.iload_n 1, 1) := by decide +kernel
theorem dX12_repeal_22 : decode cX12_repeal 22 = .ok (.invokestatic 250, 3) := by decide +kernel
theorem dX12_repeal_25 : decode cX12_repeal 25 = .ok (.ifCond .eq 7, 3) := by decide +kernel
theorem dX12_repeal_28 : decode cX12_repeal 28 = .ok (.iconst 2, 1) := by decide +kernel
theorem dX12_repeal_29 : decode cX12_repeal 29 = .ok (.goto 4, 3) := by decide +kernel
theorem dX12_repeal_32 : decode cX12_repeal 32 = .ok (.iconst 0, 1) := by decide +kernel
theorem dX12_repeal_33 : decode cX12_repeal 33 = .ok (.putfield 97, 3) := by decide +kernel
theorem dX12_repeal_36 : decode cX12_repeal 36 = .ok (.aload_n 0, 1) := by decide +kernel
theorem dX12_repeal_37 : decode cX12_repeal 37 = .ok (.getfield 97, 3) := by decide +kernel
theorem dX12_repeal_40 : decode cX12_repeal 40 = .ok (.ifCond .le 5, 3) := by decide +kernel
theorem dX12_repeal_43 : decode cX12_repeal 43 = .ok (.iconst 0, 1) := by decide +kernel
theorem dX12_repeal_44 : decode cX12_repeal 44 = .ok (.ireturn, 1) := by decide +kernel
theorem dX12_repeal_45 : decode cX12_repeal 45 = .ok (.aload_n 0, 1) := by decide +kernel
theorem dX12_repeal_46 : decode cX12_repeal 46 = .ok (.invokevirtual 412, 3) := by decide +kernel
theorem dX12_repeal_49 : decode cX12_repeal 49 = .ok (.aload_n 0, 1) := by decide +kernel
theorem dX12_repeal_50 : decode cX12_repeal 50 = .ok (.getfield 9, 3) := by decide +kernel
theorem dX12_repeal_53 : decode cX12_repeal 53 = .ok (.bipush 53, 2) := by decide +kernel
theorem dX12_repeal_55 : decode cX12_repeal 55 = .ok (.dup2, 1) := by decide +kernel
theorem dX12_repeal_56 : decode cX12_repeal 56 = .ok (.iaload, 1) := by decide +kernel
theorem dX12_repeal_57 : decode cX12_repeal 57 = .ok (.iconst 1, 1) := by decide +kernel
theorem dX12_repeal_58 : decode cX12_repeal 58 = .ok (.iload_n 1, 1) := by decide +kernel
theorem dX12_repeal_59 : decode cX12_repeal 59 = .ok (.ishl, 1) := by decide +kernel
theorem dX12_repeal_60 : decode cX12_repeal 60 = .ok (.ior, 1) := by decide +kernel
theorem dX12_repeal_61 : decode cX12_repeal 61 = .ok (.iastore, 1) := by decide +kernel
theorem dX12_repeal_62 : decode cX12_repeal 62 = .ok (.aload_n 0, 1) := by decide +kernel
theorem dX12_repeal_63 : decode cX12_repeal 63 = .ok (.invokevirtual 347, 3) := by decide +kernel
theorem dX12_repeal_66 : decode cX12_repeal 66 = .ok (.invokestatic 421, 3) := by decide +kernel
theorem dX12_repeal_69 : decode cX12_repeal 69 = .ok (.ireturn, 1) := by decide +kernel
theorem dX12_hours_0 : decode cX12_hours 0 = .ok (.aload_n 0, 1) := by decide +kernel
theorem dX12_hours_1 : decode cX12_hours 1 = .ok (.iconst 0, 1) := by decide +kernel
theorem dX12_hours_2 : decode cX12_hours 2 = .ok (.putfield 97, 3) := by decide +kernel
theorem dX12_hours_5 : decode cX12_hours 5 = .ok (.iload_n 1, 1) := by decide +kernel
theorem dX12_hours_6 : decode cX12_hours 6 = .ok (.i2l, 1) := by decide +kernel
theorem dX12_hours_7 : decode cX12_hours 7 = .ok (.lconst 1, 1) := by decide +kernel
theorem dX12_hours_8 : decode cX12_hours 8 = .ok (.ldc2_w 410, 3) := by decide +kernel
theorem dX12_hours_11 : decode cX12_hours 11 = .ok (.invokestatic 158, 3) := by decide +kernel
theorem dX12_hours_14 : decode cX12_hours 14 = .ok (.ifCond .ne 9, 3) := by decide +kernel
theorem dX12_hours_17 : decode cX12_hours 17 = .ok (.aload_n 0, 1) := by decide +kernel
theorem dX12_hours_18 : decode cX12_hours 18 = .ok (.iconst 1, 1) := by decide +kernel
theorem dX12_hours_19 : decode cX12_hours 19 = .ok (.invokevirtual 282, 3) := by decide +kernel
theorem dX12_hours_22 : decode cX12_hours 22 = .ok (.ireturn, 1) := by decide +kernel
theorem dX12_hours_23 : decode cX12_hours 23 = .ok (.aload_n 0, 1) := by decide +kernel
theorem dX12_hours_24 : decode cX12_hours 24 = .ok (.invokevirtual 412, 3) := by decide +kernel
theorem dX12_hours_27 : decode cX12_hours 27 = .ok (.aload_n 0, 1) := by decide +kernel
theorem dX12_hours_28 : decode cX12_hours 28 = .ok (.getfield 9, 3) := by decide +kernel
theorem dX12_hours_31 : decode cX12_hours 31 = .ok (.bipush 54, 2) := by decide +kernel
theorem dX12_hours_33 : decode cX12_hours 33 = .ok (.dup2, 1) := by decide +kernel
theorem dX12_hours_34 : decode cX12_hours 34 = .ok (.iaload, 1) := by decide +kernel
theorem dX12_hours_35 : decode cX12_hours 35 = .ok (.iload_n 1, 1) := by decide +kernel
theorem dX12_hours_36 : decode cX12_hours 36 = .ok (.iadd, 1) := by decide +kernel
theorem dX12_hours_37 : decode cX12_hours 37 = .ok (.iastore, 1) := by decide +kernel
theorem dX12_hours_38 : decode cX12_hours 38 = .ok (.aload_n 0, 1) := by decide +kernel
theorem dX12_hours_39 : decode cX12_hours 39 = .ok (.getfield 9, 3) := by decide +kernel
theorem dX12_hours_42 : decode cX12_hours 42 = .ok (.bipush 54, 2) := by decide +kernel
theorem dX12_hours_44 : decode cX12_hours 44 = .ok (.iaload, 1) := by decide +kernel
theorem dX12_hours_45 : decode cX12_hours 45 = .ok (.ireturn, 1) := by decide +kernel
theorem dX12_doesDeed_0 : decode cX12_doesDeed 0 = .ok (.aload_n 0, 1) := by decide +kernel
theorem dX12_doesDeed_1 : decode cX12_doesDeed 1 = .ok (.iconst 0, 1) := by decide +kernel
theorem dX12_doesDeed_2 : decode cX12_doesDeed 2 = .ok (.iload_n 1, 1) := by decide +kernel
theorem dX12_doesDeed_3 : decode cX12_doesDeed 3 = .ok (.iload_n 2, 1) := by decide +kernel
theorem dX12_doesDeed_4 : decode cX12_doesDeed 4 = .ok (.iload_n 3, 1) := by decide +kernel
theorem dX12_doesDeed_5 : decode cX12_doesDeed 5 = .ok (.invokevirtual 398, 3) := by decide +kernel
theorem dX12_doesDeed_8 : decode cX12_doesDeed 8 = .ok (.aload_n 0, 1) := by decide +kernel
theorem dX12_doesDeed_9 : decode cX12_doesDeed 9 = .ok (.iconst 0, 1) := by decide +kernel
theorem dX12_doesDeed_10 : decode cX12_doesDeed 10 = .ok (.iconst 0, 1) := by decide +kernel
theorem dX12_doesDeed_11 : decode cX12_doesDeed 11 = .ok (.iload_n 3, 1) := by decide +kernel
theorem dX12_doesDeed_12 : decode cX12_doesDeed 12 = .ok (.invokevirtual 402, 3) := by decide +kernel
theorem dX12_doesDeed_15 : decode cX12_doesDeed 15 = .ok (.istore 4, 2) := by decide +kernel
theorem dX12_doesDeed_17 : decode cX12_doesDeed 17 = .ok (.aload_n 0, 1) := by decide +kernel
theorem dX12_doesDeed_18 : decode cX12_doesDeed 18 = .ok (.getfield 9, 3) := by decide +kernel
theorem dX12_doesDeed_21 : decode cX12_doesDeed 21 = .ok (.bipush 54, 2) := by decide +kernel
theorem dX12_doesDeed_23 : decode cX12_doesDeed 23 = .ok (.dup2, 1) := by decide +kernel
theorem dX12_doesDeed_24 : decode cX12_doesDeed 24 = .ok (.iaload, 1) := by decide +kernel
theorem dX12_doesDeed_25 : decode cX12_doesDeed 25 = .ok (.iload_n 3, 1) := by decide +kernel
theorem dX12_doesDeed_26 : decode cX12_doesDeed 26 = .ok (.iadd, 1) := by decide +kernel
theorem dX12_doesDeed_27 : decode cX12_doesDeed 27 = .ok (.iastore, 1) := by decide +kernel
theorem dX12_doesDeed_28 : decode cX12_doesDeed 28 = .ok (.aload_n 0, 1) := by decide +kernel
theorem dX12_doesDeed_29 : decode cX12_doesDeed 29 = .ok (.getfield 9, 3) := by decide +kernel
theorem dX12_doesDeed_32 : decode cX12_doesDeed 32 = .ok (.bipush 55, 2) := by decide +kernel
theorem dX12_doesDeed_34 : decode cX12_doesDeed 34 = .ok (.dup2, 1) := by decide +kernel
theorem dX12_doesDeed_35 : decode cX12_doesDeed 35 = .ok (.iaload, 1) := by decide +kernel
theorem dX12_doesDeed_36 : decode cX12_doesDeed 36 = .ok (.iload 4, 2) := by decide +kernel
theorem dX12_doesDeed_38 : decode cX12_doesDeed 38 = .ok (.iadd, 1) := by decide +kernel
theorem dX12_doesDeed_39 : decode cX12_doesDeed 39 = .ok (.iastore, 1) := by decide +kernel
theorem dX12_doesDeed_40 : decode cX12_doesDeed 40 = .ok (.iload 4, 2) := by decide +kernel
theorem dX12_doesDeed_42 : decode cX12_doesDeed 42 = .ok (.ireturn, 1) := by decide +kernel
theorem dX12_done_0 : decode cX12_done 0 = .ok (.aload_n 0, 1) := by decide +kernel
theorem dX12_done_1 : decode cX12_done 1 = .ok (.iload_n 1, 1) := by decide +kernel
theorem dX12_done_2 : decode cX12_done 2 = .ok (.iload_n 2, 1) := by decide +kernel
theorem dX12_done_3 : decode cX12_done 3 = .ok (.iconst 0, 1) := by decide +kernel
theorem dX12_done_4 : decode cX12_done 4 = .ok (.iload_n 3, 1) := by decide +kernel
theorem dX12_done_5 : decode cX12_done 5 = .ok (.invokevirtual 395, 3) := by decide +kernel
theorem dX12_done_8 : decode cX12_done 8 = .ok (.ifCond .eq 5, 3) := by decide +kernel
theorem dX12_done_11 : decode cX12_done 11 = .ok (.iconst 0, 1) := by decide +kernel
theorem dX12_done_12 : decode cX12_done 12 = .ok (.ireturn, 1) := by decide +kernel
theorem dX12_done_13 : decode cX12_done 13 = .ok (.aload_n 0, 1) := by decide +kernel
theorem dX12_done_14 : decode cX12_done 14 = .ok (.invokevirtual 412, 3) := by decide +kernel
theorem dX12_done_17 : decode cX12_done 17 = .ok (.aload_n 0, 1) := by decide +kernel
theorem dX12_done_18 : decode cX12_done 18 = .ok (.iload_n 1, 1) := by decide +kernel
theorem dX12_done_19 : decode cX12_done 19 = .ok (.iload_n 2, 1) := by decide +kernel
theorem dX12_done_20 : decode cX12_done 20 = .ok (.iload_n 3, 1) := by decide +kernel
theorem dX12_done_21 : decode cX12_done 21 = .ok (.invokevirtual 424, 3) := by decide +kernel
theorem dX12_done_24 : decode cX12_done 24 = .ok (.ireturn, 1) := by decide +kernel
theorem dX12_undo_0 : decode cX12_undo 0 = .ok (.aload_n 0, 1) := by decide +kernel
theorem dX12_undo_1 : decode cX12_undo 1 = .ok (.iconst 0, 1) := by decide +kernel
theorem dX12_undo_2 : decode cX12_undo 2 = .ok (.putfield 97, 3) := by decide +kernel
theorem dX12_undo_5 : decode cX12_undo 5 = .ok (.iload_n 1, 1) := by decide +kernel
theorem dX12_undo_6 : decode cX12_undo 6 = .ok (.i2l, 1) := by decide +kernel
theorem dX12_undo_7 : decode cX12_undo 7 = .ok (.lconst 1, 1) := by decide +kernel
theorem dX12_undo_8 : decode cX12_undo 8 = .ok (.ldc2_w 427, 3) := by decide +kernel
theorem dX12_undo_11 : decode cX12_undo 11 = .ok (.invokestatic 158, 3) := by decide +kernel
theorem dX12_undo_14 : decode cX12_undo 14 = .ok (.ifCond .eq 13, 3) := by decide +kernel
theorem dX12_undo_17 : decode cX12_undo 17 = .ok (.iload_n 1, 1) := by decide +kernel
theorem dX12_undo_18 : decode cX12_undo 18 = .ok (.aload_n 0, 1) := by decide +kernel
theorem dX12_undo_19 : decode cX12_undo 19 = .ok (.getfield 9, 3) := by decide +kernel
theorem dX12_undo_22 : decode cX12_undo 22 = .ok (.iconst 5, 1) := by decide +kernel
theorem dX12_undo_23 : decode cX12_undo 23 = .ok (.iaload, 1) := by decide +kernel
theorem dX12_undo_24 : decode cX12_undo 24 = .ok (.if_icmp .le 9, 3) := by decide +kernel
theorem dX12_undo_27 : decode cX12_undo 27 = .ok (.aload_n 0, 1) := by decide +kernel
theorem dX12_undo_28 : decode cX12_undo 28 = .ok (.iconst 1, 1) := by decide +kernel
theorem dX12_undo_29 : decode cX12_undo 29 = .ok (.invokevirtual 282, 3) := by decide +kernel
theorem dX12_undo_32 : decode cX12_undo 32 = .ok (.ireturn, 1) := by decide +kernel
theorem dX12_undo_33 : decode cX12_undo 33 = .ok (.aload_n 0, 1) := by decide +kernel
theorem dX12_undo_34 : decode cX12_undo 34 = .ok (.getfield 9, 3) := by decide +kernel
theorem dX12_undo_37 : decode cX12_undo 37 = .ok (.iconst 5, 1) := by decide +kernel
theorem dX12_undo_38 : decode cX12_undo 38 = .ok (.dup2, 1) := by decide +kernel
theorem dX12_undo_39 : decode cX12_undo 39 = .ok (.iaload, 1) := by decide +kernel
theorem dX12_undo_40 : decode cX12_undo 40 = .ok (.iload_n 1, 1) := by decide +kernel
theorem dX12_undo_41 : decode cX12_undo 41 = .ok (.isub, 1) := by decide +kernel
theorem dX12_undo_42 : decode cX12_undo 42 = .ok (.iastore, 1) := by decide +kernel
theorem dX12_undo_43 : decode cX12_undo 43 = .ok (.iconst 0, 1) := by decide +kernel
theorem dX12_undo_44 : decode cX12_undo 44 = .ok (.istore_n 2, 1) := by decide +kernel
theorem dX12_undo_45 : decode cX12_undo 45 = .ok (.iload_n 2, 1) := by decide +kernel
theorem dX12_undo_46 : decode cX12_undo 46 = .ok (.bipush 49, 2) := by decide +kernel
theorem dX12_undo_48 : decode cX12_undo 48 = .ok (.if_icmp .ge 37, 3) := by decide +kernel
theorem dX12_undo_51 : decode cX12_undo 51 = .ok (.aload_n 0, 1) := by decide +kernel
theorem dX12_undo_52 : decode cX12_undo 52 = .ok (.getfield 9, 3) := by decide +kernel
theorem dX12_undo_55 : decode cX12_undo 55 = .ok (.bipush 7, 2) := by decide +kernel
theorem dX12_undo_57 : decode cX12_undo 57 = .ok (.iload_n 2, 1) := by decide +kernel
theorem dX12_undo_58 : decode cX12_undo 58 = .ok (.iadd, 1) := by decide +kernel
theorem dX12_undo_59 : decode cX12_undo 59 = .ok (.aload_n 0, 1) := by decide +kernel
theorem dX12_undo_60 : decode cX12_undo 60 = .ok (.getfield 9, 3) := by decide +kernel
theorem dX12_undo_63 : decode cX12_undo 63 = .ok (.bipush 82, 2) := by decide +kernel
theorem dX12_undo_65 : decode cX12_undo 65 = .ok (.bipush 49, 2) := by decide +kernel
theorem dX12_undo_67 : decode cX12_undo 67 = .ok (.aload_n 0, 1) := by decide +kernel
theorem dX12_undo_68 : decode cX12_undo 68 = .ok (.getfield 9, 3) := by decide +kernel
theorem dX12_undo_71 : decode cX12_undo 71 = .ok (.iconst 5, 1) := by decide +kernel
theorem dX12_undo_72 : decode cX12_undo 72 = .ok (.iaload, 1) := by decide +kernel
theorem dX12_undo_73 : decode cX12_undo 73 = .ok (.imul, 1) := by decide +kernel
theorem dX12_undo_74 : decode cX12_undo 74 = .ok (.iadd, 1) := by decide +kernel
theorem dX12_undo_75 : decode cX12_undo 75 = .ok (.iload_n 2, 1) := by decide +kernel
theorem dX12_undo_76 : decode cX12_undo 76 = .ok (.iadd, 1) := by decide +kernel
theorem dX12_undo_77 : decode cX12_undo 77 = .ok (.iaload, 1) := by decide +kernel
theorem dX12_undo_78 : decode cX12_undo 78 = .ok (.iastore, 1) := by decide +kernel
theorem dX12_undo_79 : decode cX12_undo 79 = .ok (.iinc 2 1, 3) := by decide +kernel
theorem dX12_undo_82 : decode cX12_undo 82 = .ok (.goto (-37), 3) := by decide +kernel
theorem dX12_undo_85 : decode cX12_undo 85 = .ok (.aload_n 0, 1) := by decide +kernel
theorem dX12_undo_86 : decode cX12_undo 86 = .ok (.getfield 9, 3) := by decide +kernel
theorem dX12_undo_89 : decode cX12_undo 89 = .ok (.iconst 5, 1) := by decide +kernel
theorem dX12_undo_90 : decode cX12_undo 90 = .ok (.iaload, 1) := by decide +kernel
theorem dX12_undo_91 : decode cX12_undo 91 = .ok (.ireturn, 1) := by decide +kernel
theorem dX12_trayFault_0 : decode cX12_trayFault 0 = .ok (.iload_n 1, 1) := by decide +kernel
theorem dX12_trayFault_1 : decode cX12_trayFault 1 = .ok (.invokestatic 429, 3) := by decide +kernel
theorem dX12_trayFault_4 : decode cX12_trayFault 4 = .ok (.ifCond .ne 7, 3) := by decide +kernel
theorem dX12_trayFault_7 : decode cX12_trayFault 7 = .ok (.iconst 1, 1) := by decide +kernel
theorem dX12_trayFault_8 : decode cX12_trayFault 8 = .ok (.goto 18, 3) := by decide +kernel
theorem dX12_trayFault_11 : decode cX12_trayFault 11 = .ok (.aload_n 0, 1) := by decide +kernel
theorem dX12_trayFault_12 : decode cX12_trayFault 12 = .ok (.getfield 88, 3) := by decide +kernel
theorem dX12_trayFault_15 : decode cX12_trayFault 15 = .ok (.iload_n 1, 1) := by decide +kernel
theorem dX12_trayFault_16 : decode cX12_trayFault 16 = .ok (.iaload, 1) := by decide +kernel
theorem dX12_trayFault_17 : decode cX12_trayFault 17 = .ok (.iconst (-1), 1) := by decide +kernel
theorem dX12_trayFault_18 : decode cX12_trayFault 18 = .ok (.if_icmp .ne 7, 3) := by decide +kernel
theorem dX12_trayFault_21 : decode cX12_trayFault 21 = .ok (.iconst 2, 1) := by decide +kernel
theorem dX12_trayFault_22 : decode cX12_trayFault 22 = .ok (.goto 4, 3) := by decide +kernel
theorem dX12_trayFault_25 : decode cX12_trayFault 25 = .ok (.iconst 0, 1) := by decide +kernel
theorem dX12_trayFault_26 : decode cX12_trayFault 26 = .ok (.ireturn, 1) := by decide +kernel
theorem dX12_whyTold_0 : decode cX12_whyTold 0 = .ok (.lload_n 1, 1) := by decide +kernel
theorem dX12_whyTold_1 : decode cX12_whyTold 1 = .ok (.ldc2_w 432, 3) := by decide +kernel
theorem dX12_whyTold_4 : decode cX12_whyTold 4 = .ok (.lcmp, 1) := by decide +kernel
theorem dX12_whyTold_5 : decode cX12_whyTold 5 = .ok (.ifCond .ne 5, 3) := by decide +kernel
theorem dX12_whyTold_8 : decode cX12_whyTold 8 = .ok (.iconst 0, 1) := by decide +kernel
theorem dX12_whyTold_9 : decode cX12_whyTold 9 = .ok (.ireturn, 1) := by decide +kernel
theorem dX12_whyTold_10 : decode cX12_whyTold 10 = .ok (.lload_n 1, 1) := by decide +kernel
theorem dX12_whyTold_11 : decode cX12_whyTold 11 = .ok (.lconst 0, 1) := by decide +kernel
theorem dX12_whyTold_12 : decode cX12_whyTold 12 = .ok (.ldc2_w 434, 3) := by decide +kernel
theorem dX12_whyTold_15 : decode cX12_whyTold 15 = .ok (.invokestatic 158, 3) := by decide +kernel
theorem dX12_whyTold_18 : decode cX12_whyTold 18 = .ok (.ifCond .eq 40, 3) := by decide +kernel
theorem dX12_whyTold_21 : decode cX12_whyTold 21 = .ok (.aload_n 0, 1) := by decide +kernel
theorem dX12_whyTold_22 : decode cX12_whyTold 22 = .ok (.lload_n 1, 1) := by decide +kernel
theorem dX12_whyTold_23 : decode cX12_whyTold 23 = .ok (.ldc2_w 436, 3) := by decide +kernel
theorem dX12_whyTold_26 : decode cX12_whyTold 26 = .ok (.ldiv, 1) := by decide +kernel
theorem dX12_whyTold_27 : decode cX12_whyTold 27 = .ok (.ldc2_w 427, 3) := by decide +kernel
theorem dX12_whyTold_30 : decode cX12_whyTold 30 = .ok (.lrem, 1) := by decide +kernel
theorem dX12_whyTold_31 : decode cX12_whyTold 31 = .ok (.invokevirtual 371, 3) := by decide +kernel
theorem dX12_whyTold_34 : decode cX12_whyTold 34 = .ok (.ifCond .eq 22, 3) := by decide +kernel
theorem dX12_whyTold_37 : decode cX12_whyTold 37 = .ok (.lload_n 1, 1) := by decide +kernel
theorem dX12_whyTold_38 : decode cX12_whyTold 38 = .ok (.ldc2_w 436, 3) := by decide +kernel
theorem dX12_whyTold_41 : decode cX12_whyTold 41 = .ok (.lrem, 1) := by decide +kernel
theorem dX12_whyTold_42 : decode cX12_whyTold 42 = .ok (.lconst 1, 1) := by decide +kernel
theorem dX12_whyTold_43 : decode cX12_whyTold 43 = .ok (.ldc2_w 387, 3) := by decide +kernel
theorem dX12_whyTold_46 : decode cX12_whyTold 46 = .ok (.invokestatic 158, 3) := by decide +kernel
theorem dX12_whyTold_49 : decode cX12_whyTold 49 = .ok (.ifCond .eq 7, 3) := by decide +kernel
theorem dX12_whyTold_52 : decode cX12_whyTold 52 = .ok (.iconst 0, 1) := by decide +kernel
theorem dX12_whyTold_53 : decode cX12_whyTold 53 = .ok (.goto 4, 3) := by decide +kernel
theorem dX12_whyTold_56 : decode cX12_whyTold 56 = .ok (.iconst 1, 1) := by decide +kernel
theorem dX12_whyTold_57 : decode cX12_whyTold 57 = .ok (.ireturn, 1) := by decide +kernel
theorem dX12_whyTold_58 : decode cX12_whyTold 58 = .ok (.lload_n 1, 1) := by decide +kernel
theorem dX12_whyTold_59 : decode cX12_whyTold 59 = .ok (.ldc2_w 438, 3) := by decide +kernel
theorem dX12_whyTold_62 : decode cX12_whyTold 62 = .ok (.ldc2_w 440, 3) := by decide +kernel
theorem dX12_whyTold_65 : decode cX12_whyTold 65 = .ok (.invokestatic 158, 3) := by decide +kernel
theorem dX12_whyTold_68 : decode cX12_whyTold 68 = .ok (.ifCond .ne 16, 3) := by decide +kernel
theorem dX12_whyTold_71 : decode cX12_whyTold 71 = .ok (.lload_n 1, 1) := by decide +kernel
theorem dX12_whyTold_72 : decode cX12_whyTold 72 = .ok (.ldc2_w 442, 3) := by decide +kernel
theorem dX12_whyTold_75 : decode cX12_whyTold 75 = .ok (.ldc2_w 444, 3) := by decide +kernel
theorem dX12_whyTold_78 : decode cX12_whyTold 78 = .ok (.invokestatic 158, 3) := by decide +kernel
theorem dX12_whyTold_81 : decode cX12_whyTold 81 = .ok (.ifCond .eq 37, 3) := by decide +kernel
theorem dX12_whyTold_84 : decode cX12_whyTold 84 = .ok (.aload_n 0, 1) := by decide +kernel
theorem dX12_whyTold_85 : decode cX12_whyTold 85 = .ok (.lload_n 1, 1) := by decide +kernel
theorem dX12_whyTold_86 : decode cX12_whyTold 86 = .ok (.ldc2_w 446, 3) := by decide +kernel
theorem dX12_whyTold_89 : decode cX12_whyTold 89 = .ok (.lrem, 1) := by decide +kernel
theorem dX12_whyTold_90 : decode cX12_whyTold 90 = .ok (.ldc2_w 436, 3) := by decide +kernel
theorem dX12_whyTold_93 : decode cX12_whyTold 93 = .ok (.ldiv, 1) := by decide +kernel
theorem dX12_whyTold_94 : decode cX12_whyTold 94 = .ok (.invokevirtual 371, 3) := by decide +kernel
theorem dX12_whyTold_97 : decode cX12_whyTold 97 = .ok (.ifCond .eq 19, 3) := by decide +kernel
theorem dX12_whyTold_100 : decode cX12_whyTold 100 = .ok (.lload_n 1, 1) := by decide +kernel
theorem dX12_whyTold_101 : decode cX12_whyTold 101 = .ok (.ldc2_w 436, 3) := by decide +kernel
theorem dX12_whyTold_104 : decode cX12_whyTold 104 = .ok (.lrem, 1) := by decide +kernel
theorem dX12_whyTold_105 : decode cX12_whyTold 105 = .ok (.ldc2_w 408, 3) := by decide +kernel
theorem dX12_whyTold_108 : decode cX12_whyTold 108 = .ok (.lcmp, 1) := by decide +kernel
theorem dX12_whyTold_109 : decode cX12_whyTold 109 = .ok (.ifCond .gt 7, 3) := by decide +kernel
theorem dX12_whyTold_112 : decode cX12_whyTold 112 = .ok (.iconst 0, 1) := by decide +kernel
theorem dX12_whyTold_113 : decode cX12_whyTold 113 = .ok (.goto 4, 3) := by decide +kernel
theorem dX12_whyTold_116 : decode cX12_whyTold 116 = .ok (.iconst 1, 1) := by decide +kernel
theorem dX12_whyTold_117 : decode cX12_whyTold 117 = .ok (.ireturn, 1) := by decide +kernel
theorem dX12_whyTold_118 : decode cX12_whyTold 118 = .ok (.lload_n 1, 1) := by decide +kernel
theorem dX12_whyTold_119 : decode cX12_whyTold 119 = .ok (.ldc2_w 448, 3) := by decide +kernel
theorem dX12_whyTold_122 : decode cX12_whyTold 122 = .ok (.ldc2_w 450, 3) := by decide +kernel
theorem dX12_whyTold_125 : decode cX12_whyTold 125 = .ok (.invokestatic 158, 3) := by decide +kernel
theorem dX12_whyTold_128 : decode cX12_whyTold 128 = .ok (.ifCond .eq 15, 3) := by decide +kernel
theorem dX12_whyTold_131 : decode cX12_whyTold 131 = .ok (.aload_n 0, 1) := by decide +kernel
theorem dX12_whyTold_132 : decode cX12_whyTold 132 = .ok (.lload_n 1, 1) := by decide +kernel
theorem dX12_whyTold_133 : decode cX12_whyTold 133 = .ok (.ldc2_w 448, 3) := by decide +kernel
theorem dX12_whyTold_136 : decode cX12_whyTold 136 = .ok (.lsub, 1) := by decide +kernel
theorem dX12_whyTold_137 : decode cX12_whyTold 137 = .ok (.invokevirtual 377, 3) := by decide +kernel
theorem dX12_whyTold_140 : decode cX12_whyTold 140 = .ok (.ifCond .ne 5, 3) := by decide +kernel
theorem dX12_whyTold_143 : decode cX12_whyTold 143 = .ok (.iconst 1, 1) := by decide +kernel
theorem dX12_whyTold_144 : decode cX12_whyTold 144 = .ok (.ireturn, 1) := by decide +kernel
theorem dX12_whyTold_145 : decode cX12_whyTold 145 = .ok (.aload_n 0, 1) := by decide +kernel
theorem dX12_whyTold_146 : decode cX12_whyTold 146 = .ok (.getfield 9, 3) := by decide +kernel
theorem dX12_whyTold_149 : decode cX12_whyTold 149 = .ok (.bipush 53, 2) := by decide +kernel
theorem dX12_whyTold_151 : decode cX12_whyTold 151 = .ok (.iaload, 1) := by decide +kernel
theorem dX12_whyTold_152 : decode cX12_whyTold 152 = .ok (.lload_n 1, 1) := by decide +kernel
theorem dX12_whyTold_153 : decode cX12_whyTold 153 = .ok (.l2i, 1) := by decide +kernel
theorem dX12_whyTold_154 : decode cX12_whyTold 154 = .ok (.ldc_w 452, 3) := by decide +kernel
theorem dX12_whyTold_157 : decode cX12_whyTold 157 = .ok (.isub, 1) := by decide +kernel
theorem dX12_whyTold_158 : decode cX12_whyTold 158 = .ok (.invokestatic 250, 3) := by decide +kernel
theorem dX12_whyTold_161 : decode cX12_whyTold 161 = .ok (.ifCond .eq 7, 3) := by decide +kernel
theorem dX12_whyTold_164 : decode cX12_whyTold 164 = .ok (.iconst 2, 1) := by decide +kernel
theorem dX12_whyTold_165 : decode cX12_whyTold 165 = .ok (.goto 4, 3) := by decide +kernel
theorem dX12_whyTold_168 : decode cX12_whyTold 168 = .ok (.iconst 0, 1) := by decide +kernel
theorem dX12_whyTold_169 : decode cX12_whyTold 169 = .ok (.ireturn, 1) := by decide +kernel
theorem dX12_does_0 : decode cX12_does 0 = .ok (.iload_n 1, 1) := by decide +kernel
theorem dX12_does_1 : decode cX12_does 1 = .ok (.iconst (-1), 1) := by decide +kernel
theorem dX12_does_2 : decode cX12_does 2 = .ok (.if_icmp .ne 17, 3) := by decide +kernel
theorem dX12_does_5 : decode cX12_does 5 = .ok (.aload_n 0, 1) := by decide +kernel
theorem dX12_does_6 : decode cX12_does 6 = .ok (.getfield 9, 3) := by decide +kernel
theorem dX12_does_9 : decode cX12_does 9 = .ok (.bipush 54, 2) := by decide +kernel
theorem dX12_does_11 : decode cX12_does 11 = .ok (.dup2, 1) := by decide +kernel
theorem dX12_does_12 : decode cX12_does 12 = .ok (.iaload, 1) := by decide +kernel
theorem dX12_does_13 : decode cX12_does 13 = .ok (.iconst 1, 1) := by decide +kernel
theorem dX12_does_14 : decode cX12_does 14 = .ok (.iadd, 1) := by decide +kernel
theorem dX12_does_15 : decode cX12_does 15 = .ok (.iastore, 1) := by decide +kernel
theorem dX12_does_16 : decode cX12_does 16 = .ok (.goto 93, 3) := by decide +kernel
theorem dX12_does_19 : decode cX12_does 19 = .ok (.iload_n 1, 1) := by decide +kernel
theorem dX12_does_20 : decode cX12_does 20 = .ok (.sipush 20000, 3) := by decide +kernel
theorem dX12_does_23 : decode cX12_does 23 = .ok (.if_icmp .ge 27, 3) := by decide +kernel
theorem dX12_does_26 : decode cX12_does 26 = .ok (.aload_n 0, 1) := by decide +kernel
theorem dX12_does_27 : decode cX12_does 27 = .ok (.iload_n 1, 1) := by decide +kernel
theorem dX12_does_28 : decode cX12_does 28 = .ok (.sipush 1000, 3) := by decide +kernel
theorem dX12_does_31 : decode cX12_does 31 = .ok (.idiv, 1) := by decide +kernel
theorem dX12_does_32 : decode cX12_does 32 = .ok (.iload_n 1, 1) := by decide +kernel
theorem dX12_does_33 : decode cX12_does 33 = .ok (.bipush 100, 2) := by decide +kernel
theorem dX12_does_35 : decode cX12_does 35 = .ok (.idiv, 1) := by decide +kernel
theorem dX12_does_36 : decode cX12_does 36 = .ok (.bipush 10, 2) := by decide +kernel
theorem dX12_does_38 : decode cX12_does 38 = .ok (.irem, 1) := by decide +kernel
theorem dX12_does_39 : decode cX12_does 39 = .ok (.iload_n 1, 1) := by decide +kernel
theorem dX12_does_40 : decode cX12_does 40 = .ok (.bipush 100, 2) := by decide +kernel
theorem dX12_does_42 : decode cX12_does 42 = .ok (.irem, 1) := by decide +kernel
theorem dX12_does_43 : decode cX12_does 43 = .ok (.invokevirtual 424, 3) := by decide +kernel
theorem dX12_does_46 : decode cX12_does 46 = .ok (.pop, 1) := by decide +kernel
theorem dX12_does_47 : decode cX12_does 47 = .ok (.goto 62, 3) := by decide +kernel
theorem dX12_does_50 : decode cX12_does 50 = .ok (.iload_n 1, 1) := by decide +kernel
theorem dX12_does_51 : decode cX12_does 51 = .ok (.ldc_w 452, 3) := by decide +kernel
theorem dX12_does_54 : decode cX12_does 54 = .ok (.if_icmp .ge 38, 3) := by decide +kernel
theorem dX12_does_57 : decode cX12_does 57 = .ok (.aload_n 0, 1) := by decide +kernel
theorem dX12_does_58 : decode cX12_does 58 = .ok (.iload_n 1, 1) := by decide +kernel
theorem dX12_does_59 : decode cX12_does 59 = .ok (.sipush 30000, 3) := by decide +kernel
theorem dX12_does_62 : decode cX12_does 62 = .ok (.if_icmp .ge 8, 3) := by decide +kernel
theorem dX12_does_65 : decode cX12_does 65 = .ok (.bipush 7, 2) := by decide +kernel
theorem dX12_does_67 : decode cX12_does 67 = .ok (.goto 5, 3) := by decide +kernel
theorem dX12_does_70 : decode cX12_does 70 = .ok (.bipush 22, 2) := by decide +kernel
theorem dX12_does_72 : decode cX12_does 72 = .ok (.iload_n 1, 1) := by decide +kernel
theorem dX12_does_73 : decode cX12_does 73 = .ok (.sipush 10000, 3) := by decide +kernel
theorem dX12_does_76 : decode cX12_does 76 = .ok (.irem, 1) := by decide +kernel
theorem dX12_does_77 : decode cX12_does 77 = .ok (.bipush 100, 2) := by decide +kernel
theorem dX12_does_79 : decode cX12_does 79 = .ok (.idiv, 1) := by decide +kernel
theorem dX12_does_80 : decode cX12_does 80 = .ok (.iload_n 1, 1) := by decide +kernel
theorem dX12_does_81 : decode cX12_does 81 = .ok (.bipush 100, 2) := by decide +kernel
theorem dX12_does_83 : decode cX12_does 83 = .ok (.irem, 1) := by decide +kernel
theorem dX12_does_84 : decode cX12_does 84 = .ok (.bipush 6, 2) := by decide +kernel
theorem dX12_does_86 : decode cX12_does 86 = .ok (.invokevirtual 415, 3) := by decide +kernel
theorem dX12_does_89 : decode cX12_does 89 = .ok (.goto 20, 3) := by decide +kernel
theorem dX12_does_92 : decode cX12_does 92 = .ok (.aload_n 0, 1) := by decide +kernel
theorem dX12_does_93 : decode cX12_does 93 = .ok (.getfield 9, 3) := by decide +kernel
theorem dX12_does_96 : decode cX12_does 96 = .ok (.bipush 53, 2) := by decide +kernel
theorem dX12_does_98 : decode cX12_does 98 = .ok (.dup2, 1) := by decide +kernel
theorem dX12_does_99 : decode cX12_does 99 = .ok (.iaload, 1) := by decide +kernel
theorem dX12_does_100 : decode cX12_does 100 = .ok (.iconst 1, 1) := by decide +kernel
theorem dX12_does_101 : decode cX12_does 101 = .ok (.iload_n 1, 1) := by decide +kernel
theorem dX12_does_102 : decode cX12_does 102 = .ok (.ldc_w 452, 3) := by decide +kernel
theorem dX12_does_105 : decode cX12_does 105 = .ok (.isub, 1) := by decide +kernel
theorem dX12_does_106 : decode cX12_does 106 = .ok (.ishl, 1) := by decide +kernel
theorem dX12_does_107 : decode cX12_does 107 = .ok (.ior, 1) := by decide +kernel
theorem dX12_does_108 : decode cX12_does 108 = .ok (.iastore, 1) := by decide +kernel
theorem dX12_does_109 : decode cX12_does 109 = .ok (.return_, 1) := by decide +kernel
theorem dX12_judge_0 : decode cX12_judge 0 = .ok (.aload_n 0, 1) := by decide +kernel
theorem dX12_judge_1 : decode cX12_judge 1 = .ok (.aload_n 0, 1) := by decide +kernel
theorem dX12_judge_2 : decode cX12_judge 2 = .ok (.iload_n 1, 1) := by decide +kernel
theorem dX12_judge_3 : decode cX12_judge 3 = .ok (.invokevirtual 453, 3) := by decide +kernel
theorem dX12_judge_6 : decode cX12_judge 6 = .ok (.putfield 97, 3) := by decide +kernel
theorem dX12_judge_9 : decode cX12_judge 9 = .ok (.aload_n 0, 1) := by decide +kernel
theorem dX12_judge_10 : decode cX12_judge 10 = .ok (.getfield 97, 3) := by decide +kernel
theorem dX12_judge_13 : decode cX12_judge 13 = .ok (.ifCond .ne 20, 3) := by decide +kernel
theorem dX12_judge_16 : decode cX12_judge 16 = .ok (.iload_n 2, 1) := by decide +kernel
theorem dX12_judge_17 : decode cX12_judge 17 = .ok (.i2l, 1) := by decide +kernel
theorem dX12_judge_18 : decode cX12_judge 18 = .ok (.lconst 0, 1) := by decide +kernel
theorem dX12_judge_19 : decode cX12_judge 19 = .ok (.ldc2_w 456, 3) := by decide +kernel
theorem dX12_judge_22 : decode cX12_judge 22 = .ok (.invokestatic 158, 3) := by decide +kernel
theorem dX12_judge_25 : decode cX12_judge 25 = .ok (.ifCond .ne 8, 3) := by decide +kernel
theorem dX12_judge_28 : decode cX12_judge 28 = .ok (.aload_n 0, 1) := by decide +kernel
theorem dX12_judge_29 : decode cX12_judge 29 = .ok (.iconst 3, 1) := by decide +kernel
theorem dX12_judge_30 : decode cX12_judge 30 = .ok (.putfield 97, 3) := by decide +kernel
theorem dX12_judge_33 : decode cX12_judge 33 = .ok (.aload_n 0, 1) := by decide +kernel
theorem dX12_judge_34 : decode cX12_judge 34 = .ok (.getfield 97, 3) := by decide +kernel
theorem dX12_judge_37 : decode cX12_judge 37 = .ok (.ifCond .le 5, 3) := by decide +kernel
theorem dX12_judge_40 : decode cX12_judge 40 = .ok (.iconst 0, 1) := by decide +kernel
theorem dX12_judge_41 : decode cX12_judge 41 = .ok (.ireturn, 1) := by decide +kernel
theorem dX12_judge_42 : decode cX12_judge 42 = .ok (.aload_n 0, 1) := by decide +kernel
theorem dX12_judge_43 : decode cX12_judge 43 = .ok (.invokevirtual 458, 3) := by decide +kernel
theorem dX12_judge_46 : decode cX12_judge 46 = .ok (.iconst (-1), 1) := by decide +kernel
theorem dX12_judge_47 : decode cX12_judge 47 = .ok (.istore_n 3, 1) := by decide +kernel
theorem dX12_judge_48 : decode cX12_judge 48 = .ok (.iconst 0, 1) := by decide +kernel
theorem dX12_judge_49 : decode cX12_judge 49 = .ok (.istore 4, 2) := by decide +kernel
theorem dX12_judge_51 : decode cX12_judge 51 = .ok (.iconst 0, 1) := by decide +kernel
theorem dX12_judge_52 : decode cX12_judge 52 = .ok (.istore 5, 2) := by decide +kernel
theorem dX12_judge_54 : decode cX12_judge 54 = .ok (.iload 5, 2) := by decide +kernel
theorem dX12_judge_56 : decode cX12_judge 56 = .ok (.aload_n 0, 1) := by decide +kernel
theorem dX12_judge_57 : decode cX12_judge 57 = .ok (.getfield 91, 3) := by decide +kernel
theorem dX12_judge_60 : decode cX12_judge 60 = .ok (.iload_n 1, 1) := by decide +kernel
theorem dX12_judge_61 : decode cX12_judge 61 = .ok (.iaload, 1) := by decide +kernel
theorem dX12_judge_62 : decode cX12_judge 62 = .ok (.if_icmp .ge 60, 3) := by decide +kernel
theorem dX12_judge_65 : decode cX12_judge 65 = .ok (.iload_n 3, 1) := by decide +kernel
theorem dX12_judge_66 : decode cX12_judge 66 = .ok (.iconst (-1), 1) := by decide +kernel
theorem dX12_judge_67 : decode cX12_judge 67 = .ok (.if_icmp .ne 55, 3) := by decide +kernel
theorem dX12_judge_70 : decode cX12_judge 70 = .ok (.aload_n 0, 1) := by decide +kernel
theorem dX12_judge_71 : decode cX12_judge 71 = .ok (.aload_n 0, 1) := by decide +kernel
theorem dX12_judge_72 : decode cX12_judge 72 = .ok (.getfield 94, 3) := by decide +kernel
theorem dX12_judge_75 : decode cX12_judge 75 = .ok (.bipush 30, 2) := by decide +kernel
theorem dX12_judge_77 : decode cX12_judge 77 = .ok (.iload_n 1, 1) := by decide +kernel
theorem dX12_judge_78 : decode cX12_judge 78 = .ok (.imul, 1) := by decide +kernel
theorem dX12_judge_79 : decode cX12_judge 79 = .ok (.iload 5, 2) := by decide +kernel
theorem dX12_judge_81 : decode cX12_judge 81 = .ok (.iadd, 1) := by decide +kernel
theorem dX12_judge_82 : decode cX12_judge 82 = .ok (.laload, 1) := by decide +kernel
theorem dX12_judge_83 : decode cX12_judge 83 = .ok (.invokevirtual 461, 3) := by decide +kernel
theorem dX12_judge_86 : decode cX12_judge 86 = .ok (.istore 4, 2) := by decide +kernel
theorem dX12_judge_88 : decode cX12_judge 88 = .ok (.iload 4, 2) := by decide +kernel
theorem dX12_judge_90 : decode cX12_judge 90 = .ok (.ifCond .ne 23, 3) := by decide +kernel
theorem dX12_judge_93 : decode cX12_judge 93 = .ok (.aload_n 0, 1) := by decide +kernel
theorem dX12_judge_94 : decode cX12_judge 94 = .ok (.aload_n 0, 1) := by decide +kernel
theorem dX12_judge_95 : decode cX12_judge 95 = .ok (.getfield 94, 3) := by decide +kernel
theorem dX12_judge_98 : decode cX12_judge 98 = .ok (.bipush 30, 2) := by decide +kernel
theorem dX12_judge_100 : decode cX12_judge 100 = .ok (.iload_n 1, 1) := by decide +kernel
theorem dX12_judge_101 : decode cX12_judge 101 = .ok (.imul, 1) := by decide +kernel
theorem dX12_judge_102 : decode cX12_judge 102 = .ok (.iload 5, 2) := by decide +kernel
theorem dX12_judge_104 : decode cX12_judge 104 = .ok (.iadd, 1) := by decide +kernel
theorem dX12_judge_105 : decode cX12_judge 105 = .ok (.laload, 1) := by decide +kernel
theorem dX12_judge_106 : decode cX12_judge 106 = .ok (.l2i, 1) := by decide +kernel
theorem dX12_judge_107 : decode cX12_judge 107 = .ok (.invokevirtual 464, 3) := by decide +kernel
theorem dX12_judge_110 : decode cX12_judge 110 = .ok (.goto 6, 3) := by decide +kernel
theorem dX12_judge_113 : decode cX12_judge 113 = .ok (.iload 5, 2) := by decide +kernel
theorem dX12_judge_115 : decode cX12_judge 115 = .ok (.istore_n 3, 1) := by decide +kernel
theorem dX12_judge_116 : decode cX12_judge 116 = .ok (.iinc 5 1, 3) := by decide +kernel
theorem dX12_judge_119 : decode cX12_judge 119 = .ok (.goto (-65), 3) := by decide +kernel
theorem dX12_judge_122 : decode cX12_judge 122 = .ok (.aload_n 0, 1) := by decide +kernel
theorem dX12_judge_123 : decode cX12_judge 123 = .ok (.getfield 9, 3) := by decide +kernel
theorem dX12_judge_126 : decode cX12_judge 126 = .ok (.bipush 54, 2) := by decide +kernel
theorem dX12_judge_128 : decode cX12_judge 128 = .ok (.iaload, 1) := by decide +kernel
theorem dX12_judge_129 : decode cX12_judge 129 = .ok (.istore 5, 2) := by decide +kernel
theorem dX12_judge_131 : decode cX12_judge 131 = .ok (.aload_n 0, 1) := by decide +kernel
theorem dX12_judge_132 : decode cX12_judge 132 = .ok (.getfield 9, 3) := by decide +kernel
theorem dX12_judge_135 : decode cX12_judge 135 = .ok (.bipush 55, 2) := by decide +kernel
theorem dX12_judge_137 : decode cX12_judge 137 = .ok (.iaload, 1) := by decide +kernel
theorem dX12_judge_138 : decode cX12_judge 138 = .ok (.istore 6, 2) := by decide +kernel
theorem dX12_judge_140 : decode cX12_judge 140 = .ok (.aload_n 0, 1) := by decide +kernel
theorem dX12_judge_141 : decode cX12_judge 141 = .ok (.invokevirtual 467, 3) := by decide +kernel
theorem dX12_judge_144 : decode cX12_judge 144 = .ok (.iload_n 2, 1) := by decide +kernel
theorem dX12_judge_145 : decode cX12_judge 145 = .ok (.ifCond .ne 7, 3) := by decide +kernel
theorem dX12_judge_148 : decode cX12_judge 148 = .ok (.iload_n 3, 1) := by decide +kernel
theorem dX12_judge_149 : decode cX12_judge 149 = .ok (.goto 25, 3) := by decide +kernel
theorem dX12_judge_152 : decode cX12_judge 152 = .ok (.iload_n 2, 1) := by decide +kernel
theorem dX12_judge_153 : decode cX12_judge 153 = .ok (.iconst 1, 1) := by decide +kernel
theorem dX12_judge_154 : decode cX12_judge 154 = .ok (.if_icmp .ne 8, 3) := by decide +kernel
theorem dX12_judge_157 : decode cX12_judge 157 = .ok (.iload 4, 2) := by decide +kernel
theorem dX12_judge_159 : decode cX12_judge 159 = .ok (.goto 15, 3) := by decide +kernel
theorem dX12_judge_162 : decode cX12_judge 162 = .ok (.iload_n 2, 1) := by decide +kernel
theorem dX12_judge_163 : decode cX12_judge 163 = .ok (.iconst 2, 1) := by decide +kernel
theorem dX12_judge_164 : decode cX12_judge 164 = .ok (.if_icmp .ne 8, 3) := by decide +kernel
theorem dX12_judge_167 : decode cX12_judge 167 = .ok (.iload 5, 2) := by decide +kernel
theorem dX12_judge_169 : decode cX12_judge 169 = .ok (.goto 5, 3) := by decide +kernel
theorem dX12_judge_172 : decode cX12_judge 172 = .ok (.iload 6, 2) := by decide +kernel
theorem dX12_judge_174 : decode cX12_judge 174 = .ok (.ireturn, 1) := by decide +kernel
theorem dX12_perform_0 : decode cX12_perform 0 = .ok (.aload_n 0, 1) := by decide +kernel
theorem dX12_perform_1 : decode cX12_perform 1 = .ok (.aload_n 0, 1) := by decide +kernel
theorem dX12_perform_2 : decode cX12_perform 2 = .ok (.iload_n 1, 1) := by decide +kernel
theorem dX12_perform_3 : decode cX12_perform 3 = .ok (.invokevirtual 453, 3) := by decide +kernel
theorem dX12_perform_6 : decode cX12_perform 6 = .ok (.putfield 97, 3) := by decide +kernel
theorem dX12_perform_9 : decode cX12_perform 9 = .ok (.aload_n 0, 1) := by decide +kernel
theorem dX12_perform_10 : decode cX12_perform 10 = .ok (.getfield 97, 3) := by decide +kernel
theorem dX12_perform_13 : decode cX12_perform 13 = .ok (.ifCond .le 5, 3) := by decide +kernel
theorem dX12_perform_16 : decode cX12_perform 16 = .ok (.iconst 0, 1) := by decide +kernel
theorem dX12_perform_17 : decode cX12_perform 17 = .ok (.ireturn, 1) := by decide +kernel
theorem dX12_perform_18 : decode cX12_perform 18 = .ok (.iconst 0, 1) := by decide +kernel
theorem dX12_perform_19 : decode cX12_perform 19 = .ok (.istore_n 2, 1) := by decide +kernel
theorem dX12_perform_20 : decode cX12_perform 20 = .ok (.iload_n 2, 1) := by decide +kernel
theorem dX12_perform_21 : decode cX12_perform 21 = .ok (.aload_n 0, 1) := by decide +kernel
theorem dX12_perform_22 : decode cX12_perform 22 = .ok (.getfield 91, 3) := by decide +kernel
theorem dX12_perform_25 : decode cX12_perform 25 = .ok (.iload_n 1, 1) := by decide +kernel
theorem dX12_perform_26 : decode cX12_perform 26 = .ok (.iaload, 1) := by decide +kernel
theorem dX12_perform_27 : decode cX12_perform 27 = .ok (.if_icmp .ge 47, 3) := by decide +kernel
theorem dX12_perform_30 : decode cX12_perform 30 = .ok (.aload_n 0, 1) := by decide +kernel
theorem dX12_perform_31 : decode cX12_perform 31 = .ok (.aload_n 0, 1) := by decide +kernel
theorem dX12_perform_32 : decode cX12_perform 32 = .ok (.getfield 94, 3) := by decide +kernel
theorem dX12_perform_35 : decode cX12_perform 35 = .ok (.bipush 30, 2) := by decide +kernel
theorem dX12_perform_37 : decode cX12_perform 37 = .ok (.iload_n 1, 1) := by decide +kernel
theorem dX12_perform_38 : decode cX12_perform 38 = .ok (.imul, 1) := by decide +kernel
theorem dX12_perform_39 : decode cX12_perform 39 = .ok (.iload_n 2, 1) := by decide +kernel
theorem dX12_perform_40 : decode cX12_perform 40 = .ok (.iadd, 1) := by decide +kernel
theorem dX12_perform_41 : decode cX12_perform 41 = .ok (.laload, 1) := by decide +kernel
theorem dX12_perform_42 : decode cX12_perform 42 = .ok (.invokevirtual 461, 3) := by decide +kernel
theorem dX12_perform_45 : decode cX12_perform 45 = .ok (.ifCond .ne 29, 3) := by decide +kernel
theorem dX12_perform_48 : decode cX12_perform 48 = .ok (.aload_n 0, 1) := by decide +kernel
theorem dX12_perform_49 : decode cX12_perform 49 = .ok (.invokevirtual 412, 3) := by decide +kernel
theorem dX12_perform_52 : decode cX12_perform 52 = .ok (.aload_n 0, 1) := by decide +kernel
theorem dX12_perform_53 : decode cX12_perform 53 = .ok (.aload_n 0, 1) := by decide +kernel
theorem dX12_perform_54 : decode cX12_perform 54 = .ok (.getfield 94, 3) := by decide +kernel
theorem dX12_perform_57 : decode cX12_perform 57 = .ok (.bipush 30, 2) := by decide +kernel
theorem dX12_perform_59 : decode cX12_perform 59 = .ok (.iload_n 1, 1) := by decide +kernel
theorem dX12_perform_60 : decode cX12_perform 60 = .ok (.imul, 1) := by decide +kernel
theorem dX12_perform_61 : decode cX12_perform 61 = .ok (.iload_n 2, 1) := by decide +kernel
theorem dX12_perform_62 : decode cX12_perform 62 = .ok (.iadd, 1) := by decide +kernel
theorem dX12_perform_63 : decode cX12_perform 63 = .ok (.laload, 1) := by decide +kernel
theorem dX12_perform_64 : decode cX12_perform 64 = .ok (.l2i, 1) := by decide +kernel
theorem dX12_perform_65 : decode cX12_perform 65 = .ok (.invokevirtual 464, 3) := by decide +kernel
theorem dX12_perform_68 : decode cX12_perform 68 = .ok (.iinc 2 1, 3) := by decide +kernel
theorem dX12_perform_71 : decode cX12_perform 71 = .ok (.goto (-51), 3) := by decide +kernel
theorem dX12_perform_74 : decode cX12_perform 74 = .ok (.iload_n 2, 1) := by decide +kernel
theorem dX12_perform_75 : decode cX12_perform 75 = .ok (.ireturn, 1) := by decide +kernel
theorem dX12_draw_0 : decode cX12_draw 0 = .ok (.aload_n 0, 1) := by decide +kernel
theorem dX12_draw_1 : decode cX12_draw 1 = .ok (.ldc_w 470, 3) := by decide +kernel
theorem dX12_draw_4 : decode cX12_draw 4 = .ok (.aload_n 0, 1) := by decide +kernel
theorem dX12_draw_5 : decode cX12_draw 5 = .ok (.getfield 471, 3) := by decide +kernel
theorem dX12_draw_8 : decode cX12_draw 8 = .ok (.imul, 1) := by decide +kernel
theorem dX12_draw_9 : decode cX12_draw 9 = .ok (.sipush 12345, 3) := by decide +kernel
theorem dX12_draw_12 : decode cX12_draw 12 = .ok (.iadd, 1) := by decide +kernel
theorem dX12_draw_13 : decode cX12_draw 13 = .ok (.putfield 471, 3) := by decide +kernel
theorem dX12_draw_16 : decode cX12_draw 16 = .ok (.aload_n 0, 1) := by decide +kernel
theorem dX12_draw_17 : decode cX12_draw 17 = .ok (.getfield 471, 3) := by decide +kernel
theorem dX12_draw_20 : decode cX12_draw 20 = .ok (.bipush 16, 2) := by decide +kernel
theorem dX12_draw_22 : decode cX12_draw 22 = .ok (.iushr, 1) := by decide +kernel
theorem dX12_draw_23 : decode cX12_draw 23 = .ok (.iload_n 1, 1) := by decide +kernel
theorem dX12_draw_24 : decode cX12_draw 24 = .ok (.irem, 1) := by decide +kernel
theorem dX12_draw_25 : decode cX12_draw 25 = .ok (.ireturn, 1) := by decide +kernel
theorem dX12_season_0 : decode cX12_season 0 = .ok (.aload_n 0, 1) := by decide +kernel
theorem dX12_season_1 : decode cX12_season 1 = .ok (.iconst 0, 1) := by decide +kernel
theorem dX12_season_2 : decode cX12_season 2 = .ok (.putfield 97, 3) := by decide +kernel
theorem dX12_season_5 : decode cX12_season 5 = .ok (.iload_n 2, 1) := by decide +kernel
theorem dX12_season_6 : decode cX12_season 6 = .ok (.i2l, 1) := by decide +kernel
theorem dX12_season_7 : decode cX12_season 7 = .ok (.lconst 1, 1) := by decide +kernel
theorem dX12_season_8 : decode cX12_season 8 = .ok (.ldc2_w 474, 3) := by decide +kernel
theorem dX12_season_11 : decode cX12_season 11 = .ok (.invokestatic 158, 3) := by decide +kernel
theorem dX12_season_14 : decode cX12_season 14 = .ok (.ifCond .ne 9, 3) := by decide +kernel
theorem dX12_season_17 : decode cX12_season 17 = .ok (.aload_n 0, 1) := by decide +kernel
theorem dX12_season_18 : decode cX12_season 18 = .ok (.iconst 1, 1) := by decide +kernel
theorem dX12_season_19 : decode cX12_season 19 = .ok (.invokevirtual 282, 3) := by decide +kernel
theorem dX12_season_22 : decode cX12_season 22 = .ok (.ireturn, 1) := by decide +kernel
theorem dX12_season_23 : decode cX12_season 23 = .ok (.aload_n 0, 1) := by decide +kernel
theorem dX12_season_24 : decode cX12_season 24 = .ok (.iload_n 1, 1) := by decide +kernel
theorem dX12_season_25 : decode cX12_season 25 = .ok (.putfield 471, 3) := by decide +kernel
theorem dX12_season_28 : decode cX12_season 28 = .ok (.iconst 0, 1) := by decide +kernel
theorem dX12_season_29 : decode cX12_season 29 = .ok (.istore_n 3, 1) := by decide +kernel
theorem dX12_season_30 : decode cX12_season 30 = .ok (.iconst 0, 1) := by decide +kernel
theorem dX12_season_31 : decode cX12_season 31 = .ok (.istore 4, 2) := by decide +kernel
theorem dX12_season_33 : decode cX12_season 33 = .ok (.iload 4, 2) := by decide +kernel
theorem dX12_season_35 : decode cX12_season 35 = .ok (.iload_n 2, 1) := by decide +kernel
theorem dX12_season_36 : decode cX12_season 36 = .ok (.if_icmp .ge 141, 3) := by decide +kernel
theorem dX12_season_39 : decode cX12_season 39 = .ok (.aload_n 0, 1) := by decide +kernel
theorem dX12_season_40 : decode cX12_season 40 = .ok (.iconst 5, 1) := by decide +kernel
theorem dX12_season_41 : decode cX12_season 41 = .ok (.invokevirtual 476, 3) := by decide +kernel
theorem dX12_season_44 : decode cX12_season 44 = .ok (.istore 5, 2) := by decide +kernel
theorem dX12_season_46 : decode cX12_season 46 = .ok (.iload 5, 2) := by decide +kernel
theorem dX12_season_48 : decode cX12_season 48 = .ok (.iconst 1, 1) := by decide +kernel
theorem dX12_season_49 : decode cX12_season 49 = .ok (.if_icmp .le 13, 3) := by decide +kernel
theorem dX12_season_52 : decode cX12_season 52 = .ok (.aload_n 0, 1) := by decide +kernel
theorem dX12_season_53 : decode cX12_season 53 = .ok (.invokevirtual 291, 3) := by decide +kernel
theorem dX12_season_56 : decode cX12_season 56 = .ok (.ifCond .ne 6, 3) := by decide +kernel
theorem dX12_season_59 : decode cX12_season 59 = .ok (.goto 112, 3) := by decide +kernel
theorem dX12_season_62 : decode cX12_season 62 = .ok (.iconst (-1), 1) := by decide +kernel
theorem dX12_season_63 : decode cX12_season 63 = .ok (.istore 6, 2) := by decide +kernel
theorem dX12_season_65 : decode cX12_season 65 = .ok (.iload 5, 2) := by decide +kernel
theorem dX12_season_67 : decode cX12_season 67 = .ok (.iconst 2, 1) := by decide +kernel
theorem dX12_season_68 : decode cX12_season 68 = .ok (.if_icmp .eq 9, 3) := by decide +kernel
theorem dX12_season_71 : decode cX12_season 71 = .ok (.iload 5, 2) := by decide +kernel
theorem dX12_season_73 : decode cX12_season 73 = .ok (.iconst 3, 1) := by decide +kernel
theorem dX12_season_74 : decode cX12_season 74 = .ok (.if_icmp .ne 37, 3) := by decide +kernel
theorem dX12_season_77 : decode cX12_season 77 = .ok (.sipush 10000, 3) := by decide +kernel
theorem dX12_season_80 : decode cX12_season 80 = .ok (.iload 5, 2) := by decide +kernel
theorem dX12_season_82 : decode cX12_season 82 = .ok (.imul, 1) := by decide +kernel
theorem dX12_season_83 : decode cX12_season 83 = .ok (.bipush 100, 2) := by decide +kernel
theorem dX12_season_85 : decode cX12_season 85 = .ok (.aload_n 0, 1) := by decide +kernel
theorem dX12_season_86 : decode cX12_season 86 = .ok (.aload_n 0, 1) := by decide +kernel
theorem dX12_season_87 : decode cX12_season 87 = .ok (.invokevirtual 291, 3) := by decide +kernel
theorem dX12_season_90 : decode cX12_season 90 = .ok (.invokevirtual 476, 3) := by decide +kernel
theorem dX12_season_93 : decode cX12_season 93 = .ok (.imul, 1) := by decide +kernel
theorem dX12_season_94 : decode cX12_season 94 = .ok (.iadd, 1) := by decide +kernel
theorem dX12_season_95 : decode cX12_season 95 = .ok (.istore 6, 2) := by decide +kernel
theorem dX12_season_97 : decode cX12_season 97 = .ok (.iload 6, 2) := by decide +kernel
theorem dX12_season_99 : decode cX12_season 99 = .ok (.aload_n 0, 1) := by decide +kernel
theorem dX12_season_100 : decode cX12_season 100 = .ok (.bipush 61, 2) := by decide +kernel
theorem dX12_season_102 : decode cX12_season 102 = .ok (.invokevirtual 476, 3) := by decide +kernel
theorem dX12_season_105 : decode cX12_season 105 = .ok (.iadd, 1) := by decide +kernel
theorem dX12_season_106 : decode cX12_season 106 = .ok (.istore 6, 2) := by decide +kernel
theorem dX12_season_108 : decode cX12_season 108 = .ok (.goto 50, 3) := by decide +kernel
theorem dX12_season_111 : decode cX12_season 111 = .ok (.iload 5, 2) := by decide +kernel
theorem dX12_season_113 : decode cX12_season 113 = .ok (.iconst 4, 1) := by decide +kernel
theorem dX12_season_114 : decode cX12_season 114 = .ok (.if_icmp .ne 44, 3) := by decide +kernel
theorem dX12_season_117 : decode cX12_season 117 = .ok (.sipush 1000, 3) := by decide +kernel
theorem dX12_season_120 : decode cX12_season 120 = .ok (.aload_n 0, 1) := by decide +kernel
theorem dX12_season_121 : decode cX12_season 121 = .ok (.bipush 10, 2) := by decide +kernel
theorem dX12_season_123 : decode cX12_season 123 = .ok (.invokevirtual 476, 3) := by decide +kernel
theorem dX12_season_126 : decode cX12_season 126 = .ok (.imul, 1) := by decide +kernel
theorem dX12_season_127 : decode cX12_season 127 = .ok (.istore 6, 2) := by decide +kernel
theorem dX12_season_129 : decode cX12_season 129 = .ok (.iload 6, 2) := by decide +kernel
theorem dX12_season_131 : decode cX12_season 131 = .ok (.bipush 100, 2) := by decide +kernel
theorem dX12_season_133 : decode cX12_season 133 = .ok (.aload_n 0, 1) := by decide +kernel
theorem dX12_season_134 : decode cX12_season 134 = .ok (.aload_n 0, 1) := by decide +kernel
theorem dX12_season_135 : decode cX12_season 135 = .ok (.invokevirtual 291, 3) := by decide +kernel
theorem dX12_season_138 : decode cX12_season 138 = .ok (.invokevirtual 476, 3) := by decide +kernel
theorem dX12_season_141 : decode cX12_season 141 = .ok (.imul, 1) := by decide +kernel
theorem dX12_season_142 : decode cX12_season 142 = .ok (.iadd, 1) := by decide +kernel
theorem dX12_season_143 : decode cX12_season 143 = .ok (.istore 6, 2) := by decide +kernel
theorem dX12_season_145 : decode cX12_season 145 = .ok (.iload 6, 2) := by decide +kernel
theorem dX12_season_147 : decode cX12_season 147 = .ok (.iconst 1, 1) := by decide +kernel
theorem dX12_season_148 : decode cX12_season 148 = .ok (.aload_n 0, 1) := by decide +kernel
theorem dX12_season_149 : decode cX12_season 149 = .ok (.bipush 24, 2) := by decide +kernel
theorem dX12_season_151 : decode cX12_season 151 = .ok (.invokevirtual 476, 3) := by decide +kernel
theorem dX12_season_154 : decode cX12_season 154 = .ok (.iadd, 1) := by decide +kernel
theorem dX12_season_155 : decode cX12_season 155 = .ok (.iadd, 1) := by decide +kernel
theorem dX12_season_156 : decode cX12_season 156 = .ok (.istore 6, 2) := by decide +kernel
theorem dX12_season_158 : decode cX12_season 158 = .ok (.aload_n 0, 1) := by decide +kernel
theorem dX12_season_159 : decode cX12_season 159 = .ok (.invokevirtual 412, 3) := by decide +kernel
theorem dX12_season_162 : decode cX12_season 162 = .ok (.aload_n 0, 1) := by decide +kernel
theorem dX12_season_163 : decode cX12_season 163 = .ok (.iload 6, 2) := by decide +kernel
theorem dX12_season_165 : decode cX12_season 165 = .ok (.invokevirtual 464, 3) := by decide +kernel
theorem dX12_season_168 : decode cX12_season 168 = .ok (.iinc 3 1, 3) := by decide +kernel
theorem dX12_season_171 : decode cX12_season 171 = .ok (.iinc 4 1, 3) := by decide +kernel
theorem dX12_season_174 : decode cX12_season 174 = .ok (.goto (-141), 3) := by decide +kernel
theorem dX12_season_177 : decode cX12_season 177 = .ok (.iload_n 3, 1) := by decide +kernel
theorem dX12_season_178 : decode cX12_season 178 = .ok (.ireturn, 1) := by decide +kernel
theorem dX12_firstLawful_0 : decode cX12_firstLawful 0 = .ok (.iload_n 2, 1) := by decide +kernel
theorem dX12_firstLawful_1 : decode cX12_firstLawful 1 = .ok (.istore 4, 2) := by decide +kernel
theorem dX12_firstLawful_3 : decode cX12_firstLawful 3 = .ok (.iload 4, 2) := by decide +kernel
theorem dX12_firstLawful_5 : decode cX12_firstLawful 5 = .ok (.iload_n 2, 1) := by decide +kernel
theorem dX12_firstLawful_6 : decode cX12_firstLawful 6 = .ok (.sipush 200, 3) := by decide +kernel
theorem dX12_firstLawful_9 : decode cX12_firstLawful 9 = .ok (.iadd, 1) := by decide +kernel
theorem dX12_firstLawful_10 : decode cX12_firstLawful 10 = .ok (.if_icmp .gt 23, 3) := by decide +kernel
theorem dX12_firstLawful_13 : decode cX12_firstLawful 13 = .ok (.aload_n 0, 1) := by decide +kernel
theorem dX12_firstLawful_14 : decode cX12_firstLawful 14 = .ok (.iload_n 1, 1) := by decide +kernel
theorem dX12_firstLawful_15 : decode cX12_firstLawful 15 = .ok (.iload 4, 2) := by decide +kernel
theorem dX12_firstLawful_17 : decode cX12_firstLawful 17 = .ok (.iload_n 3, 1) := by decide +kernel
theorem dX12_firstLawful_18 : decode cX12_firstLawful 18 = .ok (.invokevirtual 405, 3) := by decide +kernel
theorem dX12_firstLawful_21 : decode cX12_firstLawful 21 = .ok (.ifCond .eq 6, 3) := by decide +kernel
theorem dX12_firstLawful_24 : decode cX12_firstLawful 24 = .ok (.iload 4, 2) := by decide +kernel
theorem dX12_firstLawful_26 : decode cX12_firstLawful 26 = .ok (.ireturn, 1) := by decide +kernel
theorem dX12_firstLawful_27 : decode cX12_firstLawful 27 = .ok (.iinc 4 1, 3) := by decide +kernel
theorem dX12_firstLawful_30 : decode cX12_firstLawful 30 = .ok (.goto (-27), 3) := by decide +kernel
theorem dX12_firstLawful_33 : decode cX12_firstLawful 33 = .ok (.iconst (-1), 1) := by decide +kernel
theorem dX12_firstLawful_34 : decode cX12_firstLawful 34 = .ok (.ireturn, 1) := by decide +kernel
theorem dX12_soonestOf_0 : decode cX12_soonestOf 0 = .ok (.aload_n 0, 1) := by decide +kernel
theorem dX12_soonestOf_1 : decode cX12_soonestOf 1 = .ok (.iconst 0, 1) := by decide +kernel
theorem dX12_soonestOf_2 : decode cX12_soonestOf 2 = .ok (.iload_n 1, 1) := by decide +kernel
theorem dX12_soonestOf_3 : decode cX12_soonestOf 3 = .ok (.iload_n 2, 1) := by decide +kernel
theorem dX12_soonestOf_4 : decode cX12_soonestOf 4 = .ok (.sipush 224, 3) := by decide +kernel
theorem dX12_soonestOf_7 : decode cX12_soonestOf 7 = .ok (.invokevirtual 398, 3) := by decide +kernel
theorem dX12_soonestOf_10 : decode cX12_soonestOf 10 = .ok (.aload_n 0, 1) := by decide +kernel
theorem dX12_soonestOf_11 : decode cX12_soonestOf 11 = .ok (.iconst 0, 1) := by decide +kernel
theorem dX12_soonestOf_12 : decode cX12_soonestOf 12 = .ok (.iconst 0, 1) := by decide +kernel
theorem dX12_soonestOf_13 : decode cX12_soonestOf 13 = .ok (.iload_n 3, 1) := by decide +kernel
theorem dX12_soonestOf_14 : decode cX12_soonestOf 14 = .ok (.invokevirtual 479, 3) := by decide +kernel
theorem dX12_soonestOf_17 : decode cX12_soonestOf 17 = .ok (.ireturn, 1) := by decide +kernel
theorem dX12_soonest_0 : decode cX12_soonest 0 = .ok (.aload_n 0, 1) := by decide +kernel
theorem dX12_soonest_1 : decode cX12_soonest 1 = .ok (.iload_n 1, 1) := by decide +kernel
theorem dX12_soonest_2 : decode cX12_soonest 2 = .ok (.iload_n 2, 1) := by decide +kernel
theorem dX12_soonest_3 : decode cX12_soonest 3 = .ok (.iconst 0, 1) := by decide +kernel
theorem dX12_soonest_4 : decode cX12_soonest 4 = .ok (.iload_n 3, 1) := by decide +kernel
theorem dX12_soonest_5 : decode cX12_soonest 5 = .ok (.invokevirtual 395, 3) := by decide +kernel
theorem dX12_soonest_8 : decode cX12_soonest 8 = .ok (.ifCond .eq 7, 3) := by decide +kernel
theorem dX12_soonest_11 : decode cX12_soonest 11 = .ok (.iconst 0, 1) := by decide +kernel
theorem dX12_soonest_12 : decode cX12_soonest 12 = .ok (.goto 10, 3) := by decide +kernel
theorem dX12_soonest_15 : decode cX12_soonest 15 = .ok (.aload_n 0, 1) := by decide +kernel
theorem dX12_soonest_16 : decode cX12_soonest 16 = .ok (.iload_n 1, 1) := by decide +kernel
theorem dX12_soonest_17 : decode cX12_soonest 17 = .ok (.iload_n 2, 1) := by decide +kernel
theorem dX12_soonest_18 : decode cX12_soonest 18 = .ok (.iload_n 3, 1) := by decide +kernel
theorem dX12_soonest_19 : decode cX12_soonest 19 = .ok (.invokevirtual 482, 3) := by decide +kernel
theorem dX12_soonest_22 : decode cX12_soonest 22 = .ok (.ireturn, 1) := by decide +kernel
theorem dX12_where_0 : decode cX12_where 0 = .ok (.aload_n 0, 1) := by decide +kernel
theorem dX12_where_1 : decode cX12_where 1 = .ok (.iconst 0, 1) := by decide +kernel
theorem dX12_where_2 : decode cX12_where 2 = .ok (.putfield 97, 3) := by decide +kernel
theorem dX12_where_5 : decode cX12_where 5 = .ok (.iload_n 1, 1) := by decide +kernel
theorem dX12_where_6 : decode cX12_where 6 = .ok (.invokestatic 389, 3) := by decide +kernel
theorem dX12_where_9 : decode cX12_where 9 = .ok (.ifCond .eq 10, 3) := by decide +kernel
theorem dX12_where_12 : decode cX12_where 12 = .ok (.iload_n 2, 1) := by decide +kernel
theorem dX12_where_13 : decode cX12_where 13 = .ok (.invokestatic 392, 3) := by decide +kernel
theorem dX12_where_16 : decode cX12_where 16 = .ok (.ifCond .ne 9, 3) := by decide +kernel
theorem dX12_where_19 : decode cX12_where 19 = .ok (.aload_n 0, 1) := by decide +kernel
theorem dX12_where_20 : decode cX12_where 20 = .ok (.iconst 1, 1) := by decide +kernel
theorem dX12_where_21 : decode cX12_where 21 = .ok (.invokevirtual 282, 3) := by decide +kernel
theorem dX12_where_24 : decode cX12_where 24 = .ok (.ireturn, 1) := by decide +kernel
theorem dX12_where_25 : decode cX12_where 25 = .ok (.iconst (-1), 1) := by decide +kernel
theorem dX12_where_26 : decode cX12_where 26 = .ok (.istore_n 3, 1) := by decide +kernel
theorem dX12_where_27 : decode cX12_where 27 = .ok (.ldc_w 485, 3) := by decide +kernel
theorem dX12_where_30 : decode cX12_where 30 = .ok (.istore 4, 2) := by decide +kernel
theorem dX12_where_32 : decode cX12_where 32 = .ok (.iconst 0, 1) := by decide +kernel
theorem dX12_where_33 : decode cX12_where 33 = .ok (.istore 5, 2) := by decide +kernel
theorem dX12_where_35 : decode cX12_where 35 = .ok (.iload 5, 2) := by decide +kernel
theorem dX12_where_37 : decode cX12_where 37 = .ok (.aload_n 0, 1) := by decide +kernel
theorem dX12_where_38 : decode cX12_where 38 = .ok (.invokevirtual 291, 3) := by decide +kernel
theorem dX12_where_41 : decode cX12_where 41 = .ok (.if_icmp .ge 42, 3) := by decide +kernel
theorem dX12_where_44 : decode cX12_where 44 = .ok (.aload_n 0, 1) := by decide +kernel
theorem dX12_where_45 : decode cX12_where 45 = .ok (.iload_n 1, 1) := by decide +kernel
theorem dX12_where_46 : decode cX12_where 46 = .ok (.iload 5, 2) := by decide +kernel
theorem dX12_where_48 : decode cX12_where 48 = .ok (.iload_n 2, 1) := by decide +kernel
theorem dX12_where_49 : decode cX12_where 49 = .ok (.invokevirtual 482, 3) := by decide +kernel
theorem dX12_where_52 : decode cX12_where 52 = .ok (.istore 6, 2) := by decide +kernel
theorem dX12_where_54 : decode cX12_where 54 = .ok (.iload 6, 2) := by decide +kernel
theorem dX12_where_56 : decode cX12_where 56 = .ok (.iconst (-1), 1) := by decide +kernel
theorem dX12_where_57 : decode cX12_where 57 = .ok (.if_icmp .eq 20, 3) := by decide +kernel
theorem dX12_where_60 : decode cX12_where 60 = .ok (.iload 6, 2) := by decide +kernel
theorem dX12_where_62 : decode cX12_where 62 = .ok (.iload 4, 2) := by decide +kernel
theorem dX12_where_64 : decode cX12_where 64 = .ok (.if_icmp .lt 6, 3) := by decide +kernel
theorem dX12_where_67 : decode cX12_where 67 = .ok (.goto 10, 3) := by decide +kernel
theorem dX12_where_70 : decode cX12_where 70 = .ok (.iload 5, 2) := by decide +kernel
theorem dX12_where_72 : decode cX12_where 72 = .ok (.istore_n 3, 1) := by decide +kernel
theorem dX12_where_73 : decode cX12_where 73 = .ok (.iload 6, 2) := by decide +kernel
theorem dX12_where_75 : decode cX12_where 75 = .ok (.istore 4, 2) := by decide +kernel
theorem dX12_where_77 : decode cX12_where 77 = .ok (.iinc 5 1, 3) := by decide +kernel
theorem dX12_where_80 : decode cX12_where 80 = .ok (.goto (-45), 3) := by decide +kernel
theorem dX12_where_83 : decode cX12_where 83 = .ok (.iload_n 3, 1) := by decide +kernel
theorem dX12_where_84 : decode cX12_where 84 = .ok (.ireturn, 1) := by decide +kernel
theorem dX12_cheapest_0 : decode cX12_cheapest 0 = .ok (.aload_n 0, 1) := by decide +kernel
theorem dX12_cheapest_1 : decode cX12_cheapest 1 = .ok (.iload_n 1, 1) := by decide +kernel
theorem dX12_cheapest_2 : decode cX12_cheapest 2 = .ok (.iload_n 2, 1) := by decide +kernel
theorem dX12_cheapest_3 : decode cX12_cheapest 3 = .ok (.iconst 0, 1) := by decide +kernel
theorem dX12_cheapest_4 : decode cX12_cheapest 4 = .ok (.iload_n 3, 1) := by decide +kernel
theorem dX12_cheapest_5 : decode cX12_cheapest 5 = .ok (.invokevirtual 395, 3) := by decide +kernel
theorem dX12_cheapest_8 : decode cX12_cheapest 8 = .ok (.ifCond .eq 5, 3) := by decide +kernel
theorem dX12_cheapest_11 : decode cX12_cheapest 11 = .ok (.iconst 0, 1) := by decide +kernel
theorem dX12_cheapest_12 : decode cX12_cheapest 12 = .ok (.ireturn, 1) := by decide +kernel
theorem dX12_cheapest_13 : decode cX12_cheapest 13 = .ok (.aload_n 0, 1) := by decide +kernel
theorem dX12_cheapest_14 : decode cX12_cheapest 14 = .ok (.iconst 0, 1) := by decide +kernel
theorem dX12_cheapest_15 : decode cX12_cheapest 15 = .ok (.iload_n 1, 1) := by decide +kernel
theorem dX12_cheapest_16 : decode cX12_cheapest 16 = .ok (.iload_n 2, 1) := by decide +kernel
theorem dX12_cheapest_17 : decode cX12_cheapest 17 = .ok (.sipush 224, 3) := by decide +kernel
theorem dX12_cheapest_20 : decode cX12_cheapest 20 = .ok (.invokevirtual 398, 3) := by decide +kernel
theorem dX12_cheapest_23 : decode cX12_cheapest 23 = .ok (.iconst 0, 1) := by decide +kernel
theorem dX12_cheapest_24 : decode cX12_cheapest 24 = .ok (.istore 4, 2) := by decide +kernel
theorem dX12_cheapest_26 : decode cX12_cheapest 26 = .ok (.iconst 1, 1) := by decide +kernel
theorem dX12_cheapest_27 : decode cX12_cheapest 27 = .ok (.istore 5, 2) := by decide +kernel
theorem dX12_cheapest_29 : decode cX12_cheapest 29 = .ok (.iload 5, 2) := by decide +kernel
theorem dX12_cheapest_31 : decode cX12_cheapest 31 = .ok (.sipush 200, 3) := by decide +kernel
theorem dX12_cheapest_34 : decode cX12_cheapest 34 = .ok (.if_icmp .gt 32, 3) := by decide +kernel
theorem dX12_cheapest_37 : decode cX12_cheapest 37 = .ok (.aload_n 0, 1) := by decide +kernel
theorem dX12_cheapest_38 : decode cX12_cheapest 38 = .ok (.iconst 0, 1) := by decide +kernel
theorem dX12_cheapest_39 : decode cX12_cheapest 39 = .ok (.iload 5, 2) := by decide +kernel
theorem dX12_cheapest_41 : decode cX12_cheapest 41 = .ok (.iload_n 3, 1) := by decide +kernel
theorem dX12_cheapest_42 : decode cX12_cheapest 42 = .ok (.invokevirtual 402, 3) := by decide +kernel
theorem dX12_cheapest_45 : decode cX12_cheapest 45 = .ok (.aload_n 0, 1) := by decide +kernel
theorem dX12_cheapest_46 : decode cX12_cheapest 46 = .ok (.iconst 0, 1) := by decide +kernel
theorem dX12_cheapest_47 : decode cX12_cheapest 47 = .ok (.iload 4, 2) := by decide +kernel
theorem dX12_cheapest_49 : decode cX12_cheapest 49 = .ok (.iload_n 3, 1) := by decide +kernel
theorem dX12_cheapest_50 : decode cX12_cheapest 50 = .ok (.invokevirtual 402, 3) := by decide +kernel
theorem dX12_cheapest_53 : decode cX12_cheapest 53 = .ok (.if_icmp .ge 7, 3) := by decide +kernel
theorem dX12_cheapest_56 : decode cX12_cheapest 56 = .ok (.iload 5, 2) := by decide +kernel
theorem dX12_cheapest_58 : decode cX12_cheapest 58 = .ok (.istore 4, 2) := by decide +kernel
theorem dX12_cheapest_60 : decode cX12_cheapest 60 = .ok (.iinc 5 1, 3) := by decide +kernel
theorem dX12_cheapest_63 : decode cX12_cheapest 63 = .ok (.goto (-34), 3) := by decide +kernel
theorem dX12_cheapest_66 : decode cX12_cheapest 66 = .ok (.iload 4, 2) := by decide +kernel
theorem dX12_cheapest_68 : decode cX12_cheapest 68 = .ok (.ireturn, 1) := by decide +kernel
theorem dX12_freeHours_0 : decode cX12_freeHours 0 = .ok (.aload_n 0, 1) := by decide +kernel
theorem dX12_freeHours_1 : decode cX12_freeHours 1 = .ok (.aload_n 0, 1) := by decide +kernel
theorem dX12_freeHours_2 : decode cX12_freeHours 2 = .ok (.iload_n 2, 1) := by decide +kernel
theorem dX12_freeHours_3 : decode cX12_freeHours 3 = .ok (.i2l, 1) := by decide +kernel
theorem dX12_freeHours_4 : decode cX12_freeHours 4 = .ok (.invokevirtual 371, 3) := by decide +kernel
theorem dX12_freeHours_7 : decode cX12_freeHours 7 = .ok (.ifCond .ne 7, 3) := by decide +kernel
theorem dX12_freeHours_10 : decode cX12_freeHours 10 = .ok (.iconst 1, 1) := by decide +kernel
theorem dX12_freeHours_11 : decode cX12_freeHours 11 = .ok (.goto 27, 3) := by decide +kernel
theorem dX12_freeHours_14 : decode cX12_freeHours 14 = .ok (.iload_n 1, 1) := by decide +kernel
theorem dX12_freeHours_15 : decode cX12_freeHours 15 = .ok (.invokestatic 389, 3) := by decide +kernel
theorem dX12_freeHours_18 : decode cX12_freeHours 18 = .ok (.ifCond .eq 19, 3) := by decide +kernel
theorem dX12_freeHours_21 : decode cX12_freeHours 21 = .ok (.iload_n 3, 1) := by decide +kernel
theorem dX12_freeHours_22 : decode cX12_freeHours 22 = .ok (.i2l, 1) := by decide +kernel
theorem dX12_freeHours_23 : decode cX12_freeHours 23 = .ok (.lconst 1, 1) := by decide +kernel
theorem dX12_freeHours_24 : decode cX12_freeHours 24 = .ok (.ldc2_w 486, 3) := by decide +kernel
theorem dX12_freeHours_27 : decode cX12_freeHours 27 = .ok (.invokestatic 158, 3) := by decide +kernel
theorem dX12_freeHours_30 : decode cX12_freeHours 30 = .ok (.ifCond .eq 7, 3) := by decide +kernel
theorem dX12_freeHours_33 : decode cX12_freeHours 33 = .ok (.iconst 0, 1) := by decide +kernel
theorem dX12_freeHours_34 : decode cX12_freeHours 34 = .ok (.goto 4, 3) := by decide +kernel
theorem dX12_freeHours_37 : decode cX12_freeHours 37 = .ok (.iconst 2, 1) := by decide +kernel
theorem dX12_freeHours_38 : decode cX12_freeHours 38 = .ok (.putfield 97, 3) := by decide +kernel
theorem dX12_freeHours_41 : decode cX12_freeHours 41 = .ok (.aload_n 0, 1) := by decide +kernel
theorem dX12_freeHours_42 : decode cX12_freeHours 42 = .ok (.getfield 97, 3) := by decide +kernel
theorem dX12_freeHours_45 : decode cX12_freeHours 45 = .ok (.ifCond .le 5, 3) := by decide +kernel
theorem dX12_freeHours_48 : decode cX12_freeHours 48 = .ok (.iconst 0, 1) := by decide +kernel
theorem dX12_freeHours_49 : decode cX12_freeHours 49 = .ok (.ireturn, 1) := by decide +kernel
theorem dX12_freeHours_50 : decode cX12_freeHours 50 = .ok (.aload_n 0, 1) := by decide +kernel
theorem dX12_freeHours_51 : decode cX12_freeHours 51 = .ok (.iconst 0, 1) := by decide +kernel
theorem dX12_freeHours_52 : decode cX12_freeHours 52 = .ok (.iload_n 1, 1) := by decide +kernel
theorem dX12_freeHours_53 : decode cX12_freeHours 53 = .ok (.iload_n 2, 1) := by decide +kernel
theorem dX12_freeHours_54 : decode cX12_freeHours 54 = .ok (.iload_n 3, 1) := by decide +kernel
theorem dX12_freeHours_55 : decode cX12_freeHours 55 = .ok (.invokevirtual 398, 3) := by decide +kernel
theorem dX12_freeHours_58 : decode cX12_freeHours 58 = .ok (.iconst 0, 1) := by decide +kernel
theorem dX12_freeHours_59 : decode cX12_freeHours 59 = .ok (.istore 4, 2) := by decide +kernel
theorem dX12_freeHours_61 : decode cX12_freeHours 61 = .ok (.iconst 0, 1) := by decide +kernel
theorem dX12_freeHours_62 : decode cX12_freeHours 62 = .ok (.istore 5, 2) := by decide +kernel
theorem dX12_freeHours_64 : decode cX12_freeHours 64 = .ok (.iload 5, 2) := by decide +kernel
theorem dX12_freeHours_66 : decode cX12_freeHours 66 = .ok (.iload_n 3, 1) := by decide +kernel
theorem dX12_freeHours_67 : decode cX12_freeHours 67 = .ok (.if_icmp .ge 29, 3) := by decide +kernel
theorem dX12_freeHours_70 : decode cX12_freeHours 70 = .ok (.iload 4, 2) := by decide +kernel
theorem dX12_freeHours_72 : decode cX12_freeHours 72 = .ok (.aload_n 0, 1) := by decide +kernel
theorem dX12_freeHours_73 : decode cX12_freeHours 73 = .ok (.getfield 45, 3) := by decide +kernel
theorem dX12_freeHours_76 : decode cX12_freeHours 76 = .ok (.iload 5, 2) := by decide +kernel
theorem dX12_freeHours_78 : decode cX12_freeHours 78 = .ok (.baload, 1) := by decide +kernel
theorem dX12_freeHours_79 : decode cX12_freeHours 79 = .ok (.ifCond .eq 7, 3) := by decide +kernel
theorem dX12_freeHours_82 : decode cX12_freeHours 82 = .ok (.iconst 0, 1) := by decide +kernel
theorem dX12_freeHours_83 : decode cX12_freeHours 83 = .ok (.goto 4, 3) := by decide +kernel
theorem dX12_freeHours_86 : decode cX12_freeHours 86 = .ok (.iconst 1, 1) := by decide +kernel
theorem dX12_freeHours_87 : decode cX12_freeHours 87 = .ok (.iadd, 1) := by decide +kernel
theorem dX12_freeHours_88 : decode cX12_freeHours 88 = .ok (.istore 4, 2) := by decide +kernel
theorem dX12_freeHours_90 : decode cX12_freeHours 90 = .ok (.iinc 5 1, 3) := by decide +kernel
theorem dX12_freeHours_93 : decode cX12_freeHours 93 = .ok (.goto (-29), 3) := by decide +kernel
theorem dX12_freeHours_96 : decode cX12_freeHours 96 = .ok (.iload 4, 2) := by decide +kernel
theorem dX12_freeHours_98 : decode cX12_freeHours 98 = .ok (.ireturn, 1) := by decide +kernel
theorem dX12_spell_0 : decode cX12_spell 0 = .ok (.aload_n 0, 1) := by decide +kernel
theorem dX12_spell_1 : decode cX12_spell 1 = .ok (.aload_n 0, 1) := by decide +kernel
theorem dX12_spell_2 : decode cX12_spell 2 = .ok (.iload_n 2, 1) := by decide +kernel
theorem dX12_spell_3 : decode cX12_spell 3 = .ok (.i2l, 1) := by decide +kernel
theorem dX12_spell_4 : decode cX12_spell 4 = .ok (.invokevirtual 371, 3) := by decide +kernel
theorem dX12_spell_7 : decode cX12_spell 7 = .ok (.ifCond .ne 7, 3) := by decide +kernel
theorem dX12_spell_10 : decode cX12_spell 10 = .ok (.iconst 1, 1) := by decide +kernel
theorem dX12_spell_11 : decode cX12_spell 11 = .ok (.goto 38, 3) := by decide +kernel
theorem dX12_spell_14 : decode cX12_spell 14 = .ok (.iload_n 1, 1) := by decide +kernel
theorem dX12_spell_15 : decode cX12_spell 15 = .ok (.invokestatic 389, 3) := by decide +kernel
theorem dX12_spell_18 : decode cX12_spell 18 = .ok (.ifCond .eq 30, 3) := by decide +kernel
theorem dX12_spell_21 : decode cX12_spell 21 = .ok (.iload_n 3, 1) := by decide +kernel
theorem dX12_spell_22 : decode cX12_spell 22 = .ok (.i2l, 1) := by decide +kernel
theorem dX12_spell_23 : decode cX12_spell 23 = .ok (.lconst 1, 1) := by decide +kernel
theorem dX12_spell_24 : decode cX12_spell 24 = .ok (.ldc2_w 486, 3) := by decide +kernel
theorem dX12_spell_27 : decode cX12_spell 27 = .ok (.invokestatic 158, 3) := by decide +kernel
theorem dX12_spell_30 : decode cX12_spell 30 = .ok (.ifCond .eq 18, 3) := by decide +kernel
theorem dX12_spell_33 : decode cX12_spell 33 = .ok (.iload 4, 2) := by decide +kernel
theorem dX12_spell_35 : decode cX12_spell 35 = .ok (.i2l, 1) := by decide +kernel
theorem dX12_spell_36 : decode cX12_spell 36 = .ok (.lconst 0, 1) := by decide +kernel
theorem dX12_spell_37 : decode cX12_spell 37 = .ok (.lconst 1, 1) := by decide +kernel
theorem dX12_spell_38 : decode cX12_spell 38 = .ok (.invokestatic 158, 3) := by decide +kernel
theorem dX12_spell_41 : decode cX12_spell 41 = .ok (.ifCond .eq 7, 3) := by decide +kernel
theorem dX12_spell_44 : decode cX12_spell 44 = .ok (.iconst 0, 1) := by decide +kernel
theorem dX12_spell_45 : decode cX12_spell 45 = .ok (.goto 4, 3) := by decide +kernel
theorem dX12_spell_48 : decode cX12_spell 48 = .ok (.iconst 2, 1) := by decide +kernel
theorem dX12_spell_49 : decode cX12_spell 49 = .ok (.putfield 97, 3) := by decide +kernel
theorem dX12_spell_52 : decode cX12_spell 52 = .ok (.aload_n 0, 1) := by decide +kernel
theorem dX12_spell_53 : decode cX12_spell 53 = .ok (.getfield 97, 3) := by decide +kernel
theorem dX12_spell_56 : decode cX12_spell 56 = .ok (.ifCond .le 5, 3) := by decide +kernel
theorem dX12_spell_59 : decode cX12_spell 59 = .ok (.iconst 0, 1) := by decide +kernel
theorem dX12_spell_60 : decode cX12_spell 60 = .ok (.ireturn, 1) := by decide +kernel
theorem dX12_spell_61 : decode cX12_spell 61 = .ok (.aload_n 0, 1) := by decide +kernel
theorem dX12_spell_62 : decode cX12_spell 62 = .ok (.iconst 0, 1) := by decide +kernel
theorem dX12_spell_63 : decode cX12_spell 63 = .ok (.iload_n 1, 1) := by decide +kernel
theorem dX12_spell_64 : decode cX12_spell 64 = .ok (.iload_n 2, 1) := by decide +kernel
theorem dX12_spell_65 : decode cX12_spell 65 = .ok (.iload_n 3, 1) := by decide +kernel
theorem dX12_spell_66 : decode cX12_spell 66 = .ok (.invokevirtual 398, 3) := by decide +kernel
theorem dX12_spell_69 : decode cX12_spell 69 = .ok (.iconst 0, 1) := by decide +kernel
theorem dX12_spell_70 : decode cX12_spell 70 = .ok (.istore 5, 2) := by decide +kernel
theorem dX12_spell_72 : decode cX12_spell 72 = .ok (.iconst (-1), 1) := by decide +kernel
theorem dX12_spell_73 : decode cX12_spell 73 = .ok (.istore 6, 2) := by decide +kernel
theorem dX12_spell_75 : decode cX12_spell 75 = .ok (.iconst 0, 1) := by decide +kernel
theorem dX12_spell_76 : decode cX12_spell 76 = .ok (.istore 7, 2) := by decide +kernel
theorem dX12_spell_78 : decode cX12_spell 78 = .ok (.iconst 0, 1) := by decide +kernel
theorem dX12_spell_79 : decode cX12_spell 79 = .ok (.istore 8, 2) := by decide +kernel
theorem dX12_spell_81 : decode cX12_spell 81 = .ok (.iload 8, 2) := by decide +kernel
theorem dX12_spell_83 : decode cX12_spell 83 = .ok (.iload_n 3, 1) := by decide +kernel
theorem dX12_spell_84 : decode cX12_spell 84 = .ok (.if_icmp .ge 52, 3) := by decide +kernel
theorem dX12_spell_87 : decode cX12_spell 87 = .ok (.aload_n 0, 1) := by decide +kernel
theorem dX12_spell_88 : decode cX12_spell 88 = .ok (.getfield 45, 3) := by decide +kernel
theorem dX12_spell_91 : decode cX12_spell 91 = .ok (.iload 8, 2) := by decide +kernel
theorem dX12_spell_93 : decode cX12_spell 93 = .ok (.baload, 1) := by decide +kernel
theorem dX12_spell_94 : decode cX12_spell 94 = .ok (.ifCond .eq 7, 3) := by decide +kernel
theorem dX12_spell_97 : decode cX12_spell 97 = .ok (.iconst 0, 1) := by decide +kernel
theorem dX12_spell_98 : decode cX12_spell 98 = .ok (.goto 7, 3) := by decide +kernel
theorem dX12_spell_101 : decode cX12_spell 101 = .ok (.iload 7, 2) := by decide +kernel
theorem dX12_spell_103 : decode cX12_spell 103 = .ok (.iconst 1, 1) := by decide +kernel
theorem dX12_spell_104 : decode cX12_spell 104 = .ok (.iadd, 1) := by decide +kernel
theorem dX12_spell_105 : decode cX12_spell 105 = .ok (.istore 7, 2) := by decide +kernel
theorem dX12_spell_107 : decode cX12_spell 107 = .ok (.iload 7, 2) := by decide +kernel
theorem dX12_spell_109 : decode cX12_spell 109 = .ok (.iload 5, 2) := by decide +kernel
theorem dX12_spell_111 : decode cX12_spell 111 = .ok (.if_icmp .gt 6, 3) := by decide +kernel
theorem dX12_spell_114 : decode cX12_spell 114 = .ok (.goto 16, 3) := by decide +kernel
theorem dX12_spell_117 : decode cX12_spell 117 = .ok (.iload 7, 2) := by decide +kernel
theorem dX12_spell_119 : decode cX12_spell 119 = .ok (.istore 5, 2) := by decide +kernel
theorem dX12_spell_121 : decode cX12_spell 121 = .ok (.iload 8, 2) := by decide +kernel
theorem dX12_spell_123 : decode cX12_spell 123 = .ok (.iload 7, 2) := by decide +kernel
theorem dX12_spell_125 : decode cX12_spell 125 = .ok (.isub, 1) := by decide +kernel
theorem dX12_spell_126 : decode cX12_spell 126 = .ok (.iconst 1, 1) := by decide +kernel
theorem dX12_spell_127 : decode cX12_spell 127 = .ok (.iadd, 1) := by decide +kernel
theorem dX12_spell_128 : decode cX12_spell 128 = .ok (.istore 6, 2) := by decide +kernel
theorem dX12_spell_130 : decode cX12_spell 130 = .ok (.iinc 8 1, 3) := by decide +kernel
theorem dX12_spell_133 : decode cX12_spell 133 = .ok (.goto (-52), 3) := by decide +kernel
theorem dX12_spell_136 : decode cX12_spell 136 = .ok (.iload 4, 2) := by decide +kernel
theorem dX12_spell_138 : decode cX12_spell 138 = .ok (.ifCond .ne 8, 3) := by decide +kernel
theorem dX12_spell_141 : decode cX12_spell 141 = .ok (.iload 5, 2) := by decide +kernel
theorem dX12_spell_143 : decode cX12_spell 143 = .ok (.goto 5, 3) := by decide +kernel
theorem dX12_spell_146 : decode cX12_spell 146 = .ok (.iload 6, 2) := by decide +kernel
theorem dX12_spell_148 : decode cX12_spell 148 = .ok (.ireturn, 1) := by decide +kernel
theorem dX12_lawless_0 : decode cX12_lawless 0 = .ok (.aload_n 0, 1) := by decide +kernel
theorem dX12_lawless_1 : decode cX12_lawless 1 = .ok (.iconst 0, 1) := by decide +kernel
theorem dX12_lawless_2 : decode cX12_lawless 2 = .ok (.putfield 97, 3) := by decide +kernel
theorem dX12_lawless_5 : decode cX12_lawless 5 = .ok (.aload_n 0, 1) := by decide +kernel
theorem dX12_lawless_6 : decode cX12_lawless 6 = .ok (.iload_n 1, 1) := by decide +kernel
theorem dX12_lawless_7 : decode cX12_lawless 7 = .ok (.i2l, 1) := by decide +kernel
theorem dX12_lawless_8 : decode cX12_lawless 8 = .ok (.invokevirtual 371, 3) := by decide +kernel
theorem dX12_lawless_11 : decode cX12_lawless 11 = .ok (.ifCond .ne 9, 3) := by decide +kernel
theorem dX12_lawless_14 : decode cX12_lawless 14 = .ok (.aload_n 0, 1) := by decide +kernel
theorem dX12_lawless_15 : decode cX12_lawless 15 = .ok (.iconst 1, 1) := by decide +kernel
theorem dX12_lawless_16 : decode cX12_lawless 16 = .ok (.invokevirtual 282, 3) := by decide +kernel
theorem dX12_lawless_19 : decode cX12_lawless 19 = .ok (.ireturn, 1) := by decide +kernel
theorem dX12_lawless_20 : decode cX12_lawless 20 = .ok (.aload_n 0, 1) := by decide +kernel
theorem dX12_lawless_21 : decode cX12_lawless 21 = .ok (.iload_n 1, 1) := by decide +kernel
theorem dX12_lawless_22 : decode cX12_lawless 22 = .ok (.aload_n 0, 1) := by decide +kernel
theorem dX12_lawless_23 : decode cX12_lawless 23 = .ok (.invokevirtual 347, 3) := by decide +kernel
theorem dX12_lawless_26 : decode cX12_lawless 26 = .ok (.invokevirtual 360, 3) := by decide +kernel
theorem dX12_lawless_29 : decode cX12_lawless 29 = .ok (.aload_n 0, 1) := by decide +kernel
theorem dX12_lawless_30 : decode cX12_lawless 30 = .ok (.iload_n 1, 1) := by decide +kernel
theorem dX12_lawless_31 : decode cX12_lawless 31 = .ok (.aload_n 0, 1) := by decide +kernel
theorem dX12_lawless_32 : decode cX12_lawless 32 = .ok (.getfield 9, 3) := by decide +kernel
theorem dX12_lawless_35 : decode cX12_lawless 35 = .ok (.bipush 54, 2) := by decide +kernel
theorem dX12_lawless_37 : decode cX12_lawless 37 = .ok (.iaload, 1) := by decide +kernel
theorem dX12_lawless_38 : decode cX12_lawless 38 = .ok (.sipush 201, 3) := by decide +kernel
theorem dX12_lawless_41 : decode cX12_lawless 41 = .ok (.invokevirtual 363, 3) := by decide +kernel
theorem dX12_lawless_44 : decode cX12_lawless 44 = .ok (.iconst 0, 1) := by decide +kernel
theorem dX12_lawless_45 : decode cX12_lawless 45 = .ok (.istore_n 2, 1) := by decide +kernel
theorem dX12_lawless_46 : decode cX12_lawless 46 = .ok (.iload_n 2, 1) := by decide +kernel
theorem dX12_lawless_47 : decode cX12_lawless 47 = .ok (.sipush 200, 3) := by decide +kernel
theorem dX12_lawless_50 : decode cX12_lawless 50 = .ok (.if_icmp .gt 41, 3) := by decide +kernel
theorem dX12_lawless_53 : decode cX12_lawless 53 = .ok (.aload_n 0, 1) := by decide +kernel
theorem dX12_lawless_54 : decode cX12_lawless 54 = .ok (.getfield 36, 3) := by decide +kernel
theorem dX12_lawless_57 : decode cX12_lawless 57 = .ok (.bipush 100, 2) := by decide +kernel
theorem dX12_lawless_59 : decode cX12_lawless 59 = .ok (.aload_n 0, 1) := by decide +kernel
theorem dX12_lawless_60 : decode cX12_lawless 60 = .ok (.getfield 9, 3) := by decide +kernel
theorem dX12_lawless_63 : decode cX12_lawless 63 = .ok (.bipush 54, 2) := by decide +kernel
theorem dX12_lawless_65 : decode cX12_lawless 65 = .ok (.iaload, 1) := by decide +kernel
theorem dX12_lawless_66 : decode cX12_lawless 66 = .ok (.iload_n 2, 1) := by decide +kernel
theorem dX12_lawless_67 : decode cX12_lawless 67 = .ok (.iadd, 1) := by decide +kernel
theorem dX12_lawless_68 : decode cX12_lawless 68 = .ok (.bipush 24, 2) := by decide +kernel
theorem dX12_lawless_70 : decode cX12_lawless 70 = .ok (.irem, 1) := by decide +kernel
theorem dX12_lawless_71 : decode cX12_lawless 71 = .ok (.imul, 1) := by decide +kernel
theorem dX12_lawless_72 : decode cX12_lawless 72 = .ok (.aload_n 0, 1) := by decide +kernel
theorem dX12_lawless_73 : decode cX12_lawless 73 = .ok (.getfield 39, 3) := by decide +kernel
theorem dX12_lawless_76 : decode cX12_lawless 76 = .ok (.iload_n 2, 1) := by decide +kernel
theorem dX12_lawless_77 : decode cX12_lawless 77 = .ok (.iaload, 1) := by decide +kernel
theorem dX12_lawless_78 : decode cX12_lawless 78 = .ok (.iadd, 1) := by decide +kernel
theorem dX12_lawless_79 : decode cX12_lawless 79 = .ok (.iaload, 1) := by decide +kernel
theorem dX12_lawless_80 : decode cX12_lawless 80 = .ok (.ifCond .ne 5, 3) := by decide +kernel
theorem dX12_lawless_83 : decode cX12_lawless 83 = .ok (.iload_n 2, 1) := by decide +kernel
theorem dX12_lawless_84 : decode cX12_lawless 84 = .ok (.ireturn, 1) := by decide +kernel
theorem dX12_lawless_85 : decode cX12_lawless 85 = .ok (.iinc 2 1, 3) := by decide +kernel
theorem dX12_lawless_88 : decode cX12_lawless 88 = .ok (.goto (-42), 3) := by decide +kernel
theorem dX12_lawless_91 : decode cX12_lawless 91 = .ok (.iconst (-1), 1) := by decide +kernel
theorem dX12_lawless_92 : decode cX12_lawless 92 = .ok (.ireturn, 1) := by decide +kernel
theorem dX12_barredHours_0 : decode cX12_barredHours 0 = .ok (.iconst 0, 1) := by decide +kernel
theorem dX12_barredHours_1 : decode cX12_barredHours 1 = .ok (.istore_n 1, 1) := by decide +kernel
theorem dX12_barredHours_2 : decode cX12_barredHours 2 = .ok (.iconst 0, 1) := by decide +kernel
theorem dX12_barredHours_3 : decode cX12_barredHours 3 = .ok (.istore_n 2, 1) := by decide +kernel
theorem dX12_barredHours_4 : decode cX12_barredHours 4 = .ok (.iload_n 2, 1) := by decide +kernel
theorem dX12_barredHours_5 : decode cX12_barredHours 5 = .ok (.bipush 24, 2) := by decide +kernel
theorem dX12_barredHours_7 : decode cX12_barredHours 7 = .ok (.if_icmp .ge 26, 3) := by decide +kernel
theorem dX12_barredHours_10 : decode cX12_barredHours 10 = .ok (.iload_n 1, 1) := by decide +kernel
theorem dX12_barredHours_11 : decode cX12_barredHours 11 = .ok (.aload_n 0, 1) := by decide +kernel
theorem dX12_barredHours_12 : decode cX12_barredHours 12 = .ok (.getfield 45, 3) := by decide +kernel
theorem dX12_barredHours_15 : decode cX12_barredHours 15 = .ok (.iload_n 2, 1) := by decide +kernel
theorem dX12_barredHours_16 : decode cX12_barredHours 16 = .ok (.baload, 1) := by decide +kernel
theorem dX12_barredHours_17 : decode cX12_barredHours 17 = .ok (.ifCond .eq 7, 3) := by decide +kernel
theorem dX12_barredHours_20 : decode cX12_barredHours 20 = .ok (.iconst 1, 1) := by decide +kernel
theorem dX12_barredHours_21 : decode cX12_barredHours 21 = .ok (.goto 4, 3) := by decide +kernel
theorem dX12_barredHours_24 : decode cX12_barredHours 24 = .ok (.iconst 0, 1) := by decide +kernel
theorem dX12_barredHours_25 : decode cX12_barredHours 25 = .ok (.iadd, 1) := by decide +kernel
theorem dX12_barredHours_26 : decode cX12_barredHours 26 = .ok (.istore_n 1, 1) := by decide +kernel
theorem dX12_barredHours_27 : decode cX12_barredHours 27 = .ok (.iinc 2 1, 3) := by decide +kernel
theorem dX12_barredHours_30 : decode cX12_barredHours 30 = .ok (.goto (-26), 3) := by decide +kernel
theorem dX12_barredHours_33 : decode cX12_barredHours 33 = .ok (.iload_n 1, 1) := by decide +kernel
theorem dX12_barredHours_34 : decode cX12_barredHours 34 = .ok (.ireturn, 1) := by decide +kernel
theorem dX12_alwaysBarred_0 : decode cX12_alwaysBarred 0 = .ok (.aload_n 0, 1) := by decide +kernel
theorem dX12_alwaysBarred_1 : decode cX12_alwaysBarred 1 = .ok (.iconst 0, 1) := by decide +kernel
theorem dX12_alwaysBarred_2 : decode cX12_alwaysBarred 2 = .ok (.putfield 97, 3) := by decide +kernel
theorem dX12_alwaysBarred_5 : decode cX12_alwaysBarred 5 = .ok (.iconst 0, 1) := by decide +kernel
theorem dX12_alwaysBarred_6 : decode cX12_alwaysBarred 6 = .ok (.istore_n 1, 1) := by decide +kernel
theorem dX12_alwaysBarred_7 : decode cX12_alwaysBarred 7 = .ok (.iconst 0, 1) := by decide +kernel
theorem dX12_alwaysBarred_8 : decode cX12_alwaysBarred 8 = .ok (.istore_n 2, 1) := by decide +kernel
theorem dX12_alwaysBarred_9 : decode cX12_alwaysBarred 9 = .ok (.iload_n 2, 1) := by decide +kernel
theorem dX12_alwaysBarred_10 : decode cX12_alwaysBarred 10 = .ok (.aload_n 0, 1) := by decide +kernel
theorem dX12_alwaysBarred_11 : decode cX12_alwaysBarred 11 = .ok (.invokevirtual 291, 3) := by decide +kernel
theorem dX12_alwaysBarred_14 : decode cX12_alwaysBarred 14 = .ok (.if_icmp .ge 81, 3) := by decide +kernel
theorem dX12_alwaysBarred_17 : decode cX12_alwaysBarred 17 = .ok (.aload_n 0, 1) := by decide +kernel
theorem dX12_alwaysBarred_18 : decode cX12_alwaysBarred 18 = .ok (.iload_n 2, 1) := by decide +kernel
theorem dX12_alwaysBarred_19 : decode cX12_alwaysBarred 19 = .ok (.aload_n 0, 1) := by decide +kernel
theorem dX12_alwaysBarred_20 : decode cX12_alwaysBarred 20 = .ok (.invokevirtual 347, 3) := by decide +kernel
theorem dX12_alwaysBarred_23 : decode cX12_alwaysBarred 23 = .ok (.invokevirtual 360, 3) := by decide +kernel
theorem dX12_alwaysBarred_26 : decode cX12_alwaysBarred 26 = .ok (.aload_n 0, 1) := by decide +kernel
theorem dX12_alwaysBarred_27 : decode cX12_alwaysBarred 27 = .ok (.iload_n 2, 1) := by decide +kernel
theorem dX12_alwaysBarred_28 : decode cX12_alwaysBarred 28 = .ok (.aload_n 0, 1) := by decide +kernel
theorem dX12_alwaysBarred_29 : decode cX12_alwaysBarred 29 = .ok (.getfield 9, 3) := by decide +kernel
theorem dX12_alwaysBarred_32 : decode cX12_alwaysBarred 32 = .ok (.bipush 54, 2) := by decide +kernel
theorem dX12_alwaysBarred_34 : decode cX12_alwaysBarred 34 = .ok (.iaload, 1) := by decide +kernel
theorem dX12_alwaysBarred_35 : decode cX12_alwaysBarred 35 = .ok (.bipush 24, 2) := by decide +kernel
theorem dX12_alwaysBarred_37 : decode cX12_alwaysBarred 37 = .ok (.invokevirtual 363, 3) := by decide +kernel
theorem dX12_alwaysBarred_40 : decode cX12_alwaysBarred 40 = .ok (.iconst 0, 1) := by decide +kernel
theorem dX12_alwaysBarred_41 : decode cX12_alwaysBarred 41 = .ok (.istore_n 3, 1) := by decide +kernel
theorem dX12_alwaysBarred_42 : decode cX12_alwaysBarred 42 = .ok (.iload_n 3, 1) := by decide +kernel
theorem dX12_alwaysBarred_43 : decode cX12_alwaysBarred 43 = .ok (.bipush 10, 2) := by decide +kernel
theorem dX12_alwaysBarred_45 : decode cX12_alwaysBarred 45 = .ok (.if_icmp .ge 44, 3) := by decide +kernel
theorem dX12_alwaysBarred_48 : decode cX12_alwaysBarred 48 = .ok (.aload_n 0, 1) := by decide +kernel
theorem dX12_alwaysBarred_49 : decode cX12_alwaysBarred 49 = .ok (.iconst 0, 1) := by decide +kernel
theorem dX12_alwaysBarred_50 : decode cX12_alwaysBarred 50 = .ok (.iload_n 3, 1) := by decide +kernel
theorem dX12_alwaysBarred_51 : decode cX12_alwaysBarred 51 = .ok (.aload_n 0, 1) := by decide +kernel
theorem dX12_alwaysBarred_52 : decode cX12_alwaysBarred 52 = .ok (.getfield 9, 3) := by decide +kernel
theorem dX12_alwaysBarred_55 : decode cX12_alwaysBarred 55 = .ok (.bipush 54, 2) := by decide +kernel
theorem dX12_alwaysBarred_57 : decode cX12_alwaysBarred 57 = .ok (.iaload, 1) := by decide +kernel
theorem dX12_alwaysBarred_58 : decode cX12_alwaysBarred 58 = .ok (.bipush 24, 2) := by decide +kernel
theorem dX12_alwaysBarred_60 : decode cX12_alwaysBarred 60 = .ok (.iconst 0, 1) := by decide +kernel
theorem dX12_alwaysBarred_61 : decode cX12_alwaysBarred 61 = .ok (.invokevirtual 367, 3) := by decide +kernel
theorem dX12_alwaysBarred_64 : decode cX12_alwaysBarred 64 = .ok (.iload_n 1, 1) := by decide +kernel
theorem dX12_alwaysBarred_65 : decode cX12_alwaysBarred 65 = .ok (.aload_n 0, 1) := by decide +kernel
theorem dX12_alwaysBarred_66 : decode cX12_alwaysBarred 66 = .ok (.invokevirtual 488, 3) := by decide +kernel
theorem dX12_alwaysBarred_69 : decode cX12_alwaysBarred 69 = .ok (.bipush 24, 2) := by decide +kernel
theorem dX12_alwaysBarred_71 : decode cX12_alwaysBarred 71 = .ok (.if_icmp .ne 9, 3) := by decide +kernel
theorem dX12_alwaysBarred_74 : decode cX12_alwaysBarred 74 = .ok (.iconst 1, 1) := by decide +kernel
theorem dX12_alwaysBarred_75 : decode cX12_alwaysBarred 75 = .ok (.iload_n 3, 1) := by decide +kernel
theorem dX12_alwaysBarred_76 : decode cX12_alwaysBarred 76 = .ok (.ishl, 1) := by decide +kernel
theorem dX12_alwaysBarred_77 : decode cX12_alwaysBarred 77 = .ok (.goto 4, 3) := by decide +kernel
theorem dX12_alwaysBarred_80 : decode cX12_alwaysBarred 80 = .ok (.iconst 0, 1) := by decide +kernel
theorem dX12_alwaysBarred_81 : decode cX12_alwaysBarred 81 = .ok (.ior, 1) := by decide +kernel
theorem dX12_alwaysBarred_82 : decode cX12_alwaysBarred 82 = .ok (.istore_n 1, 1) := by decide +kernel
theorem dX12_alwaysBarred_83 : decode cX12_alwaysBarred 83 = .ok (.iinc 3 1, 3) := by decide +kernel
theorem dX12_alwaysBarred_86 : decode cX12_alwaysBarred 86 = .ok (.goto (-44), 3) := by decide +kernel
theorem dX12_alwaysBarred_89 : decode cX12_alwaysBarred 89 = .ok (.iinc 2 1, 3) := by decide +kernel
theorem dX12_alwaysBarred_92 : decode cX12_alwaysBarred 92 = .ok (.goto (-83), 3) := by decide +kernel
theorem dX12_alwaysBarred_95 : decode cX12_alwaysBarred 95 = .ok (.iload_n 1, 1) := by decide +kernel
theorem dX12_alwaysBarred_96 : decode cX12_alwaysBarred 96 = .ok (.ireturn, 1) := by decide +kernel
theorem dX12_strictest_0 : decode cX12_strictest 0 = .ok (.aload_n 0, 1) := by decide +kernel
theorem dX12_strictest_1 : decode cX12_strictest 1 = .ok (.iconst 0, 1) := by decide +kernel
theorem dX12_strictest_2 : decode cX12_strictest 2 = .ok (.putfield 97, 3) := by decide +kernel
theorem dX12_strictest_5 : decode cX12_strictest 5 = .ok (.iconst 0, 1) := by decide +kernel
theorem dX12_strictest_6 : decode cX12_strictest 6 = .ok (.istore_n 1, 1) := by decide +kernel
theorem dX12_strictest_7 : decode cX12_strictest 7 = .ok (.iload_n 1, 1) := by decide +kernel
theorem dX12_strictest_8 : decode cX12_strictest 8 = .ok (.sipush 200, 3) := by decide +kernel
theorem dX12_strictest_11 : decode cX12_strictest 11 = .ok (.if_icmp .gt 16, 3) := by decide +kernel
theorem dX12_strictest_14 : decode cX12_strictest 14 = .ok (.aload_n 0, 1) := by decide +kernel
theorem dX12_strictest_15 : decode cX12_strictest 15 = .ok (.getfield 51, 3) := by decide +kernel
theorem dX12_strictest_18 : decode cX12_strictest 18 = .ok (.iload_n 1, 1) := by decide +kernel
theorem dX12_strictest_19 : decode cX12_strictest 19 = .ok (.iconst 0, 1) := by decide +kernel
theorem dX12_strictest_20 : decode cX12_strictest 20 = .ok (.iastore, 1) := by decide +kernel
theorem dX12_strictest_21 : decode cX12_strictest 21 = .ok (.iinc 1 1, 3) := by decide +kernel
theorem dX12_strictest_24 : decode cX12_strictest 24 = .ok (.goto (-17), 3) := by decide +kernel
theorem dX12_strictest_27 : decode cX12_strictest 27 = .ok (.iconst 0, 1) := by decide +kernel
theorem dX12_strictest_28 : decode cX12_strictest 28 = .ok (.istore_n 1, 1) := by decide +kernel
theorem dX12_strictest_29 : decode cX12_strictest 29 = .ok (.iload_n 1, 1) := by decide +kernel
theorem dX12_strictest_30 : decode cX12_strictest 30 = .ok (.aload_n 0, 1) := by decide +kernel
theorem dX12_strictest_31 : decode cX12_strictest 31 = .ok (.invokevirtual 291, 3) := by decide +kernel
theorem dX12_strictest_34 : decode cX12_strictest 34 = .ok (.if_icmp .ge 87, 3) := by decide +kernel
theorem dX12_strictest_37 : decode cX12_strictest 37 = .ok (.aload_n 0, 1) := by decide +kernel
theorem dX12_strictest_38 : decode cX12_strictest 38 = .ok (.iload_n 1, 1) := by decide +kernel
theorem dX12_strictest_39 : decode cX12_strictest 39 = .ok (.aload_n 0, 1) := by decide +kernel
theorem dX12_strictest_40 : decode cX12_strictest 40 = .ok (.invokevirtual 347, 3) := by decide +kernel
theorem dX12_strictest_43 : decode cX12_strictest 43 = .ok (.invokevirtual 360, 3) := by decide +kernel
theorem dX12_strictest_46 : decode cX12_strictest 46 = .ok (.aload_n 0, 1) := by decide +kernel
theorem dX12_strictest_47 : decode cX12_strictest 47 = .ok (.iload_n 1, 1) := by decide +kernel
theorem dX12_strictest_48 : decode cX12_strictest 48 = .ok (.aload_n 0, 1) := by decide +kernel
theorem dX12_strictest_49 : decode cX12_strictest 49 = .ok (.getfield 9, 3) := by decide +kernel
theorem dX12_strictest_52 : decode cX12_strictest 52 = .ok (.bipush 54, 2) := by decide +kernel
theorem dX12_strictest_54 : decode cX12_strictest 54 = .ok (.iaload, 1) := by decide +kernel
theorem dX12_strictest_55 : decode cX12_strictest 55 = .ok (.sipush 201, 3) := by decide +kernel
theorem dX12_strictest_58 : decode cX12_strictest 58 = .ok (.invokevirtual 363, 3) := by decide +kernel
theorem dX12_strictest_61 : decode cX12_strictest 61 = .ok (.iconst 0, 1) := by decide +kernel
theorem dX12_strictest_62 : decode cX12_strictest 62 = .ok (.istore_n 2, 1) := by decide +kernel
theorem dX12_strictest_63 : decode cX12_strictest 63 = .ok (.iload_n 2, 1) := by decide +kernel
theorem dX12_strictest_64 : decode cX12_strictest 64 = .ok (.sipush 200, 3) := by decide +kernel
theorem dX12_strictest_67 : decode cX12_strictest 67 = .ok (.if_icmp .gt 48, 3) := by decide +kernel
theorem dX12_strictest_70 : decode cX12_strictest 70 = .ok (.aload_n 0, 1) := by decide +kernel
theorem dX12_strictest_71 : decode cX12_strictest 71 = .ok (.getfield 51, 3) := by decide +kernel
theorem dX12_strictest_74 : decode cX12_strictest 74 = .ok (.iload_n 2, 1) := by decide +kernel
theorem dX12_strictest_75 : decode cX12_strictest 75 = .ok (.dup2, 1) := by decide +kernel
theorem dX12_strictest_76 : decode cX12_strictest 76 = .ok (.iaload, 1) := by decide +kernel
theorem dX12_strictest_77 : decode cX12_strictest 77 = .ok (.aload_n 0, 1) := by decide +kernel
theorem dX12_strictest_78 : decode cX12_strictest 78 = .ok (.getfield 36, 3) := by decide +kernel
theorem dX12_strictest_81 : decode cX12_strictest 81 = .ok (.bipush 100, 2) := by decide +kernel
theorem dX12_strictest_83 : decode cX12_strictest 83 = .ok (.aload_n 0, 1) := by decide +kernel
theorem dX12_strictest_84 : decode cX12_strictest 84 = .ok (.getfield 9, 3) := by decide +kernel
theorem dX12_strictest_87 : decode cX12_strictest 87 = .ok (.bipush 54, 2) := by decide +kernel
theorem dX12_strictest_89 : decode cX12_strictest 89 = .ok (.iaload, 1) := by decide +kernel
theorem dX12_strictest_90 : decode cX12_strictest 90 = .ok (.iload_n 2, 1) := by decide +kernel
theorem dX12_strictest_91 : decode cX12_strictest 91 = .ok (.iadd, 1) := by decide +kernel
theorem dX12_strictest_92 : decode cX12_strictest 92 = .ok (.bipush 24, 2) := by decide +kernel
theorem dX12_strictest_94 : decode cX12_strictest 94 = .ok (.irem, 1) := by decide +kernel
theorem dX12_strictest_95 : decode cX12_strictest 95 = .ok (.imul, 1) := by decide +kernel
theorem dX12_strictest_96 : decode cX12_strictest 96 = .ok (.aload_n 0, 1) := by decide +kernel
theorem dX12_strictest_97 : decode cX12_strictest 97 = .ok (.getfield 39, 3) := by decide +kernel
theorem dX12_strictest_100 : decode cX12_strictest 100 = .ok (.iload_n 2, 1) := by decide +kernel
theorem dX12_strictest_101 : decode cX12_strictest 101 = .ok (.iaload, 1) := by decide +kernel
theorem dX12_strictest_102 : decode cX12_strictest 102 = .ok (.iadd, 1) := by decide +kernel
theorem dX12_strictest_103 : decode cX12_strictest 103 = .ok (.iaload, 1) := by decide +kernel
theorem dX12_strictest_104 : decode cX12_strictest 104 = .ok (.invokestatic 421, 3) := by decide +kernel
theorem dX12_strictest_107 : decode cX12_strictest 107 = .ok (.iadd, 1) := by decide +kernel
theorem dX12_strictest_108 : decode cX12_strictest 108 = .ok (.iastore, 1) := by decide +kernel
theorem dX12_strictest_109 : decode cX12_strictest 109 = .ok (.iinc 2 1, 3) := by decide +kernel
theorem dX12_strictest_112 : decode cX12_strictest 112 = .ok (.goto (-49), 3) := by decide +kernel
theorem dX12_strictest_115 : decode cX12_strictest 115 = .ok (.iinc 1 1, 3) := by decide +kernel
theorem dX12_strictest_118 : decode cX12_strictest 118 = .ok (.goto (-89), 3) := by decide +kernel
theorem dX12_strictest_121 : decode cX12_strictest 121 = .ok (.iconst 0, 1) := by decide +kernel
theorem dX12_strictest_122 : decode cX12_strictest 122 = .ok (.istore_n 1, 1) := by decide +kernel
theorem dX12_strictest_123 : decode cX12_strictest 123 = .ok (.iconst 1, 1) := by decide +kernel
theorem dX12_strictest_124 : decode cX12_strictest 124 = .ok (.istore_n 2, 1) := by decide +kernel
theorem dX12_strictest_125 : decode cX12_strictest 125 = .ok (.iload_n 2, 1) := by decide +kernel
theorem dX12_strictest_126 : decode cX12_strictest 126 = .ok (.sipush 200, 3) := by decide +kernel
theorem dX12_strictest_129 : decode cX12_strictest 129 = .ok (.if_icmp .gt 26, 3) := by decide +kernel
theorem dX12_strictest_132 : decode cX12_strictest 132 = .ok (.aload_n 0, 1) := by decide +kernel
theorem dX12_strictest_133 : decode cX12_strictest 133 = .ok (.getfield 51, 3) := by decide +kernel
theorem dX12_strictest_136 : decode cX12_strictest 136 = .ok (.iload_n 2, 1) := by decide +kernel
theorem dX12_strictest_137 : decode cX12_strictest 137 = .ok (.iaload, 1) := by decide +kernel
theorem dX12_strictest_138 : decode cX12_strictest 138 = .ok (.aload_n 0, 1) := by decide +kernel
theorem dX12_strictest_139 : decode cX12_strictest 139 = .ok (.getfield 51, 3) := by decide +kernel
theorem dX12_strictest_142 : decode cX12_strictest 142 = .ok (.iload_n 1, 1) := by decide +kernel
theorem dX12_strictest_143 : decode cX12_strictest 143 = .ok (.iaload, 1) := by decide +kernel
theorem dX12_strictest_144 : decode cX12_strictest 144 = .ok (.if_icmp .le 5, 3) := by decide +kernel
theorem dX12_strictest_147 : decode cX12_strictest 147 = .ok (.iload_n 2, 1) := by decide +kernel
theorem dX12_strictest_148 : decode cX12_strictest 148 = .ok (.istore_n 1, 1) := by decide +kernel
theorem dX12_strictest_149 : decode cX12_strictest 149 = .ok (.iinc 2 1, 3) := by decide +kernel
theorem dX12_strictest_152 : decode cX12_strictest 152 = .ok (.goto (-27), 3) := by decide +kernel
theorem dX12_strictest_155 : decode cX12_strictest 155 = .ok (.iload_n 1, 1) := by decide +kernel
theorem dX12_strictest_156 : decode cX12_strictest 156 = .ok (.ireturn, 1) := by decide +kernel
theorem dX12_isLawfulBy_0 : decode cX12_isLawfulBy 0 = .ok (.aload_n 0, 1) := by decide +kernel
theorem dX12_isLawfulBy_1 : decode cX12_isLawfulBy 1 = .ok (.iload_n 1, 1) := by decide +kernel
theorem dX12_isLawfulBy_2 : decode cX12_isLawfulBy 2 = .ok (.invokevirtual 354, 3) := by decide +kernel
theorem dX12_isLawfulBy_5 : decode cX12_isLawfulBy 5 = .ok (.istore 5, 2) := by decide +kernel
theorem dX12_isLawfulBy_7 : decode cX12_isLawfulBy 7 = .ok (.iload_n 2, 1) := by decide +kernel
theorem dX12_isLawfulBy_8 : decode cX12_isLawfulBy 8 = .ok (.istore 6, 2) := by decide +kernel
theorem dX12_isLawfulBy_10 : decode cX12_isLawfulBy 10 = .ok (.iload 6, 2) := by decide +kernel
theorem dX12_isLawfulBy_12 : decode cX12_isLawfulBy 12 = .ok (.iload_n 2, 1) := by decide +kernel
theorem dX12_isLawfulBy_13 : decode cX12_isLawfulBy 13 = .ok (.aload_n 0, 1) := by decide +kernel
theorem dX12_isLawfulBy_14 : decode cX12_isLawfulBy 14 = .ok (.getfield 9, 3) := by decide +kernel
theorem dX12_isLawfulBy_17 : decode cX12_isLawfulBy 17 = .ok (.bipush 6, 2) := by decide +kernel
theorem dX12_isLawfulBy_19 : decode cX12_isLawfulBy 19 = .ok (.iaload, 1) := by decide +kernel
theorem dX12_isLawfulBy_20 : decode cX12_isLawfulBy 20 = .ok (.iconst 1, 1) := by decide +kernel
theorem dX12_isLawfulBy_21 : decode cX12_isLawfulBy 21 = .ok (.if_icmp .ne 7, 3) := by decide +kernel
theorem dX12_isLawfulBy_24 : decode cX12_isLawfulBy 24 = .ok (.iload_n 3, 1) := by decide +kernel
theorem dX12_isLawfulBy_25 : decode cX12_isLawfulBy 25 = .ok (.goto 4, 3) := by decide +kernel
theorem dX12_isLawfulBy_28 : decode cX12_isLawfulBy 28 = .ok (.iconst 1, 1) := by decide +kernel
theorem dX12_isLawfulBy_29 : decode cX12_isLawfulBy 29 = .ok (.iadd, 1) := by decide +kernel
theorem dX12_isLawfulBy_30 : decode cX12_isLawfulBy 30 = .ok (.if_icmp .ge 52, 3) := by decide +kernel
theorem dX12_isLawfulBy_33 : decode cX12_isLawfulBy 33 = .ok (.aload_n 0, 1) := by decide +kernel
theorem dX12_isLawfulBy_34 : decode cX12_isLawfulBy 34 = .ok (.getfield 36, 3) := by decide +kernel
theorem dX12_isLawfulBy_37 : decode cX12_isLawfulBy 37 = .ok (.bipush 100, 2) := by decide +kernel
theorem dX12_isLawfulBy_39 : decode cX12_isLawfulBy 39 = .ok (.aload_n 0, 1) := by decide +kernel
theorem dX12_isLawfulBy_40 : decode cX12_isLawfulBy 40 = .ok (.getfield 9, 3) := by decide +kernel
theorem dX12_isLawfulBy_43 : decode cX12_isLawfulBy 43 = .ok (.bipush 54, 2) := by decide +kernel
theorem dX12_isLawfulBy_45 : decode cX12_isLawfulBy 45 = .ok (.iaload, 1) := by decide +kernel
theorem dX12_isLawfulBy_46 : decode cX12_isLawfulBy 46 = .ok (.iload 6, 2) := by decide +kernel
theorem dX12_isLawfulBy_48 : decode cX12_isLawfulBy 48 = .ok (.iadd, 1) := by decide +kernel
theorem dX12_isLawfulBy_49 : decode cX12_isLawfulBy 49 = .ok (.bipush 24, 2) := by decide +kernel
theorem dX12_isLawfulBy_51 : decode cX12_isLawfulBy 51 = .ok (.irem, 1) := by decide +kernel
theorem dX12_isLawfulBy_52 : decode cX12_isLawfulBy 52 = .ok (.imul, 1) := by decide +kernel
theorem dX12_isLawfulBy_53 : decode cX12_isLawfulBy 53 = .ok (.aload_n 0, 1) := by decide +kernel
theorem dX12_isLawfulBy_54 : decode cX12_isLawfulBy 54 = .ok (.getfield 39, 3) := by decide +kernel
theorem dX12_isLawfulBy_57 : decode cX12_isLawfulBy 57 = .ok (.iload 6, 2) := by decide +kernel
theorem dX12_isLawfulBy_59 : decode cX12_isLawfulBy 59 = .ok (.iaload, 1) := by decide +kernel
theorem dX12_isLawfulBy_60 : decode cX12_isLawfulBy 60 = .ok (.iload 4, 2) := by decide +kernel
theorem dX12_isLawfulBy_62 : decode cX12_isLawfulBy 62 = .ok (.iadd, 1) := by decide +kernel
theorem dX12_isLawfulBy_63 : decode cX12_isLawfulBy 63 = .ok (.invokestatic 328, 3) := by decide +kernel
theorem dX12_isLawfulBy_66 : decode cX12_isLawfulBy 66 = .ok (.iadd, 1) := by decide +kernel
theorem dX12_isLawfulBy_67 : decode cX12_isLawfulBy 67 = .ok (.iaload, 1) := by decide +kernel
theorem dX12_isLawfulBy_68 : decode cX12_isLawfulBy 68 = .ok (.iload 5, 2) := by decide +kernel
theorem dX12_isLawfulBy_70 : decode cX12_isLawfulBy 70 = .ok (.iand, 1) := by decide +kernel
theorem dX12_isLawfulBy_71 : decode cX12_isLawfulBy 71 = .ok (.ifCond .eq 5, 3) := by decide +kernel
theorem dX12_isLawfulBy_74 : decode cX12_isLawfulBy 74 = .ok (.iconst 0, 1) := by decide +kernel
theorem dX12_isLawfulBy_75 : decode cX12_isLawfulBy 75 = .ok (.ireturn, 1) := by decide +kernel
theorem dX12_isLawfulBy_76 : decode cX12_isLawfulBy 76 = .ok (.iinc 6 1, 3) := by decide +kernel
theorem dX12_isLawfulBy_79 : decode cX12_isLawfulBy 79 = .ok (.goto (-69), 3) := by decide +kernel
theorem dX12_isLawfulBy_82 : decode cX12_isLawfulBy 82 = .ok (.iconst 1, 1) := by decide +kernel
theorem dX12_isLawfulBy_83 : decode cX12_isLawfulBy 83 = .ok (.ireturn, 1) := by decide +kernel
theorem dX12_heatOf_0 : decode cX12_heatOf 0 = .ok (.iconst 0, 1) := by decide +kernel
theorem dX12_heatOf_1 : decode cX12_heatOf 1 = .ok (.istore 4, 2) := by decide +kernel
theorem dX12_heatOf_3 : decode cX12_heatOf 3 = .ok (.iload 4, 2) := by decide +kernel
theorem dX12_heatOf_5 : decode cX12_heatOf 5 = .ok (.bipush 60, 2) := by decide +kernel
theorem dX12_heatOf_7 : decode cX12_heatOf 7 = .ok (.if_icmp .gt 41, 3) := by decide +kernel
theorem dX12_heatOf_10 : decode cX12_heatOf 10 = .ok (.aload_n 0, 1) := by decide +kernel
theorem dX12_heatOf_11 : decode cX12_heatOf 11 = .ok (.iload_n 1, 1) := by decide +kernel
theorem dX12_heatOf_12 : decode cX12_heatOf 12 = .ok (.iload_n 2, 1) := by decide +kernel
theorem dX12_heatOf_13 : decode cX12_heatOf 13 = .ok (.iload_n 3, 1) := by decide +kernel
theorem dX12_heatOf_14 : decode cX12_heatOf 14 = .ok (.iload 4, 2) := by decide +kernel
theorem dX12_heatOf_16 : decode cX12_heatOf 16 = .ok (.invokevirtual 491, 3) := by decide +kernel
theorem dX12_heatOf_19 : decode cX12_heatOf 19 = .ok (.ifCond .eq 6, 3) := by decide +kernel
theorem dX12_heatOf_22 : decode cX12_heatOf 22 = .ok (.iload 4, 2) := by decide +kernel
theorem dX12_heatOf_24 : decode cX12_heatOf 24 = .ok (.ireturn, 1) := by decide +kernel
theorem dX12_heatOf_25 : decode cX12_heatOf 25 = .ok (.aload_n 0, 1) := by decide +kernel
theorem dX12_heatOf_26 : decode cX12_heatOf 26 = .ok (.iload_n 1, 1) := by decide +kernel
theorem dX12_heatOf_27 : decode cX12_heatOf 27 = .ok (.iload_n 2, 1) := by decide +kernel
theorem dX12_heatOf_28 : decode cX12_heatOf 28 = .ok (.iload_n 3, 1) := by decide +kernel
theorem dX12_heatOf_29 : decode cX12_heatOf 29 = .ok (.iload 4, 2) := by decide +kernel
theorem dX12_heatOf_31 : decode cX12_heatOf 31 = .ok (.ineg, 1) := by decide +kernel
theorem dX12_heatOf_32 : decode cX12_heatOf 32 = .ok (.invokevirtual 491, 3) := by decide +kernel
theorem dX12_heatOf_35 : decode cX12_heatOf 35 = .ok (.ifCond .eq 7, 3) := by decide +kernel
theorem dX12_heatOf_38 : decode cX12_heatOf 38 = .ok (.iload 4, 2) := by decide +kernel
theorem dX12_heatOf_40 : decode cX12_heatOf 40 = .ok (.ineg, 1) := by decide +kernel
theorem dX12_heatOf_41 : decode cX12_heatOf 41 = .ok (.ireturn, 1) := by decide +kernel
theorem dX12_heatOf_42 : decode cX12_heatOf 42 = .ok (.iinc 4 1, 3) := by decide +kernel
theorem dX12_heatOf_45 : decode cX12_heatOf 45 = .ok (.goto (-42), 3) := by decide +kernel
theorem dX12_heatOf_48 : decode cX12_heatOf 48 = .ok (.bipush 99, 2) := by decide +kernel
theorem dX12_heatOf_50 : decode cX12_heatOf 50 = .ok (.ireturn, 1) := by decide +kernel
theorem dX12_heat_0 : decode cX12_heat 0 = .ok (.aload_n 0, 1) := by decide +kernel
theorem dX12_heat_1 : decode cX12_heat 1 = .ok (.iload_n 1, 1) := by decide +kernel
theorem dX12_heat_2 : decode cX12_heat 2 = .ok (.iload_n 2, 1) := by decide +kernel
theorem dX12_heat_3 : decode cX12_heat 3 = .ok (.iload_n 3, 1) := by decide +kernel
theorem dX12_heat_4 : decode cX12_heat 4 = .ok (.iload 4, 2) := by decide +kernel
theorem dX12_heat_6 : decode cX12_heat 6 = .ok (.invokevirtual 395, 3) := by decide +kernel
theorem dX12_heat_9 : decode cX12_heat 9 = .ok (.ifCond .eq 5, 3) := by decide +kernel
theorem dX12_heat_12 : decode cX12_heat 12 = .ok (.iconst 0, 1) := by decide +kernel
theorem dX12_heat_13 : decode cX12_heat 13 = .ok (.ireturn, 1) := by decide +kernel
theorem dX12_heat_14 : decode cX12_heat 14 = .ok (.aload_n 0, 1) := by decide +kernel
theorem dX12_heat_15 : decode cX12_heat 15 = .ok (.iload_n 2, 1) := by decide +kernel
theorem dX12_heat_16 : decode cX12_heat 16 = .ok (.aload_n 0, 1) := by decide +kernel
theorem dX12_heat_17 : decode cX12_heat 17 = .ok (.invokevirtual 347, 3) := by decide +kernel
theorem dX12_heat_20 : decode cX12_heat 20 = .ok (.invokevirtual 360, 3) := by decide +kernel
theorem dX12_heat_23 : decode cX12_heat 23 = .ok (.aload_n 0, 1) := by decide +kernel
theorem dX12_heat_24 : decode cX12_heat 24 = .ok (.iload_n 2, 1) := by decide +kernel
theorem dX12_heat_25 : decode cX12_heat 25 = .ok (.aload_n 0, 1) := by decide +kernel
theorem dX12_heat_26 : decode cX12_heat 26 = .ok (.getfield 9, 3) := by decide +kernel
theorem dX12_heat_29 : decode cX12_heat 29 = .ok (.bipush 54, 2) := by decide +kernel
theorem dX12_heat_31 : decode cX12_heat 31 = .ok (.iaload, 1) := by decide +kernel
theorem dX12_heat_32 : decode cX12_heat 32 = .ok (.iload_n 3, 1) := by decide +kernel
theorem dX12_heat_33 : decode cX12_heat 33 = .ok (.iload 4, 2) := by decide +kernel
theorem dX12_heat_35 : decode cX12_heat 35 = .ok (.iadd, 1) := by decide +kernel
theorem dX12_heat_36 : decode cX12_heat 36 = .ok (.invokevirtual 363, 3) := by decide +kernel
theorem dX12_heat_39 : decode cX12_heat 39 = .ok (.aload_n 0, 1) := by decide +kernel
theorem dX12_heat_40 : decode cX12_heat 40 = .ok (.iload_n 1, 1) := by decide +kernel
theorem dX12_heat_41 : decode cX12_heat 41 = .ok (.iload_n 3, 1) := by decide +kernel
theorem dX12_heat_42 : decode cX12_heat 42 = .ok (.iload 4, 2) := by decide +kernel
theorem dX12_heat_44 : decode cX12_heat 44 = .ok (.invokevirtual 494, 3) := by decide +kernel
theorem dX12_heat_47 : decode cX12_heat 47 = .ok (.ireturn, 1) := by decide +kernel
theorem dX12_leastHeat_0 : decode cX12_leastHeat 0 = .ok (.aload_n 0, 1) := by decide +kernel
theorem dX12_leastHeat_1 : decode cX12_leastHeat 1 = .ok (.iload_n 1, 1) := by decide +kernel
theorem dX12_leastHeat_2 : decode cX12_leastHeat 2 = .ok (.iload_n 2, 1) := by decide +kernel
theorem dX12_leastHeat_3 : decode cX12_leastHeat 3 = .ok (.iconst 0, 1) := by decide +kernel
theorem dX12_leastHeat_4 : decode cX12_leastHeat 4 = .ok (.iload_n 3, 1) := by decide +kernel
theorem dX12_leastHeat_5 : decode cX12_leastHeat 5 = .ok (.invokevirtual 395, 3) := by decide +kernel
theorem dX12_leastHeat_8 : decode cX12_leastHeat 8 = .ok (.ifCond .eq 5, 3) := by decide +kernel
theorem dX12_leastHeat_11 : decode cX12_leastHeat 11 = .ok (.iconst 0, 1) := by decide +kernel
theorem dX12_leastHeat_12 : decode cX12_leastHeat 12 = .ok (.ireturn, 1) := by decide +kernel
theorem dX12_leastHeat_13 : decode cX12_leastHeat 13 = .ok (.aload_n 0, 1) := by decide +kernel
theorem dX12_leastHeat_14 : decode cX12_leastHeat 14 = .ok (.iload_n 2, 1) := by decide +kernel
theorem dX12_leastHeat_15 : decode cX12_leastHeat 15 = .ok (.aload_n 0, 1) := by decide +kernel
theorem dX12_leastHeat_16 : decode cX12_leastHeat 16 = .ok (.invokevirtual 347, 3) := by decide +kernel
theorem dX12_leastHeat_19 : decode cX12_leastHeat 19 = .ok (.invokevirtual 360, 3) := by decide +kernel
theorem dX12_leastHeat_22 : decode cX12_leastHeat 22 = .ok (.aload_n 0, 1) := by decide +kernel
theorem dX12_leastHeat_23 : decode cX12_leastHeat 23 = .ok (.iload_n 2, 1) := by decide +kernel
theorem dX12_leastHeat_24 : decode cX12_leastHeat 24 = .ok (.aload_n 0, 1) := by decide +kernel
theorem dX12_leastHeat_25 : decode cX12_leastHeat 25 = .ok (.getfield 9, 3) := by decide +kernel
theorem dX12_leastHeat_28 : decode cX12_leastHeat 28 = .ok (.bipush 54, 2) := by decide +kernel
theorem dX12_leastHeat_30 : decode cX12_leastHeat 30 = .ok (.iaload, 1) := by decide +kernel
theorem dX12_leastHeat_31 : decode cX12_leastHeat 31 = .ok (.sipush 224, 3) := by decide +kernel
theorem dX12_leastHeat_34 : decode cX12_leastHeat 34 = .ok (.invokevirtual 363, 3) := by decide +kernel
theorem dX12_leastHeat_37 : decode cX12_leastHeat 37 = .ok (.iconst (-1), 1) := by decide +kernel
theorem dX12_leastHeat_38 : decode cX12_leastHeat 38 = .ok (.istore 4, 2) := by decide +kernel
theorem dX12_leastHeat_40 : decode cX12_leastHeat 40 = .ok (.bipush 99, 2) := by decide +kernel
theorem dX12_leastHeat_42 : decode cX12_leastHeat 42 = .ok (.istore 5, 2) := by decide +kernel
theorem dX12_leastHeat_44 : decode cX12_leastHeat 44 = .ok (.iconst 0, 1) := by decide +kernel
theorem dX12_leastHeat_45 : decode cX12_leastHeat 45 = .ok (.istore 6, 2) := by decide +kernel
theorem dX12_leastHeat_47 : decode cX12_leastHeat 47 = .ok (.iload 6, 2) := by decide +kernel
theorem dX12_leastHeat_49 : decode cX12_leastHeat 49 = .ok (.sipush 200, 3) := by decide +kernel
theorem dX12_leastHeat_52 : decode cX12_leastHeat 52 = .ok (.if_icmp .gt 40, 3) := by decide +kernel
theorem dX12_leastHeat_55 : decode cX12_leastHeat 55 = .ok (.aload_n 0, 1) := by decide +kernel
theorem dX12_leastHeat_56 : decode cX12_leastHeat 56 = .ok (.iload_n 1, 1) := by decide +kernel
theorem dX12_leastHeat_57 : decode cX12_leastHeat 57 = .ok (.iload 6, 2) := by decide +kernel
theorem dX12_leastHeat_59 : decode cX12_leastHeat 59 = .ok (.iload_n 3, 1) := by decide +kernel
theorem dX12_leastHeat_60 : decode cX12_leastHeat 60 = .ok (.invokevirtual 494, 3) := by decide +kernel
theorem dX12_leastHeat_63 : decode cX12_leastHeat 63 = .ok (.invokestatic 497, 3) := by decide +kernel
theorem dX12_leastHeat_66 : decode cX12_leastHeat 66 = .ok (.istore 7, 2) := by decide +kernel
theorem dX12_leastHeat_68 : decode cX12_leastHeat 68 = .ok (.iload 7, 2) := by decide +kernel
theorem dX12_leastHeat_70 : decode cX12_leastHeat 70 = .ok (.iload 5, 2) := by decide +kernel
theorem dX12_leastHeat_72 : decode cX12_leastHeat 72 = .ok (.if_icmp .lt 6, 3) := by decide +kernel
theorem dX12_leastHeat_75 : decode cX12_leastHeat 75 = .ok (.goto 11, 3) := by decide +kernel
theorem dX12_leastHeat_78 : decode cX12_leastHeat 78 = .ok (.iload 6, 2) := by decide +kernel
theorem dX12_leastHeat_80 : decode cX12_leastHeat 80 = .ok (.istore 4, 2) := by decide +kernel
theorem dX12_leastHeat_82 : decode cX12_leastHeat 82 = .ok (.iload 7, 2) := by decide +kernel
theorem dX12_leastHeat_84 : decode cX12_leastHeat 84 = .ok (.istore 5, 2) := by decide +kernel
theorem dX12_leastHeat_86 : decode cX12_leastHeat 86 = .ok (.iinc 6 1, 3) := by decide +kernel
theorem dX12_leastHeat_89 : decode cX12_leastHeat 89 = .ok (.goto (-42), 3) := by decide +kernel
theorem dX12_leastHeat_92 : decode cX12_leastHeat 92 = .ok (.iload 4, 2) := by decide +kernel
theorem dX12_leastHeat_94 : decode cX12_leastHeat 94 = .ok (.ireturn, 1) := by decide +kernel
theorem dX12_isCovered_0 : decode cX12_isCovered 0 = .ok (.iconst 0, 1) := by decide +kernel
theorem dX12_isCovered_1 : decode cX12_isCovered 1 = .ok (.istore_n 3, 1) := by decide +kernel
theorem dX12_isCovered_2 : decode cX12_isCovered 2 = .ok (.iload_n 3, 1) := by decide +kernel
theorem dX12_isCovered_3 : decode cX12_isCovered 3 = .ok (.bipush 24, 2) := by decide +kernel
theorem dX12_isCovered_5 : decode cX12_isCovered 5 = .ok (.if_icmp .ge 35, 3) := by decide +kernel
theorem dX12_isCovered_8 : decode cX12_isCovered 8 = .ok (.aload_n 0, 1) := by decide +kernel
theorem dX12_isCovered_9 : decode cX12_isCovered 9 = .ok (.iload_n 1, 1) := by decide +kernel
theorem dX12_isCovered_10 : decode cX12_isCovered 10 = .ok (.aload_n 0, 1) := by decide +kernel
theorem dX12_isCovered_11 : decode cX12_isCovered 11 = .ok (.getfield 39, 3) := by decide +kernel
theorem dX12_isCovered_14 : decode cX12_isCovered 14 = .ok (.iload_n 3, 1) := by decide +kernel
theorem dX12_isCovered_15 : decode cX12_isCovered 15 = .ok (.iaload, 1) := by decide +kernel
theorem dX12_isCovered_16 : decode cX12_isCovered 16 = .ok (.aload_n 0, 1) := by decide +kernel
theorem dX12_isCovered_17 : decode cX12_isCovered 17 = .ok (.getfield 9, 3) := by decide +kernel
theorem dX12_isCovered_20 : decode cX12_isCovered 20 = .ok (.bipush 54, 2) := by decide +kernel
theorem dX12_isCovered_22 : decode cX12_isCovered 22 = .ok (.iaload, 1) := by decide +kernel
theorem dX12_isCovered_23 : decode cX12_isCovered 23 = .ok (.iload_n 3, 1) := by decide +kernel
theorem dX12_isCovered_24 : decode cX12_isCovered 24 = .ok (.iadd, 1) := by decide +kernel
theorem dX12_isCovered_25 : decode cX12_isCovered 25 = .ok (.iload_n 2, 1) := by decide +kernel
theorem dX12_isCovered_26 : decode cX12_isCovered 26 = .ok (.invokevirtual 350, 3) := by decide +kernel
theorem dX12_isCovered_29 : decode cX12_isCovered 29 = .ok (.ifCond .ne 5, 3) := by decide +kernel
theorem dX12_isCovered_32 : decode cX12_isCovered 32 = .ok (.iconst 0, 1) := by decide +kernel
theorem dX12_isCovered_33 : decode cX12_isCovered 33 = .ok (.ireturn, 1) := by decide +kernel
theorem dX12_isCovered_34 : decode cX12_isCovered 34 = .ok (.iinc 3 1, 3) := by decide +kernel
theorem dX12_isCovered_37 : decode cX12_isCovered 37 = .ok (.goto (-35), 3) := by decide +kernel
theorem dX12_isCovered_40 : decode cX12_isCovered 40 = .ok (.iconst 1, 1) := by decide +kernel
theorem dX12_isCovered_41 : decode cX12_isCovered 41 = .ok (.ireturn, 1) := by decide +kernel
theorem dX12_cover_0 : decode cX12_cover 0 = .ok (.aload_n 0, 1) := by decide +kernel
theorem dX12_cover_1 : decode cX12_cover 1 = .ok (.aload_n 0, 1) := by decide +kernel
theorem dX12_cover_2 : decode cX12_cover 2 = .ok (.iload_n 2, 1) := by decide +kernel
theorem dX12_cover_3 : decode cX12_cover 3 = .ok (.i2l, 1) := by decide +kernel
theorem dX12_cover_4 : decode cX12_cover 4 = .ok (.invokevirtual 371, 3) := by decide +kernel
theorem dX12_cover_7 : decode cX12_cover 7 = .ok (.ifCond .ne 7, 3) := by decide +kernel
theorem dX12_cover_10 : decode cX12_cover 10 = .ok (.iconst 1, 1) := by decide +kernel
theorem dX12_cover_11 : decode cX12_cover 11 = .ok (.goto 25, 3) := by decide +kernel
theorem dX12_cover_14 : decode cX12_cover 14 = .ok (.iload_n 1, 1) := by decide +kernel
theorem dX12_cover_15 : decode cX12_cover 15 = .ok (.invokestatic 389, 3) := by decide +kernel
theorem dX12_cover_18 : decode cX12_cover 18 = .ok (.ifCond .eq 17, 3) := by decide +kernel
theorem dX12_cover_21 : decode cX12_cover 21 = .ok (.iload_n 3, 1) := by decide +kernel
theorem dX12_cover_22 : decode cX12_cover 22 = .ok (.i2l, 1) := by decide +kernel
theorem dX12_cover_23 : decode cX12_cover 23 = .ok (.lconst 0, 1) := by decide +kernel
theorem dX12_cover_24 : decode cX12_cover 24 = .ok (.lconst 1, 1) := by decide +kernel
theorem dX12_cover_25 : decode cX12_cover 25 = .ok (.invokestatic 158, 3) := by decide +kernel
theorem dX12_cover_28 : decode cX12_cover 28 = .ok (.ifCond .eq 7, 3) := by decide +kernel
theorem dX12_cover_31 : decode cX12_cover 31 = .ok (.iconst 0, 1) := by decide +kernel
theorem dX12_cover_32 : decode cX12_cover 32 = .ok (.goto 4, 3) := by decide +kernel
theorem dX12_cover_35 : decode cX12_cover 35 = .ok (.iconst 2, 1) := by decide +kernel
theorem dX12_cover_36 : decode cX12_cover 36 = .ok (.putfield 97, 3) := by decide +kernel
theorem dX12_cover_39 : decode cX12_cover 39 = .ok (.aload_n 0, 1) := by decide +kernel
theorem dX12_cover_40 : decode cX12_cover 40 = .ok (.getfield 97, 3) := by decide +kernel
theorem dX12_cover_43 : decode cX12_cover 43 = .ok (.ifCond .le 5, 3) := by decide +kernel
theorem dX12_cover_46 : decode cX12_cover 46 = .ok (.iconst 0, 1) := by decide +kernel
theorem dX12_cover_47 : decode cX12_cover 47 = .ok (.ireturn, 1) := by decide +kernel
theorem dX12_cover_48 : decode cX12_cover 48 = .ok (.aload_n 0, 1) := by decide +kernel
theorem dX12_cover_49 : decode cX12_cover 49 = .ok (.iload_n 2, 1) := by decide +kernel
theorem dX12_cover_50 : decode cX12_cover 50 = .ok (.aload_n 0, 1) := by decide +kernel
theorem dX12_cover_51 : decode cX12_cover 51 = .ok (.getfield 9, 3) := by decide +kernel
theorem dX12_cover_54 : decode cX12_cover 54 = .ok (.bipush 54, 2) := by decide +kernel
theorem dX12_cover_56 : decode cX12_cover 56 = .ok (.iaload, 1) := by decide +kernel
theorem dX12_cover_57 : decode cX12_cover 57 = .ok (.bipush 24, 2) := by decide +kernel
theorem dX12_cover_59 : decode cX12_cover 59 = .ok (.invokevirtual 363, 3) := by decide +kernel
theorem dX12_cover_62 : decode cX12_cover 62 = .ok (.aload_n 0, 1) := by decide +kernel
theorem dX12_cover_63 : decode cX12_cover 63 = .ok (.iload_n 1, 1) := by decide +kernel
theorem dX12_cover_64 : decode cX12_cover 64 = .ok (.invokevirtual 354, 3) := by decide +kernel
theorem dX12_cover_67 : decode cX12_cover 67 = .ok (.aload_n 0, 1) := by decide +kernel
theorem dX12_cover_68 : decode cX12_cover 68 = .ok (.invokevirtual 347, 3) := by decide +kernel
theorem dX12_cover_71 : decode cX12_cover 71 = .ok (.iand, 1) := by decide +kernel
theorem dX12_cover_72 : decode cX12_cover 72 = .ok (.istore 4, 2) := by decide +kernel
theorem dX12_cover_74 : decode cX12_cover 74 = .ok (.iconst (-1), 1) := by decide +kernel
theorem dX12_cover_75 : decode cX12_cover 75 = .ok (.istore 5, 2) := by decide +kernel
theorem dX12_cover_77 : decode cX12_cover 77 = .ok (.iconst 1, 1) := by decide +kernel
theorem dX12_cover_78 : decode cX12_cover 78 = .ok (.istore 6, 2) := by decide +kernel
theorem dX12_cover_80 : decode cX12_cover 80 = .ok (.iload 6, 2) := by decide +kernel
theorem dX12_cover_82 : decode cX12_cover 82 = .ok (.iload 4, 2) := by decide +kernel
theorem dX12_cover_84 : decode cX12_cover 84 = .ok (.if_icmp .gt 52, 3) := by decide +kernel
theorem dX12_cover_87 : decode cX12_cover 87 = .ok (.iload 6, 2) := by decide +kernel
theorem dX12_cover_89 : decode cX12_cover 89 = .ok (.iload 4, 2) := by decide +kernel
theorem dX12_cover_91 : decode cX12_cover 91 = .ok (.iconst (-1), 1) := by decide +kernel
theorem dX12_cover_92 : decode cX12_cover 92 = .ok (.ixor, 1) := by decide +kernel
theorem dX12_cover_93 : decode cX12_cover 93 = .ok (.iand, 1) := by decide +kernel
theorem dX12_cover_94 : decode cX12_cover 94 = .ok (.ifCond .ne 36, 3) := by decide +kernel
theorem dX12_cover_97 : decode cX12_cover 97 = .ok (.iload 5, 2) := by decide +kernel
theorem dX12_cover_99 : decode cX12_cover 99 = .ok (.iconst (-1), 1) := by decide +kernel
theorem dX12_cover_100 : decode cX12_cover 100 = .ok (.if_icmp .eq 16, 3) := by decide +kernel
theorem dX12_cover_103 : decode cX12_cover 103 = .ok (.iload 6, 2) := by decide +kernel
theorem dX12_cover_105 : decode cX12_cover 105 = .ok (.invokestatic 421, 3) := by decide +kernel
theorem dX12_cover_108 : decode cX12_cover 108 = .ok (.iload 5, 2) := by decide +kernel
theorem dX12_cover_110 : decode cX12_cover 110 = .ok (.invokestatic 421, 3) := by decide +kernel
theorem dX12_cover_113 : decode cX12_cover 113 = .ok (.if_icmp .ge 17, 3) := by decide +kernel
theorem dX12_cover_116 : decode cX12_cover 116 = .ok (.aload_n 0, 1) := by decide +kernel
theorem dX12_cover_117 : decode cX12_cover 117 = .ok (.iload_n 2, 1) := by decide +kernel
theorem dX12_cover_118 : decode cX12_cover 118 = .ok (.iload 6, 2) := by decide +kernel
theorem dX12_cover_120 : decode cX12_cover 120 = .ok (.invokevirtual 500, 3) := by decide +kernel
theorem dX12_cover_123 : decode cX12_cover 123 = .ok (.ifCond .eq 7, 3) := by decide +kernel
theorem dX12_cover_126 : decode cX12_cover 126 = .ok (.iload 6, 2) := by decide +kernel
theorem dX12_cover_128 : decode cX12_cover 128 = .ok (.istore 5, 2) := by decide +kernel
theorem dX12_cover_130 : decode cX12_cover 130 = .ok (.iinc 6 1, 3) := by decide +kernel
theorem dX12_cover_133 : decode cX12_cover 133 = .ok (.goto (-53), 3) := by decide +kernel
theorem dX12_cover_136 : decode cX12_cover 136 = .ok (.iload 5, 2) := by decide +kernel
theorem dX12_cover_138 : decode cX12_cover 138 = .ok (.iconst (-1), 1) := by decide +kernel
theorem dX12_cover_139 : decode cX12_cover 139 = .ok (.if_icmp .eq 8, 3) := by decide +kernel
theorem dX12_cover_142 : decode cX12_cover 142 = .ok (.iload_n 3, 1) := by decide +kernel
theorem dX12_cover_143 : decode cX12_cover 143 = .ok (.iconst 1, 1) := by decide +kernel
theorem dX12_cover_144 : decode cX12_cover 144 = .ok (.if_icmp .ne 8, 3) := by decide +kernel
theorem dX12_cover_147 : decode cX12_cover 147 = .ok (.iload 5, 2) := by decide +kernel
theorem dX12_cover_149 : decode cX12_cover 149 = .ok (.goto 8, 3) := by decide +kernel
theorem dX12_cover_152 : decode cX12_cover 152 = .ok (.iload 5, 2) := by decide +kernel
theorem dX12_cover_154 : decode cX12_cover 154 = .ok (.invokestatic 421, 3) := by decide +kernel
theorem dX12_cover_157 : decode cX12_cover 157 = .ok (.ireturn, 1) := by decide +kernel
theorem dX12_widen_0 : decode cX12_widen 0 = .ok (.aload_n 0, 1) := by decide +kernel
theorem dX12_widen_1 : decode cX12_widen 1 = .ok (.aload_n 0, 1) := by decide +kernel
theorem dX12_widen_2 : decode cX12_widen 2 = .ok (.iload_n 1, 1) := by decide +kernel
theorem dX12_widen_3 : decode cX12_widen 3 = .ok (.i2l, 1) := by decide +kernel
theorem dX12_widen_4 : decode cX12_widen 4 = .ok (.invokevirtual 377, 3) := by decide +kernel
theorem dX12_widen_7 : decode cX12_widen 7 = .ok (.ifCond .eq 16, 3) := by decide +kernel
theorem dX12_widen_10 : decode cX12_widen 10 = .ok (.aload_n 0, 1) := by decide +kernel
theorem dX12_widen_11 : decode cX12_widen 11 = .ok (.iload_n 2, 1) := by decide +kernel
theorem dX12_widen_12 : decode cX12_widen 12 = .ok (.i2l, 1) := by decide +kernel
theorem dX12_widen_13 : decode cX12_widen 13 = .ok (.invokevirtual 371, 3) := by decide +kernel
theorem dX12_widen_16 : decode cX12_widen 16 = .ok (.ifCond .eq 7, 3) := by decide +kernel
theorem dX12_widen_19 : decode cX12_widen 19 = .ok (.iconst 0, 1) := by decide +kernel
theorem dX12_widen_20 : decode cX12_widen 20 = .ok (.goto 4, 3) := by decide +kernel
theorem dX12_widen_23 : decode cX12_widen 23 = .ok (.iconst 1, 1) := by decide +kernel
theorem dX12_widen_24 : decode cX12_widen 24 = .ok (.putfield 97, 3) := by decide +kernel
theorem dX12_widen_27 : decode cX12_widen 27 = .ok (.aload_n 0, 1) := by decide +kernel
theorem dX12_widen_28 : decode cX12_widen 28 = .ok (.getfield 97, 3) := by decide +kernel
theorem dX12_widen_31 : decode cX12_widen 31 = .ok (.ifCond .le 5, 3) := by decide +kernel
theorem dX12_widen_34 : decode cX12_widen 34 = .ok (.iconst 0, 1) := by decide +kernel
theorem dX12_widen_35 : decode cX12_widen 35 = .ok (.ireturn, 1) := by decide +kernel
theorem dX12_widen_36 : decode cX12_widen 36 = .ok (.aload_n 0, 1) := by decide +kernel
theorem dX12_widen_37 : decode cX12_widen 37 = .ok (.iload_n 2, 1) := by decide +kernel
theorem dX12_widen_38 : decode cX12_widen 38 = .ok (.aload_n 0, 1) := by decide +kernel
theorem dX12_widen_39 : decode cX12_widen 39 = .ok (.getfield 9, 3) := by decide +kernel
theorem dX12_widen_42 : decode cX12_widen 42 = .ok (.bipush 54, 2) := by decide +kernel
theorem dX12_widen_44 : decode cX12_widen 44 = .ok (.iaload, 1) := by decide +kernel
theorem dX12_widen_45 : decode cX12_widen 45 = .ok (.bipush 24, 2) := by decide +kernel
theorem dX12_widen_47 : decode cX12_widen 47 = .ok (.invokevirtual 363, 3) := by decide +kernel
theorem dX12_widen_50 : decode cX12_widen 50 = .ok (.bipush 99, 2) := by decide +kernel
theorem dX12_widen_52 : decode cX12_widen 52 = .ok (.istore_n 3, 1) := by decide +kernel
theorem dX12_widen_53 : decode cX12_widen 53 = .ok (.iconst 0, 1) := by decide +kernel
theorem dX12_widen_54 : decode cX12_widen 54 = .ok (.istore 4, 2) := by decide +kernel
theorem dX12_widen_56 : decode cX12_widen 56 = .ok (.iconst 0, 1) := by decide +kernel
theorem dX12_widen_57 : decode cX12_widen 57 = .ok (.istore 5, 2) := by decide +kernel
theorem dX12_widen_59 : decode cX12_widen 59 = .ok (.iload 5, 2) := by decide +kernel
theorem dX12_widen_61 : decode cX12_widen 61 = .ok (.bipush 24, 2) := by decide +kernel
theorem dX12_widen_63 : decode cX12_widen 63 = .ok (.if_icmp .ge 35, 3) := by decide +kernel
theorem dX12_widen_66 : decode cX12_widen 66 = .ok (.iload_n 3, 1) := by decide +kernel
theorem dX12_widen_67 : decode cX12_widen 67 = .ok (.aload_n 0, 1) := by decide +kernel
theorem dX12_widen_68 : decode cX12_widen 68 = .ok (.getfield 39, 3) := by decide +kernel
theorem dX12_widen_71 : decode cX12_widen 71 = .ok (.iload 5, 2) := by decide +kernel
theorem dX12_widen_73 : decode cX12_widen 73 = .ok (.iaload, 1) := by decide +kernel
theorem dX12_widen_74 : decode cX12_widen 74 = .ok (.invokestatic 320, 3) := by decide +kernel
theorem dX12_widen_77 : decode cX12_widen 77 = .ok (.istore_n 3, 1) := by decide +kernel
theorem dX12_widen_78 : decode cX12_widen 78 = .ok (.iload 4, 2) := by decide +kernel
theorem dX12_widen_80 : decode cX12_widen 80 = .ok (.aload_n 0, 1) := by decide +kernel
theorem dX12_widen_81 : decode cX12_widen 81 = .ok (.getfield 39, 3) := by decide +kernel
theorem dX12_widen_84 : decode cX12_widen 84 = .ok (.iload 5, 2) := by decide +kernel
theorem dX12_widen_86 : decode cX12_widen 86 = .ok (.iaload, 1) := by decide +kernel
theorem dX12_widen_87 : decode cX12_widen 87 = .ok (.invokestatic 322, 3) := by decide +kernel
theorem dX12_widen_90 : decode cX12_widen 90 = .ok (.istore 4, 2) := by decide +kernel
theorem dX12_widen_92 : decode cX12_widen 92 = .ok (.iinc 5 1, 3) := by decide +kernel
theorem dX12_widen_95 : decode cX12_widen 95 = .ok (.goto (-36), 3) := by decide +kernel
theorem dX12_widen_98 : decode cX12_widen 98 = .ok (.iconst 0, 1) := by decide +kernel
theorem dX12_widen_99 : decode cX12_widen 99 = .ok (.aload_n 0, 1) := by decide +kernel
theorem dX12_widen_100 : decode cX12_widen 100 = .ok (.getfield 9, 3) := by decide +kernel
theorem dX12_widen_103 : decode cX12_widen 103 = .ok (.bipush 37, 2) := by decide +kernel
theorem dX12_widen_105 : decode cX12_widen 105 = .ok (.iload_n 1, 1) := by decide +kernel
theorem dX12_widen_106 : decode cX12_widen 106 = .ok (.iadd, 1) := by decide +kernel
theorem dX12_widen_107 : decode cX12_widen 107 = .ok (.iaload, 1) := by decide +kernel
theorem dX12_widen_108 : decode cX12_widen 108 = .ok (.iload_n 3, 1) := by decide +kernel
theorem dX12_widen_109 : decode cX12_widen 109 = .ok (.isub, 1) := by decide +kernel
theorem dX12_widen_110 : decode cX12_widen 110 = .ok (.invokestatic 322, 3) := by decide +kernel
theorem dX12_widen_113 : decode cX12_widen 113 = .ok (.iconst 0, 1) := by decide +kernel
theorem dX12_widen_114 : decode cX12_widen 114 = .ok (.iload 4, 2) := by decide +kernel
theorem dX12_widen_116 : decode cX12_widen 116 = .ok (.aload_n 0, 1) := by decide +kernel
theorem dX12_widen_117 : decode cX12_widen 117 = .ok (.getfield 9, 3) := by decide +kernel
theorem dX12_widen_120 : decode cX12_widen 120 = .ok (.bipush 45, 2) := by decide +kernel
theorem dX12_widen_122 : decode cX12_widen 122 = .ok (.iload_n 1, 1) := by decide +kernel
theorem dX12_widen_123 : decode cX12_widen 123 = .ok (.iadd, 1) := by decide +kernel
theorem dX12_widen_124 : decode cX12_widen 124 = .ok (.iaload, 1) := by decide +kernel
theorem dX12_widen_125 : decode cX12_widen 125 = .ok (.isub, 1) := by decide +kernel
theorem dX12_widen_126 : decode cX12_widen 126 = .ok (.invokestatic 322, 3) := by decide +kernel
theorem dX12_widen_129 : decode cX12_widen 129 = .ok (.iadd, 1) := by decide +kernel
theorem dX12_widen_130 : decode cX12_widen 130 = .ok (.ireturn, 1) := by decide +kernel
theorem dX12_barredBy_0 : decode cX12_barredBy 0 = .ok (.aload_n 0, 1) := by decide +kernel
theorem dX12_barredBy_1 : decode cX12_barredBy 1 = .ok (.iload_n 2, 1) := by decide +kernel
theorem dX12_barredBy_2 : decode cX12_barredBy 2 = .ok (.invokevirtual 354, 3) := by decide +kernel
theorem dX12_barredBy_5 : decode cX12_barredBy 5 = .ok (.istore 4, 2) := by decide +kernel
theorem dX12_barredBy_7 : decode cX12_barredBy 7 = .ok (.iconst 0, 1) := by decide +kernel
theorem dX12_barredBy_8 : decode cX12_barredBy 8 = .ok (.istore 5, 2) := by decide +kernel
theorem dX12_barredBy_10 : decode cX12_barredBy 10 = .ok (.iconst 0, 1) := by decide +kernel
theorem dX12_barredBy_11 : decode cX12_barredBy 11 = .ok (.istore 6, 2) := by decide +kernel
theorem dX12_barredBy_13 : decode cX12_barredBy 13 = .ok (.iload 6, 2) := by decide +kernel
theorem dX12_barredBy_15 : decode cX12_barredBy 15 = .ok (.bipush 24, 2) := by decide +kernel
theorem dX12_barredBy_17 : decode cX12_barredBy 17 = .ok (.if_icmp .ge 48, 3) := by decide +kernel
theorem dX12_barredBy_20 : decode cX12_barredBy 20 = .ok (.iload 5, 2) := by decide +kernel
theorem dX12_barredBy_22 : decode cX12_barredBy 22 = .ok (.aload_n 0, 1) := by decide +kernel
theorem dX12_barredBy_23 : decode cX12_barredBy 23 = .ok (.iload_n 1, 1) := by decide +kernel
theorem dX12_barredBy_24 : decode cX12_barredBy 24 = .ok (.aload_n 0, 1) := by decide +kernel
theorem dX12_barredBy_25 : decode cX12_barredBy 25 = .ok (.getfield 39, 3) := by decide +kernel
theorem dX12_barredBy_28 : decode cX12_barredBy 28 = .ok (.iload 6, 2) := by decide +kernel
theorem dX12_barredBy_30 : decode cX12_barredBy 30 = .ok (.iaload, 1) := by decide +kernel
theorem dX12_barredBy_31 : decode cX12_barredBy 31 = .ok (.aload_n 0, 1) := by decide +kernel
theorem dX12_barredBy_32 : decode cX12_barredBy 32 = .ok (.getfield 9, 3) := by decide +kernel
theorem dX12_barredBy_35 : decode cX12_barredBy 35 = .ok (.bipush 54, 2) := by decide +kernel
theorem dX12_barredBy_37 : decode cX12_barredBy 37 = .ok (.iaload, 1) := by decide +kernel
theorem dX12_barredBy_38 : decode cX12_barredBy 38 = .ok (.iload 6, 2) := by decide +kernel
theorem dX12_barredBy_40 : decode cX12_barredBy 40 = .ok (.iadd, 1) := by decide +kernel
theorem dX12_barredBy_41 : decode cX12_barredBy 41 = .ok (.iload_n 3, 1) := by decide +kernel
theorem dX12_barredBy_42 : decode cX12_barredBy 42 = .ok (.invokevirtual 350, 3) := by decide +kernel
theorem dX12_barredBy_45 : decode cX12_barredBy 45 = .ok (.iload 4, 2) := by decide +kernel
theorem dX12_barredBy_47 : decode cX12_barredBy 47 = .ok (.iand, 1) := by decide +kernel
theorem dX12_barredBy_48 : decode cX12_barredBy 48 = .ok (.ifCond .ne 7, 3) := by decide +kernel
theorem dX12_barredBy_51 : decode cX12_barredBy 51 = .ok (.iconst 0, 1) := by decide +kernel
theorem dX12_barredBy_52 : decode cX12_barredBy 52 = .ok (.goto 4, 3) := by decide +kernel
theorem dX12_barredBy_55 : decode cX12_barredBy 55 = .ok (.iconst 1, 1) := by decide +kernel
theorem dX12_barredBy_56 : decode cX12_barredBy 56 = .ok (.iadd, 1) := by decide +kernel
theorem dX12_barredBy_57 : decode cX12_barredBy 57 = .ok (.istore 5, 2) := by decide +kernel
theorem dX12_barredBy_59 : decode cX12_barredBy 59 = .ok (.iinc 6 1, 3) := by decide +kernel
theorem dX12_barredBy_62 : decode cX12_barredBy 62 = .ok (.goto (-49), 3) := by decide +kernel
theorem dX12_barredBy_65 : decode cX12_barredBy 65 = .ok (.iload 5, 2) := by decide +kernel
theorem dX12_barredBy_67 : decode cX12_barredBy 67 = .ok (.ireturn, 1) := by decide +kernel
theorem dX12_heaviest_0 : decode cX12_heaviest 0 = .ok (.aload_n 0, 1) := by decide +kernel
theorem dX12_heaviest_1 : decode cX12_heaviest 1 = .ok (.iconst 0, 1) := by decide +kernel
theorem dX12_heaviest_2 : decode cX12_heaviest 2 = .ok (.putfield 97, 3) := by decide +kernel
theorem dX12_heaviest_5 : decode cX12_heaviest 5 = .ok (.aload_n 0, 1) := by decide +kernel
theorem dX12_heaviest_6 : decode cX12_heaviest 6 = .ok (.iload_n 1, 1) := by decide +kernel
theorem dX12_heaviest_7 : decode cX12_heaviest 7 = .ok (.i2l, 1) := by decide +kernel
theorem dX12_heaviest_8 : decode cX12_heaviest 8 = .ok (.invokevirtual 371, 3) := by decide +kernel
theorem dX12_heaviest_11 : decode cX12_heaviest 11 = .ok (.ifCond .ne 9, 3) := by decide +kernel
theorem dX12_heaviest_14 : decode cX12_heaviest 14 = .ok (.aload_n 0, 1) := by decide +kernel
theorem dX12_heaviest_15 : decode cX12_heaviest 15 = .ok (.iconst 1, 1) := by decide +kernel
theorem dX12_heaviest_16 : decode cX12_heaviest 16 = .ok (.invokevirtual 282, 3) := by decide +kernel
theorem dX12_heaviest_19 : decode cX12_heaviest 19 = .ok (.ireturn, 1) := by decide +kernel
theorem dX12_heaviest_20 : decode cX12_heaviest 20 = .ok (.aload_n 0, 1) := by decide +kernel
theorem dX12_heaviest_21 : decode cX12_heaviest 21 = .ok (.iload_n 1, 1) := by decide +kernel
theorem dX12_heaviest_22 : decode cX12_heaviest 22 = .ok (.aload_n 0, 1) := by decide +kernel
theorem dX12_heaviest_23 : decode cX12_heaviest 23 = .ok (.getfield 9, 3) := by decide +kernel
theorem dX12_heaviest_26 : decode cX12_heaviest 26 = .ok (.bipush 54, 2) := by decide +kernel
theorem dX12_heaviest_28 : decode cX12_heaviest 28 = .ok (.iaload, 1) := by decide +kernel
theorem dX12_heaviest_29 : decode cX12_heaviest 29 = .ok (.bipush 24, 2) := by decide +kernel
theorem dX12_heaviest_31 : decode cX12_heaviest 31 = .ok (.invokevirtual 363, 3) := by decide +kernel
theorem dX12_heaviest_34 : decode cX12_heaviest 34 = .ok (.iconst (-1), 1) := by decide +kernel
theorem dX12_heaviest_35 : decode cX12_heaviest 35 = .ok (.istore_n 2, 1) := by decide +kernel
theorem dX12_heaviest_36 : decode cX12_heaviest 36 = .ok (.iconst 0, 1) := by decide +kernel
theorem dX12_heaviest_37 : decode cX12_heaviest 37 = .ok (.istore_n 3, 1) := by decide +kernel
theorem dX12_heaviest_38 : decode cX12_heaviest 38 = .ok (.iconst 0, 1) := by decide +kernel
theorem dX12_heaviest_39 : decode cX12_heaviest 39 = .ok (.istore 4, 2) := by decide +kernel
theorem dX12_heaviest_41 : decode cX12_heaviest 41 = .ok (.iload 4, 2) := by decide +kernel
theorem dX12_heaviest_43 : decode cX12_heaviest 43 = .ok (.aload_n 0, 1) := by decide +kernel
theorem dX12_heaviest_44 : decode cX12_heaviest 44 = .ok (.invokevirtual 294, 3) := by decide +kernel
theorem dX12_heaviest_47 : decode cX12_heaviest 47 = .ok (.if_icmp .ge 87, 3) := by decide +kernel
theorem dX12_heaviest_50 : decode cX12_heaviest 50 = .ok (.aload_n 0, 1) := by decide +kernel
theorem dX12_heaviest_51 : decode cX12_heaviest 51 = .ok (.invokevirtual 347, 3) := by decide +kernel
theorem dX12_heaviest_54 : decode cX12_heaviest 54 = .ok (.iload 4, 2) := by decide +kernel
theorem dX12_heaviest_56 : decode cX12_heaviest 56 = .ok (.invokestatic 250, 3) := by decide +kernel
theorem dX12_heaviest_59 : decode cX12_heaviest 59 = .ok (.ifCond .ne 6, 3) := by decide +kernel
theorem dX12_heaviest_62 : decode cX12_heaviest 62 = .ok (.goto 66, 3) := by decide +kernel
theorem dX12_heaviest_65 : decode cX12_heaviest 65 = .ok (.aload_n 0, 1) := by decide +kernel
theorem dX12_heaviest_66 : decode cX12_heaviest 66 = .ok (.iload_n 1, 1) := by decide +kernel
theorem dX12_heaviest_67 : decode cX12_heaviest 67 = .ok (.aload_n 0, 1) := by decide +kernel
theorem dX12_heaviest_68 : decode cX12_heaviest 68 = .ok (.getfield 9, 3) := by decide +kernel
theorem dX12_heaviest_71 : decode cX12_heaviest 71 = .ok (.bipush 66, 2) := by decide +kernel
theorem dX12_heaviest_73 : decode cX12_heaviest 73 = .ok (.iload 4, 2) := by decide +kernel
theorem dX12_heaviest_75 : decode cX12_heaviest 75 = .ok (.iadd, 1) := by decide +kernel
theorem dX12_heaviest_76 : decode cX12_heaviest 76 = .ok (.iaload, 1) := by decide +kernel
theorem dX12_heaviest_77 : decode cX12_heaviest 77 = .ok (.aload_n 0, 1) := by decide +kernel
theorem dX12_heaviest_78 : decode cX12_heaviest 78 = .ok (.invokevirtual 347, 3) := by decide +kernel
theorem dX12_heaviest_81 : decode cX12_heaviest 81 = .ok (.invokevirtual 503, 3) := by decide +kernel
theorem dX12_heaviest_84 : decode cX12_heaviest 84 = .ok (.aload_n 0, 1) := by decide +kernel
theorem dX12_heaviest_85 : decode cX12_heaviest 85 = .ok (.iload_n 1, 1) := by decide +kernel
theorem dX12_heaviest_86 : decode cX12_heaviest 86 = .ok (.aload_n 0, 1) := by decide +kernel
theorem dX12_heaviest_87 : decode cX12_heaviest 87 = .ok (.getfield 9, 3) := by decide +kernel
theorem dX12_heaviest_90 : decode cX12_heaviest 90 = .ok (.bipush 66, 2) := by decide +kernel
theorem dX12_heaviest_92 : decode cX12_heaviest 92 = .ok (.iload 4, 2) := by decide +kernel
theorem dX12_heaviest_94 : decode cX12_heaviest 94 = .ok (.iadd, 1) := by decide +kernel
theorem dX12_heaviest_95 : decode cX12_heaviest 95 = .ok (.iaload, 1) := by decide +kernel
theorem dX12_heaviest_96 : decode cX12_heaviest 96 = .ok (.aload_n 0, 1) := by decide +kernel
theorem dX12_heaviest_97 : decode cX12_heaviest 97 = .ok (.invokevirtual 347, 3) := by decide +kernel
theorem dX12_heaviest_100 : decode cX12_heaviest 100 = .ok (.iconst 1, 1) := by decide +kernel
theorem dX12_heaviest_101 : decode cX12_heaviest 101 = .ok (.iload 4, 2) := by decide +kernel
theorem dX12_heaviest_103 : decode cX12_heaviest 103 = .ok (.ishl, 1) := by decide +kernel
theorem dX12_heaviest_104 : decode cX12_heaviest 104 = .ok (.iconst (-1), 1) := by decide +kernel
theorem dX12_heaviest_105 : decode cX12_heaviest 105 = .ok (.ixor, 1) := by decide +kernel
theorem dX12_heaviest_106 : decode cX12_heaviest 106 = .ok (.iand, 1) := by decide +kernel
theorem dX12_heaviest_107 : decode cX12_heaviest 107 = .ok (.invokevirtual 503, 3) := by decide +kernel
theorem dX12_heaviest_110 : decode cX12_heaviest 110 = .ok (.isub, 1) := by decide +kernel
theorem dX12_heaviest_111 : decode cX12_heaviest 111 = .ok (.istore 5, 2) := by decide +kernel
theorem dX12_heaviest_113 : decode cX12_heaviest 113 = .ok (.iload 5, 2) := by decide +kernel
theorem dX12_heaviest_115 : decode cX12_heaviest 115 = .ok (.iload_n 3, 1) := by decide +kernel
theorem dX12_heaviest_116 : decode cX12_heaviest 116 = .ok (.if_icmp .gt 6, 3) := by decide +kernel
theorem dX12_heaviest_119 : decode cX12_heaviest 119 = .ok (.goto 9, 3) := by decide +kernel
theorem dX12_heaviest_122 : decode cX12_heaviest 122 = .ok (.iload 4, 2) := by decide +kernel
theorem dX12_heaviest_124 : decode cX12_heaviest 124 = .ok (.istore_n 2, 1) := by decide +kernel
theorem dX12_heaviest_125 : decode cX12_heaviest 125 = .ok (.iload 5, 2) := by decide +kernel
theorem dX12_heaviest_127 : decode cX12_heaviest 127 = .ok (.istore_n 3, 1) := by decide +kernel
theorem dX12_heaviest_128 : decode cX12_heaviest 128 = .ok (.iinc 4 1, 3) := by decide +kernel
theorem dX12_heaviest_131 : decode cX12_heaviest 131 = .ok (.goto (-90), 3) := by decide +kernel
theorem dX12_heaviest_134 : decode cX12_heaviest 134 = .ok (.iload_n 2, 1) := by decide +kernel
theorem dX12_heaviest_135 : decode cX12_heaviest 135 = .ok (.ireturn, 1) := by decide +kernel
theorem dX12_laysWays_0 : decode cX12_laysWays 0 = .ok (.iconst 0, 1) := by decide +kernel
theorem dX12_laysWays_1 : decode cX12_laysWays 1 = .ok (.istore_n 2, 1) := by decide +kernel
theorem dX12_laysWays_2 : decode cX12_laysWays 2 = .ok (.iload_n 2, 1) := by decide +kernel
theorem dX12_laysWays_3 : decode cX12_laysWays 3 = .ok (.aload_n 0, 1) := by decide +kernel
theorem dX12_laysWays_4 : decode cX12_laysWays 4 = .ok (.invokevirtual 291, 3) := by decide +kernel
theorem dX12_laysWays_7 : decode cX12_laysWays 7 = .ok (.if_icmp .ge 48, 3) := by decide +kernel
theorem dX12_laysWays_10 : decode cX12_laysWays 10 = .ok (.aload_n 0, 1) := by decide +kernel
theorem dX12_laysWays_11 : decode cX12_laysWays 11 = .ok (.iconst 0, 1) := by decide +kernel
theorem dX12_laysWays_12 : decode cX12_laysWays 12 = .ok (.iload_n 1, 1) := by decide +kernel
theorem dX12_laysWays_13 : decode cX12_laysWays 13 = .ok (.iload_n 2, 1) := by decide +kernel
theorem dX12_laysWays_14 : decode cX12_laysWays 14 = .ok (.bipush 61, 2) := by decide +kernel
theorem dX12_laysWays_16 : decode cX12_laysWays 16 = .ok (.invokevirtual 398, 3) := by decide +kernel
theorem dX12_laysWays_19 : decode cX12_laysWays 19 = .ok (.iconst 0, 1) := by decide +kernel
theorem dX12_laysWays_20 : decode cX12_laysWays 20 = .ok (.istore_n 3, 1) := by decide +kernel
theorem dX12_laysWays_21 : decode cX12_laysWays 21 = .ok (.iload_n 3, 1) := by decide +kernel
theorem dX12_laysWays_22 : decode cX12_laysWays 22 = .ok (.bipush 60, 2) := by decide +kernel
theorem dX12_laysWays_24 : decode cX12_laysWays 24 = .ok (.if_icmp .gt 25, 3) := by decide +kernel
theorem dX12_laysWays_27 : decode cX12_laysWays 27 = .ok (.aload_n 0, 1) := by decide +kernel
theorem dX12_laysWays_28 : decode cX12_laysWays 28 = .ok (.getfield 54, 3) := by decide +kernel
theorem dX12_laysWays_31 : decode cX12_laysWays 31 = .ok (.iconst 5, 1) := by decide +kernel
theorem dX12_laysWays_32 : decode cX12_laysWays 32 = .ok (.iload_n 3, 1) := by decide +kernel
theorem dX12_laysWays_33 : decode cX12_laysWays 33 = .ok (.imul, 1) := by decide +kernel
theorem dX12_laysWays_34 : decode cX12_laysWays 34 = .ok (.iload_n 2, 1) := by decide +kernel
theorem dX12_laysWays_35 : decode cX12_laysWays 35 = .ok (.iadd, 1) := by decide +kernel
theorem dX12_laysWays_36 : decode cX12_laysWays 36 = .ok (.aload_n 0, 1) := by decide +kernel
theorem dX12_laysWays_37 : decode cX12_laysWays 37 = .ok (.getfield 42, 3) := by decide +kernel
theorem dX12_laysWays_40 : decode cX12_laysWays 40 = .ok (.iload_n 3, 1) := by decide +kernel
theorem dX12_laysWays_41 : decode cX12_laysWays 41 = .ok (.iaload, 1) := by decide +kernel
theorem dX12_laysWays_42 : decode cX12_laysWays 42 = .ok (.iastore, 1) := by decide +kernel
theorem dX12_laysWays_43 : decode cX12_laysWays 43 = .ok (.iinc 3 1, 3) := by decide +kernel
theorem dX12_laysWays_46 : decode cX12_laysWays 46 = .ok (.goto (-25), 3) := by decide +kernel
theorem dX12_laysWays_49 : decode cX12_laysWays 49 = .ok (.iinc 2 1, 3) := by decide +kernel
theorem dX12_laysWays_52 : decode cX12_laysWays 52 = .ok (.goto (-50), 3) := by decide +kernel
theorem dX12_laysWays_55 : decode cX12_laysWays 55 = .ok (.return_, 1) := by decide +kernel
theorem dX12_nextTo_0 : decode cX12_nextTo 0 = .ok (.iload_n 1, 1) := by decide +kernel
theorem dX12_nextTo_1 : decode cX12_nextTo 1 = .ok (.istore_n 2, 1) := by decide +kernel
theorem dX12_nextTo_2 : decode cX12_nextTo 2 = .ok (.iconst 0, 1) := by decide +kernel
theorem dX12_nextTo_3 : decode cX12_nextTo 3 = .ok (.istore_n 3, 1) := by decide +kernel
theorem dX12_nextTo_4 : decode cX12_nextTo 4 = .ok (.iload_n 3, 1) := by decide +kernel
theorem dX12_nextTo_5 : decode cX12_nextTo 5 = .ok (.aload_n 0, 1) := by decide +kernel
theorem dX12_nextTo_6 : decode cX12_nextTo 6 = .ok (.invokevirtual 291, 3) := by decide +kernel
theorem dX12_nextTo_9 : decode cX12_nextTo 9 = .ok (.if_icmp .ge 33, 3) := by decide +kernel
theorem dX12_nextTo_12 : decode cX12_nextTo 12 = .ok (.iload_n 2, 1) := by decide +kernel
theorem dX12_nextTo_13 : decode cX12_nextTo 13 = .ok (.iload_n 1, 1) := by decide +kernel
theorem dX12_nextTo_14 : decode cX12_nextTo 14 = .ok (.iload_n 3, 1) := by decide +kernel
theorem dX12_nextTo_15 : decode cX12_nextTo 15 = .ok (.invokestatic 250, 3) := by decide +kernel
theorem dX12_nextTo_18 : decode cX12_nextTo 18 = .ok (.ifCond .eq 15, 3) := by decide +kernel
theorem dX12_nextTo_21 : decode cX12_nextTo 21 = .ok (.aload_n 0, 1) := by decide +kernel
theorem dX12_nextTo_22 : decode cX12_nextTo 22 = .ok (.getfield 9, 3) := by decide +kernel
theorem dX12_nextTo_25 : decode cX12_nextTo 25 = .ok (.bipush 61, 2) := by decide +kernel
theorem dX12_nextTo_27 : decode cX12_nextTo 27 = .ok (.iload_n 3, 1) := by decide +kernel
theorem dX12_nextTo_28 : decode cX12_nextTo 28 = .ok (.iadd, 1) := by decide +kernel
theorem dX12_nextTo_29 : decode cX12_nextTo 29 = .ok (.iaload, 1) := by decide +kernel
theorem dX12_nextTo_30 : decode cX12_nextTo 30 = .ok (.goto 4, 3) := by decide +kernel
theorem dX12_nextTo_33 : decode cX12_nextTo 33 = .ok (.iconst 0, 1) := by decide +kernel
theorem dX12_nextTo_34 : decode cX12_nextTo 34 = .ok (.ior, 1) := by decide +kernel
theorem dX12_nextTo_35 : decode cX12_nextTo 35 = .ok (.istore_n 2, 1) := by decide +kernel
theorem dX12_nextTo_36 : decode cX12_nextTo 36 = .ok (.iinc 3 1, 3) := by decide +kernel
theorem dX12_nextTo_39 : decode cX12_nextTo 39 = .ok (.goto (-35), 3) := by decide +kernel
theorem dX12_nextTo_42 : decode cX12_nextTo 42 = .ok (.iload_n 2, 1) := by decide +kernel
theorem dX12_nextTo_43 : decode cX12_nextTo 43 = .ok (.ireturn, 1) := by decide +kernel
theorem dX12_freeIn_0 : decode cX12_freeIn 0 = .ok (.iconst 0, 1) := by decide +kernel
theorem dX12_freeIn_1 : decode cX12_freeIn 1 = .ok (.istore_n 2, 1) := by decide +kernel
theorem dX12_freeIn_2 : decode cX12_freeIn 2 = .ok (.iconst 0, 1) := by decide +kernel
theorem dX12_freeIn_3 : decode cX12_freeIn 3 = .ok (.istore_n 3, 1) := by decide +kernel
theorem dX12_freeIn_4 : decode cX12_freeIn 4 = .ok (.iload_n 3, 1) := by decide +kernel
theorem dX12_freeIn_5 : decode cX12_freeIn 5 = .ok (.aload_n 0, 1) := by decide +kernel
theorem dX12_freeIn_6 : decode cX12_freeIn 6 = .ok (.invokevirtual 291, 3) := by decide +kernel
theorem dX12_freeIn_9 : decode cX12_freeIn 9 = .ok (.if_icmp .ge 32, 3) := by decide +kernel
theorem dX12_freeIn_12 : decode cX12_freeIn 12 = .ok (.iload_n 2, 1) := by decide +kernel
theorem dX12_freeIn_13 : decode cX12_freeIn 13 = .ok (.aload_n 0, 1) := by decide +kernel
theorem dX12_freeIn_14 : decode cX12_freeIn 14 = .ok (.getfield 54, 3) := by decide +kernel
theorem dX12_freeIn_17 : decode cX12_freeIn 17 = .ok (.iconst 5, 1) := by decide +kernel
theorem dX12_freeIn_18 : decode cX12_freeIn 18 = .ok (.iload_n 1, 1) := by decide +kernel
theorem dX12_freeIn_19 : decode cX12_freeIn 19 = .ok (.imul, 1) := by decide +kernel
theorem dX12_freeIn_20 : decode cX12_freeIn 20 = .ok (.iload_n 3, 1) := by decide +kernel
theorem dX12_freeIn_21 : decode cX12_freeIn 21 = .ok (.iadd, 1) := by decide +kernel
theorem dX12_freeIn_22 : decode cX12_freeIn 22 = .ok (.iaload, 1) := by decide +kernel
theorem dX12_freeIn_23 : decode cX12_freeIn 23 = .ok (.ifCond .ne 9, 3) := by decide +kernel
theorem dX12_freeIn_26 : decode cX12_freeIn 26 = .ok (.iconst 1, 1) := by decide +kernel
theorem dX12_freeIn_27 : decode cX12_freeIn 27 = .ok (.iload_n 3, 1) := by decide +kernel
theorem dX12_freeIn_28 : decode cX12_freeIn 28 = .ok (.ishl, 1) := by decide +kernel
theorem dX12_freeIn_29 : decode cX12_freeIn 29 = .ok (.goto 4, 3) := by decide +kernel
theorem dX12_freeIn_32 : decode cX12_freeIn 32 = .ok (.iconst 0, 1) := by decide +kernel
theorem dX12_freeIn_33 : decode cX12_freeIn 33 = .ok (.ior, 1) := by decide +kernel
theorem dX12_freeIn_34 : decode cX12_freeIn 34 = .ok (.istore_n 2, 1) := by decide +kernel
theorem dX12_freeIn_35 : decode cX12_freeIn 35 = .ok (.iinc 3 1, 3) := by decide +kernel
theorem dX12_freeIn_38 : decode cX12_freeIn 38 = .ok (.goto (-34), 3) := by decide +kernel
theorem dX12_freeIn_41 : decode cX12_freeIn 41 = .ok (.iload_n 2, 1) := by decide +kernel
theorem dX12_freeIn_42 : decode cX12_freeIn 42 = .ok (.ireturn, 1) := by decide +kernel
theorem dX12_laysFree_0 : decode cX12_laysFree 0 = .ok (.iload_n 3, 1) := by decide +kernel
theorem dX12_laysFree_1 : decode cX12_laysFree 1 = .ok (.iconst (-1), 1) := by decide +kernel
theorem dX12_laysFree_2 : decode cX12_laysFree 2 = .ok (.if_icmp .ne 7, 3) := by decide +kernel
theorem dX12_laysFree_5 : decode cX12_laysFree 5 = .ok (.iconst (-1), 1) := by decide +kernel
theorem dX12_laysFree_6 : decode cX12_laysFree 6 = .ok (.goto 8, 3) := by decide +kernel
theorem dX12_laysFree_9 : decode cX12_laysFree 9 = .ok (.iconst 1, 1) := by decide +kernel
theorem dX12_laysFree_10 : decode cX12_laysFree 10 = .ok (.iload_n 3, 1) := by decide +kernel
theorem dX12_laysFree_11 : decode cX12_laysFree 11 = .ok (.ishl, 1) := by decide +kernel
theorem dX12_laysFree_12 : decode cX12_laysFree 12 = .ok (.iconst (-1), 1) := by decide +kernel
theorem dX12_laysFree_13 : decode cX12_laysFree 13 = .ok (.ixor, 1) := by decide +kernel
theorem dX12_laysFree_14 : decode cX12_laysFree 14 = .ok (.istore 4, 2) := by decide +kernel
theorem dX12_laysFree_16 : decode cX12_laysFree 16 = .ok (.aload_n 0, 1) := by decide +kernel
theorem dX12_laysFree_17 : decode cX12_laysFree 17 = .ok (.getfield 57, 3) := by decide +kernel
theorem dX12_laysFree_20 : decode cX12_laysFree 20 = .ok (.iconst 0, 1) := by decide +kernel
theorem dX12_laysFree_21 : decode cX12_laysFree 21 = .ok (.aload_n 0, 1) := by decide +kernel
theorem dX12_laysFree_22 : decode cX12_laysFree 22 = .ok (.iconst 0, 1) := by decide +kernel
theorem dX12_laysFree_23 : decode cX12_laysFree 23 = .ok (.invokevirtual 506, 3) := by decide +kernel
theorem dX12_laysFree_26 : decode cX12_laysFree 26 = .ok (.iconst 1, 1) := by decide +kernel
theorem dX12_laysFree_27 : decode cX12_laysFree 27 = .ok (.iload_n 1, 1) := by decide +kernel
theorem dX12_laysFree_28 : decode cX12_laysFree 28 = .ok (.ishl, 1) := by decide +kernel
theorem dX12_laysFree_29 : decode cX12_laysFree 29 = .ok (.iand, 1) := by decide +kernel
theorem dX12_laysFree_30 : decode cX12_laysFree 30 = .ok (.iastore, 1) := by decide +kernel
theorem dX12_laysFree_31 : decode cX12_laysFree 31 = .ok (.iconst 1, 1) := by decide +kernel
theorem dX12_laysFree_32 : decode cX12_laysFree 32 = .ok (.istore 5, 2) := by decide +kernel
theorem dX12_laysFree_34 : decode cX12_laysFree 34 = .ok (.iload 5, 2) := by decide +kernel
theorem dX12_laysFree_36 : decode cX12_laysFree 36 = .ok (.bipush 60, 2) := by decide +kernel
theorem dX12_laysFree_38 : decode cX12_laysFree 38 = .ok (.if_icmp .gt 39, 3) := by decide +kernel
theorem dX12_laysFree_41 : decode cX12_laysFree 41 = .ok (.aload_n 0, 1) := by decide +kernel
theorem dX12_laysFree_42 : decode cX12_laysFree 42 = .ok (.getfield 57, 3) := by decide +kernel
theorem dX12_laysFree_45 : decode cX12_laysFree 45 = .ok (.iload 5, 2) := by decide +kernel
theorem dX12_laysFree_47 : decode cX12_laysFree 47 = .ok (.aload_n 0, 1) := by decide +kernel
theorem dX12_laysFree_48 : decode cX12_laysFree 48 = .ok (.aload_n 0, 1) := by decide +kernel
theorem dX12_laysFree_49 : decode cX12_laysFree 49 = .ok (.getfield 57, 3) := by decide +kernel
theorem dX12_laysFree_52 : decode cX12_laysFree 52 = .ok (.iload 5, 2) := by decide +kernel
theorem dX12_laysFree_54 : decode cX12_laysFree 54 = .ok (.iconst 1, 1) := by decide +kernel
theorem dX12_laysFree_55 : decode cX12_laysFree 55 = .ok (.isub, 1) := by decide +kernel
theorem dX12_laysFree_56 : decode cX12_laysFree 56 = .ok (.iaload, 1) := by decide +kernel
theorem dX12_laysFree_57 : decode cX12_laysFree 57 = .ok (.invokevirtual 509, 3) := by decide +kernel
theorem dX12_laysFree_60 : decode cX12_laysFree 60 = .ok (.aload_n 0, 1) := by decide +kernel
theorem dX12_laysFree_61 : decode cX12_laysFree 61 = .ok (.iload 5, 2) := by decide +kernel
theorem dX12_laysFree_63 : decode cX12_laysFree 63 = .ok (.invokevirtual 506, 3) := by decide +kernel
theorem dX12_laysFree_66 : decode cX12_laysFree 66 = .ok (.iand, 1) := by decide +kernel
theorem dX12_laysFree_67 : decode cX12_laysFree 67 = .ok (.iload 4, 2) := by decide +kernel
theorem dX12_laysFree_69 : decode cX12_laysFree 69 = .ok (.iand, 1) := by decide +kernel
theorem dX12_laysFree_70 : decode cX12_laysFree 70 = .ok (.iastore, 1) := by decide +kernel
theorem dX12_laysFree_71 : decode cX12_laysFree 71 = .ok (.iinc 5 1, 3) := by decide +kernel
theorem dX12_laysFree_74 : decode cX12_laysFree 74 = .ok (.goto (-40), 3) := by decide +kernel
theorem dX12_laysFree_77 : decode cX12_laysFree 77 = .ok (.iconst 0, 1) := by decide +kernel
theorem dX12_laysFree_78 : decode cX12_laysFree 78 = .ok (.istore 5, 2) := by decide +kernel
theorem dX12_laysFree_80 : decode cX12_laysFree 80 = .ok (.iload 5, 2) := by decide +kernel
theorem dX12_laysFree_82 : decode cX12_laysFree 82 = .ok (.bipush 60, 2) := by decide +kernel
theorem dX12_laysFree_84 : decode cX12_laysFree 84 = .ok (.if_icmp .gt 23, 3) := by decide +kernel
theorem dX12_laysFree_87 : decode cX12_laysFree 87 = .ok (.aload_n 0, 1) := by decide +kernel
theorem dX12_laysFree_88 : decode cX12_laysFree 88 = .ok (.getfield 57, 3) := by decide +kernel
theorem dX12_laysFree_91 : decode cX12_laysFree 91 = .ok (.iload 5, 2) := by decide +kernel
theorem dX12_laysFree_93 : decode cX12_laysFree 93 = .ok (.iaload, 1) := by decide +kernel
theorem dX12_laysFree_94 : decode cX12_laysFree 94 = .ok (.iload_n 2, 1) := by decide +kernel
theorem dX12_laysFree_95 : decode cX12_laysFree 95 = .ok (.invokestatic 250, 3) := by decide +kernel
theorem dX12_laysFree_98 : decode cX12_laysFree 98 = .ok (.ifCond .ne 9, 3) := by decide +kernel
theorem dX12_laysFree_101 : decode cX12_laysFree 101 = .ok (.iinc 5 1, 3) := by decide +kernel
theorem dX12_laysFree_104 : decode cX12_laysFree 104 = .ok (.goto (-24), 3) := by decide +kernel
theorem dX12_laysFree_107 : decode cX12_laysFree 107 = .ok (.iload 5, 2) := by decide +kernel
theorem dX12_laysFree_109 : decode cX12_laysFree 109 = .ok (.bipush 60, 2) := by decide +kernel
theorem dX12_laysFree_111 : decode cX12_laysFree 111 = .ok (.if_icmp .le 7, 3) := by decide +kernel
theorem dX12_laysFree_114 : decode cX12_laysFree 114 = .ok (.iconst (-1), 1) := by decide +kernel
theorem dX12_laysFree_115 : decode cX12_laysFree 115 = .ok (.goto 5, 3) := by decide +kernel
theorem dX12_laysFree_118 : decode cX12_laysFree 118 = .ok (.iload 5, 2) := by decide +kernel
theorem dX12_laysFree_120 : decode cX12_laysFree 120 = .ok (.ireturn, 1) := by decide +kernel
theorem dX12_isWayOut_0 : decode cX12_isWayOut 0 = .ok (.aload_n 0, 1) := by decide +kernel
theorem dX12_isWayOut_1 : decode cX12_isWayOut 1 = .ok (.aload_n 0, 1) := by decide +kernel
theorem dX12_isWayOut_2 : decode cX12_isWayOut 2 = .ok (.iload_n 2, 1) := by decide +kernel
theorem dX12_isWayOut_3 : decode cX12_isWayOut 3 = .ok (.i2l, 1) := by decide +kernel
theorem dX12_isWayOut_4 : decode cX12_isWayOut 4 = .ok (.invokevirtual 371, 3) := by decide +kernel
theorem dX12_isWayOut_7 : decode cX12_isWayOut 7 = .ok (.ifCond .eq 12, 3) := by decide +kernel
theorem dX12_isWayOut_10 : decode cX12_isWayOut 10 = .ok (.aload_n 0, 1) := by decide +kernel
theorem dX12_isWayOut_11 : decode cX12_isWayOut 11 = .ok (.iload_n 3, 1) := by decide +kernel
theorem dX12_isWayOut_12 : decode cX12_isWayOut 12 = .ok (.i2l, 1) := by decide +kernel
theorem dX12_isWayOut_13 : decode cX12_isWayOut 13 = .ok (.invokevirtual 371, 3) := by decide +kernel
theorem dX12_isWayOut_16 : decode cX12_isWayOut 16 = .ok (.ifCond .ne 7, 3) := by decide +kernel
theorem dX12_isWayOut_19 : decode cX12_isWayOut 19 = .ok (.iconst 1, 1) := by decide +kernel
theorem dX12_isWayOut_20 : decode cX12_isWayOut 20 = .ok (.goto 15, 3) := by decide +kernel
theorem dX12_isWayOut_23 : decode cX12_isWayOut 23 = .ok (.iload_n 1, 1) := by decide +kernel
theorem dX12_isWayOut_24 : decode cX12_isWayOut 24 = .ok (.invokestatic 389, 3) := by decide +kernel
theorem dX12_isWayOut_27 : decode cX12_isWayOut 27 = .ok (.ifCond .eq 7, 3) := by decide +kernel
theorem dX12_isWayOut_30 : decode cX12_isWayOut 30 = .ok (.iconst 0, 1) := by decide +kernel
theorem dX12_isWayOut_31 : decode cX12_isWayOut 31 = .ok (.goto 4, 3) := by decide +kernel
theorem dX12_isWayOut_34 : decode cX12_isWayOut 34 = .ok (.iconst 2, 1) := by decide +kernel
theorem dX12_isWayOut_35 : decode cX12_isWayOut 35 = .ok (.putfield 97, 3) := by decide +kernel
theorem dX12_isWayOut_38 : decode cX12_isWayOut 38 = .ok (.aload_n 0, 1) := by decide +kernel
theorem dX12_isWayOut_39 : decode cX12_isWayOut 39 = .ok (.getfield 97, 3) := by decide +kernel
theorem dX12_isWayOut_42 : decode cX12_isWayOut 42 = .ok (.ifCond .le 7, 3) := by decide +kernel
theorem dX12_isWayOut_45 : decode cX12_isWayOut 45 = .ok (.iconst 1, 1) := by decide +kernel
theorem dX12_isWayOut_46 : decode cX12_isWayOut 46 = .ok (.goto 4, 3) := by decide +kernel
theorem dX12_isWayOut_49 : decode cX12_isWayOut 49 = .ok (.iconst 0, 1) := by decide +kernel
theorem dX12_isWayOut_50 : decode cX12_isWayOut 50 = .ok (.ireturn, 1) := by decide +kernel
theorem dX12_freeWay_0 : decode cX12_freeWay 0 = .ok (.aload_n 0, 1) := by decide +kernel
theorem dX12_freeWay_1 : decode cX12_freeWay 1 = .ok (.iload_n 1, 1) := by decide +kernel
theorem dX12_freeWay_2 : decode cX12_freeWay 2 = .ok (.iload_n 2, 1) := by decide +kernel
theorem dX12_freeWay_3 : decode cX12_freeWay 3 = .ok (.iload_n 3, 1) := by decide +kernel
theorem dX12_freeWay_4 : decode cX12_freeWay 4 = .ok (.invokevirtual 512, 3) := by decide +kernel
theorem dX12_freeWay_7 : decode cX12_freeWay 7 = .ok (.ifCond .eq 5, 3) := by decide +kernel
theorem dX12_freeWay_10 : decode cX12_freeWay 10 = .ok (.iconst 0, 1) := by decide +kernel
theorem dX12_freeWay_11 : decode cX12_freeWay 11 = .ok (.ireturn, 1) := by decide +kernel
theorem dX12_freeWay_12 : decode cX12_freeWay 12 = .ok (.aload_n 0, 1) := by decide +kernel
theorem dX12_freeWay_13 : decode cX12_freeWay 13 = .ok (.iload_n 1, 1) := by decide +kernel
theorem dX12_freeWay_14 : decode cX12_freeWay 14 = .ok (.invokevirtual 515, 3) := by decide +kernel
theorem dX12_freeWay_17 : decode cX12_freeWay 17 = .ok (.aload_n 0, 1) := by decide +kernel
theorem dX12_freeWay_18 : decode cX12_freeWay 18 = .ok (.iload_n 2, 1) := by decide +kernel
theorem dX12_freeWay_19 : decode cX12_freeWay 19 = .ok (.iload_n 3, 1) := by decide +kernel
theorem dX12_freeWay_20 : decode cX12_freeWay 20 = .ok (.iconst (-1), 1) := by decide +kernel
theorem dX12_freeWay_21 : decode cX12_freeWay 21 = .ok (.invokevirtual 518, 3) := by decide +kernel
theorem dX12_freeWay_24 : decode cX12_freeWay 24 = .ok (.ireturn, 1) := by decide +kernel
theorem dX12_freeAt_0 : decode cX12_freeAt 0 = .ok (.aload_n 0, 1) := by decide +kernel
theorem dX12_freeAt_1 : decode cX12_freeAt 1 = .ok (.iload_n 1, 1) := by decide +kernel
theorem dX12_freeAt_2 : decode cX12_freeAt 2 = .ok (.iload_n 2, 1) := by decide +kernel
theorem dX12_freeAt_3 : decode cX12_freeAt 3 = .ok (.iload_n 3, 1) := by decide +kernel
theorem dX12_freeAt_4 : decode cX12_freeAt 4 = .ok (.invokevirtual 512, 3) := by decide +kernel
theorem dX12_freeAt_7 : decode cX12_freeAt 7 = .ok (.ifCond .ne 13, 3) := by decide +kernel
theorem dX12_freeAt_10 : decode cX12_freeAt 10 = .ok (.iload 4, 2) := by decide +kernel
theorem dX12_freeAt_12 : decode cX12_freeAt 12 = .ok (.ifCond .ge 8, 3) := by decide +kernel
theorem dX12_freeAt_15 : decode cX12_freeAt 15 = .ok (.aload_n 0, 1) := by decide +kernel
theorem dX12_freeAt_16 : decode cX12_freeAt 16 = .ok (.iconst 2, 1) := by decide +kernel
theorem dX12_freeAt_17 : decode cX12_freeAt 17 = .ok (.putfield 97, 3) := by decide +kernel
theorem dX12_freeAt_20 : decode cX12_freeAt 20 = .ok (.aload_n 0, 1) := by decide +kernel
theorem dX12_freeAt_21 : decode cX12_freeAt 21 = .ok (.getfield 97, 3) := by decide +kernel
theorem dX12_freeAt_24 : decode cX12_freeAt 24 = .ok (.ifCond .le 5, 3) := by decide +kernel
theorem dX12_freeAt_27 : decode cX12_freeAt 27 = .ok (.iconst 0, 1) := by decide +kernel
theorem dX12_freeAt_28 : decode cX12_freeAt 28 = .ok (.ireturn, 1) := by decide +kernel
theorem dX12_freeAt_29 : decode cX12_freeAt 29 = .ok (.aload_n 0, 1) := by decide +kernel
theorem dX12_freeAt_30 : decode cX12_freeAt 30 = .ok (.iload_n 1, 1) := by decide +kernel
theorem dX12_freeAt_31 : decode cX12_freeAt 31 = .ok (.invokevirtual 515, 3) := by decide +kernel
theorem dX12_freeAt_34 : decode cX12_freeAt 34 = .ok (.aload_n 0, 1) := by decide +kernel
theorem dX12_freeAt_35 : decode cX12_freeAt 35 = .ok (.iload_n 2, 1) := by decide +kernel
theorem dX12_freeAt_36 : decode cX12_freeAt 36 = .ok (.iload_n 3, 1) := by decide +kernel
theorem dX12_freeAt_37 : decode cX12_freeAt 37 = .ok (.iconst (-1), 1) := by decide +kernel
theorem dX12_freeAt_38 : decode cX12_freeAt 38 = .ok (.invokevirtual 518, 3) := by decide +kernel
theorem dX12_freeAt_41 : decode cX12_freeAt 41 = .ok (.istore 5, 2) := by decide +kernel
theorem dX12_freeAt_43 : decode cX12_freeAt 43 = .ok (.iload 5, 2) := by decide +kernel
theorem dX12_freeAt_45 : decode cX12_freeAt 45 = .ok (.iconst (-1), 1) := by decide +kernel
theorem dX12_freeAt_46 : decode cX12_freeAt 46 = .ok (.if_icmp .eq 10, 3) := by decide +kernel
theorem dX12_freeAt_49 : decode cX12_freeAt 49 = .ok (.iload 4, 2) := by decide +kernel
theorem dX12_freeAt_51 : decode cX12_freeAt 51 = .ok (.iload 5, 2) := by decide +kernel
theorem dX12_freeAt_53 : decode cX12_freeAt 53 = .ok (.if_icmp .le 5, 3) := by decide +kernel
theorem dX12_freeAt_56 : decode cX12_freeAt 56 = .ok (.iconst (-1), 1) := by decide +kernel
theorem dX12_freeAt_57 : decode cX12_freeAt 57 = .ok (.ireturn, 1) := by decide +kernel
theorem dX12_freeAt_58 : decode cX12_freeAt 58 = .ok (.aload_n 0, 1) := by decide +kernel
theorem dX12_freeAt_59 : decode cX12_freeAt 59 = .ok (.getfield 60, 3) := by decide +kernel
theorem dX12_freeAt_62 : decode cX12_freeAt 62 = .ok (.iload 5, 2) := by decide +kernel
theorem dX12_freeAt_64 : decode cX12_freeAt 64 = .ok (.iconst 1, 1) := by decide +kernel
theorem dX12_freeAt_65 : decode cX12_freeAt 65 = .ok (.iload_n 3, 1) := by decide +kernel
theorem dX12_freeAt_66 : decode cX12_freeAt 66 = .ok (.ishl, 1) := by decide +kernel
theorem dX12_freeAt_67 : decode cX12_freeAt 67 = .ok (.iastore, 1) := by decide +kernel
theorem dX12_freeAt_68 : decode cX12_freeAt 68 = .ok (.iload 5, 2) := by decide +kernel
theorem dX12_freeAt_70 : decode cX12_freeAt 70 = .ok (.iconst 1, 1) := by decide +kernel
theorem dX12_freeAt_71 : decode cX12_freeAt 71 = .ok (.isub, 1) := by decide +kernel
theorem dX12_freeAt_72 : decode cX12_freeAt 72 = .ok (.istore 6, 2) := by decide +kernel
theorem dX12_freeAt_74 : decode cX12_freeAt 74 = .ok (.iload 6, 2) := by decide +kernel
theorem dX12_freeAt_76 : decode cX12_freeAt 76 = .ok (.ifCond .lt 37, 3) := by decide +kernel
theorem dX12_freeAt_79 : decode cX12_freeAt 79 = .ok (.aload_n 0, 1) := by decide +kernel
theorem dX12_freeAt_80 : decode cX12_freeAt 80 = .ok (.getfield 60, 3) := by decide +kernel
theorem dX12_freeAt_83 : decode cX12_freeAt 83 = .ok (.iload 6, 2) := by decide +kernel
theorem dX12_freeAt_85 : decode cX12_freeAt 85 = .ok (.aload_n 0, 1) := by decide +kernel
theorem dX12_freeAt_86 : decode cX12_freeAt 86 = .ok (.aload_n 0, 1) := by decide +kernel
theorem dX12_freeAt_87 : decode cX12_freeAt 87 = .ok (.getfield 60, 3) := by decide +kernel
theorem dX12_freeAt_90 : decode cX12_freeAt 90 = .ok (.iload 6, 2) := by decide +kernel
theorem dX12_freeAt_92 : decode cX12_freeAt 92 = .ok (.iconst 1, 1) := by decide +kernel
theorem dX12_freeAt_93 : decode cX12_freeAt 93 = .ok (.iadd, 1) := by decide +kernel
theorem dX12_freeAt_94 : decode cX12_freeAt 94 = .ok (.iaload, 1) := by decide +kernel
theorem dX12_freeAt_95 : decode cX12_freeAt 95 = .ok (.invokevirtual 509, 3) := by decide +kernel
theorem dX12_freeAt_98 : decode cX12_freeAt 98 = .ok (.aload_n 0, 1) := by decide +kernel
theorem dX12_freeAt_99 : decode cX12_freeAt 99 = .ok (.getfield 57, 3) := by decide +kernel
theorem dX12_freeAt_102 : decode cX12_freeAt 102 = .ok (.iload 6, 2) := by decide +kernel
theorem dX12_freeAt_104 : decode cX12_freeAt 104 = .ok (.iaload, 1) := by decide +kernel
theorem dX12_freeAt_105 : decode cX12_freeAt 105 = .ok (.iand, 1) := by decide +kernel
theorem dX12_freeAt_106 : decode cX12_freeAt 106 = .ok (.iastore, 1) := by decide +kernel
theorem dX12_freeAt_107 : decode cX12_freeAt 107 = .ok (.iinc 6 (-1), 3) := by decide +kernel
theorem dX12_freeAt_110 : decode cX12_freeAt 110 = .ok (.goto (-36), 3) := by decide +kernel
theorem dX12_freeAt_113 : decode cX12_freeAt 113 = .ok (.iload_n 2, 1) := by decide +kernel
theorem dX12_freeAt_114 : decode cX12_freeAt 114 = .ok (.istore 6, 2) := by decide +kernel
theorem dX12_freeAt_116 : decode cX12_freeAt 116 = .ok (.iconst 1, 1) := by decide +kernel
theorem dX12_freeAt_117 : decode cX12_freeAt 117 = .ok (.istore 7, 2) := by decide +kernel
theorem dX12_freeAt_119 : decode cX12_freeAt 119 = .ok (.iload 7, 2) := by decide +kernel
theorem dX12_freeAt_121 : decode cX12_freeAt 121 = .ok (.iload 4, 2) := by decide +kernel
theorem dX12_freeAt_123 : decode cX12_freeAt 123 = .ok (.if_icmp .gt 30, 3) := by decide +kernel
theorem dX12_freeAt_126 : decode cX12_freeAt 126 = .ok (.aload_n 0, 1) := by decide +kernel
theorem dX12_freeAt_127 : decode cX12_freeAt 127 = .ok (.iconst 1, 1) := by decide +kernel
theorem dX12_freeAt_128 : decode cX12_freeAt 128 = .ok (.iload 6, 2) := by decide +kernel
theorem dX12_freeAt_130 : decode cX12_freeAt 130 = .ok (.ishl, 1) := by decide +kernel
theorem dX12_freeAt_131 : decode cX12_freeAt 131 = .ok (.invokevirtual 509, 3) := by decide +kernel
theorem dX12_freeAt_134 : decode cX12_freeAt 134 = .ok (.aload_n 0, 1) := by decide +kernel
theorem dX12_freeAt_135 : decode cX12_freeAt 135 = .ok (.getfield 60, 3) := by decide +kernel
theorem dX12_freeAt_138 : decode cX12_freeAt 138 = .ok (.iload 7, 2) := by decide +kernel
theorem dX12_freeAt_140 : decode cX12_freeAt 140 = .ok (.iaload, 1) := by decide +kernel
theorem dX12_freeAt_141 : decode cX12_freeAt 141 = .ok (.iand, 1) := by decide +kernel
theorem dX12_freeAt_142 : decode cX12_freeAt 142 = .ok (.invokestatic 521, 3) := by decide +kernel
theorem dX12_freeAt_145 : decode cX12_freeAt 145 = .ok (.istore 6, 2) := by decide +kernel
theorem dX12_freeAt_147 : decode cX12_freeAt 147 = .ok (.iinc 7 1, 3) := by decide +kernel
theorem dX12_freeAt_150 : decode cX12_freeAt 150 = .ok (.goto (-31), 3) := by decide +kernel
theorem dX12_freeAt_153 : decode cX12_freeAt 153 = .ok (.iload 6, 2) := by decide +kernel
theorem dX12_freeAt_155 : decode cX12_freeAt 155 = .ok (.ireturn, 1) := by decide +kernel
theorem dX12_firstOf_0 : decode cX12_firstOf 0 = .ok (.iconst 0, 1) := by decide +kernel
theorem dX12_firstOf_1 : decode cX12_firstOf 1 = .ok (.istore_n 1, 1) := by decide +kernel
theorem dX12_firstOf_2 : decode cX12_firstOf 2 = .ok (.iload_n 0, 1) := by decide +kernel
theorem dX12_firstOf_3 : decode cX12_firstOf 3 = .ok (.iload_n 1, 1) := by decide +kernel
theorem dX12_firstOf_4 : decode cX12_firstOf 4 = .ok (.invokestatic 250, 3) := by decide +kernel
theorem dX12_firstOf_7 : decode cX12_firstOf 7 = .ok (.ifCond .ne 9, 3) := by decide +kernel
theorem dX12_firstOf_10 : decode cX12_firstOf 10 = .ok (.iinc 1 1, 3) := by decide +kernel
theorem dX12_firstOf_13 : decode cX12_firstOf 13 = .ok (.goto (-11), 3) := by decide +kernel
theorem dX12_firstOf_16 : decode cX12_firstOf 16 = .ok (.iload_n 1, 1) := by decide +kernel
theorem dX12_firstOf_17 : decode cX12_firstOf 17 = .ok (.ireturn, 1) := by decide +kernel
theorem dX12_wayFine_0 : decode cX12_wayFine 0 = .ok (.aload_n 0, 1) := by decide +kernel
theorem dX12_wayFine_1 : decode cX12_wayFine 1 = .ok (.iload_n 1, 1) := by decide +kernel
theorem dX12_wayFine_2 : decode cX12_wayFine 2 = .ok (.iload_n 2, 1) := by decide +kernel
theorem dX12_wayFine_3 : decode cX12_wayFine 3 = .ok (.iload_n 3, 1) := by decide +kernel
theorem dX12_wayFine_4 : decode cX12_wayFine 4 = .ok (.invokevirtual 512, 3) := by decide +kernel
theorem dX12_wayFine_7 : decode cX12_wayFine 7 = .ok (.ifCond .ne 21, 3) := by decide +kernel
theorem dX12_wayFine_10 : decode cX12_wayFine 10 = .ok (.iload 4, 2) := by decide +kernel
theorem dX12_wayFine_12 : decode cX12_wayFine 12 = .ok (.i2l, 1) := by decide +kernel
theorem dX12_wayFine_13 : decode cX12_wayFine 13 = .ok (.lconst 0, 1) := by decide +kernel
theorem dX12_wayFine_14 : decode cX12_wayFine 14 = .ok (.ldc2_w 408, 3) := by decide +kernel
theorem dX12_wayFine_17 : decode cX12_wayFine 17 = .ok (.invokestatic 158, 3) := by decide +kernel
theorem dX12_wayFine_20 : decode cX12_wayFine 20 = .ok (.ifCond .ne 8, 3) := by decide +kernel
theorem dX12_wayFine_23 : decode cX12_wayFine 23 = .ok (.aload_n 0, 1) := by decide +kernel
theorem dX12_wayFine_24 : decode cX12_wayFine 24 = .ok (.iconst 2, 1) := by decide +kernel
theorem dX12_wayFine_25 : decode cX12_wayFine 25 = .ok (.putfield 97, 3) := by decide +kernel
theorem dX12_wayFine_28 : decode cX12_wayFine 28 = .ok (.aload_n 0, 1) := by decide +kernel
theorem dX12_wayFine_29 : decode cX12_wayFine 29 = .ok (.getfield 97, 3) := by decide +kernel
theorem dX12_wayFine_32 : decode cX12_wayFine 32 = .ok (.ifCond .le 5, 3) := by decide +kernel
theorem dX12_wayFine_35 : decode cX12_wayFine 35 = .ok (.iconst 0, 1) := by decide +kernel
theorem dX12_wayFine_36 : decode cX12_wayFine 36 = .ok (.ireturn, 1) := by decide +kernel
theorem dX12_wayFine_37 : decode cX12_wayFine 37 = .ok (.aload_n 0, 1) := by decide +kernel
theorem dX12_wayFine_38 : decode cX12_wayFine 38 = .ok (.iload_n 1, 1) := by decide +kernel
theorem dX12_wayFine_39 : decode cX12_wayFine 39 = .ok (.invokevirtual 515, 3) := by decide +kernel
theorem dX12_wayFine_42 : decode cX12_wayFine 42 = .ok (.iconst 0, 1) := by decide +kernel
theorem dX12_wayFine_43 : decode cX12_wayFine 43 = .ok (.istore 5, 2) := by decide +kernel
theorem dX12_wayFine_45 : decode cX12_wayFine 45 = .ok (.iload 5, 2) := by decide +kernel
theorem dX12_wayFine_47 : decode cX12_wayFine 47 = .ok (.iconst 5, 1) := by decide +kernel
theorem dX12_wayFine_48 : decode cX12_wayFine 48 = .ok (.if_icmp .ge 35, 3) := by decide +kernel
theorem dX12_wayFine_51 : decode cX12_wayFine 51 = .ok (.aload_n 0, 1) := by decide +kernel
theorem dX12_wayFine_52 : decode cX12_wayFine 52 = .ok (.getfield 63, 3) := by decide +kernel
theorem dX12_wayFine_55 : decode cX12_wayFine 55 = .ok (.iload 5, 2) := by decide +kernel
theorem dX12_wayFine_57 : decode cX12_wayFine 57 = .ok (.iload 5, 2) := by decide +kernel
theorem dX12_wayFine_59 : decode cX12_wayFine 59 = .ok (.iload_n 2, 1) := by decide +kernel
theorem dX12_wayFine_60 : decode cX12_wayFine 60 = .ok (.if_icmp .ne 13, 3) := by decide +kernel
theorem dX12_wayFine_63 : decode cX12_wayFine 63 = .ok (.aload_n 0, 1) := by decide +kernel
theorem dX12_wayFine_64 : decode cX12_wayFine 64 = .ok (.getfield 54, 3) := by decide +kernel
theorem dX12_wayFine_67 : decode cX12_wayFine 67 = .ok (.iload 5, 2) := by decide +kernel
theorem dX12_wayFine_69 : decode cX12_wayFine 69 = .ok (.iaload, 1) := by decide +kernel
theorem dX12_wayFine_70 : decode cX12_wayFine 70 = .ok (.goto 6, 3) := by decide +kernel
theorem dX12_wayFine_73 : decode cX12_wayFine 73 = .ok (.ldc_w 485, 3) := by decide +kernel
theorem dX12_wayFine_76 : decode cX12_wayFine 76 = .ok (.iastore, 1) := by decide +kernel
theorem dX12_wayFine_77 : decode cX12_wayFine 77 = .ok (.iinc 5 1, 3) := by decide +kernel
theorem dX12_wayFine_80 : decode cX12_wayFine 80 = .ok (.goto (-35), 3) := by decide +kernel
theorem dX12_wayFine_83 : decode cX12_wayFine 83 = .ok (.iconst 1, 1) := by decide +kernel
theorem dX12_wayFine_84 : decode cX12_wayFine 84 = .ok (.istore 5, 2) := by decide +kernel
theorem dX12_wayFine_86 : decode cX12_wayFine 86 = .ok (.iload 5, 2) := by decide +kernel
theorem dX12_wayFine_88 : decode cX12_wayFine 88 = .ok (.iload 4, 2) := by decide +kernel
theorem dX12_wayFine_90 : decode cX12_wayFine 90 = .ok (.if_icmp .gt 91, 3) := by decide +kernel
theorem dX12_wayFine_93 : decode cX12_wayFine 93 = .ok (.iconst 0, 1) := by decide +kernel
theorem dX12_wayFine_94 : decode cX12_wayFine 94 = .ok (.istore 6, 2) := by decide +kernel
theorem dX12_wayFine_96 : decode cX12_wayFine 96 = .ok (.iload 6, 2) := by decide +kernel
theorem dX12_wayFine_98 : decode cX12_wayFine 98 = .ok (.aload_n 0, 1) := by decide +kernel
theorem dX12_wayFine_99 : decode cX12_wayFine 99 = .ok (.invokevirtual 291, 3) := by decide +kernel
theorem dX12_wayFine_102 : decode cX12_wayFine 102 = .ok (.if_icmp .ge 35, 3) := by decide +kernel
theorem dX12_wayFine_105 : decode cX12_wayFine 105 = .ok (.aload_n 0, 1) := by decide +kernel
theorem dX12_wayFine_106 : decode cX12_wayFine 106 = .ok (.getfield 66, 3) := by decide +kernel
theorem dX12_wayFine_109 : decode cX12_wayFine 109 = .ok (.iload 6, 2) := by decide +kernel
theorem dX12_wayFine_111 : decode cX12_wayFine 111 = .ok (.aload_n 0, 1) := by decide +kernel
theorem dX12_wayFine_112 : decode cX12_wayFine 112 = .ok (.iload 6, 2) := by decide +kernel
theorem dX12_wayFine_114 : decode cX12_wayFine 114 = .ok (.invokevirtual 524, 3) := by decide +kernel
theorem dX12_wayFine_117 : decode cX12_wayFine 117 = .ok (.aload_n 0, 1) := by decide +kernel
theorem dX12_wayFine_118 : decode cX12_wayFine 118 = .ok (.getfield 54, 3) := by decide +kernel
theorem dX12_wayFine_121 : decode cX12_wayFine 121 = .ok (.iconst 5, 1) := by decide +kernel
theorem dX12_wayFine_122 : decode cX12_wayFine 122 = .ok (.iload 5, 2) := by decide +kernel
theorem dX12_wayFine_124 : decode cX12_wayFine 124 = .ok (.imul, 1) := by decide +kernel
theorem dX12_wayFine_125 : decode cX12_wayFine 125 = .ok (.iload 6, 2) := by decide +kernel
theorem dX12_wayFine_127 : decode cX12_wayFine 127 = .ok (.iadd, 1) := by decide +kernel
theorem dX12_wayFine_128 : decode cX12_wayFine 128 = .ok (.iaload, 1) := by decide +kernel
theorem dX12_wayFine_129 : decode cX12_wayFine 129 = .ok (.iadd, 1) := by decide +kernel
theorem dX12_wayFine_130 : decode cX12_wayFine 130 = .ok (.iastore, 1) := by decide +kernel
theorem dX12_wayFine_131 : decode cX12_wayFine 131 = .ok (.iinc 6 1, 3) := by decide +kernel
theorem dX12_wayFine_134 : decode cX12_wayFine 134 = .ok (.goto (-38), 3) := by decide +kernel
theorem dX12_wayFine_137 : decode cX12_wayFine 137 = .ok (.iconst 0, 1) := by decide +kernel
theorem dX12_wayFine_138 : decode cX12_wayFine 138 = .ok (.istore 6, 2) := by decide +kernel
theorem dX12_wayFine_140 : decode cX12_wayFine 140 = .ok (.iload 6, 2) := by decide +kernel
theorem dX12_wayFine_142 : decode cX12_wayFine 142 = .ok (.aload_n 0, 1) := by decide +kernel
theorem dX12_wayFine_143 : decode cX12_wayFine 143 = .ok (.invokevirtual 291, 3) := by decide +kernel
theorem dX12_wayFine_146 : decode cX12_wayFine 146 = .ok (.if_icmp .ge 29, 3) := by decide +kernel
theorem dX12_wayFine_149 : decode cX12_wayFine 149 = .ok (.aload_n 0, 1) := by decide +kernel
theorem dX12_wayFine_150 : decode cX12_wayFine 150 = .ok (.getfield 63, 3) := by decide +kernel
theorem dX12_wayFine_153 : decode cX12_wayFine 153 = .ok (.iload 6, 2) := by decide +kernel
theorem dX12_wayFine_155 : decode cX12_wayFine 155 = .ok (.ldc_w 485, 3) := by decide +kernel
theorem dX12_wayFine_158 : decode cX12_wayFine 158 = .ok (.aload_n 0, 1) := by decide +kernel
theorem dX12_wayFine_159 : decode cX12_wayFine 159 = .ok (.getfield 66, 3) := by decide +kernel
theorem dX12_wayFine_162 : decode cX12_wayFine 162 = .ok (.iload 6, 2) := by decide +kernel
theorem dX12_wayFine_164 : decode cX12_wayFine 164 = .ok (.iaload, 1) := by decide +kernel
theorem dX12_wayFine_165 : decode cX12_wayFine 165 = .ok (.invokestatic 320, 3) := by decide +kernel
theorem dX12_wayFine_168 : decode cX12_wayFine 168 = .ok (.iastore, 1) := by decide +kernel
theorem dX12_wayFine_169 : decode cX12_wayFine 169 = .ok (.iinc 6 1, 3) := by decide +kernel
theorem dX12_wayFine_172 : decode cX12_wayFine 172 = .ok (.goto (-32), 3) := by decide +kernel
theorem dX12_wayFine_175 : decode cX12_wayFine 175 = .ok (.iinc 5 1, 3) := by decide +kernel
theorem dX12_wayFine_178 : decode cX12_wayFine 178 = .ok (.goto (-92), 3) := by decide +kernel
theorem dX12_wayFine_181 : decode cX12_wayFine 181 = .ok (.aload_n 0, 1) := by decide +kernel
theorem dX12_wayFine_182 : decode cX12_wayFine 182 = .ok (.getfield 63, 3) := by decide +kernel
theorem dX12_wayFine_185 : decode cX12_wayFine 185 = .ok (.iload_n 3, 1) := by decide +kernel
theorem dX12_wayFine_186 : decode cX12_wayFine 186 = .ok (.iaload, 1) := by decide +kernel
theorem dX12_wayFine_187 : decode cX12_wayFine 187 = .ok (.ldc_w 485, 3) := by decide +kernel
theorem dX12_wayFine_190 : decode cX12_wayFine 190 = .ok (.if_icmp .ne 7, 3) := by decide +kernel
theorem dX12_wayFine_193 : decode cX12_wayFine 193 = .ok (.iconst (-1), 1) := by decide +kernel
theorem dX12_wayFine_194 : decode cX12_wayFine 194 = .ok (.goto 9, 3) := by decide +kernel
theorem dX12_wayFine_197 : decode cX12_wayFine 197 = .ok (.aload_n 0, 1) := by decide +kernel
theorem dX12_wayFine_198 : decode cX12_wayFine 198 = .ok (.getfield 63, 3) := by decide +kernel
theorem dX12_wayFine_201 : decode cX12_wayFine 201 = .ok (.iload_n 3, 1) := by decide +kernel
theorem dX12_wayFine_202 : decode cX12_wayFine 202 = .ok (.iaload, 1) := by decide +kernel
theorem dX12_wayFine_203 : decode cX12_wayFine 203 = .ok (.ireturn, 1) := by decide +kernel
theorem dX12_leastBeside_0 : decode cX12_leastBeside 0 = .ok (.aload_n 0, 1) := by decide +kernel
theorem dX12_leastBeside_1 : decode cX12_leastBeside 1 = .ok (.getfield 63, 3) := by decide +kernel
theorem dX12_leastBeside_4 : decode cX12_leastBeside 4 = .ok (.iload_n 1, 1) := by decide +kernel
theorem dX12_leastBeside_5 : decode cX12_leastBeside 5 = .ok (.iaload, 1) := by decide +kernel
theorem dX12_leastBeside_6 : decode cX12_leastBeside 6 = .ok (.istore_n 2, 1) := by decide +kernel
theorem dX12_leastBeside_7 : decode cX12_leastBeside 7 = .ok (.iconst 0, 1) := by decide +kernel
theorem dX12_leastBeside_8 : decode cX12_leastBeside 8 = .ok (.istore_n 3, 1) := by decide +kernel
theorem dX12_leastBeside_9 : decode cX12_leastBeside 9 = .ok (.iload_n 3, 1) := by decide +kernel
theorem dX12_leastBeside_10 : decode cX12_leastBeside 10 = .ok (.aload_n 0, 1) := by decide +kernel
theorem dX12_leastBeside_11 : decode cX12_leastBeside 11 = .ok (.invokevirtual 291, 3) := by decide +kernel
theorem dX12_leastBeside_14 : decode cX12_leastBeside 14 = .ok (.if_icmp .ge 36, 3) := by decide +kernel
theorem dX12_leastBeside_17 : decode cX12_leastBeside 17 = .ok (.aload_n 0, 1) := by decide +kernel
theorem dX12_leastBeside_18 : decode cX12_leastBeside 18 = .ok (.getfield 9, 3) := by decide +kernel
theorem dX12_leastBeside_21 : decode cX12_leastBeside 21 = .ok (.bipush 61, 2) := by decide +kernel
theorem dX12_leastBeside_23 : decode cX12_leastBeside 23 = .ok (.iload_n 1, 1) := by decide +kernel
theorem dX12_leastBeside_24 : decode cX12_leastBeside 24 = .ok (.iadd, 1) := by decide +kernel
theorem dX12_leastBeside_25 : decode cX12_leastBeside 25 = .ok (.iaload, 1) := by decide +kernel
theorem dX12_leastBeside_26 : decode cX12_leastBeside 26 = .ok (.iload_n 3, 1) := by decide +kernel
theorem dX12_leastBeside_27 : decode cX12_leastBeside 27 = .ok (.invokestatic 250, 3) := by decide +kernel
theorem dX12_leastBeside_30 : decode cX12_leastBeside 30 = .ok (.ifCond .eq 14, 3) := by decide +kernel
theorem dX12_leastBeside_33 : decode cX12_leastBeside 33 = .ok (.iload_n 2, 1) := by decide +kernel
theorem dX12_leastBeside_34 : decode cX12_leastBeside 34 = .ok (.aload_n 0, 1) := by decide +kernel
theorem dX12_leastBeside_35 : decode cX12_leastBeside 35 = .ok (.getfield 63, 3) := by decide +kernel
theorem dX12_leastBeside_38 : decode cX12_leastBeside 38 = .ok (.iload_n 3, 1) := by decide +kernel
theorem dX12_leastBeside_39 : decode cX12_leastBeside 39 = .ok (.iaload, 1) := by decide +kernel
theorem dX12_leastBeside_40 : decode cX12_leastBeside 40 = .ok (.invokestatic 320, 3) := by decide +kernel
theorem dX12_leastBeside_43 : decode cX12_leastBeside 43 = .ok (.istore_n 2, 1) := by decide +kernel
theorem dX12_leastBeside_44 : decode cX12_leastBeside 44 = .ok (.iinc 3 1, 3) := by decide +kernel
theorem dX12_leastBeside_47 : decode cX12_leastBeside 47 = .ok (.goto (-38), 3) := by decide +kernel
theorem dX12_leastBeside_50 : decode cX12_leastBeside 50 = .ok (.iload_n 2, 1) := by decide +kernel
theorem dX12_leastBeside_51 : decode cX12_leastBeside 51 = .ok (.ireturn, 1) := by decide +kernel
theorem dX12_freeWays_0 : decode cX12_freeWays 0 = .ok (.aload_n 0, 1) := by decide +kernel
theorem dX12_freeWays_1 : decode cX12_freeWays 1 = .ok (.iload_n 1, 1) := by decide +kernel
theorem dX12_freeWays_2 : decode cX12_freeWays 2 = .ok (.iload_n 2, 1) := by decide +kernel
theorem dX12_freeWays_3 : decode cX12_freeWays 3 = .ok (.iload_n 3, 1) := by decide +kernel
theorem dX12_freeWays_4 : decode cX12_freeWays 4 = .ok (.invokevirtual 512, 3) := by decide +kernel
theorem dX12_freeWays_7 : decode cX12_freeWays 7 = .ok (.ifCond .ne 21, 3) := by decide +kernel
theorem dX12_freeWays_10 : decode cX12_freeWays 10 = .ok (.iload 4, 2) := by decide +kernel
theorem dX12_freeWays_12 : decode cX12_freeWays 12 = .ok (.i2l, 1) := by decide +kernel
theorem dX12_freeWays_13 : decode cX12_freeWays 13 = .ok (.lconst 0, 1) := by decide +kernel
theorem dX12_freeWays_14 : decode cX12_freeWays 14 = .ok (.ldc2_w 527, 3) := by decide +kernel
theorem dX12_freeWays_17 : decode cX12_freeWays 17 = .ok (.invokestatic 158, 3) := by decide +kernel
theorem dX12_freeWays_20 : decode cX12_freeWays 20 = .ok (.ifCond .ne 8, 3) := by decide +kernel
theorem dX12_freeWays_23 : decode cX12_freeWays 23 = .ok (.aload_n 0, 1) := by decide +kernel
theorem dX12_freeWays_24 : decode cX12_freeWays 24 = .ok (.iconst 2, 1) := by decide +kernel
theorem dX12_freeWays_25 : decode cX12_freeWays 25 = .ok (.putfield 97, 3) := by decide +kernel
theorem dX12_freeWays_28 : decode cX12_freeWays 28 = .ok (.aload_n 0, 1) := by decide +kernel
theorem dX12_freeWays_29 : decode cX12_freeWays 29 = .ok (.getfield 97, 3) := by decide +kernel
theorem dX12_freeWays_32 : decode cX12_freeWays 32 = .ok (.ifCond .le 5, 3) := by decide +kernel
theorem dX12_freeWays_35 : decode cX12_freeWays 35 = .ok (.lconst 0, 1) := by decide +kernel
theorem dX12_freeWays_36 : decode cX12_freeWays 36 = .ok (.lreturn, 1) := by decide +kernel
theorem dX12_freeWays_37 : decode cX12_freeWays 37 = .ok (.aload_n 0, 1) := by decide +kernel
theorem dX12_freeWays_38 : decode cX12_freeWays 38 = .ok (.iload_n 1, 1) := by decide +kernel
theorem dX12_freeWays_39 : decode cX12_freeWays 39 = .ok (.invokevirtual 515, 3) := by decide +kernel
theorem dX12_freeWays_42 : decode cX12_freeWays 42 = .ok (.iconst 0, 1) := by decide +kernel
theorem dX12_freeWays_43 : decode cX12_freeWays 43 = .ok (.istore 5, 2) := by decide +kernel
theorem dX12_freeWays_45 : decode cX12_freeWays 45 = .ok (.iload 5, 2) := by decide +kernel
theorem dX12_freeWays_47 : decode cX12_freeWays 47 = .ok (.iconst 5, 1) := by decide +kernel
theorem dX12_freeWays_48 : decode cX12_freeWays 48 = .ok (.if_icmp .ge 37, 3) := by decide +kernel
theorem dX12_freeWays_51 : decode cX12_freeWays 51 = .ok (.aload_n 0, 1) := by decide +kernel
theorem dX12_freeWays_52 : decode cX12_freeWays 52 = .ok (.getfield 69, 3) := by decide +kernel
theorem dX12_freeWays_55 : decode cX12_freeWays 55 = .ok (.iload 5, 2) := by decide +kernel
theorem dX12_freeWays_57 : decode cX12_freeWays 57 = .ok (.iload 5, 2) := by decide +kernel
theorem dX12_freeWays_59 : decode cX12_freeWays 59 = .ok (.iload_n 2, 1) := by decide +kernel
theorem dX12_freeWays_60 : decode cX12_freeWays 60 = .ok (.if_icmp .ne 17, 3) := by decide +kernel
theorem dX12_freeWays_63 : decode cX12_freeWays 63 = .ok (.aload_n 0, 1) := by decide +kernel
theorem dX12_freeWays_64 : decode cX12_freeWays 64 = .ok (.getfield 54, 3) := by decide +kernel
theorem dX12_freeWays_67 : decode cX12_freeWays 67 = .ok (.iload 5, 2) := by decide +kernel
theorem dX12_freeWays_69 : decode cX12_freeWays 69 = .ok (.iaload, 1) := by decide +kernel
theorem dX12_freeWays_70 : decode cX12_freeWays 70 = .ok (.ifCond .ne 7, 3) := by decide +kernel
theorem dX12_freeWays_73 : decode cX12_freeWays 73 = .ok (.lconst 1, 1) := by decide +kernel
theorem dX12_freeWays_74 : decode cX12_freeWays 74 = .ok (.goto 4, 3) := by decide +kernel
theorem dX12_freeWays_77 : decode cX12_freeWays 77 = .ok (.lconst 0, 1) := by decide +kernel
theorem dX12_freeWays_78 : decode cX12_freeWays 78 = .ok (.lastore, 1) := by decide +kernel
theorem dX12_freeWays_79 : decode cX12_freeWays 79 = .ok (.iinc 5 1, 3) := by decide +kernel
theorem dX12_freeWays_82 : decode cX12_freeWays 82 = .ok (.goto (-37), 3) := by decide +kernel
theorem dX12_freeWays_85 : decode cX12_freeWays 85 = .ok (.iconst 1, 1) := by decide +kernel
theorem dX12_freeWays_86 : decode cX12_freeWays 86 = .ok (.istore 5, 2) := by decide +kernel
theorem dX12_freeWays_88 : decode cX12_freeWays 88 = .ok (.iload 5, 2) := by decide +kernel
theorem dX12_freeWays_90 : decode cX12_freeWays 90 = .ok (.iload 4, 2) := by decide +kernel
theorem dX12_freeWays_92 : decode cX12_freeWays 92 = .ok (.if_icmp .gt 91, 3) := by decide +kernel
theorem dX12_freeWays_95 : decode cX12_freeWays 95 = .ok (.iconst 0, 1) := by decide +kernel
theorem dX12_freeWays_96 : decode cX12_freeWays 96 = .ok (.istore 6, 2) := by decide +kernel
theorem dX12_freeWays_98 : decode cX12_freeWays 98 = .ok (.iload 6, 2) := by decide +kernel
theorem dX12_freeWays_100 : decode cX12_freeWays 100 = .ok (.aload_n 0, 1) := by decide +kernel
theorem dX12_freeWays_101 : decode cX12_freeWays 101 = .ok (.invokevirtual 291, 3) := by decide +kernel
theorem dX12_freeWays_104 : decode cX12_freeWays 104 = .ok (.if_icmp .ge 41, 3) := by decide +kernel
theorem dX12_freeWays_107 : decode cX12_freeWays 107 = .ok (.aload_n 0, 1) := by decide +kernel
theorem dX12_freeWays_108 : decode cX12_freeWays 108 = .ok (.getfield 73, 3) := by decide +kernel
theorem dX12_freeWays_111 : decode cX12_freeWays 111 = .ok (.iload 6, 2) := by decide +kernel
theorem dX12_freeWays_113 : decode cX12_freeWays 113 = .ok (.aload_n 0, 1) := by decide +kernel
theorem dX12_freeWays_114 : decode cX12_freeWays 114 = .ok (.getfield 54, 3) := by decide +kernel
theorem dX12_freeWays_117 : decode cX12_freeWays 117 = .ok (.iconst 5, 1) := by decide +kernel
theorem dX12_freeWays_118 : decode cX12_freeWays 118 = .ok (.iload 5, 2) := by decide +kernel
theorem dX12_freeWays_120 : decode cX12_freeWays 120 = .ok (.imul, 1) := by decide +kernel
theorem dX12_freeWays_121 : decode cX12_freeWays 121 = .ok (.iload 6, 2) := by decide +kernel
theorem dX12_freeWays_123 : decode cX12_freeWays 123 = .ok (.iadd, 1) := by decide +kernel
theorem dX12_freeWays_124 : decode cX12_freeWays 124 = .ok (.iaload, 1) := by decide +kernel
theorem dX12_freeWays_125 : decode cX12_freeWays 125 = .ok (.ifCond .ne 12, 3) := by decide +kernel
theorem dX12_freeWays_128 : decode cX12_freeWays 128 = .ok (.aload_n 0, 1) := by decide +kernel
theorem dX12_freeWays_129 : decode cX12_freeWays 129 = .ok (.iload 6, 2) := by decide +kernel
theorem dX12_freeWays_131 : decode cX12_freeWays 131 = .ok (.invokevirtual 529, 3) := by decide +kernel
theorem dX12_freeWays_134 : decode cX12_freeWays 134 = .ok (.goto 4, 3) := by decide +kernel
theorem dX12_freeWays_137 : decode cX12_freeWays 137 = .ok (.lconst 0, 1) := by decide +kernel
theorem dX12_freeWays_138 : decode cX12_freeWays 138 = .ok (.lastore, 1) := by decide +kernel
theorem dX12_freeWays_139 : decode cX12_freeWays 139 = .ok (.iinc 6 1, 3) := by decide +kernel
theorem dX12_freeWays_142 : decode cX12_freeWays 142 = .ok (.goto (-44), 3) := by decide +kernel
theorem dX12_freeWays_145 : decode cX12_freeWays 145 = .ok (.iconst 0, 1) := by decide +kernel
theorem dX12_freeWays_146 : decode cX12_freeWays 146 = .ok (.istore 6, 2) := by decide +kernel
theorem dX12_freeWays_148 : decode cX12_freeWays 148 = .ok (.iload 6, 2) := by decide +kernel
theorem dX12_freeWays_150 : decode cX12_freeWays 150 = .ok (.aload_n 0, 1) := by decide +kernel
theorem dX12_freeWays_151 : decode cX12_freeWays 151 = .ok (.invokevirtual 291, 3) := by decide +kernel
theorem dX12_freeWays_154 : decode cX12_freeWays 154 = .ok (.if_icmp .ge 23, 3) := by decide +kernel
theorem dX12_freeWays_157 : decode cX12_freeWays 157 = .ok (.aload_n 0, 1) := by decide +kernel
theorem dX12_freeWays_158 : decode cX12_freeWays 158 = .ok (.getfield 69, 3) := by decide +kernel
theorem dX12_freeWays_161 : decode cX12_freeWays 161 = .ok (.iload 6, 2) := by decide +kernel
theorem dX12_freeWays_163 : decode cX12_freeWays 163 = .ok (.aload_n 0, 1) := by decide +kernel
theorem dX12_freeWays_164 : decode cX12_freeWays 164 = .ok (.getfield 73, 3) := by decide +kernel
theorem dX12_freeWays_167 : decode cX12_freeWays 167 = .ok (.iload 6, 2) := by decide +kernel
theorem dX12_freeWays_169 : decode cX12_freeWays 169 = .ok (.laload, 1) := by decide +kernel
theorem dX12_freeWays_170 : decode cX12_freeWays 170 = .ok (.lastore, 1) := by decide +kernel
theorem dX12_freeWays_171 : decode cX12_freeWays 171 = .ok (.iinc 6 1, 3) := by decide +kernel
theorem dX12_freeWays_174 : decode cX12_freeWays 174 = .ok (.goto (-26), 3) := by decide +kernel
theorem dX12_freeWays_177 : decode cX12_freeWays 177 = .ok (.iinc 5 1, 3) := by decide +kernel
theorem dX12_freeWays_180 : decode cX12_freeWays 180 = .ok (.goto (-92), 3) := by decide +kernel
theorem dX12_freeWays_183 : decode cX12_freeWays 183 = .ok (.aload_n 0, 1) := by decide +kernel
theorem dX12_freeWays_184 : decode cX12_freeWays 184 = .ok (.getfield 69, 3) := by decide +kernel
theorem dX12_freeWays_187 : decode cX12_freeWays 187 = .ok (.iload_n 3, 1) := by decide +kernel
theorem dX12_freeWays_188 : decode cX12_freeWays 188 = .ok (.laload, 1) := by decide +kernel
theorem dX12_freeWays_189 : decode cX12_freeWays 189 = .ok (.lreturn, 1) := by decide +kernel
theorem dX12_manyBeside_0 : decode cX12_manyBeside 0 = .ok (.aload_n 0, 1) := by decide +kernel
theorem dX12_manyBeside_1 : decode cX12_manyBeside 1 = .ok (.getfield 69, 3) := by decide +kernel
theorem dX12_manyBeside_4 : decode cX12_manyBeside 4 = .ok (.iload_n 1, 1) := by decide +kernel
theorem dX12_manyBeside_5 : decode cX12_manyBeside 5 = .ok (.laload, 1) := by decide +kernel
theorem dX12_manyBeside_6 : decode cX12_manyBeside 6 = .ok (.lstore_n 2, 1) := by decide +kernel
theorem dX12_manyBeside_7 : decode cX12_manyBeside 7 = .ok (.iconst 0, 1) := by decide +kernel
theorem dX12_manyBeside_8 : decode cX12_manyBeside 8 = .ok (.istore 4, 2) := by decide +kernel
theorem dX12_manyBeside_10 : decode cX12_manyBeside 10 = .ok (.iload 4, 2) := by decide +kernel
theorem dX12_manyBeside_12 : decode cX12_manyBeside 12 = .ok (.aload_n 0, 1) := by decide +kernel
theorem dX12_manyBeside_13 : decode cX12_manyBeside 13 = .ok (.invokevirtual 291, 3) := by decide +kernel
theorem dX12_manyBeside_16 : decode cX12_manyBeside 16 = .ok (.if_icmp .ge 40, 3) := by decide +kernel
theorem dX12_manyBeside_19 : decode cX12_manyBeside 19 = .ok (.lload_n 2, 1) := by decide +kernel
theorem dX12_manyBeside_20 : decode cX12_manyBeside 20 = .ok (.aload_n 0, 1) := by decide +kernel
theorem dX12_manyBeside_21 : decode cX12_manyBeside 21 = .ok (.getfield 9, 3) := by decide +kernel
theorem dX12_manyBeside_24 : decode cX12_manyBeside 24 = .ok (.bipush 61, 2) := by decide +kernel
theorem dX12_manyBeside_26 : decode cX12_manyBeside 26 = .ok (.iload_n 1, 1) := by decide +kernel
theorem dX12_manyBeside_27 : decode cX12_manyBeside 27 = .ok (.iadd, 1) := by decide +kernel
theorem dX12_manyBeside_28 : decode cX12_manyBeside 28 = .ok (.iaload, 1) := by decide +kernel
theorem dX12_manyBeside_29 : decode cX12_manyBeside 29 = .ok (.iload 4, 2) := by decide +kernel
theorem dX12_manyBeside_31 : decode cX12_manyBeside 31 = .ok (.invokestatic 250, 3) := by decide +kernel
theorem dX12_manyBeside_34 : decode cX12_manyBeside 34 = .ok (.ifCond .eq 13, 3) := by decide +kernel
theorem dX12_manyBeside_37 : decode cX12_manyBeside 37 = .ok (.aload_n 0, 1) := by decide +kernel
theorem dX12_manyBeside_38 : decode cX12_manyBeside 38 = .ok (.getfield 69, 3) := by decide +kernel
theorem dX12_manyBeside_41 : decode cX12_manyBeside 41 = .ok (.iload 4, 2) := by decide +kernel
theorem dX12_manyBeside_43 : decode cX12_manyBeside 43 = .ok (.laload, 1) := by decide +kernel
theorem dX12_manyBeside_44 : decode cX12_manyBeside 44 = .ok (.goto 4, 3) := by decide +kernel
theorem dX12_manyBeside_47 : decode cX12_manyBeside 47 = .ok (.lconst 0, 1) := by decide +kernel
theorem dX12_manyBeside_48 : decode cX12_manyBeside 48 = .ok (.ladd, 1) := by decide +kernel
theorem dX12_manyBeside_49 : decode cX12_manyBeside 49 = .ok (.lstore_n 2, 1) := by decide +kernel
theorem dX12_manyBeside_50 : decode cX12_manyBeside 50 = .ok (.iinc 4 1, 3) := by decide +kernel
theorem dX12_manyBeside_53 : decode cX12_manyBeside 53 = .ok (.goto (-43), 3) := by decide +kernel
theorem dX12_manyBeside_56 : decode cX12_manyBeside 56 = .ok (.lload_n 2, 1) := by decide +kernel
theorem dX12_manyBeside_57 : decode cX12_manyBeside 57 = .ok (.lreturn, 1) := by decide +kernel
theorem dX12_guard_0 : decode cX12_guard 0 = .ok (.aload_n 0, 1) := by decide +kernel
theorem dX12_guard_1 : decode cX12_guard 1 = .ok (.iload_n 1, 1) := by decide +kernel
theorem dX12_guard_2 : decode cX12_guard 2 = .ok (.iload_n 2, 1) := by decide +kernel
theorem dX12_guard_3 : decode cX12_guard 3 = .ok (.iload_n 3, 1) := by decide +kernel
theorem dX12_guard_4 : decode cX12_guard 4 = .ok (.invokevirtual 512, 3) := by decide +kernel
theorem dX12_guard_7 : decode cX12_guard 7 = .ok (.ifCond .ne 13, 3) := by decide +kernel
theorem dX12_guard_10 : decode cX12_guard 10 = .ok (.iload_n 2, 1) := by decide +kernel
theorem dX12_guard_11 : decode cX12_guard 11 = .ok (.iload_n 3, 1) := by decide +kernel
theorem dX12_guard_12 : decode cX12_guard 12 = .ok (.if_icmp .ne 8, 3) := by decide +kernel
theorem dX12_guard_15 : decode cX12_guard 15 = .ok (.aload_n 0, 1) := by decide +kernel
theorem dX12_guard_16 : decode cX12_guard 16 = .ok (.iconst 2, 1) := by decide +kernel
theorem dX12_guard_17 : decode cX12_guard 17 = .ok (.putfield 97, 3) := by decide +kernel
theorem dX12_guard_20 : decode cX12_guard 20 = .ok (.aload_n 0, 1) := by decide +kernel
theorem dX12_guard_21 : decode cX12_guard 21 = .ok (.getfield 97, 3) := by decide +kernel
theorem dX12_guard_24 : decode cX12_guard 24 = .ok (.ifCond .le 5, 3) := by decide +kernel
theorem dX12_guard_27 : decode cX12_guard 27 = .ok (.iconst 0, 1) := by decide +kernel
theorem dX12_guard_28 : decode cX12_guard 28 = .ok (.ireturn, 1) := by decide +kernel
theorem dX12_guard_29 : decode cX12_guard 29 = .ok (.aload_n 0, 1) := by decide +kernel
theorem dX12_guard_30 : decode cX12_guard 30 = .ok (.iload_n 1, 1) := by decide +kernel
theorem dX12_guard_31 : decode cX12_guard 31 = .ok (.invokevirtual 515, 3) := by decide +kernel
theorem dX12_guard_34 : decode cX12_guard 34 = .ok (.aload_n 0, 1) := by decide +kernel
theorem dX12_guard_35 : decode cX12_guard 35 = .ok (.iload_n 2, 1) := by decide +kernel
theorem dX12_guard_36 : decode cX12_guard 36 = .ok (.iload_n 3, 1) := by decide +kernel
theorem dX12_guard_37 : decode cX12_guard 37 = .ok (.iconst (-1), 1) := by decide +kernel
theorem dX12_guard_38 : decode cX12_guard 38 = .ok (.invokevirtual 518, 3) := by decide +kernel
theorem dX12_guard_41 : decode cX12_guard 41 = .ok (.istore 4, 2) := by decide +kernel
theorem dX12_guard_43 : decode cX12_guard 43 = .ok (.iconst (-1), 1) := by decide +kernel
theorem dX12_guard_44 : decode cX12_guard 44 = .ok (.istore 5, 2) := by decide +kernel
theorem dX12_guard_46 : decode cX12_guard 46 = .ok (.iconst 0, 1) := by decide +kernel
theorem dX12_guard_47 : decode cX12_guard 47 = .ok (.istore 6, 2) := by decide +kernel
theorem dX12_guard_49 : decode cX12_guard 49 = .ok (.iload 6, 2) := by decide +kernel
theorem dX12_guard_51 : decode cX12_guard 51 = .ok (.aload_n 0, 1) := by decide +kernel
theorem dX12_guard_52 : decode cX12_guard 52 = .ok (.invokevirtual 291, 3) := by decide +kernel
theorem dX12_guard_55 : decode cX12_guard 55 = .ok (.if_icmp .ge 74, 3) := by decide +kernel
theorem dX12_guard_58 : decode cX12_guard 58 = .ok (.iload 4, 2) := by decide +kernel
theorem dX12_guard_60 : decode cX12_guard 60 = .ok (.iconst (-1), 1) := by decide +kernel
theorem dX12_guard_61 : decode cX12_guard 61 = .ok (.if_icmp .eq 68, 3) := by decide +kernel
theorem dX12_guard_64 : decode cX12_guard 64 = .ok (.iload 6, 2) := by decide +kernel
theorem dX12_guard_66 : decode cX12_guard 66 = .ok (.iload_n 2, 1) := by decide +kernel
theorem dX12_guard_67 : decode cX12_guard 67 = .ok (.if_icmp .eq 56, 3) := by decide +kernel
theorem dX12_guard_70 : decode cX12_guard 70 = .ok (.iload 6, 2) := by decide +kernel
theorem dX12_guard_72 : decode cX12_guard 72 = .ok (.iload_n 3, 1) := by decide +kernel
theorem dX12_guard_73 : decode cX12_guard 73 = .ok (.if_icmp .ne 6, 3) := by decide +kernel
theorem dX12_guard_76 : decode cX12_guard 76 = .ok (.goto 47, 3) := by decide +kernel
theorem dX12_guard_79 : decode cX12_guard 79 = .ok (.aload_n 0, 1) := by decide +kernel
theorem dX12_guard_80 : decode cX12_guard 80 = .ok (.iload_n 2, 1) := by decide +kernel
theorem dX12_guard_81 : decode cX12_guard 81 = .ok (.iload_n 3, 1) := by decide +kernel
theorem dX12_guard_82 : decode cX12_guard 82 = .ok (.iload 6, 2) := by decide +kernel
theorem dX12_guard_84 : decode cX12_guard 84 = .ok (.invokevirtual 518, 3) := by decide +kernel
theorem dX12_guard_87 : decode cX12_guard 87 = .ok (.istore 7, 2) := by decide +kernel
theorem dX12_guard_89 : decode cX12_guard 89 = .ok (.iload 7, 2) := by decide +kernel
theorem dX12_guard_91 : decode cX12_guard 91 = .ok (.iconst (-1), 1) := by decide +kernel
theorem dX12_guard_92 : decode cX12_guard 92 = .ok (.if_icmp .ne 9, 3) := by decide +kernel
theorem dX12_guard_95 : decode cX12_guard 95 = .ok (.ldc_w 485, 3) := by decide +kernel
theorem dX12_guard_98 : decode cX12_guard 98 = .ok (.goto 5, 3) := by decide +kernel
theorem dX12_guard_101 : decode cX12_guard 101 = .ok (.iload 7, 2) := by decide +kernel
theorem dX12_guard_103 : decode cX12_guard 103 = .ok (.istore 8, 2) := by decide +kernel
theorem dX12_guard_105 : decode cX12_guard 105 = .ok (.iload 8, 2) := by decide +kernel
theorem dX12_guard_107 : decode cX12_guard 107 = .ok (.iload 4, 2) := by decide +kernel
theorem dX12_guard_109 : decode cX12_guard 109 = .ok (.if_icmp .gt 6, 3) := by decide +kernel
theorem dX12_guard_112 : decode cX12_guard 112 = .ok (.goto 11, 3) := by decide +kernel
theorem dX12_guard_115 : decode cX12_guard 115 = .ok (.iload 6, 2) := by decide +kernel
theorem dX12_guard_117 : decode cX12_guard 117 = .ok (.istore 5, 2) := by decide +kernel
theorem dX12_guard_119 : decode cX12_guard 119 = .ok (.iload 8, 2) := by decide +kernel
theorem dX12_guard_121 : decode cX12_guard 121 = .ok (.istore 4, 2) := by decide +kernel
theorem dX12_guard_123 : decode cX12_guard 123 = .ok (.iinc 6 1, 3) := by decide +kernel
theorem dX12_guard_126 : decode cX12_guard 126 = .ok (.goto (-77), 3) := by decide +kernel
theorem dX12_guard_129 : decode cX12_guard 129 = .ok (.iload 5, 2) := by decide +kernel
theorem dX12_guard_131 : decode cX12_guard 131 = .ok (.ireturn, 1) := by decide +kernel
theorem dX12_errandsFault_0 : decode cX12_errandsFault 0 = .ok (.aload_n 0, 1) := by decide +kernel
theorem dX12_errandsFault_1 : decode cX12_errandsFault 1 = .ok (.iload_n 1, 1) := by decide +kernel
theorem dX12_errandsFault_2 : decode cX12_errandsFault 2 = .ok (.invokevirtual 453, 3) := by decide +kernel
theorem dX12_errandsFault_5 : decode cX12_errandsFault 5 = .ok (.istore_n 2, 1) := by decide +kernel
theorem dX12_errandsFault_6 : decode cX12_errandsFault 6 = .ok (.iload_n 2, 1) := by decide +kernel
theorem dX12_errandsFault_7 : decode cX12_errandsFault 7 = .ok (.ifCond .eq 5, 3) := by decide +kernel
theorem dX12_errandsFault_10 : decode cX12_errandsFault 10 = .ok (.iload_n 2, 1) := by decide +kernel
theorem dX12_errandsFault_11 : decode cX12_errandsFault 11 = .ok (.ireturn, 1) := by decide +kernel
theorem dX12_errandsFault_12 : decode cX12_errandsFault 12 = .ok (.aload_n 0, 1) := by decide +kernel
theorem dX12_errandsFault_13 : decode cX12_errandsFault 13 = .ok (.getfield 91, 3) := by decide +kernel
theorem dX12_errandsFault_16 : decode cX12_errandsFault 16 = .ok (.iload_n 1, 1) := by decide +kernel
theorem dX12_errandsFault_17 : decode cX12_errandsFault 17 = .ok (.iaload, 1) := by decide +kernel
theorem dX12_errandsFault_18 : decode cX12_errandsFault 18 = .ok (.i2l, 1) := by decide +kernel
theorem dX12_errandsFault_19 : decode cX12_errandsFault 19 = .ok (.lconst 1, 1) := by decide +kernel
theorem dX12_errandsFault_20 : decode cX12_errandsFault 20 = .ok (.ldc2_w 380, 3) := by decide +kernel
theorem dX12_errandsFault_23 : decode cX12_errandsFault 23 = .ok (.invokestatic 158, 3) := by decide +kernel
theorem dX12_errandsFault_26 : decode cX12_errandsFault 26 = .ok (.istore_n 3, 1) := by decide +kernel
theorem dX12_errandsFault_27 : decode cX12_errandsFault 27 = .ok (.iconst 0, 1) := by decide +kernel
theorem dX12_errandsFault_28 : decode cX12_errandsFault 28 = .ok (.istore 4, 2) := by decide +kernel
theorem dX12_errandsFault_30 : decode cX12_errandsFault 30 = .ok (.iload 4, 2) := by decide +kernel
theorem dX12_errandsFault_32 : decode cX12_errandsFault 32 = .ok (.aload_n 0, 1) := by decide +kernel
theorem dX12_errandsFault_33 : decode cX12_errandsFault 33 = .ok (.getfield 91, 3) := by decide +kernel
theorem dX12_errandsFault_36 : decode cX12_errandsFault 36 = .ok (.iload_n 1, 1) := by decide +kernel
theorem dX12_errandsFault_37 : decode cX12_errandsFault 37 = .ok (.iaload, 1) := by decide +kernel
theorem dX12_errandsFault_38 : decode cX12_errandsFault 38 = .ok (.if_icmp .ge 78, 3) := by decide +kernel
theorem dX12_errandsFault_41 : decode cX12_errandsFault 41 = .ok (.iload_n 3, 1) := by decide +kernel
theorem dX12_errandsFault_42 : decode cX12_errandsFault 42 = .ok (.ifCond .eq 74, 3) := by decide +kernel
theorem dX12_errandsFault_45 : decode cX12_errandsFault 45 = .ok (.aload_n 0, 1) := by decide +kernel
theorem dX12_errandsFault_46 : decode cX12_errandsFault 46 = .ok (.getfield 94, 3) := by decide +kernel
theorem dX12_errandsFault_49 : decode cX12_errandsFault 49 = .ok (.bipush 30, 2) := by decide +kernel
theorem dX12_errandsFault_51 : decode cX12_errandsFault 51 = .ok (.iload_n 1, 1) := by decide +kernel
theorem dX12_errandsFault_52 : decode cX12_errandsFault 52 = .ok (.imul, 1) := by decide +kernel
theorem dX12_errandsFault_53 : decode cX12_errandsFault 53 = .ok (.iload 4, 2) := by decide +kernel
theorem dX12_errandsFault_55 : decode cX12_errandsFault 55 = .ok (.iadd, 1) := by decide +kernel
theorem dX12_errandsFault_56 : decode cX12_errandsFault 56 = .ok (.laload, 1) := by decide +kernel
theorem dX12_errandsFault_57 : decode cX12_errandsFault 57 = .ok (.lstore 5, 2) := by decide +kernel
theorem dX12_errandsFault_59 : decode cX12_errandsFault 59 = .ok (.lload 5, 2) := by decide +kernel
theorem dX12_errandsFault_61 : decode cX12_errandsFault 61 = .ok (.lconst 0, 1) := by decide +kernel
theorem dX12_errandsFault_62 : decode cX12_errandsFault 62 = .ok (.ldc2_w 434, 3) := by decide +kernel
theorem dX12_errandsFault_65 : decode cX12_errandsFault 65 = .ok (.invokestatic 158, 3) := by decide +kernel
theorem dX12_errandsFault_68 : decode cX12_errandsFault 68 = .ok (.ifCond .eq 40, 3) := by decide +kernel
theorem dX12_errandsFault_71 : decode cX12_errandsFault 71 = .ok (.aload_n 0, 1) := by decide +kernel
theorem dX12_errandsFault_72 : decode cX12_errandsFault 72 = .ok (.lload 5, 2) := by decide +kernel
theorem dX12_errandsFault_74 : decode cX12_errandsFault 74 = .ok (.ldc2_w 436, 3) := by decide +kernel
theorem dX12_errandsFault_77 : decode cX12_errandsFault 77 = .ok (.ldiv, 1) := by decide +kernel
theorem dX12_errandsFault_78 : decode cX12_errandsFault 78 = .ok (.ldc2_w 427, 3) := by decide +kernel
theorem dX12_errandsFault_81 : decode cX12_errandsFault 81 = .ok (.lrem, 1) := by decide +kernel
theorem dX12_errandsFault_82 : decode cX12_errandsFault 82 = .ok (.invokevirtual 371, 3) := by decide +kernel
theorem dX12_errandsFault_85 : decode cX12_errandsFault 85 = .ok (.ifCond .eq 23, 3) := by decide +kernel
theorem dX12_errandsFault_88 : decode cX12_errandsFault 88 = .ok (.lload 5, 2) := by decide +kernel
theorem dX12_errandsFault_90 : decode cX12_errandsFault 90 = .ok (.ldc2_w 436, 3) := by decide +kernel
theorem dX12_errandsFault_93 : decode cX12_errandsFault 93 = .ok (.lrem, 1) := by decide +kernel
theorem dX12_errandsFault_94 : decode cX12_errandsFault 94 = .ok (.lconst 1, 1) := by decide +kernel
theorem dX12_errandsFault_95 : decode cX12_errandsFault 95 = .ok (.ldc2_w 387, 3) := by decide +kernel
theorem dX12_errandsFault_98 : decode cX12_errandsFault 98 = .ok (.invokestatic 158, 3) := by decide +kernel
theorem dX12_errandsFault_101 : decode cX12_errandsFault 101 = .ok (.ifCond .eq 7, 3) := by decide +kernel
theorem dX12_errandsFault_104 : decode cX12_errandsFault 104 = .ok (.iconst 1, 1) := by decide +kernel
theorem dX12_errandsFault_105 : decode cX12_errandsFault 105 = .ok (.goto 4, 3) := by decide +kernel
theorem dX12_errandsFault_108 : decode cX12_errandsFault 108 = .ok (.iconst 0, 1) := by decide +kernel
theorem dX12_errandsFault_109 : decode cX12_errandsFault 109 = .ok (.istore_n 3, 1) := by decide +kernel
theorem dX12_errandsFault_110 : decode cX12_errandsFault 110 = .ok (.iinc 4 1, 3) := by decide +kernel
theorem dX12_errandsFault_113 : decode cX12_errandsFault 113 = .ok (.goto (-83), 3) := by decide +kernel
theorem dX12_errandsFault_116 : decode cX12_errandsFault 116 = .ok (.iload_n 3, 1) := by decide +kernel
theorem dX12_errandsFault_117 : decode cX12_errandsFault 117 = .ok (.ifCond .eq 7, 3) := by decide +kernel
theorem dX12_errandsFault_120 : decode cX12_errandsFault 120 = .ok (.iconst 0, 1) := by decide +kernel
theorem dX12_errandsFault_121 : decode cX12_errandsFault 121 = .ok (.goto 4, 3) := by decide +kernel
theorem dX12_errandsFault_124 : decode cX12_errandsFault 124 = .ok (.iconst 3, 1) := by decide +kernel
theorem dX12_errandsFault_125 : decode cX12_errandsFault 125 = .ok (.ireturn, 1) := by decide +kernel
theorem dX12_told_0 : decode cX12_told 0 = .ok (.aload_n 0, 1) := by decide +kernel
theorem dX12_told_1 : decode cX12_told 1 = .ok (.getfield 94, 3) := by decide +kernel
theorem dX12_told_4 : decode cX12_told 4 = .ok (.bipush 30, 2) := by decide +kernel
theorem dX12_told_6 : decode cX12_told 6 = .ok (.iload_n 1, 1) := by decide +kernel
theorem dX12_told_7 : decode cX12_told 7 = .ok (.imul, 1) := by decide +kernel
theorem dX12_told_8 : decode cX12_told 8 = .ok (.iload_n 2, 1) := by decide +kernel
theorem dX12_told_9 : decode cX12_told 9 = .ok (.iadd, 1) := by decide +kernel
theorem dX12_told_10 : decode cX12_told 10 = .ok (.laload, 1) := by decide +kernel
theorem dX12_told_11 : decode cX12_told 11 = .ok (.l2i, 1) := by decide +kernel
theorem dX12_told_12 : decode cX12_told 12 = .ok (.ireturn, 1) := by decide +kernel
theorem dX12_laysErrands_0 : decode cX12_laysErrands 0 = .ok (.iconst 0, 1) := by decide +kernel
theorem dX12_laysErrands_1 : decode cX12_laysErrands 1 = .ok (.istore_n 2, 1) := by decide +kernel
theorem dX12_laysErrands_2 : decode cX12_laysErrands 2 = .ok (.iload_n 2, 1) := by decide +kernel
theorem dX12_laysErrands_3 : decode cX12_laysErrands 3 = .ok (.aload_n 0, 1) := by decide +kernel
theorem dX12_laysErrands_4 : decode cX12_laysErrands 4 = .ok (.getfield 91, 3) := by decide +kernel
theorem dX12_laysErrands_7 : decode cX12_laysErrands 7 = .ok (.iload_n 1, 1) := by decide +kernel
theorem dX12_laysErrands_8 : decode cX12_laysErrands 8 = .ok (.iaload, 1) := by decide +kernel
theorem dX12_laysErrands_9 : decode cX12_laysErrands 9 = .ok (.if_icmp .ge 39, 3) := by decide +kernel
theorem dX12_laysErrands_12 : decode cX12_laysErrands 12 = .ok (.aload_n 0, 1) := by decide +kernel
theorem dX12_laysErrands_13 : decode cX12_laysErrands 13 = .ok (.iload_n 2, 1) := by decide +kernel
theorem dX12_laysErrands_14 : decode cX12_laysErrands 14 = .ok (.aload_n 0, 1) := by decide +kernel
theorem dX12_laysErrands_15 : decode cX12_laysErrands 15 = .ok (.iload_n 1, 1) := by decide +kernel
theorem dX12_laysErrands_16 : decode cX12_laysErrands 16 = .ok (.iload_n 2, 1) := by decide +kernel
theorem dX12_laysErrands_17 : decode cX12_laysErrands 17 = .ok (.invokevirtual 533, 3) := by decide +kernel
theorem dX12_laysErrands_20 : decode cX12_laysErrands 20 = .ok (.sipush 1000, 3) := by decide +kernel
theorem dX12_laysErrands_23 : decode cX12_laysErrands 23 = .ok (.idiv, 1) := by decide +kernel
theorem dX12_laysErrands_24 : decode cX12_laysErrands 24 = .ok (.aload_n 0, 1) := by decide +kernel
theorem dX12_laysErrands_25 : decode cX12_laysErrands 25 = .ok (.iload_n 1, 1) := by decide +kernel
theorem dX12_laysErrands_26 : decode cX12_laysErrands 26 = .ok (.iload_n 2, 1) := by decide +kernel
theorem dX12_laysErrands_27 : decode cX12_laysErrands 27 = .ok (.invokevirtual 533, 3) := by decide +kernel
theorem dX12_laysErrands_30 : decode cX12_laysErrands 30 = .ok (.bipush 100, 2) := by decide +kernel
theorem dX12_laysErrands_32 : decode cX12_laysErrands 32 = .ok (.idiv, 1) := by decide +kernel
theorem dX12_laysErrands_33 : decode cX12_laysErrands 33 = .ok (.bipush 10, 2) := by decide +kernel
theorem dX12_laysErrands_35 : decode cX12_laysErrands 35 = .ok (.irem, 1) := by decide +kernel
theorem dX12_laysErrands_36 : decode cX12_laysErrands 36 = .ok (.sipush 1024, 3) := by decide +kernel
theorem dX12_laysErrands_39 : decode cX12_laysErrands 39 = .ok (.invokevirtual 398, 3) := by decide +kernel
theorem dX12_laysErrands_42 : decode cX12_laysErrands 42 = .ok (.iinc 2 1, 3) := by decide +kernel
theorem dX12_laysErrands_45 : decode cX12_laysErrands 45 = .ok (.goto (-43), 3) := by decide +kernel
theorem dX12_laysErrands_48 : decode cX12_laysErrands 48 = .ok (.return_, 1) := by decide +kernel
theorem dX12_doneBy_0 : decode cX12_doneBy 0 = .ok (.aload_n 0, 1) := by decide +kernel
theorem dX12_doneBy_1 : decode cX12_doneBy 1 = .ok (.iload_n 1, 1) := by decide +kernel
theorem dX12_doneBy_2 : decode cX12_doneBy 2 = .ok (.iload_n 2, 1) := by decide +kernel
theorem dX12_doneBy_3 : decode cX12_doneBy 3 = .ok (.invokevirtual 533, 3) := by decide +kernel
theorem dX12_doneBy_6 : decode cX12_doneBy 6 = .ok (.bipush 100, 2) := by decide +kernel
theorem dX12_doneBy_8 : decode cX12_doneBy 8 = .ok (.irem, 1) := by decide +kernel
theorem dX12_doneBy_9 : decode cX12_doneBy 9 = .ok (.istore 4, 2) := by decide +kernel
theorem dX12_doneBy_11 : decode cX12_doneBy 11 = .ok (.aload_n 0, 1) := by decide +kernel
theorem dX12_doneBy_12 : decode cX12_doneBy 12 = .ok (.iload_n 2, 1) := by decide +kernel
theorem dX12_doneBy_13 : decode cX12_doneBy 13 = .ok (.iload_n 3, 1) := by decide +kernel
theorem dX12_doneBy_14 : decode cX12_doneBy 14 = .ok (.iload 4, 2) := by decide +kernel
theorem dX12_doneBy_16 : decode cX12_doneBy 16 = .ok (.invokevirtual 479, 3) := by decide +kernel
theorem dX12_doneBy_19 : decode cX12_doneBy 19 = .ok (.istore 5, 2) := by decide +kernel
theorem dX12_doneBy_21 : decode cX12_doneBy 21 = .ok (.iload 5, 2) := by decide +kernel
theorem dX12_doneBy_23 : decode cX12_doneBy 23 = .ok (.iconst (-1), 1) := by decide +kernel
theorem dX12_doneBy_24 : decode cX12_doneBy 24 = .ok (.if_icmp .ne 7, 3) := by decide +kernel
theorem dX12_doneBy_27 : decode cX12_doneBy 27 = .ok (.iconst (-1), 1) := by decide +kernel
theorem dX12_doneBy_28 : decode cX12_doneBy 28 = .ok (.goto 8, 3) := by decide +kernel
theorem dX12_doneBy_31 : decode cX12_doneBy 31 = .ok (.iload 5, 2) := by decide +kernel
theorem dX12_doneBy_33 : decode cX12_doneBy 33 = .ok (.iload 4, 2) := by decide +kernel
theorem dX12_doneBy_35 : decode cX12_doneBy 35 = .ok (.iadd, 1) := by decide +kernel
theorem dX12_doneBy_36 : decode cX12_doneBy 36 = .ok (.ireturn, 1) := by decide +kernel
theorem dX12_errands_0 : decode cX12_errands 0 = .ok (.aload_n 0, 1) := by decide +kernel
theorem dX12_errands_1 : decode cX12_errands 1 = .ok (.aload_n 0, 1) := by decide +kernel
theorem dX12_errands_2 : decode cX12_errands 2 = .ok (.iload_n 1, 1) := by decide +kernel
theorem dX12_errands_3 : decode cX12_errands 3 = .ok (.invokevirtual 536, 3) := by decide +kernel
theorem dX12_errands_6 : decode cX12_errands 6 = .ok (.putfield 97, 3) := by decide +kernel
theorem dX12_errands_9 : decode cX12_errands 9 = .ok (.aload_n 0, 1) := by decide +kernel
theorem dX12_errands_10 : decode cX12_errands 10 = .ok (.getfield 97, 3) := by decide +kernel
theorem dX12_errands_13 : decode cX12_errands 13 = .ok (.ifCond .le 5, 3) := by decide +kernel
theorem dX12_errands_16 : decode cX12_errands 16 = .ok (.iconst 0, 1) := by decide +kernel
theorem dX12_errands_17 : decode cX12_errands 17 = .ok (.ireturn, 1) := by decide +kernel
theorem dX12_errands_18 : decode cX12_errands 18 = .ok (.aload_n 0, 1) := by decide +kernel
theorem dX12_errands_19 : decode cX12_errands 19 = .ok (.iload_n 1, 1) := by decide +kernel
theorem dX12_errands_20 : decode cX12_errands 20 = .ok (.invokevirtual 539, 3) := by decide +kernel
theorem dX12_errands_23 : decode cX12_errands 23 = .ok (.iconst 0, 1) := by decide +kernel
theorem dX12_errands_24 : decode cX12_errands 24 = .ok (.istore_n 2, 1) := by decide +kernel
theorem dX12_errands_25 : decode cX12_errands 25 = .ok (.iconst 0, 1) := by decide +kernel
theorem dX12_errands_26 : decode cX12_errands 26 = .ok (.istore_n 3, 1) := by decide +kernel
theorem dX12_errands_27 : decode cX12_errands 27 = .ok (.iload_n 3, 1) := by decide +kernel
theorem dX12_errands_28 : decode cX12_errands 28 = .ok (.aload_n 0, 1) := by decide +kernel
theorem dX12_errands_29 : decode cX12_errands 29 = .ok (.getfield 91, 3) := by decide +kernel
theorem dX12_errands_32 : decode cX12_errands 32 = .ok (.iload_n 1, 1) := by decide +kernel
theorem dX12_errands_33 : decode cX12_errands 33 = .ok (.iaload, 1) := by decide +kernel
theorem dX12_errands_34 : decode cX12_errands 34 = .ok (.if_icmp .ge 22, 3) := by decide +kernel
theorem dX12_errands_37 : decode cX12_errands 37 = .ok (.iload_n 2, 1) := by decide +kernel
theorem dX12_errands_38 : decode cX12_errands 38 = .ok (.iconst (-1), 1) := by decide +kernel
theorem dX12_errands_39 : decode cX12_errands 39 = .ok (.if_icmp .eq 17, 3) := by decide +kernel
theorem dX12_errands_42 : decode cX12_errands 42 = .ok (.aload_n 0, 1) := by decide +kernel
theorem dX12_errands_43 : decode cX12_errands 43 = .ok (.iload_n 1, 1) := by decide +kernel
theorem dX12_errands_44 : decode cX12_errands 44 = .ok (.iload_n 3, 1) := by decide +kernel
theorem dX12_errands_45 : decode cX12_errands 45 = .ok (.iload_n 2, 1) := by decide +kernel
theorem dX12_errands_46 : decode cX12_errands 46 = .ok (.invokevirtual 542, 3) := by decide +kernel
theorem dX12_errands_49 : decode cX12_errands 49 = .ok (.istore_n 2, 1) := by decide +kernel
theorem dX12_errands_50 : decode cX12_errands 50 = .ok (.iinc 3 1, 3) := by decide +kernel
theorem dX12_errands_53 : decode cX12_errands 53 = .ok (.goto (-26), 3) := by decide +kernel
theorem dX12_errands_56 : decode cX12_errands 56 = .ok (.iload_n 2, 1) := by decide +kernel
theorem dX12_errands_57 : decode cX12_errands 57 = .ok (.ireturn, 1) := by decide +kernel
theorem dX12_goesOrders_0 : decode cX12_goesOrders 0 = .ok (.iload 4, 2) := by decide +kernel
theorem dX12_goesOrders_2 : decode cX12_goesOrders 2 = .ok (.aload_n 0, 1) := by decide +kernel
theorem dX12_goesOrders_3 : decode cX12_goesOrders 3 = .ok (.getfield 545, 3) := by decide +kernel
theorem dX12_goesOrders_6 : decode cX12_goesOrders 6 = .ok (.if_icmp .lt 4, 3) := by decide +kernel
theorem dX12_goesOrders_9 : decode cX12_goesOrders 9 = .ok (.return_, 1) := by decide +kernel
theorem dX12_goesOrders_10 : decode cX12_goesOrders 10 = .ok (.iload_n 2, 1) := by decide +kernel
theorem dX12_goesOrders_11 : decode cX12_goesOrders 11 = .ok (.aload_n 0, 1) := by decide +kernel
theorem dX12_goesOrders_12 : decode cX12_goesOrders 12 = .ok (.getfield 91, 3) := by decide +kernel
theorem dX12_goesOrders_15 : decode cX12_goesOrders 15 = .ok (.iload_n 1, 1) := by decide +kernel
theorem dX12_goesOrders_16 : decode cX12_goesOrders 16 = .ok (.iaload, 1) := by decide +kernel
theorem dX12_goesOrders_17 : decode cX12_goesOrders 17 = .ok (.if_icmp .ne 39, 3) := by decide +kernel
theorem dX12_goesOrders_20 : decode cX12_goesOrders 20 = .ok (.aload_n 0, 1) := by decide +kernel
theorem dX12_goesOrders_21 : decode cX12_goesOrders 21 = .ok (.iload 4, 2) := by decide +kernel
theorem dX12_goesOrders_23 : decode cX12_goesOrders 23 = .ok (.putfield 545, 3) := by decide +kernel
theorem dX12_goesOrders_26 : decode cX12_goesOrders 26 = .ok (.iconst 0, 1) := by decide +kernel
theorem dX12_goesOrders_27 : decode cX12_goesOrders 27 = .ok (.istore 5, 2) := by decide +kernel
theorem dX12_goesOrders_29 : decode cX12_goesOrders 29 = .ok (.iload 5, 2) := by decide +kernel
theorem dX12_goesOrders_31 : decode cX12_goesOrders 31 = .ok (.iload_n 2, 1) := by decide +kernel
theorem dX12_goesOrders_32 : decode cX12_goesOrders 32 = .ok (.if_icmp .ge 23, 3) := by decide +kernel
theorem dX12_goesOrders_35 : decode cX12_goesOrders 35 = .ok (.aload_n 0, 1) := by decide +kernel
theorem dX12_goesOrders_36 : decode cX12_goesOrders 36 = .ok (.getfield 79, 3) := by decide +kernel
theorem dX12_goesOrders_39 : decode cX12_goesOrders 39 = .ok (.iload 5, 2) := by decide +kernel
theorem dX12_goesOrders_41 : decode cX12_goesOrders 41 = .ok (.aload_n 0, 1) := by decide +kernel
theorem dX12_goesOrders_42 : decode cX12_goesOrders 42 = .ok (.getfield 76, 3) := by decide +kernel
theorem dX12_goesOrders_45 : decode cX12_goesOrders 45 = .ok (.iload 5, 2) := by decide +kernel
theorem dX12_goesOrders_47 : decode cX12_goesOrders 47 = .ok (.iaload, 1) := by decide +kernel
theorem dX12_goesOrders_48 : decode cX12_goesOrders 48 = .ok (.iastore, 1) := by decide +kernel
theorem dX12_goesOrders_49 : decode cX12_goesOrders 49 = .ok (.iinc 5 1, 3) := by decide +kernel
theorem dX12_goesOrders_52 : decode cX12_goesOrders 52 = .ok (.goto (-23), 3) := by decide +kernel
theorem dX12_goesOrders_55 : decode cX12_goesOrders 55 = .ok (.return_, 1) := by decide +kernel
theorem dX12_goesOrders_56 : decode cX12_goesOrders 56 = .ok (.iconst 0, 1) := by decide +kernel
theorem dX12_goesOrders_57 : decode cX12_goesOrders 57 = .ok (.istore 5, 2) := by decide +kernel
theorem dX12_goesOrders_59 : decode cX12_goesOrders 59 = .ok (.iload 5, 2) := by decide +kernel
theorem dX12_goesOrders_61 : decode cX12_goesOrders 61 = .ok (.aload_n 0, 1) := by decide +kernel
theorem dX12_goesOrders_62 : decode cX12_goesOrders 62 = .ok (.getfield 91, 3) := by decide +kernel
theorem dX12_goesOrders_65 : decode cX12_goesOrders 65 = .ok (.iload_n 1, 1) := by decide +kernel
theorem dX12_goesOrders_66 : decode cX12_goesOrders 66 = .ok (.iaload, 1) := by decide +kernel
theorem dX12_goesOrders_67 : decode cX12_goesOrders 67 = .ok (.if_icmp .ge 66, 3) := by decide +kernel
theorem dX12_goesOrders_70 : decode cX12_goesOrders 70 = .ok (.iload_n 3, 1) := by decide +kernel
theorem dX12_goesOrders_71 : decode cX12_goesOrders 71 = .ok (.iload 5, 2) := by decide +kernel
theorem dX12_goesOrders_73 : decode cX12_goesOrders 73 = .ok (.invokestatic 250, 3) := by decide +kernel
theorem dX12_goesOrders_76 : decode cX12_goesOrders 76 = .ok (.ifCond .eq 7, 3) := by decide +kernel
theorem dX12_goesOrders_79 : decode cX12_goesOrders 79 = .ok (.iconst (-1), 1) := by decide +kernel
theorem dX12_goesOrders_80 : decode cX12_goesOrders 80 = .ok (.goto 12, 3) := by decide +kernel
theorem dX12_goesOrders_83 : decode cX12_goesOrders 83 = .ok (.aload_n 0, 1) := by decide +kernel
theorem dX12_goesOrders_84 : decode cX12_goesOrders 84 = .ok (.iload_n 1, 1) := by decide +kernel
theorem dX12_goesOrders_85 : decode cX12_goesOrders 85 = .ok (.iload 5, 2) := by decide +kernel
theorem dX12_goesOrders_87 : decode cX12_goesOrders 87 = .ok (.iload 4, 2) := by decide +kernel
theorem dX12_goesOrders_89 : decode cX12_goesOrders 89 = .ok (.invokevirtual 542, 3) := by decide +kernel
theorem dX12_goesOrders_92 : decode cX12_goesOrders 92 = .ok (.istore 6, 2) := by decide +kernel
theorem dX12_goesOrders_94 : decode cX12_goesOrders 94 = .ok (.iload 6, 2) := by decide +kernel
theorem dX12_goesOrders_96 : decode cX12_goesOrders 96 = .ok (.iconst (-1), 1) := by decide +kernel
theorem dX12_goesOrders_97 : decode cX12_goesOrders 97 = .ok (.if_icmp .ne 6, 3) := by decide +kernel
theorem dX12_goesOrders_100 : decode cX12_goesOrders 100 = .ok (.goto 27, 3) := by decide +kernel
theorem dX12_goesOrders_103 : decode cX12_goesOrders 103 = .ok (.aload_n 0, 1) := by decide +kernel
theorem dX12_goesOrders_104 : decode cX12_goesOrders 104 = .ok (.getfield 76, 3) := by decide +kernel
theorem dX12_goesOrders_107 : decode cX12_goesOrders 107 = .ok (.iload_n 2, 1) := by decide +kernel
theorem dX12_goesOrders_108 : decode cX12_goesOrders 108 = .ok (.iload 5, 2) := by decide +kernel
theorem dX12_goesOrders_110 : decode cX12_goesOrders 110 = .ok (.iastore, 1) := by decide +kernel
theorem dX12_goesOrders_111 : decode cX12_goesOrders 111 = .ok (.aload_n 0, 1) := by decide +kernel
theorem dX12_goesOrders_112 : decode cX12_goesOrders 112 = .ok (.iload_n 1, 1) := by decide +kernel
theorem dX12_goesOrders_113 : decode cX12_goesOrders 113 = .ok (.iload_n 2, 1) := by decide +kernel
theorem dX12_goesOrders_114 : decode cX12_goesOrders 114 = .ok (.iconst 1, 1) := by decide +kernel
theorem dX12_goesOrders_115 : decode cX12_goesOrders 115 = .ok (.iadd, 1) := by decide +kernel
theorem dX12_goesOrders_116 : decode cX12_goesOrders 116 = .ok (.iload_n 3, 1) := by decide +kernel
theorem dX12_goesOrders_117 : decode cX12_goesOrders 117 = .ok (.iconst 1, 1) := by decide +kernel
theorem dX12_goesOrders_118 : decode cX12_goesOrders 118 = .ok (.iload 5, 2) := by decide +kernel
theorem dX12_goesOrders_120 : decode cX12_goesOrders 120 = .ok (.ishl, 1) := by decide +kernel
theorem dX12_goesOrders_121 : decode cX12_goesOrders 121 = .ok (.ior, 1) := by decide +kernel
theorem dX12_goesOrders_122 : decode cX12_goesOrders 122 = .ok (.iload 6, 2) := by decide +kernel
theorem dX12_goesOrders_124 : decode cX12_goesOrders 124 = .ok (.invokevirtual 548, 3) := by decide +kernel
theorem dX12_goesOrders_127 : decode cX12_goesOrders 127 = .ok (.iinc 5 1, 3) := by decide +kernel
theorem dX12_goesOrders_130 : decode cX12_goesOrders 130 = .ok (.goto (-71), 3) := by decide +kernel
theorem dX12_goesOrders_133 : decode cX12_goesOrders 133 = .ok (.return_, 1) := by decide +kernel
theorem dX12_bestOrder_0 : decode cX12_bestOrder 0 = .ok (.aload_n 0, 1) := by decide +kernel
theorem dX12_bestOrder_1 : decode cX12_bestOrder 1 = .ok (.aload_n 0, 1) := by decide +kernel
theorem dX12_bestOrder_2 : decode cX12_bestOrder 2 = .ok (.iload_n 1, 1) := by decide +kernel
theorem dX12_bestOrder_3 : decode cX12_bestOrder 3 = .ok (.invokevirtual 536, 3) := by decide +kernel
theorem dX12_bestOrder_6 : decode cX12_bestOrder 6 = .ok (.putfield 97, 3) := by decide +kernel
theorem dX12_bestOrder_9 : decode cX12_bestOrder 9 = .ok (.aload_n 0, 1) := by decide +kernel
theorem dX12_bestOrder_10 : decode cX12_bestOrder 10 = .ok (.getfield 97, 3) := by decide +kernel
theorem dX12_bestOrder_13 : decode cX12_bestOrder 13 = .ok (.ifCond .ne 26, 3) := by decide +kernel
theorem dX12_bestOrder_16 : decode cX12_bestOrder 16 = .ok (.iload_n 2, 1) := by decide +kernel
theorem dX12_bestOrder_17 : decode cX12_bestOrder 17 = .ok (.ifCond .eq 22, 3) := by decide +kernel
theorem dX12_bestOrder_20 : decode cX12_bestOrder 20 = .ok (.iload_n 2, 1) := by decide +kernel
theorem dX12_bestOrder_21 : decode cX12_bestOrder 21 = .ok (.i2l, 1) := by decide +kernel
theorem dX12_bestOrder_22 : decode cX12_bestOrder 22 = .ok (.ldc2_w 427, 3) := by decide +kernel
theorem dX12_bestOrder_25 : decode cX12_bestOrder 25 = .ok (.ldc2_w 551, 3) := by decide +kernel
theorem dX12_bestOrder_28 : decode cX12_bestOrder 28 = .ok (.invokestatic 158, 3) := by decide +kernel
theorem dX12_bestOrder_31 : decode cX12_bestOrder 31 = .ok (.ifCond .ne 8, 3) := by decide +kernel
theorem dX12_bestOrder_34 : decode cX12_bestOrder 34 = .ok (.aload_n 0, 1) := by decide +kernel
theorem dX12_bestOrder_35 : decode cX12_bestOrder 35 = .ok (.iconst 3, 1) := by decide +kernel
theorem dX12_bestOrder_36 : decode cX12_bestOrder 36 = .ok (.putfield 97, 3) := by decide +kernel
theorem dX12_bestOrder_39 : decode cX12_bestOrder 39 = .ok (.aload_n 0, 1) := by decide +kernel
theorem dX12_bestOrder_40 : decode cX12_bestOrder 40 = .ok (.getfield 97, 3) := by decide +kernel
theorem dX12_bestOrder_43 : decode cX12_bestOrder 43 = .ok (.ifCond .le 5, 3) := by decide +kernel
theorem dX12_bestOrder_46 : decode cX12_bestOrder 46 = .ok (.iconst 0, 1) := by decide +kernel
theorem dX12_bestOrder_47 : decode cX12_bestOrder 47 = .ok (.ireturn, 1) := by decide +kernel
theorem dX12_bestOrder_48 : decode cX12_bestOrder 48 = .ok (.aload_n 0, 1) := by decide +kernel
theorem dX12_bestOrder_49 : decode cX12_bestOrder 49 = .ok (.iload_n 1, 1) := by decide +kernel
theorem dX12_bestOrder_50 : decode cX12_bestOrder 50 = .ok (.invokevirtual 539, 3) := by decide +kernel
theorem dX12_bestOrder_53 : decode cX12_bestOrder 53 = .ok (.aload_n 0, 1) := by decide +kernel
theorem dX12_bestOrder_54 : decode cX12_bestOrder 54 = .ok (.ldc_w 485, 3) := by decide +kernel
theorem dX12_bestOrder_57 : decode cX12_bestOrder 57 = .ok (.putfield 545, 3) := by decide +kernel
theorem dX12_bestOrder_60 : decode cX12_bestOrder 60 = .ok (.aload_n 0, 1) := by decide +kernel
theorem dX12_bestOrder_61 : decode cX12_bestOrder 61 = .ok (.iload_n 1, 1) := by decide +kernel
theorem dX12_bestOrder_62 : decode cX12_bestOrder 62 = .ok (.iconst 0, 1) := by decide +kernel
theorem dX12_bestOrder_63 : decode cX12_bestOrder 63 = .ok (.iconst 0, 1) := by decide +kernel
theorem dX12_bestOrder_64 : decode cX12_bestOrder 64 = .ok (.iconst 0, 1) := by decide +kernel
theorem dX12_bestOrder_65 : decode cX12_bestOrder 65 = .ok (.invokevirtual 548, 3) := by decide +kernel
theorem dX12_bestOrder_68 : decode cX12_bestOrder 68 = .ok (.aload_n 0, 1) := by decide +kernel
theorem dX12_bestOrder_69 : decode cX12_bestOrder 69 = .ok (.getfield 545, 3) := by decide +kernel
theorem dX12_bestOrder_72 : decode cX12_bestOrder 72 = .ok (.ldc_w 485, 3) := by decide +kernel
theorem dX12_bestOrder_75 : decode cX12_bestOrder 75 = .ok (.if_icmp .ne 5, 3) := by decide +kernel
theorem dX12_bestOrder_78 : decode cX12_bestOrder 78 = .ok (.iconst (-1), 1) := by decide +kernel
theorem dX12_bestOrder_79 : decode cX12_bestOrder 79 = .ok (.ireturn, 1) := by decide +kernel
theorem dX12_bestOrder_80 : decode cX12_bestOrder 80 = .ok (.iload_n 2, 1) := by decide +kernel
theorem dX12_bestOrder_81 : decode cX12_bestOrder 81 = .ok (.ifCond .ne 10, 3) := by decide +kernel
theorem dX12_bestOrder_84 : decode cX12_bestOrder 84 = .ok (.aload_n 0, 1) := by decide +kernel
theorem dX12_bestOrder_85 : decode cX12_bestOrder 85 = .ok (.getfield 545, 3) := by decide +kernel
theorem dX12_bestOrder_88 : decode cX12_bestOrder 88 = .ok (.goto 29, 3) := by decide +kernel
theorem dX12_bestOrder_91 : decode cX12_bestOrder 91 = .ok (.iload_n 2, 1) := by decide +kernel
theorem dX12_bestOrder_92 : decode cX12_bestOrder 92 = .ok (.bipush 10, 2) := by decide +kernel
theorem dX12_bestOrder_94 : decode cX12_bestOrder 94 = .ok (.isub, 1) := by decide +kernel
theorem dX12_bestOrder_95 : decode cX12_bestOrder 95 = .ok (.aload_n 0, 1) := by decide +kernel
theorem dX12_bestOrder_96 : decode cX12_bestOrder 96 = .ok (.getfield 91, 3) := by decide +kernel
theorem dX12_bestOrder_99 : decode cX12_bestOrder 99 = .ok (.iload_n 1, 1) := by decide +kernel
theorem dX12_bestOrder_100 : decode cX12_bestOrder 100 = .ok (.iaload, 1) := by decide +kernel
theorem dX12_bestOrder_101 : decode cX12_bestOrder 101 = .ok (.if_icmp .ge 15, 3) := by decide +kernel
theorem dX12_bestOrder_104 : decode cX12_bestOrder 104 = .ok (.aload_n 0, 1) := by decide +kernel
theorem dX12_bestOrder_105 : decode cX12_bestOrder 105 = .ok (.getfield 79, 3) := by decide +kernel
theorem dX12_bestOrder_108 : decode cX12_bestOrder 108 = .ok (.iload_n 2, 1) := by decide +kernel
theorem dX12_bestOrder_109 : decode cX12_bestOrder 109 = .ok (.bipush 10, 2) := by decide +kernel
theorem dX12_bestOrder_111 : decode cX12_bestOrder 111 = .ok (.isub, 1) := by decide +kernel
theorem dX12_bestOrder_112 : decode cX12_bestOrder 112 = .ok (.iaload, 1) := by decide +kernel
theorem dX12_bestOrder_113 : decode cX12_bestOrder 113 = .ok (.goto 4, 3) := by decide +kernel
theorem dX12_bestOrder_116 : decode cX12_bestOrder 116 = .ok (.iconst (-1), 1) := by decide +kernel
theorem dX12_bestOrder_117 : decode cX12_bestOrder 117 = .ok (.ireturn, 1) := by decide +kernel
theorem dX12_seenFault_0 : decode cX12_seenFault 0 = .ok (.iload_n 1, 1) := by decide +kernel
theorem dX12_seenFault_1 : decode cX12_seenFault 1 = .ok (.invokestatic 429, 3) := by decide +kernel
theorem dX12_seenFault_4 : decode cX12_seenFault 4 = .ok (.ifCond .eq 12, 3) := by decide +kernel
theorem dX12_seenFault_7 : decode cX12_seenFault 7 = .ok (.aload_n 0, 1) := by decide +kernel
theorem dX12_seenFault_8 : decode cX12_seenFault 8 = .ok (.iload_n 3, 1) := by decide +kernel
theorem dX12_seenFault_9 : decode cX12_seenFault 9 = .ok (.i2l, 1) := by decide +kernel
theorem dX12_seenFault_10 : decode cX12_seenFault 10 = .ok (.invokevirtual 371, 3) := by decide +kernel
theorem dX12_seenFault_13 : decode cX12_seenFault 13 = .ok (.ifCond .ne 5, 3) := by decide +kernel
theorem dX12_seenFault_16 : decode cX12_seenFault 16 = .ok (.iconst 1, 1) := by decide +kernel
theorem dX12_seenFault_17 : decode cX12_seenFault 17 = .ok (.ireturn, 1) := by decide +kernel
theorem dX12_seenFault_18 : decode cX12_seenFault 18 = .ok (.aload_n 0, 1) := by decide +kernel
theorem dX12_seenFault_19 : decode cX12_seenFault 19 = .ok (.getfield 88, 3) := by decide +kernel
theorem dX12_seenFault_22 : decode cX12_seenFault 22 = .ok (.iload_n 1, 1) := by decide +kernel
theorem dX12_seenFault_23 : decode cX12_seenFault 23 = .ok (.iaload, 1) := by decide +kernel
theorem dX12_seenFault_24 : decode cX12_seenFault 24 = .ok (.iconst (-1), 1) := by decide +kernel
theorem dX12_seenFault_25 : decode cX12_seenFault 25 = .ok (.if_icmp .ne 5, 3) := by decide +kernel
theorem dX12_seenFault_28 : decode cX12_seenFault 28 = .ok (.iconst 2, 1) := by decide +kernel
theorem dX12_seenFault_29 : decode cX12_seenFault 29 = .ok (.ireturn, 1) := by decide +kernel
theorem dX12_seenFault_30 : decode cX12_seenFault 30 = .ok (.iload_n 2, 1) := by decide +kernel
theorem dX12_seenFault_31 : decode cX12_seenFault 31 = .ok (.invokestatic 389, 3) := by decide +kernel
theorem dX12_seenFault_34 : decode cX12_seenFault 34 = .ok (.ifCond .eq 24, 3) := by decide +kernel
theorem dX12_seenFault_37 : decode cX12_seenFault 37 = .ok (.aload_n 0, 1) := by decide +kernel
theorem dX12_seenFault_38 : decode cX12_seenFault 38 = .ok (.getfield 91, 3) := by decide +kernel
theorem dX12_seenFault_41 : decode cX12_seenFault 41 = .ok (.iload_n 1, 1) := by decide +kernel
theorem dX12_seenFault_42 : decode cX12_seenFault 42 = .ok (.iaload, 1) := by decide +kernel
theorem dX12_seenFault_43 : decode cX12_seenFault 43 = .ok (.i2l, 1) := by decide +kernel
theorem dX12_seenFault_44 : decode cX12_seenFault 44 = .ok (.lconst 1, 1) := by decide +kernel
theorem dX12_seenFault_45 : decode cX12_seenFault 45 = .ok (.ldc2_w 387, 3) := by decide +kernel
theorem dX12_seenFault_48 : decode cX12_seenFault 48 = .ok (.invokestatic 158, 3) := by decide +kernel
theorem dX12_seenFault_51 : decode cX12_seenFault 51 = .ok (.ifCond .eq 7, 3) := by decide +kernel
theorem dX12_seenFault_54 : decode cX12_seenFault 54 = .ok (.iconst 1, 1) := by decide +kernel
theorem dX12_seenFault_55 : decode cX12_seenFault 55 = .ok (.goto 4, 3) := by decide +kernel
theorem dX12_seenFault_58 : decode cX12_seenFault 58 = .ok (.iconst 0, 1) := by decide +kernel
theorem dX12_seenFault_59 : decode cX12_seenFault 59 = .ok (.istore 4, 2) := by decide +kernel
theorem dX12_seenFault_61 : decode cX12_seenFault 61 = .ok (.iconst 0, 1) := by decide +kernel
theorem dX12_seenFault_62 : decode cX12_seenFault 62 = .ok (.istore 5, 2) := by decide +kernel
theorem dX12_seenFault_64 : decode cX12_seenFault 64 = .ok (.iload 5, 2) := by decide +kernel
theorem dX12_seenFault_66 : decode cX12_seenFault 66 = .ok (.aload_n 0, 1) := by decide +kernel
theorem dX12_seenFault_67 : decode cX12_seenFault 67 = .ok (.getfield 91, 3) := by decide +kernel
theorem dX12_seenFault_70 : decode cX12_seenFault 70 = .ok (.iload_n 1, 1) := by decide +kernel
theorem dX12_seenFault_71 : decode cX12_seenFault 71 = .ok (.iaload, 1) := by decide +kernel
theorem dX12_seenFault_72 : decode cX12_seenFault 72 = .ok (.if_icmp .ge 55, 3) := by decide +kernel
theorem dX12_seenFault_75 : decode cX12_seenFault 75 = .ok (.iload 4, 2) := by decide +kernel
theorem dX12_seenFault_77 : decode cX12_seenFault 77 = .ok (.ifCond .eq 50, 3) := by decide +kernel
theorem dX12_seenFault_80 : decode cX12_seenFault 80 = .ok (.aload_n 0, 1) := by decide +kernel
theorem dX12_seenFault_81 : decode cX12_seenFault 81 = .ok (.getfield 94, 3) := by decide +kernel
theorem dX12_seenFault_84 : decode cX12_seenFault 84 = .ok (.bipush 30, 2) := by decide +kernel
theorem dX12_seenFault_86 : decode cX12_seenFault 86 = .ok (.iload_n 1, 1) := by decide +kernel
theorem dX12_seenFault_87 : decode cX12_seenFault 87 = .ok (.imul, 1) := by decide +kernel
theorem dX12_seenFault_88 : decode cX12_seenFault 88 = .ok (.iload 5, 2) := by decide +kernel
theorem dX12_seenFault_90 : decode cX12_seenFault 90 = .ok (.iadd, 1) := by decide +kernel
theorem dX12_seenFault_91 : decode cX12_seenFault 91 = .ok (.laload, 1) := by decide +kernel
theorem dX12_seenFault_92 : decode cX12_seenFault 92 = .ok (.ldc2_w 432, 3) := by decide +kernel
theorem dX12_seenFault_95 : decode cX12_seenFault 95 = .ok (.aload_n 0, 1) := by decide +kernel
theorem dX12_seenFault_96 : decode cX12_seenFault 96 = .ok (.getfield 9, 3) := by decide +kernel
theorem dX12_seenFault_99 : decode cX12_seenFault 99 = .ok (.bipush 54, 2) := by decide +kernel
theorem dX12_seenFault_101 : decode cX12_seenFault 101 = .ok (.iaload, 1) := by decide +kernel
theorem dX12_seenFault_102 : decode cX12_seenFault 102 = .ok (.iload 5, 2) := by decide +kernel
theorem dX12_seenFault_104 : decode cX12_seenFault 104 = .ok (.if_icmp .le 9, 3) := by decide +kernel
theorem dX12_seenFault_107 : decode cX12_seenFault 107 = .ok (.ldc2_w 553, 3) := by decide +kernel
theorem dX12_seenFault_110 : decode cX12_seenFault 110 = .ok (.goto 6, 3) := by decide +kernel
theorem dX12_seenFault_113 : decode cX12_seenFault 113 = .ok (.ldc2_w 432, 3) := by decide +kernel
theorem dX12_seenFault_116 : decode cX12_seenFault 116 = .ok (.invokestatic 158, 3) := by decide +kernel
theorem dX12_seenFault_119 : decode cX12_seenFault 119 = .ok (.istore 4, 2) := by decide +kernel
theorem dX12_seenFault_121 : decode cX12_seenFault 121 = .ok (.iinc 5 1, 3) := by decide +kernel
theorem dX12_seenFault_124 : decode cX12_seenFault 124 = .ok (.goto (-60), 3) := by decide +kernel
theorem dX12_seenFault_127 : decode cX12_seenFault 127 = .ok (.iload 4, 2) := by decide +kernel
theorem dX12_seenFault_129 : decode cX12_seenFault 129 = .ok (.ifCond .eq 7, 3) := by decide +kernel
theorem dX12_seenFault_132 : decode cX12_seenFault 132 = .ok (.iconst 0, 1) := by decide +kernel
theorem dX12_seenFault_133 : decode cX12_seenFault 133 = .ok (.goto 4, 3) := by decide +kernel
theorem dX12_seenFault_136 : decode cX12_seenFault 136 = .ok (.iconst 3, 1) := by decide +kernel
theorem dX12_seenFault_137 : decode cX12_seenFault 137 = .ok (.ireturn, 1) := by decide +kernel
theorem dX12_laysBreaths_0 : decode cX12_laysBreaths 0 = .ok (.aload_n 0, 1) := by decide +kernel
theorem dX12_laysBreaths_1 : decode cX12_laysBreaths 1 = .ok (.iload_n 3, 1) := by decide +kernel
theorem dX12_laysBreaths_2 : decode cX12_laysBreaths 2 = .ok (.aload_n 0, 1) := by decide +kernel
theorem dX12_laysBreaths_3 : decode cX12_laysBreaths 3 = .ok (.invokevirtual 347, 3) := by decide +kernel
theorem dX12_laysBreaths_6 : decode cX12_laysBreaths 6 = .ok (.invokevirtual 360, 3) := by decide +kernel
theorem dX12_laysBreaths_9 : decode cX12_laysBreaths 9 = .ok (.aload_n 0, 1) := by decide +kernel
theorem dX12_laysBreaths_10 : decode cX12_laysBreaths 10 = .ok (.getfield 91, 3) := by decide +kernel
theorem dX12_laysBreaths_13 : decode cX12_laysBreaths 13 = .ok (.iload_n 1, 1) := by decide +kernel
theorem dX12_laysBreaths_14 : decode cX12_laysBreaths 14 = .ok (.iaload, 1) := by decide +kernel
theorem dX12_laysBreaths_15 : decode cX12_laysBreaths 15 = .ok (.aload_n 0, 1) := by decide +kernel
theorem dX12_laysBreaths_16 : decode cX12_laysBreaths 16 = .ok (.getfield 9, 3) := by decide +kernel
theorem dX12_laysBreaths_19 : decode cX12_laysBreaths 19 = .ok (.bipush 54, 2) := by decide +kernel
theorem dX12_laysBreaths_21 : decode cX12_laysBreaths 21 = .ok (.iaload, 1) := by decide +kernel
theorem dX12_laysBreaths_22 : decode cX12_laysBreaths 22 = .ok (.invokestatic 320, 3) := by decide +kernel
theorem dX12_laysBreaths_25 : decode cX12_laysBreaths 25 = .ok (.istore 4, 2) := by decide +kernel
theorem dX12_laysBreaths_27 : decode cX12_laysBreaths 27 = .ok (.aload_n 0, 1) := by decide +kernel
theorem dX12_laysBreaths_28 : decode cX12_laysBreaths 28 = .ok (.iload_n 3, 1) := by decide +kernel
theorem dX12_laysBreaths_29 : decode cX12_laysBreaths 29 = .ok (.aload_n 0, 1) := by decide +kernel
theorem dX12_laysBreaths_30 : decode cX12_laysBreaths 30 = .ok (.getfield 9, 3) := by decide +kernel
theorem dX12_laysBreaths_33 : decode cX12_laysBreaths 33 = .ok (.bipush 54, 2) := by decide +kernel
theorem dX12_laysBreaths_35 : decode cX12_laysBreaths 35 = .ok (.iaload, 1) := by decide +kernel
theorem dX12_laysBreaths_36 : decode cX12_laysBreaths 36 = .ok (.iload 4, 2) := by decide +kernel
theorem dX12_laysBreaths_38 : decode cX12_laysBreaths 38 = .ok (.isub, 1) := by decide +kernel
theorem dX12_laysBreaths_39 : decode cX12_laysBreaths 39 = .ok (.iload 4, 2) := by decide +kernel
theorem dX12_laysBreaths_41 : decode cX12_laysBreaths 41 = .ok (.invokevirtual 363, 3) := by decide +kernel
theorem dX12_laysBreaths_44 : decode cX12_laysBreaths 44 = .ok (.aload_n 0, 1) := by decide +kernel
theorem dX12_laysBreaths_45 : decode cX12_laysBreaths 45 = .ok (.iconst 0, 1) := by decide +kernel
theorem dX12_laysBreaths_46 : decode cX12_laysBreaths 46 = .ok (.putfield 555, 3) := by decide +kernel
theorem dX12_laysBreaths_49 : decode cX12_laysBreaths 49 = .ok (.bipush (-20), 2) := by decide +kernel
theorem dX12_laysBreaths_51 : decode cX12_laysBreaths 51 = .ok (.istore 5, 2) := by decide +kernel
theorem dX12_laysBreaths_53 : decode cX12_laysBreaths 53 = .ok (.iload 5, 2) := by decide +kernel
theorem dX12_laysBreaths_55 : decode cX12_laysBreaths 55 = .ok (.bipush 20, 2) := by decide +kernel
theorem dX12_laysBreaths_57 : decode cX12_laysBreaths 57 = .ok (.if_icmp .gt 137, 3) := by decide +kernel
theorem dX12_laysBreaths_60 : decode cX12_laysBreaths 60 = .ok (.aload_n 0, 1) := by decide +kernel
theorem dX12_laysBreaths_61 : decode cX12_laysBreaths 61 = .ok (.iconst 0, 1) := by decide +kernel
theorem dX12_laysBreaths_62 : decode cX12_laysBreaths 62 = .ok (.iload_n 2, 1) := by decide +kernel
theorem dX12_laysBreaths_63 : decode cX12_laysBreaths 63 = .ok (.aload_n 0, 1) := by decide +kernel
theorem dX12_laysBreaths_64 : decode cX12_laysBreaths 64 = .ok (.getfield 9, 3) := by decide +kernel
theorem dX12_laysBreaths_67 : decode cX12_laysBreaths 67 = .ok (.bipush 54, 2) := by decide +kernel
theorem dX12_laysBreaths_69 : decode cX12_laysBreaths 69 = .ok (.iaload, 1) := by decide +kernel
theorem dX12_laysBreaths_70 : decode cX12_laysBreaths 70 = .ok (.iload 4, 2) := by decide +kernel
theorem dX12_laysBreaths_72 : decode cX12_laysBreaths 72 = .ok (.isub, 1) := by decide +kernel
theorem dX12_laysBreaths_73 : decode cX12_laysBreaths 73 = .ok (.iload 4, 2) := by decide +kernel
theorem dX12_laysBreaths_75 : decode cX12_laysBreaths 75 = .ok (.iload 5, 2) := by decide +kernel
theorem dX12_laysBreaths_77 : decode cX12_laysBreaths 77 = .ok (.invokevirtual 367, 3) := by decide +kernel
theorem dX12_laysBreaths_80 : decode cX12_laysBreaths 80 = .ok (.iconst 1, 1) := by decide +kernel
theorem dX12_laysBreaths_81 : decode cX12_laysBreaths 81 = .ok (.istore 6, 2) := by decide +kernel
theorem dX12_laysBreaths_83 : decode cX12_laysBreaths 83 = .ok (.iconst 0, 1) := by decide +kernel
theorem dX12_laysBreaths_84 : decode cX12_laysBreaths 84 = .ok (.istore 7, 2) := by decide +kernel
theorem dX12_laysBreaths_86 : decode cX12_laysBreaths 86 = .ok (.iload 7, 2) := by decide +kernel
theorem dX12_laysBreaths_88 : decode cX12_laysBreaths 88 = .ok (.iload 4, 2) := by decide +kernel
theorem dX12_laysBreaths_90 : decode cX12_laysBreaths 90 = .ok (.if_icmp .ge 69, 3) := by decide +kernel
theorem dX12_laysBreaths_93 : decode cX12_laysBreaths 93 = .ok (.iload 6, 2) := by decide +kernel
theorem dX12_laysBreaths_95 : decode cX12_laysBreaths 95 = .ok (.ifCond .eq 64, 3) := by decide +kernel
theorem dX12_laysBreaths_98 : decode cX12_laysBreaths 98 = .ok (.aload_n 0, 1) := by decide +kernel
theorem dX12_laysBreaths_99 : decode cX12_laysBreaths 99 = .ok (.getfield 94, 3) := by decide +kernel
theorem dX12_laysBreaths_102 : decode cX12_laysBreaths 102 = .ok (.bipush 30, 2) := by decide +kernel
theorem dX12_laysBreaths_104 : decode cX12_laysBreaths 104 = .ok (.iload_n 1, 1) := by decide +kernel
theorem dX12_laysBreaths_105 : decode cX12_laysBreaths 105 = .ok (.imul, 1) := by decide +kernel
theorem dX12_laysBreaths_106 : decode cX12_laysBreaths 106 = .ok (.iload 7, 2) := by decide +kernel
theorem dX12_laysBreaths_108 : decode cX12_laysBreaths 108 = .ok (.iadd, 1) := by decide +kernel
theorem dX12_laysBreaths_109 : decode cX12_laysBreaths 109 = .ok (.laload, 1) := by decide +kernel
theorem dX12_laysBreaths_110 : decode cX12_laysBreaths 110 = .ok (.ldc2_w 432, 3) := by decide +kernel
theorem dX12_laysBreaths_113 : decode cX12_laysBreaths 113 = .ok (.lcmp, 1) := by decide +kernel
theorem dX12_laysBreaths_114 : decode cX12_laysBreaths 114 = .ok (.ifCond .eq 32, 3) := by decide +kernel
theorem dX12_laysBreaths_117 : decode cX12_laysBreaths 117 = .ok (.aload_n 0, 1) := by decide +kernel
theorem dX12_laysBreaths_118 : decode cX12_laysBreaths 118 = .ok (.getfield 94, 3) := by decide +kernel
theorem dX12_laysBreaths_121 : decode cX12_laysBreaths 121 = .ok (.bipush 30, 2) := by decide +kernel
theorem dX12_laysBreaths_123 : decode cX12_laysBreaths 123 = .ok (.iload_n 1, 1) := by decide +kernel
theorem dX12_laysBreaths_124 : decode cX12_laysBreaths 124 = .ok (.imul, 1) := by decide +kernel
theorem dX12_laysBreaths_125 : decode cX12_laysBreaths 125 = .ok (.iload 7, 2) := by decide +kernel
theorem dX12_laysBreaths_127 : decode cX12_laysBreaths 127 = .ok (.iadd, 1) := by decide +kernel
theorem dX12_laysBreaths_128 : decode cX12_laysBreaths 128 = .ok (.laload, 1) := by decide +kernel
theorem dX12_laysBreaths_129 : decode cX12_laysBreaths 129 = .ok (.aload_n 0, 1) := by decide +kernel
theorem dX12_laysBreaths_130 : decode cX12_laysBreaths 130 = .ok (.getfield 42, 3) := by decide +kernel
theorem dX12_laysBreaths_133 : decode cX12_laysBreaths 133 = .ok (.iload 4, 2) := by decide +kernel
theorem dX12_laysBreaths_135 : decode cX12_laysBreaths 135 = .ok (.iconst 1, 1) := by decide +kernel
theorem dX12_laysBreaths_136 : decode cX12_laysBreaths 136 = .ok (.isub, 1) := by decide +kernel
theorem dX12_laysBreaths_137 : decode cX12_laysBreaths 137 = .ok (.iload 7, 2) := by decide +kernel
theorem dX12_laysBreaths_139 : decode cX12_laysBreaths 139 = .ok (.isub, 1) := by decide +kernel
theorem dX12_laysBreaths_140 : decode cX12_laysBreaths 140 = .ok (.iaload, 1) := by decide +kernel
theorem dX12_laysBreaths_141 : decode cX12_laysBreaths 141 = .ok (.i2l, 1) := by decide +kernel
theorem dX12_laysBreaths_142 : decode cX12_laysBreaths 142 = .ok (.lcmp, 1) := by decide +kernel
theorem dX12_laysBreaths_143 : decode cX12_laysBreaths 143 = .ok (.ifCond .ne 7, 3) := by decide +kernel
theorem dX12_laysBreaths_146 : decode cX12_laysBreaths 146 = .ok (.iconst 1, 1) := by decide +kernel
theorem dX12_laysBreaths_147 : decode cX12_laysBreaths 147 = .ok (.goto 4, 3) := by decide +kernel
theorem dX12_laysBreaths_150 : decode cX12_laysBreaths 150 = .ok (.iconst 0, 1) := by decide +kernel
theorem dX12_laysBreaths_151 : decode cX12_laysBreaths 151 = .ok (.istore 6, 2) := by decide +kernel
theorem dX12_laysBreaths_153 : decode cX12_laysBreaths 153 = .ok (.iinc 7 1, 3) := by decide +kernel
theorem dX12_laysBreaths_156 : decode cX12_laysBreaths 156 = .ok (.goto (-70), 3) := by decide +kernel
theorem dX12_laysBreaths_159 : decode cX12_laysBreaths 159 = .ok (.iload 6, 2) := by decide +kernel
theorem dX12_laysBreaths_161 : decode cX12_laysBreaths 161 = .ok (.ifCond .ne 6, 3) := by decide +kernel
theorem dX12_laysBreaths_164 : decode cX12_laysBreaths 164 = .ok (.goto 24, 3) := by decide +kernel
theorem dX12_laysBreaths_167 : decode cX12_laysBreaths 167 = .ok (.aload_n 0, 1) := by decide +kernel
theorem dX12_laysBreaths_168 : decode cX12_laysBreaths 168 = .ok (.getfield 82, 3) := by decide +kernel
theorem dX12_laysBreaths_171 : decode cX12_laysBreaths 171 = .ok (.aload_n 0, 1) := by decide +kernel
theorem dX12_laysBreaths_172 : decode cX12_laysBreaths 172 = .ok (.getfield 555, 3) := by decide +kernel
theorem dX12_laysBreaths_175 : decode cX12_laysBreaths 175 = .ok (.iload 5, 2) := by decide +kernel
theorem dX12_laysBreaths_177 : decode cX12_laysBreaths 177 = .ok (.iastore, 1) := by decide +kernel
theorem dX12_laysBreaths_178 : decode cX12_laysBreaths 178 = .ok (.aload_n 0, 1) := by decide +kernel
theorem dX12_laysBreaths_179 : decode cX12_laysBreaths 179 = .ok (.dup, 1) := by decide +kernel
theorem dX12_laysBreaths_180 : decode cX12_laysBreaths 180 = .ok (.getfield 555, 3) := by decide +kernel
theorem dX12_laysBreaths_183 : decode cX12_laysBreaths 183 = .ok (.iconst 1, 1) := by decide +kernel
theorem dX12_laysBreaths_184 : decode cX12_laysBreaths 184 = .ok (.iadd, 1) := by decide +kernel
theorem dX12_laysBreaths_185 : decode cX12_laysBreaths 185 = .ok (.putfield 555, 3) := by decide +kernel
theorem dX12_laysBreaths_188 : decode cX12_laysBreaths 188 = .ok (.iinc 5 1, 3) := by decide +kernel
theorem dX12_laysBreaths_191 : decode cX12_laysBreaths 191 = .ok (.goto (-138), 3) := by decide +kernel
theorem dX12_laysBreaths_194 : decode cX12_laysBreaths 194 = .ok (.return_, 1) := by decide +kernel
theorem dX12_seen_0 : decode cX12_seen 0 = .ok (.aload_n 0, 1) := by decide +kernel
theorem dX12_seen_1 : decode cX12_seen 1 = .ok (.aload_n 0, 1) := by decide +kernel
theorem dX12_seen_2 : decode cX12_seen 2 = .ok (.iload_n 1, 1) := by decide +kernel
theorem dX12_seen_3 : decode cX12_seen 3 = .ok (.iload_n 2, 1) := by decide +kernel
theorem dX12_seen_4 : decode cX12_seen 4 = .ok (.iload_n 3, 1) := by decide +kernel
theorem dX12_seen_5 : decode cX12_seen 5 = .ok (.invokevirtual 558, 3) := by decide +kernel
theorem dX12_seen_8 : decode cX12_seen 8 = .ok (.putfield 97, 3) := by decide +kernel
theorem dX12_seen_11 : decode cX12_seen 11 = .ok (.aload_n 0, 1) := by decide +kernel
theorem dX12_seen_12 : decode cX12_seen 12 = .ok (.getfield 97, 3) := by decide +kernel
theorem dX12_seen_15 : decode cX12_seen 15 = .ok (.ifCond .le 5, 3) := by decide +kernel
theorem dX12_seen_18 : decode cX12_seen 18 = .ok (.iconst 0, 1) := by decide +kernel
theorem dX12_seen_19 : decode cX12_seen 19 = .ok (.ireturn, 1) := by decide +kernel
theorem dX12_seen_20 : decode cX12_seen 20 = .ok (.aload_n 0, 1) := by decide +kernel
theorem dX12_seen_21 : decode cX12_seen 21 = .ok (.iload_n 1, 1) := by decide +kernel
theorem dX12_seen_22 : decode cX12_seen 22 = .ok (.iload_n 2, 1) := by decide +kernel
theorem dX12_seen_23 : decode cX12_seen 23 = .ok (.iload_n 3, 1) := by decide +kernel
theorem dX12_seen_24 : decode cX12_seen 24 = .ok (.invokevirtual 561, 3) := by decide +kernel
theorem dX12_seen_27 : decode cX12_seen 27 = .ok (.aload_n 0, 1) := by decide +kernel
theorem dX12_seen_28 : decode cX12_seen 28 = .ok (.getfield 555, 3) := by decide +kernel
theorem dX12_seen_31 : decode cX12_seen 31 = .ok (.ireturn, 1) := by decide +kernel
theorem dX12_breath_0 : decode cX12_breath 0 = .ok (.aload_n 0, 1) := by decide +kernel
theorem dX12_breath_1 : decode cX12_breath 1 = .ok (.aload_n 0, 1) := by decide +kernel
theorem dX12_breath_2 : decode cX12_breath 2 = .ok (.iload_n 1, 1) := by decide +kernel
theorem dX12_breath_3 : decode cX12_breath 3 = .ok (.iload_n 2, 1) := by decide +kernel
theorem dX12_breath_4 : decode cX12_breath 4 = .ok (.iload_n 3, 1) := by decide +kernel
theorem dX12_breath_5 : decode cX12_breath 5 = .ok (.invokevirtual 558, 3) := by decide +kernel
theorem dX12_breath_8 : decode cX12_breath 8 = .ok (.putfield 97, 3) := by decide +kernel
theorem dX12_breath_11 : decode cX12_breath 11 = .ok (.aload_n 0, 1) := by decide +kernel
theorem dX12_breath_12 : decode cX12_breath 12 = .ok (.getfield 97, 3) := by decide +kernel
theorem dX12_breath_15 : decode cX12_breath 15 = .ok (.ifCond .ne 13, 3) := by decide +kernel
theorem dX12_breath_18 : decode cX12_breath 18 = .ok (.iload 4, 2) := by decide +kernel
theorem dX12_breath_20 : decode cX12_breath 20 = .ok (.ifCond .ge 8, 3) := by decide +kernel
theorem dX12_breath_23 : decode cX12_breath 23 = .ok (.aload_n 0, 1) := by decide +kernel
theorem dX12_breath_24 : decode cX12_breath 24 = .ok (.iconst 3, 1) := by decide +kernel
theorem dX12_breath_25 : decode cX12_breath 25 = .ok (.putfield 97, 3) := by decide +kernel
theorem dX12_breath_28 : decode cX12_breath 28 = .ok (.aload_n 0, 1) := by decide +kernel
theorem dX12_breath_29 : decode cX12_breath 29 = .ok (.getfield 97, 3) := by decide +kernel
theorem dX12_breath_32 : decode cX12_breath 32 = .ok (.ifCond .le 5, 3) := by decide +kernel
theorem dX12_breath_35 : decode cX12_breath 35 = .ok (.iconst 0, 1) := by decide +kernel
theorem dX12_breath_36 : decode cX12_breath 36 = .ok (.ireturn, 1) := by decide +kernel
theorem dX12_breath_37 : decode cX12_breath 37 = .ok (.aload_n 0, 1) := by decide +kernel
theorem dX12_breath_38 : decode cX12_breath 38 = .ok (.iload_n 1, 1) := by decide +kernel
theorem dX12_breath_39 : decode cX12_breath 39 = .ok (.iload_n 2, 1) := by decide +kernel
theorem dX12_breath_40 : decode cX12_breath 40 = .ok (.iload_n 3, 1) := by decide +kernel
theorem dX12_breath_41 : decode cX12_breath 41 = .ok (.invokevirtual 561, 3) := by decide +kernel
theorem dX12_breath_44 : decode cX12_breath 44 = .ok (.iload 4, 2) := by decide +kernel
theorem dX12_breath_46 : decode cX12_breath 46 = .ok (.aload_n 0, 1) := by decide +kernel
theorem dX12_breath_47 : decode cX12_breath 47 = .ok (.getfield 555, 3) := by decide +kernel
theorem dX12_breath_50 : decode cX12_breath 50 = .ok (.if_icmp .ge 13, 3) := by decide +kernel
theorem dX12_breath_53 : decode cX12_breath 53 = .ok (.aload_n 0, 1) := by decide +kernel
theorem dX12_breath_54 : decode cX12_breath 54 = .ok (.getfield 82, 3) := by decide +kernel
theorem dX12_breath_57 : decode cX12_breath 57 = .ok (.iload 4, 2) := by decide +kernel
theorem dX12_breath_59 : decode cX12_breath 59 = .ok (.iaload, 1) := by decide +kernel
theorem dX12_breath_60 : decode cX12_breath 60 = .ok (.goto 5, 3) := by decide +kernel
theorem dX12_breath_63 : decode cX12_breath 63 = .ok (.bipush 99, 2) := by decide +kernel
theorem dX12_breath_65 : decode cX12_breath 65 = .ok (.ireturn, 1) := by decide +kernel
theorem dX12_mostLike_0 : decode cX12_mostLike 0 = .ok (.aload_n 0, 1) := by decide +kernel
theorem dX12_mostLike_1 : decode cX12_mostLike 1 = .ok (.iload_n 1, 1) := by decide +kernel
theorem dX12_mostLike_2 : decode cX12_mostLike 2 = .ok (.invokevirtual 354, 3) := by decide +kernel
theorem dX12_mostLike_5 : decode cX12_mostLike 5 = .ok (.istore_n 3, 1) := by decide +kernel
theorem dX12_mostLike_6 : decode cX12_mostLike 6 = .ok (.iconst 0, 1) := by decide +kernel
theorem dX12_mostLike_7 : decode cX12_mostLike 7 = .ok (.istore 4, 2) := by decide +kernel
theorem dX12_mostLike_9 : decode cX12_mostLike 9 = .ok (.iconst 0, 1) := by decide +kernel
theorem dX12_mostLike_10 : decode cX12_mostLike 10 = .ok (.istore 5, 2) := by decide +kernel
theorem dX12_mostLike_12 : decode cX12_mostLike 12 = .ok (.iload 5, 2) := by decide +kernel
theorem dX12_mostLike_14 : decode cX12_mostLike 14 = .ok (.sipush 793, 3) := by decide +kernel
theorem dX12_mostLike_17 : decode cX12_mostLike 17 = .ok (.if_icmp .ge 17, 3) := by decide +kernel
theorem dX12_mostLike_20 : decode cX12_mostLike 20 = .ok (.aload_n 0, 1) := by decide +kernel
theorem dX12_mostLike_21 : decode cX12_mostLike 21 = .ok (.getfield 85, 3) := by decide +kernel
theorem dX12_mostLike_24 : decode cX12_mostLike 24 = .ok (.iload 5, 2) := by decide +kernel
theorem dX12_mostLike_26 : decode cX12_mostLike 26 = .ok (.iconst 0, 1) := by decide +kernel
theorem dX12_mostLike_27 : decode cX12_mostLike 27 = .ok (.iastore, 1) := by decide +kernel
theorem dX12_mostLike_28 : decode cX12_mostLike 28 = .ok (.iinc 5 1, 3) := by decide +kernel
theorem dX12_mostLike_31 : decode cX12_mostLike 31 = .ok (.goto (-19), 3) := by decide +kernel
theorem dX12_mostLike_34 : decode cX12_mostLike 34 = .ok (.iconst 0, 1) := by decide +kernel
theorem dX12_mostLike_35 : decode cX12_mostLike 35 = .ok (.istore 5, 2) := by decide +kernel
theorem dX12_mostLike_37 : decode cX12_mostLike 37 = .ok (.iload 5, 2) := by decide +kernel
theorem dX12_mostLike_39 : decode cX12_mostLike 39 = .ok (.aload_n 0, 1) := by decide +kernel
theorem dX12_mostLike_40 : decode cX12_mostLike 40 = .ok (.getfield 555, 3) := by decide +kernel
theorem dX12_mostLike_43 : decode cX12_mostLike 43 = .ok (.if_icmp .ge 80, 3) := by decide +kernel
theorem dX12_mostLike_46 : decode cX12_mostLike 46 = .ok (.aload_n 0, 1) := by decide +kernel
theorem dX12_mostLike_47 : decode cX12_mostLike 47 = .ok (.aload_n 0, 1) := by decide +kernel
theorem dX12_mostLike_48 : decode cX12_mostLike 48 = .ok (.getfield 36, 3) := by decide +kernel
theorem dX12_mostLike_51 : decode cX12_mostLike 51 = .ok (.bipush 100, 2) := by decide +kernel
theorem dX12_mostLike_53 : decode cX12_mostLike 53 = .ok (.aload_n 0, 1) := by decide +kernel
theorem dX12_mostLike_54 : decode cX12_mostLike 54 = .ok (.getfield 9, 3) := by decide +kernel
theorem dX12_mostLike_57 : decode cX12_mostLike 57 = .ok (.bipush 54, 2) := by decide +kernel
theorem dX12_mostLike_59 : decode cX12_mostLike 59 = .ok (.iaload, 1) := by decide +kernel
theorem dX12_mostLike_60 : decode cX12_mostLike 60 = .ok (.iload_n 2, 1) := by decide +kernel
theorem dX12_mostLike_61 : decode cX12_mostLike 61 = .ok (.iadd, 1) := by decide +kernel
theorem dX12_mostLike_62 : decode cX12_mostLike 62 = .ok (.bipush 24, 2) := by decide +kernel
theorem dX12_mostLike_64 : decode cX12_mostLike 64 = .ok (.irem, 1) := by decide +kernel
theorem dX12_mostLike_65 : decode cX12_mostLike 65 = .ok (.imul, 1) := by decide +kernel
theorem dX12_mostLike_66 : decode cX12_mostLike 66 = .ok (.aload_n 0, 1) := by decide +kernel
theorem dX12_mostLike_67 : decode cX12_mostLike 67 = .ok (.getfield 39, 3) := by decide +kernel
theorem dX12_mostLike_70 : decode cX12_mostLike 70 = .ok (.iload_n 2, 1) := by decide +kernel
theorem dX12_mostLike_71 : decode cX12_mostLike 71 = .ok (.iaload, 1) := by decide +kernel
theorem dX12_mostLike_72 : decode cX12_mostLike 72 = .ok (.aload_n 0, 1) := by decide +kernel
theorem dX12_mostLike_73 : decode cX12_mostLike 73 = .ok (.getfield 82, 3) := by decide +kernel
theorem dX12_mostLike_76 : decode cX12_mostLike 76 = .ok (.iload 5, 2) := by decide +kernel
theorem dX12_mostLike_78 : decode cX12_mostLike 78 = .ok (.iaload, 1) := by decide +kernel
theorem dX12_mostLike_79 : decode cX12_mostLike 79 = .ok (.iadd, 1) := by decide +kernel
theorem dX12_mostLike_80 : decode cX12_mostLike 80 = .ok (.invokestatic 328, 3) := by decide +kernel
theorem dX12_mostLike_83 : decode cX12_mostLike 83 = .ok (.iadd, 1) := by decide +kernel
theorem dX12_mostLike_84 : decode cX12_mostLike 84 = .ok (.iaload, 1) := by decide +kernel
theorem dX12_mostLike_85 : decode cX12_mostLike 85 = .ok (.iload_n 3, 1) := by decide +kernel
theorem dX12_mostLike_86 : decode cX12_mostLike 86 = .ok (.iand, 1) := by decide +kernel
theorem dX12_mostLike_87 : decode cX12_mostLike 87 = .ok (.invokevirtual 357, 3) := by decide +kernel
theorem dX12_mostLike_90 : decode cX12_mostLike 90 = .ok (.istore 6, 2) := by decide +kernel
theorem dX12_mostLike_92 : decode cX12_mostLike 92 = .ok (.aload_n 0, 1) := by decide +kernel
theorem dX12_mostLike_93 : decode cX12_mostLike 93 = .ok (.getfield 85, 3) := by decide +kernel
theorem dX12_mostLike_96 : decode cX12_mostLike 96 = .ok (.iload 6, 2) := by decide +kernel
theorem dX12_mostLike_98 : decode cX12_mostLike 98 = .ok (.dup2, 1) := by decide +kernel
theorem dX12_mostLike_99 : decode cX12_mostLike 99 = .ok (.iaload, 1) := by decide +kernel
theorem dX12_mostLike_100 : decode cX12_mostLike 100 = .ok (.iconst 1, 1) := by decide +kernel
theorem dX12_mostLike_101 : decode cX12_mostLike 101 = .ok (.iadd, 1) := by decide +kernel
theorem dX12_mostLike_102 : decode cX12_mostLike 102 = .ok (.iastore, 1) := by decide +kernel
theorem dX12_mostLike_103 : decode cX12_mostLike 103 = .ok (.iload 4, 2) := by decide +kernel
theorem dX12_mostLike_105 : decode cX12_mostLike 105 = .ok (.aload_n 0, 1) := by decide +kernel
theorem dX12_mostLike_106 : decode cX12_mostLike 106 = .ok (.getfield 85, 3) := by decide +kernel
theorem dX12_mostLike_109 : decode cX12_mostLike 109 = .ok (.iload 6, 2) := by decide +kernel
theorem dX12_mostLike_111 : decode cX12_mostLike 111 = .ok (.iaload, 1) := by decide +kernel
theorem dX12_mostLike_112 : decode cX12_mostLike 112 = .ok (.invokestatic 322, 3) := by decide +kernel
theorem dX12_mostLike_115 : decode cX12_mostLike 115 = .ok (.istore 4, 2) := by decide +kernel
theorem dX12_mostLike_117 : decode cX12_mostLike 117 = .ok (.iinc 5 1, 3) := by decide +kernel
theorem dX12_mostLike_120 : decode cX12_mostLike 120 = .ok (.goto (-83), 3) := by decide +kernel
theorem dX12_mostLike_123 : decode cX12_mostLike 123 = .ok (.iload 4, 2) := by decide +kernel
theorem dX12_mostLike_125 : decode cX12_mostLike 125 = .ok (.ireturn, 1) := by decide +kernel
theorem dX12_look_0 : decode cX12_look 0 = .ok (.aload_n 0, 1) := by decide +kernel
theorem dX12_look_1 : decode cX12_look 1 = .ok (.aload_n 0, 1) := by decide +kernel
theorem dX12_look_2 : decode cX12_look 2 = .ok (.iload_n 1, 1) := by decide +kernel
theorem dX12_look_3 : decode cX12_look 3 = .ok (.iload_n 2, 1) := by decide +kernel
theorem dX12_look_4 : decode cX12_look 4 = .ok (.iload_n 3, 1) := by decide +kernel
theorem dX12_look_5 : decode cX12_look 5 = .ok (.invokevirtual 558, 3) := by decide +kernel
theorem dX12_look_8 : decode cX12_look 8 = .ok (.putfield 97, 3) := by decide +kernel
theorem dX12_look_11 : decode cX12_look 11 = .ok (.aload_n 0, 1) := by decide +kernel
theorem dX12_look_12 : decode cX12_look 12 = .ok (.getfield 97, 3) := by decide +kernel
theorem dX12_look_15 : decode cX12_look 15 = .ok (.ifCond .le 5, 3) := by decide +kernel
theorem dX12_look_18 : decode cX12_look 18 = .ok (.iconst 0, 1) := by decide +kernel
theorem dX12_look_19 : decode cX12_look 19 = .ok (.ireturn, 1) := by decide +kernel
theorem dX12_look_20 : decode cX12_look 20 = .ok (.aload_n 0, 1) := by decide +kernel
theorem dX12_look_21 : decode cX12_look 21 = .ok (.iload_n 1, 1) := by decide +kernel
theorem dX12_look_22 : decode cX12_look 22 = .ok (.iload_n 2, 1) := by decide +kernel
theorem dX12_look_23 : decode cX12_look 23 = .ok (.iload_n 3, 1) := by decide +kernel
theorem dX12_look_24 : decode cX12_look 24 = .ok (.invokevirtual 561, 3) := by decide +kernel
theorem dX12_look_27 : decode cX12_look 27 = .ok (.aload_n 0, 1) := by decide +kernel
theorem dX12_look_28 : decode cX12_look 28 = .ok (.iload_n 3, 1) := by decide +kernel
theorem dX12_look_29 : decode cX12_look 29 = .ok (.aload_n 0, 1) := by decide +kernel
theorem dX12_look_30 : decode cX12_look 30 = .ok (.getfield 9, 3) := by decide +kernel
theorem dX12_look_33 : decode cX12_look 33 = .ok (.bipush 54, 2) := by decide +kernel
theorem dX12_look_35 : decode cX12_look 35 = .ok (.iaload, 1) := by decide +kernel
theorem dX12_look_36 : decode cX12_look 36 = .ok (.bipush 25, 2) := by decide +kernel
theorem dX12_look_38 : decode cX12_look 38 = .ok (.invokevirtual 363, 3) := by decide +kernel
theorem dX12_look_41 : decode cX12_look 41 = .ok (.iconst (-1), 1) := by decide +kernel
theorem dX12_look_42 : decode cX12_look 42 = .ok (.istore 4, 2) := by decide +kernel
theorem dX12_look_44 : decode cX12_look 44 = .ok (.ldc_w 485, 3) := by decide +kernel
theorem dX12_look_47 : decode cX12_look 47 = .ok (.istore 5, 2) := by decide +kernel
theorem dX12_look_49 : decode cX12_look 49 = .ok (.iconst 0, 1) := by decide +kernel
theorem dX12_look_50 : decode cX12_look 50 = .ok (.istore 6, 2) := by decide +kernel
theorem dX12_look_52 : decode cX12_look 52 = .ok (.iload 6, 2) := by decide +kernel
theorem dX12_look_54 : decode cX12_look 54 = .ok (.bipush 24, 2) := by decide +kernel
theorem dX12_look_56 : decode cX12_look 56 = .ok (.if_icmp .gt 43, 3) := by decide +kernel
theorem dX12_look_59 : decode cX12_look 59 = .ok (.aload_n 0, 1) := by decide +kernel
theorem dX12_look_60 : decode cX12_look 60 = .ok (.getfield 555, 3) := by decide +kernel
theorem dX12_look_63 : decode cX12_look 63 = .ok (.ifCond .le 36, 3) := by decide +kernel
theorem dX12_look_66 : decode cX12_look 66 = .ok (.aload_n 0, 1) := by decide +kernel
theorem dX12_look_67 : decode cX12_look 67 = .ok (.iload_n 2, 1) := by decide +kernel
theorem dX12_look_68 : decode cX12_look 68 = .ok (.iload 6, 2) := by decide +kernel
theorem dX12_look_70 : decode cX12_look 70 = .ok (.invokevirtual 564, 3) := by decide +kernel
theorem dX12_look_73 : decode cX12_look 73 = .ok (.istore 7, 2) := by decide +kernel
theorem dX12_look_75 : decode cX12_look 75 = .ok (.iload 7, 2) := by decide +kernel
theorem dX12_look_77 : decode cX12_look 77 = .ok (.iload 5, 2) := by decide +kernel
theorem dX12_look_79 : decode cX12_look 79 = .ok (.if_icmp .lt 6, 3) := by decide +kernel
theorem dX12_look_82 : decode cX12_look 82 = .ok (.goto 11, 3) := by decide +kernel
theorem dX12_look_85 : decode cX12_look 85 = .ok (.iload 6, 2) := by decide +kernel
theorem dX12_look_87 : decode cX12_look 87 = .ok (.istore 4, 2) := by decide +kernel
theorem dX12_look_89 : decode cX12_look 89 = .ok (.iload 7, 2) := by decide +kernel
theorem dX12_look_91 : decode cX12_look 91 = .ok (.istore 5, 2) := by decide +kernel
theorem dX12_look_93 : decode cX12_look 93 = .ok (.iinc 6 1, 3) := by decide +kernel
theorem dX12_look_96 : decode cX12_look 96 = .ok (.goto (-44), 3) := by decide +kernel
theorem dX12_look_99 : decode cX12_look 99 = .ok (.iload 4, 2) := by decide +kernel
theorem dX12_look_101 : decode cX12_look 101 = .ok (.ireturn, 1) := by decide +kernel
theorem dX12_isTray_0 : decode cX12_isTray 0 = .ok (.iload_n 0, 1) := by decide +kernel
theorem dX12_isTray_1 : decode cX12_isTray 1 = .ok (.i2l, 1) := by decide +kernel
theorem dX12_isTray_2 : decode cX12_isTray 2 = .ok (.lconst 0, 1) := by decide +kernel
theorem dX12_isTray_3 : decode cX12_isTray 3 = .ok (.ldc2_w 456, 3) := by decide +kernel
theorem dX12_isTray_6 : decode cX12_isTray 6 = .ok (.invokestatic 158, 3) := by decide +kernel
theorem dX12_isTray_9 : decode cX12_isTray 9 = .ok (.ireturn, 1) := by decide +kernel
theorem dX12_tray_0 : decode cX12_tray 0 = .ok (.aload_n 0, 1) := by decide +kernel
theorem dX12_tray_1 : decode cX12_tray 1 = .ok (.iload_n 1, 1) := by decide +kernel
theorem dX12_tray_2 : decode cX12_tray 2 = .ok (.invokestatic 429, 3) := by decide +kernel
theorem dX12_tray_5 : decode cX12_tray 5 = .ok (.ifCond .ne 7, 3) := by decide +kernel
theorem dX12_tray_8 : decode cX12_tray 8 = .ok (.iconst 1, 1) := by decide +kernel
theorem dX12_tray_9 : decode cX12_tray 9 = .ok (.goto 32, 3) := by decide +kernel
theorem dX12_tray_12 : decode cX12_tray 12 = .ok (.iload_n 2, 1) := by decide +kernel
theorem dX12_tray_13 : decode cX12_tray 13 = .ok (.i2l, 1) := by decide +kernel
theorem dX12_tray_14 : decode cX12_tray 14 = .ok (.lconst 0, 1) := by decide +kernel
theorem dX12_tray_15 : decode cX12_tray 15 = .ok (.ldc2_w 456, 3) := by decide +kernel
theorem dX12_tray_18 : decode cX12_tray 18 = .ok (.invokestatic 158, 3) := by decide +kernel
theorem dX12_tray_21 : decode cX12_tray 21 = .ok (.ifCond .eq 15, 3) := by decide +kernel
theorem dX12_tray_24 : decode cX12_tray 24 = .ok (.iload_n 3, 1) := by decide +kernel
theorem dX12_tray_25 : decode cX12_tray 25 = .ok (.i2l, 1) := by decide +kernel
theorem dX12_tray_26 : decode cX12_tray 26 = .ok (.lconst 0, 1) := by decide +kernel
theorem dX12_tray_27 : decode cX12_tray 27 = .ok (.ldc2_w 474, 3) := by decide +kernel
theorem dX12_tray_30 : decode cX12_tray 30 = .ok (.invokestatic 158, 3) := by decide +kernel
theorem dX12_tray_33 : decode cX12_tray 33 = .ok (.ifCond .ne 7, 3) := by decide +kernel
theorem dX12_tray_36 : decode cX12_tray 36 = .ok (.iconst 2, 1) := by decide +kernel
theorem dX12_tray_37 : decode cX12_tray 37 = .ok (.goto 4, 3) := by decide +kernel
theorem dX12_tray_40 : decode cX12_tray 40 = .ok (.iconst 0, 1) := by decide +kernel
theorem dX12_tray_41 : decode cX12_tray 41 = .ok (.putfield 97, 3) := by decide +kernel
theorem dX12_tray_44 : decode cX12_tray 44 = .ok (.aload_n 0, 1) := by decide +kernel
theorem dX12_tray_45 : decode cX12_tray 45 = .ok (.getfield 97, 3) := by decide +kernel
theorem dX12_tray_48 : decode cX12_tray 48 = .ok (.ifCond .le 4, 3) := by decide +kernel
theorem dX12_tray_51 : decode cX12_tray 51 = .ok (.return_, 1) := by decide +kernel
theorem dX12_tray_52 : decode cX12_tray 52 = .ok (.aload_n 0, 1) := by decide +kernel
theorem dX12_tray_53 : decode cX12_tray 53 = .ok (.getfield 88, 3) := by decide +kernel
theorem dX12_tray_56 : decode cX12_tray 56 = .ok (.iload_n 1, 1) := by decide +kernel
theorem dX12_tray_57 : decode cX12_tray 57 = .ok (.iload_n 2, 1) := by decide +kernel
theorem dX12_tray_58 : decode cX12_tray 58 = .ok (.iastore, 1) := by decide +kernel
theorem dX12_tray_59 : decode cX12_tray 59 = .ok (.aload_n 0, 1) := by decide +kernel
theorem dX12_tray_60 : decode cX12_tray 60 = .ok (.getfield 91, 3) := by decide +kernel
theorem dX12_tray_63 : decode cX12_tray 63 = .ok (.iload_n 1, 1) := by decide +kernel
theorem dX12_tray_64 : decode cX12_tray 64 = .ok (.iload_n 3, 1) := by decide +kernel
theorem dX12_tray_65 : decode cX12_tray 65 = .ok (.iastore, 1) := by decide +kernel
theorem dX12_tray_66 : decode cX12_tray 66 = .ok (.iconst 0, 1) := by decide +kernel
theorem dX12_tray_67 : decode cX12_tray 67 = .ok (.istore 4, 2) := by decide +kernel
theorem dX12_tray_69 : decode cX12_tray 69 = .ok (.iload 4, 2) := by decide +kernel
theorem dX12_tray_71 : decode cX12_tray 71 = .ok (.bipush 30, 2) := by decide +kernel
theorem dX12_tray_73 : decode cX12_tray 73 = .ok (.if_icmp .ge 22, 3) := by decide +kernel
theorem dX12_tray_76 : decode cX12_tray 76 = .ok (.aload_n 0, 1) := by decide +kernel
theorem dX12_tray_77 : decode cX12_tray 77 = .ok (.getfield 94, 3) := by decide +kernel
theorem dX12_tray_80 : decode cX12_tray 80 = .ok (.bipush 30, 2) := by decide +kernel
theorem dX12_tray_82 : decode cX12_tray 82 = .ok (.iload_n 1, 1) := by decide +kernel
theorem dX12_tray_83 : decode cX12_tray 83 = .ok (.imul, 1) := by decide +kernel
theorem dX12_tray_84 : decode cX12_tray 84 = .ok (.iload 4, 2) := by decide +kernel
theorem dX12_tray_86 : decode cX12_tray 86 = .ok (.iadd, 1) := by decide +kernel
theorem dX12_tray_87 : decode cX12_tray 87 = .ok (.lconst 0, 1) := by decide +kernel
theorem dX12_tray_88 : decode cX12_tray 88 = .ok (.lastore, 1) := by decide +kernel
theorem dX12_tray_89 : decode cX12_tray 89 = .ok (.iinc 4 1, 3) := by decide +kernel
theorem dX12_tray_92 : decode cX12_tray 92 = .ok (.goto (-23), 3) := by decide +kernel
theorem dX12_tray_95 : decode cX12_tray 95 = .ok (.return_, 1) := by decide +kernel
theorem dX12_cut_0 : decode cX12_cut 0 = .ok (.bipush 64, 2) := by decide +kernel
theorem dX12_cut_2 : decode cX12_cut 2 = .ok (.bipush 8, 2) := by decide +kernel
theorem dX12_cut_4 : decode cX12_cut 4 = .ok (.aload_n 0, 1) := by decide +kernel
theorem dX12_cut_5 : decode cX12_cut 5 = .ok (.getfield 88, 3) := by decide +kernel
theorem dX12_cut_8 : decode cX12_cut 8 = .ok (.iload_n 1, 1) := by decide +kernel
theorem dX12_cut_9 : decode cX12_cut 9 = .ok (.iaload, 1) := by decide +kernel
theorem dX12_cut_10 : decode cX12_cut 10 = .ok (.ishl, 1) := by decide +kernel
theorem dX12_cut_11 : decode cX12_cut 11 = .ok (.isub, 1) := by decide +kernel
theorem dX12_cut_12 : decode cX12_cut 12 = .ok (.istore 5, 2) := by decide +kernel
theorem dX12_cut_14 : decode cX12_cut 14 = .ok (.aload_n 0, 1) := by decide +kernel
theorem dX12_cut_15 : decode cX12_cut 15 = .ok (.getfield 94, 3) := by decide +kernel
theorem dX12_cut_18 : decode cX12_cut 18 = .ok (.bipush 30, 2) := by decide +kernel
theorem dX12_cut_20 : decode cX12_cut 20 = .ok (.iload_n 1, 1) := by decide +kernel
theorem dX12_cut_21 : decode cX12_cut 21 = .ok (.imul, 1) := by decide +kernel
theorem dX12_cut_22 : decode cX12_cut 22 = .ok (.iload_n 2, 1) := by decide +kernel
theorem dX12_cut_23 : decode cX12_cut 23 = .ok (.iadd, 1) := by decide +kernel
theorem dX12_cut_24 : decode cX12_cut 24 = .ok (.lload_n 3, 1) := by decide +kernel
theorem dX12_cut_25 : decode cX12_cut 25 = .ok (.iload 5, 2) := by decide +kernel
theorem dX12_cut_27 : decode cX12_cut 27 = .ok (.lshl, 1) := by decide +kernel
theorem dX12_cut_28 : decode cX12_cut 28 = .ok (.iload 5, 2) := by decide +kernel
theorem dX12_cut_30 : decode cX12_cut 30 = .ok (.lshr, 1) := by decide +kernel
theorem dX12_cut_31 : decode cX12_cut 31 = .ok (.lastore, 1) := by decide +kernel
theorem dX12_cut_32 : decode cX12_cut 32 = .ok (.aload_n 0, 1) := by decide +kernel
theorem dX12_cut_33 : decode cX12_cut 33 = .ok (.getfield 94, 3) := by decide +kernel
theorem dX12_cut_36 : decode cX12_cut 36 = .ok (.bipush 30, 2) := by decide +kernel
theorem dX12_cut_38 : decode cX12_cut 38 = .ok (.iload_n 1, 1) := by decide +kernel
theorem dX12_cut_39 : decode cX12_cut 39 = .ok (.imul, 1) := by decide +kernel
theorem dX12_cut_40 : decode cX12_cut 40 = .ok (.iload_n 2, 1) := by decide +kernel
theorem dX12_cut_41 : decode cX12_cut 41 = .ok (.iadd, 1) := by decide +kernel
theorem dX12_cut_42 : decode cX12_cut 42 = .ok (.laload, 1) := by decide +kernel
theorem dX12_cut_43 : decode cX12_cut 43 = .ok (.lreturn, 1) := by decide +kernel
theorem dX12_write_0 : decode cX12_write 0 = .ok (.aload_n 0, 1) := by decide +kernel
theorem dX12_write_1 : decode cX12_write 1 = .ok (.aload_n 0, 1) := by decide +kernel
theorem dX12_write_2 : decode cX12_write 2 = .ok (.iload_n 1, 1) := by decide +kernel
theorem dX12_write_3 : decode cX12_write 3 = .ok (.invokevirtual 453, 3) := by decide +kernel
theorem dX12_write_6 : decode cX12_write 6 = .ok (.putfield 97, 3) := by decide +kernel
theorem dX12_write_9 : decode cX12_write 9 = .ok (.aload_n 0, 1) := by decide +kernel
theorem dX12_write_10 : decode cX12_write 10 = .ok (.getfield 97, 3) := by decide +kernel
theorem dX12_write_13 : decode cX12_write 13 = .ok (.ifCond .le 5, 3) := by decide +kernel
theorem dX12_write_16 : decode cX12_write 16 = .ok (.lconst 0, 1) := by decide +kernel
theorem dX12_write_17 : decode cX12_write 17 = .ok (.lreturn, 1) := by decide +kernel
theorem dX12_write_18 : decode cX12_write 18 = .ok (.iload_n 2, 1) := by decide +kernel
theorem dX12_write_19 : decode cX12_write 19 = .ok (.i2l, 1) := by decide +kernel
theorem dX12_write_20 : decode cX12_write 20 = .ok (.lconst 0, 1) := by decide +kernel
theorem dX12_write_21 : decode cX12_write 21 = .ok (.aload_n 0, 1) := by decide +kernel
theorem dX12_write_22 : decode cX12_write 22 = .ok (.getfield 91, 3) := by decide +kernel
theorem dX12_write_25 : decode cX12_write 25 = .ok (.iload_n 1, 1) := by decide +kernel
theorem dX12_write_26 : decode cX12_write 26 = .ok (.iaload, 1) := by decide +kernel
theorem dX12_write_27 : decode cX12_write 27 = .ok (.iconst 1, 1) := by decide +kernel
theorem dX12_write_28 : decode cX12_write 28 = .ok (.isub, 1) := by decide +kernel
theorem dX12_write_29 : decode cX12_write 29 = .ok (.i2l, 1) := by decide +kernel
theorem dX12_write_30 : decode cX12_write 30 = .ok (.invokestatic 158, 3) := by decide +kernel
theorem dX12_write_33 : decode cX12_write 33 = .ok (.ifCond .eq 13, 3) := by decide +kernel
theorem dX12_write_36 : decode cX12_write 36 = .ok (.aload_n 0, 1) := by decide +kernel
theorem dX12_write_37 : decode cX12_write 37 = .ok (.iload_n 1, 1) := by decide +kernel
theorem dX12_write_38 : decode cX12_write 38 = .ok (.iload_n 2, 1) := by decide +kernel
theorem dX12_write_39 : decode cX12_write 39 = .ok (.lload_n 3, 1) := by decide +kernel
theorem dX12_write_40 : decode cX12_write 40 = .ok (.invokevirtual 567, 3) := by decide +kernel
theorem dX12_write_43 : decode cX12_write 43 = .ok (.goto 9, 3) := by decide +kernel
theorem dX12_write_46 : decode cX12_write 46 = .ok (.aload_n 0, 1) := by decide +kernel
theorem dX12_write_47 : decode cX12_write 47 = .ok (.iconst 3, 1) := by decide +kernel
theorem dX12_write_48 : decode cX12_write 48 = .ok (.invokevirtual 282, 3) := by decide +kernel
theorem dX12_write_51 : decode cX12_write 51 = .ok (.i2l, 1) := by decide +kernel
theorem dX12_write_52 : decode cX12_write 52 = .ok (.lreturn, 1) := by decide +kernel
theorem dX12_copy_0 : decode cX12_copy 0 = .ok (.aload_n 0, 1) := by decide +kernel
theorem dX12_copy_1 : decode cX12_copy 1 = .ok (.iload_n 1, 1) := by decide +kernel
theorem dX12_copy_2 : decode cX12_copy 2 = .ok (.invokestatic 429, 3) := by decide +kernel
theorem dX12_copy_5 : decode cX12_copy 5 = .ok (.ifCond .eq 12, 3) := by decide +kernel
theorem dX12_copy_8 : decode cX12_copy 8 = .ok (.aload_n 0, 1) := by decide +kernel
theorem dX12_copy_9 : decode cX12_copy 9 = .ok (.iload_n 2, 1) := by decide +kernel
theorem dX12_copy_10 : decode cX12_copy 10 = .ok (.i2l, 1) := by decide +kernel
theorem dX12_copy_11 : decode cX12_copy 11 = .ok (.invokevirtual 371, 3) := by decide +kernel
theorem dX12_copy_14 : decode cX12_copy 14 = .ok (.ifCond .ne 7, 3) := by decide +kernel
theorem dX12_copy_17 : decode cX12_copy 17 = .ok (.iconst 1, 1) := by decide +kernel
theorem dX12_copy_18 : decode cX12_copy 18 = .ok (.goto 18, 3) := by decide +kernel
theorem dX12_copy_21 : decode cX12_copy 21 = .ok (.aload_n 0, 1) := by decide +kernel
theorem dX12_copy_22 : decode cX12_copy 22 = .ok (.getfield 88, 3) := by decide +kernel
theorem dX12_copy_25 : decode cX12_copy 25 = .ok (.iload_n 1, 1) := by decide +kernel
theorem dX12_copy_26 : decode cX12_copy 26 = .ok (.iaload, 1) := by decide +kernel
theorem dX12_copy_27 : decode cX12_copy 27 = .ok (.iconst (-1), 1) := by decide +kernel
theorem dX12_copy_28 : decode cX12_copy 28 = .ok (.if_icmp .ne 7, 3) := by decide +kernel
theorem dX12_copy_31 : decode cX12_copy 31 = .ok (.iconst 2, 1) := by decide +kernel
theorem dX12_copy_32 : decode cX12_copy 32 = .ok (.goto 4, 3) := by decide +kernel
theorem dX12_copy_35 : decode cX12_copy 35 = .ok (.iconst 0, 1) := by decide +kernel
theorem dX12_copy_36 : decode cX12_copy 36 = .ok (.putfield 97, 3) := by decide +kernel
theorem dX12_copy_39 : decode cX12_copy 39 = .ok (.aload_n 0, 1) := by decide +kernel
theorem dX12_copy_40 : decode cX12_copy 40 = .ok (.getfield 97, 3) := by decide +kernel
theorem dX12_copy_43 : decode cX12_copy 43 = .ok (.ifCond .le 5, 3) := by decide +kernel
theorem dX12_copy_46 : decode cX12_copy 46 = .ok (.iconst 0, 1) := by decide +kernel
theorem dX12_copy_47 : decode cX12_copy 47 = .ok (.ireturn, 1) := by decide +kernel
theorem dX12_copy_48 : decode cX12_copy 48 = .ok (.iconst 0, 1) := by decide +kernel
theorem dX12_copy_49 : decode cX12_copy 49 = .ok (.istore_n 3, 1) := by decide +kernel
theorem dX12_copy_50 : decode cX12_copy 50 = .ok (.iload_n 3, 1) := by decide +kernel
theorem dX12_copy_51 : decode cX12_copy 51 = .ok (.aload_n 0, 1) := by decide +kernel
theorem dX12_copy_52 : decode cX12_copy 52 = .ok (.getfield 91, 3) := by decide +kernel
theorem dX12_copy_55 : decode cX12_copy 55 = .ok (.iload_n 1, 1) := by decide +kernel
theorem dX12_copy_56 : decode cX12_copy 56 = .ok (.iaload, 1) := by decide +kernel
theorem dX12_copy_57 : decode cX12_copy 57 = .ok (.if_icmp .ge 31, 3) := by decide +kernel
theorem dX12_copy_60 : decode cX12_copy 60 = .ok (.aload_n 0, 1) := by decide +kernel
theorem dX12_copy_61 : decode cX12_copy 61 = .ok (.iload_n 1, 1) := by decide +kernel
theorem dX12_copy_62 : decode cX12_copy 62 = .ok (.iload_n 3, 1) := by decide +kernel
theorem dX12_copy_63 : decode cX12_copy 63 = .ok (.aload_n 0, 1) := by decide +kernel
theorem dX12_copy_64 : decode cX12_copy 64 = .ok (.iload_n 2, 1) := by decide +kernel
theorem dX12_copy_65 : decode cX12_copy 65 = .ok (.aload_n 0, 1) := by decide +kernel
theorem dX12_copy_66 : decode cX12_copy 66 = .ok (.getfield 9, 3) := by decide +kernel
theorem dX12_copy_69 : decode cX12_copy 69 = .ok (.bipush 54, 2) := by decide +kernel
theorem dX12_copy_71 : decode cX12_copy 71 = .ok (.iaload, 1) := by decide +kernel
theorem dX12_copy_72 : decode cX12_copy 72 = .ok (.iload_n 3, 1) := by decide +kernel
theorem dX12_copy_73 : decode cX12_copy 73 = .ok (.iadd, 1) := by decide +kernel
theorem dX12_copy_74 : decode cX12_copy 74 = .ok (.invokevirtual 344, 3) := by decide +kernel
theorem dX12_copy_77 : decode cX12_copy 77 = .ok (.i2l, 1) := by decide +kernel
theorem dX12_copy_78 : decode cX12_copy 78 = .ok (.invokevirtual 567, 3) := by decide +kernel
theorem dX12_copy_81 : decode cX12_copy 81 = .ok (.pop2, 1) := by decide +kernel
theorem dX12_copy_82 : decode cX12_copy 82 = .ok (.iinc 3 1, 3) := by decide +kernel
theorem dX12_copy_85 : decode cX12_copy 85 = .ok (.goto (-35), 3) := by decide +kernel
theorem dX12_copy_88 : decode cX12_copy 88 = .ok (.aload_n 0, 1) := by decide +kernel
theorem dX12_copy_89 : decode cX12_copy 89 = .ok (.getfield 91, 3) := by decide +kernel
theorem dX12_copy_92 : decode cX12_copy 92 = .ok (.iload_n 1, 1) := by decide +kernel
theorem dX12_copy_93 : decode cX12_copy 93 = .ok (.iaload, 1) := by decide +kernel
theorem dX12_copy_94 : decode cX12_copy 94 = .ok (.ireturn, 1) := by decide +kernel
theorem dX12_image_0 : decode cX12_image 0 = .ok (.aload_n 0, 1) := by decide +kernel
theorem dX12_image_1 : decode cX12_image 1 = .ok (.iload_n 1, 1) := by decide +kernel
theorem dX12_image_2 : decode cX12_image 2 = .ok (.i2l, 1) := by decide +kernel
theorem dX12_image_3 : decode cX12_image 3 = .ok (.lconst 0, 1) := by decide +kernel
theorem dX12_image_4 : decode cX12_image 4 = .ok (.ldc2_w 571, 3) := by decide +kernel
theorem dX12_image_7 : decode cX12_image 7 = .ok (.invokestatic 158, 3) := by decide +kernel
theorem dX12_image_10 : decode cX12_image 10 = .ok (.ifCond .eq 7, 3) := by decide +kernel
theorem dX12_image_13 : decode cX12_image 13 = .ok (.iconst 0, 1) := by decide +kernel
theorem dX12_image_14 : decode cX12_image 14 = .ok (.goto 4, 3) := by decide +kernel
theorem dX12_image_17 : decode cX12_image 17 = .ok (.iconst 1, 1) := by decide +kernel
theorem dX12_image_18 : decode cX12_image 18 = .ok (.putfield 97, 3) := by decide +kernel
theorem dX12_image_21 : decode cX12_image 21 = .ok (.aload_n 0, 1) := by decide +kernel
theorem dX12_image_22 : decode cX12_image 22 = .ok (.getfield 97, 3) := by decide +kernel
theorem dX12_image_25 : decode cX12_image 25 = .ok (.ifCond .le 4, 3) := by decide +kernel
theorem dX12_image_28 : decode cX12_image 28 = .ok (.return_, 1) := by decide +kernel
theorem dX12_image_29 : decode cX12_image 29 = .ok (.aload_n 0, 1) := by decide +kernel
theorem dX12_image_30 : decode cX12_image 30 = .ok (.getfield 19, 3) := by decide +kernel
theorem dX12_image_33 : decode cX12_image 33 = .ok (.iload_n 1, 1) := by decide +kernel
theorem dX12_image_34 : decode cX12_image 34 = .ok (.iconst 1, 1) := by decide +kernel
theorem dX12_image_35 : decode cX12_image 35 = .ok (.bastore, 1) := by decide +kernel
theorem dX12_image_36 : decode cX12_image 36 = .ok (.iconst 0, 1) := by decide +kernel
theorem dX12_image_37 : decode cX12_image 37 = .ok (.istore_n 2, 1) := by decide +kernel
theorem dX12_image_38 : decode cX12_image 38 = .ok (.iload_n 2, 1) := by decide +kernel
theorem dX12_image_39 : decode cX12_image 39 = .ok (.sipush 2380, 3) := by decide +kernel
theorem dX12_image_42 : decode cX12_image 42 = .ok (.if_icmp .ge 27, 3) := by decide +kernel
theorem dX12_image_45 : decode cX12_image 45 = .ok (.aload_n 0, 1) := by decide +kernel
theorem dX12_image_46 : decode cX12_image 46 = .ok (.getfield 16, 3) := by decide +kernel
theorem dX12_image_49 : decode cX12_image 49 = .ok (.sipush 2380, 3) := by decide +kernel
theorem dX12_image_52 : decode cX12_image 52 = .ok (.iload_n 1, 1) := by decide +kernel
theorem dX12_image_53 : decode cX12_image 53 = .ok (.imul, 1) := by decide +kernel
theorem dX12_image_54 : decode cX12_image 54 = .ok (.iload_n 2, 1) := by decide +kernel
theorem dX12_image_55 : decode cX12_image 55 = .ok (.iadd, 1) := by decide +kernel
theorem dX12_image_56 : decode cX12_image 56 = .ok (.aload_n 0, 1) := by decide +kernel
theorem dX12_image_57 : decode cX12_image 57 = .ok (.getfield 9, 3) := by decide +kernel
theorem dX12_image_60 : decode cX12_image 60 = .ok (.iload_n 2, 1) := by decide +kernel
theorem dX12_image_61 : decode cX12_image 61 = .ok (.iaload, 1) := by decide +kernel
theorem dX12_image_62 : decode cX12_image 62 = .ok (.iastore, 1) := by decide +kernel
theorem dX12_image_63 : decode cX12_image 63 = .ok (.iinc 2 1, 3) := by decide +kernel
theorem dX12_image_66 : decode cX12_image 66 = .ok (.goto (-28), 3) := by decide +kernel
theorem dX12_image_69 : decode cX12_image 69 = .ok (.return_, 1) := by decide +kernel
theorem dX12_restore_0 : decode cX12_restore 0 = .ok (.aload_n 0, 1) := by decide +kernel
theorem dX12_restore_1 : decode cX12_restore 1 = .ok (.iload_n 1, 1) := by decide +kernel
theorem dX12_restore_2 : decode cX12_restore 2 = .ok (.i2l, 1) := by decide +kernel
theorem dX12_restore_3 : decode cX12_restore 3 = .ok (.lconst 0, 1) := by decide +kernel
theorem dX12_restore_4 : decode cX12_restore 4 = .ok (.ldc2_w 571, 3) := by decide +kernel
theorem dX12_restore_7 : decode cX12_restore 7 = .ok (.invokestatic 158, 3) := by decide +kernel
theorem dX12_restore_10 : decode cX12_restore 10 = .ok (.ifCond .ne 7, 3) := by decide +kernel
theorem dX12_restore_13 : decode cX12_restore 13 = .ok (.iconst 1, 1) := by decide +kernel
theorem dX12_restore_14 : decode cX12_restore 14 = .ok (.goto 17, 3) := by decide +kernel
theorem dX12_restore_17 : decode cX12_restore 17 = .ok (.aload_n 0, 1) := by decide +kernel
theorem dX12_restore_18 : decode cX12_restore 18 = .ok (.getfield 19, 3) := by decide +kernel
theorem dX12_restore_21 : decode cX12_restore 21 = .ok (.iload_n 1, 1) := by decide +kernel
theorem dX12_restore_22 : decode cX12_restore 22 = .ok (.baload, 1) := by decide +kernel
theorem dX12_restore_23 : decode cX12_restore 23 = .ok (.ifCond .ne 7, 3) := by decide +kernel
theorem dX12_restore_26 : decode cX12_restore 26 = .ok (.iconst 2, 1) := by decide +kernel
theorem dX12_restore_27 : decode cX12_restore 27 = .ok (.goto 4, 3) := by decide +kernel
theorem dX12_restore_30 : decode cX12_restore 30 = .ok (.iconst 0, 1) := by decide +kernel
theorem dX12_restore_31 : decode cX12_restore 31 = .ok (.putfield 97, 3) := by decide +kernel
theorem dX12_restore_34 : decode cX12_restore 34 = .ok (.aload_n 0, 1) := by decide +kernel
theorem dX12_restore_35 : decode cX12_restore 35 = .ok (.getfield 97, 3) := by decide +kernel
theorem dX12_restore_38 : decode cX12_restore 38 = .ok (.ifCond .le 4, 3) := by decide +kernel
theorem dX12_restore_41 : decode cX12_restore 41 = .ok (.return_, 1) := by decide +kernel
theorem dX12_restore_42 : decode cX12_restore 42 = .ok (.iconst 0, 1) := by decide +kernel
theorem dX12_restore_43 : decode cX12_restore 43 = .ok (.istore_n 2, 1) := by decide +kernel
theorem dX12_restore_44 : decode cX12_restore 44 = .ok (.iload_n 2, 1) := by decide +kernel
theorem dX12_restore_45 : decode cX12_restore 45 = .ok (.sipush 2380, 3) := by decide +kernel
theorem dX12_restore_48 : decode cX12_restore 48 = .ok (.if_icmp .ge 27, 3) := by decide +kernel
theorem dX12_restore_51 : decode cX12_restore 51 = .ok (.aload_n 0, 1) := by decide +kernel
theorem dX12_restore_52 : decode cX12_restore 52 = .ok (.getfield 9, 3) := by decide +kernel
theorem dX12_restore_55 : decode cX12_restore 55 = .ok (.iload_n 2, 1) := by decide +kernel
theorem dX12_restore_56 : decode cX12_restore 56 = .ok (.aload_n 0, 1) := by decide +kernel
theorem dX12_restore_57 : decode cX12_restore 57 = .ok (.getfield 16, 3) := by decide +kernel
theorem dX12_restore_60 : decode cX12_restore 60 = .ok (.sipush 2380, 3) := by decide +kernel
theorem dX12_restore_63 : decode cX12_restore 63 = .ok (.iload_n 1, 1) := by decide +kernel
theorem dX12_restore_64 : decode cX12_restore 64 = .ok (.imul, 1) := by decide +kernel
theorem dX12_restore_65 : decode cX12_restore 65 = .ok (.iload_n 2, 1) := by decide +kernel
theorem dX12_restore_66 : decode cX12_restore 66 = .ok (.iadd, 1) := by decide +kernel
theorem dX12_restore_67 : decode cX12_restore 67 = .ok (.iaload, 1) := by decide +kernel
theorem dX12_restore_68 : decode cX12_restore 68 = .ok (.iastore, 1) := by decide +kernel
theorem dX12_restore_69 : decode cX12_restore 69 = .ok (.iinc 2 1, 3) := by decide +kernel
theorem dX12_restore_72 : decode cX12_restore 72 = .ok (.goto (-28), 3) := by decide +kernel
theorem dX12_restore_75 : decode cX12_restore 75 = .ok (.return_, 1) := by decide +kernel
theorem dX12_count_0 : decode cX12_count 0 = .ok (.aload_n 0, 1) := by decide +kernel
theorem dX12_count_1 : decode cX12_count 1 = .ok (.iconst 0, 1) := by decide +kernel
theorem dX12_count_2 : decode cX12_count 2 = .ok (.putfield 97, 3) := by decide +kernel
theorem dX12_count_5 : decode cX12_count 5 = .ok (.iload_n 1, 1) := by decide +kernel
theorem dX12_count_6 : decode cX12_count 6 = .ok (.tableswitch 111 0 8 #[50, 57, 62, 67, 75, 83, 91, 99, 106], 50) := by decide +kernel
theorem dX12_count_56 : decode cX12_count 56 = .ok (.aload_n 0, 1) := by decide +kernel
theorem dX12_count_57 : decode cX12_count 57 = .ok (.getfield 9, 3) := by decide +kernel
theorem dX12_count_60 : decode cX12_count 60 = .ok (.iconst 0, 1) := by decide +kernel
theorem dX12_count_61 : decode cX12_count 61 = .ok (.iaload, 1) := by decide +kernel
theorem dX12_count_62 : decode cX12_count 62 = .ok (.ireturn, 1) := by decide +kernel
theorem dX12_count_63 : decode cX12_count 63 = .ok (.aload_n 0, 1) := by decide +kernel
theorem dX12_count_64 : decode cX12_count 64 = .ok (.invokevirtual 291, 3) := by decide +kernel
theorem dX12_count_67 : decode cX12_count 67 = .ok (.ireturn, 1) := by decide +kernel
theorem dX12_count_68 : decode cX12_count 68 = .ok (.aload_n 0, 1) := by decide +kernel
theorem dX12_count_69 : decode cX12_count 69 = .ok (.invokevirtual 294, 3) := by decide +kernel
theorem dX12_count_72 : decode cX12_count 72 = .ok (.ireturn, 1) := by decide +kernel
theorem dX12_count_73 : decode cX12_count 73 = .ok (.aload_n 0, 1) := by decide +kernel
theorem dX12_count_74 : decode cX12_count 74 = .ok (.invokevirtual 347, 3) := by decide +kernel
theorem dX12_count_77 : decode cX12_count 77 = .ok (.invokestatic 421, 3) := by decide +kernel
theorem dX12_count_80 : decode cX12_count 80 = .ok (.ireturn, 1) := by decide +kernel
theorem dX12_count_81 : decode cX12_count 81 = .ok (.aload_n 0, 1) := by decide +kernel
theorem dX12_count_82 : decode cX12_count 82 = .ok (.getfield 9, 3) := by decide +kernel
theorem dX12_count_85 : decode cX12_count 85 = .ok (.bipush 54, 2) := by decide +kernel
theorem dX12_count_87 : decode cX12_count 87 = .ok (.iaload, 1) := by decide +kernel
theorem dX12_count_88 : decode cX12_count 88 = .ok (.ireturn, 1) := by decide +kernel
theorem dX12_count_89 : decode cX12_count 89 = .ok (.aload_n 0, 1) := by decide +kernel
theorem dX12_count_90 : decode cX12_count 90 = .ok (.getfield 9, 3) := by decide +kernel
theorem dX12_count_93 : decode cX12_count 93 = .ok (.bipush 55, 2) := by decide +kernel
theorem dX12_count_95 : decode cX12_count 95 = .ok (.iaload, 1) := by decide +kernel
theorem dX12_count_96 : decode cX12_count 96 = .ok (.ireturn, 1) := by decide +kernel
theorem dX12_count_97 : decode cX12_count 97 = .ok (.aload_n 0, 1) := by decide +kernel
theorem dX12_count_98 : decode cX12_count 98 = .ok (.getfield 9, 3) := by decide +kernel
theorem dX12_count_101 : decode cX12_count 101 = .ok (.bipush 6, 2) := by decide +kernel
theorem dX12_count_103 : decode cX12_count 103 = .ok (.iaload, 1) := by decide +kernel
theorem dX12_count_104 : decode cX12_count 104 = .ok (.ireturn, 1) := by decide +kernel
theorem dX12_count_105 : decode cX12_count 105 = .ok (.aload_n 0, 1) := by decide +kernel
theorem dX12_count_106 : decode cX12_count 106 = .ok (.getfield 9, 3) := by decide +kernel
theorem dX12_count_109 : decode cX12_count 109 = .ok (.iconst 5, 1) := by decide +kernel
theorem dX12_count_110 : decode cX12_count 110 = .ok (.iaload, 1) := by decide +kernel
theorem dX12_count_111 : decode cX12_count 111 = .ok (.ireturn, 1) := by decide +kernel
theorem dX12_count_112 : decode cX12_count 112 = .ok (.aload_n 0, 1) := by decide +kernel
theorem dX12_count_113 : decode cX12_count 113 = .ok (.getfield 100, 3) := by decide +kernel
theorem dX12_count_116 : decode cX12_count 116 = .ok (.ireturn, 1) := by decide +kernel
theorem dX12_count_117 : decode cX12_count 117 = .ok (.iconst (-1), 1) := by decide +kernel
theorem dX12_count_118 : decode cX12_count 118 = .ok (.ireturn, 1) := by decide +kernel
