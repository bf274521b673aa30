/-! what stands at each place of the code -/
theorem dX6_init_0 : decode cX6_init 0 = .ok (.aload_n 0, 1) := by decide +kernel
theorem dX6_init_1 : decode cX6_init 1 = .ok (.invokespecial 5, 3) := by decide +kernel
theorem dX6_init_4 : decode cX6_init 4 = .ok (.aload_n 0, 1) := by decide +kernel
theorem dX6_init_5 : decode cX6_init 5 = .ok (.sipush 900, 3) := by decide +kernel
theorem dX6_init_8 : decode cX6_init 8 = .ok (.newarray .byte, 2) := by decide +kernel
theorem dX6_init_10 : decode cX6_init 10 = .ok (.putfield 11, 3) := by decide +kernel
theorem dX6_init_13 : decode cX6_init 13 = .ok (.aload_n 0, 1) := by decide +kernel
theorem dX6_init_14 : decode cX6_init 14 = .ok (.iconst 0, 1) := by decide +kernel
theorem dX6_init_15 : decode cX6_init 15 = .ok (.putfield 15, 3) := by decide +kernel
theorem dX6_init_18 : decode cX6_init 18 = .ok (.aload_n 0, 1) := by decide +kernel
theorem dX6_init_19 : decode cX6_init 19 = .ok (.iconst 0, 1) := by decide +kernel
theorem dX6_init_20 : decode cX6_init 20 = .ok (.putfield 19, 3) := by decide +kernel
theorem dX6_init_23 : decode cX6_init 23 = .ok (.aload_n 0, 1) := by decide +kernel
theorem dX6_init_24 : decode cX6_init 24 = .ok (.iconst 0, 1) := by decide +kernel
theorem dX6_init_25 : decode cX6_init 25 = .ok (.putfield 22, 3) := by decide +kernel
theorem dX6_init_28 : decode cX6_init 28 = .ok (.aload_n 0, 1) := by decide +kernel
theorem dX6_init_29 : decode cX6_init 29 = .ok (.sipush 257, 3) := by decide +kernel
theorem dX6_init_32 : decode cX6_init 32 = .ok (.putfield 25, 3) := by decide +kernel
theorem dX6_init_35 : decode cX6_init 35 = .ok (.aload_n 0, 1) := by decide +kernel
theorem dX6_init_36 : decode cX6_init 36 = .ok (.iconst 0, 1) := by decide +kernel
theorem dX6_init_37 : decode cX6_init 37 = .ok (.putfield 28, 3) := by decide +kernel
theorem dX6_init_40 : decode cX6_init 40 = .ok (.aload_n 0, 1) := by decide +kernel
theorem dX6_init_41 : decode cX6_init 41 = .ok (.iconst 0, 1) := by decide +kernel
theorem dX6_init_42 : decode cX6_init 42 = .ok (.putfield 31, 3) := by decide +kernel
theorem dX6_init_45 : decode cX6_init 45 = .ok (.aload_n 0, 1) := by decide +kernel
theorem dX6_init_46 : decode cX6_init 46 = .ok (.new 34, 3) := by decide +kernel
theorem dX6_init_49 : decode cX6_init 49 = .ok (.dup, 1) := by decide +kernel
theorem dX6_init_50 : decode cX6_init 50 = .ok (.invokespecial 36, 3) := by decide +kernel
theorem dX6_init_53 : decode cX6_init 53 = .ok (.putfield 37, 3) := by decide +kernel
theorem dX6_init_56 : decode cX6_init 56 = .ok (.aload_n 0, 1) := by decide +kernel
theorem dX6_init_57 : decode cX6_init 57 = .ok (.iconst 0, 1) := by decide +kernel
theorem dX6_init_58 : decode cX6_init 58 = .ok (.putfield 41, 3) := by decide +kernel
theorem dX6_init_61 : decode cX6_init 61 = .ok (.aload_n 0, 1) := by decide +kernel
theorem dX6_init_62 : decode cX6_init 62 = .ok (.sipush 900, 3) := by decide +kernel
theorem dX6_init_65 : decode cX6_init 65 = .ok (.newarray .int, 2) := by decide +kernel
theorem dX6_init_67 : decode cX6_init 67 = .ok (.putfield 45, 3) := by decide +kernel
theorem dX6_init_70 : decode cX6_init 70 = .ok (.aload_n 0, 1) := by decide +kernel
theorem dX6_init_71 : decode cX6_init 71 = .ok (.iconst 0, 1) := by decide +kernel
theorem dX6_init_72 : decode cX6_init 72 = .ok (.putfield 49, 3) := by decide +kernel
theorem dX6_init_75 : decode cX6_init 75 = .ok (.aload_n 0, 1) := by decide +kernel
theorem dX6_init_76 : decode cX6_init 76 = .ok (.iconst 0, 1) := by decide +kernel
theorem dX6_init_77 : decode cX6_init 77 = .ok (.putfield 52, 3) := by decide +kernel
theorem dX6_init_80 : decode cX6_init 80 = .ok (.aload_n 0, 1) := by decide +kernel
theorem dX6_init_81 : decode cX6_init 81 = .ok (.iconst (-1), 1) := by decide +kernel
theorem dX6_init_82 : decode cX6_init 82 = .ok (.putfield 55, 3) := by decide +kernel
theorem dX6_init_85 : decode cX6_init 85 = .ok (.return_, 1) := by decide +kernel
theorem dX6_append_0 : decode cX6_append 0 = .ok (.bipush 24, 2) := by decide +kernel
theorem dX6_append_2 : decode cX6_append 2 = .ok (.istore_n 2, 1) := by decide +kernel
theorem dX6_append_3 : decode cX6_append 3 = .ok (.iload_n 2, 1) := by decide +kernel
theorem dX6_append_4 : decode cX6_append 4 = .ok (.ifCond .lt 44, 3) := by decide +kernel
theorem dX6_append_7 : decode cX6_append 7 = .ok (.aload_n 0, 1) := by decide +kernel
theorem dX6_append_8 : decode cX6_append 8 = .ok (.getfield 15, 3) := by decide +kernel
theorem dX6_append_11 : decode cX6_append 11 = .ok (.aload_n 0, 1) := by decide +kernel
theorem dX6_append_12 : decode cX6_append 12 = .ok (.getfield 11, 3) := by decide +kernel
theorem dX6_append_15 : decode cX6_append 15 = .ok (.arraylength, 1) := by decide +kernel
theorem dX6_append_16 : decode cX6_append 16 = .ok (.if_icmp .ge 32, 3) := by decide +kernel
theorem dX6_append_19 : decode cX6_append 19 = .ok (.aload_n 0, 1) := by decide +kernel
theorem dX6_append_20 : decode cX6_append 20 = .ok (.getfield 11, 3) := by decide +kernel
theorem dX6_append_23 : decode cX6_append 23 = .ok (.aload_n 0, 1) := by decide +kernel
theorem dX6_append_24 : decode cX6_append 24 = .ok (.getfield 15, 3) := by decide +kernel
theorem dX6_append_27 : decode cX6_append 27 = .ok (.iload_n 1, 1) := by decide +kernel
theorem dX6_append_28 : decode cX6_append 28 = .ok (.iload_n 2, 1) := by decide +kernel
theorem dX6_append_29 : decode cX6_append 29 = .ok (.ishr, 1) := by decide +kernel
theorem dX6_append_30 : decode cX6_append 30 = .ok (.i2b, 1) := by decide +kernel
theorem dX6_append_31 : decode cX6_append 31 = .ok (.bastore, 1) := by decide +kernel
theorem dX6_append_32 : decode cX6_append 32 = .ok (.aload_n 0, 1) := by decide +kernel
theorem dX6_append_33 : decode cX6_append 33 = .ok (.dup, 1) := by decide +kernel
theorem dX6_append_34 : decode cX6_append 34 = .ok (.getfield 15, 3) := by decide +kernel
theorem dX6_append_37 : decode cX6_append 37 = .ok (.iconst 1, 1) := by decide +kernel
theorem dX6_append_38 : decode cX6_append 38 = .ok (.iadd, 1) := by decide +kernel
theorem dX6_append_39 : decode cX6_append 39 = .ok (.putfield 15, 3) := by decide +kernel
theorem dX6_append_42 : decode cX6_append 42 = .ok (.iinc 2 (-8), 3) := by decide +kernel
theorem dX6_append_45 : decode cX6_append 45 = .ok (.goto (-42), 3) := by decide +kernel
theorem dX6_append_48 : decode cX6_append 48 = .ok (.return_, 1) := by decide +kernel
theorem dX6_readLand_0 : decode cX6_readLand 0 = .ok (.aload_n 0, 1) := by decide +kernel
theorem dX6_readLand_1 : decode cX6_readLand 1 = .ok (.new 34, 3) := by decide +kernel
theorem dX6_readLand_4 : decode cX6_readLand 4 = .ok (.dup, 1) := by decide +kernel
theorem dX6_readLand_5 : decode cX6_readLand 5 = .ok (.invokespecial 36, 3) := by decide +kernel
theorem dX6_readLand_8 : decode cX6_readLand 8 = .ok (.putfield 37, 3) := by decide +kernel
theorem dX6_readLand_11 : decode cX6_readLand 11 = .ok (.aload_n 0, 1) := by decide +kernel
theorem dX6_readLand_12 : decode cX6_readLand 12 = .ok (.iload_n 1, 1) := by decide +kernel
theorem dX6_readLand_13 : decode cX6_readLand 13 = .ok (.aload_n 0, 1) := by decide +kernel
theorem dX6_readLand_14 : decode cX6_readLand 14 = .ok (.getfield 11, 3) := by decide +kernel
theorem dX6_readLand_17 : decode cX6_readLand 17 = .ok (.arraylength, 1) := by decide +kernel
theorem dX6_readLand_18 : decode cX6_readLand 18 = .ok (.invokestatic 58, 3) := by decide +kernel
theorem dX6_readLand_21 : decode cX6_readLand 21 = .ok (.putfield 19, 3) := by decide +kernel
theorem dX6_readLand_24 : decode cX6_readLand 24 = .ok (.aload_n 0, 1) := by decide +kernel
theorem dX6_readLand_25 : decode cX6_readLand 25 = .ok (.iconst 0, 1) := by decide +kernel
theorem dX6_readLand_26 : decode cX6_readLand 26 = .ok (.putfield 22, 3) := by decide +kernel
theorem dX6_readLand_29 : decode cX6_readLand 29 = .ok (.aload_n 0, 1) := by decide +kernel
theorem dX6_readLand_30 : decode cX6_readLand 30 = .ok (.iconst 0, 1) := by decide +kernel
theorem dX6_readLand_31 : decode cX6_readLand 31 = .ok (.putfield 52, 3) := by decide +kernel
theorem dX6_readLand_34 : decode cX6_readLand 34 = .ok (.aload_n 0, 1) := by decide +kernel
theorem dX6_readLand_35 : decode cX6_readLand 35 = .ok (.iconst (-1), 1) := by decide +kernel
theorem dX6_readLand_36 : decode cX6_readLand 36 = .ok (.putfield 55, 3) := by decide +kernel
theorem dX6_readLand_39 : decode cX6_readLand 39 = .ok (.aload_n 0, 1) := by decide +kernel
theorem dX6_readLand_40 : decode cX6_readLand 40 = .ok (.invokevirtual 64, 3) := by decide +kernel
theorem dX6_readLand_43 : decode cX6_readLand 43 = .ok (.iconst 0, 1) := by decide +kernel
theorem dX6_readLand_44 : decode cX6_readLand 44 = .ok (.istore_n 2, 1) := by decide +kernel
theorem dX6_readLand_45 : decode cX6_readLand 45 = .ok (.iload_n 2, 1) := by decide +kernel
theorem dX6_readLand_46 : decode cX6_readLand 46 = .ok (.sipush 900, 3) := by decide +kernel
theorem dX6_readLand_49 : decode cX6_readLand 49 = .ok (.if_icmp .gt 223, 3) := by decide +kernel
theorem dX6_readLand_52 : decode cX6_readLand 52 = .ok (.aload_n 0, 1) := by decide +kernel
theorem dX6_readLand_53 : decode cX6_readLand 53 = .ok (.getfield 52, 3) := by decide +kernel
theorem dX6_readLand_56 : decode cX6_readLand 56 = .ok (.ifCond .ne 216, 3) := by decide +kernel
theorem dX6_readLand_59 : decode cX6_readLand 59 = .ok (.aload_n 0, 1) := by decide +kernel
theorem dX6_readLand_60 : decode cX6_readLand 60 = .ok (.getfield 25, 3) := by decide +kernel
theorem dX6_readLand_63 : decode cX6_readLand 63 = .ok (.sipush 257, 3) := by decide +kernel
theorem dX6_readLand_66 : decode cX6_readLand 66 = .ok (.if_icmp .eq 206, 3) := by decide +kernel
theorem dX6_readLand_69 : decode cX6_readLand 69 = .ok (.aload_n 0, 1) := by decide +kernel
theorem dX6_readLand_70 : decode cX6_readLand 70 = .ok (.getfield 25, 3) := by decide +kernel
theorem dX6_readLand_73 : decode cX6_readLand 73 = .ok (.tableswitch 170 300 306 #[43, 50, 57, 88, 119, 119, 148], 43) := by decide +kernel
theorem dX6_readLand_116 : decode cX6_readLand 116 = .ok (.aload_n 0, 1) := by decide +kernel
theorem dX6_readLand_117 : decode cX6_readLand 117 = .ok (.invokevirtual 67, 3) := by decide +kernel
theorem dX6_readLand_120 : decode cX6_readLand 120 = .ok (.goto 127, 3) := by decide +kernel
theorem dX6_readLand_123 : decode cX6_readLand 123 = .ok (.aload_n 0, 1) := by decide +kernel
theorem dX6_readLand_124 : decode cX6_readLand 124 = .ok (.invokevirtual 70, 3) := by decide +kernel
theorem dX6_readLand_127 : decode cX6_readLand 127 = .ok (.goto 120, 3) := by decide +kernel
theorem dX6_readLand_130 : decode cX6_readLand 130 = .ok (.aload_n 0, 1) := by decide +kernel
theorem dX6_readLand_131 : decode cX6_readLand 131 = .ok (.iconst 0, 1) := by decide +kernel
theorem dX6_readLand_132 : decode cX6_readLand 132 = .ok (.invokevirtual 73, 3) := by decide +kernel
theorem dX6_readLand_135 : decode cX6_readLand 135 = .ok (.aload_n 0, 1) := by decide +kernel
theorem dX6_readLand_136 : decode cX6_readLand 136 = .ok (.iconst 0, 1) := by decide +kernel
theorem dX6_readLand_137 : decode cX6_readLand 137 = .ok (.invokevirtual 77, 3) := by decide +kernel
theorem dX6_readLand_140 : decode cX6_readLand 140 = .ok (.aload_n 0, 1) := by decide +kernel
theorem dX6_readLand_141 : decode cX6_readLand 141 = .ok (.getfield 37, 3) := by decide +kernel
theorem dX6_readLand_144 : decode cX6_readLand 144 = .ok (.aload_n 0, 1) := by decide +kernel
theorem dX6_readLand_145 : decode cX6_readLand 145 = .ok (.getfield 45, 3) := by decide +kernel
theorem dX6_readLand_148 : decode cX6_readLand 148 = .ok (.aload_n 0, 1) := by decide +kernel
theorem dX6_readLand_149 : decode cX6_readLand 149 = .ok (.getfield 49, 3) := by decide +kernel
theorem dX6_readLand_152 : decode cX6_readLand 152 = .ok (.invokestatic 81, 3) := by decide +kernel
theorem dX6_readLand_155 : decode cX6_readLand 155 = .ok (.putfield 87, 3) := by decide +kernel
theorem dX6_readLand_158 : decode cX6_readLand 158 = .ok (.goto 89, 3) := by decide +kernel
theorem dX6_readLand_161 : decode cX6_readLand 161 = .ok (.aload_n 0, 1) := by decide +kernel
theorem dX6_readLand_162 : decode cX6_readLand 162 = .ok (.iconst 1, 1) := by decide +kernel
theorem dX6_readLand_163 : decode cX6_readLand 163 = .ok (.invokevirtual 73, 3) := by decide +kernel
theorem dX6_readLand_166 : decode cX6_readLand 166 = .ok (.aload_n 0, 1) := by decide +kernel
theorem dX6_readLand_167 : decode cX6_readLand 167 = .ok (.iconst 0, 1) := by decide +kernel
theorem dX6_readLand_168 : decode cX6_readLand 168 = .ok (.invokevirtual 90, 3) := by decide +kernel
theorem dX6_readLand_171 : decode cX6_readLand 171 = .ok (.aload_n 0, 1) := by decide +kernel
theorem dX6_readLand_172 : decode cX6_readLand 172 = .ok (.getfield 37, 3) := by decide +kernel
theorem dX6_readLand_175 : decode cX6_readLand 175 = .ok (.aload_n 0, 1) := by decide +kernel
theorem dX6_readLand_176 : decode cX6_readLand 176 = .ok (.getfield 45, 3) := by decide +kernel
theorem dX6_readLand_179 : decode cX6_readLand 179 = .ok (.aload_n 0, 1) := by decide +kernel
theorem dX6_readLand_180 : decode cX6_readLand 180 = .ok (.getfield 49, 3) := by decide +kernel
theorem dX6_readLand_183 : decode cX6_readLand 183 = .ok (.invokestatic 81, 3) := by decide +kernel
theorem dX6_readLand_186 : decode cX6_readLand 186 = .ok (.putfield 93, 3) := by decide +kernel
theorem dX6_readLand_189 : decode cX6_readLand 189 = .ok (.goto 58, 3) := by decide +kernel
theorem dX6_readLand_192 : decode cX6_readLand 192 = .ok (.aload_n 0, 1) := by decide +kernel
theorem dX6_readLand_193 : decode cX6_readLand 193 = .ok (.getfield 37, 3) := by decide +kernel
theorem dX6_readLand_196 : decode cX6_readLand 196 = .ok (.aload_n 0, 1) := by decide +kernel
theorem dX6_readLand_197 : decode cX6_readLand 197 = .ok (.getfield 25, 3) := by decide +kernel
theorem dX6_readLand_200 : decode cX6_readLand 200 = .ok (.sipush 304, 3) := by decide +kernel
theorem dX6_readLand_203 : decode cX6_readLand 203 = .ok (.if_icmp .ne 7, 3) := by decide +kernel
theorem dX6_readLand_206 : decode cX6_readLand 206 = .ok (.iconst 1, 1) := by decide +kernel
theorem dX6_readLand_207 : decode cX6_readLand 207 = .ok (.goto 4, 3) := by decide +kernel
theorem dX6_readLand_210 : decode cX6_readLand 210 = .ok (.iconst 0, 1) := by decide +kernel
theorem dX6_readLand_211 : decode cX6_readLand 211 = .ok (.putfield 96, 3) := by decide +kernel
theorem dX6_readLand_214 : decode cX6_readLand 214 = .ok (.aload_n 0, 1) := by decide +kernel
theorem dX6_readLand_215 : decode cX6_readLand 215 = .ok (.invokevirtual 64, 3) := by decide +kernel
theorem dX6_readLand_218 : decode cX6_readLand 218 = .ok (.goto 29, 3) := by decide +kernel
theorem dX6_readLand_221 : decode cX6_readLand 221 = .ok (.aload_n 0, 1) := by decide +kernel
theorem dX6_readLand_222 : decode cX6_readLand 222 = .ok (.invokevirtual 64, 3) := by decide +kernel
theorem dX6_readLand_225 : decode cX6_readLand 225 = .ok (.aload_n 0, 1) := by decide +kernel
theorem dX6_readLand_226 : decode cX6_readLand 226 = .ok (.getfield 37, 3) := by decide +kernel
theorem dX6_readLand_229 : decode cX6_readLand 229 = .ok (.aload_n 0, 1) := by decide +kernel
theorem dX6_readLand_230 : decode cX6_readLand 230 = .ok (.iconst 0, 1) := by decide +kernel
theorem dX6_readLand_231 : decode cX6_readLand 231 = .ok (.sipush 999, 3) := by decide +kernel
theorem dX6_readLand_234 : decode cX6_readLand 234 = .ok (.invokevirtual 99, 3) := by decide +kernel
theorem dX6_readLand_237 : decode cX6_readLand 237 = .ok (.putfield 102, 3) := by decide +kernel
theorem dX6_readLand_240 : decode cX6_readLand 240 = .ok (.goto 7, 3) := by decide +kernel
theorem dX6_readLand_243 : decode cX6_readLand 243 = .ok (.aload_n 0, 1) := by decide +kernel
theorem dX6_readLand_244 : decode cX6_readLand 244 = .ok (.invokevirtual 105, 3) := by decide +kernel
theorem dX6_readLand_247 : decode cX6_readLand 247 = .ok (.aload_n 0, 1) := by decide +kernel
theorem dX6_readLand_248 : decode cX6_readLand 248 = .ok (.bipush 59, 2) := by decide +kernel
theorem dX6_readLand_250 : decode cX6_readLand 250 = .ok (.invokevirtual 108, 3) := by decide +kernel
theorem dX6_readLand_253 : decode cX6_readLand 253 = .ok (.aload_n 0, 1) := by decide +kernel
theorem dX6_readLand_254 : decode cX6_readLand 254 = .ok (.getfield 37, 3) := by decide +kernel
theorem dX6_readLand_257 : decode cX6_readLand 257 = .ok (.dup, 1) := by decide +kernel
theorem dX6_readLand_258 : decode cX6_readLand 258 = .ok (.getfield 111, 3) := by decide +kernel
theorem dX6_readLand_261 : decode cX6_readLand 261 = .ok (.iconst 1, 1) := by decide +kernel
theorem dX6_readLand_262 : decode cX6_readLand 262 = .ok (.iadd, 1) := by decide +kernel
theorem dX6_readLand_263 : decode cX6_readLand 263 = .ok (.putfield 111, 3) := by decide +kernel
theorem dX6_readLand_266 : decode cX6_readLand 266 = .ok (.iinc 2 1, 3) := by decide +kernel
theorem dX6_readLand_269 : decode cX6_readLand 269 = .ok (.goto (-224), 3) := by decide +kernel
theorem dX6_readLand_272 : decode cX6_readLand 272 = .ok (.aload_n 0, 1) := by decide +kernel
theorem dX6_readLand_273 : decode cX6_readLand 273 = .ok (.getfield 37, 3) := by decide +kernel
theorem dX6_readLand_276 : decode cX6_readLand 276 = .ok (.areturn, 1) := by decide +kernel
theorem dX6_readWard_0 : decode cX6_readWard 0 = .ok (.aload_n 0, 1) := by decide +kernel
theorem dX6_readWard_1 : decode cX6_readWard 1 = .ok (.getfield 37, 3) := by decide +kernel
theorem dX6_readWard_4 : decode cX6_readWard 4 = .ok (.getfield 114, 3) := by decide +kernel
theorem dX6_readWard_7 : decode cX6_readWard 7 = .ok (.istore_n 1, 1) := by decide +kernel
theorem dX6_readWard_8 : decode cX6_readWard 8 = .ok (.iload_n 1, 1) := by decide +kernel
theorem dX6_readWard_9 : decode cX6_readWard 9 = .ok (.iconst 5, 1) := by decide +kernel
theorem dX6_readWard_10 : decode cX6_readWard 10 = .ok (.if_icmp .lt 9, 3) := by decide +kernel
theorem dX6_readWard_13 : decode cX6_readWard 13 = .ok (.aload_n 0, 1) := by decide +kernel
theorem dX6_readWard_14 : decode cX6_readWard 14 = .ok (.iconst 4, 1) := by decide +kernel
theorem dX6_readWard_15 : decode cX6_readWard 15 = .ok (.invokevirtual 117, 3) := by decide +kernel
theorem dX6_readWard_18 : decode cX6_readWard 18 = .ok (.return_, 1) := by decide +kernel
theorem dX6_readWard_19 : decode cX6_readWard 19 = .ok (.aload_n 0, 1) := by decide +kernel
theorem dX6_readWard_20 : decode cX6_readWard 20 = .ok (.invokevirtual 64, 3) := by decide +kernel
theorem dX6_readWard_23 : decode cX6_readWard 23 = .ok (.aload_n 0, 1) := by decide +kernel
theorem dX6_readWard_24 : decode cX6_readWard 24 = .ok (.getfield 37, 3) := by decide +kernel
theorem dX6_readWard_27 : decode cX6_readWard 27 = .ok (.getfield 120, 3) := by decide +kernel
theorem dX6_readWard_30 : decode cX6_readWard 30 = .ok (.iload_n 1, 1) := by decide +kernel
theorem dX6_readWard_31 : decode cX6_readWard 31 = .ok (.aload_n 0, 1) := by decide +kernel
theorem dX6_readWard_32 : decode cX6_readWard 32 = .ok (.iconst 0, 1) := by decide +kernel
theorem dX6_readWard_33 : decode cX6_readWard 33 = .ok (.bipush 99, 2) := by decide +kernel
theorem dX6_readWard_35 : decode cX6_readWard 35 = .ok (.invokevirtual 99, 3) := by decide +kernel
theorem dX6_readWard_38 : decode cX6_readWard 38 = .ok (.iastore, 1) := by decide +kernel
theorem dX6_readWard_39 : decode cX6_readWard 39 = .ok (.aload_n 0, 1) := by decide +kernel
theorem dX6_readWard_40 : decode cX6_readWard 40 = .ok (.getfield 52, 3) := by decide +kernel
theorem dX6_readWard_43 : decode cX6_readWard 43 = .ok (.ifCond .ne 59, 3) := by decide +kernel
theorem dX6_readWard_46 : decode cX6_readWard 46 = .ok (.aload_n 0, 1) := by decide +kernel
theorem dX6_readWard_47 : decode cX6_readWard 47 = .ok (.getfield 25, 3) := by decide +kernel
theorem dX6_readWard_50 : decode cX6_readWard 50 = .ok (.sipush 307, 3) := by decide +kernel
theorem dX6_readWard_53 : decode cX6_readWard 53 = .ok (.if_icmp .ne 49, 3) := by decide +kernel
theorem dX6_readWard_56 : decode cX6_readWard 56 = .ok (.aload_n 0, 1) := by decide +kernel
theorem dX6_readWard_57 : decode cX6_readWard 57 = .ok (.invokevirtual 64, 3) := by decide +kernel
theorem dX6_readWard_60 : decode cX6_readWard 60 = .ok (.aload_n 0, 1) := by decide +kernel
theorem dX6_readWard_61 : decode cX6_readWard 61 = .ok (.iload_n 1, 1) := by decide +kernel
theorem dX6_readWard_62 : decode cX6_readWard 62 = .ok (.invokevirtual 123, 3) := by decide +kernel
theorem dX6_readWard_65 : decode cX6_readWard 65 = .ok (.iconst 0, 1) := by decide +kernel
theorem dX6_readWard_66 : decode cX6_readWard 66 = .ok (.istore_n 2, 1) := by decide +kernel
theorem dX6_readWard_67 : decode cX6_readWard 67 = .ok (.iload_n 2, 1) := by decide +kernel
theorem dX6_readWard_68 : decode cX6_readWard 68 = .ok (.sipush 900, 3) := by decide +kernel
theorem dX6_readWard_71 : decode cX6_readWard 71 = .ok (.if_icmp .ge 31, 3) := by decide +kernel
theorem dX6_readWard_74 : decode cX6_readWard 74 = .ok (.aload_n 0, 1) := by decide +kernel
theorem dX6_readWard_75 : decode cX6_readWard 75 = .ok (.getfield 52, 3) := by decide +kernel
theorem dX6_readWard_78 : decode cX6_readWard 78 = .ok (.ifCond .ne 24, 3) := by decide +kernel
theorem dX6_readWard_81 : decode cX6_readWard 81 = .ok (.aload_n 0, 1) := by decide +kernel
theorem dX6_readWard_82 : decode cX6_readWard 82 = .ok (.getfield 25, 3) := by decide +kernel
theorem dX6_readWard_85 : decode cX6_readWard 85 = .ok (.sipush 256, 3) := by decide +kernel
theorem dX6_readWard_88 : decode cX6_readWard 88 = .ok (.if_icmp .ne 14, 3) := by decide +kernel
theorem dX6_readWard_91 : decode cX6_readWard 91 = .ok (.aload_n 0, 1) := by decide +kernel
theorem dX6_readWard_92 : decode cX6_readWard 92 = .ok (.iload_n 1, 1) := by decide +kernel
theorem dX6_readWard_93 : decode cX6_readWard 93 = .ok (.invokevirtual 123, 3) := by decide +kernel
theorem dX6_readWard_96 : decode cX6_readWard 96 = .ok (.iinc 2 1, 3) := by decide +kernel
theorem dX6_readWard_99 : decode cX6_readWard 99 = .ok (.goto (-32), 3) := by decide +kernel
theorem dX6_readWard_102 : decode cX6_readWard 102 = .ok (.aload_n 0, 1) := by decide +kernel
theorem dX6_readWard_103 : decode cX6_readWard 103 = .ok (.getfield 37, 3) := by decide +kernel
theorem dX6_readWard_106 : decode cX6_readWard 106 = .ok (.dup, 1) := by decide +kernel
theorem dX6_readWard_107 : decode cX6_readWard 107 = .ok (.getfield 114, 3) := by decide +kernel
theorem dX6_readWard_110 : decode cX6_readWard 110 = .ok (.iconst 1, 1) := by decide +kernel
theorem dX6_readWard_111 : decode cX6_readWard 111 = .ok (.iadd, 1) := by decide +kernel
theorem dX6_readWard_112 : decode cX6_readWard 112 = .ok (.putfield 114, 3) := by decide +kernel
theorem dX6_readWard_115 : decode cX6_readWard 115 = .ok (.return_, 1) := by decide +kernel
theorem dX6_readBeside_0 : decode cX6_readBeside 0 = .ok (.aload_n 0, 1) := by decide +kernel
theorem dX6_readBeside_1 : decode cX6_readBeside 1 = .ok (.iconst 0, 1) := by decide +kernel
theorem dX6_readBeside_2 : decode cX6_readBeside 2 = .ok (.iload_n 1, 1) := by decide +kernel
theorem dX6_readBeside_3 : decode cX6_readBeside 3 = .ok (.iconst 1, 1) := by decide +kernel
theorem dX6_readBeside_4 : decode cX6_readBeside 4 = .ok (.isub, 1) := by decide +kernel
theorem dX6_readBeside_5 : decode cX6_readBeside 5 = .ok (.invokevirtual 99, 3) := by decide +kernel
theorem dX6_readBeside_8 : decode cX6_readBeside 8 = .ok (.istore_n 2, 1) := by decide +kernel
theorem dX6_readBeside_9 : decode cX6_readBeside 9 = .ok (.aload_n 0, 1) := by decide +kernel
theorem dX6_readBeside_10 : decode cX6_readBeside 10 = .ok (.getfield 52, 3) := by decide +kernel
theorem dX6_readBeside_13 : decode cX6_readBeside 13 = .ok (.ifCond .ne 33, 3) := by decide +kernel
theorem dX6_readBeside_16 : decode cX6_readBeside 16 = .ok (.aload_n 0, 1) := by decide +kernel
theorem dX6_readBeside_17 : decode cX6_readBeside 17 = .ok (.getfield 37, 3) := by decide +kernel
theorem dX6_readBeside_20 : decode cX6_readBeside 20 = .ok (.getfield 126, 3) := by decide +kernel
theorem dX6_readBeside_23 : decode cX6_readBeside 23 = .ok (.iload_n 1, 1) := by decide +kernel
theorem dX6_readBeside_24 : decode cX6_readBeside 24 = .ok (.dup2, 1) := by decide +kernel
theorem dX6_readBeside_25 : decode cX6_readBeside 25 = .ok (.iaload, 1) := by decide +kernel
theorem dX6_readBeside_26 : decode cX6_readBeside 26 = .ok (.iconst 1, 1) := by decide +kernel
theorem dX6_readBeside_27 : decode cX6_readBeside 27 = .ok (.iload_n 2, 1) := by decide +kernel
theorem dX6_readBeside_28 : decode cX6_readBeside 28 = .ok (.ishl, 1) := by decide +kernel
theorem dX6_readBeside_29 : decode cX6_readBeside 29 = .ok (.ior, 1) := by decide +kernel
theorem dX6_readBeside_30 : decode cX6_readBeside 30 = .ok (.iastore, 1) := by decide +kernel
theorem dX6_readBeside_31 : decode cX6_readBeside 31 = .ok (.aload_n 0, 1) := by decide +kernel
theorem dX6_readBeside_32 : decode cX6_readBeside 32 = .ok (.getfield 37, 3) := by decide +kernel
theorem dX6_readBeside_35 : decode cX6_readBeside 35 = .ok (.getfield 126, 3) := by decide +kernel
theorem dX6_readBeside_38 : decode cX6_readBeside 38 = .ok (.iload_n 2, 1) := by decide +kernel
theorem dX6_readBeside_39 : decode cX6_readBeside 39 = .ok (.dup2, 1) := by decide +kernel
theorem dX6_readBeside_40 : decode cX6_readBeside 40 = .ok (.iaload, 1) := by decide +kernel
theorem dX6_readBeside_41 : decode cX6_readBeside 41 = .ok (.iconst 1, 1) := by decide +kernel
theorem dX6_readBeside_42 : decode cX6_readBeside 42 = .ok (.iload_n 1, 1) := by decide +kernel
theorem dX6_readBeside_43 : decode cX6_readBeside 43 = .ok (.ishl, 1) := by decide +kernel
theorem dX6_readBeside_44 : decode cX6_readBeside 44 = .ok (.ior, 1) := by decide +kernel
theorem dX6_readBeside_45 : decode cX6_readBeside 45 = .ok (.iastore, 1) := by decide +kernel
theorem dX6_readBeside_46 : decode cX6_readBeside 46 = .ok (.return_, 1) := by decide +kernel
theorem dX6_readAct_0 : decode cX6_readAct 0 = .ok (.aload_n 0, 1) := by decide +kernel
theorem dX6_readAct_1 : decode cX6_readAct 1 = .ok (.getfield 37, 3) := by decide +kernel
theorem dX6_readAct_4 : decode cX6_readAct 4 = .ok (.getfield 129, 3) := by decide +kernel
theorem dX6_readAct_7 : decode cX6_readAct 7 = .ok (.istore_n 1, 1) := by decide +kernel
theorem dX6_readAct_8 : decode cX6_readAct 8 = .ok (.iload_n 1, 1) := by decide +kernel
theorem dX6_readAct_9 : decode cX6_readAct 9 = .ok (.bipush 8, 2) := by decide +kernel
theorem dX6_readAct_11 : decode cX6_readAct 11 = .ok (.if_icmp .lt 9, 3) := by decide +kernel
theorem dX6_readAct_14 : decode cX6_readAct 14 = .ok (.aload_n 0, 1) := by decide +kernel
theorem dX6_readAct_15 : decode cX6_readAct 15 = .ok (.iconst 4, 1) := by decide +kernel
theorem dX6_readAct_16 : decode cX6_readAct 16 = .ok (.invokevirtual 117, 3) := by decide +kernel
theorem dX6_readAct_19 : decode cX6_readAct 19 = .ok (.return_, 1) := by decide +kernel
theorem dX6_readAct_20 : decode cX6_readAct 20 = .ok (.aload_n 0, 1) := by decide +kernel
theorem dX6_readAct_21 : decode cX6_readAct 21 = .ok (.invokevirtual 64, 3) := by decide +kernel
theorem dX6_readAct_24 : decode cX6_readAct 24 = .ok (.aload_n 0, 1) := by decide +kernel
theorem dX6_readAct_25 : decode cX6_readAct 25 = .ok (.iconst 0, 1) := by decide +kernel
theorem dX6_readAct_26 : decode cX6_readAct 26 = .ok (.bipush 9, 2) := by decide +kernel
theorem dX6_readAct_28 : decode cX6_readAct 28 = .ok (.invokevirtual 99, 3) := by decide +kernel
theorem dX6_readAct_31 : decode cX6_readAct 31 = .ok (.istore_n 2, 1) := by decide +kernel
theorem dX6_readAct_32 : decode cX6_readAct 32 = .ok (.aload_n 0, 1) := by decide +kernel
theorem dX6_readAct_33 : decode cX6_readAct 33 = .ok (.sipush 308, 3) := by decide +kernel
theorem dX6_readAct_36 : decode cX6_readAct 36 = .ok (.invokevirtual 108, 3) := by decide +kernel
theorem dX6_readAct_39 : decode cX6_readAct 39 = .ok (.aload_n 0, 1) := by decide +kernel
theorem dX6_readAct_40 : decode cX6_readAct 40 = .ok (.getfield 37, 3) := by decide +kernel
theorem dX6_readAct_43 : decode cX6_readAct 43 = .ok (.getfield 132, 3) := by decide +kernel
theorem dX6_readAct_46 : decode cX6_readAct 46 = .ok (.iload_n 1, 1) := by decide +kernel
theorem dX6_readAct_47 : decode cX6_readAct 47 = .ok (.aload_n 0, 1) := by decide +kernel
theorem dX6_readAct_48 : decode cX6_readAct 48 = .ok (.iconst 0, 1) := by decide +kernel
theorem dX6_readAct_49 : decode cX6_readAct 49 = .ok (.bipush 99, 2) := by decide +kernel
theorem dX6_readAct_51 : decode cX6_readAct 51 = .ok (.invokevirtual 99, 3) := by decide +kernel
theorem dX6_readAct_54 : decode cX6_readAct 54 = .ok (.iastore, 1) := by decide +kernel
theorem dX6_readAct_55 : decode cX6_readAct 55 = .ok (.aload_n 0, 1) := by decide +kernel
theorem dX6_readAct_56 : decode cX6_readAct 56 = .ok (.sipush 309, 3) := by decide +kernel
theorem dX6_readAct_59 : decode cX6_readAct 59 = .ok (.invokevirtual 108, 3) := by decide +kernel
theorem dX6_readAct_62 : decode cX6_readAct 62 = .ok (.aload_n 0, 1) := by decide +kernel
theorem dX6_readAct_63 : decode cX6_readAct 63 = .ok (.getfield 37, 3) := by decide +kernel
theorem dX6_readAct_66 : decode cX6_readAct 66 = .ok (.getfield 135, 3) := by decide +kernel
theorem dX6_readAct_69 : decode cX6_readAct 69 = .ok (.iload_n 1, 1) := by decide +kernel
theorem dX6_readAct_70 : decode cX6_readAct 70 = .ok (.aload_n 0, 1) := by decide +kernel
theorem dX6_readAct_71 : decode cX6_readAct 71 = .ok (.aload_n 0, 1) := by decide +kernel
theorem dX6_readAct_72 : decode cX6_readAct 72 = .ok (.getfield 37, 3) := by decide +kernel
theorem dX6_readAct_75 : decode cX6_readAct 75 = .ok (.getfield 132, 3) := by decide +kernel
theorem dX6_readAct_78 : decode cX6_readAct 78 = .ok (.iload_n 1, 1) := by decide +kernel
theorem dX6_readAct_79 : decode cX6_readAct 79 = .ok (.iaload, 1) := by decide +kernel
theorem dX6_readAct_80 : decode cX6_readAct 80 = .ok (.bipush 99, 2) := by decide +kernel
theorem dX6_readAct_82 : decode cX6_readAct 82 = .ok (.invokevirtual 99, 3) := by decide +kernel
theorem dX6_readAct_85 : decode cX6_readAct 85 = .ok (.iastore, 1) := by decide +kernel
theorem dX6_readAct_86 : decode cX6_readAct 86 = .ok (.aload_n 0, 1) := by decide +kernel
theorem dX6_readAct_87 : decode cX6_readAct 87 = .ok (.sipush 310, 3) := by decide +kernel
theorem dX6_readAct_90 : decode cX6_readAct 90 = .ok (.invokevirtual 108, 3) := by decide +kernel
theorem dX6_readAct_93 : decode cX6_readAct 93 = .ok (.aload_n 0, 1) := by decide +kernel
theorem dX6_readAct_94 : decode cX6_readAct 94 = .ok (.getfield 37, 3) := by decide +kernel
theorem dX6_readAct_97 : decode cX6_readAct 97 = .ok (.getfield 138, 3) := by decide +kernel
theorem dX6_readAct_100 : decode cX6_readAct 100 = .ok (.iload_n 1, 1) := by decide +kernel
theorem dX6_readAct_101 : decode cX6_readAct 101 = .ok (.aload_n 0, 1) := by decide +kernel
theorem dX6_readAct_102 : decode cX6_readAct 102 = .ok (.iconst 0, 1) := by decide +kernel
theorem dX6_readAct_103 : decode cX6_readAct 103 = .ok (.bipush 99, 2) := by decide +kernel
theorem dX6_readAct_105 : decode cX6_readAct 105 = .ok (.invokevirtual 99, 3) := by decide +kernel
theorem dX6_readAct_108 : decode cX6_readAct 108 = .ok (.iastore, 1) := by decide +kernel
theorem dX6_readAct_109 : decode cX6_readAct 109 = .ok (.aload_n 0, 1) := by decide +kernel
theorem dX6_readAct_110 : decode cX6_readAct 110 = .ok (.getfield 52, 3) := by decide +kernel
theorem dX6_readAct_113 : decode cX6_readAct 113 = .ok (.ifCond .ne 41, 3) := by decide +kernel
theorem dX6_readAct_116 : decode cX6_readAct 116 = .ok (.aload_n 0, 1) := by decide +kernel
theorem dX6_readAct_117 : decode cX6_readAct 117 = .ok (.getfield 37, 3) := by decide +kernel
theorem dX6_readAct_120 : decode cX6_readAct 120 = .ok (.getfield 141, 3) := by decide +kernel
theorem dX6_readAct_123 : decode cX6_readAct 123 = .ok (.iload_n 1, 1) := by decide +kernel
theorem dX6_readAct_124 : decode cX6_readAct 124 = .ok (.iload_n 2, 1) := by decide +kernel
theorem dX6_readAct_125 : decode cX6_readAct 125 = .ok (.iastore, 1) := by decide +kernel
theorem dX6_readAct_126 : decode cX6_readAct 126 = .ok (.aload_n 0, 1) := by decide +kernel
theorem dX6_readAct_127 : decode cX6_readAct 127 = .ok (.getfield 37, 3) := by decide +kernel
theorem dX6_readAct_130 : decode cX6_readAct 130 = .ok (.getfield 144, 3) := by decide +kernel
theorem dX6_readAct_133 : decode cX6_readAct 133 = .ok (.iload_n 2, 1) := by decide +kernel
theorem dX6_readAct_134 : decode cX6_readAct 134 = .ok (.dup2, 1) := by decide +kernel
theorem dX6_readAct_135 : decode cX6_readAct 135 = .ok (.iaload, 1) := by decide +kernel
theorem dX6_readAct_136 : decode cX6_readAct 136 = .ok (.iconst 1, 1) := by decide +kernel
theorem dX6_readAct_137 : decode cX6_readAct 137 = .ok (.iload_n 1, 1) := by decide +kernel
theorem dX6_readAct_138 : decode cX6_readAct 138 = .ok (.ishl, 1) := by decide +kernel
theorem dX6_readAct_139 : decode cX6_readAct 139 = .ok (.ior, 1) := by decide +kernel
theorem dX6_readAct_140 : decode cX6_readAct 140 = .ok (.iastore, 1) := by decide +kernel
theorem dX6_readAct_141 : decode cX6_readAct 141 = .ok (.aload_n 0, 1) := by decide +kernel
theorem dX6_readAct_142 : decode cX6_readAct 142 = .ok (.getfield 37, 3) := by decide +kernel
theorem dX6_readAct_145 : decode cX6_readAct 145 = .ok (.dup, 1) := by decide +kernel
theorem dX6_readAct_146 : decode cX6_readAct 146 = .ok (.getfield 129, 3) := by decide +kernel
theorem dX6_readAct_149 : decode cX6_readAct 149 = .ok (.iconst 1, 1) := by decide +kernel
theorem dX6_readAct_150 : decode cX6_readAct 150 = .ok (.iadd, 1) := by decide +kernel
theorem dX6_readAct_151 : decode cX6_readAct 151 = .ok (.putfield 129, 3) := by decide +kernel
theorem dX6_readAct_154 : decode cX6_readAct 154 = .ok (.return_, 1) := by decide +kernel
theorem dX6_beginLaw_0 : decode cX6_beginLaw 0 = .ok (.aload_n 0, 1) := by decide +kernel
theorem dX6_beginLaw_1 : decode cX6_beginLaw 1 = .ok (.iload_n 1, 1) := by decide +kernel
theorem dX6_beginLaw_2 : decode cX6_beginLaw 2 = .ok (.putfield 41, 3) := by decide +kernel
theorem dX6_beginLaw_5 : decode cX6_beginLaw 5 = .ok (.aload_n 0, 1) := by decide +kernel
theorem dX6_beginLaw_6 : decode cX6_beginLaw 6 = .ok (.iconst 0, 1) := by decide +kernel
theorem dX6_beginLaw_7 : decode cX6_beginLaw 7 = .ok (.putfield 49, 3) := by decide +kernel
theorem dX6_beginLaw_10 : decode cX6_beginLaw 10 = .ok (.aload_n 0, 1) := by decide +kernel
theorem dX6_beginLaw_11 : decode cX6_beginLaw 11 = .ok (.invokevirtual 64, 3) := by decide +kernel
theorem dX6_beginLaw_14 : decode cX6_beginLaw 14 = .ok (.aload_n 0, 1) := by decide +kernel
theorem dX6_beginLaw_15 : decode cX6_beginLaw 15 = .ok (.bipush 58, 2) := by decide +kernel
theorem dX6_beginLaw_17 : decode cX6_beginLaw 17 = .ok (.invokevirtual 108, 3) := by decide +kernel
theorem dX6_beginLaw_20 : decode cX6_beginLaw 20 = .ok (.return_, 1) := by decide +kernel
theorem dX6_readTruth_0 : decode cX6_readTruth 0 = .ok (.aload_n 0, 1) := by decide +kernel
theorem dX6_readTruth_1 : decode cX6_readTruth 1 = .ok (.iload_n 1, 1) := by decide +kernel
theorem dX6_readTruth_2 : decode cX6_readTruth 2 = .ok (.invokevirtual 147, 3) := by decide +kernel
theorem dX6_readTruth_5 : decode cX6_readTruth 5 = .ok (.iconst 0, 1) := by decide +kernel
theorem dX6_readTruth_6 : decode cX6_readTruth 6 = .ok (.istore_n 2, 1) := by decide +kernel
theorem dX6_readTruth_7 : decode cX6_readTruth 7 = .ok (.iload_n 2, 1) := by decide +kernel
theorem dX6_readTruth_8 : decode cX6_readTruth 8 = .ok (.sipush 900, 3) := by decide +kernel
theorem dX6_readTruth_11 : decode cX6_readTruth 11 = .ok (.if_icmp .ge 41, 3) := by decide +kernel
theorem dX6_readTruth_14 : decode cX6_readTruth 14 = .ok (.aload_n 0, 1) := by decide +kernel
theorem dX6_readTruth_15 : decode cX6_readTruth 15 = .ok (.getfield 52, 3) := by decide +kernel
theorem dX6_readTruth_18 : decode cX6_readTruth 18 = .ok (.ifCond .ne 34, 3) := by decide +kernel
theorem dX6_readTruth_21 : decode cX6_readTruth 21 = .ok (.aload_n 0, 1) := by decide +kernel
theorem dX6_readTruth_22 : decode cX6_readTruth 22 = .ok (.getfield 25, 3) := by decide +kernel
theorem dX6_readTruth_25 : decode cX6_readTruth 25 = .ok (.sipush 311, 3) := by decide +kernel
theorem dX6_readTruth_28 : decode cX6_readTruth 28 = .ok (.if_icmp .ne 24, 3) := by decide +kernel
theorem dX6_readTruth_31 : decode cX6_readTruth 31 = .ok (.aload_n 0, 1) := by decide +kernel
theorem dX6_readTruth_32 : decode cX6_readTruth 32 = .ok (.invokevirtual 64, 3) := by decide +kernel
theorem dX6_readTruth_35 : decode cX6_readTruth 35 = .ok (.aload_n 0, 1) := by decide +kernel
theorem dX6_readTruth_36 : decode cX6_readTruth 36 = .ok (.iload_n 1, 1) := by decide +kernel
theorem dX6_readTruth_37 : decode cX6_readTruth 37 = .ok (.invokevirtual 147, 3) := by decide +kernel
theorem dX6_readTruth_40 : decode cX6_readTruth 40 = .ok (.aload_n 0, 1) := by decide +kernel
theorem dX6_readTruth_41 : decode cX6_readTruth 41 = .ok (.bipush (-8), 2) := by decide +kernel
theorem dX6_readTruth_43 : decode cX6_readTruth 43 = .ok (.invokevirtual 152, 3) := by decide +kernel
theorem dX6_readTruth_46 : decode cX6_readTruth 46 = .ok (.iinc 2 1, 3) := by decide +kernel
theorem dX6_readTruth_49 : decode cX6_readTruth 49 = .ok (.goto (-42), 3) := by decide +kernel
theorem dX6_readTruth_52 : decode cX6_readTruth 52 = .ok (.return_, 1) := by decide +kernel
theorem dX6_readBoth_0 : decode cX6_readBoth 0 = .ok (.aload_n 0, 1) := by decide +kernel
theorem dX6_readBoth_1 : decode cX6_readBoth 1 = .ok (.iload_n 1, 1) := by decide +kernel
theorem dX6_readBoth_2 : decode cX6_readBoth 2 = .ok (.invokevirtual 155, 3) := by decide +kernel
theorem dX6_readBoth_5 : decode cX6_readBoth 5 = .ok (.iconst 0, 1) := by decide +kernel
theorem dX6_readBoth_6 : decode cX6_readBoth 6 = .ok (.istore_n 2, 1) := by decide +kernel
theorem dX6_readBoth_7 : decode cX6_readBoth 7 = .ok (.iload_n 2, 1) := by decide +kernel
theorem dX6_readBoth_8 : decode cX6_readBoth 8 = .ok (.sipush 900, 3) := by decide +kernel
theorem dX6_readBoth_11 : decode cX6_readBoth 11 = .ok (.if_icmp .ge 41, 3) := by decide +kernel
theorem dX6_readBoth_14 : decode cX6_readBoth 14 = .ok (.aload_n 0, 1) := by decide +kernel
theorem dX6_readBoth_15 : decode cX6_readBoth 15 = .ok (.getfield 52, 3) := by decide +kernel
theorem dX6_readBoth_18 : decode cX6_readBoth 18 = .ok (.ifCond .ne 34, 3) := by decide +kernel
theorem dX6_readBoth_21 : decode cX6_readBoth 21 = .ok (.aload_n 0, 1) := by decide +kernel
theorem dX6_readBoth_22 : decode cX6_readBoth 22 = .ok (.getfield 25, 3) := by decide +kernel
theorem dX6_readBoth_25 : decode cX6_readBoth 25 = .ok (.sipush 312, 3) := by decide +kernel
theorem dX6_readBoth_28 : decode cX6_readBoth 28 = .ok (.if_icmp .ne 24, 3) := by decide +kernel
theorem dX6_readBoth_31 : decode cX6_readBoth 31 = .ok (.aload_n 0, 1) := by decide +kernel
theorem dX6_readBoth_32 : decode cX6_readBoth 32 = .ok (.invokevirtual 64, 3) := by decide +kernel
theorem dX6_readBoth_35 : decode cX6_readBoth 35 = .ok (.aload_n 0, 1) := by decide +kernel
theorem dX6_readBoth_36 : decode cX6_readBoth 36 = .ok (.iload_n 1, 1) := by decide +kernel
theorem dX6_readBoth_37 : decode cX6_readBoth 37 = .ok (.invokevirtual 155, 3) := by decide +kernel
theorem dX6_readBoth_40 : decode cX6_readBoth 40 = .ok (.aload_n 0, 1) := by decide +kernel
theorem dX6_readBoth_41 : decode cX6_readBoth 41 = .ok (.bipush (-7), 2) := by decide +kernel
theorem dX6_readBoth_43 : decode cX6_readBoth 43 = .ok (.invokevirtual 152, 3) := by decide +kernel
theorem dX6_readBoth_46 : decode cX6_readBoth 46 = .ok (.iinc 2 1, 3) := by decide +kernel
theorem dX6_readBoth_49 : decode cX6_readBoth 49 = .ok (.goto (-42), 3) := by decide +kernel
theorem dX6_readBoth_52 : decode cX6_readBoth 52 = .ok (.return_, 1) := by decide +kernel
theorem dX6_readUnit_0 : decode cX6_readUnit 0 = .ok (.aload_n 0, 1) := by decide +kernel
theorem dX6_readUnit_1 : decode cX6_readUnit 1 = .ok (.getfield 52, 3) := by decide +kernel
theorem dX6_readUnit_4 : decode cX6_readUnit 4 = .ok (.ifCond .eq 4, 3) := by decide +kernel
theorem dX6_readUnit_7 : decode cX6_readUnit 7 = .ok (.return_, 1) := by decide +kernel
theorem dX6_readUnit_8 : decode cX6_readUnit 8 = .ok (.aload_n 0, 1) := by decide +kernel
theorem dX6_readUnit_9 : decode cX6_readUnit 9 = .ok (.getfield 25, 3) := by decide +kernel
theorem dX6_readUnit_12 : decode cX6_readUnit 12 = .ok (.sipush 313, 3) := by decide +kernel
theorem dX6_readUnit_15 : decode cX6_readUnit 15 = .ok (.if_icmp .ne 25, 3) := by decide +kernel
theorem dX6_readUnit_18 : decode cX6_readUnit 18 = .ok (.aload_n 0, 1) := by decide +kernel
theorem dX6_readUnit_19 : decode cX6_readUnit 19 = .ok (.iload_n 1, 1) := by decide +kernel
theorem dX6_readUnit_20 : decode cX6_readUnit 20 = .ok (.invokevirtual 158, 3) := by decide +kernel
theorem dX6_readUnit_23 : decode cX6_readUnit 23 = .ok (.ifCond .eq 16, 3) := by decide +kernel
theorem dX6_readUnit_26 : decode cX6_readUnit 26 = .ok (.aload_n 0, 1) := by decide +kernel
theorem dX6_readUnit_27 : decode cX6_readUnit 27 = .ok (.iload_n 1, 1) := by decide +kernel
theorem dX6_readUnit_28 : decode cX6_readUnit 28 = .ok (.iconst 1, 1) := by decide +kernel
theorem dX6_readUnit_29 : decode cX6_readUnit 29 = .ok (.iadd, 1) := by decide +kernel
theorem dX6_readUnit_30 : decode cX6_readUnit 30 = .ok (.invokevirtual 155, 3) := by decide +kernel
theorem dX6_readUnit_33 : decode cX6_readUnit 33 = .ok (.aload_n 0, 1) := by decide +kernel
theorem dX6_readUnit_34 : decode cX6_readUnit 34 = .ok (.bipush (-9), 2) := by decide +kernel
theorem dX6_readUnit_36 : decode cX6_readUnit 36 = .ok (.invokevirtual 152, 3) := by decide +kernel
theorem dX6_readUnit_39 : decode cX6_readUnit 39 = .ok (.return_, 1) := by decide +kernel
theorem dX6_readUnit_40 : decode cX6_readUnit 40 = .ok (.aload_n 0, 1) := by decide +kernel
theorem dX6_readUnit_41 : decode cX6_readUnit 41 = .ok (.getfield 25, 3) := by decide +kernel
theorem dX6_readUnit_44 : decode cX6_readUnit 44 = .ok (.bipush 91, 2) := by decide +kernel
theorem dX6_readUnit_46 : decode cX6_readUnit 46 = .ok (.if_icmp .ne 25, 3) := by decide +kernel
theorem dX6_readUnit_49 : decode cX6_readUnit 49 = .ok (.aload_n 0, 1) := by decide +kernel
theorem dX6_readUnit_50 : decode cX6_readUnit 50 = .ok (.iload_n 1, 1) := by decide +kernel
theorem dX6_readUnit_51 : decode cX6_readUnit 51 = .ok (.invokevirtual 158, 3) := by decide +kernel
theorem dX6_readUnit_54 : decode cX6_readUnit 54 = .ok (.ifCond .eq 16, 3) := by decide +kernel
theorem dX6_readUnit_57 : decode cX6_readUnit 57 = .ok (.aload_n 0, 1) := by decide +kernel
theorem dX6_readUnit_58 : decode cX6_readUnit 58 = .ok (.iload_n 1, 1) := by decide +kernel
theorem dX6_readUnit_59 : decode cX6_readUnit 59 = .ok (.iconst 1, 1) := by decide +kernel
theorem dX6_readUnit_60 : decode cX6_readUnit 60 = .ok (.iadd, 1) := by decide +kernel
theorem dX6_readUnit_61 : decode cX6_readUnit 61 = .ok (.invokevirtual 90, 3) := by decide +kernel
theorem dX6_readUnit_64 : decode cX6_readUnit 64 = .ok (.aload_n 0, 1) := by decide +kernel
theorem dX6_readUnit_65 : decode cX6_readUnit 65 = .ok (.bipush 93, 2) := by decide +kernel
theorem dX6_readUnit_67 : decode cX6_readUnit 67 = .ok (.invokevirtual 108, 3) := by decide +kernel
theorem dX6_readUnit_70 : decode cX6_readUnit 70 = .ok (.return_, 1) := by decide +kernel
theorem dX6_readUnit_71 : decode cX6_readUnit 71 = .ok (.aload_n 0, 1) := by decide +kernel
theorem dX6_readUnit_72 : decode cX6_readUnit 72 = .ok (.iload_n 1, 1) := by decide +kernel
theorem dX6_readUnit_73 : decode cX6_readUnit 73 = .ok (.invokevirtual 77, 3) := by decide +kernel
theorem dX6_readUnit_76 : decode cX6_readUnit 76 = .ok (.aload_n 0, 1) := by decide +kernel
theorem dX6_readUnit_77 : decode cX6_readUnit 77 = .ok (.getfield 25, 3) := by decide +kernel
theorem dX6_readUnit_80 : decode cX6_readUnit 80 = .ok (.istore_n 2, 1) := by decide +kernel
theorem dX6_readUnit_81 : decode cX6_readUnit 81 = .ok (.iload_n 2, 1) := by decide +kernel
theorem dX6_readUnit_82 : decode cX6_readUnit 82 = .ok (.bipush 61, 2) := by decide +kernel
theorem dX6_readUnit_84 : decode cX6_readUnit 84 = .ok (.if_icmp .eq 15, 3) := by decide +kernel
theorem dX6_readUnit_87 : decode cX6_readUnit 87 = .ok (.iload_n 2, 1) := by decide +kernel
theorem dX6_readUnit_88 : decode cX6_readUnit 88 = .ok (.bipush 60, 2) := by decide +kernel
theorem dX6_readUnit_90 : decode cX6_readUnit 90 = .ok (.if_icmp .eq 9, 3) := by decide +kernel
theorem dX6_readUnit_93 : decode cX6_readUnit 93 = .ok (.iload_n 2, 1) := by decide +kernel
theorem dX6_readUnit_94 : decode cX6_readUnit 94 = .ok (.bipush 62, 2) := by decide +kernel
theorem dX6_readUnit_96 : decode cX6_readUnit 96 = .ok (.if_icmp .ne 43, 3) := by decide +kernel
theorem dX6_readUnit_99 : decode cX6_readUnit 99 = .ok (.aload_n 0, 1) := by decide +kernel
theorem dX6_readUnit_100 : decode cX6_readUnit 100 = .ok (.invokevirtual 64, 3) := by decide +kernel
theorem dX6_readUnit_103 : decode cX6_readUnit 103 = .ok (.aload_n 0, 1) := by decide +kernel
theorem dX6_readUnit_104 : decode cX6_readUnit 104 = .ok (.iload_n 1, 1) := by decide +kernel
theorem dX6_readUnit_105 : decode cX6_readUnit 105 = .ok (.invokevirtual 77, 3) := by decide +kernel
theorem dX6_readUnit_108 : decode cX6_readUnit 108 = .ok (.aload_n 0, 1) := by decide +kernel
theorem dX6_readUnit_109 : decode cX6_readUnit 109 = .ok (.iload_n 2, 1) := by decide +kernel
theorem dX6_readUnit_110 : decode cX6_readUnit 110 = .ok (.bipush 61, 2) := by decide +kernel
theorem dX6_readUnit_112 : decode cX6_readUnit 112 = .ok (.if_icmp .ne 8, 3) := by decide +kernel
theorem dX6_readUnit_115 : decode cX6_readUnit 115 = .ok (.bipush (-4), 2) := by decide +kernel
theorem dX6_readUnit_117 : decode cX6_readUnit 117 = .ok (.goto 16, 3) := by decide +kernel
theorem dX6_readUnit_120 : decode cX6_readUnit 120 = .ok (.iload_n 2, 1) := by decide +kernel
theorem dX6_readUnit_121 : decode cX6_readUnit 121 = .ok (.bipush 60, 2) := by decide +kernel
theorem dX6_readUnit_123 : decode cX6_readUnit 123 = .ok (.if_icmp .ne 8, 3) := by decide +kernel
theorem dX6_readUnit_126 : decode cX6_readUnit 126 = .ok (.bipush (-5), 2) := by decide +kernel
theorem dX6_readUnit_128 : decode cX6_readUnit 128 = .ok (.goto 5, 3) := by decide +kernel
theorem dX6_readUnit_131 : decode cX6_readUnit 131 = .ok (.bipush (-6), 2) := by decide +kernel
theorem dX6_readUnit_133 : decode cX6_readUnit 133 = .ok (.invokevirtual 152, 3) := by decide +kernel
theorem dX6_readUnit_136 : decode cX6_readUnit 136 = .ok (.goto 7, 3) := by decide +kernel
theorem dX6_readUnit_139 : decode cX6_readUnit 139 = .ok (.aload_n 0, 1) := by decide +kernel
theorem dX6_readUnit_140 : decode cX6_readUnit 140 = .ok (.invokevirtual 105, 3) := by decide +kernel
theorem dX6_readUnit_143 : decode cX6_readUnit 143 = .ok (.return_, 1) := by decide +kernel
theorem dX6_readSum_0 : decode cX6_readSum 0 = .ok (.aload_n 0, 1) := by decide +kernel
theorem dX6_readSum_1 : decode cX6_readSum 1 = .ok (.iload_n 1, 1) := by decide +kernel
theorem dX6_readSum_2 : decode cX6_readSum 2 = .ok (.invokevirtual 162, 3) := by decide +kernel
theorem dX6_readSum_5 : decode cX6_readSum 5 = .ok (.iconst 0, 1) := by decide +kernel
theorem dX6_readSum_6 : decode cX6_readSum 6 = .ok (.istore_n 2, 1) := by decide +kernel
theorem dX6_readSum_7 : decode cX6_readSum 7 = .ok (.iload_n 2, 1) := by decide +kernel
theorem dX6_readSum_8 : decode cX6_readSum 8 = .ok (.sipush 900, 3) := by decide +kernel
theorem dX6_readSum_11 : decode cX6_readSum 11 = .ok (.if_icmp .ge 64, 3) := by decide +kernel
theorem dX6_readSum_14 : decode cX6_readSum 14 = .ok (.aload_n 0, 1) := by decide +kernel
theorem dX6_readSum_15 : decode cX6_readSum 15 = .ok (.getfield 52, 3) := by decide +kernel
theorem dX6_readSum_18 : decode cX6_readSum 18 = .ok (.ifCond .ne 57, 3) := by decide +kernel
theorem dX6_readSum_21 : decode cX6_readSum 21 = .ok (.aload_n 0, 1) := by decide +kernel
theorem dX6_readSum_22 : decode cX6_readSum 22 = .ok (.getfield 25, 3) := by decide +kernel
theorem dX6_readSum_25 : decode cX6_readSum 25 = .ok (.bipush 43, 2) := by decide +kernel
theorem dX6_readSum_27 : decode cX6_readSum 27 = .ok (.if_icmp .eq 12, 3) := by decide +kernel
theorem dX6_readSum_30 : decode cX6_readSum 30 = .ok (.aload_n 0, 1) := by decide +kernel
theorem dX6_readSum_31 : decode cX6_readSum 31 = .ok (.getfield 25, 3) := by decide +kernel
theorem dX6_readSum_34 : decode cX6_readSum 34 = .ok (.bipush 45, 2) := by decide +kernel
theorem dX6_readSum_36 : decode cX6_readSum 36 = .ok (.if_icmp .ne 39, 3) := by decide +kernel
theorem dX6_readSum_39 : decode cX6_readSum 39 = .ok (.aload_n 0, 1) := by decide +kernel
theorem dX6_readSum_40 : decode cX6_readSum 40 = .ok (.getfield 25, 3) := by decide +kernel
theorem dX6_readSum_43 : decode cX6_readSum 43 = .ok (.istore_n 3, 1) := by decide +kernel
theorem dX6_readSum_44 : decode cX6_readSum 44 = .ok (.aload_n 0, 1) := by decide +kernel
theorem dX6_readSum_45 : decode cX6_readSum 45 = .ok (.invokevirtual 64, 3) := by decide +kernel
theorem dX6_readSum_48 : decode cX6_readSum 48 = .ok (.aload_n 0, 1) := by decide +kernel
theorem dX6_readSum_49 : decode cX6_readSum 49 = .ok (.iload_n 1, 1) := by decide +kernel
theorem dX6_readSum_50 : decode cX6_readSum 50 = .ok (.invokevirtual 162, 3) := by decide +kernel
theorem dX6_readSum_53 : decode cX6_readSum 53 = .ok (.aload_n 0, 1) := by decide +kernel
theorem dX6_readSum_54 : decode cX6_readSum 54 = .ok (.iload_n 3, 1) := by decide +kernel
theorem dX6_readSum_55 : decode cX6_readSum 55 = .ok (.bipush 43, 2) := by decide +kernel
theorem dX6_readSum_57 : decode cX6_readSum 57 = .ok (.if_icmp .ne 7, 3) := by decide +kernel
theorem dX6_readSum_60 : decode cX6_readSum 60 = .ok (.iconst (-1), 1) := by decide +kernel
theorem dX6_readSum_61 : decode cX6_readSum 61 = .ok (.goto 5, 3) := by decide +kernel
theorem dX6_readSum_64 : decode cX6_readSum 64 = .ok (.bipush (-2), 2) := by decide +kernel
theorem dX6_readSum_66 : decode cX6_readSum 66 = .ok (.invokevirtual 152, 3) := by decide +kernel
theorem dX6_readSum_69 : decode cX6_readSum 69 = .ok (.iinc 2 1, 3) := by decide +kernel
theorem dX6_readSum_72 : decode cX6_readSum 72 = .ok (.goto (-65), 3) := by decide +kernel
theorem dX6_readSum_75 : decode cX6_readSum 75 = .ok (.return_, 1) := by decide +kernel
theorem dX6_readTerm_0 : decode cX6_readTerm 0 = .ok (.aload_n 0, 1) := by decide +kernel
theorem dX6_readTerm_1 : decode cX6_readTerm 1 = .ok (.iload_n 1, 1) := by decide +kernel
theorem dX6_readTerm_2 : decode cX6_readTerm 2 = .ok (.invokevirtual 165, 3) := by decide +kernel
theorem dX6_readTerm_5 : decode cX6_readTerm 5 = .ok (.iconst 0, 1) := by decide +kernel
theorem dX6_readTerm_6 : decode cX6_readTerm 6 = .ok (.istore_n 2, 1) := by decide +kernel
theorem dX6_readTerm_7 : decode cX6_readTerm 7 = .ok (.iload_n 2, 1) := by decide +kernel
theorem dX6_readTerm_8 : decode cX6_readTerm 8 = .ok (.sipush 900, 3) := by decide +kernel
theorem dX6_readTerm_11 : decode cX6_readTerm 11 = .ok (.if_icmp .ge 40, 3) := by decide +kernel
theorem dX6_readTerm_14 : decode cX6_readTerm 14 = .ok (.aload_n 0, 1) := by decide +kernel
theorem dX6_readTerm_15 : decode cX6_readTerm 15 = .ok (.getfield 52, 3) := by decide +kernel
theorem dX6_readTerm_18 : decode cX6_readTerm 18 = .ok (.ifCond .ne 33, 3) := by decide +kernel
theorem dX6_readTerm_21 : decode cX6_readTerm 21 = .ok (.aload_n 0, 1) := by decide +kernel
theorem dX6_readTerm_22 : decode cX6_readTerm 22 = .ok (.getfield 25, 3) := by decide +kernel
theorem dX6_readTerm_25 : decode cX6_readTerm 25 = .ok (.bipush 42, 2) := by decide +kernel
theorem dX6_readTerm_27 : decode cX6_readTerm 27 = .ok (.if_icmp .ne 24, 3) := by decide +kernel
theorem dX6_readTerm_30 : decode cX6_readTerm 30 = .ok (.aload_n 0, 1) := by decide +kernel
theorem dX6_readTerm_31 : decode cX6_readTerm 31 = .ok (.invokevirtual 64, 3) := by decide +kernel
theorem dX6_readTerm_34 : decode cX6_readTerm 34 = .ok (.aload_n 0, 1) := by decide +kernel
theorem dX6_readTerm_35 : decode cX6_readTerm 35 = .ok (.iload_n 1, 1) := by decide +kernel
theorem dX6_readTerm_36 : decode cX6_readTerm 36 = .ok (.invokevirtual 165, 3) := by decide +kernel
theorem dX6_readTerm_39 : decode cX6_readTerm 39 = .ok (.aload_n 0, 1) := by decide +kernel
theorem dX6_readTerm_40 : decode cX6_readTerm 40 = .ok (.bipush (-3), 2) := by decide +kernel
theorem dX6_readTerm_42 : decode cX6_readTerm 42 = .ok (.invokevirtual 152, 3) := by decide +kernel
theorem dX6_readTerm_45 : decode cX6_readTerm 45 = .ok (.iinc 2 1, 3) := by decide +kernel
theorem dX6_readTerm_48 : decode cX6_readTerm 48 = .ok (.goto (-41), 3) := by decide +kernel
theorem dX6_readTerm_51 : decode cX6_readTerm 51 = .ok (.return_, 1) := by decide +kernel
theorem dX6_readAtom_0 : decode cX6_readAtom 0 = .ok (.aload_n 0, 1) := by decide +kernel
theorem dX6_readAtom_1 : decode cX6_readAtom 1 = .ok (.getfield 52, 3) := by decide +kernel
theorem dX6_readAtom_4 : decode cX6_readAtom 4 = .ok (.ifCond .eq 4, 3) := by decide +kernel
theorem dX6_readAtom_7 : decode cX6_readAtom 7 = .ok (.return_, 1) := by decide +kernel
theorem dX6_readAtom_8 : decode cX6_readAtom 8 = .ok (.aload_n 0, 1) := by decide +kernel
theorem dX6_readAtom_9 : decode cX6_readAtom 9 = .ok (.getfield 25, 3) := by decide +kernel
theorem dX6_readAtom_12 : decode cX6_readAtom 12 = .ok (.sipush 256, 3) := by decide +kernel
theorem dX6_readAtom_15 : decode cX6_readAtom 15 = .ok (.if_icmp .ne 18, 3) := by decide +kernel
theorem dX6_readAtom_18 : decode cX6_readAtom 18 = .ok (.aload_n 0, 1) := by decide +kernel
theorem dX6_readAtom_19 : decode cX6_readAtom 19 = .ok (.aload_n 0, 1) := by decide +kernel
theorem dX6_readAtom_20 : decode cX6_readAtom 20 = .ok (.getfield 31, 3) := by decide +kernel
theorem dX6_readAtom_23 : decode cX6_readAtom 23 = .ok (.invokevirtual 152, 3) := by decide +kernel
theorem dX6_readAtom_26 : decode cX6_readAtom 26 = .ok (.aload_n 0, 1) := by decide +kernel
theorem dX6_readAtom_27 : decode cX6_readAtom 27 = .ok (.invokevirtual 64, 3) := by decide +kernel
theorem dX6_readAtom_30 : decode cX6_readAtom 30 = .ok (.goto 87, 3) := by decide +kernel
theorem dX6_readAtom_33 : decode cX6_readAtom 33 = .ok (.aload_n 0, 1) := by decide +kernel
theorem dX6_readAtom_34 : decode cX6_readAtom 34 = .ok (.getfield 25, 3) := by decide +kernel
theorem dX6_readAtom_37 : decode cX6_readAtom 37 = .ok (.bipush 40, 2) := by decide +kernel
theorem dX6_readAtom_39 : decode cX6_readAtom 39 = .ok (.if_icmp .ne 27, 3) := by decide +kernel
theorem dX6_readAtom_42 : decode cX6_readAtom 42 = .ok (.aload_n 0, 1) := by decide +kernel
theorem dX6_readAtom_43 : decode cX6_readAtom 43 = .ok (.iload_n 1, 1) := by decide +kernel
theorem dX6_readAtom_44 : decode cX6_readAtom 44 = .ok (.invokevirtual 158, 3) := by decide +kernel
theorem dX6_readAtom_47 : decode cX6_readAtom 47 = .ok (.ifCond .eq 70, 3) := by decide +kernel
theorem dX6_readAtom_50 : decode cX6_readAtom 50 = .ok (.aload_n 0, 1) := by decide +kernel
theorem dX6_readAtom_51 : decode cX6_readAtom 51 = .ok (.iload_n 1, 1) := by decide +kernel
theorem dX6_readAtom_52 : decode cX6_readAtom 52 = .ok (.iconst 1, 1) := by decide +kernel
theorem dX6_readAtom_53 : decode cX6_readAtom 53 = .ok (.iadd, 1) := by decide +kernel
theorem dX6_readAtom_54 : decode cX6_readAtom 54 = .ok (.invokevirtual 77, 3) := by decide +kernel
theorem dX6_readAtom_57 : decode cX6_readAtom 57 = .ok (.aload_n 0, 1) := by decide +kernel
theorem dX6_readAtom_58 : decode cX6_readAtom 58 = .ok (.bipush 41, 2) := by decide +kernel
theorem dX6_readAtom_60 : decode cX6_readAtom 60 = .ok (.invokevirtual 108, 3) := by decide +kernel
theorem dX6_readAtom_63 : decode cX6_readAtom 63 = .ok (.goto 54, 3) := by decide +kernel
theorem dX6_readAtom_66 : decode cX6_readAtom 66 = .ok (.aload_n 0, 1) := by decide +kernel
theorem dX6_readAtom_67 : decode cX6_readAtom 67 = .ok (.getfield 41, 3) := by decide +kernel
theorem dX6_readAtom_70 : decode cX6_readAtom 70 = .ok (.ifCond .eq 13, 3) := by decide +kernel
theorem dX6_readAtom_73 : decode cX6_readAtom 73 = .ok (.aload_n 0, 1) := by decide +kernel
theorem dX6_readAtom_74 : decode cX6_readAtom 74 = .ok (.invokevirtual 168, 3) := by decide +kernel
theorem dX6_readAtom_77 : decode cX6_readAtom 77 = .ok (.ifCond .eq 36, 3) := by decide +kernel
theorem dX6_readAtom_80 : decode cX6_readAtom 80 = .ok (.goto 10, 3) := by decide +kernel
theorem dX6_readAtom_83 : decode cX6_readAtom 83 = .ok (.aload_n 0, 1) := by decide +kernel
theorem dX6_readAtom_84 : decode cX6_readAtom 84 = .ok (.invokevirtual 172, 3) := by decide +kernel
theorem dX6_readAtom_87 : decode cX6_readAtom 87 = .ok (.ifCond .eq 26, 3) := by decide +kernel
theorem dX6_readAtom_90 : decode cX6_readAtom 90 = .ok (.aload_n 0, 1) := by decide +kernel
theorem dX6_readAtom_91 : decode cX6_readAtom 91 = .ok (.sipush 1000, 3) := by decide +kernel
theorem dX6_readAtom_94 : decode cX6_readAtom 94 = .ok (.aload_n 0, 1) := by decide +kernel
theorem dX6_readAtom_95 : decode cX6_readAtom 95 = .ok (.getfield 25, 3) := by decide +kernel
theorem dX6_readAtom_98 : decode cX6_readAtom 98 = .ok (.iadd, 1) := by decide +kernel
theorem dX6_readAtom_99 : decode cX6_readAtom 99 = .ok (.sipush 300, 3) := by decide +kernel
theorem dX6_readAtom_102 : decode cX6_readAtom 102 = .ok (.isub, 1) := by decide +kernel
theorem dX6_readAtom_103 : decode cX6_readAtom 103 = .ok (.invokevirtual 152, 3) := by decide +kernel
theorem dX6_readAtom_106 : decode cX6_readAtom 106 = .ok (.aload_n 0, 1) := by decide +kernel
theorem dX6_readAtom_107 : decode cX6_readAtom 107 = .ok (.invokevirtual 64, 3) := by decide +kernel
theorem dX6_readAtom_110 : decode cX6_readAtom 110 = .ok (.goto 7, 3) := by decide +kernel
theorem dX6_readAtom_113 : decode cX6_readAtom 113 = .ok (.aload_n 0, 1) := by decide +kernel
theorem dX6_readAtom_114 : decode cX6_readAtom 114 = .ok (.invokevirtual 105, 3) := by decide +kernel
theorem dX6_readAtom_117 : decode cX6_readAtom 117 = .ok (.return_, 1) := by decide +kernel
theorem dX6_goesDeeper_0 : decode cX6_goesDeeper 0 = .ok (.iload_n 1, 1) := by decide +kernel
theorem dX6_goesDeeper_1 : decode cX6_goesDeeper 1 = .ok (.bipush 6, 2) := by decide +kernel
theorem dX6_goesDeeper_3 : decode cX6_goesDeeper 3 = .ok (.if_icmp .lt 10, 3) := by decide +kernel
theorem dX6_goesDeeper_6 : decode cX6_goesDeeper 6 = .ok (.aload_n 0, 1) := by decide +kernel
theorem dX6_goesDeeper_7 : decode cX6_goesDeeper 7 = .ok (.iconst 4, 1) := by decide +kernel
theorem dX6_goesDeeper_8 : decode cX6_goesDeeper 8 = .ok (.invokevirtual 117, 3) := by decide +kernel
theorem dX6_goesDeeper_11 : decode cX6_goesDeeper 11 = .ok (.iconst 0, 1) := by decide +kernel
theorem dX6_goesDeeper_12 : decode cX6_goesDeeper 12 = .ok (.ireturn, 1) := by decide +kernel
theorem dX6_goesDeeper_13 : decode cX6_goesDeeper 13 = .ok (.aload_n 0, 1) := by decide +kernel
theorem dX6_goesDeeper_14 : decode cX6_goesDeeper 14 = .ok (.invokevirtual 64, 3) := by decide +kernel
theorem dX6_goesDeeper_17 : decode cX6_goesDeeper 17 = .ok (.iconst 1, 1) := by decide +kernel
theorem dX6_goesDeeper_18 : decode cX6_goesDeeper 18 = .ok (.ireturn, 1) := by decide +kernel
theorem dX6_isOfDegree_0 : decode cX6_isOfDegree 0 = .ok (.aload_n 0, 1) := by decide +kernel
theorem dX6_isOfDegree_1 : decode cX6_isOfDegree 1 = .ok (.getfield 25, 3) := by decide +kernel
theorem dX6_isOfDegree_4 : decode cX6_isOfDegree 4 = .ok (.sipush 314, 3) := by decide +kernel
theorem dX6_isOfDegree_7 : decode cX6_isOfDegree 7 = .ok (.if_icmp .eq 53, 3) := by decide +kernel
theorem dX6_isOfDegree_10 : decode cX6_isOfDegree 10 = .ok (.aload_n 0, 1) := by decide +kernel
theorem dX6_isOfDegree_11 : decode cX6_isOfDegree 11 = .ok (.getfield 25, 3) := by decide +kernel
theorem dX6_isOfDegree_14 : decode cX6_isOfDegree 14 = .ok (.sipush 315, 3) := by decide +kernel
theorem dX6_isOfDegree_17 : decode cX6_isOfDegree 17 = .ok (.if_icmp .eq 43, 3) := by decide +kernel
theorem dX6_isOfDegree_20 : decode cX6_isOfDegree 20 = .ok (.aload_n 0, 1) := by decide +kernel
theorem dX6_isOfDegree_21 : decode cX6_isOfDegree 21 = .ok (.getfield 25, 3) := by decide +kernel
theorem dX6_isOfDegree_24 : decode cX6_isOfDegree 24 = .ok (.sipush 316, 3) := by decide +kernel
theorem dX6_isOfDegree_27 : decode cX6_isOfDegree 27 = .ok (.if_icmp .eq 33, 3) := by decide +kernel
theorem dX6_isOfDegree_30 : decode cX6_isOfDegree 30 = .ok (.aload_n 0, 1) := by decide +kernel
theorem dX6_isOfDegree_31 : decode cX6_isOfDegree 31 = .ok (.getfield 25, 3) := by decide +kernel
theorem dX6_isOfDegree_34 : decode cX6_isOfDegree 34 = .ok (.sipush 306, 3) := by decide +kernel
theorem dX6_isOfDegree_37 : decode cX6_isOfDegree 37 = .ok (.if_icmp .eq 23, 3) := by decide +kernel
theorem dX6_isOfDegree_40 : decode cX6_isOfDegree 40 = .ok (.aload_n 0, 1) := by decide +kernel
theorem dX6_isOfDegree_41 : decode cX6_isOfDegree 41 = .ok (.getfield 25, 3) := by decide +kernel
theorem dX6_isOfDegree_44 : decode cX6_isOfDegree 44 = .ok (.sipush 317, 3) := by decide +kernel
theorem dX6_isOfDegree_47 : decode cX6_isOfDegree 47 = .ok (.if_icmp .eq 13, 3) := by decide +kernel
theorem dX6_isOfDegree_50 : decode cX6_isOfDegree 50 = .ok (.aload_n 0, 1) := by decide +kernel
theorem dX6_isOfDegree_51 : decode cX6_isOfDegree 51 = .ok (.getfield 25, 3) := by decide +kernel
theorem dX6_isOfDegree_54 : decode cX6_isOfDegree 54 = .ok (.sipush 300, 3) := by decide +kernel
theorem dX6_isOfDegree_57 : decode cX6_isOfDegree 57 = .ok (.if_icmp .ne 7, 3) := by decide +kernel
theorem dX6_isOfDegree_60 : decode cX6_isOfDegree 60 = .ok (.iconst 1, 1) := by decide +kernel
theorem dX6_isOfDegree_61 : decode cX6_isOfDegree 61 = .ok (.goto 4, 3) := by decide +kernel
theorem dX6_isOfDegree_64 : decode cX6_isOfDegree 64 = .ok (.iconst 0, 1) := by decide +kernel
theorem dX6_isOfDegree_65 : decode cX6_isOfDegree 65 = .ok (.ireturn, 1) := by decide +kernel
theorem dX6_isOfPrevails_0 : decode cX6_isOfPrevails 0 = .ok (.aload_n 0, 1) := by decide +kernel
theorem dX6_isOfPrevails_1 : decode cX6_isOfPrevails 1 = .ok (.getfield 25, 3) := by decide +kernel
theorem dX6_isOfPrevails_4 : decode cX6_isOfPrevails 4 = .ok (.sipush 301, 3) := by decide +kernel
theorem dX6_isOfPrevails_7 : decode cX6_isOfPrevails 7 = .ok (.if_icmp .eq 63, 3) := by decide +kernel
theorem dX6_isOfPrevails_10 : decode cX6_isOfPrevails 10 = .ok (.aload_n 0, 1) := by decide +kernel
theorem dX6_isOfPrevails_11 : decode cX6_isOfPrevails 11 = .ok (.getfield 25, 3) := by decide +kernel
theorem dX6_isOfPrevails_14 : decode cX6_isOfPrevails 14 = .ok (.sipush 318, 3) := by decide +kernel
theorem dX6_isOfPrevails_17 : decode cX6_isOfPrevails 17 = .ok (.if_icmp .eq 53, 3) := by decide +kernel
theorem dX6_isOfPrevails_20 : decode cX6_isOfPrevails 20 = .ok (.aload_n 0, 1) := by decide +kernel
theorem dX6_isOfPrevails_21 : decode cX6_isOfPrevails 21 = .ok (.getfield 25, 3) := by decide +kernel
theorem dX6_isOfPrevails_24 : decode cX6_isOfPrevails 24 = .ok (.sipush 310, 3) := by decide +kernel
theorem dX6_isOfPrevails_27 : decode cX6_isOfPrevails 27 = .ok (.if_icmp .eq 43, 3) := by decide +kernel
theorem dX6_isOfPrevails_30 : decode cX6_isOfPrevails 30 = .ok (.aload_n 0, 1) := by decide +kernel
theorem dX6_isOfPrevails_31 : decode cX6_isOfPrevails 31 = .ok (.getfield 25, 3) := by decide +kernel
theorem dX6_isOfPrevails_34 : decode cX6_isOfPrevails 34 = .ok (.sipush 319, 3) := by decide +kernel
theorem dX6_isOfPrevails_37 : decode cX6_isOfPrevails 37 = .ok (.if_icmp .eq 33, 3) := by decide +kernel
theorem dX6_isOfPrevails_40 : decode cX6_isOfPrevails 40 = .ok (.aload_n 0, 1) := by decide +kernel
theorem dX6_isOfPrevails_41 : decode cX6_isOfPrevails 41 = .ok (.getfield 25, 3) := by decide +kernel
theorem dX6_isOfPrevails_44 : decode cX6_isOfPrevails 44 = .ok (.sipush 320, 3) := by decide +kernel
theorem dX6_isOfPrevails_47 : decode cX6_isOfPrevails 47 = .ok (.if_icmp .eq 23, 3) := by decide +kernel
theorem dX6_isOfPrevails_50 : decode cX6_isOfPrevails 50 = .ok (.aload_n 0, 1) := by decide +kernel
theorem dX6_isOfPrevails_51 : decode cX6_isOfPrevails 51 = .ok (.getfield 25, 3) := by decide +kernel
theorem dX6_isOfPrevails_54 : decode cX6_isOfPrevails 54 = .ok (.sipush 306, 3) := by decide +kernel
theorem dX6_isOfPrevails_57 : decode cX6_isOfPrevails 57 = .ok (.if_icmp .eq 13, 3) := by decide +kernel
theorem dX6_isOfPrevails_60 : decode cX6_isOfPrevails 60 = .ok (.aload_n 0, 1) := by decide +kernel
theorem dX6_isOfPrevails_61 : decode cX6_isOfPrevails 61 = .ok (.getfield 25, 3) := by decide +kernel
theorem dX6_isOfPrevails_64 : decode cX6_isOfPrevails 64 = .ok (.sipush 300, 3) := by decide +kernel
theorem dX6_isOfPrevails_67 : decode cX6_isOfPrevails 67 = .ok (.if_icmp .ne 7, 3) := by decide +kernel
theorem dX6_isOfPrevails_70 : decode cX6_isOfPrevails 70 = .ok (.iconst 1, 1) := by decide +kernel
theorem dX6_isOfPrevails_71 : decode cX6_isOfPrevails 71 = .ok (.goto 4, 3) := by decide +kernel
theorem dX6_isOfPrevails_74 : decode cX6_isOfPrevails 74 = .ok (.iconst 0, 1) := by decide +kernel
theorem dX6_isOfPrevails_75 : decode cX6_isOfPrevails 75 = .ok (.ireturn, 1) := by decide +kernel
theorem dX6_put_0 : decode cX6_put 0 = .ok (.aload_n 0, 1) := by decide +kernel
theorem dX6_put_1 : decode cX6_put 1 = .ok (.getfield 49, 3) := by decide +kernel
theorem dX6_put_4 : decode cX6_put 4 = .ok (.aload_n 0, 1) := by decide +kernel
theorem dX6_put_5 : decode cX6_put 5 = .ok (.getfield 45, 3) := by decide +kernel
theorem dX6_put_8 : decode cX6_put 8 = .ok (.arraylength, 1) := by decide +kernel
theorem dX6_put_9 : decode cX6_put 9 = .ok (.if_icmp .ge 23, 3) := by decide +kernel
theorem dX6_put_12 : decode cX6_put 12 = .ok (.aload_n 0, 1) := by decide +kernel
theorem dX6_put_13 : decode cX6_put 13 = .ok (.getfield 45, 3) := by decide +kernel
theorem dX6_put_16 : decode cX6_put 16 = .ok (.aload_n 0, 1) := by decide +kernel
theorem dX6_put_17 : decode cX6_put 17 = .ok (.getfield 49, 3) := by decide +kernel
theorem dX6_put_20 : decode cX6_put 20 = .ok (.iload_n 1, 1) := by decide +kernel
theorem dX6_put_21 : decode cX6_put 21 = .ok (.iastore, 1) := by decide +kernel
theorem dX6_put_22 : decode cX6_put 22 = .ok (.aload_n 0, 1) := by decide +kernel
theorem dX6_put_23 : decode cX6_put 23 = .ok (.dup, 1) := by decide +kernel
theorem dX6_put_24 : decode cX6_put 24 = .ok (.getfield 49, 3) := by decide +kernel
theorem dX6_put_27 : decode cX6_put 27 = .ok (.iconst 1, 1) := by decide +kernel
theorem dX6_put_28 : decode cX6_put 28 = .ok (.iadd, 1) := by decide +kernel
theorem dX6_put_29 : decode cX6_put 29 = .ok (.putfield 49, 3) := by decide +kernel
theorem dX6_put_32 : decode cX6_put 32 = .ok (.return_, 1) := by decide +kernel
theorem dX6_take_0 : decode cX6_take 0 = .ok (.aload_n 0, 1) := by decide +kernel
theorem dX6_take_1 : decode cX6_take 1 = .ok (.getfield 25, 3) := by decide +kernel
theorem dX6_take_4 : decode cX6_take 4 = .ok (.iload_n 1, 1) := by decide +kernel
theorem dX6_take_5 : decode cX6_take 5 = .ok (.if_icmp .ne 10, 3) := by decide +kernel
theorem dX6_take_8 : decode cX6_take 8 = .ok (.aload_n 0, 1) := by decide +kernel
theorem dX6_take_9 : decode cX6_take 9 = .ok (.invokevirtual 64, 3) := by decide +kernel
theorem dX6_take_12 : decode cX6_take 12 = .ok (.goto 7, 3) := by decide +kernel
theorem dX6_take_15 : decode cX6_take 15 = .ok (.aload_n 0, 1) := by decide +kernel
theorem dX6_take_16 : decode cX6_take 16 = .ok (.invokevirtual 105, 3) := by decide +kernel
theorem dX6_take_19 : decode cX6_take 19 = .ok (.return_, 1) := by decide +kernel
theorem dX6_takeNumber_0 : decode cX6_takeNumber 0 = .ok (.aload_n 0, 1) := by decide +kernel
theorem dX6_takeNumber_1 : decode cX6_takeNumber 1 = .ok (.getfield 25, 3) := by decide +kernel
theorem dX6_takeNumber_4 : decode cX6_takeNumber 4 = .ok (.sipush 256, 3) := by decide +kernel
theorem dX6_takeNumber_7 : decode cX6_takeNumber 7 = .ok (.if_icmp .eq 9, 3) := by decide +kernel
theorem dX6_takeNumber_10 : decode cX6_takeNumber 10 = .ok (.aload_n 0, 1) := by decide +kernel
theorem dX6_takeNumber_11 : decode cX6_takeNumber 11 = .ok (.invokevirtual 105, 3) := by decide +kernel
theorem dX6_takeNumber_14 : decode cX6_takeNumber 14 = .ok (.iconst 0, 1) := by decide +kernel
theorem dX6_takeNumber_15 : decode cX6_takeNumber 15 = .ok (.ireturn, 1) := by decide +kernel
theorem dX6_takeNumber_16 : decode cX6_takeNumber 16 = .ok (.aload_n 0, 1) := by decide +kernel
theorem dX6_takeNumber_17 : decode cX6_takeNumber 17 = .ok (.getfield 31, 3) := by decide +kernel
theorem dX6_takeNumber_20 : decode cX6_takeNumber 20 = .ok (.iload_n 1, 1) := by decide +kernel
theorem dX6_takeNumber_21 : decode cX6_takeNumber 21 = .ok (.if_icmp .lt 11, 3) := by decide +kernel
theorem dX6_takeNumber_24 : decode cX6_takeNumber 24 = .ok (.aload_n 0, 1) := by decide +kernel
theorem dX6_takeNumber_25 : decode cX6_takeNumber 25 = .ok (.getfield 31, 3) := by decide +kernel
theorem dX6_takeNumber_28 : decode cX6_takeNumber 28 = .ok (.iload_n 2, 1) := by decide +kernel
theorem dX6_takeNumber_29 : decode cX6_takeNumber 29 = .ok (.if_icmp .le 10, 3) := by decide +kernel
theorem dX6_takeNumber_32 : decode cX6_takeNumber 32 = .ok (.aload_n 0, 1) := by decide +kernel
theorem dX6_takeNumber_33 : decode cX6_takeNumber 33 = .ok (.iconst 3, 1) := by decide +kernel
theorem dX6_takeNumber_34 : decode cX6_takeNumber 34 = .ok (.invokevirtual 117, 3) := by decide +kernel
theorem dX6_takeNumber_37 : decode cX6_takeNumber 37 = .ok (.iconst 0, 1) := by decide +kernel
theorem dX6_takeNumber_38 : decode cX6_takeNumber 38 = .ok (.ireturn, 1) := by decide +kernel
theorem dX6_takeNumber_39 : decode cX6_takeNumber 39 = .ok (.aload_n 0, 1) := by decide +kernel
theorem dX6_takeNumber_40 : decode cX6_takeNumber 40 = .ok (.getfield 31, 3) := by decide +kernel
theorem dX6_takeNumber_43 : decode cX6_takeNumber 43 = .ok (.istore_n 3, 1) := by decide +kernel
theorem dX6_takeNumber_44 : decode cX6_takeNumber 44 = .ok (.aload_n 0, 1) := by decide +kernel
theorem dX6_takeNumber_45 : decode cX6_takeNumber 45 = .ok (.invokevirtual 64, 3) := by decide +kernel
theorem dX6_takeNumber_48 : decode cX6_takeNumber 48 = .ok (.iload_n 3, 1) := by decide +kernel
theorem dX6_takeNumber_49 : decode cX6_takeNumber 49 = .ok (.ireturn, 1) := by decide +kernel
theorem dX6_refuse_0 : decode cX6_refuse 0 = .ok (.aload_n 0, 1) := by decide +kernel
theorem dX6_refuse_1 : decode cX6_refuse 1 = .ok (.aload_n 0, 1) := by decide +kernel
theorem dX6_refuse_2 : decode cX6_refuse 2 = .ok (.getfield 25, 3) := by decide +kernel
theorem dX6_refuse_5 : decode cX6_refuse 5 = .ok (.sipush 258, 3) := by decide +kernel
theorem dX6_refuse_8 : decode cX6_refuse 8 = .ok (.if_icmp .ne 7, 3) := by decide +kernel
theorem dX6_refuse_11 : decode cX6_refuse 11 = .ok (.iconst 1, 1) := by decide +kernel
theorem dX6_refuse_12 : decode cX6_refuse 12 = .ok (.goto 4, 3) := by decide +kernel
theorem dX6_refuse_15 : decode cX6_refuse 15 = .ok (.iconst 2, 1) := by decide +kernel
theorem dX6_refuse_16 : decode cX6_refuse 16 = .ok (.invokevirtual 117, 3) := by decide +kernel
theorem dX6_refuse_19 : decode cX6_refuse 19 = .ok (.return_, 1) := by decide +kernel
theorem dX6_fail_0 : decode cX6_fail 0 = .ok (.aload_n 0, 1) := by decide +kernel
theorem dX6_fail_1 : decode cX6_fail 1 = .ok (.getfield 52, 3) := by decide +kernel
theorem dX6_fail_4 : decode cX6_fail 4 = .ok (.ifCond .ne 16, 3) := by decide +kernel
theorem dX6_fail_7 : decode cX6_fail 7 = .ok (.aload_n 0, 1) := by decide +kernel
theorem dX6_fail_8 : decode cX6_fail 8 = .ok (.iload_n 1, 1) := by decide +kernel
theorem dX6_fail_9 : decode cX6_fail 9 = .ok (.putfield 52, 3) := by decide +kernel
theorem dX6_fail_12 : decode cX6_fail 12 = .ok (.aload_n 0, 1) := by decide +kernel
theorem dX6_fail_13 : decode cX6_fail 13 = .ok (.aload_n 0, 1) := by decide +kernel
theorem dX6_fail_14 : decode cX6_fail 14 = .ok (.getfield 28, 3) := by decide +kernel
theorem dX6_fail_17 : decode cX6_fail 17 = .ok (.putfield 55, 3) := by decide +kernel
theorem dX6_fail_20 : decode cX6_fail 20 = .ok (.return_, 1) := by decide +kernel
theorem dX6_advance_0 : decode cX6_advance 0 = .ok (.aload_n 0, 1) := by decide +kernel
theorem dX6_advance_1 : decode cX6_advance 1 = .ok (.getfield 22, 3) := by decide +kernel
theorem dX6_advance_4 : decode cX6_advance 4 = .ok (.aload_n 0, 1) := by decide +kernel
theorem dX6_advance_5 : decode cX6_advance 5 = .ok (.getfield 19, 3) := by decide +kernel
theorem dX6_advance_8 : decode cX6_advance 8 = .ok (.if_icmp .ge 44, 3) := by decide +kernel
theorem dX6_advance_11 : decode cX6_advance 11 = .ok (.aload_n 0, 1) := by decide +kernel
theorem dX6_advance_12 : decode cX6_advance 12 = .ok (.getfield 11, 3) := by decide +kernel
theorem dX6_advance_15 : decode cX6_advance 15 = .ok (.aload_n 0, 1) := by decide +kernel
theorem dX6_advance_16 : decode cX6_advance 16 = .ok (.getfield 22, 3) := by decide +kernel
theorem dX6_advance_19 : decode cX6_advance 19 = .ok (.baload, 1) := by decide +kernel
theorem dX6_advance_20 : decode cX6_advance 20 = .ok (.bipush 10, 2) := by decide +kernel
theorem dX6_advance_22 : decode cX6_advance 22 = .ok (.if_icmp .eq 17, 3) := by decide +kernel
theorem dX6_advance_25 : decode cX6_advance 25 = .ok (.aload_n 0, 1) := by decide +kernel
theorem dX6_advance_26 : decode cX6_advance 26 = .ok (.getfield 11, 3) := by decide +kernel
theorem dX6_advance_29 : decode cX6_advance 29 = .ok (.aload_n 0, 1) := by decide +kernel
theorem dX6_advance_30 : decode cX6_advance 30 = .ok (.getfield 22, 3) := by decide +kernel
theorem dX6_advance_33 : decode cX6_advance 33 = .ok (.baload, 1) := by decide +kernel
theorem dX6_advance_34 : decode cX6_advance 34 = .ok (.bipush 32, 2) := by decide +kernel
theorem dX6_advance_36 : decode cX6_advance 36 = .ok (.if_icmp .ne 16, 3) := by decide +kernel
theorem dX6_advance_39 : decode cX6_advance 39 = .ok (.aload_n 0, 1) := by decide +kernel
theorem dX6_advance_40 : decode cX6_advance 40 = .ok (.dup, 1) := by decide +kernel
theorem dX6_advance_41 : decode cX6_advance 41 = .ok (.getfield 22, 3) := by decide +kernel
theorem dX6_advance_44 : decode cX6_advance 44 = .ok (.iconst 1, 1) := by decide +kernel
theorem dX6_advance_45 : decode cX6_advance 45 = .ok (.iadd, 1) := by decide +kernel
theorem dX6_advance_46 : decode cX6_advance 46 = .ok (.putfield 22, 3) := by decide +kernel
theorem dX6_advance_49 : decode cX6_advance 49 = .ok (.goto (-49), 3) := by decide +kernel
theorem dX6_advance_52 : decode cX6_advance 52 = .ok (.aload_n 0, 1) := by decide +kernel
theorem dX6_advance_53 : decode cX6_advance 53 = .ok (.aload_n 0, 1) := by decide +kernel
theorem dX6_advance_54 : decode cX6_advance 54 = .ok (.getfield 22, 3) := by decide +kernel
theorem dX6_advance_57 : decode cX6_advance 57 = .ok (.putfield 28, 3) := by decide +kernel
theorem dX6_advance_60 : decode cX6_advance 60 = .ok (.aload_n 0, 1) := by decide +kernel
theorem dX6_advance_61 : decode cX6_advance 61 = .ok (.getfield 22, 3) := by decide +kernel
theorem dX6_advance_64 : decode cX6_advance 64 = .ok (.aload_n 0, 1) := by decide +kernel
theorem dX6_advance_65 : decode cX6_advance 65 = .ok (.getfield 19, 3) := by decide +kernel
theorem dX6_advance_68 : decode cX6_advance 68 = .ok (.if_icmp .lt 13, 3) := by decide +kernel
theorem dX6_advance_71 : decode cX6_advance 71 = .ok (.aload_n 0, 1) := by decide +kernel
theorem dX6_advance_72 : decode cX6_advance 72 = .ok (.sipush 257, 3) := by decide +kernel
theorem dX6_advance_75 : decode cX6_advance 75 = .ok (.putfield 25, 3) := by decide +kernel
theorem dX6_advance_78 : decode cX6_advance 78 = .ok (.goto 167, 3) := by decide +kernel
theorem dX6_advance_81 : decode cX6_advance 81 = .ok (.aload_n 0, 1) := by decide +kernel
theorem dX6_advance_82 : decode cX6_advance 82 = .ok (.getfield 11, 3) := by decide +kernel
theorem dX6_advance_85 : decode cX6_advance 85 = .ok (.aload_n 0, 1) := by decide +kernel
theorem dX6_advance_86 : decode cX6_advance 86 = .ok (.getfield 22, 3) := by decide +kernel
theorem dX6_advance_89 : decode cX6_advance 89 = .ok (.baload, 1) := by decide +kernel
theorem dX6_advance_90 : decode cX6_advance 90 = .ok (.bipush 97, 2) := by decide +kernel
theorem dX6_advance_92 : decode cX6_advance 92 = .ok (.if_icmp .lt 36, 3) := by decide +kernel
theorem dX6_advance_95 : decode cX6_advance 95 = .ok (.aload_n 0, 1) := by decide +kernel
theorem dX6_advance_96 : decode cX6_advance 96 = .ok (.getfield 11, 3) := by decide +kernel
theorem dX6_advance_99 : decode cX6_advance 99 = .ok (.aload_n 0, 1) := by decide +kernel
theorem dX6_advance_100 : decode cX6_advance 100 = .ok (.getfield 22, 3) := by decide +kernel
theorem dX6_advance_103 : decode cX6_advance 103 = .ok (.baload, 1) := by decide +kernel
theorem dX6_advance_104 : decode cX6_advance 104 = .ok (.bipush 122, 2) := by decide +kernel
theorem dX6_advance_106 : decode cX6_advance 106 = .ok (.if_icmp .gt 22, 3) := by decide +kernel
theorem dX6_advance_109 : decode cX6_advance 109 = .ok (.aload_n 0, 1) := by decide +kernel
theorem dX6_advance_110 : decode cX6_advance 110 = .ok (.bipush 97, 2) := by decide +kernel
theorem dX6_advance_112 : decode cX6_advance 112 = .ok (.bipush 122, 2) := by decide +kernel
theorem dX6_advance_114 : decode cX6_advance 114 = .ok (.invokevirtual 175, 3) := by decide +kernel
theorem dX6_advance_117 : decode cX6_advance 117 = .ok (.aload_n 0, 1) := by decide +kernel
theorem dX6_advance_118 : decode cX6_advance 118 = .ok (.aload_n 0, 1) := by decide +kernel
theorem dX6_advance_119 : decode cX6_advance 119 = .ok (.invokevirtual 179, 3) := by decide +kernel
theorem dX6_advance_122 : decode cX6_advance 122 = .ok (.putfield 25, 3) := by decide +kernel
theorem dX6_advance_125 : decode cX6_advance 125 = .ok (.goto 120, 3) := by decide +kernel
theorem dX6_advance_128 : decode cX6_advance 128 = .ok (.aload_n 0, 1) := by decide +kernel
theorem dX6_advance_129 : decode cX6_advance 129 = .ok (.getfield 11, 3) := by decide +kernel
theorem dX6_advance_132 : decode cX6_advance 132 = .ok (.aload_n 0, 1) := by decide +kernel
theorem dX6_advance_133 : decode cX6_advance 133 = .ok (.getfield 22, 3) := by decide +kernel
theorem dX6_advance_136 : decode cX6_advance 136 = .ok (.baload, 1) := by decide +kernel
theorem dX6_advance_137 : decode cX6_advance 137 = .ok (.bipush 48, 2) := by decide +kernel
theorem dX6_advance_139 : decode cX6_advance 139 = .ok (.if_icmp .lt 62, 3) := by decide +kernel
theorem dX6_advance_142 : decode cX6_advance 142 = .ok (.aload_n 0, 1) := by decide +kernel
theorem dX6_advance_143 : decode cX6_advance 143 = .ok (.getfield 11, 3) := by decide +kernel
theorem dX6_advance_146 : decode cX6_advance 146 = .ok (.aload_n 0, 1) := by decide +kernel
theorem dX6_advance_147 : decode cX6_advance 147 = .ok (.getfield 22, 3) := by decide +kernel
theorem dX6_advance_150 : decode cX6_advance 150 = .ok (.baload, 1) := by decide +kernel
theorem dX6_advance_151 : decode cX6_advance 151 = .ok (.bipush 57, 2) := by decide +kernel
theorem dX6_advance_153 : decode cX6_advance 153 = .ok (.if_icmp .gt 48, 3) := by decide +kernel
theorem dX6_advance_156 : decode cX6_advance 156 = .ok (.aload_n 0, 1) := by decide +kernel
theorem dX6_advance_157 : decode cX6_advance 157 = .ok (.bipush 48, 2) := by decide +kernel
theorem dX6_advance_159 : decode cX6_advance 159 = .ok (.bipush 57, 2) := by decide +kernel
theorem dX6_advance_161 : decode cX6_advance 161 = .ok (.invokevirtual 175, 3) := by decide +kernel
theorem dX6_advance_164 : decode cX6_advance 164 = .ok (.aload_n 0, 1) := by decide +kernel
theorem dX6_advance_165 : decode cX6_advance 165 = .ok (.aload_n 0, 1) := by decide +kernel
theorem dX6_advance_166 : decode cX6_advance 166 = .ok (.getfield 22, 3) := by decide +kernel
theorem dX6_advance_169 : decode cX6_advance 169 = .ok (.aload_n 0, 1) := by decide +kernel
theorem dX6_advance_170 : decode cX6_advance 170 = .ok (.getfield 28, 3) := by decide +kernel
theorem dX6_advance_173 : decode cX6_advance 173 = .ok (.isub, 1) := by decide +kernel
theorem dX6_advance_174 : decode cX6_advance 174 = .ok (.iconst 3, 1) := by decide +kernel
theorem dX6_advance_175 : decode cX6_advance 175 = .ok (.if_icmp .gt 9, 3) := by decide +kernel
theorem dX6_advance_178 : decode cX6_advance 178 = .ok (.sipush 256, 3) := by decide +kernel
theorem dX6_advance_181 : decode cX6_advance 181 = .ok (.goto 6, 3) := by decide +kernel
theorem dX6_advance_184 : decode cX6_advance 184 = .ok (.sipush 258, 3) := by decide +kernel
theorem dX6_advance_187 : decode cX6_advance 187 = .ok (.putfield 25, 3) := by decide +kernel
theorem dX6_advance_190 : decode cX6_advance 190 = .ok (.aload_n 0, 1) := by decide +kernel
theorem dX6_advance_191 : decode cX6_advance 191 = .ok (.aload_n 0, 1) := by decide +kernel
theorem dX6_advance_192 : decode cX6_advance 192 = .ok (.invokevirtual 183, 3) := by decide +kernel
theorem dX6_advance_195 : decode cX6_advance 195 = .ok (.putfield 31, 3) := by decide +kernel
theorem dX6_advance_198 : decode cX6_advance 198 = .ok (.goto 47, 3) := by decide +kernel
theorem dX6_advance_201 : decode cX6_advance 201 = .ok (.aload_n 0, 1) := by decide +kernel
theorem dX6_advance_202 : decode cX6_advance 202 = .ok (.aload_n 0, 1) := by decide +kernel
theorem dX6_advance_203 : decode cX6_advance 203 = .ok (.getfield 11, 3) := by decide +kernel
theorem dX6_advance_206 : decode cX6_advance 206 = .ok (.aload_n 0, 1) := by decide +kernel
theorem dX6_advance_207 : decode cX6_advance 207 = .ok (.getfield 22, 3) := by decide +kernel
theorem dX6_advance_210 : decode cX6_advance 210 = .ok (.baload, 1) := by decide +kernel
theorem dX6_advance_211 : decode cX6_advance 211 = .ok (.invokestatic 186, 3) := by decide +kernel
theorem dX6_advance_214 : decode cX6_advance 214 = .ok (.ifCond .eq 15, 3) := by decide +kernel
theorem dX6_advance_217 : decode cX6_advance 217 = .ok (.aload_n 0, 1) := by decide +kernel
theorem dX6_advance_218 : decode cX6_advance 218 = .ok (.getfield 11, 3) := by decide +kernel
theorem dX6_advance_221 : decode cX6_advance 221 = .ok (.aload_n 0, 1) := by decide +kernel
theorem dX6_advance_222 : decode cX6_advance 222 = .ok (.getfield 22, 3) := by decide +kernel
theorem dX6_advance_225 : decode cX6_advance 225 = .ok (.baload, 1) := by decide +kernel
theorem dX6_advance_226 : decode cX6_advance 226 = .ok (.goto 6, 3) := by decide +kernel
theorem dX6_advance_229 : decode cX6_advance 229 = .ok (.sipush 258, 3) := by decide +kernel
theorem dX6_advance_232 : decode cX6_advance 232 = .ok (.putfield 25, 3) := by decide +kernel
theorem dX6_advance_235 : decode cX6_advance 235 = .ok (.aload_n 0, 1) := by decide +kernel
theorem dX6_advance_236 : decode cX6_advance 236 = .ok (.dup, 1) := by decide +kernel
theorem dX6_advance_237 : decode cX6_advance 237 = .ok (.getfield 22, 3) := by decide +kernel
theorem dX6_advance_240 : decode cX6_advance 240 = .ok (.iconst 1, 1) := by decide +kernel
theorem dX6_advance_241 : decode cX6_advance 241 = .ok (.iadd, 1) := by decide +kernel
theorem dX6_advance_242 : decode cX6_advance 242 = .ok (.putfield 22, 3) := by decide +kernel
theorem dX6_advance_245 : decode cX6_advance 245 = .ok (.return_, 1) := by decide +kernel
theorem dX6_skip_0 : decode cX6_skip 0 = .ok (.aload_n 0, 1) := by decide +kernel
theorem dX6_skip_1 : decode cX6_skip 1 = .ok (.getfield 22, 3) := by decide +kernel
theorem dX6_skip_4 : decode cX6_skip 4 = .ok (.aload_n 0, 1) := by decide +kernel
theorem dX6_skip_5 : decode cX6_skip 5 = .ok (.getfield 19, 3) := by decide +kernel
theorem dX6_skip_8 : decode cX6_skip 8 = .ok (.if_icmp .ge 42, 3) := by decide +kernel
theorem dX6_skip_11 : decode cX6_skip 11 = .ok (.aload_n 0, 1) := by decide +kernel
theorem dX6_skip_12 : decode cX6_skip 12 = .ok (.getfield 11, 3) := by decide +kernel
theorem dX6_skip_15 : decode cX6_skip 15 = .ok (.aload_n 0, 1) := by decide +kernel
theorem dX6_skip_16 : decode cX6_skip 16 = .ok (.getfield 22, 3) := by decide +kernel
theorem dX6_skip_19 : decode cX6_skip 19 = .ok (.baload, 1) := by decide +kernel
theorem dX6_skip_20 : decode cX6_skip 20 = .ok (.iload_n 1, 1) := by decide +kernel
theorem dX6_skip_21 : decode cX6_skip 21 = .ok (.if_icmp .lt 29, 3) := by decide +kernel
theorem dX6_skip_24 : decode cX6_skip 24 = .ok (.aload_n 0, 1) := by decide +kernel
theorem dX6_skip_25 : decode cX6_skip 25 = .ok (.getfield 11, 3) := by decide +kernel
theorem dX6_skip_28 : decode cX6_skip 28 = .ok (.aload_n 0, 1) := by decide +kernel
theorem dX6_skip_29 : decode cX6_skip 29 = .ok (.getfield 22, 3) := by decide +kernel
theorem dX6_skip_32 : decode cX6_skip 32 = .ok (.baload, 1) := by decide +kernel
theorem dX6_skip_33 : decode cX6_skip 33 = .ok (.iload_n 2, 1) := by decide +kernel
theorem dX6_skip_34 : decode cX6_skip 34 = .ok (.if_icmp .gt 16, 3) := by decide +kernel
theorem dX6_skip_37 : decode cX6_skip 37 = .ok (.aload_n 0, 1) := by decide +kernel
theorem dX6_skip_38 : decode cX6_skip 38 = .ok (.dup, 1) := by decide +kernel
theorem dX6_skip_39 : decode cX6_skip 39 = .ok (.getfield 22, 3) := by decide +kernel
theorem dX6_skip_42 : decode cX6_skip 42 = .ok (.iconst 1, 1) := by decide +kernel
theorem dX6_skip_43 : decode cX6_skip 43 = .ok (.iadd, 1) := by decide +kernel
theorem dX6_skip_44 : decode cX6_skip 44 = .ok (.putfield 22, 3) := by decide +kernel
theorem dX6_skip_47 : decode cX6_skip 47 = .ok (.goto (-47), 3) := by decide +kernel
theorem dX6_skip_50 : decode cX6_skip 50 = .ok (.return_, 1) := by decide +kernel
theorem dX6_numberHere_0 : decode cX6_numberHere 0 = .ok (.iconst 0, 1) := by decide +kernel
theorem dX6_numberHere_1 : decode cX6_numberHere 1 = .ok (.istore_n 1, 1) := by decide +kernel
theorem dX6_numberHere_2 : decode cX6_numberHere 2 = .ok (.aload_n 0, 1) := by decide +kernel
theorem dX6_numberHere_3 : decode cX6_numberHere 3 = .ok (.getfield 28, 3) := by decide +kernel
theorem dX6_numberHere_6 : decode cX6_numberHere 6 = .ok (.istore_n 2, 1) := by decide +kernel
theorem dX6_numberHere_7 : decode cX6_numberHere 7 = .ok (.iload_n 2, 1) := by decide +kernel
theorem dX6_numberHere_8 : decode cX6_numberHere 8 = .ok (.aload_n 0, 1) := by decide +kernel
theorem dX6_numberHere_9 : decode cX6_numberHere 9 = .ok (.getfield 22, 3) := by decide +kernel
theorem dX6_numberHere_12 : decode cX6_numberHere 12 = .ok (.if_icmp .ge 34, 3) := by decide +kernel
theorem dX6_numberHere_15 : decode cX6_numberHere 15 = .ok (.iload_n 2, 1) := by decide +kernel
theorem dX6_numberHere_16 : decode cX6_numberHere 16 = .ok (.aload_n 0, 1) := by decide +kernel
theorem dX6_numberHere_17 : decode cX6_numberHere 17 = .ok (.getfield 28, 3) := by decide +kernel
theorem dX6_numberHere_20 : decode cX6_numberHere 20 = .ok (.iconst 3, 1) := by decide +kernel
theorem dX6_numberHere_21 : decode cX6_numberHere 21 = .ok (.iadd, 1) := by decide +kernel
theorem dX6_numberHere_22 : decode cX6_numberHere 22 = .ok (.if_icmp .ge 24, 3) := by decide +kernel
theorem dX6_numberHere_25 : decode cX6_numberHere 25 = .ok (.bipush 10, 2) := by decide +kernel
theorem dX6_numberHere_27 : decode cX6_numberHere 27 = .ok (.iload_n 1, 1) := by decide +kernel
theorem dX6_numberHere_28 : decode cX6_numberHere 28 = .ok (.imul, 1) := by decide +kernel
theorem dX6_numberHere_29 : decode cX6_numberHere 29 = .ok (.aload_n 0, 1) := by decide +kernel
theorem dX6_numberHere_30 : decode cX6_numberHere 30 = .ok (.getfield 11, 3) := by decide +kernel
theorem dX6_numberHere_33 : decode cX6_numberHere 33 = .ok (.iload_n 2, 1) := by decide +kernel
theorem dX6_numberHere_34 : decode cX6_numberHere 34 = .ok (.baload, 1) := by decide +kernel
theorem dX6_numberHere_35 : decode cX6_numberHere 35 = .ok (.iadd, 1) := by decide +kernel
theorem dX6_numberHere_36 : decode cX6_numberHere 36 = .ok (.bipush 48, 2) := by decide +kernel
theorem dX6_numberHere_38 : decode cX6_numberHere 38 = .ok (.isub, 1) := by decide +kernel
theorem dX6_numberHere_39 : decode cX6_numberHere 39 = .ok (.istore_n 1, 1) := by decide +kernel
theorem dX6_numberHere_40 : decode cX6_numberHere 40 = .ok (.iinc 2 1, 3) := by decide +kernel
theorem dX6_numberHere_43 : decode cX6_numberHere 43 = .ok (.goto (-36), 3) := by decide +kernel
theorem dX6_numberHere_46 : decode cX6_numberHere 46 = .ok (.iload_n 1, 1) := by decide +kernel
theorem dX6_numberHere_47 : decode cX6_numberHere 47 = .ok (.ireturn, 1) := by decide +kernel
theorem dX6_wordHere_0 : decode cX6_wordHere 0 = .ok (.sipush 300, 3) := by decide +kernel
theorem dX6_wordHere_3 : decode cX6_wordHere 3 = .ok (.istore_n 1, 1) := by decide +kernel
theorem dX6_wordHere_4 : decode cX6_wordHere 4 = .ok (.aload_n 0, 1) := by decide +kernel
theorem dX6_wordHere_5 : decode cX6_wordHere 5 = .ok (.getfield 28, 3) := by decide +kernel
theorem dX6_wordHere_8 : decode cX6_wordHere 8 = .ok (.istore_n 2, 1) := by decide +kernel
theorem dX6_wordHere_9 : decode cX6_wordHere 9 = .ok (.iconst 0, 1) := by decide +kernel
theorem dX6_wordHere_10 : decode cX6_wordHere 10 = .ok (.istore_n 3, 1) := by decide +kernel
theorem dX6_wordHere_11 : decode cX6_wordHere 11 = .ok (.iload_n 3, 1) := by decide +kernel
theorem dX6_wordHere_12 : decode cX6_wordHere 12 = .ok (.ldc 189, 2) := by decide +kernel
theorem dX6_wordHere_14 : decode cX6_wordHere 14 = .ok (.invokevirtual 191, 3) := by decide +kernel
theorem dX6_wordHere_17 : decode cX6_wordHere 17 = .ok (.if_icmp .ge 85, 3) := by decide +kernel
theorem dX6_wordHere_20 : decode cX6_wordHere 20 = .ok (.ldc 189, 2) := by decide +kernel
theorem dX6_wordHere_22 : decode cX6_wordHere 22 = .ok (.iload_n 3, 1) := by decide +kernel
theorem dX6_wordHere_23 : decode cX6_wordHere 23 = .ok (.invokevirtual 195, 3) := by decide +kernel
theorem dX6_wordHere_26 : decode cX6_wordHere 26 = .ok (.istore 4, 2) := by decide +kernel
theorem dX6_wordHere_28 : decode cX6_wordHere 28 = .ok (.iload 4, 2) := by decide +kernel
theorem dX6_wordHere_30 : decode cX6_wordHere 30 = .ok (.bipush 32, 2) := by decide +kernel
theorem dX6_wordHere_32 : decode cX6_wordHere 32 = .ok (.if_icmp .ne 24, 3) := by decide +kernel
theorem dX6_wordHere_35 : decode cX6_wordHere 35 = .ok (.iload_n 2, 1) := by decide +kernel
theorem dX6_wordHere_36 : decode cX6_wordHere 36 = .ok (.aload_n 0, 1) := by decide +kernel
theorem dX6_wordHere_37 : decode cX6_wordHere 37 = .ok (.getfield 22, 3) := by decide +kernel
theorem dX6_wordHere_40 : decode cX6_wordHere 40 = .ok (.if_icmp .ne 5, 3) := by decide +kernel
theorem dX6_wordHere_43 : decode cX6_wordHere 43 = .ok (.iload_n 1, 1) := by decide +kernel
theorem dX6_wordHere_44 : decode cX6_wordHere 44 = .ok (.ireturn, 1) := by decide +kernel
theorem dX6_wordHere_45 : decode cX6_wordHere 45 = .ok (.iinc 1 1, 3) := by decide +kernel
theorem dX6_wordHere_48 : decode cX6_wordHere 48 = .ok (.aload_n 0, 1) := by decide +kernel
theorem dX6_wordHere_49 : decode cX6_wordHere 49 = .ok (.getfield 28, 3) := by decide +kernel
theorem dX6_wordHere_52 : decode cX6_wordHere 52 = .ok (.istore_n 2, 1) := by decide +kernel
theorem dX6_wordHere_53 : decode cX6_wordHere 53 = .ok (.goto 43, 3) := by decide +kernel
theorem dX6_wordHere_56 : decode cX6_wordHere 56 = .ok (.iload_n 2, 1) := by decide +kernel
theorem dX6_wordHere_57 : decode cX6_wordHere 57 = .ok (.aload_n 0, 1) := by decide +kernel
theorem dX6_wordHere_58 : decode cX6_wordHere 58 = .ok (.getfield 28, 3) := by decide +kernel
theorem dX6_wordHere_61 : decode cX6_wordHere 61 = .ok (.if_icmp .lt 28, 3) := by decide +kernel
theorem dX6_wordHere_64 : decode cX6_wordHere 64 = .ok (.iload_n 2, 1) := by decide +kernel
theorem dX6_wordHere_65 : decode cX6_wordHere 65 = .ok (.aload_n 0, 1) := by decide +kernel
theorem dX6_wordHere_66 : decode cX6_wordHere 66 = .ok (.getfield 22, 3) := by decide +kernel
theorem dX6_wordHere_69 : decode cX6_wordHere 69 = .ok (.if_icmp .ge 20, 3) := by decide +kernel
theorem dX6_wordHere_72 : decode cX6_wordHere 72 = .ok (.aload_n 0, 1) := by decide +kernel
theorem dX6_wordHere_73 : decode cX6_wordHere 73 = .ok (.getfield 11, 3) := by decide +kernel
theorem dX6_wordHere_76 : decode cX6_wordHere 76 = .ok (.iload_n 2, 1) := by decide +kernel
theorem dX6_wordHere_77 : decode cX6_wordHere 77 = .ok (.baload, 1) := by decide +kernel
theorem dX6_wordHere_78 : decode cX6_wordHere 78 = .ok (.iload 4, 2) := by decide +kernel
theorem dX6_wordHere_80 : decode cX6_wordHere 80 = .ok (.if_icmp .ne 9, 3) := by decide +kernel
theorem dX6_wordHere_83 : decode cX6_wordHere 83 = .ok (.iload_n 2, 1) := by decide +kernel
theorem dX6_wordHere_84 : decode cX6_wordHere 84 = .ok (.iconst 1, 1) := by decide +kernel
theorem dX6_wordHere_85 : decode cX6_wordHere 85 = .ok (.iadd, 1) := by decide +kernel
theorem dX6_wordHere_86 : decode cX6_wordHere 86 = .ok (.goto 9, 3) := by decide +kernel
theorem dX6_wordHere_89 : decode cX6_wordHere 89 = .ok (.aload_n 0, 1) := by decide +kernel
theorem dX6_wordHere_90 : decode cX6_wordHere 90 = .ok (.getfield 28, 3) := by decide +kernel
theorem dX6_wordHere_93 : decode cX6_wordHere 93 = .ok (.iconst 1, 1) := by decide +kernel
theorem dX6_wordHere_94 : decode cX6_wordHere 94 = .ok (.isub, 1) := by decide +kernel
theorem dX6_wordHere_95 : decode cX6_wordHere 95 = .ok (.istore_n 2, 1) := by decide +kernel
theorem dX6_wordHere_96 : decode cX6_wordHere 96 = .ok (.iinc 3 1, 3) := by decide +kernel
theorem dX6_wordHere_99 : decode cX6_wordHere 99 = .ok (.goto (-88), 3) := by decide +kernel
theorem dX6_wordHere_102 : decode cX6_wordHere 102 = .ok (.sipush 299, 3) := by decide +kernel
theorem dX6_wordHere_105 : decode cX6_wordHere 105 = .ok (.ireturn, 1) := by decide +kernel
theorem dX6_isSign_0 : decode cX6_isSign 0 = .ok (.iload_n 0, 1) := by decide +kernel
theorem dX6_isSign_1 : decode cX6_isSign 1 = .ok (.bipush 40, 2) := by decide +kernel
theorem dX6_isSign_3 : decode cX6_isSign 3 = .ok (.if_icmp .lt 9, 3) := by decide +kernel
theorem dX6_isSign_6 : decode cX6_isSign 6 = .ok (.iload_n 0, 1) := by decide +kernel
theorem dX6_isSign_7 : decode cX6_isSign 7 = .ok (.bipush 43, 2) := by decide +kernel
theorem dX6_isSign_9 : decode cX6_isSign 9 = .ok (.if_icmp .le 33, 3) := by decide +kernel
theorem dX6_isSign_12 : decode cX6_isSign 12 = .ok (.iload_n 0, 1) := by decide +kernel
theorem dX6_isSign_13 : decode cX6_isSign 13 = .ok (.bipush 45, 2) := by decide +kernel
theorem dX6_isSign_15 : decode cX6_isSign 15 = .ok (.if_icmp .eq 27, 3) := by decide +kernel
theorem dX6_isSign_18 : decode cX6_isSign 18 = .ok (.iload_n 0, 1) := by decide +kernel
theorem dX6_isSign_19 : decode cX6_isSign 19 = .ok (.bipush 58, 2) := by decide +kernel
theorem dX6_isSign_21 : decode cX6_isSign 21 = .ok (.if_icmp .lt 9, 3) := by decide +kernel
theorem dX6_isSign_24 : decode cX6_isSign 24 = .ok (.iload_n 0, 1) := by decide +kernel
theorem dX6_isSign_25 : decode cX6_isSign 25 = .ok (.bipush 62, 2) := by decide +kernel
theorem dX6_isSign_27 : decode cX6_isSign 27 = .ok (.if_icmp .le 15, 3) := by decide +kernel
theorem dX6_isSign_30 : decode cX6_isSign 30 = .ok (.iload_n 0, 1) := by decide +kernel
theorem dX6_isSign_31 : decode cX6_isSign 31 = .ok (.bipush 91, 2) := by decide +kernel
theorem dX6_isSign_33 : decode cX6_isSign 33 = .ok (.if_icmp .eq 9, 3) := by decide +kernel
theorem dX6_isSign_36 : decode cX6_isSign 36 = .ok (.iload_n 0, 1) := by decide +kernel
theorem dX6_isSign_37 : decode cX6_isSign 37 = .ok (.bipush 93, 2) := by decide +kernel
theorem dX6_isSign_39 : decode cX6_isSign 39 = .ok (.if_icmp .ne 7, 3) := by decide +kernel
theorem dX6_isSign_42 : decode cX6_isSign 42 = .ok (.iconst 1, 1) := by decide +kernel
theorem dX6_isSign_43 : decode cX6_isSign 43 = .ok (.goto 4, 3) := by decide +kernel
theorem dX6_isSign_46 : decode cX6_isSign 46 = .ok (.iconst 0, 1) := by decide +kernel
theorem dX6_isSign_47 : decode cX6_isSign 47 = .ok (.ireturn, 1) := by decide +kernel
