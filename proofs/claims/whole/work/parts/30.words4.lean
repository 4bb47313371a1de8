theorem dX9_side_44 : decode cX9_side 44 = .ok (.iload_n 3, 1) := by decide +kernel
theorem dX9_side_45 : decode cX9_side 45 = .ok (.iaload, 1) := by decide +kernel
theorem dX9_side_46 : decode cX9_side 46 = .ok (.aload_n 0, 1) := by decide +kernel
theorem dX9_side_47 : decode cX9_side 47 = .ok (.getfield 86, 3) := by decide +kernel
theorem dX9_side_50 : decode cX9_side 50 = .ok (.iload_n 1, 1) := by decide +kernel
theorem dX9_side_51 : decode cX9_side 51 = .ok (.iaload, 1) := by decide +kernel
theorem dX9_side_52 : decode cX9_side 52 = .ok (.isub, 1) := by decide +kernel
theorem dX9_side_53 : decode cX9_side 53 = .ok (.imul, 1) := by decide +kernel
theorem dX9_side_54 : decode cX9_side 54 = .ok (.isub, 1) := by decide +kernel
theorem dX9_side_55 : decode cX9_side 55 = .ok (.istore 4, 2) := by decide +kernel
theorem dX9_side_57 : decode cX9_side 57 = .ok (.iload 4, 2) := by decide +kernel
theorem dX9_side_59 : decode cX9_side 59 = .ok (.ifCond .le 7, 3) := by decide +kernel
theorem dX9_side_62 : decode cX9_side 62 = .ok (.iconst 1, 1) := by decide +kernel
theorem dX9_side_63 : decode cX9_side 63 = .ok (.goto 13, 3) := by decide +kernel
theorem dX9_side_66 : decode cX9_side 66 = .ok (.iload 4, 2) := by decide +kernel
theorem dX9_side_68 : decode cX9_side 68 = .ok (.ifCond .ge 7, 3) := by decide +kernel
theorem dX9_side_71 : decode cX9_side 71 = .ok (.iconst (-1), 1) := by decide +kernel
theorem dX9_side_72 : decode cX9_side 72 = .ok (.goto 4, 3) := by decide +kernel
theorem dX9_side_75 : decode cX9_side 75 = .ok (.iconst 0, 1) := by decide +kernel
theorem dX9_side_76 : decode cX9_side 76 = .ok (.ireturn, 1) := by decide +kernel
theorem dX9_split_0 : decode cX9_split 0 = .ok (.aload_n 0, 1) := by decide +kernel
theorem dX9_split_1 : decode cX9_split 1 = .ok (.getfield 47, 3) := by decide +kernel
theorem dX9_split_4 : decode cX9_split 4 = .ok (.iload_n 1, 1) := by decide +kernel
theorem dX9_split_5 : decode cX9_split 5 = .ok (.iaload, 1) := by decide +kernel
theorem dX9_split_6 : decode cX9_split 6 = .ok (.istore_n 2, 1) := by decide +kernel
theorem dX9_split_7 : decode cX9_split 7 = .ok (.iconst 0, 1) := by decide +kernel
theorem dX9_split_8 : decode cX9_split 8 = .ok (.istore_n 3, 1) := by decide +kernel
theorem dX9_split_9 : decode cX9_split 9 = .ok (.iload_n 3, 1) := by decide +kernel
theorem dX9_split_10 : decode cX9_split 10 = .ok (.iload_n 2, 1) := by decide +kernel
theorem dX9_split_11 : decode cX9_split 11 = .ok (.if_icmp .ge 26, 3) := by decide +kernel
theorem dX9_split_14 : decode cX9_split 14 = .ok (.aload_n 0, 1) := by decide +kernel
theorem dX9_split_15 : decode cX9_split 15 = .ok (.getfield 62, 3) := by decide +kernel
theorem dX9_split_18 : decode cX9_split 18 = .ok (.iload_n 3, 1) := by decide +kernel
theorem dX9_split_19 : decode cX9_split 19 = .ok (.aload_n 0, 1) := by decide +kernel
theorem dX9_split_20 : decode cX9_split 20 = .ok (.getfield 44, 3) := by decide +kernel
theorem dX9_split_23 : decode cX9_split 23 = .ok (.bipush 21, 2) := by decide +kernel
theorem dX9_split_25 : decode cX9_split 25 = .ok (.iload_n 1, 1) := by decide +kernel
theorem dX9_split_26 : decode cX9_split 26 = .ok (.imul, 1) := by decide +kernel
theorem dX9_split_27 : decode cX9_split 27 = .ok (.iload_n 3, 1) := by decide +kernel
theorem dX9_split_28 : decode cX9_split 28 = .ok (.iadd, 1) := by decide +kernel
theorem dX9_split_29 : decode cX9_split 29 = .ok (.iaload, 1) := by decide +kernel
theorem dX9_split_30 : decode cX9_split 30 = .ok (.iastore, 1) := by decide +kernel
theorem dX9_split_31 : decode cX9_split 31 = .ok (.iinc 3 1, 3) := by decide +kernel
theorem dX9_split_34 : decode cX9_split 34 = .ok (.goto (-25), 3) := by decide +kernel
theorem dX9_split_37 : decode cX9_split 37 = .ok (.aload_n 0, 1) := by decide +kernel
theorem dX9_split_38 : decode cX9_split 38 = .ok (.getfield 53, 3) := by decide +kernel
theorem dX9_split_41 : decode cX9_split 41 = .ok (.iconst 0, 1) := by decide +kernel
theorem dX9_split_42 : decode cX9_split 42 = .ok (.iaload, 1) := by decide +kernel
theorem dX9_split_43 : decode cX9_split 43 = .ok (.istore_n 3, 1) := by decide +kernel
theorem dX9_split_44 : decode cX9_split 44 = .ok (.aload_n 0, 1) := by decide +kernel
theorem dX9_split_45 : decode cX9_split 45 = .ok (.getfield 53, 3) := by decide +kernel
theorem dX9_split_48 : decode cX9_split 48 = .ok (.aload_n 0, 1) := by decide +kernel
theorem dX9_split_49 : decode cX9_split 49 = .ok (.getfield 160, 3) := by decide +kernel
theorem dX9_split_52 : decode cX9_split 52 = .ok (.iconst 1, 1) := by decide +kernel
theorem dX9_split_53 : decode cX9_split 53 = .ok (.isub, 1) := by decide +kernel
theorem dX9_split_54 : decode cX9_split 54 = .ok (.iaload, 1) := by decide +kernel
theorem dX9_split_55 : decode cX9_split 55 = .ok (.istore 4, 2) := by decide +kernel
theorem dX9_split_57 : decode cX9_split 57 = .ok (.iconst 0, 1) := by decide +kernel
theorem dX9_split_58 : decode cX9_split 58 = .ok (.istore 5, 2) := by decide +kernel
theorem dX9_split_60 : decode cX9_split 60 = .ok (.aload_n 0, 1) := by decide +kernel
theorem dX9_split_61 : decode cX9_split 61 = .ok (.getfield 62, 3) := by decide +kernel
theorem dX9_split_64 : decode cX9_split 64 = .ok (.iload 5, 2) := by decide +kernel
theorem dX9_split_66 : decode cX9_split 66 = .ok (.iaload, 1) := by decide +kernel
theorem dX9_split_67 : decode cX9_split 67 = .ok (.iload_n 3, 1) := by decide +kernel
theorem dX9_split_68 : decode cX9_split 68 = .ok (.if_icmp .eq 9, 3) := by decide +kernel
theorem dX9_split_71 : decode cX9_split 71 = .ok (.iinc 5 1, 3) := by decide +kernel
theorem dX9_split_74 : decode cX9_split 74 = .ok (.goto (-14), 3) := by decide +kernel
theorem dX9_split_77 : decode cX9_split 77 = .ok (.iconst 0, 1) := by decide +kernel
theorem dX9_split_78 : decode cX9_split 78 = .ok (.istore 6, 2) := by decide +kernel
theorem dX9_split_80 : decode cX9_split 80 = .ok (.aload_n 0, 1) := by decide +kernel
theorem dX9_split_81 : decode cX9_split 81 = .ok (.getfield 62, 3) := by decide +kernel
theorem dX9_split_84 : decode cX9_split 84 = .ok (.iload 6, 2) := by decide +kernel
theorem dX9_split_86 : decode cX9_split 86 = .ok (.iaload, 1) := by decide +kernel
theorem dX9_split_87 : decode cX9_split 87 = .ok (.iload 4, 2) := by decide +kernel
theorem dX9_split_89 : decode cX9_split 89 = .ok (.if_icmp .eq 9, 3) := by decide +kernel
theorem dX9_split_92 : decode cX9_split 92 = .ok (.iinc 6 1, 3) := by decide +kernel
theorem dX9_split_95 : decode cX9_split 95 = .ok (.goto (-15), 3) := by decide +kernel
theorem dX9_split_98 : decode cX9_split 98 = .ok (.aload_n 0, 1) := by decide +kernel
theorem dX9_split_99 : decode cX9_split 99 = .ok (.getfield 50, 3) := by decide +kernel
theorem dX9_split_102 : decode cX9_split 102 = .ok (.iload_n 1, 1) := by decide +kernel
theorem dX9_split_103 : decode cX9_split 103 = .ok (.iconst 0, 1) := by decide +kernel
theorem dX9_split_104 : decode cX9_split 104 = .ok (.iastore, 1) := by decide +kernel
theorem dX9_split_105 : decode cX9_split 105 = .ok (.iconst 0, 1) := by decide +kernel
theorem dX9_split_106 : decode cX9_split 106 = .ok (.istore 7, 2) := by decide +kernel
theorem dX9_split_108 : decode cX9_split 108 = .ok (.iload 5, 2) := by decide +kernel
theorem dX9_split_110 : decode cX9_split 110 = .ok (.istore 8, 2) := by decide +kernel
theorem dX9_split_112 : decode cX9_split 112 = .ok (.iload 8, 2) := by decide +kernel
theorem dX9_split_114 : decode cX9_split 114 = .ok (.iload 6, 2) := by decide +kernel
theorem dX9_split_116 : decode cX9_split 116 = .ok (.if_icmp .eq 31, 3) := by decide +kernel
theorem dX9_split_119 : decode cX9_split 119 = .ok (.aload_n 0, 1) := by decide +kernel
theorem dX9_split_120 : decode cX9_split 120 = .ok (.iload_n 1, 1) := by decide +kernel
theorem dX9_split_121 : decode cX9_split 121 = .ok (.iload 7, 2) := by decide +kernel
theorem dX9_split_123 : decode cX9_split 123 = .ok (.aload_n 0, 1) := by decide +kernel
theorem dX9_split_124 : decode cX9_split 124 = .ok (.getfield 62, 3) := by decide +kernel
theorem dX9_split_127 : decode cX9_split 127 = .ok (.iload 8, 2) := by decide +kernel
theorem dX9_split_129 : decode cX9_split 129 = .ok (.iaload, 1) := by decide +kernel
theorem dX9_split_130 : decode cX9_split 130 = .ok (.invokevirtual 177, 3) := by decide +kernel
theorem dX9_split_133 : decode cX9_split 133 = .ok (.iinc 7 1, 3) := by decide +kernel
theorem dX9_split_136 : decode cX9_split 136 = .ok (.iload 8, 2) := by decide +kernel
theorem dX9_split_138 : decode cX9_split 138 = .ok (.iconst 1, 1) := by decide +kernel
theorem dX9_split_139 : decode cX9_split 139 = .ok (.iadd, 1) := by decide +kernel
theorem dX9_split_140 : decode cX9_split 140 = .ok (.iload_n 2, 1) := by decide +kernel
theorem dX9_split_141 : decode cX9_split 141 = .ok (.irem, 1) := by decide +kernel
theorem dX9_split_142 : decode cX9_split 142 = .ok (.istore 8, 2) := by decide +kernel
theorem dX9_split_144 : decode cX9_split 144 = .ok (.goto (-32), 3) := by decide +kernel
theorem dX9_split_147 : decode cX9_split 147 = .ok (.aload_n 0, 1) := by decide +kernel
theorem dX9_split_148 : decode cX9_split 148 = .ok (.getfield 160, 3) := by decide +kernel
theorem dX9_split_151 : decode cX9_split 151 = .ok (.iconst 1, 1) := by decide +kernel
theorem dX9_split_152 : decode cX9_split 152 = .ok (.isub, 1) := by decide +kernel
theorem dX9_split_153 : decode cX9_split 153 = .ok (.istore 8, 2) := by decide +kernel
theorem dX9_split_155 : decode cX9_split 155 = .ok (.iload 8, 2) := by decide +kernel
theorem dX9_split_157 : decode cX9_split 157 = .ok (.ifCond .le 26, 3) := by decide +kernel
theorem dX9_split_160 : decode cX9_split 160 = .ok (.aload_n 0, 1) := by decide +kernel
theorem dX9_split_161 : decode cX9_split 161 = .ok (.iload_n 1, 1) := by decide +kernel
theorem dX9_split_162 : decode cX9_split 162 = .ok (.iload 7, 2) := by decide +kernel
theorem dX9_split_164 : decode cX9_split 164 = .ok (.aload_n 0, 1) := by decide +kernel
theorem dX9_split_165 : decode cX9_split 165 = .ok (.getfield 53, 3) := by decide +kernel
theorem dX9_split_168 : decode cX9_split 168 = .ok (.iload 8, 2) := by decide +kernel
theorem dX9_split_170 : decode cX9_split 170 = .ok (.iaload, 1) := by decide +kernel
theorem dX9_split_171 : decode cX9_split 171 = .ok (.invokevirtual 177, 3) := by decide +kernel
theorem dX9_split_174 : decode cX9_split 174 = .ok (.iinc 7 1, 3) := by decide +kernel
theorem dX9_split_177 : decode cX9_split 177 = .ok (.iinc 8 (-1), 3) := by decide +kernel
theorem dX9_split_180 : decode cX9_split 180 = .ok (.goto (-25), 3) := by decide +kernel
theorem dX9_split_183 : decode cX9_split 183 = .ok (.aload_n 0, 1) := by decide +kernel
theorem dX9_split_184 : decode cX9_split 184 = .ok (.getfield 174, 3) := by decide +kernel
theorem dX9_split_187 : decode cX9_split 187 = .ok (.istore 8, 2) := by decide +kernel
theorem dX9_split_189 : decode cX9_split 189 = .ok (.aload_n 0, 1) := by decide +kernel
theorem dX9_split_190 : decode cX9_split 190 = .ok (.dup, 1) := by decide +kernel
theorem dX9_split_191 : decode cX9_split 191 = .ok (.getfield 174, 3) := by decide +kernel
theorem dX9_split_194 : decode cX9_split 194 = .ok (.iconst 1, 1) := by decide +kernel
theorem dX9_split_195 : decode cX9_split 195 = .ok (.iadd, 1) := by decide +kernel
theorem dX9_split_196 : decode cX9_split 196 = .ok (.putfield 174, 3) := by decide +kernel
theorem dX9_split_199 : decode cX9_split 199 = .ok (.aload_n 0, 1) := by decide +kernel
theorem dX9_split_200 : decode cX9_split 200 = .ok (.getfield 50, 3) := by decide +kernel
theorem dX9_split_203 : decode cX9_split 203 = .ok (.iload 8, 2) := by decide +kernel
theorem dX9_split_205 : decode cX9_split 205 = .ok (.iconst 0, 1) := by decide +kernel
theorem dX9_split_206 : decode cX9_split 206 = .ok (.iastore, 1) := by decide +kernel
theorem dX9_split_207 : decode cX9_split 207 = .ok (.iconst 0, 1) := by decide +kernel
theorem dX9_split_208 : decode cX9_split 208 = .ok (.istore 7, 2) := by decide +kernel
theorem dX9_split_210 : decode cX9_split 210 = .ok (.iload 6, 2) := by decide +kernel
theorem dX9_split_212 : decode cX9_split 212 = .ok (.istore 9, 2) := by decide +kernel
theorem dX9_split_214 : decode cX9_split 214 = .ok (.iload 9, 2) := by decide +kernel
theorem dX9_split_216 : decode cX9_split 216 = .ok (.iload 5, 2) := by decide +kernel
theorem dX9_split_218 : decode cX9_split 218 = .ok (.if_icmp .eq 32, 3) := by decide +kernel
theorem dX9_split_221 : decode cX9_split 221 = .ok (.aload_n 0, 1) := by decide +kernel
theorem dX9_split_222 : decode cX9_split 222 = .ok (.iload 8, 2) := by decide +kernel
theorem dX9_split_224 : decode cX9_split 224 = .ok (.iload 7, 2) := by decide +kernel
theorem dX9_split_226 : decode cX9_split 226 = .ok (.aload_n 0, 1) := by decide +kernel
theorem dX9_split_227 : decode cX9_split 227 = .ok (.getfield 62, 3) := by decide +kernel
theorem dX9_split_230 : decode cX9_split 230 = .ok (.iload 9, 2) := by decide +kernel
theorem dX9_split_232 : decode cX9_split 232 = .ok (.iaload, 1) := by decide +kernel
theorem dX9_split_233 : decode cX9_split 233 = .ok (.invokevirtual 177, 3) := by decide +kernel
theorem dX9_split_236 : decode cX9_split 236 = .ok (.iinc 7 1, 3) := by decide +kernel
theorem dX9_split_239 : decode cX9_split 239 = .ok (.iload 9, 2) := by decide +kernel
theorem dX9_split_241 : decode cX9_split 241 = .ok (.iconst 1, 1) := by decide +kernel
theorem dX9_split_242 : decode cX9_split 242 = .ok (.iadd, 1) := by decide +kernel
theorem dX9_split_243 : decode cX9_split 243 = .ok (.iload_n 2, 1) := by decide +kernel
theorem dX9_split_244 : decode cX9_split 244 = .ok (.irem, 1) := by decide +kernel
theorem dX9_split_245 : decode cX9_split 245 = .ok (.istore 9, 2) := by decide +kernel
theorem dX9_split_247 : decode cX9_split 247 = .ok (.goto (-33), 3) := by decide +kernel
theorem dX9_split_250 : decode cX9_split 250 = .ok (.iconst 0, 1) := by decide +kernel
theorem dX9_split_251 : decode cX9_split 251 = .ok (.istore 9, 2) := by decide +kernel
theorem dX9_split_253 : decode cX9_split 253 = .ok (.iload 9, 2) := by decide +kernel
theorem dX9_split_255 : decode cX9_split 255 = .ok (.iconst 1, 1) := by decide +kernel
theorem dX9_split_256 : decode cX9_split 256 = .ok (.iadd, 1) := by decide +kernel
theorem dX9_split_257 : decode cX9_split 257 = .ok (.aload_n 0, 1) := by decide +kernel
theorem dX9_split_258 : decode cX9_split 258 = .ok (.getfield 160, 3) := by decide +kernel
theorem dX9_split_261 : decode cX9_split 261 = .ok (.if_icmp .ge 27, 3) := by decide +kernel
theorem dX9_split_264 : decode cX9_split 264 = .ok (.aload_n 0, 1) := by decide +kernel
theorem dX9_split_265 : decode cX9_split 265 = .ok (.iload 8, 2) := by decide +kernel
theorem dX9_split_267 : decode cX9_split 267 = .ok (.iload 7, 2) := by decide +kernel
theorem dX9_split_269 : decode cX9_split 269 = .ok (.aload_n 0, 1) := by decide +kernel
theorem dX9_split_270 : decode cX9_split 270 = .ok (.getfield 53, 3) := by decide +kernel
theorem dX9_split_273 : decode cX9_split 273 = .ok (.iload 9, 2) := by decide +kernel
theorem dX9_split_275 : decode cX9_split 275 = .ok (.iaload, 1) := by decide +kernel
theorem dX9_split_276 : decode cX9_split 276 = .ok (.invokevirtual 177, 3) := by decide +kernel
theorem dX9_split_279 : decode cX9_split 279 = .ok (.iinc 7 1, 3) := by decide +kernel
theorem dX9_split_282 : decode cX9_split 282 = .ok (.iinc 9 1, 3) := by decide +kernel
theorem dX9_split_285 : decode cX9_split 285 = .ok (.goto (-32), 3) := by decide +kernel
theorem dX9_split_288 : decode cX9_split 288 = .ok (.return_, 1) := by decide +kernel
theorem dX9_strand_10 : decode cX9_strand 10 = .ok (.aload_n 0, 1) := by decide +kernel
theorem dX9_strand_11 : decode cX9_strand 11 = .ok (.invokevirtual 318, 3) := by decide +kernel
theorem dX9_strand_14 : decode cX9_strand 14 = .ok (.ifCond .ne 12, 3) := by decide +kernel
theorem dX9_strand_17 : decode cX9_strand 17 = .ok (.aload_n 0, 1) := by decide +kernel
theorem dX9_strand_18 : decode cX9_strand 18 = .ok (.getfield 92, 3) := by decide +kernel
theorem dX9_strand_21 : decode cX9_strand 21 = .ok (.iload_n 1, 1) := by decide +kernel
theorem dX9_strand_22 : decode cX9_strand 22 = .ok (.baload, 1) := by decide +kernel
theorem dX9_strand_23 : decode cX9_strand 23 = .ok (.ifCond .ne 6, 3) := by decide +kernel
theorem dX9_strand_26 : decode cX9_strand 26 = .ok (.bipush (-3), 2) := by decide +kernel
theorem dX9_strand_28 : decode cX9_strand 28 = .ok (.ireturn, 1) := by decide +kernel
theorem dX9_strand_29 : decode cX9_strand 29 = .ok (.aload_n 0, 1) := by decide +kernel
theorem dX9_strand_30 : decode cX9_strand 30 = .ok (.iload_n 1, 1) := by decide +kernel
theorem dX9_strand_31 : decode cX9_strand 31 = .ok (.aload_n 0, 1) := by decide +kernel
theorem dX9_strand_32 : decode cX9_strand 32 = .ok (.getfield 7, 3) := by decide +kernel
theorem dX9_strand_35 : decode cX9_strand 35 = .ok (.iload_n 1, 1) := by decide +kernel
theorem dX9_strand_36 : decode cX9_strand 36 = .ok (.iaload, 1) := by decide +kernel
theorem dX9_strand_37 : decode cX9_strand 37 = .ok (.invokevirtual 347, 3) := by decide +kernel
theorem dX9_strand_40 : decode cX9_strand 40 = .ok (.istore_n 2, 1) := by decide +kernel
theorem dX9_strand_41 : decode cX9_strand 41 = .ok (.aload_n 0, 1) := by decide +kernel
theorem dX9_strand_42 : decode cX9_strand 42 = .ok (.iload_n 1, 1) := by decide +kernel
theorem dX9_strand_43 : decode cX9_strand 43 = .ok (.aload_n 0, 1) := by decide +kernel
theorem dX9_strand_44 : decode cX9_strand 44 = .ok (.getfield 13, 3) := by decide +kernel
theorem dX9_strand_47 : decode cX9_strand 47 = .ok (.iload_n 1, 1) := by decide +kernel
theorem dX9_strand_48 : decode cX9_strand 48 = .ok (.iaload, 1) := by decide +kernel
theorem dX9_strand_49 : decode cX9_strand 49 = .ok (.invokevirtual 347, 3) := by decide +kernel
theorem dX9_strand_52 : decode cX9_strand 52 = .ok (.istore_n 3, 1) := by decide +kernel
theorem dX9_strand_53 : decode cX9_strand 53 = .ok (.iload_n 2, 1) := by decide +kernel
theorem dX9_strand_54 : decode cX9_strand 54 = .ok (.iload_n 3, 1) := by decide +kernel
theorem dX9_strand_55 : decode cX9_strand 55 = .ok (.if_icmp .ge 12, 3) := by decide +kernel
theorem dX9_strand_58 : decode cX9_strand 58 = .ok (.bipush 32, 2) := by decide +kernel
theorem dX9_strand_60 : decode cX9_strand 60 = .ok (.iload_n 2, 1) := by decide +kernel
theorem dX9_strand_61 : decode cX9_strand 61 = .ok (.imul, 1) := by decide +kernel
theorem dX9_strand_62 : decode cX9_strand 62 = .ok (.iload_n 3, 1) := by decide +kernel
theorem dX9_strand_63 : decode cX9_strand 63 = .ok (.iadd, 1) := by decide +kernel
theorem dX9_strand_64 : decode cX9_strand 64 = .ok (.goto 9, 3) := by decide +kernel
theorem dX9_strand_67 : decode cX9_strand 67 = .ok (.bipush 32, 2) := by decide +kernel
theorem dX9_strand_69 : decode cX9_strand 69 = .ok (.iload_n 3, 1) := by decide +kernel
theorem dX9_strand_70 : decode cX9_strand 70 = .ok (.imul, 1) := by decide +kernel
theorem dX9_strand_71 : decode cX9_strand 71 = .ok (.iload_n 2, 1) := by decide +kernel
theorem dX9_strand_72 : decode cX9_strand 72 = .ok (.iadd, 1) := by decide +kernel
theorem dX9_strand_73 : decode cX9_strand 73 = .ok (.ireturn, 1) := by decide +kernel
theorem dX9_swap_8 : decode cX9_swap 8 = .ok (.iload_n 2, 1) := by decide +kernel
theorem dX9_swap_9 : decode cX9_swap 9 = .ok (.ifCond .lt 27, 3) := by decide +kernel
theorem dX9_swap_12 : decode cX9_swap 12 = .ok (.iload_n 2, 1) := by decide +kernel
theorem dX9_swap_13 : decode cX9_swap 13 = .ok (.aload_n 0, 1) := by decide +kernel
theorem dX9_swap_14 : decode cX9_swap 14 = .ok (.getfield 23, 3) := by decide +kernel
theorem dX9_swap_17 : decode cX9_swap 17 = .ok (.iload_n 1, 1) := by decide +kernel
theorem dX9_swap_18 : decode cX9_swap 18 = .ok (.iaload, 1) := by decide +kernel
theorem dX9_swap_19 : decode cX9_swap 19 = .ok (.if_icmp .ge 17, 3) := by decide +kernel
theorem dX9_swap_22 : decode cX9_swap 22 = .ok (.iload_n 3, 1) := by decide +kernel
theorem dX9_swap_23 : decode cX9_swap 23 = .ok (.ifCond .lt 13, 3) := by decide +kernel
theorem dX9_swap_26 : decode cX9_swap 26 = .ok (.iload_n 3, 1) := by decide +kernel
theorem dX9_swap_27 : decode cX9_swap 27 = .ok (.aload_n 0, 1) := by decide +kernel
theorem dX9_swap_28 : decode cX9_swap 28 = .ok (.getfield 23, 3) := by decide +kernel
theorem dX9_swap_31 : decode cX9_swap 31 = .ok (.iload_n 1, 1) := by decide +kernel
theorem dX9_swap_32 : decode cX9_swap 32 = .ok (.iaload, 1) := by decide +kernel
theorem dX9_swap_33 : decode cX9_swap 33 = .ok (.if_icmp .lt 5, 3) := by decide +kernel
theorem dX9_swap_38 : decode cX9_swap 38 = .ok (.aload_n 0, 1) := by decide +kernel
theorem dX9_swap_39 : decode cX9_swap 39 = .ok (.getfield 20, 3) := by decide +kernel
theorem dX9_swap_42 : decode cX9_swap 42 = .ok (.sipush 160, 3) := by decide +kernel
theorem dX9_swap_45 : decode cX9_swap 45 = .ok (.iload_n 1, 1) := by decide +kernel
theorem dX9_swap_46 : decode cX9_swap 46 = .ok (.imul, 1) := by decide +kernel
theorem dX9_swap_47 : decode cX9_swap 47 = .ok (.iload_n 2, 1) := by decide +kernel
theorem dX9_swap_48 : decode cX9_swap 48 = .ok (.iadd, 1) := by decide +kernel
theorem dX9_swap_49 : decode cX9_swap 49 = .ok (.iaload, 1) := by decide +kernel
theorem dX9_swap_50 : decode cX9_swap 50 = .ok (.istore 4, 2) := by decide +kernel
theorem dX9_swap_52 : decode cX9_swap 52 = .ok (.aload_n 0, 1) := by decide +kernel
theorem dX9_swap_53 : decode cX9_swap 53 = .ok (.getfield 20, 3) := by decide +kernel
theorem dX9_swap_56 : decode cX9_swap 56 = .ok (.sipush 160, 3) := by decide +kernel
theorem dX9_swap_59 : decode cX9_swap 59 = .ok (.iload_n 1, 1) := by decide +kernel
theorem dX9_swap_60 : decode cX9_swap 60 = .ok (.imul, 1) := by decide +kernel
theorem dX9_swap_61 : decode cX9_swap 61 = .ok (.iload_n 2, 1) := by decide +kernel
theorem dX9_swap_62 : decode cX9_swap 62 = .ok (.iadd, 1) := by decide +kernel
theorem dX9_swap_63 : decode cX9_swap 63 = .ok (.aload_n 0, 1) := by decide +kernel
theorem dX9_swap_64 : decode cX9_swap 64 = .ok (.getfield 20, 3) := by decide +kernel
theorem dX9_swap_67 : decode cX9_swap 67 = .ok (.sipush 160, 3) := by decide +kernel
theorem dX9_swap_70 : decode cX9_swap 70 = .ok (.iload_n 1, 1) := by decide +kernel
theorem dX9_swap_71 : decode cX9_swap 71 = .ok (.imul, 1) := by decide +kernel
theorem dX9_swap_72 : decode cX9_swap 72 = .ok (.iload_n 3, 1) := by decide +kernel
theorem dX9_swap_73 : decode cX9_swap 73 = .ok (.iadd, 1) := by decide +kernel
theorem dX9_swap_74 : decode cX9_swap 74 = .ok (.iaload, 1) := by decide +kernel
theorem dX9_swap_75 : decode cX9_swap 75 = .ok (.iastore, 1) := by decide +kernel
theorem dX9_swap_76 : decode cX9_swap 76 = .ok (.aload_n 0, 1) := by decide +kernel
theorem dX9_swap_77 : decode cX9_swap 77 = .ok (.getfield 20, 3) := by decide +kernel
theorem dX9_swap_80 : decode cX9_swap 80 = .ok (.sipush 160, 3) := by decide +kernel
theorem dX9_swap_83 : decode cX9_swap 83 = .ok (.iload_n 1, 1) := by decide +kernel
theorem dX9_swap_84 : decode cX9_swap 84 = .ok (.imul, 1) := by decide +kernel
theorem dX9_swap_85 : decode cX9_swap 85 = .ok (.iload_n 3, 1) := by decide +kernel
theorem dX9_swap_86 : decode cX9_swap 86 = .ok (.iadd, 1) := by decide +kernel
theorem dX9_swap_87 : decode cX9_swap 87 = .ok (.iload 4, 2) := by decide +kernel
theorem dX9_swap_89 : decode cX9_swap 89 = .ok (.iastore, 1) := by decide +kernel
theorem dX9_swap_90 : decode cX9_swap 90 = .ok (.iconst 1, 1) := by decide +kernel
theorem dX9_swap_91 : decode cX9_swap 91 = .ok (.ireturn, 1) := by decide +kernel
theorem dX9_take_7 : decode cX9_take 7 = .ok (.bipush (-3), 2) := by decide +kernel
theorem dX9_take_9 : decode cX9_take 9 = .ok (.ireturn, 1) := by decide +kernel
theorem dX9_take_20 : decode cX9_take 20 = .ok (.iconst 0, 1) := by decide +kernel
theorem dX9_take_21 : decode cX9_take 21 = .ok (.istore_n 2, 1) := by decide +kernel
theorem dX9_take_22 : decode cX9_take 22 = .ok (.iload_n 2, 1) := by decide +kernel
theorem dX9_take_23 : decode cX9_take 23 = .ok (.aload_n 0, 1) := by decide +kernel
theorem dX9_take_24 : decode cX9_take 24 = .ok (.getfield 83, 3) := by decide +kernel
theorem dX9_take_27 : decode cX9_take 27 = .ok (.iload_n 1, 1) := by decide +kernel
theorem dX9_take_28 : decode cX9_take 28 = .ok (.iaload, 1) := by decide +kernel
theorem dX9_take_29 : decode cX9_take 29 = .ok (.if_icmp .ge 33, 3) := by decide +kernel
theorem dX9_take_32 : decode cX9_take 32 = .ok (.aload_n 0, 1) := by decide +kernel
theorem dX9_take_33 : decode cX9_take 33 = .ok (.getfield 20, 3) := by decide +kernel
theorem dX9_take_36 : decode cX9_take 36 = .ok (.sipush 160, 3) := by decide +kernel
theorem dX9_take_39 : decode cX9_take 39 = .ok (.iload_n 1, 1) := by decide +kernel
theorem dX9_take_40 : decode cX9_take 40 = .ok (.imul, 1) := by decide +kernel
theorem dX9_take_41 : decode cX9_take 41 = .ok (.iload_n 2, 1) := by decide +kernel
theorem dX9_take_42 : decode cX9_take 42 = .ok (.iadd, 1) := by decide +kernel
theorem dX9_take_43 : decode cX9_take 43 = .ok (.aload_n 0, 1) := by decide +kernel
theorem dX9_take_44 : decode cX9_take 44 = .ok (.getfield 80, 3) := by decide +kernel
theorem dX9_take_47 : decode cX9_take 47 = .ok (.sipush 160, 3) := by decide +kernel
theorem dX9_take_50 : decode cX9_take 50 = .ok (.iload_n 1, 1) := by decide +kernel
theorem dX9_take_51 : decode cX9_take 51 = .ok (.imul, 1) := by decide +kernel
theorem dX9_take_52 : decode cX9_take 52 = .ok (.iload_n 2, 1) := by decide +kernel
theorem dX9_take_53 : decode cX9_take 53 = .ok (.iadd, 1) := by decide +kernel
theorem dX9_take_54 : decode cX9_take 54 = .ok (.iaload, 1) := by decide +kernel
theorem dX9_take_55 : decode cX9_take 55 = .ok (.iastore, 1) := by decide +kernel
theorem dX9_take_56 : decode cX9_take 56 = .ok (.iinc 2 1, 3) := by decide +kernel
theorem dX9_take_59 : decode cX9_take 59 = .ok (.goto (-37), 3) := by decide +kernel
theorem dX9_take_62 : decode cX9_take 62 = .ok (.iinc 1 1, 3) := by decide +kernel
theorem dX9_take_65 : decode cX9_take 65 = .ok (.goto (-53), 3) := by decide +kernel
theorem dX9_takeFilled_10 : decode cX9_takeFilled 10 = .ok (.aload_n 0, 1) := by decide +kernel
theorem dX9_takeFilled_11 : decode cX9_takeFilled 11 = .ok (.getfield 26, 3) := by decide +kernel
theorem dX9_takeFilled_14 : decode cX9_takeFilled 14 = .ok (.iload_n 1, 1) := by decide +kernel
theorem dX9_takeFilled_15 : decode cX9_takeFilled 15 = .ok (.aload_n 0, 1) := by decide +kernel
theorem dX9_takeFilled_16 : decode cX9_takeFilled 16 = .ok (.getfield 68, 3) := by decide +kernel
theorem dX9_takeFilled_19 : decode cX9_takeFilled 19 = .ok (.iload_n 1, 1) := by decide +kernel
theorem dX9_takeFilled_20 : decode cX9_takeFilled 20 = .ok (.iaload, 1) := by decide +kernel
theorem dX9_takeFilled_21 : decode cX9_takeFilled 21 = .ok (.iastore, 1) := by decide +kernel
theorem dX9_takeFilled_22 : decode cX9_takeFilled 22 = .ok (.iinc 1 1, 3) := by decide +kernel
theorem dX9_takeFilled_25 : decode cX9_takeFilled 25 = .ok (.goto (-23), 3) := by decide +kernel
theorem dX9_takeOff_0 : decode cX9_takeOff 0 = .ok (.aload_n 0, 1) := by decide +kernel
theorem dX9_takeOff_1 : decode cX9_takeOff 1 = .ok (.getfield 107, 3) := by decide +kernel
theorem dX9_takeOff_4 : decode cX9_takeOff 4 = .ok (.iload_n 1, 1) := by decide +kernel
theorem dX9_takeOff_5 : decode cX9_takeOff 5 = .ok (.iaload, 1) := by decide +kernel
theorem dX9_takeOff_6 : decode cX9_takeOff 6 = .ok (.istore_n 3, 1) := by decide +kernel
theorem dX9_takeOff_7 : decode cX9_takeOff 7 = .ok (.aload_n 0, 1) := by decide +kernel
theorem dX9_takeOff_8 : decode cX9_takeOff 8 = .ok (.getfield 107, 3) := by decide +kernel
theorem dX9_takeOff_11 : decode cX9_takeOff 11 = .ok (.iload_n 1, 1) := by decide +kernel
theorem dX9_takeOff_12 : decode cX9_takeOff 12 = .ok (.iconst 1, 1) := by decide +kernel
theorem dX9_takeOff_13 : decode cX9_takeOff 13 = .ok (.isub, 1) := by decide +kernel
theorem dX9_takeOff_14 : decode cX9_takeOff 14 = .ok (.iaload, 1) := by decide +kernel
theorem dX9_takeOff_15 : decode cX9_takeOff 15 = .ok (.istore 4, 2) := by decide +kernel
theorem dX9_takeOff_17 : decode cX9_takeOff 17 = .ok (.aload_n 0, 1) := by decide +kernel
theorem dX9_takeOff_18 : decode cX9_takeOff 18 = .ok (.getfield 107, 3) := by decide +kernel
theorem dX9_takeOff_21 : decode cX9_takeOff 21 = .ok (.iload_n 1, 1) := by decide +kernel
theorem dX9_takeOff_22 : decode cX9_takeOff 22 = .ok (.iconst 1, 1) := by decide +kernel
theorem dX9_takeOff_23 : decode cX9_takeOff 23 = .ok (.iadd, 1) := by decide +kernel
theorem dX9_takeOff_24 : decode cX9_takeOff 24 = .ok (.iaload, 1) := by decide +kernel
theorem dX9_takeOff_25 : decode cX9_takeOff 25 = .ok (.istore 5, 2) := by decide +kernel
theorem dX9_takeOff_27 : decode cX9_takeOff 27 = .ok (.aload_n 0, 1) := by decide +kernel
theorem dX9_takeOff_28 : decode cX9_takeOff 28 = .ok (.getfield 98, 3) := by decide +kernel
theorem dX9_takeOff_31 : decode cX9_takeOff 31 = .ok (.iload_n 3, 1) := by decide +kernel
theorem dX9_takeOff_32 : decode cX9_takeOff 32 = .ok (.iload 4, 2) := by decide +kernel
theorem dX9_takeOff_34 : decode cX9_takeOff 34 = .ok (.iastore, 1) := by decide +kernel
theorem dX9_takeOff_35 : decode cX9_takeOff 35 = .ok (.aload_n 0, 1) := by decide +kernel
theorem dX9_takeOff_36 : decode cX9_takeOff 36 = .ok (.getfield 101, 3) := by decide +kernel
theorem dX9_takeOff_39 : decode cX9_takeOff 39 = .ok (.iload_n 3, 1) := by decide +kernel
theorem dX9_takeOff_40 : decode cX9_takeOff 40 = .ok (.iload 5, 2) := by decide +kernel
theorem dX9_takeOff_42 : decode cX9_takeOff 42 = .ok (.iastore, 1) := by decide +kernel
theorem dX9_takeOff_43 : decode cX9_takeOff 43 = .ok (.iconst 0, 1) := by decide +kernel
theorem dX9_takeOff_44 : decode cX9_takeOff 44 = .ok (.istore 6, 2) := by decide +kernel
theorem dX9_takeOff_46 : decode cX9_takeOff 46 = .ok (.aload_n 0, 1) := by decide +kernel
theorem dX9_takeOff_47 : decode cX9_takeOff 47 = .ok (.getfield 74, 3) := by decide +kernel
theorem dX9_takeOff_50 : decode cX9_takeOff 50 = .ok (.bipush 20, 2) := by decide +kernel
theorem dX9_takeOff_52 : decode cX9_takeOff 52 = .ok (.iload_n 3, 1) := by decide +kernel
theorem dX9_takeOff_53 : decode cX9_takeOff 53 = .ok (.imul, 1) := by decide +kernel
theorem dX9_takeOff_54 : decode cX9_takeOff 54 = .ok (.iload 6, 2) := by decide +kernel
theorem dX9_takeOff_56 : decode cX9_takeOff 56 = .ok (.iadd, 1) := by decide +kernel
theorem dX9_takeOff_57 : decode cX9_takeOff 57 = .ok (.iaload, 1) := by decide +kernel
theorem dX9_takeOff_58 : decode cX9_takeOff 58 = .ok (.iload 4, 2) := by decide +kernel
theorem dX9_takeOff_60 : decode cX9_takeOff 60 = .ok (.if_icmp .eq 9, 3) := by decide +kernel
theorem dX9_takeOff_63 : decode cX9_takeOff 63 = .ok (.iinc 6 1, 3) := by decide +kernel
theorem dX9_takeOff_66 : decode cX9_takeOff 66 = .ok (.goto (-20), 3) := by decide +kernel
theorem dX9_takeOff_69 : decode cX9_takeOff 69 = .ok (.aload_n 0, 1) := by decide +kernel
theorem dX9_takeOff_70 : decode cX9_takeOff 70 = .ok (.getfield 77, 3) := by decide +kernel
theorem dX9_takeOff_73 : decode cX9_takeOff 73 = .ok (.iload_n 3, 1) := by decide +kernel
theorem dX9_takeOff_74 : decode cX9_takeOff 74 = .ok (.iaload, 1) := by decide +kernel
theorem dX9_takeOff_75 : decode cX9_takeOff 75 = .ok (.istore 7, 2) := by decide +kernel
theorem dX9_takeOff_77 : decode cX9_takeOff 77 = .ok (.iconst 0, 1) := by decide +kernel
theorem dX9_takeOff_78 : decode cX9_takeOff 78 = .ok (.istore 8, 2) := by decide +kernel
theorem dX9_takeOff_80 : decode cX9_takeOff 80 = .ok (.iconst 0, 1) := by decide +kernel
theorem dX9_takeOff_81 : decode cX9_takeOff 81 = .ok (.istore 9, 2) := by decide +kernel
theorem dX9_takeOff_83 : decode cX9_takeOff 83 = .ok (.iload 9, 2) := by decide +kernel
theorem dX9_takeOff_85 : decode cX9_takeOff 85 = .ok (.iconst 2, 1) := by decide +kernel
theorem dX9_takeOff_86 : decode cX9_takeOff 86 = .ok (.if_icmp .ge 123, 3) := by decide +kernel
theorem dX9_takeOff_89 : decode cX9_takeOff 89 = .ok (.iload 8, 2) := by decide +kernel
theorem dX9_takeOff_91 : decode cX9_takeOff 91 = .ok (.ifCond .ne 118, 3) := by decide +kernel
theorem dX9_takeOff_94 : decode cX9_takeOff 94 = .ok (.iload 9, 2) := by decide +kernel
theorem dX9_takeOff_96 : decode cX9_takeOff 96 = .ok (.ifCond .ne 7, 3) := by decide +kernel
theorem dX9_takeOff_99 : decode cX9_takeOff 99 = .ok (.iconst 1, 1) := by decide +kernel
theorem dX9_takeOff_100 : decode cX9_takeOff 100 = .ok (.goto 7, 3) := by decide +kernel
theorem dX9_takeOff_103 : decode cX9_takeOff 103 = .ok (.iload 7, 2) := by decide +kernel
theorem dX9_takeOff_105 : decode cX9_takeOff 105 = .ok (.iconst 1, 1) := by decide +kernel
theorem dX9_takeOff_106 : decode cX9_takeOff 106 = .ok (.isub, 1) := by decide +kernel
theorem dX9_takeOff_107 : decode cX9_takeOff 107 = .ok (.istore 10, 2) := by decide +kernel
theorem dX9_takeOff_109 : decode cX9_takeOff 109 = .ok (.iload 6, 2) := by decide +kernel
theorem dX9_takeOff_111 : decode cX9_takeOff 111 = .ok (.iload 10, 2) := by decide +kernel
theorem dX9_takeOff_113 : decode cX9_takeOff 113 = .ok (.iadd, 1) := by decide +kernel
theorem dX9_takeOff_114 : decode cX9_takeOff 114 = .ok (.iload 7, 2) := by decide +kernel
theorem dX9_takeOff_116 : decode cX9_takeOff 116 = .ok (.irem, 1) := by decide +kernel
theorem dX9_takeOff_117 : decode cX9_takeOff 117 = .ok (.istore 11, 2) := by decide +kernel
theorem dX9_takeOff_119 : decode cX9_takeOff 119 = .ok (.aload_n 0, 1) := by decide +kernel
theorem dX9_takeOff_120 : decode cX9_takeOff 120 = .ok (.getfield 74, 3) := by decide +kernel
theorem dX9_takeOff_123 : decode cX9_takeOff 123 = .ok (.bipush 20, 2) := by decide +kernel
theorem dX9_takeOff_125 : decode cX9_takeOff 125 = .ok (.iload_n 3, 1) := by decide +kernel
theorem dX9_takeOff_126 : decode cX9_takeOff 126 = .ok (.imul, 1) := by decide +kernel
theorem dX9_takeOff_127 : decode cX9_takeOff 127 = .ok (.iload 11, 2) := by decide +kernel
theorem dX9_takeOff_129 : decode cX9_takeOff 129 = .ok (.iadd, 1) := by decide +kernel
theorem dX9_takeOff_130 : decode cX9_takeOff 130 = .ok (.iaload, 1) := by decide +kernel
theorem dX9_takeOff_131 : decode cX9_takeOff 131 = .ok (.iload 5, 2) := by decide +kernel
theorem dX9_takeOff_133 : decode cX9_takeOff 133 = .ok (.if_icmp .eq 70, 3) := by decide +kernel
theorem dX9_takeOff_136 : decode cX9_takeOff 136 = .ok (.iload_n 2, 1) := by decide +kernel
theorem dX9_takeOff_137 : decode cX9_takeOff 137 = .ok (.aload_n 0, 1) := by decide +kernel
theorem dX9_takeOff_138 : decode cX9_takeOff 138 = .ok (.getfield 74, 3) := by decide +kernel
theorem dX9_takeOff_141 : decode cX9_takeOff 141 = .ok (.bipush 20, 2) := by decide +kernel
theorem dX9_takeOff_143 : decode cX9_takeOff 143 = .ok (.iload_n 3, 1) := by decide +kernel
theorem dX9_takeOff_144 : decode cX9_takeOff 144 = .ok (.imul, 1) := by decide +kernel
theorem dX9_takeOff_145 : decode cX9_takeOff 145 = .ok (.iload 11, 2) := by decide +kernel
theorem dX9_takeOff_147 : decode cX9_takeOff 147 = .ok (.iadd, 1) := by decide +kernel
theorem dX9_takeOff_148 : decode cX9_takeOff 148 = .ok (.iaload, 1) := by decide +kernel
theorem dX9_takeOff_149 : decode cX9_takeOff 149 = .ok (.ishr, 1) := by decide +kernel
theorem dX9_takeOff_150 : decode cX9_takeOff 150 = .ok (.iconst 1, 1) := by decide +kernel
theorem dX9_takeOff_151 : decode cX9_takeOff 151 = .ok (.iand, 1) := by decide +kernel
theorem dX9_takeOff_152 : decode cX9_takeOff 152 = .ok (.ifCond .ne 38, 3) := by decide +kernel
theorem dX9_takeOff_155 : decode cX9_takeOff 155 = .ok (.aload_n 0, 1) := by decide +kernel
theorem dX9_takeOff_156 : decode cX9_takeOff 156 = .ok (.getfield 110, 3) := by decide +kernel
theorem dX9_takeOff_159 : decode cX9_takeOff 159 = .ok (.iload 8, 2) := by decide +kernel
theorem dX9_takeOff_161 : decode cX9_takeOff 161 = .ok (.aload_n 0, 1) := by decide +kernel
theorem dX9_takeOff_162 : decode cX9_takeOff 162 = .ok (.getfield 74, 3) := by decide +kernel
theorem dX9_takeOff_165 : decode cX9_takeOff 165 = .ok (.bipush 20, 2) := by decide +kernel
theorem dX9_takeOff_167 : decode cX9_takeOff 167 = .ok (.iload_n 3, 1) := by decide +kernel
theorem dX9_takeOff_168 : decode cX9_takeOff 168 = .ok (.imul, 1) := by decide +kernel
theorem dX9_takeOff_169 : decode cX9_takeOff 169 = .ok (.iload 11, 2) := by decide +kernel
theorem dX9_takeOff_171 : decode cX9_takeOff 171 = .ok (.iadd, 1) := by decide +kernel
theorem dX9_takeOff_172 : decode cX9_takeOff 172 = .ok (.iaload, 1) := by decide +kernel
theorem dX9_takeOff_173 : decode cX9_takeOff 173 = .ok (.iastore, 1) := by decide +kernel
theorem dX9_takeOff_174 : decode cX9_takeOff 174 = .ok (.aload_n 0, 1) := by decide +kernel
theorem dX9_takeOff_175 : decode cX9_takeOff 175 = .ok (.getfield 104, 3) := by decide +kernel
theorem dX9_takeOff_178 : decode cX9_takeOff 178 = .ok (.aload_n 0, 1) := by decide +kernel
theorem dX9_takeOff_179 : decode cX9_takeOff 179 = .ok (.getfield 110, 3) := by decide +kernel
theorem dX9_takeOff_182 : decode cX9_takeOff 182 = .ok (.iload 8, 2) := by decide +kernel
theorem dX9_takeOff_184 : decode cX9_takeOff 184 = .ok (.iaload, 1) := by decide +kernel
theorem dX9_takeOff_185 : decode cX9_takeOff 185 = .ok (.iload_n 3, 1) := by decide +kernel
theorem dX9_takeOff_186 : decode cX9_takeOff 186 = .ok (.iastore, 1) := by decide +kernel
theorem dX9_takeOff_187 : decode cX9_takeOff 187 = .ok (.iinc 8 1, 3) := by decide +kernel
theorem dX9_takeOff_190 : decode cX9_takeOff 190 = .ok (.iload 11, 2) := by decide +kernel
theorem dX9_takeOff_192 : decode cX9_takeOff 192 = .ok (.iload 10, 2) := by decide +kernel
theorem dX9_takeOff_194 : decode cX9_takeOff 194 = .ok (.iadd, 1) := by decide +kernel
theorem dX9_takeOff_195 : decode cX9_takeOff 195 = .ok (.iload 7, 2) := by decide +kernel
theorem dX9_takeOff_197 : decode cX9_takeOff 197 = .ok (.irem, 1) := by decide +kernel
theorem dX9_takeOff_198 : decode cX9_takeOff 198 = .ok (.istore 11, 2) := by decide +kernel
theorem dX9_takeOff_200 : decode cX9_takeOff 200 = .ok (.goto (-81), 3) := by decide +kernel
theorem dX9_takeOff_203 : decode cX9_takeOff 203 = .ok (.iinc 9 1, 3) := by decide +kernel
theorem dX9_takeOff_206 : decode cX9_takeOff 206 = .ok (.goto (-123), 3) := by decide +kernel
theorem dX9_takeOff_209 : decode cX9_takeOff 209 = .ok (.iload 8, 2) := by decide +kernel
theorem dX9_takeOff_211 : decode cX9_takeOff 211 = .ok (.ifCond .ne 42, 3) := by decide +kernel
theorem dX9_takeOff_214 : decode cX9_takeOff 214 = .ok (.iload_n 1, 1) := by decide +kernel
theorem dX9_takeOff_215 : decode cX9_takeOff 215 = .ok (.istore 9, 2) := by decide +kernel
theorem dX9_takeOff_217 : decode cX9_takeOff 217 = .ok (.iload 9, 2) := by decide +kernel
theorem dX9_takeOff_219 : decode cX9_takeOff 219 = .ok (.iconst 1, 1) := by decide +kernel
theorem dX9_takeOff_220 : decode cX9_takeOff 220 = .ok (.iadd, 1) := by decide +kernel
theorem dX9_takeOff_221 : decode cX9_takeOff 221 = .ok (.aload_n 0, 1) := by decide +kernel
theorem dX9_takeOff_222 : decode cX9_takeOff 222 = .ok (.getfield 267, 3) := by decide +kernel
theorem dX9_takeOff_225 : decode cX9_takeOff 225 = .ok (.if_icmp .ge 25, 3) := by decide +kernel
theorem dX9_takeOff_228 : decode cX9_takeOff 228 = .ok (.aload_n 0, 1) := by decide +kernel
theorem dX9_takeOff_229 : decode cX9_takeOff 229 = .ok (.getfield 107, 3) := by decide +kernel
theorem dX9_takeOff_232 : decode cX9_takeOff 232 = .ok (.iload 9, 2) := by decide +kernel
theorem dX9_takeOff_234 : decode cX9_takeOff 234 = .ok (.aload_n 0, 1) := by decide +kernel
theorem dX9_takeOff_235 : decode cX9_takeOff 235 = .ok (.getfield 107, 3) := by decide +kernel
theorem dX9_takeOff_238 : decode cX9_takeOff 238 = .ok (.iload 9, 2) := by decide +kernel
theorem dX9_takeOff_240 : decode cX9_takeOff 240 = .ok (.iconst 1, 1) := by decide +kernel
theorem dX9_takeOff_241 : decode cX9_takeOff 241 = .ok (.iadd, 1) := by decide +kernel
theorem dX9_takeOff_242 : decode cX9_takeOff 242 = .ok (.iaload, 1) := by decide +kernel
theorem dX9_takeOff_243 : decode cX9_takeOff 243 = .ok (.iastore, 1) := by decide +kernel
theorem dX9_takeOff_244 : decode cX9_takeOff 244 = .ok (.iinc 9 1, 3) := by decide +kernel
theorem dX9_takeOff_247 : decode cX9_takeOff 247 = .ok (.goto (-30), 3) := by decide +kernel
theorem dX9_takeOff_250 : decode cX9_takeOff 250 = .ok (.goto 74, 3) := by decide +kernel
theorem dX9_takeOff_253 : decode cX9_takeOff 253 = .ok (.aload_n 0, 1) := by decide +kernel
theorem dX9_takeOff_254 : decode cX9_takeOff 254 = .ok (.getfield 267, 3) := by decide +kernel
theorem dX9_takeOff_257 : decode cX9_takeOff 257 = .ok (.iconst 1, 1) := by decide +kernel
theorem dX9_takeOff_258 : decode cX9_takeOff 258 = .ok (.isub, 1) := by decide +kernel
theorem dX9_takeOff_259 : decode cX9_takeOff 259 = .ok (.istore 9, 2) := by decide +kernel
theorem dX9_takeOff_261 : decode cX9_takeOff 261 = .ok (.iload 9, 2) := by decide +kernel
theorem dX9_takeOff_263 : decode cX9_takeOff 263 = .ok (.iload_n 1, 1) := by decide +kernel
theorem dX9_takeOff_264 : decode cX9_takeOff 264 = .ok (.if_icmp .le 28, 3) := by decide +kernel
theorem dX9_takeOff_267 : decode cX9_takeOff 267 = .ok (.aload_n 0, 1) := by decide +kernel
theorem dX9_takeOff_268 : decode cX9_takeOff 268 = .ok (.getfield 107, 3) := by decide +kernel
theorem dX9_takeOff_271 : decode cX9_takeOff 271 = .ok (.iload 9, 2) := by decide +kernel
theorem dX9_takeOff_273 : decode cX9_takeOff 273 = .ok (.iload 8, 2) := by decide +kernel
theorem dX9_takeOff_275 : decode cX9_takeOff 275 = .ok (.iadd, 1) := by decide +kernel
theorem dX9_takeOff_276 : decode cX9_takeOff 276 = .ok (.iconst 1, 1) := by decide +kernel
theorem dX9_takeOff_277 : decode cX9_takeOff 277 = .ok (.isub, 1) := by decide +kernel
theorem dX9_takeOff_278 : decode cX9_takeOff 278 = .ok (.aload_n 0, 1) := by decide +kernel
theorem dX9_takeOff_279 : decode cX9_takeOff 279 = .ok (.getfield 107, 3) := by decide +kernel
theorem dX9_takeOff_282 : decode cX9_takeOff 282 = .ok (.iload 9, 2) := by decide +kernel
theorem dX9_takeOff_284 : decode cX9_takeOff 284 = .ok (.iaload, 1) := by decide +kernel
theorem dX9_takeOff_285 : decode cX9_takeOff 285 = .ok (.iastore, 1) := by decide +kernel
theorem dX9_takeOff_286 : decode cX9_takeOff 286 = .ok (.iinc 9 (-1), 3) := by decide +kernel
theorem dX9_takeOff_289 : decode cX9_takeOff 289 = .ok (.goto (-28), 3) := by decide +kernel
theorem dX9_takeOff_292 : decode cX9_takeOff 292 = .ok (.iconst 0, 1) := by decide +kernel
theorem dX9_takeOff_293 : decode cX9_takeOff 293 = .ok (.istore 9, 2) := by decide +kernel
theorem dX9_takeOff_295 : decode cX9_takeOff 295 = .ok (.iload 9, 2) := by decide +kernel
theorem dX9_takeOff_297 : decode cX9_takeOff 297 = .ok (.iload 8, 2) := by decide +kernel
theorem dX9_takeOff_299 : decode cX9_takeOff 299 = .ok (.if_icmp .ge 25, 3) := by decide +kernel
theorem dX9_takeOff_302 : decode cX9_takeOff 302 = .ok (.aload_n 0, 1) := by decide +kernel
theorem dX9_takeOff_303 : decode cX9_takeOff 303 = .ok (.getfield 107, 3) := by decide +kernel
theorem dX9_takeOff_306 : decode cX9_takeOff 306 = .ok (.iload_n 1, 1) := by decide +kernel
theorem dX9_takeOff_307 : decode cX9_takeOff 307 = .ok (.iload 9, 2) := by decide +kernel
theorem dX9_takeOff_309 : decode cX9_takeOff 309 = .ok (.iadd, 1) := by decide +kernel
theorem dX9_takeOff_310 : decode cX9_takeOff 310 = .ok (.aload_n 0, 1) := by decide +kernel
theorem dX9_takeOff_311 : decode cX9_takeOff 311 = .ok (.getfield 110, 3) := by decide +kernel
theorem dX9_takeOff_314 : decode cX9_takeOff 314 = .ok (.iload 9, 2) := by decide +kernel
theorem dX9_takeOff_316 : decode cX9_takeOff 316 = .ok (.iaload, 1) := by decide +kernel
theorem dX9_takeOff_317 : decode cX9_takeOff 317 = .ok (.iastore, 1) := by decide +kernel
theorem dX9_takeOff_318 : decode cX9_takeOff 318 = .ok (.iinc 9 1, 3) := by decide +kernel
theorem dX9_takeOff_321 : decode cX9_takeOff 321 = .ok (.goto (-26), 3) := by decide +kernel
theorem dX9_takeOff_324 : decode cX9_takeOff 324 = .ok (.aload_n 0, 1) := by decide +kernel
theorem dX9_takeOff_325 : decode cX9_takeOff 325 = .ok (.dup, 1) := by decide +kernel
theorem dX9_takeOff_326 : decode cX9_takeOff 326 = .ok (.getfield 267, 3) := by decide +kernel
theorem dX9_takeOff_329 : decode cX9_takeOff 329 = .ok (.iload 8, 2) := by decide +kernel
theorem dX9_takeOff_331 : decode cX9_takeOff 331 = .ok (.iconst 1, 1) := by decide +kernel
theorem dX9_takeOff_332 : decode cX9_takeOff 332 = .ok (.isub, 1) := by decide +kernel
theorem dX9_takeOff_333 : decode cX9_takeOff 333 = .ok (.iadd, 1) := by decide +kernel
theorem dX9_takeOff_334 : decode cX9_takeOff 334 = .ok (.putfield 267, 3) := by decide +kernel
theorem dX9_takeOff_337 : decode cX9_takeOff 337 = .ok (.return_, 1) := by decide +kernel
theorem dX9_takeSimple_39 : decode cX9_takeSimple 39 = .ok (.aload_n 0, 1) := by decide +kernel
theorem dX9_takeSimple_40 : decode cX9_takeSimple 40 = .ok (.getfield 16, 3) := by decide +kernel
theorem dX9_takeSimple_43 : decode cX9_takeSimple 43 = .ok (.iload_n 3, 1) := by decide +kernel
theorem dX9_takeSimple_44 : decode cX9_takeSimple 44 = .ok (.baload, 1) := by decide +kernel
theorem dX9_takeSimple_45 : decode cX9_takeSimple 45 = .ok (.ifCond .eq 80, 3) := by decide +kernel
theorem dX9_takeSimple_48 : decode cX9_takeSimple 48 = .ok (.aload_n 0, 1) := by decide +kernel
theorem dX9_takeSimple_49 : decode cX9_takeSimple 49 = .ok (.getfield 7, 3) := by decide +kernel
theorem dX9_takeSimple_52 : decode cX9_takeSimple 52 = .ok (.iload_n 3, 1) := by decide +kernel
theorem dX9_takeSimple_53 : decode cX9_takeSimple 53 = .ok (.iaload, 1) := by decide +kernel
theorem dX9_takeSimple_54 : decode cX9_takeSimple 54 = .ok (.aload_n 0, 1) := by decide +kernel
theorem dX9_takeSimple_55 : decode cX9_takeSimple 55 = .ok (.getfield 13, 3) := by decide +kernel
theorem dX9_takeSimple_58 : decode cX9_takeSimple 58 = .ok (.iload_n 3, 1) := by decide +kernel
theorem dX9_takeSimple_59 : decode cX9_takeSimple 59 = .ok (.iaload, 1) := by decide +kernel
theorem dX9_takeSimple_60 : decode cX9_takeSimple 60 = .ok (.if_icmp .eq 65, 3) := by decide +kernel
theorem dX9_takeSimple_63 : decode cX9_takeSimple 63 = .ok (.iload_n 3, 1) := by decide +kernel
theorem dX9_takeSimple_64 : decode cX9_takeSimple 64 = .ok (.iload_n 2, 1) := by decide +kernel
theorem dX9_takeSimple_65 : decode cX9_takeSimple 65 = .ok (.if_icmp .eq 60, 3) := by decide +kernel
theorem dX9_takeSimple_68 : decode cX9_takeSimple 68 = .ok (.iload_n 1, 1) := by decide +kernel
theorem dX9_takeSimple_69 : decode cX9_takeSimple 69 = .ok (.ifCond .eq 12, 3) := by decide +kernel
theorem dX9_takeSimple_72 : decode cX9_takeSimple 72 = .ok (.aload_n 0, 1) := by decide +kernel
theorem dX9_takeSimple_73 : decode cX9_takeSimple 73 = .ok (.getfield 92, 3) := by decide +kernel
theorem dX9_takeSimple_76 : decode cX9_takeSimple 76 = .ok (.iload_n 3, 1) := by decide +kernel
theorem dX9_takeSimple_77 : decode cX9_takeSimple 77 = .ok (.baload, 1) := by decide +kernel
theorem dX9_takeSimple_78 : decode cX9_takeSimple 78 = .ok (.ifCond .eq 47, 3) := by decide +kernel
theorem dX9_takeSimple_81 : decode cX9_takeSimple 81 = .ok (.aload_n 0, 1) := by decide +kernel
theorem dX9_takeSimple_82 : decode cX9_takeSimple 82 = .ok (.getfield 26, 3) := by decide +kernel
theorem dX9_takeSimple_85 : decode cX9_takeSimple 85 = .ok (.aload_n 0, 1) := by decide +kernel
theorem dX9_takeSimple_86 : decode cX9_takeSimple 86 = .ok (.getfield 7, 3) := by decide +kernel
theorem dX9_takeSimple_89 : decode cX9_takeSimple 89 = .ok (.iload_n 3, 1) := by decide +kernel
theorem dX9_takeSimple_90 : decode cX9_takeSimple 90 = .ok (.iaload, 1) := by decide +kernel
theorem dX9_takeSimple_91 : decode cX9_takeSimple 91 = .ok (.dup2, 1) := by decide +kernel
theorem dX9_takeSimple_92 : decode cX9_takeSimple 92 = .ok (.iaload, 1) := by decide +kernel
theorem dX9_takeSimple_93 : decode cX9_takeSimple 93 = .ok (.iconst 1, 1) := by decide +kernel
theorem dX9_takeSimple_94 : decode cX9_takeSimple 94 = .ok (.aload_n 0, 1) := by decide +kernel
theorem dX9_takeSimple_95 : decode cX9_takeSimple 95 = .ok (.getfield 13, 3) := by decide +kernel
theorem dX9_takeSimple_98 : decode cX9_takeSimple 98 = .ok (.iload_n 3, 1) := by decide +kernel
theorem dX9_takeSimple_99 : decode cX9_takeSimple 99 = .ok (.iaload, 1) := by decide +kernel
theorem dX9_takeSimple_100 : decode cX9_takeSimple 100 = .ok (.ishl, 1) := by decide +kernel
theorem dX9_takeSimple_101 : decode cX9_takeSimple 101 = .ok (.ior, 1) := by decide +kernel
theorem dX9_takeSimple_102 : decode cX9_takeSimple 102 = .ok (.iastore, 1) := by decide +kernel
theorem dX9_takeSimple_103 : decode cX9_takeSimple 103 = .ok (.aload_n 0, 1) := by decide +kernel
theorem dX9_takeSimple_104 : decode cX9_takeSimple 104 = .ok (.getfield 26, 3) := by decide +kernel
theorem dX9_takeSimple_107 : decode cX9_takeSimple 107 = .ok (.aload_n 0, 1) := by decide +kernel
theorem dX9_takeSimple_108 : decode cX9_takeSimple 108 = .ok (.getfield 13, 3) := by decide +kernel
theorem dX9_takeSimple_111 : decode cX9_takeSimple 111 = .ok (.iload_n 3, 1) := by decide +kernel
theorem dX9_takeSimple_112 : decode cX9_takeSimple 112 = .ok (.iaload, 1) := by decide +kernel
theorem dX9_takeSimple_113 : decode cX9_takeSimple 113 = .ok (.dup2, 1) := by decide +kernel
theorem dX9_takeSimple_114 : decode cX9_takeSimple 114 = .ok (.iaload, 1) := by decide +kernel
theorem dX9_takeSimple_115 : decode cX9_takeSimple 115 = .ok (.iconst 1, 1) := by decide +kernel
theorem dX9_takeSimple_116 : decode cX9_takeSimple 116 = .ok (.aload_n 0, 1) := by decide +kernel
theorem dX9_takeSimple_117 : decode cX9_takeSimple 117 = .ok (.getfield 7, 3) := by decide +kernel
theorem dX9_takeSimple_120 : decode cX9_takeSimple 120 = .ok (.iload_n 3, 1) := by decide +kernel
theorem dX9_takeSimple_121 : decode cX9_takeSimple 121 = .ok (.iaload, 1) := by decide +kernel
theorem dX9_takeSimple_122 : decode cX9_takeSimple 122 = .ok (.ishl, 1) := by decide +kernel
theorem dX9_takeSimple_123 : decode cX9_takeSimple 123 = .ok (.ior, 1) := by decide +kernel
theorem dX9_takeSimple_124 : decode cX9_takeSimple 124 = .ok (.iastore, 1) := by decide +kernel
theorem dX9_takeSimple_125 : decode cX9_takeSimple 125 = .ok (.iinc 3 1, 3) := by decide +kernel
theorem dX9_takeSimple_128 : decode cX9_takeSimple 128 = .ok (.goto (-97), 3) := by decide +kernel
theorem dX9_test_11 : decode cX9_test 11 = .ok (.iconst 0, 1) := by decide +kernel
theorem dX9_told_8 : decode cX9_told 8 = .ok (.iload_n 2, 1) := by decide +kernel
theorem dX9_told_9 : decode cX9_told 9 = .ok (.ifCond .lt 28, 3) := by decide +kernel
theorem dX9_told_12 : decode cX9_told 12 = .ok (.iload_n 2, 1) := by decide +kernel
theorem dX9_told_13 : decode cX9_told 13 = .ok (.aload_n 0, 1) := by decide +kernel
theorem dX9_told_14 : decode cX9_told 14 = .ok (.getfield 23, 3) := by decide +kernel
theorem dX9_told_17 : decode cX9_told 17 = .ok (.iload_n 1, 1) := by decide +kernel
theorem dX9_told_18 : decode cX9_told 18 = .ok (.iaload, 1) := by decide +kernel
theorem dX9_told_19 : decode cX9_told 19 = .ok (.if_icmp .ge 18, 3) := by decide +kernel
theorem dX9_told_22 : decode cX9_told 22 = .ok (.aload_n 0, 1) := by decide +kernel
theorem dX9_told_23 : decode cX9_told 23 = .ok (.getfield 20, 3) := by decide +kernel
theorem dX9_told_26 : decode cX9_told 26 = .ok (.sipush 160, 3) := by decide +kernel
theorem dX9_told_29 : decode cX9_told 29 = .ok (.iload_n 1, 1) := by decide +kernel
theorem dX9_told_30 : decode cX9_told 30 = .ok (.imul, 1) := by decide +kernel
theorem dX9_told_31 : decode cX9_told 31 = .ok (.iload_n 2, 1) := by decide +kernel
theorem dX9_told_32 : decode cX9_told 32 = .ok (.iadd, 1) := by decide +kernel
theorem dX9_told_33 : decode cX9_told 33 = .ok (.iaload, 1) := by decide +kernel
theorem dX9_told_34 : decode cX9_told 34 = .ok (.goto 4, 3) := by decide +kernel
theorem dX9_trace_41 : decode cX9_trace 41 = .ok (.aload_n 0, 1) := by decide +kernel
theorem dX9_trace_42 : decode cX9_trace 42 = .ok (.getfield 16, 3) := by decide +kernel
theorem dX9_trace_45 : decode cX9_trace 45 = .ok (.iload_n 3, 1) := by decide +kernel
theorem dX9_trace_46 : decode cX9_trace 46 = .ok (.iconst 2, 1) := by decide +kernel
theorem dX9_trace_47 : decode cX9_trace 47 = .ok (.idiv, 1) := by decide +kernel
theorem dX9_trace_48 : decode cX9_trace 48 = .ok (.baload, 1) := by decide +kernel
theorem dX9_trace_49 : decode cX9_trace 49 = .ok (.ifCond .eq 84, 3) := by decide +kernel
theorem dX9_trace_52 : decode cX9_trace 52 = .ok (.aload_n 0, 1) := by decide +kernel
theorem dX9_trace_53 : decode cX9_trace 53 = .ok (.getfield 125, 3) := by decide +kernel
theorem dX9_trace_56 : decode cX9_trace 56 = .ok (.iload_n 3, 1) := by decide +kernel
theorem dX9_trace_57 : decode cX9_trace 57 = .ok (.iaload, 1) := by decide +kernel
theorem dX9_trace_58 : decode cX9_trace 58 = .ok (.ifCond .lt 6, 3) := by decide +kernel
theorem dX9_trace_61 : decode cX9_trace 61 = .ok (.goto 72, 3) := by decide +kernel
theorem dX9_trace_64 : decode cX9_trace 64 = .ok (.aload_n 0, 1) := by decide +kernel
theorem dX9_trace_65 : decode cX9_trace 65 = .ok (.getfield 122, 3) := by decide +kernel
theorem dX9_trace_68 : decode cX9_trace 68 = .ok (.aload_n 0, 1) := by decide +kernel
theorem dX9_trace_69 : decode cX9_trace 69 = .ok (.getfield 293, 3) := by decide +kernel
theorem dX9_trace_72 : decode cX9_trace 72 = .ok (.iload_n 2, 1) := by decide +kernel
theorem dX9_trace_73 : decode cX9_trace 73 = .ok (.iastore, 1) := by decide +kernel
theorem dX9_trace_74 : decode cX9_trace 74 = .ok (.iload_n 3, 1) := by decide +kernel
theorem dX9_trace_75 : decode cX9_trace 75 = .ok (.istore 4, 2) := by decide +kernel
theorem dX9_trace_77 : decode cX9_trace 77 = .ok (.aload_n 0, 1) := by decide +kernel
theorem dX9_trace_78 : decode cX9_trace 78 = .ok (.getfield 125, 3) := by decide +kernel
theorem dX9_trace_81 : decode cX9_trace 81 = .ok (.iload 4, 2) := by decide +kernel
theorem dX9_trace_83 : decode cX9_trace 83 = .ok (.iaload, 1) := by decide +kernel
theorem dX9_trace_84 : decode cX9_trace 84 = .ok (.ifCond .ge 39, 3) := by decide +kernel
theorem dX9_trace_87 : decode cX9_trace 87 = .ok (.aload_n 0, 1) := by decide +kernel
theorem dX9_trace_88 : decode cX9_trace 88 = .ok (.getfield 125, 3) := by decide +kernel
theorem dX9_trace_91 : decode cX9_trace 91 = .ok (.iload 4, 2) := by decide +kernel
theorem dX9_trace_93 : decode cX9_trace 93 = .ok (.aload_n 0, 1) := by decide +kernel
theorem dX9_trace_94 : decode cX9_trace 94 = .ok (.getfield 293, 3) := by decide +kernel
theorem dX9_trace_97 : decode cX9_trace 97 = .ok (.iastore, 1) := by decide +kernel
theorem dX9_trace_98 : decode cX9_trace 98 = .ok (.aload_n 0, 1) := by decide +kernel
theorem dX9_trace_99 : decode cX9_trace 99 = .ok (.getfield 119, 3) := by decide +kernel
theorem dX9_trace_102 : decode cX9_trace 102 = .ok (.iload_n 2, 1) := by decide +kernel
theorem dX9_trace_103 : decode cX9_trace 103 = .ok (.iload 4, 2) := by decide +kernel
theorem dX9_trace_105 : decode cX9_trace 105 = .ok (.iastore, 1) := by decide +kernel
theorem dX9_trace_106 : decode cX9_trace 106 = .ok (.iinc 2 1, 3) := by decide +kernel
theorem dX9_trace_109 : decode cX9_trace 109 = .ok (.aload_n 0, 1) := by decide +kernel
theorem dX9_trace_110 : decode cX9_trace 110 = .ok (.iload_n 1, 1) := by decide +kernel
theorem dX9_trace_111 : decode cX9_trace 111 = .ok (.iload 4, 2) := by decide +kernel
theorem dX9_trace_113 : decode cX9_trace 113 = .ok (.iconst 1, 1) := by decide +kernel
theorem dX9_trace_114 : decode cX9_trace 114 = .ok (.ixor, 1) := by decide +kernel
theorem dX9_trace_115 : decode cX9_trace 115 = .ok (.invokevirtual 296, 3) := by decide +kernel
theorem dX9_trace_118 : decode cX9_trace 118 = .ok (.istore 4, 2) := by decide +kernel
theorem dX9_trace_120 : decode cX9_trace 120 = .ok (.goto (-43), 3) := by decide +kernel
theorem dX9_trace_123 : decode cX9_trace 123 = .ok (.aload_n 0, 1) := by decide +kernel
theorem dX9_trace_124 : decode cX9_trace 124 = .ok (.dup, 1) := by decide +kernel
theorem dX9_trace_125 : decode cX9_trace 125 = .ok (.getfield 293, 3) := by decide +kernel
theorem dX9_trace_128 : decode cX9_trace 128 = .ok (.iconst 1, 1) := by decide +kernel
theorem dX9_trace_129 : decode cX9_trace 129 = .ok (.iadd, 1) := by decide +kernel
theorem dX9_trace_130 : decode cX9_trace 130 = .ok (.putfield 293, 3) := by decide +kernel
theorem dX9_trace_133 : decode cX9_trace 133 = .ok (.iinc 3 1, 3) := by decide +kernel
theorem dX9_trace_136 : decode cX9_trace 136 = .ok (.goto (-105), 3) := by decide +kernel
theorem dX9_turn_10 : decode cX9_turn 10 = .ok (.aload_n 0, 1) := by decide +kernel
theorem dX9_turn_11 : decode cX9_turn 11 = .ok (.invokevirtual 318, 3) := by decide +kernel
theorem dX9_turn_14 : decode cX9_turn 14 = .ok (.ifCond .ne 6, 3) := by decide +kernel
theorem dX9_turn_17 : decode cX9_turn 17 = .ok (.bipush (-3), 2) := by decide +kernel
theorem dX9_turn_19 : decode cX9_turn 19 = .ok (.ireturn, 1) := by decide +kernel
theorem dX9_turn_20 : decode cX9_turn 20 = .ok (.iload_n 2, 1) := by decide +kernel
theorem dX9_turn_21 : decode cX9_turn 21 = .ok (.ifCond .lt 28, 3) := by decide +kernel
theorem dX9_turn_24 : decode cX9_turn 24 = .ok (.iload_n 2, 1) := by decide +kernel
theorem dX9_turn_25 : decode cX9_turn 25 = .ok (.aload_n 0, 1) := by decide +kernel
theorem dX9_turn_26 : decode cX9_turn 26 = .ok (.getfield 83, 3) := by decide +kernel
theorem dX9_turn_29 : decode cX9_turn 29 = .ok (.iload_n 1, 1) := by decide +kernel
theorem dX9_turn_30 : decode cX9_turn 30 = .ok (.iaload, 1) := by decide +kernel
theorem dX9_turn_31 : decode cX9_turn 31 = .ok (.if_icmp .ge 18, 3) := by decide +kernel
theorem dX9_turn_34 : decode cX9_turn 34 = .ok (.aload_n 0, 1) := by decide +kernel
theorem dX9_turn_35 : decode cX9_turn 35 = .ok (.getfield 80, 3) := by decide +kernel
theorem dX9_turn_38 : decode cX9_turn 38 = .ok (.sipush 160, 3) := by decide +kernel
theorem dX9_turn_41 : decode cX9_turn 41 = .ok (.iload_n 1, 1) := by decide +kernel
theorem dX9_turn_42 : decode cX9_turn 42 = .ok (.imul, 1) := by decide +kernel
theorem dX9_turn_43 : decode cX9_turn 43 = .ok (.iload_n 2, 1) := by decide +kernel
theorem dX9_turn_44 : decode cX9_turn 44 = .ok (.iadd, 1) := by decide +kernel
theorem dX9_turn_45 : decode cX9_turn 45 = .ok (.iaload, 1) := by decide +kernel
theorem dX9_turn_46 : decode cX9_turn 46 = .ok (.goto 4, 3) := by decide +kernel
theorem dX9_turn_49 : decode cX9_turn 49 = .ok (.iconst (-1), 1) := by decide +kernel
theorem dX9_turn_50 : decode cX9_turn 50 = .ok (.ireturn, 1) := by decide +kernel
theorem dX9_wall_0 : decode cX9_wall 0 = .ok (.aload_n 0, 1) := by decide +kernel
theorem dX9_wall_1 : decode cX9_wall 1 = .ok (.getfield 113, 3) := by decide +kernel
theorem dX9_wall_4 : decode cX9_wall 4 = .ok (.bipush 21, 2) := by decide +kernel
theorem dX9_wall_6 : decode cX9_wall 6 = .ok (.iload_n 1, 1) := by decide +kernel
theorem dX9_wall_7 : decode cX9_wall 7 = .ok (.imul, 1) := by decide +kernel
theorem dX9_wall_8 : decode cX9_wall 8 = .ok (.iload_n 2, 1) := by decide +kernel
theorem dX9_wall_9 : decode cX9_wall 9 = .ok (.iadd, 1) := by decide +kernel
theorem dX9_wall_10 : decode cX9_wall 10 = .ok (.iconst 1, 1) := by decide +kernel
theorem dX9_wall_11 : decode cX9_wall 11 = .ok (.bastore, 1) := by decide +kernel
theorem dX9_wall_12 : decode cX9_wall 12 = .ok (.aload_n 0, 1) := by decide +kernel
theorem dX9_wall_13 : decode cX9_wall 13 = .ok (.getfield 113, 3) := by decide +kernel
theorem dX9_wall_16 : decode cX9_wall 16 = .ok (.bipush 21, 2) := by decide +kernel
theorem dX9_wall_18 : decode cX9_wall 18 = .ok (.iload_n 2, 1) := by decide +kernel
theorem dX9_wall_19 : decode cX9_wall 19 = .ok (.imul, 1) := by decide +kernel
theorem dX9_wall_20 : decode cX9_wall 20 = .ok (.iload_n 1, 1) := by decide +kernel
theorem dX9_wall_21 : decode cX9_wall 21 = .ok (.iadd, 1) := by decide +kernel
theorem dX9_wall_22 : decode cX9_wall 22 = .ok (.iconst 1, 1) := by decide +kernel
theorem dX9_wall_23 : decode cX9_wall 23 = .ok (.bastore, 1) := by decide +kernel
theorem dX9_wall_24 : decode cX9_wall 24 = .ok (.return_, 1) := by decide +kernel
