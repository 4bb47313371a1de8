theorem dX9_findPiece_188 : decode cX9_findPiece 188 = .ok (.iaload, 1) := by decide +kernel
theorem dX9_findPiece_189 : decode cX9_findPiece 189 = .ok (.aload_n 0, 1) := by decide +kernel
theorem dX9_findPiece_190 : decode cX9_findPiece 190 = .ok (.getfield 163, 3) := by decide +kernel
theorem dX9_findPiece_193 : decode cX9_findPiece 193 = .ok (.iconst (-1), 1) := by decide +kernel
theorem dX9_findPiece_194 : decode cX9_findPiece 194 = .ok (.ixor, 1) := by decide +kernel
theorem dX9_findPiece_195 : decode cX9_findPiece 195 = .ok (.iand, 1) := by decide +kernel
theorem dX9_findPiece_196 : decode cX9_findPiece 196 = .ok (.ior, 1) := by decide +kernel
theorem dX9_findPiece_197 : decode cX9_findPiece 197 = .ok (.istore_n 3, 1) := by decide +kernel
theorem dX9_findPiece_198 : decode cX9_findPiece 198 = .ok (.iload 5, 2) := by decide +kernel
theorem dX9_findPiece_200 : decode cX9_findPiece 200 = .ok (.aload_n 0, 1) := by decide +kernel
theorem dX9_findPiece_201 : decode cX9_findPiece 201 = .ok (.getfield 38, 3) := by decide +kernel
theorem dX9_findPiece_204 : decode cX9_findPiece 204 = .ok (.iload 6, 2) := by decide +kernel
theorem dX9_findPiece_206 : decode cX9_findPiece 206 = .ok (.iaload, 1) := by decide +kernel
theorem dX9_findPiece_207 : decode cX9_findPiece 207 = .ok (.aload_n 0, 1) := by decide +kernel
theorem dX9_findPiece_208 : decode cX9_findPiece 208 = .ok (.getfield 163, 3) := by decide +kernel
theorem dX9_findPiece_211 : decode cX9_findPiece 211 = .ok (.iand, 1) := by decide +kernel
theorem dX9_findPiece_212 : decode cX9_findPiece 212 = .ok (.ior, 1) := by decide +kernel
theorem dX9_findPiece_213 : decode cX9_findPiece 213 = .ok (.istore 5, 2) := by decide +kernel
theorem dX9_findPiece_215 : decode cX9_findPiece 215 = .ok (.iinc 6 1, 3) := by decide +kernel
theorem dX9_findPiece_218 : decode cX9_findPiece 218 = .ok (.goto (-56), 3) := by decide +kernel
theorem dX9_findPiece_221 : decode cX9_findPiece 221 = .ok (.goto (-71), 3) := by decide +kernel
theorem dX9_findPiece_224 : decode cX9_findPiece 224 = .ok (.iload_n 1, 1) := by decide +kernel
theorem dX9_findPiece_225 : decode cX9_findPiece 225 = .ok (.iload_n 3, 1) := by decide +kernel
theorem dX9_findPiece_226 : decode cX9_findPiece 226 = .ok (.ior, 1) := by decide +kernel
theorem dX9_findPiece_227 : decode cX9_findPiece 227 = .ok (.istore_n 1, 1) := by decide +kernel
theorem dX9_findPiece_228 : decode cX9_findPiece 228 = .ok (.aload_n 0, 1) := by decide +kernel
theorem dX9_findPiece_229 : decode cX9_findPiece 229 = .ok (.iload 5, 2) := by decide +kernel
theorem dX9_findPiece_231 : decode cX9_findPiece 231 = .ok (.iload_n 3, 1) := by decide +kernel
theorem dX9_findPiece_232 : decode cX9_findPiece 232 = .ok (.invokevirtual 190, 3) := by decide +kernel
theorem dX9_findPiece_235 : decode cX9_findPiece 235 = .ok (.iinc 2 1, 3) := by decide +kernel
theorem dX9_findPiece_238 : decode cX9_findPiece 238 = .ok (.goto (-127), 3) := by decide +kernel
theorem dX9_findPiece_241 : decode cX9_findPiece 241 = .ok (.return_, 1) := by decide +kernel
theorem dX9_findPieceOfAll_0 : decode cX9_findPieceOfAll 0 = .ok (.iconst 0, 1) := by decide +kernel
theorem dX9_findPieceOfAll_1 : decode cX9_findPieceOfAll 1 = .ok (.istore_n 1, 1) := by decide +kernel
theorem dX9_findPieceOfAll_2 : decode cX9_findPieceOfAll 2 = .ok (.iload_n 1, 1) := by decide +kernel
theorem dX9_findPieceOfAll_3 : decode cX9_findPieceOfAll 3 = .ok (.aload_n 0, 1) := by decide +kernel
theorem dX9_findPieceOfAll_4 : decode cX9_findPieceOfAll 4 = .ok (.getfield 213, 3) := by decide +kernel
theorem dX9_findPieceOfAll_7 : decode cX9_findPieceOfAll 7 = .ok (.if_icmp .ge 21, 3) := by decide +kernel
theorem dX9_findPieceOfAll_10 : decode cX9_findPieceOfAll 10 = .ok (.aload_n 0, 1) := by decide +kernel
theorem dX9_findPieceOfAll_11 : decode cX9_findPieceOfAll 11 = .ok (.getfield 92, 3) := by decide +kernel
theorem dX9_findPieceOfAll_14 : decode cX9_findPieceOfAll 14 = .ok (.iload_n 1, 1) := by decide +kernel
theorem dX9_findPieceOfAll_15 : decode cX9_findPieceOfAll 15 = .ok (.aload_n 0, 1) := by decide +kernel
theorem dX9_findPieceOfAll_16 : decode cX9_findPieceOfAll 16 = .ok (.getfield 16, 3) := by decide +kernel
theorem dX9_findPieceOfAll_19 : decode cX9_findPieceOfAll 19 = .ok (.iload_n 1, 1) := by decide +kernel
theorem dX9_findPieceOfAll_20 : decode cX9_findPieceOfAll 20 = .ok (.baload, 1) := by decide +kernel
theorem dX9_findPieceOfAll_21 : decode cX9_findPieceOfAll 21 = .ok (.bastore, 1) := by decide +kernel
theorem dX9_findPieceOfAll_22 : decode cX9_findPieceOfAll 22 = .ok (.iinc 1 1, 3) := by decide +kernel
theorem dX9_findPieceOfAll_25 : decode cX9_findPieceOfAll 25 = .ok (.goto (-23), 3) := by decide +kernel
theorem dX9_findPieceOfAll_28 : decode cX9_findPieceOfAll 28 = .ok (.aload_n 0, 1) := by decide +kernel
theorem dX9_findPieceOfAll_29 : decode cX9_findPieceOfAll 29 = .ok (.getfield 213, 3) := by decide +kernel
theorem dX9_findPieceOfAll_32 : decode cX9_findPieceOfAll 32 = .ok (.iconst 1, 1) := by decide +kernel
theorem dX9_findPieceOfAll_33 : decode cX9_findPieceOfAll 33 = .ok (.isub, 1) := by decide +kernel
theorem dX9_findPieceOfAll_34 : decode cX9_findPieceOfAll 34 = .ok (.istore_n 1, 1) := by decide +kernel
theorem dX9_findPieceOfAll_35 : decode cX9_findPieceOfAll 35 = .ok (.iload_n 1, 1) := by decide +kernel
theorem dX9_findPieceOfAll_36 : decode cX9_findPieceOfAll 36 = .ok (.ifCond .lt 41, 3) := by decide +kernel
theorem dX9_findPieceOfAll_39 : decode cX9_findPieceOfAll 39 = .ok (.aload_n 0, 1) := by decide +kernel
theorem dX9_findPieceOfAll_40 : decode cX9_findPieceOfAll 40 = .ok (.getfield 16, 3) := by decide +kernel
theorem dX9_findPieceOfAll_43 : decode cX9_findPieceOfAll 43 = .ok (.iload_n 1, 1) := by decide +kernel
theorem dX9_findPieceOfAll_44 : decode cX9_findPieceOfAll 44 = .ok (.baload, 1) := by decide +kernel
theorem dX9_findPieceOfAll_45 : decode cX9_findPieceOfAll 45 = .ok (.ifCond .ne 6, 3) := by decide +kernel
theorem dX9_findPieceOfAll_48 : decode cX9_findPieceOfAll 48 = .ok (.goto 23, 3) := by decide +kernel
theorem dX9_findPieceOfAll_51 : decode cX9_findPieceOfAll 51 = .ok (.aload_n 0, 1) := by decide +kernel
theorem dX9_findPieceOfAll_52 : decode cX9_findPieceOfAll 52 = .ok (.iconst 1, 1) := by decide +kernel
theorem dX9_findPieceOfAll_53 : decode cX9_findPieceOfAll 53 = .ok (.iload_n 1, 1) := by decide +kernel
theorem dX9_findPieceOfAll_54 : decode cX9_findPieceOfAll 54 = .ok (.invokevirtual 220, 3) := by decide +kernel
theorem dX9_findPieceOfAll_57 : decode cX9_findPieceOfAll 57 = .ok (.aload_n 0, 1) := by decide +kernel
theorem dX9_findPieceOfAll_58 : decode cX9_findPieceOfAll 58 = .ok (.invokevirtual 224, 3) := by decide +kernel
theorem dX9_findPieceOfAll_61 : decode cX9_findPieceOfAll 61 = .ok (.ifCond .ne 10, 3) := by decide +kernel
theorem dX9_findPieceOfAll_64 : decode cX9_findPieceOfAll 64 = .ok (.aload_n 0, 1) := by decide +kernel
theorem dX9_findPieceOfAll_65 : decode cX9_findPieceOfAll 65 = .ok (.getfield 92, 3) := by decide +kernel
theorem dX9_findPieceOfAll_68 : decode cX9_findPieceOfAll 68 = .ok (.iload_n 1, 1) := by decide +kernel
theorem dX9_findPieceOfAll_69 : decode cX9_findPieceOfAll 69 = .ok (.iconst 0, 1) := by decide +kernel
theorem dX9_findPieceOfAll_70 : decode cX9_findPieceOfAll 70 = .ok (.bastore, 1) := by decide +kernel
theorem dX9_findPieceOfAll_71 : decode cX9_findPieceOfAll 71 = .ok (.iinc 1 (-1), 3) := by decide +kernel
theorem dX9_findPieceOfAll_74 : decode cX9_findPieceOfAll 74 = .ok (.goto (-39), 3) := by decide +kernel
theorem dX9_findPieceOfAll_77 : decode cX9_findPieceOfAll 77 = .ok (.iconst 0, 1) := by decide +kernel
theorem dX9_findPieceOfAll_78 : decode cX9_findPieceOfAll 78 = .ok (.istore_n 1, 1) := by decide +kernel
theorem dX9_findPieceOfAll_79 : decode cX9_findPieceOfAll 79 = .ok (.iload_n 1, 1) := by decide +kernel
theorem dX9_findPieceOfAll_80 : decode cX9_findPieceOfAll 80 = .ok (.aload_n 0, 1) := by decide +kernel
theorem dX9_findPieceOfAll_81 : decode cX9_findPieceOfAll 81 = .ok (.getfield 210, 3) := by decide +kernel
theorem dX9_findPieceOfAll_84 : decode cX9_findPieceOfAll 84 = .ok (.if_icmp .ge 16, 3) := by decide +kernel
theorem dX9_findPieceOfAll_87 : decode cX9_findPieceOfAll 87 = .ok (.aload_n 0, 1) := by decide +kernel
theorem dX9_findPieceOfAll_88 : decode cX9_findPieceOfAll 88 = .ok (.getfield 95, 3) := by decide +kernel
theorem dX9_findPieceOfAll_91 : decode cX9_findPieceOfAll 91 = .ok (.iload_n 1, 1) := by decide +kernel
theorem dX9_findPieceOfAll_92 : decode cX9_findPieceOfAll 92 = .ok (.iconst 0, 1) := by decide +kernel
theorem dX9_findPieceOfAll_93 : decode cX9_findPieceOfAll 93 = .ok (.iastore, 1) := by decide +kernel
theorem dX9_findPieceOfAll_94 : decode cX9_findPieceOfAll 94 = .ok (.iinc 1 1, 3) := by decide +kernel
theorem dX9_findPieceOfAll_97 : decode cX9_findPieceOfAll 97 = .ok (.goto (-18), 3) := by decide +kernel
theorem dX9_findPieceOfAll_100 : decode cX9_findPieceOfAll 100 = .ok (.iconst 0, 1) := by decide +kernel
theorem dX9_findPieceOfAll_101 : decode cX9_findPieceOfAll 101 = .ok (.istore_n 1, 1) := by decide +kernel
theorem dX9_findPieceOfAll_102 : decode cX9_findPieceOfAll 102 = .ok (.iload_n 1, 1) := by decide +kernel
theorem dX9_findPieceOfAll_103 : decode cX9_findPieceOfAll 103 = .ok (.aload_n 0, 1) := by decide +kernel
theorem dX9_findPieceOfAll_104 : decode cX9_findPieceOfAll 104 = .ok (.getfield 213, 3) := by decide +kernel
theorem dX9_findPieceOfAll_107 : decode cX9_findPieceOfAll 107 = .ok (.if_icmp .ge 48, 3) := by decide +kernel
theorem dX9_findPieceOfAll_110 : decode cX9_findPieceOfAll 110 = .ok (.aload_n 0, 1) := by decide +kernel
theorem dX9_findPieceOfAll_111 : decode cX9_findPieceOfAll 111 = .ok (.getfield 92, 3) := by decide +kernel
theorem dX9_findPieceOfAll_114 : decode cX9_findPieceOfAll 114 = .ok (.iload_n 1, 1) := by decide +kernel
theorem dX9_findPieceOfAll_115 : decode cX9_findPieceOfAll 115 = .ok (.baload, 1) := by decide +kernel
theorem dX9_findPieceOfAll_116 : decode cX9_findPieceOfAll 116 = .ok (.ifCond .eq 33, 3) := by decide +kernel
theorem dX9_findPieceOfAll_119 : decode cX9_findPieceOfAll 119 = .ok (.aload_n 0, 1) := by decide +kernel
theorem dX9_findPieceOfAll_120 : decode cX9_findPieceOfAll 120 = .ok (.getfield 95, 3) := by decide +kernel
theorem dX9_findPieceOfAll_123 : decode cX9_findPieceOfAll 123 = .ok (.aload_n 0, 1) := by decide +kernel
theorem dX9_findPieceOfAll_124 : decode cX9_findPieceOfAll 124 = .ok (.getfield 7, 3) := by decide +kernel
theorem dX9_findPieceOfAll_127 : decode cX9_findPieceOfAll 127 = .ok (.iload_n 1, 1) := by decide +kernel
theorem dX9_findPieceOfAll_128 : decode cX9_findPieceOfAll 128 = .ok (.iaload, 1) := by decide +kernel
theorem dX9_findPieceOfAll_129 : decode cX9_findPieceOfAll 129 = .ok (.dup2, 1) := by decide +kernel
theorem dX9_findPieceOfAll_130 : decode cX9_findPieceOfAll 130 = .ok (.iaload, 1) := by decide +kernel
theorem dX9_findPieceOfAll_131 : decode cX9_findPieceOfAll 131 = .ok (.iconst 1, 1) := by decide +kernel
theorem dX9_findPieceOfAll_132 : decode cX9_findPieceOfAll 132 = .ok (.iadd, 1) := by decide +kernel
theorem dX9_findPieceOfAll_133 : decode cX9_findPieceOfAll 133 = .ok (.iastore, 1) := by decide +kernel
theorem dX9_findPieceOfAll_134 : decode cX9_findPieceOfAll 134 = .ok (.aload_n 0, 1) := by decide +kernel
theorem dX9_findPieceOfAll_135 : decode cX9_findPieceOfAll 135 = .ok (.getfield 95, 3) := by decide +kernel
theorem dX9_findPieceOfAll_138 : decode cX9_findPieceOfAll 138 = .ok (.aload_n 0, 1) := by decide +kernel
theorem dX9_findPieceOfAll_139 : decode cX9_findPieceOfAll 139 = .ok (.getfield 13, 3) := by decide +kernel
theorem dX9_findPieceOfAll_142 : decode cX9_findPieceOfAll 142 = .ok (.iload_n 1, 1) := by decide +kernel
theorem dX9_findPieceOfAll_143 : decode cX9_findPieceOfAll 143 = .ok (.iaload, 1) := by decide +kernel
theorem dX9_findPieceOfAll_144 : decode cX9_findPieceOfAll 144 = .ok (.dup2, 1) := by decide +kernel
theorem dX9_findPieceOfAll_145 : decode cX9_findPieceOfAll 145 = .ok (.iaload, 1) := by decide +kernel
theorem dX9_findPieceOfAll_146 : decode cX9_findPieceOfAll 146 = .ok (.iconst 1, 1) := by decide +kernel
theorem dX9_findPieceOfAll_147 : decode cX9_findPieceOfAll 147 = .ok (.iadd, 1) := by decide +kernel
theorem dX9_findPieceOfAll_148 : decode cX9_findPieceOfAll 148 = .ok (.iastore, 1) := by decide +kernel
theorem dX9_findPieceOfAll_149 : decode cX9_findPieceOfAll 149 = .ok (.iinc 1 1, 3) := by decide +kernel
theorem dX9_findPieceOfAll_152 : decode cX9_findPieceOfAll 152 = .ok (.goto (-50), 3) := by decide +kernel
theorem dX9_findPieceOfAll_155 : decode cX9_findPieceOfAll 155 = .ok (.return_, 1) := by decide +kernel
theorem dX9_findRounds_10 : decode cX9_findRounds 10 = .ok (.aload_n 0, 1) := by decide +kernel
theorem dX9_findRounds_11 : decode cX9_findRounds 11 = .ok (.getfield 77, 3) := by decide +kernel
theorem dX9_findRounds_14 : decode cX9_findRounds 14 = .ok (.iload_n 1, 1) := by decide +kernel
theorem dX9_findRounds_15 : decode cX9_findRounds 15 = .ok (.iconst 0, 1) := by decide +kernel
theorem dX9_findRounds_16 : decode cX9_findRounds 16 = .ok (.iastore, 1) := by decide +kernel
theorem dX9_findRounds_17 : decode cX9_findRounds 17 = .ok (.iinc 1 1, 3) := by decide +kernel
theorem dX9_findRounds_20 : decode cX9_findRounds 20 = .ok (.goto (-18), 3) := by decide +kernel
theorem dX9_findRounds_41 : decode cX9_findRounds 41 = .ok (.aload_n 0, 1) := by decide +kernel
theorem dX9_findRounds_42 : decode cX9_findRounds 42 = .ok (.getfield 210, 3) := by decide +kernel
theorem dX9_findRounds_45 : decode cX9_findRounds 45 = .ok (.iconst 2, 1) := by decide +kernel
theorem dX9_findRounds_46 : decode cX9_findRounds 46 = .ok (.if_icmp .ne 28, 3) := by decide +kernel
theorem dX9_findRounds_49 : decode cX9_findRounds 49 = .ok (.aload_n 0, 1) := by decide +kernel
theorem dX9_findRounds_50 : decode cX9_findRounds 50 = .ok (.getfield 74, 3) := by decide +kernel
theorem dX9_findRounds_53 : decode cX9_findRounds 53 = .ok (.bipush 20, 2) := by decide +kernel
theorem dX9_findRounds_55 : decode cX9_findRounds 55 = .ok (.iload_n 1, 1) := by decide +kernel
theorem dX9_findRounds_56 : decode cX9_findRounds 56 = .ok (.imul, 1) := by decide +kernel
theorem dX9_findRounds_57 : decode cX9_findRounds 57 = .ok (.iconst 1, 1) := by decide +kernel
theorem dX9_findRounds_58 : decode cX9_findRounds 58 = .ok (.iload_n 1, 1) := by decide +kernel
theorem dX9_findRounds_59 : decode cX9_findRounds 59 = .ok (.isub, 1) := by decide +kernel
theorem dX9_findRounds_60 : decode cX9_findRounds 60 = .ok (.iastore, 1) := by decide +kernel
theorem dX9_findRounds_61 : decode cX9_findRounds 61 = .ok (.aload_n 0, 1) := by decide +kernel
theorem dX9_findRounds_62 : decode cX9_findRounds 62 = .ok (.getfield 77, 3) := by decide +kernel
theorem dX9_findRounds_65 : decode cX9_findRounds 65 = .ok (.iload_n 1, 1) := by decide +kernel
theorem dX9_findRounds_66 : decode cX9_findRounds 66 = .ok (.iconst 1, 1) := by decide +kernel
theorem dX9_findRounds_67 : decode cX9_findRounds 67 = .ok (.iastore, 1) := by decide +kernel
theorem dX9_findRounds_68 : decode cX9_findRounds 68 = .ok (.iinc 1 1, 3) := by decide +kernel
theorem dX9_findRounds_71 : decode cX9_findRounds 71 = .ok (.goto (-38), 3) := by decide +kernel
theorem dX9_findRounds_75 : decode cX9_findRounds 75 = .ok (.iconst 0, 1) := by decide +kernel
theorem dX9_findRounds_76 : decode cX9_findRounds 76 = .ok (.istore_n 1, 1) := by decide +kernel
theorem dX9_findRounds_77 : decode cX9_findRounds 77 = .ok (.iload_n 1, 1) := by decide +kernel
theorem dX9_findRounds_78 : decode cX9_findRounds 78 = .ok (.aload_n 0, 1) := by decide +kernel
theorem dX9_findRounds_79 : decode cX9_findRounds 79 = .ok (.getfield 174, 3) := by decide +kernel
theorem dX9_findRounds_82 : decode cX9_findRounds 82 = .ok (.if_icmp .ge 72, 3) := by decide +kernel
theorem dX9_findRounds_85 : decode cX9_findRounds 85 = .ok (.iconst 0, 1) := by decide +kernel
theorem dX9_findRounds_86 : decode cX9_findRounds 86 = .ok (.istore_n 2, 1) := by decide +kernel
theorem dX9_findRounds_87 : decode cX9_findRounds 87 = .ok (.iload_n 2, 1) := by decide +kernel
theorem dX9_findRounds_88 : decode cX9_findRounds 88 = .ok (.iconst 3, 1) := by decide +kernel
theorem dX9_findRounds_89 : decode cX9_findRounds 89 = .ok (.if_icmp .ge 59, 3) := by decide +kernel
theorem dX9_findRounds_92 : decode cX9_findRounds 92 = .ok (.aload_n 0, 1) := by decide +kernel
theorem dX9_findRounds_93 : decode cX9_findRounds 93 = .ok (.getfield 71, 3) := by decide +kernel
theorem dX9_findRounds_96 : decode cX9_findRounds 96 = .ok (.bipush 21, 2) := by decide +kernel
theorem dX9_findRounds_98 : decode cX9_findRounds 98 = .ok (.aload_n 0, 1) := by decide +kernel
theorem dX9_findRounds_99 : decode cX9_findRounds 99 = .ok (.getfield 44, 3) := by decide +kernel
theorem dX9_findRounds_102 : decode cX9_findRounds 102 = .ok (.bipush 21, 2) := by decide +kernel
theorem dX9_findRounds_104 : decode cX9_findRounds 104 = .ok (.iload_n 1, 1) := by decide +kernel
theorem dX9_findRounds_105 : decode cX9_findRounds 105 = .ok (.imul, 1) := by decide +kernel
theorem dX9_findRounds_106 : decode cX9_findRounds 106 = .ok (.iload_n 2, 1) := by decide +kernel
theorem dX9_findRounds_107 : decode cX9_findRounds 107 = .ok (.iadd, 1) := by decide +kernel
theorem dX9_findRounds_108 : decode cX9_findRounds 108 = .ok (.iaload, 1) := by decide +kernel
theorem dX9_findRounds_109 : decode cX9_findRounds 109 = .ok (.imul, 1) := by decide +kernel
theorem dX9_findRounds_110 : decode cX9_findRounds 110 = .ok (.aload_n 0, 1) := by decide +kernel
theorem dX9_findRounds_111 : decode cX9_findRounds 111 = .ok (.getfield 44, 3) := by decide +kernel
theorem dX9_findRounds_114 : decode cX9_findRounds 114 = .ok (.bipush 21, 2) := by decide +kernel
theorem dX9_findRounds_116 : decode cX9_findRounds 116 = .ok (.iload_n 1, 1) := by decide +kernel
theorem dX9_findRounds_117 : decode cX9_findRounds 117 = .ok (.imul, 1) := by decide +kernel
theorem dX9_findRounds_118 : decode cX9_findRounds 118 = .ok (.iload_n 2, 1) := by decide +kernel
theorem dX9_findRounds_119 : decode cX9_findRounds 119 = .ok (.iconst 1, 1) := by decide +kernel
theorem dX9_findRounds_120 : decode cX9_findRounds 120 = .ok (.iadd, 1) := by decide +kernel
theorem dX9_findRounds_121 : decode cX9_findRounds 121 = .ok (.iconst 3, 1) := by decide +kernel
theorem dX9_findRounds_122 : decode cX9_findRounds 122 = .ok (.irem, 1) := by decide +kernel
theorem dX9_findRounds_123 : decode cX9_findRounds 123 = .ok (.iadd, 1) := by decide +kernel
theorem dX9_findRounds_124 : decode cX9_findRounds 124 = .ok (.iaload, 1) := by decide +kernel
theorem dX9_findRounds_125 : decode cX9_findRounds 125 = .ok (.iadd, 1) := by decide +kernel
theorem dX9_findRounds_126 : decode cX9_findRounds 126 = .ok (.aload_n 0, 1) := by decide +kernel
theorem dX9_findRounds_127 : decode cX9_findRounds 127 = .ok (.getfield 44, 3) := by decide +kernel
theorem dX9_findRounds_130 : decode cX9_findRounds 130 = .ok (.bipush 21, 2) := by decide +kernel
theorem dX9_findRounds_132 : decode cX9_findRounds 132 = .ok (.iload_n 1, 1) := by decide +kernel
theorem dX9_findRounds_133 : decode cX9_findRounds 133 = .ok (.imul, 1) := by decide +kernel
theorem dX9_findRounds_134 : decode cX9_findRounds 134 = .ok (.iload_n 2, 1) := by decide +kernel
theorem dX9_findRounds_135 : decode cX9_findRounds 135 = .ok (.iconst 2, 1) := by decide +kernel
theorem dX9_findRounds_136 : decode cX9_findRounds 136 = .ok (.iadd, 1) := by decide +kernel
theorem dX9_findRounds_137 : decode cX9_findRounds 137 = .ok (.iconst 3, 1) := by decide +kernel
theorem dX9_findRounds_138 : decode cX9_findRounds 138 = .ok (.irem, 1) := by decide +kernel
theorem dX9_findRounds_139 : decode cX9_findRounds 139 = .ok (.iadd, 1) := by decide +kernel
theorem dX9_findRounds_140 : decode cX9_findRounds 140 = .ok (.iaload, 1) := by decide +kernel
theorem dX9_findRounds_141 : decode cX9_findRounds 141 = .ok (.iastore, 1) := by decide +kernel
theorem dX9_findRounds_142 : decode cX9_findRounds 142 = .ok (.iinc 2 1, 3) := by decide +kernel
theorem dX9_findRounds_145 : decode cX9_findRounds 145 = .ok (.goto (-58), 3) := by decide +kernel
theorem dX9_findRounds_148 : decode cX9_findRounds 148 = .ok (.iinc 1 1, 3) := by decide +kernel
theorem dX9_findRounds_151 : decode cX9_findRounds 151 = .ok (.goto (-74), 3) := by decide +kernel
theorem dX9_findRounds_154 : decode cX9_findRounds 154 = .ok (.aload_n 0, 1) := by decide +kernel
theorem dX9_findRounds_155 : decode cX9_findRounds 155 = .ok (.getfield 68, 3) := by decide +kernel
theorem dX9_findRounds_158 : decode cX9_findRounds 158 = .ok (.iconst 0, 1) := by decide +kernel
theorem dX9_findRounds_159 : decode cX9_findRounds 159 = .ok (.iaload, 1) := by decide +kernel
theorem dX9_findRounds_160 : decode cX9_findRounds 160 = .ok (.invokestatic 248, 3) := by decide +kernel
theorem dX9_findRounds_163 : decode cX9_findRounds 163 = .ok (.istore_n 1, 1) := by decide +kernel
theorem dX9_findRounds_164 : decode cX9_findRounds 164 = .ok (.iload_n 1, 1) := by decide +kernel
theorem dX9_findRounds_165 : decode cX9_findRounds 165 = .ok (.istore_n 2, 1) := by decide +kernel
theorem dX9_findRounds_166 : decode cX9_findRounds 166 = .ok (.aload_n 0, 1) := by decide +kernel
theorem dX9_findRounds_167 : decode cX9_findRounds 167 = .ok (.getfield 71, 3) := by decide +kernel
theorem dX9_findRounds_170 : decode cX9_findRounds 170 = .ok (.iload_n 2, 1) := by decide +kernel
theorem dX9_findRounds_171 : decode cX9_findRounds 171 = .ok (.iaload, 1) := by decide +kernel
theorem dX9_findRounds_172 : decode cX9_findRounds 172 = .ok (.iload_n 1, 1) := by decide +kernel
theorem dX9_findRounds_173 : decode cX9_findRounds 173 = .ok (.if_icmp .eq 13, 3) := by decide +kernel
theorem dX9_findRounds_176 : decode cX9_findRounds 176 = .ok (.aload_n 0, 1) := by decide +kernel
theorem dX9_findRounds_177 : decode cX9_findRounds 177 = .ok (.getfield 71, 3) := by decide +kernel
theorem dX9_findRounds_180 : decode cX9_findRounds 180 = .ok (.iload_n 2, 1) := by decide +kernel
theorem dX9_findRounds_181 : decode cX9_findRounds 181 = .ok (.iaload, 1) := by decide +kernel
theorem dX9_findRounds_182 : decode cX9_findRounds 182 = .ok (.istore_n 2, 1) := by decide +kernel
theorem dX9_findRounds_183 : decode cX9_findRounds 183 = .ok (.goto (-17), 3) := by decide +kernel
theorem dX9_findRounds_186 : decode cX9_findRounds 186 = .ok (.aload_n 0, 1) := by decide +kernel
theorem dX9_findRounds_187 : decode cX9_findRounds 187 = .ok (.getfield 71, 3) := by decide +kernel
theorem dX9_findRounds_190 : decode cX9_findRounds 190 = .ok (.iload_n 1, 1) := by decide +kernel
theorem dX9_findRounds_191 : decode cX9_findRounds 191 = .ok (.iaload, 1) := by decide +kernel
theorem dX9_findRounds_192 : decode cX9_findRounds 192 = .ok (.iload_n 2, 1) := by decide +kernel
theorem dX9_findRounds_193 : decode cX9_findRounds 193 = .ok (.if_icmp .le 7, 3) := by decide +kernel
theorem dX9_findRounds_196 : decode cX9_findRounds 196 = .ok (.iconst 1, 1) := by decide +kernel
theorem dX9_findRounds_197 : decode cX9_findRounds 197 = .ok (.goto 4, 3) := by decide +kernel
theorem dX9_findRounds_200 : decode cX9_findRounds 200 = .ok (.iconst 0, 1) := by decide +kernel
theorem dX9_findRounds_201 : decode cX9_findRounds 201 = .ok (.istore_n 3, 1) := by decide +kernel
theorem dX9_findRounds_202 : decode cX9_findRounds 202 = .ok (.iconst 0, 1) := by decide +kernel
theorem dX9_findRounds_203 : decode cX9_findRounds 203 = .ok (.istore 4, 2) := by decide +kernel
theorem dX9_findRounds_205 : decode cX9_findRounds 205 = .ok (.iload 4, 2) := by decide +kernel
theorem dX9_findRounds_207 : decode cX9_findRounds 207 = .ok (.aload_n 0, 1) := by decide +kernel
theorem dX9_findRounds_208 : decode cX9_findRounds 208 = .ok (.getfield 210, 3) := by decide +kernel
theorem dX9_findRounds_211 : decode cX9_findRounds 211 = .ok (.if_icmp .ge 96, 3) := by decide +kernel
theorem dX9_findRounds_214 : decode cX9_findRounds 214 = .ok (.aload_n 0, 1) := by decide +kernel
theorem dX9_findRounds_215 : decode cX9_findRounds 215 = .ok (.getfield 68, 3) := by decide +kernel
theorem dX9_findRounds_218 : decode cX9_findRounds 218 = .ok (.iload 4, 2) := by decide +kernel
theorem dX9_findRounds_220 : decode cX9_findRounds 220 = .ok (.iaload, 1) := by decide +kernel
theorem dX9_findRounds_221 : decode cX9_findRounds 221 = .ok (.invokestatic 248, 3) := by decide +kernel
theorem dX9_findRounds_224 : decode cX9_findRounds 224 = .ok (.istore 5, 2) := by decide +kernel
theorem dX9_findRounds_226 : decode cX9_findRounds 226 = .ok (.iconst 0, 1) := by decide +kernel
theorem dX9_findRounds_227 : decode cX9_findRounds 227 = .ok (.istore 6, 2) := by decide +kernel
theorem dX9_findRounds_229 : decode cX9_findRounds 229 = .ok (.aload_n 0, 1) := by decide +kernel
theorem dX9_findRounds_230 : decode cX9_findRounds 230 = .ok (.getfield 74, 3) := by decide +kernel
theorem dX9_findRounds_233 : decode cX9_findRounds 233 = .ok (.bipush 20, 2) := by decide +kernel
theorem dX9_findRounds_235 : decode cX9_findRounds 235 = .ok (.iload 4, 2) := by decide +kernel
theorem dX9_findRounds_237 : decode cX9_findRounds 237 = .ok (.imul, 1) := by decide +kernel
theorem dX9_findRounds_238 : decode cX9_findRounds 238 = .ok (.iload 6, 2) := by decide +kernel
theorem dX9_findRounds_240 : decode cX9_findRounds 240 = .ok (.iadd, 1) := by decide +kernel
theorem dX9_findRounds_241 : decode cX9_findRounds 241 = .ok (.iload 5, 2) := by decide +kernel
theorem dX9_findRounds_243 : decode cX9_findRounds 243 = .ok (.iastore, 1) := by decide +kernel
theorem dX9_findRounds_244 : decode cX9_findRounds 244 = .ok (.iinc 6 1, 3) := by decide +kernel
theorem dX9_findRounds_247 : decode cX9_findRounds 247 = .ok (.iload_n 3, 1) := by decide +kernel
theorem dX9_findRounds_248 : decode cX9_findRounds 248 = .ok (.ifCond .eq 14, 3) := by decide +kernel
theorem dX9_findRounds_251 : decode cX9_findRounds 251 = .ok (.aload_n 0, 1) := by decide +kernel
theorem dX9_findRounds_252 : decode cX9_findRounds 252 = .ok (.iload 4, 2) := by decide +kernel
theorem dX9_findRounds_254 : decode cX9_findRounds 254 = .ok (.iload 5, 2) := by decide +kernel
theorem dX9_findRounds_256 : decode cX9_findRounds 256 = .ok (.invokevirtual 251, 3) := by decide +kernel
theorem dX9_findRounds_259 : decode cX9_findRounds 259 = .ok (.goto 16, 3) := by decide +kernel
theorem dX9_findRounds_262 : decode cX9_findRounds 262 = .ok (.aload_n 0, 1) := by decide +kernel
theorem dX9_findRounds_263 : decode cX9_findRounds 263 = .ok (.getfield 71, 3) := by decide +kernel
theorem dX9_findRounds_266 : decode cX9_findRounds 266 = .ok (.bipush 21, 2) := by decide +kernel
theorem dX9_findRounds_268 : decode cX9_findRounds 268 = .ok (.iload 4, 2) := by decide +kernel
theorem dX9_findRounds_270 : decode cX9_findRounds 270 = .ok (.imul, 1) := by decide +kernel
theorem dX9_findRounds_271 : decode cX9_findRounds 271 = .ok (.iload 5, 2) := by decide +kernel
theorem dX9_findRounds_273 : decode cX9_findRounds 273 = .ok (.iadd, 1) := by decide +kernel
theorem dX9_findRounds_274 : decode cX9_findRounds 274 = .ok (.iaload, 1) := by decide +kernel
theorem dX9_findRounds_275 : decode cX9_findRounds 275 = .ok (.istore 5, 2) := by decide +kernel
theorem dX9_findRounds_277 : decode cX9_findRounds 277 = .ok (.iload 5, 2) := by decide +kernel
theorem dX9_findRounds_279 : decode cX9_findRounds 279 = .ok (.aload_n 0, 1) := by decide +kernel
theorem dX9_findRounds_280 : decode cX9_findRounds 280 = .ok (.getfield 74, 3) := by decide +kernel
theorem dX9_findRounds_283 : decode cX9_findRounds 283 = .ok (.bipush 20, 2) := by decide +kernel
theorem dX9_findRounds_285 : decode cX9_findRounds 285 = .ok (.iload 4, 2) := by decide +kernel
theorem dX9_findRounds_287 : decode cX9_findRounds 287 = .ok (.imul, 1) := by decide +kernel
theorem dX9_findRounds_288 : decode cX9_findRounds 288 = .ok (.iaload, 1) := by decide +kernel
theorem dX9_findRounds_289 : decode cX9_findRounds 289 = .ok (.if_icmp .ne (-60), 3) := by decide +kernel
theorem dX9_findRounds_292 : decode cX9_findRounds 292 = .ok (.aload_n 0, 1) := by decide +kernel
theorem dX9_findRounds_293 : decode cX9_findRounds 293 = .ok (.getfield 77, 3) := by decide +kernel
theorem dX9_findRounds_296 : decode cX9_findRounds 296 = .ok (.iload 4, 2) := by decide +kernel
theorem dX9_findRounds_298 : decode cX9_findRounds 298 = .ok (.iload 6, 2) := by decide +kernel
theorem dX9_findRounds_300 : decode cX9_findRounds 300 = .ok (.iastore, 1) := by decide +kernel
theorem dX9_findRounds_301 : decode cX9_findRounds 301 = .ok (.iinc 4 1, 3) := by decide +kernel
theorem dX9_findRounds_304 : decode cX9_findRounds 304 = .ok (.goto (-99), 3) := by decide +kernel
theorem dX9_findRounds_307 : decode cX9_findRounds 307 = .ok (.return_, 1) := by decide +kernel
theorem dX9_findTurns_10 : decode cX9_findTurns 10 = .ok (.iconst 0, 1) := by decide +kernel
theorem dX9_findTurns_11 : decode cX9_findTurns 11 = .ok (.istore_n 2, 1) := by decide +kernel
theorem dX9_findTurns_12 : decode cX9_findTurns 12 = .ok (.iconst 0, 1) := by decide +kernel
theorem dX9_findTurns_13 : decode cX9_findTurns 13 = .ok (.istore_n 3, 1) := by decide +kernel
theorem dX9_findTurns_14 : decode cX9_findTurns 14 = .ok (.iload_n 3, 1) := by decide +kernel
theorem dX9_findTurns_15 : decode cX9_findTurns 15 = .ok (.aload_n 0, 1) := by decide +kernel
theorem dX9_findTurns_16 : decode cX9_findTurns 16 = .ok (.getfield 77, 3) := by decide +kernel
theorem dX9_findTurns_19 : decode cX9_findTurns 19 = .ok (.iload_n 1, 1) := by decide +kernel
theorem dX9_findTurns_20 : decode cX9_findTurns 20 = .ok (.iaload, 1) := by decide +kernel
theorem dX9_findTurns_21 : decode cX9_findTurns 21 = .ok (.if_icmp .ge 157, 3) := by decide +kernel
theorem dX9_findTurns_24 : decode cX9_findTurns 24 = .ok (.aload_n 0, 1) := by decide +kernel
theorem dX9_findTurns_25 : decode cX9_findTurns 25 = .ok (.getfield 74, 3) := by decide +kernel
theorem dX9_findTurns_28 : decode cX9_findTurns 28 = .ok (.bipush 20, 2) := by decide +kernel
theorem dX9_findTurns_30 : decode cX9_findTurns 30 = .ok (.iload_n 1, 1) := by decide +kernel
theorem dX9_findTurns_31 : decode cX9_findTurns 31 = .ok (.imul, 1) := by decide +kernel
theorem dX9_findTurns_32 : decode cX9_findTurns 32 = .ok (.iload_n 3, 1) := by decide +kernel
theorem dX9_findTurns_33 : decode cX9_findTurns 33 = .ok (.iadd, 1) := by decide +kernel
theorem dX9_findTurns_34 : decode cX9_findTurns 34 = .ok (.iaload, 1) := by decide +kernel
theorem dX9_findTurns_35 : decode cX9_findTurns 35 = .ok (.istore 4, 2) := by decide +kernel
theorem dX9_findTurns_37 : decode cX9_findTurns 37 = .ok (.iconst 0, 1) := by decide +kernel
theorem dX9_findTurns_38 : decode cX9_findTurns 38 = .ok (.istore 5, 2) := by decide +kernel
theorem dX9_findTurns_40 : decode cX9_findTurns 40 = .ok (.iload 5, 2) := by decide +kernel
theorem dX9_findTurns_42 : decode cX9_findTurns 42 = .ok (.aload_n 0, 1) := by decide +kernel
theorem dX9_findTurns_43 : decode cX9_findTurns 43 = .ok (.getfield 213, 3) := by decide +kernel
theorem dX9_findTurns_46 : decode cX9_findTurns 46 = .ok (.if_icmp .ge 126, 3) := by decide +kernel
theorem dX9_findTurns_49 : decode cX9_findTurns 49 = .ok (.iload_n 1, 1) := by decide +kernel
theorem dX9_findTurns_50 : decode cX9_findTurns 50 = .ok (.iload 4, 2) := by decide +kernel
theorem dX9_findTurns_52 : decode cX9_findTurns 52 = .ok (.if_icmp .ge 8, 3) := by decide +kernel
theorem dX9_findTurns_55 : decode cX9_findTurns 55 = .ok (.iload 5, 2) := by decide +kernel
theorem dX9_findTurns_57 : decode cX9_findTurns 57 = .ok (.goto 12, 3) := by decide +kernel
theorem dX9_findTurns_60 : decode cX9_findTurns 60 = .ok (.aload_n 0, 1) := by decide +kernel
theorem dX9_findTurns_61 : decode cX9_findTurns 61 = .ok (.getfield 213, 3) := by decide +kernel
theorem dX9_findTurns_64 : decode cX9_findTurns 64 = .ok (.iconst 1, 1) := by decide +kernel
theorem dX9_findTurns_65 : decode cX9_findTurns 65 = .ok (.isub, 1) := by decide +kernel
theorem dX9_findTurns_66 : decode cX9_findTurns 66 = .ok (.iload 5, 2) := by decide +kernel
theorem dX9_findTurns_68 : decode cX9_findTurns 68 = .ok (.isub, 1) := by decide +kernel
theorem dX9_findTurns_69 : decode cX9_findTurns 69 = .ok (.istore 6, 2) := by decide +kernel
theorem dX9_findTurns_71 : decode cX9_findTurns 71 = .ok (.aload_n 0, 1) := by decide +kernel
theorem dX9_findTurns_72 : decode cX9_findTurns 72 = .ok (.getfield 16, 3) := by decide +kernel
theorem dX9_findTurns_75 : decode cX9_findTurns 75 = .ok (.iload 6, 2) := by decide +kernel
theorem dX9_findTurns_77 : decode cX9_findTurns 77 = .ok (.baload, 1) := by decide +kernel
theorem dX9_findTurns_78 : decode cX9_findTurns 78 = .ok (.ifCond .eq 88, 3) := by decide +kernel
theorem dX9_findTurns_81 : decode cX9_findTurns 81 = .ok (.aload_n 0, 1) := by decide +kernel
theorem dX9_findTurns_82 : decode cX9_findTurns 82 = .ok (.getfield 7, 3) := by decide +kernel
theorem dX9_findTurns_85 : decode cX9_findTurns 85 = .ok (.iload 6, 2) := by decide +kernel
theorem dX9_findTurns_87 : decode cX9_findTurns 87 = .ok (.iaload, 1) := by decide +kernel
theorem dX9_findTurns_88 : decode cX9_findTurns 88 = .ok (.iload_n 1, 1) := by decide +kernel
theorem dX9_findTurns_89 : decode cX9_findTurns 89 = .ok (.if_icmp .ne 15, 3) := by decide +kernel
theorem dX9_findTurns_92 : decode cX9_findTurns 92 = .ok (.aload_n 0, 1) := by decide +kernel
theorem dX9_findTurns_93 : decode cX9_findTurns 93 = .ok (.getfield 13, 3) := by decide +kernel
theorem dX9_findTurns_96 : decode cX9_findTurns 96 = .ok (.iload 6, 2) := by decide +kernel
theorem dX9_findTurns_98 : decode cX9_findTurns 98 = .ok (.iaload, 1) := by decide +kernel
theorem dX9_findTurns_99 : decode cX9_findTurns 99 = .ok (.iload 4, 2) := by decide +kernel
theorem dX9_findTurns_101 : decode cX9_findTurns 101 = .ok (.if_icmp .eq 26, 3) := by decide +kernel
theorem dX9_findTurns_104 : decode cX9_findTurns 104 = .ok (.aload_n 0, 1) := by decide +kernel
theorem dX9_findTurns_105 : decode cX9_findTurns 105 = .ok (.getfield 7, 3) := by decide +kernel
theorem dX9_findTurns_108 : decode cX9_findTurns 108 = .ok (.iload 6, 2) := by decide +kernel
theorem dX9_findTurns_110 : decode cX9_findTurns 110 = .ok (.iaload, 1) := by decide +kernel
theorem dX9_findTurns_111 : decode cX9_findTurns 111 = .ok (.iload 4, 2) := by decide +kernel
theorem dX9_findTurns_113 : decode cX9_findTurns 113 = .ok (.if_icmp .ne 53, 3) := by decide +kernel
theorem dX9_findTurns_116 : decode cX9_findTurns 116 = .ok (.aload_n 0, 1) := by decide +kernel
theorem dX9_findTurns_117 : decode cX9_findTurns 117 = .ok (.getfield 13, 3) := by decide +kernel
theorem dX9_findTurns_120 : decode cX9_findTurns 120 = .ok (.iload 6, 2) := by decide +kernel
theorem dX9_findTurns_122 : decode cX9_findTurns 122 = .ok (.iaload, 1) := by decide +kernel
theorem dX9_findTurns_123 : decode cX9_findTurns 123 = .ok (.iload_n 1, 1) := by decide +kernel
theorem dX9_findTurns_124 : decode cX9_findTurns 124 = .ok (.if_icmp .ne 42, 3) := by decide +kernel
theorem dX9_findTurns_127 : decode cX9_findTurns 127 = .ok (.aload_n 0, 1) := by decide +kernel
theorem dX9_findTurns_128 : decode cX9_findTurns 128 = .ok (.getfield 80, 3) := by decide +kernel
theorem dX9_findTurns_131 : decode cX9_findTurns 131 = .ok (.sipush 160, 3) := by decide +kernel
theorem dX9_findTurns_134 : decode cX9_findTurns 134 = .ok (.iload_n 1, 1) := by decide +kernel
theorem dX9_findTurns_135 : decode cX9_findTurns 135 = .ok (.imul, 1) := by decide +kernel
theorem dX9_findTurns_136 : decode cX9_findTurns 136 = .ok (.iload_n 2, 1) := by decide +kernel
theorem dX9_findTurns_137 : decode cX9_findTurns 137 = .ok (.iadd, 1) := by decide +kernel
theorem dX9_findTurns_138 : decode cX9_findTurns 138 = .ok (.aload_n 0, 1) := by decide +kernel
theorem dX9_findTurns_139 : decode cX9_findTurns 139 = .ok (.getfield 7, 3) := by decide +kernel
theorem dX9_findTurns_142 : decode cX9_findTurns 142 = .ok (.iload 6, 2) := by decide +kernel
theorem dX9_findTurns_144 : decode cX9_findTurns 144 = .ok (.iaload, 1) := by decide +kernel
theorem dX9_findTurns_145 : decode cX9_findTurns 145 = .ok (.iload_n 1, 1) := by decide +kernel
theorem dX9_findTurns_146 : decode cX9_findTurns 146 = .ok (.if_icmp .ne 10, 3) := by decide +kernel
theorem dX9_findTurns_149 : decode cX9_findTurns 149 = .ok (.iconst 2, 1) := by decide +kernel
theorem dX9_findTurns_150 : decode cX9_findTurns 150 = .ok (.iload 6, 2) := by decide +kernel
theorem dX9_findTurns_152 : decode cX9_findTurns 152 = .ok (.imul, 1) := by decide +kernel
theorem dX9_findTurns_153 : decode cX9_findTurns 153 = .ok (.goto 9, 3) := by decide +kernel
theorem dX9_findTurns_156 : decode cX9_findTurns 156 = .ok (.iconst 2, 1) := by decide +kernel
theorem dX9_findTurns_157 : decode cX9_findTurns 157 = .ok (.iload 6, 2) := by decide +kernel
theorem dX9_findTurns_159 : decode cX9_findTurns 159 = .ok (.imul, 1) := by decide +kernel
theorem dX9_findTurns_160 : decode cX9_findTurns 160 = .ok (.iconst 1, 1) := by decide +kernel
theorem dX9_findTurns_161 : decode cX9_findTurns 161 = .ok (.iadd, 1) := by decide +kernel
theorem dX9_findTurns_162 : decode cX9_findTurns 162 = .ok (.iastore, 1) := by decide +kernel
theorem dX9_findTurns_163 : decode cX9_findTurns 163 = .ok (.iinc 2 1, 3) := by decide +kernel
theorem dX9_findTurns_166 : decode cX9_findTurns 166 = .ok (.iinc 5 1, 3) := by decide +kernel
theorem dX9_findTurns_169 : decode cX9_findTurns 169 = .ok (.goto (-129), 3) := by decide +kernel
theorem dX9_findTurns_172 : decode cX9_findTurns 172 = .ok (.iinc 3 1, 3) := by decide +kernel
theorem dX9_findTurns_175 : decode cX9_findTurns 175 = .ok (.goto (-161), 3) := by decide +kernel
theorem dX9_findTurns_178 : decode cX9_findTurns 178 = .ok (.iconst 0, 1) := by decide +kernel
theorem dX9_findTurns_179 : decode cX9_findTurns 179 = .ok (.istore_n 3, 1) := by decide +kernel
theorem dX9_findTurns_180 : decode cX9_findTurns 180 = .ok (.iload_n 3, 1) := by decide +kernel
theorem dX9_findTurns_181 : decode cX9_findTurns 181 = .ok (.aload_n 0, 1) := by decide +kernel
theorem dX9_findTurns_182 : decode cX9_findTurns 182 = .ok (.getfield 213, 3) := by decide +kernel
theorem dX9_findTurns_185 : decode cX9_findTurns 185 = .ok (.if_icmp .ge 75, 3) := by decide +kernel
theorem dX9_findTurns_188 : decode cX9_findTurns 188 = .ok (.aload_n 0, 1) := by decide +kernel
theorem dX9_findTurns_189 : decode cX9_findTurns 189 = .ok (.getfield 16, 3) := by decide +kernel
theorem dX9_findTurns_192 : decode cX9_findTurns 192 = .ok (.iload_n 3, 1) := by decide +kernel
theorem dX9_findTurns_193 : decode cX9_findTurns 193 = .ok (.baload, 1) := by decide +kernel
theorem dX9_findTurns_194 : decode cX9_findTurns 194 = .ok (.ifCond .eq 60, 3) := by decide +kernel
theorem dX9_findTurns_197 : decode cX9_findTurns 197 = .ok (.aload_n 0, 1) := by decide +kernel
theorem dX9_findTurns_198 : decode cX9_findTurns 198 = .ok (.getfield 7, 3) := by decide +kernel
theorem dX9_findTurns_201 : decode cX9_findTurns 201 = .ok (.iload_n 3, 1) := by decide +kernel
theorem dX9_findTurns_202 : decode cX9_findTurns 202 = .ok (.iaload, 1) := by decide +kernel
theorem dX9_findTurns_203 : decode cX9_findTurns 203 = .ok (.iload_n 1, 1) := by decide +kernel
theorem dX9_findTurns_204 : decode cX9_findTurns 204 = .ok (.if_icmp .ne 50, 3) := by decide +kernel
theorem dX9_findTurns_207 : decode cX9_findTurns 207 = .ok (.aload_n 0, 1) := by decide +kernel
theorem dX9_findTurns_208 : decode cX9_findTurns 208 = .ok (.getfield 13, 3) := by decide +kernel
theorem dX9_findTurns_211 : decode cX9_findTurns 211 = .ok (.iload_n 3, 1) := by decide +kernel
theorem dX9_findTurns_212 : decode cX9_findTurns 212 = .ok (.iaload, 1) := by decide +kernel
theorem dX9_findTurns_213 : decode cX9_findTurns 213 = .ok (.iload_n 1, 1) := by decide +kernel
theorem dX9_findTurns_214 : decode cX9_findTurns 214 = .ok (.if_icmp .ne 40, 3) := by decide +kernel
theorem dX9_findTurns_217 : decode cX9_findTurns 217 = .ok (.aload_n 0, 1) := by decide +kernel
theorem dX9_findTurns_218 : decode cX9_findTurns 218 = .ok (.getfield 80, 3) := by decide +kernel
theorem dX9_findTurns_221 : decode cX9_findTurns 221 = .ok (.sipush 160, 3) := by decide +kernel
theorem dX9_findTurns_224 : decode cX9_findTurns 224 = .ok (.iload_n 1, 1) := by decide +kernel
theorem dX9_findTurns_225 : decode cX9_findTurns 225 = .ok (.imul, 1) := by decide +kernel
theorem dX9_findTurns_226 : decode cX9_findTurns 226 = .ok (.iload_n 2, 1) := by decide +kernel
theorem dX9_findTurns_227 : decode cX9_findTurns 227 = .ok (.iadd, 1) := by decide +kernel
theorem dX9_findTurns_228 : decode cX9_findTurns 228 = .ok (.iconst 2, 1) := by decide +kernel
theorem dX9_findTurns_229 : decode cX9_findTurns 229 = .ok (.iload_n 3, 1) := by decide +kernel
theorem dX9_findTurns_230 : decode cX9_findTurns 230 = .ok (.imul, 1) := by decide +kernel
theorem dX9_findTurns_231 : decode cX9_findTurns 231 = .ok (.iastore, 1) := by decide +kernel
theorem dX9_findTurns_232 : decode cX9_findTurns 232 = .ok (.aload_n 0, 1) := by decide +kernel
theorem dX9_findTurns_233 : decode cX9_findTurns 233 = .ok (.getfield 80, 3) := by decide +kernel
theorem dX9_findTurns_236 : decode cX9_findTurns 236 = .ok (.sipush 160, 3) := by decide +kernel
theorem dX9_findTurns_239 : decode cX9_findTurns 239 = .ok (.iload_n 1, 1) := by decide +kernel
theorem dX9_findTurns_240 : decode cX9_findTurns 240 = .ok (.imul, 1) := by decide +kernel
theorem dX9_findTurns_241 : decode cX9_findTurns 241 = .ok (.iload_n 2, 1) := by decide +kernel
theorem dX9_findTurns_242 : decode cX9_findTurns 242 = .ok (.iadd, 1) := by decide +kernel
theorem dX9_findTurns_243 : decode cX9_findTurns 243 = .ok (.iconst 1, 1) := by decide +kernel
theorem dX9_findTurns_244 : decode cX9_findTurns 244 = .ok (.iadd, 1) := by decide +kernel
theorem dX9_findTurns_245 : decode cX9_findTurns 245 = .ok (.iconst 2, 1) := by decide +kernel
theorem dX9_findTurns_246 : decode cX9_findTurns 246 = .ok (.iload_n 3, 1) := by decide +kernel
theorem dX9_findTurns_247 : decode cX9_findTurns 247 = .ok (.imul, 1) := by decide +kernel
theorem dX9_findTurns_248 : decode cX9_findTurns 248 = .ok (.iconst 1, 1) := by decide +kernel
theorem dX9_findTurns_249 : decode cX9_findTurns 249 = .ok (.iadd, 1) := by decide +kernel
theorem dX9_findTurns_250 : decode cX9_findTurns 250 = .ok (.iastore, 1) := by decide +kernel
theorem dX9_findTurns_251 : decode cX9_findTurns 251 = .ok (.iinc 2 2, 3) := by decide +kernel
theorem dX9_findTurns_254 : decode cX9_findTurns 254 = .ok (.iinc 3 1, 3) := by decide +kernel
theorem dX9_findTurns_257 : decode cX9_findTurns 257 = .ok (.goto (-77), 3) := by decide +kernel
theorem dX9_findTurns_260 : decode cX9_findTurns 260 = .ok (.aload_n 0, 1) := by decide +kernel
theorem dX9_findTurns_261 : decode cX9_findTurns 261 = .ok (.getfield 83, 3) := by decide +kernel
theorem dX9_findTurns_264 : decode cX9_findTurns 264 = .ok (.iload_n 1, 1) := by decide +kernel
theorem dX9_findTurns_265 : decode cX9_findTurns 265 = .ok (.iload_n 2, 1) := by decide +kernel
theorem dX9_findTurns_266 : decode cX9_findTurns 266 = .ok (.iastore, 1) := by decide +kernel
theorem dX9_findTurns_267 : decode cX9_findTurns 267 = .ok (.iinc 1 1, 3) := by decide +kernel
theorem dX9_findTurns_270 : decode cX9_findTurns 270 = .ok (.goto (-268), 3) := by decide +kernel
theorem dX9_hasDual_14 : decode cX9_hasDual 14 = .ok (.aload_n 0, 1) := by decide +kernel
theorem dX9_hasDual_15 : decode cX9_hasDual 15 = .ok (.invokevirtual 327, 3) := by decide +kernel
theorem dX9_hasDual_18 : decode cX9_hasDual 18 = .ok (.iconst 1, 1) := by decide +kernel
theorem dX9_hasDual_19 : decode cX9_hasDual 19 = .ok (.if_icmp .ne 7, 3) := by decide +kernel
theorem dX9_hasDual_22 : decode cX9_hasDual 22 = .ok (.iconst 1, 1) := by decide +kernel
theorem dX9_hasDual_23 : decode cX9_hasDual 23 = .ok (.goto 4, 3) := by decide +kernel
theorem dX9_isArc_12 : decode cX9_isArc 12 = .ok (.aload_n 0, 1) := by decide +kernel
theorem dX9_isArc_13 : decode cX9_isArc 13 = .ok (.getfield 16, 3) := by decide +kernel
theorem dX9_isArc_16 : decode cX9_isArc 16 = .ok (.iload_n 1, 1) := by decide +kernel
theorem dX9_isArc_17 : decode cX9_isArc 17 = .ok (.baload, 1) := by decide +kernel
theorem dX9_isArc_18 : decode cX9_isArc 18 = .ok (.ifCond .eq 7, 3) := by decide +kernel
theorem dX9_isArc_21 : decode cX9_isArc 21 = .ok (.iconst 1, 1) := by decide +kernel
theorem dX9_isArc_22 : decode cX9_isArc 22 = .ok (.goto 4, 3) := by decide +kernel
theorem dX9_isNode_12 : decode cX9_isNode 12 = .ok (.iconst 1, 1) := by decide +kernel
theorem dX9_isNode_13 : decode cX9_isNode 13 = .ok (.goto 4, 3) := by decide +kernel
theorem dX9_isOpen_0 : decode cX9_isOpen 0 = .ok (.iconst 0, 1) := by decide +kernel
theorem dX9_isOpen_1 : decode cX9_isOpen 1 = .ok (.istore_n 3, 1) := by decide +kernel
theorem dX9_isOpen_2 : decode cX9_isOpen 2 = .ok (.iload_n 3, 1) := by decide +kernel
theorem dX9_isOpen_3 : decode cX9_isOpen 3 = .ok (.iconst 3, 1) := by decide +kernel
theorem dX9_isOpen_4 : decode cX9_isOpen 4 = .ok (.if_icmp .ge 110, 3) := by decide +kernel
theorem dX9_isOpen_7 : decode cX9_isOpen 7 = .ok (.aload_n 0, 1) := by decide +kernel
theorem dX9_isOpen_8 : decode cX9_isOpen 8 = .ok (.getfield 44, 3) := by decide +kernel
theorem dX9_isOpen_11 : decode cX9_isOpen 11 = .ok (.bipush 21, 2) := by decide +kernel
theorem dX9_isOpen_13 : decode cX9_isOpen 13 = .ok (.iload_n 1, 1) := by decide +kernel
theorem dX9_isOpen_14 : decode cX9_isOpen 14 = .ok (.imul, 1) := by decide +kernel
theorem dX9_isOpen_15 : decode cX9_isOpen 15 = .ok (.iload_n 3, 1) := by decide +kernel
theorem dX9_isOpen_16 : decode cX9_isOpen 16 = .ok (.iadd, 1) := by decide +kernel
theorem dX9_isOpen_17 : decode cX9_isOpen 17 = .ok (.iaload, 1) := by decide +kernel
theorem dX9_isOpen_18 : decode cX9_isOpen 18 = .ok (.istore 4, 2) := by decide +kernel
theorem dX9_isOpen_20 : decode cX9_isOpen 20 = .ok (.aload_n 0, 1) := by decide +kernel
theorem dX9_isOpen_21 : decode cX9_isOpen 21 = .ok (.getfield 44, 3) := by decide +kernel
theorem dX9_isOpen_24 : decode cX9_isOpen 24 = .ok (.bipush 21, 2) := by decide +kernel
theorem dX9_isOpen_26 : decode cX9_isOpen 26 = .ok (.iload_n 1, 1) := by decide +kernel
theorem dX9_isOpen_27 : decode cX9_isOpen 27 = .ok (.imul, 1) := by decide +kernel
theorem dX9_isOpen_28 : decode cX9_isOpen 28 = .ok (.iload_n 3, 1) := by decide +kernel
theorem dX9_isOpen_29 : decode cX9_isOpen 29 = .ok (.iconst 1, 1) := by decide +kernel
theorem dX9_isOpen_30 : decode cX9_isOpen 30 = .ok (.iadd, 1) := by decide +kernel
theorem dX9_isOpen_31 : decode cX9_isOpen 31 = .ok (.iconst 3, 1) := by decide +kernel
theorem dX9_isOpen_32 : decode cX9_isOpen 32 = .ok (.irem, 1) := by decide +kernel
theorem dX9_isOpen_33 : decode cX9_isOpen 33 = .ok (.iadd, 1) := by decide +kernel
theorem dX9_isOpen_34 : decode cX9_isOpen 34 = .ok (.iaload, 1) := by decide +kernel
theorem dX9_isOpen_35 : decode cX9_isOpen 35 = .ok (.istore 5, 2) := by decide +kernel
theorem dX9_isOpen_37 : decode cX9_isOpen 37 = .ok (.iconst 0, 1) := by decide +kernel
theorem dX9_isOpen_38 : decode cX9_isOpen 38 = .ok (.istore 6, 2) := by decide +kernel
theorem dX9_isOpen_40 : decode cX9_isOpen 40 = .ok (.iload 6, 2) := by decide +kernel
theorem dX9_isOpen_42 : decode cX9_isOpen 42 = .ok (.iconst 3, 1) := by decide +kernel
theorem dX9_isOpen_43 : decode cX9_isOpen 43 = .ok (.if_icmp .ge 65, 3) := by decide +kernel
theorem dX9_isOpen_46 : decode cX9_isOpen 46 = .ok (.aload_n 0, 1) := by decide +kernel
theorem dX9_isOpen_47 : decode cX9_isOpen 47 = .ok (.getfield 44, 3) := by decide +kernel
theorem dX9_isOpen_50 : decode cX9_isOpen 50 = .ok (.bipush 21, 2) := by decide +kernel
theorem dX9_isOpen_52 : decode cX9_isOpen 52 = .ok (.iload_n 2, 1) := by decide +kernel
theorem dX9_isOpen_53 : decode cX9_isOpen 53 = .ok (.imul, 1) := by decide +kernel
theorem dX9_isOpen_54 : decode cX9_isOpen 54 = .ok (.iload 6, 2) := by decide +kernel
theorem dX9_isOpen_56 : decode cX9_isOpen 56 = .ok (.iadd, 1) := by decide +kernel
theorem dX9_isOpen_57 : decode cX9_isOpen 57 = .ok (.iaload, 1) := by decide +kernel
theorem dX9_isOpen_58 : decode cX9_isOpen 58 = .ok (.iload 5, 2) := by decide +kernel
theorem dX9_isOpen_60 : decode cX9_isOpen 60 = .ok (.if_icmp .ne 42, 3) := by decide +kernel
theorem dX9_isOpen_63 : decode cX9_isOpen 63 = .ok (.aload_n 0, 1) := by decide +kernel
theorem dX9_isOpen_64 : decode cX9_isOpen 64 = .ok (.getfield 44, 3) := by decide +kernel
theorem dX9_isOpen_67 : decode cX9_isOpen 67 = .ok (.bipush 21, 2) := by decide +kernel
theorem dX9_isOpen_69 : decode cX9_isOpen 69 = .ok (.iload_n 2, 1) := by decide +kernel
theorem dX9_isOpen_70 : decode cX9_isOpen 70 = .ok (.imul, 1) := by decide +kernel
theorem dX9_isOpen_71 : decode cX9_isOpen 71 = .ok (.iload 6, 2) := by decide +kernel
theorem dX9_isOpen_73 : decode cX9_isOpen 73 = .ok (.iconst 1, 1) := by decide +kernel
theorem dX9_isOpen_74 : decode cX9_isOpen 74 = .ok (.iadd, 1) := by decide +kernel
theorem dX9_isOpen_75 : decode cX9_isOpen 75 = .ok (.iconst 3, 1) := by decide +kernel
theorem dX9_isOpen_76 : decode cX9_isOpen 76 = .ok (.irem, 1) := by decide +kernel
theorem dX9_isOpen_77 : decode cX9_isOpen 77 = .ok (.iadd, 1) := by decide +kernel
theorem dX9_isOpen_78 : decode cX9_isOpen 78 = .ok (.iaload, 1) := by decide +kernel
theorem dX9_isOpen_79 : decode cX9_isOpen 79 = .ok (.iload 4, 2) := by decide +kernel
theorem dX9_isOpen_81 : decode cX9_isOpen 81 = .ok (.if_icmp .ne 21, 3) := by decide +kernel
theorem dX9_isOpen_84 : decode cX9_isOpen 84 = .ok (.aload_n 0, 1) := by decide +kernel
theorem dX9_isOpen_85 : decode cX9_isOpen 85 = .ok (.getfield 113, 3) := by decide +kernel
theorem dX9_isOpen_88 : decode cX9_isOpen 88 = .ok (.bipush 21, 2) := by decide +kernel
theorem dX9_isOpen_90 : decode cX9_isOpen 90 = .ok (.iload 4, 2) := by decide +kernel
theorem dX9_isOpen_92 : decode cX9_isOpen 92 = .ok (.imul, 1) := by decide +kernel
theorem dX9_isOpen_93 : decode cX9_isOpen 93 = .ok (.iload 5, 2) := by decide +kernel
theorem dX9_isOpen_95 : decode cX9_isOpen 95 = .ok (.iadd, 1) := by decide +kernel
theorem dX9_isOpen_96 : decode cX9_isOpen 96 = .ok (.baload, 1) := by decide +kernel
theorem dX9_isOpen_97 : decode cX9_isOpen 97 = .ok (.ifCond .ne 5, 3) := by decide +kernel
theorem dX9_isOpen_100 : decode cX9_isOpen 100 = .ok (.iconst 1, 1) := by decide +kernel
theorem dX9_isOpen_101 : decode cX9_isOpen 101 = .ok (.ireturn, 1) := by decide +kernel
theorem dX9_isOpen_102 : decode cX9_isOpen 102 = .ok (.iinc 6 1, 3) := by decide +kernel
theorem dX9_isOpen_105 : decode cX9_isOpen 105 = .ok (.goto (-65), 3) := by decide +kernel
theorem dX9_isOpen_108 : decode cX9_isOpen 108 = .ok (.iinc 3 1, 3) := by decide +kernel
theorem dX9_isOpen_111 : decode cX9_isOpen 111 = .ok (.goto (-109), 3) := by decide +kernel
theorem dX9_isOpen_114 : decode cX9_isOpen 114 = .ok (.iconst 0, 1) := by decide +kernel
theorem dX9_isOpen_115 : decode cX9_isOpen 115 = .ok (.ireturn, 1) := by decide +kernel
theorem dX9_isPlane_24 : decode cX9_isPlane 24 = .ok (.iload_n 1, 1) := by decide +kernel
theorem dX9_isPlane_25 : decode cX9_isPlane 25 = .ok (.aload_n 0, 1) := by decide +kernel
theorem dX9_isPlane_26 : decode cX9_isPlane 26 = .ok (.getfield 26, 3) := by decide +kernel
theorem dX9_isPlane_29 : decode cX9_isPlane 29 = .ok (.iload_n 2, 1) := by decide +kernel
theorem dX9_isPlane_30 : decode cX9_isPlane 30 = .ok (.iaload, 1) := by decide +kernel
theorem dX9_isPlane_31 : decode cX9_isPlane 31 = .ok (.iload_n 3, 1) := by decide +kernel
theorem dX9_isPlane_32 : decode cX9_isPlane 32 = .ok (.ishr, 1) := by decide +kernel
theorem dX9_isPlane_33 : decode cX9_isPlane 33 = .ok (.iconst 1, 1) := by decide +kernel
theorem dX9_isPlane_34 : decode cX9_isPlane 34 = .ok (.iand, 1) := by decide +kernel
theorem dX9_isPlane_35 : decode cX9_isPlane 35 = .ok (.iadd, 1) := by decide +kernel
theorem dX9_isPlane_36 : decode cX9_isPlane 36 = .ok (.istore_n 1, 1) := by decide +kernel
theorem dX9_isPlane_37 : decode cX9_isPlane 37 = .ok (.iinc 3 1, 3) := by decide +kernel
theorem dX9_isPlane_40 : decode cX9_isPlane 40 = .ok (.goto (-24), 3) := by decide +kernel
theorem dX9_isPlane_57 : decode cX9_isPlane 57 = .ok (.iload_n 1, 1) := by decide +kernel
theorem dX9_isPlane_58 : decode cX9_isPlane 58 = .ok (.iconst 3, 1) := by decide +kernel
theorem dX9_isPlane_59 : decode cX9_isPlane 59 = .ok (.aload_n 0, 1) := by decide +kernel
theorem dX9_isPlane_60 : decode cX9_isPlane 60 = .ok (.getfield 131, 3) := by decide +kernel
theorem dX9_isPlane_63 : decode cX9_isPlane 63 = .ok (.imul, 1) := by decide +kernel
theorem dX9_isPlane_64 : decode cX9_isPlane 64 = .ok (.bipush 6, 2) := by decide +kernel
theorem dX9_isPlane_66 : decode cX9_isPlane 66 = .ok (.isub, 1) := by decide +kernel
theorem dX9_isPlane_67 : decode cX9_isPlane 67 = .ok (.if_icmp .le 5, 3) := by decide +kernel
theorem dX9_isPlane_70 : decode cX9_isPlane 70 = .ok (.iconst 0, 1) := by decide +kernel
theorem dX9_isPlane_71 : decode cX9_isPlane 71 = .ok (.ireturn, 1) := by decide +kernel
theorem dX9_isPlane_86 : decode cX9_isPlane 86 = .ok (.aload_n 0, 1) := by decide +kernel
theorem dX9_isPlane_87 : decode cX9_isPlane 87 = .ok (.iload_n 2, 1) := by decide +kernel
theorem dX9_isPlane_88 : decode cX9_isPlane 88 = .ok (.invokevirtual 145, 3) := by decide +kernel
theorem dX9_isPlane_91 : decode cX9_isPlane 91 = .ok (.iload_n 2, 1) := by decide +kernel
theorem dX9_isPlane_92 : decode cX9_isPlane 92 = .ok (.if_icmp .eq 6, 3) := by decide +kernel
theorem dX9_isPlane_95 : decode cX9_isPlane 95 = .ok (.goto 124, 3) := by decide +kernel
theorem dX9_isPlane_98 : decode cX9_isPlane 98 = .ok (.iconst 0, 1) := by decide +kernel
theorem dX9_isPlane_99 : decode cX9_isPlane 99 = .ok (.istore_n 3, 1) := by decide +kernel
theorem dX9_isPlane_100 : decode cX9_isPlane 100 = .ok (.iconst 0, 1) := by decide +kernel
theorem dX9_isPlane_101 : decode cX9_isPlane 101 = .ok (.istore 4, 2) := by decide +kernel
theorem dX9_isPlane_103 : decode cX9_isPlane 103 = .ok (.iload 4, 2) := by decide +kernel
theorem dX9_isPlane_105 : decode cX9_isPlane 105 = .ok (.aload_n 0, 1) := by decide +kernel
theorem dX9_isPlane_106 : decode cX9_isPlane 106 = .ok (.getfield 131, 3) := by decide +kernel
theorem dX9_isPlane_109 : decode cX9_isPlane 109 = .ok (.if_icmp .ge 17, 3) := by decide +kernel
theorem dX9_isPlane_112 : decode cX9_isPlane 112 = .ok (.aload_n 0, 1) := by decide +kernel
theorem dX9_isPlane_113 : decode cX9_isPlane 113 = .ok (.getfield 38, 3) := by decide +kernel
theorem dX9_isPlane_116 : decode cX9_isPlane 116 = .ok (.iload 4, 2) := by decide +kernel
theorem dX9_isPlane_118 : decode cX9_isPlane 118 = .ok (.iconst 0, 1) := by decide +kernel
theorem dX9_isPlane_119 : decode cX9_isPlane 119 = .ok (.iastore, 1) := by decide +kernel
theorem dX9_isPlane_120 : decode cX9_isPlane 120 = .ok (.iinc 4 1, 3) := by decide +kernel
theorem dX9_isPlane_123 : decode cX9_isPlane 123 = .ok (.goto (-20), 3) := by decide +kernel
theorem dX9_isPlane_126 : decode cX9_isPlane 126 = .ok (.iconst 0, 1) := by decide +kernel
theorem dX9_isPlane_127 : decode cX9_isPlane 127 = .ok (.istore 4, 2) := by decide +kernel
theorem dX9_isPlane_129 : decode cX9_isPlane 129 = .ok (.iload 4, 2) := by decide +kernel
theorem dX9_isPlane_131 : decode cX9_isPlane 131 = .ok (.aload_n 0, 1) := by decide +kernel
theorem dX9_isPlane_132 : decode cX9_isPlane 132 = .ok (.getfield 135, 3) := by decide +kernel
theorem dX9_isPlane_135 : decode cX9_isPlane 135 = .ok (.if_icmp .ge 70, 3) := by decide +kernel
theorem dX9_isPlane_138 : decode cX9_isPlane 138 = .ok (.aload_n 0, 1) := by decide +kernel
theorem dX9_isPlane_139 : decode cX9_isPlane 139 = .ok (.iload 4, 2) := by decide +kernel
theorem dX9_isPlane_141 : decode cX9_isPlane 141 = .ok (.invokevirtual 145, 3) := by decide +kernel
theorem dX9_isPlane_144 : decode cX9_isPlane 144 = .ok (.iload_n 2, 1) := by decide +kernel
theorem dX9_isPlane_145 : decode cX9_isPlane 145 = .ok (.if_icmp .ne 54, 3) := by decide +kernel
theorem dX9_isPlane_148 : decode cX9_isPlane 148 = .ok (.aload_n 0, 1) := by decide +kernel
theorem dX9_isPlane_149 : decode cX9_isPlane 149 = .ok (.getfield 38, 3) := by decide +kernel
theorem dX9_isPlane_152 : decode cX9_isPlane 152 = .ok (.aload_n 0, 1) := by decide +kernel
theorem dX9_isPlane_153 : decode cX9_isPlane 153 = .ok (.getfield 29, 3) := by decide +kernel
theorem dX9_isPlane_156 : decode cX9_isPlane 156 = .ok (.iload 4, 2) := by decide +kernel
theorem dX9_isPlane_158 : decode cX9_isPlane 158 = .ok (.iaload, 1) := by decide +kernel
theorem dX9_isPlane_159 : decode cX9_isPlane 159 = .ok (.dup2, 1) := by decide +kernel
theorem dX9_isPlane_160 : decode cX9_isPlane 160 = .ok (.iaload, 1) := by decide +kernel
theorem dX9_isPlane_161 : decode cX9_isPlane 161 = .ok (.iconst 1, 1) := by decide +kernel
theorem dX9_isPlane_162 : decode cX9_isPlane 162 = .ok (.aload_n 0, 1) := by decide +kernel
theorem dX9_isPlane_163 : decode cX9_isPlane 163 = .ok (.getfield 32, 3) := by decide +kernel
theorem dX9_isPlane_166 : decode cX9_isPlane 166 = .ok (.iload 4, 2) := by decide +kernel
theorem dX9_isPlane_168 : decode cX9_isPlane 168 = .ok (.iaload, 1) := by decide +kernel
theorem dX9_isPlane_169 : decode cX9_isPlane 169 = .ok (.ishl, 1) := by decide +kernel
theorem dX9_isPlane_170 : decode cX9_isPlane 170 = .ok (.ior, 1) := by decide +kernel
theorem dX9_isPlane_171 : decode cX9_isPlane 171 = .ok (.iastore, 1) := by decide +kernel
theorem dX9_isPlane_172 : decode cX9_isPlane 172 = .ok (.aload_n 0, 1) := by decide +kernel
theorem dX9_isPlane_173 : decode cX9_isPlane 173 = .ok (.getfield 38, 3) := by decide +kernel
theorem dX9_isPlane_176 : decode cX9_isPlane 176 = .ok (.aload_n 0, 1) := by decide +kernel
theorem dX9_isPlane_177 : decode cX9_isPlane 177 = .ok (.getfield 32, 3) := by decide +kernel
theorem dX9_isPlane_180 : decode cX9_isPlane 180 = .ok (.iload 4, 2) := by decide +kernel
theorem dX9_isPlane_182 : decode cX9_isPlane 182 = .ok (.iaload, 1) := by decide +kernel
theorem dX9_isPlane_183 : decode cX9_isPlane 183 = .ok (.dup2, 1) := by decide +kernel
theorem dX9_isPlane_184 : decode cX9_isPlane 184 = .ok (.iaload, 1) := by decide +kernel
theorem dX9_isPlane_185 : decode cX9_isPlane 185 = .ok (.iconst 1, 1) := by decide +kernel
theorem dX9_isPlane_186 : decode cX9_isPlane 186 = .ok (.aload_n 0, 1) := by decide +kernel
theorem dX9_isPlane_187 : decode cX9_isPlane 187 = .ok (.getfield 29, 3) := by decide +kernel
theorem dX9_isPlane_190 : decode cX9_isPlane 190 = .ok (.iload 4, 2) := by decide +kernel
theorem dX9_isPlane_192 : decode cX9_isPlane 192 = .ok (.iaload, 1) := by decide +kernel
theorem dX9_isPlane_193 : decode cX9_isPlane 193 = .ok (.ishl, 1) := by decide +kernel
theorem dX9_isPlane_194 : decode cX9_isPlane 194 = .ok (.ior, 1) := by decide +kernel
theorem dX9_isPlane_195 : decode cX9_isPlane 195 = .ok (.iastore, 1) := by decide +kernel
theorem dX9_isPlane_196 : decode cX9_isPlane 196 = .ok (.iinc 3 1, 3) := by decide +kernel
theorem dX9_isPlane_199 : decode cX9_isPlane 199 = .ok (.iinc 4 1, 3) := by decide +kernel
theorem dX9_isPlane_202 : decode cX9_isPlane 202 = .ok (.goto (-73), 3) := by decide +kernel
theorem dX9_isPlane_205 : decode cX9_isPlane 205 = .ok (.iload_n 3, 1) := by decide +kernel
theorem dX9_isPlane_206 : decode cX9_isPlane 206 = .ok (.iconst 2, 1) := by decide +kernel
theorem dX9_isPlane_207 : decode cX9_isPlane 207 = .ok (.if_icmp .le 12, 3) := by decide +kernel
theorem dX9_isPlane_210 : decode cX9_isPlane 210 = .ok (.aload_n 0, 1) := by decide +kernel
theorem dX9_isPlane_211 : decode cX9_isPlane 211 = .ok (.invokevirtual 152, 3) := by decide +kernel
theorem dX9_isPlane_214 : decode cX9_isPlane 214 = .ok (.ifCond .ne 5, 3) := by decide +kernel
theorem dX9_isPlane_217 : decode cX9_isPlane 217 = .ok (.iconst 0, 1) := by decide +kernel
theorem dX9_isPlane_218 : decode cX9_isPlane 218 = .ok (.ireturn, 1) := by decide +kernel
theorem dX9_isPlane_219 : decode cX9_isPlane 219 = .ok (.iinc 2 1, 3) := by decide +kernel
theorem dX9_isPlane_222 : decode cX9_isPlane 222 = .ok (.goto (-144), 3) := by decide +kernel
theorem dX9_isWhole_0 : decode cX9_isWhole 0 = .ok (.iconst 1, 1) := by decide +kernel
theorem dX9_isWhole_1 : decode cX9_isWhole 1 = .ok (.istore_n 1, 1) := by decide +kernel
theorem dX9_isWhole_2 : decode cX9_isWhole 2 = .ok (.iconst 0, 1) := by decide +kernel
theorem dX9_isWhole_3 : decode cX9_isWhole 3 = .ok (.istore_n 2, 1) := by decide +kernel
theorem dX9_isWhole_4 : decode cX9_isWhole 4 = .ok (.iload_n 2, 1) := by decide +kernel
theorem dX9_isWhole_5 : decode cX9_isWhole 5 = .ok (.aload_n 0, 1) := by decide +kernel
theorem dX9_isWhole_6 : decode cX9_isWhole 6 = .ok (.getfield 131, 3) := by decide +kernel
theorem dX9_isWhole_9 : decode cX9_isWhole 9 = .ok (.if_icmp .ge 34, 3) := by decide +kernel
theorem dX9_isWhole_12 : decode cX9_isWhole 12 = .ok (.iload_n 1, 1) := by decide +kernel
theorem dX9_isWhole_13 : decode cX9_isWhole 13 = .ok (.ifCond .eq 22, 3) := by decide +kernel
theorem dX9_isWhole_16 : decode cX9_isWhole 16 = .ok (.aload_n 0, 1) := by decide +kernel
theorem dX9_isWhole_17 : decode cX9_isWhole 17 = .ok (.getfield 41, 3) := by decide +kernel
theorem dX9_isWhole_20 : decode cX9_isWhole 20 = .ok (.iload_n 2, 1) := by decide +kernel
theorem dX9_isWhole_21 : decode cX9_isWhole 21 = .ok (.iaload, 1) := by decide +kernel
theorem dX9_isWhole_22 : decode cX9_isWhole 22 = .ok (.aload_n 0, 1) := by decide +kernel
theorem dX9_isWhole_23 : decode cX9_isWhole 23 = .ok (.getfield 38, 3) := by decide +kernel
theorem dX9_isWhole_26 : decode cX9_isWhole 26 = .ok (.iload_n 2, 1) := by decide +kernel
theorem dX9_isWhole_27 : decode cX9_isWhole 27 = .ok (.iaload, 1) := by decide +kernel
theorem dX9_isWhole_28 : decode cX9_isWhole 28 = .ok (.if_icmp .ne 7, 3) := by decide +kernel
theorem dX9_isWhole_31 : decode cX9_isWhole 31 = .ok (.iconst 1, 1) := by decide +kernel
theorem dX9_isWhole_32 : decode cX9_isWhole 32 = .ok (.goto 4, 3) := by decide +kernel
theorem dX9_isWhole_35 : decode cX9_isWhole 35 = .ok (.iconst 0, 1) := by decide +kernel
theorem dX9_isWhole_36 : decode cX9_isWhole 36 = .ok (.istore_n 1, 1) := by decide +kernel
theorem dX9_isWhole_37 : decode cX9_isWhole 37 = .ok (.iinc 2 1, 3) := by decide +kernel
theorem dX9_isWhole_40 : decode cX9_isWhole 40 = .ok (.goto (-36), 3) := by decide +kernel
theorem dX9_isWhole_43 : decode cX9_isWhole 43 = .ok (.iload_n 1, 1) := by decide +kernel
theorem dX9_isWhole_44 : decode cX9_isWhole 44 = .ok (.ireturn, 1) := by decide +kernel
theorem dX9_isWithin_0 : decode cX9_isWithin 0 = .ok (.aload_n 0, 1) := by decide +kernel
theorem dX9_isWithin_1 : decode cX9_isWithin 1 = .ok (.getfield 86, 3) := by decide +kernel
theorem dX9_isWithin_4 : decode cX9_isWithin 4 = .ok (.iload_n 1, 1) := by decide +kernel
theorem dX9_isWithin_5 : decode cX9_isWithin 5 = .ok (.iaload, 1) := by decide +kernel
theorem dX9_isWithin_6 : decode cX9_isWithin 6 = .ok (.aload_n 0, 1) := by decide +kernel
theorem dX9_isWithin_7 : decode cX9_isWithin 7 = .ok (.getfield 86, 3) := by decide +kernel
theorem dX9_isWithin_10 : decode cX9_isWithin 10 = .ok (.iload_n 2, 1) := by decide +kernel
theorem dX9_isWithin_11 : decode cX9_isWithin 11 = .ok (.iaload, 1) := by decide +kernel
theorem dX9_isWithin_12 : decode cX9_isWithin 12 = .ok (.if_icmp .ge 41, 3) := by decide +kernel
theorem dX9_isWithin_15 : decode cX9_isWithin 15 = .ok (.aload_n 0, 1) := by decide +kernel
theorem dX9_isWithin_16 : decode cX9_isWithin 16 = .ok (.getfield 86, 3) := by decide +kernel
theorem dX9_isWithin_19 : decode cX9_isWithin 19 = .ok (.iload_n 3, 1) := by decide +kernel
theorem dX9_isWithin_20 : decode cX9_isWithin 20 = .ok (.iaload, 1) := by decide +kernel
theorem dX9_isWithin_21 : decode cX9_isWithin 21 = .ok (.aload_n 0, 1) := by decide +kernel
theorem dX9_isWithin_22 : decode cX9_isWithin 22 = .ok (.getfield 86, 3) := by decide +kernel
theorem dX9_isWithin_25 : decode cX9_isWithin 25 = .ok (.iload_n 1, 1) := by decide +kernel
theorem dX9_isWithin_26 : decode cX9_isWithin 26 = .ok (.iaload, 1) := by decide +kernel
theorem dX9_isWithin_27 : decode cX9_isWithin 27 = .ok (.if_icmp .lt 22, 3) := by decide +kernel
theorem dX9_isWithin_30 : decode cX9_isWithin 30 = .ok (.aload_n 0, 1) := by decide +kernel
theorem dX9_isWithin_31 : decode cX9_isWithin 31 = .ok (.getfield 86, 3) := by decide +kernel
theorem dX9_isWithin_34 : decode cX9_isWithin 34 = .ok (.iload_n 3, 1) := by decide +kernel
theorem dX9_isWithin_35 : decode cX9_isWithin 35 = .ok (.iaload, 1) := by decide +kernel
theorem dX9_isWithin_36 : decode cX9_isWithin 36 = .ok (.aload_n 0, 1) := by decide +kernel
theorem dX9_isWithin_37 : decode cX9_isWithin 37 = .ok (.getfield 86, 3) := by decide +kernel
theorem dX9_isWithin_40 : decode cX9_isWithin 40 = .ok (.iload_n 2, 1) := by decide +kernel
theorem dX9_isWithin_41 : decode cX9_isWithin 41 = .ok (.iaload, 1) := by decide +kernel
theorem dX9_isWithin_42 : decode cX9_isWithin 42 = .ok (.if_icmp .gt 7, 3) := by decide +kernel
theorem dX9_isWithin_45 : decode cX9_isWithin 45 = .ok (.iconst 1, 1) := by decide +kernel
theorem dX9_isWithin_46 : decode cX9_isWithin 46 = .ok (.goto 42, 3) := by decide +kernel
theorem dX9_isWithin_49 : decode cX9_isWithin 49 = .ok (.iconst 0, 1) := by decide +kernel
theorem dX9_isWithin_50 : decode cX9_isWithin 50 = .ok (.goto 38, 3) := by decide +kernel
theorem dX9_isWithin_53 : decode cX9_isWithin 53 = .ok (.aload_n 0, 1) := by decide +kernel
theorem dX9_isWithin_54 : decode cX9_isWithin 54 = .ok (.getfield 86, 3) := by decide +kernel
theorem dX9_isWithin_57 : decode cX9_isWithin 57 = .ok (.iload_n 3, 1) := by decide +kernel
theorem dX9_isWithin_58 : decode cX9_isWithin 58 = .ok (.iaload, 1) := by decide +kernel
theorem dX9_isWithin_59 : decode cX9_isWithin 59 = .ok (.aload_n 0, 1) := by decide +kernel
theorem dX9_isWithin_60 : decode cX9_isWithin 60 = .ok (.getfield 86, 3) := by decide +kernel
theorem dX9_isWithin_63 : decode cX9_isWithin 63 = .ok (.iload_n 2, 1) := by decide +kernel
theorem dX9_isWithin_64 : decode cX9_isWithin 64 = .ok (.iaload, 1) := by decide +kernel
theorem dX9_isWithin_65 : decode cX9_isWithin 65 = .ok (.if_icmp .lt 22, 3) := by decide +kernel
theorem dX9_isWithin_68 : decode cX9_isWithin 68 = .ok (.aload_n 0, 1) := by decide +kernel
theorem dX9_isWithin_69 : decode cX9_isWithin 69 = .ok (.getfield 86, 3) := by decide +kernel
theorem dX9_isWithin_72 : decode cX9_isWithin 72 = .ok (.iload_n 3, 1) := by decide +kernel
theorem dX9_isWithin_73 : decode cX9_isWithin 73 = .ok (.iaload, 1) := by decide +kernel
theorem dX9_isWithin_74 : decode cX9_isWithin 74 = .ok (.aload_n 0, 1) := by decide +kernel
theorem dX9_isWithin_75 : decode cX9_isWithin 75 = .ok (.getfield 86, 3) := by decide +kernel
theorem dX9_isWithin_78 : decode cX9_isWithin 78 = .ok (.iload_n 1, 1) := by decide +kernel
theorem dX9_isWithin_79 : decode cX9_isWithin 79 = .ok (.iaload, 1) := by decide +kernel
theorem dX9_isWithin_80 : decode cX9_isWithin 80 = .ok (.if_icmp .gt 7, 3) := by decide +kernel
theorem dX9_isWithin_83 : decode cX9_isWithin 83 = .ok (.iconst 1, 1) := by decide +kernel
theorem dX9_isWithin_84 : decode cX9_isWithin 84 = .ok (.goto 4, 3) := by decide +kernel
theorem dX9_isWithin_87 : decode cX9_isWithin 87 = .ok (.iconst 0, 1) := by decide +kernel
theorem dX9_isWithin_88 : decode cX9_isWithin 88 = .ok (.istore 4, 2) := by decide +kernel
theorem dX9_isWithin_90 : decode cX9_isWithin 90 = .ok (.aload_n 0, 1) := by decide +kernel
theorem dX9_isWithin_91 : decode cX9_isWithin 91 = .ok (.getfield 89, 3) := by decide +kernel
theorem dX9_isWithin_94 : decode cX9_isWithin 94 = .ok (.iload_n 1, 1) := by decide +kernel
theorem dX9_isWithin_95 : decode cX9_isWithin 95 = .ok (.iaload, 1) := by decide +kernel
theorem dX9_isWithin_96 : decode cX9_isWithin 96 = .ok (.aload_n 0, 1) := by decide +kernel
theorem dX9_isWithin_97 : decode cX9_isWithin 97 = .ok (.getfield 89, 3) := by decide +kernel
theorem dX9_isWithin_100 : decode cX9_isWithin 100 = .ok (.iload_n 2, 1) := by decide +kernel
theorem dX9_isWithin_101 : decode cX9_isWithin 101 = .ok (.iaload, 1) := by decide +kernel
theorem dX9_isWithin_102 : decode cX9_isWithin 102 = .ok (.if_icmp .ge 41, 3) := by decide +kernel
theorem dX9_isWithin_105 : decode cX9_isWithin 105 = .ok (.aload_n 0, 1) := by decide +kernel
theorem dX9_isWithin_106 : decode cX9_isWithin 106 = .ok (.getfield 89, 3) := by decide +kernel
theorem dX9_isWithin_109 : decode cX9_isWithin 109 = .ok (.iload_n 3, 1) := by decide +kernel
theorem dX9_isWithin_110 : decode cX9_isWithin 110 = .ok (.iaload, 1) := by decide +kernel
theorem dX9_isWithin_111 : decode cX9_isWithin 111 = .ok (.aload_n 0, 1) := by decide +kernel
theorem dX9_isWithin_112 : decode cX9_isWithin 112 = .ok (.getfield 89, 3) := by decide +kernel
theorem dX9_isWithin_115 : decode cX9_isWithin 115 = .ok (.iload_n 1, 1) := by decide +kernel
theorem dX9_isWithin_116 : decode cX9_isWithin 116 = .ok (.iaload, 1) := by decide +kernel
theorem dX9_isWithin_117 : decode cX9_isWithin 117 = .ok (.if_icmp .lt 22, 3) := by decide +kernel
theorem dX9_isWithin_120 : decode cX9_isWithin 120 = .ok (.aload_n 0, 1) := by decide +kernel
theorem dX9_isWithin_121 : decode cX9_isWithin 121 = .ok (.getfield 89, 3) := by decide +kernel
theorem dX9_isWithin_124 : decode cX9_isWithin 124 = .ok (.iload_n 3, 1) := by decide +kernel
theorem dX9_isWithin_125 : decode cX9_isWithin 125 = .ok (.iaload, 1) := by decide +kernel
theorem dX9_isWithin_126 : decode cX9_isWithin 126 = .ok (.aload_n 0, 1) := by decide +kernel
theorem dX9_isWithin_127 : decode cX9_isWithin 127 = .ok (.getfield 89, 3) := by decide +kernel
theorem dX9_isWithin_130 : decode cX9_isWithin 130 = .ok (.iload_n 2, 1) := by decide +kernel
theorem dX9_isWithin_131 : decode cX9_isWithin 131 = .ok (.iaload, 1) := by decide +kernel
theorem dX9_isWithin_132 : decode cX9_isWithin 132 = .ok (.if_icmp .gt 7, 3) := by decide +kernel
theorem dX9_isWithin_135 : decode cX9_isWithin 135 = .ok (.iconst 1, 1) := by decide +kernel
theorem dX9_isWithin_136 : decode cX9_isWithin 136 = .ok (.goto 42, 3) := by decide +kernel
theorem dX9_isWithin_139 : decode cX9_isWithin 139 = .ok (.iconst 0, 1) := by decide +kernel
theorem dX9_isWithin_140 : decode cX9_isWithin 140 = .ok (.goto 38, 3) := by decide +kernel
theorem dX9_isWithin_143 : decode cX9_isWithin 143 = .ok (.aload_n 0, 1) := by decide +kernel
theorem dX9_isWithin_144 : decode cX9_isWithin 144 = .ok (.getfield 89, 3) := by decide +kernel
theorem dX9_isWithin_147 : decode cX9_isWithin 147 = .ok (.iload_n 3, 1) := by decide +kernel
theorem dX9_isWithin_148 : decode cX9_isWithin 148 = .ok (.iaload, 1) := by decide +kernel
theorem dX9_isWithin_149 : decode cX9_isWithin 149 = .ok (.aload_n 0, 1) := by decide +kernel
theorem dX9_isWithin_150 : decode cX9_isWithin 150 = .ok (.getfield 89, 3) := by decide +kernel
theorem dX9_isWithin_153 : decode cX9_isWithin 153 = .ok (.iload_n 2, 1) := by decide +kernel
theorem dX9_isWithin_154 : decode cX9_isWithin 154 = .ok (.iaload, 1) := by decide +kernel
theorem dX9_isWithin_155 : decode cX9_isWithin 155 = .ok (.if_icmp .lt 22, 3) := by decide +kernel
theorem dX9_isWithin_158 : decode cX9_isWithin 158 = .ok (.aload_n 0, 1) := by decide +kernel
theorem dX9_isWithin_159 : decode cX9_isWithin 159 = .ok (.getfield 89, 3) := by decide +kernel
theorem dX9_isWithin_162 : decode cX9_isWithin 162 = .ok (.iload_n 3, 1) := by decide +kernel
theorem dX9_isWithin_163 : decode cX9_isWithin 163 = .ok (.iaload, 1) := by decide +kernel
theorem dX9_isWithin_164 : decode cX9_isWithin 164 = .ok (.aload_n 0, 1) := by decide +kernel
theorem dX9_isWithin_165 : decode cX9_isWithin 165 = .ok (.getfield 89, 3) := by decide +kernel
theorem dX9_isWithin_168 : decode cX9_isWithin 168 = .ok (.iload_n 1, 1) := by decide +kernel
theorem dX9_isWithin_169 : decode cX9_isWithin 169 = .ok (.iaload, 1) := by decide +kernel
theorem dX9_isWithin_170 : decode cX9_isWithin 170 = .ok (.if_icmp .gt 7, 3) := by decide +kernel
theorem dX9_isWithin_173 : decode cX9_isWithin 173 = .ok (.iconst 1, 1) := by decide +kernel
theorem dX9_isWithin_174 : decode cX9_isWithin 174 = .ok (.goto 4, 3) := by decide +kernel
theorem dX9_isWithin_177 : decode cX9_isWithin 177 = .ok (.iconst 0, 1) := by decide +kernel
theorem dX9_isWithin_178 : decode cX9_isWithin 178 = .ok (.istore 5, 2) := by decide +kernel
theorem dX9_isWithin_180 : decode cX9_isWithin 180 = .ok (.aload_n 0, 1) := by decide +kernel
theorem dX9_isWithin_181 : decode cX9_isWithin 181 = .ok (.iload_n 1, 1) := by decide +kernel
theorem dX9_isWithin_182 : decode cX9_isWithin 182 = .ok (.iload_n 2, 1) := by decide +kernel
theorem dX9_isWithin_183 : decode cX9_isWithin 183 = .ok (.iload_n 3, 1) := by decide +kernel
theorem dX9_isWithin_184 : decode cX9_isWithin 184 = .ok (.invokevirtual 336, 3) := by decide +kernel
theorem dX9_isWithin_187 : decode cX9_isWithin 187 = .ok (.ifCond .ne 17, 3) := by decide +kernel
theorem dX9_isWithin_190 : decode cX9_isWithin 190 = .ok (.iload 4, 2) := by decide +kernel
theorem dX9_isWithin_192 : decode cX9_isWithin 192 = .ok (.ifCond .eq 12, 3) := by decide +kernel
theorem dX9_isWithin_195 : decode cX9_isWithin 195 = .ok (.iload 5, 2) := by decide +kernel
theorem dX9_isWithin_197 : decode cX9_isWithin 197 = .ok (.ifCond .eq 7, 3) := by decide +kernel
theorem dX9_isWithin_200 : decode cX9_isWithin 200 = .ok (.iconst 1, 1) := by decide +kernel
theorem dX9_isWithin_201 : decode cX9_isWithin 201 = .ok (.goto 4, 3) := by decide +kernel
theorem dX9_isWithin_204 : decode cX9_isWithin 204 = .ok (.iconst 0, 1) := by decide +kernel
theorem dX9_isWithin_205 : decode cX9_isWithin 205 = .ok (.ireturn, 1) := by decide +kernel
theorem dX9_joinPath_0 : decode cX9_joinPath 0 = .ok (.iconst 0, 1) := by decide +kernel
theorem dX9_joinPath_1 : decode cX9_joinPath 1 = .ok (.istore_n 2, 1) := by decide +kernel
theorem dX9_joinPath_2 : decode cX9_joinPath 2 = .ok (.iload_n 2, 1) := by decide +kernel
theorem dX9_joinPath_3 : decode cX9_joinPath 3 = .ok (.iconst 1, 1) := by decide +kernel
theorem dX9_joinPath_4 : decode cX9_joinPath 4 = .ok (.iadd, 1) := by decide +kernel
theorem dX9_joinPath_5 : decode cX9_joinPath 5 = .ok (.aload_n 0, 1) := by decide +kernel
theorem dX9_joinPath_6 : decode cX9_joinPath 6 = .ok (.getfield 160, 3) := by decide +kernel
theorem dX9_joinPath_9 : decode cX9_joinPath 9 = .ok (.if_icmp .lt 15, 3) := by decide +kernel
theorem dX9_joinPath_12 : decode cX9_joinPath 12 = .ok (.iload_n 1, 1) := by decide +kernel
theorem dX9_joinPath_13 : decode cX9_joinPath 13 = .ok (.ifCond .eq 82, 3) := by decide +kernel
theorem dX9_joinPath_16 : decode cX9_joinPath 16 = .ok (.iload_n 2, 1) := by decide +kernel
theorem dX9_joinPath_17 : decode cX9_joinPath 17 = .ok (.aload_n 0, 1) := by decide +kernel
theorem dX9_joinPath_18 : decode cX9_joinPath 18 = .ok (.getfield 160, 3) := by decide +kernel
theorem dX9_joinPath_21 : decode cX9_joinPath 21 = .ok (.if_icmp .ge 74, 3) := by decide +kernel
theorem dX9_joinPath_24 : decode cX9_joinPath 24 = .ok (.aload_n 0, 1) := by decide +kernel
theorem dX9_joinPath_25 : decode cX9_joinPath 25 = .ok (.getfield 53, 3) := by decide +kernel
theorem dX9_joinPath_28 : decode cX9_joinPath 28 = .ok (.iload_n 2, 1) := by decide +kernel
theorem dX9_joinPath_29 : decode cX9_joinPath 29 = .ok (.iaload, 1) := by decide +kernel
theorem dX9_joinPath_30 : decode cX9_joinPath 30 = .ok (.istore_n 3, 1) := by decide +kernel
theorem dX9_joinPath_31 : decode cX9_joinPath 31 = .ok (.aload_n 0, 1) := by decide +kernel
theorem dX9_joinPath_32 : decode cX9_joinPath 32 = .ok (.getfield 53, 3) := by decide +kernel
theorem dX9_joinPath_35 : decode cX9_joinPath 35 = .ok (.iload_n 2, 1) := by decide +kernel
theorem dX9_joinPath_36 : decode cX9_joinPath 36 = .ok (.iconst 1, 1) := by decide +kernel
theorem dX9_joinPath_37 : decode cX9_joinPath 37 = .ok (.iadd, 1) := by decide +kernel
theorem dX9_joinPath_38 : decode cX9_joinPath 38 = .ok (.aload_n 0, 1) := by decide +kernel
theorem dX9_joinPath_39 : decode cX9_joinPath 39 = .ok (.getfield 160, 3) := by decide +kernel
theorem dX9_joinPath_42 : decode cX9_joinPath 42 = .ok (.irem, 1) := by decide +kernel
theorem dX9_joinPath_43 : decode cX9_joinPath 43 = .ok (.iaload, 1) := by decide +kernel
theorem dX9_joinPath_44 : decode cX9_joinPath 44 = .ok (.istore 4, 2) := by decide +kernel
theorem dX9_joinPath_46 : decode cX9_joinPath 46 = .ok (.aload_n 0, 1) := by decide +kernel
theorem dX9_joinPath_47 : decode cX9_joinPath 47 = .ok (.getfield 41, 3) := by decide +kernel
theorem dX9_joinPath_50 : decode cX9_joinPath 50 = .ok (.iload_n 3, 1) := by decide +kernel
theorem dX9_joinPath_51 : decode cX9_joinPath 51 = .ok (.dup2, 1) := by decide +kernel
theorem dX9_joinPath_52 : decode cX9_joinPath 52 = .ok (.iaload, 1) := by decide +kernel
theorem dX9_joinPath_53 : decode cX9_joinPath 53 = .ok (.iconst 1, 1) := by decide +kernel
theorem dX9_joinPath_54 : decode cX9_joinPath 54 = .ok (.iload 4, 2) := by decide +kernel
theorem dX9_joinPath_56 : decode cX9_joinPath 56 = .ok (.ishl, 1) := by decide +kernel
theorem dX9_joinPath_57 : decode cX9_joinPath 57 = .ok (.ior, 1) := by decide +kernel
theorem dX9_joinPath_58 : decode cX9_joinPath 58 = .ok (.iastore, 1) := by decide +kernel
theorem dX9_joinPath_59 : decode cX9_joinPath 59 = .ok (.aload_n 0, 1) := by decide +kernel
theorem dX9_joinPath_60 : decode cX9_joinPath 60 = .ok (.getfield 41, 3) := by decide +kernel
theorem dX9_joinPath_63 : decode cX9_joinPath 63 = .ok (.iload 4, 2) := by decide +kernel
theorem dX9_joinPath_65 : decode cX9_joinPath 65 = .ok (.dup2, 1) := by decide +kernel
theorem dX9_joinPath_66 : decode cX9_joinPath 66 = .ok (.iaload, 1) := by decide +kernel
theorem dX9_joinPath_67 : decode cX9_joinPath 67 = .ok (.iconst 1, 1) := by decide +kernel
theorem dX9_joinPath_68 : decode cX9_joinPath 68 = .ok (.iload_n 3, 1) := by decide +kernel
theorem dX9_joinPath_69 : decode cX9_joinPath 69 = .ok (.ishl, 1) := by decide +kernel
theorem dX9_joinPath_70 : decode cX9_joinPath 70 = .ok (.ior, 1) := by decide +kernel
theorem dX9_joinPath_71 : decode cX9_joinPath 71 = .ok (.iastore, 1) := by decide +kernel
theorem dX9_joinPath_72 : decode cX9_joinPath 72 = .ok (.aload_n 0, 1) := by decide +kernel
theorem dX9_joinPath_73 : decode cX9_joinPath 73 = .ok (.dup, 1) := by decide +kernel
theorem dX9_joinPath_74 : decode cX9_joinPath 74 = .ok (.getfield 163, 3) := by decide +kernel
theorem dX9_joinPath_77 : decode cX9_joinPath 77 = .ok (.iconst 1, 1) := by decide +kernel
theorem dX9_joinPath_78 : decode cX9_joinPath 78 = .ok (.iload_n 3, 1) := by decide +kernel
theorem dX9_joinPath_79 : decode cX9_joinPath 79 = .ok (.ishl, 1) := by decide +kernel
theorem dX9_joinPath_80 : decode cX9_joinPath 80 = .ok (.iconst 1, 1) := by decide +kernel
theorem dX9_joinPath_81 : decode cX9_joinPath 81 = .ok (.iload 4, 2) := by decide +kernel
theorem dX9_joinPath_83 : decode cX9_joinPath 83 = .ok (.ishl, 1) := by decide +kernel
theorem dX9_joinPath_84 : decode cX9_joinPath 84 = .ok (.ior, 1) := by decide +kernel
theorem dX9_joinPath_85 : decode cX9_joinPath 85 = .ok (.ior, 1) := by decide +kernel
theorem dX9_joinPath_86 : decode cX9_joinPath 86 = .ok (.putfield 163, 3) := by decide +kernel
theorem dX9_joinPath_89 : decode cX9_joinPath 89 = .ok (.iinc 2 1, 3) := by decide +kernel
theorem dX9_joinPath_92 : decode cX9_joinPath 92 = .ok (.goto (-90), 3) := by decide +kernel
theorem dX9_joinPath_95 : decode cX9_joinPath 95 = .ok (.return_, 1) := by decide +kernel
theorem dX9_know_7 : decode cX9_know 7 = .ok (.return_, 1) := by decide +kernel
theorem dX9_know_29 : decode cX9_know 29 = .ok (.aload_n 0, 1) := by decide +kernel
theorem dX9_know_30 : decode cX9_know 30 = .ok (.getfield 65, 3) := by decide +kernel
theorem dX9_know_33 : decode cX9_know 33 = .ok (.iload_n 1, 1) := by decide +kernel
theorem dX9_know_34 : decode cX9_know 34 = .ok (.aload_n 0, 1) := by decide +kernel
theorem dX9_know_35 : decode cX9_know 35 = .ok (.getfield 26, 3) := by decide +kernel
theorem dX9_know_38 : decode cX9_know 38 = .ok (.iload_n 1, 1) := by decide +kernel
theorem dX9_know_39 : decode cX9_know 39 = .ok (.iaload, 1) := by decide +kernel
theorem dX9_know_40 : decode cX9_know 40 = .ok (.iastore, 1) := by decide +kernel
theorem dX9_know_41 : decode cX9_know 41 = .ok (.iinc 1 1, 3) := by decide +kernel
theorem dX9_know_44 : decode cX9_know 44 = .ok (.goto (-23), 3) := by decide +kernel
theorem dX9_know_81 : decode cX9_know 81 = .ok (.aload_n 0, 1) := by decide +kernel
theorem dX9_know_82 : decode cX9_know 82 = .ok (.invokevirtual 242, 3) := by decide +kernel
theorem dX9_least_0 : decode cX9_least 0 = .ok (.iconst 0, 1) := by decide +kernel
theorem dX9_least_1 : decode cX9_least 1 = .ok (.istore_n 1, 1) := by decide +kernel
theorem dX9_least_2 : decode cX9_least 2 = .ok (.iload_n 0, 1) := by decide +kernel
theorem dX9_least_3 : decode cX9_least 3 = .ok (.iload_n 1, 1) := by decide +kernel
theorem dX9_least_4 : decode cX9_least 4 = .ok (.ishr, 1) := by decide +kernel
theorem dX9_least_5 : decode cX9_least 5 = .ok (.iconst 1, 1) := by decide +kernel
theorem dX9_least_6 : decode cX9_least 6 = .ok (.iand, 1) := by decide +kernel
theorem dX9_least_7 : decode cX9_least 7 = .ok (.ifCond .ne 9, 3) := by decide +kernel
theorem dX9_least_10 : decode cX9_least 10 = .ok (.iinc 1 1, 3) := by decide +kernel
theorem dX9_least_13 : decode cX9_least 13 = .ok (.goto (-11), 3) := by decide +kernel
theorem dX9_least_16 : decode cX9_least 16 = .ok (.iload_n 1, 1) := by decide +kernel
theorem dX9_least_17 : decode cX9_least 17 = .ok (.ireturn, 1) := by decide +kernel
theorem dX9_meet_0 : decode cX9_meet 0 = .ok (.aload_n 0, 1) := by decide +kernel
theorem dX9_meet_1 : decode cX9_meet 1 = .ok (.getfield 7, 3) := by decide +kernel
theorem dX9_meet_4 : decode cX9_meet 4 = .ok (.iload_n 1, 1) := by decide +kernel
theorem dX9_meet_5 : decode cX9_meet 5 = .ok (.iaload, 1) := by decide +kernel
theorem dX9_meet_6 : decode cX9_meet 6 = .ok (.istore_n 3, 1) := by decide +kernel
theorem dX9_meet_7 : decode cX9_meet 7 = .ok (.aload_n 0, 1) := by decide +kernel
theorem dX9_meet_8 : decode cX9_meet 8 = .ok (.getfield 13, 3) := by decide +kernel
theorem dX9_meet_11 : decode cX9_meet 11 = .ok (.iload_n 1, 1) := by decide +kernel
theorem dX9_meet_12 : decode cX9_meet 12 = .ok (.iaload, 1) := by decide +kernel
theorem dX9_meet_13 : decode cX9_meet 13 = .ok (.istore 4, 2) := by decide +kernel
theorem dX9_meet_15 : decode cX9_meet 15 = .ok (.aload_n 0, 1) := by decide +kernel
theorem dX9_meet_16 : decode cX9_meet 16 = .ok (.getfield 7, 3) := by decide +kernel
theorem dX9_meet_19 : decode cX9_meet 19 = .ok (.iload_n 2, 1) := by decide +kernel
theorem dX9_meet_20 : decode cX9_meet 20 = .ok (.iaload, 1) := by decide +kernel
theorem dX9_meet_21 : decode cX9_meet 21 = .ok (.istore 5, 2) := by decide +kernel
theorem dX9_meet_23 : decode cX9_meet 23 = .ok (.aload_n 0, 1) := by decide +kernel
theorem dX9_meet_24 : decode cX9_meet 24 = .ok (.getfield 13, 3) := by decide +kernel
theorem dX9_meet_27 : decode cX9_meet 27 = .ok (.iload_n 2, 1) := by decide +kernel
theorem dX9_meet_28 : decode cX9_meet 28 = .ok (.iaload, 1) := by decide +kernel
theorem dX9_meet_29 : decode cX9_meet 29 = .ok (.istore 6, 2) := by decide +kernel
theorem dX9_meet_31 : decode cX9_meet 31 = .ok (.iload_n 3, 1) := by decide +kernel
theorem dX9_meet_32 : decode cX9_meet 32 = .ok (.iload 5, 2) := by decide +kernel
theorem dX9_meet_34 : decode cX9_meet 34 = .ok (.if_icmp .eq 23, 3) := by decide +kernel
theorem dX9_meet_37 : decode cX9_meet 37 = .ok (.iload_n 3, 1) := by decide +kernel
theorem dX9_meet_38 : decode cX9_meet 38 = .ok (.iload 6, 2) := by decide +kernel
theorem dX9_meet_40 : decode cX9_meet 40 = .ok (.if_icmp .eq 17, 3) := by decide +kernel
theorem dX9_meet_43 : decode cX9_meet 43 = .ok (.iload 4, 2) := by decide +kernel
theorem dX9_meet_45 : decode cX9_meet 45 = .ok (.iload 5, 2) := by decide +kernel
theorem dX9_meet_47 : decode cX9_meet 47 = .ok (.if_icmp .eq 10, 3) := by decide +kernel
theorem dX9_meet_50 : decode cX9_meet 50 = .ok (.iload 4, 2) := by decide +kernel
theorem dX9_meet_52 : decode cX9_meet 52 = .ok (.iload 6, 2) := by decide +kernel
theorem dX9_meet_54 : decode cX9_meet 54 = .ok (.if_icmp .ne 131, 3) := by decide +kernel
theorem dX9_meet_57 : decode cX9_meet 57 = .ok (.iload_n 3, 1) := by decide +kernel
theorem dX9_meet_58 : decode cX9_meet 58 = .ok (.iload 5, 2) := by decide +kernel
theorem dX9_meet_60 : decode cX9_meet 60 = .ok (.if_icmp .eq 9, 3) := by decide +kernel
theorem dX9_meet_63 : decode cX9_meet 63 = .ok (.iload_n 3, 1) := by decide +kernel
theorem dX9_meet_64 : decode cX9_meet 64 = .ok (.iload 6, 2) := by decide +kernel
theorem dX9_meet_66 : decode cX9_meet 66 = .ok (.if_icmp .ne 7, 3) := by decide +kernel
theorem dX9_meet_69 : decode cX9_meet 69 = .ok (.iload_n 3, 1) := by decide +kernel
theorem dX9_meet_70 : decode cX9_meet 70 = .ok (.goto 5, 3) := by decide +kernel
theorem dX9_meet_73 : decode cX9_meet 73 = .ok (.iload 4, 2) := by decide +kernel
theorem dX9_meet_75 : decode cX9_meet 75 = .ok (.istore 7, 2) := by decide +kernel
theorem dX9_meet_77 : decode cX9_meet 77 = .ok (.iload_n 3, 1) := by decide +kernel
theorem dX9_meet_78 : decode cX9_meet 78 = .ok (.iload 4, 2) := by decide +kernel
theorem dX9_meet_80 : decode cX9_meet 80 = .ok (.iadd, 1) := by decide +kernel
theorem dX9_meet_81 : decode cX9_meet 81 = .ok (.iload 7, 2) := by decide +kernel
theorem dX9_meet_83 : decode cX9_meet 83 = .ok (.isub, 1) := by decide +kernel
theorem dX9_meet_84 : decode cX9_meet 84 = .ok (.istore 8, 2) := by decide +kernel
theorem dX9_meet_86 : decode cX9_meet 86 = .ok (.iload 5, 2) := by decide +kernel
theorem dX9_meet_88 : decode cX9_meet 88 = .ok (.iload 6, 2) := by decide +kernel
theorem dX9_meet_90 : decode cX9_meet 90 = .ok (.iadd, 1) := by decide +kernel
theorem dX9_meet_91 : decode cX9_meet 91 = .ok (.iload 7, 2) := by decide +kernel
theorem dX9_meet_93 : decode cX9_meet 93 = .ok (.isub, 1) := by decide +kernel
theorem dX9_meet_94 : decode cX9_meet 94 = .ok (.istore 9, 2) := by decide +kernel
theorem dX9_meet_96 : decode cX9_meet 96 = .ok (.aload_n 0, 1) := by decide +kernel
theorem dX9_meet_97 : decode cX9_meet 97 = .ok (.getfield 86, 3) := by decide +kernel
theorem dX9_meet_100 : decode cX9_meet 100 = .ok (.iload 8, 2) := by decide +kernel
theorem dX9_meet_102 : decode cX9_meet 102 = .ok (.iaload, 1) := by decide +kernel
theorem dX9_meet_103 : decode cX9_meet 103 = .ok (.aload_n 0, 1) := by decide +kernel
theorem dX9_meet_104 : decode cX9_meet 104 = .ok (.getfield 86, 3) := by decide +kernel
theorem dX9_meet_107 : decode cX9_meet 107 = .ok (.iload 7, 2) := by decide +kernel
theorem dX9_meet_109 : decode cX9_meet 109 = .ok (.iaload, 1) := by decide +kernel
theorem dX9_meet_110 : decode cX9_meet 110 = .ok (.isub, 1) := by decide +kernel
theorem dX9_meet_111 : decode cX9_meet 111 = .ok (.aload_n 0, 1) := by decide +kernel
theorem dX9_meet_112 : decode cX9_meet 112 = .ok (.getfield 86, 3) := by decide +kernel
theorem dX9_meet_115 : decode cX9_meet 115 = .ok (.iload 9, 2) := by decide +kernel
theorem dX9_meet_117 : decode cX9_meet 117 = .ok (.iaload, 1) := by decide +kernel
theorem dX9_meet_118 : decode cX9_meet 118 = .ok (.aload_n 0, 1) := by decide +kernel
theorem dX9_meet_119 : decode cX9_meet 119 = .ok (.getfield 86, 3) := by decide +kernel
theorem dX9_meet_122 : decode cX9_meet 122 = .ok (.iload 7, 2) := by decide +kernel
theorem dX9_meet_124 : decode cX9_meet 124 = .ok (.iaload, 1) := by decide +kernel
theorem dX9_meet_125 : decode cX9_meet 125 = .ok (.isub, 1) := by decide +kernel
theorem dX9_meet_126 : decode cX9_meet 126 = .ok (.imul, 1) := by decide +kernel
theorem dX9_meet_127 : decode cX9_meet 127 = .ok (.aload_n 0, 1) := by decide +kernel
theorem dX9_meet_128 : decode cX9_meet 128 = .ok (.getfield 89, 3) := by decide +kernel
theorem dX9_meet_131 : decode cX9_meet 131 = .ok (.iload 8, 2) := by decide +kernel
theorem dX9_meet_133 : decode cX9_meet 133 = .ok (.iaload, 1) := by decide +kernel
theorem dX9_meet_134 : decode cX9_meet 134 = .ok (.aload_n 0, 1) := by decide +kernel
theorem dX9_meet_135 : decode cX9_meet 135 = .ok (.getfield 89, 3) := by decide +kernel
theorem dX9_meet_138 : decode cX9_meet 138 = .ok (.iload 7, 2) := by decide +kernel
theorem dX9_meet_140 : decode cX9_meet 140 = .ok (.iaload, 1) := by decide +kernel
theorem dX9_meet_141 : decode cX9_meet 141 = .ok (.isub, 1) := by decide +kernel
theorem dX9_meet_142 : decode cX9_meet 142 = .ok (.aload_n 0, 1) := by decide +kernel
theorem dX9_meet_143 : decode cX9_meet 143 = .ok (.getfield 89, 3) := by decide +kernel
theorem dX9_meet_146 : decode cX9_meet 146 = .ok (.iload 9, 2) := by decide +kernel
theorem dX9_meet_148 : decode cX9_meet 148 = .ok (.iaload, 1) := by decide +kernel
theorem dX9_meet_149 : decode cX9_meet 149 = .ok (.aload_n 0, 1) := by decide +kernel
theorem dX9_meet_150 : decode cX9_meet 150 = .ok (.getfield 89, 3) := by decide +kernel
theorem dX9_meet_153 : decode cX9_meet 153 = .ok (.iload 7, 2) := by decide +kernel
theorem dX9_meet_155 : decode cX9_meet 155 = .ok (.iaload, 1) := by decide +kernel
theorem dX9_meet_156 : decode cX9_meet 156 = .ok (.isub, 1) := by decide +kernel
theorem dX9_meet_157 : decode cX9_meet 157 = .ok (.imul, 1) := by decide +kernel
theorem dX9_meet_158 : decode cX9_meet 158 = .ok (.iadd, 1) := by decide +kernel
theorem dX9_meet_159 : decode cX9_meet 159 = .ok (.istore 10, 2) := by decide +kernel
theorem dX9_meet_161 : decode cX9_meet 161 = .ok (.aload_n 0, 1) := by decide +kernel
theorem dX9_meet_162 : decode cX9_meet 162 = .ok (.iload 7, 2) := by decide +kernel
theorem dX9_meet_164 : decode cX9_meet 164 = .ok (.iload 8, 2) := by decide +kernel
theorem dX9_meet_166 : decode cX9_meet 166 = .ok (.iload 9, 2) := by decide +kernel
theorem dX9_meet_168 : decode cX9_meet 168 = .ok (.invokevirtual 336, 3) := by decide +kernel
theorem dX9_meet_171 : decode cX9_meet 171 = .ok (.ifCond .ne 12, 3) := by decide +kernel
theorem dX9_meet_174 : decode cX9_meet 174 = .ok (.iload 10, 2) := by decide +kernel
theorem dX9_meet_176 : decode cX9_meet 176 = .ok (.ifCond .le 7, 3) := by decide +kernel
theorem dX9_meet_179 : decode cX9_meet 179 = .ok (.iconst 1, 1) := by decide +kernel
theorem dX9_meet_180 : decode cX9_meet 180 = .ok (.goto 4, 3) := by decide +kernel
theorem dX9_meet_183 : decode cX9_meet 183 = .ok (.iconst 0, 1) := by decide +kernel
theorem dX9_meet_184 : decode cX9_meet 184 = .ok (.ireturn, 1) := by decide +kernel
theorem dX9_meet_185 : decode cX9_meet 185 = .ok (.aload_n 0, 1) := by decide +kernel
theorem dX9_meet_186 : decode cX9_meet 186 = .ok (.iload_n 3, 1) := by decide +kernel
theorem dX9_meet_187 : decode cX9_meet 187 = .ok (.iload 4, 2) := by decide +kernel
theorem dX9_meet_189 : decode cX9_meet 189 = .ok (.iload 5, 2) := by decide +kernel
theorem dX9_meet_191 : decode cX9_meet 191 = .ok (.invokevirtual 340, 3) := by decide +kernel
theorem dX9_meet_194 : decode cX9_meet 194 = .ok (.ifCond .ne 40, 3) := by decide +kernel
theorem dX9_meet_197 : decode cX9_meet 197 = .ok (.aload_n 0, 1) := by decide +kernel
theorem dX9_meet_198 : decode cX9_meet 198 = .ok (.iload_n 3, 1) := by decide +kernel
theorem dX9_meet_199 : decode cX9_meet 199 = .ok (.iload 4, 2) := by decide +kernel
theorem dX9_meet_201 : decode cX9_meet 201 = .ok (.iload 6, 2) := by decide +kernel
theorem dX9_meet_203 : decode cX9_meet 203 = .ok (.invokevirtual 340, 3) := by decide +kernel
theorem dX9_meet_206 : decode cX9_meet 206 = .ok (.ifCond .ne 28, 3) := by decide +kernel
theorem dX9_meet_209 : decode cX9_meet 209 = .ok (.aload_n 0, 1) := by decide +kernel
theorem dX9_meet_210 : decode cX9_meet 210 = .ok (.iload 5, 2) := by decide +kernel
theorem dX9_meet_212 : decode cX9_meet 212 = .ok (.iload 6, 2) := by decide +kernel
theorem dX9_meet_214 : decode cX9_meet 214 = .ok (.iload_n 3, 1) := by decide +kernel
theorem dX9_meet_215 : decode cX9_meet 215 = .ok (.invokevirtual 340, 3) := by decide +kernel
theorem dX9_meet_218 : decode cX9_meet 218 = .ok (.ifCond .ne 16, 3) := by decide +kernel
theorem dX9_meet_221 : decode cX9_meet 221 = .ok (.aload_n 0, 1) := by decide +kernel
theorem dX9_meet_222 : decode cX9_meet 222 = .ok (.iload 5, 2) := by decide +kernel
theorem dX9_meet_224 : decode cX9_meet 224 = .ok (.iload 6, 2) := by decide +kernel
theorem dX9_meet_226 : decode cX9_meet 226 = .ok (.iload 4, 2) := by decide +kernel
theorem dX9_meet_228 : decode cX9_meet 228 = .ok (.invokevirtual 340, 3) := by decide +kernel
theorem dX9_meet_231 : decode cX9_meet 231 = .ok (.ifCond .eq 5, 3) := by decide +kernel
theorem dX9_meet_234 : decode cX9_meet 234 = .ok (.iconst 1, 1) := by decide +kernel
theorem dX9_meet_235 : decode cX9_meet 235 = .ok (.ireturn, 1) := by decide +kernel
theorem dX9_meet_236 : decode cX9_meet 236 = .ok (.aload_n 0, 1) := by decide +kernel
theorem dX9_meet_237 : decode cX9_meet 237 = .ok (.iload_n 3, 1) := by decide +kernel
theorem dX9_meet_238 : decode cX9_meet 238 = .ok (.iload 4, 2) := by decide +kernel
theorem dX9_meet_240 : decode cX9_meet 240 = .ok (.iload 5, 2) := by decide +kernel
theorem dX9_meet_242 : decode cX9_meet 242 = .ok (.invokevirtual 336, 3) := by decide +kernel
theorem dX9_meet_245 : decode cX9_meet 245 = .ok (.aload_n 0, 1) := by decide +kernel
theorem dX9_meet_246 : decode cX9_meet 246 = .ok (.iload_n 3, 1) := by decide +kernel
theorem dX9_meet_247 : decode cX9_meet 247 = .ok (.iload 4, 2) := by decide +kernel
theorem dX9_meet_249 : decode cX9_meet 249 = .ok (.iload 6, 2) := by decide +kernel
theorem dX9_meet_251 : decode cX9_meet 251 = .ok (.invokevirtual 336, 3) := by decide +kernel
theorem dX9_meet_254 : decode cX9_meet 254 = .ok (.imul, 1) := by decide +kernel
theorem dX9_meet_255 : decode cX9_meet 255 = .ok (.ifCond .ge 30, 3) := by decide +kernel
theorem dX9_meet_258 : decode cX9_meet 258 = .ok (.aload_n 0, 1) := by decide +kernel
theorem dX9_meet_259 : decode cX9_meet 259 = .ok (.iload 5, 2) := by decide +kernel
theorem dX9_meet_261 : decode cX9_meet 261 = .ok (.iload 6, 2) := by decide +kernel
theorem dX9_meet_263 : decode cX9_meet 263 = .ok (.iload_n 3, 1) := by decide +kernel
theorem dX9_meet_264 : decode cX9_meet 264 = .ok (.invokevirtual 336, 3) := by decide +kernel
theorem dX9_meet_267 : decode cX9_meet 267 = .ok (.aload_n 0, 1) := by decide +kernel
theorem dX9_meet_268 : decode cX9_meet 268 = .ok (.iload 5, 2) := by decide +kernel
theorem dX9_meet_270 : decode cX9_meet 270 = .ok (.iload 6, 2) := by decide +kernel
theorem dX9_meet_272 : decode cX9_meet 272 = .ok (.iload 4, 2) := by decide +kernel
theorem dX9_meet_274 : decode cX9_meet 274 = .ok (.invokevirtual 336, 3) := by decide +kernel
theorem dX9_meet_277 : decode cX9_meet 277 = .ok (.imul, 1) := by decide +kernel
theorem dX9_meet_278 : decode cX9_meet 278 = .ok (.ifCond .ge 7, 3) := by decide +kernel
theorem dX9_meet_281 : decode cX9_meet 281 = .ok (.iconst 1, 1) := by decide +kernel
theorem dX9_meet_282 : decode cX9_meet 282 = .ok (.goto 4, 3) := by decide +kernel
theorem dX9_meet_285 : decode cX9_meet 285 = .ok (.iconst 0, 1) := by decide +kernel
theorem dX9_meet_286 : decode cX9_meet 286 = .ok (.ireturn, 1) := by decide +kernel
theorem dX9_nextInRound_0 : decode cX9_nextInRound 0 = .ok (.aload_n 0, 1) := by decide +kernel
theorem dX9_nextInRound_1 : decode cX9_nextInRound 1 = .ok (.getfield 125, 3) := by decide +kernel
theorem dX9_nextInRound_4 : decode cX9_nextInRound 4 = .ok (.iload_n 1, 1) := by decide +kernel
theorem dX9_nextInRound_5 : decode cX9_nextInRound 5 = .ok (.iaload, 1) := by decide +kernel
theorem dX9_nextInRound_6 : decode cX9_nextInRound 6 = .ok (.istore_n 2, 1) := by decide +kernel
theorem dX9_nextInRound_7 : decode cX9_nextInRound 7 = .ok (.aload_n 0, 1) := by decide +kernel
theorem dX9_nextInRound_8 : decode cX9_nextInRound 8 = .ok (.getfield 122, 3) := by decide +kernel
theorem dX9_nextInRound_11 : decode cX9_nextInRound 11 = .ok (.iload_n 2, 1) := by decide +kernel
theorem dX9_nextInRound_12 : decode cX9_nextInRound 12 = .ok (.iaload, 1) := by decide +kernel
theorem dX9_nextInRound_13 : decode cX9_nextInRound 13 = .ok (.istore_n 3, 1) := by decide +kernel
theorem dX9_nextInRound_14 : decode cX9_nextInRound 14 = .ok (.aload_n 0, 1) := by decide +kernel
theorem dX9_nextInRound_15 : decode cX9_nextInRound 15 = .ok (.getfield 119, 3) := by decide +kernel
theorem dX9_nextInRound_18 : decode cX9_nextInRound 18 = .ok (.iload_n 3, 1) := by decide +kernel
theorem dX9_nextInRound_19 : decode cX9_nextInRound 19 = .ok (.iaload, 1) := by decide +kernel
theorem dX9_nextInRound_20 : decode cX9_nextInRound 20 = .ok (.iload_n 1, 1) := by decide +kernel
theorem dX9_nextInRound_21 : decode cX9_nextInRound 21 = .ok (.if_icmp .eq 9, 3) := by decide +kernel
theorem dX9_nextInRound_24 : decode cX9_nextInRound 24 = .ok (.iinc 3 1, 3) := by decide +kernel
theorem dX9_nextInRound_27 : decode cX9_nextInRound 27 = .ok (.goto (-13), 3) := by decide +kernel
theorem dX9_nextInRound_30 : decode cX9_nextInRound 30 = .ok (.iload_n 3, 1) := by decide +kernel
theorem dX9_nextInRound_31 : decode cX9_nextInRound 31 = .ok (.iconst 1, 1) := by decide +kernel
theorem dX9_nextInRound_32 : decode cX9_nextInRound 32 = .ok (.iadd, 1) := by decide +kernel
theorem dX9_nextInRound_33 : decode cX9_nextInRound 33 = .ok (.aload_n 0, 1) := by decide +kernel
theorem dX9_nextInRound_34 : decode cX9_nextInRound 34 = .ok (.getfield 122, 3) := by decide +kernel
theorem dX9_nextInRound_37 : decode cX9_nextInRound 37 = .ok (.iload_n 2, 1) := by decide +kernel
theorem dX9_nextInRound_38 : decode cX9_nextInRound 38 = .ok (.iconst 1, 1) := by decide +kernel
theorem dX9_nextInRound_39 : decode cX9_nextInRound 39 = .ok (.iadd, 1) := by decide +kernel
theorem dX9_nextInRound_40 : decode cX9_nextInRound 40 = .ok (.iaload, 1) := by decide +kernel
theorem dX9_nextInRound_41 : decode cX9_nextInRound 41 = .ok (.if_icmp .ge 14, 3) := by decide +kernel
theorem dX9_nextInRound_44 : decode cX9_nextInRound 44 = .ok (.aload_n 0, 1) := by decide +kernel
theorem dX9_nextInRound_45 : decode cX9_nextInRound 45 = .ok (.getfield 119, 3) := by decide +kernel
theorem dX9_nextInRound_48 : decode cX9_nextInRound 48 = .ok (.iload_n 3, 1) := by decide +kernel
theorem dX9_nextInRound_49 : decode cX9_nextInRound 49 = .ok (.iconst 1, 1) := by decide +kernel
theorem dX9_nextInRound_50 : decode cX9_nextInRound 50 = .ok (.iadd, 1) := by decide +kernel
theorem dX9_nextInRound_51 : decode cX9_nextInRound 51 = .ok (.iaload, 1) := by decide +kernel
theorem dX9_nextInRound_52 : decode cX9_nextInRound 52 = .ok (.goto 14, 3) := by decide +kernel
theorem dX9_nextInRound_55 : decode cX9_nextInRound 55 = .ok (.aload_n 0, 1) := by decide +kernel
theorem dX9_nextInRound_56 : decode cX9_nextInRound 56 = .ok (.getfield 119, 3) := by decide +kernel
theorem dX9_nextInRound_59 : decode cX9_nextInRound 59 = .ok (.aload_n 0, 1) := by decide +kernel
theorem dX9_nextInRound_60 : decode cX9_nextInRound 60 = .ok (.getfield 122, 3) := by decide +kernel
theorem dX9_nextInRound_63 : decode cX9_nextInRound 63 = .ok (.iload_n 2, 1) := by decide +kernel
theorem dX9_nextInRound_64 : decode cX9_nextInRound 64 = .ok (.iaload, 1) := by decide +kernel
theorem dX9_nextInRound_65 : decode cX9_nextInRound 65 = .ok (.iaload, 1) := by decide +kernel
theorem dX9_nextInRound_66 : decode cX9_nextInRound 66 = .ok (.ireturn, 1) := by decide +kernel
theorem dX9_nextOff_0 : decode cX9_nextOff 0 = .ok (.iconst 0, 1) := by decide +kernel
theorem dX9_nextOff_1 : decode cX9_nextOff 1 = .ok (.istore_n 1, 1) := by decide +kernel
theorem dX9_nextOff_2 : decode cX9_nextOff 2 = .ok (.iconst 0, 1) := by decide +kernel
theorem dX9_nextOff_3 : decode cX9_nextOff 3 = .ok (.istore_n 2, 1) := by decide +kernel
theorem dX9_nextOff_4 : decode cX9_nextOff 4 = .ok (.iload_n 2, 1) := by decide +kernel
theorem dX9_nextOff_5 : decode cX9_nextOff 5 = .ok (.aload_n 0, 1) := by decide +kernel
theorem dX9_nextOff_6 : decode cX9_nextOff 6 = .ok (.getfield 267, 3) := by decide +kernel
theorem dX9_nextOff_9 : decode cX9_nextOff 9 = .ok (.if_icmp .ge 20, 3) := by decide +kernel
theorem dX9_nextOff_12 : decode cX9_nextOff 12 = .ok (.iload_n 1, 1) := by decide +kernel
theorem dX9_nextOff_13 : decode cX9_nextOff 13 = .ok (.iconst 1, 1) := by decide +kernel
theorem dX9_nextOff_14 : decode cX9_nextOff 14 = .ok (.aload_n 0, 1) := by decide +kernel
theorem dX9_nextOff_15 : decode cX9_nextOff 15 = .ok (.getfield 107, 3) := by decide +kernel
theorem dX9_nextOff_18 : decode cX9_nextOff 18 = .ok (.iload_n 2, 1) := by decide +kernel
theorem dX9_nextOff_19 : decode cX9_nextOff 19 = .ok (.iaload, 1) := by decide +kernel
theorem dX9_nextOff_20 : decode cX9_nextOff 20 = .ok (.ishl, 1) := by decide +kernel
theorem dX9_nextOff_21 : decode cX9_nextOff 21 = .ok (.ior, 1) := by decide +kernel
theorem dX9_nextOff_22 : decode cX9_nextOff 22 = .ok (.istore_n 1, 1) := by decide +kernel
theorem dX9_nextOff_23 : decode cX9_nextOff 23 = .ok (.iinc 2 1, 3) := by decide +kernel
theorem dX9_nextOff_26 : decode cX9_nextOff 26 = .ok (.goto (-22), 3) := by decide +kernel
theorem dX9_nextOff_29 : decode cX9_nextOff 29 = .ok (.iconst (-1), 1) := by decide +kernel
theorem dX9_nextOff_30 : decode cX9_nextOff 30 = .ok (.istore_n 2, 1) := by decide +kernel
theorem dX9_nextOff_31 : decode cX9_nextOff 31 = .ok (.iconst 1, 1) := by decide +kernel
theorem dX9_nextOff_32 : decode cX9_nextOff 32 = .ok (.istore_n 3, 1) := by decide +kernel
theorem dX9_nextOff_33 : decode cX9_nextOff 33 = .ok (.iload_n 3, 1) := by decide +kernel
theorem dX9_nextOff_34 : decode cX9_nextOff 34 = .ok (.iconst 1, 1) := by decide +kernel
theorem dX9_nextOff_35 : decode cX9_nextOff 35 = .ok (.iadd, 1) := by decide +kernel
theorem dX9_nextOff_36 : decode cX9_nextOff 36 = .ok (.aload_n 0, 1) := by decide +kernel
theorem dX9_nextOff_37 : decode cX9_nextOff 37 = .ok (.getfield 267, 3) := by decide +kernel
theorem dX9_nextOff_40 : decode cX9_nextOff 40 = .ok (.if_icmp .ge 84, 3) := by decide +kernel
theorem dX9_nextOff_43 : decode cX9_nextOff 43 = .ok (.aload_n 0, 1) := by decide +kernel
theorem dX9_nextOff_44 : decode cX9_nextOff 44 = .ok (.getfield 68, 3) := by decide +kernel
theorem dX9_nextOff_47 : decode cX9_nextOff 47 = .ok (.aload_n 0, 1) := by decide +kernel
theorem dX9_nextOff_48 : decode cX9_nextOff 48 = .ok (.getfield 107, 3) := by decide +kernel
theorem dX9_nextOff_51 : decode cX9_nextOff 51 = .ok (.iload_n 3, 1) := by decide +kernel
theorem dX9_nextOff_52 : decode cX9_nextOff 52 = .ok (.iaload, 1) := by decide +kernel
theorem dX9_nextOff_53 : decode cX9_nextOff 53 = .ok (.iaload, 1) := by decide +kernel
theorem dX9_nextOff_54 : decode cX9_nextOff 54 = .ok (.iload_n 1, 1) := by decide +kernel
theorem dX9_nextOff_55 : decode cX9_nextOff 55 = .ok (.iand, 1) := by decide +kernel
theorem dX9_nextOff_56 : decode cX9_nextOff 56 = .ok (.istore 4, 2) := by decide +kernel
theorem dX9_nextOff_58 : decode cX9_nextOff 58 = .ok (.iconst 0, 1) := by decide +kernel
theorem dX9_nextOff_59 : decode cX9_nextOff 59 = .ok (.istore 5, 2) := by decide +kernel
theorem dX9_nextOff_61 : decode cX9_nextOff 61 = .ok (.iconst 0, 1) := by decide +kernel
theorem dX9_nextOff_62 : decode cX9_nextOff 62 = .ok (.istore 6, 2) := by decide +kernel
theorem dX9_nextOff_64 : decode cX9_nextOff 64 = .ok (.iload 6, 2) := by decide +kernel
theorem dX9_nextOff_66 : decode cX9_nextOff 66 = .ok (.aload_n 0, 1) := by decide +kernel
theorem dX9_nextOff_67 : decode cX9_nextOff 67 = .ok (.getfield 210, 3) := by decide +kernel
theorem dX9_nextOff_70 : decode cX9_nextOff 70 = .ok (.if_icmp .ge 21, 3) := by decide +kernel
theorem dX9_nextOff_73 : decode cX9_nextOff 73 = .ok (.iload 5, 2) := by decide +kernel
theorem dX9_nextOff_75 : decode cX9_nextOff 75 = .ok (.iload 4, 2) := by decide +kernel
theorem dX9_nextOff_77 : decode cX9_nextOff 77 = .ok (.iload 6, 2) := by decide +kernel
theorem dX9_nextOff_79 : decode cX9_nextOff 79 = .ok (.ishr, 1) := by decide +kernel
theorem dX9_nextOff_80 : decode cX9_nextOff 80 = .ok (.iconst 1, 1) := by decide +kernel
theorem dX9_nextOff_81 : decode cX9_nextOff 81 = .ok (.iand, 1) := by decide +kernel
theorem dX9_nextOff_82 : decode cX9_nextOff 82 = .ok (.iadd, 1) := by decide +kernel
theorem dX9_nextOff_83 : decode cX9_nextOff 83 = .ok (.istore 5, 2) := by decide +kernel
theorem dX9_nextOff_85 : decode cX9_nextOff 85 = .ok (.iinc 6 1, 3) := by decide +kernel
theorem dX9_nextOff_88 : decode cX9_nextOff 88 = .ok (.goto (-24), 3) := by decide +kernel
theorem dX9_nextOff_91 : decode cX9_nextOff 91 = .ok (.iload 5, 2) := by decide +kernel
theorem dX9_nextOff_93 : decode cX9_nextOff 93 = .ok (.iconst 2, 1) := by decide +kernel
theorem dX9_nextOff_94 : decode cX9_nextOff 94 = .ok (.if_icmp .ne 24, 3) := by decide +kernel
theorem dX9_nextOff_97 : decode cX9_nextOff 97 = .ok (.iload_n 2, 1) := by decide +kernel
theorem dX9_nextOff_98 : decode cX9_nextOff 98 = .ok (.ifCond .lt 18, 3) := by decide +kernel
theorem dX9_nextOff_101 : decode cX9_nextOff 101 = .ok (.aload_n 0, 1) := by decide +kernel
theorem dX9_nextOff_102 : decode cX9_nextOff 102 = .ok (.getfield 107, 3) := by decide +kernel
theorem dX9_nextOff_105 : decode cX9_nextOff 105 = .ok (.iload_n 3, 1) := by decide +kernel
theorem dX9_nextOff_106 : decode cX9_nextOff 106 = .ok (.iaload, 1) := by decide +kernel
theorem dX9_nextOff_107 : decode cX9_nextOff 107 = .ok (.aload_n 0, 1) := by decide +kernel
theorem dX9_nextOff_108 : decode cX9_nextOff 108 = .ok (.getfield 107, 3) := by decide +kernel
theorem dX9_nextOff_111 : decode cX9_nextOff 111 = .ok (.iload_n 2, 1) := by decide +kernel
theorem dX9_nextOff_112 : decode cX9_nextOff 112 = .ok (.iaload, 1) := by decide +kernel
theorem dX9_nextOff_113 : decode cX9_nextOff 113 = .ok (.if_icmp .le 5, 3) := by decide +kernel
theorem dX9_nextOff_116 : decode cX9_nextOff 116 = .ok (.iload_n 3, 1) := by decide +kernel
theorem dX9_nextOff_117 : decode cX9_nextOff 117 = .ok (.istore_n 2, 1) := by decide +kernel
theorem dX9_nextOff_118 : decode cX9_nextOff 118 = .ok (.iinc 3 1, 3) := by decide +kernel
theorem dX9_nextOff_121 : decode cX9_nextOff 121 = .ok (.goto (-88), 3) := by decide +kernel
theorem dX9_nextOff_124 : decode cX9_nextOff 124 = .ok (.iload_n 2, 1) := by decide +kernel
theorem dX9_nextOff_125 : decode cX9_nextOff 125 = .ok (.ireturn, 1) := by decide +kernel
theorem dX9_node_9 : decode cX9_node 9 = .ok (.bipush (-4), 2) := by decide +kernel
theorem dX9_node_11 : decode cX9_node 11 = .ok (.ireturn, 1) := by decide +kernel
theorem dX9_nodeOf_0 : decode cX9_nodeOf 0 = .ok (.iload_n 1, 1) := by decide +kernel
theorem dX9_nodeOf_1 : decode cX9_nodeOf 1 = .ok (.iconst 2, 1) := by decide +kernel
theorem dX9_nodeOf_2 : decode cX9_nodeOf 2 = .ok (.irem, 1) := by decide +kernel
theorem dX9_nodeOf_3 : decode cX9_nodeOf 3 = .ok (.ifCond .ne 14, 3) := by decide +kernel
theorem dX9_nodeOf_6 : decode cX9_nodeOf 6 = .ok (.aload_n 0, 1) := by decide +kernel
theorem dX9_nodeOf_7 : decode cX9_nodeOf 7 = .ok (.getfield 7, 3) := by decide +kernel
theorem dX9_nodeOf_10 : decode cX9_nodeOf 10 = .ok (.iload_n 1, 1) := by decide +kernel
theorem dX9_nodeOf_11 : decode cX9_nodeOf 11 = .ok (.iconst 2, 1) := by decide +kernel
theorem dX9_nodeOf_12 : decode cX9_nodeOf 12 = .ok (.idiv, 1) := by decide +kernel
theorem dX9_nodeOf_13 : decode cX9_nodeOf 13 = .ok (.iaload, 1) := by decide +kernel
theorem dX9_nodeOf_14 : decode cX9_nodeOf 14 = .ok (.goto 11, 3) := by decide +kernel
theorem dX9_nodeOf_17 : decode cX9_nodeOf 17 = .ok (.aload_n 0, 1) := by decide +kernel
theorem dX9_nodeOf_18 : decode cX9_nodeOf 18 = .ok (.getfield 13, 3) := by decide +kernel
theorem dX9_nodeOf_21 : decode cX9_nodeOf 21 = .ok (.iload_n 1, 1) := by decide +kernel
theorem dX9_nodeOf_22 : decode cX9_nodeOf 22 = .ok (.iconst 2, 1) := by decide +kernel
theorem dX9_nodeOf_23 : decode cX9_nodeOf 23 = .ok (.idiv, 1) := by decide +kernel
theorem dX9_nodeOf_24 : decode cX9_nodeOf 24 = .ok (.iaload, 1) := by decide +kernel
theorem dX9_nodeOf_25 : decode cX9_nodeOf 25 = .ok (.ireturn, 1) := by decide +kernel
theorem dX9_offer_0 : decode cX9_offer 0 = .ok (.iconst 0, 1) := by decide +kernel
theorem dX9_offer_1 : decode cX9_offer 1 = .ok (.istore_n 3, 1) := by decide +kernel
theorem dX9_offer_2 : decode cX9_offer 2 = .ok (.iconst 0, 1) := by decide +kernel
theorem dX9_offer_3 : decode cX9_offer 3 = .ok (.istore 4, 2) := by decide +kernel
theorem dX9_offer_5 : decode cX9_offer 5 = .ok (.iload 4, 2) := by decide +kernel
theorem dX9_offer_7 : decode cX9_offer 7 = .ok (.aload_n 0, 1) := by decide +kernel
theorem dX9_offer_8 : decode cX9_offer 8 = .ok (.getfield 174, 3) := by decide +kernel
theorem dX9_offer_11 : decode cX9_offer 11 = .ok (.if_icmp .ge 30, 3) := by decide +kernel
theorem dX9_offer_14 : decode cX9_offer 14 = .ok (.iload_n 3, 1) := by decide +kernel
theorem dX9_offer_15 : decode cX9_offer 15 = .ok (.aload_n 0, 1) := by decide +kernel
theorem dX9_offer_16 : decode cX9_offer 16 = .ok (.getfield 50, 3) := by decide +kernel
theorem dX9_offer_19 : decode cX9_offer 19 = .ok (.iload 4, 2) := by decide +kernel
theorem dX9_offer_21 : decode cX9_offer 21 = .ok (.iaload, 1) := by decide +kernel
theorem dX9_offer_22 : decode cX9_offer 22 = .ok (.iload_n 1, 1) := by decide +kernel
theorem dX9_offer_23 : decode cX9_offer 23 = .ok (.iand, 1) := by decide +kernel
theorem dX9_offer_24 : decode cX9_offer 24 = .ok (.iload_n 1, 1) := by decide +kernel
theorem dX9_offer_25 : decode cX9_offer 25 = .ok (.if_icmp .ne 7, 3) := by decide +kernel
theorem dX9_offer_28 : decode cX9_offer 28 = .ok (.iconst 1, 1) := by decide +kernel
theorem dX9_offer_29 : decode cX9_offer 29 = .ok (.goto 4, 3) := by decide +kernel
theorem dX9_offer_32 : decode cX9_offer 32 = .ok (.iconst 0, 1) := by decide +kernel
theorem dX9_offer_33 : decode cX9_offer 33 = .ok (.iadd, 1) := by decide +kernel
theorem dX9_offer_34 : decode cX9_offer 34 = .ok (.istore_n 3, 1) := by decide +kernel
theorem dX9_offer_35 : decode cX9_offer 35 = .ok (.iinc 4 1, 3) := by decide +kernel
theorem dX9_offer_38 : decode cX9_offer 38 = .ok (.goto (-33), 3) := by decide +kernel
theorem dX9_offer_41 : decode cX9_offer 41 = .ok (.iload_n 3, 1) := by decide +kernel
theorem dX9_offer_42 : decode cX9_offer 42 = .ok (.aload_n 0, 1) := by decide +kernel
theorem dX9_offer_43 : decode cX9_offer 43 = .ok (.getfield 181, 3) := by decide +kernel
theorem dX9_offer_46 : decode cX9_offer 46 = .ok (.if_icmp .ge 18, 3) := by decide +kernel
theorem dX9_offer_49 : decode cX9_offer 49 = .ok (.aload_n 0, 1) := by decide +kernel
theorem dX9_offer_50 : decode cX9_offer 50 = .ok (.iload_n 3, 1) := by decide +kernel
theorem dX9_offer_51 : decode cX9_offer 51 = .ok (.putfield 181, 3) := by decide +kernel
theorem dX9_offer_54 : decode cX9_offer 54 = .ok (.aload_n 0, 1) := by decide +kernel
theorem dX9_offer_55 : decode cX9_offer 55 = .ok (.iload_n 1, 1) := by decide +kernel
theorem dX9_offer_56 : decode cX9_offer 56 = .ok (.putfield 184, 3) := by decide +kernel
theorem dX9_offer_59 : decode cX9_offer 59 = .ok (.aload_n 0, 1) := by decide +kernel
theorem dX9_offer_60 : decode cX9_offer 60 = .ok (.iload_n 2, 1) := by decide +kernel
theorem dX9_offer_61 : decode cX9_offer 61 = .ok (.putfield 187, 3) := by decide +kernel
theorem dX9_offer_64 : decode cX9_offer 64 = .ok (.return_, 1) := by decide +kernel
theorem dX9_outer_16 : decode cX9_outer 16 = .ok (.aload_n 0, 1) := by decide +kernel
theorem dX9_outer_17 : decode cX9_outer 17 = .ok (.getfield 26, 3) := by decide +kernel
theorem dX9_outer_20 : decode cX9_outer 20 = .ok (.iload_n 1, 1) := by decide +kernel
theorem dX9_outer_21 : decode cX9_outer 21 = .ok (.dup2, 1) := by decide +kernel
theorem dX9_outer_22 : decode cX9_outer 22 = .ok (.iaload, 1) := by decide +kernel
theorem dX9_outer_23 : decode cX9_outer 23 = .ok (.iconst 1, 1) := by decide +kernel
theorem dX9_outer_24 : decode cX9_outer 24 = .ok (.aload_n 0, 1) := by decide +kernel
theorem dX9_outer_25 : decode cX9_outer 25 = .ok (.getfield 210, 3) := by decide +kernel
theorem dX9_outer_28 : decode cX9_outer 28 = .ok (.ishl, 1) := by decide +kernel
theorem dX9_outer_29 : decode cX9_outer 29 = .ok (.ior, 1) := by decide +kernel
theorem dX9_outer_30 : decode cX9_outer 30 = .ok (.iastore, 1) := by decide +kernel
theorem dX9_outer_31 : decode cX9_outer 31 = .ok (.aload_n 0, 1) := by decide +kernel
theorem dX9_outer_32 : decode cX9_outer 32 = .ok (.getfield 26, 3) := by decide +kernel
theorem dX9_outer_35 : decode cX9_outer 35 = .ok (.aload_n 0, 1) := by decide +kernel
theorem dX9_outer_36 : decode cX9_outer 36 = .ok (.getfield 210, 3) := by decide +kernel
theorem dX9_outer_39 : decode cX9_outer 39 = .ok (.dup2, 1) := by decide +kernel
theorem dX9_outer_40 : decode cX9_outer 40 = .ok (.iaload, 1) := by decide +kernel
theorem dX9_outer_41 : decode cX9_outer 41 = .ok (.iconst 1, 1) := by decide +kernel
theorem dX9_outer_42 : decode cX9_outer 42 = .ok (.iload_n 1, 1) := by decide +kernel
theorem dX9_outer_43 : decode cX9_outer 43 = .ok (.ishl, 1) := by decide +kernel
theorem dX9_outer_44 : decode cX9_outer 44 = .ok (.ior, 1) := by decide +kernel
theorem dX9_outer_45 : decode cX9_outer 45 = .ok (.iastore, 1) := by decide +kernel
theorem dX9_outer_46 : decode cX9_outer 46 = .ok (.iinc 1 1, 3) := by decide +kernel
theorem dX9_outer_49 : decode cX9_outer 49 = .ok (.goto (-41), 3) := by decide +kernel
theorem dX9_outer_73 : decode cX9_outer 73 = .ok (.iconst 0, 1) := by decide +kernel
theorem dX9_overPart_0 : decode cX9_overPart 0 = .ok (.iconst 0, 1) := by decide +kernel
theorem dX9_overPart_1 : decode cX9_overPart 1 = .ok (.istore_n 3, 1) := by decide +kernel
theorem dX9_overPart_2 : decode cX9_overPart 2 = .ok (.iload_n 3, 1) := by decide +kernel
theorem dX9_overPart_3 : decode cX9_overPart 3 = .ok (.aload_n 0, 1) := by decide +kernel
theorem dX9_overPart_4 : decode cX9_overPart 4 = .ok (.getfield 131, 3) := by decide +kernel
theorem dX9_overPart_7 : decode cX9_overPart 7 = .ok (.if_icmp .ge 16, 3) := by decide +kernel
theorem dX9_overPart_10 : decode cX9_overPart 10 = .ok (.aload_n 0, 1) := by decide +kernel
theorem dX9_overPart_11 : decode cX9_overPart 11 = .ok (.getfield 56, 3) := by decide +kernel
theorem dX9_overPart_14 : decode cX9_overPart 14 = .ok (.iload_n 3, 1) := by decide +kernel
theorem dX9_overPart_15 : decode cX9_overPart 15 = .ok (.iconst (-1), 1) := by decide +kernel
theorem dX9_overPart_16 : decode cX9_overPart 16 = .ok (.iastore, 1) := by decide +kernel
theorem dX9_overPart_17 : decode cX9_overPart 17 = .ok (.iinc 3 1, 3) := by decide +kernel
theorem dX9_overPart_20 : decode cX9_overPart 20 = .ok (.goto (-18), 3) := by decide +kernel
theorem dX9_overPart_23 : decode cX9_overPart 23 = .ok (.iconst 0, 1) := by decide +kernel
theorem dX9_overPart_24 : decode cX9_overPart 24 = .ok (.istore_n 3, 1) := by decide +kernel
theorem dX9_overPart_25 : decode cX9_overPart 25 = .ok (.iconst 0, 1) := by decide +kernel
theorem dX9_overPart_26 : decode cX9_overPart 26 = .ok (.istore 4, 2) := by decide +kernel
theorem dX9_overPart_28 : decode cX9_overPart 28 = .ok (.aload_n 0, 1) := by decide +kernel
theorem dX9_overPart_29 : decode cX9_overPart 29 = .ok (.getfield 56, 3) := by decide +kernel
theorem dX9_overPart_32 : decode cX9_overPart 32 = .ok (.iload_n 1, 1) := by decide +kernel
theorem dX9_overPart_33 : decode cX9_overPart 33 = .ok (.iload_n 1, 1) := by decide +kernel
theorem dX9_overPart_34 : decode cX9_overPart 34 = .ok (.iastore, 1) := by decide +kernel
theorem dX9_overPart_35 : decode cX9_overPart 35 = .ok (.iconst 0, 1) := by decide +kernel
theorem dX9_overPart_36 : decode cX9_overPart 36 = .ok (.istore 5, 2) := by decide +kernel
theorem dX9_overPart_38 : decode cX9_overPart 38 = .ok (.iload 5, 2) := by decide +kernel
theorem dX9_overPart_40 : decode cX9_overPart 40 = .ok (.aload_n 0, 1) := by decide +kernel
theorem dX9_overPart_41 : decode cX9_overPart 41 = .ok (.getfield 131, 3) := by decide +kernel
theorem dX9_overPart_44 : decode cX9_overPart 44 = .ok (.if_icmp .ge 49, 3) := by decide +kernel
theorem dX9_overPart_47 : decode cX9_overPart 47 = .ok (.aload_n 0, 1) := by decide +kernel
theorem dX9_overPart_48 : decode cX9_overPart 48 = .ok (.getfield 38, 3) := by decide +kernel
theorem dX9_overPart_51 : decode cX9_overPart 51 = .ok (.iload_n 1, 1) := by decide +kernel
theorem dX9_overPart_52 : decode cX9_overPart 52 = .ok (.iaload, 1) := by decide +kernel
theorem dX9_overPart_53 : decode cX9_overPart 53 = .ok (.aload_n 0, 1) := by decide +kernel
theorem dX9_overPart_54 : decode cX9_overPart 54 = .ok (.getfield 187, 3) := by decide +kernel
theorem dX9_overPart_57 : decode cX9_overPart 57 = .ok (.iand, 1) := by decide +kernel
theorem dX9_overPart_58 : decode cX9_overPart 58 = .ok (.iload 5, 2) := by decide +kernel
theorem dX9_overPart_60 : decode cX9_overPart 60 = .ok (.ishr, 1) := by decide +kernel
theorem dX9_overPart_61 : decode cX9_overPart 61 = .ok (.iconst 1, 1) := by decide +kernel
theorem dX9_overPart_62 : decode cX9_overPart 62 = .ok (.iand, 1) := by decide +kernel
theorem dX9_overPart_63 : decode cX9_overPart 63 = .ok (.iconst 1, 1) := by decide +kernel
theorem dX9_overPart_64 : decode cX9_overPart 64 = .ok (.if_icmp .ne 23, 3) := by decide +kernel
theorem dX9_overPart_67 : decode cX9_overPart 67 = .ok (.aload_n 0, 1) := by decide +kernel
theorem dX9_overPart_68 : decode cX9_overPart 68 = .ok (.getfield 56, 3) := by decide +kernel
theorem dX9_overPart_71 : decode cX9_overPart 71 = .ok (.iload 5, 2) := by decide +kernel
theorem dX9_overPart_73 : decode cX9_overPart 73 = .ok (.iload_n 1, 1) := by decide +kernel
theorem dX9_overPart_74 : decode cX9_overPart 74 = .ok (.iastore, 1) := by decide +kernel
theorem dX9_overPart_75 : decode cX9_overPart 75 = .ok (.aload_n 0, 1) := by decide +kernel
theorem dX9_overPart_76 : decode cX9_overPart 76 = .ok (.getfield 59, 3) := by decide +kernel
theorem dX9_overPart_79 : decode cX9_overPart 79 = .ok (.iload 4, 2) := by decide +kernel
theorem dX9_overPart_81 : decode cX9_overPart 81 = .ok (.iload 5, 2) := by decide +kernel
theorem dX9_overPart_83 : decode cX9_overPart 83 = .ok (.iastore, 1) := by decide +kernel
theorem dX9_overPart_84 : decode cX9_overPart 84 = .ok (.iinc 4 1, 3) := by decide +kernel
theorem dX9_overPart_87 : decode cX9_overPart 87 = .ok (.iinc 5 1, 3) := by decide +kernel
theorem dX9_overPart_90 : decode cX9_overPart 90 = .ok (.goto (-52), 3) := by decide +kernel
theorem dX9_overPart_93 : decode cX9_overPart 93 = .ok (.iload_n 3, 1) := by decide +kernel
theorem dX9_overPart_94 : decode cX9_overPart 94 = .ok (.iload 4, 2) := by decide +kernel
theorem dX9_overPart_96 : decode cX9_overPart 96 = .ok (.if_icmp .ge 124, 3) := by decide +kernel
theorem dX9_overPart_99 : decode cX9_overPart 99 = .ok (.aload_n 0, 1) := by decide +kernel
theorem dX9_overPart_100 : decode cX9_overPart 100 = .ok (.getfield 59, 3) := by decide +kernel
theorem dX9_overPart_103 : decode cX9_overPart 103 = .ok (.iload_n 3, 1) := by decide +kernel
theorem dX9_overPart_104 : decode cX9_overPart 104 = .ok (.iaload, 1) := by decide +kernel
theorem dX9_overPart_105 : decode cX9_overPart 105 = .ok (.istore 5, 2) := by decide +kernel
theorem dX9_overPart_107 : decode cX9_overPart 107 = .ok (.iinc 3 1, 3) := by decide +kernel
theorem dX9_overPart_110 : decode cX9_overPart 110 = .ok (.iconst 0, 1) := by decide +kernel
theorem dX9_overPart_111 : decode cX9_overPart 111 = .ok (.istore 6, 2) := by decide +kernel
theorem dX9_overPart_113 : decode cX9_overPart 113 = .ok (.iload 6, 2) := by decide +kernel
theorem dX9_overPart_115 : decode cX9_overPart 115 = .ok (.aload_n 0, 1) := by decide +kernel
theorem dX9_overPart_116 : decode cX9_overPart 116 = .ok (.getfield 131, 3) := by decide +kernel
theorem dX9_overPart_119 : decode cX9_overPart 119 = .ok (.if_icmp .ge 98, 3) := by decide +kernel
theorem dX9_overPart_122 : decode cX9_overPart 122 = .ok (.aload_n 0, 1) := by decide +kernel
theorem dX9_overPart_123 : decode cX9_overPart 123 = .ok (.getfield 38, 3) := by decide +kernel
theorem dX9_overPart_126 : decode cX9_overPart 126 = .ok (.iload 5, 2) := by decide +kernel
theorem dX9_overPart_128 : decode cX9_overPart 128 = .ok (.iaload, 1) := by decide +kernel
theorem dX9_overPart_129 : decode cX9_overPart 129 = .ok (.iload 6, 2) := by decide +kernel
theorem dX9_overPart_131 : decode cX9_overPart 131 = .ok (.ishr, 1) := by decide +kernel
theorem dX9_overPart_132 : decode cX9_overPart 132 = .ok (.iconst 1, 1) := by decide +kernel
theorem dX9_overPart_133 : decode cX9_overPart 133 = .ok (.iand, 1) := by decide +kernel
theorem dX9_overPart_134 : decode cX9_overPart 134 = .ok (.ifCond .eq 77, 3) := by decide +kernel
theorem dX9_overPart_137 : decode cX9_overPart 137 = .ok (.aload_n 0, 1) := by decide +kernel
theorem dX9_overPart_138 : decode cX9_overPart 138 = .ok (.getfield 56, 3) := by decide +kernel
theorem dX9_overPart_141 : decode cX9_overPart 141 = .ok (.iload 6, 2) := by decide +kernel
theorem dX9_overPart_143 : decode cX9_overPart 143 = .ok (.iaload, 1) := by decide +kernel
theorem dX9_overPart_144 : decode cX9_overPart 144 = .ok (.ifCond .lt 6, 3) := by decide +kernel
theorem dX9_overPart_147 : decode cX9_overPart 147 = .ok (.goto 64, 3) := by decide +kernel
theorem dX9_overPart_150 : decode cX9_overPart 150 = .ok (.iload_n 2, 1) := by decide +kernel
theorem dX9_overPart_151 : decode cX9_overPart 151 = .ok (.iload 6, 2) := by decide +kernel
theorem dX9_overPart_153 : decode cX9_overPart 153 = .ok (.ishr, 1) := by decide +kernel
theorem dX9_overPart_154 : decode cX9_overPart 154 = .ok (.iconst 1, 1) := by decide +kernel
theorem dX9_overPart_155 : decode cX9_overPart 155 = .ok (.iand, 1) := by decide +kernel
theorem dX9_overPart_156 : decode cX9_overPart 156 = .ok (.iconst 1, 1) := by decide +kernel
theorem dX9_overPart_157 : decode cX9_overPart 157 = .ok (.if_icmp .ne 20, 3) := by decide +kernel
theorem dX9_overPart_160 : decode cX9_overPart 160 = .ok (.aload_n 0, 1) := by decide +kernel
theorem dX9_overPart_161 : decode cX9_overPart 161 = .ok (.getfield 56, 3) := by decide +kernel
theorem dX9_overPart_164 : decode cX9_overPart 164 = .ok (.iload 6, 2) := by decide +kernel
theorem dX9_overPart_166 : decode cX9_overPart 166 = .ok (.iload 5, 2) := by decide +kernel
theorem dX9_overPart_168 : decode cX9_overPart 168 = .ok (.iastore, 1) := by decide +kernel
theorem dX9_overPart_169 : decode cX9_overPart 169 = .ok (.aload_n 0, 1) := by decide +kernel
theorem dX9_overPart_170 : decode cX9_overPart 170 = .ok (.iload 6, 2) := by decide +kernel
theorem dX9_overPart_172 : decode cX9_overPart 172 = .ok (.iload_n 1, 1) := by decide +kernel
theorem dX9_overPart_173 : decode cX9_overPart 173 = .ok (.invokevirtual 156, 3) := by decide +kernel
theorem dX9_overPart_176 : decode cX9_overPart 176 = .ok (.ireturn, 1) := by decide +kernel
theorem dX9_overPart_177 : decode cX9_overPart 177 = .ok (.aload_n 0, 1) := by decide +kernel
theorem dX9_overPart_178 : decode cX9_overPart 178 = .ok (.getfield 187, 3) := by decide +kernel
theorem dX9_overPart_181 : decode cX9_overPart 181 = .ok (.iload 6, 2) := by decide +kernel
theorem dX9_overPart_183 : decode cX9_overPart 183 = .ok (.ishr, 1) := by decide +kernel
theorem dX9_overPart_184 : decode cX9_overPart 184 = .ok (.iconst 1, 1) := by decide +kernel
theorem dX9_overPart_185 : decode cX9_overPart 185 = .ok (.iand, 1) := by decide +kernel
theorem dX9_overPart_186 : decode cX9_overPart 186 = .ok (.iconst 1, 1) := by decide +kernel
theorem dX9_overPart_187 : decode cX9_overPart 187 = .ok (.if_icmp .ne 24, 3) := by decide +kernel
theorem dX9_overPart_190 : decode cX9_overPart 190 = .ok (.aload_n 0, 1) := by decide +kernel
theorem dX9_overPart_191 : decode cX9_overPart 191 = .ok (.getfield 56, 3) := by decide +kernel
theorem dX9_overPart_194 : decode cX9_overPart 194 = .ok (.iload 6, 2) := by decide +kernel
theorem dX9_overPart_196 : decode cX9_overPart 196 = .ok (.iload 5, 2) := by decide +kernel
theorem dX9_overPart_198 : decode cX9_overPart 198 = .ok (.iastore, 1) := by decide +kernel
theorem dX9_overPart_199 : decode cX9_overPart 199 = .ok (.aload_n 0, 1) := by decide +kernel
theorem dX9_overPart_200 : decode cX9_overPart 200 = .ok (.getfield 59, 3) := by decide +kernel
theorem dX9_overPart_203 : decode cX9_overPart 203 = .ok (.iload 4, 2) := by decide +kernel
theorem dX9_overPart_205 : decode cX9_overPart 205 = .ok (.iload 6, 2) := by decide +kernel
theorem dX9_overPart_207 : decode cX9_overPart 207 = .ok (.iastore, 1) := by decide +kernel
theorem dX9_overPart_208 : decode cX9_overPart 208 = .ok (.iinc 4 1, 3) := by decide +kernel
theorem dX9_overPart_211 : decode cX9_overPart 211 = .ok (.iinc 6 1, 3) := by decide +kernel
theorem dX9_overPart_214 : decode cX9_overPart 214 = .ok (.goto (-101), 3) := by decide +kernel
theorem dX9_overPart_217 : decode cX9_overPart 217 = .ok (.goto (-124), 3) := by decide +kernel
theorem dX9_overPart_220 : decode cX9_overPart 220 = .ok (.iconst 0, 1) := by decide +kernel
theorem dX9_overPart_221 : decode cX9_overPart 221 = .ok (.ireturn, 1) := by decide +kernel
theorem dX9_parts_20 : decode cX9_parts 20 = .ok (.iload_n 1, 1) := by decide +kernel
theorem dX9_parts_21 : decode cX9_parts 21 = .ok (.iload_n 3, 1) := by decide +kernel
theorem dX9_parts_22 : decode cX9_parts 22 = .ok (.ishr, 1) := by decide +kernel
theorem dX9_parts_23 : decode cX9_parts 23 = .ok (.iconst 1, 1) := by decide +kernel
theorem dX9_parts_24 : decode cX9_parts 24 = .ok (.iand, 1) := by decide +kernel
theorem dX9_parts_25 : decode cX9_parts 25 = .ok (.ifCond .ne 15, 3) := by decide +kernel
theorem dX9_parts_28 : decode cX9_parts 28 = .ok (.iload_n 1, 1) := by decide +kernel
theorem dX9_parts_29 : decode cX9_parts 29 = .ok (.aload_n 0, 1) := by decide +kernel
theorem dX9_parts_30 : decode cX9_parts 30 = .ok (.iload_n 3, 1) := by decide +kernel
theorem dX9_parts_31 : decode cX9_parts 31 = .ok (.iconst 0, 1) := by decide +kernel
theorem dX9_parts_32 : decode cX9_parts 32 = .ok (.invokevirtual 138, 3) := by decide +kernel
theorem dX9_parts_35 : decode cX9_parts 35 = .ok (.ior, 1) := by decide +kernel
theorem dX9_parts_36 : decode cX9_parts 36 = .ok (.istore_n 1, 1) := by decide +kernel
theorem dX9_parts_37 : decode cX9_parts 37 = .ok (.iinc 2 1, 3) := by decide +kernel
theorem dX9_parts_40 : decode cX9_parts 40 = .ok (.iinc 3 1, 3) := by decide +kernel
theorem dX9_parts_43 : decode cX9_parts 43 = .ok (.goto (-31), 3) := by decide +kernel
theorem dX9_piece_10 : decode cX9_piece 10 = .ok (.iconst 0, 1) := by decide +kernel
theorem dX9_piece_11 : decode cX9_piece 11 = .ok (.istore_n 2, 1) := by decide +kernel
theorem dX9_piece_12 : decode cX9_piece 12 = .ok (.iconst 0, 1) := by decide +kernel
theorem dX9_piece_13 : decode cX9_piece 13 = .ok (.istore_n 3, 1) := by decide +kernel
theorem dX9_piece_14 : decode cX9_piece 14 = .ok (.iload_n 3, 1) := by decide +kernel
theorem dX9_piece_15 : decode cX9_piece 15 = .ok (.aload_n 0, 1) := by decide +kernel
theorem dX9_piece_16 : decode cX9_piece 16 = .ok (.getfield 213, 3) := by decide +kernel
theorem dX9_piece_19 : decode cX9_piece 19 = .ok (.if_icmp .ge 28, 3) := by decide +kernel
theorem dX9_piece_22 : decode cX9_piece 22 = .ok (.aload_n 0, 1) := by decide +kernel
theorem dX9_piece_23 : decode cX9_piece 23 = .ok (.getfield 92, 3) := by decide +kernel
theorem dX9_piece_26 : decode cX9_piece 26 = .ok (.iload_n 3, 1) := by decide +kernel
theorem dX9_piece_27 : decode cX9_piece 27 = .ok (.baload, 1) := by decide +kernel
theorem dX9_piece_28 : decode cX9_piece 28 = .ok (.ifCond .eq 13, 3) := by decide +kernel
theorem dX9_piece_31 : decode cX9_piece 31 = .ok (.iload_n 2, 1) := by decide +kernel
theorem dX9_piece_32 : decode cX9_piece 32 = .ok (.iload_n 1, 1) := by decide +kernel
theorem dX9_piece_33 : decode cX9_piece 33 = .ok (.if_icmp .ne 5, 3) := by decide +kernel
theorem dX9_piece_36 : decode cX9_piece 36 = .ok (.iload_n 3, 1) := by decide +kernel
theorem dX9_piece_37 : decode cX9_piece 37 = .ok (.ireturn, 1) := by decide +kernel
theorem dX9_piece_38 : decode cX9_piece 38 = .ok (.iinc 2 1, 3) := by decide +kernel
theorem dX9_piece_41 : decode cX9_piece 41 = .ok (.iinc 3 1, 3) := by decide +kernel
theorem dX9_piece_44 : decode cX9_piece 44 = .ok (.goto (-30), 3) := by decide +kernel
theorem dX9_piece_47 : decode cX9_piece 47 = .ok (.iconst (-1), 1) := by decide +kernel
theorem dX9_piece_48 : decode cX9_piece 48 = .ok (.ireturn, 1) := by decide +kernel
theorem dX9_place_10 : decode cX9_place 10 = .ok (.iload_n 2, 1) := by decide +kernel
theorem dX9_place_11 : decode cX9_place 11 = .ok (.ifCond .lt 8, 3) := by decide +kernel
theorem dX9_place_14 : decode cX9_place 14 = .ok (.iload_n 2, 1) := by decide +kernel
theorem dX9_place_15 : decode cX9_place 15 = .ok (.iconst 1, 1) := by decide +kernel
theorem dX9_place_16 : decode cX9_place 16 = .ok (.if_icmp .le 6, 3) := by decide +kernel
theorem dX9_place_19 : decode cX9_place 19 = .ok (.bipush (-2), 2) := by decide +kernel
theorem dX9_place_21 : decode cX9_place 21 = .ok (.ireturn, 1) := by decide +kernel
theorem dX9_place_22 : decode cX9_place 22 = .ok (.aload_n 0, 1) := by decide +kernel
theorem dX9_place_23 : decode cX9_place 23 = .ok (.invokevirtual 318, 3) := by decide +kernel
theorem dX9_place_26 : decode cX9_place 26 = .ok (.ifCond .ne 6, 3) := by decide +kernel
theorem dX9_place_29 : decode cX9_place 29 = .ok (.bipush (-3), 2) := by decide +kernel
theorem dX9_place_31 : decode cX9_place 31 = .ok (.ireturn, 1) := by decide +kernel
theorem dX9_place_32 : decode cX9_place 32 = .ok (.iload_n 2, 1) := by decide +kernel
theorem dX9_place_33 : decode cX9_place 33 = .ok (.ifCond .ne 12, 3) := by decide +kernel
theorem dX9_place_36 : decode cX9_place 36 = .ok (.aload_n 0, 1) := by decide +kernel
theorem dX9_place_37 : decode cX9_place 37 = .ok (.getfield 86, 3) := by decide +kernel
theorem dX9_place_40 : decode cX9_place 40 = .ok (.iload_n 1, 1) := by decide +kernel
theorem dX9_place_41 : decode cX9_place 41 = .ok (.iaload, 1) := by decide +kernel
theorem dX9_place_42 : decode cX9_place 42 = .ok (.goto 9, 3) := by decide +kernel
theorem dX9_place_45 : decode cX9_place 45 = .ok (.aload_n 0, 1) := by decide +kernel
theorem dX9_place_46 : decode cX9_place 46 = .ok (.getfield 89, 3) := by decide +kernel
theorem dX9_place_49 : decode cX9_place 49 = .ok (.iload_n 1, 1) := by decide +kernel
theorem dX9_place_50 : decode cX9_place 50 = .ok (.iaload, 1) := by decide +kernel
theorem dX9_place_51 : decode cX9_place 51 = .ok (.ireturn, 1) := by decide +kernel
theorem dX9_putFace_0 : decode cX9_putFace 0 = .ok (.aload_n 0, 1) := by decide +kernel
theorem dX9_putFace_1 : decode cX9_putFace 1 = .ok (.getfield 44, 3) := by decide +kernel
theorem dX9_putFace_4 : decode cX9_putFace 4 = .ok (.bipush 21, 2) := by decide +kernel
theorem dX9_putFace_6 : decode cX9_putFace 6 = .ok (.iload_n 1, 1) := by decide +kernel
theorem dX9_putFace_7 : decode cX9_putFace 7 = .ok (.imul, 1) := by decide +kernel
theorem dX9_putFace_8 : decode cX9_putFace 8 = .ok (.iload_n 2, 1) := by decide +kernel
theorem dX9_putFace_9 : decode cX9_putFace 9 = .ok (.iadd, 1) := by decide +kernel
theorem dX9_putFace_10 : decode cX9_putFace 10 = .ok (.iload_n 3, 1) := by decide +kernel
theorem dX9_putFace_11 : decode cX9_putFace 11 = .ok (.iastore, 1) := by decide +kernel
theorem dX9_putFace_12 : decode cX9_putFace 12 = .ok (.aload_n 0, 1) := by decide +kernel
theorem dX9_putFace_13 : decode cX9_putFace 13 = .ok (.getfield 47, 3) := by decide +kernel
theorem dX9_putFace_16 : decode cX9_putFace 16 = .ok (.iload_n 1, 1) := by decide +kernel
theorem dX9_putFace_17 : decode cX9_putFace 17 = .ok (.iload_n 2, 1) := by decide +kernel
theorem dX9_putFace_18 : decode cX9_putFace 18 = .ok (.iconst 1, 1) := by decide +kernel
theorem dX9_putFace_19 : decode cX9_putFace 19 = .ok (.iadd, 1) := by decide +kernel
theorem dX9_putFace_20 : decode cX9_putFace 20 = .ok (.iastore, 1) := by decide +kernel
theorem dX9_putFace_21 : decode cX9_putFace 21 = .ok (.aload_n 0, 1) := by decide +kernel
theorem dX9_putFace_22 : decode cX9_putFace 22 = .ok (.getfield 50, 3) := by decide +kernel
theorem dX9_putFace_25 : decode cX9_putFace 25 = .ok (.iload_n 1, 1) := by decide +kernel
theorem dX9_putFace_26 : decode cX9_putFace 26 = .ok (.dup2, 1) := by decide +kernel
theorem dX9_putFace_27 : decode cX9_putFace 27 = .ok (.iaload, 1) := by decide +kernel
theorem dX9_putFace_28 : decode cX9_putFace 28 = .ok (.iconst 1, 1) := by decide +kernel
theorem dX9_putFace_29 : decode cX9_putFace 29 = .ok (.iload_n 3, 1) := by decide +kernel
theorem dX9_putFace_30 : decode cX9_putFace 30 = .ok (.ishl, 1) := by decide +kernel
theorem dX9_putFace_31 : decode cX9_putFace 31 = .ok (.ior, 1) := by decide +kernel
theorem dX9_putFace_32 : decode cX9_putFace 32 = .ok (.iastore, 1) := by decide +kernel
theorem dX9_putFace_33 : decode cX9_putFace 33 = .ok (.return_, 1) := by decide +kernel
theorem dX9_reached_0 : decode cX9_reached 0 = .ok (.iconst 1, 1) := by decide +kernel
theorem dX9_reached_1 : decode cX9_reached 1 = .ok (.iload_n 1, 1) := by decide +kernel
theorem dX9_reached_2 : decode cX9_reached 2 = .ok (.ishl, 1) := by decide +kernel
theorem dX9_reached_3 : decode cX9_reached 3 = .ok (.istore_n 3, 1) := by decide +kernel
theorem dX9_reached_4 : decode cX9_reached 4 = .ok (.iconst 0, 1) := by decide +kernel
theorem dX9_reached_5 : decode cX9_reached 5 = .ok (.istore 4, 2) := by decide +kernel
theorem dX9_reached_7 : decode cX9_reached 7 = .ok (.iload 4, 2) := by decide +kernel
theorem dX9_reached_9 : decode cX9_reached 9 = .ok (.iload_n 3, 1) := by decide +kernel
theorem dX9_reached_10 : decode cX9_reached 10 = .ok (.if_icmp .eq 51, 3) := by decide +kernel
theorem dX9_reached_13 : decode cX9_reached 13 = .ok (.iload_n 3, 1) := by decide +kernel
theorem dX9_reached_14 : decode cX9_reached 14 = .ok (.istore 4, 2) := by decide +kernel
theorem dX9_reached_16 : decode cX9_reached 16 = .ok (.iconst 0, 1) := by decide +kernel
theorem dX9_reached_17 : decode cX9_reached 17 = .ok (.istore 5, 2) := by decide +kernel
theorem dX9_reached_19 : decode cX9_reached 19 = .ok (.iload 5, 2) := by decide +kernel
theorem dX9_reached_21 : decode cX9_reached 21 = .ok (.aload_n 0, 1) := by decide +kernel
theorem dX9_reached_22 : decode cX9_reached 22 = .ok (.getfield 131, 3) := by decide +kernel
theorem dX9_reached_25 : decode cX9_reached 25 = .ok (.if_icmp .ge 33, 3) := by decide +kernel
theorem dX9_reached_28 : decode cX9_reached 28 = .ok (.iload_n 3, 1) := by decide +kernel
theorem dX9_reached_29 : decode cX9_reached 29 = .ok (.iload 5, 2) := by decide +kernel
theorem dX9_reached_31 : decode cX9_reached 31 = .ok (.ishr, 1) := by decide +kernel
theorem dX9_reached_32 : decode cX9_reached 32 = .ok (.iconst 1, 1) := by decide +kernel
theorem dX9_reached_33 : decode cX9_reached 33 = .ok (.iand, 1) := by decide +kernel
theorem dX9_reached_34 : decode cX9_reached 34 = .ok (.iconst 1, 1) := by decide +kernel
theorem dX9_reached_35 : decode cX9_reached 35 = .ok (.if_icmp .ne 17, 3) := by decide +kernel
theorem dX9_reached_38 : decode cX9_reached 38 = .ok (.iload_n 3, 1) := by decide +kernel
theorem dX9_reached_39 : decode cX9_reached 39 = .ok (.aload_n 0, 1) := by decide +kernel
theorem dX9_reached_40 : decode cX9_reached 40 = .ok (.getfield 26, 3) := by decide +kernel
theorem dX9_reached_43 : decode cX9_reached 43 = .ok (.iload 5, 2) := by decide +kernel
theorem dX9_reached_45 : decode cX9_reached 45 = .ok (.iaload, 1) := by decide +kernel
theorem dX9_reached_46 : decode cX9_reached 46 = .ok (.iload_n 2, 1) := by decide +kernel
theorem dX9_reached_47 : decode cX9_reached 47 = .ok (.iconst (-1), 1) := by decide +kernel
theorem dX9_reached_48 : decode cX9_reached 48 = .ok (.ixor, 1) := by decide +kernel
theorem dX9_reached_49 : decode cX9_reached 49 = .ok (.iand, 1) := by decide +kernel
theorem dX9_reached_50 : decode cX9_reached 50 = .ok (.ior, 1) := by decide +kernel
theorem dX9_reached_51 : decode cX9_reached 51 = .ok (.istore_n 3, 1) := by decide +kernel
theorem dX9_reached_52 : decode cX9_reached 52 = .ok (.iinc 5 1, 3) := by decide +kernel
theorem dX9_reached_55 : decode cX9_reached 55 = .ok (.goto (-36), 3) := by decide +kernel
theorem dX9_reached_58 : decode cX9_reached 58 = .ok (.goto (-51), 3) := by decide +kernel
theorem dX9_reached_61 : decode cX9_reached 61 = .ok (.iload_n 3, 1) := by decide +kernel
theorem dX9_reached_62 : decode cX9_reached 62 = .ok (.ireturn, 1) := by decide +kernel
theorem dX9_remove_0 : decode cX9_remove 0 = .ok (.iconst 0, 1) := by decide +kernel
theorem dX9_remove_1 : decode cX9_remove 1 = .ok (.istore_n 3, 1) := by decide +kernel
theorem dX9_remove_2 : decode cX9_remove 2 = .ok (.iconst 0, 1) := by decide +kernel
theorem dX9_remove_3 : decode cX9_remove 3 = .ok (.istore 4, 2) := by decide +kernel
theorem dX9_remove_5 : decode cX9_remove 5 = .ok (.iload 4, 2) := by decide +kernel
theorem dX9_remove_7 : decode cX9_remove 7 = .ok (.aload_n 0, 1) := by decide +kernel
theorem dX9_remove_8 : decode cX9_remove 8 = .ok (.getfield 23, 3) := by decide +kernel
theorem dX9_remove_11 : decode cX9_remove 11 = .ok (.iload_n 1, 1) := by decide +kernel
theorem dX9_remove_12 : decode cX9_remove 12 = .ok (.iaload, 1) := by decide +kernel
theorem dX9_remove_13 : decode cX9_remove 13 = .ok (.if_icmp .ge 54, 3) := by decide +kernel
theorem dX9_remove_16 : decode cX9_remove 16 = .ok (.aload_n 0, 1) := by decide +kernel
theorem dX9_remove_17 : decode cX9_remove 17 = .ok (.getfield 20, 3) := by decide +kernel
theorem dX9_remove_20 : decode cX9_remove 20 = .ok (.sipush 160, 3) := by decide +kernel
theorem dX9_remove_23 : decode cX9_remove 23 = .ok (.iload_n 1, 1) := by decide +kernel
theorem dX9_remove_24 : decode cX9_remove 24 = .ok (.imul, 1) := by decide +kernel
theorem dX9_remove_25 : decode cX9_remove 25 = .ok (.iload 4, 2) := by decide +kernel
theorem dX9_remove_27 : decode cX9_remove 27 = .ok (.iadd, 1) := by decide +kernel
theorem dX9_remove_28 : decode cX9_remove 28 = .ok (.iaload, 1) := by decide +kernel
theorem dX9_remove_29 : decode cX9_remove 29 = .ok (.iload_n 2, 1) := by decide +kernel
theorem dX9_remove_30 : decode cX9_remove 30 = .ok (.if_icmp .eq 31, 3) := by decide +kernel
theorem dX9_remove_33 : decode cX9_remove 33 = .ok (.aload_n 0, 1) := by decide +kernel
theorem dX9_remove_34 : decode cX9_remove 34 = .ok (.getfield 20, 3) := by decide +kernel
theorem dX9_remove_37 : decode cX9_remove 37 = .ok (.sipush 160, 3) := by decide +kernel
theorem dX9_remove_40 : decode cX9_remove 40 = .ok (.iload_n 1, 1) := by decide +kernel
theorem dX9_remove_41 : decode cX9_remove 41 = .ok (.imul, 1) := by decide +kernel
theorem dX9_remove_42 : decode cX9_remove 42 = .ok (.iload_n 3, 1) := by decide +kernel
theorem dX9_remove_43 : decode cX9_remove 43 = .ok (.iadd, 1) := by decide +kernel
theorem dX9_remove_44 : decode cX9_remove 44 = .ok (.aload_n 0, 1) := by decide +kernel
theorem dX9_remove_45 : decode cX9_remove 45 = .ok (.getfield 20, 3) := by decide +kernel
theorem dX9_remove_48 : decode cX9_remove 48 = .ok (.sipush 160, 3) := by decide +kernel
theorem dX9_remove_51 : decode cX9_remove 51 = .ok (.iload_n 1, 1) := by decide +kernel
theorem dX9_remove_52 : decode cX9_remove 52 = .ok (.imul, 1) := by decide +kernel
theorem dX9_remove_53 : decode cX9_remove 53 = .ok (.iload 4, 2) := by decide +kernel
theorem dX9_remove_55 : decode cX9_remove 55 = .ok (.iadd, 1) := by decide +kernel
theorem dX9_remove_56 : decode cX9_remove 56 = .ok (.iaload, 1) := by decide +kernel
theorem dX9_remove_57 : decode cX9_remove 57 = .ok (.iastore, 1) := by decide +kernel
theorem dX9_remove_58 : decode cX9_remove 58 = .ok (.iinc 3 1, 3) := by decide +kernel
theorem dX9_remove_61 : decode cX9_remove 61 = .ok (.iinc 4 1, 3) := by decide +kernel
theorem dX9_remove_64 : decode cX9_remove 64 = .ok (.goto (-59), 3) := by decide +kernel
theorem dX9_remove_67 : decode cX9_remove 67 = .ok (.aload_n 0, 1) := by decide +kernel
theorem dX9_remove_68 : decode cX9_remove 68 = .ok (.getfield 23, 3) := by decide +kernel
theorem dX9_remove_71 : decode cX9_remove 71 = .ok (.iload_n 1, 1) := by decide +kernel
theorem dX9_remove_72 : decode cX9_remove 72 = .ok (.iload_n 3, 1) := by decide +kernel
theorem dX9_remove_73 : decode cX9_remove 73 = .ok (.iastore, 1) := by decide +kernel
theorem dX9_remove_74 : decode cX9_remove 74 = .ok (.return_, 1) := by decide +kernel
theorem dX9_rootOf_0 : decode cX9_rootOf 0 = .ok (.iload_n 1, 1) := by decide +kernel
theorem dX9_rootOf_1 : decode cX9_rootOf 1 = .ok (.istore_n 2, 1) := by decide +kernel
theorem dX9_rootOf_2 : decode cX9_rootOf 2 = .ok (.aload_n 0, 1) := by decide +kernel
theorem dX9_rootOf_3 : decode cX9_rootOf 3 = .ok (.getfield 35, 3) := by decide +kernel
theorem dX9_rootOf_6 : decode cX9_rootOf 6 = .ok (.iload_n 2, 1) := by decide +kernel
theorem dX9_rootOf_7 : decode cX9_rootOf 7 = .ok (.iaload, 1) := by decide +kernel
theorem dX9_rootOf_8 : decode cX9_rootOf 8 = .ok (.iload_n 2, 1) := by decide +kernel
theorem dX9_rootOf_9 : decode cX9_rootOf 9 = .ok (.if_icmp .eq 13, 3) := by decide +kernel
theorem dX9_rootOf_12 : decode cX9_rootOf 12 = .ok (.aload_n 0, 1) := by decide +kernel
theorem dX9_rootOf_13 : decode cX9_rootOf 13 = .ok (.getfield 35, 3) := by decide +kernel
theorem dX9_rootOf_16 : decode cX9_rootOf 16 = .ok (.iload_n 2, 1) := by decide +kernel
theorem dX9_rootOf_17 : decode cX9_rootOf 17 = .ok (.iaload, 1) := by decide +kernel
theorem dX9_rootOf_18 : decode cX9_rootOf 18 = .ok (.istore_n 2, 1) := by decide +kernel
theorem dX9_rootOf_19 : decode cX9_rootOf 19 = .ok (.goto (-17), 3) := by decide +kernel
theorem dX9_rootOf_22 : decode cX9_rootOf 22 = .ok (.iload_n 2, 1) := by decide +kernel
theorem dX9_rootOf_23 : decode cX9_rootOf 23 = .ok (.ireturn, 1) := by decide +kernel
theorem dX9_round_10 : decode cX9_round 10 = .ok (.aload_n 0, 1) := by decide +kernel
theorem dX9_round_11 : decode cX9_round 11 = .ok (.invokevirtual 318, 3) := by decide +kernel
theorem dX9_round_14 : decode cX9_round 14 = .ok (.ifCond .ne 6, 3) := by decide +kernel
theorem dX9_round_17 : decode cX9_round 17 = .ok (.bipush (-3), 2) := by decide +kernel
theorem dX9_round_19 : decode cX9_round 19 = .ok (.ireturn, 1) := by decide +kernel
theorem dX9_round_20 : decode cX9_round 20 = .ok (.iload_n 2, 1) := by decide +kernel
theorem dX9_round_21 : decode cX9_round 21 = .ok (.ifCond .lt 27, 3) := by decide +kernel
theorem dX9_round_24 : decode cX9_round 24 = .ok (.iload_n 2, 1) := by decide +kernel
theorem dX9_round_25 : decode cX9_round 25 = .ok (.aload_n 0, 1) := by decide +kernel
theorem dX9_round_26 : decode cX9_round 26 = .ok (.getfield 77, 3) := by decide +kernel
theorem dX9_round_29 : decode cX9_round 29 = .ok (.iload_n 1, 1) := by decide +kernel
theorem dX9_round_30 : decode cX9_round 30 = .ok (.iaload, 1) := by decide +kernel
theorem dX9_round_31 : decode cX9_round 31 = .ok (.if_icmp .ge 17, 3) := by decide +kernel
theorem dX9_round_34 : decode cX9_round 34 = .ok (.aload_n 0, 1) := by decide +kernel
theorem dX9_round_35 : decode cX9_round 35 = .ok (.getfield 74, 3) := by decide +kernel
theorem dX9_round_38 : decode cX9_round 38 = .ok (.bipush 20, 2) := by decide +kernel
theorem dX9_round_40 : decode cX9_round 40 = .ok (.iload_n 1, 1) := by decide +kernel
theorem dX9_round_41 : decode cX9_round 41 = .ok (.imul, 1) := by decide +kernel
theorem dX9_round_42 : decode cX9_round 42 = .ok (.iload_n 2, 1) := by decide +kernel
theorem dX9_round_43 : decode cX9_round 43 = .ok (.iadd, 1) := by decide +kernel
theorem dX9_round_44 : decode cX9_round 44 = .ok (.iaload, 1) := by decide +kernel
theorem dX9_round_45 : decode cX9_round 45 = .ok (.goto 4, 3) := by decide +kernel
theorem dX9_round_48 : decode cX9_round 48 = .ok (.iconst (-1), 1) := by decide +kernel
theorem dX9_round_49 : decode cX9_round 49 = .ok (.ireturn, 1) := by decide +kernel
theorem dX9_side_0 : decode cX9_side 0 = .ok (.aload_n 0, 1) := by decide +kernel
theorem dX9_side_1 : decode cX9_side 1 = .ok (.getfield 86, 3) := by decide +kernel
theorem dX9_side_4 : decode cX9_side 4 = .ok (.iload_n 2, 1) := by decide +kernel
theorem dX9_side_5 : decode cX9_side 5 = .ok (.iaload, 1) := by decide +kernel
theorem dX9_side_6 : decode cX9_side 6 = .ok (.aload_n 0, 1) := by decide +kernel
theorem dX9_side_7 : decode cX9_side 7 = .ok (.getfield 86, 3) := by decide +kernel
theorem dX9_side_10 : decode cX9_side 10 = .ok (.iload_n 1, 1) := by decide +kernel
theorem dX9_side_11 : decode cX9_side 11 = .ok (.iaload, 1) := by decide +kernel
theorem dX9_side_12 : decode cX9_side 12 = .ok (.isub, 1) := by decide +kernel
theorem dX9_side_13 : decode cX9_side 13 = .ok (.aload_n 0, 1) := by decide +kernel
theorem dX9_side_14 : decode cX9_side 14 = .ok (.getfield 89, 3) := by decide +kernel
theorem dX9_side_17 : decode cX9_side 17 = .ok (.iload_n 3, 1) := by decide +kernel
theorem dX9_side_18 : decode cX9_side 18 = .ok (.iaload, 1) := by decide +kernel
theorem dX9_side_19 : decode cX9_side 19 = .ok (.aload_n 0, 1) := by decide +kernel
theorem dX9_side_20 : decode cX9_side 20 = .ok (.getfield 89, 3) := by decide +kernel
theorem dX9_side_23 : decode cX9_side 23 = .ok (.iload_n 1, 1) := by decide +kernel
theorem dX9_side_24 : decode cX9_side 24 = .ok (.iaload, 1) := by decide +kernel
theorem dX9_side_25 : decode cX9_side 25 = .ok (.isub, 1) := by decide +kernel
theorem dX9_side_26 : decode cX9_side 26 = .ok (.imul, 1) := by decide +kernel
theorem dX9_side_27 : decode cX9_side 27 = .ok (.aload_n 0, 1) := by decide +kernel
theorem dX9_side_28 : decode cX9_side 28 = .ok (.getfield 89, 3) := by decide +kernel
theorem dX9_side_31 : decode cX9_side 31 = .ok (.iload_n 2, 1) := by decide +kernel
theorem dX9_side_32 : decode cX9_side 32 = .ok (.iaload, 1) := by decide +kernel
theorem dX9_side_33 : decode cX9_side 33 = .ok (.aload_n 0, 1) := by decide +kernel
theorem dX9_side_34 : decode cX9_side 34 = .ok (.getfield 89, 3) := by decide +kernel
theorem dX9_side_37 : decode cX9_side 37 = .ok (.iload_n 1, 1) := by decide +kernel
theorem dX9_side_38 : decode cX9_side 38 = .ok (.iaload, 1) := by decide +kernel
theorem dX9_side_39 : decode cX9_side 39 = .ok (.isub, 1) := by decide +kernel
theorem dX9_side_40 : decode cX9_side 40 = .ok (.aload_n 0, 1) := by decide +kernel
theorem dX9_side_41 : decode cX9_side 41 = .ok (.getfield 86, 3) := by decide +kernel
