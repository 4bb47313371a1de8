/-! words of the tables, and the decoded instructions of the methods walked here (written by program) -/
theorem wm_0 : Cond.methodLink RX8 3 objectInit ∈ xW := xW_at 112 (by decide +kernel) rfl
theorem wm_1 : Cond.instanceMethod objectInit ∈ xW := xW_at 113 (by decide +kernel) rfl
theorem wm_2 : Cond.code objectInit ⟨#[0xb1]⟩ 1 none ∈ xW := xW_at 114 (by decide +kernel) rfl
theorem wm_3 : Cond.classLink RX8 9 RX3 ∈ xW := xW_at 115 (by decide +kernel) rfl
theorem wm_4 : Cond.instantiable RX3 6 ∈ xW := xW_at 116 (by decide +kernel) rfl
theorem wm_5 : Cond.initialized RX3 ∈ xW := xW_at 94 (by decide +kernel) rfl
theorem wm_6 : Cond.methodLink RX3 3 objectInit ∈ xW := xW_at 120 (by decide +kernel) rfl
theorem wm_7 : Cond.arrayClass .int ∈ xW := xW_at 148 (by decide +kernel) rfl
theorem wm_8 : Cond.fieldLink RX3 9 RX3 "at" "[I" ∈ xW := xW_at 121 (by decide +kernel) rfl
theorem wm_9 : Cond.arrayClass .boolean ∈ xW := xW_at 149 (by decide +kernel) rfl
theorem wm_10 : Cond.fieldLink RX3 15 RX3 "there" "[Z" ∈ xW := xW_at 124 (by decide +kernel) rfl
theorem wm_11 : Cond.fieldLink RX3 19 RX3 "joined" "[I" ∈ xW := xW_at 125 (by decide +kernel) rfl
theorem wm_12 : Cond.code yX3_init cX3_init 1 none ∈ xW := xW_at 119 (by decide +kernel) rfl
theorem wm_13 : Cond.instanceMethod yX3_init ∈ xW := xW_at 118 (by decide +kernel) rfl
theorem wm_14 : Cond.fieldLink RX8 12 RX8 "graph" "LPlaneTests$Graph;" ∈ xW := xW_at 340 (by decide +kernel) rfl
theorem wm_15 : Cond.classLink RX8 16 RX7 ∈ xW := xW_at 150 (by decide +kernel) rfl
theorem wm_16 : Cond.instantiable RX7 3 ∈ xW := xW_at 151 (by decide +kernel) rfl
theorem wm_17 : Cond.initialized RX7 ∈ xW := xW_at 95 (by decide +kernel) rfl
theorem wm_18 : Cond.methodLink RX7 3 objectInit ∈ xW := xW_at 155 (by decide +kernel) rfl
theorem wm_19 : Cond.fieldLink RX7 9 RX7 "ends" "[I" ∈ xW := xW_at 156 (by decide +kernel) rfl
theorem wm_20 : Cond.fieldLink RX7 15 RX7 "start" "[I" ∈ xW := xW_at 157 (by decide +kernel) rfl
theorem wm_21 : Cond.code yX7_init cX7_init 1 none ∈ xW := xW_at 154 (by decide +kernel) rfl
theorem wm_22 : Cond.instanceMethod yX7_init ∈ xW := xW_at 153 (by decide +kernel) rfl
theorem wm_23 : Cond.fieldLink RX8 19 RX8 "toldRows" "LPlaneTests$Rows;" ∈ xW := xW_at 341 (by decide +kernel) rfl
theorem wm_24 : Cond.fieldLink RX8 23 RX8 "otherJoined" "[I" ∈ xW := xW_at 342 (by decide +kernel) rfl
theorem wm_25 : Cond.classLink RX8 27 RX5 ∈ xW := xW_at 168 (by decide +kernel) rfl
theorem wm_26 : Cond.instantiable RX5 12 ∈ xW := xW_at 169 (by decide +kernel) rfl
theorem wm_27 : Cond.initialized RX5 ∈ xW := xW_at 96 (by decide +kernel) rfl
theorem wm_28 : Cond.methodLink RX5 3 objectInit ∈ xW := xW_at 173 (by decide +kernel) rfl
theorem wm_29 : Cond.fieldLink RX5 9 RX5 "height" "[I" ∈ xW := xW_at 174 (by decide +kernel) rfl
theorem wm_30 : Cond.fieldLink RX5 15 RX5 "parent" "[I" ∈ xW := xW_at 175 (by decide +kernel) rfl
theorem wm_31 : Cond.fieldLink RX5 18 RX5 "open" "[I" ∈ xW := xW_at 176 (by decide +kernel) rfl
theorem wm_32 : Cond.arrayClass .long ∈ xW := xW_at 211 (by decide +kernel) rfl
theorem wm_33 : Cond.fieldLink RX5 21 RX5 "own" "[J" ∈ xW := xW_at 177 (by decide +kernel) rfl
theorem wm_34 : Cond.fieldLink RX5 25 RX5 "under" "[J" ∈ xW := xW_at 178 (by decide +kernel) rfl
theorem wm_35 : Cond.fieldLink RX5 28 RX5 "lower" "[J" ∈ xW := xW_at 179 (by decide +kernel) rfl
theorem wm_36 : Cond.fieldLink RX5 31 RX5 "leading" "[J" ∈ xW := xW_at 180 (by decide +kernel) rfl
theorem wm_37 : Cond.fieldLink RX5 34 RX5 "lowEnd" "[I" ∈ xW := xW_at 181 (by decide +kernel) rfl
theorem wm_38 : Cond.fieldLink RX5 37 RX5 "oneSide" "[J" ∈ xW := xW_at 182 (by decide +kernel) rfl
theorem wm_39 : Cond.fieldLink RX5 40 RX5 "otherSide" "[J" ∈ xW := xW_at 183 (by decide +kernel) rfl
theorem wm_40 : Cond.code yX5_init cX5_init 1 none ∈ xW := xW_at 172 (by decide +kernel) rfl
theorem wm_41 : Cond.instanceMethod yX5_init ∈ xW := xW_at 171 (by decide +kernel) rfl
theorem wm_42 : Cond.fieldLink RX8 30 RX8 "check" "LPlaneTests$PlaneCheck;" ∈ xW := xW_at 343 (by decide +kernel) rfl
theorem wm_43 : Cond.classLink RX8 34 RX2 ∈ xW := xW_at 212 (by decide +kernel) rfl
theorem wm_44 : Cond.instantiable RX2 3 ∈ xW := xW_at 213 (by decide +kernel) rfl
theorem wm_45 : Cond.initialized RX2 ∈ xW := xW_at 97 (by decide +kernel) rfl
theorem wm_46 : Cond.methodLink RX2 3 objectInit ∈ xW := xW_at 217 (by decide +kernel) rfl
theorem wm_47 : Cond.fieldLink RX2 9 RX2 "base" "[I" ∈ xW := xW_at 218 (by decide +kernel) rfl
theorem wm_48 : Cond.fieldLink RX2 15 RX2 "joined" "[I" ∈ xW := xW_at 219 (by decide +kernel) rfl
theorem wm_49 : Cond.fieldLink RX2 18 RX2 "nodes" "I" ∈ xW := xW_at 223 (by decide +kernel) rfl
theorem wm_50 : Cond.code yX2_init cX2_init 1 none ∈ xW := xW_at 216 (by decide +kernel) rfl
theorem wm_51 : Cond.instanceMethod yX2_init ∈ xW := xW_at 215 (by decide +kernel) rfl
theorem wm_52 : Cond.fieldLink RX8 37 RX8 "filled" "LPlaneTests$Filled;" ∈ xW := xW_at 344 (by decide +kernel) rfl
theorem wm_53 : Cond.classLink RX8 41 RX6 ∈ xW := xW_at 233 (by decide +kernel) rfl
theorem wm_54 : Cond.instantiable RX6 3 ∈ xW := xW_at 234 (by decide +kernel) rfl
theorem wm_55 : Cond.initialized RX6 ∈ xW := xW_at 98 (by decide +kernel) rfl
theorem wm_56 : Cond.methodLink RX6 3 objectInit ∈ xW := xW_at 238 (by decide +kernel) rfl
theorem wm_57 : Cond.fieldLink RX6 9 RX6 "thirds" "[I" ∈ xW := xW_at 240 (by decide +kernel) rfl
theorem wm_58 : Cond.fieldLink RX6 15 RX6 "order" "[I" ∈ xW := xW_at 241 (by decide +kernel) rfl
theorem wm_59 : Cond.fieldLink RX6 18 RX6 "filled" "LPlaneTests$Filled;" ∈ xW := xW_at 239 (by decide +kernel) rfl
theorem wm_60 : Cond.code yX6_init cX6_init 2 none ∈ xW := xW_at 237 (by decide +kernel) rfl
theorem wm_61 : Cond.methodLink RX8 43 yX6_init ∈ xW := xW_at 235 (by decide +kernel) rfl
theorem wm_62 : Cond.instanceMethod yX6_init ∈ xW := xW_at 236 (by decide +kernel) rfl
theorem wm_63 : Cond.fieldLink RX8 46 RX8 "ring" "LPlaneTests$Round;" ∈ xW := xW_at 345 (by decide +kernel) rfl
theorem wm_64 : Cond.fieldLink RX8 50 RX8 "turns" "LPlaneTests$Rows;" ∈ xW := xW_at 346 (by decide +kernel) rfl
theorem wm_65 : Cond.classLink RX8 53 RX1 ∈ xW := xW_at 249 (by decide +kernel) rfl
theorem wm_66 : Cond.instantiable RX1 3 ∈ xW := xW_at 250 (by decide +kernel) rfl
theorem wm_67 : Cond.initialized RX1 ∈ xW := xW_at 99 (by decide +kernel) rfl
theorem wm_68 : Cond.methodLink RX1 3 objectInit ∈ xW := xW_at 254 (by decide +kernel) rfl
theorem wm_69 : Cond.classLink RX1 9 RX7 ∈ xW := xW_at 255 (by decide +kernel) rfl
theorem wm_70 : Cond.fieldLink RX1 12 RX1 "rows" "LPlaneTests$Rows;" ∈ xW := xW_at 257 (by decide +kernel) rfl
theorem wm_71 : Cond.fieldLink RX1 18 RX1 "faceOf" "[I" ∈ xW := xW_at 259 (by decide +kernel) rfl
theorem wm_72 : Cond.fieldLink RX1 22 RX1 "behind" "[I" ∈ xW := xW_at 261 (by decide +kernel) rfl
theorem wm_73 : Cond.code yX1_init cX1_init 1 none ∈ xW := xW_at 253 (by decide +kernel) rfl
theorem wm_74 : Cond.instanceMethod yX1_init ∈ xW := xW_at 252 (by decide +kernel) rfl
theorem wm_75 : Cond.fieldLink RX8 56 RX8 "turnFaces" "LPlaneTests$Faces;" ∈ xW := xW_at 347 (by decide +kernel) rfl
theorem wm_76 : Cond.fieldLink RX8 60 RX8 "otherFaces" "LPlaneTests$Faces;" ∈ xW := xW_at 348 (by decide +kernel) rfl
theorem wm_77 : Cond.classLink RX8 63 RX0 ∈ xW := xW_at 269 (by decide +kernel) rfl
theorem wm_78 : Cond.instantiable RX0 15 ∈ xW := xW_at 270 (by decide +kernel) rfl
theorem wm_79 : Cond.initialized RX0 ∈ xW := xW_at 100 (by decide +kernel) rfl
theorem wm_80 : Cond.methodLink RX0 3 objectInit ∈ xW := xW_at 274 (by decide +kernel) rfl
theorem wm_81 : Cond.fieldLink RX0 9 RX0 "x" "[I" ∈ xW := xW_at 277 (by decide +kernel) rfl
theorem wm_82 : Cond.fieldLink RX0 15 RX0 "y" "[I" ∈ xW := xW_at 279 (by decide +kernel) rfl
theorem wm_83 : Cond.fieldLink RX0 18 RX0 "toA" "[I" ∈ xW := xW_at 281 (by decide +kernel) rfl
theorem wm_84 : Cond.fieldLink RX0 21 RX0 "toB" "[I" ∈ xW := xW_at 282 (by decide +kernel) rfl
theorem wm_85 : Cond.fieldLink RX0 24 RX0 "toC" "[I" ∈ xW := xW_at 283 (by decide +kernel) rfl
theorem wm_86 : Cond.fieldLink RX0 27 RX0 "rimToA" "[I" ∈ xW := xW_at 284 (by decide +kernel) rfl
theorem wm_87 : Cond.fieldLink RX0 30 RX0 "rimToB" "[I" ∈ xW := xW_at 285 (by decide +kernel) rfl
theorem wm_88 : Cond.fieldLink RX0 33 RX0 "overA" "[I" ∈ xW := xW_at 286 (by decide +kernel) rfl
theorem wm_89 : Cond.fieldLink RX0 36 RX0 "overB" "[I" ∈ xW := xW_at 287 (by decide +kernel) rfl
theorem wm_90 : Cond.fieldLink RX0 39 RX0 "filled" "LPlaneTests$Filled;" ∈ xW := xW_at 275 (by decide +kernel) rfl
theorem wm_91 : Cond.fieldLink RX0 43 RX0 "ring" "LPlaneTests$Round;" ∈ xW := xW_at 276 (by decide +kernel) rfl
theorem wm_92 : Cond.code yX0_init cX0_init 3 none ∈ xW := xW_at 273 (by decide +kernel) rfl
theorem wm_93 : Cond.methodLink RX8 65 yX0_init ∈ xW := xW_at 271 (by decide +kernel) rfl
theorem wm_94 : Cond.instanceMethod yX0_init ∈ xW := xW_at 272 (by decide +kernel) rfl
theorem wm_95 : Cond.fieldLink RX8 68 RX8 "drawing" "LPlaneTests$Drawing;" ∈ xW := xW_at 349 (by decide +kernel) rfl
theorem wm_96 : Cond.classLink RX8 72 RX4 ∈ xW := xW_at 323 (by decide +kernel) rfl
theorem wm_97 : Cond.instantiable RX4 3 ∈ xW := xW_at 324 (by decide +kernel) rfl
theorem wm_98 : Cond.initialized RX4 ∈ xW := xW_at 101 (by decide +kernel) rfl
theorem wm_99 : Cond.methodLink RX4 3 objectInit ∈ xW := xW_at 328 (by decide +kernel) rfl
theorem wm_100 : Cond.fieldLink RX4 9 RX4 "kept" "[Z" ∈ xW := xW_at 330 (by decide +kernel) rfl
theorem wm_101 : Cond.fieldLink RX4 15 RX4 "endCount" "[I" ∈ xW := xW_at 332 (by decide +kernel) rfl
theorem wm_102 : Cond.fieldLink RX4 19 RX4 "graph" "LPlaneTests$Graph;" ∈ xW := xW_at 329 (by decide +kernel) rfl
theorem wm_103 : Cond.code yX4_init cX4_init 2 none ∈ xW := xW_at 327 (by decide +kernel) rfl
theorem wm_104 : Cond.methodLink RX8 74 yX4_init ∈ xW := xW_at 325 (by decide +kernel) rfl
theorem wm_105 : Cond.instanceMethod yX4_init ∈ xW := xW_at 326 (by decide +kernel) rfl
theorem wm_106 : Cond.fieldLink RX8 77 RX8 "barredPiece" "LPlaneTests$Piece;" ∈ xW := xW_at 350 (by decide +kernel) rfl
theorem wm_107 : Cond.methodLink RX9 1 objectInit ∈ xW := xW_at 864 (by decide +kernel) rfl
theorem wm_108 : Cond.fieldLink RX9 7 RX9 "from" "[I" ∈ xW := xW_at 867 (by decide +kernel) rfl
theorem wm_109 : Cond.fieldLink RX9 13 RX9 "to" "[I" ∈ xW := xW_at 868 (by decide +kernel) rfl
theorem wm_110 : Cond.fieldLink RX9 16 RX9 "alive" "[Z" ∈ xW := xW_at 869 (by decide +kernel) rfl
theorem wm_111 : Cond.fieldLink RX9 20 RX9 "row" "[I" ∈ xW := xW_at 870 (by decide +kernel) rfl
theorem wm_112 : Cond.fieldLink RX9 23 RX9 "rowSize" "[I" ∈ xW := xW_at 871 (by decide +kernel) rfl
theorem wm_113 : Cond.fieldLink RX9 26 RX9 "g" "[I" ∈ xW := xW_at 873 (by decide +kernel) rfl
theorem wm_114 : Cond.fieldLink RX9 29 RX9 "edgeA" "[I" ∈ xW := xW_at 875 (by decide +kernel) rfl
theorem wm_115 : Cond.fieldLink RX9 32 RX9 "edgeB" "[I" ∈ xW := xW_at 876 (by decide +kernel) rfl
theorem wm_116 : Cond.fieldLink RX9 35 RX9 "edgeOf" "[I" ∈ xW := xW_at 877 (by decide +kernel) rfl
theorem wm_117 : Cond.fieldLink RX9 38 RX9 "block" "[I" ∈ xW := xW_at 879 (by decide +kernel) rfl
theorem wm_118 : Cond.fieldLink RX9 41 RX9 "inH" "[I" ∈ xW := xW_at 880 (by decide +kernel) rfl
theorem wm_119 : Cond.fieldLink RX9 44 RX9 "face" "[I" ∈ xW := xW_at 882 (by decide +kernel) rfl
theorem wm_120 : Cond.fieldLink RX9 47 RX9 "faceSize" "[I" ∈ xW := xW_at 883 (by decide +kernel) rfl
theorem wm_121 : Cond.fieldLink RX9 50 RX9 "faceBits" "[I" ∈ xW := xW_at 884 (by decide +kernel) rfl
theorem wm_122 : Cond.fieldLink RX9 53 RX9 "path" "[I" ∈ xW := xW_at 886 (by decide +kernel) rfl
theorem wm_123 : Cond.fieldLink RX9 56 RX9 "before" "[I" ∈ xW := xW_at 888 (by decide +kernel) rfl
theorem wm_124 : Cond.fieldLink RX9 59 RX9 "queue" "[I" ∈ xW := xW_at 889 (by decide +kernel) rfl
theorem wm_125 : Cond.fieldLink RX9 62 RX9 "old" "[I" ∈ xW := xW_at 893 (by decide +kernel) rfl
theorem wm_126 : Cond.fieldLink RX9 65 RX9 "simple" "[I" ∈ xW := xW_at 895 (by decide +kernel) rfl
theorem wm_127 : Cond.fieldLink RX9 68 RX9 "filled" "[I" ∈ xW := xW_at 896 (by decide +kernel) rfl
theorem wm_128 : Cond.fieldLink RX9 71 RX9 "follows" "[I" ∈ xW := xW_at 897 (by decide +kernel) rfl
theorem wm_129 : Cond.fieldLink RX9 74 RX9 "around" "[I" ∈ xW := xW_at 898 (by decide +kernel) rfl
theorem wm_130 : Cond.fieldLink RX9 77 RX9 "aroundSize" "[I" ∈ xW := xW_at 899 (by decide +kernel) rfl
theorem wm_131 : Cond.fieldLink RX9 80 RX9 "turns" "[I" ∈ xW := xW_at 900 (by decide +kernel) rfl
theorem wm_132 : Cond.fieldLink RX9 83 RX9 "turnSize" "[I" ∈ xW := xW_at 901 (by decide +kernel) rfl
theorem wm_133 : Cond.fieldLink RX9 86 RX9 "xOf" "[I" ∈ xW := xW_at 902 (by decide +kernel) rfl
theorem wm_134 : Cond.fieldLink RX9 89 RX9 "yOf" "[I" ∈ xW := xW_at 903 (by decide +kernel) rfl
theorem wm_135 : Cond.fieldLink RX9 92 RX9 "inPiece" "[Z" ∈ xW := xW_at 904 (by decide +kernel) rfl
theorem wm_136 : Cond.fieldLink RX9 95 RX9 "pieceEnds" "[I" ∈ xW := xW_at 905 (by decide +kernel) rfl
theorem wm_137 : Cond.fieldLink RX9 98 RX9 "left" "[I" ∈ xW := xW_at 906 (by decide +kernel) rfl
theorem wm_138 : Cond.fieldLink RX9 101 RX9 "right" "[I" ∈ xW := xW_at 907 (by decide +kernel) rfl
theorem wm_139 : Cond.fieldLink RX9 104 RX9 "up" "[I" ∈ xW := xW_at 908 (by decide +kernel) rfl
theorem wm_140 : Cond.fieldLink RX9 107 RX9 "rim" "[I" ∈ xW := xW_at 909 (by decide +kernel) rfl
theorem wm_141 : Cond.fieldLink RX9 110 RX9 "fresh" "[I" ∈ xW := xW_at 915 (by decide +kernel) rfl
theorem wm_142 : Cond.fieldLink RX9 113 RX9 "isWall" "[Z" ∈ xW := xW_at 916 (by decide +kernel) rfl
theorem wm_143 : Cond.fieldLink RX9 116 RX9 "isOut" "[Z" ∈ xW := xW_at 917 (by decide +kernel) rfl
theorem wm_144 : Cond.fieldLink RX9 119 RX9 "roundEnd" "[I" ∈ xW := xW_at 918 (by decide +kernel) rfl
theorem wm_145 : Cond.fieldLink RX9 122 RX9 "roundBegin" "[I" ∈ xW := xW_at 919 (by decide +kernel) rfl
theorem wm_146 : Cond.fieldLink RX9 125 RX9 "roundOf" "[I" ∈ xW := xW_at 920 (by decide +kernel) rfl
theorem wm_147 : Cond.fieldLink RX9 128 RX9 "seen" "[Z" ∈ xW := xW_at 922 (by decide +kernel) rfl
theorem dX0_init_0 : decode cX0_init 0 = .ok (.aload_n 0, 1) := by decide +kernel
theorem dX0_init_1 : decode cX0_init 1 = .ok (.invokespecial 3, 3) := by decide +kernel
theorem dX0_init_4 : decode cX0_init 4 = .ok (.aload_n 0, 1) := by decide +kernel
theorem dX0_init_5 : decode cX0_init 5 = .ok (.bipush 20, 2) := by decide +kernel
theorem dX0_init_7 : decode cX0_init 7 = .ok (.newarray .int, 2) := by decide +kernel
theorem dX0_init_9 : decode cX0_init 9 = .ok (.putfield 9, 3) := by decide +kernel
theorem dX0_init_12 : decode cX0_init 12 = .ok (.aload_n 0, 1) := by decide +kernel
theorem dX0_init_13 : decode cX0_init 13 = .ok (.bipush 20, 2) := by decide +kernel
theorem dX0_init_15 : decode cX0_init 15 = .ok (.newarray .int, 2) := by decide +kernel
theorem dX0_init_17 : decode cX0_init 17 = .ok (.putfield 15, 3) := by decide +kernel
theorem dX0_init_20 : decode cX0_init 20 = .ok (.aload_n 0, 1) := by decide +kernel
theorem dX0_init_21 : decode cX0_init 21 = .ok (.bipush 20, 2) := by decide +kernel
theorem dX0_init_23 : decode cX0_init 23 = .ok (.newarray .int, 2) := by decide +kernel
theorem dX0_init_25 : decode cX0_init 25 = .ok (.putfield 18, 3) := by decide +kernel
theorem dX0_init_28 : decode cX0_init 28 = .ok (.aload_n 0, 1) := by decide +kernel
theorem dX0_init_29 : decode cX0_init 29 = .ok (.bipush 20, 2) := by decide +kernel
theorem dX0_init_31 : decode cX0_init 31 = .ok (.newarray .int, 2) := by decide +kernel
theorem dX0_init_33 : decode cX0_init 33 = .ok (.putfield 21, 3) := by decide +kernel
theorem dX0_init_36 : decode cX0_init 36 = .ok (.aload_n 0, 1) := by decide +kernel
theorem dX0_init_37 : decode cX0_init 37 = .ok (.bipush 20, 2) := by decide +kernel
theorem dX0_init_39 : decode cX0_init 39 = .ok (.newarray .int, 2) := by decide +kernel
theorem dX0_init_41 : decode cX0_init 41 = .ok (.putfield 24, 3) := by decide +kernel
theorem dX0_init_44 : decode cX0_init 44 = .ok (.aload_n 0, 1) := by decide +kernel
theorem dX0_init_45 : decode cX0_init 45 = .ok (.bipush 20, 2) := by decide +kernel
theorem dX0_init_47 : decode cX0_init 47 = .ok (.newarray .int, 2) := by decide +kernel
theorem dX0_init_49 : decode cX0_init 49 = .ok (.putfield 27, 3) := by decide +kernel
theorem dX0_init_52 : decode cX0_init 52 = .ok (.aload_n 0, 1) := by decide +kernel
theorem dX0_init_53 : decode cX0_init 53 = .ok (.bipush 20, 2) := by decide +kernel
theorem dX0_init_55 : decode cX0_init 55 = .ok (.newarray .int, 2) := by decide +kernel
theorem dX0_init_57 : decode cX0_init 57 = .ok (.putfield 30, 3) := by decide +kernel
theorem dX0_init_60 : decode cX0_init 60 = .ok (.aload_n 0, 1) := by decide +kernel
theorem dX0_init_61 : decode cX0_init 61 = .ok (.bipush 20, 2) := by decide +kernel
theorem dX0_init_63 : decode cX0_init 63 = .ok (.newarray .int, 2) := by decide +kernel
theorem dX0_init_65 : decode cX0_init 65 = .ok (.putfield 33, 3) := by decide +kernel
theorem dX0_init_68 : decode cX0_init 68 = .ok (.aload_n 0, 1) := by decide +kernel
theorem dX0_init_69 : decode cX0_init 69 = .ok (.bipush 20, 2) := by decide +kernel
theorem dX0_init_71 : decode cX0_init 71 = .ok (.newarray .int, 2) := by decide +kernel
theorem dX0_init_73 : decode cX0_init 73 = .ok (.putfield 36, 3) := by decide +kernel
theorem dX0_init_76 : decode cX0_init 76 = .ok (.aload_n 0, 1) := by decide +kernel
theorem dX0_init_77 : decode cX0_init 77 = .ok (.aload_n 1, 1) := by decide +kernel
theorem dX0_init_78 : decode cX0_init 78 = .ok (.putfield 39, 3) := by decide +kernel
theorem dX0_init_81 : decode cX0_init 81 = .ok (.aload_n 0, 1) := by decide +kernel
theorem dX0_init_82 : decode cX0_init 82 = .ok (.aload_n 2, 1) := by decide +kernel
theorem dX0_init_83 : decode cX0_init 83 = .ok (.putfield 43, 3) := by decide +kernel
theorem dX0_init_86 : decode cX0_init 86 = .ok (.return_, 1) := by decide +kernel
theorem dX1_init_0 : decode cX1_init 0 = .ok (.aload_n 0, 1) := by decide +kernel
theorem dX1_init_1 : decode cX1_init 1 = .ok (.invokespecial 3, 3) := by decide +kernel
theorem dX1_init_4 : decode cX1_init 4 = .ok (.aload_n 0, 1) := by decide +kernel
theorem dX1_init_5 : decode cX1_init 5 = .ok (.new 9, 3) := by decide +kernel
theorem dX1_init_8 : decode cX1_init 8 = .ok (.dup, 1) := by decide +kernel
theorem dX1_init_9 : decode cX1_init 9 = .ok (.invokespecial 11, 3) := by decide +kernel
theorem dX1_init_12 : decode cX1_init 12 = .ok (.putfield 12, 3) := by decide +kernel
theorem dX1_init_15 : decode cX1_init 15 = .ok (.aload_n 0, 1) := by decide +kernel
theorem dX1_init_16 : decode cX1_init 16 = .ok (.sipush 160, 3) := by decide +kernel
theorem dX1_init_19 : decode cX1_init 19 = .ok (.newarray .int, 2) := by decide +kernel
theorem dX1_init_21 : decode cX1_init 21 = .ok (.putfield 18, 3) := by decide +kernel
theorem dX1_init_24 : decode cX1_init 24 = .ok (.aload_n 0, 1) := by decide +kernel
theorem dX1_init_25 : decode cX1_init 25 = .ok (.sipush 160, 3) := by decide +kernel
theorem dX1_init_28 : decode cX1_init 28 = .ok (.newarray .int, 2) := by decide +kernel
theorem dX1_init_30 : decode cX1_init 30 = .ok (.putfield 22, 3) := by decide +kernel
theorem dX1_init_33 : decode cX1_init 33 = .ok (.return_, 1) := by decide +kernel
theorem dX2_init_0 : decode cX2_init 0 = .ok (.aload_n 0, 1) := by decide +kernel
theorem dX2_init_1 : decode cX2_init 1 = .ok (.invokespecial 3, 3) := by decide +kernel
theorem dX2_init_4 : decode cX2_init 4 = .ok (.aload_n 0, 1) := by decide +kernel
theorem dX2_init_5 : decode cX2_init 5 = .ok (.bipush 20, 2) := by decide +kernel
theorem dX2_init_7 : decode cX2_init 7 = .ok (.newarray .int, 2) := by decide +kernel
theorem dX2_init_9 : decode cX2_init 9 = .ok (.putfield 9, 3) := by decide +kernel
theorem dX2_init_12 : decode cX2_init 12 = .ok (.aload_n 0, 1) := by decide +kernel
theorem dX2_init_13 : decode cX2_init 13 = .ok (.bipush 20, 2) := by decide +kernel
theorem dX2_init_15 : decode cX2_init 15 = .ok (.newarray .int, 2) := by decide +kernel
theorem dX2_init_17 : decode cX2_init 17 = .ok (.putfield 15, 3) := by decide +kernel
theorem dX2_init_20 : decode cX2_init 20 = .ok (.aload_n 0, 1) := by decide +kernel
theorem dX2_init_21 : decode cX2_init 21 = .ok (.iconst (-1), 1) := by decide +kernel
theorem dX2_init_22 : decode cX2_init 22 = .ok (.putfield 18, 3) := by decide +kernel
theorem dX2_init_25 : decode cX2_init 25 = .ok (.return_, 1) := by decide +kernel
theorem dX3_init_0 : decode cX3_init 0 = .ok (.aload_n 0, 1) := by decide +kernel
theorem dX3_init_1 : decode cX3_init 1 = .ok (.invokespecial 3, 3) := by decide +kernel
theorem dX3_init_4 : decode cX3_init 4 = .ok (.aload_n 0, 1) := by decide +kernel
theorem dX3_init_5 : decode cX3_init 5 = .ok (.sipush 160, 3) := by decide +kernel
theorem dX3_init_8 : decode cX3_init 8 = .ok (.newarray .int, 2) := by decide +kernel
theorem dX3_init_10 : decode cX3_init 10 = .ok (.putfield 9, 3) := by decide +kernel
theorem dX3_init_13 : decode cX3_init 13 = .ok (.aload_n 0, 1) := by decide +kernel
theorem dX3_init_14 : decode cX3_init 14 = .ok (.bipush 80, 2) := by decide +kernel
theorem dX3_init_16 : decode cX3_init 16 = .ok (.newarray .boolean, 2) := by decide +kernel
theorem dX3_init_18 : decode cX3_init 18 = .ok (.putfield 15, 3) := by decide +kernel
theorem dX3_init_21 : decode cX3_init 21 = .ok (.aload_n 0, 1) := by decide +kernel
theorem dX3_init_22 : decode cX3_init 22 = .ok (.bipush 20, 2) := by decide +kernel
theorem dX3_init_24 : decode cX3_init 24 = .ok (.newarray .int, 2) := by decide +kernel
theorem dX3_init_26 : decode cX3_init 26 = .ok (.putfield 19, 3) := by decide +kernel
theorem dX3_init_29 : decode cX3_init 29 = .ok (.return_, 1) := by decide +kernel
theorem dX4_init_0 : decode cX4_init 0 = .ok (.aload_n 0, 1) := by decide +kernel
theorem dX4_init_1 : decode cX4_init 1 = .ok (.invokespecial 3, 3) := by decide +kernel
theorem dX4_init_4 : decode cX4_init 4 = .ok (.aload_n 0, 1) := by decide +kernel
theorem dX4_init_5 : decode cX4_init 5 = .ok (.bipush 80, 2) := by decide +kernel
theorem dX4_init_7 : decode cX4_init 7 = .ok (.newarray .boolean, 2) := by decide +kernel
theorem dX4_init_9 : decode cX4_init 9 = .ok (.putfield 9, 3) := by decide +kernel
theorem dX4_init_12 : decode cX4_init 12 = .ok (.aload_n 0, 1) := by decide +kernel
theorem dX4_init_13 : decode cX4_init 13 = .ok (.bipush 20, 2) := by decide +kernel
theorem dX4_init_15 : decode cX4_init 15 = .ok (.newarray .int, 2) := by decide +kernel
theorem dX4_init_17 : decode cX4_init 17 = .ok (.putfield 15, 3) := by decide +kernel
theorem dX4_init_20 : decode cX4_init 20 = .ok (.aload_n 0, 1) := by decide +kernel
theorem dX4_init_21 : decode cX4_init 21 = .ok (.aload_n 1, 1) := by decide +kernel
theorem dX4_init_22 : decode cX4_init 22 = .ok (.putfield 19, 3) := by decide +kernel
theorem dX4_init_25 : decode cX4_init 25 = .ok (.return_, 1) := by decide +kernel
theorem dX5_init_0 : decode cX5_init 0 = .ok (.aload_n 0, 1) := by decide +kernel
theorem dX5_init_1 : decode cX5_init 1 = .ok (.invokespecial 3, 3) := by decide +kernel
theorem dX5_init_4 : decode cX5_init 4 = .ok (.aload_n 0, 1) := by decide +kernel
theorem dX5_init_5 : decode cX5_init 5 = .ok (.bipush 21, 2) := by decide +kernel
theorem dX5_init_7 : decode cX5_init 7 = .ok (.newarray .int, 2) := by decide +kernel
theorem dX5_init_9 : decode cX5_init 9 = .ok (.putfield 9, 3) := by decide +kernel
theorem dX5_init_12 : decode cX5_init 12 = .ok (.aload_n 0, 1) := by decide +kernel
theorem dX5_init_13 : decode cX5_init 13 = .ok (.bipush 21, 2) := by decide +kernel
theorem dX5_init_15 : decode cX5_init 15 = .ok (.newarray .int, 2) := by decide +kernel
theorem dX5_init_17 : decode cX5_init 17 = .ok (.putfield 15, 3) := by decide +kernel
theorem dX5_init_20 : decode cX5_init 20 = .ok (.aload_n 0, 1) := by decide +kernel
theorem dX5_init_21 : decode cX5_init 21 = .ok (.bipush 21, 2) := by decide +kernel
theorem dX5_init_23 : decode cX5_init 23 = .ok (.newarray .int, 2) := by decide +kernel
theorem dX5_init_25 : decode cX5_init 25 = .ok (.putfield 18, 3) := by decide +kernel
theorem dX5_init_28 : decode cX5_init 28 = .ok (.aload_n 0, 1) := by decide +kernel
theorem dX5_init_29 : decode cX5_init 29 = .ok (.bipush 21, 2) := by decide +kernel
theorem dX5_init_31 : decode cX5_init 31 = .ok (.newarray .long, 2) := by decide +kernel
theorem dX5_init_33 : decode cX5_init 33 = .ok (.putfield 21, 3) := by decide +kernel
theorem dX5_init_36 : decode cX5_init 36 = .ok (.aload_n 0, 1) := by decide +kernel
theorem dX5_init_37 : decode cX5_init 37 = .ok (.bipush 21, 2) := by decide +kernel
theorem dX5_init_39 : decode cX5_init 39 = .ok (.newarray .long, 2) := by decide +kernel
theorem dX5_init_41 : decode cX5_init 41 = .ok (.putfield 25, 3) := by decide +kernel
theorem dX5_init_44 : decode cX5_init 44 = .ok (.aload_n 0, 1) := by decide +kernel
theorem dX5_init_45 : decode cX5_init 45 = .ok (.bipush 22, 2) := by decide +kernel
theorem dX5_init_47 : decode cX5_init 47 = .ok (.newarray .long, 2) := by decide +kernel
theorem dX5_init_49 : decode cX5_init 49 = .ok (.putfield 28, 3) := by decide +kernel
theorem dX5_init_52 : decode cX5_init 52 = .ok (.aload_n 0, 1) := by decide +kernel
theorem dX5_init_53 : decode cX5_init 53 = .ok (.bipush 21, 2) := by decide +kernel
theorem dX5_init_55 : decode cX5_init 55 = .ok (.newarray .long, 2) := by decide +kernel
theorem dX5_init_57 : decode cX5_init 57 = .ok (.putfield 31, 3) := by decide +kernel
theorem dX5_init_60 : decode cX5_init 60 = .ok (.aload_n 0, 1) := by decide +kernel
theorem dX5_init_61 : decode cX5_init 61 = .ok (.bipush 21, 2) := by decide +kernel
theorem dX5_init_63 : decode cX5_init 63 = .ok (.newarray .int, 2) := by decide +kernel
theorem dX5_init_65 : decode cX5_init 65 = .ok (.putfield 34, 3) := by decide +kernel
theorem dX5_init_68 : decode cX5_init 68 = .ok (.aload_n 0, 1) := by decide +kernel
theorem dX5_init_69 : decode cX5_init 69 = .ok (.bipush 58, 2) := by decide +kernel
theorem dX5_init_71 : decode cX5_init 71 = .ok (.newarray .long, 2) := by decide +kernel
theorem dX5_init_73 : decode cX5_init 73 = .ok (.putfield 37, 3) := by decide +kernel
theorem dX5_init_76 : decode cX5_init 76 = .ok (.aload_n 0, 1) := by decide +kernel
theorem dX5_init_77 : decode cX5_init 77 = .ok (.bipush 58, 2) := by decide +kernel
theorem dX5_init_79 : decode cX5_init 79 = .ok (.newarray .long, 2) := by decide +kernel
theorem dX5_init_81 : decode cX5_init 81 = .ok (.putfield 40, 3) := by decide +kernel
theorem dX5_init_84 : decode cX5_init 84 = .ok (.return_, 1) := by decide +kernel
theorem dX6_init_0 : decode cX6_init 0 = .ok (.aload_n 0, 1) := by decide +kernel
theorem dX6_init_1 : decode cX6_init 1 = .ok (.invokespecial 3, 3) := by decide +kernel
theorem dX6_init_4 : decode cX6_init 4 = .ok (.aload_n 0, 1) := by decide +kernel
theorem dX6_init_5 : decode cX6_init 5 = .ok (.sipush 400, 3) := by decide +kernel
theorem dX6_init_8 : decode cX6_init 8 = .ok (.newarray .int, 2) := by decide +kernel
theorem dX6_init_10 : decode cX6_init 10 = .ok (.putfield 9, 3) := by decide +kernel
theorem dX6_init_13 : decode cX6_init 13 = .ok (.aload_n 0, 1) := by decide +kernel
theorem dX6_init_14 : decode cX6_init 14 = .ok (.sipush 400, 3) := by decide +kernel
theorem dX6_init_17 : decode cX6_init 17 = .ok (.newarray .int, 2) := by decide +kernel
theorem dX6_init_19 : decode cX6_init 19 = .ok (.putfield 15, 3) := by decide +kernel
theorem dX6_init_22 : decode cX6_init 22 = .ok (.aload_n 0, 1) := by decide +kernel
theorem dX6_init_23 : decode cX6_init 23 = .ok (.aload_n 1, 1) := by decide +kernel
theorem dX6_init_24 : decode cX6_init 24 = .ok (.putfield 18, 3) := by decide +kernel
theorem dX6_init_27 : decode cX6_init 27 = .ok (.return_, 1) := by decide +kernel
theorem dX7_init_0 : decode cX7_init 0 = .ok (.aload_n 0, 1) := by decide +kernel
theorem dX7_init_1 : decode cX7_init 1 = .ok (.invokespecial 3, 3) := by decide +kernel
theorem dX7_init_4 : decode cX7_init 4 = .ok (.aload_n 0, 1) := by decide +kernel
theorem dX7_init_5 : decode cX7_init 5 = .ok (.sipush 160, 3) := by decide +kernel
theorem dX7_init_8 : decode cX7_init 8 = .ok (.newarray .int, 2) := by decide +kernel
theorem dX7_init_10 : decode cX7_init 10 = .ok (.putfield 9, 3) := by decide +kernel
theorem dX7_init_13 : decode cX7_init 13 = .ok (.aload_n 0, 1) := by decide +kernel
theorem dX7_init_14 : decode cX7_init 14 = .ok (.sipush 181, 3) := by decide +kernel
theorem dX7_init_17 : decode cX7_init 17 = .ok (.newarray .int, 2) := by decide +kernel
theorem dX7_init_19 : decode cX7_init 19 = .ok (.putfield 15, 3) := by decide +kernel
theorem dX7_init_22 : decode cX7_init 22 = .ok (.return_, 1) := by decide +kernel
theorem dX8_init_0 : decode cX8_init 0 = .ok (.aload_n 0, 1) := by decide +kernel
theorem dX8_init_1 : decode cX8_init 1 = .ok (.invokespecial 3, 3) := by decide +kernel
theorem dX8_init_4 : decode cX8_init 4 = .ok (.aload_n 0, 1) := by decide +kernel
theorem dX8_init_5 : decode cX8_init 5 = .ok (.new 9, 3) := by decide +kernel
theorem dX8_init_8 : decode cX8_init 8 = .ok (.dup, 1) := by decide +kernel
theorem dX8_init_9 : decode cX8_init 9 = .ok (.invokespecial 11, 3) := by decide +kernel
theorem dX8_init_12 : decode cX8_init 12 = .ok (.putfield 12, 3) := by decide +kernel
theorem dX8_init_15 : decode cX8_init 15 = .ok (.aload_n 0, 1) := by decide +kernel
theorem dX8_init_16 : decode cX8_init 16 = .ok (.new 16, 3) := by decide +kernel
theorem dX8_init_19 : decode cX8_init 19 = .ok (.dup, 1) := by decide +kernel
theorem dX8_init_20 : decode cX8_init 20 = .ok (.invokespecial 18, 3) := by decide +kernel
theorem dX8_init_23 : decode cX8_init 23 = .ok (.putfield 19, 3) := by decide +kernel
theorem dX8_init_26 : decode cX8_init 26 = .ok (.aload_n 0, 1) := by decide +kernel
theorem dX8_init_27 : decode cX8_init 27 = .ok (.bipush 21, 2) := by decide +kernel
theorem dX8_init_29 : decode cX8_init 29 = .ok (.newarray .int, 2) := by decide +kernel
theorem dX8_init_31 : decode cX8_init 31 = .ok (.putfield 23, 3) := by decide +kernel
theorem dX8_init_34 : decode cX8_init 34 = .ok (.aload_n 0, 1) := by decide +kernel
theorem dX8_init_35 : decode cX8_init 35 = .ok (.new 27, 3) := by decide +kernel
theorem dX8_init_38 : decode cX8_init 38 = .ok (.dup, 1) := by decide +kernel
theorem dX8_init_39 : decode cX8_init 39 = .ok (.invokespecial 29, 3) := by decide +kernel
theorem dX8_init_42 : decode cX8_init 42 = .ok (.putfield 30, 3) := by decide +kernel
theorem dX8_init_45 : decode cX8_init 45 = .ok (.aload_n 0, 1) := by decide +kernel
theorem dX8_init_46 : decode cX8_init 46 = .ok (.new 34, 3) := by decide +kernel
theorem dX8_init_49 : decode cX8_init 49 = .ok (.dup, 1) := by decide +kernel
theorem dX8_init_50 : decode cX8_init 50 = .ok (.invokespecial 36, 3) := by decide +kernel
theorem dX8_init_53 : decode cX8_init 53 = .ok (.putfield 37, 3) := by decide +kernel
theorem dX8_init_56 : decode cX8_init 56 = .ok (.aload_n 0, 1) := by decide +kernel
theorem dX8_init_57 : decode cX8_init 57 = .ok (.new 41, 3) := by decide +kernel
theorem dX8_init_60 : decode cX8_init 60 = .ok (.dup, 1) := by decide +kernel
theorem dX8_init_61 : decode cX8_init 61 = .ok (.aload_n 0, 1) := by decide +kernel
theorem dX8_init_62 : decode cX8_init 62 = .ok (.getfield 37, 3) := by decide +kernel
theorem dX8_init_65 : decode cX8_init 65 = .ok (.invokespecial 43, 3) := by decide +kernel
theorem dX8_init_68 : decode cX8_init 68 = .ok (.putfield 46, 3) := by decide +kernel
theorem dX8_init_71 : decode cX8_init 71 = .ok (.aload_n 0, 1) := by decide +kernel
theorem dX8_init_72 : decode cX8_init 72 = .ok (.new 16, 3) := by decide +kernel
theorem dX8_init_75 : decode cX8_init 75 = .ok (.dup, 1) := by decide +kernel
theorem dX8_init_76 : decode cX8_init 76 = .ok (.invokespecial 18, 3) := by decide +kernel
theorem dX8_init_79 : decode cX8_init 79 = .ok (.putfield 50, 3) := by decide +kernel
theorem dX8_init_82 : decode cX8_init 82 = .ok (.aload_n 0, 1) := by decide +kernel
theorem dX8_init_83 : decode cX8_init 83 = .ok (.new 53, 3) := by decide +kernel
theorem dX8_init_86 : decode cX8_init 86 = .ok (.dup, 1) := by decide +kernel
theorem dX8_init_87 : decode cX8_init 87 = .ok (.invokespecial 55, 3) := by decide +kernel
theorem dX8_init_90 : decode cX8_init 90 = .ok (.putfield 56, 3) := by decide +kernel
theorem dX8_init_93 : decode cX8_init 93 = .ok (.aload_n 0, 1) := by decide +kernel
theorem dX8_init_94 : decode cX8_init 94 = .ok (.new 53, 3) := by decide +kernel
theorem dX8_init_97 : decode cX8_init 97 = .ok (.dup, 1) := by decide +kernel
theorem dX8_init_98 : decode cX8_init 98 = .ok (.invokespecial 55, 3) := by decide +kernel
theorem dX8_init_101 : decode cX8_init 101 = .ok (.putfield 60, 3) := by decide +kernel
theorem dX8_init_104 : decode cX8_init 104 = .ok (.aload_n 0, 1) := by decide +kernel
theorem dX8_init_105 : decode cX8_init 105 = .ok (.new 63, 3) := by decide +kernel
theorem dX8_init_108 : decode cX8_init 108 = .ok (.dup, 1) := by decide +kernel
theorem dX8_init_109 : decode cX8_init 109 = .ok (.aload_n 0, 1) := by decide +kernel
theorem dX8_init_110 : decode cX8_init 110 = .ok (.getfield 37, 3) := by decide +kernel
theorem dX8_init_113 : decode cX8_init 113 = .ok (.aload_n 0, 1) := by decide +kernel
theorem dX8_init_114 : decode cX8_init 114 = .ok (.getfield 46, 3) := by decide +kernel
theorem dX8_init_117 : decode cX8_init 117 = .ok (.invokespecial 65, 3) := by decide +kernel
theorem dX8_init_120 : decode cX8_init 120 = .ok (.putfield 68, 3) := by decide +kernel
theorem dX8_init_123 : decode cX8_init 123 = .ok (.aload_n 0, 1) := by decide +kernel
theorem dX8_init_124 : decode cX8_init 124 = .ok (.new 72, 3) := by decide +kernel
theorem dX8_init_127 : decode cX8_init 127 = .ok (.dup, 1) := by decide +kernel
theorem dX8_init_128 : decode cX8_init 128 = .ok (.aload_n 0, 1) := by decide +kernel
theorem dX8_init_129 : decode cX8_init 129 = .ok (.getfield 12, 3) := by decide +kernel
theorem dX8_init_132 : decode cX8_init 132 = .ok (.invokespecial 74, 3) := by decide +kernel
theorem dX8_init_135 : decode cX8_init 135 = .ok (.putfield 77, 3) := by decide +kernel
theorem dX8_init_138 : decode cX8_init 138 = .ok (.return_, 1) := by decide +kernel
theorem dX9_init_0 : decode cX9_init 0 = .ok (.aload_n 0, 1) := by decide +kernel
theorem dX9_init_1 : decode cX9_init 1 = .ok (.invokespecial 1, 3) := by decide +kernel
theorem dX9_init_4 : decode cX9_init 4 = .ok (.aload_n 0, 1) := by decide +kernel
theorem dX9_init_5 : decode cX9_init 5 = .ok (.bipush 80, 2) := by decide +kernel
theorem dX9_init_7 : decode cX9_init 7 = .ok (.newarray .int, 2) := by decide +kernel
theorem dX9_init_9 : decode cX9_init 9 = .ok (.putfield 7, 3) := by decide +kernel
theorem dX9_init_12 : decode cX9_init 12 = .ok (.aload_n 0, 1) := by decide +kernel
theorem dX9_init_13 : decode cX9_init 13 = .ok (.bipush 80, 2) := by decide +kernel
theorem dX9_init_15 : decode cX9_init 15 = .ok (.newarray .int, 2) := by decide +kernel
theorem dX9_init_17 : decode cX9_init 17 = .ok (.putfield 13, 3) := by decide +kernel
theorem dX9_init_20 : decode cX9_init 20 = .ok (.aload_n 0, 1) := by decide +kernel
theorem dX9_init_21 : decode cX9_init 21 = .ok (.bipush 80, 2) := by decide +kernel
theorem dX9_init_23 : decode cX9_init 23 = .ok (.newarray .boolean, 2) := by decide +kernel
theorem dX9_init_25 : decode cX9_init 25 = .ok (.putfield 16, 3) := by decide +kernel
theorem dX9_init_28 : decode cX9_init 28 = .ok (.aload_n 0, 1) := by decide +kernel
theorem dX9_init_29 : decode cX9_init 29 = .ok (.sipush 3200, 3) := by decide +kernel
theorem dX9_init_32 : decode cX9_init 32 = .ok (.newarray .int, 2) := by decide +kernel
theorem dX9_init_34 : decode cX9_init 34 = .ok (.putfield 20, 3) := by decide +kernel
theorem dX9_init_37 : decode cX9_init 37 = .ok (.aload_n 0, 1) := by decide +kernel
theorem dX9_init_38 : decode cX9_init 38 = .ok (.bipush 20, 2) := by decide +kernel
theorem dX9_init_40 : decode cX9_init 40 = .ok (.newarray .int, 2) := by decide +kernel
theorem dX9_init_42 : decode cX9_init 42 = .ok (.putfield 23, 3) := by decide +kernel
theorem dX9_init_45 : decode cX9_init 45 = .ok (.aload_n 0, 1) := by decide +kernel
theorem dX9_init_46 : decode cX9_init 46 = .ok (.bipush 21, 2) := by decide +kernel
theorem dX9_init_48 : decode cX9_init 48 = .ok (.newarray .int, 2) := by decide +kernel
theorem dX9_init_50 : decode cX9_init 50 = .ok (.putfield 26, 3) := by decide +kernel
theorem dX9_init_53 : decode cX9_init 53 = .ok (.aload_n 0, 1) := by decide +kernel
theorem dX9_init_54 : decode cX9_init 54 = .ok (.sipush 220, 3) := by decide +kernel
theorem dX9_init_57 : decode cX9_init 57 = .ok (.newarray .int, 2) := by decide +kernel
theorem dX9_init_59 : decode cX9_init 59 = .ok (.putfield 29, 3) := by decide +kernel
theorem dX9_init_62 : decode cX9_init 62 = .ok (.aload_n 0, 1) := by decide +kernel
theorem dX9_init_63 : decode cX9_init 63 = .ok (.sipush 220, 3) := by decide +kernel
theorem dX9_init_66 : decode cX9_init 66 = .ok (.newarray .int, 2) := by decide +kernel
theorem dX9_init_68 : decode cX9_init 68 = .ok (.putfield 32, 3) := by decide +kernel
theorem dX9_init_71 : decode cX9_init 71 = .ok (.aload_n 0, 1) := by decide +kernel
theorem dX9_init_72 : decode cX9_init 72 = .ok (.sipush 220, 3) := by decide +kernel
theorem dX9_init_75 : decode cX9_init 75 = .ok (.newarray .int, 2) := by decide +kernel
theorem dX9_init_77 : decode cX9_init 77 = .ok (.putfield 35, 3) := by decide +kernel
theorem dX9_init_80 : decode cX9_init 80 = .ok (.aload_n 0, 1) := by decide +kernel
theorem dX9_init_81 : decode cX9_init 81 = .ok (.bipush 21, 2) := by decide +kernel
theorem dX9_init_83 : decode cX9_init 83 = .ok (.newarray .int, 2) := by decide +kernel
theorem dX9_init_85 : decode cX9_init 85 = .ok (.putfield 38, 3) := by decide +kernel
theorem dX9_init_88 : decode cX9_init 88 = .ok (.aload_n 0, 1) := by decide +kernel
theorem dX9_init_89 : decode cX9_init 89 = .ok (.bipush 21, 2) := by decide +kernel
theorem dX9_init_91 : decode cX9_init 91 = .ok (.newarray .int, 2) := by decide +kernel
theorem dX9_init_93 : decode cX9_init 93 = .ok (.putfield 41, 3) := by decide +kernel
theorem dX9_init_96 : decode cX9_init 96 = .ok (.aload_n 0, 1) := by decide +kernel
theorem dX9_init_97 : decode cX9_init 97 = .ok (.sipush 2560, 3) := by decide +kernel
theorem dX9_init_100 : decode cX9_init 100 = .ok (.newarray .int, 2) := by decide +kernel
theorem dX9_init_102 : decode cX9_init 102 = .ok (.putfield 44, 3) := by decide +kernel
theorem dX9_init_105 : decode cX9_init 105 = .ok (.aload_n 0, 1) := by decide +kernel
theorem dX9_init_106 : decode cX9_init 106 = .ok (.bipush 120, 2) := by decide +kernel
theorem dX9_init_108 : decode cX9_init 108 = .ok (.newarray .int, 2) := by decide +kernel
theorem dX9_init_110 : decode cX9_init 110 = .ok (.putfield 47, 3) := by decide +kernel
theorem dX9_init_113 : decode cX9_init 113 = .ok (.aload_n 0, 1) := by decide +kernel
theorem dX9_init_114 : decode cX9_init 114 = .ok (.bipush 120, 2) := by decide +kernel
theorem dX9_init_116 : decode cX9_init 116 = .ok (.newarray .int, 2) := by decide +kernel
theorem dX9_init_118 : decode cX9_init 118 = .ok (.putfield 50, 3) := by decide +kernel
theorem dX9_init_121 : decode cX9_init 121 = .ok (.aload_n 0, 1) := by decide +kernel
theorem dX9_init_122 : decode cX9_init 122 = .ok (.bipush 24, 2) := by decide +kernel
theorem dX9_init_124 : decode cX9_init 124 = .ok (.newarray .int, 2) := by decide +kernel
theorem dX9_init_126 : decode cX9_init 126 = .ok (.putfield 53, 3) := by decide +kernel
theorem dX9_init_129 : decode cX9_init 129 = .ok (.aload_n 0, 1) := by decide +kernel
theorem dX9_init_130 : decode cX9_init 130 = .ok (.bipush 21, 2) := by decide +kernel
theorem dX9_init_132 : decode cX9_init 132 = .ok (.newarray .int, 2) := by decide +kernel
theorem dX9_init_134 : decode cX9_init 134 = .ok (.putfield 56, 3) := by decide +kernel
theorem dX9_init_137 : decode cX9_init 137 = .ok (.aload_n 0, 1) := by decide +kernel
theorem dX9_init_138 : decode cX9_init 138 = .ok (.bipush 21, 2) := by decide +kernel
theorem dX9_init_140 : decode cX9_init 140 = .ok (.newarray .int, 2) := by decide +kernel
theorem dX9_init_142 : decode cX9_init 142 = .ok (.putfield 59, 3) := by decide +kernel
theorem dX9_init_145 : decode cX9_init 145 = .ok (.aload_n 0, 1) := by decide +kernel
theorem dX9_init_146 : decode cX9_init 146 = .ok (.bipush 21, 2) := by decide +kernel
theorem dX9_init_148 : decode cX9_init 148 = .ok (.newarray .int, 2) := by decide +kernel
theorem dX9_init_150 : decode cX9_init 150 = .ok (.putfield 62, 3) := by decide +kernel
theorem dX9_init_153 : decode cX9_init 153 = .ok (.aload_n 0, 1) := by decide +kernel
theorem dX9_init_154 : decode cX9_init 154 = .ok (.bipush 20, 2) := by decide +kernel
theorem dX9_init_156 : decode cX9_init 156 = .ok (.newarray .int, 2) := by decide +kernel
theorem dX9_init_158 : decode cX9_init 158 = .ok (.putfield 65, 3) := by decide +kernel
theorem dX9_init_161 : decode cX9_init 161 = .ok (.aload_n 0, 1) := by decide +kernel
theorem dX9_init_162 : decode cX9_init 162 = .ok (.bipush 20, 2) := by decide +kernel
theorem dX9_init_164 : decode cX9_init 164 = .ok (.newarray .int, 2) := by decide +kernel
theorem dX9_init_166 : decode cX9_init 166 = .ok (.putfield 68, 3) := by decide +kernel
theorem dX9_init_169 : decode cX9_init 169 = .ok (.aload_n 0, 1) := by decide +kernel
theorem dX9_init_170 : decode cX9_init 170 = .ok (.sipush 441, 3) := by decide +kernel
theorem dX9_init_173 : decode cX9_init 173 = .ok (.newarray .int, 2) := by decide +kernel
theorem dX9_init_175 : decode cX9_init 175 = .ok (.putfield 71, 3) := by decide +kernel
theorem dX9_init_178 : decode cX9_init 178 = .ok (.aload_n 0, 1) := by decide +kernel
theorem dX9_init_179 : decode cX9_init 179 = .ok (.sipush 400, 3) := by decide +kernel
theorem dX9_init_182 : decode cX9_init 182 = .ok (.newarray .int, 2) := by decide +kernel
theorem dX9_init_184 : decode cX9_init 184 = .ok (.putfield 74, 3) := by decide +kernel
theorem dX9_init_187 : decode cX9_init 187 = .ok (.aload_n 0, 1) := by decide +kernel
theorem dX9_init_188 : decode cX9_init 188 = .ok (.bipush 20, 2) := by decide +kernel
theorem dX9_init_190 : decode cX9_init 190 = .ok (.newarray .int, 2) := by decide +kernel
theorem dX9_init_192 : decode cX9_init 192 = .ok (.putfield 77, 3) := by decide +kernel
theorem dX9_init_195 : decode cX9_init 195 = .ok (.aload_n 0, 1) := by decide +kernel
theorem dX9_init_196 : decode cX9_init 196 = .ok (.sipush 3200, 3) := by decide +kernel
theorem dX9_init_199 : decode cX9_init 199 = .ok (.newarray .int, 2) := by decide +kernel
theorem dX9_init_201 : decode cX9_init 201 = .ok (.putfield 80, 3) := by decide +kernel
theorem dX9_init_204 : decode cX9_init 204 = .ok (.aload_n 0, 1) := by decide +kernel
theorem dX9_init_205 : decode cX9_init 205 = .ok (.bipush 20, 2) := by decide +kernel
theorem dX9_init_207 : decode cX9_init 207 = .ok (.newarray .int, 2) := by decide +kernel
theorem dX9_init_209 : decode cX9_init 209 = .ok (.putfield 83, 3) := by decide +kernel
theorem dX9_init_212 : decode cX9_init 212 = .ok (.aload_n 0, 1) := by decide +kernel
theorem dX9_init_213 : decode cX9_init 213 = .ok (.bipush 20, 2) := by decide +kernel
theorem dX9_init_215 : decode cX9_init 215 = .ok (.newarray .int, 2) := by decide +kernel
theorem dX9_init_217 : decode cX9_init 217 = .ok (.putfield 86, 3) := by decide +kernel
theorem dX9_init_220 : decode cX9_init 220 = .ok (.aload_n 0, 1) := by decide +kernel
theorem dX9_init_221 : decode cX9_init 221 = .ok (.bipush 20, 2) := by decide +kernel
theorem dX9_init_223 : decode cX9_init 223 = .ok (.newarray .int, 2) := by decide +kernel
theorem dX9_init_225 : decode cX9_init 225 = .ok (.putfield 89, 3) := by decide +kernel
theorem dX9_init_228 : decode cX9_init 228 = .ok (.aload_n 0, 1) := by decide +kernel
theorem dX9_init_229 : decode cX9_init 229 = .ok (.bipush 80, 2) := by decide +kernel
theorem dX9_init_231 : decode cX9_init 231 = .ok (.newarray .boolean, 2) := by decide +kernel
theorem dX9_init_233 : decode cX9_init 233 = .ok (.putfield 92, 3) := by decide +kernel
theorem dX9_init_236 : decode cX9_init 236 = .ok (.aload_n 0, 1) := by decide +kernel
theorem dX9_init_237 : decode cX9_init 237 = .ok (.bipush 20, 2) := by decide +kernel
theorem dX9_init_239 : decode cX9_init 239 = .ok (.newarray .int, 2) := by decide +kernel
theorem dX9_init_241 : decode cX9_init 241 = .ok (.putfield 95, 3) := by decide +kernel
theorem dX9_init_244 : decode cX9_init 244 = .ok (.aload_n 0, 1) := by decide +kernel
theorem dX9_init_245 : decode cX9_init 245 = .ok (.bipush 20, 2) := by decide +kernel
theorem dX9_init_247 : decode cX9_init 247 = .ok (.newarray .int, 2) := by decide +kernel
theorem dX9_init_249 : decode cX9_init 249 = .ok (.putfield 98, 3) := by decide +kernel
theorem dX9_init_252 : decode cX9_init 252 = .ok (.aload_n 0, 1) := by decide +kernel
theorem dX9_init_253 : decode cX9_init 253 = .ok (.bipush 20, 2) := by decide +kernel
theorem dX9_init_255 : decode cX9_init 255 = .ok (.newarray .int, 2) := by decide +kernel
theorem dX9_init_257 : decode cX9_init 257 = .ok (.putfield 101, 3) := by decide +kernel
theorem dX9_init_260 : decode cX9_init 260 = .ok (.aload_n 0, 1) := by decide +kernel
theorem dX9_init_261 : decode cX9_init 261 = .ok (.bipush 20, 2) := by decide +kernel
theorem dX9_init_263 : decode cX9_init 263 = .ok (.newarray .int, 2) := by decide +kernel
theorem dX9_init_265 : decode cX9_init 265 = .ok (.putfield 104, 3) := by decide +kernel
theorem dX9_init_268 : decode cX9_init 268 = .ok (.aload_n 0, 1) := by decide +kernel
theorem dX9_init_269 : decode cX9_init 269 = .ok (.bipush 24, 2) := by decide +kernel
theorem dX9_init_271 : decode cX9_init 271 = .ok (.newarray .int, 2) := by decide +kernel
theorem dX9_init_273 : decode cX9_init 273 = .ok (.putfield 107, 3) := by decide +kernel
theorem dX9_init_276 : decode cX9_init 276 = .ok (.aload_n 0, 1) := by decide +kernel
theorem dX9_init_277 : decode cX9_init 277 = .ok (.bipush 20, 2) := by decide +kernel
theorem dX9_init_279 : decode cX9_init 279 = .ok (.newarray .int, 2) := by decide +kernel
theorem dX9_init_281 : decode cX9_init 281 = .ok (.putfield 110, 3) := by decide +kernel
theorem dX9_init_284 : decode cX9_init 284 = .ok (.aload_n 0, 1) := by decide +kernel
theorem dX9_init_285 : decode cX9_init 285 = .ok (.sipush 441, 3) := by decide +kernel
theorem dX9_init_288 : decode cX9_init 288 = .ok (.newarray .boolean, 2) := by decide +kernel
theorem dX9_init_290 : decode cX9_init 290 = .ok (.putfield 113, 3) := by decide +kernel
theorem dX9_init_293 : decode cX9_init 293 = .ok (.aload_n 0, 1) := by decide +kernel
theorem dX9_init_294 : decode cX9_init 294 = .ok (.bipush 120, 2) := by decide +kernel
theorem dX9_init_296 : decode cX9_init 296 = .ok (.newarray .boolean, 2) := by decide +kernel
theorem dX9_init_298 : decode cX9_init 298 = .ok (.putfield 116, 3) := by decide +kernel
theorem dX9_init_301 : decode cX9_init 301 = .ok (.aload_n 0, 1) := by decide +kernel
theorem dX9_init_302 : decode cX9_init 302 = .ok (.sipush 160, 3) := by decide +kernel
theorem dX9_init_305 : decode cX9_init 305 = .ok (.newarray .int, 2) := by decide +kernel
theorem dX9_init_307 : decode cX9_init 307 = .ok (.putfield 119, 3) := by decide +kernel
theorem dX9_init_310 : decode cX9_init 310 = .ok (.aload_n 0, 1) := by decide +kernel
theorem dX9_init_311 : decode cX9_init 311 = .ok (.sipush 162, 3) := by decide +kernel
theorem dX9_init_314 : decode cX9_init 314 = .ok (.newarray .int, 2) := by decide +kernel
theorem dX9_init_316 : decode cX9_init 316 = .ok (.putfield 122, 3) := by decide +kernel
theorem dX9_init_319 : decode cX9_init 319 = .ok (.aload_n 0, 1) := by decide +kernel
theorem dX9_init_320 : decode cX9_init 320 = .ok (.sipush 160, 3) := by decide +kernel
theorem dX9_init_323 : decode cX9_init 323 = .ok (.newarray .int, 2) := by decide +kernel
theorem dX9_init_325 : decode cX9_init 325 = .ok (.putfield 125, 3) := by decide +kernel
theorem dX9_init_328 : decode cX9_init 328 = .ok (.aload_n 0, 1) := by decide +kernel
theorem dX9_init_329 : decode cX9_init 329 = .ok (.sipush 160, 3) := by decide +kernel
theorem dX9_init_332 : decode cX9_init 332 = .ok (.newarray .boolean, 2) := by decide +kernel
theorem dX9_init_334 : decode cX9_init 334 = .ok (.putfield 128, 3) := by decide +kernel
theorem dX9_init_337 : decode cX9_init 337 = .ok (.return_, 1) := by decide +kernel
