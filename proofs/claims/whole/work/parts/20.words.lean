/-! words of the tables, and decoded instructions -/
theorem wn_0 : Cond.fieldLink RX3 22 RX3 "nodes" "I" ∈ xW := xW_at 127 (by decide +kernel) rfl
theorem wn_1 : Cond.fieldLink RX3 26 RX3 "made" "I" ∈ xW := xW_at 130 (by decide +kernel) rfl
theorem wn_2 : Cond.fieldLink RX3 15 RX3 "there" "[Z" ∈ xW := xW_at 124 (by decide +kernel) rfl
theorem wn_3 : Cond.fieldLink RX3 9 RX3 "at" "[I" ∈ xW := xW_at 121 (by decide +kernel) rfl
theorem wn_4 : Cond.fieldLink RX7 18 RX7 "count" "I" ∈ xW := xW_at 158 (by decide +kernel) rfl
theorem wn_5 : Cond.fieldLink RX7 15 RX7 "start" "[I" ∈ xW := xW_at 157 (by decide +kernel) rfl
theorem wn_6 : Cond.code yX7_size cX7_size 2 (some .int) ∈ xW := xW_at 533 (by decide +kernel) rfl
theorem wn_7 : Cond.methodLink RX7 22 yX7_size ∈ xW := xW_at 657 (by decide +kernel) rfl
theorem wn_8 : Cond.instanceMethod yX7_size ∈ xW := xW_at 531 (by decide +kernel) rfl
theorem wn_9 : Cond.selects RX7 yX7_size yX7_size ∈ xW := xW_at 532 (by decide +kernel) rfl
theorem wn_10 : Cond.initialized RX7 ∈ xW := xW_at 95 (by decide +kernel) rfl
theorem wn_11 : Cond.fieldLink RX7 9 RX7 "ends" "[I" ∈ xW := xW_at 156 (by decide +kernel) rfl
theorem wn_12 : Cond.fieldLink RX2 15 RX2 "joined" "[I" ∈ xW := xW_at 219 (by decide +kernel) rfl
theorem wn_13 : Cond.fieldLink RX6 15 RX6 "order" "[I" ∈ xW := xW_at 241 (by decide +kernel) rfl
theorem wn_14 : Cond.fieldLink RX6 9 RX6 "thirds" "[I" ∈ xW := xW_at 240 (by decide +kernel) rfl
theorem wn_15 : Cond.fieldLink RX5 25 RX5 "under" "[J" ∈ xW := xW_at 178 (by decide +kernel) rfl
theorem wn_16 : Cond.fieldLink RX5 21 RX5 "own" "[J" ∈ xW := xW_at 177 (by decide +kernel) rfl
theorem wn_17 : Cond.fieldLink RX5 15 RX5 "parent" "[I" ∈ xW := xW_at 175 (by decide +kernel) rfl
theorem wn_18 : Cond.fieldLink RX0 27 RX0 "rimToA" "[I" ∈ xW := xW_at 284 (by decide +kernel) rfl
theorem wn_19 : Cond.fieldLink RX0 30 RX0 "rimToB" "[I" ∈ xW := xW_at 285 (by decide +kernel) rfl
theorem wn_20 : Cond.fieldLink RX0 9 RX0 "x" "[I" ∈ xW := xW_at 277 (by decide +kernel) rfl
theorem wn_21 : Cond.fieldLink RX0 15 RX0 "y" "[I" ∈ xW := xW_at 279 (by decide +kernel) rfl
theorem wn_22 : Cond.code yX0_area cX0_area 4 (some .int) ∈ xW := xW_at 765 (by decide +kernel) rfl
theorem wn_23 : Cond.methodLink RX0 123 yX0_area ∈ xW := xW_at 762 (by decide +kernel) rfl
theorem wn_24 : Cond.instanceMethod yX0_area ∈ xW := xW_at 764 (by decide +kernel) rfl
theorem wn_25 : Cond.selects RX0 yX0_area yX0_area ∈ xW := xW_at 40 (by decide +kernel) rfl
theorem wn_26 : Cond.initialized RX0 ∈ xW := xW_at 100 (by decide +kernel) rfl
theorem wn_27 : Cond.fieldLink RX8 238 RX8 "planeKnown" "Z" ∈ xW := xW_at 351 (by decide +kernel) rfl
theorem wn_28 : Cond.fieldLink RX8 242 RX8 "turnsKnown" "Z" ∈ xW := xW_at 353 (by decide +kernel) rfl
theorem wn_29 : Cond.fieldLink RX8 245 RX8 "drawingKnown" "Z" ∈ xW := xW_at 354 (by decide +kernel) rfl
theorem wn_30 : Cond.fieldLink RX8 248 RX8 "pieceKnown" "Z" ∈ xW := xW_at 355 (by decide +kernel) rfl
theorem wn_31 : Cond.fieldLink RX8 12 RX8 "graph" "LPlaneTests$Graph;" ∈ xW := xW_at 340 (by decide +kernel) rfl
theorem wn_32 : Cond.code yX8_forget cX8_forget 1 none ∈ xW := xW_at 396 (by decide +kernel) rfl
theorem wn_33 : Cond.methodLink RX8 85 yX8_forget ∈ xW := xW_at 393 (by decide +kernel) rfl
theorem wn_34 : Cond.instanceMethod yX8_forget ∈ xW := xW_at 395 (by decide +kernel) rfl
theorem wn_35 : Cond.selects RX8 yX8_forget yX8_forget ∈ xW := xW_at 0 (by decide +kernel) rfl
theorem wn_36 : Cond.initialized RX8 ∈ xW := xW_at 93 (by decide +kernel) rfl
theorem wn_37 : Cond.fieldLink RX8 19 RX8 "toldRows" "LPlaneTests$Rows;" ∈ xW := xW_at 341 (by decide +kernel) rfl
theorem wn_38 : Cond.code yX7_open cX7_open 1 none ∈ xW := xW_at 400 (by decide +kernel) rfl
theorem wn_39 : Cond.methodLink RX8 88 yX7_open ∈ xW := xW_at 397 (by decide +kernel) rfl
theorem wn_40 : Cond.instanceMethod yX7_open ∈ xW := xW_at 398 (by decide +kernel) rfl
theorem wn_41 : Cond.selects RX7 yX7_open yX7_open ∈ xW := xW_at 399 (by decide +kernel) rfl
theorem wn_42 : Cond.code yX3_addNode cX3_addNode 1 (some .int) ∈ xW := xW_at 404 (by decide +kernel) rfl
theorem wn_43 : Cond.methodLink RX8 91 yX3_addNode ∈ xW := xW_at 401 (by decide +kernel) rfl
theorem wn_44 : Cond.instanceMethod yX3_addNode ∈ xW := xW_at 402 (by decide +kernel) rfl
theorem wn_45 : Cond.selects RX3 yX3_addNode yX3_addNode ∈ xW := xW_at 403 (by decide +kernel) rfl
theorem wn_46 : Cond.initialized RX3 ∈ xW := xW_at 94 (by decide +kernel) rfl
theorem wn_47 : Cond.code yX3_hasNode cX3_hasNode 2 (some .boolean) ∈ xW := xW_at 412 (by decide +kernel) rfl
theorem wn_48 : Cond.methodLink RX8 95 yX3_hasNode ∈ xW := xW_at 409 (by decide +kernel) rfl
theorem wn_49 : Cond.instanceMethod yX3_hasNode ∈ xW := xW_at 410 (by decide +kernel) rfl
theorem wn_50 : Cond.selects RX3 yX3_hasNode yX3_hasNode ∈ xW := xW_at 411 (by decide +kernel) rfl
theorem wn_51 : Cond.methodLink RX8 138 yX7_size ∈ xW := xW_at 530 (by decide +kernel) rfl
theorem wn_52 : Cond.code yX7_has cX7_has 3 (some .boolean) ∈ xW := xW_at 656 (by decide +kernel) rfl
theorem wn_53 : Cond.methodLink RX8 147 yX7_has ∈ xW := xW_at 653 (by decide +kernel) rfl
theorem wn_54 : Cond.instanceMethod yX7_has ∈ xW := xW_at 654 (by decide +kernel) rfl
theorem wn_55 : Cond.selects RX7 yX7_has yX7_has ∈ xW := xW_at 655 (by decide +kernel) rfl
theorem wn_56 : Cond.code yX7_get cX7_get 3 (some .int) ∈ xW := xW_at 645 (by decide +kernel) rfl
theorem wn_57 : Cond.methodLink RX8 151 yX7_get ∈ xW := xW_at 658 (by decide +kernel) rfl
theorem wn_58 : Cond.instanceMethod yX7_get ∈ xW := xW_at 643 (by decide +kernel) rfl
theorem wn_59 : Cond.selects RX7 yX7_get yX7_get ∈ xW := xW_at 644 (by decide +kernel) rfl
theorem wn_60 : Cond.code yX7_exchange cX7_exchange 5 none ∈ xW := xW_at 841 (by decide +kernel) rfl
theorem wn_61 : Cond.methodLink RX8 225 yX7_exchange ∈ xW := xW_at 838 (by decide +kernel) rfl
theorem wn_62 : Cond.instanceMethod yX7_exchange ∈ xW := xW_at 839 (by decide +kernel) rfl
theorem wn_63 : Cond.selects RX7 yX7_exchange yX7_exchange ∈ xW := xW_at 840 (by decide +kernel) rfl
theorem wn_64 : Cond.fieldLink RX9 44 RX9 "face" "[I" ∈ xW := xW_at 882 (by decide +kernel) rfl
theorem wn_65 : Cond.fieldLink RX9 47 RX9 "faceSize" "[I" ∈ xW := xW_at 883 (by decide +kernel) rfl
theorem wn_66 : Cond.fieldLink RX9 50 RX9 "faceBits" "[I" ∈ xW := xW_at 884 (by decide +kernel) rfl
theorem wn_67 : Cond.fieldLink RX9 113 RX9 "isWall" "[Z" ∈ xW := xW_at 916 (by decide +kernel) rfl
theorem wn_68 : Cond.fieldLink RX9 210 RX9 "nodes" "I" ∈ xW := xW_at 865 (by decide +kernel) rfl
theorem wn_69 : Cond.fieldLink RX9 213 RX9 "made" "I" ∈ xW := xW_at 866 (by decide +kernel) rfl
theorem wn_70 : Cond.fieldLink RX9 16 RX9 "alive" "[Z" ∈ xW := xW_at 869 (by decide +kernel) rfl
theorem wn_71 : Cond.fieldLink RX9 23 RX9 "rowSize" "[I" ∈ xW := xW_at 871 (by decide +kernel) rfl
theorem wn_72 : Cond.fieldLink RX9 216 RX9 "known" "Z" ∈ xW := xW_at 872 (by decide +kernel) rfl
theorem wn_73 : Cond.fieldLink RX9 20 RX9 "row" "[I" ∈ xW := xW_at 870 (by decide +kernel) rfl
theorem wn_74 : Cond.code yX9_isNode cX9_isNode 2 (some .boolean) ∈ xW := xW_at 1051 (by decide +kernel) rfl
theorem wn_75 : Cond.methodLink RX9 302 yX9_isNode ∈ xW := xW_at 1048 (by decide +kernel) rfl
theorem wn_76 : Cond.instanceMethod yX9_isNode ∈ xW := xW_at 1050 (by decide +kernel) rfl
theorem wn_77 : Cond.selects RX9 yX9_isNode yX9_isNode ∈ xW := xW_at 44 (by decide +kernel) rfl
theorem wn_78 : Cond.initialized RX9 ∈ xW := xW_at 102 (by decide +kernel) rfl
theorem wn_79 : Cond.fieldLink RX9 7 RX9 "from" "[I" ∈ xW := xW_at 867 (by decide +kernel) rfl
theorem wn_80 : Cond.fieldLink RX9 13 RX9 "to" "[I" ∈ xW := xW_at 868 (by decide +kernel) rfl
theorem wn_81 : Cond.code yX9_append cX9_append 3 none ∈ xW := xW_at 1055 (by decide +kernel) rfl
theorem wn_82 : Cond.methodLink RX9 306 yX9_append ∈ xW := xW_at 1052 (by decide +kernel) rfl
theorem wn_83 : Cond.instanceMethod yX9_append ∈ xW := xW_at 1054 (by decide +kernel) rfl
theorem wn_84 : Cond.selects RX9 yX9_append yX9_append ∈ xW := xW_at 45 (by decide +kernel) rfl
theorem wn_85 : Cond.fieldLink RX9 86 RX9 "xOf" "[I" ∈ xW := xW_at 902 (by decide +kernel) rfl
theorem wn_86 : Cond.fieldLink RX9 89 RX9 "yOf" "[I" ∈ xW := xW_at 903 (by decide +kernel) rfl
theorem dX0_area_0 : decode cX0_area 0 = .ok (.aload_n 0, 1) := by decide +kernel
theorem dX0_area_1 : decode cX0_area 1 = .ok (.getfield 9, 3) := by decide +kernel
theorem dX0_area_4 : decode cX0_area 4 = .ok (.iload_n 2, 1) := by decide +kernel
theorem dX0_area_5 : decode cX0_area 5 = .ok (.iaload, 1) := by decide +kernel
theorem dX0_area_6 : decode cX0_area 6 = .ok (.aload_n 0, 1) := by decide +kernel
theorem dX0_area_7 : decode cX0_area 7 = .ok (.getfield 9, 3) := by decide +kernel
theorem dX0_area_10 : decode cX0_area 10 = .ok (.iload_n 1, 1) := by decide +kernel
theorem dX0_area_11 : decode cX0_area 11 = .ok (.iaload, 1) := by decide +kernel
theorem dX0_area_12 : decode cX0_area 12 = .ok (.isub, 1) := by decide +kernel
theorem dX0_area_13 : decode cX0_area 13 = .ok (.aload_n 0, 1) := by decide +kernel
theorem dX0_area_14 : decode cX0_area 14 = .ok (.getfield 15, 3) := by decide +kernel
theorem dX0_area_17 : decode cX0_area 17 = .ok (.iload_n 3, 1) := by decide +kernel
theorem dX0_area_18 : decode cX0_area 18 = .ok (.iaload, 1) := by decide +kernel
theorem dX0_area_19 : decode cX0_area 19 = .ok (.aload_n 0, 1) := by decide +kernel
theorem dX0_area_20 : decode cX0_area 20 = .ok (.getfield 15, 3) := by decide +kernel
theorem dX0_area_23 : decode cX0_area 23 = .ok (.iload_n 1, 1) := by decide +kernel
theorem dX0_area_24 : decode cX0_area 24 = .ok (.iaload, 1) := by decide +kernel
theorem dX0_area_25 : decode cX0_area 25 = .ok (.isub, 1) := by decide +kernel
theorem dX0_area_26 : decode cX0_area 26 = .ok (.imul, 1) := by decide +kernel
theorem dX0_area_27 : decode cX0_area 27 = .ok (.aload_n 0, 1) := by decide +kernel
theorem dX0_area_28 : decode cX0_area 28 = .ok (.getfield 9, 3) := by decide +kernel
theorem dX0_area_31 : decode cX0_area 31 = .ok (.iload_n 3, 1) := by decide +kernel
theorem dX0_area_32 : decode cX0_area 32 = .ok (.iaload, 1) := by decide +kernel
theorem dX0_area_33 : decode cX0_area 33 = .ok (.aload_n 0, 1) := by decide +kernel
theorem dX0_area_34 : decode cX0_area 34 = .ok (.getfield 9, 3) := by decide +kernel
theorem dX0_area_37 : decode cX0_area 37 = .ok (.iload_n 1, 1) := by decide +kernel
theorem dX0_area_38 : decode cX0_area 38 = .ok (.iaload, 1) := by decide +kernel
theorem dX0_area_39 : decode cX0_area 39 = .ok (.isub, 1) := by decide +kernel
theorem dX0_area_40 : decode cX0_area 40 = .ok (.aload_n 0, 1) := by decide +kernel
theorem dX0_area_41 : decode cX0_area 41 = .ok (.getfield 15, 3) := by decide +kernel
theorem dX0_area_44 : decode cX0_area 44 = .ok (.iload_n 2, 1) := by decide +kernel
theorem dX0_area_45 : decode cX0_area 45 = .ok (.iaload, 1) := by decide +kernel
theorem dX0_area_46 : decode cX0_area 46 = .ok (.aload_n 0, 1) := by decide +kernel
theorem dX0_area_47 : decode cX0_area 47 = .ok (.getfield 15, 3) := by decide +kernel
theorem dX0_area_50 : decode cX0_area 50 = .ok (.iload_n 1, 1) := by decide +kernel
theorem dX0_area_51 : decode cX0_area 51 = .ok (.iaload, 1) := by decide +kernel
theorem dX0_area_52 : decode cX0_area 52 = .ok (.isub, 1) := by decide +kernel
theorem dX0_area_53 : decode cX0_area 53 = .ok (.imul, 1) := by decide +kernel
theorem dX0_area_54 : decode cX0_area 54 = .ok (.isub, 1) := by decide +kernel
theorem dX0_area_55 : decode cX0_area 55 = .ok (.ireturn, 1) := by decide +kernel
theorem dX0_link_0 : decode cX0_link 0 = .ok (.aload_n 0, 1) := by decide +kernel
theorem dX0_link_1 : decode cX0_link 1 = .ok (.getfield 27, 3) := by decide +kernel
theorem dX0_link_4 : decode cX0_link 4 = .ok (.iload_n 1, 1) := by decide +kernel
theorem dX0_link_5 : decode cX0_link 5 = .ok (.iload_n 2, 1) := by decide +kernel
theorem dX0_link_6 : decode cX0_link 6 = .ok (.iastore, 1) := by decide +kernel
theorem dX0_link_7 : decode cX0_link 7 = .ok (.aload_n 0, 1) := by decide +kernel
theorem dX0_link_8 : decode cX0_link 8 = .ok (.getfield 30, 3) := by decide +kernel
theorem dX0_link_11 : decode cX0_link 11 = .ok (.iload_n 2, 1) := by decide +kernel
theorem dX0_link_12 : decode cX0_link 12 = .ok (.iload_n 1, 1) := by decide +kernel
theorem dX0_link_13 : decode cX0_link 13 = .ok (.iastore, 1) := by decide +kernel
theorem dX0_link_14 : decode cX0_link 14 = .ok (.return_, 1) := by decide +kernel
theorem dX0_onOneSide_0 : decode cX0_onOneSide 0 = .ok (.aload_n 0, 1) := by decide +kernel
theorem dX0_onOneSide_1 : decode cX0_onOneSide 1 = .ok (.iload_n 1, 1) := by decide +kernel
theorem dX0_onOneSide_2 : decode cX0_onOneSide 2 = .ok (.iload_n 2, 1) := by decide +kernel
theorem dX0_onOneSide_3 : decode cX0_onOneSide 3 = .ok (.iload_n 3, 1) := by decide +kernel
theorem dX0_onOneSide_4 : decode cX0_onOneSide 4 = .ok (.invokevirtual 123, 3) := by decide +kernel
theorem dX0_onOneSide_7 : decode cX0_onOneSide 7 = .ok (.istore 5, 2) := by decide +kernel
theorem dX0_onOneSide_9 : decode cX0_onOneSide 9 = .ok (.aload_n 0, 1) := by decide +kernel
theorem dX0_onOneSide_10 : decode cX0_onOneSide 10 = .ok (.iload_n 1, 1) := by decide +kernel
theorem dX0_onOneSide_11 : decode cX0_onOneSide 11 = .ok (.iload_n 2, 1) := by decide +kernel
theorem dX0_onOneSide_12 : decode cX0_onOneSide 12 = .ok (.iload 4, 2) := by decide +kernel
theorem dX0_onOneSide_14 : decode cX0_onOneSide 14 = .ok (.invokevirtual 123, 3) := by decide +kernel
theorem dX0_onOneSide_17 : decode cX0_onOneSide 17 = .ok (.istore 6, 2) := by decide +kernel
theorem dX0_onOneSide_19 : decode cX0_onOneSide 19 = .ok (.iload 5, 2) := by decide +kernel
theorem dX0_onOneSide_21 : decode cX0_onOneSide 21 = .ok (.ifCond .le 8, 3) := by decide +kernel
theorem dX0_onOneSide_24 : decode cX0_onOneSide 24 = .ok (.iload 6, 2) := by decide +kernel
theorem dX0_onOneSide_26 : decode cX0_onOneSide 26 = .ok (.ifCond .gt 13, 3) := by decide +kernel
theorem dX0_onOneSide_29 : decode cX0_onOneSide 29 = .ok (.iload 5, 2) := by decide +kernel
theorem dX0_onOneSide_31 : decode cX0_onOneSide 31 = .ok (.ifCond .ge 12, 3) := by decide +kernel
theorem dX0_onOneSide_34 : decode cX0_onOneSide 34 = .ok (.iload 6, 2) := by decide +kernel
theorem dX0_onOneSide_36 : decode cX0_onOneSide 36 = .ok (.ifCond .ge 7, 3) := by decide +kernel
theorem dX0_onOneSide_39 : decode cX0_onOneSide 39 = .ok (.iconst 1, 1) := by decide +kernel
theorem dX0_onOneSide_40 : decode cX0_onOneSide 40 = .ok (.goto 4, 3) := by decide +kernel
theorem dX0_onOneSide_43 : decode cX0_onOneSide 43 = .ok (.iconst 0, 1) := by decide +kernel
theorem dX0_onOneSide_44 : decode cX0_onOneSide 44 = .ok (.ireturn, 1) := by decide +kernel
theorem dX0_overlap_0 : decode cX0_overlap 0 = .ok (.aload_n 0, 1) := by decide +kernel
theorem dX0_overlap_1 : decode cX0_overlap 1 = .ok (.getfield 9, 3) := by decide +kernel
theorem dX0_overlap_4 : decode cX0_overlap 4 = .ok (.iload_n 2, 1) := by decide +kernel
theorem dX0_overlap_5 : decode cX0_overlap 5 = .ok (.iaload, 1) := by decide +kernel
theorem dX0_overlap_6 : decode cX0_overlap 6 = .ok (.aload_n 0, 1) := by decide +kernel
theorem dX0_overlap_7 : decode cX0_overlap 7 = .ok (.getfield 9, 3) := by decide +kernel
theorem dX0_overlap_10 : decode cX0_overlap 10 = .ok (.iload_n 1, 1) := by decide +kernel
theorem dX0_overlap_11 : decode cX0_overlap 11 = .ok (.iaload, 1) := by decide +kernel
theorem dX0_overlap_12 : decode cX0_overlap 12 = .ok (.isub, 1) := by decide +kernel
theorem dX0_overlap_13 : decode cX0_overlap 13 = .ok (.aload_n 0, 1) := by decide +kernel
theorem dX0_overlap_14 : decode cX0_overlap 14 = .ok (.getfield 9, 3) := by decide +kernel
theorem dX0_overlap_17 : decode cX0_overlap 17 = .ok (.iload_n 3, 1) := by decide +kernel
theorem dX0_overlap_18 : decode cX0_overlap 18 = .ok (.iaload, 1) := by decide +kernel
theorem dX0_overlap_19 : decode cX0_overlap 19 = .ok (.aload_n 0, 1) := by decide +kernel
theorem dX0_overlap_20 : decode cX0_overlap 20 = .ok (.getfield 9, 3) := by decide +kernel
theorem dX0_overlap_23 : decode cX0_overlap 23 = .ok (.iload_n 1, 1) := by decide +kernel
theorem dX0_overlap_24 : decode cX0_overlap 24 = .ok (.iaload, 1) := by decide +kernel
theorem dX0_overlap_25 : decode cX0_overlap 25 = .ok (.isub, 1) := by decide +kernel
theorem dX0_overlap_26 : decode cX0_overlap 26 = .ok (.imul, 1) := by decide +kernel
theorem dX0_overlap_27 : decode cX0_overlap 27 = .ok (.aload_n 0, 1) := by decide +kernel
theorem dX0_overlap_28 : decode cX0_overlap 28 = .ok (.getfield 15, 3) := by decide +kernel
theorem dX0_overlap_31 : decode cX0_overlap 31 = .ok (.iload_n 2, 1) := by decide +kernel
theorem dX0_overlap_32 : decode cX0_overlap 32 = .ok (.iaload, 1) := by decide +kernel
theorem dX0_overlap_33 : decode cX0_overlap 33 = .ok (.aload_n 0, 1) := by decide +kernel
theorem dX0_overlap_34 : decode cX0_overlap 34 = .ok (.getfield 15, 3) := by decide +kernel
theorem dX0_overlap_37 : decode cX0_overlap 37 = .ok (.iload_n 1, 1) := by decide +kernel
theorem dX0_overlap_38 : decode cX0_overlap 38 = .ok (.iaload, 1) := by decide +kernel
theorem dX0_overlap_39 : decode cX0_overlap 39 = .ok (.isub, 1) := by decide +kernel
theorem dX0_overlap_40 : decode cX0_overlap 40 = .ok (.aload_n 0, 1) := by decide +kernel
theorem dX0_overlap_41 : decode cX0_overlap 41 = .ok (.getfield 15, 3) := by decide +kernel
theorem dX0_overlap_44 : decode cX0_overlap 44 = .ok (.iload_n 3, 1) := by decide +kernel
theorem dX0_overlap_45 : decode cX0_overlap 45 = .ok (.iaload, 1) := by decide +kernel
theorem dX0_overlap_46 : decode cX0_overlap 46 = .ok (.aload_n 0, 1) := by decide +kernel
theorem dX0_overlap_47 : decode cX0_overlap 47 = .ok (.getfield 15, 3) := by decide +kernel
theorem dX0_overlap_50 : decode cX0_overlap 50 = .ok (.iload_n 1, 1) := by decide +kernel
theorem dX0_overlap_51 : decode cX0_overlap 51 = .ok (.iaload, 1) := by decide +kernel
theorem dX0_overlap_52 : decode cX0_overlap 52 = .ok (.isub, 1) := by decide +kernel
theorem dX0_overlap_53 : decode cX0_overlap 53 = .ok (.imul, 1) := by decide +kernel
theorem dX0_overlap_54 : decode cX0_overlap 54 = .ok (.iadd, 1) := by decide +kernel
theorem dX0_overlap_55 : decode cX0_overlap 55 = .ok (.istore 4, 2) := by decide +kernel
theorem dX0_overlap_57 : decode cX0_overlap 57 = .ok (.aload_n 0, 1) := by decide +kernel
theorem dX0_overlap_58 : decode cX0_overlap 58 = .ok (.iload_n 1, 1) := by decide +kernel
theorem dX0_overlap_59 : decode cX0_overlap 59 = .ok (.iload_n 2, 1) := by decide +kernel
theorem dX0_overlap_60 : decode cX0_overlap 60 = .ok (.iload_n 3, 1) := by decide +kernel
theorem dX0_overlap_61 : decode cX0_overlap 61 = .ok (.invokevirtual 123, 3) := by decide +kernel
theorem dX0_overlap_64 : decode cX0_overlap 64 = .ok (.ifCond .ne 12, 3) := by decide +kernel
theorem dX0_overlap_67 : decode cX0_overlap 67 = .ok (.iload 4, 2) := by decide +kernel
theorem dX0_overlap_69 : decode cX0_overlap 69 = .ok (.ifCond .le 7, 3) := by decide +kernel
theorem dX0_overlap_72 : decode cX0_overlap 72 = .ok (.iconst 1, 1) := by decide +kernel
theorem dX0_overlap_73 : decode cX0_overlap 73 = .ok (.goto 4, 3) := by decide +kernel
theorem dX0_overlap_76 : decode cX0_overlap 76 = .ok (.iconst 0, 1) := by decide +kernel
theorem dX0_overlap_77 : decode cX0_overlap 77 = .ok (.ireturn, 1) := by decide +kernel
theorem dX2_turnOver_0 : decode cX2_turnOver 0 = .ok (.aload_n 0, 1) := by decide +kernel
theorem dX2_turnOver_1 : decode cX2_turnOver 1 = .ok (.getfield 15, 3) := by decide +kernel
theorem dX2_turnOver_4 : decode cX2_turnOver 4 = .ok (.iload_n 1, 1) := by decide +kernel
theorem dX2_turnOver_5 : decode cX2_turnOver 5 = .ok (.dup2, 1) := by decide +kernel
theorem dX2_turnOver_6 : decode cX2_turnOver 6 = .ok (.iaload, 1) := by decide +kernel
theorem dX2_turnOver_7 : decode cX2_turnOver 7 = .ok (.iconst 1, 1) := by decide +kernel
theorem dX2_turnOver_8 : decode cX2_turnOver 8 = .ok (.iload_n 2, 1) := by decide +kernel
theorem dX2_turnOver_9 : decode cX2_turnOver 9 = .ok (.ishl, 1) := by decide +kernel
theorem dX2_turnOver_10 : decode cX2_turnOver 10 = .ok (.ixor, 1) := by decide +kernel
theorem dX2_turnOver_11 : decode cX2_turnOver 11 = .ok (.iastore, 1) := by decide +kernel
theorem dX2_turnOver_12 : decode cX2_turnOver 12 = .ok (.aload_n 0, 1) := by decide +kernel
theorem dX2_turnOver_13 : decode cX2_turnOver 13 = .ok (.getfield 15, 3) := by decide +kernel
theorem dX2_turnOver_16 : decode cX2_turnOver 16 = .ok (.iload_n 2, 1) := by decide +kernel
theorem dX2_turnOver_17 : decode cX2_turnOver 17 = .ok (.dup2, 1) := by decide +kernel
theorem dX2_turnOver_18 : decode cX2_turnOver 18 = .ok (.iaload, 1) := by decide +kernel
theorem dX2_turnOver_19 : decode cX2_turnOver 19 = .ok (.iconst 1, 1) := by decide +kernel
theorem dX2_turnOver_20 : decode cX2_turnOver 20 = .ok (.iload_n 1, 1) := by decide +kernel
theorem dX2_turnOver_21 : decode cX2_turnOver 21 = .ok (.ishl, 1) := by decide +kernel
theorem dX2_turnOver_22 : decode cX2_turnOver 22 = .ok (.ixor, 1) := by decide +kernel
theorem dX2_turnOver_23 : decode cX2_turnOver 23 = .ok (.iastore, 1) := by decide +kernel
theorem dX2_turnOver_24 : decode cX2_turnOver 24 = .ok (.return_, 1) := by decide +kernel
theorem dX3_endAt_0 : decode cX3_endAt 0 = .ok (.aload_n 0, 1) := by decide +kernel
theorem dX3_endAt_1 : decode cX3_endAt 1 = .ok (.getfield 15, 3) := by decide +kernel
theorem dX3_endAt_4 : decode cX3_endAt 4 = .ok (.iload_n 3, 1) := by decide +kernel
theorem dX3_endAt_5 : decode cX3_endAt 5 = .ok (.baload, 1) := by decide +kernel
theorem dX3_endAt_6 : decode cX3_endAt 6 = .ok (.ifCond .ne 5, 3) := by decide +kernel
theorem dX3_endAt_9 : decode cX3_endAt 9 = .ok (.iconst (-1), 1) := by decide +kernel
theorem dX3_endAt_10 : decode cX3_endAt 10 = .ok (.ireturn, 1) := by decide +kernel
theorem dX3_endAt_11 : decode cX3_endAt 11 = .ok (.aload_n 0, 1) := by decide +kernel
theorem dX3_endAt_12 : decode cX3_endAt 12 = .ok (.getfield 9, 3) := by decide +kernel
theorem dX3_endAt_15 : decode cX3_endAt 15 = .ok (.iconst 2, 1) := by decide +kernel
theorem dX3_endAt_16 : decode cX3_endAt 16 = .ok (.iload_n 3, 1) := by decide +kernel
theorem dX3_endAt_17 : decode cX3_endAt 17 = .ok (.imul, 1) := by decide +kernel
theorem dX3_endAt_18 : decode cX3_endAt 18 = .ok (.iaload, 1) := by decide +kernel
theorem dX3_endAt_19 : decode cX3_endAt 19 = .ok (.iload_n 1, 1) := by decide +kernel
theorem dX3_endAt_20 : decode cX3_endAt 20 = .ok (.if_icmp .ne 21, 3) := by decide +kernel
theorem dX3_endAt_23 : decode cX3_endAt 23 = .ok (.aload_n 0, 1) := by decide +kernel
theorem dX3_endAt_24 : decode cX3_endAt 24 = .ok (.getfield 9, 3) := by decide +kernel
theorem dX3_endAt_27 : decode cX3_endAt 27 = .ok (.iconst 2, 1) := by decide +kernel
theorem dX3_endAt_28 : decode cX3_endAt 28 = .ok (.iload_n 3, 1) := by decide +kernel
theorem dX3_endAt_29 : decode cX3_endAt 29 = .ok (.imul, 1) := by decide +kernel
theorem dX3_endAt_30 : decode cX3_endAt 30 = .ok (.iconst 1, 1) := by decide +kernel
theorem dX3_endAt_31 : decode cX3_endAt 31 = .ok (.iadd, 1) := by decide +kernel
theorem dX3_endAt_32 : decode cX3_endAt 32 = .ok (.iaload, 1) := by decide +kernel
theorem dX3_endAt_33 : decode cX3_endAt 33 = .ok (.iload_n 2, 1) := by decide +kernel
theorem dX3_endAt_34 : decode cX3_endAt 34 = .ok (.if_icmp .ne 7, 3) := by decide +kernel
theorem dX3_endAt_37 : decode cX3_endAt 37 = .ok (.iconst 2, 1) := by decide +kernel
theorem dX3_endAt_38 : decode cX3_endAt 38 = .ok (.iload_n 3, 1) := by decide +kernel
theorem dX3_endAt_39 : decode cX3_endAt 39 = .ok (.imul, 1) := by decide +kernel
theorem dX3_endAt_40 : decode cX3_endAt 40 = .ok (.ireturn, 1) := by decide +kernel
theorem dX3_endAt_41 : decode cX3_endAt 41 = .ok (.aload_n 0, 1) := by decide +kernel
theorem dX3_endAt_42 : decode cX3_endAt 42 = .ok (.getfield 9, 3) := by decide +kernel
theorem dX3_endAt_45 : decode cX3_endAt 45 = .ok (.iconst 2, 1) := by decide +kernel
theorem dX3_endAt_46 : decode cX3_endAt 46 = .ok (.iload_n 3, 1) := by decide +kernel
theorem dX3_endAt_47 : decode cX3_endAt 47 = .ok (.imul, 1) := by decide +kernel
theorem dX3_endAt_48 : decode cX3_endAt 48 = .ok (.iaload, 1) := by decide +kernel
theorem dX3_endAt_49 : decode cX3_endAt 49 = .ok (.iload_n 2, 1) := by decide +kernel
theorem dX3_endAt_50 : decode cX3_endAt 50 = .ok (.if_icmp .ne 25, 3) := by decide +kernel
theorem dX3_endAt_53 : decode cX3_endAt 53 = .ok (.aload_n 0, 1) := by decide +kernel
theorem dX3_endAt_54 : decode cX3_endAt 54 = .ok (.getfield 9, 3) := by decide +kernel
theorem dX3_endAt_57 : decode cX3_endAt 57 = .ok (.iconst 2, 1) := by decide +kernel
theorem dX3_endAt_58 : decode cX3_endAt 58 = .ok (.iload_n 3, 1) := by decide +kernel
theorem dX3_endAt_59 : decode cX3_endAt 59 = .ok (.imul, 1) := by decide +kernel
theorem dX3_endAt_60 : decode cX3_endAt 60 = .ok (.iconst 1, 1) := by decide +kernel
theorem dX3_endAt_61 : decode cX3_endAt 61 = .ok (.iadd, 1) := by decide +kernel
theorem dX3_endAt_62 : decode cX3_endAt 62 = .ok (.iaload, 1) := by decide +kernel
theorem dX3_endAt_63 : decode cX3_endAt 63 = .ok (.iload_n 1, 1) := by decide +kernel
theorem dX3_endAt_64 : decode cX3_endAt 64 = .ok (.if_icmp .ne 11, 3) := by decide +kernel
theorem dX3_endAt_67 : decode cX3_endAt 67 = .ok (.iconst 2, 1) := by decide +kernel
theorem dX3_endAt_68 : decode cX3_endAt 68 = .ok (.iload_n 3, 1) := by decide +kernel
theorem dX3_endAt_69 : decode cX3_endAt 69 = .ok (.imul, 1) := by decide +kernel
theorem dX3_endAt_70 : decode cX3_endAt 70 = .ok (.iconst 1, 1) := by decide +kernel
theorem dX3_endAt_71 : decode cX3_endAt 71 = .ok (.iadd, 1) := by decide +kernel
theorem dX3_endAt_72 : decode cX3_endAt 72 = .ok (.goto 4, 3) := by decide +kernel
theorem dX3_endAt_75 : decode cX3_endAt 75 = .ok (.iconst (-1), 1) := by decide +kernel
theorem dX3_endAt_76 : decode cX3_endAt 76 = .ok (.ireturn, 1) := by decide +kernel
theorem dX3_hasArc_12 : decode cX3_hasArc 12 = .ok (.aload_n 0, 1) := by decide +kernel
theorem dX3_hasArc_13 : decode cX3_hasArc 13 = .ok (.getfield 15, 3) := by decide +kernel
theorem dX3_hasArc_16 : decode cX3_hasArc 16 = .ok (.iload_n 1, 1) := by decide +kernel
theorem dX3_hasArc_17 : decode cX3_hasArc 17 = .ok (.baload, 1) := by decide +kernel
theorem dX3_hasArc_18 : decode cX3_hasArc 18 = .ok (.ifCond .eq 7, 3) := by decide +kernel
theorem dX3_hasArc_21 : decode cX3_hasArc 21 = .ok (.iconst 1, 1) := by decide +kernel
theorem dX3_hasArc_22 : decode cX3_hasArc 22 = .ok (.goto 4, 3) := by decide +kernel
theorem dX3_hasNode_12 : decode cX3_hasNode 12 = .ok (.iconst 1, 1) := by decide +kernel
theorem dX3_hasNode_13 : decode cX3_hasNode 13 = .ok (.goto 4, 3) := by decide +kernel
theorem dX3_isLoop_0 : decode cX3_isLoop 0 = .ok (.aload_n 0, 1) := by decide +kernel
theorem dX3_isLoop_1 : decode cX3_isLoop 1 = .ok (.getfield 9, 3) := by decide +kernel
theorem dX3_isLoop_4 : decode cX3_isLoop 4 = .ok (.iconst 2, 1) := by decide +kernel
theorem dX3_isLoop_5 : decode cX3_isLoop 5 = .ok (.iload_n 1, 1) := by decide +kernel
theorem dX3_isLoop_6 : decode cX3_isLoop 6 = .ok (.imul, 1) := by decide +kernel
theorem dX3_isLoop_7 : decode cX3_isLoop 7 = .ok (.iaload, 1) := by decide +kernel
theorem dX3_isLoop_8 : decode cX3_isLoop 8 = .ok (.aload_n 0, 1) := by decide +kernel
theorem dX3_isLoop_9 : decode cX3_isLoop 9 = .ok (.getfield 9, 3) := by decide +kernel
theorem dX3_isLoop_12 : decode cX3_isLoop 12 = .ok (.iconst 2, 1) := by decide +kernel
theorem dX3_isLoop_13 : decode cX3_isLoop 13 = .ok (.iload_n 1, 1) := by decide +kernel
theorem dX3_isLoop_14 : decode cX3_isLoop 14 = .ok (.imul, 1) := by decide +kernel
theorem dX3_isLoop_15 : decode cX3_isLoop 15 = .ok (.iconst 1, 1) := by decide +kernel
theorem dX3_isLoop_16 : decode cX3_isLoop 16 = .ok (.iadd, 1) := by decide +kernel
theorem dX3_isLoop_17 : decode cX3_isLoop 17 = .ok (.iaload, 1) := by decide +kernel
theorem dX3_isLoop_18 : decode cX3_isLoop 18 = .ok (.if_icmp .ne 7, 3) := by decide +kernel
theorem dX3_isLoop_21 : decode cX3_isLoop 21 = .ok (.iconst 1, 1) := by decide +kernel
theorem dX3_isLoop_22 : decode cX3_isLoop 22 = .ok (.goto 4, 3) := by decide +kernel
theorem dX3_isLoop_25 : decode cX3_isLoop 25 = .ok (.iconst 0, 1) := by decide +kernel
theorem dX3_isLoop_26 : decode cX3_isLoop 26 = .ok (.ireturn, 1) := by decide +kernel
theorem dX5_leave_0 : decode cX5_leave 0 = .ok (.aload_n 0, 1) := by decide +kernel
theorem dX5_leave_1 : decode cX5_leave 1 = .ok (.getfield 25, 3) := by decide +kernel
theorem dX5_leave_4 : decode cX5_leave 4 = .ok (.iload_n 1, 1) := by decide +kernel
theorem dX5_leave_5 : decode cX5_leave 5 = .ok (.dup2, 1) := by decide +kernel
theorem dX5_leave_6 : decode cX5_leave 6 = .ok (.laload, 1) := by decide +kernel
theorem dX5_leave_7 : decode cX5_leave 7 = .ok (.aload_n 0, 1) := by decide +kernel
theorem dX5_leave_8 : decode cX5_leave 8 = .ok (.getfield 21, 3) := by decide +kernel
theorem dX5_leave_11 : decode cX5_leave 11 = .ok (.iload_n 1, 1) := by decide +kernel
theorem dX5_leave_12 : decode cX5_leave 12 = .ok (.laload, 1) := by decide +kernel
theorem dX5_leave_13 : decode cX5_leave 13 = .ok (.lor, 1) := by decide +kernel
theorem dX5_leave_14 : decode cX5_leave 14 = .ok (.lastore, 1) := by decide +kernel
theorem dX5_leave_15 : decode cX5_leave 15 = .ok (.aload_n 0, 1) := by decide +kernel
theorem dX5_leave_16 : decode cX5_leave 16 = .ok (.getfield 15, 3) := by decide +kernel
theorem dX5_leave_19 : decode cX5_leave 19 = .ok (.iload_n 1, 1) := by decide +kernel
theorem dX5_leave_20 : decode cX5_leave 20 = .ok (.iaload, 1) := by decide +kernel
theorem dX5_leave_21 : decode cX5_leave 21 = .ok (.ifCond .lt 23, 3) := by decide +kernel
theorem dX5_leave_24 : decode cX5_leave 24 = .ok (.aload_n 0, 1) := by decide +kernel
theorem dX5_leave_25 : decode cX5_leave 25 = .ok (.getfield 25, 3) := by decide +kernel
theorem dX5_leave_28 : decode cX5_leave 28 = .ok (.aload_n 0, 1) := by decide +kernel
theorem dX5_leave_29 : decode cX5_leave 29 = .ok (.getfield 15, 3) := by decide +kernel
theorem dX5_leave_32 : decode cX5_leave 32 = .ok (.iload_n 1, 1) := by decide +kernel
theorem dX5_leave_33 : decode cX5_leave 33 = .ok (.iaload, 1) := by decide +kernel
theorem dX5_leave_34 : decode cX5_leave 34 = .ok (.dup2, 1) := by decide +kernel
theorem dX5_leave_35 : decode cX5_leave 35 = .ok (.laload, 1) := by decide +kernel
theorem dX5_leave_36 : decode cX5_leave 36 = .ok (.aload_n 0, 1) := by decide +kernel
theorem dX5_leave_37 : decode cX5_leave 37 = .ok (.getfield 25, 3) := by decide +kernel
theorem dX5_leave_40 : decode cX5_leave 40 = .ok (.iload_n 1, 1) := by decide +kernel
theorem dX5_leave_41 : decode cX5_leave 41 = .ok (.laload, 1) := by decide +kernel
theorem dX5_leave_42 : decode cX5_leave 42 = .ok (.lor, 1) := by decide +kernel
theorem dX5_leave_43 : decode cX5_leave 43 = .ok (.lastore, 1) := by decide +kernel
theorem dX5_leave_44 : decode cX5_leave 44 = .ok (.aload_n 0, 1) := by decide +kernel
theorem dX5_leave_45 : decode cX5_leave 45 = .ok (.getfield 15, 3) := by decide +kernel
theorem dX5_leave_48 : decode cX5_leave 48 = .ok (.iload_n 1, 1) := by decide +kernel
theorem dX5_leave_49 : decode cX5_leave 49 = .ok (.iaload, 1) := by decide +kernel
theorem dX5_leave_50 : decode cX5_leave 50 = .ok (.ireturn, 1) := by decide +kernel
theorem dX6_addFace_0 : decode cX6_addFace 0 = .ok (.aload_n 0, 1) := by decide +kernel
theorem dX6_addFace_1 : decode cX6_addFace 1 = .ok (.getfield 9, 3) := by decide +kernel
theorem dX6_addFace_4 : decode cX6_addFace 4 = .ok (.iload_n 1, 1) := by decide +kernel
theorem dX6_addFace_5 : decode cX6_addFace 5 = .ok (.bipush 20, 2) := by decide +kernel
theorem dX6_addFace_7 : decode cX6_addFace 7 = .ok (.imul, 1) := by decide +kernel
theorem dX6_addFace_8 : decode cX6_addFace 8 = .ok (.iload_n 2, 1) := by decide +kernel
theorem dX6_addFace_9 : decode cX6_addFace 9 = .ok (.iadd, 1) := by decide +kernel
theorem dX6_addFace_10 : decode cX6_addFace 10 = .ok (.dup2, 1) := by decide +kernel
theorem dX6_addFace_11 : decode cX6_addFace 11 = .ok (.iaload, 1) := by decide +kernel
theorem dX6_addFace_12 : decode cX6_addFace 12 = .ok (.iconst 1, 1) := by decide +kernel
theorem dX6_addFace_13 : decode cX6_addFace 13 = .ok (.iload_n 3, 1) := by decide +kernel
theorem dX6_addFace_14 : decode cX6_addFace 14 = .ok (.ishl, 1) := by decide +kernel
theorem dX6_addFace_15 : decode cX6_addFace 15 = .ok (.ior, 1) := by decide +kernel
theorem dX6_addFace_16 : decode cX6_addFace 16 = .ok (.iastore, 1) := by decide +kernel
theorem dX6_addFace_17 : decode cX6_addFace 17 = .ok (.aload_n 0, 1) := by decide +kernel
theorem dX6_addFace_18 : decode cX6_addFace 18 = .ok (.getfield 9, 3) := by decide +kernel
theorem dX6_addFace_21 : decode cX6_addFace 21 = .ok (.iload_n 2, 1) := by decide +kernel
theorem dX6_addFace_22 : decode cX6_addFace 22 = .ok (.bipush 20, 2) := by decide +kernel
theorem dX6_addFace_24 : decode cX6_addFace 24 = .ok (.imul, 1) := by decide +kernel
theorem dX6_addFace_25 : decode cX6_addFace 25 = .ok (.iload_n 1, 1) := by decide +kernel
theorem dX6_addFace_26 : decode cX6_addFace 26 = .ok (.iadd, 1) := by decide +kernel
theorem dX6_addFace_27 : decode cX6_addFace 27 = .ok (.dup2, 1) := by decide +kernel
theorem dX6_addFace_28 : decode cX6_addFace 28 = .ok (.iaload, 1) := by decide +kernel
theorem dX6_addFace_29 : decode cX6_addFace 29 = .ok (.iconst 1, 1) := by decide +kernel
theorem dX6_addFace_30 : decode cX6_addFace 30 = .ok (.iload_n 3, 1) := by decide +kernel
theorem dX6_addFace_31 : decode cX6_addFace 31 = .ok (.ishl, 1) := by decide +kernel
theorem dX6_addFace_32 : decode cX6_addFace 32 = .ok (.ior, 1) := by decide +kernel
theorem dX6_addFace_33 : decode cX6_addFace 33 = .ok (.iastore, 1) := by decide +kernel
theorem dX6_addFace_34 : decode cX6_addFace 34 = .ok (.return_, 1) := by decide +kernel
theorem dX6_behind_0 : decode cX6_behind 0 = .ok (.iload_n 2, 1) := by decide +kernel
theorem dX6_behind_1 : decode cX6_behind 1 = .ok (.ifCond .lt 23, 3) := by decide +kernel
theorem dX6_behind_4 : decode cX6_behind 4 = .ok (.iload_n 2, 1) := by decide +kernel
theorem dX6_behind_5 : decode cX6_behind 5 = .ok (.bipush 20, 2) := by decide +kernel
theorem dX6_behind_7 : decode cX6_behind 7 = .ok (.if_icmp .ge 17, 3) := by decide +kernel
theorem dX6_behind_10 : decode cX6_behind 10 = .ok (.aload_n 0, 1) := by decide +kernel
theorem dX6_behind_11 : decode cX6_behind 11 = .ok (.getfield 15, 3) := by decide +kernel
theorem dX6_behind_14 : decode cX6_behind 14 = .ok (.iload_n 1, 1) := by decide +kernel
theorem dX6_behind_15 : decode cX6_behind 15 = .ok (.bipush 20, 2) := by decide +kernel
theorem dX6_behind_17 : decode cX6_behind 17 = .ok (.imul, 1) := by decide +kernel
theorem dX6_behind_18 : decode cX6_behind 18 = .ok (.iload_n 2, 1) := by decide +kernel
theorem dX6_behind_19 : decode cX6_behind 19 = .ok (.iadd, 1) := by decide +kernel
theorem dX6_behind_20 : decode cX6_behind 20 = .ok (.iaload, 1) := by decide +kernel
theorem dX6_behind_21 : decode cX6_behind 21 = .ok (.goto 4, 3) := by decide +kernel
theorem dX6_behind_24 : decode cX6_behind 24 = .ok (.iconst (-1), 1) := by decide +kernel
theorem dX6_behind_25 : decode cX6_behind 25 = .ok (.ireturn, 1) := by decide +kernel
theorem dX6_setFace_0 : decode cX6_setFace 0 = .ok (.aload_n 0, 1) := by decide +kernel
theorem dX6_setFace_1 : decode cX6_setFace 1 = .ok (.getfield 15, 3) := by decide +kernel
theorem dX6_setFace_4 : decode cX6_setFace 4 = .ok (.iload_n 1, 1) := by decide +kernel
theorem dX6_setFace_5 : decode cX6_setFace 5 = .ok (.bipush 20, 2) := by decide +kernel
theorem dX6_setFace_7 : decode cX6_setFace 7 = .ok (.imul, 1) := by decide +kernel
theorem dX6_setFace_8 : decode cX6_setFace 8 = .ok (.iload_n 2, 1) := by decide +kernel
theorem dX6_setFace_9 : decode cX6_setFace 9 = .ok (.iadd, 1) := by decide +kernel
theorem dX6_setFace_10 : decode cX6_setFace 10 = .ok (.iload_n 3, 1) := by decide +kernel
theorem dX6_setFace_11 : decode cX6_setFace 11 = .ok (.iastore, 1) := by decide +kernel
theorem dX6_setFace_12 : decode cX6_setFace 12 = .ok (.aload_n 0, 1) := by decide +kernel
theorem dX6_setFace_13 : decode cX6_setFace 13 = .ok (.getfield 15, 3) := by decide +kernel
theorem dX6_setFace_16 : decode cX6_setFace 16 = .ok (.iload_n 2, 1) := by decide +kernel
theorem dX6_setFace_17 : decode cX6_setFace 17 = .ok (.bipush 20, 2) := by decide +kernel
theorem dX6_setFace_19 : decode cX6_setFace 19 = .ok (.imul, 1) := by decide +kernel
theorem dX6_setFace_20 : decode cX6_setFace 20 = .ok (.iload_n 3, 1) := by decide +kernel
theorem dX6_setFace_21 : decode cX6_setFace 21 = .ok (.iadd, 1) := by decide +kernel
theorem dX6_setFace_22 : decode cX6_setFace 22 = .ok (.iload_n 1, 1) := by decide +kernel
theorem dX6_setFace_23 : decode cX6_setFace 23 = .ok (.iastore, 1) := by decide +kernel
theorem dX6_setFace_24 : decode cX6_setFace 24 = .ok (.aload_n 0, 1) := by decide +kernel
theorem dX6_setFace_25 : decode cX6_setFace 25 = .ok (.getfield 15, 3) := by decide +kernel
theorem dX6_setFace_28 : decode cX6_setFace 28 = .ok (.iload_n 3, 1) := by decide +kernel
theorem dX6_setFace_29 : decode cX6_setFace 29 = .ok (.bipush 20, 2) := by decide +kernel
theorem dX6_setFace_31 : decode cX6_setFace 31 = .ok (.imul, 1) := by decide +kernel
theorem dX6_setFace_32 : decode cX6_setFace 32 = .ok (.iload_n 1, 1) := by decide +kernel
theorem dX6_setFace_33 : decode cX6_setFace 33 = .ok (.iadd, 1) := by decide +kernel
theorem dX6_setFace_34 : decode cX6_setFace 34 = .ok (.iload_n 2, 1) := by decide +kernel
theorem dX6_setFace_35 : decode cX6_setFace 35 = .ok (.iastore, 1) := by decide +kernel
theorem dX6_setFace_36 : decode cX6_setFace 36 = .ok (.return_, 1) := by decide +kernel
theorem dX6_thirdsOf_0 : decode cX6_thirdsOf 0 = .ok (.aload_n 0, 1) := by decide +kernel
theorem dX6_thirdsOf_1 : decode cX6_thirdsOf 1 = .ok (.getfield 9, 3) := by decide +kernel
theorem dX6_thirdsOf_4 : decode cX6_thirdsOf 4 = .ok (.iload_n 1, 1) := by decide +kernel
theorem dX6_thirdsOf_5 : decode cX6_thirdsOf 5 = .ok (.bipush 20, 2) := by decide +kernel
theorem dX6_thirdsOf_7 : decode cX6_thirdsOf 7 = .ok (.imul, 1) := by decide +kernel
theorem dX6_thirdsOf_8 : decode cX6_thirdsOf 8 = .ok (.iload_n 2, 1) := by decide +kernel
theorem dX6_thirdsOf_9 : decode cX6_thirdsOf 9 = .ok (.iadd, 1) := by decide +kernel
theorem dX6_thirdsOf_10 : decode cX6_thirdsOf 10 = .ok (.iaload, 1) := by decide +kernel
theorem dX6_thirdsOf_11 : decode cX6_thirdsOf 11 = .ok (.ireturn, 1) := by decide +kernel
theorem dX7_exchange_0 : decode cX7_exchange 0 = .ok (.aload_n 0, 1) := by decide +kernel
theorem dX7_exchange_1 : decode cX7_exchange 1 = .ok (.getfield 9, 3) := by decide +kernel
theorem dX7_exchange_4 : decode cX7_exchange 4 = .ok (.aload_n 0, 1) := by decide +kernel
theorem dX7_exchange_5 : decode cX7_exchange 5 = .ok (.getfield 15, 3) := by decide +kernel
theorem dX7_exchange_8 : decode cX7_exchange 8 = .ok (.iload_n 1, 1) := by decide +kernel
theorem dX7_exchange_9 : decode cX7_exchange 9 = .ok (.iaload, 1) := by decide +kernel
theorem dX7_exchange_10 : decode cX7_exchange 10 = .ok (.iload_n 2, 1) := by decide +kernel
theorem dX7_exchange_11 : decode cX7_exchange 11 = .ok (.iadd, 1) := by decide +kernel
theorem dX7_exchange_12 : decode cX7_exchange 12 = .ok (.iaload, 1) := by decide +kernel
theorem dX7_exchange_13 : decode cX7_exchange 13 = .ok (.istore 4, 2) := by decide +kernel
theorem dX7_exchange_15 : decode cX7_exchange 15 = .ok (.aload_n 0, 1) := by decide +kernel
theorem dX7_exchange_16 : decode cX7_exchange 16 = .ok (.getfield 9, 3) := by decide +kernel
theorem dX7_exchange_19 : decode cX7_exchange 19 = .ok (.aload_n 0, 1) := by decide +kernel
theorem dX7_exchange_20 : decode cX7_exchange 20 = .ok (.getfield 15, 3) := by decide +kernel
theorem dX7_exchange_23 : decode cX7_exchange 23 = .ok (.iload_n 1, 1) := by decide +kernel
theorem dX7_exchange_24 : decode cX7_exchange 24 = .ok (.iaload, 1) := by decide +kernel
theorem dX7_exchange_25 : decode cX7_exchange 25 = .ok (.iload_n 2, 1) := by decide +kernel
theorem dX7_exchange_26 : decode cX7_exchange 26 = .ok (.iadd, 1) := by decide +kernel
theorem dX7_exchange_27 : decode cX7_exchange 27 = .ok (.aload_n 0, 1) := by decide +kernel
theorem dX7_exchange_28 : decode cX7_exchange 28 = .ok (.getfield 9, 3) := by decide +kernel
theorem dX7_exchange_31 : decode cX7_exchange 31 = .ok (.aload_n 0, 1) := by decide +kernel
theorem dX7_exchange_32 : decode cX7_exchange 32 = .ok (.getfield 15, 3) := by decide +kernel
theorem dX7_exchange_35 : decode cX7_exchange 35 = .ok (.iload_n 1, 1) := by decide +kernel
theorem dX7_exchange_36 : decode cX7_exchange 36 = .ok (.iaload, 1) := by decide +kernel
theorem dX7_exchange_37 : decode cX7_exchange 37 = .ok (.iload_n 3, 1) := by decide +kernel
theorem dX7_exchange_38 : decode cX7_exchange 38 = .ok (.iadd, 1) := by decide +kernel
theorem dX7_exchange_39 : decode cX7_exchange 39 = .ok (.iaload, 1) := by decide +kernel
theorem dX7_exchange_40 : decode cX7_exchange 40 = .ok (.iastore, 1) := by decide +kernel
theorem dX7_exchange_41 : decode cX7_exchange 41 = .ok (.aload_n 0, 1) := by decide +kernel
theorem dX7_exchange_42 : decode cX7_exchange 42 = .ok (.getfield 9, 3) := by decide +kernel
theorem dX7_exchange_45 : decode cX7_exchange 45 = .ok (.aload_n 0, 1) := by decide +kernel
theorem dX7_exchange_46 : decode cX7_exchange 46 = .ok (.getfield 15, 3) := by decide +kernel
theorem dX7_exchange_49 : decode cX7_exchange 49 = .ok (.iload_n 1, 1) := by decide +kernel
theorem dX7_exchange_50 : decode cX7_exchange 50 = .ok (.iaload, 1) := by decide +kernel
theorem dX7_exchange_51 : decode cX7_exchange 51 = .ok (.iload_n 3, 1) := by decide +kernel
theorem dX7_exchange_52 : decode cX7_exchange 52 = .ok (.iadd, 1) := by decide +kernel
theorem dX7_exchange_53 : decode cX7_exchange 53 = .ok (.iload 4, 2) := by decide +kernel
theorem dX7_exchange_55 : decode cX7_exchange 55 = .ok (.iastore, 1) := by decide +kernel
theorem dX7_exchange_56 : decode cX7_exchange 56 = .ok (.return_, 1) := by decide +kernel
theorem dX7_get_0 : decode cX7_get 0 = .ok (.aload_n 0, 1) := by decide +kernel
theorem dX7_get_1 : decode cX7_get 1 = .ok (.getfield 9, 3) := by decide +kernel
theorem dX7_get_4 : decode cX7_get 4 = .ok (.aload_n 0, 1) := by decide +kernel
theorem dX7_get_5 : decode cX7_get 5 = .ok (.getfield 15, 3) := by decide +kernel
theorem dX7_get_8 : decode cX7_get 8 = .ok (.iload_n 1, 1) := by decide +kernel
theorem dX7_get_9 : decode cX7_get 9 = .ok (.iaload, 1) := by decide +kernel
theorem dX7_get_10 : decode cX7_get 10 = .ok (.iload_n 2, 1) := by decide +kernel
theorem dX7_get_11 : decode cX7_get 11 = .ok (.iadd, 1) := by decide +kernel
theorem dX7_get_12 : decode cX7_get 12 = .ok (.iaload, 1) := by decide +kernel
theorem dX7_get_13 : decode cX7_get 13 = .ok (.ireturn, 1) := by decide +kernel
theorem dX7_has_12 : decode cX7_has 12 = .ok (.iload_n 2, 1) := by decide +kernel
theorem dX7_has_13 : decode cX7_has 13 = .ok (.ifCond .lt 16, 3) := by decide +kernel
theorem dX7_has_16 : decode cX7_has 16 = .ok (.iload_n 2, 1) := by decide +kernel
theorem dX7_has_17 : decode cX7_has 17 = .ok (.aload_n 0, 1) := by decide +kernel
theorem dX7_has_18 : decode cX7_has 18 = .ok (.iload_n 1, 1) := by decide +kernel
theorem dX7_has_19 : decode cX7_has 19 = .ok (.invokevirtual 22, 3) := by decide +kernel
theorem dX7_has_22 : decode cX7_has 22 = .ok (.if_icmp .ge 7, 3) := by decide +kernel
theorem dX7_has_25 : decode cX7_has 25 = .ok (.iconst 1, 1) := by decide +kernel
theorem dX7_has_26 : decode cX7_has 26 = .ok (.goto 4, 3) := by decide +kernel
theorem dX7_size_0 : decode cX7_size 0 = .ok (.aload_n 0, 1) := by decide +kernel
theorem dX7_size_1 : decode cX7_size 1 = .ok (.getfield 15, 3) := by decide +kernel
theorem dX7_size_4 : decode cX7_size 4 = .ok (.iload_n 1, 1) := by decide +kernel
theorem dX7_size_5 : decode cX7_size 5 = .ok (.iconst 1, 1) := by decide +kernel
theorem dX7_size_6 : decode cX7_size 6 = .ok (.iadd, 1) := by decide +kernel
theorem dX7_size_7 : decode cX7_size 7 = .ok (.iaload, 1) := by decide +kernel
theorem dX7_size_8 : decode cX7_size 8 = .ok (.aload_n 0, 1) := by decide +kernel
theorem dX7_size_9 : decode cX7_size 9 = .ok (.getfield 15, 3) := by decide +kernel
theorem dX7_size_12 : decode cX7_size 12 = .ok (.iload_n 1, 1) := by decide +kernel
theorem dX7_size_13 : decode cX7_size 13 = .ok (.iaload, 1) := by decide +kernel
theorem dX7_size_14 : decode cX7_size 14 = .ok (.isub, 1) := by decide +kernel
theorem dX7_size_15 : decode cX7_size 15 = .ok (.ireturn, 1) := by decide +kernel
theorem dX8_degree_11 : decode cX8_degree 11 = .ok (.aload_n 0, 1) := by decide +kernel
theorem dX8_degree_12 : decode cX8_degree 12 = .ok (.getfield 19, 3) := by decide +kernel
theorem dX8_degree_15 : decode cX8_degree 15 = .ok (.iload_n 1, 1) := by decide +kernel
theorem dX8_degree_16 : decode cX8_degree 16 = .ok (.invokevirtual 138, 3) := by decide +kernel
theorem dX8_degree_19 : decode cX8_degree 19 = .ok (.goto 4, 3) := by decide +kernel
theorem dX8_hasBit_0 : decode cX8_hasBit 0 = .ok (.iload_n 0, 1) := by decide +kernel
theorem dX8_hasBit_1 : decode cX8_hasBit 1 = .ok (.iload_n 1, 1) := by decide +kernel
theorem dX8_hasBit_2 : decode cX8_hasBit 2 = .ok (.iushr, 1) := by decide +kernel
theorem dX8_hasBit_3 : decode cX8_hasBit 3 = .ok (.iconst 1, 1) := by decide +kernel
theorem dX8_hasBit_4 : decode cX8_hasBit 4 = .ok (.iand, 1) := by decide +kernel
theorem dX8_hasBit_5 : decode cX8_hasBit 5 = .ok (.ifCond .eq 7, 3) := by decide +kernel
theorem dX8_hasBit_8 : decode cX8_hasBit 8 = .ok (.iconst 1, 1) := by decide +kernel
theorem dX8_hasBit_9 : decode cX8_hasBit 9 = .ok (.goto 4, 3) := by decide +kernel
theorem dX8_hasBit_12 : decode cX8_hasBit 12 = .ok (.iconst 0, 1) := by decide +kernel
theorem dX8_hasBit_13 : decode cX8_hasBit 13 = .ok (.ireturn, 1) := by decide +kernel
theorem dX8_node_12 : decode cX8_node 12 = .ok (.bipush (-4), 2) := by decide +kernel
theorem dX8_node_14 : decode cX8_node 14 = .ok (.ireturn, 1) := by decide +kernel
theorem dX8_swap_11 : decode cX8_swap 11 = .ok (.aload_n 0, 1) := by decide +kernel
theorem dX8_swap_12 : decode cX8_swap 12 = .ok (.getfield 19, 3) := by decide +kernel
theorem dX8_swap_15 : decode cX8_swap 15 = .ok (.iload_n 1, 1) := by decide +kernel
theorem dX8_swap_16 : decode cX8_swap 16 = .ok (.iload_n 2, 1) := by decide +kernel
theorem dX8_swap_17 : decode cX8_swap 17 = .ok (.invokevirtual 147, 3) := by decide +kernel
theorem dX8_swap_20 : decode cX8_swap 20 = .ok (.ifCond .eq 15, 3) := by decide +kernel
theorem dX8_swap_23 : decode cX8_swap 23 = .ok (.aload_n 0, 1) := by decide +kernel
theorem dX8_swap_24 : decode cX8_swap 24 = .ok (.getfield 19, 3) := by decide +kernel
theorem dX8_swap_27 : decode cX8_swap 27 = .ok (.iload_n 1, 1) := by decide +kernel
theorem dX8_swap_28 : decode cX8_swap 28 = .ok (.iload_n 3, 1) := by decide +kernel
theorem dX8_swap_29 : decode cX8_swap 29 = .ok (.invokevirtual 147, 3) := by decide +kernel
theorem dX8_swap_32 : decode cX8_swap 32 = .ok (.ifCond .ne 5, 3) := by decide +kernel
theorem dX8_swap_37 : decode cX8_swap 37 = .ok (.aload_n 0, 1) := by decide +kernel
theorem dX8_swap_38 : decode cX8_swap 38 = .ok (.getfield 19, 3) := by decide +kernel
theorem dX8_swap_41 : decode cX8_swap 41 = .ok (.iload_n 1, 1) := by decide +kernel
theorem dX8_swap_42 : decode cX8_swap 42 = .ok (.iload_n 2, 1) := by decide +kernel
theorem dX8_swap_43 : decode cX8_swap 43 = .ok (.iload_n 3, 1) := by decide +kernel
theorem dX8_swap_44 : decode cX8_swap 44 = .ok (.invokevirtual 225, 3) := by decide +kernel
theorem dX8_swap_47 : decode cX8_swap 47 = .ok (.iconst 1, 1) := by decide +kernel
theorem dX8_swap_48 : decode cX8_swap 48 = .ok (.ireturn, 1) := by decide +kernel
theorem dX8_told_11 : decode cX8_told 11 = .ok (.aload_n 0, 1) := by decide +kernel
theorem dX8_told_12 : decode cX8_told 12 = .ok (.getfield 19, 3) := by decide +kernel
theorem dX8_told_15 : decode cX8_told 15 = .ok (.iload_n 1, 1) := by decide +kernel
theorem dX8_told_16 : decode cX8_told 16 = .ok (.iload_n 2, 1) := by decide +kernel
theorem dX8_told_17 : decode cX8_told 17 = .ok (.invokevirtual 147, 3) := by decide +kernel
theorem dX8_told_20 : decode cX8_told 20 = .ok (.ifCond .ne 5, 3) := by decide +kernel
theorem dX8_told_25 : decode cX8_told 25 = .ok (.aload_n 0, 1) := by decide +kernel
theorem dX8_told_26 : decode cX8_told 26 = .ok (.getfield 19, 3) := by decide +kernel
theorem dX8_told_29 : decode cX8_told 29 = .ok (.iload_n 1, 1) := by decide +kernel
theorem dX8_told_30 : decode cX8_told 30 = .ok (.iload_n 2, 1) := by decide +kernel
theorem dX8_told_31 : decode cX8_told 31 = .ok (.invokevirtual 151, 3) := by decide +kernel
theorem dX8_told_34 : decode cX8_told 34 = .ok (.ireturn, 1) := by decide +kernel
theorem dX9_append_0 : decode cX9_append 0 = .ok (.aload_n 0, 1) := by decide +kernel
theorem dX9_append_1 : decode cX9_append 1 = .ok (.getfield 20, 3) := by decide +kernel
theorem dX9_append_4 : decode cX9_append 4 = .ok (.sipush 160, 3) := by decide +kernel
theorem dX9_append_7 : decode cX9_append 7 = .ok (.iload_n 1, 1) := by decide +kernel
theorem dX9_append_8 : decode cX9_append 8 = .ok (.imul, 1) := by decide +kernel
theorem dX9_append_9 : decode cX9_append 9 = .ok (.aload_n 0, 1) := by decide +kernel
theorem dX9_append_10 : decode cX9_append 10 = .ok (.getfield 23, 3) := by decide +kernel
theorem dX9_append_13 : decode cX9_append 13 = .ok (.iload_n 1, 1) := by decide +kernel
theorem dX9_append_14 : decode cX9_append 14 = .ok (.iaload, 1) := by decide +kernel
theorem dX9_append_15 : decode cX9_append 15 = .ok (.iadd, 1) := by decide +kernel
theorem dX9_append_16 : decode cX9_append 16 = .ok (.iload_n 2, 1) := by decide +kernel
theorem dX9_append_17 : decode cX9_append 17 = .ok (.iastore, 1) := by decide +kernel
theorem dX9_append_18 : decode cX9_append 18 = .ok (.aload_n 0, 1) := by decide +kernel
theorem dX9_append_19 : decode cX9_append 19 = .ok (.getfield 23, 3) := by decide +kernel
theorem dX9_append_22 : decode cX9_append 22 = .ok (.iload_n 1, 1) := by decide +kernel
theorem dX9_append_23 : decode cX9_append 23 = .ok (.dup2, 1) := by decide +kernel
theorem dX9_append_24 : decode cX9_append 24 = .ok (.iaload, 1) := by decide +kernel
theorem dX9_append_25 : decode cX9_append 25 = .ok (.iconst 1, 1) := by decide +kernel
theorem dX9_append_26 : decode cX9_append 26 = .ok (.iadd, 1) := by decide +kernel
theorem dX9_append_27 : decode cX9_append 27 = .ok (.iastore, 1) := by decide +kernel
theorem dX9_append_28 : decode cX9_append 28 = .ok (.return_, 1) := by decide +kernel
theorem dX9_arc_8 : decode cX9_arc 8 = .ok (.aload_n 0, 1) := by decide +kernel
theorem dX9_arc_9 : decode cX9_arc 9 = .ok (.iload_n 2, 1) := by decide +kernel
theorem dX9_arc_10 : decode cX9_arc 10 = .ok (.invokevirtual 302, 3) := by decide +kernel
theorem dX9_arc_13 : decode cX9_arc 13 = .ok (.ifCond .ne 5, 3) := by decide +kernel
theorem dX9_arc_18 : decode cX9_arc 18 = .ok (.aload_n 0, 1) := by decide +kernel
theorem dX9_arc_19 : decode cX9_arc 19 = .ok (.getfield 213, 3) := by decide +kernel
theorem dX9_arc_22 : decode cX9_arc 22 = .ok (.bipush 80, 2) := by decide +kernel
theorem dX9_arc_24 : decode cX9_arc 24 = .ok (.if_icmp .ne 6, 3) := by decide +kernel
theorem dX9_arc_27 : decode cX9_arc 27 = .ok (.bipush (-4), 2) := by decide +kernel
theorem dX9_arc_29 : decode cX9_arc 29 = .ok (.ireturn, 1) := by decide +kernel
theorem dX9_arc_30 : decode cX9_arc 30 = .ok (.aload_n 0, 1) := by decide +kernel
theorem dX9_arc_31 : decode cX9_arc 31 = .ok (.getfield 7, 3) := by decide +kernel
theorem dX9_arc_34 : decode cX9_arc 34 = .ok (.aload_n 0, 1) := by decide +kernel
theorem dX9_arc_35 : decode cX9_arc 35 = .ok (.getfield 213, 3) := by decide +kernel
theorem dX9_arc_38 : decode cX9_arc 38 = .ok (.iload_n 1, 1) := by decide +kernel
theorem dX9_arc_39 : decode cX9_arc 39 = .ok (.iastore, 1) := by decide +kernel
theorem dX9_arc_40 : decode cX9_arc 40 = .ok (.aload_n 0, 1) := by decide +kernel
theorem dX9_arc_41 : decode cX9_arc 41 = .ok (.getfield 13, 3) := by decide +kernel
theorem dX9_arc_44 : decode cX9_arc 44 = .ok (.aload_n 0, 1) := by decide +kernel
theorem dX9_arc_45 : decode cX9_arc 45 = .ok (.getfield 213, 3) := by decide +kernel
theorem dX9_arc_48 : decode cX9_arc 48 = .ok (.iload_n 2, 1) := by decide +kernel
theorem dX9_arc_49 : decode cX9_arc 49 = .ok (.iastore, 1) := by decide +kernel
theorem dX9_arc_50 : decode cX9_arc 50 = .ok (.aload_n 0, 1) := by decide +kernel
theorem dX9_arc_51 : decode cX9_arc 51 = .ok (.getfield 16, 3) := by decide +kernel
theorem dX9_arc_54 : decode cX9_arc 54 = .ok (.aload_n 0, 1) := by decide +kernel
theorem dX9_arc_55 : decode cX9_arc 55 = .ok (.getfield 213, 3) := by decide +kernel
theorem dX9_arc_58 : decode cX9_arc 58 = .ok (.iconst 1, 1) := by decide +kernel
theorem dX9_arc_59 : decode cX9_arc 59 = .ok (.bastore, 1) := by decide +kernel
theorem dX9_arc_60 : decode cX9_arc 60 = .ok (.aload_n 0, 1) := by decide +kernel
theorem dX9_arc_61 : decode cX9_arc 61 = .ok (.iload_n 1, 1) := by decide +kernel
theorem dX9_arc_62 : decode cX9_arc 62 = .ok (.iconst 2, 1) := by decide +kernel
theorem dX9_arc_63 : decode cX9_arc 63 = .ok (.aload_n 0, 1) := by decide +kernel
theorem dX9_arc_64 : decode cX9_arc 64 = .ok (.getfield 213, 3) := by decide +kernel
theorem dX9_arc_67 : decode cX9_arc 67 = .ok (.imul, 1) := by decide +kernel
theorem dX9_arc_68 : decode cX9_arc 68 = .ok (.invokevirtual 306, 3) := by decide +kernel
theorem dX9_arc_71 : decode cX9_arc 71 = .ok (.aload_n 0, 1) := by decide +kernel
theorem dX9_arc_72 : decode cX9_arc 72 = .ok (.iload_n 2, 1) := by decide +kernel
theorem dX9_arc_73 : decode cX9_arc 73 = .ok (.iconst 2, 1) := by decide +kernel
theorem dX9_arc_74 : decode cX9_arc 74 = .ok (.aload_n 0, 1) := by decide +kernel
theorem dX9_arc_75 : decode cX9_arc 75 = .ok (.getfield 213, 3) := by decide +kernel
theorem dX9_arc_78 : decode cX9_arc 78 = .ok (.imul, 1) := by decide +kernel
theorem dX9_arc_79 : decode cX9_arc 79 = .ok (.iconst 1, 1) := by decide +kernel
theorem dX9_arc_80 : decode cX9_arc 80 = .ok (.iadd, 1) := by decide +kernel
theorem dX9_arc_81 : decode cX9_arc 81 = .ok (.invokevirtual 306, 3) := by decide +kernel
theorem dX9_arc_84 : decode cX9_arc 84 = .ok (.aload_n 0, 1) := by decide +kernel
theorem dX9_arc_85 : decode cX9_arc 85 = .ok (.dup, 1) := by decide +kernel
theorem dX9_arc_86 : decode cX9_arc 86 = .ok (.getfield 213, 3) := by decide +kernel
theorem dX9_arc_89 : decode cX9_arc 89 = .ok (.iconst 1, 1) := by decide +kernel
theorem dX9_arc_90 : decode cX9_arc 90 = .ok (.iadd, 1) := by decide +kernel
theorem dX9_arc_91 : decode cX9_arc 91 = .ok (.putfield 213, 3) := by decide +kernel
theorem dX9_arc_94 : decode cX9_arc 94 = .ok (.aload_n 0, 1) := by decide +kernel
theorem dX9_arc_95 : decode cX9_arc 95 = .ok (.iconst 0, 1) := by decide +kernel
theorem dX9_arc_96 : decode cX9_arc 96 = .ok (.putfield 216, 3) := by decide +kernel
theorem dX9_arc_99 : decode cX9_arc 99 = .ok (.aload_n 0, 1) := by decide +kernel
theorem dX9_arc_100 : decode cX9_arc 100 = .ok (.getfield 213, 3) := by decide +kernel
theorem dX9_arc_103 : decode cX9_arc 103 = .ok (.iconst 1, 1) := by decide +kernel
theorem dX9_arc_104 : decode cX9_arc 104 = .ok (.isub, 1) := by decide +kernel
theorem dX9_arc_105 : decode cX9_arc 105 = .ok (.ireturn, 1) := by decide +kernel
theorem dX9_degree_8 : decode cX9_degree 8 = .ok (.aload_n 0, 1) := by decide +kernel
theorem dX9_degree_9 : decode cX9_degree 9 = .ok (.getfield 23, 3) := by decide +kernel
theorem dX9_degree_12 : decode cX9_degree 12 = .ok (.iload_n 1, 1) := by decide +kernel
theorem dX9_degree_13 : decode cX9_degree 13 = .ok (.iaload, 1) := by decide +kernel
theorem dX9_degree_14 : decode cX9_degree 14 = .ok (.goto 4, 3) := by decide +kernel
theorem dX9_isArc_12 : decode cX9_isArc 12 = .ok (.aload_n 0, 1) := by decide +kernel
theorem dX9_isArc_13 : decode cX9_isArc 13 = .ok (.getfield 16, 3) := by decide +kernel
theorem dX9_isArc_16 : decode cX9_isArc 16 = .ok (.iload_n 1, 1) := by decide +kernel
theorem dX9_isArc_17 : decode cX9_isArc 17 = .ok (.baload, 1) := by decide +kernel
theorem dX9_isArc_18 : decode cX9_isArc 18 = .ok (.ifCond .eq 7, 3) := by decide +kernel
theorem dX9_isArc_21 : decode cX9_isArc 21 = .ok (.iconst 1, 1) := by decide +kernel
theorem dX9_isArc_22 : decode cX9_isArc 22 = .ok (.goto 4, 3) := by decide +kernel
theorem dX9_isNode_12 : decode cX9_isNode 12 = .ok (.iconst 1, 1) := by decide +kernel
theorem dX9_isNode_13 : decode cX9_isNode 13 = .ok (.goto 4, 3) := by decide +kernel
theorem dX9_node_9 : decode cX9_node 9 = .ok (.bipush (-4), 2) := by decide +kernel
theorem dX9_node_11 : decode cX9_node 11 = .ok (.ireturn, 1) := by decide +kernel
theorem dX9_putFace_0 : decode cX9_putFace 0 = .ok (.aload_n 0, 1) := by decide +kernel
theorem dX9_putFace_1 : decode cX9_putFace 1 = .ok (.getfield 44, 3) := by decide +kernel
theorem dX9_putFace_4 : decode cX9_putFace 4 = .ok (.bipush 21, 2) := by decide +kernel
theorem dX9_putFace_6 : decode cX9_putFace 6 = .ok (.iload_n 1, 1) := by decide +kernel
theorem dX9_putFace_7 : decode cX9_putFace 7 = .ok (.imul, 1) := by decide +kernel
theorem dX9_putFace_8 : decode cX9_putFace 8 = .ok (.iload_n 2, 1) := by decide +kernel
theorem dX9_putFace_9 : decode cX9_putFace 9 = .ok (.iadd, 1) := by decide +kernel
theorem dX9_putFace_10 : decode cX9_putFace 10 = .ok (.iload_n 3, 1) := by decide +kernel
theorem dX9_putFace_11 : decode cX9_putFace 11 = .ok (.iastore, 1) := by decide +kernel
theorem dX9_putFace_12 : decode cX9_putFace 12 = .ok (.aload_n 0, 1) := by decide +kernel
theorem dX9_putFace_13 : decode cX9_putFace 13 = .ok (.getfield 47, 3) := by decide +kernel
theorem dX9_putFace_16 : decode cX9_putFace 16 = .ok (.iload_n 1, 1) := by decide +kernel
theorem dX9_putFace_17 : decode cX9_putFace 17 = .ok (.iload_n 2, 1) := by decide +kernel
theorem dX9_putFace_18 : decode cX9_putFace 18 = .ok (.iconst 1, 1) := by decide +kernel
theorem dX9_putFace_19 : decode cX9_putFace 19 = .ok (.iadd, 1) := by decide +kernel
theorem dX9_putFace_20 : decode cX9_putFace 20 = .ok (.iastore, 1) := by decide +kernel
theorem dX9_putFace_21 : decode cX9_putFace 21 = .ok (.aload_n 0, 1) := by decide +kernel
theorem dX9_putFace_22 : decode cX9_putFace 22 = .ok (.getfield 50, 3) := by decide +kernel
theorem dX9_putFace_25 : decode cX9_putFace 25 = .ok (.iload_n 1, 1) := by decide +kernel
theorem dX9_putFace_26 : decode cX9_putFace 26 = .ok (.dup2, 1) := by decide +kernel
theorem dX9_putFace_27 : decode cX9_putFace 27 = .ok (.iaload, 1) := by decide +kernel
theorem dX9_putFace_28 : decode cX9_putFace 28 = .ok (.iconst 1, 1) := by decide +kernel
theorem dX9_putFace_29 : decode cX9_putFace 29 = .ok (.iload_n 3, 1) := by decide +kernel
theorem dX9_putFace_30 : decode cX9_putFace 30 = .ok (.ishl, 1) := by decide +kernel
theorem dX9_putFace_31 : decode cX9_putFace 31 = .ok (.ior, 1) := by decide +kernel
theorem dX9_putFace_32 : decode cX9_putFace 32 = .ok (.iastore, 1) := by decide +kernel
theorem dX9_putFace_33 : decode cX9_putFace 33 = .ok (.return_, 1) := by decide +kernel
theorem dX9_side_0 : decode cX9_side 0 = .ok (.aload_n 0, 1) := by decide +kernel
theorem dX9_side_1 : decode cX9_side 1 = .ok (.getfield 86, 3) := by decide +kernel
theorem dX9_side_4 : decode cX9_side 4 = .ok (.iload_n 2, 1) := by decide +kernel
theorem dX9_side_5 : decode cX9_side 5 = .ok (.iaload, 1) := by decide +kernel
theorem dX9_side_6 : decode cX9_side 6 = .ok (.aload_n 0, 1) := by decide +kernel
theorem dX9_side_7 : decode cX9_side 7 = .ok (.getfield 86, 3) := by decide +kernel
theorem dX9_side_10 : decode cX9_side 10 = .ok (.iload_n 1, 1) := by decide +kernel
theorem dX9_side_11 : decode cX9_side 11 = .ok (.iaload, 1) := by decide +kernel
theorem dX9_side_12 : decode cX9_side 12 = .ok (.isub, 1) := by decide +kernel
theorem dX9_side_13 : decode cX9_side 13 = .ok (.aload_n 0, 1) := by decide +kernel
theorem dX9_side_14 : decode cX9_side 14 = .ok (.getfield 89, 3) := by decide +kernel
theorem dX9_side_17 : decode cX9_side 17 = .ok (.iload_n 3, 1) := by decide +kernel
theorem dX9_side_18 : decode cX9_side 18 = .ok (.iaload, 1) := by decide +kernel
theorem dX9_side_19 : decode cX9_side 19 = .ok (.aload_n 0, 1) := by decide +kernel
theorem dX9_side_20 : decode cX9_side 20 = .ok (.getfield 89, 3) := by decide +kernel
theorem dX9_side_23 : decode cX9_side 23 = .ok (.iload_n 1, 1) := by decide +kernel
theorem dX9_side_24 : decode cX9_side 24 = .ok (.iaload, 1) := by decide +kernel
theorem dX9_side_25 : decode cX9_side 25 = .ok (.isub, 1) := by decide +kernel
theorem dX9_side_26 : decode cX9_side 26 = .ok (.imul, 1) := by decide +kernel
theorem dX9_side_27 : decode cX9_side 27 = .ok (.aload_n 0, 1) := by decide +kernel
theorem dX9_side_28 : decode cX9_side 28 = .ok (.getfield 89, 3) := by decide +kernel
theorem dX9_side_31 : decode cX9_side 31 = .ok (.iload_n 2, 1) := by decide +kernel
theorem dX9_side_32 : decode cX9_side 32 = .ok (.iaload, 1) := by decide +kernel
theorem dX9_side_33 : decode cX9_side 33 = .ok (.aload_n 0, 1) := by decide +kernel
theorem dX9_side_34 : decode cX9_side 34 = .ok (.getfield 89, 3) := by decide +kernel
theorem dX9_side_37 : decode cX9_side 37 = .ok (.iload_n 1, 1) := by decide +kernel
theorem dX9_side_38 : decode cX9_side 38 = .ok (.iaload, 1) := by decide +kernel
theorem dX9_side_39 : decode cX9_side 39 = .ok (.isub, 1) := by decide +kernel
theorem dX9_side_40 : decode cX9_side 40 = .ok (.aload_n 0, 1) := by decide +kernel
theorem dX9_side_41 : decode cX9_side 41 = .ok (.getfield 86, 3) := by decide +kernel
theorem dX9_side_44 : decode cX9_side 44 = .ok (.iload_n 3, 1) := by decide +kernel
theorem dX9_side_45 : decode cX9_side 45 = .ok (.iaload, 1) := by decide +kernel
theorem dX9_side_46 : decode cX9_side 46 = .ok (.aload_n 0, 1) := by decide +kernel
theorem dX9_side_47 : decode cX9_side 47 = .ok (.getfield 86, 3) := by decide +kernel
theorem dX9_side_50 : decode cX9_side 50 = .ok (.iload_n 1, 1) := by decide +kernel
theorem dX9_side_51 : decode cX9_side 51 = .ok (.iaload, 1) := by decide +kernel
theorem dX9_side_52 : decode cX9_side 52 = .ok (.isub, 1) := by decide +kernel
theorem dX9_side_53 : decode cX9_side 53 = .ok (.imul, 1) := by decide +kernel
theorem dX9_side_54 : decode cX9_side 54 = .ok (.isub, 1) := by decide +kernel
theorem dX9_side_55 : decode cX9_side 55 = .ok (.istore 4, 2) := by decide +kernel
theorem dX9_side_57 : decode cX9_side 57 = .ok (.iload 4, 2) := by decide +kernel
theorem dX9_side_59 : decode cX9_side 59 = .ok (.ifCond .le 7, 3) := by decide +kernel
theorem dX9_side_62 : decode cX9_side 62 = .ok (.iconst 1, 1) := by decide +kernel
theorem dX9_side_63 : decode cX9_side 63 = .ok (.goto 13, 3) := by decide +kernel
theorem dX9_side_66 : decode cX9_side 66 = .ok (.iload 4, 2) := by decide +kernel
theorem dX9_side_68 : decode cX9_side 68 = .ok (.ifCond .ge 7, 3) := by decide +kernel
theorem dX9_side_71 : decode cX9_side 71 = .ok (.iconst (-1), 1) := by decide +kernel
theorem dX9_side_72 : decode cX9_side 72 = .ok (.goto 4, 3) := by decide +kernel
theorem dX9_side_75 : decode cX9_side 75 = .ok (.iconst 0, 1) := by decide +kernel
theorem dX9_side_76 : decode cX9_side 76 = .ok (.ireturn, 1) := by decide +kernel
theorem dX9_swap_8 : decode cX9_swap 8 = .ok (.iload_n 2, 1) := by decide +kernel
theorem dX9_swap_9 : decode cX9_swap 9 = .ok (.ifCond .lt 27, 3) := by decide +kernel
theorem dX9_swap_12 : decode cX9_swap 12 = .ok (.iload_n 2, 1) := by decide +kernel
theorem dX9_swap_13 : decode cX9_swap 13 = .ok (.aload_n 0, 1) := by decide +kernel
theorem dX9_swap_14 : decode cX9_swap 14 = .ok (.getfield 23, 3) := by decide +kernel
theorem dX9_swap_17 : decode cX9_swap 17 = .ok (.iload_n 1, 1) := by decide +kernel
theorem dX9_swap_18 : decode cX9_swap 18 = .ok (.iaload, 1) := by decide +kernel
theorem dX9_swap_19 : decode cX9_swap 19 = .ok (.if_icmp .ge 17, 3) := by decide +kernel
theorem dX9_swap_22 : decode cX9_swap 22 = .ok (.iload_n 3, 1) := by decide +kernel
theorem dX9_swap_23 : decode cX9_swap 23 = .ok (.ifCond .lt 13, 3) := by decide +kernel
theorem dX9_swap_26 : decode cX9_swap 26 = .ok (.iload_n 3, 1) := by decide +kernel
theorem dX9_swap_27 : decode cX9_swap 27 = .ok (.aload_n 0, 1) := by decide +kernel
theorem dX9_swap_28 : decode cX9_swap 28 = .ok (.getfield 23, 3) := by decide +kernel
theorem dX9_swap_31 : decode cX9_swap 31 = .ok (.iload_n 1, 1) := by decide +kernel
theorem dX9_swap_32 : decode cX9_swap 32 = .ok (.iaload, 1) := by decide +kernel
theorem dX9_swap_33 : decode cX9_swap 33 = .ok (.if_icmp .lt 5, 3) := by decide +kernel
theorem dX9_swap_38 : decode cX9_swap 38 = .ok (.aload_n 0, 1) := by decide +kernel
theorem dX9_swap_39 : decode cX9_swap 39 = .ok (.getfield 20, 3) := by decide +kernel
theorem dX9_swap_42 : decode cX9_swap 42 = .ok (.sipush 160, 3) := by decide +kernel
theorem dX9_swap_45 : decode cX9_swap 45 = .ok (.iload_n 1, 1) := by decide +kernel
theorem dX9_swap_46 : decode cX9_swap 46 = .ok (.imul, 1) := by decide +kernel
theorem dX9_swap_47 : decode cX9_swap 47 = .ok (.iload_n 2, 1) := by decide +kernel
theorem dX9_swap_48 : decode cX9_swap 48 = .ok (.iadd, 1) := by decide +kernel
theorem dX9_swap_49 : decode cX9_swap 49 = .ok (.iaload, 1) := by decide +kernel
theorem dX9_swap_50 : decode cX9_swap 50 = .ok (.istore 4, 2) := by decide +kernel
theorem dX9_swap_52 : decode cX9_swap 52 = .ok (.aload_n 0, 1) := by decide +kernel
theorem dX9_swap_53 : decode cX9_swap 53 = .ok (.getfield 20, 3) := by decide +kernel
theorem dX9_swap_56 : decode cX9_swap 56 = .ok (.sipush 160, 3) := by decide +kernel
theorem dX9_swap_59 : decode cX9_swap 59 = .ok (.iload_n 1, 1) := by decide +kernel
theorem dX9_swap_60 : decode cX9_swap 60 = .ok (.imul, 1) := by decide +kernel
theorem dX9_swap_61 : decode cX9_swap 61 = .ok (.iload_n 2, 1) := by decide +kernel
theorem dX9_swap_62 : decode cX9_swap 62 = .ok (.iadd, 1) := by decide +kernel
theorem dX9_swap_63 : decode cX9_swap 63 = .ok (.aload_n 0, 1) := by decide +kernel
theorem dX9_swap_64 : decode cX9_swap 64 = .ok (.getfield 20, 3) := by decide +kernel
theorem dX9_swap_67 : decode cX9_swap 67 = .ok (.sipush 160, 3) := by decide +kernel
theorem dX9_swap_70 : decode cX9_swap 70 = .ok (.iload_n 1, 1) := by decide +kernel
theorem dX9_swap_71 : decode cX9_swap 71 = .ok (.imul, 1) := by decide +kernel
theorem dX9_swap_72 : decode cX9_swap 72 = .ok (.iload_n 3, 1) := by decide +kernel
theorem dX9_swap_73 : decode cX9_swap 73 = .ok (.iadd, 1) := by decide +kernel
theorem dX9_swap_74 : decode cX9_swap 74 = .ok (.iaload, 1) := by decide +kernel
theorem dX9_swap_75 : decode cX9_swap 75 = .ok (.iastore, 1) := by decide +kernel
theorem dX9_swap_76 : decode cX9_swap 76 = .ok (.aload_n 0, 1) := by decide +kernel
theorem dX9_swap_77 : decode cX9_swap 77 = .ok (.getfield 20, 3) := by decide +kernel
theorem dX9_swap_80 : decode cX9_swap 80 = .ok (.sipush 160, 3) := by decide +kernel
theorem dX9_swap_83 : decode cX9_swap 83 = .ok (.iload_n 1, 1) := by decide +kernel
theorem dX9_swap_84 : decode cX9_swap 84 = .ok (.imul, 1) := by decide +kernel
theorem dX9_swap_85 : decode cX9_swap 85 = .ok (.iload_n 3, 1) := by decide +kernel
theorem dX9_swap_86 : decode cX9_swap 86 = .ok (.iadd, 1) := by decide +kernel
theorem dX9_swap_87 : decode cX9_swap 87 = .ok (.iload 4, 2) := by decide +kernel
theorem dX9_swap_89 : decode cX9_swap 89 = .ok (.iastore, 1) := by decide +kernel
theorem dX9_swap_90 : decode cX9_swap 90 = .ok (.iconst 1, 1) := by decide +kernel
theorem dX9_swap_91 : decode cX9_swap 91 = .ok (.ireturn, 1) := by decide +kernel
theorem dX9_told_8 : decode cX9_told 8 = .ok (.iload_n 2, 1) := by decide +kernel
theorem dX9_told_9 : decode cX9_told 9 = .ok (.ifCond .lt 28, 3) := by decide +kernel
theorem dX9_told_12 : decode cX9_told 12 = .ok (.iload_n 2, 1) := by decide +kernel
theorem dX9_told_13 : decode cX9_told 13 = .ok (.aload_n 0, 1) := by decide +kernel
theorem dX9_told_14 : decode cX9_told 14 = .ok (.getfield 23, 3) := by decide +kernel
theorem dX9_told_17 : decode cX9_told 17 = .ok (.iload_n 1, 1) := by decide +kernel
theorem dX9_told_18 : decode cX9_told 18 = .ok (.iaload, 1) := by decide +kernel
theorem dX9_told_19 : decode cX9_told 19 = .ok (.if_icmp .ge 18, 3) := by decide +kernel
theorem dX9_told_22 : decode cX9_told 22 = .ok (.aload_n 0, 1) := by decide +kernel
theorem dX9_told_23 : decode cX9_told 23 = .ok (.getfield 20, 3) := by decide +kernel
theorem dX9_told_26 : decode cX9_told 26 = .ok (.sipush 160, 3) := by decide +kernel
theorem dX9_told_29 : decode cX9_told 29 = .ok (.iload_n 1, 1) := by decide +kernel
theorem dX9_told_30 : decode cX9_told 30 = .ok (.imul, 1) := by decide +kernel
theorem dX9_told_31 : decode cX9_told 31 = .ok (.iload_n 2, 1) := by decide +kernel
theorem dX9_told_32 : decode cX9_told 32 = .ok (.iadd, 1) := by decide +kernel
theorem dX9_told_33 : decode cX9_told 33 = .ok (.iaload, 1) := by decide +kernel
theorem dX9_told_34 : decode cX9_told 34 = .ok (.goto 4, 3) := by decide +kernel
theorem dX9_wall_0 : decode cX9_wall 0 = .ok (.aload_n 0, 1) := by decide +kernel
theorem dX9_wall_1 : decode cX9_wall 1 = .ok (.getfield 113, 3) := by decide +kernel
theorem dX9_wall_4 : decode cX9_wall 4 = .ok (.bipush 21, 2) := by decide +kernel
theorem dX9_wall_6 : decode cX9_wall 6 = .ok (.iload_n 1, 1) := by decide +kernel
theorem dX9_wall_7 : decode cX9_wall 7 = .ok (.imul, 1) := by decide +kernel
theorem dX9_wall_8 : decode cX9_wall 8 = .ok (.iload_n 2, 1) := by decide +kernel
theorem dX9_wall_9 : decode cX9_wall 9 = .ok (.iadd, 1) := by decide +kernel
theorem dX9_wall_10 : decode cX9_wall 10 = .ok (.iconst 1, 1) := by decide +kernel
theorem dX9_wall_11 : decode cX9_wall 11 = .ok (.bastore, 1) := by decide +kernel
theorem dX9_wall_12 : decode cX9_wall 12 = .ok (.aload_n 0, 1) := by decide +kernel
theorem dX9_wall_13 : decode cX9_wall 13 = .ok (.getfield 113, 3) := by decide +kernel
theorem dX9_wall_16 : decode cX9_wall 16 = .ok (.bipush 21, 2) := by decide +kernel
theorem dX9_wall_18 : decode cX9_wall 18 = .ok (.iload_n 2, 1) := by decide +kernel
theorem dX9_wall_19 : decode cX9_wall 19 = .ok (.imul, 1) := by decide +kernel
theorem dX9_wall_20 : decode cX9_wall 20 = .ok (.iload_n 1, 1) := by decide +kernel
theorem dX9_wall_21 : decode cX9_wall 21 = .ok (.iadd, 1) := by decide +kernel
theorem dX9_wall_22 : decode cX9_wall 22 = .ok (.iconst 1, 1) := by decide +kernel
theorem dX9_wall_23 : decode cX9_wall 23 = .ok (.bastore, 1) := by decide +kernel
theorem dX9_wall_24 : decode cX9_wall 24 = .ok (.return_, 1) := by decide +kernel
