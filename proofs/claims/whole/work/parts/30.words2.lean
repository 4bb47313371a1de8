theorem dX8_turn_37 : decode cX8_turn 37 = .ok (.invokevirtual 147, 3) := by decide +kernel
theorem dX8_turn_40 : decode cX8_turn 40 = .ok (.ifCond .eq 15, 3) := by decide +kernel
theorem dX8_turn_43 : decode cX8_turn 43 = .ok (.aload_n 0, 1) := by decide +kernel
theorem dX8_turn_44 : decode cX8_turn 44 = .ok (.getfield 50, 3) := by decide +kernel
theorem dX8_turn_47 : decode cX8_turn 47 = .ok (.iload_n 1, 1) := by decide +kernel
theorem dX8_turn_48 : decode cX8_turn 48 = .ok (.iload_n 2, 1) := by decide +kernel
theorem dX8_turn_49 : decode cX8_turn 49 = .ok (.invokevirtual 151, 3) := by decide +kernel
theorem dX8_turn_52 : decode cX8_turn 52 = .ok (.goto 4, 3) := by decide +kernel
theorem dX8_turn_55 : decode cX8_turn 55 = .ok (.iconst (-1), 1) := by decide +kernel
theorem dX8_turn_56 : decode cX8_turn 56 = .ok (.ireturn, 1) := by decide +kernel
theorem dX9_append_0 : decode cX9_append 0 = .ok (.aload_n 0, 1) := by decide +kernel
theorem dX9_append_1 : decode cX9_append 1 = .ok (.getfield 20, 3) := by decide +kernel
theorem dX9_append_4 : decode cX9_append 4 = .ok (.sipush 160, 3) := by decide +kernel
theorem dX9_append_7 : decode cX9_append 7 = .ok (.iload_n 1, 1) := by decide +kernel
theorem dX9_append_8 : decode cX9_append 8 = .ok (.imul, 1) := by decide +kernel
theorem dX9_append_9 : decode cX9_append 9 = .ok (.aload_n 0, 1) := by decide +kernel
theorem dX9_append_10 : decode cX9_append 10 = .ok (.getfield 23, 3) := by decide +kernel
theorem dX9_append_13 : decode cX9_append 13 = .ok (.iload_n 1, 1) := by decide +kernel
theorem dX9_append_14 : decode cX9_append 14 = .ok (.iaload, 1) := by decide +kernel
theorem dX9_append_15 : decode cX9_append 15 = .ok (.iadd, 1) := by decide +kernel
theorem dX9_append_16 : decode cX9_append 16 = .ok (.iload_n 2, 1) := by decide +kernel
theorem dX9_append_17 : decode cX9_append 17 = .ok (.iastore, 1) := by decide +kernel
theorem dX9_append_18 : decode cX9_append 18 = .ok (.aload_n 0, 1) := by decide +kernel
theorem dX9_append_19 : decode cX9_append 19 = .ok (.getfield 23, 3) := by decide +kernel
theorem dX9_append_22 : decode cX9_append 22 = .ok (.iload_n 1, 1) := by decide +kernel
theorem dX9_append_23 : decode cX9_append 23 = .ok (.dup2, 1) := by decide +kernel
theorem dX9_append_24 : decode cX9_append 24 = .ok (.iaload, 1) := by decide +kernel
theorem dX9_append_25 : decode cX9_append 25 = .ok (.iconst 1, 1) := by decide +kernel
theorem dX9_append_26 : decode cX9_append 26 = .ok (.iadd, 1) := by decide +kernel
theorem dX9_append_27 : decode cX9_append 27 = .ok (.iastore, 1) := by decide +kernel
theorem dX9_append_28 : decode cX9_append 28 = .ok (.return_, 1) := by decide +kernel
theorem dX9_arc_8 : decode cX9_arc 8 = .ok (.aload_n 0, 1) := by decide +kernel
theorem dX9_arc_9 : decode cX9_arc 9 = .ok (.iload_n 2, 1) := by decide +kernel
theorem dX9_arc_10 : decode cX9_arc 10 = .ok (.invokevirtual 302, 3) := by decide +kernel
theorem dX9_arc_13 : decode cX9_arc 13 = .ok (.ifCond .ne 5, 3) := by decide +kernel
theorem dX9_arc_18 : decode cX9_arc 18 = .ok (.aload_n 0, 1) := by decide +kernel
theorem dX9_arc_19 : decode cX9_arc 19 = .ok (.getfield 213, 3) := by decide +kernel
theorem dX9_arc_22 : decode cX9_arc 22 = .ok (.bipush 80, 2) := by decide +kernel
theorem dX9_arc_24 : decode cX9_arc 24 = .ok (.if_icmp .ne 6, 3) := by decide +kernel
theorem dX9_arc_27 : decode cX9_arc 27 = .ok (.bipush (-4), 2) := by decide +kernel
theorem dX9_arc_29 : decode cX9_arc 29 = .ok (.ireturn, 1) := by decide +kernel
theorem dX9_arc_30 : decode cX9_arc 30 = .ok (.aload_n 0, 1) := by decide +kernel
theorem dX9_arc_31 : decode cX9_arc 31 = .ok (.getfield 7, 3) := by decide +kernel
theorem dX9_arc_34 : decode cX9_arc 34 = .ok (.aload_n 0, 1) := by decide +kernel
theorem dX9_arc_35 : decode cX9_arc 35 = .ok (.getfield 213, 3) := by decide +kernel
theorem dX9_arc_38 : decode cX9_arc 38 = .ok (.iload_n 1, 1) := by decide +kernel
theorem dX9_arc_39 : decode cX9_arc 39 = .ok (.iastore, 1) := by decide +kernel
theorem dX9_arc_40 : decode cX9_arc 40 = .ok (.aload_n 0, 1) := by decide +kernel
theorem dX9_arc_41 : decode cX9_arc 41 = .ok (.getfield 13, 3) := by decide +kernel
theorem dX9_arc_44 : decode cX9_arc 44 = .ok (.aload_n 0, 1) := by decide +kernel
theorem dX9_arc_45 : decode cX9_arc 45 = .ok (.getfield 213, 3) := by decide +kernel
theorem dX9_arc_48 : decode cX9_arc 48 = .ok (.iload_n 2, 1) := by decide +kernel
theorem dX9_arc_49 : decode cX9_arc 49 = .ok (.iastore, 1) := by decide +kernel
theorem dX9_arc_50 : decode cX9_arc 50 = .ok (.aload_n 0, 1) := by decide +kernel
theorem dX9_arc_51 : decode cX9_arc 51 = .ok (.getfield 16, 3) := by decide +kernel
theorem dX9_arc_54 : decode cX9_arc 54 = .ok (.aload_n 0, 1) := by decide +kernel
theorem dX9_arc_55 : decode cX9_arc 55 = .ok (.getfield 213, 3) := by decide +kernel
theorem dX9_arc_58 : decode cX9_arc 58 = .ok (.iconst 1, 1) := by decide +kernel
theorem dX9_arc_59 : decode cX9_arc 59 = .ok (.bastore, 1) := by decide +kernel
theorem dX9_arc_60 : decode cX9_arc 60 = .ok (.aload_n 0, 1) := by decide +kernel
theorem dX9_arc_61 : decode cX9_arc 61 = .ok (.iload_n 1, 1) := by decide +kernel
theorem dX9_arc_62 : decode cX9_arc 62 = .ok (.iconst 2, 1) := by decide +kernel
theorem dX9_arc_63 : decode cX9_arc 63 = .ok (.aload_n 0, 1) := by decide +kernel
theorem dX9_arc_64 : decode cX9_arc 64 = .ok (.getfield 213, 3) := by decide +kernel
theorem dX9_arc_67 : decode cX9_arc 67 = .ok (.imul, 1) := by decide +kernel
theorem dX9_arc_68 : decode cX9_arc 68 = .ok (.invokevirtual 306, 3) := by decide +kernel
theorem dX9_arc_71 : decode cX9_arc 71 = .ok (.aload_n 0, 1) := by decide +kernel
theorem dX9_arc_72 : decode cX9_arc 72 = .ok (.iload_n 2, 1) := by decide +kernel
theorem dX9_arc_73 : decode cX9_arc 73 = .ok (.iconst 2, 1) := by decide +kernel
theorem dX9_arc_74 : decode cX9_arc 74 = .ok (.aload_n 0, 1) := by decide +kernel
theorem dX9_arc_75 : decode cX9_arc 75 = .ok (.getfield 213, 3) := by decide +kernel
theorem dX9_arc_78 : decode cX9_arc 78 = .ok (.imul, 1) := by decide +kernel
theorem dX9_arc_79 : decode cX9_arc 79 = .ok (.iconst 1, 1) := by decide +kernel
theorem dX9_arc_80 : decode cX9_arc 80 = .ok (.iadd, 1) := by decide +kernel
theorem dX9_arc_81 : decode cX9_arc 81 = .ok (.invokevirtual 306, 3) := by decide +kernel
theorem dX9_arc_84 : decode cX9_arc 84 = .ok (.aload_n 0, 1) := by decide +kernel
theorem dX9_arc_85 : decode cX9_arc 85 = .ok (.dup, 1) := by decide +kernel
theorem dX9_arc_86 : decode cX9_arc 86 = .ok (.getfield 213, 3) := by decide +kernel
theorem dX9_arc_89 : decode cX9_arc 89 = .ok (.iconst 1, 1) := by decide +kernel
theorem dX9_arc_90 : decode cX9_arc 90 = .ok (.iadd, 1) := by decide +kernel
theorem dX9_arc_91 : decode cX9_arc 91 = .ok (.putfield 213, 3) := by decide +kernel
theorem dX9_arc_94 : decode cX9_arc 94 = .ok (.aload_n 0, 1) := by decide +kernel
theorem dX9_arc_95 : decode cX9_arc 95 = .ok (.iconst 0, 1) := by decide +kernel
theorem dX9_arc_96 : decode cX9_arc 96 = .ok (.putfield 216, 3) := by decide +kernel
theorem dX9_arc_99 : decode cX9_arc 99 = .ok (.aload_n 0, 1) := by decide +kernel
theorem dX9_arc_100 : decode cX9_arc 100 = .ok (.getfield 213, 3) := by decide +kernel
theorem dX9_arc_103 : decode cX9_arc 103 = .ok (.iconst 1, 1) := by decide +kernel
theorem dX9_arc_104 : decode cX9_arc 104 = .ok (.isub, 1) := by decide +kernel
theorem dX9_arc_105 : decode cX9_arc 105 = .ok (.ireturn, 1) := by decide +kernel
theorem dX9_arcs_12 : decode cX9_arcs 12 = .ok (.iload_n 1, 1) := by decide +kernel
theorem dX9_arcs_13 : decode cX9_arcs 13 = .ok (.aload_n 0, 1) := by decide +kernel
theorem dX9_arcs_14 : decode cX9_arcs 14 = .ok (.getfield 16, 3) := by decide +kernel
theorem dX9_arcs_17 : decode cX9_arcs 17 = .ok (.iload_n 2, 1) := by decide +kernel
theorem dX9_arcs_18 : decode cX9_arcs 18 = .ok (.baload, 1) := by decide +kernel
theorem dX9_arcs_19 : decode cX9_arcs 19 = .ok (.ifCond .eq 7, 3) := by decide +kernel
theorem dX9_arcs_22 : decode cX9_arcs 22 = .ok (.iconst 1, 1) := by decide +kernel
theorem dX9_arcs_23 : decode cX9_arcs 23 = .ok (.goto 4, 3) := by decide +kernel
theorem dX9_arcs_26 : decode cX9_arcs 26 = .ok (.iconst 0, 1) := by decide +kernel
theorem dX9_arcs_27 : decode cX9_arcs 27 = .ok (.iadd, 1) := by decide +kernel
theorem dX9_arcs_28 : decode cX9_arcs 28 = .ok (.istore_n 1, 1) := by decide +kernel
theorem dX9_arcs_29 : decode cX9_arcs 29 = .ok (.iinc 2 1, 3) := by decide +kernel
theorem dX9_arcs_32 : decode cX9_arcs 32 = .ok (.goto (-28), 3) := by decide +kernel
theorem dX9_back_0 : decode cX9_back 0 = .ok (.iconst 1, 1) := by decide +kernel
theorem dX9_back_1 : decode cX9_back 1 = .ok (.istore_n 3, 1) := by decide +kernel
theorem dX9_back_2 : decode cX9_back 2 = .ok (.iload_n 1, 1) := by decide +kernel
theorem dX9_back_3 : decode cX9_back 3 = .ok (.istore 4, 2) := by decide +kernel
theorem dX9_back_5 : decode cX9_back 5 = .ok (.iload 4, 2) := by decide +kernel
theorem dX9_back_7 : decode cX9_back 7 = .ok (.iload_n 2, 1) := by decide +kernel
theorem dX9_back_8 : decode cX9_back 8 = .ok (.if_icmp .eq 18, 3) := by decide +kernel
theorem dX9_back_11 : decode cX9_back 11 = .ok (.iinc 3 1, 3) := by decide +kernel
theorem dX9_back_14 : decode cX9_back 14 = .ok (.aload_n 0, 1) := by decide +kernel
theorem dX9_back_15 : decode cX9_back 15 = .ok (.getfield 56, 3) := by decide +kernel
theorem dX9_back_18 : decode cX9_back 18 = .ok (.iload 4, 2) := by decide +kernel
theorem dX9_back_20 : decode cX9_back 20 = .ok (.iaload, 1) := by decide +kernel
theorem dX9_back_21 : decode cX9_back 21 = .ok (.istore 4, 2) := by decide +kernel
theorem dX9_back_23 : decode cX9_back 23 = .ok (.goto (-18), 3) := by decide +kernel
theorem dX9_back_26 : decode cX9_back 26 = .ok (.aload_n 0, 1) := by decide +kernel
theorem dX9_back_27 : decode cX9_back 27 = .ok (.iload_n 3, 1) := by decide +kernel
theorem dX9_back_28 : decode cX9_back 28 = .ok (.putfield 160, 3) := by decide +kernel
theorem dX9_back_31 : decode cX9_back 31 = .ok (.iload_n 1, 1) := by decide +kernel
theorem dX9_back_32 : decode cX9_back 32 = .ok (.istore 4, 2) := by decide +kernel
theorem dX9_back_34 : decode cX9_back 34 = .ok (.iload_n 3, 1) := by decide +kernel
theorem dX9_back_35 : decode cX9_back 35 = .ok (.iconst 1, 1) := by decide +kernel
theorem dX9_back_36 : decode cX9_back 36 = .ok (.isub, 1) := by decide +kernel
theorem dX9_back_37 : decode cX9_back 37 = .ok (.istore 5, 2) := by decide +kernel
theorem dX9_back_39 : decode cX9_back 39 = .ok (.iload 5, 2) := by decide +kernel
theorem dX9_back_41 : decode cX9_back 41 = .ok (.ifCond .lt 27, 3) := by decide +kernel
theorem dX9_back_44 : decode cX9_back 44 = .ok (.aload_n 0, 1) := by decide +kernel
theorem dX9_back_45 : decode cX9_back 45 = .ok (.getfield 53, 3) := by decide +kernel
theorem dX9_back_48 : decode cX9_back 48 = .ok (.iload 5, 2) := by decide +kernel
theorem dX9_back_50 : decode cX9_back 50 = .ok (.iload 4, 2) := by decide +kernel
theorem dX9_back_52 : decode cX9_back 52 = .ok (.iastore, 1) := by decide +kernel
theorem dX9_back_53 : decode cX9_back 53 = .ok (.aload_n 0, 1) := by decide +kernel
theorem dX9_back_54 : decode cX9_back 54 = .ok (.getfield 56, 3) := by decide +kernel
theorem dX9_back_57 : decode cX9_back 57 = .ok (.iload 4, 2) := by decide +kernel
theorem dX9_back_59 : decode cX9_back 59 = .ok (.iaload, 1) := by decide +kernel
theorem dX9_back_60 : decode cX9_back 60 = .ok (.istore 4, 2) := by decide +kernel
theorem dX9_back_62 : decode cX9_back 62 = .ok (.iinc 5 (-1), 3) := by decide +kernel
theorem dX9_back_65 : decode cX9_back 65 = .ok (.goto (-26), 3) := by decide +kernel
theorem dX9_back_68 : decode cX9_back 68 = .ok (.iconst 1, 1) := by decide +kernel
theorem dX9_back_69 : decode cX9_back 69 = .ok (.ireturn, 1) := by decide +kernel
theorem dX9_bare_12 : decode cX9_bare 12 = .ok (.iload_n 1, 1) := by decide +kernel
theorem dX9_bare_13 : decode cX9_bare 13 = .ok (.aload_n 0, 1) := by decide +kernel
theorem dX9_bare_14 : decode cX9_bare 14 = .ok (.getfield 23, 3) := by decide +kernel
theorem dX9_bare_17 : decode cX9_bare 17 = .ok (.iload_n 2, 1) := by decide +kernel
theorem dX9_bare_18 : decode cX9_bare 18 = .ok (.iaload, 1) := by decide +kernel
theorem dX9_bare_19 : decode cX9_bare 19 = .ok (.ifCond .ne 7, 3) := by decide +kernel
theorem dX9_bare_22 : decode cX9_bare 22 = .ok (.iconst 1, 1) := by decide +kernel
theorem dX9_bare_23 : decode cX9_bare 23 = .ok (.goto 4, 3) := by decide +kernel
theorem dX9_bare_26 : decode cX9_bare 26 = .ok (.iconst 0, 1) := by decide +kernel
theorem dX9_bare_27 : decode cX9_bare 27 = .ok (.iadd, 1) := by decide +kernel
theorem dX9_bare_28 : decode cX9_bare 28 = .ok (.istore_n 1, 1) := by decide +kernel
theorem dX9_bare_29 : decode cX9_bare 29 = .ok (.iinc 2 1, 3) := by decide +kernel
theorem dX9_bare_32 : decode cX9_bare 32 = .ok (.goto (-28), 3) := by decide +kernel
theorem dX9_barred_9 : decode cX9_barred 9 = .ok (.iconst 0, 1) := by decide +kernel
theorem dX9_barred_10 : decode cX9_barred 10 = .ok (.istore_n 1, 1) := by decide +kernel
theorem dX9_barred_11 : decode cX9_barred 11 = .ok (.iconst 0, 1) := by decide +kernel
theorem dX9_barred_12 : decode cX9_barred 12 = .ok (.istore_n 2, 1) := by decide +kernel
theorem dX9_barred_13 : decode cX9_barred 13 = .ok (.iload_n 2, 1) := by decide +kernel
theorem dX9_barred_14 : decode cX9_barred 14 = .ok (.aload_n 0, 1) := by decide +kernel
theorem dX9_barred_15 : decode cX9_barred 15 = .ok (.getfield 210, 3) := by decide +kernel
theorem dX9_barred_18 : decode cX9_barred 18 = .ok (.if_icmp .ge 27, 3) := by decide +kernel
theorem dX9_barred_21 : decode cX9_barred 21 = .ok (.iload_n 1, 1) := by decide +kernel
theorem dX9_barred_22 : decode cX9_barred 22 = .ok (.aload_n 0, 1) := by decide +kernel
theorem dX9_barred_23 : decode cX9_barred 23 = .ok (.getfield 95, 3) := by decide +kernel
theorem dX9_barred_26 : decode cX9_barred 26 = .ok (.iload_n 2, 1) := by decide +kernel
theorem dX9_barred_27 : decode cX9_barred 27 = .ok (.iaload, 1) := by decide +kernel
theorem dX9_barred_28 : decode cX9_barred 28 = .ok (.iconst 4, 1) := by decide +kernel
theorem dX9_barred_29 : decode cX9_barred 29 = .ok (.if_icmp .ne 7, 3) := by decide +kernel
theorem dX9_barred_32 : decode cX9_barred 32 = .ok (.iconst 1, 1) := by decide +kernel
theorem dX9_barred_33 : decode cX9_barred 33 = .ok (.goto 4, 3) := by decide +kernel
theorem dX9_barred_36 : decode cX9_barred 36 = .ok (.iconst 0, 1) := by decide +kernel
theorem dX9_barred_37 : decode cX9_barred 37 = .ok (.iadd, 1) := by decide +kernel
theorem dX9_barred_38 : decode cX9_barred 38 = .ok (.istore_n 1, 1) := by decide +kernel
theorem dX9_barred_39 : decode cX9_barred 39 = .ok (.iinc 2 1, 3) := by decide +kernel
theorem dX9_barred_42 : decode cX9_barred 42 = .ok (.goto (-29), 3) := by decide +kernel
theorem dX9_barred_45 : decode cX9_barred 45 = .ok (.iload_n 1, 1) := by decide +kernel
theorem dX9_barred_46 : decode cX9_barred 46 = .ok (.iconst 5, 1) := by decide +kernel
theorem dX9_barred_47 : decode cX9_barred 47 = .ok (.if_icmp .ne 7, 3) := by decide +kernel
theorem dX9_barred_50 : decode cX9_barred 50 = .ok (.iconst 5, 1) := by decide +kernel
theorem dX9_barred_51 : decode cX9_barred 51 = .ok (.goto 5, 3) := by decide +kernel
theorem dX9_barred_54 : decode cX9_barred 54 = .ok (.bipush 6, 2) := by decide +kernel
theorem dX9_barred_56 : decode cX9_barred 56 = .ok (.ireturn, 1) := by decide +kernel
theorem dX9_beforeOf_0 : decode cX9_beforeOf 0 = .ok (.iload_n 2, 1) := by decide +kernel
theorem dX9_beforeOf_1 : decode cX9_beforeOf 1 = .ok (.istore_n 3, 1) := by decide +kernel
theorem dX9_beforeOf_2 : decode cX9_beforeOf 2 = .ok (.aload_n 0, 1) := by decide +kernel
theorem dX9_beforeOf_3 : decode cX9_beforeOf 3 = .ok (.getfield 71, 3) := by decide +kernel
theorem dX9_beforeOf_6 : decode cX9_beforeOf 6 = .ok (.bipush 21, 2) := by decide +kernel
theorem dX9_beforeOf_8 : decode cX9_beforeOf 8 = .ok (.iload_n 1, 1) := by decide +kernel
theorem dX9_beforeOf_9 : decode cX9_beforeOf 9 = .ok (.imul, 1) := by decide +kernel
theorem dX9_beforeOf_10 : decode cX9_beforeOf 10 = .ok (.iload_n 3, 1) := by decide +kernel
theorem dX9_beforeOf_11 : decode cX9_beforeOf 11 = .ok (.iadd, 1) := by decide +kernel
theorem dX9_beforeOf_12 : decode cX9_beforeOf 12 = .ok (.iaload, 1) := by decide +kernel
theorem dX9_beforeOf_13 : decode cX9_beforeOf 13 = .ok (.iload_n 2, 1) := by decide +kernel
theorem dX9_beforeOf_14 : decode cX9_beforeOf 14 = .ok (.if_icmp .eq 18, 3) := by decide +kernel
theorem dX9_beforeOf_17 : decode cX9_beforeOf 17 = .ok (.aload_n 0, 1) := by decide +kernel
theorem dX9_beforeOf_18 : decode cX9_beforeOf 18 = .ok (.getfield 71, 3) := by decide +kernel
theorem dX9_beforeOf_21 : decode cX9_beforeOf 21 = .ok (.bipush 21, 2) := by decide +kernel
theorem dX9_beforeOf_23 : decode cX9_beforeOf 23 = .ok (.iload_n 1, 1) := by decide +kernel
theorem dX9_beforeOf_24 : decode cX9_beforeOf 24 = .ok (.imul, 1) := by decide +kernel
theorem dX9_beforeOf_25 : decode cX9_beforeOf 25 = .ok (.iload_n 3, 1) := by decide +kernel
theorem dX9_beforeOf_26 : decode cX9_beforeOf 26 = .ok (.iadd, 1) := by decide +kernel
theorem dX9_beforeOf_27 : decode cX9_beforeOf 27 = .ok (.iaload, 1) := by decide +kernel
theorem dX9_beforeOf_28 : decode cX9_beforeOf 28 = .ok (.istore_n 3, 1) := by decide +kernel
theorem dX9_beforeOf_29 : decode cX9_beforeOf 29 = .ok (.goto (-27), 3) := by decide +kernel
theorem dX9_beforeOf_32 : decode cX9_beforeOf 32 = .ok (.iload_n 3, 1) := by decide +kernel
theorem dX9_beforeOf_33 : decode cX9_beforeOf 33 = .ok (.ireturn, 1) := by decide +kernel
theorem dX9_begin_0 : decode cX9_begin 0 = .ok (.iconst 0, 1) := by decide +kernel
theorem dX9_begin_1 : decode cX9_begin 1 = .ok (.istore_n 1, 1) := by decide +kernel
theorem dX9_begin_2 : decode cX9_begin 2 = .ok (.aload_n 0, 1) := by decide +kernel
theorem dX9_begin_3 : decode cX9_begin 3 = .ok (.getfield 38, 3) := by decide +kernel
theorem dX9_begin_6 : decode cX9_begin 6 = .ok (.iload_n 1, 1) := by decide +kernel
theorem dX9_begin_7 : decode cX9_begin 7 = .ok (.iaload, 1) := by decide +kernel
theorem dX9_begin_8 : decode cX9_begin 8 = .ok (.ifCond .ne 9, 3) := by decide +kernel
theorem dX9_begin_11 : decode cX9_begin 11 = .ok (.iinc 1 1, 3) := by decide +kernel
theorem dX9_begin_14 : decode cX9_begin 14 = .ok (.goto (-12), 3) := by decide +kernel
theorem dX9_begin_17 : decode cX9_begin 17 = .ok (.iconst 0, 1) := by decide +kernel
theorem dX9_begin_18 : decode cX9_begin 18 = .ok (.istore_n 2, 1) := by decide +kernel
theorem dX9_begin_19 : decode cX9_begin 19 = .ok (.aload_n 0, 1) := by decide +kernel
theorem dX9_begin_20 : decode cX9_begin 20 = .ok (.getfield 38, 3) := by decide +kernel
theorem dX9_begin_23 : decode cX9_begin 23 = .ok (.iload_n 1, 1) := by decide +kernel
theorem dX9_begin_24 : decode cX9_begin 24 = .ok (.iaload, 1) := by decide +kernel
theorem dX9_begin_25 : decode cX9_begin 25 = .ok (.iload_n 2, 1) := by decide +kernel
theorem dX9_begin_26 : decode cX9_begin 26 = .ok (.ishr, 1) := by decide +kernel
theorem dX9_begin_27 : decode cX9_begin 27 = .ok (.iconst 1, 1) := by decide +kernel
theorem dX9_begin_28 : decode cX9_begin 28 = .ok (.iand, 1) := by decide +kernel
theorem dX9_begin_29 : decode cX9_begin 29 = .ok (.ifCond .ne 9, 3) := by decide +kernel
theorem dX9_begin_32 : decode cX9_begin 32 = .ok (.iinc 2 1, 3) := by decide +kernel
theorem dX9_begin_35 : decode cX9_begin 35 = .ok (.goto (-16), 3) := by decide +kernel
theorem dX9_begin_38 : decode cX9_begin 38 = .ok (.aload_n 0, 1) := by decide +kernel
theorem dX9_begin_39 : decode cX9_begin 39 = .ok (.iconst 0, 1) := by decide +kernel
theorem dX9_begin_40 : decode cX9_begin 40 = .ok (.putfield 163, 3) := by decide +kernel
theorem dX9_begin_43 : decode cX9_begin 43 = .ok (.iconst 0, 1) := by decide +kernel
theorem dX9_begin_44 : decode cX9_begin 44 = .ok (.istore_n 3, 1) := by decide +kernel
theorem dX9_begin_45 : decode cX9_begin 45 = .ok (.iload_n 3, 1) := by decide +kernel
theorem dX9_begin_46 : decode cX9_begin 46 = .ok (.aload_n 0, 1) := by decide +kernel
theorem dX9_begin_47 : decode cX9_begin 47 = .ok (.getfield 131, 3) := by decide +kernel
theorem dX9_begin_50 : decode cX9_begin 50 = .ok (.if_icmp .ge 16, 3) := by decide +kernel
theorem dX9_begin_53 : decode cX9_begin 53 = .ok (.aload_n 0, 1) := by decide +kernel
theorem dX9_begin_54 : decode cX9_begin 54 = .ok (.getfield 41, 3) := by decide +kernel
theorem dX9_begin_57 : decode cX9_begin 57 = .ok (.iload_n 3, 1) := by decide +kernel
theorem dX9_begin_58 : decode cX9_begin 58 = .ok (.iconst 0, 1) := by decide +kernel
theorem dX9_begin_59 : decode cX9_begin 59 = .ok (.iastore, 1) := by decide +kernel
theorem dX9_begin_60 : decode cX9_begin 60 = .ok (.iinc 3 1, 3) := by decide +kernel
theorem dX9_begin_63 : decode cX9_begin 63 = .ok (.goto (-18), 3) := by decide +kernel
theorem dX9_begin_66 : decode cX9_begin 66 = .ok (.aload_n 0, 1) := by decide +kernel
theorem dX9_begin_67 : decode cX9_begin 67 = .ok (.iload_n 1, 1) := by decide +kernel
theorem dX9_begin_68 : decode cX9_begin 68 = .ok (.iconst (-1), 1) := by decide +kernel
theorem dX9_begin_69 : decode cX9_begin 69 = .ok (.iconst 1, 1) := by decide +kernel
theorem dX9_begin_70 : decode cX9_begin 70 = .ok (.iload_n 2, 1) := by decide +kernel
theorem dX9_begin_71 : decode cX9_begin 71 = .ok (.ishl, 1) := by decide +kernel
theorem dX9_begin_72 : decode cX9_begin 72 = .ok (.iload_n 2, 1) := by decide +kernel
theorem dX9_begin_73 : decode cX9_begin 73 = .ok (.invokevirtual 166, 3) := by decide +kernel
theorem dX9_begin_76 : decode cX9_begin 76 = .ok (.istore_n 3, 1) := by decide +kernel
theorem dX9_begin_77 : decode cX9_begin 77 = .ok (.aload_n 0, 1) := by decide +kernel
theorem dX9_begin_78 : decode cX9_begin 78 = .ok (.iconst 1, 1) := by decide +kernel
theorem dX9_begin_79 : decode cX9_begin 79 = .ok (.invokevirtual 170, 3) := by decide +kernel
theorem dX9_begin_82 : decode cX9_begin 82 = .ok (.aload_n 0, 1) := by decide +kernel
theorem dX9_begin_83 : decode cX9_begin 83 = .ok (.iconst 2, 1) := by decide +kernel
theorem dX9_begin_84 : decode cX9_begin 84 = .ok (.putfield 174, 3) := by decide +kernel
theorem dX9_begin_87 : decode cX9_begin 87 = .ok (.aload_n 0, 1) := by decide +kernel
theorem dX9_begin_88 : decode cX9_begin 88 = .ok (.getfield 50, 3) := by decide +kernel
theorem dX9_begin_91 : decode cX9_begin 91 = .ok (.iconst 0, 1) := by decide +kernel
theorem dX9_begin_92 : decode cX9_begin 92 = .ok (.iconst 0, 1) := by decide +kernel
theorem dX9_begin_93 : decode cX9_begin 93 = .ok (.iastore, 1) := by decide +kernel
theorem dX9_begin_94 : decode cX9_begin 94 = .ok (.aload_n 0, 1) := by decide +kernel
theorem dX9_begin_95 : decode cX9_begin 95 = .ok (.getfield 50, 3) := by decide +kernel
theorem dX9_begin_98 : decode cX9_begin 98 = .ok (.iconst 1, 1) := by decide +kernel
theorem dX9_begin_99 : decode cX9_begin 99 = .ok (.iconst 0, 1) := by decide +kernel
theorem dX9_begin_100 : decode cX9_begin 100 = .ok (.iastore, 1) := by decide +kernel
theorem dX9_begin_101 : decode cX9_begin 101 = .ok (.iconst 0, 1) := by decide +kernel
theorem dX9_begin_102 : decode cX9_begin 102 = .ok (.istore 4, 2) := by decide +kernel
theorem dX9_begin_104 : decode cX9_begin 104 = .ok (.iload 4, 2) := by decide +kernel
theorem dX9_begin_106 : decode cX9_begin 106 = .ok (.aload_n 0, 1) := by decide +kernel
theorem dX9_begin_107 : decode cX9_begin 107 = .ok (.getfield 160, 3) := by decide +kernel
theorem dX9_begin_110 : decode cX9_begin 110 = .ok (.if_icmp .ge 44, 3) := by decide +kernel
theorem dX9_begin_113 : decode cX9_begin 113 = .ok (.aload_n 0, 1) := by decide +kernel
theorem dX9_begin_114 : decode cX9_begin 114 = .ok (.iconst 0, 1) := by decide +kernel
theorem dX9_begin_115 : decode cX9_begin 115 = .ok (.iload 4, 2) := by decide +kernel
theorem dX9_begin_117 : decode cX9_begin 117 = .ok (.aload_n 0, 1) := by decide +kernel
theorem dX9_begin_118 : decode cX9_begin 118 = .ok (.getfield 53, 3) := by decide +kernel
theorem dX9_begin_121 : decode cX9_begin 121 = .ok (.iload 4, 2) := by decide +kernel
theorem dX9_begin_123 : decode cX9_begin 123 = .ok (.iaload, 1) := by decide +kernel
theorem dX9_begin_124 : decode cX9_begin 124 = .ok (.invokevirtual 177, 3) := by decide +kernel
theorem dX9_begin_127 : decode cX9_begin 127 = .ok (.aload_n 0, 1) := by decide +kernel
theorem dX9_begin_128 : decode cX9_begin 128 = .ok (.iconst 1, 1) := by decide +kernel
theorem dX9_begin_129 : decode cX9_begin 129 = .ok (.iload 4, 2) := by decide +kernel
theorem dX9_begin_131 : decode cX9_begin 131 = .ok (.aload_n 0, 1) := by decide +kernel
theorem dX9_begin_132 : decode cX9_begin 132 = .ok (.getfield 53, 3) := by decide +kernel
theorem dX9_begin_135 : decode cX9_begin 135 = .ok (.aload_n 0, 1) := by decide +kernel
theorem dX9_begin_136 : decode cX9_begin 136 = .ok (.getfield 160, 3) := by decide +kernel
theorem dX9_begin_139 : decode cX9_begin 139 = .ok (.iconst 1, 1) := by decide +kernel
theorem dX9_begin_140 : decode cX9_begin 140 = .ok (.isub, 1) := by decide +kernel
theorem dX9_begin_141 : decode cX9_begin 141 = .ok (.iload 4, 2) := by decide +kernel
theorem dX9_begin_143 : decode cX9_begin 143 = .ok (.isub, 1) := by decide +kernel
theorem dX9_begin_144 : decode cX9_begin 144 = .ok (.iaload, 1) := by decide +kernel
theorem dX9_begin_145 : decode cX9_begin 145 = .ok (.invokevirtual 177, 3) := by decide +kernel
theorem dX9_begin_148 : decode cX9_begin 148 = .ok (.iinc 4 1, 3) := by decide +kernel
theorem dX9_begin_151 : decode cX9_begin 151 = .ok (.goto (-47), 3) := by decide +kernel
theorem dX9_begin_154 : decode cX9_begin 154 = .ok (.iload_n 3, 1) := by decide +kernel
theorem dX9_begin_155 : decode cX9_begin 155 = .ok (.ireturn, 1) := by decide +kernel
theorem dX9_behind_0 : decode cX9_behind 0 = .ok (.aload_n 0, 1) := by decide +kernel
theorem dX9_behind_1 : decode cX9_behind 1 = .ok (.iload_n 2, 1) := by decide +kernel
theorem dX9_behind_2 : decode cX9_behind 2 = .ok (.invokevirtual 290, 3) := by decide +kernel
theorem dX9_behind_5 : decode cX9_behind 5 = .ok (.istore_n 3, 1) := by decide +kernel
theorem dX9_behind_6 : decode cX9_behind 6 = .ok (.iload_n 1, 1) := by decide +kernel
theorem dX9_behind_7 : decode cX9_behind 7 = .ok (.ifCond .ne 12, 3) := by decide +kernel
theorem dX9_behind_10 : decode cX9_behind 10 = .ok (.aload_n 0, 1) := by decide +kernel
theorem dX9_behind_11 : decode cX9_behind 11 = .ok (.getfield 83, 3) := by decide +kernel
theorem dX9_behind_14 : decode cX9_behind 14 = .ok (.iload_n 3, 1) := by decide +kernel
theorem dX9_behind_15 : decode cX9_behind 15 = .ok (.iaload, 1) := by decide +kernel
theorem dX9_behind_16 : decode cX9_behind 16 = .ok (.goto 9, 3) := by decide +kernel
theorem dX9_behind_19 : decode cX9_behind 19 = .ok (.aload_n 0, 1) := by decide +kernel
theorem dX9_behind_20 : decode cX9_behind 20 = .ok (.getfield 23, 3) := by decide +kernel
theorem dX9_behind_23 : decode cX9_behind 23 = .ok (.iload_n 3, 1) := by decide +kernel
theorem dX9_behind_24 : decode cX9_behind 24 = .ok (.iaload, 1) := by decide +kernel
theorem dX9_behind_25 : decode cX9_behind 25 = .ok (.istore 4, 2) := by decide +kernel
theorem dX9_behind_27 : decode cX9_behind 27 = .ok (.iconst 0, 1) := by decide +kernel
theorem dX9_behind_28 : decode cX9_behind 28 = .ok (.istore 5, 2) := by decide +kernel
theorem dX9_behind_30 : decode cX9_behind 30 = .ok (.iload_n 1, 1) := by decide +kernel
theorem dX9_behind_31 : decode cX9_behind 31 = .ok (.ifCond .ne 19, 3) := by decide +kernel
theorem dX9_behind_34 : decode cX9_behind 34 = .ok (.aload_n 0, 1) := by decide +kernel
theorem dX9_behind_35 : decode cX9_behind 35 = .ok (.getfield 80, 3) := by decide +kernel
theorem dX9_behind_38 : decode cX9_behind 38 = .ok (.sipush 160, 3) := by decide +kernel
theorem dX9_behind_41 : decode cX9_behind 41 = .ok (.iload_n 3, 1) := by decide +kernel
theorem dX9_behind_42 : decode cX9_behind 42 = .ok (.imul, 1) := by decide +kernel
theorem dX9_behind_43 : decode cX9_behind 43 = .ok (.iload 5, 2) := by decide +kernel
theorem dX9_behind_45 : decode cX9_behind 45 = .ok (.iadd, 1) := by decide +kernel
theorem dX9_behind_46 : decode cX9_behind 46 = .ok (.iaload, 1) := by decide +kernel
theorem dX9_behind_47 : decode cX9_behind 47 = .ok (.goto 16, 3) := by decide +kernel
theorem dX9_behind_50 : decode cX9_behind 50 = .ok (.aload_n 0, 1) := by decide +kernel
theorem dX9_behind_51 : decode cX9_behind 51 = .ok (.getfield 20, 3) := by decide +kernel
theorem dX9_behind_54 : decode cX9_behind 54 = .ok (.sipush 160, 3) := by decide +kernel
theorem dX9_behind_57 : decode cX9_behind 57 = .ok (.iload_n 3, 1) := by decide +kernel
theorem dX9_behind_58 : decode cX9_behind 58 = .ok (.imul, 1) := by decide +kernel
theorem dX9_behind_59 : decode cX9_behind 59 = .ok (.iload 5, 2) := by decide +kernel
theorem dX9_behind_61 : decode cX9_behind 61 = .ok (.iadd, 1) := by decide +kernel
theorem dX9_behind_62 : decode cX9_behind 62 = .ok (.iaload, 1) := by decide +kernel
theorem dX9_behind_63 : decode cX9_behind 63 = .ok (.iload_n 2, 1) := by decide +kernel
theorem dX9_behind_64 : decode cX9_behind 64 = .ok (.if_icmp .eq 9, 3) := by decide +kernel
theorem dX9_behind_67 : decode cX9_behind 67 = .ok (.iinc 5 1, 3) := by decide +kernel
theorem dX9_behind_70 : decode cX9_behind 70 = .ok (.goto (-40), 3) := by decide +kernel
theorem dX9_behind_73 : decode cX9_behind 73 = .ok (.iload 5, 2) := by decide +kernel
theorem dX9_behind_75 : decode cX9_behind 75 = .ok (.iconst 1, 1) := by decide +kernel
theorem dX9_behind_76 : decode cX9_behind 76 = .ok (.iadd, 1) := by decide +kernel
theorem dX9_behind_77 : decode cX9_behind 77 = .ok (.iload 4, 2) := by decide +kernel
theorem dX9_behind_79 : decode cX9_behind 79 = .ok (.irem, 1) := by decide +kernel
theorem dX9_behind_80 : decode cX9_behind 80 = .ok (.istore 5, 2) := by decide +kernel
theorem dX9_behind_82 : decode cX9_behind 82 = .ok (.iload_n 1, 1) := by decide +kernel
theorem dX9_behind_83 : decode cX9_behind 83 = .ok (.ifCond .ne 19, 3) := by decide +kernel
theorem dX9_behind_86 : decode cX9_behind 86 = .ok (.aload_n 0, 1) := by decide +kernel
theorem dX9_behind_87 : decode cX9_behind 87 = .ok (.getfield 80, 3) := by decide +kernel
theorem dX9_behind_90 : decode cX9_behind 90 = .ok (.sipush 160, 3) := by decide +kernel
theorem dX9_behind_93 : decode cX9_behind 93 = .ok (.iload_n 3, 1) := by decide +kernel
theorem dX9_behind_94 : decode cX9_behind 94 = .ok (.imul, 1) := by decide +kernel
theorem dX9_behind_95 : decode cX9_behind 95 = .ok (.iload 5, 2) := by decide +kernel
theorem dX9_behind_97 : decode cX9_behind 97 = .ok (.iadd, 1) := by decide +kernel
theorem dX9_behind_98 : decode cX9_behind 98 = .ok (.iaload, 1) := by decide +kernel
theorem dX9_behind_99 : decode cX9_behind 99 = .ok (.goto 16, 3) := by decide +kernel
theorem dX9_behind_102 : decode cX9_behind 102 = .ok (.aload_n 0, 1) := by decide +kernel
theorem dX9_behind_103 : decode cX9_behind 103 = .ok (.getfield 20, 3) := by decide +kernel
theorem dX9_behind_106 : decode cX9_behind 106 = .ok (.sipush 160, 3) := by decide +kernel
theorem dX9_behind_109 : decode cX9_behind 109 = .ok (.iload_n 3, 1) := by decide +kernel
theorem dX9_behind_110 : decode cX9_behind 110 = .ok (.imul, 1) := by decide +kernel
theorem dX9_behind_111 : decode cX9_behind 111 = .ok (.iload 5, 2) := by decide +kernel
theorem dX9_behind_113 : decode cX9_behind 113 = .ok (.iadd, 1) := by decide +kernel
theorem dX9_behind_114 : decode cX9_behind 114 = .ok (.iaload, 1) := by decide +kernel
theorem dX9_behind_115 : decode cX9_behind 115 = .ok (.ireturn, 1) := by decide +kernel
theorem dX9_between_0 : decode cX9_between 0 = .ok (.iconst 0, 1) := by decide +kernel
theorem dX9_between_1 : decode cX9_between 1 = .ok (.istore 4, 2) := by decide +kernel
theorem dX9_between_3 : decode cX9_between 3 = .ok (.iload 4, 2) := by decide +kernel
theorem dX9_between_5 : decode cX9_between 5 = .ok (.sipush 441, 3) := by decide +kernel
theorem dX9_between_8 : decode cX9_between 8 = .ok (.if_icmp .ge 17, 3) := by decide +kernel
theorem dX9_between_11 : decode cX9_between 11 = .ok (.aload_n 0, 1) := by decide +kernel
theorem dX9_between_12 : decode cX9_between 12 = .ok (.getfield 113, 3) := by decide +kernel
theorem dX9_between_15 : decode cX9_between 15 = .ok (.iload 4, 2) := by decide +kernel
theorem dX9_between_17 : decode cX9_between 17 = .ok (.iconst 0, 1) := by decide +kernel
theorem dX9_between_18 : decode cX9_between 18 = .ok (.bastore, 1) := by decide +kernel
theorem dX9_between_19 : decode cX9_between 19 = .ok (.iinc 4 1, 3) := by decide +kernel
theorem dX9_between_22 : decode cX9_between 22 = .ok (.goto (-19), 3) := by decide +kernel
theorem dX9_between_25 : decode cX9_between 25 = .ok (.iload_n 1, 1) := by decide +kernel
theorem dX9_between_26 : decode cX9_between 26 = .ok (.istore 4, 2) := by decide +kernel
theorem dX9_between_28 : decode cX9_between 28 = .ok (.iload 4, 2) := by decide +kernel
theorem dX9_between_30 : decode cX9_between 30 = .ok (.iload_n 3, 1) := by decide +kernel
theorem dX9_between_31 : decode cX9_between 31 = .ok (.if_icmp .eq 22, 3) := by decide +kernel
theorem dX9_between_34 : decode cX9_between 34 = .ok (.aload_n 0, 1) := by decide +kernel
theorem dX9_between_35 : decode cX9_between 35 = .ok (.iload 4, 2) := by decide +kernel
theorem dX9_between_37 : decode cX9_between 37 = .ok (.aload_n 2, 1) := by decide +kernel
theorem dX9_between_38 : decode cX9_between 38 = .ok (.iload 4, 2) := by decide +kernel
theorem dX9_between_40 : decode cX9_between 40 = .ok (.iaload, 1) := by decide +kernel
theorem dX9_between_41 : decode cX9_between 41 = .ok (.invokevirtual 284, 3) := by decide +kernel
theorem dX9_between_44 : decode cX9_between 44 = .ok (.aload_n 2, 1) := by decide +kernel
theorem dX9_between_45 : decode cX9_between 45 = .ok (.iload 4, 2) := by decide +kernel
theorem dX9_between_47 : decode cX9_between 47 = .ok (.iaload, 1) := by decide +kernel
theorem dX9_between_48 : decode cX9_between 48 = .ok (.istore 4, 2) := by decide +kernel
theorem dX9_between_50 : decode cX9_between 50 = .ok (.goto (-22), 3) := by decide +kernel
theorem dX9_between_53 : decode cX9_between 53 = .ok (.iload_n 1, 1) := by decide +kernel
theorem dX9_between_54 : decode cX9_between 54 = .ok (.istore 4, 2) := by decide +kernel
theorem dX9_between_56 : decode cX9_between 56 = .ok (.iload 4, 2) := by decide +kernel
theorem dX9_between_58 : decode cX9_between 58 = .ok (.aload_n 0, 1) := by decide +kernel
theorem dX9_between_59 : decode cX9_between 59 = .ok (.getfield 264, 3) := by decide +kernel
theorem dX9_between_62 : decode cX9_between 62 = .ok (.if_icmp .eq 28, 3) := by decide +kernel
theorem dX9_between_65 : decode cX9_between 65 = .ok (.aload_n 0, 1) := by decide +kernel
theorem dX9_between_66 : decode cX9_between 66 = .ok (.iload 4, 2) := by decide +kernel
theorem dX9_between_68 : decode cX9_between 68 = .ok (.aload_n 0, 1) := by decide +kernel
theorem dX9_between_69 : decode cX9_between 69 = .ok (.getfield 104, 3) := by decide +kernel
theorem dX9_between_72 : decode cX9_between 72 = .ok (.iload 4, 2) := by decide +kernel
theorem dX9_between_74 : decode cX9_between 74 = .ok (.iaload, 1) := by decide +kernel
theorem dX9_between_75 : decode cX9_between 75 = .ok (.invokevirtual 284, 3) := by decide +kernel
theorem dX9_between_78 : decode cX9_between 78 = .ok (.aload_n 0, 1) := by decide +kernel
theorem dX9_between_79 : decode cX9_between 79 = .ok (.getfield 104, 3) := by decide +kernel
theorem dX9_between_82 : decode cX9_between 82 = .ok (.iload 4, 2) := by decide +kernel
theorem dX9_between_84 : decode cX9_between 84 = .ok (.iaload, 1) := by decide +kernel
theorem dX9_between_85 : decode cX9_between 85 = .ok (.istore 4, 2) := by decide +kernel
theorem dX9_between_87 : decode cX9_between 87 = .ok (.goto (-31), 3) := by decide +kernel
theorem dX9_between_90 : decode cX9_between 90 = .ok (.aload_n 0, 1) := by decide +kernel
theorem dX9_between_91 : decode cX9_between 91 = .ok (.iload_n 3, 1) := by decide +kernel
theorem dX9_between_92 : decode cX9_between 92 = .ok (.aload_n 0, 1) := by decide +kernel
theorem dX9_between_93 : decode cX9_between 93 = .ok (.getfield 264, 3) := by decide +kernel
theorem dX9_between_96 : decode cX9_between 96 = .ok (.invokevirtual 284, 3) := by decide +kernel
theorem dX9_between_99 : decode cX9_between 99 = .ok (.iconst 0, 1) := by decide +kernel
theorem dX9_between_100 : decode cX9_between 100 = .ok (.istore 4, 2) := by decide +kernel
theorem dX9_between_102 : decode cX9_between 102 = .ok (.iload 4, 2) := by decide +kernel
theorem dX9_between_104 : decode cX9_between 104 = .ok (.aload_n 0, 1) := by decide +kernel
theorem dX9_between_105 : decode cX9_between 105 = .ok (.getfield 174, 3) := by decide +kernel
theorem dX9_between_108 : decode cX9_between 108 = .ok (.if_icmp .ge 30, 3) := by decide +kernel
theorem dX9_between_111 : decode cX9_between 111 = .ok (.aload_n 0, 1) := by decide +kernel
theorem dX9_between_112 : decode cX9_between 112 = .ok (.getfield 116, 3) := by decide +kernel
theorem dX9_between_115 : decode cX9_between 115 = .ok (.iload 4, 2) := by decide +kernel
theorem dX9_between_117 : decode cX9_between 117 = .ok (.iload 4, 2) := by decide +kernel
theorem dX9_between_119 : decode cX9_between 119 = .ok (.aload_n 0, 1) := by decide +kernel
theorem dX9_between_120 : decode cX9_between 120 = .ok (.getfield 255, 3) := by decide +kernel
theorem dX9_between_123 : decode cX9_between 123 = .ok (.if_icmp .ne 7, 3) := by decide +kernel
theorem dX9_between_126 : decode cX9_between 126 = .ok (.iconst 1, 1) := by decide +kernel
theorem dX9_between_127 : decode cX9_between 127 = .ok (.goto 4, 3) := by decide +kernel
theorem dX9_between_130 : decode cX9_between 130 = .ok (.iconst 0, 1) := by decide +kernel
theorem dX9_between_131 : decode cX9_between 131 = .ok (.bastore, 1) := by decide +kernel
theorem dX9_between_132 : decode cX9_between 132 = .ok (.iinc 4 1, 3) := by decide +kernel
theorem dX9_between_135 : decode cX9_between 135 = .ok (.goto (-33), 3) := by decide +kernel
theorem dX9_between_138 : decode cX9_between 138 = .ok (.iconst 1, 1) := by decide +kernel
theorem dX9_between_139 : decode cX9_between 139 = .ok (.istore 4, 2) := by decide +kernel
theorem dX9_between_141 : decode cX9_between 141 = .ok (.iload 4, 2) := by decide +kernel
theorem dX9_between_143 : decode cX9_between 143 = .ok (.ifCond .eq 90, 3) := by decide +kernel
theorem dX9_between_146 : decode cX9_between 146 = .ok (.iconst 0, 1) := by decide +kernel
theorem dX9_between_147 : decode cX9_between 147 = .ok (.istore 4, 2) := by decide +kernel
theorem dX9_between_149 : decode cX9_between 149 = .ok (.iconst 0, 1) := by decide +kernel
theorem dX9_between_150 : decode cX9_between 150 = .ok (.istore 5, 2) := by decide +kernel
theorem dX9_between_152 : decode cX9_between 152 = .ok (.iload 5, 2) := by decide +kernel
theorem dX9_between_154 : decode cX9_between 154 = .ok (.aload_n 0, 1) := by decide +kernel
theorem dX9_between_155 : decode cX9_between 155 = .ok (.getfield 174, 3) := by decide +kernel
theorem dX9_between_158 : decode cX9_between 158 = .ok (.if_icmp .ge 72, 3) := by decide +kernel
theorem dX9_between_161 : decode cX9_between 161 = .ok (.aload_n 0, 1) := by decide +kernel
theorem dX9_between_162 : decode cX9_between 162 = .ok (.getfield 116, 3) := by decide +kernel
theorem dX9_between_165 : decode cX9_between 165 = .ok (.iload 5, 2) := by decide +kernel
theorem dX9_between_167 : decode cX9_between 167 = .ok (.baload, 1) := by decide +kernel
theorem dX9_between_168 : decode cX9_between 168 = .ok (.ifCond .ne 6, 3) := by decide +kernel
theorem dX9_between_171 : decode cX9_between 171 = .ok (.goto 53, 3) := by decide +kernel
theorem dX9_between_174 : decode cX9_between 174 = .ok (.iconst 0, 1) := by decide +kernel
theorem dX9_between_175 : decode cX9_between 175 = .ok (.istore 6, 2) := by decide +kernel
theorem dX9_between_177 : decode cX9_between 177 = .ok (.iload 6, 2) := by decide +kernel
theorem dX9_between_179 : decode cX9_between 179 = .ok (.aload_n 0, 1) := by decide +kernel
theorem dX9_between_180 : decode cX9_between 180 = .ok (.getfield 174, 3) := by decide +kernel
theorem dX9_between_183 : decode cX9_between 183 = .ok (.if_icmp .ge 41, 3) := by decide +kernel
theorem dX9_between_186 : decode cX9_between 186 = .ok (.aload_n 0, 1) := by decide +kernel
theorem dX9_between_187 : decode cX9_between 187 = .ok (.getfield 116, 3) := by decide +kernel
theorem dX9_between_190 : decode cX9_between 190 = .ok (.iload 6, 2) := by decide +kernel
theorem dX9_between_192 : decode cX9_between 192 = .ok (.baload, 1) := by decide +kernel
theorem dX9_between_193 : decode cX9_between 193 = .ok (.ifCond .ne 25, 3) := by decide +kernel
theorem dX9_between_196 : decode cX9_between 196 = .ok (.aload_n 0, 1) := by decide +kernel
theorem dX9_between_197 : decode cX9_between 197 = .ok (.iload 5, 2) := by decide +kernel
theorem dX9_between_199 : decode cX9_between 199 = .ok (.iload 6, 2) := by decide +kernel
theorem dX9_between_201 : decode cX9_between 201 = .ok (.invokevirtual 287, 3) := by decide +kernel
theorem dX9_between_204 : decode cX9_between 204 = .ok (.ifCond .eq 14, 3) := by decide +kernel
theorem dX9_between_207 : decode cX9_between 207 = .ok (.aload_n 0, 1) := by decide +kernel
theorem dX9_between_208 : decode cX9_between 208 = .ok (.getfield 116, 3) := by decide +kernel
theorem dX9_between_211 : decode cX9_between 211 = .ok (.iload 6, 2) := by decide +kernel
theorem dX9_between_213 : decode cX9_between 213 = .ok (.iconst 1, 1) := by decide +kernel
theorem dX9_between_214 : decode cX9_between 214 = .ok (.bastore, 1) := by decide +kernel
theorem dX9_between_215 : decode cX9_between 215 = .ok (.iconst 1, 1) := by decide +kernel
theorem dX9_between_216 : decode cX9_between 216 = .ok (.istore 4, 2) := by decide +kernel
theorem dX9_between_218 : decode cX9_between 218 = .ok (.iinc 6 1, 3) := by decide +kernel
theorem dX9_between_221 : decode cX9_between 221 = .ok (.goto (-44), 3) := by decide +kernel
theorem dX9_between_224 : decode cX9_between 224 = .ok (.iinc 5 1, 3) := by decide +kernel
theorem dX9_between_227 : decode cX9_between 227 = .ok (.goto (-75), 3) := by decide +kernel
theorem dX9_between_230 : decode cX9_between 230 = .ok (.goto (-89), 3) := by decide +kernel
theorem dX9_between_233 : decode cX9_between 233 = .ok (.iconst 0, 1) := by decide +kernel
theorem dX9_between_234 : decode cX9_between 234 = .ok (.istore 5, 2) := by decide +kernel
theorem dX9_between_236 : decode cX9_between 236 = .ok (.iconst 0, 1) := by decide +kernel
theorem dX9_between_237 : decode cX9_between 237 = .ok (.istore 6, 2) := by decide +kernel
theorem dX9_between_239 : decode cX9_between 239 = .ok (.iload 6, 2) := by decide +kernel
theorem dX9_between_241 : decode cX9_between 241 = .ok (.aload_n 0, 1) := by decide +kernel
theorem dX9_between_242 : decode cX9_between 242 = .ok (.getfield 174, 3) := by decide +kernel
theorem dX9_between_245 : decode cX9_between 245 = .ok (.if_icmp .ge 29, 3) := by decide +kernel
theorem dX9_between_248 : decode cX9_between 248 = .ok (.iload 5, 2) := by decide +kernel
theorem dX9_between_250 : decode cX9_between 250 = .ok (.aload_n 0, 1) := by decide +kernel
theorem dX9_between_251 : decode cX9_between 251 = .ok (.getfield 116, 3) := by decide +kernel
theorem dX9_between_254 : decode cX9_between 254 = .ok (.iload 6, 2) := by decide +kernel
theorem dX9_between_256 : decode cX9_between 256 = .ok (.baload, 1) := by decide +kernel
theorem dX9_between_257 : decode cX9_between 257 = .ok (.ifCond .eq 7, 3) := by decide +kernel
theorem dX9_between_260 : decode cX9_between 260 = .ok (.iconst 0, 1) := by decide +kernel
theorem dX9_between_261 : decode cX9_between 261 = .ok (.goto 4, 3) := by decide +kernel
theorem dX9_between_264 : decode cX9_between 264 = .ok (.iconst 1, 1) := by decide +kernel
theorem dX9_between_265 : decode cX9_between 265 = .ok (.iadd, 1) := by decide +kernel
theorem dX9_between_266 : decode cX9_between 266 = .ok (.istore 5, 2) := by decide +kernel
theorem dX9_between_268 : decode cX9_between 268 = .ok (.iinc 6 1, 3) := by decide +kernel
theorem dX9_between_271 : decode cX9_between 271 = .ok (.goto (-32), 3) := by decide +kernel
theorem dX9_between_274 : decode cX9_between 274 = .ok (.iload 5, 2) := by decide +kernel
theorem dX9_between_276 : decode cX9_between 276 = .ok (.ireturn, 1) := by decide +kernel
theorem dX9_branch_10 : decode cX9_branch 10 = .ok (.iconst 0, 1) := by decide +kernel
theorem dX9_branch_11 : decode cX9_branch 11 = .ok (.istore_n 2, 1) := by decide +kernel
theorem dX9_branch_12 : decode cX9_branch 12 = .ok (.iconst 0, 1) := by decide +kernel
theorem dX9_branch_13 : decode cX9_branch 13 = .ok (.istore_n 3, 1) := by decide +kernel
theorem dX9_branch_14 : decode cX9_branch 14 = .ok (.iload_n 3, 1) := by decide +kernel
theorem dX9_branch_15 : decode cX9_branch 15 = .ok (.aload_n 0, 1) := by decide +kernel
theorem dX9_branch_16 : decode cX9_branch 16 = .ok (.getfield 210, 3) := by decide +kernel
theorem dX9_branch_19 : decode cX9_branch 19 = .ok (.if_icmp .ge 29, 3) := by decide +kernel
theorem dX9_branch_22 : decode cX9_branch 22 = .ok (.aload_n 0, 1) := by decide +kernel
theorem dX9_branch_23 : decode cX9_branch 23 = .ok (.getfield 95, 3) := by decide +kernel
theorem dX9_branch_26 : decode cX9_branch 26 = .ok (.iload_n 3, 1) := by decide +kernel
theorem dX9_branch_27 : decode cX9_branch 27 = .ok (.iaload, 1) := by decide +kernel
theorem dX9_branch_28 : decode cX9_branch 28 = .ok (.iconst 2, 1) := by decide +kernel
theorem dX9_branch_29 : decode cX9_branch 29 = .ok (.if_icmp .le 13, 3) := by decide +kernel
theorem dX9_branch_32 : decode cX9_branch 32 = .ok (.iload_n 2, 1) := by decide +kernel
theorem dX9_branch_33 : decode cX9_branch 33 = .ok (.iload_n 1, 1) := by decide +kernel
theorem dX9_branch_34 : decode cX9_branch 34 = .ok (.if_icmp .ne 5, 3) := by decide +kernel
theorem dX9_branch_37 : decode cX9_branch 37 = .ok (.iload_n 3, 1) := by decide +kernel
theorem dX9_branch_38 : decode cX9_branch 38 = .ok (.ireturn, 1) := by decide +kernel
theorem dX9_branch_39 : decode cX9_branch 39 = .ok (.iinc 2 1, 3) := by decide +kernel
theorem dX9_branch_42 : decode cX9_branch 42 = .ok (.iinc 3 1, 3) := by decide +kernel
theorem dX9_branch_45 : decode cX9_branch 45 = .ok (.goto (-31), 3) := by decide +kernel
theorem dX9_branch_48 : decode cX9_branch 48 = .ok (.iconst (-1), 1) := by decide +kernel
theorem dX9_branch_49 : decode cX9_branch 49 = .ok (.ireturn, 1) := by decide +kernel
theorem dX9_branchBehind_0 : decode cX9_branchBehind 0 = .ok (.iload_n 2, 1) := by decide +kernel
theorem dX9_branchBehind_1 : decode cX9_branchBehind 1 = .ok (.istore_n 3, 1) := by decide +kernel
theorem dX9_branchBehind_2 : decode cX9_branchBehind 2 = .ok (.iload_n 1, 1) := by decide +kernel
theorem dX9_branchBehind_3 : decode cX9_branchBehind 3 = .ok (.istore 4, 2) := by decide +kernel
theorem dX9_branchBehind_5 : decode cX9_branchBehind 5 = .ok (.aload_n 0, 1) := by decide +kernel
theorem dX9_branchBehind_6 : decode cX9_branchBehind 6 = .ok (.getfield 95, 3) := by decide +kernel
theorem dX9_branchBehind_9 : decode cX9_branchBehind 9 = .ok (.iload_n 3, 1) := by decide +kernel
theorem dX9_branchBehind_10 : decode cX9_branchBehind 10 = .ok (.iaload, 1) := by decide +kernel
theorem dX9_branchBehind_11 : decode cX9_branchBehind 11 = .ok (.iconst 2, 1) := by decide +kernel
theorem dX9_branchBehind_12 : decode cX9_branchBehind 12 = .ok (.if_icmp .ne 76, 3) := by decide +kernel
theorem dX9_branchBehind_15 : decode cX9_branchBehind 15 = .ok (.iconst 0, 1) := by decide +kernel
theorem dX9_branchBehind_16 : decode cX9_branchBehind 16 = .ok (.istore 5, 2) := by decide +kernel
theorem dX9_branchBehind_18 : decode cX9_branchBehind 18 = .ok (.aload_n 0, 1) := by decide +kernel
theorem dX9_branchBehind_19 : decode cX9_branchBehind 19 = .ok (.getfield 92, 3) := by decide +kernel
theorem dX9_branchBehind_22 : decode cX9_branchBehind 22 = .ok (.iload 5, 2) := by decide +kernel
theorem dX9_branchBehind_24 : decode cX9_branchBehind 24 = .ok (.baload, 1) := by decide +kernel
theorem dX9_branchBehind_25 : decode cX9_branchBehind 25 = .ok (.ifCond .eq 32, 3) := by decide +kernel
theorem dX9_branchBehind_28 : decode cX9_branchBehind 28 = .ok (.iload 5, 2) := by decide +kernel
theorem dX9_branchBehind_30 : decode cX9_branchBehind 30 = .ok (.iload 4, 2) := by decide +kernel
theorem dX9_branchBehind_32 : decode cX9_branchBehind 32 = .ok (.if_icmp .eq 25, 3) := by decide +kernel
theorem dX9_branchBehind_35 : decode cX9_branchBehind 35 = .ok (.aload_n 0, 1) := by decide +kernel
theorem dX9_branchBehind_36 : decode cX9_branchBehind 36 = .ok (.getfield 7, 3) := by decide +kernel
theorem dX9_branchBehind_39 : decode cX9_branchBehind 39 = .ok (.iload 5, 2) := by decide +kernel
theorem dX9_branchBehind_41 : decode cX9_branchBehind 41 = .ok (.iaload, 1) := by decide +kernel
theorem dX9_branchBehind_42 : decode cX9_branchBehind 42 = .ok (.iload_n 3, 1) := by decide +kernel
theorem dX9_branchBehind_43 : decode cX9_branchBehind 43 = .ok (.if_icmp .eq 20, 3) := by decide +kernel
theorem dX9_branchBehind_46 : decode cX9_branchBehind 46 = .ok (.aload_n 0, 1) := by decide +kernel
theorem dX9_branchBehind_47 : decode cX9_branchBehind 47 = .ok (.getfield 13, 3) := by decide +kernel
theorem dX9_branchBehind_50 : decode cX9_branchBehind 50 = .ok (.iload 5, 2) := by decide +kernel
theorem dX9_branchBehind_52 : decode cX9_branchBehind 52 = .ok (.iaload, 1) := by decide +kernel
theorem dX9_branchBehind_53 : decode cX9_branchBehind 53 = .ok (.iload_n 3, 1) := by decide +kernel
theorem dX9_branchBehind_54 : decode cX9_branchBehind 54 = .ok (.if_icmp .eq 9, 3) := by decide +kernel
theorem dX9_branchBehind_57 : decode cX9_branchBehind 57 = .ok (.iinc 5 1, 3) := by decide +kernel
theorem dX9_branchBehind_60 : decode cX9_branchBehind 60 = .ok (.goto (-42), 3) := by decide +kernel
theorem dX9_branchBehind_63 : decode cX9_branchBehind 63 = .ok (.iload 5, 2) := by decide +kernel
theorem dX9_branchBehind_65 : decode cX9_branchBehind 65 = .ok (.istore 4, 2) := by decide +kernel
theorem dX9_branchBehind_67 : decode cX9_branchBehind 67 = .ok (.aload_n 0, 1) := by decide +kernel
theorem dX9_branchBehind_68 : decode cX9_branchBehind 68 = .ok (.getfield 7, 3) := by decide +kernel
theorem dX9_branchBehind_71 : decode cX9_branchBehind 71 = .ok (.iload 5, 2) := by decide +kernel
theorem dX9_branchBehind_73 : decode cX9_branchBehind 73 = .ok (.iaload, 1) := by decide +kernel
theorem dX9_branchBehind_74 : decode cX9_branchBehind 74 = .ok (.aload_n 0, 1) := by decide +kernel
theorem dX9_branchBehind_75 : decode cX9_branchBehind 75 = .ok (.getfield 13, 3) := by decide +kernel
theorem dX9_branchBehind_78 : decode cX9_branchBehind 78 = .ok (.iload 5, 2) := by decide +kernel
theorem dX9_branchBehind_80 : decode cX9_branchBehind 80 = .ok (.iaload, 1) := by decide +kernel
theorem dX9_branchBehind_81 : decode cX9_branchBehind 81 = .ok (.iadd, 1) := by decide +kernel
theorem dX9_branchBehind_82 : decode cX9_branchBehind 82 = .ok (.iload_n 3, 1) := by decide +kernel
theorem dX9_branchBehind_83 : decode cX9_branchBehind 83 = .ok (.isub, 1) := by decide +kernel
theorem dX9_branchBehind_84 : decode cX9_branchBehind 84 = .ok (.istore_n 3, 1) := by decide +kernel
theorem dX9_branchBehind_85 : decode cX9_branchBehind 85 = .ok (.goto (-80), 3) := by decide +kernel
theorem dX9_branchBehind_88 : decode cX9_branchBehind 88 = .ok (.iload_n 3, 1) := by decide +kernel
theorem dX9_branchBehind_89 : decode cX9_branchBehind 89 = .ok (.ireturn, 1) := by decide +kernel
theorem dX9_crossing_7 : decode cX9_crossing 7 = .ok (.bipush (-3), 2) := by decide +kernel
theorem dX9_crossing_9 : decode cX9_crossing 9 = .ok (.ireturn, 1) := by decide +kernel
theorem dX9_crossing_20 : decode cX9_crossing 20 = .ok (.iload_n 1, 1) := by decide +kernel
theorem dX9_crossing_21 : decode cX9_crossing 21 = .ok (.iconst 1, 1) := by decide +kernel
theorem dX9_crossing_22 : decode cX9_crossing 22 = .ok (.iadd, 1) := by decide +kernel
theorem dX9_crossing_23 : decode cX9_crossing 23 = .ok (.istore_n 2, 1) := by decide +kernel
theorem dX9_crossing_24 : decode cX9_crossing 24 = .ok (.iload_n 2, 1) := by decide +kernel
theorem dX9_crossing_25 : decode cX9_crossing 25 = .ok (.aload_n 0, 1) := by decide +kernel
theorem dX9_crossing_26 : decode cX9_crossing 26 = .ok (.getfield 213, 3) := by decide +kernel
theorem dX9_crossing_29 : decode cX9_crossing 29 = .ok (.if_icmp .ge 150, 3) := by decide +kernel
theorem dX9_crossing_32 : decode cX9_crossing 32 = .ok (.aload_n 0, 1) := by decide +kernel
theorem dX9_crossing_33 : decode cX9_crossing 33 = .ok (.getfield 16, 3) := by decide +kernel
theorem dX9_crossing_36 : decode cX9_crossing 36 = .ok (.iload_n 1, 1) := by decide +kernel
theorem dX9_crossing_37 : decode cX9_crossing 37 = .ok (.baload, 1) := by decide +kernel
theorem dX9_crossing_38 : decode cX9_crossing 38 = .ok (.ifCond .eq 46, 3) := by decide +kernel
theorem dX9_crossing_41 : decode cX9_crossing 41 = .ok (.aload_n 0, 1) := by decide +kernel
theorem dX9_crossing_42 : decode cX9_crossing 42 = .ok (.getfield 16, 3) := by decide +kernel
theorem dX9_crossing_45 : decode cX9_crossing 45 = .ok (.iload_n 2, 1) := by decide +kernel
theorem dX9_crossing_46 : decode cX9_crossing 46 = .ok (.baload, 1) := by decide +kernel
theorem dX9_crossing_47 : decode cX9_crossing 47 = .ok (.ifCond .eq 37, 3) := by decide +kernel
theorem dX9_crossing_50 : decode cX9_crossing 50 = .ok (.aload_n 0, 1) := by decide +kernel
theorem dX9_crossing_51 : decode cX9_crossing 51 = .ok (.getfield 7, 3) := by decide +kernel
theorem dX9_crossing_54 : decode cX9_crossing 54 = .ok (.iload_n 1, 1) := by decide +kernel
theorem dX9_crossing_55 : decode cX9_crossing 55 = .ok (.iaload, 1) := by decide +kernel
theorem dX9_crossing_56 : decode cX9_crossing 56 = .ok (.aload_n 0, 1) := by decide +kernel
theorem dX9_crossing_57 : decode cX9_crossing 57 = .ok (.getfield 13, 3) := by decide +kernel
theorem dX9_crossing_60 : decode cX9_crossing 60 = .ok (.iload_n 1, 1) := by decide +kernel
theorem dX9_crossing_61 : decode cX9_crossing 61 = .ok (.iaload, 1) := by decide +kernel
theorem dX9_crossing_62 : decode cX9_crossing 62 = .ok (.if_icmp .eq 22, 3) := by decide +kernel
theorem dX9_crossing_65 : decode cX9_crossing 65 = .ok (.aload_n 0, 1) := by decide +kernel
theorem dX9_crossing_66 : decode cX9_crossing 66 = .ok (.getfield 7, 3) := by decide +kernel
theorem dX9_crossing_69 : decode cX9_crossing 69 = .ok (.iload_n 2, 1) := by decide +kernel
theorem dX9_crossing_70 : decode cX9_crossing 70 = .ok (.iaload, 1) := by decide +kernel
theorem dX9_crossing_71 : decode cX9_crossing 71 = .ok (.aload_n 0, 1) := by decide +kernel
theorem dX9_crossing_72 : decode cX9_crossing 72 = .ok (.getfield 13, 3) := by decide +kernel
theorem dX9_crossing_75 : decode cX9_crossing 75 = .ok (.iload_n 2, 1) := by decide +kernel
theorem dX9_crossing_76 : decode cX9_crossing 76 = .ok (.iaload, 1) := by decide +kernel
theorem dX9_crossing_77 : decode cX9_crossing 77 = .ok (.if_icmp .eq 7, 3) := by decide +kernel
theorem dX9_crossing_80 : decode cX9_crossing 80 = .ok (.iconst 1, 1) := by decide +kernel
theorem dX9_crossing_81 : decode cX9_crossing 81 = .ok (.goto 4, 3) := by decide +kernel
theorem dX9_crossing_84 : decode cX9_crossing 84 = .ok (.iconst 0, 1) := by decide +kernel
theorem dX9_crossing_85 : decode cX9_crossing 85 = .ok (.istore_n 3, 1) := by decide +kernel
theorem dX9_crossing_86 : decode cX9_crossing 86 = .ok (.aload_n 0, 1) := by decide +kernel
theorem dX9_crossing_87 : decode cX9_crossing 87 = .ok (.getfield 7, 3) := by decide +kernel
theorem dX9_crossing_90 : decode cX9_crossing 90 = .ok (.iload_n 1, 1) := by decide +kernel
theorem dX9_crossing_91 : decode cX9_crossing 91 = .ok (.iaload, 1) := by decide +kernel
theorem dX9_crossing_92 : decode cX9_crossing 92 = .ok (.aload_n 0, 1) := by decide +kernel
theorem dX9_crossing_93 : decode cX9_crossing 93 = .ok (.getfield 7, 3) := by decide +kernel
theorem dX9_crossing_96 : decode cX9_crossing 96 = .ok (.iload_n 2, 1) := by decide +kernel
theorem dX9_crossing_97 : decode cX9_crossing 97 = .ok (.iaload, 1) := by decide +kernel
theorem dX9_crossing_98 : decode cX9_crossing 98 = .ok (.if_icmp .ne 18, 3) := by decide +kernel
theorem dX9_crossing_101 : decode cX9_crossing 101 = .ok (.aload_n 0, 1) := by decide +kernel
theorem dX9_crossing_102 : decode cX9_crossing 102 = .ok (.getfield 13, 3) := by decide +kernel
theorem dX9_crossing_105 : decode cX9_crossing 105 = .ok (.iload_n 1, 1) := by decide +kernel
theorem dX9_crossing_106 : decode cX9_crossing 106 = .ok (.iaload, 1) := by decide +kernel
theorem dX9_crossing_107 : decode cX9_crossing 107 = .ok (.aload_n 0, 1) := by decide +kernel
theorem dX9_crossing_108 : decode cX9_crossing 108 = .ok (.getfield 13, 3) := by decide +kernel
theorem dX9_crossing_111 : decode cX9_crossing 111 = .ok (.iload_n 2, 1) := by decide +kernel
theorem dX9_crossing_112 : decode cX9_crossing 112 = .ok (.iaload, 1) := by decide +kernel
theorem dX9_crossing_113 : decode cX9_crossing 113 = .ok (.if_icmp .eq 33, 3) := by decide +kernel
theorem dX9_crossing_116 : decode cX9_crossing 116 = .ok (.aload_n 0, 1) := by decide +kernel
theorem dX9_crossing_117 : decode cX9_crossing 117 = .ok (.getfield 7, 3) := by decide +kernel
theorem dX9_crossing_120 : decode cX9_crossing 120 = .ok (.iload_n 1, 1) := by decide +kernel
theorem dX9_crossing_121 : decode cX9_crossing 121 = .ok (.iaload, 1) := by decide +kernel
theorem dX9_crossing_122 : decode cX9_crossing 122 = .ok (.aload_n 0, 1) := by decide +kernel
theorem dX9_crossing_123 : decode cX9_crossing 123 = .ok (.getfield 13, 3) := by decide +kernel
theorem dX9_crossing_126 : decode cX9_crossing 126 = .ok (.iload_n 2, 1) := by decide +kernel
theorem dX9_crossing_127 : decode cX9_crossing 127 = .ok (.iaload, 1) := by decide +kernel
theorem dX9_crossing_128 : decode cX9_crossing 128 = .ok (.if_icmp .ne 22, 3) := by decide +kernel
theorem dX9_crossing_131 : decode cX9_crossing 131 = .ok (.aload_n 0, 1) := by decide +kernel
theorem dX9_crossing_132 : decode cX9_crossing 132 = .ok (.getfield 13, 3) := by decide +kernel
theorem dX9_crossing_135 : decode cX9_crossing 135 = .ok (.iload_n 1, 1) := by decide +kernel
theorem dX9_crossing_136 : decode cX9_crossing 136 = .ok (.iaload, 1) := by decide +kernel
theorem dX9_crossing_137 : decode cX9_crossing 137 = .ok (.aload_n 0, 1) := by decide +kernel
theorem dX9_crossing_138 : decode cX9_crossing 138 = .ok (.getfield 7, 3) := by decide +kernel
theorem dX9_crossing_141 : decode cX9_crossing 141 = .ok (.iload_n 2, 1) := by decide +kernel
theorem dX9_crossing_142 : decode cX9_crossing 142 = .ok (.iaload, 1) := by decide +kernel
theorem dX9_crossing_143 : decode cX9_crossing 143 = .ok (.if_icmp .ne 7, 3) := by decide +kernel
theorem dX9_crossing_146 : decode cX9_crossing 146 = .ok (.iconst 1, 1) := by decide +kernel
theorem dX9_crossing_147 : decode cX9_crossing 147 = .ok (.goto 4, 3) := by decide +kernel
theorem dX9_crossing_150 : decode cX9_crossing 150 = .ok (.iconst 0, 1) := by decide +kernel
theorem dX9_crossing_151 : decode cX9_crossing 151 = .ok (.istore 4, 2) := by decide +kernel
theorem dX9_crossing_153 : decode cX9_crossing 153 = .ok (.iload_n 3, 1) := by decide +kernel
theorem dX9_crossing_154 : decode cX9_crossing 154 = .ok (.ifCond .eq 19, 3) := by decide +kernel
theorem dX9_crossing_157 : decode cX9_crossing 157 = .ok (.iload 4, 2) := by decide +kernel
theorem dX9_crossing_159 : decode cX9_crossing 159 = .ok (.ifCond .ne 14, 3) := by decide +kernel
theorem dX9_crossing_162 : decode cX9_crossing 162 = .ok (.aload_n 0, 1) := by decide +kernel
theorem dX9_crossing_163 : decode cX9_crossing 163 = .ok (.iload_n 1, 1) := by decide +kernel
theorem dX9_crossing_164 : decode cX9_crossing 164 = .ok (.iload_n 2, 1) := by decide +kernel
theorem dX9_crossing_165 : decode cX9_crossing 165 = .ok (.invokevirtual 344, 3) := by decide +kernel
theorem dX9_crossing_168 : decode cX9_crossing 168 = .ok (.ifCond .eq 5, 3) := by decide +kernel
theorem dX9_crossing_171 : decode cX9_crossing 171 = .ok (.iconst 1, 1) := by decide +kernel
theorem dX9_crossing_172 : decode cX9_crossing 172 = .ok (.ireturn, 1) := by decide +kernel
theorem dX9_crossing_173 : decode cX9_crossing 173 = .ok (.iinc 2 1, 3) := by decide +kernel
theorem dX9_crossing_176 : decode cX9_crossing 176 = .ok (.goto (-152), 3) := by decide +kernel
theorem dX9_crossing_179 : decode cX9_crossing 179 = .ok (.iinc 1 1, 3) := by decide +kernel
theorem dX9_crossing_182 : decode cX9_crossing 182 = .ok (.goto (-170), 3) := by decide +kernel
theorem dX9_cut_10 : decode cX9_cut 10 = .ok (.aload_n 0, 1) := by decide +kernel
theorem dX9_cut_11 : decode cX9_cut 11 = .ok (.getfield 16, 3) := by decide +kernel
theorem dX9_cut_14 : decode cX9_cut 14 = .ok (.iload_n 1, 1) := by decide +kernel
theorem dX9_cut_15 : decode cX9_cut 15 = .ok (.iconst 0, 1) := by decide +kernel
theorem dX9_cut_16 : decode cX9_cut 16 = .ok (.bastore, 1) := by decide +kernel
theorem dX9_cut_17 : decode cX9_cut 17 = .ok (.aload_n 0, 1) := by decide +kernel
theorem dX9_cut_18 : decode cX9_cut 18 = .ok (.aload_n 0, 1) := by decide +kernel
theorem dX9_cut_19 : decode cX9_cut 19 = .ok (.getfield 7, 3) := by decide +kernel
theorem dX9_cut_22 : decode cX9_cut 22 = .ok (.iload_n 1, 1) := by decide +kernel
theorem dX9_cut_23 : decode cX9_cut 23 = .ok (.iaload, 1) := by decide +kernel
theorem dX9_cut_24 : decode cX9_cut 24 = .ok (.iconst 2, 1) := by decide +kernel
theorem dX9_cut_25 : decode cX9_cut 25 = .ok (.iload_n 1, 1) := by decide +kernel
theorem dX9_cut_26 : decode cX9_cut 26 = .ok (.imul, 1) := by decide +kernel
theorem dX9_cut_27 : decode cX9_cut 27 = .ok (.invokevirtual 312, 3) := by decide +kernel
theorem dX9_cut_30 : decode cX9_cut 30 = .ok (.aload_n 0, 1) := by decide +kernel
theorem dX9_cut_31 : decode cX9_cut 31 = .ok (.aload_n 0, 1) := by decide +kernel
theorem dX9_cut_32 : decode cX9_cut 32 = .ok (.getfield 13, 3) := by decide +kernel
theorem dX9_cut_35 : decode cX9_cut 35 = .ok (.iload_n 1, 1) := by decide +kernel
theorem dX9_cut_36 : decode cX9_cut 36 = .ok (.iaload, 1) := by decide +kernel
theorem dX9_cut_37 : decode cX9_cut 37 = .ok (.iconst 2, 1) := by decide +kernel
theorem dX9_cut_38 : decode cX9_cut 38 = .ok (.iload_n 1, 1) := by decide +kernel
theorem dX9_cut_39 : decode cX9_cut 39 = .ok (.imul, 1) := by decide +kernel
theorem dX9_cut_40 : decode cX9_cut 40 = .ok (.iconst 1, 1) := by decide +kernel
theorem dX9_cut_41 : decode cX9_cut 41 = .ok (.iadd, 1) := by decide +kernel
theorem dX9_cut_42 : decode cX9_cut 42 = .ok (.invokevirtual 312, 3) := by decide +kernel
theorem dX9_cut_45 : decode cX9_cut 45 = .ok (.aload_n 0, 1) := by decide +kernel
theorem dX9_cut_46 : decode cX9_cut 46 = .ok (.iconst 0, 1) := by decide +kernel
theorem dX9_cut_47 : decode cX9_cut 47 = .ok (.putfield 216, 3) := by decide +kernel
theorem dX9_cut_50 : decode cX9_cut 50 = .ok (.aload_n 0, 1) := by decide +kernel
theorem dX9_cut_51 : decode cX9_cut 51 = .ok (.invokevirtual 315, 3) := by decide +kernel
theorem dX9_cut_54 : decode cX9_cut 54 = .ok (.ireturn, 1) := by decide +kernel
theorem dX9_degree_8 : decode cX9_degree 8 = .ok (.aload_n 0, 1) := by decide +kernel
theorem dX9_degree_9 : decode cX9_degree 9 = .ok (.getfield 23, 3) := by decide +kernel
theorem dX9_degree_12 : decode cX9_degree 12 = .ok (.iload_n 1, 1) := by decide +kernel
theorem dX9_degree_13 : decode cX9_degree 13 = .ok (.iaload, 1) := by decide +kernel
theorem dX9_degree_14 : decode cX9_degree 14 = .ok (.goto 4, 3) := by decide +kernel
theorem dX9_dual_10 : decode cX9_dual 10 = .ok (.iload_n 2, 1) := by decide +kernel
theorem dX9_dual_11 : decode cX9_dual 11 = .ok (.ifCond .lt 8, 3) := by decide +kernel
theorem dX9_dual_14 : decode cX9_dual 14 = .ok (.iload_n 2, 1) := by decide +kernel
theorem dX9_dual_15 : decode cX9_dual 15 = .ok (.iconst 1, 1) := by decide +kernel
theorem dX9_dual_16 : decode cX9_dual 16 = .ok (.if_icmp .le 6, 3) := by decide +kernel
theorem dX9_dual_19 : decode cX9_dual 19 = .ok (.bipush (-2), 2) := by decide +kernel
theorem dX9_dual_21 : decode cX9_dual 21 = .ok (.ireturn, 1) := by decide +kernel
theorem dX9_dual_22 : decode cX9_dual 22 = .ok (.aload_n 0, 1) := by decide +kernel
theorem dX9_dual_23 : decode cX9_dual 23 = .ok (.invokevirtual 330, 3) := by decide +kernel
theorem dX9_dual_26 : decode cX9_dual 26 = .ok (.ifCond .ne 6, 3) := by decide +kernel
theorem dX9_dual_29 : decode cX9_dual 29 = .ok (.bipush (-3), 2) := by decide +kernel
theorem dX9_dual_31 : decode cX9_dual 31 = .ok (.ireturn, 1) := by decide +kernel
theorem dX9_dual_32 : decode cX9_dual 32 = .ok (.aload_n 0, 1) := by decide +kernel
theorem dX9_dual_33 : decode cX9_dual 33 = .ok (.iconst 0, 1) := by decide +kernel
theorem dX9_dual_34 : decode cX9_dual 34 = .ok (.invokevirtual 321, 3) := by decide +kernel
theorem dX9_dual_37 : decode cX9_dual 37 = .ok (.aload_n 0, 1) := by decide +kernel
theorem dX9_dual_38 : decode cX9_dual 38 = .ok (.getfield 125, 3) := by decide +kernel
theorem dX9_dual_41 : decode cX9_dual 41 = .ok (.iconst 2, 1) := by decide +kernel
theorem dX9_dual_42 : decode cX9_dual 42 = .ok (.iload_n 1, 1) := by decide +kernel
theorem dX9_dual_43 : decode cX9_dual 43 = .ok (.imul, 1) := by decide +kernel
theorem dX9_dual_44 : decode cX9_dual 44 = .ok (.iload_n 2, 1) := by decide +kernel
theorem dX9_dual_45 : decode cX9_dual 45 = .ok (.iadd, 1) := by decide +kernel
theorem dX9_dual_46 : decode cX9_dual 46 = .ok (.iaload, 1) := by decide +kernel
theorem dX9_dual_47 : decode cX9_dual 47 = .ok (.ireturn, 1) := by decide +kernel
theorem dX9_dualBack_10 : decode cX9_dualBack 10 = .ok (.aload_n 0, 1) := by decide +kernel
theorem dX9_dualBack_11 : decode cX9_dualBack 11 = .ok (.iconst 0, 1) := by decide +kernel
theorem dX9_dualBack_12 : decode cX9_dualBack 12 = .ok (.invokevirtual 321, 3) := by decide +kernel
theorem dX9_dualBack_15 : decode cX9_dualBack 15 = .ok (.iconst 0, 1) := by decide +kernel
theorem dX9_dualBack_16 : decode cX9_dualBack 16 = .ok (.istore_n 1, 1) := by decide +kernel
theorem dX9_dualBack_17 : decode cX9_dualBack 17 = .ok (.iload_n 1, 1) := by decide +kernel
theorem dX9_dualBack_18 : decode cX9_dualBack 18 = .ok (.sipush 160, 3) := by decide +kernel
theorem dX9_dualBack_21 : decode cX9_dualBack 21 = .ok (.if_icmp .ge 16, 3) := by decide +kernel
theorem dX9_dualBack_24 : decode cX9_dualBack 24 = .ok (.aload_n 0, 1) := by decide +kernel
theorem dX9_dualBack_25 : decode cX9_dualBack 25 = .ok (.getfield 128, 3) := by decide +kernel
theorem dX9_dualBack_28 : decode cX9_dualBack 28 = .ok (.iload_n 1, 1) := by decide +kernel
theorem dX9_dualBack_29 : decode cX9_dualBack 29 = .ok (.iconst 0, 1) := by decide +kernel
theorem dX9_dualBack_30 : decode cX9_dualBack 30 = .ok (.bastore, 1) := by decide +kernel
theorem dX9_dualBack_31 : decode cX9_dualBack 31 = .ok (.iinc 1 1, 3) := by decide +kernel
theorem dX9_dualBack_34 : decode cX9_dualBack 34 = .ok (.goto (-17), 3) := by decide +kernel
theorem dX9_dualBack_37 : decode cX9_dualBack 37 = .ok (.iconst 0, 1) := by decide +kernel
theorem dX9_dualBack_38 : decode cX9_dualBack 38 = .ok (.istore_n 1, 1) := by decide +kernel
theorem dX9_dualBack_39 : decode cX9_dualBack 39 = .ok (.iconst 1, 1) := by decide +kernel
theorem dX9_dualBack_40 : decode cX9_dualBack 40 = .ok (.istore_n 2, 1) := by decide +kernel
theorem dX9_dualBack_41 : decode cX9_dualBack 41 = .ok (.iconst 0, 1) := by decide +kernel
theorem dX9_dualBack_42 : decode cX9_dualBack 42 = .ok (.istore_n 3, 1) := by decide +kernel
theorem dX9_dualBack_43 : decode cX9_dualBack 43 = .ok (.iload_n 3, 1) := by decide +kernel
theorem dX9_dualBack_44 : decode cX9_dualBack 44 = .ok (.iconst 2, 1) := by decide +kernel
theorem dX9_dualBack_45 : decode cX9_dualBack 45 = .ok (.aload_n 0, 1) := by decide +kernel
theorem dX9_dualBack_46 : decode cX9_dualBack 46 = .ok (.getfield 213, 3) := by decide +kernel
theorem dX9_dualBack_49 : decode cX9_dualBack 49 = .ok (.imul, 1) := by decide +kernel
theorem dX9_dualBack_50 : decode cX9_dualBack 50 = .ok (.if_icmp .ge 124, 3) := by decide +kernel
theorem dX9_dualBack_53 : decode cX9_dualBack 53 = .ok (.aload_n 0, 1) := by decide +kernel
theorem dX9_dualBack_54 : decode cX9_dualBack 54 = .ok (.getfield 16, 3) := by decide +kernel
theorem dX9_dualBack_57 : decode cX9_dualBack 57 = .ok (.iload_n 3, 1) := by decide +kernel
theorem dX9_dualBack_58 : decode cX9_dualBack 58 = .ok (.iconst 2, 1) := by decide +kernel
theorem dX9_dualBack_59 : decode cX9_dualBack 59 = .ok (.idiv, 1) := by decide +kernel
theorem dX9_dualBack_60 : decode cX9_dualBack 60 = .ok (.baload, 1) := by decide +kernel
theorem dX9_dualBack_61 : decode cX9_dualBack 61 = .ok (.ifCond .eq 107, 3) := by decide +kernel
theorem dX9_dualBack_64 : decode cX9_dualBack 64 = .ok (.aload_n 0, 1) := by decide +kernel
theorem dX9_dualBack_65 : decode cX9_dualBack 65 = .ok (.getfield 128, 3) := by decide +kernel
theorem dX9_dualBack_68 : decode cX9_dualBack 68 = .ok (.iload_n 3, 1) := by decide +kernel
theorem dX9_dualBack_69 : decode cX9_dualBack 69 = .ok (.baload, 1) := by decide +kernel
theorem dX9_dualBack_70 : decode cX9_dualBack 70 = .ok (.ifCond .eq 6, 3) := by decide +kernel
theorem dX9_dualBack_73 : decode cX9_dualBack 73 = .ok (.goto 95, 3) := by decide +kernel
theorem dX9_dualBack_76 : decode cX9_dualBack 76 = .ok (.iinc 1 1, 3) := by decide +kernel
theorem dX9_dualBack_79 : decode cX9_dualBack 79 = .ok (.iconst 0, 1) := by decide +kernel
theorem dX9_dualBack_80 : decode cX9_dualBack 80 = .ok (.istore 4, 2) := by decide +kernel
theorem dX9_dualBack_82 : decode cX9_dualBack 82 = .ok (.iload_n 3, 1) := by decide +kernel
theorem dX9_dualBack_83 : decode cX9_dualBack 83 = .ok (.istore 5, 2) := by decide +kernel
theorem dX9_dualBack_85 : decode cX9_dualBack 85 = .ok (.aload_n 0, 1) := by decide +kernel
theorem dX9_dualBack_86 : decode cX9_dualBack 86 = .ok (.getfield 128, 3) := by decide +kernel
theorem dX9_dualBack_89 : decode cX9_dualBack 89 = .ok (.iload 5, 2) := by decide +kernel
theorem dX9_dualBack_91 : decode cX9_dualBack 91 = .ok (.baload, 1) := by decide +kernel
theorem dX9_dualBack_92 : decode cX9_dualBack 92 = .ok (.ifCond .ne 51, 3) := by decide +kernel
theorem dX9_dualBack_95 : decode cX9_dualBack 95 = .ok (.aload_n 0, 1) := by decide +kernel
theorem dX9_dualBack_96 : decode cX9_dualBack 96 = .ok (.getfield 128, 3) := by decide +kernel
theorem dX9_dualBack_99 : decode cX9_dualBack 99 = .ok (.iload 5, 2) := by decide +kernel
theorem dX9_dualBack_101 : decode cX9_dualBack 101 = .ok (.iconst 1, 1) := by decide +kernel
theorem dX9_dualBack_102 : decode cX9_dualBack 102 = .ok (.bastore, 1) := by decide +kernel
theorem dX9_dualBack_103 : decode cX9_dualBack 103 = .ok (.iinc 4 1, 3) := by decide +kernel
theorem dX9_dualBack_106 : decode cX9_dualBack 106 = .ok (.iload_n 2, 1) := by decide +kernel
theorem dX9_dualBack_107 : decode cX9_dualBack 107 = .ok (.ifCond .eq 21, 3) := by decide +kernel
theorem dX9_dualBack_110 : decode cX9_dualBack 110 = .ok (.aload_n 0, 1) := by decide +kernel
theorem dX9_dualBack_111 : decode cX9_dualBack 111 = .ok (.iload 5, 2) := by decide +kernel
theorem dX9_dualBack_113 : decode cX9_dualBack 113 = .ok (.invokevirtual 290, 3) := by decide +kernel
theorem dX9_dualBack_116 : decode cX9_dualBack 116 = .ok (.aload_n 0, 1) := by decide +kernel
theorem dX9_dualBack_117 : decode cX9_dualBack 117 = .ok (.iload_n 3, 1) := by decide +kernel
theorem dX9_dualBack_118 : decode cX9_dualBack 118 = .ok (.invokevirtual 290, 3) := by decide +kernel
theorem dX9_dualBack_121 : decode cX9_dualBack 121 = .ok (.if_icmp .ne 7, 3) := by decide +kernel
theorem dX9_dualBack_124 : decode cX9_dualBack 124 = .ok (.iconst 1, 1) := by decide +kernel
theorem dX9_dualBack_125 : decode cX9_dualBack 125 = .ok (.goto 4, 3) := by decide +kernel
theorem dX9_dualBack_128 : decode cX9_dualBack 128 = .ok (.iconst 0, 1) := by decide +kernel
theorem dX9_dualBack_129 : decode cX9_dualBack 129 = .ok (.istore_n 2, 1) := by decide +kernel
theorem dX9_dualBack_130 : decode cX9_dualBack 130 = .ok (.aload_n 0, 1) := by decide +kernel
theorem dX9_dualBack_131 : decode cX9_dualBack 131 = .ok (.iload 5, 2) := by decide +kernel
theorem dX9_dualBack_133 : decode cX9_dualBack 133 = .ok (.iconst 1, 1) := by decide +kernel
theorem dX9_dualBack_134 : decode cX9_dualBack 134 = .ok (.ixor, 1) := by decide +kernel
theorem dX9_dualBack_135 : decode cX9_dualBack 135 = .ok (.invokevirtual 333, 3) := by decide +kernel
theorem dX9_dualBack_138 : decode cX9_dualBack 138 = .ok (.istore 5, 2) := by decide +kernel
theorem dX9_dualBack_140 : decode cX9_dualBack 140 = .ok (.goto (-55), 3) := by decide +kernel
theorem dX9_dualBack_143 : decode cX9_dualBack 143 = .ok (.iload_n 2, 1) := by decide +kernel
theorem dX9_dualBack_144 : decode cX9_dualBack 144 = .ok (.ifCond .eq 22, 3) := by decide +kernel
theorem dX9_dualBack_147 : decode cX9_dualBack 147 = .ok (.iload 4, 2) := by decide +kernel
theorem dX9_dualBack_149 : decode cX9_dualBack 149 = .ok (.aload_n 0, 1) := by decide +kernel
theorem dX9_dualBack_150 : decode cX9_dualBack 150 = .ok (.getfield 23, 3) := by decide +kernel
theorem dX9_dualBack_153 : decode cX9_dualBack 153 = .ok (.aload_n 0, 1) := by decide +kernel
theorem dX9_dualBack_154 : decode cX9_dualBack 154 = .ok (.iload_n 3, 1) := by decide +kernel
theorem dX9_dualBack_155 : decode cX9_dualBack 155 = .ok (.invokevirtual 290, 3) := by decide +kernel
theorem dX9_dualBack_158 : decode cX9_dualBack 158 = .ok (.iaload, 1) := by decide +kernel
theorem dX9_dualBack_159 : decode cX9_dualBack 159 = .ok (.if_icmp .ne 7, 3) := by decide +kernel
theorem dX9_dualBack_162 : decode cX9_dualBack 162 = .ok (.iconst 1, 1) := by decide +kernel
theorem dX9_dualBack_163 : decode cX9_dualBack 163 = .ok (.goto 4, 3) := by decide +kernel
theorem dX9_dualBack_166 : decode cX9_dualBack 166 = .ok (.iconst 0, 1) := by decide +kernel
theorem dX9_dualBack_167 : decode cX9_dualBack 167 = .ok (.istore_n 2, 1) := by decide +kernel
theorem dX9_dualBack_168 : decode cX9_dualBack 168 = .ok (.iinc 3 1, 3) := by decide +kernel
theorem dX9_dualBack_171 : decode cX9_dualBack 171 = .ok (.goto (-128), 3) := by decide +kernel
theorem dX9_dualBack_174 : decode cX9_dualBack 174 = .ok (.iload_n 2, 1) := by decide +kernel
theorem dX9_dualBack_175 : decode cX9_dualBack 175 = .ok (.ifCond .eq 15, 3) := by decide +kernel
theorem dX9_dualBack_178 : decode cX9_dualBack 178 = .ok (.iload_n 1, 1) := by decide +kernel
theorem dX9_dualBack_179 : decode cX9_dualBack 179 = .ok (.aload_n 0, 1) := by decide +kernel
theorem dX9_dualBack_180 : decode cX9_dualBack 180 = .ok (.getfield 210, 3) := by decide +kernel
theorem dX9_dualBack_183 : decode cX9_dualBack 183 = .ok (.if_icmp .ne 7, 3) := by decide +kernel
theorem dX9_dualBack_186 : decode cX9_dualBack 186 = .ok (.iconst 1, 1) := by decide +kernel
theorem dX9_dualBack_187 : decode cX9_dualBack 187 = .ok (.goto 4, 3) := by decide +kernel
theorem dX9_dualBack_190 : decode cX9_dualBack 190 = .ok (.iconst 0, 1) := by decide +kernel
theorem dX9_dualBack_191 : decode cX9_dualBack 191 = .ok (.ireturn, 1) := by decide +kernel
theorem dX9_edgeAt_0 : decode cX9_edgeAt 0 = .ok (.iconst 0, 1) := by decide +kernel
theorem dX9_edgeAt_1 : decode cX9_edgeAt 1 = .ok (.istore_n 3, 1) := by decide +kernel
theorem dX9_edgeAt_2 : decode cX9_edgeAt 2 = .ok (.aload_n 0, 1) := by decide +kernel
theorem dX9_edgeAt_3 : decode cX9_edgeAt 3 = .ok (.getfield 29, 3) := by decide +kernel
theorem dX9_edgeAt_6 : decode cX9_edgeAt 6 = .ok (.iload_n 3, 1) := by decide +kernel
theorem dX9_edgeAt_7 : decode cX9_edgeAt 7 = .ok (.iaload, 1) := by decide +kernel
theorem dX9_edgeAt_8 : decode cX9_edgeAt 8 = .ok (.iload_n 1, 1) := by decide +kernel
theorem dX9_edgeAt_9 : decode cX9_edgeAt 9 = .ok (.if_icmp .ne 13, 3) := by decide +kernel
theorem dX9_edgeAt_12 : decode cX9_edgeAt 12 = .ok (.aload_n 0, 1) := by decide +kernel
theorem dX9_edgeAt_13 : decode cX9_edgeAt 13 = .ok (.getfield 32, 3) := by decide +kernel
theorem dX9_edgeAt_16 : decode cX9_edgeAt 16 = .ok (.iload_n 3, 1) := by decide +kernel
theorem dX9_edgeAt_17 : decode cX9_edgeAt 17 = .ok (.iaload, 1) := by decide +kernel
theorem dX9_edgeAt_18 : decode cX9_edgeAt 18 = .ok (.iload_n 2, 1) := by decide +kernel
theorem dX9_edgeAt_19 : decode cX9_edgeAt 19 = .ok (.if_icmp .eq 29, 3) := by decide +kernel
theorem dX9_edgeAt_22 : decode cX9_edgeAt 22 = .ok (.aload_n 0, 1) := by decide +kernel
theorem dX9_edgeAt_23 : decode cX9_edgeAt 23 = .ok (.getfield 29, 3) := by decide +kernel
theorem dX9_edgeAt_26 : decode cX9_edgeAt 26 = .ok (.iload_n 3, 1) := by decide +kernel
theorem dX9_edgeAt_27 : decode cX9_edgeAt 27 = .ok (.iaload, 1) := by decide +kernel
theorem dX9_edgeAt_28 : decode cX9_edgeAt 28 = .ok (.iload_n 2, 1) := by decide +kernel
theorem dX9_edgeAt_29 : decode cX9_edgeAt 29 = .ok (.if_icmp .ne 13, 3) := by decide +kernel
theorem dX9_edgeAt_32 : decode cX9_edgeAt 32 = .ok (.aload_n 0, 1) := by decide +kernel
theorem dX9_edgeAt_33 : decode cX9_edgeAt 33 = .ok (.getfield 32, 3) := by decide +kernel
theorem dX9_edgeAt_36 : decode cX9_edgeAt 36 = .ok (.iload_n 3, 1) := by decide +kernel
theorem dX9_edgeAt_37 : decode cX9_edgeAt 37 = .ok (.iaload, 1) := by decide +kernel
theorem dX9_edgeAt_38 : decode cX9_edgeAt 38 = .ok (.iload_n 1, 1) := by decide +kernel
theorem dX9_edgeAt_39 : decode cX9_edgeAt 39 = .ok (.if_icmp .eq 9, 3) := by decide +kernel
theorem dX9_edgeAt_42 : decode cX9_edgeAt 42 = .ok (.iinc 3 1, 3) := by decide +kernel
theorem dX9_edgeAt_45 : decode cX9_edgeAt 45 = .ok (.goto (-43), 3) := by decide +kernel
theorem dX9_edgeAt_48 : decode cX9_edgeAt 48 = .ok (.iload_n 3, 1) := by decide +kernel
theorem dX9_edgeAt_49 : decode cX9_edgeAt 49 = .ok (.ireturn, 1) := by decide +kernel
theorem dX9_embed_0 : decode cX9_embed 0 = .ok (.aload_n 0, 1) := by decide +kernel
theorem dX9_embed_1 : decode cX9_embed 1 = .ok (.invokevirtual 194, 3) := by decide +kernel
theorem dX9_embed_4 : decode cX9_embed 4 = .ok (.istore_n 1, 1) := by decide +kernel
theorem dX9_embed_5 : decode cX9_embed 5 = .ok (.aload_n 0, 1) := by decide +kernel
theorem dX9_embed_6 : decode cX9_embed 6 = .ok (.invokevirtual 197, 3) := by decide +kernel
theorem dX9_embed_9 : decode cX9_embed 9 = .ok (.ifCond .ne 143, 3) := by decide +kernel
theorem dX9_embed_12 : decode cX9_embed 12 = .ok (.aload_n 0, 1) := by decide +kernel
theorem dX9_embed_13 : decode cX9_embed 13 = .ok (.invokevirtual 200, 3) := by decide +kernel
theorem dX9_embed_16 : decode cX9_embed 16 = .ok (.aload_n 0, 1) := by decide +kernel
theorem dX9_embed_17 : decode cX9_embed 17 = .ok (.getfield 181, 3) := by decide +kernel
theorem dX9_embed_20 : decode cX9_embed 20 = .ok (.ifCond .ne 5, 3) := by decide +kernel
theorem dX9_embed_23 : decode cX9_embed 23 = .ok (.iconst 0, 1) := by decide +kernel
theorem dX9_embed_24 : decode cX9_embed 24 = .ok (.ireturn, 1) := by decide +kernel
theorem dX9_embed_25 : decode cX9_embed 25 = .ok (.iconst 0, 1) := by decide +kernel
theorem dX9_embed_26 : decode cX9_embed 26 = .ok (.istore_n 2, 1) := by decide +kernel
theorem dX9_embed_27 : decode cX9_embed 27 = .ok (.aload_n 0, 1) := by decide +kernel
theorem dX9_embed_28 : decode cX9_embed 28 = .ok (.getfield 184, 3) := by decide +kernel
theorem dX9_embed_31 : decode cX9_embed 31 = .ok (.iload_n 2, 1) := by decide +kernel
theorem dX9_embed_32 : decode cX9_embed 32 = .ok (.ishr, 1) := by decide +kernel
theorem dX9_embed_33 : decode cX9_embed 33 = .ok (.iconst 1, 1) := by decide +kernel
theorem dX9_embed_34 : decode cX9_embed 34 = .ok (.iand, 1) := by decide +kernel
theorem dX9_embed_35 : decode cX9_embed 35 = .ok (.ifCond .ne 9, 3) := by decide +kernel
theorem dX9_embed_38 : decode cX9_embed 38 = .ok (.iinc 2 1, 3) := by decide +kernel
theorem dX9_embed_41 : decode cX9_embed 41 = .ok (.goto (-14), 3) := by decide +kernel
theorem dX9_embed_44 : decode cX9_embed 44 = .ok (.aload_n 0, 1) := by decide +kernel
theorem dX9_embed_45 : decode cX9_embed 45 = .ok (.getfield 184, 3) := by decide +kernel
theorem dX9_embed_48 : decode cX9_embed 48 = .ok (.iconst 1, 1) := by decide +kernel
theorem dX9_embed_49 : decode cX9_embed 49 = .ok (.iload_n 2, 1) := by decide +kernel
theorem dX9_embed_50 : decode cX9_embed 50 = .ok (.ishl, 1) := by decide +kernel
theorem dX9_embed_51 : decode cX9_embed 51 = .ok (.iconst (-1), 1) := by decide +kernel
theorem dX9_embed_52 : decode cX9_embed 52 = .ok (.ixor, 1) := by decide +kernel
theorem dX9_embed_53 : decode cX9_embed 53 = .ok (.iand, 1) := by decide +kernel
theorem dX9_embed_54 : decode cX9_embed 54 = .ok (.istore_n 3, 1) := by decide +kernel
theorem dX9_embed_55 : decode cX9_embed 55 = .ok (.aload_n 0, 1) := by decide +kernel
theorem dX9_embed_56 : decode cX9_embed 56 = .ok (.getfield 187, 3) := by decide +kernel
theorem dX9_embed_59 : decode cX9_embed 59 = .ok (.ifCond .ne 44, 3) := by decide +kernel
theorem dX9_embed_62 : decode cX9_embed 62 = .ok (.iconst 0, 1) := by decide +kernel
theorem dX9_embed_63 : decode cX9_embed 63 = .ok (.istore 4, 2) := by decide +kernel
theorem dX9_embed_65 : decode cX9_embed 65 = .ok (.iload_n 3, 1) := by decide +kernel
theorem dX9_embed_66 : decode cX9_embed 66 = .ok (.iload 4, 2) := by decide +kernel
theorem dX9_embed_68 : decode cX9_embed 68 = .ok (.ishr, 1) := by decide +kernel
theorem dX9_embed_69 : decode cX9_embed 69 = .ok (.iconst 1, 1) := by decide +kernel
theorem dX9_embed_70 : decode cX9_embed 70 = .ok (.iand, 1) := by decide +kernel
theorem dX9_embed_71 : decode cX9_embed 71 = .ok (.ifCond .ne 9, 3) := by decide +kernel
theorem dX9_embed_74 : decode cX9_embed 74 = .ok (.iinc 4 1, 3) := by decide +kernel
theorem dX9_embed_77 : decode cX9_embed 77 = .ok (.goto (-12), 3) := by decide +kernel
theorem dX9_embed_80 : decode cX9_embed 80 = .ok (.aload_n 0, 1) := by decide +kernel
theorem dX9_embed_81 : decode cX9_embed 81 = .ok (.getfield 53, 3) := by decide +kernel
theorem dX9_embed_84 : decode cX9_embed 84 = .ok (.iconst 0, 1) := by decide +kernel
theorem dX9_embed_85 : decode cX9_embed 85 = .ok (.iload_n 2, 1) := by decide +kernel
theorem dX9_embed_86 : decode cX9_embed 86 = .ok (.iastore, 1) := by decide +kernel
theorem dX9_embed_87 : decode cX9_embed 87 = .ok (.aload_n 0, 1) := by decide +kernel
theorem dX9_embed_88 : decode cX9_embed 88 = .ok (.getfield 53, 3) := by decide +kernel
theorem dX9_embed_91 : decode cX9_embed 91 = .ok (.iconst 1, 1) := by decide +kernel
theorem dX9_embed_92 : decode cX9_embed 92 = .ok (.iload 4, 2) := by decide +kernel
theorem dX9_embed_94 : decode cX9_embed 94 = .ok (.iastore, 1) := by decide +kernel
theorem dX9_embed_95 : decode cX9_embed 95 = .ok (.aload_n 0, 1) := by decide +kernel
theorem dX9_embed_96 : decode cX9_embed 96 = .ok (.iconst 2, 1) := by decide +kernel
theorem dX9_embed_97 : decode cX9_embed 97 = .ok (.putfield 160, 3) := by decide +kernel
theorem dX9_embed_100 : decode cX9_embed 100 = .ok (.goto 10, 3) := by decide +kernel
theorem dX9_embed_103 : decode cX9_embed 103 = .ok (.aload_n 0, 1) := by decide +kernel
theorem dX9_embed_104 : decode cX9_embed 104 = .ok (.iload_n 2, 1) := by decide +kernel
theorem dX9_embed_105 : decode cX9_embed 105 = .ok (.iload_n 3, 1) := by decide +kernel
theorem dX9_embed_106 : decode cX9_embed 106 = .ok (.invokevirtual 203, 3) := by decide +kernel
theorem dX9_embed_109 : decode cX9_embed 109 = .ok (.istore_n 1, 1) := by decide +kernel
theorem dX9_embed_110 : decode cX9_embed 110 = .ok (.iconst 0, 1) := by decide +kernel
theorem dX9_embed_111 : decode cX9_embed 111 = .ok (.istore 4, 2) := by decide +kernel
theorem dX9_embed_113 : decode cX9_embed 113 = .ok (.aload_n 0, 1) := by decide +kernel
theorem dX9_embed_114 : decode cX9_embed 114 = .ok (.getfield 50, 3) := by decide +kernel
theorem dX9_embed_117 : decode cX9_embed 117 = .ok (.iload 4, 2) := by decide +kernel
theorem dX9_embed_119 : decode cX9_embed 119 = .ok (.iaload, 1) := by decide +kernel
theorem dX9_embed_120 : decode cX9_embed 120 = .ok (.aload_n 0, 1) := by decide +kernel
theorem dX9_embed_121 : decode cX9_embed 121 = .ok (.getfield 184, 3) := by decide +kernel
theorem dX9_embed_124 : decode cX9_embed 124 = .ok (.iand, 1) := by decide +kernel
theorem dX9_embed_125 : decode cX9_embed 125 = .ok (.aload_n 0, 1) := by decide +kernel
theorem dX9_embed_126 : decode cX9_embed 126 = .ok (.getfield 184, 3) := by decide +kernel
theorem dX9_embed_129 : decode cX9_embed 129 = .ok (.if_icmp .eq 9, 3) := by decide +kernel
theorem dX9_embed_132 : decode cX9_embed 132 = .ok (.iinc 4 1, 3) := by decide +kernel
theorem dX9_embed_135 : decode cX9_embed 135 = .ok (.goto (-22), 3) := by decide +kernel
theorem dX9_embed_138 : decode cX9_embed 138 = .ok (.aload_n 0, 1) := by decide +kernel
theorem dX9_embed_139 : decode cX9_embed 139 = .ok (.iload 4, 2) := by decide +kernel
theorem dX9_embed_141 : decode cX9_embed 141 = .ok (.invokevirtual 206, 3) := by decide +kernel
theorem dX9_embed_144 : decode cX9_embed 144 = .ok (.aload_n 0, 1) := by decide +kernel
theorem dX9_embed_145 : decode cX9_embed 145 = .ok (.iconst 0, 1) := by decide +kernel
theorem dX9_embed_146 : decode cX9_embed 146 = .ok (.invokevirtual 170, 3) := by decide +kernel
theorem dX9_embed_149 : decode cX9_embed 149 = .ok (.goto (-144), 3) := by decide +kernel
theorem dX9_embed_152 : decode cX9_embed 152 = .ok (.iconst 1, 1) := by decide +kernel
theorem dX9_embed_153 : decode cX9_embed 153 = .ok (.ireturn, 1) := by decide +kernel
theorem dX9_face_7 : decode cX9_face 7 = .ok (.bipush (-3), 2) := by decide +kernel
theorem dX9_face_9 : decode cX9_face 9 = .ok (.ireturn, 1) := by decide +kernel
theorem dX9_face_27 : decode cX9_face 27 = .ok (.iload_n 2, 1) := by decide +kernel
theorem dX9_face_28 : decode cX9_face 28 = .ok (.ifCond .lt 38, 3) := by decide +kernel
theorem dX9_face_31 : decode cX9_face 31 = .ok (.iload_n 2, 1) := by decide +kernel
theorem dX9_face_32 : decode cX9_face 32 = .ok (.aload_n 0, 1) := by decide +kernel
theorem dX9_face_33 : decode cX9_face 33 = .ok (.getfield 122, 3) := by decide +kernel
theorem dX9_face_36 : decode cX9_face 36 = .ok (.iload_n 1, 1) := by decide +kernel
theorem dX9_face_37 : decode cX9_face 37 = .ok (.iconst 1, 1) := by decide +kernel
theorem dX9_face_38 : decode cX9_face 38 = .ok (.iadd, 1) := by decide +kernel
theorem dX9_face_39 : decode cX9_face 39 = .ok (.iaload, 1) := by decide +kernel
theorem dX9_face_40 : decode cX9_face 40 = .ok (.aload_n 0, 1) := by decide +kernel
theorem dX9_face_41 : decode cX9_face 41 = .ok (.getfield 122, 3) := by decide +kernel
theorem dX9_face_44 : decode cX9_face 44 = .ok (.iload_n 1, 1) := by decide +kernel
theorem dX9_face_45 : decode cX9_face 45 = .ok (.iaload, 1) := by decide +kernel
theorem dX9_face_46 : decode cX9_face 46 = .ok (.isub, 1) := by decide +kernel
theorem dX9_face_47 : decode cX9_face 47 = .ok (.if_icmp .ge 19, 3) := by decide +kernel
theorem dX9_face_50 : decode cX9_face 50 = .ok (.aload_n 0, 1) := by decide +kernel
theorem dX9_face_51 : decode cX9_face 51 = .ok (.getfield 119, 3) := by decide +kernel
theorem dX9_face_54 : decode cX9_face 54 = .ok (.aload_n 0, 1) := by decide +kernel
theorem dX9_face_55 : decode cX9_face 55 = .ok (.getfield 122, 3) := by decide +kernel
theorem dX9_face_58 : decode cX9_face 58 = .ok (.iload_n 1, 1) := by decide +kernel
theorem dX9_face_59 : decode cX9_face 59 = .ok (.iaload, 1) := by decide +kernel
theorem dX9_face_60 : decode cX9_face 60 = .ok (.iload_n 2, 1) := by decide +kernel
theorem dX9_face_61 : decode cX9_face 61 = .ok (.iadd, 1) := by decide +kernel
theorem dX9_face_62 : decode cX9_face 62 = .ok (.iaload, 1) := by decide +kernel
theorem dX9_face_63 : decode cX9_face 63 = .ok (.goto 4, 3) := by decide +kernel
theorem dX9_faces_7 : decode cX9_faces 7 = .ok (.bipush (-3), 2) := by decide +kernel
theorem dX9_faces_9 : decode cX9_faces 9 = .ok (.ireturn, 1) := by decide +kernel
theorem dX9_fill_10 : decode cX9_fill 10 = .ok (.aload_n 0, 1) := by decide +kernel
theorem dX9_fill_11 : decode cX9_fill 11 = .ok (.getfield 68, 3) := by decide +kernel
theorem dX9_fill_14 : decode cX9_fill 14 = .ok (.iload_n 1, 1) := by decide +kernel
theorem dX9_fill_15 : decode cX9_fill 15 = .ok (.aload_n 0, 1) := by decide +kernel
theorem dX9_fill_16 : decode cX9_fill 16 = .ok (.getfield 65, 3) := by decide +kernel
theorem dX9_fill_19 : decode cX9_fill 19 = .ok (.iload_n 1, 1) := by decide +kernel
theorem dX9_fill_20 : decode cX9_fill 20 = .ok (.iaload, 1) := by decide +kernel
theorem dX9_fill_21 : decode cX9_fill 21 = .ok (.iastore, 1) := by decide +kernel
theorem dX9_fill_22 : decode cX9_fill 22 = .ok (.iinc 1 1, 3) := by decide +kernel
theorem dX9_fill_25 : decode cX9_fill 25 = .ok (.goto (-23), 3) := by decide +kernel
theorem dX9_fill_38 : decode cX9_fill 38 = .ok (.iload_n 1, 1) := by decide +kernel
theorem dX9_fill_39 : decode cX9_fill 39 = .ok (.iconst 1, 1) := by decide +kernel
theorem dX9_fill_40 : decode cX9_fill 40 = .ok (.iadd, 1) := by decide +kernel
theorem dX9_fill_41 : decode cX9_fill 41 = .ok (.istore_n 2, 1) := by decide +kernel
theorem dX9_fill_42 : decode cX9_fill 42 = .ok (.iload_n 2, 1) := by decide +kernel
theorem dX9_fill_43 : decode cX9_fill 43 = .ok (.aload_n 0, 1) := by decide +kernel
theorem dX9_fill_44 : decode cX9_fill 44 = .ok (.getfield 210, 3) := by decide +kernel
theorem dX9_fill_47 : decode cX9_fill 47 = .ok (.if_icmp .ge 85, 3) := by decide +kernel
theorem dX9_fill_50 : decode cX9_fill 50 = .ok (.aload_n 0, 1) := by decide +kernel
theorem dX9_fill_51 : decode cX9_fill 51 = .ok (.getfield 68, 3) := by decide +kernel
theorem dX9_fill_54 : decode cX9_fill 54 = .ok (.iload_n 1, 1) := by decide +kernel
theorem dX9_fill_55 : decode cX9_fill 55 = .ok (.iaload, 1) := by decide +kernel
theorem dX9_fill_56 : decode cX9_fill 56 = .ok (.iload_n 2, 1) := by decide +kernel
theorem dX9_fill_57 : decode cX9_fill 57 = .ok (.ishr, 1) := by decide +kernel
theorem dX9_fill_58 : decode cX9_fill 58 = .ok (.iconst 1, 1) := by decide +kernel
theorem dX9_fill_59 : decode cX9_fill 59 = .ok (.iand, 1) := by decide +kernel
theorem dX9_fill_60 : decode cX9_fill 60 = .ok (.iconst 1, 1) := by decide +kernel
theorem dX9_fill_61 : decode cX9_fill 61 = .ok (.if_icmp .ne 6, 3) := by decide +kernel
theorem dX9_fill_64 : decode cX9_fill 64 = .ok (.goto 62, 3) := by decide +kernel
theorem dX9_fill_67 : decode cX9_fill 67 = .ok (.aload_n 0, 1) := by decide +kernel
theorem dX9_fill_68 : decode cX9_fill 68 = .ok (.invokevirtual 245, 3) := by decide +kernel
theorem dX9_fill_71 : decode cX9_fill 71 = .ok (.aload_n 0, 1) := by decide +kernel
theorem dX9_fill_72 : decode cX9_fill 72 = .ok (.getfield 26, 3) := by decide +kernel
theorem dX9_fill_75 : decode cX9_fill 75 = .ok (.iload_n 1, 1) := by decide +kernel
theorem dX9_fill_76 : decode cX9_fill 76 = .ok (.dup2, 1) := by decide +kernel
theorem dX9_fill_77 : decode cX9_fill 77 = .ok (.iaload, 1) := by decide +kernel
theorem dX9_fill_78 : decode cX9_fill 78 = .ok (.iconst 1, 1) := by decide +kernel
theorem dX9_fill_79 : decode cX9_fill 79 = .ok (.iload_n 2, 1) := by decide +kernel
theorem dX9_fill_80 : decode cX9_fill 80 = .ok (.ishl, 1) := by decide +kernel
theorem dX9_fill_81 : decode cX9_fill 81 = .ok (.ior, 1) := by decide +kernel
theorem dX9_fill_82 : decode cX9_fill 82 = .ok (.iastore, 1) := by decide +kernel
theorem dX9_fill_83 : decode cX9_fill 83 = .ok (.aload_n 0, 1) := by decide +kernel
theorem dX9_fill_84 : decode cX9_fill 84 = .ok (.getfield 26, 3) := by decide +kernel
theorem dX9_fill_87 : decode cX9_fill 87 = .ok (.iload_n 2, 1) := by decide +kernel
theorem dX9_fill_88 : decode cX9_fill 88 = .ok (.dup2, 1) := by decide +kernel
theorem dX9_fill_89 : decode cX9_fill 89 = .ok (.iaload, 1) := by decide +kernel
theorem dX9_fill_90 : decode cX9_fill 90 = .ok (.iconst 1, 1) := by decide +kernel
theorem dX9_fill_91 : decode cX9_fill 91 = .ok (.iload_n 1, 1) := by decide +kernel
theorem dX9_fill_92 : decode cX9_fill 92 = .ok (.ishl, 1) := by decide +kernel
theorem dX9_fill_93 : decode cX9_fill 93 = .ok (.ior, 1) := by decide +kernel
theorem dX9_fill_94 : decode cX9_fill 94 = .ok (.iastore, 1) := by decide +kernel
theorem dX9_fill_95 : decode cX9_fill 95 = .ok (.aload_n 0, 1) := by decide +kernel
theorem dX9_fill_96 : decode cX9_fill 96 = .ok (.invokevirtual 224, 3) := by decide +kernel
theorem dX9_fill_99 : decode cX9_fill 99 = .ok (.ifCond .eq 27, 3) := by decide +kernel
theorem dX9_fill_102 : decode cX9_fill 102 = .ok (.aload_n 0, 1) := by decide +kernel
theorem dX9_fill_103 : decode cX9_fill 103 = .ok (.getfield 68, 3) := by decide +kernel
theorem dX9_fill_106 : decode cX9_fill 106 = .ok (.iload_n 1, 1) := by decide +kernel
theorem dX9_fill_107 : decode cX9_fill 107 = .ok (.dup2, 1) := by decide +kernel
theorem dX9_fill_108 : decode cX9_fill 108 = .ok (.iaload, 1) := by decide +kernel
theorem dX9_fill_109 : decode cX9_fill 109 = .ok (.iconst 1, 1) := by decide +kernel
theorem dX9_fill_110 : decode cX9_fill 110 = .ok (.iload_n 2, 1) := by decide +kernel
theorem dX9_fill_111 : decode cX9_fill 111 = .ok (.ishl, 1) := by decide +kernel
theorem dX9_fill_112 : decode cX9_fill 112 = .ok (.ior, 1) := by decide +kernel
theorem dX9_fill_113 : decode cX9_fill 113 = .ok (.iastore, 1) := by decide +kernel
theorem dX9_fill_114 : decode cX9_fill 114 = .ok (.aload_n 0, 1) := by decide +kernel
theorem dX9_fill_115 : decode cX9_fill 115 = .ok (.getfield 68, 3) := by decide +kernel
theorem dX9_fill_118 : decode cX9_fill 118 = .ok (.iload_n 2, 1) := by decide +kernel
theorem dX9_fill_119 : decode cX9_fill 119 = .ok (.dup2, 1) := by decide +kernel
theorem dX9_fill_120 : decode cX9_fill 120 = .ok (.iaload, 1) := by decide +kernel
theorem dX9_fill_121 : decode cX9_fill 121 = .ok (.iconst 1, 1) := by decide +kernel
theorem dX9_fill_122 : decode cX9_fill 122 = .ok (.iload_n 1, 1) := by decide +kernel
theorem dX9_fill_123 : decode cX9_fill 123 = .ok (.ishl, 1) := by decide +kernel
theorem dX9_fill_124 : decode cX9_fill 124 = .ok (.ior, 1) := by decide +kernel
theorem dX9_fill_125 : decode cX9_fill 125 = .ok (.iastore, 1) := by decide +kernel
theorem dX9_fill_126 : decode cX9_fill 126 = .ok (.iinc 2 1, 3) := by decide +kernel
theorem dX9_fill_129 : decode cX9_fill 129 = .ok (.goto (-87), 3) := by decide +kernel
theorem dX9_fill_132 : decode cX9_fill 132 = .ok (.iinc 1 1, 3) := by decide +kernel
theorem dX9_fill_135 : decode cX9_fill 135 = .ok (.goto (-105), 3) := by decide +kernel
theorem dX9_findBlocks_27 : decode cX9_findBlocks 27 = .ok (.aload_n 0, 1) := by decide +kernel
theorem dX9_findBlocks_28 : decode cX9_findBlocks 28 = .ok (.getfield 26, 3) := by decide +kernel
theorem dX9_findBlocks_31 : decode cX9_findBlocks 31 = .ok (.iload_n 1, 1) := by decide +kernel
theorem dX9_findBlocks_32 : decode cX9_findBlocks 32 = .ok (.iaload, 1) := by decide +kernel
theorem dX9_findBlocks_33 : decode cX9_findBlocks 33 = .ok (.iload_n 2, 1) := by decide +kernel
theorem dX9_findBlocks_34 : decode cX9_findBlocks 34 = .ok (.ishr, 1) := by decide +kernel
theorem dX9_findBlocks_35 : decode cX9_findBlocks 35 = .ok (.iconst 1, 1) := by decide +kernel
theorem dX9_findBlocks_36 : decode cX9_findBlocks 36 = .ok (.iand, 1) := by decide +kernel
theorem dX9_findBlocks_37 : decode cX9_findBlocks 37 = .ok (.iconst 1, 1) := by decide +kernel
theorem dX9_findBlocks_38 : decode cX9_findBlocks 38 = .ok (.if_icmp .ne 46, 3) := by decide +kernel
theorem dX9_findBlocks_41 : decode cX9_findBlocks 41 = .ok (.aload_n 0, 1) := by decide +kernel
theorem dX9_findBlocks_42 : decode cX9_findBlocks 42 = .ok (.getfield 29, 3) := by decide +kernel
theorem dX9_findBlocks_45 : decode cX9_findBlocks 45 = .ok (.aload_n 0, 1) := by decide +kernel
theorem dX9_findBlocks_46 : decode cX9_findBlocks 46 = .ok (.getfield 135, 3) := by decide +kernel
theorem dX9_findBlocks_49 : decode cX9_findBlocks 49 = .ok (.iload_n 1, 1) := by decide +kernel
theorem dX9_findBlocks_50 : decode cX9_findBlocks 50 = .ok (.iastore, 1) := by decide +kernel
theorem dX9_findBlocks_51 : decode cX9_findBlocks 51 = .ok (.aload_n 0, 1) := by decide +kernel
theorem dX9_findBlocks_52 : decode cX9_findBlocks 52 = .ok (.getfield 32, 3) := by decide +kernel
theorem dX9_findBlocks_55 : decode cX9_findBlocks 55 = .ok (.aload_n 0, 1) := by decide +kernel
theorem dX9_findBlocks_56 : decode cX9_findBlocks 56 = .ok (.getfield 135, 3) := by decide +kernel
theorem dX9_findBlocks_59 : decode cX9_findBlocks 59 = .ok (.iload_n 2, 1) := by decide +kernel
theorem dX9_findBlocks_60 : decode cX9_findBlocks 60 = .ok (.iastore, 1) := by decide +kernel
theorem dX9_findBlocks_61 : decode cX9_findBlocks 61 = .ok (.aload_n 0, 1) := by decide +kernel
theorem dX9_findBlocks_62 : decode cX9_findBlocks 62 = .ok (.getfield 35, 3) := by decide +kernel
theorem dX9_findBlocks_65 : decode cX9_findBlocks 65 = .ok (.aload_n 0, 1) := by decide +kernel
theorem dX9_findBlocks_66 : decode cX9_findBlocks 66 = .ok (.getfield 135, 3) := by decide +kernel
theorem dX9_findBlocks_69 : decode cX9_findBlocks 69 = .ok (.aload_n 0, 1) := by decide +kernel
theorem dX9_findBlocks_70 : decode cX9_findBlocks 70 = .ok (.getfield 135, 3) := by decide +kernel
theorem dX9_findBlocks_73 : decode cX9_findBlocks 73 = .ok (.iastore, 1) := by decide +kernel
theorem dX9_findBlocks_74 : decode cX9_findBlocks 74 = .ok (.aload_n 0, 1) := by decide +kernel
theorem dX9_findBlocks_75 : decode cX9_findBlocks 75 = .ok (.dup, 1) := by decide +kernel
theorem dX9_findBlocks_76 : decode cX9_findBlocks 76 = .ok (.getfield 135, 3) := by decide +kernel
theorem dX9_findBlocks_79 : decode cX9_findBlocks 79 = .ok (.iconst 1, 1) := by decide +kernel
theorem dX9_findBlocks_80 : decode cX9_findBlocks 80 = .ok (.iadd, 1) := by decide +kernel
theorem dX9_findBlocks_81 : decode cX9_findBlocks 81 = .ok (.putfield 135, 3) := by decide +kernel
theorem dX9_findBlocks_84 : decode cX9_findBlocks 84 = .ok (.iinc 2 1, 3) := by decide +kernel
theorem dX9_findBlocks_87 : decode cX9_findBlocks 87 = .ok (.goto (-68), 3) := by decide +kernel
theorem dX9_findBlocks_117 : decode cX9_findBlocks 117 = .ok (.iconst 0, 1) := by decide +kernel
theorem dX9_findBlocks_118 : decode cX9_findBlocks 118 = .ok (.istore_n 3, 1) := by decide +kernel
theorem dX9_findBlocks_119 : decode cX9_findBlocks 119 = .ok (.iload_n 2, 1) := by decide +kernel
theorem dX9_findBlocks_120 : decode cX9_findBlocks 120 = .ok (.iload_n 3, 1) := by decide +kernel
theorem dX9_findBlocks_121 : decode cX9_findBlocks 121 = .ok (.ishr, 1) := by decide +kernel
theorem dX9_findBlocks_122 : decode cX9_findBlocks 122 = .ok (.iconst 1, 1) := by decide +kernel
theorem dX9_findBlocks_123 : decode cX9_findBlocks 123 = .ok (.iand, 1) := by decide +kernel
theorem dX9_findBlocks_124 : decode cX9_findBlocks 124 = .ok (.ifCond .ne 9, 3) := by decide +kernel
theorem dX9_findBlocks_127 : decode cX9_findBlocks 127 = .ok (.iinc 3 1, 3) := by decide +kernel
theorem dX9_findBlocks_130 : decode cX9_findBlocks 130 = .ok (.goto (-11), 3) := by decide +kernel
theorem dX9_findBlocks_133 : decode cX9_findBlocks 133 = .ok (.aload_n 0, 1) := by decide +kernel
theorem dX9_findBlocks_134 : decode cX9_findBlocks 134 = .ok (.iload_n 3, 1) := by decide +kernel
theorem dX9_findBlocks_135 : decode cX9_findBlocks 135 = .ok (.iconst 1, 1) := by decide +kernel
theorem dX9_findBlocks_136 : decode cX9_findBlocks 136 = .ok (.iload_n 1, 1) := by decide +kernel
theorem dX9_findBlocks_137 : decode cX9_findBlocks 137 = .ok (.ishl, 1) := by decide +kernel
theorem dX9_findBlocks_138 : decode cX9_findBlocks 138 = .ok (.invokevirtual 138, 3) := by decide +kernel
theorem dX9_findBlocks_141 : decode cX9_findBlocks 141 = .ok (.aload_n 0, 1) := by decide +kernel
theorem dX9_findBlocks_142 : decode cX9_findBlocks 142 = .ok (.getfield 26, 3) := by decide +kernel
theorem dX9_findBlocks_145 : decode cX9_findBlocks 145 = .ok (.iload_n 1, 1) := by decide +kernel
theorem dX9_findBlocks_146 : decode cX9_findBlocks 146 = .ok (.iaload, 1) := by decide +kernel
theorem dX9_findBlocks_147 : decode cX9_findBlocks 147 = .ok (.iand, 1) := by decide +kernel
theorem dX9_findBlocks_148 : decode cX9_findBlocks 148 = .ok (.istore 4, 2) := by decide +kernel
theorem dX9_findBlocks_150 : decode cX9_findBlocks 150 = .ok (.iload_n 2, 1) := by decide +kernel
theorem dX9_findBlocks_151 : decode cX9_findBlocks 151 = .ok (.iload 4, 2) := by decide +kernel
theorem dX9_findBlocks_153 : decode cX9_findBlocks 153 = .ok (.iconst (-1), 1) := by decide +kernel
theorem dX9_findBlocks_154 : decode cX9_findBlocks 154 = .ok (.ixor, 1) := by decide +kernel
theorem dX9_findBlocks_155 : decode cX9_findBlocks 155 = .ok (.iand, 1) := by decide +kernel
theorem dX9_findBlocks_156 : decode cX9_findBlocks 156 = .ok (.istore_n 2, 1) := by decide +kernel
theorem dX9_findBlocks_157 : decode cX9_findBlocks 157 = .ok (.aload_n 0, 1) := by decide +kernel
theorem dX9_findBlocks_158 : decode cX9_findBlocks 158 = .ok (.aload_n 0, 1) := by decide +kernel
theorem dX9_findBlocks_159 : decode cX9_findBlocks 159 = .ok (.iload_n 1, 1) := by decide +kernel
theorem dX9_findBlocks_160 : decode cX9_findBlocks 160 = .ok (.iload_n 3, 1) := by decide +kernel
theorem dX9_findBlocks_161 : decode cX9_findBlocks 161 = .ok (.invokevirtual 142, 3) := by decide +kernel
theorem dX9_findBlocks_164 : decode cX9_findBlocks 164 = .ok (.invokevirtual 145, 3) := by decide +kernel
theorem dX9_findBlocks_167 : decode cX9_findBlocks 167 = .ok (.istore 5, 2) := by decide +kernel
theorem dX9_findBlocks_169 : decode cX9_findBlocks 169 = .ok (.iconst 0, 1) := by decide +kernel
theorem dX9_findBlocks_170 : decode cX9_findBlocks 170 = .ok (.istore 6, 2) := by decide +kernel
theorem dX9_findBlocks_172 : decode cX9_findBlocks 172 = .ok (.iload 6, 2) := by decide +kernel
theorem dX9_findBlocks_174 : decode cX9_findBlocks 174 = .ok (.aload_n 0, 1) := by decide +kernel
theorem dX9_findBlocks_175 : decode cX9_findBlocks 175 = .ok (.getfield 131, 3) := by decide +kernel
theorem dX9_findBlocks_178 : decode cX9_findBlocks 178 = .ok (.if_icmp .ge 38, 3) := by decide +kernel
theorem dX9_findBlocks_181 : decode cX9_findBlocks 181 = .ok (.iload 4, 2) := by decide +kernel
theorem dX9_findBlocks_183 : decode cX9_findBlocks 183 = .ok (.iload 6, 2) := by decide +kernel
theorem dX9_findBlocks_185 : decode cX9_findBlocks 185 = .ok (.ishr, 1) := by decide +kernel
theorem dX9_findBlocks_186 : decode cX9_findBlocks 186 = .ok (.iconst 1, 1) := by decide +kernel
theorem dX9_findBlocks_187 : decode cX9_findBlocks 187 = .ok (.iand, 1) := by decide +kernel
theorem dX9_findBlocks_188 : decode cX9_findBlocks 188 = .ok (.iconst 1, 1) := by decide +kernel
theorem dX9_findBlocks_189 : decode cX9_findBlocks 189 = .ok (.if_icmp .ne 21, 3) := by decide +kernel
theorem dX9_findBlocks_192 : decode cX9_findBlocks 192 = .ok (.aload_n 0, 1) := by decide +kernel
theorem dX9_findBlocks_193 : decode cX9_findBlocks 193 = .ok (.getfield 35, 3) := by decide +kernel
theorem dX9_findBlocks_196 : decode cX9_findBlocks 196 = .ok (.aload_n 0, 1) := by decide +kernel
theorem dX9_findBlocks_197 : decode cX9_findBlocks 197 = .ok (.aload_n 0, 1) := by decide +kernel
theorem dX9_findBlocks_198 : decode cX9_findBlocks 198 = .ok (.iload_n 1, 1) := by decide +kernel
theorem dX9_findBlocks_199 : decode cX9_findBlocks 199 = .ok (.iload 6, 2) := by decide +kernel
theorem dX9_findBlocks_201 : decode cX9_findBlocks 201 = .ok (.invokevirtual 142, 3) := by decide +kernel
theorem dX9_findBlocks_204 : decode cX9_findBlocks 204 = .ok (.invokevirtual 145, 3) := by decide +kernel
theorem dX9_findBlocks_207 : decode cX9_findBlocks 207 = .ok (.iload 5, 2) := by decide +kernel
theorem dX9_findBlocks_209 : decode cX9_findBlocks 209 = .ok (.iastore, 1) := by decide +kernel
theorem dX9_findBlocks_210 : decode cX9_findBlocks 210 = .ok (.iinc 6 1, 3) := by decide +kernel
theorem dX9_findBlocks_213 : decode cX9_findBlocks 213 = .ok (.goto (-41), 3) := by decide +kernel
theorem dX9_findBlocks_216 : decode cX9_findBlocks 216 = .ok (.goto (-103), 3) := by decide +kernel
theorem dX9_findDrawing_18 : decode cX9_findDrawing 18 = .ok (.aload_n 0, 1) := by decide +kernel
theorem dX9_findDrawing_19 : decode cX9_findDrawing 19 = .ok (.getfield 86, 3) := by decide +kernel
theorem dX9_findDrawing_22 : decode cX9_findDrawing 22 = .ok (.iload_n 1, 1) := by decide +kernel
theorem dX9_findDrawing_23 : decode cX9_findDrawing 23 = .ok (.iload_n 1, 1) := by decide +kernel
theorem dX9_findDrawing_24 : decode cX9_findDrawing 24 = .ok (.iastore, 1) := by decide +kernel
theorem dX9_findDrawing_25 : decode cX9_findDrawing 25 = .ok (.aload_n 0, 1) := by decide +kernel
theorem dX9_findDrawing_26 : decode cX9_findDrawing 26 = .ok (.getfield 89, 3) := by decide +kernel
theorem dX9_findDrawing_29 : decode cX9_findDrawing 29 = .ok (.iload_n 1, 1) := by decide +kernel
theorem dX9_findDrawing_30 : decode cX9_findDrawing 30 = .ok (.iconst 0, 1) := by decide +kernel
theorem dX9_findDrawing_31 : decode cX9_findDrawing 31 = .ok (.iastore, 1) := by decide +kernel
theorem dX9_findDrawing_32 : decode cX9_findDrawing 32 = .ok (.iinc 1 1, 3) := by decide +kernel
theorem dX9_findDrawing_35 : decode cX9_findDrawing 35 = .ok (.goto (-25), 3) := by decide +kernel
theorem dX9_findDrawing_39 : decode cX9_findDrawing 39 = .ok (.aload_n 0, 1) := by decide +kernel
theorem dX9_findDrawing_40 : decode cX9_findDrawing 40 = .ok (.invokevirtual 270, 3) := by decide +kernel
theorem dX9_findDrawing_43 : decode cX9_findDrawing 43 = .ok (.aload_n 0, 1) := by decide +kernel
theorem dX9_findDrawing_44 : decode cX9_findDrawing 44 = .ok (.getfield 107, 3) := by decide +kernel
theorem dX9_findDrawing_47 : decode cX9_findDrawing 47 = .ok (.iconst 0, 1) := by decide +kernel
theorem dX9_findDrawing_48 : decode cX9_findDrawing 48 = .ok (.aload_n 0, 1) := by decide +kernel
theorem dX9_findDrawing_49 : decode cX9_findDrawing 49 = .ok (.getfield 258, 3) := by decide +kernel
theorem dX9_findDrawing_52 : decode cX9_findDrawing 52 = .ok (.iastore, 1) := by decide +kernel
theorem dX9_findDrawing_53 : decode cX9_findDrawing 53 = .ok (.aload_n 0, 1) := by decide +kernel
theorem dX9_findDrawing_54 : decode cX9_findDrawing 54 = .ok (.getfield 107, 3) := by decide +kernel
theorem dX9_findDrawing_57 : decode cX9_findDrawing 57 = .ok (.iconst 1, 1) := by decide +kernel
theorem dX9_findDrawing_58 : decode cX9_findDrawing 58 = .ok (.aload_n 0, 1) := by decide +kernel
theorem dX9_findDrawing_59 : decode cX9_findDrawing 59 = .ok (.getfield 264, 3) := by decide +kernel
theorem dX9_findDrawing_62 : decode cX9_findDrawing 62 = .ok (.iastore, 1) := by decide +kernel
theorem dX9_findDrawing_63 : decode cX9_findDrawing 63 = .ok (.aload_n 0, 1) := by decide +kernel
theorem dX9_findDrawing_64 : decode cX9_findDrawing 64 = .ok (.getfield 107, 3) := by decide +kernel
theorem dX9_findDrawing_67 : decode cX9_findDrawing 67 = .ok (.iconst 2, 1) := by decide +kernel
theorem dX9_findDrawing_68 : decode cX9_findDrawing 68 = .ok (.aload_n 0, 1) := by decide +kernel
theorem dX9_findDrawing_69 : decode cX9_findDrawing 69 = .ok (.getfield 261, 3) := by decide +kernel
theorem dX9_findDrawing_72 : decode cX9_findDrawing 72 = .ok (.iastore, 1) := by decide +kernel
theorem dX9_findDrawing_73 : decode cX9_findDrawing 73 = .ok (.aload_n 0, 1) := by decide +kernel
theorem dX9_findDrawing_74 : decode cX9_findDrawing 74 = .ok (.iconst 3, 1) := by decide +kernel
theorem dX9_findDrawing_75 : decode cX9_findDrawing 75 = .ok (.putfield 267, 3) := by decide +kernel
theorem dX9_findDrawing_78 : decode cX9_findDrawing 78 = .ok (.iconst 0, 1) := by decide +kernel
theorem dX9_findDrawing_79 : decode cX9_findDrawing 79 = .ok (.istore_n 1, 1) := by decide +kernel
theorem dX9_findDrawing_80 : decode cX9_findDrawing 80 = .ok (.aload_n 0, 1) := by decide +kernel
theorem dX9_findDrawing_81 : decode cX9_findDrawing 81 = .ok (.getfield 267, 3) := by decide +kernel
theorem dX9_findDrawing_84 : decode cX9_findDrawing 84 = .ok (.iconst 2, 1) := by decide +kernel
theorem dX9_findDrawing_85 : decode cX9_findDrawing 85 = .ok (.if_icmp .le 38, 3) := by decide +kernel
theorem dX9_findDrawing_88 : decode cX9_findDrawing 88 = .ok (.iload_n 1, 1) := by decide +kernel
theorem dX9_findDrawing_89 : decode cX9_findDrawing 89 = .ok (.ifCond .ne 7, 3) := by decide +kernel
theorem dX9_findDrawing_92 : decode cX9_findDrawing 92 = .ok (.iconst 1, 1) := by decide +kernel
theorem dX9_findDrawing_93 : decode cX9_findDrawing 93 = .ok (.goto 7, 3) := by decide +kernel
theorem dX9_findDrawing_96 : decode cX9_findDrawing 96 = .ok (.aload_n 0, 1) := by decide +kernel
theorem dX9_findDrawing_97 : decode cX9_findDrawing 97 = .ok (.invokevirtual 273, 3) := by decide +kernel
theorem dX9_findDrawing_100 : decode cX9_findDrawing 100 = .ok (.istore_n 2, 1) := by decide +kernel
theorem dX9_findDrawing_101 : decode cX9_findDrawing 101 = .ok (.aload_n 0, 1) := by decide +kernel
theorem dX9_findDrawing_102 : decode cX9_findDrawing 102 = .ok (.getfield 107, 3) := by decide +kernel
theorem dX9_findDrawing_105 : decode cX9_findDrawing 105 = .ok (.iload_n 2, 1) := by decide +kernel
theorem dX9_findDrawing_106 : decode cX9_findDrawing 106 = .ok (.iaload, 1) := by decide +kernel
theorem dX9_findDrawing_107 : decode cX9_findDrawing 107 = .ok (.istore_n 3, 1) := by decide +kernel
theorem dX9_findDrawing_108 : decode cX9_findDrawing 108 = .ok (.aload_n 0, 1) := by decide +kernel
theorem dX9_findDrawing_109 : decode cX9_findDrawing 109 = .ok (.iload_n 2, 1) := by decide +kernel
theorem dX9_findDrawing_110 : decode cX9_findDrawing 110 = .ok (.iload_n 1, 1) := by decide +kernel
theorem dX9_findDrawing_111 : decode cX9_findDrawing 111 = .ok (.invokevirtual 277, 3) := by decide +kernel
theorem dX9_findDrawing_114 : decode cX9_findDrawing 114 = .ok (.iload_n 1, 1) := by decide +kernel
theorem dX9_findDrawing_115 : decode cX9_findDrawing 115 = .ok (.iconst 1, 1) := by decide +kernel
theorem dX9_findDrawing_116 : decode cX9_findDrawing 116 = .ok (.iload_n 3, 1) := by decide +kernel
theorem dX9_findDrawing_117 : decode cX9_findDrawing 117 = .ok (.ishl, 1) := by decide +kernel
theorem dX9_findDrawing_118 : decode cX9_findDrawing 118 = .ok (.ior, 1) := by decide +kernel
theorem dX9_findDrawing_119 : decode cX9_findDrawing 119 = .ok (.istore_n 1, 1) := by decide +kernel
theorem dX9_findDrawing_120 : decode cX9_findDrawing 120 = .ok (.goto (-40), 3) := by decide +kernel
theorem dX9_findDrawing_123 : decode cX9_findDrawing 123 = .ok (.iconst 0, 1) := by decide +kernel
theorem dX9_findDrawing_124 : decode cX9_findDrawing 124 = .ok (.istore_n 2, 1) := by decide +kernel
theorem dX9_findDrawing_125 : decode cX9_findDrawing 125 = .ok (.iload_n 2, 1) := by decide +kernel
theorem dX9_findDrawing_126 : decode cX9_findDrawing 126 = .ok (.aload_n 0, 1) := by decide +kernel
theorem dX9_findDrawing_127 : decode cX9_findDrawing 127 = .ok (.getfield 210, 3) := by decide +kernel
theorem dX9_findDrawing_130 : decode cX9_findDrawing 130 = .ok (.if_icmp .ge 125, 3) := by decide +kernel
theorem dX9_findDrawing_133 : decode cX9_findDrawing 133 = .ok (.aload_n 0, 1) := by decide +kernel
theorem dX9_findDrawing_134 : decode cX9_findDrawing 134 = .ok (.getfield 86, 3) := by decide +kernel
theorem dX9_findDrawing_137 : decode cX9_findDrawing 137 = .ok (.iload_n 2, 1) := by decide +kernel
theorem dX9_findDrawing_138 : decode cX9_findDrawing 138 = .ok (.iload_n 2, 1) := by decide +kernel
theorem dX9_findDrawing_139 : decode cX9_findDrawing 139 = .ok (.aload_n 0, 1) := by decide +kernel
theorem dX9_findDrawing_140 : decode cX9_findDrawing 140 = .ok (.getfield 258, 3) := by decide +kernel
theorem dX9_findDrawing_143 : decode cX9_findDrawing 143 = .ok (.if_icmp .ne 14, 3) := by decide +kernel
theorem dX9_findDrawing_146 : decode cX9_findDrawing 146 = .ok (.iconst 2, 1) := by decide +kernel
theorem dX9_findDrawing_147 : decode cX9_findDrawing 147 = .ok (.aload_n 0, 1) := by decide +kernel
theorem dX9_findDrawing_148 : decode cX9_findDrawing 148 = .ok (.getfield 210, 3) := by decide +kernel
theorem dX9_findDrawing_151 : decode cX9_findDrawing 151 = .ok (.imul, 1) := by decide +kernel
theorem dX9_findDrawing_152 : decode cX9_findDrawing 152 = .ok (.iconst 5, 1) := by decide +kernel
theorem dX9_findDrawing_153 : decode cX9_findDrawing 153 = .ok (.isub, 1) := by decide +kernel
theorem dX9_findDrawing_154 : decode cX9_findDrawing 154 = .ok (.goto 36, 3) := by decide +kernel
theorem dX9_findDrawing_157 : decode cX9_findDrawing 157 = .ok (.iload_n 2, 1) := by decide +kernel
theorem dX9_findDrawing_158 : decode cX9_findDrawing 158 = .ok (.aload_n 0, 1) := by decide +kernel
theorem dX9_findDrawing_159 : decode cX9_findDrawing 159 = .ok (.getfield 261, 3) := by decide +kernel
theorem dX9_findDrawing_162 : decode cX9_findDrawing 162 = .ok (.if_icmp .eq 11, 3) := by decide +kernel
theorem dX9_findDrawing_165 : decode cX9_findDrawing 165 = .ok (.iload_n 2, 1) := by decide +kernel
theorem dX9_findDrawing_166 : decode cX9_findDrawing 166 = .ok (.aload_n 0, 1) := by decide +kernel
theorem dX9_findDrawing_167 : decode cX9_findDrawing 167 = .ok (.getfield 264, 3) := by decide +kernel
theorem dX9_findDrawing_170 : decode cX9_findDrawing 170 = .ok (.if_icmp .ne 7, 3) := by decide +kernel
theorem dX9_findDrawing_173 : decode cX9_findDrawing 173 = .ok (.iconst 0, 1) := by decide +kernel
theorem dX9_findDrawing_174 : decode cX9_findDrawing 174 = .ok (.goto 16, 3) := by decide +kernel
theorem dX9_findDrawing_177 : decode cX9_findDrawing 177 = .ok (.aload_n 0, 1) := by decide +kernel
theorem dX9_findDrawing_178 : decode cX9_findDrawing 178 = .ok (.iload_n 2, 1) := by decide +kernel
theorem dX9_findDrawing_179 : decode cX9_findDrawing 179 = .ok (.aload_n 0, 1) := by decide +kernel
theorem dX9_findDrawing_180 : decode cX9_findDrawing 180 = .ok (.getfield 101, 3) := by decide +kernel
theorem dX9_findDrawing_183 : decode cX9_findDrawing 183 = .ok (.aload_n 0, 1) := by decide +kernel
theorem dX9_findDrawing_184 : decode cX9_findDrawing 184 = .ok (.getfield 261, 3) := by decide +kernel
theorem dX9_findDrawing_187 : decode cX9_findDrawing 187 = .ok (.invokevirtual 280, 3) := by decide +kernel
theorem dX9_findDrawing_190 : decode cX9_findDrawing 190 = .ok (.iastore, 1) := by decide +kernel
theorem dX9_findDrawing_191 : decode cX9_findDrawing 191 = .ok (.aload_n 0, 1) := by decide +kernel
theorem dX9_findDrawing_192 : decode cX9_findDrawing 192 = .ok (.getfield 89, 3) := by decide +kernel
theorem dX9_findDrawing_195 : decode cX9_findDrawing 195 = .ok (.iload_n 2, 1) := by decide +kernel
theorem dX9_findDrawing_196 : decode cX9_findDrawing 196 = .ok (.iload_n 2, 1) := by decide +kernel
theorem dX9_findDrawing_197 : decode cX9_findDrawing 197 = .ok (.aload_n 0, 1) := by decide +kernel
theorem dX9_findDrawing_198 : decode cX9_findDrawing 198 = .ok (.getfield 261, 3) := by decide +kernel
theorem dX9_findDrawing_201 : decode cX9_findDrawing 201 = .ok (.if_icmp .ne 14, 3) := by decide +kernel
theorem dX9_findDrawing_204 : decode cX9_findDrawing 204 = .ok (.iconst 2, 1) := by decide +kernel
theorem dX9_findDrawing_205 : decode cX9_findDrawing 205 = .ok (.aload_n 0, 1) := by decide +kernel
theorem dX9_findDrawing_206 : decode cX9_findDrawing 206 = .ok (.getfield 210, 3) := by decide +kernel
theorem dX9_findDrawing_209 : decode cX9_findDrawing 209 = .ok (.imul, 1) := by decide +kernel
theorem dX9_findDrawing_210 : decode cX9_findDrawing 210 = .ok (.iconst 5, 1) := by decide +kernel
theorem dX9_findDrawing_211 : decode cX9_findDrawing 211 = .ok (.isub, 1) := by decide +kernel
theorem dX9_findDrawing_212 : decode cX9_findDrawing 212 = .ok (.goto 36, 3) := by decide +kernel
theorem dX9_findDrawing_215 : decode cX9_findDrawing 215 = .ok (.iload_n 2, 1) := by decide +kernel
theorem dX9_findDrawing_216 : decode cX9_findDrawing 216 = .ok (.aload_n 0, 1) := by decide +kernel
theorem dX9_findDrawing_217 : decode cX9_findDrawing 217 = .ok (.getfield 258, 3) := by decide +kernel
theorem dX9_findDrawing_220 : decode cX9_findDrawing 220 = .ok (.if_icmp .eq 11, 3) := by decide +kernel
theorem dX9_findDrawing_223 : decode cX9_findDrawing 223 = .ok (.iload_n 2, 1) := by decide +kernel
theorem dX9_findDrawing_224 : decode cX9_findDrawing 224 = .ok (.aload_n 0, 1) := by decide +kernel
theorem dX9_findDrawing_225 : decode cX9_findDrawing 225 = .ok (.getfield 264, 3) := by decide +kernel
theorem dX9_findDrawing_228 : decode cX9_findDrawing 228 = .ok (.if_icmp .ne 7, 3) := by decide +kernel
theorem dX9_findDrawing_231 : decode cX9_findDrawing 231 = .ok (.iconst 0, 1) := by decide +kernel
theorem dX9_findDrawing_232 : decode cX9_findDrawing 232 = .ok (.goto 16, 3) := by decide +kernel
theorem dX9_findDrawing_235 : decode cX9_findDrawing 235 = .ok (.aload_n 0, 1) := by decide +kernel
theorem dX9_findDrawing_236 : decode cX9_findDrawing 236 = .ok (.iload_n 2, 1) := by decide +kernel
theorem dX9_findDrawing_237 : decode cX9_findDrawing 237 = .ok (.aload_n 0, 1) := by decide +kernel
theorem dX9_findDrawing_238 : decode cX9_findDrawing 238 = .ok (.getfield 98, 3) := by decide +kernel
theorem dX9_findDrawing_241 : decode cX9_findDrawing 241 = .ok (.aload_n 0, 1) := by decide +kernel
theorem dX9_findDrawing_242 : decode cX9_findDrawing 242 = .ok (.getfield 258, 3) := by decide +kernel
theorem dX9_findDrawing_245 : decode cX9_findDrawing 245 = .ok (.invokevirtual 280, 3) := by decide +kernel
theorem dX9_findDrawing_248 : decode cX9_findDrawing 248 = .ok (.iastore, 1) := by decide +kernel
theorem dX9_findDrawing_249 : decode cX9_findDrawing 249 = .ok (.iinc 2 1, 3) := by decide +kernel
theorem dX9_findDrawing_252 : decode cX9_findDrawing 252 = .ok (.goto (-127), 3) := by decide +kernel
theorem dX9_findDrawing_255 : decode cX9_findDrawing 255 = .ok (.return_, 1) := by decide +kernel
theorem dX9_findOuter_0 : decode cX9_findOuter 0 = .ok (.ldc 254, 2) := by decide +kernel
theorem dX9_findOuter_2 : decode cX9_findOuter 2 = .ok (.istore_n 1, 1) := by decide +kernel
theorem dX9_findOuter_3 : decode cX9_findOuter 3 = .ok (.iconst 0, 1) := by decide +kernel
theorem dX9_findOuter_4 : decode cX9_findOuter 4 = .ok (.istore_n 2, 1) := by decide +kernel
theorem dX9_findOuter_5 : decode cX9_findOuter 5 = .ok (.iload_n 2, 1) := by decide +kernel
theorem dX9_findOuter_6 : decode cX9_findOuter 6 = .ok (.aload_n 0, 1) := by decide +kernel
theorem dX9_findOuter_7 : decode cX9_findOuter 7 = .ok (.getfield 174, 3) := by decide +kernel
theorem dX9_findOuter_10 : decode cX9_findOuter 10 = .ok (.if_icmp .ge 107, 3) := by decide +kernel
theorem dX9_findOuter_13 : decode cX9_findOuter 13 = .ok (.aload_n 0, 1) := by decide +kernel
theorem dX9_findOuter_14 : decode cX9_findOuter 14 = .ok (.getfield 50, 3) := by decide +kernel
theorem dX9_findOuter_17 : decode cX9_findOuter 17 = .ok (.iload_n 2, 1) := by decide +kernel
theorem dX9_findOuter_18 : decode cX9_findOuter 18 = .ok (.iaload, 1) := by decide +kernel
theorem dX9_findOuter_19 : decode cX9_findOuter 19 = .ok (.invokestatic 248, 3) := by decide +kernel
theorem dX9_findOuter_22 : decode cX9_findOuter 22 = .ok (.istore_n 3, 1) := by decide +kernel
theorem dX9_findOuter_23 : decode cX9_findOuter 23 = .ok (.aload_n 0, 1) := by decide +kernel
theorem dX9_findOuter_24 : decode cX9_findOuter 24 = .ok (.getfield 50, 3) := by decide +kernel
theorem dX9_findOuter_27 : decode cX9_findOuter 27 = .ok (.iload_n 2, 1) := by decide +kernel
theorem dX9_findOuter_28 : decode cX9_findOuter 28 = .ok (.iaload, 1) := by decide +kernel
theorem dX9_findOuter_29 : decode cX9_findOuter 29 = .ok (.iconst 1, 1) := by decide +kernel
theorem dX9_findOuter_30 : decode cX9_findOuter 30 = .ok (.iload_n 3, 1) := by decide +kernel
theorem dX9_findOuter_31 : decode cX9_findOuter 31 = .ok (.ishl, 1) := by decide +kernel
theorem dX9_findOuter_32 : decode cX9_findOuter 32 = .ok (.iconst (-1), 1) := by decide +kernel
theorem dX9_findOuter_33 : decode cX9_findOuter 33 = .ok (.ixor, 1) := by decide +kernel
theorem dX9_findOuter_34 : decode cX9_findOuter 34 = .ok (.iand, 1) := by decide +kernel
theorem dX9_findOuter_35 : decode cX9_findOuter 35 = .ok (.invokestatic 248, 3) := by decide +kernel
theorem dX9_findOuter_38 : decode cX9_findOuter 38 = .ok (.istore 4, 2) := by decide +kernel
theorem dX9_findOuter_40 : decode cX9_findOuter 40 = .ok (.aload_n 0, 1) := by decide +kernel
theorem dX9_findOuter_41 : decode cX9_findOuter 41 = .ok (.getfield 50, 3) := by decide +kernel
theorem dX9_findOuter_44 : decode cX9_findOuter 44 = .ok (.iload_n 2, 1) := by decide +kernel
theorem dX9_findOuter_45 : decode cX9_findOuter 45 = .ok (.iaload, 1) := by decide +kernel
theorem dX9_findOuter_46 : decode cX9_findOuter 46 = .ok (.iconst 1, 1) := by decide +kernel
theorem dX9_findOuter_47 : decode cX9_findOuter 47 = .ok (.iload_n 3, 1) := by decide +kernel
theorem dX9_findOuter_48 : decode cX9_findOuter 48 = .ok (.ishl, 1) := by decide +kernel
theorem dX9_findOuter_49 : decode cX9_findOuter 49 = .ok (.iconst (-1), 1) := by decide +kernel
theorem dX9_findOuter_50 : decode cX9_findOuter 50 = .ok (.ixor, 1) := by decide +kernel
theorem dX9_findOuter_51 : decode cX9_findOuter 51 = .ok (.iand, 1) := by decide +kernel
theorem dX9_findOuter_52 : decode cX9_findOuter 52 = .ok (.iconst 1, 1) := by decide +kernel
theorem dX9_findOuter_53 : decode cX9_findOuter 53 = .ok (.iload 4, 2) := by decide +kernel
theorem dX9_findOuter_55 : decode cX9_findOuter 55 = .ok (.ishl, 1) := by decide +kernel
theorem dX9_findOuter_56 : decode cX9_findOuter 56 = .ok (.iconst (-1), 1) := by decide +kernel
theorem dX9_findOuter_57 : decode cX9_findOuter 57 = .ok (.ixor, 1) := by decide +kernel
theorem dX9_findOuter_58 : decode cX9_findOuter 58 = .ok (.iand, 1) := by decide +kernel
theorem dX9_findOuter_59 : decode cX9_findOuter 59 = .ok (.invokestatic 248, 3) := by decide +kernel
theorem dX9_findOuter_62 : decode cX9_findOuter 62 = .ok (.istore 5, 2) := by decide +kernel
theorem dX9_findOuter_64 : decode cX9_findOuter 64 = .ok (.iload_n 3, 1) := by decide +kernel
theorem dX9_findOuter_65 : decode cX9_findOuter 65 = .ok (.sipush 441, 3) := by decide +kernel
theorem dX9_findOuter_68 : decode cX9_findOuter 68 = .ok (.imul, 1) := by decide +kernel
theorem dX9_findOuter_69 : decode cX9_findOuter 69 = .ok (.iload 4, 2) := by decide +kernel
theorem dX9_findOuter_71 : decode cX9_findOuter 71 = .ok (.bipush 21, 2) := by decide +kernel
theorem dX9_findOuter_73 : decode cX9_findOuter 73 = .ok (.imul, 1) := by decide +kernel
theorem dX9_findOuter_74 : decode cX9_findOuter 74 = .ok (.iadd, 1) := by decide +kernel
theorem dX9_findOuter_75 : decode cX9_findOuter 75 = .ok (.iload 5, 2) := by decide +kernel
theorem dX9_findOuter_77 : decode cX9_findOuter 77 = .ok (.iadd, 1) := by decide +kernel
theorem dX9_findOuter_78 : decode cX9_findOuter 78 = .ok (.istore 6, 2) := by decide +kernel
theorem dX9_findOuter_80 : decode cX9_findOuter 80 = .ok (.iload 6, 2) := by decide +kernel
theorem dX9_findOuter_82 : decode cX9_findOuter 82 = .ok (.iload_n 1, 1) := by decide +kernel
theorem dX9_findOuter_83 : decode cX9_findOuter 83 = .ok (.if_icmp .ge 28, 3) := by decide +kernel
theorem dX9_findOuter_86 : decode cX9_findOuter 86 = .ok (.iload 6, 2) := by decide +kernel
theorem dX9_findOuter_88 : decode cX9_findOuter 88 = .ok (.istore_n 1, 1) := by decide +kernel
theorem dX9_findOuter_89 : decode cX9_findOuter 89 = .ok (.aload_n 0, 1) := by decide +kernel
theorem dX9_findOuter_90 : decode cX9_findOuter 90 = .ok (.iload_n 2, 1) := by decide +kernel
theorem dX9_findOuter_91 : decode cX9_findOuter 91 = .ok (.putfield 255, 3) := by decide +kernel
theorem dX9_findOuter_94 : decode cX9_findOuter 94 = .ok (.aload_n 0, 1) := by decide +kernel
theorem dX9_findOuter_95 : decode cX9_findOuter 95 = .ok (.iload_n 3, 1) := by decide +kernel
theorem dX9_findOuter_96 : decode cX9_findOuter 96 = .ok (.putfield 258, 3) := by decide +kernel
theorem dX9_findOuter_99 : decode cX9_findOuter 99 = .ok (.aload_n 0, 1) := by decide +kernel
theorem dX9_findOuter_100 : decode cX9_findOuter 100 = .ok (.iload 4, 2) := by decide +kernel
theorem dX9_findOuter_102 : decode cX9_findOuter 102 = .ok (.putfield 261, 3) := by decide +kernel
theorem dX9_findOuter_105 : decode cX9_findOuter 105 = .ok (.aload_n 0, 1) := by decide +kernel
theorem dX9_findOuter_106 : decode cX9_findOuter 106 = .ok (.iload 5, 2) := by decide +kernel
theorem dX9_findOuter_108 : decode cX9_findOuter 108 = .ok (.putfield 264, 3) := by decide +kernel
theorem dX9_findOuter_111 : decode cX9_findOuter 111 = .ok (.iinc 2 1, 3) := by decide +kernel
theorem dX9_findOuter_114 : decode cX9_findOuter 114 = .ok (.goto (-109), 3) := by decide +kernel
theorem dX9_findOuter_117 : decode cX9_findOuter 117 = .ok (.return_, 1) := by decide +kernel
theorem dX9_findPath_0 : decode cX9_findPath 0 = .ok (.iconst 0, 1) := by decide +kernel
theorem dX9_findPath_1 : decode cX9_findPath 1 = .ok (.istore 5, 2) := by decide +kernel
theorem dX9_findPath_3 : decode cX9_findPath 3 = .ok (.iload 5, 2) := by decide +kernel
theorem dX9_findPath_5 : decode cX9_findPath 5 = .ok (.aload_n 0, 1) := by decide +kernel
theorem dX9_findPath_6 : decode cX9_findPath 6 = .ok (.getfield 131, 3) := by decide +kernel
theorem dX9_findPath_9 : decode cX9_findPath 9 = .ok (.if_icmp .ge 17, 3) := by decide +kernel
theorem dX9_findPath_12 : decode cX9_findPath 12 = .ok (.aload_n 0, 1) := by decide +kernel
theorem dX9_findPath_13 : decode cX9_findPath 13 = .ok (.getfield 56, 3) := by decide +kernel
theorem dX9_findPath_16 : decode cX9_findPath 16 = .ok (.iload 5, 2) := by decide +kernel
theorem dX9_findPath_18 : decode cX9_findPath 18 = .ok (.iconst (-1), 1) := by decide +kernel
theorem dX9_findPath_19 : decode cX9_findPath 19 = .ok (.iastore, 1) := by decide +kernel
theorem dX9_findPath_20 : decode cX9_findPath 20 = .ok (.iinc 5 1, 3) := by decide +kernel
theorem dX9_findPath_23 : decode cX9_findPath 23 = .ok (.goto (-20), 3) := by decide +kernel
theorem dX9_findPath_26 : decode cX9_findPath 26 = .ok (.iconst 0, 1) := by decide +kernel
theorem dX9_findPath_27 : decode cX9_findPath 27 = .ok (.istore 5, 2) := by decide +kernel
theorem dX9_findPath_29 : decode cX9_findPath 29 = .ok (.iconst 1, 1) := by decide +kernel
theorem dX9_findPath_30 : decode cX9_findPath 30 = .ok (.istore 6, 2) := by decide +kernel
theorem dX9_findPath_32 : decode cX9_findPath 32 = .ok (.aload_n 0, 1) := by decide +kernel
theorem dX9_findPath_33 : decode cX9_findPath 33 = .ok (.getfield 59, 3) := by decide +kernel
theorem dX9_findPath_36 : decode cX9_findPath 36 = .ok (.iconst 0, 1) := by decide +kernel
theorem dX9_findPath_37 : decode cX9_findPath 37 = .ok (.iload_n 1, 1) := by decide +kernel
theorem dX9_findPath_38 : decode cX9_findPath 38 = .ok (.iastore, 1) := by decide +kernel
theorem dX9_findPath_39 : decode cX9_findPath 39 = .ok (.aload_n 0, 1) := by decide +kernel
theorem dX9_findPath_40 : decode cX9_findPath 40 = .ok (.getfield 56, 3) := by decide +kernel
theorem dX9_findPath_43 : decode cX9_findPath 43 = .ok (.iload_n 1, 1) := by decide +kernel
theorem dX9_findPath_44 : decode cX9_findPath 44 = .ok (.iload_n 1, 1) := by decide +kernel
theorem dX9_findPath_45 : decode cX9_findPath 45 = .ok (.iastore, 1) := by decide +kernel
theorem dX9_findPath_46 : decode cX9_findPath 46 = .ok (.iload 5, 2) := by decide +kernel
theorem dX9_findPath_48 : decode cX9_findPath 48 = .ok (.iload 6, 2) := by decide +kernel
theorem dX9_findPath_50 : decode cX9_findPath 50 = .ok (.if_icmp .ge 145, 3) := by decide +kernel
theorem dX9_findPath_53 : decode cX9_findPath 53 = .ok (.aload_n 0, 1) := by decide +kernel
theorem dX9_findPath_54 : decode cX9_findPath 54 = .ok (.getfield 59, 3) := by decide +kernel
theorem dX9_findPath_57 : decode cX9_findPath 57 = .ok (.iload 5, 2) := by decide +kernel
theorem dX9_findPath_59 : decode cX9_findPath 59 = .ok (.iaload, 1) := by decide +kernel
theorem dX9_findPath_60 : decode cX9_findPath 60 = .ok (.istore 7, 2) := by decide +kernel
theorem dX9_findPath_62 : decode cX9_findPath 62 = .ok (.iinc 5 1, 3) := by decide +kernel
theorem dX9_findPath_65 : decode cX9_findPath 65 = .ok (.iconst 0, 1) := by decide +kernel
theorem dX9_findPath_66 : decode cX9_findPath 66 = .ok (.istore 8, 2) := by decide +kernel
theorem dX9_findPath_68 : decode cX9_findPath 68 = .ok (.iload 8, 2) := by decide +kernel
theorem dX9_findPath_70 : decode cX9_findPath 70 = .ok (.aload_n 0, 1) := by decide +kernel
theorem dX9_findPath_71 : decode cX9_findPath 71 = .ok (.getfield 131, 3) := by decide +kernel
theorem dX9_findPath_74 : decode cX9_findPath 74 = .ok (.if_icmp .ge 118, 3) := by decide +kernel
theorem dX9_findPath_77 : decode cX9_findPath 77 = .ok (.aload_n 0, 1) := by decide +kernel
theorem dX9_findPath_78 : decode cX9_findPath 78 = .ok (.getfield 38, 3) := by decide +kernel
theorem dX9_findPath_81 : decode cX9_findPath 81 = .ok (.iload 7, 2) := by decide +kernel
theorem dX9_findPath_83 : decode cX9_findPath 83 = .ok (.iaload, 1) := by decide +kernel
theorem dX9_findPath_84 : decode cX9_findPath 84 = .ok (.iload 8, 2) := by decide +kernel
theorem dX9_findPath_86 : decode cX9_findPath 86 = .ok (.ishr, 1) := by decide +kernel
theorem dX9_findPath_87 : decode cX9_findPath 87 = .ok (.iconst 1, 1) := by decide +kernel
theorem dX9_findPath_88 : decode cX9_findPath 88 = .ok (.iand, 1) := by decide +kernel
theorem dX9_findPath_89 : decode cX9_findPath 89 = .ok (.ifCond .eq 97, 3) := by decide +kernel
theorem dX9_findPath_92 : decode cX9_findPath 92 = .ok (.aload_n 0, 1) := by decide +kernel
theorem dX9_findPath_93 : decode cX9_findPath 93 = .ok (.getfield 56, 3) := by decide +kernel
theorem dX9_findPath_96 : decode cX9_findPath 96 = .ok (.iload 8, 2) := by decide +kernel
theorem dX9_findPath_98 : decode cX9_findPath 98 = .ok (.iaload, 1) := by decide +kernel
theorem dX9_findPath_99 : decode cX9_findPath 99 = .ok (.ifCond .ge 87, 3) := by decide +kernel
theorem dX9_findPath_102 : decode cX9_findPath 102 = .ok (.iload 7, 2) := by decide +kernel
theorem dX9_findPath_104 : decode cX9_findPath 104 = .ok (.iload_n 1, 1) := by decide +kernel
theorem dX9_findPath_105 : decode cX9_findPath 105 = .ok (.if_icmp .ne 13, 3) := by decide +kernel
theorem dX9_findPath_108 : decode cX9_findPath 108 = .ok (.iload 8, 2) := by decide +kernel
theorem dX9_findPath_110 : decode cX9_findPath 110 = .ok (.iload 4, 2) := by decide +kernel
theorem dX9_findPath_112 : decode cX9_findPath 112 = .ok (.if_icmp .ne 6, 3) := by decide +kernel
theorem dX9_findPath_115 : decode cX9_findPath 115 = .ok (.goto 71, 3) := by decide +kernel
theorem dX9_findPath_118 : decode cX9_findPath 118 = .ok (.iload_n 3, 1) := by decide +kernel
theorem dX9_findPath_119 : decode cX9_findPath 119 = .ok (.iload 8, 2) := by decide +kernel
theorem dX9_findPath_121 : decode cX9_findPath 121 = .ok (.ishr, 1) := by decide +kernel
theorem dX9_findPath_122 : decode cX9_findPath 122 = .ok (.iconst 1, 1) := by decide +kernel
theorem dX9_findPath_123 : decode cX9_findPath 123 = .ok (.iand, 1) := by decide +kernel
theorem dX9_findPath_124 : decode cX9_findPath 124 = .ok (.iconst 1, 1) := by decide +kernel
theorem dX9_findPath_125 : decode cX9_findPath 125 = .ok (.if_icmp .ne 7, 3) := by decide +kernel
theorem dX9_findPath_128 : decode cX9_findPath 128 = .ok (.iconst 1, 1) := by decide +kernel
theorem dX9_findPath_129 : decode cX9_findPath 129 = .ok (.goto 4, 3) := by decide +kernel
theorem dX9_findPath_132 : decode cX9_findPath 132 = .ok (.iconst 0, 1) := by decide +kernel
theorem dX9_findPath_133 : decode cX9_findPath 133 = .ok (.istore 9, 2) := by decide +kernel
theorem dX9_findPath_135 : decode cX9_findPath 135 = .ok (.iload 9, 2) := by decide +kernel
theorem dX9_findPath_137 : decode cX9_findPath 137 = .ok (.ifCond .ne 15, 3) := by decide +kernel
theorem dX9_findPath_140 : decode cX9_findPath 140 = .ok (.iload_n 2, 1) := by decide +kernel
theorem dX9_findPath_141 : decode cX9_findPath 141 = .ok (.iload 8, 2) := by decide +kernel
theorem dX9_findPath_143 : decode cX9_findPath 143 = .ok (.ishr, 1) := by decide +kernel
theorem dX9_findPath_144 : decode cX9_findPath 144 = .ok (.iconst 1, 1) := by decide +kernel
theorem dX9_findPath_145 : decode cX9_findPath 145 = .ok (.iand, 1) := by decide +kernel
theorem dX9_findPath_146 : decode cX9_findPath 146 = .ok (.ifCond .ne 6, 3) := by decide +kernel
theorem dX9_findPath_149 : decode cX9_findPath 149 = .ok (.goto 37, 3) := by decide +kernel
theorem dX9_findPath_152 : decode cX9_findPath 152 = .ok (.aload_n 0, 1) := by decide +kernel
theorem dX9_findPath_153 : decode cX9_findPath 153 = .ok (.getfield 56, 3) := by decide +kernel
theorem dX9_findPath_156 : decode cX9_findPath 156 = .ok (.iload 8, 2) := by decide +kernel
theorem dX9_findPath_158 : decode cX9_findPath 158 = .ok (.iload 7, 2) := by decide +kernel
theorem dX9_findPath_160 : decode cX9_findPath 160 = .ok (.iastore, 1) := by decide +kernel
theorem dX9_findPath_161 : decode cX9_findPath 161 = .ok (.iload 9, 2) := by decide +kernel
theorem dX9_findPath_163 : decode cX9_findPath 163 = .ok (.ifCond .eq 11, 3) := by decide +kernel
theorem dX9_findPath_166 : decode cX9_findPath 166 = .ok (.aload_n 0, 1) := by decide +kernel
theorem dX9_findPath_167 : decode cX9_findPath 167 = .ok (.iload 8, 2) := by decide +kernel
theorem dX9_findPath_169 : decode cX9_findPath 169 = .ok (.iload_n 1, 1) := by decide +kernel
theorem dX9_findPath_170 : decode cX9_findPath 170 = .ok (.invokevirtual 156, 3) := by decide +kernel
theorem dX9_findPath_173 : decode cX9_findPath 173 = .ok (.ireturn, 1) := by decide +kernel
theorem dX9_findPath_174 : decode cX9_findPath 174 = .ok (.aload_n 0, 1) := by decide +kernel
theorem dX9_findPath_175 : decode cX9_findPath 175 = .ok (.getfield 59, 3) := by decide +kernel
theorem dX9_findPath_178 : decode cX9_findPath 178 = .ok (.iload 6, 2) := by decide +kernel
theorem dX9_findPath_180 : decode cX9_findPath 180 = .ok (.iload 8, 2) := by decide +kernel
theorem dX9_findPath_182 : decode cX9_findPath 182 = .ok (.iastore, 1) := by decide +kernel
theorem dX9_findPath_183 : decode cX9_findPath 183 = .ok (.iinc 6 1, 3) := by decide +kernel
theorem dX9_findPath_186 : decode cX9_findPath 186 = .ok (.iinc 8 1, 3) := by decide +kernel
theorem dX9_findPath_189 : decode cX9_findPath 189 = .ok (.goto (-121), 3) := by decide +kernel
theorem dX9_findPath_192 : decode cX9_findPath 192 = .ok (.goto (-146), 3) := by decide +kernel
theorem dX9_findPath_195 : decode cX9_findPath 195 = .ok (.iconst 0, 1) := by decide +kernel
theorem dX9_findPath_196 : decode cX9_findPath 196 = .ok (.ireturn, 1) := by decide +kernel
theorem dX9_findPiece_0 : decode cX9_findPiece 0 = .ok (.aload_n 0, 1) := by decide +kernel
theorem dX9_findPiece_1 : decode cX9_findPiece 1 = .ok (.sipush 1000, 3) := by decide +kernel
theorem dX9_findPiece_4 : decode cX9_findPiece 4 = .ok (.putfield 181, 3) := by decide +kernel
theorem dX9_findPiece_7 : decode cX9_findPiece 7 = .ok (.iconst 0, 1) := by decide +kernel
theorem dX9_findPiece_8 : decode cX9_findPiece 8 = .ok (.istore_n 1, 1) := by decide +kernel
theorem dX9_findPiece_9 : decode cX9_findPiece 9 = .ok (.iload_n 1, 1) := by decide +kernel
theorem dX9_findPiece_10 : decode cX9_findPiece 10 = .ok (.aload_n 0, 1) := by decide +kernel
theorem dX9_findPiece_11 : decode cX9_findPiece 11 = .ok (.getfield 131, 3) := by decide +kernel
theorem dX9_findPiece_14 : decode cX9_findPiece 14 = .ok (.if_icmp .ge 90, 3) := by decide +kernel
theorem dX9_findPiece_17 : decode cX9_findPiece 17 = .ok (.iload_n 1, 1) := by decide +kernel
theorem dX9_findPiece_18 : decode cX9_findPiece 18 = .ok (.iconst 1, 1) := by decide +kernel
theorem dX9_findPiece_19 : decode cX9_findPiece 19 = .ok (.iadd, 1) := by decide +kernel
theorem dX9_findPiece_20 : decode cX9_findPiece 20 = .ok (.istore_n 2, 1) := by decide +kernel
theorem dX9_findPiece_21 : decode cX9_findPiece 21 = .ok (.iload_n 2, 1) := by decide +kernel
theorem dX9_findPiece_22 : decode cX9_findPiece 22 = .ok (.aload_n 0, 1) := by decide +kernel
theorem dX9_findPiece_23 : decode cX9_findPiece 23 = .ok (.getfield 131, 3) := by decide +kernel
theorem dX9_findPiece_26 : decode cX9_findPiece 26 = .ok (.if_icmp .ge 72, 3) := by decide +kernel
theorem dX9_findPiece_29 : decode cX9_findPiece 29 = .ok (.aload_n 0, 1) := by decide +kernel
theorem dX9_findPiece_30 : decode cX9_findPiece 30 = .ok (.getfield 163, 3) := by decide +kernel
theorem dX9_findPiece_33 : decode cX9_findPiece 33 = .ok (.iload_n 1, 1) := by decide +kernel
theorem dX9_findPiece_34 : decode cX9_findPiece 34 = .ok (.ishr, 1) := by decide +kernel
theorem dX9_findPiece_35 : decode cX9_findPiece 35 = .ok (.iconst 1, 1) := by decide +kernel
theorem dX9_findPiece_36 : decode cX9_findPiece 36 = .ok (.iand, 1) := by decide +kernel
theorem dX9_findPiece_37 : decode cX9_findPiece 37 = .ok (.iconst 1, 1) := by decide +kernel
theorem dX9_findPiece_38 : decode cX9_findPiece 38 = .ok (.if_icmp .ne 54, 3) := by decide +kernel
theorem dX9_findPiece_41 : decode cX9_findPiece 41 = .ok (.aload_n 0, 1) := by decide +kernel
theorem dX9_findPiece_42 : decode cX9_findPiece 42 = .ok (.getfield 163, 3) := by decide +kernel
theorem dX9_findPiece_45 : decode cX9_findPiece 45 = .ok (.iload_n 2, 1) := by decide +kernel
theorem dX9_findPiece_46 : decode cX9_findPiece 46 = .ok (.ishr, 1) := by decide +kernel
theorem dX9_findPiece_47 : decode cX9_findPiece 47 = .ok (.iconst 1, 1) := by decide +kernel
theorem dX9_findPiece_48 : decode cX9_findPiece 48 = .ok (.iand, 1) := by decide +kernel
theorem dX9_findPiece_49 : decode cX9_findPiece 49 = .ok (.iconst 1, 1) := by decide +kernel
theorem dX9_findPiece_50 : decode cX9_findPiece 50 = .ok (.if_icmp .ne 42, 3) := by decide +kernel
theorem dX9_findPiece_53 : decode cX9_findPiece 53 = .ok (.aload_n 0, 1) := by decide +kernel
theorem dX9_findPiece_54 : decode cX9_findPiece 54 = .ok (.getfield 38, 3) := by decide +kernel
theorem dX9_findPiece_57 : decode cX9_findPiece 57 = .ok (.iload_n 1, 1) := by decide +kernel
theorem dX9_findPiece_58 : decode cX9_findPiece 58 = .ok (.iaload, 1) := by decide +kernel
theorem dX9_findPiece_59 : decode cX9_findPiece 59 = .ok (.iload_n 2, 1) := by decide +kernel
theorem dX9_findPiece_60 : decode cX9_findPiece 60 = .ok (.ishr, 1) := by decide +kernel
theorem dX9_findPiece_61 : decode cX9_findPiece 61 = .ok (.iconst 1, 1) := by decide +kernel
theorem dX9_findPiece_62 : decode cX9_findPiece 62 = .ok (.iand, 1) := by decide +kernel
theorem dX9_findPiece_63 : decode cX9_findPiece 63 = .ok (.iconst 1, 1) := by decide +kernel
theorem dX9_findPiece_64 : decode cX9_findPiece 64 = .ok (.if_icmp .ne 28, 3) := by decide +kernel
theorem dX9_findPiece_67 : decode cX9_findPiece 67 = .ok (.aload_n 0, 1) := by decide +kernel
theorem dX9_findPiece_68 : decode cX9_findPiece 68 = .ok (.getfield 41, 3) := by decide +kernel
theorem dX9_findPiece_71 : decode cX9_findPiece 71 = .ok (.iload_n 1, 1) := by decide +kernel
theorem dX9_findPiece_72 : decode cX9_findPiece 72 = .ok (.iaload, 1) := by decide +kernel
theorem dX9_findPiece_73 : decode cX9_findPiece 73 = .ok (.iload_n 2, 1) := by decide +kernel
theorem dX9_findPiece_74 : decode cX9_findPiece 74 = .ok (.ishr, 1) := by decide +kernel
theorem dX9_findPiece_75 : decode cX9_findPiece 75 = .ok (.iconst 1, 1) := by decide +kernel
theorem dX9_findPiece_76 : decode cX9_findPiece 76 = .ok (.iand, 1) := by decide +kernel
theorem dX9_findPiece_77 : decode cX9_findPiece 77 = .ok (.ifCond .ne 15, 3) := by decide +kernel
theorem dX9_findPiece_80 : decode cX9_findPiece 80 = .ok (.aload_n 0, 1) := by decide +kernel
theorem dX9_findPiece_81 : decode cX9_findPiece 81 = .ok (.iconst 1, 1) := by decide +kernel
theorem dX9_findPiece_82 : decode cX9_findPiece 82 = .ok (.iload_n 1, 1) := by decide +kernel
theorem dX9_findPiece_83 : decode cX9_findPiece 83 = .ok (.ishl, 1) := by decide +kernel
theorem dX9_findPiece_84 : decode cX9_findPiece 84 = .ok (.iconst 1, 1) := by decide +kernel
theorem dX9_findPiece_85 : decode cX9_findPiece 85 = .ok (.iload_n 2, 1) := by decide +kernel
theorem dX9_findPiece_86 : decode cX9_findPiece 86 = .ok (.ishl, 1) := by decide +kernel
theorem dX9_findPiece_87 : decode cX9_findPiece 87 = .ok (.ior, 1) := by decide +kernel
theorem dX9_findPiece_88 : decode cX9_findPiece 88 = .ok (.iconst 0, 1) := by decide +kernel
theorem dX9_findPiece_89 : decode cX9_findPiece 89 = .ok (.invokevirtual 190, 3) := by decide +kernel
theorem dX9_findPiece_92 : decode cX9_findPiece 92 = .ok (.iinc 2 1, 3) := by decide +kernel
theorem dX9_findPiece_95 : decode cX9_findPiece 95 = .ok (.goto (-74), 3) := by decide +kernel
theorem dX9_findPiece_98 : decode cX9_findPiece 98 = .ok (.iinc 1 1, 3) := by decide +kernel
theorem dX9_findPiece_101 : decode cX9_findPiece 101 = .ok (.goto (-92), 3) := by decide +kernel
theorem dX9_findPiece_104 : decode cX9_findPiece 104 = .ok (.aload_n 0, 1) := by decide +kernel
theorem dX9_findPiece_105 : decode cX9_findPiece 105 = .ok (.getfield 163, 3) := by decide +kernel
theorem dX9_findPiece_108 : decode cX9_findPiece 108 = .ok (.istore_n 1, 1) := by decide +kernel
theorem dX9_findPiece_109 : decode cX9_findPiece 109 = .ok (.iconst 0, 1) := by decide +kernel
theorem dX9_findPiece_110 : decode cX9_findPiece 110 = .ok (.istore_n 2, 1) := by decide +kernel
theorem dX9_findPiece_111 : decode cX9_findPiece 111 = .ok (.iload_n 2, 1) := by decide +kernel
theorem dX9_findPiece_112 : decode cX9_findPiece 112 = .ok (.aload_n 0, 1) := by decide +kernel
theorem dX9_findPiece_113 : decode cX9_findPiece 113 = .ok (.getfield 131, 3) := by decide +kernel
theorem dX9_findPiece_116 : decode cX9_findPiece 116 = .ok (.if_icmp .ge 125, 3) := by decide +kernel
theorem dX9_findPiece_119 : decode cX9_findPiece 119 = .ok (.aload_n 0, 1) := by decide +kernel
theorem dX9_findPiece_120 : decode cX9_findPiece 120 = .ok (.getfield 38, 3) := by decide +kernel
theorem dX9_findPiece_123 : decode cX9_findPiece 123 = .ok (.iload_n 2, 1) := by decide +kernel
theorem dX9_findPiece_124 : decode cX9_findPiece 124 = .ok (.iaload, 1) := by decide +kernel
theorem dX9_findPiece_125 : decode cX9_findPiece 125 = .ok (.ifCond .eq 110, 3) := by decide +kernel
theorem dX9_findPiece_128 : decode cX9_findPiece 128 = .ok (.iload_n 1, 1) := by decide +kernel
theorem dX9_findPiece_129 : decode cX9_findPiece 129 = .ok (.iload_n 2, 1) := by decide +kernel
theorem dX9_findPiece_130 : decode cX9_findPiece 130 = .ok (.ishr, 1) := by decide +kernel
theorem dX9_findPiece_131 : decode cX9_findPiece 131 = .ok (.iconst 1, 1) := by decide +kernel
theorem dX9_findPiece_132 : decode cX9_findPiece 132 = .ok (.iand, 1) := by decide +kernel
theorem dX9_findPiece_133 : decode cX9_findPiece 133 = .ok (.iconst 1, 1) := by decide +kernel
theorem dX9_findPiece_134 : decode cX9_findPiece 134 = .ok (.if_icmp .ne 6, 3) := by decide +kernel
theorem dX9_findPiece_137 : decode cX9_findPiece 137 = .ok (.goto 98, 3) := by decide +kernel
theorem dX9_findPiece_140 : decode cX9_findPiece 140 = .ok (.iconst 1, 1) := by decide +kernel
theorem dX9_findPiece_141 : decode cX9_findPiece 141 = .ok (.iload_n 2, 1) := by decide +kernel
theorem dX9_findPiece_142 : decode cX9_findPiece 142 = .ok (.ishl, 1) := by decide +kernel
theorem dX9_findPiece_143 : decode cX9_findPiece 143 = .ok (.istore_n 3, 1) := by decide +kernel
theorem dX9_findPiece_144 : decode cX9_findPiece 144 = .ok (.iconst 0, 1) := by decide +kernel
theorem dX9_findPiece_145 : decode cX9_findPiece 145 = .ok (.istore 4, 2) := by decide +kernel
theorem dX9_findPiece_147 : decode cX9_findPiece 147 = .ok (.iconst 0, 1) := by decide +kernel
theorem dX9_findPiece_148 : decode cX9_findPiece 148 = .ok (.istore 5, 2) := by decide +kernel
theorem dX9_findPiece_150 : decode cX9_findPiece 150 = .ok (.iload 4, 2) := by decide +kernel
theorem dX9_findPiece_152 : decode cX9_findPiece 152 = .ok (.iload_n 3, 1) := by decide +kernel
theorem dX9_findPiece_153 : decode cX9_findPiece 153 = .ok (.if_icmp .eq 71, 3) := by decide +kernel
theorem dX9_findPiece_156 : decode cX9_findPiece 156 = .ok (.iload_n 3, 1) := by decide +kernel
theorem dX9_findPiece_157 : decode cX9_findPiece 157 = .ok (.istore 4, 2) := by decide +kernel
theorem dX9_findPiece_159 : decode cX9_findPiece 159 = .ok (.iconst 0, 1) := by decide +kernel
theorem dX9_findPiece_160 : decode cX9_findPiece 160 = .ok (.istore 6, 2) := by decide +kernel
theorem dX9_findPiece_162 : decode cX9_findPiece 162 = .ok (.iload 6, 2) := by decide +kernel
theorem dX9_findPiece_164 : decode cX9_findPiece 164 = .ok (.aload_n 0, 1) := by decide +kernel
theorem dX9_findPiece_165 : decode cX9_findPiece 165 = .ok (.getfield 131, 3) := by decide +kernel
theorem dX9_findPiece_168 : decode cX9_findPiece 168 = .ok (.if_icmp .ge 53, 3) := by decide +kernel
theorem dX9_findPiece_171 : decode cX9_findPiece 171 = .ok (.iload_n 3, 1) := by decide +kernel
theorem dX9_findPiece_172 : decode cX9_findPiece 172 = .ok (.iload 6, 2) := by decide +kernel
theorem dX9_findPiece_174 : decode cX9_findPiece 174 = .ok (.ishr, 1) := by decide +kernel
theorem dX9_findPiece_175 : decode cX9_findPiece 175 = .ok (.iconst 1, 1) := by decide +kernel
theorem dX9_findPiece_176 : decode cX9_findPiece 176 = .ok (.iand, 1) := by decide +kernel
theorem dX9_findPiece_177 : decode cX9_findPiece 177 = .ok (.iconst 1, 1) := by decide +kernel
theorem dX9_findPiece_178 : decode cX9_findPiece 178 = .ok (.if_icmp .ne 37, 3) := by decide +kernel
theorem dX9_findPiece_181 : decode cX9_findPiece 181 = .ok (.iload_n 3, 1) := by decide +kernel
theorem dX9_findPiece_182 : decode cX9_findPiece 182 = .ok (.aload_n 0, 1) := by decide +kernel
theorem dX9_findPiece_183 : decode cX9_findPiece 183 = .ok (.getfield 38, 3) := by decide +kernel
theorem dX9_findPiece_186 : decode cX9_findPiece 186 = .ok (.iload 6, 2) := by decide +kernel
