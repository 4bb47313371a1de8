theorem dX5_part_62 : decode cX5_part 62 = .ok (.aload_n 0, 1) := by decide +kernel
theorem dX5_part_63 : decode cX5_part 63 = .ok (.getfield 40, 3) := by decide +kernel
theorem dX5_part_66 : decode cX5_part 66 = .ok (.iload 9, 2) := by decide +kernel
theorem dX5_part_68 : decode cX5_part 68 = .ok (.lload 13, 2) := by decide +kernel
theorem dX5_part_70 : decode cX5_part 70 = .ok (.lastore, 1) := by decide +kernel
theorem dX5_part_71 : decode cX5_part 71 = .ok (.iinc 9 1, 3) := by decide +kernel
theorem dX5_part_74 : decode cX5_part 74 = .ok (.goto 48, 3) := by decide +kernel
theorem dX5_part_77 : decode cX5_part 77 = .ok (.lload 11, 2) := by decide +kernel
theorem dX5_part_79 : decode cX5_part 79 = .ok (.lload_n 1, 1) := by decide +kernel
theorem dX5_part_80 : decode cX5_part 80 = .ok (.land, 1) := by decide +kernel
theorem dX5_part_81 : decode cX5_part 81 = .ok (.lload 13, 2) := by decide +kernel
theorem dX5_part_83 : decode cX5_part 83 = .ok (.lload_n 3, 1) := by decide +kernel
theorem dX5_part_84 : decode cX5_part 84 = .ok (.land, 1) := by decide +kernel
theorem dX5_part_85 : decode cX5_part 85 = .ok (.lor, 1) := by decide +kernel
theorem dX5_part_86 : decode cX5_part 86 = .ok (.lconst 0, 1) := by decide +kernel
theorem dX5_part_87 : decode cX5_part 87 = .ok (.lcmp, 1) := by decide +kernel
theorem dX5_part_88 : decode cX5_part 88 = .ok (.ifCond .eq 20, 3) := by decide +kernel
theorem dX5_part_91 : decode cX5_part 91 = .ok (.lload 5, 2) := by decide +kernel
theorem dX5_part_93 : decode cX5_part 93 = .ok (.lload 11, 2) := by decide +kernel
theorem dX5_part_95 : decode cX5_part 95 = .ok (.lor, 1) := by decide +kernel
theorem dX5_part_96 : decode cX5_part 96 = .ok (.lstore 5, 2) := by decide +kernel
theorem dX5_part_98 : decode cX5_part 98 = .ok (.lload 7, 2) := by decide +kernel
theorem dX5_part_100 : decode cX5_part 100 = .ok (.lload 13, 2) := by decide +kernel
theorem dX5_part_102 : decode cX5_part 102 = .ok (.lor, 1) := by decide +kernel
theorem dX5_part_103 : decode cX5_part 103 = .ok (.lstore 7, 2) := by decide +kernel
theorem dX5_part_105 : decode cX5_part 105 = .ok (.goto 17, 3) := by decide +kernel
theorem dX5_part_108 : decode cX5_part 108 = .ok (.lload 5, 2) := by decide +kernel
theorem dX5_part_110 : decode cX5_part 110 = .ok (.lload 13, 2) := by decide +kernel
theorem dX5_part_112 : decode cX5_part 112 = .ok (.lor, 1) := by decide +kernel
theorem dX5_part_113 : decode cX5_part 113 = .ok (.lstore 5, 2) := by decide +kernel
theorem dX5_part_115 : decode cX5_part 115 = .ok (.lload 7, 2) := by decide +kernel
theorem dX5_part_117 : decode cX5_part 117 = .ok (.lload 11, 2) := by decide +kernel
theorem dX5_part_119 : decode cX5_part 119 = .ok (.lor, 1) := by decide +kernel
theorem dX5_part_120 : decode cX5_part 120 = .ok (.lstore 7, 2) := by decide +kernel
theorem dX5_part_122 : decode cX5_part 122 = .ok (.iinc 10 1, 3) := by decide +kernel
theorem dX5_part_125 : decode cX5_part 125 = .ok (.goto (-113), 3) := by decide +kernel
theorem dX5_part_128 : decode cX5_part 128 = .ok (.aload_n 0, 1) := by decide +kernel
theorem dX5_part_129 : decode cX5_part 129 = .ok (.getfield 37, 3) := by decide +kernel
theorem dX5_part_132 : decode cX5_part 132 = .ok (.iload 9, 2) := by decide +kernel
theorem dX5_part_134 : decode cX5_part 134 = .ok (.lload 5, 2) := by decide +kernel
theorem dX5_part_136 : decode cX5_part 136 = .ok (.lastore, 1) := by decide +kernel
theorem dX5_part_137 : decode cX5_part 137 = .ok (.aload_n 0, 1) := by decide +kernel
theorem dX5_part_138 : decode cX5_part 138 = .ok (.getfield 40, 3) := by decide +kernel
theorem dX5_part_141 : decode cX5_part 141 = .ok (.iload 9, 2) := by decide +kernel
theorem dX5_part_143 : decode cX5_part 143 = .ok (.lload 7, 2) := by decide +kernel
theorem dX5_part_145 : decode cX5_part 145 = .ok (.lastore, 1) := by decide +kernel
theorem dX5_part_146 : decode cX5_part 146 = .ok (.aload_n 0, 1) := by decide +kernel
theorem dX5_part_147 : decode cX5_part 147 = .ok (.iload 9, 2) := by decide +kernel
theorem dX5_part_149 : decode cX5_part 149 = .ok (.iconst 1, 1) := by decide +kernel
theorem dX5_part_150 : decode cX5_part 150 = .ok (.iadd, 1) := by decide +kernel
theorem dX5_part_151 : decode cX5_part 151 = .ok (.putfield 69, 3) := by decide +kernel
theorem dX5_part_154 : decode cX5_part 154 = .ok (.lload 5, 2) := by decide +kernel
theorem dX5_part_156 : decode cX5_part 156 = .ok (.lload 7, 2) := by decide +kernel
theorem dX5_part_158 : decode cX5_part 158 = .ok (.land, 1) := by decide +kernel
theorem dX5_part_159 : decode cX5_part 159 = .ok (.lconst 0, 1) := by decide +kernel
theorem dX5_part_160 : decode cX5_part 160 = .ok (.lcmp, 1) := by decide +kernel
theorem dX5_part_161 : decode cX5_part 161 = .ok (.ifCond .ne 7, 3) := by decide +kernel
theorem dX5_part_164 : decode cX5_part 164 = .ok (.iconst 1, 1) := by decide +kernel
theorem dX5_part_165 : decode cX5_part 165 = .ok (.goto 4, 3) := by decide +kernel
theorem dX5_part_168 : decode cX5_part 168 = .ok (.iconst 0, 1) := by decide +kernel
theorem dX5_part_169 : decode cX5_part 169 = .ok (.ireturn, 1) := by decide +kernel
theorem dX5_prepare_0 : decode cX5_prepare 0 = .ok (.aload_n 0, 1) := by decide +kernel
theorem dX5_prepare_1 : decode cX5_prepare 1 = .ok (.iconst 0, 1) := by decide +kernel
theorem dX5_prepare_2 : decode cX5_prepare 2 = .ok (.putfield 65, 3) := by decide +kernel
theorem dX5_prepare_5 : decode cX5_prepare 5 = .ok (.aload_n 0, 1) := by decide +kernel
theorem dX5_prepare_6 : decode cX5_prepare 6 = .ok (.iconst 0, 1) := by decide +kernel
theorem dX5_prepare_7 : decode cX5_prepare 7 = .ok (.putfield 69, 3) := by decide +kernel
theorem dX5_prepare_10 : decode cX5_prepare 10 = .ok (.aload_n 0, 1) := by decide +kernel
theorem dX5_prepare_11 : decode cX5_prepare 11 = .ok (.getfield 28, 3) := by decide +kernel
theorem dX5_prepare_14 : decode cX5_prepare 14 = .ok (.lconst 0, 1) := by decide +kernel
theorem dX5_prepare_15 : decode cX5_prepare 15 = .ok (.invokestatic 72, 3) := by decide +kernel
theorem dX5_prepare_18 : decode cX5_prepare 18 = .ok (.iconst 0, 1) := by decide +kernel
theorem dX5_prepare_19 : decode cX5_prepare 19 = .ok (.istore_n 3, 1) := by decide +kernel
theorem dX5_prepare_20 : decode cX5_prepare 20 = .ok (.iload_n 3, 1) := by decide +kernel
theorem dX5_prepare_21 : decode cX5_prepare 21 = .ok (.iload_n 2, 1) := by decide +kernel
theorem dX5_prepare_22 : decode cX5_prepare 22 = .ok (.if_icmp .ge 39, 3) := by decide +kernel
theorem dX5_prepare_25 : decode cX5_prepare 25 = .ok (.aload_n 0, 1) := by decide +kernel
theorem dX5_prepare_26 : decode cX5_prepare 26 = .ok (.getfield 9, 3) := by decide +kernel
theorem dX5_prepare_29 : decode cX5_prepare 29 = .ok (.iload_n 3, 1) := by decide +kernel
theorem dX5_prepare_30 : decode cX5_prepare 30 = .ok (.iconst (-1), 1) := by decide +kernel
theorem dX5_prepare_31 : decode cX5_prepare 31 = .ok (.iastore, 1) := by decide +kernel
theorem dX5_prepare_32 : decode cX5_prepare 32 = .ok (.aload_n 0, 1) := by decide +kernel
theorem dX5_prepare_33 : decode cX5_prepare 33 = .ok (.getfield 18, 3) := by decide +kernel
theorem dX5_prepare_36 : decode cX5_prepare 36 = .ok (.iload_n 3, 1) := by decide +kernel
theorem dX5_prepare_37 : decode cX5_prepare 37 = .ok (.aload_n 1, 1) := by decide +kernel
theorem dX5_prepare_38 : decode cX5_prepare 38 = .ok (.iload_n 3, 1) := by decide +kernel
theorem dX5_prepare_39 : decode cX5_prepare 39 = .ok (.iaload, 1) := by decide +kernel
theorem dX5_prepare_40 : decode cX5_prepare 40 = .ok (.iastore, 1) := by decide +kernel
theorem dX5_prepare_41 : decode cX5_prepare 41 = .ok (.aload_n 0, 1) := by decide +kernel
theorem dX5_prepare_42 : decode cX5_prepare 42 = .ok (.getfield 21, 3) := by decide +kernel
theorem dX5_prepare_45 : decode cX5_prepare 45 = .ok (.iload_n 3, 1) := by decide +kernel
theorem dX5_prepare_46 : decode cX5_prepare 46 = .ok (.lconst 0, 1) := by decide +kernel
theorem dX5_prepare_47 : decode cX5_prepare 47 = .ok (.lastore, 1) := by decide +kernel
theorem dX5_prepare_48 : decode cX5_prepare 48 = .ok (.aload_n 0, 1) := by decide +kernel
theorem dX5_prepare_49 : decode cX5_prepare 49 = .ok (.getfield 25, 3) := by decide +kernel
theorem dX5_prepare_52 : decode cX5_prepare 52 = .ok (.iload_n 3, 1) := by decide +kernel
theorem dX5_prepare_53 : decode cX5_prepare 53 = .ok (.lconst 0, 1) := by decide +kernel
theorem dX5_prepare_54 : decode cX5_prepare 54 = .ok (.lastore, 1) := by decide +kernel
theorem dX5_prepare_55 : decode cX5_prepare 55 = .ok (.iinc 3 1, 3) := by decide +kernel
theorem dX5_prepare_58 : decode cX5_prepare 58 = .ok (.goto (-38), 3) := by decide +kernel
theorem dX5_prepare_61 : decode cX5_prepare 61 = .ok (.return_, 1) := by decide +kernel
theorem dX5_searchFrom_0 : decode cX5_searchFrom 0 = .ok (.aload_n 0, 1) := by decide +kernel
theorem dX5_searchFrom_1 : decode cX5_searchFrom 1 = .ok (.getfield 9, 3) := by decide +kernel
theorem dX5_searchFrom_4 : decode cX5_searchFrom 4 = .ok (.iload_n 1, 1) := by decide +kernel
theorem dX5_searchFrom_5 : decode cX5_searchFrom 5 = .ok (.iconst 0, 1) := by decide +kernel
theorem dX5_searchFrom_6 : decode cX5_searchFrom 6 = .ok (.iastore, 1) := by decide +kernel
theorem dX5_searchFrom_7 : decode cX5_searchFrom 7 = .ok (.aload_n 0, 1) := by decide +kernel
theorem dX5_searchFrom_8 : decode cX5_searchFrom 8 = .ok (.getfield 15, 3) := by decide +kernel
theorem dX5_searchFrom_11 : decode cX5_searchFrom 11 = .ok (.iload_n 1, 1) := by decide +kernel
theorem dX5_searchFrom_12 : decode cX5_searchFrom 12 = .ok (.iconst (-1), 1) := by decide +kernel
theorem dX5_searchFrom_13 : decode cX5_searchFrom 13 = .ok (.iastore, 1) := by decide +kernel
theorem dX5_searchFrom_14 : decode cX5_searchFrom 14 = .ok (.iload_n 1, 1) := by decide +kernel
theorem dX5_searchFrom_15 : decode cX5_searchFrom 15 = .ok (.istore_n 2, 1) := by decide +kernel
theorem dX5_searchFrom_16 : decode cX5_searchFrom 16 = .ok (.iconst 0, 1) := by decide +kernel
theorem dX5_searchFrom_17 : decode cX5_searchFrom 17 = .ok (.istore_n 3, 1) := by decide +kernel
theorem dX5_searchFrom_18 : decode cX5_searchFrom 18 = .ok (.iload_n 3, 1) := by decide +kernel
theorem dX5_searchFrom_19 : decode cX5_searchFrom 19 = .ok (.sipush 462, 3) := by decide +kernel
theorem dX5_searchFrom_22 : decode cX5_searchFrom 22 = .ok (.if_icmp .ge 126, 3) := by decide +kernel
theorem dX5_searchFrom_25 : decode cX5_searchFrom 25 = .ok (.iload_n 2, 1) := by decide +kernel
theorem dX5_searchFrom_26 : decode cX5_searchFrom 26 = .ok (.ifCond .lt 122, 3) := by decide +kernel
theorem dX5_searchFrom_29 : decode cX5_searchFrom 29 = .ok (.aload_n 0, 1) := by decide +kernel
theorem dX5_searchFrom_30 : decode cX5_searchFrom 30 = .ok (.getfield 18, 3) := by decide +kernel
theorem dX5_searchFrom_33 : decode cX5_searchFrom 33 = .ok (.iload_n 2, 1) := by decide +kernel
theorem dX5_searchFrom_34 : decode cX5_searchFrom 34 = .ok (.iaload, 1) := by decide +kernel
theorem dX5_searchFrom_35 : decode cX5_searchFrom 35 = .ok (.ifCond .ne 12, 3) := by decide +kernel
theorem dX5_searchFrom_38 : decode cX5_searchFrom 38 = .ok (.aload_n 0, 1) := by decide +kernel
theorem dX5_searchFrom_39 : decode cX5_searchFrom 39 = .ok (.iload_n 2, 1) := by decide +kernel
theorem dX5_searchFrom_40 : decode cX5_searchFrom 40 = .ok (.invokevirtual 78, 3) := by decide +kernel
theorem dX5_searchFrom_43 : decode cX5_searchFrom 43 = .ok (.istore_n 2, 1) := by decide +kernel
theorem dX5_searchFrom_44 : decode cX5_searchFrom 44 = .ok (.goto 98, 3) := by decide +kernel
theorem dX5_searchFrom_47 : decode cX5_searchFrom 47 = .ok (.aload_n 0, 1) := by decide +kernel
theorem dX5_searchFrom_48 : decode cX5_searchFrom 48 = .ok (.getfield 18, 3) := by decide +kernel
theorem dX5_searchFrom_51 : decode cX5_searchFrom 51 = .ok (.iload_n 2, 1) := by decide +kernel
theorem dX5_searchFrom_52 : decode cX5_searchFrom 52 = .ok (.iaload, 1) := by decide +kernel
theorem dX5_searchFrom_53 : decode cX5_searchFrom 53 = .ok (.invokestatic 81, 3) := by decide +kernel
theorem dX5_searchFrom_56 : decode cX5_searchFrom 56 = .ok (.istore 4, 2) := by decide +kernel
theorem dX5_searchFrom_58 : decode cX5_searchFrom 58 = .ok (.aload_n 0, 1) := by decide +kernel
theorem dX5_searchFrom_59 : decode cX5_searchFrom 59 = .ok (.getfield 18, 3) := by decide +kernel
theorem dX5_searchFrom_62 : decode cX5_searchFrom 62 = .ok (.iload_n 2, 1) := by decide +kernel
theorem dX5_searchFrom_63 : decode cX5_searchFrom 63 = .ok (.dup2, 1) := by decide +kernel
theorem dX5_searchFrom_64 : decode cX5_searchFrom 64 = .ok (.iaload, 1) := by decide +kernel
theorem dX5_searchFrom_65 : decode cX5_searchFrom 65 = .ok (.iconst 1, 1) := by decide +kernel
theorem dX5_searchFrom_66 : decode cX5_searchFrom 66 = .ok (.iload 4, 2) := by decide +kernel
theorem dX5_searchFrom_68 : decode cX5_searchFrom 68 = .ok (.ishl, 1) := by decide +kernel
theorem dX5_searchFrom_69 : decode cX5_searchFrom 69 = .ok (.iconst (-1), 1) := by decide +kernel
theorem dX5_searchFrom_70 : decode cX5_searchFrom 70 = .ok (.ixor, 1) := by decide +kernel
theorem dX5_searchFrom_71 : decode cX5_searchFrom 71 = .ok (.iand, 1) := by decide +kernel
theorem dX5_searchFrom_72 : decode cX5_searchFrom 72 = .ok (.iastore, 1) := by decide +kernel
theorem dX5_searchFrom_73 : decode cX5_searchFrom 73 = .ok (.aload_n 0, 1) := by decide +kernel
theorem dX5_searchFrom_74 : decode cX5_searchFrom 74 = .ok (.getfield 9, 3) := by decide +kernel
theorem dX5_searchFrom_77 : decode cX5_searchFrom 77 = .ok (.iload 4, 2) := by decide +kernel
theorem dX5_searchFrom_79 : decode cX5_searchFrom 79 = .ok (.iaload, 1) := by decide +kernel
theorem dX5_searchFrom_80 : decode cX5_searchFrom 80 = .ok (.ifCond .ge 32, 3) := by decide +kernel
theorem dX5_searchFrom_83 : decode cX5_searchFrom 83 = .ok (.aload_n 0, 1) := by decide +kernel
theorem dX5_searchFrom_84 : decode cX5_searchFrom 84 = .ok (.getfield 9, 3) := by decide +kernel
theorem dX5_searchFrom_87 : decode cX5_searchFrom 87 = .ok (.iload 4, 2) := by decide +kernel
theorem dX5_searchFrom_89 : decode cX5_searchFrom 89 = .ok (.aload_n 0, 1) := by decide +kernel
theorem dX5_searchFrom_90 : decode cX5_searchFrom 90 = .ok (.getfield 9, 3) := by decide +kernel
theorem dX5_searchFrom_93 : decode cX5_searchFrom 93 = .ok (.iload_n 2, 1) := by decide +kernel
theorem dX5_searchFrom_94 : decode cX5_searchFrom 94 = .ok (.iaload, 1) := by decide +kernel
theorem dX5_searchFrom_95 : decode cX5_searchFrom 95 = .ok (.iconst 1, 1) := by decide +kernel
theorem dX5_searchFrom_96 : decode cX5_searchFrom 96 = .ok (.iadd, 1) := by decide +kernel
theorem dX5_searchFrom_97 : decode cX5_searchFrom 97 = .ok (.iastore, 1) := by decide +kernel
theorem dX5_searchFrom_98 : decode cX5_searchFrom 98 = .ok (.aload_n 0, 1) := by decide +kernel
theorem dX5_searchFrom_99 : decode cX5_searchFrom 99 = .ok (.getfield 15, 3) := by decide +kernel
theorem dX5_searchFrom_102 : decode cX5_searchFrom 102 = .ok (.iload 4, 2) := by decide +kernel
theorem dX5_searchFrom_104 : decode cX5_searchFrom 104 = .ok (.iload_n 2, 1) := by decide +kernel
theorem dX5_searchFrom_105 : decode cX5_searchFrom 105 = .ok (.iastore, 1) := by decide +kernel
theorem dX5_searchFrom_106 : decode cX5_searchFrom 106 = .ok (.iload 4, 2) := by decide +kernel
theorem dX5_searchFrom_108 : decode cX5_searchFrom 108 = .ok (.istore_n 2, 1) := by decide +kernel
theorem dX5_searchFrom_109 : decode cX5_searchFrom 109 = .ok (.goto 33, 3) := by decide +kernel
theorem dX5_searchFrom_112 : decode cX5_searchFrom 112 = .ok (.aload_n 0, 1) := by decide +kernel
theorem dX5_searchFrom_113 : decode cX5_searchFrom 113 = .ok (.getfield 9, 3) := by decide +kernel
theorem dX5_searchFrom_116 : decode cX5_searchFrom 116 = .ok (.iload 4, 2) := by decide +kernel
theorem dX5_searchFrom_118 : decode cX5_searchFrom 118 = .ok (.iaload, 1) := by decide +kernel
theorem dX5_searchFrom_119 : decode cX5_searchFrom 119 = .ok (.aload_n 0, 1) := by decide +kernel
theorem dX5_searchFrom_120 : decode cX5_searchFrom 120 = .ok (.getfield 9, 3) := by decide +kernel
theorem dX5_searchFrom_123 : decode cX5_searchFrom 123 = .ok (.iload_n 2, 1) := by decide +kernel
theorem dX5_searchFrom_124 : decode cX5_searchFrom 124 = .ok (.iaload, 1) := by decide +kernel
theorem dX5_searchFrom_125 : decode cX5_searchFrom 125 = .ok (.iconst 1, 1) := by decide +kernel
theorem dX5_searchFrom_126 : decode cX5_searchFrom 126 = .ok (.isub, 1) := by decide +kernel
theorem dX5_searchFrom_127 : decode cX5_searchFrom 127 = .ok (.if_icmp .ge 15, 3) := by decide +kernel
theorem dX5_searchFrom_130 : decode cX5_searchFrom 130 = .ok (.aload_n 0, 1) := by decide +kernel
theorem dX5_searchFrom_131 : decode cX5_searchFrom 131 = .ok (.iload_n 2, 1) := by decide +kernel
theorem dX5_searchFrom_132 : decode cX5_searchFrom 132 = .ok (.aload_n 0, 1) := by decide +kernel
theorem dX5_searchFrom_133 : decode cX5_searchFrom 133 = .ok (.getfield 9, 3) := by decide +kernel
theorem dX5_searchFrom_136 : decode cX5_searchFrom 136 = .ok (.iload 4, 2) := by decide +kernel
theorem dX5_searchFrom_138 : decode cX5_searchFrom 138 = .ok (.iaload, 1) := by decide +kernel
theorem dX5_searchFrom_139 : decode cX5_searchFrom 139 = .ok (.invokevirtual 84, 3) := by decide +kernel
theorem dX5_searchFrom_142 : decode cX5_searchFrom 142 = .ok (.iinc 3 1, 3) := by decide +kernel
theorem dX5_searchFrom_145 : decode cX5_searchFrom 145 = .ok (.goto (-127), 3) := by decide +kernel
theorem dX5_searchFrom_148 : decode cX5_searchFrom 148 = .ok (.return_, 1) := by decide +kernel
theorem dX5_sidesFit_0 : decode cX5_sidesFit 0 = .ok (.iconst 0, 1) := by decide +kernel
theorem dX5_sidesFit_1 : decode cX5_sidesFit 1 = .ok (.istore_n 2, 1) := by decide +kernel
theorem dX5_sidesFit_2 : decode cX5_sidesFit 2 = .ok (.iload_n 2, 1) := by decide +kernel
theorem dX5_sidesFit_3 : decode cX5_sidesFit 3 = .ok (.iload_n 1, 1) := by decide +kernel
theorem dX5_sidesFit_4 : decode cX5_sidesFit 4 = .ok (.if_icmp .ge 97, 3) := by decide +kernel
theorem dX5_sidesFit_7 : decode cX5_sidesFit 7 = .ok (.iconst 0, 1) := by decide +kernel
theorem dX5_sidesFit_8 : decode cX5_sidesFit 8 = .ok (.istore_n 3, 1) := by decide +kernel
theorem dX5_sidesFit_9 : decode cX5_sidesFit 9 = .ok (.iload_n 3, 1) := by decide +kernel
theorem dX5_sidesFit_10 : decode cX5_sidesFit 10 = .ok (.iload_n 2, 1) := by decide +kernel
theorem dX5_sidesFit_11 : decode cX5_sidesFit 11 = .ok (.if_icmp .ge 84, 3) := by decide +kernel
theorem dX5_sidesFit_14 : decode cX5_sidesFit 14 = .ok (.aload_n 0, 1) := by decide +kernel
theorem dX5_sidesFit_15 : decode cX5_sidesFit 15 = .ok (.getfield 31, 3) := by decide +kernel
theorem dX5_sidesFit_18 : decode cX5_sidesFit 18 = .ok (.iload_n 2, 1) := by decide +kernel
theorem dX5_sidesFit_19 : decode cX5_sidesFit 19 = .ok (.laload, 1) := by decide +kernel
theorem dX5_sidesFit_20 : decode cX5_sidesFit 20 = .ok (.aload_n 0, 1) := by decide +kernel
theorem dX5_sidesFit_21 : decode cX5_sidesFit 21 = .ok (.getfield 28, 3) := by decide +kernel
theorem dX5_sidesFit_24 : decode cX5_sidesFit 24 = .ok (.aload_n 0, 1) := by decide +kernel
theorem dX5_sidesFit_25 : decode cX5_sidesFit 25 = .ok (.getfield 34, 3) := by decide +kernel
theorem dX5_sidesFit_28 : decode cX5_sidesFit 28 = .ok (.iload_n 3, 1) := by decide +kernel
theorem dX5_sidesFit_29 : decode cX5_sidesFit 29 = .ok (.iaload, 1) := by decide +kernel
theorem dX5_sidesFit_30 : decode cX5_sidesFit 30 = .ok (.iconst 1, 1) := by decide +kernel
theorem dX5_sidesFit_31 : decode cX5_sidesFit 31 = .ok (.iadd, 1) := by decide +kernel
theorem dX5_sidesFit_32 : decode cX5_sidesFit 32 = .ok (.laload, 1) := by decide +kernel
theorem dX5_sidesFit_33 : decode cX5_sidesFit 33 = .ok (.ldc2_w 92, 3) := by decide +kernel
theorem dX5_sidesFit_36 : decode cX5_sidesFit 36 = .ok (.lxor, 1) := by decide +kernel
theorem dX5_sidesFit_37 : decode cX5_sidesFit 37 = .ok (.land, 1) := by decide +kernel
theorem dX5_sidesFit_38 : decode cX5_sidesFit 38 = .ok (.lstore 4, 2) := by decide +kernel
theorem dX5_sidesFit_40 : decode cX5_sidesFit 40 = .ok (.aload_n 0, 1) := by decide +kernel
theorem dX5_sidesFit_41 : decode cX5_sidesFit 41 = .ok (.getfield 31, 3) := by decide +kernel
theorem dX5_sidesFit_44 : decode cX5_sidesFit 44 = .ok (.iload_n 3, 1) := by decide +kernel
theorem dX5_sidesFit_45 : decode cX5_sidesFit 45 = .ok (.laload, 1) := by decide +kernel
theorem dX5_sidesFit_46 : decode cX5_sidesFit 46 = .ok (.aload_n 0, 1) := by decide +kernel
theorem dX5_sidesFit_47 : decode cX5_sidesFit 47 = .ok (.getfield 28, 3) := by decide +kernel
theorem dX5_sidesFit_50 : decode cX5_sidesFit 50 = .ok (.aload_n 0, 1) := by decide +kernel
theorem dX5_sidesFit_51 : decode cX5_sidesFit 51 = .ok (.getfield 34, 3) := by decide +kernel
theorem dX5_sidesFit_54 : decode cX5_sidesFit 54 = .ok (.iload_n 2, 1) := by decide +kernel
theorem dX5_sidesFit_55 : decode cX5_sidesFit 55 = .ok (.iaload, 1) := by decide +kernel
theorem dX5_sidesFit_56 : decode cX5_sidesFit 56 = .ok (.iconst 1, 1) := by decide +kernel
theorem dX5_sidesFit_57 : decode cX5_sidesFit 57 = .ok (.iadd, 1) := by decide +kernel
theorem dX5_sidesFit_58 : decode cX5_sidesFit 58 = .ok (.laload, 1) := by decide +kernel
theorem dX5_sidesFit_59 : decode cX5_sidesFit 59 = .ok (.ldc2_w 92, 3) := by decide +kernel
theorem dX5_sidesFit_62 : decode cX5_sidesFit 62 = .ok (.lxor, 1) := by decide +kernel
theorem dX5_sidesFit_63 : decode cX5_sidesFit 63 = .ok (.land, 1) := by decide +kernel
theorem dX5_sidesFit_64 : decode cX5_sidesFit 64 = .ok (.lstore 6, 2) := by decide +kernel
theorem dX5_sidesFit_66 : decode cX5_sidesFit 66 = .ok (.lload 4, 2) := by decide +kernel
theorem dX5_sidesFit_68 : decode cX5_sidesFit 68 = .ok (.lload 6, 2) := by decide +kernel
theorem dX5_sidesFit_70 : decode cX5_sidesFit 70 = .ok (.lor, 1) := by decide +kernel
theorem dX5_sidesFit_71 : decode cX5_sidesFit 71 = .ok (.lconst 0, 1) := by decide +kernel
theorem dX5_sidesFit_72 : decode cX5_sidesFit 72 = .ok (.lcmp, 1) := by decide +kernel
theorem dX5_sidesFit_73 : decode cX5_sidesFit 73 = .ok (.ifCond .eq 16, 3) := by decide +kernel
theorem dX5_sidesFit_76 : decode cX5_sidesFit 76 = .ok (.aload_n 0, 1) := by decide +kernel
theorem dX5_sidesFit_77 : decode cX5_sidesFit 77 = .ok (.lload 4, 2) := by decide +kernel
theorem dX5_sidesFit_79 : decode cX5_sidesFit 79 = .ok (.lload 6, 2) := by decide +kernel
theorem dX5_sidesFit_81 : decode cX5_sidesFit 81 = .ok (.invokevirtual 94, 3) := by decide +kernel
theorem dX5_sidesFit_84 : decode cX5_sidesFit 84 = .ok (.ifCond .ne 5, 3) := by decide +kernel
theorem dX5_sidesFit_87 : decode cX5_sidesFit 87 = .ok (.iconst 0, 1) := by decide +kernel
theorem dX5_sidesFit_88 : decode cX5_sidesFit 88 = .ok (.ireturn, 1) := by decide +kernel
theorem dX5_sidesFit_89 : decode cX5_sidesFit 89 = .ok (.iinc 3 1, 3) := by decide +kernel
theorem dX5_sidesFit_92 : decode cX5_sidesFit 92 = .ok (.goto (-83), 3) := by decide +kernel
theorem dX5_sidesFit_95 : decode cX5_sidesFit 95 = .ok (.iinc 2 1, 3) := by decide +kernel
theorem dX5_sidesFit_98 : decode cX5_sidesFit 98 = .ok (.goto (-96), 3) := by decide +kernel
theorem dX5_sidesFit_101 : decode cX5_sidesFit 101 = .ok (.iconst 1, 1) := by decide +kernel
theorem dX5_sidesFit_102 : decode cX5_sidesFit 102 = .ok (.ireturn, 1) := by decide +kernel
theorem dX6_addFace_0 : decode cX6_addFace 0 = .ok (.aload_n 0, 1) := by decide +kernel
theorem dX6_addFace_1 : decode cX6_addFace 1 = .ok (.getfield 9, 3) := by decide +kernel
theorem dX6_addFace_4 : decode cX6_addFace 4 = .ok (.iload_n 1, 1) := by decide +kernel
theorem dX6_addFace_5 : decode cX6_addFace 5 = .ok (.bipush 20, 2) := by decide +kernel
theorem dX6_addFace_7 : decode cX6_addFace 7 = .ok (.imul, 1) := by decide +kernel
theorem dX6_addFace_8 : decode cX6_addFace 8 = .ok (.iload_n 2, 1) := by decide +kernel
theorem dX6_addFace_9 : decode cX6_addFace 9 = .ok (.iadd, 1) := by decide +kernel
theorem dX6_addFace_10 : decode cX6_addFace 10 = .ok (.dup2, 1) := by decide +kernel
theorem dX6_addFace_11 : decode cX6_addFace 11 = .ok (.iaload, 1) := by decide +kernel
theorem dX6_addFace_12 : decode cX6_addFace 12 = .ok (.iconst 1, 1) := by decide +kernel
theorem dX6_addFace_13 : decode cX6_addFace 13 = .ok (.iload_n 3, 1) := by decide +kernel
theorem dX6_addFace_14 : decode cX6_addFace 14 = .ok (.ishl, 1) := by decide +kernel
theorem dX6_addFace_15 : decode cX6_addFace 15 = .ok (.ior, 1) := by decide +kernel
theorem dX6_addFace_16 : decode cX6_addFace 16 = .ok (.iastore, 1) := by decide +kernel
theorem dX6_addFace_17 : decode cX6_addFace 17 = .ok (.aload_n 0, 1) := by decide +kernel
theorem dX6_addFace_18 : decode cX6_addFace 18 = .ok (.getfield 9, 3) := by decide +kernel
theorem dX6_addFace_21 : decode cX6_addFace 21 = .ok (.iload_n 2, 1) := by decide +kernel
theorem dX6_addFace_22 : decode cX6_addFace 22 = .ok (.bipush 20, 2) := by decide +kernel
theorem dX6_addFace_24 : decode cX6_addFace 24 = .ok (.imul, 1) := by decide +kernel
theorem dX6_addFace_25 : decode cX6_addFace 25 = .ok (.iload_n 1, 1) := by decide +kernel
theorem dX6_addFace_26 : decode cX6_addFace 26 = .ok (.iadd, 1) := by decide +kernel
theorem dX6_addFace_27 : decode cX6_addFace 27 = .ok (.dup2, 1) := by decide +kernel
theorem dX6_addFace_28 : decode cX6_addFace 28 = .ok (.iaload, 1) := by decide +kernel
theorem dX6_addFace_29 : decode cX6_addFace 29 = .ok (.iconst 1, 1) := by decide +kernel
theorem dX6_addFace_30 : decode cX6_addFace 30 = .ok (.iload_n 3, 1) := by decide +kernel
theorem dX6_addFace_31 : decode cX6_addFace 31 = .ok (.ishl, 1) := by decide +kernel
theorem dX6_addFace_32 : decode cX6_addFace 32 = .ok (.ior, 1) := by decide +kernel
theorem dX6_addFace_33 : decode cX6_addFace 33 = .ok (.iastore, 1) := by decide +kernel
theorem dX6_addFace_34 : decode cX6_addFace 34 = .ok (.return_, 1) := by decide +kernel
theorem dX6_behind_0 : decode cX6_behind 0 = .ok (.iload_n 2, 1) := by decide +kernel
theorem dX6_behind_1 : decode cX6_behind 1 = .ok (.ifCond .lt 23, 3) := by decide +kernel
theorem dX6_behind_4 : decode cX6_behind 4 = .ok (.iload_n 2, 1) := by decide +kernel
theorem dX6_behind_5 : decode cX6_behind 5 = .ok (.bipush 20, 2) := by decide +kernel
theorem dX6_behind_7 : decode cX6_behind 7 = .ok (.if_icmp .ge 17, 3) := by decide +kernel
theorem dX6_behind_10 : decode cX6_behind 10 = .ok (.aload_n 0, 1) := by decide +kernel
theorem dX6_behind_11 : decode cX6_behind 11 = .ok (.getfield 15, 3) := by decide +kernel
theorem dX6_behind_14 : decode cX6_behind 14 = .ok (.iload_n 1, 1) := by decide +kernel
theorem dX6_behind_15 : decode cX6_behind 15 = .ok (.bipush 20, 2) := by decide +kernel
theorem dX6_behind_17 : decode cX6_behind 17 = .ok (.imul, 1) := by decide +kernel
theorem dX6_behind_18 : decode cX6_behind 18 = .ok (.iload_n 2, 1) := by decide +kernel
theorem dX6_behind_19 : decode cX6_behind 19 = .ok (.iadd, 1) := by decide +kernel
theorem dX6_behind_20 : decode cX6_behind 20 = .ok (.iaload, 1) := by decide +kernel
theorem dX6_behind_21 : decode cX6_behind 21 = .ok (.goto 4, 3) := by decide +kernel
theorem dX6_behind_24 : decode cX6_behind 24 = .ok (.iconst (-1), 1) := by decide +kernel
theorem dX6_behind_25 : decode cX6_behind 25 = .ok (.ireturn, 1) := by decide +kernel
theorem dX6_findFaces_29 : decode cX6_findFaces 29 = .ok (.iload_n 2, 1) := by decide +kernel
theorem dX6_findFaces_30 : decode cX6_findFaces 30 = .ok (.iconst 1, 1) := by decide +kernel
theorem dX6_findFaces_31 : decode cX6_findFaces 31 = .ok (.iadd, 1) := by decide +kernel
theorem dX6_findFaces_32 : decode cX6_findFaces 32 = .ok (.istore_n 3, 1) := by decide +kernel
theorem dX6_findFaces_33 : decode cX6_findFaces 33 = .ok (.iload_n 3, 1) := by decide +kernel
theorem dX6_findFaces_34 : decode cX6_findFaces 34 = .ok (.aload_n 0, 1) := by decide +kernel
theorem dX6_findFaces_35 : decode cX6_findFaces 35 = .ok (.getfield 18, 3) := by decide +kernel
theorem dX6_findFaces_38 : decode cX6_findFaces 38 = .ok (.getfield 41, 3) := by decide +kernel
theorem dX6_findFaces_41 : decode cX6_findFaces 41 = .ok (.if_icmp .ge 100, 3) := by decide +kernel
theorem dX6_findFaces_44 : decode cX6_findFaces 44 = .ok (.aload_n 1, 1) := by decide +kernel
theorem dX6_findFaces_45 : decode cX6_findFaces 45 = .ok (.iload_n 2, 1) := by decide +kernel
theorem dX6_findFaces_46 : decode cX6_findFaces 46 = .ok (.iaload, 1) := by decide +kernel
theorem dX6_findFaces_47 : decode cX6_findFaces 47 = .ok (.iload_n 3, 1) := by decide +kernel
theorem dX6_findFaces_48 : decode cX6_findFaces 48 = .ok (.invokestatic 45, 3) := by decide +kernel
theorem dX6_findFaces_51 : decode cX6_findFaces 51 = .ok (.ifCond .eq 13, 3) := by decide +kernel
theorem dX6_findFaces_54 : decode cX6_findFaces 54 = .ok (.aload_n 1, 1) := by decide +kernel
theorem dX6_findFaces_55 : decode cX6_findFaces 55 = .ok (.iload_n 2, 1) := by decide +kernel
theorem dX6_findFaces_56 : decode cX6_findFaces 56 = .ok (.iaload, 1) := by decide +kernel
theorem dX6_findFaces_57 : decode cX6_findFaces 57 = .ok (.aload_n 1, 1) := by decide +kernel
theorem dX6_findFaces_58 : decode cX6_findFaces 58 = .ok (.iload_n 3, 1) := by decide +kernel
theorem dX6_findFaces_59 : decode cX6_findFaces 59 = .ok (.iaload, 1) := by decide +kernel
theorem dX6_findFaces_60 : decode cX6_findFaces 60 = .ok (.iand, 1) := by decide +kernel
theorem dX6_findFaces_61 : decode cX6_findFaces 61 = .ok (.goto 4, 3) := by decide +kernel
theorem dX6_findFaces_64 : decode cX6_findFaces 64 = .ok (.iconst 0, 1) := by decide +kernel
theorem dX6_findFaces_65 : decode cX6_findFaces 65 = .ok (.istore 4, 2) := by decide +kernel
theorem dX6_findFaces_67 : decode cX6_findFaces 67 = .ok (.iload_n 3, 1) := by decide +kernel
theorem dX6_findFaces_68 : decode cX6_findFaces 68 = .ok (.iconst 1, 1) := by decide +kernel
theorem dX6_findFaces_69 : decode cX6_findFaces 69 = .ok (.iadd, 1) := by decide +kernel
theorem dX6_findFaces_70 : decode cX6_findFaces 70 = .ok (.istore 5, 2) := by decide +kernel
theorem dX6_findFaces_72 : decode cX6_findFaces 72 = .ok (.iload 5, 2) := by decide +kernel
theorem dX6_findFaces_74 : decode cX6_findFaces 74 = .ok (.aload_n 0, 1) := by decide +kernel
theorem dX6_findFaces_75 : decode cX6_findFaces 75 = .ok (.getfield 18, 3) := by decide +kernel
theorem dX6_findFaces_78 : decode cX6_findFaces 78 = .ok (.getfield 41, 3) := by decide +kernel
theorem dX6_findFaces_81 : decode cX6_findFaces 81 = .ok (.if_icmp .ge 54, 3) := by decide +kernel
theorem dX6_findFaces_84 : decode cX6_findFaces 84 = .ok (.iload 4, 2) := by decide +kernel
theorem dX6_findFaces_86 : decode cX6_findFaces 86 = .ok (.iload 5, 2) := by decide +kernel
theorem dX6_findFaces_88 : decode cX6_findFaces 88 = .ok (.invokestatic 45, 3) := by decide +kernel
theorem dX6_findFaces_91 : decode cX6_findFaces 91 = .ok (.ifCond .eq 38, 3) := by decide +kernel
theorem dX6_findFaces_94 : decode cX6_findFaces 94 = .ok (.aload_n 0, 1) := by decide +kernel
theorem dX6_findFaces_95 : decode cX6_findFaces 95 = .ok (.iload_n 2, 1) := by decide +kernel
theorem dX6_findFaces_96 : decode cX6_findFaces 96 = .ok (.iload_n 3, 1) := by decide +kernel
theorem dX6_findFaces_97 : decode cX6_findFaces 97 = .ok (.iload 5, 2) := by decide +kernel
theorem dX6_findFaces_99 : decode cX6_findFaces 99 = .ok (.invokevirtual 49, 3) := by decide +kernel
theorem dX6_findFaces_102 : decode cX6_findFaces 102 = .ok (.ifCond .eq 27, 3) := by decide +kernel
theorem dX6_findFaces_105 : decode cX6_findFaces 105 = .ok (.aload_n 0, 1) := by decide +kernel
theorem dX6_findFaces_106 : decode cX6_findFaces 106 = .ok (.iload_n 2, 1) := by decide +kernel
theorem dX6_findFaces_107 : decode cX6_findFaces 107 = .ok (.iload_n 3, 1) := by decide +kernel
theorem dX6_findFaces_108 : decode cX6_findFaces 108 = .ok (.iload 5, 2) := by decide +kernel
theorem dX6_findFaces_110 : decode cX6_findFaces 110 = .ok (.invokevirtual 53, 3) := by decide +kernel
theorem dX6_findFaces_113 : decode cX6_findFaces 113 = .ok (.aload_n 0, 1) := by decide +kernel
theorem dX6_findFaces_114 : decode cX6_findFaces 114 = .ok (.iload_n 3, 1) := by decide +kernel
theorem dX6_findFaces_115 : decode cX6_findFaces 115 = .ok (.iload 5, 2) := by decide +kernel
theorem dX6_findFaces_117 : decode cX6_findFaces 117 = .ok (.iload_n 2, 1) := by decide +kernel
theorem dX6_findFaces_118 : decode cX6_findFaces 118 = .ok (.invokevirtual 53, 3) := by decide +kernel
theorem dX6_findFaces_121 : decode cX6_findFaces 121 = .ok (.aload_n 0, 1) := by decide +kernel
theorem dX6_findFaces_122 : decode cX6_findFaces 122 = .ok (.iload 5, 2) := by decide +kernel
theorem dX6_findFaces_124 : decode cX6_findFaces 124 = .ok (.iload_n 2, 1) := by decide +kernel
theorem dX6_findFaces_125 : decode cX6_findFaces 125 = .ok (.iload_n 3, 1) := by decide +kernel
theorem dX6_findFaces_126 : decode cX6_findFaces 126 = .ok (.invokevirtual 53, 3) := by decide +kernel
theorem dX6_findFaces_129 : decode cX6_findFaces 129 = .ok (.iinc 5 1, 3) := by decide +kernel
theorem dX6_findFaces_132 : decode cX6_findFaces 132 = .ok (.goto (-60), 3) := by decide +kernel
theorem dX6_findFaces_135 : decode cX6_findFaces 135 = .ok (.iinc 3 1, 3) := by decide +kernel
theorem dX6_findFaces_138 : decode cX6_findFaces 138 = .ok (.goto (-105), 3) := by decide +kernel
theorem dX6_findFaces_141 : decode cX6_findFaces 141 = .ok (.iinc 2 1, 3) := by decide +kernel
theorem dX6_findFaces_144 : decode cX6_findFaces 144 = .ok (.goto (-126), 3) := by decide +kernel
theorem dX6_firstKnown_0 : decode cX6_firstKnown 0 = .ok (.iconst 0, 1) := by decide +kernel
theorem dX6_firstKnown_1 : decode cX6_firstKnown 1 = .ok (.istore_n 2, 1) := by decide +kernel
theorem dX6_firstKnown_2 : decode cX6_firstKnown 2 = .ok (.iload_n 2, 1) := by decide +kernel
theorem dX6_firstKnown_3 : decode cX6_firstKnown 3 = .ok (.aload_n 0, 1) := by decide +kernel
theorem dX6_firstKnown_4 : decode cX6_firstKnown 4 = .ok (.getfield 18, 3) := by decide +kernel
theorem dX6_firstKnown_7 : decode cX6_firstKnown 7 = .ok (.getfield 41, 3) := by decide +kernel
theorem dX6_firstKnown_10 : decode cX6_firstKnown 10 = .ok (.if_icmp .ge 20, 3) := by decide +kernel
theorem dX6_firstKnown_13 : decode cX6_firstKnown 13 = .ok (.aload_n 0, 1) := by decide +kernel
theorem dX6_firstKnown_14 : decode cX6_firstKnown 14 = .ok (.iload_n 1, 1) := by decide +kernel
theorem dX6_firstKnown_15 : decode cX6_firstKnown 15 = .ok (.iload_n 2, 1) := by decide +kernel
theorem dX6_firstKnown_16 : decode cX6_firstKnown 16 = .ok (.invokevirtual 31, 3) := by decide +kernel
theorem dX6_firstKnown_19 : decode cX6_firstKnown 19 = .ok (.ifCond .lt 5, 3) := by decide +kernel
theorem dX6_firstKnown_22 : decode cX6_firstKnown 22 = .ok (.iload_n 2, 1) := by decide +kernel
theorem dX6_firstKnown_23 : decode cX6_firstKnown 23 = .ok (.ireturn, 1) := by decide +kernel
theorem dX6_firstKnown_24 : decode cX6_firstKnown 24 = .ok (.iinc 2 1, 3) := by decide +kernel
theorem dX6_firstKnown_27 : decode cX6_firstKnown 27 = .ok (.goto (-25), 3) := by decide +kernel
theorem dX6_firstKnown_30 : decode cX6_firstKnown 30 = .ok (.iconst 0, 1) := by decide +kernel
theorem dX6_firstKnown_31 : decode cX6_firstKnown 31 = .ok (.ireturn, 1) := by decide +kernel
theorem dX6_goRound_0 : decode cX6_goRound 0 = .ok (.aload_n 0, 1) := by decide +kernel
theorem dX6_goRound_1 : decode cX6_goRound 1 = .ok (.iload_n 1, 1) := by decide +kernel
theorem dX6_goRound_2 : decode cX6_goRound 2 = .ok (.invokevirtual 77, 3) := by decide +kernel
theorem dX6_goRound_5 : decode cX6_goRound 5 = .ok (.istore_n 2, 1) := by decide +kernel
theorem dX6_goRound_6 : decode cX6_goRound 6 = .ok (.aload_n 0, 1) := by decide +kernel
theorem dX6_goRound_7 : decode cX6_goRound 7 = .ok (.iload_n 1, 1) := by decide +kernel
theorem dX6_goRound_8 : decode cX6_goRound 8 = .ok (.iload_n 2, 1) := by decide +kernel
theorem dX6_goRound_9 : decode cX6_goRound 9 = .ok (.invokevirtual 31, 3) := by decide +kernel
theorem dX6_goRound_12 : decode cX6_goRound 12 = .ok (.istore_n 3, 1) := by decide +kernel
theorem dX6_goRound_13 : decode cX6_goRound 13 = .ok (.aload_n 0, 1) := by decide +kernel
theorem dX6_goRound_14 : decode cX6_goRound 14 = .ok (.getfield 18, 3) := by decide +kernel
theorem dX6_goRound_17 : decode cX6_goRound 17 = .ok (.getfield 22, 3) := by decide +kernel
theorem dX6_goRound_20 : decode cX6_goRound 20 = .ok (.iload_n 1, 1) := by decide +kernel
theorem dX6_goRound_21 : decode cX6_goRound 21 = .ok (.iaload, 1) := by decide +kernel
theorem dX6_goRound_22 : decode cX6_goRound 22 = .ok (.invokestatic 80, 3) := by decide +kernel
theorem dX6_goRound_25 : decode cX6_goRound 25 = .ok (.istore 4, 2) := by decide +kernel
theorem dX6_goRound_27 : decode cX6_goRound 27 = .ok (.iconst 0, 1) := by decide +kernel
theorem dX6_goRound_28 : decode cX6_goRound 28 = .ok (.istore 5, 2) := by decide +kernel
theorem dX6_goRound_30 : decode cX6_goRound 30 = .ok (.iload 5, 2) := by decide +kernel
theorem dX6_goRound_32 : decode cX6_goRound 32 = .ok (.iload 4, 2) := by decide +kernel
theorem dX6_goRound_34 : decode cX6_goRound 34 = .ok (.if_icmp .ge 56, 3) := by decide +kernel
theorem dX6_goRound_37 : decode cX6_goRound 37 = .ok (.iload_n 3, 1) := by decide +kernel
theorem dX6_goRound_38 : decode cX6_goRound 38 = .ok (.ifCond .lt 52, 3) := by decide +kernel
theorem dX6_goRound_41 : decode cX6_goRound 41 = .ok (.aload_n 0, 1) := by decide +kernel
theorem dX6_goRound_42 : decode cX6_goRound 42 = .ok (.iload_n 1, 1) := by decide +kernel
theorem dX6_goRound_43 : decode cX6_goRound 43 = .ok (.iload_n 3, 1) := by decide +kernel
theorem dX6_goRound_44 : decode cX6_goRound 44 = .ok (.invokevirtual 67, 3) := by decide +kernel
theorem dX6_goRound_47 : decode cX6_goRound 47 = .ok (.iconst 1, 1) := by decide +kernel
theorem dX6_goRound_48 : decode cX6_goRound 48 = .ok (.iload_n 2, 1) := by decide +kernel
theorem dX6_goRound_49 : decode cX6_goRound 49 = .ok (.ishl, 1) := by decide +kernel
theorem dX6_goRound_50 : decode cX6_goRound 50 = .ok (.iconst (-1), 1) := by decide +kernel
theorem dX6_goRound_51 : decode cX6_goRound 51 = .ok (.ixor, 1) := by decide +kernel
theorem dX6_goRound_52 : decode cX6_goRound 52 = .ok (.iand, 1) := by decide +kernel
theorem dX6_goRound_53 : decode cX6_goRound 53 = .ok (.invokestatic 27, 3) := by decide +kernel
theorem dX6_goRound_56 : decode cX6_goRound 56 = .ok (.istore 6, 2) := by decide +kernel
theorem dX6_goRound_58 : decode cX6_goRound 58 = .ok (.iload 6, 2) := by decide +kernel
theorem dX6_goRound_60 : decode cX6_goRound 60 = .ok (.aload_n 0, 1) := by decide +kernel
theorem dX6_goRound_61 : decode cX6_goRound 61 = .ok (.getfield 18, 3) := by decide +kernel
theorem dX6_goRound_64 : decode cX6_goRound 64 = .ok (.getfield 41, 3) := by decide +kernel
theorem dX6_goRound_67 : decode cX6_goRound 67 = .ok (.if_icmp .lt 4, 3) := by decide +kernel
theorem dX6_goRound_70 : decode cX6_goRound 70 = .ok (.return_, 1) := by decide +kernel
theorem dX6_goRound_71 : decode cX6_goRound 71 = .ok (.aload_n 0, 1) := by decide +kernel
theorem dX6_goRound_72 : decode cX6_goRound 72 = .ok (.iload_n 1, 1) := by decide +kernel
theorem dX6_goRound_73 : decode cX6_goRound 73 = .ok (.iload_n 3, 1) := by decide +kernel
theorem dX6_goRound_74 : decode cX6_goRound 74 = .ok (.iload 6, 2) := by decide +kernel
theorem dX6_goRound_76 : decode cX6_goRound 76 = .ok (.invokevirtual 70, 3) := by decide +kernel
theorem dX6_goRound_79 : decode cX6_goRound 79 = .ok (.iload_n 3, 1) := by decide +kernel
theorem dX6_goRound_80 : decode cX6_goRound 80 = .ok (.istore_n 2, 1) := by decide +kernel
theorem dX6_goRound_81 : decode cX6_goRound 81 = .ok (.iload 6, 2) := by decide +kernel
theorem dX6_goRound_83 : decode cX6_goRound 83 = .ok (.istore_n 3, 1) := by decide +kernel
theorem dX6_goRound_84 : decode cX6_goRound 84 = .ok (.iinc 5 1, 3) := by decide +kernel
theorem dX6_goRound_87 : decode cX6_goRound 87 = .ok (.goto (-57), 3) := by decide +kernel
theorem dX6_goRound_90 : decode cX6_goRound 90 = .ok (.return_, 1) := by decide +kernel
theorem dX6_isFace_0 : decode cX6_isFace 0 = .ok (.iconst 1, 1) := by decide +kernel
theorem dX6_isFace_1 : decode cX6_isFace 1 = .ok (.aload_n 0, 1) := by decide +kernel
theorem dX6_isFace_2 : decode cX6_isFace 2 = .ok (.getfield 18, 3) := by decide +kernel
theorem dX6_isFace_5 : decode cX6_isFace 5 = .ok (.getfield 41, 3) := by decide +kernel
theorem dX6_isFace_8 : decode cX6_isFace 8 = .ok (.ishl, 1) := by decide +kernel
theorem dX6_isFace_9 : decode cX6_isFace 9 = .ok (.iconst 1, 1) := by decide +kernel
theorem dX6_isFace_10 : decode cX6_isFace 10 = .ok (.isub, 1) := by decide +kernel
theorem dX6_isFace_11 : decode cX6_isFace 11 = .ok (.iconst 1, 1) := by decide +kernel
theorem dX6_isFace_12 : decode cX6_isFace 12 = .ok (.iload_n 1, 1) := by decide +kernel
theorem dX6_isFace_13 : decode cX6_isFace 13 = .ok (.ishl, 1) := by decide +kernel
theorem dX6_isFace_14 : decode cX6_isFace 14 = .ok (.iconst 1, 1) := by decide +kernel
theorem dX6_isFace_15 : decode cX6_isFace 15 = .ok (.iload_n 2, 1) := by decide +kernel
theorem dX6_isFace_16 : decode cX6_isFace 16 = .ok (.ishl, 1) := by decide +kernel
theorem dX6_isFace_17 : decode cX6_isFace 17 = .ok (.ior, 1) := by decide +kernel
theorem dX6_isFace_18 : decode cX6_isFace 18 = .ok (.iconst 1, 1) := by decide +kernel
theorem dX6_isFace_19 : decode cX6_isFace 19 = .ok (.iload_n 3, 1) := by decide +kernel
theorem dX6_isFace_20 : decode cX6_isFace 20 = .ok (.ishl, 1) := by decide +kernel
theorem dX6_isFace_21 : decode cX6_isFace 21 = .ok (.ior, 1) := by decide +kernel
theorem dX6_isFace_22 : decode cX6_isFace 22 = .ok (.iconst (-1), 1) := by decide +kernel
theorem dX6_isFace_23 : decode cX6_isFace 23 = .ok (.ixor, 1) := by decide +kernel
theorem dX6_isFace_24 : decode cX6_isFace 24 = .ok (.iand, 1) := by decide +kernel
theorem dX6_isFace_25 : decode cX6_isFace 25 = .ok (.istore 4, 2) := by decide +kernel
theorem dX6_isFace_27 : decode cX6_isFace 27 = .ok (.iload 4, 2) := by decide +kernel
theorem dX6_isFace_29 : decode cX6_isFace 29 = .ok (.ifCond .eq 25, 3) := by decide +kernel
theorem dX6_isFace_32 : decode cX6_isFace 32 = .ok (.aload_n 0, 1) := by decide +kernel
theorem dX6_isFace_33 : decode cX6_isFace 33 = .ok (.getfield 18, 3) := by decide +kernel
theorem dX6_isFace_36 : decode cX6_isFace 36 = .ok (.getfield 22, 3) := by decide +kernel
theorem dX6_isFace_39 : decode cX6_isFace 39 = .ok (.iload 4, 2) := by decide +kernel
theorem dX6_isFace_41 : decode cX6_isFace 41 = .ok (.invokestatic 27, 3) := by decide +kernel
theorem dX6_isFace_44 : decode cX6_isFace 44 = .ok (.iload 4, 2) := by decide +kernel
theorem dX6_isFace_46 : decode cX6_isFace 46 = .ok (.invokestatic 63, 3) := by decide +kernel
theorem dX6_isFace_49 : decode cX6_isFace 49 = .ok (.iload 4, 2) := by decide +kernel
theorem dX6_isFace_51 : decode cX6_isFace 51 = .ok (.if_icmp .ne 7, 3) := by decide +kernel
theorem dX6_isFace_54 : decode cX6_isFace 54 = .ok (.iconst 1, 1) := by decide +kernel
theorem dX6_isFace_55 : decode cX6_isFace 55 = .ok (.goto 4, 3) := by decide +kernel
theorem dX6_isFace_58 : decode cX6_isFace 58 = .ok (.iconst 0, 1) := by decide +kernel
theorem dX6_isFace_59 : decode cX6_isFace 59 = .ok (.ireturn, 1) := by decide +kernel
theorem dX6_lay_18 : decode cX6_lay 18 = .ok (.aload_n 0, 1) := by decide +kernel
theorem dX6_lay_19 : decode cX6_lay 19 = .ok (.invokevirtual 60, 3) := by decide +kernel
theorem dX6_layByThirds_0 : decode cX6_layByThirds 0 = .ok (.aload_n 0, 1) := by decide +kernel
theorem dX6_layByThirds_1 : decode cX6_layByThirds 1 = .ok (.getfield 15, 3) := by decide +kernel
theorem dX6_layByThirds_4 : decode cX6_layByThirds 4 = .ok (.iconst (-1), 1) := by decide +kernel
theorem dX6_layByThirds_5 : decode cX6_layByThirds 5 = .ok (.invokestatic 35, 3) := by decide +kernel
theorem dX6_layByThirds_8 : decode cX6_layByThirds 8 = .ok (.aload_n 0, 1) := by decide +kernel
theorem dX6_layByThirds_9 : decode cX6_layByThirds 9 = .ok (.getfield 18, 3) := by decide +kernel
theorem dX6_layByThirds_12 : decode cX6_layByThirds 12 = .ok (.getfield 22, 3) := by decide +kernel
theorem dX6_layByThirds_15 : decode cX6_layByThirds 15 = .ok (.iconst 0, 1) := by decide +kernel
theorem dX6_layByThirds_16 : decode cX6_layByThirds 16 = .ok (.iaload, 1) := by decide +kernel
theorem dX6_layByThirds_17 : decode cX6_layByThirds 17 = .ok (.invokestatic 27, 3) := by decide +kernel
theorem dX6_layByThirds_20 : decode cX6_layByThirds 20 = .ok (.istore_n 1, 1) := by decide +kernel
theorem dX6_layByThirds_21 : decode cX6_layByThirds 21 = .ok (.iload_n 1, 1) := by decide +kernel
theorem dX6_layByThirds_22 : decode cX6_layByThirds 22 = .ok (.aload_n 0, 1) := by decide +kernel
theorem dX6_layByThirds_23 : decode cX6_layByThirds 23 = .ok (.getfield 18, 3) := by decide +kernel
theorem dX6_layByThirds_26 : decode cX6_layByThirds 26 = .ok (.getfield 41, 3) := by decide +kernel
theorem dX6_layByThirds_29 : decode cX6_layByThirds 29 = .ok (.if_icmp .ge 12, 3) := by decide +kernel
theorem dX6_layByThirds_32 : decode cX6_layByThirds 32 = .ok (.aload_n 0, 1) := by decide +kernel
theorem dX6_layByThirds_33 : decode cX6_layByThirds 33 = .ok (.iconst 0, 1) := by decide +kernel
theorem dX6_layByThirds_34 : decode cX6_layByThirds 34 = .ok (.iload_n 1, 1) := by decide +kernel
theorem dX6_layByThirds_35 : decode cX6_layByThirds 35 = .ok (.invokevirtual 67, 3) := by decide +kernel
theorem dX6_layByThirds_38 : decode cX6_layByThirds 38 = .ok (.ifCond .ne 4, 3) := by decide +kernel
theorem dX6_layByThirds_41 : decode cX6_layByThirds 41 = .ok (.return_, 1) := by decide +kernel
theorem dX6_layByThirds_42 : decode cX6_layByThirds 42 = .ok (.aload_n 0, 1) := by decide +kernel
theorem dX6_layByThirds_43 : decode cX6_layByThirds 43 = .ok (.iconst 0, 1) := by decide +kernel
theorem dX6_layByThirds_44 : decode cX6_layByThirds 44 = .ok (.iload_n 1, 1) := by decide +kernel
theorem dX6_layByThirds_45 : decode cX6_layByThirds 45 = .ok (.aload_n 0, 1) := by decide +kernel
theorem dX6_layByThirds_46 : decode cX6_layByThirds 46 = .ok (.iconst 0, 1) := by decide +kernel
theorem dX6_layByThirds_47 : decode cX6_layByThirds 47 = .ok (.iload_n 1, 1) := by decide +kernel
theorem dX6_layByThirds_48 : decode cX6_layByThirds 48 = .ok (.invokevirtual 67, 3) := by decide +kernel
theorem dX6_layByThirds_51 : decode cX6_layByThirds 51 = .ok (.invokestatic 27, 3) := by decide +kernel
theorem dX6_layByThirds_54 : decode cX6_layByThirds 54 = .ok (.invokevirtual 70, 3) := by decide +kernel
theorem dX6_layByThirds_57 : decode cX6_layByThirds 57 = .ok (.iconst 1, 1) := by decide +kernel
theorem dX6_layByThirds_58 : decode cX6_layByThirds 58 = .ok (.istore_n 2, 1) := by decide +kernel
theorem dX6_layByThirds_59 : decode cX6_layByThirds 59 = .ok (.iconst 0, 1) := by decide +kernel
theorem dX6_layByThirds_60 : decode cX6_layByThirds 60 = .ok (.istore_n 3, 1) := by decide +kernel
theorem dX6_layByThirds_61 : decode cX6_layByThirds 61 = .ok (.iconst 0, 1) := by decide +kernel
theorem dX6_layByThirds_62 : decode cX6_layByThirds 62 = .ok (.istore 4, 2) := by decide +kernel
theorem dX6_layByThirds_64 : decode cX6_layByThirds 64 = .ok (.iload 4, 2) := by decide +kernel
theorem dX6_layByThirds_66 : decode cX6_layByThirds 66 = .ok (.aload_n 0, 1) := by decide +kernel
theorem dX6_layByThirds_67 : decode cX6_layByThirds 67 = .ok (.getfield 18, 3) := by decide +kernel
theorem dX6_layByThirds_70 : decode cX6_layByThirds 70 = .ok (.getfield 41, 3) := by decide +kernel
theorem dX6_layByThirds_73 : decode cX6_layByThirds 73 = .ok (.if_icmp .ge 53, 3) := by decide +kernel
theorem dX6_layByThirds_76 : decode cX6_layByThirds 76 = .ok (.iload_n 2, 1) := by decide +kernel
theorem dX6_layByThirds_77 : decode cX6_layByThirds 77 = .ok (.iload_n 3, 1) := by decide +kernel
theorem dX6_layByThirds_78 : decode cX6_layByThirds 78 = .ok (.iconst (-1), 1) := by decide +kernel
theorem dX6_layByThirds_79 : decode cX6_layByThirds 79 = .ok (.ixor, 1) := by decide +kernel
theorem dX6_layByThirds_80 : decode cX6_layByThirds 80 = .ok (.iand, 1) := by decide +kernel
theorem dX6_layByThirds_81 : decode cX6_layByThirds 81 = .ok (.ifCond .eq 45, 3) := by decide +kernel
theorem dX6_layByThirds_84 : decode cX6_layByThirds 84 = .ok (.iload_n 2, 1) := by decide +kernel
theorem dX6_layByThirds_85 : decode cX6_layByThirds 85 = .ok (.iload_n 3, 1) := by decide +kernel
theorem dX6_layByThirds_86 : decode cX6_layByThirds 86 = .ok (.iconst (-1), 1) := by decide +kernel
theorem dX6_layByThirds_87 : decode cX6_layByThirds 87 = .ok (.ixor, 1) := by decide +kernel
theorem dX6_layByThirds_88 : decode cX6_layByThirds 88 = .ok (.iand, 1) := by decide +kernel
theorem dX6_layByThirds_89 : decode cX6_layByThirds 89 = .ok (.invokestatic 27, 3) := by decide +kernel
theorem dX6_layByThirds_92 : decode cX6_layByThirds 92 = .ok (.istore 5, 2) := by decide +kernel
theorem dX6_layByThirds_94 : decode cX6_layByThirds 94 = .ok (.aload_n 0, 1) := by decide +kernel
theorem dX6_layByThirds_95 : decode cX6_layByThirds 95 = .ok (.iload 5, 2) := by decide +kernel
theorem dX6_layByThirds_97 : decode cX6_layByThirds 97 = .ok (.invokevirtual 73, 3) := by decide +kernel
theorem dX6_layByThirds_100 : decode cX6_layByThirds 100 = .ok (.iload_n 3, 1) := by decide +kernel
theorem dX6_layByThirds_101 : decode cX6_layByThirds 101 = .ok (.iconst 1, 1) := by decide +kernel
theorem dX6_layByThirds_102 : decode cX6_layByThirds 102 = .ok (.iload 5, 2) := by decide +kernel
theorem dX6_layByThirds_104 : decode cX6_layByThirds 104 = .ok (.ishl, 1) := by decide +kernel
theorem dX6_layByThirds_105 : decode cX6_layByThirds 105 = .ok (.ior, 1) := by decide +kernel
theorem dX6_layByThirds_106 : decode cX6_layByThirds 106 = .ok (.istore_n 3, 1) := by decide +kernel
theorem dX6_layByThirds_107 : decode cX6_layByThirds 107 = .ok (.iload_n 2, 1) := by decide +kernel
theorem dX6_layByThirds_108 : decode cX6_layByThirds 108 = .ok (.aload_n 0, 1) := by decide +kernel
theorem dX6_layByThirds_109 : decode cX6_layByThirds 109 = .ok (.getfield 18, 3) := by decide +kernel
theorem dX6_layByThirds_112 : decode cX6_layByThirds 112 = .ok (.getfield 22, 3) := by decide +kernel
theorem dX6_layByThirds_115 : decode cX6_layByThirds 115 = .ok (.iload 5, 2) := by decide +kernel
theorem dX6_layByThirds_117 : decode cX6_layByThirds 117 = .ok (.iaload, 1) := by decide +kernel
theorem dX6_layByThirds_118 : decode cX6_layByThirds 118 = .ok (.ior, 1) := by decide +kernel
theorem dX6_layByThirds_119 : decode cX6_layByThirds 119 = .ok (.istore_n 2, 1) := by decide +kernel
theorem dX6_layByThirds_120 : decode cX6_layByThirds 120 = .ok (.iinc 4 1, 3) := by decide +kernel
theorem dX6_layByThirds_123 : decode cX6_layByThirds 123 = .ok (.goto (-59), 3) := by decide +kernel
theorem dX6_layByThirds_126 : decode cX6_layByThirds 126 = .ok (.return_, 1) := by decide +kernel
theorem dX6_layRising_13 : decode cX6_layRising 13 = .ok (.aload_n 0, 1) := by decide +kernel
theorem dX6_layRising_14 : decode cX6_layRising 14 = .ok (.getfield 18, 3) := by decide +kernel
theorem dX6_layRising_17 : decode cX6_layRising 17 = .ok (.getfield 22, 3) := by decide +kernel
theorem dX6_layRising_20 : decode cX6_layRising 20 = .ok (.iload_n 1, 1) := by decide +kernel
theorem dX6_layRising_21 : decode cX6_layRising 21 = .ok (.iaload, 1) := by decide +kernel
theorem dX6_layRising_22 : decode cX6_layRising 22 = .ok (.istore_n 2, 1) := by decide +kernel
theorem dX6_layRising_23 : decode cX6_layRising 23 = .ok (.iconst 0, 1) := by decide +kernel
theorem dX6_layRising_24 : decode cX6_layRising 24 = .ok (.istore_n 3, 1) := by decide +kernel
theorem dX6_layRising_25 : decode cX6_layRising 25 = .ok (.iload_n 3, 1) := by decide +kernel
theorem dX6_layRising_26 : decode cX6_layRising 26 = .ok (.aload_n 0, 1) := by decide +kernel
theorem dX6_layRising_27 : decode cX6_layRising 27 = .ok (.getfield 18, 3) := by decide +kernel
theorem dX6_layRising_30 : decode cX6_layRising 30 = .ok (.getfield 41, 3) := by decide +kernel
theorem dX6_layRising_33 : decode cX6_layRising 33 = .ok (.if_icmp .ge 42, 3) := by decide +kernel
theorem dX6_layRising_36 : decode cX6_layRising 36 = .ok (.iload_n 2, 1) := by decide +kernel
theorem dX6_layRising_37 : decode cX6_layRising 37 = .ok (.iconst 2, 1) := by decide +kernel
theorem dX6_layRising_38 : decode cX6_layRising 38 = .ok (.iload_n 3, 1) := by decide +kernel
theorem dX6_layRising_39 : decode cX6_layRising 39 = .ok (.ishl, 1) := by decide +kernel
theorem dX6_layRising_40 : decode cX6_layRising 40 = .ok (.ineg, 1) := by decide +kernel
theorem dX6_layRising_41 : decode cX6_layRising 41 = .ok (.iand, 1) := by decide +kernel
theorem dX6_layRising_42 : decode cX6_layRising 42 = .ok (.istore 4, 2) := by decide +kernel
theorem dX6_layRising_44 : decode cX6_layRising 44 = .ok (.aload_n 0, 1) := by decide +kernel
theorem dX6_layRising_45 : decode cX6_layRising 45 = .ok (.getfield 15, 3) := by decide +kernel
theorem dX6_layRising_48 : decode cX6_layRising 48 = .ok (.iload_n 1, 1) := by decide +kernel
theorem dX6_layRising_49 : decode cX6_layRising 49 = .ok (.bipush 20, 2) := by decide +kernel
theorem dX6_layRising_51 : decode cX6_layRising 51 = .ok (.imul, 1) := by decide +kernel
theorem dX6_layRising_52 : decode cX6_layRising 52 = .ok (.iload_n 3, 1) := by decide +kernel
theorem dX6_layRising_53 : decode cX6_layRising 53 = .ok (.iadd, 1) := by decide +kernel
theorem dX6_layRising_54 : decode cX6_layRising 54 = .ok (.iload 4, 2) := by decide +kernel
theorem dX6_layRising_56 : decode cX6_layRising 56 = .ok (.ifCond .eq 8, 3) := by decide +kernel
theorem dX6_layRising_59 : decode cX6_layRising 59 = .ok (.iload 4, 2) := by decide +kernel
theorem dX6_layRising_61 : decode cX6_layRising 61 = .ok (.goto 4, 3) := by decide +kernel
theorem dX6_layRising_64 : decode cX6_layRising 64 = .ok (.iload_n 2, 1) := by decide +kernel
theorem dX6_layRising_65 : decode cX6_layRising 65 = .ok (.invokestatic 27, 3) := by decide +kernel
theorem dX6_layRising_68 : decode cX6_layRising 68 = .ok (.iastore, 1) := by decide +kernel
theorem dX6_layRising_69 : decode cX6_layRising 69 = .ok (.iinc 3 1, 3) := by decide +kernel
theorem dX6_layRising_72 : decode cX6_layRising 72 = .ok (.goto (-47), 3) := by decide +kernel
theorem dX6_layRising_75 : decode cX6_layRising 75 = .ok (.iinc 1 1, 3) := by decide +kernel
theorem dX6_layRising_78 : decode cX6_layRising 78 = .ok (.goto (-76), 3) := by decide +kernel
theorem dX6_neighbour_0 : decode cX6_neighbour 0 = .ok (.aload_n 0, 1) := by decide +kernel
theorem dX6_neighbour_1 : decode cX6_neighbour 1 = .ok (.getfield 18, 3) := by decide +kernel
theorem dX6_neighbour_4 : decode cX6_neighbour 4 = .ok (.getfield 22, 3) := by decide +kernel
theorem dX6_neighbour_7 : decode cX6_neighbour 7 = .ok (.iload_n 1, 1) := by decide +kernel
theorem dX6_neighbour_8 : decode cX6_neighbour 8 = .ok (.iaload, 1) := by decide +kernel
theorem dX6_neighbour_9 : decode cX6_neighbour 9 = .ok (.invokestatic 27, 3) := by decide +kernel
theorem dX6_neighbour_12 : decode cX6_neighbour 12 = .ok (.istore_n 3, 1) := by decide +kernel
theorem dX6_neighbour_13 : decode cX6_neighbour 13 = .ok (.iconst 0, 1) := by decide +kernel
theorem dX6_neighbour_14 : decode cX6_neighbour 14 = .ok (.istore 4, 2) := by decide +kernel
theorem dX6_neighbour_16 : decode cX6_neighbour 16 = .ok (.iload 4, 2) := by decide +kernel
theorem dX6_neighbour_18 : decode cX6_neighbour 18 = .ok (.iload_n 2, 1) := by decide +kernel
theorem dX6_neighbour_19 : decode cX6_neighbour 19 = .ok (.if_icmp .ge 16, 3) := by decide +kernel
theorem dX6_neighbour_22 : decode cX6_neighbour 22 = .ok (.aload_n 0, 1) := by decide +kernel
theorem dX6_neighbour_23 : decode cX6_neighbour 23 = .ok (.iload_n 1, 1) := by decide +kernel
theorem dX6_neighbour_24 : decode cX6_neighbour 24 = .ok (.iload_n 3, 1) := by decide +kernel
theorem dX6_neighbour_25 : decode cX6_neighbour 25 = .ok (.invokevirtual 31, 3) := by decide +kernel
theorem dX6_neighbour_28 : decode cX6_neighbour 28 = .ok (.istore_n 3, 1) := by decide +kernel
theorem dX6_neighbour_29 : decode cX6_neighbour 29 = .ok (.iinc 4 1, 3) := by decide +kernel
theorem dX6_neighbour_32 : decode cX6_neighbour 32 = .ok (.goto (-16), 3) := by decide +kernel
theorem dX6_neighbour_35 : decode cX6_neighbour 35 = .ok (.iload_n 3, 1) := by decide +kernel
theorem dX6_neighbour_36 : decode cX6_neighbour 36 = .ok (.ireturn, 1) := by decide +kernel
theorem dX6_setFace_0 : decode cX6_setFace 0 = .ok (.aload_n 0, 1) := by decide +kernel
theorem dX6_setFace_1 : decode cX6_setFace 1 = .ok (.getfield 15, 3) := by decide +kernel
theorem dX6_setFace_4 : decode cX6_setFace 4 = .ok (.iload_n 1, 1) := by decide +kernel
theorem dX6_setFace_5 : decode cX6_setFace 5 = .ok (.bipush 20, 2) := by decide +kernel
theorem dX6_setFace_7 : decode cX6_setFace 7 = .ok (.imul, 1) := by decide +kernel
theorem dX6_setFace_8 : decode cX6_setFace 8 = .ok (.iload_n 2, 1) := by decide +kernel
theorem dX6_setFace_9 : decode cX6_setFace 9 = .ok (.iadd, 1) := by decide +kernel
theorem dX6_setFace_10 : decode cX6_setFace 10 = .ok (.iload_n 3, 1) := by decide +kernel
theorem dX6_setFace_11 : decode cX6_setFace 11 = .ok (.iastore, 1) := by decide +kernel
theorem dX6_setFace_12 : decode cX6_setFace 12 = .ok (.aload_n 0, 1) := by decide +kernel
theorem dX6_setFace_13 : decode cX6_setFace 13 = .ok (.getfield 15, 3) := by decide +kernel
theorem dX6_setFace_16 : decode cX6_setFace 16 = .ok (.iload_n 2, 1) := by decide +kernel
theorem dX6_setFace_17 : decode cX6_setFace 17 = .ok (.bipush 20, 2) := by decide +kernel
theorem dX6_setFace_19 : decode cX6_setFace 19 = .ok (.imul, 1) := by decide +kernel
theorem dX6_setFace_20 : decode cX6_setFace 20 = .ok (.iload_n 3, 1) := by decide +kernel
theorem dX6_setFace_21 : decode cX6_setFace 21 = .ok (.iadd, 1) := by decide +kernel
theorem dX6_setFace_22 : decode cX6_setFace 22 = .ok (.iload_n 1, 1) := by decide +kernel
theorem dX6_setFace_23 : decode cX6_setFace 23 = .ok (.iastore, 1) := by decide +kernel
theorem dX6_setFace_24 : decode cX6_setFace 24 = .ok (.aload_n 0, 1) := by decide +kernel
theorem dX6_setFace_25 : decode cX6_setFace 25 = .ok (.getfield 15, 3) := by decide +kernel
theorem dX6_setFace_28 : decode cX6_setFace 28 = .ok (.iload_n 3, 1) := by decide +kernel
theorem dX6_setFace_29 : decode cX6_setFace 29 = .ok (.bipush 20, 2) := by decide +kernel
theorem dX6_setFace_31 : decode cX6_setFace 31 = .ok (.imul, 1) := by decide +kernel
theorem dX6_setFace_32 : decode cX6_setFace 32 = .ok (.iload_n 1, 1) := by decide +kernel
theorem dX6_setFace_33 : decode cX6_setFace 33 = .ok (.iadd, 1) := by decide +kernel
theorem dX6_setFace_34 : decode cX6_setFace 34 = .ok (.iload_n 2, 1) := by decide +kernel
theorem dX6_setFace_35 : decode cX6_setFace 35 = .ok (.iastore, 1) := by decide +kernel
theorem dX6_setFace_36 : decode cX6_setFace 36 = .ok (.return_, 1) := by decide +kernel
theorem dX6_thirdsOf_0 : decode cX6_thirdsOf 0 = .ok (.aload_n 0, 1) := by decide +kernel
theorem dX6_thirdsOf_1 : decode cX6_thirdsOf 1 = .ok (.getfield 9, 3) := by decide +kernel
theorem dX6_thirdsOf_4 : decode cX6_thirdsOf 4 = .ok (.iload_n 1, 1) := by decide +kernel
theorem dX6_thirdsOf_5 : decode cX6_thirdsOf 5 = .ok (.bipush 20, 2) := by decide +kernel
theorem dX6_thirdsOf_7 : decode cX6_thirdsOf 7 = .ok (.imul, 1) := by decide +kernel
theorem dX6_thirdsOf_8 : decode cX6_thirdsOf 8 = .ok (.iload_n 2, 1) := by decide +kernel
theorem dX6_thirdsOf_9 : decode cX6_thirdsOf 9 = .ok (.iadd, 1) := by decide +kernel
theorem dX6_thirdsOf_10 : decode cX6_thirdsOf 10 = .ok (.iaload, 1) := by decide +kernel
theorem dX6_thirdsOf_11 : decode cX6_thirdsOf 11 = .ok (.ireturn, 1) := by decide +kernel
theorem dX7_append_0 : decode cX7_append 0 = .ok (.aload_n 0, 1) := by decide +kernel
theorem dX7_append_1 : decode cX7_append 1 = .ok (.getfield 15, 3) := by decide +kernel
theorem dX7_append_4 : decode cX7_append 4 = .ok (.aload_n 0, 1) := by decide +kernel
theorem dX7_append_5 : decode cX7_append 5 = .ok (.getfield 18, 3) := by decide +kernel
theorem dX7_append_8 : decode cX7_append 8 = .ok (.iaload, 1) := by decide +kernel
theorem dX7_append_9 : decode cX7_append 9 = .ok (.sipush 160, 3) := by decide +kernel
theorem dX7_append_12 : decode cX7_append 12 = .ok (.if_icmp .lt 4, 3) := by decide +kernel
theorem dX7_append_15 : decode cX7_append 15 = .ok (.return_, 1) := by decide +kernel
theorem dX7_append_16 : decode cX7_append 16 = .ok (.aload_n 0, 1) := by decide +kernel
theorem dX7_append_17 : decode cX7_append 17 = .ok (.getfield 15, 3) := by decide +kernel
theorem dX7_append_20 : decode cX7_append 20 = .ok (.aload_n 0, 1) := by decide +kernel
theorem dX7_append_21 : decode cX7_append 21 = .ok (.getfield 18, 3) := by decide +kernel
theorem dX7_append_24 : decode cX7_append 24 = .ok (.iaload, 1) := by decide +kernel
theorem dX7_append_25 : decode cX7_append 25 = .ok (.istore_n 3, 1) := by decide +kernel
theorem dX7_append_26 : decode cX7_append 26 = .ok (.iload_n 3, 1) := by decide +kernel
theorem dX7_append_27 : decode cX7_append 27 = .ok (.aload_n 0, 1) := by decide +kernel
theorem dX7_append_28 : decode cX7_append 28 = .ok (.getfield 15, 3) := by decide +kernel
theorem dX7_append_31 : decode cX7_append 31 = .ok (.iload_n 1, 1) := by decide +kernel
theorem dX7_append_32 : decode cX7_append 32 = .ok (.iconst 1, 1) := by decide +kernel
theorem dX7_append_33 : decode cX7_append 33 = .ok (.iadd, 1) := by decide +kernel
theorem dX7_append_34 : decode cX7_append 34 = .ok (.iaload, 1) := by decide +kernel
theorem dX7_append_35 : decode cX7_append 35 = .ok (.if_icmp .le 23, 3) := by decide +kernel
theorem dX7_append_38 : decode cX7_append 38 = .ok (.aload_n 0, 1) := by decide +kernel
theorem dX7_append_39 : decode cX7_append 39 = .ok (.getfield 9, 3) := by decide +kernel
theorem dX7_append_42 : decode cX7_append 42 = .ok (.iload_n 3, 1) := by decide +kernel
theorem dX7_append_43 : decode cX7_append 43 = .ok (.aload_n 0, 1) := by decide +kernel
theorem dX7_append_44 : decode cX7_append 44 = .ok (.getfield 9, 3) := by decide +kernel
theorem dX7_append_47 : decode cX7_append 47 = .ok (.iload_n 3, 1) := by decide +kernel
theorem dX7_append_48 : decode cX7_append 48 = .ok (.iconst 1, 1) := by decide +kernel
theorem dX7_append_49 : decode cX7_append 49 = .ok (.isub, 1) := by decide +kernel
theorem dX7_append_50 : decode cX7_append 50 = .ok (.iaload, 1) := by decide +kernel
theorem dX7_append_51 : decode cX7_append 51 = .ok (.iastore, 1) := by decide +kernel
theorem dX7_append_52 : decode cX7_append 52 = .ok (.iinc 3 (-1), 3) := by decide +kernel
theorem dX7_append_55 : decode cX7_append 55 = .ok (.goto (-29), 3) := by decide +kernel
theorem dX7_append_58 : decode cX7_append 58 = .ok (.aload_n 0, 1) := by decide +kernel
theorem dX7_append_59 : decode cX7_append 59 = .ok (.getfield 9, 3) := by decide +kernel
theorem dX7_append_62 : decode cX7_append 62 = .ok (.aload_n 0, 1) := by decide +kernel
theorem dX7_append_63 : decode cX7_append 63 = .ok (.getfield 15, 3) := by decide +kernel
theorem dX7_append_66 : decode cX7_append 66 = .ok (.iload_n 1, 1) := by decide +kernel
theorem dX7_append_67 : decode cX7_append 67 = .ok (.iconst 1, 1) := by decide +kernel
theorem dX7_append_68 : decode cX7_append 68 = .ok (.iadd, 1) := by decide +kernel
theorem dX7_append_69 : decode cX7_append 69 = .ok (.iaload, 1) := by decide +kernel
theorem dX7_append_70 : decode cX7_append 70 = .ok (.iload_n 2, 1) := by decide +kernel
theorem dX7_append_71 : decode cX7_append 71 = .ok (.iastore, 1) := by decide +kernel
theorem dX7_append_72 : decode cX7_append 72 = .ok (.iload_n 1, 1) := by decide +kernel
theorem dX7_append_73 : decode cX7_append 73 = .ok (.iconst 1, 1) := by decide +kernel
theorem dX7_append_74 : decode cX7_append 74 = .ok (.iadd, 1) := by decide +kernel
theorem dX7_append_75 : decode cX7_append 75 = .ok (.istore_n 3, 1) := by decide +kernel
theorem dX7_append_76 : decode cX7_append 76 = .ok (.iload_n 3, 1) := by decide +kernel
theorem dX7_append_77 : decode cX7_append 77 = .ok (.aload_n 0, 1) := by decide +kernel
theorem dX7_append_78 : decode cX7_append 78 = .ok (.getfield 18, 3) := by decide +kernel
theorem dX7_append_81 : decode cX7_append 81 = .ok (.if_icmp .gt 19, 3) := by decide +kernel
theorem dX7_append_84 : decode cX7_append 84 = .ok (.aload_n 0, 1) := by decide +kernel
theorem dX7_append_85 : decode cX7_append 85 = .ok (.getfield 15, 3) := by decide +kernel
theorem dX7_append_88 : decode cX7_append 88 = .ok (.iload_n 3, 1) := by decide +kernel
theorem dX7_append_89 : decode cX7_append 89 = .ok (.dup2, 1) := by decide +kernel
theorem dX7_append_90 : decode cX7_append 90 = .ok (.iaload, 1) := by decide +kernel
theorem dX7_append_91 : decode cX7_append 91 = .ok (.iconst 1, 1) := by decide +kernel
theorem dX7_append_92 : decode cX7_append 92 = .ok (.iadd, 1) := by decide +kernel
theorem dX7_append_93 : decode cX7_append 93 = .ok (.iastore, 1) := by decide +kernel
theorem dX7_append_94 : decode cX7_append 94 = .ok (.iinc 3 1, 3) := by decide +kernel
theorem dX7_append_97 : decode cX7_append 97 = .ok (.goto (-21), 3) := by decide +kernel
theorem dX7_append_100 : decode cX7_append 100 = .ok (.return_, 1) := by decide +kernel
theorem dX7_exchange_0 : decode cX7_exchange 0 = .ok (.aload_n 0, 1) := by decide +kernel
theorem dX7_exchange_1 : decode cX7_exchange 1 = .ok (.getfield 9, 3) := by decide +kernel
theorem dX7_exchange_4 : decode cX7_exchange 4 = .ok (.aload_n 0, 1) := by decide +kernel
theorem dX7_exchange_5 : decode cX7_exchange 5 = .ok (.getfield 15, 3) := by decide +kernel
theorem dX7_exchange_8 : decode cX7_exchange 8 = .ok (.iload_n 1, 1) := by decide +kernel
theorem dX7_exchange_9 : decode cX7_exchange 9 = .ok (.iaload, 1) := by decide +kernel
theorem dX7_exchange_10 : decode cX7_exchange 10 = .ok (.iload_n 2, 1) := by decide +kernel
theorem dX7_exchange_11 : decode cX7_exchange 11 = .ok (.iadd, 1) := by decide +kernel
theorem dX7_exchange_12 : decode cX7_exchange 12 = .ok (.iaload, 1) := by decide +kernel
theorem dX7_exchange_13 : decode cX7_exchange 13 = .ok (.istore 4, 2) := by decide +kernel
theorem dX7_exchange_15 : decode cX7_exchange 15 = .ok (.aload_n 0, 1) := by decide +kernel
theorem dX7_exchange_16 : decode cX7_exchange 16 = .ok (.getfield 9, 3) := by decide +kernel
theorem dX7_exchange_19 : decode cX7_exchange 19 = .ok (.aload_n 0, 1) := by decide +kernel
theorem dX7_exchange_20 : decode cX7_exchange 20 = .ok (.getfield 15, 3) := by decide +kernel
theorem dX7_exchange_23 : decode cX7_exchange 23 = .ok (.iload_n 1, 1) := by decide +kernel
theorem dX7_exchange_24 : decode cX7_exchange 24 = .ok (.iaload, 1) := by decide +kernel
theorem dX7_exchange_25 : decode cX7_exchange 25 = .ok (.iload_n 2, 1) := by decide +kernel
theorem dX7_exchange_26 : decode cX7_exchange 26 = .ok (.iadd, 1) := by decide +kernel
theorem dX7_exchange_27 : decode cX7_exchange 27 = .ok (.aload_n 0, 1) := by decide +kernel
theorem dX7_exchange_28 : decode cX7_exchange 28 = .ok (.getfield 9, 3) := by decide +kernel
theorem dX7_exchange_31 : decode cX7_exchange 31 = .ok (.aload_n 0, 1) := by decide +kernel
theorem dX7_exchange_32 : decode cX7_exchange 32 = .ok (.getfield 15, 3) := by decide +kernel
theorem dX7_exchange_35 : decode cX7_exchange 35 = .ok (.iload_n 1, 1) := by decide +kernel
theorem dX7_exchange_36 : decode cX7_exchange 36 = .ok (.iaload, 1) := by decide +kernel
theorem dX7_exchange_37 : decode cX7_exchange 37 = .ok (.iload_n 3, 1) := by decide +kernel
theorem dX7_exchange_38 : decode cX7_exchange 38 = .ok (.iadd, 1) := by decide +kernel
theorem dX7_exchange_39 : decode cX7_exchange 39 = .ok (.iaload, 1) := by decide +kernel
theorem dX7_exchange_40 : decode cX7_exchange 40 = .ok (.iastore, 1) := by decide +kernel
theorem dX7_exchange_41 : decode cX7_exchange 41 = .ok (.aload_n 0, 1) := by decide +kernel
theorem dX7_exchange_42 : decode cX7_exchange 42 = .ok (.getfield 9, 3) := by decide +kernel
theorem dX7_exchange_45 : decode cX7_exchange 45 = .ok (.aload_n 0, 1) := by decide +kernel
theorem dX7_exchange_46 : decode cX7_exchange 46 = .ok (.getfield 15, 3) := by decide +kernel
theorem dX7_exchange_49 : decode cX7_exchange 49 = .ok (.iload_n 1, 1) := by decide +kernel
theorem dX7_exchange_50 : decode cX7_exchange 50 = .ok (.iaload, 1) := by decide +kernel
theorem dX7_exchange_51 : decode cX7_exchange 51 = .ok (.iload_n 3, 1) := by decide +kernel
theorem dX7_exchange_52 : decode cX7_exchange 52 = .ok (.iadd, 1) := by decide +kernel
theorem dX7_exchange_53 : decode cX7_exchange 53 = .ok (.iload 4, 2) := by decide +kernel
theorem dX7_exchange_55 : decode cX7_exchange 55 = .ok (.iastore, 1) := by decide +kernel
theorem dX7_exchange_56 : decode cX7_exchange 56 = .ok (.return_, 1) := by decide +kernel
theorem dX7_get_0 : decode cX7_get 0 = .ok (.aload_n 0, 1) := by decide +kernel
theorem dX7_get_1 : decode cX7_get 1 = .ok (.getfield 9, 3) := by decide +kernel
theorem dX7_get_4 : decode cX7_get 4 = .ok (.aload_n 0, 1) := by decide +kernel
theorem dX7_get_5 : decode cX7_get 5 = .ok (.getfield 15, 3) := by decide +kernel
theorem dX7_get_8 : decode cX7_get 8 = .ok (.iload_n 1, 1) := by decide +kernel
theorem dX7_get_9 : decode cX7_get 9 = .ok (.iaload, 1) := by decide +kernel
theorem dX7_get_10 : decode cX7_get 10 = .ok (.iload_n 2, 1) := by decide +kernel
theorem dX7_get_11 : decode cX7_get 11 = .ok (.iadd, 1) := by decide +kernel
theorem dX7_get_12 : decode cX7_get 12 = .ok (.iaload, 1) := by decide +kernel
theorem dX7_get_13 : decode cX7_get 13 = .ok (.ireturn, 1) := by decide +kernel
theorem dX7_has_12 : decode cX7_has 12 = .ok (.iload_n 2, 1) := by decide +kernel
theorem dX7_has_13 : decode cX7_has 13 = .ok (.ifCond .lt 16, 3) := by decide +kernel
theorem dX7_has_16 : decode cX7_has 16 = .ok (.iload_n 2, 1) := by decide +kernel
theorem dX7_has_17 : decode cX7_has 17 = .ok (.aload_n 0, 1) := by decide +kernel
theorem dX7_has_18 : decode cX7_has 18 = .ok (.iload_n 1, 1) := by decide +kernel
theorem dX7_has_19 : decode cX7_has 19 = .ok (.invokevirtual 22, 3) := by decide +kernel
theorem dX7_has_22 : decode cX7_has 22 = .ok (.if_icmp .ge 7, 3) := by decide +kernel
theorem dX7_has_25 : decode cX7_has 25 = .ok (.iconst 1, 1) := by decide +kernel
theorem dX7_has_26 : decode cX7_has 26 = .ok (.goto 4, 3) := by decide +kernel
theorem dX7_remove_0 : decode cX7_remove 0 = .ok (.aload_n 0, 1) := by decide +kernel
theorem dX7_remove_1 : decode cX7_remove 1 = .ok (.getfield 15, 3) := by decide +kernel
theorem dX7_remove_4 : decode cX7_remove 4 = .ok (.iload_n 1, 1) := by decide +kernel
theorem dX7_remove_5 : decode cX7_remove 5 = .ok (.iaload, 1) := by decide +kernel
theorem dX7_remove_6 : decode cX7_remove 6 = .ok (.istore_n 3, 1) := by decide +kernel
theorem dX7_remove_7 : decode cX7_remove 7 = .ok (.aload_n 0, 1) := by decide +kernel
theorem dX7_remove_8 : decode cX7_remove 8 = .ok (.getfield 15, 3) := by decide +kernel
theorem dX7_remove_11 : decode cX7_remove 11 = .ok (.iload_n 1, 1) := by decide +kernel
theorem dX7_remove_12 : decode cX7_remove 12 = .ok (.iaload, 1) := by decide +kernel
theorem dX7_remove_13 : decode cX7_remove 13 = .ok (.istore 4, 2) := by decide +kernel
theorem dX7_remove_15 : decode cX7_remove 15 = .ok (.iload 4, 2) := by decide +kernel
theorem dX7_remove_17 : decode cX7_remove 17 = .ok (.aload_n 0, 1) := by decide +kernel
theorem dX7_remove_18 : decode cX7_remove 18 = .ok (.getfield 15, 3) := by decide +kernel
theorem dX7_remove_21 : decode cX7_remove 21 = .ok (.aload_n 0, 1) := by decide +kernel
theorem dX7_remove_22 : decode cX7_remove 22 = .ok (.getfield 18, 3) := by decide +kernel
theorem dX7_remove_25 : decode cX7_remove 25 = .ok (.iaload, 1) := by decide +kernel
theorem dX7_remove_26 : decode cX7_remove 26 = .ok (.if_icmp .ge 36, 3) := by decide +kernel
theorem dX7_remove_29 : decode cX7_remove 29 = .ok (.aload_n 0, 1) := by decide +kernel
theorem dX7_remove_30 : decode cX7_remove 30 = .ok (.getfield 9, 3) := by decide +kernel
theorem dX7_remove_33 : decode cX7_remove 33 = .ok (.iload 4, 2) := by decide +kernel
theorem dX7_remove_35 : decode cX7_remove 35 = .ok (.iaload, 1) := by decide +kernel
theorem dX7_remove_36 : decode cX7_remove 36 = .ok (.iload_n 2, 1) := by decide +kernel
theorem dX7_remove_37 : decode cX7_remove 37 = .ok (.if_icmp .eq 19, 3) := by decide +kernel
theorem dX7_remove_40 : decode cX7_remove 40 = .ok (.aload_n 0, 1) := by decide +kernel
theorem dX7_remove_41 : decode cX7_remove 41 = .ok (.getfield 9, 3) := by decide +kernel
theorem dX7_remove_44 : decode cX7_remove 44 = .ok (.iload_n 3, 1) := by decide +kernel
theorem dX7_remove_45 : decode cX7_remove 45 = .ok (.aload_n 0, 1) := by decide +kernel
theorem dX7_remove_46 : decode cX7_remove 46 = .ok (.getfield 9, 3) := by decide +kernel
theorem dX7_remove_49 : decode cX7_remove 49 = .ok (.iload 4, 2) := by decide +kernel
theorem dX7_remove_51 : decode cX7_remove 51 = .ok (.iaload, 1) := by decide +kernel
theorem dX7_remove_52 : decode cX7_remove 52 = .ok (.iastore, 1) := by decide +kernel
theorem dX7_remove_53 : decode cX7_remove 53 = .ok (.iinc 3 1, 3) := by decide +kernel
theorem dX7_remove_56 : decode cX7_remove 56 = .ok (.iinc 4 1, 3) := by decide +kernel
theorem dX7_remove_59 : decode cX7_remove 59 = .ok (.goto (-44), 3) := by decide +kernel
theorem dX7_remove_62 : decode cX7_remove 62 = .ok (.aload_n 0, 1) := by decide +kernel
theorem dX7_remove_63 : decode cX7_remove 63 = .ok (.getfield 15, 3) := by decide +kernel
theorem dX7_remove_66 : decode cX7_remove 66 = .ok (.aload_n 0, 1) := by decide +kernel
theorem dX7_remove_67 : decode cX7_remove 67 = .ok (.getfield 18, 3) := by decide +kernel
theorem dX7_remove_70 : decode cX7_remove 70 = .ok (.iaload, 1) := by decide +kernel
theorem dX7_remove_71 : decode cX7_remove 71 = .ok (.iload_n 3, 1) := by decide +kernel
theorem dX7_remove_72 : decode cX7_remove 72 = .ok (.isub, 1) := by decide +kernel
theorem dX7_remove_73 : decode cX7_remove 73 = .ok (.istore 4, 2) := by decide +kernel
theorem dX7_remove_75 : decode cX7_remove 75 = .ok (.iload_n 1, 1) := by decide +kernel
theorem dX7_remove_76 : decode cX7_remove 76 = .ok (.iconst 1, 1) := by decide +kernel
theorem dX7_remove_77 : decode cX7_remove 77 = .ok (.iadd, 1) := by decide +kernel
theorem dX7_remove_78 : decode cX7_remove 78 = .ok (.istore 5, 2) := by decide +kernel
theorem dX7_remove_80 : decode cX7_remove 80 = .ok (.iload 5, 2) := by decide +kernel
theorem dX7_remove_82 : decode cX7_remove 82 = .ok (.aload_n 0, 1) := by decide +kernel
theorem dX7_remove_83 : decode cX7_remove 83 = .ok (.getfield 18, 3) := by decide +kernel
theorem dX7_remove_86 : decode cX7_remove 86 = .ok (.if_icmp .gt 21, 3) := by decide +kernel
theorem dX7_remove_89 : decode cX7_remove 89 = .ok (.aload_n 0, 1) := by decide +kernel
theorem dX7_remove_90 : decode cX7_remove 90 = .ok (.getfield 15, 3) := by decide +kernel
theorem dX7_remove_93 : decode cX7_remove 93 = .ok (.iload 5, 2) := by decide +kernel
theorem dX7_remove_95 : decode cX7_remove 95 = .ok (.dup2, 1) := by decide +kernel
theorem dX7_remove_96 : decode cX7_remove 96 = .ok (.iaload, 1) := by decide +kernel
theorem dX7_remove_97 : decode cX7_remove 97 = .ok (.iload 4, 2) := by decide +kernel
theorem dX7_remove_99 : decode cX7_remove 99 = .ok (.isub, 1) := by decide +kernel
theorem dX7_remove_100 : decode cX7_remove 100 = .ok (.iastore, 1) := by decide +kernel
theorem dX7_remove_101 : decode cX7_remove 101 = .ok (.iinc 5 1, 3) := by decide +kernel
theorem dX7_remove_104 : decode cX7_remove 104 = .ok (.goto (-24), 3) := by decide +kernel
theorem dX7_remove_107 : decode cX7_remove 107 = .ok (.return_, 1) := by decide +kernel
theorem dX7_size_0 : decode cX7_size 0 = .ok (.aload_n 0, 1) := by decide +kernel
theorem dX7_size_1 : decode cX7_size 1 = .ok (.getfield 15, 3) := by decide +kernel
theorem dX7_size_4 : decode cX7_size 4 = .ok (.iload_n 1, 1) := by decide +kernel
theorem dX7_size_5 : decode cX7_size 5 = .ok (.iconst 1, 1) := by decide +kernel
theorem dX7_size_6 : decode cX7_size 6 = .ok (.iadd, 1) := by decide +kernel
theorem dX7_size_7 : decode cX7_size 7 = .ok (.iaload, 1) := by decide +kernel
theorem dX7_size_8 : decode cX7_size 8 = .ok (.aload_n 0, 1) := by decide +kernel
theorem dX7_size_9 : decode cX7_size 9 = .ok (.getfield 15, 3) := by decide +kernel
theorem dX7_size_12 : decode cX7_size 12 = .ok (.iload_n 1, 1) := by decide +kernel
theorem dX7_size_13 : decode cX7_size 13 = .ok (.iaload, 1) := by decide +kernel
theorem dX7_size_14 : decode cX7_size 14 = .ok (.isub, 1) := by decide +kernel
theorem dX7_size_15 : decode cX7_size 15 = .ok (.ireturn, 1) := by decide +kernel
theorem dX8_arc_11 : decode cX8_arc 11 = .ok (.aload_n 0, 1) := by decide +kernel
theorem dX8_arc_12 : decode cX8_arc 12 = .ok (.getfield 12, 3) := by decide +kernel
theorem dX8_arc_15 : decode cX8_arc 15 = .ok (.iload_n 2, 1) := by decide +kernel
theorem dX8_arc_16 : decode cX8_arc 16 = .ok (.invokevirtual 95, 3) := by decide +kernel
theorem dX8_arc_19 : decode cX8_arc 19 = .ok (.ifCond .ne 5, 3) := by decide +kernel
theorem dX8_arc_24 : decode cX8_arc 24 = .ok (.aload_n 0, 1) := by decide +kernel
theorem dX8_arc_25 : decode cX8_arc 25 = .ok (.getfield 12, 3) := by decide +kernel
theorem dX8_arc_28 : decode cX8_arc 28 = .ok (.getfield 99, 3) := by decide +kernel
theorem dX8_arc_31 : decode cX8_arc 31 = .ok (.bipush 80, 2) := by decide +kernel
theorem dX8_arc_33 : decode cX8_arc 33 = .ok (.if_icmp .lt 6, 3) := by decide +kernel
theorem dX8_arc_36 : decode cX8_arc 36 = .ok (.bipush (-4), 2) := by decide +kernel
theorem dX8_arc_38 : decode cX8_arc 38 = .ok (.ireturn, 1) := by decide +kernel
theorem dX8_arc_39 : decode cX8_arc 39 = .ok (.aload_n 0, 1) := by decide +kernel
theorem dX8_arc_40 : decode cX8_arc 40 = .ok (.invokevirtual 85, 3) := by decide +kernel
theorem dX8_arc_43 : decode cX8_arc 43 = .ok (.aload_n 0, 1) := by decide +kernel
theorem dX8_arc_44 : decode cX8_arc 44 = .ok (.getfield 12, 3) := by decide +kernel
theorem dX8_arc_47 : decode cX8_arc 47 = .ok (.iload_n 1, 1) := by decide +kernel
theorem dX8_arc_48 : decode cX8_arc 48 = .ok (.iload_n 2, 1) := by decide +kernel
theorem dX8_arc_49 : decode cX8_arc 49 = .ok (.invokevirtual 102, 3) := by decide +kernel
theorem dX8_arc_52 : decode cX8_arc 52 = .ok (.istore_n 3, 1) := by decide +kernel
theorem dX8_arc_53 : decode cX8_arc 53 = .ok (.aload_n 0, 1) := by decide +kernel
theorem dX8_arc_54 : decode cX8_arc 54 = .ok (.getfield 19, 3) := by decide +kernel
theorem dX8_arc_57 : decode cX8_arc 57 = .ok (.iload_n 1, 1) := by decide +kernel
theorem dX8_arc_58 : decode cX8_arc 58 = .ok (.iconst 2, 1) := by decide +kernel
theorem dX8_arc_59 : decode cX8_arc 59 = .ok (.iload_n 3, 1) := by decide +kernel
theorem dX8_arc_60 : decode cX8_arc 60 = .ok (.imul, 1) := by decide +kernel
theorem dX8_arc_61 : decode cX8_arc 61 = .ok (.invokevirtual 106, 3) := by decide +kernel
theorem dX8_arc_64 : decode cX8_arc 64 = .ok (.aload_n 0, 1) := by decide +kernel
theorem dX8_arc_65 : decode cX8_arc 65 = .ok (.getfield 19, 3) := by decide +kernel
theorem dX8_arc_68 : decode cX8_arc 68 = .ok (.iload_n 2, 1) := by decide +kernel
theorem dX8_arc_69 : decode cX8_arc 69 = .ok (.iconst 2, 1) := by decide +kernel
theorem dX8_arc_70 : decode cX8_arc 70 = .ok (.iload_n 3, 1) := by decide +kernel
theorem dX8_arc_71 : decode cX8_arc 71 = .ok (.imul, 1) := by decide +kernel
theorem dX8_arc_72 : decode cX8_arc 72 = .ok (.iconst 1, 1) := by decide +kernel
theorem dX8_arc_73 : decode cX8_arc 73 = .ok (.iadd, 1) := by decide +kernel
theorem dX8_arc_74 : decode cX8_arc 74 = .ok (.invokevirtual 106, 3) := by decide +kernel
theorem dX8_arc_77 : decode cX8_arc 77 = .ok (.iload_n 3, 1) := by decide +kernel
theorem dX8_arc_78 : decode cX8_arc 78 = .ok (.ireturn, 1) := by decide +kernel
theorem dX8_areApart_0 : decode cX8_areApart 0 = .ok (.aload_n 0, 1) := by decide +kernel
theorem dX8_areApart_1 : decode cX8_areApart 1 = .ok (.getfield 12, 3) := by decide +kernel
theorem dX8_areApart_4 : decode cX8_areApart 4 = .ok (.iload_n 1, 1) := by decide +kernel
theorem dX8_areApart_5 : decode cX8_areApart 5 = .ok (.invokevirtual 110, 3) := by decide +kernel
theorem dX8_areApart_8 : decode cX8_areApart 8 = .ok (.ifCond .eq 36, 3) := by decide +kernel
theorem dX8_areApart_11 : decode cX8_areApart 11 = .ok (.aload_n 0, 1) := by decide +kernel
theorem dX8_areApart_12 : decode cX8_areApart 12 = .ok (.getfield 12, 3) := by decide +kernel
theorem dX8_areApart_15 : decode cX8_areApart 15 = .ok (.iload_n 2, 1) := by decide +kernel
theorem dX8_areApart_16 : decode cX8_areApart 16 = .ok (.invokevirtual 110, 3) := by decide +kernel
theorem dX8_areApart_19 : decode cX8_areApart 19 = .ok (.ifCond .eq 25, 3) := by decide +kernel
theorem dX8_areApart_22 : decode cX8_areApart 22 = .ok (.aload_n 0, 1) := by decide +kernel
theorem dX8_areApart_23 : decode cX8_areApart 23 = .ok (.getfield 12, 3) := by decide +kernel
theorem dX8_areApart_26 : decode cX8_areApart 26 = .ok (.iload_n 1, 1) := by decide +kernel
theorem dX8_areApart_27 : decode cX8_areApart 27 = .ok (.invokevirtual 299, 3) := by decide +kernel
theorem dX8_areApart_30 : decode cX8_areApart 30 = .ok (.ifCond .ne 14, 3) := by decide +kernel
theorem dX8_areApart_33 : decode cX8_areApart 33 = .ok (.aload_n 0, 1) := by decide +kernel
theorem dX8_areApart_34 : decode cX8_areApart 34 = .ok (.getfield 12, 3) := by decide +kernel
theorem dX8_areApart_37 : decode cX8_areApart 37 = .ok (.iload_n 2, 1) := by decide +kernel
theorem dX8_areApart_38 : decode cX8_areApart 38 = .ok (.invokevirtual 299, 3) := by decide +kernel
theorem dX8_areApart_41 : decode cX8_areApart 41 = .ok (.ifCond .eq 5, 3) := by decide +kernel
theorem dX8_areApart_44 : decode cX8_areApart 44 = .ok (.iconst 0, 1) := by decide +kernel
theorem dX8_areApart_45 : decode cX8_areApart 45 = .ok (.ireturn, 1) := by decide +kernel
theorem dX8_areApart_46 : decode cX8_areApart 46 = .ok (.aload_n 0, 1) := by decide +kernel
theorem dX8_areApart_47 : decode cX8_areApart 47 = .ok (.getfield 12, 3) := by decide +kernel
theorem dX8_areApart_50 : decode cX8_areApart 50 = .ok (.aload_n 0, 1) := by decide +kernel
theorem dX8_areApart_51 : decode cX8_areApart 51 = .ok (.getfield 12, 3) := by decide +kernel
theorem dX8_areApart_54 : decode cX8_areApart 54 = .ok (.getfield 113, 3) := by decide +kernel
theorem dX8_areApart_57 : decode cX8_areApart 57 = .ok (.iconst 2, 1) := by decide +kernel
theorem dX8_areApart_58 : decode cX8_areApart 58 = .ok (.iload_n 1, 1) := by decide +kernel
theorem dX8_areApart_59 : decode cX8_areApart 59 = .ok (.imul, 1) := by decide +kernel
theorem dX8_areApart_60 : decode cX8_areApart 60 = .ok (.iaload, 1) := by decide +kernel
theorem dX8_areApart_61 : decode cX8_areApart 61 = .ok (.aload_n 0, 1) := by decide +kernel
theorem dX8_areApart_62 : decode cX8_areApart 62 = .ok (.getfield 12, 3) := by decide +kernel
theorem dX8_areApart_65 : decode cX8_areApart 65 = .ok (.getfield 113, 3) := by decide +kernel
theorem dX8_areApart_68 : decode cX8_areApart 68 = .ok (.iconst 2, 1) := by decide +kernel
theorem dX8_areApart_69 : decode cX8_areApart 69 = .ok (.iload_n 1, 1) := by decide +kernel
theorem dX8_areApart_70 : decode cX8_areApart 70 = .ok (.imul, 1) := by decide +kernel
theorem dX8_areApart_71 : decode cX8_areApart 71 = .ok (.iconst 1, 1) := by decide +kernel
theorem dX8_areApart_72 : decode cX8_areApart 72 = .ok (.iadd, 1) := by decide +kernel
theorem dX8_areApart_73 : decode cX8_areApart 73 = .ok (.iaload, 1) := by decide +kernel
theorem dX8_areApart_74 : decode cX8_areApart 74 = .ok (.iload_n 2, 1) := by decide +kernel
theorem dX8_areApart_75 : decode cX8_areApart 75 = .ok (.invokevirtual 286, 3) := by decide +kernel
theorem dX8_areApart_78 : decode cX8_areApart 78 = .ok (.ifCond .ge 7, 3) := by decide +kernel
theorem dX8_areApart_81 : decode cX8_areApart 81 = .ok (.iconst 1, 1) := by decide +kernel
theorem dX8_areApart_82 : decode cX8_areApart 82 = .ok (.goto 4, 3) := by decide +kernel
theorem dX8_areApart_85 : decode cX8_areApart 85 = .ok (.iconst 0, 1) := by decide +kernel
theorem dX8_areApart_86 : decode cX8_areApart 86 = .ok (.ireturn, 1) := by decide +kernel
theorem dX8_barred_9 : decode cX8_barred 9 = .ok (.aload_n 0, 1) := by decide +kernel
theorem dX8_barred_10 : decode cX8_barred 10 = .ok (.invokevirtual 198, 3) := by decide +kernel
theorem dX8_barred_13 : decode cX8_barred 13 = .ok (.aload_n 0, 1) := by decide +kernel
theorem dX8_barred_14 : decode cX8_barred 14 = .ok (.getfield 77, 3) := by decide +kernel
theorem dX8_barred_17 : decode cX8_barred 17 = .ok (.invokevirtual 204, 3) := by decide +kernel
theorem dX8_barred_20 : decode cX8_barred 20 = .ok (.ireturn, 1) := by decide +kernel
theorem dX8_branch_10 : decode cX8_branch 10 = .ok (.aload_n 0, 1) := by decide +kernel
theorem dX8_branch_11 : decode cX8_branch 11 = .ok (.invokevirtual 198, 3) := by decide +kernel
theorem dX8_branch_14 : decode cX8_branch 14 = .ok (.aload_n 0, 1) := by decide +kernel
theorem dX8_branch_15 : decode cX8_branch 15 = .ok (.getfield 77, 3) := by decide +kernel
theorem dX8_branch_18 : decode cX8_branch 18 = .ok (.iload_n 1, 1) := by decide +kernel
theorem dX8_branch_19 : decode cX8_branch 19 = .ok (.invokevirtual 207, 3) := by decide +kernel
theorem dX8_branch_22 : decode cX8_branch 22 = .ok (.ireturn, 1) := by decide +kernel
theorem dX8_countParts_31 : decode cX8_countParts 31 = .ok (.iload_n 2, 1) := by decide +kernel
theorem dX8_countParts_32 : decode cX8_countParts 32 = .ok (.iload 4, 2) := by decide +kernel
theorem dX8_countParts_34 : decode cX8_countParts 34 = .ok (.invokestatic 277, 3) := by decide +kernel
theorem dX8_countParts_37 : decode cX8_countParts 37 = .ok (.ifCond .ne 22, 3) := by decide +kernel
theorem dX8_countParts_40 : decode cX8_countParts 40 = .ok (.iload_n 2, 1) := by decide +kernel
theorem dX8_countParts_41 : decode cX8_countParts 41 = .ok (.aload_n 0, 1) := by decide +kernel
theorem dX8_countParts_42 : decode cX8_countParts 42 = .ok (.getfield 12, 3) := by decide +kernel
theorem dX8_countParts_45 : decode cX8_countParts 45 = .ok (.getfield 131, 3) := by decide +kernel
theorem dX8_countParts_48 : decode cX8_countParts 48 = .ok (.iload 4, 2) := by decide +kernel
theorem dX8_countParts_50 : decode cX8_countParts 50 = .ok (.iload_n 1, 1) := by decide +kernel
theorem dX8_countParts_51 : decode cX8_countParts 51 = .ok (.invokestatic 295, 3) := by decide +kernel
theorem dX8_countParts_54 : decode cX8_countParts 54 = .ok (.ior, 1) := by decide +kernel
theorem dX8_countParts_55 : decode cX8_countParts 55 = .ok (.istore_n 2, 1) := by decide +kernel
theorem dX8_countParts_56 : decode cX8_countParts 56 = .ok (.iinc 3 1, 3) := by decide +kernel
theorem dX8_countParts_59 : decode cX8_countParts 59 = .ok (.iinc 4 1, 3) := by decide +kernel
theorem dX8_countParts_62 : decode cX8_countParts 62 = .ok (.goto (-43), 3) := by decide +kernel
theorem dX8_crossing_7 : decode cX8_crossing 7 = .ok (.bipush (-3), 2) := by decide +kernel
theorem dX8_crossing_9 : decode cX8_crossing 9 = .ok (.ireturn, 1) := by decide +kernel
theorem dX8_crossing_31 : decode cX8_crossing 31 = .ok (.iconst 0, 1) := by decide +kernel
theorem dX8_crossing_32 : decode cX8_crossing 32 = .ok (.istore_n 2, 1) := by decide +kernel
theorem dX8_crossing_33 : decode cX8_crossing 33 = .ok (.iload_n 2, 1) := by decide +kernel
theorem dX8_crossing_34 : decode cX8_crossing 34 = .ok (.iload_n 1, 1) := by decide +kernel
theorem dX8_crossing_35 : decode cX8_crossing 35 = .ok (.if_icmp .ge 29, 3) := by decide +kernel
theorem dX8_crossing_38 : decode cX8_crossing 38 = .ok (.aload_n 0, 1) := by decide +kernel
theorem dX8_crossing_39 : decode cX8_crossing 39 = .ok (.iload_n 1, 1) := by decide +kernel
theorem dX8_crossing_40 : decode cX8_crossing 40 = .ok (.iload_n 2, 1) := by decide +kernel
theorem dX8_crossing_41 : decode cX8_crossing 41 = .ok (.invokevirtual 192, 3) := by decide +kernel
theorem dX8_crossing_44 : decode cX8_crossing 44 = .ok (.ifCond .eq 14, 3) := by decide +kernel
theorem dX8_crossing_47 : decode cX8_crossing 47 = .ok (.aload_n 0, 1) := by decide +kernel
theorem dX8_crossing_48 : decode cX8_crossing 48 = .ok (.iload_n 1, 1) := by decide +kernel
theorem dX8_crossing_49 : decode cX8_crossing 49 = .ok (.iload_n 2, 1) := by decide +kernel
theorem dX8_crossing_50 : decode cX8_crossing 50 = .ok (.invokevirtual 195, 3) := by decide +kernel
theorem dX8_crossing_53 : decode cX8_crossing 53 = .ok (.ifCond .eq 5, 3) := by decide +kernel
theorem dX8_crossing_56 : decode cX8_crossing 56 = .ok (.iconst 1, 1) := by decide +kernel
theorem dX8_crossing_57 : decode cX8_crossing 57 = .ok (.ireturn, 1) := by decide +kernel
theorem dX8_crossing_58 : decode cX8_crossing 58 = .ok (.iinc 2 1, 3) := by decide +kernel
theorem dX8_crossing_61 : decode cX8_crossing 61 = .ok (.goto (-28), 3) := by decide +kernel
theorem dX8_crossing_64 : decode cX8_crossing 64 = .ok (.iinc 1 1, 3) := by decide +kernel
theorem dX8_crossing_67 : decode cX8_crossing 67 = .ok (.goto (-47), 3) := by decide +kernel
theorem dX8_cut_13 : decode cX8_cut 13 = .ok (.aload_n 0, 1) := by decide +kernel
theorem dX8_cut_14 : decode cX8_cut 14 = .ok (.invokevirtual 85, 3) := by decide +kernel
theorem dX8_cut_17 : decode cX8_cut 17 = .ok (.aload_n 0, 1) := by decide +kernel
theorem dX8_cut_18 : decode cX8_cut 18 = .ok (.getfield 19, 3) := by decide +kernel
theorem dX8_cut_21 : decode cX8_cut 21 = .ok (.aload_n 0, 1) := by decide +kernel
theorem dX8_cut_22 : decode cX8_cut 22 = .ok (.getfield 12, 3) := by decide +kernel
theorem dX8_cut_25 : decode cX8_cut 25 = .ok (.getfield 113, 3) := by decide +kernel
theorem dX8_cut_28 : decode cX8_cut 28 = .ok (.iconst 2, 1) := by decide +kernel
theorem dX8_cut_29 : decode cX8_cut 29 = .ok (.iload_n 1, 1) := by decide +kernel
theorem dX8_cut_30 : decode cX8_cut 30 = .ok (.imul, 1) := by decide +kernel
theorem dX8_cut_31 : decode cX8_cut 31 = .ok (.iaload, 1) := by decide +kernel
theorem dX8_cut_32 : decode cX8_cut 32 = .ok (.iconst 2, 1) := by decide +kernel
theorem dX8_cut_33 : decode cX8_cut 33 = .ok (.iload_n 1, 1) := by decide +kernel
theorem dX8_cut_34 : decode cX8_cut 34 = .ok (.imul, 1) := by decide +kernel
theorem dX8_cut_35 : decode cX8_cut 35 = .ok (.invokevirtual 116, 3) := by decide +kernel
theorem dX8_cut_38 : decode cX8_cut 38 = .ok (.aload_n 0, 1) := by decide +kernel
theorem dX8_cut_39 : decode cX8_cut 39 = .ok (.getfield 19, 3) := by decide +kernel
theorem dX8_cut_42 : decode cX8_cut 42 = .ok (.aload_n 0, 1) := by decide +kernel
theorem dX8_cut_43 : decode cX8_cut 43 = .ok (.getfield 12, 3) := by decide +kernel
theorem dX8_cut_46 : decode cX8_cut 46 = .ok (.getfield 113, 3) := by decide +kernel
theorem dX8_cut_49 : decode cX8_cut 49 = .ok (.iconst 2, 1) := by decide +kernel
theorem dX8_cut_50 : decode cX8_cut 50 = .ok (.iload_n 1, 1) := by decide +kernel
theorem dX8_cut_51 : decode cX8_cut 51 = .ok (.imul, 1) := by decide +kernel
theorem dX8_cut_52 : decode cX8_cut 52 = .ok (.iconst 1, 1) := by decide +kernel
theorem dX8_cut_53 : decode cX8_cut 53 = .ok (.iadd, 1) := by decide +kernel
theorem dX8_cut_54 : decode cX8_cut 54 = .ok (.iaload, 1) := by decide +kernel
theorem dX8_cut_55 : decode cX8_cut 55 = .ok (.iconst 2, 1) := by decide +kernel
theorem dX8_cut_56 : decode cX8_cut 56 = .ok (.iload_n 1, 1) := by decide +kernel
theorem dX8_cut_57 : decode cX8_cut 57 = .ok (.imul, 1) := by decide +kernel
theorem dX8_cut_58 : decode cX8_cut 58 = .ok (.iconst 1, 1) := by decide +kernel
theorem dX8_cut_59 : decode cX8_cut 59 = .ok (.iadd, 1) := by decide +kernel
theorem dX8_cut_60 : decode cX8_cut 60 = .ok (.invokevirtual 116, 3) := by decide +kernel
theorem dX8_cut_63 : decode cX8_cut 63 = .ok (.aload_n 0, 1) := by decide +kernel
theorem dX8_cut_64 : decode cX8_cut 64 = .ok (.getfield 12, 3) := by decide +kernel
theorem dX8_cut_67 : decode cX8_cut 67 = .ok (.iload_n 1, 1) := by decide +kernel
theorem dX8_cut_68 : decode cX8_cut 68 = .ok (.invokevirtual 119, 3) := by decide +kernel
theorem dX8_cut_71 : decode cX8_cut 71 = .ok (.ireturn, 1) := by decide +kernel
theorem dX8_degree_11 : decode cX8_degree 11 = .ok (.aload_n 0, 1) := by decide +kernel
theorem dX8_degree_12 : decode cX8_degree 12 = .ok (.getfield 19, 3) := by decide +kernel
theorem dX8_degree_15 : decode cX8_degree 15 = .ok (.iload_n 1, 1) := by decide +kernel
theorem dX8_degree_16 : decode cX8_degree 16 = .ok (.invokevirtual 138, 3) := by decide +kernel
theorem dX8_degree_19 : decode cX8_degree 19 = .ok (.goto 4, 3) := by decide +kernel
theorem dX8_dual_13 : decode cX8_dual 13 = .ok (.iload_n 2, 1) := by decide +kernel
theorem dX8_dual_14 : decode cX8_dual 14 = .ok (.ifCond .lt 8, 3) := by decide +kernel
theorem dX8_dual_17 : decode cX8_dual 17 = .ok (.iload_n 2, 1) := by decide +kernel
theorem dX8_dual_18 : decode cX8_dual 18 = .ok (.iconst 1, 1) := by decide +kernel
theorem dX8_dual_19 : decode cX8_dual 19 = .ok (.if_icmp .le 6, 3) := by decide +kernel
theorem dX8_dual_22 : decode cX8_dual 22 = .ok (.bipush (-2), 2) := by decide +kernel
theorem dX8_dual_24 : decode cX8_dual 24 = .ok (.ireturn, 1) := by decide +kernel
theorem dX8_dual_25 : decode cX8_dual 25 = .ok (.aload_n 0, 1) := by decide +kernel
theorem dX8_dual_26 : decode cX8_dual 26 = .ok (.invokevirtual 169, 3) := by decide +kernel
theorem dX8_dual_29 : decode cX8_dual 29 = .ok (.ifCond .ne 6, 3) := by decide +kernel
theorem dX8_dual_32 : decode cX8_dual 32 = .ok (.bipush (-3), 2) := by decide +kernel
theorem dX8_dual_34 : decode cX8_dual 34 = .ok (.ireturn, 1) := by decide +kernel
theorem dX8_dual_35 : decode cX8_dual 35 = .ok (.aload_n 0, 1) := by decide +kernel
theorem dX8_dual_36 : decode cX8_dual 36 = .ok (.invokevirtual 141, 3) := by decide +kernel
theorem dX8_dual_39 : decode cX8_dual 39 = .ok (.aload_n 0, 1) := by decide +kernel
theorem dX8_dual_40 : decode cX8_dual 40 = .ok (.invokevirtual 144, 3) := by decide +kernel
theorem dX8_dual_43 : decode cX8_dual 43 = .ok (.aload_n 0, 1) := by decide +kernel
theorem dX8_dual_44 : decode cX8_dual 44 = .ok (.getfield 56, 3) := by decide +kernel
theorem dX8_dual_47 : decode cX8_dual 47 = .ok (.getfield 172, 3) := by decide +kernel
theorem dX8_dual_50 : decode cX8_dual 50 = .ok (.iconst 2, 1) := by decide +kernel
theorem dX8_dual_51 : decode cX8_dual 51 = .ok (.iload_n 1, 1) := by decide +kernel
theorem dX8_dual_52 : decode cX8_dual 52 = .ok (.imul, 1) := by decide +kernel
theorem dX8_dual_53 : decode cX8_dual 53 = .ok (.iload_n 2, 1) := by decide +kernel
theorem dX8_dual_54 : decode cX8_dual 54 = .ok (.iadd, 1) := by decide +kernel
theorem dX8_dual_55 : decode cX8_dual 55 = .ok (.iaload, 1) := by decide +kernel
theorem dX8_dual_56 : decode cX8_dual 56 = .ok (.ireturn, 1) := by decide +kernel
theorem dX8_dualBack_10 : decode cX8_dualBack 10 = .ok (.aload_n 0, 1) := by decide +kernel
theorem dX8_dualBack_11 : decode cX8_dualBack 11 = .ok (.invokevirtual 141, 3) := by decide +kernel
theorem dX8_dualBack_14 : decode cX8_dualBack 14 = .ok (.aload_n 0, 1) := by decide +kernel
theorem dX8_dualBack_15 : decode cX8_dualBack 15 = .ok (.invokevirtual 144, 3) := by decide +kernel
theorem dX8_dualBack_18 : decode cX8_dualBack 18 = .ok (.aload_n 0, 1) := by decide +kernel
theorem dX8_dualBack_19 : decode cX8_dualBack 19 = .ok (.getfield 60, 3) := by decide +kernel
theorem dX8_dualBack_22 : decode cX8_dualBack 22 = .ok (.aload_n 0, 1) := by decide +kernel
theorem dX8_dualBack_23 : decode cX8_dualBack 23 = .ok (.getfield 56, 3) := by decide +kernel
theorem dX8_dualBack_26 : decode cX8_dualBack 26 = .ok (.getfield 154, 3) := by decide +kernel
theorem dX8_dualBack_29 : decode cX8_dualBack 29 = .ok (.invokevirtual 175, 3) := by decide +kernel
theorem dX8_dualBack_32 : decode cX8_dualBack 32 = .ok (.aload_n 0, 1) := by decide +kernel
theorem dX8_dualBack_33 : decode cX8_dualBack 33 = .ok (.getfield 60, 3) := by decide +kernel
theorem dX8_dualBack_36 : decode cX8_dualBack 36 = .ok (.getfield 154, 3) := by decide +kernel
theorem dX8_dualBack_39 : decode cX8_dualBack 39 = .ok (.astore_n 1, 1) := by decide +kernel
theorem dX8_dualBack_40 : decode cX8_dualBack 40 = .ok (.aload_n 1, 1) := by decide +kernel
theorem dX8_dualBack_41 : decode cX8_dualBack 41 = .ok (.getfield 157, 3) := by decide +kernel
theorem dX8_dualBack_44 : decode cX8_dualBack 44 = .ok (.aload_n 0, 1) := by decide +kernel
theorem dX8_dualBack_45 : decode cX8_dualBack 45 = .ok (.getfield 12, 3) := by decide +kernel
theorem dX8_dualBack_48 : decode cX8_dualBack 48 = .ok (.getfield 81, 3) := by decide +kernel
theorem dX8_dualBack_51 : decode cX8_dualBack 51 = .ok (.if_icmp .eq 5, 3) := by decide +kernel
theorem dX8_dualBack_54 : decode cX8_dualBack 54 = .ok (.iconst 0, 1) := by decide +kernel
theorem dX8_dualBack_55 : decode cX8_dualBack 55 = .ok (.ireturn, 1) := by decide +kernel
theorem dX8_dualBack_56 : decode cX8_dualBack 56 = .ok (.iconst 0, 1) := by decide +kernel
theorem dX8_dualBack_57 : decode cX8_dualBack 57 = .ok (.istore_n 2, 1) := by decide +kernel
theorem dX8_dualBack_58 : decode cX8_dualBack 58 = .ok (.iload_n 2, 1) := by decide +kernel
theorem dX8_dualBack_59 : decode cX8_dualBack 59 = .ok (.aload_n 1, 1) := by decide +kernel
theorem dX8_dualBack_60 : decode cX8_dualBack 60 = .ok (.getfield 157, 3) := by decide +kernel
theorem dX8_dualBack_63 : decode cX8_dualBack 63 = .ok (.if_icmp .ge 20, 3) := by decide +kernel
theorem dX8_dualBack_66 : decode cX8_dualBack 66 = .ok (.aload_n 0, 1) := by decide +kernel
theorem dX8_dualBack_67 : decode cX8_dualBack 67 = .ok (.aload_n 1, 1) := by decide +kernel
theorem dX8_dualBack_68 : decode cX8_dualBack 68 = .ok (.iload_n 2, 1) := by decide +kernel
theorem dX8_dualBack_69 : decode cX8_dualBack 69 = .ok (.invokevirtual 179, 3) := by decide +kernel
theorem dX8_dualBack_72 : decode cX8_dualBack 72 = .ok (.ifCond .ne 5, 3) := by decide +kernel
theorem dX8_dualBack_75 : decode cX8_dualBack 75 = .ok (.iconst 0, 1) := by decide +kernel
theorem dX8_dualBack_76 : decode cX8_dualBack 76 = .ok (.ireturn, 1) := by decide +kernel
theorem dX8_dualBack_77 : decode cX8_dualBack 77 = .ok (.iinc 2 1, 3) := by decide +kernel
theorem dX8_dualBack_80 : decode cX8_dualBack 80 = .ok (.goto (-22), 3) := by decide +kernel
theorem dX8_dualBack_83 : decode cX8_dualBack 83 = .ok (.iconst 1, 1) := by decide +kernel
theorem dX8_dualBack_84 : decode cX8_dualBack 84 = .ok (.ireturn, 1) := by decide +kernel
theorem dX8_face_7 : decode cX8_face 7 = .ok (.bipush (-3), 2) := by decide +kernel
theorem dX8_face_9 : decode cX8_face 9 = .ok (.ireturn, 1) := by decide +kernel
theorem dX8_face_33 : decode cX8_face 33 = .ok (.aload_n 0, 1) := by decide +kernel
theorem dX8_face_34 : decode cX8_face 34 = .ok (.getfield 56, 3) := by decide +kernel
theorem dX8_face_37 : decode cX8_face 37 = .ok (.getfield 154, 3) := by decide +kernel
theorem dX8_face_40 : decode cX8_face 40 = .ok (.iload_n 1, 1) := by decide +kernel
theorem dX8_face_41 : decode cX8_face 41 = .ok (.iload_n 2, 1) := by decide +kernel
theorem dX8_face_42 : decode cX8_face 42 = .ok (.invokevirtual 151, 3) := by decide +kernel
theorem dX8_face_45 : decode cX8_face 45 = .ok (.goto 4, 3) := by decide +kernel
theorem dX8_faces_7 : decode cX8_faces 7 = .ok (.bipush (-3), 2) := by decide +kernel
theorem dX8_faces_9 : decode cX8_faces 9 = .ok (.ireturn, 1) := by decide +kernel
theorem dX8_hasBit_0 : decode cX8_hasBit 0 = .ok (.iload_n 0, 1) := by decide +kernel
theorem dX8_hasBit_1 : decode cX8_hasBit 1 = .ok (.iload_n 1, 1) := by decide +kernel
theorem dX8_hasBit_2 : decode cX8_hasBit 2 = .ok (.iushr, 1) := by decide +kernel
theorem dX8_hasBit_3 : decode cX8_hasBit 3 = .ok (.iconst 1, 1) := by decide +kernel
theorem dX8_hasBit_4 : decode cX8_hasBit 4 = .ok (.iand, 1) := by decide +kernel
theorem dX8_hasBit_5 : decode cX8_hasBit 5 = .ok (.ifCond .eq 7, 3) := by decide +kernel
theorem dX8_hasBit_8 : decode cX8_hasBit 8 = .ok (.iconst 1, 1) := by decide +kernel
theorem dX8_hasBit_9 : decode cX8_hasBit 9 = .ok (.goto 4, 3) := by decide +kernel
theorem dX8_hasBit_12 : decode cX8_hasBit 12 = .ok (.iconst 0, 1) := by decide +kernel
theorem dX8_hasBit_13 : decode cX8_hasBit 13 = .ok (.ireturn, 1) := by decide +kernel
theorem dX8_hasDual_17 : decode cX8_hasDual 17 = .ok (.aload_n 0, 1) := by decide +kernel
theorem dX8_hasDual_18 : decode cX8_hasDual 18 = .ok (.invokevirtual 232, 3) := by decide +kernel
theorem dX8_hasDual_21 : decode cX8_hasDual 21 = .ok (.iconst 1, 1) := by decide +kernel
theorem dX8_hasDual_22 : decode cX8_hasDual 22 = .ok (.if_icmp .ne 7, 3) := by decide +kernel
theorem dX8_hasDual_25 : decode cX8_hasDual 25 = .ok (.iconst 1, 1) := by decide +kernel
theorem dX8_hasDual_26 : decode cX8_hasDual 26 = .ok (.goto 4, 3) := by decide +kernel
theorem dX8_hasEndsOfOneNode_0 : decode cX8_hasEndsOfOneNode 0 = .ok (.aload_n 1, 1) := by decide +kernel
theorem dX8_hasEndsOfOneNode_1 : decode cX8_hasEndsOfOneNode 1 = .ok (.iload_n 2, 1) := by decide +kernel
theorem dX8_hasEndsOfOneNode_2 : decode cX8_hasEndsOfOneNode 2 = .ok (.invokevirtual 138, 3) := by decide +kernel
theorem dX8_hasEndsOfOneNode_5 : decode cX8_hasEndsOfOneNode 5 = .ok (.istore_n 3, 1) := by decide +kernel
theorem dX8_hasEndsOfOneNode_6 : decode cX8_hasEndsOfOneNode 6 = .ok (.iload_n 3, 1) := by decide +kernel
theorem dX8_hasEndsOfOneNode_7 : decode cX8_hasEndsOfOneNode 7 = .ok (.ifCond .ne 5, 3) := by decide +kernel
theorem dX8_hasEndsOfOneNode_10 : decode cX8_hasEndsOfOneNode 10 = .ok (.iconst 0, 1) := by decide +kernel
theorem dX8_hasEndsOfOneNode_11 : decode cX8_hasEndsOfOneNode 11 = .ok (.ireturn, 1) := by decide +kernel
theorem dX8_hasEndsOfOneNode_12 : decode cX8_hasEndsOfOneNode 12 = .ok (.aload_n 0, 1) := by decide +kernel
theorem dX8_hasEndsOfOneNode_13 : decode cX8_hasEndsOfOneNode 13 = .ok (.getfield 12, 3) := by decide +kernel
theorem dX8_hasEndsOfOneNode_16 : decode cX8_hasEndsOfOneNode 16 = .ok (.getfield 113, 3) := by decide +kernel
theorem dX8_hasEndsOfOneNode_19 : decode cX8_hasEndsOfOneNode 19 = .ok (.aload_n 1, 1) := by decide +kernel
theorem dX8_hasEndsOfOneNode_20 : decode cX8_hasEndsOfOneNode 20 = .ok (.iload_n 2, 1) := by decide +kernel
theorem dX8_hasEndsOfOneNode_21 : decode cX8_hasEndsOfOneNode 21 = .ok (.iconst 0, 1) := by decide +kernel
theorem dX8_hasEndsOfOneNode_22 : decode cX8_hasEndsOfOneNode 22 = .ok (.invokevirtual 151, 3) := by decide +kernel
theorem dX8_hasEndsOfOneNode_25 : decode cX8_hasEndsOfOneNode 25 = .ok (.iaload, 1) := by decide +kernel
theorem dX8_hasEndsOfOneNode_26 : decode cX8_hasEndsOfOneNode 26 = .ok (.istore 4, 2) := by decide +kernel
theorem dX8_hasEndsOfOneNode_28 : decode cX8_hasEndsOfOneNode 28 = .ok (.iconst 1, 1) := by decide +kernel
theorem dX8_hasEndsOfOneNode_29 : decode cX8_hasEndsOfOneNode 29 = .ok (.istore 5, 2) := by decide +kernel
theorem dX8_hasEndsOfOneNode_31 : decode cX8_hasEndsOfOneNode 31 = .ok (.iload 5, 2) := by decide +kernel
theorem dX8_hasEndsOfOneNode_33 : decode cX8_hasEndsOfOneNode 33 = .ok (.iload_n 3, 1) := by decide +kernel
theorem dX8_hasEndsOfOneNode_34 : decode cX8_hasEndsOfOneNode 34 = .ok (.if_icmp .ge 31, 3) := by decide +kernel
theorem dX8_hasEndsOfOneNode_37 : decode cX8_hasEndsOfOneNode 37 = .ok (.aload_n 0, 1) := by decide +kernel
theorem dX8_hasEndsOfOneNode_38 : decode cX8_hasEndsOfOneNode 38 = .ok (.getfield 12, 3) := by decide +kernel
theorem dX8_hasEndsOfOneNode_41 : decode cX8_hasEndsOfOneNode 41 = .ok (.getfield 113, 3) := by decide +kernel
theorem dX8_hasEndsOfOneNode_44 : decode cX8_hasEndsOfOneNode 44 = .ok (.aload_n 1, 1) := by decide +kernel
theorem dX8_hasEndsOfOneNode_45 : decode cX8_hasEndsOfOneNode 45 = .ok (.iload_n 2, 1) := by decide +kernel
theorem dX8_hasEndsOfOneNode_46 : decode cX8_hasEndsOfOneNode 46 = .ok (.iload 5, 2) := by decide +kernel
theorem dX8_hasEndsOfOneNode_48 : decode cX8_hasEndsOfOneNode 48 = .ok (.invokevirtual 151, 3) := by decide +kernel
theorem dX8_hasEndsOfOneNode_51 : decode cX8_hasEndsOfOneNode 51 = .ok (.iaload, 1) := by decide +kernel
theorem dX8_hasEndsOfOneNode_52 : decode cX8_hasEndsOfOneNode 52 = .ok (.iload 4, 2) := by decide +kernel
theorem dX8_hasEndsOfOneNode_54 : decode cX8_hasEndsOfOneNode 54 = .ok (.if_icmp .eq 5, 3) := by decide +kernel
theorem dX8_hasEndsOfOneNode_57 : decode cX8_hasEndsOfOneNode 57 = .ok (.iconst 0, 1) := by decide +kernel
theorem dX8_hasEndsOfOneNode_58 : decode cX8_hasEndsOfOneNode 58 = .ok (.ireturn, 1) := by decide +kernel
theorem dX8_hasEndsOfOneNode_59 : decode cX8_hasEndsOfOneNode 59 = .ok (.iinc 5 1, 3) := by decide +kernel
theorem dX8_hasEndsOfOneNode_62 : decode cX8_hasEndsOfOneNode 62 = .ok (.goto (-31), 3) := by decide +kernel
theorem dX8_hasEndsOfOneNode_65 : decode cX8_hasEndsOfOneNode 65 = .ok (.iload_n 3, 1) := by decide +kernel
theorem dX8_hasEndsOfOneNode_66 : decode cX8_hasEndsOfOneNode 66 = .ok (.aload_n 0, 1) := by decide +kernel
theorem dX8_hasEndsOfOneNode_67 : decode cX8_hasEndsOfOneNode 67 = .ok (.getfield 19, 3) := by decide +kernel
theorem dX8_hasEndsOfOneNode_70 : decode cX8_hasEndsOfOneNode 70 = .ok (.iload 4, 2) := by decide +kernel
theorem dX8_hasEndsOfOneNode_72 : decode cX8_hasEndsOfOneNode 72 = .ok (.invokevirtual 138, 3) := by decide +kernel
theorem dX8_hasEndsOfOneNode_75 : decode cX8_hasEndsOfOneNode 75 = .ok (.if_icmp .ne 7, 3) := by decide +kernel
theorem dX8_hasEndsOfOneNode_78 : decode cX8_hasEndsOfOneNode 78 = .ok (.iconst 1, 1) := by decide +kernel
theorem dX8_hasEndsOfOneNode_79 : decode cX8_hasEndsOfOneNode 79 = .ok (.goto 4, 3) := by decide +kernel
theorem dX8_hasEndsOfOneNode_82 : decode cX8_hasEndsOfOneNode 82 = .ok (.iconst 0, 1) := by decide +kernel
theorem dX8_hasEndsOfOneNode_83 : decode cX8_hasEndsOfOneNode 83 = .ok (.ireturn, 1) := by decide +kernel
theorem dX8_haveMorePoints_0 : decode cX8_haveMorePoints 0 = .ok (.aload_n 0, 1) := by decide +kernel
theorem dX8_haveMorePoints_1 : decode cX8_haveMorePoints 1 = .ok (.getfield 12, 3) := by decide +kernel
theorem dX8_haveMorePoints_4 : decode cX8_haveMorePoints 4 = .ok (.getfield 113, 3) := by decide +kernel
theorem dX8_haveMorePoints_7 : decode cX8_haveMorePoints 7 = .ok (.iconst 2, 1) := by decide +kernel
theorem dX8_haveMorePoints_8 : decode cX8_haveMorePoints 8 = .ok (.iload_n 1, 1) := by decide +kernel
theorem dX8_haveMorePoints_9 : decode cX8_haveMorePoints 9 = .ok (.imul, 1) := by decide +kernel
theorem dX8_haveMorePoints_10 : decode cX8_haveMorePoints 10 = .ok (.iaload, 1) := by decide +kernel
theorem dX8_haveMorePoints_11 : decode cX8_haveMorePoints 11 = .ok (.istore_n 3, 1) := by decide +kernel
theorem dX8_haveMorePoints_12 : decode cX8_haveMorePoints 12 = .ok (.aload_n 0, 1) := by decide +kernel
theorem dX8_haveMorePoints_13 : decode cX8_haveMorePoints 13 = .ok (.getfield 12, 3) := by decide +kernel
theorem dX8_haveMorePoints_16 : decode cX8_haveMorePoints 16 = .ok (.getfield 113, 3) := by decide +kernel
theorem dX8_haveMorePoints_19 : decode cX8_haveMorePoints 19 = .ok (.iconst 2, 1) := by decide +kernel
theorem dX8_haveMorePoints_20 : decode cX8_haveMorePoints 20 = .ok (.iload_n 1, 1) := by decide +kernel
theorem dX8_haveMorePoints_21 : decode cX8_haveMorePoints 21 = .ok (.imul, 1) := by decide +kernel
theorem dX8_haveMorePoints_22 : decode cX8_haveMorePoints 22 = .ok (.iconst 1, 1) := by decide +kernel
theorem dX8_haveMorePoints_23 : decode cX8_haveMorePoints 23 = .ok (.iadd, 1) := by decide +kernel
theorem dX8_haveMorePoints_24 : decode cX8_haveMorePoints 24 = .ok (.iaload, 1) := by decide +kernel
theorem dX8_haveMorePoints_25 : decode cX8_haveMorePoints 25 = .ok (.istore 4, 2) := by decide +kernel
theorem dX8_haveMorePoints_27 : decode cX8_haveMorePoints 27 = .ok (.aload_n 0, 1) := by decide +kernel
theorem dX8_haveMorePoints_28 : decode cX8_haveMorePoints 28 = .ok (.getfield 12, 3) := by decide +kernel
theorem dX8_haveMorePoints_31 : decode cX8_haveMorePoints 31 = .ok (.getfield 113, 3) := by decide +kernel
theorem dX8_haveMorePoints_34 : decode cX8_haveMorePoints 34 = .ok (.iconst 2, 1) := by decide +kernel
theorem dX8_haveMorePoints_35 : decode cX8_haveMorePoints 35 = .ok (.iload_n 2, 1) := by decide +kernel
theorem dX8_haveMorePoints_36 : decode cX8_haveMorePoints 36 = .ok (.imul, 1) := by decide +kernel
theorem dX8_haveMorePoints_37 : decode cX8_haveMorePoints 37 = .ok (.iaload, 1) := by decide +kernel
theorem dX8_haveMorePoints_38 : decode cX8_haveMorePoints 38 = .ok (.istore 5, 2) := by decide +kernel
theorem dX8_haveMorePoints_40 : decode cX8_haveMorePoints 40 = .ok (.aload_n 0, 1) := by decide +kernel
theorem dX8_haveMorePoints_41 : decode cX8_haveMorePoints 41 = .ok (.getfield 12, 3) := by decide +kernel
theorem dX8_haveMorePoints_44 : decode cX8_haveMorePoints 44 = .ok (.getfield 113, 3) := by decide +kernel
theorem dX8_haveMorePoints_47 : decode cX8_haveMorePoints 47 = .ok (.iconst 2, 1) := by decide +kernel
theorem dX8_haveMorePoints_48 : decode cX8_haveMorePoints 48 = .ok (.iload_n 2, 1) := by decide +kernel
theorem dX8_haveMorePoints_49 : decode cX8_haveMorePoints 49 = .ok (.imul, 1) := by decide +kernel
theorem dX8_haveMorePoints_50 : decode cX8_haveMorePoints 50 = .ok (.iconst 1, 1) := by decide +kernel
theorem dX8_haveMorePoints_51 : decode cX8_haveMorePoints 51 = .ok (.iadd, 1) := by decide +kernel
theorem dX8_haveMorePoints_52 : decode cX8_haveMorePoints 52 = .ok (.iaload, 1) := by decide +kernel
theorem dX8_haveMorePoints_53 : decode cX8_haveMorePoints 53 = .ok (.istore 6, 2) := by decide +kernel
theorem dX8_haveMorePoints_55 : decode cX8_haveMorePoints 55 = .ok (.iload_n 3, 1) := by decide +kernel
theorem dX8_haveMorePoints_56 : decode cX8_haveMorePoints 56 = .ok (.iload 5, 2) := by decide +kernel
theorem dX8_haveMorePoints_58 : decode cX8_haveMorePoints 58 = .ok (.if_icmp .ne 16, 3) := by decide +kernel
theorem dX8_haveMorePoints_61 : decode cX8_haveMorePoints 61 = .ok (.aload_n 0, 1) := by decide +kernel
theorem dX8_haveMorePoints_62 : decode cX8_haveMorePoints 62 = .ok (.getfield 68, 3) := by decide +kernel
theorem dX8_haveMorePoints_65 : decode cX8_haveMorePoints 65 = .ok (.iload_n 3, 1) := by decide +kernel
theorem dX8_haveMorePoints_66 : decode cX8_haveMorePoints 66 = .ok (.iload 4, 2) := by decide +kernel
theorem dX8_haveMorePoints_68 : decode cX8_haveMorePoints 68 = .ok (.iload 6, 2) := by decide +kernel
theorem dX8_haveMorePoints_70 : decode cX8_haveMorePoints 70 = .ok (.invokevirtual 302, 3) := by decide +kernel
theorem dX8_haveMorePoints_73 : decode cX8_haveMorePoints 73 = .ok (.ireturn, 1) := by decide +kernel
theorem dX8_haveMorePoints_74 : decode cX8_haveMorePoints 74 = .ok (.iload_n 3, 1) := by decide +kernel
theorem dX8_haveMorePoints_75 : decode cX8_haveMorePoints 75 = .ok (.iload 6, 2) := by decide +kernel
theorem dX8_haveMorePoints_77 : decode cX8_haveMorePoints 77 = .ok (.if_icmp .ne 16, 3) := by decide +kernel
theorem dX8_haveMorePoints_80 : decode cX8_haveMorePoints 80 = .ok (.aload_n 0, 1) := by decide +kernel
theorem dX8_haveMorePoints_81 : decode cX8_haveMorePoints 81 = .ok (.getfield 68, 3) := by decide +kernel
theorem dX8_haveMorePoints_84 : decode cX8_haveMorePoints 84 = .ok (.iload_n 3, 1) := by decide +kernel
theorem dX8_haveMorePoints_85 : decode cX8_haveMorePoints 85 = .ok (.iload 4, 2) := by decide +kernel
theorem dX8_haveMorePoints_87 : decode cX8_haveMorePoints 87 = .ok (.iload 5, 2) := by decide +kernel
theorem dX8_haveMorePoints_89 : decode cX8_haveMorePoints 89 = .ok (.invokevirtual 302, 3) := by decide +kernel
theorem dX8_haveMorePoints_92 : decode cX8_haveMorePoints 92 = .ok (.ireturn, 1) := by decide +kernel
theorem dX8_haveMorePoints_93 : decode cX8_haveMorePoints 93 = .ok (.iload 4, 2) := by decide +kernel
theorem dX8_haveMorePoints_95 : decode cX8_haveMorePoints 95 = .ok (.iload 5, 2) := by decide +kernel
theorem dX8_haveMorePoints_97 : decode cX8_haveMorePoints 97 = .ok (.if_icmp .ne 16, 3) := by decide +kernel
theorem dX8_haveMorePoints_100 : decode cX8_haveMorePoints 100 = .ok (.aload_n 0, 1) := by decide +kernel
theorem dX8_haveMorePoints_101 : decode cX8_haveMorePoints 101 = .ok (.getfield 68, 3) := by decide +kernel
theorem dX8_haveMorePoints_104 : decode cX8_haveMorePoints 104 = .ok (.iload 4, 2) := by decide +kernel
theorem dX8_haveMorePoints_106 : decode cX8_haveMorePoints 106 = .ok (.iload_n 3, 1) := by decide +kernel
theorem dX8_haveMorePoints_107 : decode cX8_haveMorePoints 107 = .ok (.iload 6, 2) := by decide +kernel
theorem dX8_haveMorePoints_109 : decode cX8_haveMorePoints 109 = .ok (.invokevirtual 302, 3) := by decide +kernel
theorem dX8_haveMorePoints_112 : decode cX8_haveMorePoints 112 = .ok (.ireturn, 1) := by decide +kernel
theorem dX8_haveMorePoints_113 : decode cX8_haveMorePoints 113 = .ok (.iload 4, 2) := by decide +kernel
theorem dX8_haveMorePoints_115 : decode cX8_haveMorePoints 115 = .ok (.iload 6, 2) := by decide +kernel
theorem dX8_haveMorePoints_117 : decode cX8_haveMorePoints 117 = .ok (.if_icmp .ne 16, 3) := by decide +kernel
theorem dX8_haveMorePoints_120 : decode cX8_haveMorePoints 120 = .ok (.aload_n 0, 1) := by decide +kernel
theorem dX8_haveMorePoints_121 : decode cX8_haveMorePoints 121 = .ok (.getfield 68, 3) := by decide +kernel
theorem dX8_haveMorePoints_124 : decode cX8_haveMorePoints 124 = .ok (.iload 4, 2) := by decide +kernel
theorem dX8_haveMorePoints_126 : decode cX8_haveMorePoints 126 = .ok (.iload_n 3, 1) := by decide +kernel
theorem dX8_haveMorePoints_127 : decode cX8_haveMorePoints 127 = .ok (.iload 5, 2) := by decide +kernel
theorem dX8_haveMorePoints_129 : decode cX8_haveMorePoints 129 = .ok (.invokevirtual 302, 3) := by decide +kernel
theorem dX8_haveMorePoints_132 : decode cX8_haveMorePoints 132 = .ok (.ireturn, 1) := by decide +kernel
theorem dX8_haveMorePoints_133 : decode cX8_haveMorePoints 133 = .ok (.aload_n 0, 1) := by decide +kernel
theorem dX8_haveMorePoints_134 : decode cX8_haveMorePoints 134 = .ok (.getfield 68, 3) := by decide +kernel
theorem dX8_haveMorePoints_137 : decode cX8_haveMorePoints 137 = .ok (.iload_n 3, 1) := by decide +kernel
theorem dX8_haveMorePoints_138 : decode cX8_haveMorePoints 138 = .ok (.iload 4, 2) := by decide +kernel
theorem dX8_haveMorePoints_140 : decode cX8_haveMorePoints 140 = .ok (.iload 5, 2) := by decide +kernel
theorem dX8_haveMorePoints_142 : decode cX8_haveMorePoints 142 = .ok (.iload 6, 2) := by decide +kernel
theorem dX8_haveMorePoints_144 : decode cX8_haveMorePoints 144 = .ok (.invokevirtual 306, 3) := by decide +kernel
theorem dX8_haveMorePoints_147 : decode cX8_haveMorePoints 147 = .ok (.ireturn, 1) := by decide +kernel
theorem dX8_isPlane_56 : decode cX8_isPlane 56 = .ok (.iconst 0, 1) := by decide +kernel
theorem dX8_layAlike_0 : decode cX8_layAlike 0 = .ok (.iconst 0, 1) := by decide +kernel
theorem dX8_layAlike_1 : decode cX8_layAlike 1 = .ok (.istore_n 3, 1) := by decide +kernel
theorem dX8_layAlike_2 : decode cX8_layAlike 2 = .ok (.iload_n 3, 1) := by decide +kernel
theorem dX8_layAlike_3 : decode cX8_layAlike 3 = .ok (.aload_n 0, 1) := by decide +kernel
theorem dX8_layAlike_4 : decode cX8_layAlike 4 = .ok (.getfield 12, 3) := by decide +kernel
theorem dX8_layAlike_7 : decode cX8_layAlike 7 = .ok (.getfield 99, 3) := by decide +kernel
theorem dX8_layAlike_10 : decode cX8_layAlike 10 = .ok (.if_icmp .ge 59, 3) := by decide +kernel
theorem dX8_layAlike_13 : decode cX8_layAlike 13 = .ok (.iload_n 1, 1) := by decide +kernel
theorem dX8_layAlike_14 : decode cX8_layAlike 14 = .ok (.iload_n 2, 1) := by decide +kernel
theorem dX8_layAlike_15 : decode cX8_layAlike 15 = .ok (.if_icmp .ge 7, 3) := by decide +kernel
theorem dX8_layAlike_18 : decode cX8_layAlike 18 = .ok (.iload_n 3, 1) := by decide +kernel
theorem dX8_layAlike_19 : decode cX8_layAlike 19 = .ok (.goto 14, 3) := by decide +kernel
theorem dX8_layAlike_22 : decode cX8_layAlike 22 = .ok (.aload_n 0, 1) := by decide +kernel
theorem dX8_layAlike_23 : decode cX8_layAlike 23 = .ok (.getfield 12, 3) := by decide +kernel
theorem dX8_layAlike_26 : decode cX8_layAlike 26 = .ok (.getfield 99, 3) := by decide +kernel
theorem dX8_layAlike_29 : decode cX8_layAlike 29 = .ok (.iconst 1, 1) := by decide +kernel
theorem dX8_layAlike_30 : decode cX8_layAlike 30 = .ok (.isub, 1) := by decide +kernel
theorem dX8_layAlike_31 : decode cX8_layAlike 31 = .ok (.iload_n 3, 1) := by decide +kernel
theorem dX8_layAlike_32 : decode cX8_layAlike 32 = .ok (.isub, 1) := by decide +kernel
theorem dX8_layAlike_33 : decode cX8_layAlike 33 = .ok (.istore 4, 2) := by decide +kernel
theorem dX8_layAlike_35 : decode cX8_layAlike 35 = .ok (.aload_n 0, 1) := by decide +kernel
theorem dX8_layAlike_36 : decode cX8_layAlike 36 = .ok (.getfield 12, 3) := by decide +kernel
theorem dX8_layAlike_39 : decode cX8_layAlike 39 = .ok (.iload_n 1, 1) := by decide +kernel
theorem dX8_layAlike_40 : decode cX8_layAlike 40 = .ok (.iload_n 2, 1) := by decide +kernel
theorem dX8_layAlike_41 : decode cX8_layAlike 41 = .ok (.iload 4, 2) := by decide +kernel
theorem dX8_layAlike_43 : decode cX8_layAlike 43 = .ok (.invokevirtual 286, 3) := by decide +kernel
theorem dX8_layAlike_46 : decode cX8_layAlike 46 = .ok (.istore 5, 2) := by decide +kernel
theorem dX8_layAlike_48 : decode cX8_layAlike 48 = .ok (.iload 5, 2) := by decide +kernel
theorem dX8_layAlike_50 : decode cX8_layAlike 50 = .ok (.ifCond .lt 13, 3) := by decide +kernel
theorem dX8_layAlike_53 : decode cX8_layAlike 53 = .ok (.aload_n 0, 1) := by decide +kernel
theorem dX8_layAlike_54 : decode cX8_layAlike 54 = .ok (.getfield 50, 3) := by decide +kernel
theorem dX8_layAlike_57 : decode cX8_layAlike 57 = .ok (.iload_n 1, 1) := by decide +kernel
theorem dX8_layAlike_58 : decode cX8_layAlike 58 = .ok (.iload 5, 2) := by decide +kernel
theorem dX8_layAlike_60 : decode cX8_layAlike 60 = .ok (.invokevirtual 106, 3) := by decide +kernel
theorem dX8_layAlike_63 : decode cX8_layAlike 63 = .ok (.iinc 3 1, 3) := by decide +kernel
theorem dX8_layAlike_66 : decode cX8_layAlike 66 = .ok (.goto (-64), 3) := by decide +kernel
theorem dX8_layAlike_69 : decode cX8_layAlike 69 = .ok (.return_, 1) := by decide +kernel
theorem dX8_layLoops_0 : decode cX8_layLoops 0 = .ok (.iconst 0, 1) := by decide +kernel
theorem dX8_layLoops_1 : decode cX8_layLoops 1 = .ok (.istore_n 2, 1) := by decide +kernel
theorem dX8_layLoops_2 : decode cX8_layLoops 2 = .ok (.iload_n 2, 1) := by decide +kernel
theorem dX8_layLoops_3 : decode cX8_layLoops 3 = .ok (.aload_n 0, 1) := by decide +kernel
theorem dX8_layLoops_4 : decode cX8_layLoops 4 = .ok (.getfield 12, 3) := by decide +kernel
theorem dX8_layLoops_7 : decode cX8_layLoops 7 = .ok (.getfield 99, 3) := by decide +kernel
theorem dX8_layLoops_10 : decode cX8_layLoops 10 = .ok (.if_icmp .ge 46, 3) := by decide +kernel
theorem dX8_layLoops_13 : decode cX8_layLoops 13 = .ok (.aload_n 0, 1) := by decide +kernel
theorem dX8_layLoops_14 : decode cX8_layLoops 14 = .ok (.getfield 12, 3) := by decide +kernel
theorem dX8_layLoops_17 : decode cX8_layLoops 17 = .ok (.iload_n 1, 1) := by decide +kernel
theorem dX8_layLoops_18 : decode cX8_layLoops 18 = .ok (.iload_n 1, 1) := by decide +kernel
theorem dX8_layLoops_19 : decode cX8_layLoops 19 = .ok (.iload_n 2, 1) := by decide +kernel
theorem dX8_layLoops_20 : decode cX8_layLoops 20 = .ok (.invokevirtual 286, 3) := by decide +kernel
theorem dX8_layLoops_23 : decode cX8_layLoops 23 = .ok (.ifCond .lt 27, 3) := by decide +kernel
theorem dX8_layLoops_26 : decode cX8_layLoops 26 = .ok (.aload_n 0, 1) := by decide +kernel
theorem dX8_layLoops_27 : decode cX8_layLoops 27 = .ok (.getfield 50, 3) := by decide +kernel
theorem dX8_layLoops_30 : decode cX8_layLoops 30 = .ok (.iload_n 1, 1) := by decide +kernel
theorem dX8_layLoops_31 : decode cX8_layLoops 31 = .ok (.iconst 2, 1) := by decide +kernel
theorem dX8_layLoops_32 : decode cX8_layLoops 32 = .ok (.iload_n 2, 1) := by decide +kernel
theorem dX8_layLoops_33 : decode cX8_layLoops 33 = .ok (.imul, 1) := by decide +kernel
theorem dX8_layLoops_34 : decode cX8_layLoops 34 = .ok (.invokevirtual 106, 3) := by decide +kernel
theorem dX8_layLoops_37 : decode cX8_layLoops 37 = .ok (.aload_n 0, 1) := by decide +kernel
theorem dX8_layLoops_38 : decode cX8_layLoops 38 = .ok (.getfield 50, 3) := by decide +kernel
theorem dX8_layLoops_41 : decode cX8_layLoops 41 = .ok (.iload_n 1, 1) := by decide +kernel
theorem dX8_layLoops_42 : decode cX8_layLoops 42 = .ok (.iconst 2, 1) := by decide +kernel
theorem dX8_layLoops_43 : decode cX8_layLoops 43 = .ok (.iload_n 2, 1) := by decide +kernel
theorem dX8_layLoops_44 : decode cX8_layLoops 44 = .ok (.imul, 1) := by decide +kernel
theorem dX8_layLoops_45 : decode cX8_layLoops 45 = .ok (.iconst 1, 1) := by decide +kernel
theorem dX8_layLoops_46 : decode cX8_layLoops 46 = .ok (.iadd, 1) := by decide +kernel
theorem dX8_layLoops_47 : decode cX8_layLoops 47 = .ok (.invokevirtual 106, 3) := by decide +kernel
theorem dX8_layLoops_50 : decode cX8_layLoops 50 = .ok (.iinc 2 1, 3) := by decide +kernel
theorem dX8_layLoops_53 : decode cX8_layLoops 53 = .ok (.goto (-51), 3) := by decide +kernel
theorem dX8_layLoops_56 : decode cX8_layLoops 56 = .ok (.return_, 1) := by decide +kernel
theorem dX8_layNeighbours_0 : decode cX8_layNeighbours 0 = .ok (.aload_n 0, 1) := by decide +kernel
theorem dX8_layNeighbours_1 : decode cX8_layNeighbours 1 = .ok (.getfield 37, 3) := by decide +kernel
theorem dX8_layNeighbours_4 : decode cX8_layNeighbours 4 = .ok (.getfield 160, 3) := by decide +kernel
theorem dX8_layNeighbours_7 : decode cX8_layNeighbours 7 = .ok (.iload_n 1, 1) := by decide +kernel
theorem dX8_layNeighbours_8 : decode cX8_layNeighbours 8 = .ok (.iaload, 1) := by decide +kernel
theorem dX8_layNeighbours_9 : decode cX8_layNeighbours 9 = .ok (.invokestatic 161, 3) := by decide +kernel
theorem dX8_layNeighbours_12 : decode cX8_layNeighbours 12 = .ok (.istore_n 2, 1) := by decide +kernel
theorem dX8_layNeighbours_13 : decode cX8_layNeighbours 13 = .ok (.aload_n 0, 1) := by decide +kernel
theorem dX8_layNeighbours_14 : decode cX8_layNeighbours 14 = .ok (.getfield 37, 3) := by decide +kernel
theorem dX8_layNeighbours_17 : decode cX8_layNeighbours 17 = .ok (.getfield 160, 3) := by decide +kernel
theorem dX8_layNeighbours_20 : decode cX8_layNeighbours 20 = .ok (.iload_n 1, 1) := by decide +kernel
theorem dX8_layNeighbours_21 : decode cX8_layNeighbours 21 = .ok (.iaload, 1) := by decide +kernel
theorem dX8_layNeighbours_22 : decode cX8_layNeighbours 22 = .ok (.invokestatic 274, 3) := by decide +kernel
theorem dX8_layNeighbours_25 : decode cX8_layNeighbours 25 = .ok (.istore_n 3, 1) := by decide +kernel
theorem dX8_layNeighbours_26 : decode cX8_layNeighbours 26 = .ok (.iconst 0, 1) := by decide +kernel
theorem dX8_layNeighbours_27 : decode cX8_layNeighbours 27 = .ok (.istore 4, 2) := by decide +kernel
theorem dX8_layNeighbours_29 : decode cX8_layNeighbours 29 = .ok (.iload 4, 2) := by decide +kernel
theorem dX8_layNeighbours_31 : decode cX8_layNeighbours 31 = .ok (.iload_n 2, 1) := by decide +kernel
theorem dX8_layNeighbours_32 : decode cX8_layNeighbours 32 = .ok (.if_icmp .ge 41, 3) := by decide +kernel
theorem dX8_layNeighbours_35 : decode cX8_layNeighbours 35 = .ok (.aload_n 0, 1) := by decide +kernel
theorem dX8_layNeighbours_36 : decode cX8_layNeighbours 36 = .ok (.getfield 12, 3) := by decide +kernel
theorem dX8_layNeighbours_39 : decode cX8_layNeighbours 39 = .ok (.getfield 131, 3) := by decide +kernel
theorem dX8_layNeighbours_42 : decode cX8_layNeighbours 42 = .ok (.iload_n 1, 1) := by decide +kernel
theorem dX8_layNeighbours_43 : decode cX8_layNeighbours 43 = .ok (.iaload, 1) := by decide +kernel
theorem dX8_layNeighbours_44 : decode cX8_layNeighbours 44 = .ok (.iload_n 3, 1) := by decide +kernel
theorem dX8_layNeighbours_45 : decode cX8_layNeighbours 45 = .ok (.invokestatic 277, 3) := by decide +kernel
theorem dX8_layNeighbours_48 : decode cX8_layNeighbours 48 = .ok (.ifCond .eq 9, 3) := by decide +kernel
theorem dX8_layNeighbours_51 : decode cX8_layNeighbours 51 = .ok (.aload_n 0, 1) := by decide +kernel
theorem dX8_layNeighbours_52 : decode cX8_layNeighbours 52 = .ok (.iload_n 1, 1) := by decide +kernel
theorem dX8_layNeighbours_53 : decode cX8_layNeighbours 53 = .ok (.iload_n 3, 1) := by decide +kernel
theorem dX8_layNeighbours_54 : decode cX8_layNeighbours 54 = .ok (.invokevirtual 280, 3) := by decide +kernel
theorem dX8_layNeighbours_57 : decode cX8_layNeighbours 57 = .ok (.aload_n 0, 1) := by decide +kernel
theorem dX8_layNeighbours_58 : decode cX8_layNeighbours 58 = .ok (.getfield 46, 3) := by decide +kernel
theorem dX8_layNeighbours_61 : decode cX8_layNeighbours 61 = .ok (.iload_n 1, 1) := by decide +kernel
theorem dX8_layNeighbours_62 : decode cX8_layNeighbours 62 = .ok (.iload_n 3, 1) := by decide +kernel
theorem dX8_layNeighbours_63 : decode cX8_layNeighbours 63 = .ok (.invokevirtual 283, 3) := by decide +kernel
theorem dX8_layNeighbours_66 : decode cX8_layNeighbours 66 = .ok (.istore_n 3, 1) := by decide +kernel
theorem dX8_layNeighbours_67 : decode cX8_layNeighbours 67 = .ok (.iinc 4 1, 3) := by decide +kernel
theorem dX8_layNeighbours_70 : decode cX8_layNeighbours 70 = .ok (.goto (-41), 3) := by decide +kernel
theorem dX8_layNeighbours_73 : decode cX8_layNeighbours 73 = .ok (.return_, 1) := by decide +kernel
theorem dX8_lowest_0 : decode cX8_lowest 0 = .ok (.iload_n 0, 1) := by decide +kernel
theorem dX8_lowest_1 : decode cX8_lowest 1 = .ok (.iconst (-1), 1) := by decide +kernel
theorem dX8_lowest_2 : decode cX8_lowest 2 = .ok (.ixor, 1) := by decide +kernel
theorem dX8_lowest_3 : decode cX8_lowest 3 = .ok (.iload_n 0, 1) := by decide +kernel
theorem dX8_lowest_4 : decode cX8_lowest 4 = .ok (.iconst 1, 1) := by decide +kernel
theorem dX8_lowest_5 : decode cX8_lowest 5 = .ok (.isub, 1) := by decide +kernel
theorem dX8_lowest_6 : decode cX8_lowest 6 = .ok (.iand, 1) := by decide +kernel
theorem dX8_lowest_7 : decode cX8_lowest 7 = .ok (.invokestatic 161, 3) := by decide +kernel
theorem dX8_lowest_10 : decode cX8_lowest 10 = .ok (.ireturn, 1) := by decide +kernel
theorem dX8_makePiece_0 : decode cX8_makePiece 0 = .ok (.aload_n 0, 1) := by decide +kernel
theorem dX8_makePiece_1 : decode cX8_makePiece 1 = .ok (.getfield 248, 3) := by decide +kernel
theorem dX8_makePiece_4 : decode cX8_makePiece 4 = .ok (.ifCond .ne 23, 3) := by decide +kernel
theorem dX8_makePiece_7 : decode cX8_makePiece 7 = .ok (.aload_n 0, 1) := by decide +kernel
theorem dX8_makePiece_8 : decode cX8_makePiece 8 = .ok (.getfield 77, 3) := by decide +kernel
theorem dX8_makePiece_11 : decode cX8_makePiece 11 = .ok (.aload_n 0, 1) := by decide +kernel
theorem dX8_makePiece_12 : decode cX8_makePiece 12 = .ok (.getfield 23, 3) := by decide +kernel
theorem dX8_makePiece_15 : decode cX8_makePiece 15 = .ok (.aload_n 0, 1) := by decide +kernel
theorem dX8_makePiece_16 : decode cX8_makePiece 16 = .ok (.getfield 30, 3) := by decide +kernel
theorem dX8_makePiece_19 : decode cX8_makePiece 19 = .ok (.invokevirtual 291, 3) := by decide +kernel
theorem dX8_makePiece_22 : decode cX8_makePiece 22 = .ok (.aload_n 0, 1) := by decide +kernel
theorem dX8_makePiece_23 : decode cX8_makePiece 23 = .ok (.iconst 1, 1) := by decide +kernel
theorem dX8_makePiece_24 : decode cX8_makePiece 24 = .ok (.putfield 248, 3) := by decide +kernel
theorem dX8_makePiece_27 : decode cX8_makePiece 27 = .ok (.return_, 1) := by decide +kernel
theorem dX8_makeTurns_7 : decode cX8_makeTurns 7 = .ok (.return_, 1) := by decide +kernel
theorem dX8_makeTurns_28 : decode cX8_makeTurns 28 = .ok (.aload_n 0, 1) := by decide +kernel
theorem dX8_makeTurns_29 : decode cX8_makeTurns 29 = .ok (.getfield 50, 3) := by decide +kernel
theorem dX8_makeTurns_32 : decode cX8_makeTurns 32 = .ok (.invokevirtual 88, 3) := by decide +kernel
theorem dX8_makeTurns_35 : decode cX8_makeTurns 35 = .ok (.aload_n 0, 1) := by decide +kernel
theorem dX8_makeTurns_36 : decode cX8_makeTurns 36 = .ok (.iload_n 1, 1) := by decide +kernel
theorem dX8_makeTurns_37 : decode cX8_makeTurns 37 = .ok (.invokevirtual 267, 3) := by decide +kernel
theorem dX8_makeTurns_40 : decode cX8_makeTurns 40 = .ok (.aload_n 0, 1) := by decide +kernel
theorem dX8_makeTurns_41 : decode cX8_makeTurns 41 = .ok (.iload_n 1, 1) := by decide +kernel
theorem dX8_makeTurns_42 : decode cX8_makeTurns 42 = .ok (.invokevirtual 271, 3) := by decide +kernel
theorem dX8_makeTurns_45 : decode cX8_makeTurns 45 = .ok (.iinc 1 1, 3) := by decide +kernel
theorem dX8_makeTurns_48 : decode cX8_makeTurns 48 = .ok (.goto (-31), 3) := by decide +kernel
theorem dX8_node_12 : decode cX8_node 12 = .ok (.bipush (-4), 2) := by decide +kernel
theorem dX8_node_14 : decode cX8_node 14 = .ok (.ireturn, 1) := by decide +kernel
theorem dX8_outer_26 : decode cX8_outer 26 = .ok (.aload_n 0, 1) := by decide +kernel
theorem dX8_outer_27 : decode cX8_outer 27 = .ok (.getfield 23, 3) := by decide +kernel
theorem dX8_outer_30 : decode cX8_outer 30 = .ok (.iload_n 2, 1) := by decide +kernel
theorem dX8_outer_31 : decode cX8_outer 31 = .ok (.aload_n 0, 1) := by decide +kernel
theorem dX8_outer_32 : decode cX8_outer 32 = .ok (.getfield 12, 3) := by decide +kernel
theorem dX8_outer_35 : decode cX8_outer 35 = .ok (.getfield 131, 3) := by decide +kernel
theorem dX8_outer_38 : decode cX8_outer 38 = .ok (.iload_n 2, 1) := by decide +kernel
theorem dX8_outer_39 : decode cX8_outer 39 = .ok (.iaload, 1) := by decide +kernel
theorem dX8_outer_40 : decode cX8_outer 40 = .ok (.iconst 1, 1) := by decide +kernel
theorem dX8_outer_41 : decode cX8_outer 41 = .ok (.iload_n 1, 1) := by decide +kernel
theorem dX8_outer_42 : decode cX8_outer 42 = .ok (.ishl, 1) := by decide +kernel
theorem dX8_outer_43 : decode cX8_outer 43 = .ok (.ior, 1) := by decide +kernel
theorem dX8_outer_44 : decode cX8_outer 44 = .ok (.iastore, 1) := by decide +kernel
theorem dX8_outer_45 : decode cX8_outer 45 = .ok (.iinc 2 1, 3) := by decide +kernel
theorem dX8_outer_48 : decode cX8_outer 48 = .ok (.goto (-27), 3) := by decide +kernel
theorem dX8_outer_72 : decode cX8_outer 72 = .ok (.iconst 0, 1) := by decide +kernel
theorem dX8_piece_10 : decode cX8_piece 10 = .ok (.aload_n 0, 1) := by decide +kernel
theorem dX8_piece_11 : decode cX8_piece 11 = .ok (.invokevirtual 198, 3) := by decide +kernel
theorem dX8_piece_14 : decode cX8_piece 14 = .ok (.aload_n 0, 1) := by decide +kernel
theorem dX8_piece_15 : decode cX8_piece 15 = .ok (.getfield 77, 3) := by decide +kernel
theorem dX8_piece_18 : decode cX8_piece 18 = .ok (.iload_n 1, 1) := by decide +kernel
theorem dX8_piece_19 : decode cX8_piece 19 = .ok (.invokevirtual 201, 3) := by decide +kernel
theorem dX8_piece_22 : decode cX8_piece 22 = .ok (.ireturn, 1) := by decide +kernel
theorem dX8_place_13 : decode cX8_place 13 = .ok (.iload_n 2, 1) := by decide +kernel
theorem dX8_place_14 : decode cX8_place 14 = .ok (.ifCond .lt 8, 3) := by decide +kernel
theorem dX8_place_17 : decode cX8_place 17 = .ok (.iload_n 2, 1) := by decide +kernel
theorem dX8_place_18 : decode cX8_place 18 = .ok (.iconst 1, 1) := by decide +kernel
theorem dX8_place_19 : decode cX8_place 19 = .ok (.if_icmp .le 6, 3) := by decide +kernel
theorem dX8_place_22 : decode cX8_place 22 = .ok (.bipush (-2), 2) := by decide +kernel
theorem dX8_place_24 : decode cX8_place 24 = .ok (.ireturn, 1) := by decide +kernel
theorem dX8_place_25 : decode cX8_place 25 = .ok (.aload_n 0, 1) := by decide +kernel
theorem dX8_place_26 : decode cX8_place 26 = .ok (.invokevirtual 127, 3) := by decide +kernel
theorem dX8_place_29 : decode cX8_place 29 = .ok (.ifCond .ne 6, 3) := by decide +kernel
theorem dX8_place_32 : decode cX8_place 32 = .ok (.bipush (-3), 2) := by decide +kernel
theorem dX8_place_34 : decode cX8_place 34 = .ok (.ireturn, 1) := by decide +kernel
theorem dX8_place_35 : decode cX8_place 35 = .ok (.aload_n 0, 1) := by decide +kernel
theorem dX8_place_36 : decode cX8_place 36 = .ok (.invokevirtual 141, 3) := by decide +kernel
theorem dX8_place_39 : decode cX8_place 39 = .ok (.aload_n 0, 1) := by decide +kernel
theorem dX8_place_40 : decode cX8_place 40 = .ok (.invokevirtual 183, 3) := by decide +kernel
theorem dX8_place_43 : decode cX8_place 43 = .ok (.iload_n 2, 1) := by decide +kernel
theorem dX8_place_44 : decode cX8_place 44 = .ok (.ifCond .ne 15, 3) := by decide +kernel
theorem dX8_place_47 : decode cX8_place 47 = .ok (.aload_n 0, 1) := by decide +kernel
theorem dX8_place_48 : decode cX8_place 48 = .ok (.getfield 68, 3) := by decide +kernel
theorem dX8_place_51 : decode cX8_place 51 = .ok (.getfield 186, 3) := by decide +kernel
theorem dX8_place_54 : decode cX8_place 54 = .ok (.iload_n 1, 1) := by decide +kernel
theorem dX8_place_55 : decode cX8_place 55 = .ok (.iaload, 1) := by decide +kernel
theorem dX8_place_56 : decode cX8_place 56 = .ok (.goto 12, 3) := by decide +kernel
theorem dX8_place_59 : decode cX8_place 59 = .ok (.aload_n 0, 1) := by decide +kernel
theorem dX8_place_60 : decode cX8_place 60 = .ok (.getfield 68, 3) := by decide +kernel
theorem dX8_place_63 : decode cX8_place 63 = .ok (.getfield 189, 3) := by decide +kernel
theorem dX8_place_66 : decode cX8_place 66 = .ok (.iload_n 1, 1) := by decide +kernel
theorem dX8_place_67 : decode cX8_place 67 = .ok (.iaload, 1) := by decide +kernel
theorem dX8_place_68 : decode cX8_place 68 = .ok (.ireturn, 1) := by decide +kernel
theorem dX8_reached_0 : decode cX8_reached 0 = .ok (.iconst 1, 1) := by decide +kernel
theorem dX8_reached_1 : decode cX8_reached 1 = .ok (.iload_n 1, 1) := by decide +kernel
theorem dX8_reached_2 : decode cX8_reached 2 = .ok (.ishl, 1) := by decide +kernel
theorem dX8_reached_3 : decode cX8_reached 3 = .ok (.istore_n 3, 1) := by decide +kernel
theorem dX8_reached_4 : decode cX8_reached 4 = .ok (.iload_n 3, 1) := by decide +kernel
theorem dX8_reached_5 : decode cX8_reached 5 = .ok (.istore 4, 2) := by decide +kernel
theorem dX8_reached_7 : decode cX8_reached 7 = .ok (.iconst 0, 1) := by decide +kernel
theorem dX8_reached_8 : decode cX8_reached 8 = .ok (.istore 5, 2) := by decide +kernel
theorem dX8_reached_10 : decode cX8_reached 10 = .ok (.iload 5, 2) := by decide +kernel
theorem dX8_reached_12 : decode cX8_reached 12 = .ok (.bipush 21, 2) := by decide +kernel
theorem dX8_reached_14 : decode cX8_reached 14 = .ok (.if_icmp .ge 52, 3) := by decide +kernel
theorem dX8_reached_17 : decode cX8_reached 17 = .ok (.iload 4, 2) := by decide +kernel
theorem dX8_reached_19 : decode cX8_reached 19 = .ok (.ifCond .eq 47, 3) := by decide +kernel
theorem dX8_reached_22 : decode cX8_reached 22 = .ok (.iload 4, 2) := by decide +kernel
theorem dX8_reached_24 : decode cX8_reached 24 = .ok (.invokestatic 274, 3) := by decide +kernel
theorem dX8_reached_27 : decode cX8_reached 27 = .ok (.istore 6, 2) := by decide +kernel
theorem dX8_reached_29 : decode cX8_reached 29 = .ok (.aload_n 0, 1) := by decide +kernel
theorem dX8_reached_30 : decode cX8_reached 30 = .ok (.iload 6, 2) := by decide +kernel
theorem dX8_reached_32 : decode cX8_reached 32 = .ok (.iaload, 1) := by decide +kernel
theorem dX8_reached_33 : decode cX8_reached 33 = .ok (.iload_n 2, 1) := by decide +kernel
theorem dX8_reached_34 : decode cX8_reached 34 = .ok (.iand, 1) := by decide +kernel
theorem dX8_reached_35 : decode cX8_reached 35 = .ok (.iload_n 3, 1) := by decide +kernel
theorem dX8_reached_36 : decode cX8_reached 36 = .ok (.iconst (-1), 1) := by decide +kernel
theorem dX8_reached_37 : decode cX8_reached 37 = .ok (.ixor, 1) := by decide +kernel
theorem dX8_reached_38 : decode cX8_reached 38 = .ok (.iand, 1) := by decide +kernel
theorem dX8_reached_39 : decode cX8_reached 39 = .ok (.istore 7, 2) := by decide +kernel
theorem dX8_reached_41 : decode cX8_reached 41 = .ok (.iload_n 3, 1) := by decide +kernel
theorem dX8_reached_42 : decode cX8_reached 42 = .ok (.iload 7, 2) := by decide +kernel
theorem dX8_reached_44 : decode cX8_reached 44 = .ok (.ior, 1) := by decide +kernel
theorem dX8_reached_45 : decode cX8_reached 45 = .ok (.istore_n 3, 1) := by decide +kernel
theorem dX8_reached_46 : decode cX8_reached 46 = .ok (.iload 4, 2) := by decide +kernel
theorem dX8_reached_48 : decode cX8_reached 48 = .ok (.iconst 1, 1) := by decide +kernel
theorem dX8_reached_49 : decode cX8_reached 49 = .ok (.iload 6, 2) := by decide +kernel
theorem dX8_reached_51 : decode cX8_reached 51 = .ok (.ishl, 1) := by decide +kernel
theorem dX8_reached_52 : decode cX8_reached 52 = .ok (.iconst (-1), 1) := by decide +kernel
theorem dX8_reached_53 : decode cX8_reached 53 = .ok (.ixor, 1) := by decide +kernel
theorem dX8_reached_54 : decode cX8_reached 54 = .ok (.iand, 1) := by decide +kernel
theorem dX8_reached_55 : decode cX8_reached 55 = .ok (.iload 7, 2) := by decide +kernel
theorem dX8_reached_57 : decode cX8_reached 57 = .ok (.ior, 1) := by decide +kernel
theorem dX8_reached_58 : decode cX8_reached 58 = .ok (.istore 4, 2) := by decide +kernel
theorem dX8_reached_60 : decode cX8_reached 60 = .ok (.iinc 5 1, 3) := by decide +kernel
theorem dX8_reached_63 : decode cX8_reached 63 = .ok (.goto (-53), 3) := by decide +kernel
theorem dX8_reached_66 : decode cX8_reached 66 = .ok (.iload_n 3, 1) := by decide +kernel
theorem dX8_reached_67 : decode cX8_reached 67 = .ok (.ireturn, 1) := by decide +kernel
theorem dX8_round_13 : decode cX8_round 13 = .ok (.aload_n 0, 1) := by decide +kernel
theorem dX8_round_14 : decode cX8_round 14 = .ok (.invokevirtual 127, 3) := by decide +kernel
theorem dX8_round_17 : decode cX8_round 17 = .ok (.ifCond .ne 6, 3) := by decide +kernel
theorem dX8_round_20 : decode cX8_round 20 = .ok (.bipush (-3), 2) := by decide +kernel
theorem dX8_round_22 : decode cX8_round 22 = .ok (.ireturn, 1) := by decide +kernel
theorem dX8_round_23 : decode cX8_round 23 = .ok (.aload_n 0, 1) := by decide +kernel
theorem dX8_round_24 : decode cX8_round 24 = .ok (.invokevirtual 141, 3) := by decide +kernel
theorem dX8_round_27 : decode cX8_round 27 = .ok (.iload_n 2, 1) := by decide +kernel
theorem dX8_round_28 : decode cX8_round 28 = .ok (.ifCond .lt 19, 3) := by decide +kernel
theorem dX8_round_31 : decode cX8_round 31 = .ok (.iload_n 2, 1) := by decide +kernel
theorem dX8_round_32 : decode cX8_round 32 = .ok (.aload_n 0, 1) := by decide +kernel
theorem dX8_round_33 : decode cX8_round 33 = .ok (.getfield 37, 3) := by decide +kernel
theorem dX8_round_36 : decode cX8_round 36 = .ok (.getfield 160, 3) := by decide +kernel
theorem dX8_round_39 : decode cX8_round 39 = .ok (.iload_n 1, 1) := by decide +kernel
theorem dX8_round_40 : decode cX8_round 40 = .ok (.iaload, 1) := by decide +kernel
theorem dX8_round_41 : decode cX8_round 41 = .ok (.invokestatic 161, 3) := by decide +kernel
theorem dX8_round_44 : decode cX8_round 44 = .ok (.if_icmp .lt 5, 3) := by decide +kernel
theorem dX8_round_47 : decode cX8_round 47 = .ok (.iconst (-1), 1) := by decide +kernel
theorem dX8_round_48 : decode cX8_round 48 = .ok (.ireturn, 1) := by decide +kernel
theorem dX8_round_49 : decode cX8_round 49 = .ok (.aload_n 0, 1) := by decide +kernel
theorem dX8_round_50 : decode cX8_round 50 = .ok (.getfield 46, 3) := by decide +kernel
theorem dX8_round_53 : decode cX8_round 53 = .ok (.iload_n 1, 1) := by decide +kernel
theorem dX8_round_54 : decode cX8_round 54 = .ok (.iload_n 2, 1) := by decide +kernel
theorem dX8_round_55 : decode cX8_round 55 = .ok (.invokevirtual 166, 3) := by decide +kernel
theorem dX8_round_58 : decode cX8_round 58 = .ok (.ireturn, 1) := by decide +kernel
theorem dX8_strand_13 : decode cX8_strand 13 = .ok (.aload_n 0, 1) := by decide +kernel
theorem dX8_strand_14 : decode cX8_strand 14 = .ok (.invokevirtual 127, 3) := by decide +kernel
theorem dX8_strand_17 : decode cX8_strand 17 = .ok (.ifCond .eq 6, 3) := by decide +kernel
theorem dX8_strand_20 : decode cX8_strand 20 = .ok (.bipush (-3), 2) := by decide +kernel
theorem dX8_strand_22 : decode cX8_strand 22 = .ok (.ireturn, 1) := by decide +kernel
theorem dX8_strand_23 : decode cX8_strand 23 = .ok (.aload_n 0, 1) := by decide +kernel
theorem dX8_strand_24 : decode cX8_strand 24 = .ok (.invokevirtual 198, 3) := by decide +kernel
theorem dX8_strand_27 : decode cX8_strand 27 = .ok (.aload_n 0, 1) := by decide +kernel
theorem dX8_strand_28 : decode cX8_strand 28 = .ok (.getfield 77, 3) := by decide +kernel
theorem dX8_strand_31 : decode cX8_strand 31 = .ok (.getfield 210, 3) := by decide +kernel
theorem dX8_strand_34 : decode cX8_strand 34 = .ok (.iload_n 1, 1) := by decide +kernel
theorem dX8_strand_35 : decode cX8_strand 35 = .ok (.baload, 1) := by decide +kernel
theorem dX8_strand_36 : decode cX8_strand 36 = .ok (.ifCond .ne 6, 3) := by decide +kernel
theorem dX8_strand_39 : decode cX8_strand 39 = .ok (.bipush (-3), 2) := by decide +kernel
theorem dX8_strand_41 : decode cX8_strand 41 = .ok (.ireturn, 1) := by decide +kernel
theorem dX8_strand_42 : decode cX8_strand 42 = .ok (.aload_n 0, 1) := by decide +kernel
theorem dX8_strand_43 : decode cX8_strand 43 = .ok (.getfield 77, 3) := by decide +kernel
theorem dX8_strand_46 : decode cX8_strand 46 = .ok (.iconst 2, 1) := by decide +kernel
theorem dX8_strand_47 : decode cX8_strand 47 = .ok (.iload_n 1, 1) := by decide +kernel
theorem dX8_strand_48 : decode cX8_strand 48 = .ok (.imul, 1) := by decide +kernel
theorem dX8_strand_49 : decode cX8_strand 49 = .ok (.invokevirtual 214, 3) := by decide +kernel
theorem dX8_strand_52 : decode cX8_strand 52 = .ok (.istore_n 2, 1) := by decide +kernel
theorem dX8_strand_53 : decode cX8_strand 53 = .ok (.aload_n 0, 1) := by decide +kernel
theorem dX8_strand_54 : decode cX8_strand 54 = .ok (.getfield 77, 3) := by decide +kernel
theorem dX8_strand_57 : decode cX8_strand 57 = .ok (.iconst 2, 1) := by decide +kernel
theorem dX8_strand_58 : decode cX8_strand 58 = .ok (.iload_n 1, 1) := by decide +kernel
theorem dX8_strand_59 : decode cX8_strand 59 = .ok (.imul, 1) := by decide +kernel
theorem dX8_strand_60 : decode cX8_strand 60 = .ok (.iconst 1, 1) := by decide +kernel
theorem dX8_strand_61 : decode cX8_strand 61 = .ok (.iadd, 1) := by decide +kernel
theorem dX8_strand_62 : decode cX8_strand 62 = .ok (.invokevirtual 214, 3) := by decide +kernel
theorem dX8_strand_65 : decode cX8_strand 65 = .ok (.istore_n 3, 1) := by decide +kernel
theorem dX8_strand_66 : decode cX8_strand 66 = .ok (.bipush 32, 2) := by decide +kernel
theorem dX8_strand_68 : decode cX8_strand 68 = .ok (.iload_n 2, 1) := by decide +kernel
theorem dX8_strand_69 : decode cX8_strand 69 = .ok (.iload_n 3, 1) := by decide +kernel
theorem dX8_strand_70 : decode cX8_strand 70 = .ok (.invokestatic 217, 3) := by decide +kernel
theorem dX8_strand_73 : decode cX8_strand 73 = .ok (.imul, 1) := by decide +kernel
theorem dX8_strand_74 : decode cX8_strand 74 = .ok (.iload_n 2, 1) := by decide +kernel
theorem dX8_strand_75 : decode cX8_strand 75 = .ok (.iload_n 3, 1) := by decide +kernel
theorem dX8_strand_76 : decode cX8_strand 76 = .ok (.invokestatic 222, 3) := by decide +kernel
theorem dX8_strand_79 : decode cX8_strand 79 = .ok (.iadd, 1) := by decide +kernel
theorem dX8_strand_80 : decode cX8_strand 80 = .ok (.ireturn, 1) := by decide +kernel
theorem dX8_swap_11 : decode cX8_swap 11 = .ok (.aload_n 0, 1) := by decide +kernel
theorem dX8_swap_12 : decode cX8_swap 12 = .ok (.getfield 19, 3) := by decide +kernel
theorem dX8_swap_15 : decode cX8_swap 15 = .ok (.iload_n 1, 1) := by decide +kernel
theorem dX8_swap_16 : decode cX8_swap 16 = .ok (.iload_n 2, 1) := by decide +kernel
theorem dX8_swap_17 : decode cX8_swap 17 = .ok (.invokevirtual 147, 3) := by decide +kernel
theorem dX8_swap_20 : decode cX8_swap 20 = .ok (.ifCond .eq 15, 3) := by decide +kernel
theorem dX8_swap_23 : decode cX8_swap 23 = .ok (.aload_n 0, 1) := by decide +kernel
theorem dX8_swap_24 : decode cX8_swap 24 = .ok (.getfield 19, 3) := by decide +kernel
theorem dX8_swap_27 : decode cX8_swap 27 = .ok (.iload_n 1, 1) := by decide +kernel
theorem dX8_swap_28 : decode cX8_swap 28 = .ok (.iload_n 3, 1) := by decide +kernel
theorem dX8_swap_29 : decode cX8_swap 29 = .ok (.invokevirtual 147, 3) := by decide +kernel
theorem dX8_swap_32 : decode cX8_swap 32 = .ok (.ifCond .ne 5, 3) := by decide +kernel
theorem dX8_swap_37 : decode cX8_swap 37 = .ok (.aload_n 0, 1) := by decide +kernel
theorem dX8_swap_38 : decode cX8_swap 38 = .ok (.getfield 19, 3) := by decide +kernel
theorem dX8_swap_41 : decode cX8_swap 41 = .ok (.iload_n 1, 1) := by decide +kernel
theorem dX8_swap_42 : decode cX8_swap 42 = .ok (.iload_n 2, 1) := by decide +kernel
theorem dX8_swap_43 : decode cX8_swap 43 = .ok (.iload_n 3, 1) := by decide +kernel
theorem dX8_swap_44 : decode cX8_swap 44 = .ok (.invokevirtual 225, 3) := by decide +kernel
theorem dX8_swap_47 : decode cX8_swap 47 = .ok (.iconst 1, 1) := by decide +kernel
theorem dX8_swap_48 : decode cX8_swap 48 = .ok (.ireturn, 1) := by decide +kernel
theorem dX8_take_7 : decode cX8_take 7 = .ok (.bipush (-3), 2) := by decide +kernel
theorem dX8_take_9 : decode cX8_take 9 = .ok (.ireturn, 1) := by decide +kernel
theorem dX8_test_11 : decode cX8_test 11 = .ok (.iconst 0, 1) := by decide +kernel
theorem dX8_told_11 : decode cX8_told 11 = .ok (.aload_n 0, 1) := by decide +kernel
theorem dX8_told_12 : decode cX8_told 12 = .ok (.getfield 19, 3) := by decide +kernel
theorem dX8_told_15 : decode cX8_told 15 = .ok (.iload_n 1, 1) := by decide +kernel
theorem dX8_told_16 : decode cX8_told 16 = .ok (.iload_n 2, 1) := by decide +kernel
theorem dX8_told_17 : decode cX8_told 17 = .ok (.invokevirtual 147, 3) := by decide +kernel
theorem dX8_told_20 : decode cX8_told 20 = .ok (.ifCond .ne 5, 3) := by decide +kernel
theorem dX8_told_25 : decode cX8_told 25 = .ok (.aload_n 0, 1) := by decide +kernel
theorem dX8_told_26 : decode cX8_told 26 = .ok (.getfield 19, 3) := by decide +kernel
theorem dX8_told_29 : decode cX8_told 29 = .ok (.iload_n 1, 1) := by decide +kernel
theorem dX8_told_30 : decode cX8_told 30 = .ok (.iload_n 2, 1) := by decide +kernel
theorem dX8_told_31 : decode cX8_told 31 = .ok (.invokevirtual 151, 3) := by decide +kernel
theorem dX8_told_34 : decode cX8_told 34 = .ok (.ireturn, 1) := by decide +kernel
theorem dX8_turn_13 : decode cX8_turn 13 = .ok (.aload_n 0, 1) := by decide +kernel
theorem dX8_turn_14 : decode cX8_turn 14 = .ok (.invokevirtual 127, 3) := by decide +kernel
theorem dX8_turn_17 : decode cX8_turn 17 = .ok (.ifCond .ne 6, 3) := by decide +kernel
theorem dX8_turn_20 : decode cX8_turn 20 = .ok (.bipush (-3), 2) := by decide +kernel
theorem dX8_turn_22 : decode cX8_turn 22 = .ok (.ireturn, 1) := by decide +kernel
theorem dX8_turn_23 : decode cX8_turn 23 = .ok (.aload_n 0, 1) := by decide +kernel
theorem dX8_turn_24 : decode cX8_turn 24 = .ok (.invokevirtual 141, 3) := by decide +kernel
theorem dX8_turn_27 : decode cX8_turn 27 = .ok (.aload_n 0, 1) := by decide +kernel
theorem dX8_turn_28 : decode cX8_turn 28 = .ok (.invokevirtual 144, 3) := by decide +kernel
theorem dX8_turn_31 : decode cX8_turn 31 = .ok (.aload_n 0, 1) := by decide +kernel
theorem dX8_turn_32 : decode cX8_turn 32 = .ok (.getfield 50, 3) := by decide +kernel
theorem dX8_turn_35 : decode cX8_turn 35 = .ok (.iload_n 1, 1) := by decide +kernel
theorem dX8_turn_36 : decode cX8_turn 36 = .ok (.iload_n 2, 1) := by decide +kernel
