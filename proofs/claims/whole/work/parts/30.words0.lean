theorem dJ6_bitCount_0f7a4_0 : decode cJ6_bitCount_0f7a4 0 = .ok (.iload_n 0, 1) := by decide +kernel
theorem dJ6_bitCount_0f7a4_1 : decode cJ6_bitCount_0f7a4 1 = .ok (.iload_n 0, 1) := by decide +kernel
theorem dJ6_bitCount_0f7a4_2 : decode cJ6_bitCount_0f7a4 2 = .ok (.iconst 1, 1) := by decide +kernel
theorem dJ6_bitCount_0f7a4_3 : decode cJ6_bitCount_0f7a4 3 = .ok (.iushr, 1) := by decide +kernel
theorem dJ6_bitCount_0f7a4_4 : decode cJ6_bitCount_0f7a4 4 = .ok (.ldc_w 265, 3) := by decide +kernel
theorem dJ6_bitCount_0f7a4_7 : decode cJ6_bitCount_0f7a4 7 = .ok (.iand, 1) := by decide +kernel
theorem dJ6_bitCount_0f7a4_8 : decode cJ6_bitCount_0f7a4 8 = .ok (.isub, 1) := by decide +kernel
theorem dJ6_bitCount_0f7a4_9 : decode cJ6_bitCount_0f7a4 9 = .ok (.istore_n 0, 1) := by decide +kernel
theorem dJ6_bitCount_0f7a4_10 : decode cJ6_bitCount_0f7a4 10 = .ok (.iload_n 0, 1) := by decide +kernel
theorem dJ6_bitCount_0f7a4_11 : decode cJ6_bitCount_0f7a4 11 = .ok (.ldc_w 266, 3) := by decide +kernel
theorem dJ6_bitCount_0f7a4_14 : decode cJ6_bitCount_0f7a4 14 = .ok (.iand, 1) := by decide +kernel
theorem dJ6_bitCount_0f7a4_15 : decode cJ6_bitCount_0f7a4 15 = .ok (.iload_n 0, 1) := by decide +kernel
theorem dJ6_bitCount_0f7a4_16 : decode cJ6_bitCount_0f7a4 16 = .ok (.iconst 2, 1) := by decide +kernel
theorem dJ6_bitCount_0f7a4_17 : decode cJ6_bitCount_0f7a4 17 = .ok (.iushr, 1) := by decide +kernel
theorem dJ6_bitCount_0f7a4_18 : decode cJ6_bitCount_0f7a4 18 = .ok (.ldc_w 266, 3) := by decide +kernel
theorem dJ6_bitCount_0f7a4_21 : decode cJ6_bitCount_0f7a4 21 = .ok (.iand, 1) := by decide +kernel
theorem dJ6_bitCount_0f7a4_22 : decode cJ6_bitCount_0f7a4 22 = .ok (.iadd, 1) := by decide +kernel
theorem dJ6_bitCount_0f7a4_23 : decode cJ6_bitCount_0f7a4 23 = .ok (.istore_n 0, 1) := by decide +kernel
theorem dJ6_bitCount_0f7a4_24 : decode cJ6_bitCount_0f7a4 24 = .ok (.iload_n 0, 1) := by decide +kernel
theorem dJ6_bitCount_0f7a4_25 : decode cJ6_bitCount_0f7a4 25 = .ok (.iload_n 0, 1) := by decide +kernel
theorem dJ6_bitCount_0f7a4_26 : decode cJ6_bitCount_0f7a4 26 = .ok (.iconst 4, 1) := by decide +kernel
theorem dJ6_bitCount_0f7a4_27 : decode cJ6_bitCount_0f7a4 27 = .ok (.iushr, 1) := by decide +kernel
theorem dJ6_bitCount_0f7a4_28 : decode cJ6_bitCount_0f7a4 28 = .ok (.iadd, 1) := by decide +kernel
theorem dJ6_bitCount_0f7a4_29 : decode cJ6_bitCount_0f7a4 29 = .ok (.ldc_w 267, 3) := by decide +kernel
theorem dJ6_bitCount_0f7a4_32 : decode cJ6_bitCount_0f7a4 32 = .ok (.iand, 1) := by decide +kernel
theorem dJ6_bitCount_0f7a4_33 : decode cJ6_bitCount_0f7a4 33 = .ok (.istore_n 0, 1) := by decide +kernel
theorem dJ6_bitCount_0f7a4_34 : decode cJ6_bitCount_0f7a4 34 = .ok (.iload_n 0, 1) := by decide +kernel
theorem dJ6_bitCount_0f7a4_35 : decode cJ6_bitCount_0f7a4 35 = .ok (.iload_n 0, 1) := by decide +kernel
theorem dJ6_bitCount_0f7a4_36 : decode cJ6_bitCount_0f7a4 36 = .ok (.bipush 8, 2) := by decide +kernel
theorem dJ6_bitCount_0f7a4_38 : decode cJ6_bitCount_0f7a4 38 = .ok (.iushr, 1) := by decide +kernel
theorem dJ6_bitCount_0f7a4_39 : decode cJ6_bitCount_0f7a4 39 = .ok (.iadd, 1) := by decide +kernel
theorem dJ6_bitCount_0f7a4_40 : decode cJ6_bitCount_0f7a4 40 = .ok (.istore_n 0, 1) := by decide +kernel
theorem dJ6_bitCount_0f7a4_41 : decode cJ6_bitCount_0f7a4 41 = .ok (.iload_n 0, 1) := by decide +kernel
theorem dJ6_bitCount_0f7a4_42 : decode cJ6_bitCount_0f7a4 42 = .ok (.iload_n 0, 1) := by decide +kernel
theorem dJ6_bitCount_0f7a4_43 : decode cJ6_bitCount_0f7a4 43 = .ok (.bipush 16, 2) := by decide +kernel
theorem dJ6_bitCount_0f7a4_45 : decode cJ6_bitCount_0f7a4 45 = .ok (.iushr, 1) := by decide +kernel
theorem dJ6_bitCount_0f7a4_46 : decode cJ6_bitCount_0f7a4 46 = .ok (.iadd, 1) := by decide +kernel
theorem dJ6_bitCount_0f7a4_47 : decode cJ6_bitCount_0f7a4 47 = .ok (.istore_n 0, 1) := by decide +kernel
theorem dJ6_bitCount_0f7a4_48 : decode cJ6_bitCount_0f7a4 48 = .ok (.iload_n 0, 1) := by decide +kernel
theorem dJ6_bitCount_0f7a4_49 : decode cJ6_bitCount_0f7a4 49 = .ok (.bipush 63, 2) := by decide +kernel
theorem dJ6_bitCount_0f7a4_51 : decode cJ6_bitCount_0f7a4 51 = .ok (.iand, 1) := by decide +kernel
theorem dJ6_bitCount_0f7a4_52 : decode cJ6_bitCount_0f7a4 52 = .ok (.ireturn, 1) := by decide +kernel
theorem dJ7_fill_d0a16_0 : decode cJ7_fill_d0a16 0 = .ok (.iconst 0, 1) := by decide +kernel
theorem dJ7_fill_d0a16_1 : decode cJ7_fill_d0a16 1 = .ok (.istore_n 3, 1) := by decide +kernel
theorem dJ7_fill_d0a16_2 : decode cJ7_fill_d0a16 2 = .ok (.aload_n 0, 1) := by decide +kernel
theorem dJ7_fill_d0a16_3 : decode cJ7_fill_d0a16 3 = .ok (.arraylength, 1) := by decide +kernel
theorem dJ7_fill_d0a16_4 : decode cJ7_fill_d0a16 4 = .ok (.istore 4, 2) := by decide +kernel
theorem dJ7_fill_d0a16_6 : decode cJ7_fill_d0a16 6 = .ok (.iload_n 3, 1) := by decide +kernel
theorem dJ7_fill_d0a16_7 : decode cJ7_fill_d0a16 7 = .ok (.iload 4, 2) := by decide +kernel
theorem dJ7_fill_d0a16_9 : decode cJ7_fill_d0a16 9 = .ok (.if_icmp .ge 13, 3) := by decide +kernel
theorem dJ7_fill_d0a16_12 : decode cJ7_fill_d0a16 12 = .ok (.aload_n 0, 1) := by decide +kernel
theorem dJ7_fill_d0a16_13 : decode cJ7_fill_d0a16 13 = .ok (.iload_n 3, 1) := by decide +kernel
theorem dJ7_fill_d0a16_14 : decode cJ7_fill_d0a16 14 = .ok (.lload_n 1, 1) := by decide +kernel
theorem dJ7_fill_d0a16_15 : decode cJ7_fill_d0a16 15 = .ok (.lastore, 1) := by decide +kernel
theorem dJ7_fill_d0a16_16 : decode cJ7_fill_d0a16 16 = .ok (.iinc 3 1, 3) := by decide +kernel
theorem dJ7_fill_d0a16_19 : decode cJ7_fill_d0a16 19 = .ok (.goto (-13), 3) := by decide +kernel
theorem dJ7_fill_d0a16_22 : decode cJ7_fill_d0a16 22 = .ok (.return_, 1) := by decide +kernel
theorem dX0_area_0 : decode cX0_area 0 = .ok (.aload_n 0, 1) := by decide +kernel
theorem dX0_area_1 : decode cX0_area 1 = .ok (.getfield 9, 3) := by decide +kernel
theorem dX0_area_4 : decode cX0_area 4 = .ok (.iload_n 2, 1) := by decide +kernel
theorem dX0_area_5 : decode cX0_area 5 = .ok (.iaload, 1) := by decide +kernel
theorem dX0_area_6 : decode cX0_area 6 = .ok (.aload_n 0, 1) := by decide +kernel
theorem dX0_area_7 : decode cX0_area 7 = .ok (.getfield 9, 3) := by decide +kernel
theorem dX0_area_10 : decode cX0_area 10 = .ok (.iload_n 1, 1) := by decide +kernel
theorem dX0_area_11 : decode cX0_area 11 = .ok (.iaload, 1) := by decide +kernel
theorem dX0_area_12 : decode cX0_area 12 = .ok (.isub, 1) := by decide +kernel
theorem dX0_area_13 : decode cX0_area 13 = .ok (.aload_n 0, 1) := by decide +kernel
theorem dX0_area_14 : decode cX0_area 14 = .ok (.getfield 15, 3) := by decide +kernel
theorem dX0_area_17 : decode cX0_area 17 = .ok (.iload_n 3, 1) := by decide +kernel
theorem dX0_area_18 : decode cX0_area 18 = .ok (.iaload, 1) := by decide +kernel
theorem dX0_area_19 : decode cX0_area 19 = .ok (.aload_n 0, 1) := by decide +kernel
theorem dX0_area_20 : decode cX0_area 20 = .ok (.getfield 15, 3) := by decide +kernel
theorem dX0_area_23 : decode cX0_area 23 = .ok (.iload_n 1, 1) := by decide +kernel
theorem dX0_area_24 : decode cX0_area 24 = .ok (.iaload, 1) := by decide +kernel
theorem dX0_area_25 : decode cX0_area 25 = .ok (.isub, 1) := by decide +kernel
theorem dX0_area_26 : decode cX0_area 26 = .ok (.imul, 1) := by decide +kernel
theorem dX0_area_27 : decode cX0_area 27 = .ok (.aload_n 0, 1) := by decide +kernel
theorem dX0_area_28 : decode cX0_area 28 = .ok (.getfield 9, 3) := by decide +kernel
theorem dX0_area_31 : decode cX0_area 31 = .ok (.iload_n 3, 1) := by decide +kernel
theorem dX0_area_32 : decode cX0_area 32 = .ok (.iaload, 1) := by decide +kernel
theorem dX0_area_33 : decode cX0_area 33 = .ok (.aload_n 0, 1) := by decide +kernel
theorem dX0_area_34 : decode cX0_area 34 = .ok (.getfield 9, 3) := by decide +kernel
theorem dX0_area_37 : decode cX0_area 37 = .ok (.iload_n 1, 1) := by decide +kernel
theorem dX0_area_38 : decode cX0_area 38 = .ok (.iaload, 1) := by decide +kernel
theorem dX0_area_39 : decode cX0_area 39 = .ok (.isub, 1) := by decide +kernel
theorem dX0_area_40 : decode cX0_area 40 = .ok (.aload_n 0, 1) := by decide +kernel
theorem dX0_area_41 : decode cX0_area 41 = .ok (.getfield 15, 3) := by decide +kernel
theorem dX0_area_44 : decode cX0_area 44 = .ok (.iload_n 2, 1) := by decide +kernel
theorem dX0_area_45 : decode cX0_area 45 = .ok (.iaload, 1) := by decide +kernel
theorem dX0_area_46 : decode cX0_area 46 = .ok (.aload_n 0, 1) := by decide +kernel
theorem dX0_area_47 : decode cX0_area 47 = .ok (.getfield 15, 3) := by decide +kernel
theorem dX0_area_50 : decode cX0_area 50 = .ok (.iload_n 1, 1) := by decide +kernel
theorem dX0_area_51 : decode cX0_area 51 = .ok (.iaload, 1) := by decide +kernel
theorem dX0_area_52 : decode cX0_area 52 = .ok (.isub, 1) := by decide +kernel
theorem dX0_area_53 : decode cX0_area 53 = .ok (.imul, 1) := by decide +kernel
theorem dX0_area_54 : decode cX0_area 54 = .ok (.isub, 1) := by decide +kernel
theorem dX0_area_55 : decode cX0_area 55 = .ok (.ireturn, 1) := by decide +kernel
theorem dX0_countAll_0 : decode cX0_countAll 0 = .ok (.aload_n 0, 1) := by decide +kernel
theorem dX0_countAll_1 : decode cX0_countAll 1 = .ok (.aload_n 0, 1) := by decide +kernel
theorem dX0_countAll_2 : decode cX0_countAll 2 = .ok (.getfield 18, 3) := by decide +kernel
theorem dX0_countAll_5 : decode cX0_countAll 5 = .ok (.aload_n 0, 1) := by decide +kernel
theorem dX0_countAll_6 : decode cX0_countAll 6 = .ok (.getfield 33, 3) := by decide +kernel
theorem dX0_countAll_9 : decode cX0_countAll 9 = .ok (.invokevirtual 115, 3) := by decide +kernel
theorem dX0_countAll_12 : decode cX0_countAll 12 = .ok (.aload_n 0, 1) := by decide +kernel
theorem dX0_countAll_13 : decode cX0_countAll 13 = .ok (.aload_n 0, 1) := by decide +kernel
theorem dX0_countAll_14 : decode cX0_countAll 14 = .ok (.getfield 21, 3) := by decide +kernel
theorem dX0_countAll_17 : decode cX0_countAll 17 = .ok (.aload_n 0, 1) := by decide +kernel
theorem dX0_countAll_18 : decode cX0_countAll 18 = .ok (.getfield 36, 3) := by decide +kernel
theorem dX0_countAll_21 : decode cX0_countAll 21 = .ok (.invokevirtual 115, 3) := by decide +kernel
theorem dX0_countAll_24 : decode cX0_countAll 24 = .ok (.iconst 0, 1) := by decide +kernel
theorem dX0_countAll_25 : decode cX0_countAll 25 = .ok (.istore_n 1, 1) := by decide +kernel
theorem dX0_countAll_26 : decode cX0_countAll 26 = .ok (.iload_n 1, 1) := by decide +kernel
theorem dX0_countAll_27 : decode cX0_countAll 27 = .ok (.aload_n 0, 1) := by decide +kernel
theorem dX0_countAll_28 : decode cX0_countAll 28 = .ok (.getfield 39, 3) := by decide +kernel
theorem dX0_countAll_31 : decode cX0_countAll 31 = .ok (.getfield 53, 3) := by decide +kernel
theorem dX0_countAll_34 : decode cX0_countAll 34 = .ok (.if_icmp .ge 71, 3) := by decide +kernel
theorem dX0_countAll_37 : decode cX0_countAll 37 = .ok (.iload_n 1, 1) := by decide +kernel
theorem dX0_countAll_38 : decode cX0_countAll 38 = .ok (.aload_n 0, 1) := by decide +kernel
theorem dX0_countAll_39 : decode cX0_countAll 39 = .ok (.getfield 69, 3) := by decide +kernel
theorem dX0_countAll_42 : decode cX0_countAll 42 = .ok (.if_icmp .eq 57, 3) := by decide +kernel
theorem dX0_countAll_45 : decode cX0_countAll 45 = .ok (.iload_n 1, 1) := by decide +kernel
theorem dX0_countAll_46 : decode cX0_countAll 46 = .ok (.aload_n 0, 1) := by decide +kernel
theorem dX0_countAll_47 : decode cX0_countAll 47 = .ok (.getfield 79, 3) := by decide +kernel
theorem dX0_countAll_50 : decode cX0_countAll 50 = .ok (.if_icmp .eq 49, 3) := by decide +kernel
theorem dX0_countAll_53 : decode cX0_countAll 53 = .ok (.iload_n 1, 1) := by decide +kernel
theorem dX0_countAll_54 : decode cX0_countAll 54 = .ok (.aload_n 0, 1) := by decide +kernel
theorem dX0_countAll_55 : decode cX0_countAll 55 = .ok (.getfield 88, 3) := by decide +kernel
theorem dX0_countAll_58 : decode cX0_countAll 58 = .ok (.if_icmp .eq 41, 3) := by decide +kernel
theorem dX0_countAll_61 : decode cX0_countAll 61 = .ok (.aload_n 0, 1) := by decide +kernel
theorem dX0_countAll_62 : decode cX0_countAll 62 = .ok (.getfield 9, 3) := by decide +kernel
theorem dX0_countAll_65 : decode cX0_countAll 65 = .ok (.iload_n 1, 1) := by decide +kernel
theorem dX0_countAll_66 : decode cX0_countAll 66 = .ok (.aload_n 0, 1) := by decide +kernel
theorem dX0_countAll_67 : decode cX0_countAll 67 = .ok (.iload_n 1, 1) := by decide +kernel
theorem dX0_countAll_68 : decode cX0_countAll 68 = .ok (.aload_n 0, 1) := by decide +kernel
theorem dX0_countAll_69 : decode cX0_countAll 69 = .ok (.getfield 21, 3) := by decide +kernel
theorem dX0_countAll_72 : decode cX0_countAll 72 = .ok (.aload_n 0, 1) := by decide +kernel
theorem dX0_countAll_73 : decode cX0_countAll 73 = .ok (.getfield 33, 3) := by decide +kernel
theorem dX0_countAll_76 : decode cX0_countAll 76 = .ok (.invokevirtual 119, 3) := by decide +kernel
theorem dX0_countAll_79 : decode cX0_countAll 79 = .ok (.iastore, 1) := by decide +kernel
theorem dX0_countAll_80 : decode cX0_countAll 80 = .ok (.aload_n 0, 1) := by decide +kernel
theorem dX0_countAll_81 : decode cX0_countAll 81 = .ok (.getfield 15, 3) := by decide +kernel
theorem dX0_countAll_84 : decode cX0_countAll 84 = .ok (.iload_n 1, 1) := by decide +kernel
theorem dX0_countAll_85 : decode cX0_countAll 85 = .ok (.aload_n 0, 1) := by decide +kernel
theorem dX0_countAll_86 : decode cX0_countAll 86 = .ok (.iload_n 1, 1) := by decide +kernel
theorem dX0_countAll_87 : decode cX0_countAll 87 = .ok (.aload_n 0, 1) := by decide +kernel
theorem dX0_countAll_88 : decode cX0_countAll 88 = .ok (.getfield 18, 3) := by decide +kernel
theorem dX0_countAll_91 : decode cX0_countAll 91 = .ok (.aload_n 0, 1) := by decide +kernel
theorem dX0_countAll_92 : decode cX0_countAll 92 = .ok (.getfield 36, 3) := by decide +kernel
theorem dX0_countAll_95 : decode cX0_countAll 95 = .ok (.invokevirtual 119, 3) := by decide +kernel
theorem dX0_countAll_98 : decode cX0_countAll 98 = .ok (.iastore, 1) := by decide +kernel
theorem dX0_countAll_99 : decode cX0_countAll 99 = .ok (.iinc 1 1, 3) := by decide +kernel
theorem dX0_countAll_102 : decode cX0_countAll 102 = .ok (.goto (-76), 3) := by decide +kernel
theorem dX0_countAll_105 : decode cX0_countAll 105 = .ok (.aload_n 0, 1) := by decide +kernel
theorem dX0_countAll_106 : decode cX0_countAll 106 = .ok (.getfield 9, 3) := by decide +kernel
theorem dX0_countAll_109 : decode cX0_countAll 109 = .ok (.aload_n 0, 1) := by decide +kernel
theorem dX0_countAll_110 : decode cX0_countAll 110 = .ok (.getfield 69, 3) := by decide +kernel
theorem dX0_countAll_113 : decode cX0_countAll 113 = .ok (.iconst 2, 1) := by decide +kernel
theorem dX0_countAll_114 : decode cX0_countAll 114 = .ok (.aload_n 0, 1) := by decide +kernel
theorem dX0_countAll_115 : decode cX0_countAll 115 = .ok (.getfield 39, 3) := by decide +kernel
theorem dX0_countAll_118 : decode cX0_countAll 118 = .ok (.getfield 53, 3) := by decide +kernel
theorem dX0_countAll_121 : decode cX0_countAll 121 = .ok (.imul, 1) := by decide +kernel
theorem dX0_countAll_122 : decode cX0_countAll 122 = .ok (.iconst 5, 1) := by decide +kernel
theorem dX0_countAll_123 : decode cX0_countAll 123 = .ok (.isub, 1) := by decide +kernel
theorem dX0_countAll_124 : decode cX0_countAll 124 = .ok (.iastore, 1) := by decide +kernel
theorem dX0_countAll_125 : decode cX0_countAll 125 = .ok (.aload_n 0, 1) := by decide +kernel
theorem dX0_countAll_126 : decode cX0_countAll 126 = .ok (.getfield 15, 3) := by decide +kernel
theorem dX0_countAll_129 : decode cX0_countAll 129 = .ok (.aload_n 0, 1) := by decide +kernel
theorem dX0_countAll_130 : decode cX0_countAll 130 = .ok (.getfield 79, 3) := by decide +kernel
theorem dX0_countAll_133 : decode cX0_countAll 133 = .ok (.iconst 2, 1) := by decide +kernel
theorem dX0_countAll_134 : decode cX0_countAll 134 = .ok (.aload_n 0, 1) := by decide +kernel
theorem dX0_countAll_135 : decode cX0_countAll 135 = .ok (.getfield 39, 3) := by decide +kernel
theorem dX0_countAll_138 : decode cX0_countAll 138 = .ok (.getfield 53, 3) := by decide +kernel
theorem dX0_countAll_141 : decode cX0_countAll 141 = .ok (.imul, 1) := by decide +kernel
theorem dX0_countAll_142 : decode cX0_countAll 142 = .ok (.iconst 5, 1) := by decide +kernel
theorem dX0_countAll_143 : decode cX0_countAll 143 = .ok (.isub, 1) := by decide +kernel
theorem dX0_countAll_144 : decode cX0_countAll 144 = .ok (.iastore, 1) := by decide +kernel
theorem dX0_countAll_145 : decode cX0_countAll 145 = .ok (.return_, 1) := by decide +kernel
theorem dX0_countOver_0 : decode cX0_countOver 0 = .ok (.aload_n 2, 1) := by decide +kernel
theorem dX0_countOver_1 : decode cX0_countOver 1 = .ok (.iconst 0, 1) := by decide +kernel
theorem dX0_countOver_2 : decode cX0_countOver 2 = .ok (.invokestatic 47, 3) := by decide +kernel
theorem dX0_countOver_5 : decode cX0_countOver 5 = .ok (.iconst 0, 1) := by decide +kernel
theorem dX0_countOver_6 : decode cX0_countOver 6 = .ok (.istore_n 3, 1) := by decide +kernel
theorem dX0_countOver_7 : decode cX0_countOver 7 = .ok (.iload_n 3, 1) := by decide +kernel
theorem dX0_countOver_8 : decode cX0_countOver 8 = .ok (.aload_n 0, 1) := by decide +kernel
theorem dX0_countOver_9 : decode cX0_countOver 9 = .ok (.getfield 39, 3) := by decide +kernel
theorem dX0_countOver_12 : decode cX0_countOver 12 = .ok (.getfield 53, 3) := by decide +kernel
theorem dX0_countOver_15 : decode cX0_countOver 15 = .ok (.if_icmp .ge 47, 3) := by decide +kernel
theorem dX0_countOver_18 : decode cX0_countOver 18 = .ok (.iload_n 3, 1) := by decide +kernel
theorem dX0_countOver_19 : decode cX0_countOver 19 = .ok (.istore 4, 2) := by decide +kernel
theorem dX0_countOver_21 : decode cX0_countOver 21 = .ok (.iconst 0, 1) := by decide +kernel
theorem dX0_countOver_22 : decode cX0_countOver 22 = .ok (.istore 5, 2) := by decide +kernel
theorem dX0_countOver_24 : decode cX0_countOver 24 = .ok (.iload 5, 2) := by decide +kernel
theorem dX0_countOver_26 : decode cX0_countOver 26 = .ok (.bipush 20, 2) := by decide +kernel
theorem dX0_countOver_28 : decode cX0_countOver 28 = .ok (.if_icmp .ge 28, 3) := by decide +kernel
theorem dX0_countOver_31 : decode cX0_countOver 31 = .ok (.iload 4, 2) := by decide +kernel
theorem dX0_countOver_33 : decode cX0_countOver 33 = .ok (.ifCond .lt 23, 3) := by decide +kernel
theorem dX0_countOver_36 : decode cX0_countOver 36 = .ok (.aload_n 2, 1) := by decide +kernel
theorem dX0_countOver_37 : decode cX0_countOver 37 = .ok (.iload 4, 2) := by decide +kernel
theorem dX0_countOver_39 : decode cX0_countOver 39 = .ok (.dup2, 1) := by decide +kernel
theorem dX0_countOver_40 : decode cX0_countOver 40 = .ok (.iaload, 1) := by decide +kernel
theorem dX0_countOver_41 : decode cX0_countOver 41 = .ok (.iconst 1, 1) := by decide +kernel
theorem dX0_countOver_42 : decode cX0_countOver 42 = .ok (.iadd, 1) := by decide +kernel
theorem dX0_countOver_43 : decode cX0_countOver 43 = .ok (.iastore, 1) := by decide +kernel
theorem dX0_countOver_44 : decode cX0_countOver 44 = .ok (.aload_n 1, 1) := by decide +kernel
theorem dX0_countOver_45 : decode cX0_countOver 45 = .ok (.iload 4, 2) := by decide +kernel
theorem dX0_countOver_47 : decode cX0_countOver 47 = .ok (.iaload, 1) := by decide +kernel
theorem dX0_countOver_48 : decode cX0_countOver 48 = .ok (.istore 4, 2) := by decide +kernel
theorem dX0_countOver_50 : decode cX0_countOver 50 = .ok (.iinc 5 1, 3) := by decide +kernel
theorem dX0_countOver_53 : decode cX0_countOver 53 = .ok (.goto (-29), 3) := by decide +kernel
theorem dX0_countOver_56 : decode cX0_countOver 56 = .ok (.iinc 3 1, 3) := by decide +kernel
theorem dX0_countOver_59 : decode cX0_countOver 59 = .ok (.goto (-52), 3) := by decide +kernel
theorem dX0_countOver_62 : decode cX0_countOver 62 = .ok (.return_, 1) := by decide +kernel
theorem dX0_facesBetween_0 : decode cX0_facesBetween 0 = .ok (.aload_n 3, 1) := by decide +kernel
theorem dX0_facesBetween_1 : decode cX0_facesBetween 1 = .ok (.iload_n 1, 1) := by decide +kernel
theorem dX0_facesBetween_2 : decode cX0_facesBetween 2 = .ok (.iaload, 1) := by decide +kernel
theorem dX0_facesBetween_3 : decode cX0_facesBetween 3 = .ok (.ineg, 1) := by decide +kernel
theorem dX0_facesBetween_4 : decode cX0_facesBetween 4 = .ok (.istore 4, 2) := by decide +kernel
theorem dX0_facesBetween_6 : decode cX0_facesBetween 6 = .ok (.iconst (-1), 1) := by decide +kernel
theorem dX0_facesBetween_7 : decode cX0_facesBetween 7 = .ok (.istore 5, 2) := by decide +kernel
theorem dX0_facesBetween_9 : decode cX0_facesBetween 9 = .ok (.iload_n 1, 1) := by decide +kernel
theorem dX0_facesBetween_10 : decode cX0_facesBetween 10 = .ok (.istore 6, 2) := by decide +kernel
theorem dX0_facesBetween_12 : decode cX0_facesBetween 12 = .ok (.iconst 0, 1) := by decide +kernel
theorem dX0_facesBetween_13 : decode cX0_facesBetween 13 = .ok (.istore 7, 2) := by decide +kernel
theorem dX0_facesBetween_15 : decode cX0_facesBetween 15 = .ok (.iload 7, 2) := by decide +kernel
theorem dX0_facesBetween_17 : decode cX0_facesBetween 17 = .ok (.bipush 20, 2) := by decide +kernel
theorem dX0_facesBetween_19 : decode cX0_facesBetween 19 = .ok (.if_icmp .ge 32, 3) := by decide +kernel
theorem dX0_facesBetween_22 : decode cX0_facesBetween 22 = .ok (.iload 6, 2) := by decide +kernel
theorem dX0_facesBetween_24 : decode cX0_facesBetween 24 = .ok (.ifCond .lt 27, 3) := by decide +kernel
theorem dX0_facesBetween_27 : decode cX0_facesBetween 27 = .ok (.iload 4, 2) := by decide +kernel
theorem dX0_facesBetween_29 : decode cX0_facesBetween 29 = .ok (.aload_n 3, 1) := by decide +kernel
theorem dX0_facesBetween_30 : decode cX0_facesBetween 30 = .ok (.iload 6, 2) := by decide +kernel
theorem dX0_facesBetween_32 : decode cX0_facesBetween 32 = .ok (.iaload, 1) := by decide +kernel
theorem dX0_facesBetween_33 : decode cX0_facesBetween 33 = .ok (.iadd, 1) := by decide +kernel
theorem dX0_facesBetween_34 : decode cX0_facesBetween 34 = .ok (.istore 4, 2) := by decide +kernel
theorem dX0_facesBetween_36 : decode cX0_facesBetween 36 = .ok (.iinc 5 1, 3) := by decide +kernel
theorem dX0_facesBetween_39 : decode cX0_facesBetween 39 = .ok (.aload_n 2, 1) := by decide +kernel
theorem dX0_facesBetween_40 : decode cX0_facesBetween 40 = .ok (.iload 6, 2) := by decide +kernel
theorem dX0_facesBetween_42 : decode cX0_facesBetween 42 = .ok (.iaload, 1) := by decide +kernel
theorem dX0_facesBetween_43 : decode cX0_facesBetween 43 = .ok (.istore 6, 2) := by decide +kernel
theorem dX0_facesBetween_45 : decode cX0_facesBetween 45 = .ok (.iinc 7 1, 3) := by decide +kernel
theorem dX0_facesBetween_48 : decode cX0_facesBetween 48 = .ok (.goto (-33), 3) := by decide +kernel
theorem dX0_facesBetween_51 : decode cX0_facesBetween 51 = .ok (.iload_n 1, 1) := by decide +kernel
theorem dX0_facesBetween_52 : decode cX0_facesBetween 52 = .ok (.istore 6, 2) := by decide +kernel
theorem dX0_facesBetween_54 : decode cX0_facesBetween 54 = .ok (.iconst 0, 1) := by decide +kernel
theorem dX0_facesBetween_55 : decode cX0_facesBetween 55 = .ok (.istore 7, 2) := by decide +kernel
theorem dX0_facesBetween_57 : decode cX0_facesBetween 57 = .ok (.iload 7, 2) := by decide +kernel
theorem dX0_facesBetween_59 : decode cX0_facesBetween 59 = .ok (.bipush 20, 2) := by decide +kernel
theorem dX0_facesBetween_61 : decode cX0_facesBetween 61 = .ok (.if_icmp .ge 35, 3) := by decide +kernel
theorem dX0_facesBetween_64 : decode cX0_facesBetween 64 = .ok (.iload 6, 2) := by decide +kernel
theorem dX0_facesBetween_66 : decode cX0_facesBetween 66 = .ok (.ifCond .lt 30, 3) := by decide +kernel
theorem dX0_facesBetween_69 : decode cX0_facesBetween 69 = .ok (.iload 4, 2) := by decide +kernel
theorem dX0_facesBetween_71 : decode cX0_facesBetween 71 = .ok (.aload_n 3, 1) := by decide +kernel
theorem dX0_facesBetween_72 : decode cX0_facesBetween 72 = .ok (.iload 6, 2) := by decide +kernel
theorem dX0_facesBetween_74 : decode cX0_facesBetween 74 = .ok (.iaload, 1) := by decide +kernel
theorem dX0_facesBetween_75 : decode cX0_facesBetween 75 = .ok (.iadd, 1) := by decide +kernel
theorem dX0_facesBetween_76 : decode cX0_facesBetween 76 = .ok (.istore 4, 2) := by decide +kernel
theorem dX0_facesBetween_78 : decode cX0_facesBetween 78 = .ok (.iinc 5 1, 3) := by decide +kernel
theorem dX0_facesBetween_81 : decode cX0_facesBetween 81 = .ok (.aload_n 0, 1) := by decide +kernel
theorem dX0_facesBetween_82 : decode cX0_facesBetween 82 = .ok (.getfield 24, 3) := by decide +kernel
theorem dX0_facesBetween_85 : decode cX0_facesBetween 85 = .ok (.iload 6, 2) := by decide +kernel
theorem dX0_facesBetween_87 : decode cX0_facesBetween 87 = .ok (.iaload, 1) := by decide +kernel
theorem dX0_facesBetween_88 : decode cX0_facesBetween 88 = .ok (.istore 6, 2) := by decide +kernel
theorem dX0_facesBetween_90 : decode cX0_facesBetween 90 = .ok (.iinc 7 1, 3) := by decide +kernel
theorem dX0_facesBetween_93 : decode cX0_facesBetween 93 = .ok (.goto (-36), 3) := by decide +kernel
theorem dX0_facesBetween_96 : decode cX0_facesBetween 96 = .ok (.iconst 2, 1) := by decide +kernel
theorem dX0_facesBetween_97 : decode cX0_facesBetween 97 = .ok (.iload 4, 2) := by decide +kernel
theorem dX0_facesBetween_99 : decode cX0_facesBetween 99 = .ok (.imul, 1) := by decide +kernel
theorem dX0_facesBetween_100 : decode cX0_facesBetween 100 = .ok (.iload 5, 2) := by decide +kernel
theorem dX0_facesBetween_102 : decode cX0_facesBetween 102 = .ok (.isub, 1) := by decide +kernel
theorem dX0_facesBetween_103 : decode cX0_facesBetween 103 = .ok (.iconst 2, 1) := by decide +kernel
theorem dX0_facesBetween_104 : decode cX0_facesBetween 104 = .ok (.isub, 1) := by decide +kernel
theorem dX0_facesBetween_105 : decode cX0_facesBetween 105 = .ok (.ireturn, 1) := by decide +kernel
theorem dX0_findOuter_0 : decode cX0_findOuter 0 = .ok (.aload_n 0, 1) := by decide +kernel
theorem dX0_findOuter_1 : decode cX0_findOuter 1 = .ok (.iconst 0, 1) := by decide +kernel
theorem dX0_findOuter_2 : decode cX0_findOuter 2 = .ok (.putfield 69, 3) := by decide +kernel
theorem dX0_findOuter_5 : decode cX0_findOuter 5 = .ok (.aload_n 0, 1) := by decide +kernel
theorem dX0_findOuter_6 : decode cX0_findOuter 6 = .ok (.aload_n 0, 1) := by decide +kernel
theorem dX0_findOuter_7 : decode cX0_findOuter 7 = .ok (.getfield 39, 3) := by decide +kernel
theorem dX0_findOuter_10 : decode cX0_findOuter 10 = .ok (.getfield 72, 3) := by decide +kernel
theorem dX0_findOuter_13 : decode cX0_findOuter 13 = .ok (.aload_n 0, 1) := by decide +kernel
theorem dX0_findOuter_14 : decode cX0_findOuter 14 = .ok (.getfield 69, 3) := by decide +kernel
theorem dX0_findOuter_17 : decode cX0_findOuter 17 = .ok (.iaload, 1) := by decide +kernel
theorem dX0_findOuter_18 : decode cX0_findOuter 18 = .ok (.invokestatic 75, 3) := by decide +kernel
theorem dX0_findOuter_21 : decode cX0_findOuter 21 = .ok (.putfield 79, 3) := by decide +kernel
theorem dX0_findOuter_24 : decode cX0_findOuter 24 = .ok (.aload_n 0, 1) := by decide +kernel
theorem dX0_findOuter_25 : decode cX0_findOuter 25 = .ok (.aload_n 0, 1) := by decide +kernel
theorem dX0_findOuter_26 : decode cX0_findOuter 26 = .ok (.getfield 43, 3) := by decide +kernel
theorem dX0_findOuter_29 : decode cX0_findOuter 29 = .ok (.aload_n 0, 1) := by decide +kernel
theorem dX0_findOuter_30 : decode cX0_findOuter 30 = .ok (.getfield 69, 3) := by decide +kernel
theorem dX0_findOuter_33 : decode cX0_findOuter 33 = .ok (.aload_n 0, 1) := by decide +kernel
theorem dX0_findOuter_34 : decode cX0_findOuter 34 = .ok (.getfield 79, 3) := by decide +kernel
theorem dX0_findOuter_37 : decode cX0_findOuter 37 = .ok (.invokevirtual 82, 3) := by decide +kernel
theorem dX0_findOuter_40 : decode cX0_findOuter 40 = .ok (.putfield 88, 3) := by decide +kernel
theorem dX0_findOuter_43 : decode cX0_findOuter 43 = .ok (.aload_n 0, 1) := by decide +kernel
theorem dX0_findOuter_44 : decode cX0_findOuter 44 = .ok (.getfield 88, 3) := by decide +kernel
theorem dX0_findOuter_47 : decode cX0_findOuter 47 = .ok (.ifCond .lt 7, 3) := by decide +kernel
theorem dX0_findOuter_50 : decode cX0_findOuter 50 = .ok (.iconst 1, 1) := by decide +kernel
theorem dX0_findOuter_51 : decode cX0_findOuter 51 = .ok (.goto 4, 3) := by decide +kernel
theorem dX0_findOuter_54 : decode cX0_findOuter 54 = .ok (.iconst 0, 1) := by decide +kernel
theorem dX0_findOuter_55 : decode cX0_findOuter 55 = .ok (.ireturn, 1) := by decide +kernel
theorem dX0_findWays_0 : decode cX0_findWays 0 = .ok (.aload_n 0, 1) := by decide +kernel
theorem dX0_findWays_1 : decode cX0_findWays 1 = .ok (.getfield 18, 3) := by decide +kernel
theorem dX0_findWays_4 : decode cX0_findWays 4 = .ok (.iconst (-1), 1) := by decide +kernel
theorem dX0_findWays_5 : decode cX0_findWays 5 = .ok (.invokestatic 47, 3) := by decide +kernel
theorem dX0_findWays_8 : decode cX0_findWays 8 = .ok (.aload_n 0, 1) := by decide +kernel
theorem dX0_findWays_9 : decode cX0_findWays 9 = .ok (.getfield 21, 3) := by decide +kernel
theorem dX0_findWays_12 : decode cX0_findWays 12 = .ok (.iconst (-1), 1) := by decide +kernel
theorem dX0_findWays_13 : decode cX0_findWays 13 = .ok (.invokestatic 47, 3) := by decide +kernel
theorem dX0_findWays_16 : decode cX0_findWays 16 = .ok (.aload_n 0, 1) := by decide +kernel
theorem dX0_findWays_17 : decode cX0_findWays 17 = .ok (.getfield 24, 3) := by decide +kernel
theorem dX0_findWays_20 : decode cX0_findWays 20 = .ok (.iconst (-1), 1) := by decide +kernel
theorem dX0_findWays_21 : decode cX0_findWays 21 = .ok (.invokestatic 47, 3) := by decide +kernel
theorem dX0_findWays_24 : decode cX0_findWays 24 = .ok (.aload_n 0, 1) := by decide +kernel
theorem dX0_findWays_25 : decode cX0_findWays 25 = .ok (.iconst 1, 1) := by decide +kernel
theorem dX0_findWays_26 : decode cX0_findWays 26 = .ok (.aload_n 0, 1) := by decide +kernel
theorem dX0_findWays_27 : decode cX0_findWays 27 = .ok (.getfield 69, 3) := by decide +kernel
theorem dX0_findWays_30 : decode cX0_findWays 30 = .ok (.ishl, 1) := by decide +kernel
theorem dX0_findWays_31 : decode cX0_findWays 31 = .ok (.iconst 1, 1) := by decide +kernel
theorem dX0_findWays_32 : decode cX0_findWays 32 = .ok (.aload_n 0, 1) := by decide +kernel
theorem dX0_findWays_33 : decode cX0_findWays 33 = .ok (.getfield 79, 3) := by decide +kernel
theorem dX0_findWays_36 : decode cX0_findWays 36 = .ok (.ishl, 1) := by decide +kernel
theorem dX0_findWays_37 : decode cX0_findWays 37 = .ok (.ior, 1) := by decide +kernel
theorem dX0_findWays_38 : decode cX0_findWays 38 = .ok (.iconst 1, 1) := by decide +kernel
theorem dX0_findWays_39 : decode cX0_findWays 39 = .ok (.aload_n 0, 1) := by decide +kernel
theorem dX0_findWays_40 : decode cX0_findWays 40 = .ok (.getfield 88, 3) := by decide +kernel
theorem dX0_findWays_43 : decode cX0_findWays 43 = .ok (.ishl, 1) := by decide +kernel
theorem dX0_findWays_44 : decode cX0_findWays 44 = .ok (.ior, 1) := by decide +kernel
theorem dX0_findWays_45 : decode cX0_findWays 45 = .ok (.putfield 91, 3) := by decide +kernel
theorem dX0_findWays_48 : decode cX0_findWays 48 = .ok (.aload_n 0, 1) := by decide +kernel
theorem dX0_findWays_49 : decode cX0_findWays 49 = .ok (.aload_n 0, 1) := by decide +kernel
theorem dX0_findWays_50 : decode cX0_findWays 50 = .ok (.getfield 79, 3) := by decide +kernel
theorem dX0_findWays_53 : decode cX0_findWays 53 = .ok (.aload_n 0, 1) := by decide +kernel
theorem dX0_findWays_54 : decode cX0_findWays 54 = .ok (.getfield 88, 3) := by decide +kernel
theorem dX0_findWays_57 : decode cX0_findWays 57 = .ok (.invokevirtual 94, 3) := by decide +kernel
theorem dX0_findWays_60 : decode cX0_findWays 60 = .ok (.aload_n 0, 1) := by decide +kernel
theorem dX0_findWays_61 : decode cX0_findWays 61 = .ok (.aload_n 0, 1) := by decide +kernel
theorem dX0_findWays_62 : decode cX0_findWays 62 = .ok (.getfield 88, 3) := by decide +kernel
theorem dX0_findWays_65 : decode cX0_findWays 65 = .ok (.aload_n 0, 1) := by decide +kernel
theorem dX0_findWays_66 : decode cX0_findWays 66 = .ok (.getfield 69, 3) := by decide +kernel
theorem dX0_findWays_69 : decode cX0_findWays 69 = .ok (.invokevirtual 94, 3) := by decide +kernel
theorem dX0_findWays_72 : decode cX0_findWays 72 = .ok (.aload_n 0, 1) := by decide +kernel
theorem dX0_findWays_73 : decode cX0_findWays 73 = .ok (.aload_n 0, 1) := by decide +kernel
theorem dX0_findWays_74 : decode cX0_findWays 74 = .ok (.getfield 88, 3) := by decide +kernel
theorem dX0_findWays_77 : decode cX0_findWays 77 = .ok (.invokevirtual 98, 3) := by decide +kernel
theorem dX0_findWays_80 : decode cX0_findWays 80 = .ok (.iconst 3, 1) := by decide +kernel
theorem dX0_findWays_81 : decode cX0_findWays 81 = .ok (.istore_n 1, 1) := by decide +kernel
theorem dX0_findWays_82 : decode cX0_findWays 82 = .ok (.iload_n 1, 1) := by decide +kernel
theorem dX0_findWays_83 : decode cX0_findWays 83 = .ok (.aload_n 0, 1) := by decide +kernel
theorem dX0_findWays_84 : decode cX0_findWays 84 = .ok (.getfield 39, 3) := by decide +kernel
theorem dX0_findWays_87 : decode cX0_findWays 87 = .ok (.getfield 53, 3) := by decide +kernel
theorem dX0_findWays_90 : decode cX0_findWays 90 = .ok (.if_icmp .ge 17, 3) := by decide +kernel
theorem dX0_findWays_93 : decode cX0_findWays 93 = .ok (.aload_n 0, 1) := by decide +kernel
theorem dX0_findWays_94 : decode cX0_findWays 94 = .ok (.aload_n 0, 1) := by decide +kernel
theorem dX0_findWays_95 : decode cX0_findWays 95 = .ok (.invokevirtual 102, 3) := by decide +kernel
theorem dX0_findWays_98 : decode cX0_findWays 98 = .ok (.invokevirtual 98, 3) := by decide +kernel
theorem dX0_findWays_101 : decode cX0_findWays 101 = .ok (.iinc 1 1, 3) := by decide +kernel
theorem dX0_findWays_104 : decode cX0_findWays 104 = .ok (.goto (-22), 3) := by decide +kernel
theorem dX0_findWays_107 : decode cX0_findWays 107 = .ok (.return_, 1) := by decide +kernel
theorem dX0_greatestFree_0 : decode cX0_greatestFree 0 = .ok (.aload_n 0, 1) := by decide +kernel
theorem dX0_greatestFree_1 : decode cX0_greatestFree 1 = .ok (.getfield 39, 3) := by decide +kernel
theorem dX0_greatestFree_4 : decode cX0_greatestFree 4 = .ok (.getfield 53, 3) := by decide +kernel
theorem dX0_greatestFree_7 : decode cX0_greatestFree 7 = .ok (.iconst 1, 1) := by decide +kernel
theorem dX0_greatestFree_8 : decode cX0_greatestFree 8 = .ok (.isub, 1) := by decide +kernel
theorem dX0_greatestFree_9 : decode cX0_greatestFree 9 = .ok (.istore_n 1, 1) := by decide +kernel
theorem dX0_greatestFree_10 : decode cX0_greatestFree 10 = .ok (.iload_n 1, 1) := by decide +kernel
theorem dX0_greatestFree_11 : decode cX0_greatestFree 11 = .ok (.ifCond .lt 59, 3) := by decide +kernel
theorem dX0_greatestFree_14 : decode cX0_greatestFree 14 = .ok (.aload_n 0, 1) := by decide +kernel
theorem dX0_greatestFree_15 : decode cX0_greatestFree 15 = .ok (.getfield 91, 3) := by decide +kernel
theorem dX0_greatestFree_18 : decode cX0_greatestFree 18 = .ok (.iload_n 1, 1) := by decide +kernel
theorem dX0_greatestFree_19 : decode cX0_greatestFree 19 = .ok (.invokestatic 106, 3) := by decide +kernel
theorem dX0_greatestFree_22 : decode cX0_greatestFree 22 = .ok (.ifCond .eq 42, 3) := by decide +kernel
theorem dX0_greatestFree_25 : decode cX0_greatestFree 25 = .ok (.iload_n 1, 1) := by decide +kernel
theorem dX0_greatestFree_26 : decode cX0_greatestFree 26 = .ok (.aload_n 0, 1) := by decide +kernel
theorem dX0_greatestFree_27 : decode cX0_greatestFree 27 = .ok (.getfield 69, 3) := by decide +kernel
theorem dX0_greatestFree_30 : decode cX0_greatestFree 30 = .ok (.if_icmp .eq 34, 3) := by decide +kernel
theorem dX0_greatestFree_33 : decode cX0_greatestFree 33 = .ok (.iload_n 1, 1) := by decide +kernel
theorem dX0_greatestFree_34 : decode cX0_greatestFree 34 = .ok (.aload_n 0, 1) := by decide +kernel
theorem dX0_greatestFree_35 : decode cX0_greatestFree 35 = .ok (.getfield 79, 3) := by decide +kernel
theorem dX0_greatestFree_38 : decode cX0_greatestFree 38 = .ok (.if_icmp .eq 26, 3) := by decide +kernel
theorem dX0_greatestFree_41 : decode cX0_greatestFree 41 = .ok (.aload_n 0, 1) := by decide +kernel
theorem dX0_greatestFree_42 : decode cX0_greatestFree 42 = .ok (.getfield 39, 3) := by decide +kernel
theorem dX0_greatestFree_45 : decode cX0_greatestFree 45 = .ok (.getfield 72, 3) := by decide +kernel
theorem dX0_greatestFree_48 : decode cX0_greatestFree 48 = .ok (.iload_n 1, 1) := by decide +kernel
theorem dX0_greatestFree_49 : decode cX0_greatestFree 49 = .ok (.iaload, 1) := by decide +kernel
theorem dX0_greatestFree_50 : decode cX0_greatestFree 50 = .ok (.aload_n 0, 1) := by decide +kernel
theorem dX0_greatestFree_51 : decode cX0_greatestFree 51 = .ok (.getfield 91, 3) := by decide +kernel
theorem dX0_greatestFree_54 : decode cX0_greatestFree 54 = .ok (.iand, 1) := by decide +kernel
theorem dX0_greatestFree_55 : decode cX0_greatestFree 55 = .ok (.invokestatic 110, 3) := by decide +kernel
theorem dX0_greatestFree_58 : decode cX0_greatestFree 58 = .ok (.iconst 2, 1) := by decide +kernel
theorem dX0_greatestFree_59 : decode cX0_greatestFree 59 = .ok (.if_icmp .ne 5, 3) := by decide +kernel
theorem dX0_greatestFree_62 : decode cX0_greatestFree 62 = .ok (.iload_n 1, 1) := by decide +kernel
theorem dX0_greatestFree_63 : decode cX0_greatestFree 63 = .ok (.ireturn, 1) := by decide +kernel
theorem dX0_greatestFree_64 : decode cX0_greatestFree 64 = .ok (.iinc 1 (-1), 3) := by decide +kernel
theorem dX0_greatestFree_67 : decode cX0_greatestFree 67 = .ok (.goto (-57), 3) := by decide +kernel
theorem dX0_greatestFree_70 : decode cX0_greatestFree 70 = .ok (.iconst (-1), 1) := by decide +kernel
theorem dX0_greatestFree_71 : decode cX0_greatestFree 71 = .ok (.ireturn, 1) := by decide +kernel
theorem dX0_lay_27 : decode cX0_lay 27 = .ok (.aload_n 0, 1) := by decide +kernel
theorem dX0_lay_28 : decode cX0_lay 28 = .ok (.getfield 9, 3) := by decide +kernel
theorem dX0_lay_31 : decode cX0_lay 31 = .ok (.iconst 1, 1) := by decide +kernel
theorem dX0_lay_32 : decode cX0_lay 32 = .ok (.iconst 1, 1) := by decide +kernel
theorem dX0_lay_33 : decode cX0_lay 33 = .ok (.iastore, 1) := by decide +kernel
theorem dX0_lay_45 : decode cX0_lay 45 = .ok (.aload_n 0, 1) := by decide +kernel
theorem dX0_lay_46 : decode cX0_lay 46 = .ok (.invokevirtual 59, 3) := by decide +kernel
theorem dX0_lay_49 : decode cX0_lay 49 = .ok (.ifCond .eq 11, 3) := by decide +kernel
theorem dX0_lay_52 : decode cX0_lay 52 = .ok (.aload_n 0, 1) := by decide +kernel
theorem dX0_lay_53 : decode cX0_lay 53 = .ok (.invokevirtual 63, 3) := by decide +kernel
theorem dX0_lay_56 : decode cX0_lay 56 = .ok (.aload_n 0, 1) := by decide +kernel
theorem dX0_lay_57 : decode cX0_lay 57 = .ok (.invokevirtual 66, 3) := by decide +kernel
theorem dX0_link_0 : decode cX0_link 0 = .ok (.aload_n 0, 1) := by decide +kernel
theorem dX0_link_1 : decode cX0_link 1 = .ok (.getfield 27, 3) := by decide +kernel
theorem dX0_link_4 : decode cX0_link 4 = .ok (.iload_n 1, 1) := by decide +kernel
theorem dX0_link_5 : decode cX0_link 5 = .ok (.iload_n 2, 1) := by decide +kernel
theorem dX0_link_6 : decode cX0_link 6 = .ok (.iastore, 1) := by decide +kernel
theorem dX0_link_7 : decode cX0_link 7 = .ok (.aload_n 0, 1) := by decide +kernel
theorem dX0_link_8 : decode cX0_link 8 = .ok (.getfield 30, 3) := by decide +kernel
theorem dX0_link_11 : decode cX0_link 11 = .ok (.iload_n 2, 1) := by decide +kernel
theorem dX0_link_12 : decode cX0_link 12 = .ok (.iload_n 1, 1) := by decide +kernel
theorem dX0_link_13 : decode cX0_link 13 = .ok (.iastore, 1) := by decide +kernel
theorem dX0_link_14 : decode cX0_link 14 = .ok (.return_, 1) := by decide +kernel
theorem dX0_meet_0 : decode cX0_meet 0 = .ok (.aload_n 0, 1) := by decide +kernel
theorem dX0_meet_1 : decode cX0_meet 1 = .ok (.getfield 9, 3) := by decide +kernel
theorem dX0_meet_4 : decode cX0_meet 4 = .ok (.iload_n 1, 1) := by decide +kernel
theorem dX0_meet_5 : decode cX0_meet 5 = .ok (.iaload, 1) := by decide +kernel
theorem dX0_meet_6 : decode cX0_meet 6 = .ok (.aload_n 0, 1) := by decide +kernel
theorem dX0_meet_7 : decode cX0_meet 7 = .ok (.getfield 9, 3) := by decide +kernel
theorem dX0_meet_10 : decode cX0_meet 10 = .ok (.iload_n 2, 1) := by decide +kernel
theorem dX0_meet_11 : decode cX0_meet 11 = .ok (.iaload, 1) := by decide +kernel
theorem dX0_meet_12 : decode cX0_meet 12 = .ok (.invokestatic 127, 3) := by decide +kernel
theorem dX0_meet_15 : decode cX0_meet 15 = .ok (.aload_n 0, 1) := by decide +kernel
theorem dX0_meet_16 : decode cX0_meet 16 = .ok (.getfield 9, 3) := by decide +kernel
theorem dX0_meet_19 : decode cX0_meet 19 = .ok (.iload_n 3, 1) := by decide +kernel
theorem dX0_meet_20 : decode cX0_meet 20 = .ok (.iaload, 1) := by decide +kernel
theorem dX0_meet_21 : decode cX0_meet 21 = .ok (.aload_n 0, 1) := by decide +kernel
theorem dX0_meet_22 : decode cX0_meet 22 = .ok (.getfield 9, 3) := by decide +kernel
theorem dX0_meet_25 : decode cX0_meet 25 = .ok (.iload 4, 2) := by decide +kernel
theorem dX0_meet_27 : decode cX0_meet 27 = .ok (.iaload, 1) := by decide +kernel
theorem dX0_meet_28 : decode cX0_meet 28 = .ok (.invokestatic 132, 3) := by decide +kernel
theorem dX0_meet_31 : decode cX0_meet 31 = .ok (.if_icmp .lt 105, 3) := by decide +kernel
theorem dX0_meet_34 : decode cX0_meet 34 = .ok (.aload_n 0, 1) := by decide +kernel
theorem dX0_meet_35 : decode cX0_meet 35 = .ok (.getfield 9, 3) := by decide +kernel
theorem dX0_meet_38 : decode cX0_meet 38 = .ok (.iload_n 3, 1) := by decide +kernel
theorem dX0_meet_39 : decode cX0_meet 39 = .ok (.iaload, 1) := by decide +kernel
theorem dX0_meet_40 : decode cX0_meet 40 = .ok (.aload_n 0, 1) := by decide +kernel
theorem dX0_meet_41 : decode cX0_meet 41 = .ok (.getfield 9, 3) := by decide +kernel
theorem dX0_meet_44 : decode cX0_meet 44 = .ok (.iload 4, 2) := by decide +kernel
theorem dX0_meet_46 : decode cX0_meet 46 = .ok (.iaload, 1) := by decide +kernel
theorem dX0_meet_47 : decode cX0_meet 47 = .ok (.invokestatic 127, 3) := by decide +kernel
theorem dX0_meet_50 : decode cX0_meet 50 = .ok (.aload_n 0, 1) := by decide +kernel
theorem dX0_meet_51 : decode cX0_meet 51 = .ok (.getfield 9, 3) := by decide +kernel
theorem dX0_meet_54 : decode cX0_meet 54 = .ok (.iload_n 1, 1) := by decide +kernel
theorem dX0_meet_55 : decode cX0_meet 55 = .ok (.iaload, 1) := by decide +kernel
theorem dX0_meet_56 : decode cX0_meet 56 = .ok (.aload_n 0, 1) := by decide +kernel
theorem dX0_meet_57 : decode cX0_meet 57 = .ok (.getfield 9, 3) := by decide +kernel
theorem dX0_meet_60 : decode cX0_meet 60 = .ok (.iload_n 2, 1) := by decide +kernel
theorem dX0_meet_61 : decode cX0_meet 61 = .ok (.iaload, 1) := by decide +kernel
theorem dX0_meet_62 : decode cX0_meet 62 = .ok (.invokestatic 132, 3) := by decide +kernel
theorem dX0_meet_65 : decode cX0_meet 65 = .ok (.if_icmp .lt 71, 3) := by decide +kernel
theorem dX0_meet_68 : decode cX0_meet 68 = .ok (.aload_n 0, 1) := by decide +kernel
theorem dX0_meet_69 : decode cX0_meet 69 = .ok (.getfield 15, 3) := by decide +kernel
theorem dX0_meet_72 : decode cX0_meet 72 = .ok (.iload_n 1, 1) := by decide +kernel
theorem dX0_meet_73 : decode cX0_meet 73 = .ok (.iaload, 1) := by decide +kernel
theorem dX0_meet_74 : decode cX0_meet 74 = .ok (.aload_n 0, 1) := by decide +kernel
theorem dX0_meet_75 : decode cX0_meet 75 = .ok (.getfield 15, 3) := by decide +kernel
theorem dX0_meet_78 : decode cX0_meet 78 = .ok (.iload_n 2, 1) := by decide +kernel
theorem dX0_meet_79 : decode cX0_meet 79 = .ok (.iaload, 1) := by decide +kernel
theorem dX0_meet_80 : decode cX0_meet 80 = .ok (.invokestatic 127, 3) := by decide +kernel
theorem dX0_meet_83 : decode cX0_meet 83 = .ok (.aload_n 0, 1) := by decide +kernel
theorem dX0_meet_84 : decode cX0_meet 84 = .ok (.getfield 15, 3) := by decide +kernel
theorem dX0_meet_87 : decode cX0_meet 87 = .ok (.iload_n 3, 1) := by decide +kernel
theorem dX0_meet_88 : decode cX0_meet 88 = .ok (.iaload, 1) := by decide +kernel
theorem dX0_meet_89 : decode cX0_meet 89 = .ok (.aload_n 0, 1) := by decide +kernel
theorem dX0_meet_90 : decode cX0_meet 90 = .ok (.getfield 15, 3) := by decide +kernel
theorem dX0_meet_93 : decode cX0_meet 93 = .ok (.iload 4, 2) := by decide +kernel
theorem dX0_meet_95 : decode cX0_meet 95 = .ok (.iaload, 1) := by decide +kernel
theorem dX0_meet_96 : decode cX0_meet 96 = .ok (.invokestatic 132, 3) := by decide +kernel
theorem dX0_meet_99 : decode cX0_meet 99 = .ok (.if_icmp .lt 37, 3) := by decide +kernel
theorem dX0_meet_102 : decode cX0_meet 102 = .ok (.aload_n 0, 1) := by decide +kernel
theorem dX0_meet_103 : decode cX0_meet 103 = .ok (.getfield 15, 3) := by decide +kernel
theorem dX0_meet_106 : decode cX0_meet 106 = .ok (.iload_n 3, 1) := by decide +kernel
theorem dX0_meet_107 : decode cX0_meet 107 = .ok (.iaload, 1) := by decide +kernel
theorem dX0_meet_108 : decode cX0_meet 108 = .ok (.aload_n 0, 1) := by decide +kernel
theorem dX0_meet_109 : decode cX0_meet 109 = .ok (.getfield 15, 3) := by decide +kernel
theorem dX0_meet_112 : decode cX0_meet 112 = .ok (.iload 4, 2) := by decide +kernel
theorem dX0_meet_114 : decode cX0_meet 114 = .ok (.iaload, 1) := by decide +kernel
theorem dX0_meet_115 : decode cX0_meet 115 = .ok (.invokestatic 127, 3) := by decide +kernel
theorem dX0_meet_118 : decode cX0_meet 118 = .ok (.aload_n 0, 1) := by decide +kernel
theorem dX0_meet_119 : decode cX0_meet 119 = .ok (.getfield 15, 3) := by decide +kernel
theorem dX0_meet_122 : decode cX0_meet 122 = .ok (.iload_n 1, 1) := by decide +kernel
theorem dX0_meet_123 : decode cX0_meet 123 = .ok (.iaload, 1) := by decide +kernel
theorem dX0_meet_124 : decode cX0_meet 124 = .ok (.aload_n 0, 1) := by decide +kernel
theorem dX0_meet_125 : decode cX0_meet 125 = .ok (.getfield 15, 3) := by decide +kernel
theorem dX0_meet_128 : decode cX0_meet 128 = .ok (.iload_n 2, 1) := by decide +kernel
theorem dX0_meet_129 : decode cX0_meet 129 = .ok (.iaload, 1) := by decide +kernel
theorem dX0_meet_130 : decode cX0_meet 130 = .ok (.invokestatic 132, 3) := by decide +kernel
theorem dX0_meet_133 : decode cX0_meet 133 = .ok (.if_icmp .ge 5, 3) := by decide +kernel
theorem dX0_meet_136 : decode cX0_meet 136 = .ok (.iconst 0, 1) := by decide +kernel
theorem dX0_meet_137 : decode cX0_meet 137 = .ok (.ireturn, 1) := by decide +kernel
theorem dX0_meet_138 : decode cX0_meet 138 = .ok (.aload_n 0, 1) := by decide +kernel
theorem dX0_meet_139 : decode cX0_meet 139 = .ok (.iload_n 1, 1) := by decide +kernel
theorem dX0_meet_140 : decode cX0_meet 140 = .ok (.iload_n 2, 1) := by decide +kernel
theorem dX0_meet_141 : decode cX0_meet 141 = .ok (.iload_n 3, 1) := by decide +kernel
theorem dX0_meet_142 : decode cX0_meet 142 = .ok (.iload 4, 2) := by decide +kernel
theorem dX0_meet_144 : decode cX0_meet 144 = .ok (.invokevirtual 135, 3) := by decide +kernel
theorem dX0_meet_147 : decode cX0_meet 147 = .ok (.ifCond .ne 19, 3) := by decide +kernel
theorem dX0_meet_150 : decode cX0_meet 150 = .ok (.aload_n 0, 1) := by decide +kernel
theorem dX0_meet_151 : decode cX0_meet 151 = .ok (.iload_n 3, 1) := by decide +kernel
theorem dX0_meet_152 : decode cX0_meet 152 = .ok (.iload 4, 2) := by decide +kernel
theorem dX0_meet_154 : decode cX0_meet 154 = .ok (.iload_n 1, 1) := by decide +kernel
theorem dX0_meet_155 : decode cX0_meet 155 = .ok (.iload_n 2, 1) := by decide +kernel
theorem dX0_meet_156 : decode cX0_meet 156 = .ok (.invokevirtual 135, 3) := by decide +kernel
theorem dX0_meet_159 : decode cX0_meet 159 = .ok (.ifCond .ne 7, 3) := by decide +kernel
theorem dX0_meet_162 : decode cX0_meet 162 = .ok (.iconst 1, 1) := by decide +kernel
theorem dX0_meet_163 : decode cX0_meet 163 = .ok (.goto 4, 3) := by decide +kernel
theorem dX0_meet_166 : decode cX0_meet 166 = .ok (.iconst 0, 1) := by decide +kernel
theorem dX0_meet_167 : decode cX0_meet 167 = .ok (.ireturn, 1) := by decide +kernel
theorem dX0_onOneSide_0 : decode cX0_onOneSide 0 = .ok (.aload_n 0, 1) := by decide +kernel
theorem dX0_onOneSide_1 : decode cX0_onOneSide 1 = .ok (.iload_n 1, 1) := by decide +kernel
theorem dX0_onOneSide_2 : decode cX0_onOneSide 2 = .ok (.iload_n 2, 1) := by decide +kernel
theorem dX0_onOneSide_3 : decode cX0_onOneSide 3 = .ok (.iload_n 3, 1) := by decide +kernel
theorem dX0_onOneSide_4 : decode cX0_onOneSide 4 = .ok (.invokevirtual 123, 3) := by decide +kernel
theorem dX0_onOneSide_7 : decode cX0_onOneSide 7 = .ok (.istore 5, 2) := by decide +kernel
theorem dX0_onOneSide_9 : decode cX0_onOneSide 9 = .ok (.aload_n 0, 1) := by decide +kernel
theorem dX0_onOneSide_10 : decode cX0_onOneSide 10 = .ok (.iload_n 1, 1) := by decide +kernel
theorem dX0_onOneSide_11 : decode cX0_onOneSide 11 = .ok (.iload_n 2, 1) := by decide +kernel
theorem dX0_onOneSide_12 : decode cX0_onOneSide 12 = .ok (.iload 4, 2) := by decide +kernel
theorem dX0_onOneSide_14 : decode cX0_onOneSide 14 = .ok (.invokevirtual 123, 3) := by decide +kernel
theorem dX0_onOneSide_17 : decode cX0_onOneSide 17 = .ok (.istore 6, 2) := by decide +kernel
theorem dX0_onOneSide_19 : decode cX0_onOneSide 19 = .ok (.iload 5, 2) := by decide +kernel
theorem dX0_onOneSide_21 : decode cX0_onOneSide 21 = .ok (.ifCond .le 8, 3) := by decide +kernel
theorem dX0_onOneSide_24 : decode cX0_onOneSide 24 = .ok (.iload 6, 2) := by decide +kernel
theorem dX0_onOneSide_26 : decode cX0_onOneSide 26 = .ok (.ifCond .gt 13, 3) := by decide +kernel
theorem dX0_onOneSide_29 : decode cX0_onOneSide 29 = .ok (.iload 5, 2) := by decide +kernel
theorem dX0_onOneSide_31 : decode cX0_onOneSide 31 = .ok (.ifCond .ge 12, 3) := by decide +kernel
theorem dX0_onOneSide_34 : decode cX0_onOneSide 34 = .ok (.iload 6, 2) := by decide +kernel
theorem dX0_onOneSide_36 : decode cX0_onOneSide 36 = .ok (.ifCond .ge 7, 3) := by decide +kernel
theorem dX0_onOneSide_39 : decode cX0_onOneSide 39 = .ok (.iconst 1, 1) := by decide +kernel
theorem dX0_onOneSide_40 : decode cX0_onOneSide 40 = .ok (.goto 4, 3) := by decide +kernel
theorem dX0_onOneSide_43 : decode cX0_onOneSide 43 = .ok (.iconst 0, 1) := by decide +kernel
theorem dX0_onOneSide_44 : decode cX0_onOneSide 44 = .ok (.ireturn, 1) := by decide +kernel
theorem dX0_overlap_0 : decode cX0_overlap 0 = .ok (.aload_n 0, 1) := by decide +kernel
theorem dX0_overlap_1 : decode cX0_overlap 1 = .ok (.getfield 9, 3) := by decide +kernel
theorem dX0_overlap_4 : decode cX0_overlap 4 = .ok (.iload_n 2, 1) := by decide +kernel
theorem dX0_overlap_5 : decode cX0_overlap 5 = .ok (.iaload, 1) := by decide +kernel
theorem dX0_overlap_6 : decode cX0_overlap 6 = .ok (.aload_n 0, 1) := by decide +kernel
theorem dX0_overlap_7 : decode cX0_overlap 7 = .ok (.getfield 9, 3) := by decide +kernel
theorem dX0_overlap_10 : decode cX0_overlap 10 = .ok (.iload_n 1, 1) := by decide +kernel
theorem dX0_overlap_11 : decode cX0_overlap 11 = .ok (.iaload, 1) := by decide +kernel
theorem dX0_overlap_12 : decode cX0_overlap 12 = .ok (.isub, 1) := by decide +kernel
theorem dX0_overlap_13 : decode cX0_overlap 13 = .ok (.aload_n 0, 1) := by decide +kernel
theorem dX0_overlap_14 : decode cX0_overlap 14 = .ok (.getfield 9, 3) := by decide +kernel
theorem dX0_overlap_17 : decode cX0_overlap 17 = .ok (.iload_n 3, 1) := by decide +kernel
theorem dX0_overlap_18 : decode cX0_overlap 18 = .ok (.iaload, 1) := by decide +kernel
theorem dX0_overlap_19 : decode cX0_overlap 19 = .ok (.aload_n 0, 1) := by decide +kernel
theorem dX0_overlap_20 : decode cX0_overlap 20 = .ok (.getfield 9, 3) := by decide +kernel
theorem dX0_overlap_23 : decode cX0_overlap 23 = .ok (.iload_n 1, 1) := by decide +kernel
theorem dX0_overlap_24 : decode cX0_overlap 24 = .ok (.iaload, 1) := by decide +kernel
theorem dX0_overlap_25 : decode cX0_overlap 25 = .ok (.isub, 1) := by decide +kernel
theorem dX0_overlap_26 : decode cX0_overlap 26 = .ok (.imul, 1) := by decide +kernel
theorem dX0_overlap_27 : decode cX0_overlap 27 = .ok (.aload_n 0, 1) := by decide +kernel
theorem dX0_overlap_28 : decode cX0_overlap 28 = .ok (.getfield 15, 3) := by decide +kernel
theorem dX0_overlap_31 : decode cX0_overlap 31 = .ok (.iload_n 2, 1) := by decide +kernel
theorem dX0_overlap_32 : decode cX0_overlap 32 = .ok (.iaload, 1) := by decide +kernel
theorem dX0_overlap_33 : decode cX0_overlap 33 = .ok (.aload_n 0, 1) := by decide +kernel
theorem dX0_overlap_34 : decode cX0_overlap 34 = .ok (.getfield 15, 3) := by decide +kernel
theorem dX0_overlap_37 : decode cX0_overlap 37 = .ok (.iload_n 1, 1) := by decide +kernel
theorem dX0_overlap_38 : decode cX0_overlap 38 = .ok (.iaload, 1) := by decide +kernel
theorem dX0_overlap_39 : decode cX0_overlap 39 = .ok (.isub, 1) := by decide +kernel
theorem dX0_overlap_40 : decode cX0_overlap 40 = .ok (.aload_n 0, 1) := by decide +kernel
theorem dX0_overlap_41 : decode cX0_overlap 41 = .ok (.getfield 15, 3) := by decide +kernel
theorem dX0_overlap_44 : decode cX0_overlap 44 = .ok (.iload_n 3, 1) := by decide +kernel
theorem dX0_overlap_45 : decode cX0_overlap 45 = .ok (.iaload, 1) := by decide +kernel
theorem dX0_overlap_46 : decode cX0_overlap 46 = .ok (.aload_n 0, 1) := by decide +kernel
theorem dX0_overlap_47 : decode cX0_overlap 47 = .ok (.getfield 15, 3) := by decide +kernel
theorem dX0_overlap_50 : decode cX0_overlap 50 = .ok (.iload_n 1, 1) := by decide +kernel
theorem dX0_overlap_51 : decode cX0_overlap 51 = .ok (.iaload, 1) := by decide +kernel
theorem dX0_overlap_52 : decode cX0_overlap 52 = .ok (.isub, 1) := by decide +kernel
theorem dX0_overlap_53 : decode cX0_overlap 53 = .ok (.imul, 1) := by decide +kernel
theorem dX0_overlap_54 : decode cX0_overlap 54 = .ok (.iadd, 1) := by decide +kernel
theorem dX0_overlap_55 : decode cX0_overlap 55 = .ok (.istore 4, 2) := by decide +kernel
theorem dX0_overlap_57 : decode cX0_overlap 57 = .ok (.aload_n 0, 1) := by decide +kernel
theorem dX0_overlap_58 : decode cX0_overlap 58 = .ok (.iload_n 1, 1) := by decide +kernel
theorem dX0_overlap_59 : decode cX0_overlap 59 = .ok (.iload_n 2, 1) := by decide +kernel
theorem dX0_overlap_60 : decode cX0_overlap 60 = .ok (.iload_n 3, 1) := by decide +kernel
theorem dX0_overlap_61 : decode cX0_overlap 61 = .ok (.invokevirtual 123, 3) := by decide +kernel
theorem dX0_overlap_64 : decode cX0_overlap 64 = .ok (.ifCond .ne 12, 3) := by decide +kernel
theorem dX0_overlap_67 : decode cX0_overlap 67 = .ok (.iload 4, 2) := by decide +kernel
theorem dX0_overlap_69 : decode cX0_overlap 69 = .ok (.ifCond .le 7, 3) := by decide +kernel
theorem dX0_overlap_72 : decode cX0_overlap 72 = .ok (.iconst 1, 1) := by decide +kernel
theorem dX0_overlap_73 : decode cX0_overlap 73 = .ok (.goto 4, 3) := by decide +kernel
theorem dX0_overlap_76 : decode cX0_overlap 76 = .ok (.iconst 0, 1) := by decide +kernel
theorem dX0_overlap_77 : decode cX0_overlap 77 = .ok (.ireturn, 1) := by decide +kernel
theorem dX0_takeOff_0 : decode cX0_takeOff 0 = .ok (.iload_n 1, 1) := by decide +kernel
theorem dX0_takeOff_1 : decode cX0_takeOff 1 = .ok (.ifCond .ge 4, 3) := by decide +kernel
theorem dX0_takeOff_4 : decode cX0_takeOff 4 = .ok (.return_, 1) := by decide +kernel
theorem dX0_takeOff_5 : decode cX0_takeOff 5 = .ok (.aload_n 0, 1) := by decide +kernel
theorem dX0_takeOff_6 : decode cX0_takeOff 6 = .ok (.getfield 18, 3) := by decide +kernel
theorem dX0_takeOff_9 : decode cX0_takeOff 9 = .ok (.iload_n 1, 1) := by decide +kernel
theorem dX0_takeOff_10 : decode cX0_takeOff 10 = .ok (.aload_n 0, 1) := by decide +kernel
theorem dX0_takeOff_11 : decode cX0_takeOff 11 = .ok (.getfield 27, 3) := by decide +kernel
theorem dX0_takeOff_14 : decode cX0_takeOff 14 = .ok (.iload_n 1, 1) := by decide +kernel
theorem dX0_takeOff_15 : decode cX0_takeOff 15 = .ok (.iaload, 1) := by decide +kernel
theorem dX0_takeOff_16 : decode cX0_takeOff 16 = .ok (.iastore, 1) := by decide +kernel
theorem dX0_takeOff_17 : decode cX0_takeOff 17 = .ok (.aload_n 0, 1) := by decide +kernel
theorem dX0_takeOff_18 : decode cX0_takeOff 18 = .ok (.getfield 21, 3) := by decide +kernel
theorem dX0_takeOff_21 : decode cX0_takeOff 21 = .ok (.iload_n 1, 1) := by decide +kernel
theorem dX0_takeOff_22 : decode cX0_takeOff 22 = .ok (.aload_n 0, 1) := by decide +kernel
theorem dX0_takeOff_23 : decode cX0_takeOff 23 = .ok (.getfield 30, 3) := by decide +kernel
theorem dX0_takeOff_26 : decode cX0_takeOff 26 = .ok (.iload_n 1, 1) := by decide +kernel
theorem dX0_takeOff_27 : decode cX0_takeOff 27 = .ok (.iaload, 1) := by decide +kernel
theorem dX0_takeOff_28 : decode cX0_takeOff 28 = .ok (.iastore, 1) := by decide +kernel
theorem dX0_takeOff_29 : decode cX0_takeOff 29 = .ok (.aload_n 0, 1) := by decide +kernel
theorem dX0_takeOff_30 : decode cX0_takeOff 30 = .ok (.dup, 1) := by decide +kernel
theorem dX0_takeOff_31 : decode cX0_takeOff 31 = .ok (.getfield 91, 3) := by decide +kernel
theorem dX0_takeOff_34 : decode cX0_takeOff 34 = .ok (.iconst 1, 1) := by decide +kernel
theorem dX0_takeOff_35 : decode cX0_takeOff 35 = .ok (.iload_n 1, 1) := by decide +kernel
theorem dX0_takeOff_36 : decode cX0_takeOff 36 = .ok (.ishl, 1) := by decide +kernel
theorem dX0_takeOff_37 : decode cX0_takeOff 37 = .ok (.iconst (-1), 1) := by decide +kernel
theorem dX0_takeOff_38 : decode cX0_takeOff 38 = .ok (.ixor, 1) := by decide +kernel
theorem dX0_takeOff_39 : decode cX0_takeOff 39 = .ok (.iand, 1) := by decide +kernel
theorem dX0_takeOff_40 : decode cX0_takeOff 40 = .ok (.putfield 91, 3) := by decide +kernel
theorem dX0_takeOff_43 : decode cX0_takeOff 43 = .ok (.aload_n 0, 1) := by decide +kernel
theorem dX0_takeOff_44 : decode cX0_takeOff 44 = .ok (.getfield 21, 3) := by decide +kernel
theorem dX0_takeOff_47 : decode cX0_takeOff 47 = .ok (.iload_n 1, 1) := by decide +kernel
theorem dX0_takeOff_48 : decode cX0_takeOff 48 = .ok (.iaload, 1) := by decide +kernel
theorem dX0_takeOff_49 : decode cX0_takeOff 49 = .ok (.istore_n 2, 1) := by decide +kernel
theorem dX0_takeOff_50 : decode cX0_takeOff 50 = .ok (.aload_n 0, 1) := by decide +kernel
theorem dX0_takeOff_51 : decode cX0_takeOff 51 = .ok (.getfield 43, 3) := by decide +kernel
theorem dX0_takeOff_54 : decode cX0_takeOff 54 = .ok (.iload_n 1, 1) := by decide +kernel
theorem dX0_takeOff_55 : decode cX0_takeOff 55 = .ok (.iload_n 2, 1) := by decide +kernel
theorem dX0_takeOff_56 : decode cX0_takeOff 56 = .ok (.invokevirtual 82, 3) := by decide +kernel
theorem dX0_takeOff_59 : decode cX0_takeOff 59 = .ok (.istore_n 3, 1) := by decide +kernel
theorem dX0_takeOff_60 : decode cX0_takeOff 60 = .ok (.iconst 0, 1) := by decide +kernel
theorem dX0_takeOff_61 : decode cX0_takeOff 61 = .ok (.istore 4, 2) := by decide +kernel
theorem dX0_takeOff_63 : decode cX0_takeOff 63 = .ok (.iload 4, 2) := by decide +kernel
theorem dX0_takeOff_65 : decode cX0_takeOff 65 = .ok (.bipush 20, 2) := by decide +kernel
theorem dX0_takeOff_67 : decode cX0_takeOff 67 = .ok (.if_icmp .ge 60, 3) := by decide +kernel
theorem dX0_takeOff_70 : decode cX0_takeOff 70 = .ok (.iload_n 3, 1) := by decide +kernel
theorem dX0_takeOff_71 : decode cX0_takeOff 71 = .ok (.ifCond .lt 56, 3) := by decide +kernel
theorem dX0_takeOff_74 : decode cX0_takeOff 74 = .ok (.iload_n 3, 1) := by decide +kernel
theorem dX0_takeOff_75 : decode cX0_takeOff 75 = .ok (.aload_n 0, 1) := by decide +kernel
theorem dX0_takeOff_76 : decode cX0_takeOff 76 = .ok (.getfield 18, 3) := by decide +kernel
theorem dX0_takeOff_79 : decode cX0_takeOff 79 = .ok (.iload_n 1, 1) := by decide +kernel
theorem dX0_takeOff_80 : decode cX0_takeOff 80 = .ok (.iaload, 1) := by decide +kernel
theorem dX0_takeOff_81 : decode cX0_takeOff 81 = .ok (.if_icmp .eq 46, 3) := by decide +kernel
theorem dX0_takeOff_84 : decode cX0_takeOff 84 = .ok (.aload_n 0, 1) := by decide +kernel
theorem dX0_takeOff_85 : decode cX0_takeOff 85 = .ok (.getfield 24, 3) := by decide +kernel
theorem dX0_takeOff_88 : decode cX0_takeOff 88 = .ok (.iload_n 3, 1) := by decide +kernel
theorem dX0_takeOff_89 : decode cX0_takeOff 89 = .ok (.iload_n 1, 1) := by decide +kernel
theorem dX0_takeOff_90 : decode cX0_takeOff 90 = .ok (.iastore, 1) := by decide +kernel
theorem dX0_takeOff_91 : decode cX0_takeOff 91 = .ok (.aload_n 0, 1) := by decide +kernel
theorem dX0_takeOff_92 : decode cX0_takeOff 92 = .ok (.dup, 1) := by decide +kernel
theorem dX0_takeOff_93 : decode cX0_takeOff 93 = .ok (.getfield 91, 3) := by decide +kernel
theorem dX0_takeOff_96 : decode cX0_takeOff 96 = .ok (.iconst 1, 1) := by decide +kernel
theorem dX0_takeOff_97 : decode cX0_takeOff 97 = .ok (.iload_n 3, 1) := by decide +kernel
theorem dX0_takeOff_98 : decode cX0_takeOff 98 = .ok (.ishl, 1) := by decide +kernel
theorem dX0_takeOff_99 : decode cX0_takeOff 99 = .ok (.ior, 1) := by decide +kernel
theorem dX0_takeOff_100 : decode cX0_takeOff 100 = .ok (.putfield 91, 3) := by decide +kernel
theorem dX0_takeOff_103 : decode cX0_takeOff 103 = .ok (.aload_n 0, 1) := by decide +kernel
theorem dX0_takeOff_104 : decode cX0_takeOff 104 = .ok (.iload_n 2, 1) := by decide +kernel
theorem dX0_takeOff_105 : decode cX0_takeOff 105 = .ok (.iload_n 3, 1) := by decide +kernel
theorem dX0_takeOff_106 : decode cX0_takeOff 106 = .ok (.invokevirtual 94, 3) := by decide +kernel
theorem dX0_takeOff_109 : decode cX0_takeOff 109 = .ok (.iload_n 3, 1) := by decide +kernel
theorem dX0_takeOff_110 : decode cX0_takeOff 110 = .ok (.istore_n 2, 1) := by decide +kernel
theorem dX0_takeOff_111 : decode cX0_takeOff 111 = .ok (.aload_n 0, 1) := by decide +kernel
theorem dX0_takeOff_112 : decode cX0_takeOff 112 = .ok (.getfield 43, 3) := by decide +kernel
theorem dX0_takeOff_115 : decode cX0_takeOff 115 = .ok (.iload_n 1, 1) := by decide +kernel
theorem dX0_takeOff_116 : decode cX0_takeOff 116 = .ok (.iload_n 3, 1) := by decide +kernel
theorem dX0_takeOff_117 : decode cX0_takeOff 117 = .ok (.invokevirtual 82, 3) := by decide +kernel
theorem dX0_takeOff_120 : decode cX0_takeOff 120 = .ok (.istore_n 3, 1) := by decide +kernel
theorem dX0_takeOff_121 : decode cX0_takeOff 121 = .ok (.iinc 4 1, 3) := by decide +kernel
theorem dX0_takeOff_124 : decode cX0_takeOff 124 = .ok (.goto (-61), 3) := by decide +kernel
theorem dX0_takeOff_127 : decode cX0_takeOff 127 = .ok (.aload_n 0, 1) := by decide +kernel
theorem dX0_takeOff_128 : decode cX0_takeOff 128 = .ok (.iload_n 2, 1) := by decide +kernel
theorem dX0_takeOff_129 : decode cX0_takeOff 129 = .ok (.aload_n 0, 1) := by decide +kernel
theorem dX0_takeOff_130 : decode cX0_takeOff 130 = .ok (.getfield 18, 3) := by decide +kernel
theorem dX0_takeOff_133 : decode cX0_takeOff 133 = .ok (.iload_n 1, 1) := by decide +kernel
theorem dX0_takeOff_134 : decode cX0_takeOff 134 = .ok (.iaload, 1) := by decide +kernel
theorem dX0_takeOff_135 : decode cX0_takeOff 135 = .ok (.invokevirtual 94, 3) := by decide +kernel
theorem dX0_takeOff_138 : decode cX0_takeOff 138 = .ok (.return_, 1) := by decide +kernel
theorem dX1_findBehind_18 : decode cX1_findBehind 18 = .ok (.aload_n 1, 1) := by decide +kernel
theorem dX1_findBehind_19 : decode cX1_findBehind 19 = .ok (.iload_n 2, 1) := by decide +kernel
theorem dX1_findBehind_20 : decode cX1_findBehind 20 = .ok (.invokevirtual 46, 3) := by decide +kernel
theorem dX1_findBehind_23 : decode cX1_findBehind 23 = .ok (.istore_n 3, 1) := by decide +kernel
theorem dX1_findBehind_24 : decode cX1_findBehind 24 = .ok (.iconst 0, 1) := by decide +kernel
theorem dX1_findBehind_25 : decode cX1_findBehind 25 = .ok (.istore 4, 2) := by decide +kernel
theorem dX1_findBehind_27 : decode cX1_findBehind 27 = .ok (.iload 4, 2) := by decide +kernel
theorem dX1_findBehind_29 : decode cX1_findBehind 29 = .ok (.iload_n 3, 1) := by decide +kernel
theorem dX1_findBehind_30 : decode cX1_findBehind 30 = .ok (.if_icmp .ge 42, 3) := by decide +kernel
theorem dX1_findBehind_33 : decode cX1_findBehind 33 = .ok (.aload_n 0, 1) := by decide +kernel
theorem dX1_findBehind_34 : decode cX1_findBehind 34 = .ok (.getfield 22, 3) := by decide +kernel
theorem dX1_findBehind_37 : decode cX1_findBehind 37 = .ok (.aload_n 1, 1) := by decide +kernel
theorem dX1_findBehind_38 : decode cX1_findBehind 38 = .ok (.iload_n 2, 1) := by decide +kernel
theorem dX1_findBehind_39 : decode cX1_findBehind 39 = .ok (.iload 4, 2) := by decide +kernel
theorem dX1_findBehind_41 : decode cX1_findBehind 41 = .ok (.invokevirtual 53, 3) := by decide +kernel
theorem dX1_findBehind_44 : decode cX1_findBehind 44 = .ok (.aload_n 1, 1) := by decide +kernel
theorem dX1_findBehind_45 : decode cX1_findBehind 45 = .ok (.iload_n 2, 1) := by decide +kernel
theorem dX1_findBehind_46 : decode cX1_findBehind 46 = .ok (.iload 4, 2) := by decide +kernel
theorem dX1_findBehind_48 : decode cX1_findBehind 48 = .ok (.iconst 1, 1) := by decide +kernel
theorem dX1_findBehind_49 : decode cX1_findBehind 49 = .ok (.iadd, 1) := by decide +kernel
theorem dX1_findBehind_50 : decode cX1_findBehind 50 = .ok (.iload_n 3, 1) := by decide +kernel
theorem dX1_findBehind_51 : decode cX1_findBehind 51 = .ok (.if_icmp .ge 10, 3) := by decide +kernel
theorem dX1_findBehind_54 : decode cX1_findBehind 54 = .ok (.iload 4, 2) := by decide +kernel
theorem dX1_findBehind_56 : decode cX1_findBehind 56 = .ok (.iconst 1, 1) := by decide +kernel
theorem dX1_findBehind_57 : decode cX1_findBehind 57 = .ok (.iadd, 1) := by decide +kernel
theorem dX1_findBehind_58 : decode cX1_findBehind 58 = .ok (.goto 4, 3) := by decide +kernel
theorem dX1_findBehind_61 : decode cX1_findBehind 61 = .ok (.iconst 0, 1) := by decide +kernel
theorem dX1_findBehind_62 : decode cX1_findBehind 62 = .ok (.invokevirtual 53, 3) := by decide +kernel
theorem dX1_findBehind_65 : decode cX1_findBehind 65 = .ok (.iastore, 1) := by decide +kernel
theorem dX1_findBehind_66 : decode cX1_findBehind 66 = .ok (.iinc 4 1, 3) := by decide +kernel
theorem dX1_findBehind_69 : decode cX1_findBehind 69 = .ok (.goto (-42), 3) := by decide +kernel
theorem dX1_findBehind_72 : decode cX1_findBehind 72 = .ok (.iinc 2 1, 3) := by decide +kernel
theorem dX1_findBehind_75 : decode cX1_findBehind 75 = .ok (.goto (-65), 3) := by decide +kernel
theorem dX1_trace_38 : decode cX1_trace 38 = .ok (.aload_n 0, 1) := by decide +kernel
theorem dX1_trace_39 : decode cX1_trace 39 = .ok (.getfield 18, 3) := by decide +kernel
theorem dX1_trace_42 : decode cX1_trace 42 = .ok (.iload_n 2, 1) := by decide +kernel
theorem dX1_trace_43 : decode cX1_trace 43 = .ok (.iaload, 1) := by decide +kernel
theorem dX1_trace_44 : decode cX1_trace 44 = .ok (.ifCond .ge 8, 3) := by decide +kernel
theorem dX1_trace_47 : decode cX1_trace 47 = .ok (.aload_n 0, 1) := by decide +kernel
theorem dX1_trace_48 : decode cX1_trace 48 = .ok (.iload_n 2, 1) := by decide +kernel
theorem dX1_trace_49 : decode cX1_trace 49 = .ok (.invokevirtual 38, 3) := by decide +kernel
theorem dX1_trace_68 : decode cX1_trace 68 = .ok (.aload_n 1, 1) := by decide +kernel
theorem dX1_trace_69 : decode cX1_trace 69 = .ok (.iload_n 2, 1) := by decide +kernel
theorem dX1_trace_70 : decode cX1_trace 70 = .ok (.invokevirtual 46, 3) := by decide +kernel
theorem dX1_trace_73 : decode cX1_trace 73 = .ok (.ifCond .ne 10, 3) := by decide +kernel
theorem dX1_trace_76 : decode cX1_trace 76 = .ok (.aload_n 0, 1) := by decide +kernel
theorem dX1_trace_77 : decode cX1_trace 77 = .ok (.getfield 12, 3) := by decide +kernel
theorem dX1_trace_80 : decode cX1_trace 80 = .ok (.invokevirtual 50, 3) := by decide +kernel
theorem dX1_trace_83 : decode cX1_trace 83 = .ok (.iinc 2 1, 3) := by decide +kernel
theorem dX1_trace_86 : decode cX1_trace 86 = .ok (.goto (-26), 3) := by decide +kernel
theorem dX1_walk_0 : decode cX1_walk 0 = .ok (.aload_n 0, 1) := by decide +kernel
theorem dX1_walk_1 : decode cX1_walk 1 = .ok (.getfield 12, 3) := by decide +kernel
theorem dX1_walk_4 : decode cX1_walk 4 = .ok (.getfield 42, 3) := by decide +kernel
theorem dX1_walk_7 : decode cX1_walk 7 = .ok (.istore_n 2, 1) := by decide +kernel
theorem dX1_walk_8 : decode cX1_walk 8 = .ok (.aload_n 0, 1) := by decide +kernel
theorem dX1_walk_9 : decode cX1_walk 9 = .ok (.getfield 12, 3) := by decide +kernel
theorem dX1_walk_12 : decode cX1_walk 12 = .ok (.invokevirtual 50, 3) := by decide +kernel
theorem dX1_walk_15 : decode cX1_walk 15 = .ok (.iload_n 1, 1) := by decide +kernel
theorem dX1_walk_16 : decode cX1_walk 16 = .ok (.istore_n 3, 1) := by decide +kernel
theorem dX1_walk_17 : decode cX1_walk 17 = .ok (.iconst 0, 1) := by decide +kernel
theorem dX1_walk_18 : decode cX1_walk 18 = .ok (.istore 4, 2) := by decide +kernel
theorem dX1_walk_20 : decode cX1_walk 20 = .ok (.iload 4, 2) := by decide +kernel
theorem dX1_walk_22 : decode cX1_walk 22 = .ok (.sipush 160, 3) := by decide +kernel
theorem dX1_walk_25 : decode cX1_walk 25 = .ok (.if_icmp .ge 47, 3) := by decide +kernel
theorem dX1_walk_28 : decode cX1_walk 28 = .ok (.iload_n 3, 1) := by decide +kernel
theorem dX1_walk_29 : decode cX1_walk 29 = .ok (.ifCond .lt 43, 3) := by decide +kernel
theorem dX1_walk_32 : decode cX1_walk 32 = .ok (.aload_n 0, 1) := by decide +kernel
theorem dX1_walk_33 : decode cX1_walk 33 = .ok (.getfield 18, 3) := by decide +kernel
theorem dX1_walk_36 : decode cX1_walk 36 = .ok (.iload_n 3, 1) := by decide +kernel
theorem dX1_walk_37 : decode cX1_walk 37 = .ok (.iaload, 1) := by decide +kernel
theorem dX1_walk_38 : decode cX1_walk 38 = .ok (.ifCond .ge 34, 3) := by decide +kernel
theorem dX1_walk_41 : decode cX1_walk 41 = .ok (.aload_n 0, 1) := by decide +kernel
theorem dX1_walk_42 : decode cX1_walk 42 = .ok (.getfield 18, 3) := by decide +kernel
theorem dX1_walk_45 : decode cX1_walk 45 = .ok (.iload_n 3, 1) := by decide +kernel
theorem dX1_walk_46 : decode cX1_walk 46 = .ok (.iload_n 2, 1) := by decide +kernel
theorem dX1_walk_47 : decode cX1_walk 47 = .ok (.iastore, 1) := by decide +kernel
theorem dX1_walk_48 : decode cX1_walk 48 = .ok (.aload_n 0, 1) := by decide +kernel
theorem dX1_walk_49 : decode cX1_walk 49 = .ok (.getfield 12, 3) := by decide +kernel
theorem dX1_walk_52 : decode cX1_walk 52 = .ok (.iload_n 2, 1) := by decide +kernel
theorem dX1_walk_53 : decode cX1_walk 53 = .ok (.iload_n 3, 1) := by decide +kernel
theorem dX1_walk_54 : decode cX1_walk 54 = .ok (.invokevirtual 57, 3) := by decide +kernel
theorem dX1_walk_57 : decode cX1_walk 57 = .ok (.aload_n 0, 1) := by decide +kernel
theorem dX1_walk_58 : decode cX1_walk 58 = .ok (.getfield 22, 3) := by decide +kernel
theorem dX1_walk_61 : decode cX1_walk 61 = .ok (.iload_n 3, 1) := by decide +kernel
theorem dX1_walk_62 : decode cX1_walk 62 = .ok (.iconst 1, 1) := by decide +kernel
theorem dX1_walk_63 : decode cX1_walk 63 = .ok (.ixor, 1) := by decide +kernel
theorem dX1_walk_64 : decode cX1_walk 64 = .ok (.iaload, 1) := by decide +kernel
theorem dX1_walk_65 : decode cX1_walk 65 = .ok (.istore_n 3, 1) := by decide +kernel
theorem dX1_walk_66 : decode cX1_walk 66 = .ok (.iinc 4 1, 3) := by decide +kernel
theorem dX1_walk_69 : decode cX1_walk 69 = .ok (.goto (-49), 3) := by decide +kernel
theorem dX1_walk_72 : decode cX1_walk 72 = .ok (.return_, 1) := by decide +kernel
theorem dX2_fill_39 : decode cX2_fill 39 = .ok (.iload 4, 2) := by decide +kernel
theorem dX2_fill_41 : decode cX2_fill 41 = .ok (.aload_n 0, 1) := by decide +kernel
theorem dX2_fill_42 : decode cX2_fill 42 = .ok (.getfield 15, 3) := by decide +kernel
theorem dX2_fill_45 : decode cX2_fill 45 = .ok (.iload 5, 2) := by decide +kernel
theorem dX2_fill_47 : decode cX2_fill 47 = .ok (.iaload, 1) := by decide +kernel
theorem dX2_fill_48 : decode cX2_fill 48 = .ok (.invokestatic 28, 3) := by decide +kernel
theorem dX2_fill_51 : decode cX2_fill 51 = .ok (.iadd, 1) := by decide +kernel
theorem dX2_fill_52 : decode cX2_fill 52 = .ok (.istore 4, 2) := by decide +kernel
theorem dX2_fill_54 : decode cX2_fill 54 = .ok (.iinc 5 1, 3) := by decide +kernel
theorem dX2_fill_57 : decode cX2_fill 57 = .ok (.goto (-24), 3) := by decide +kernel
theorem dX2_fill_75 : decode cX2_fill 75 = .ok (.iconst 3, 1) := by decide +kernel
theorem dX2_fill_76 : decode cX2_fill 76 = .ok (.iload_n 2, 1) := by decide +kernel
theorem dX2_fill_77 : decode cX2_fill 77 = .ok (.imul, 1) := by decide +kernel
theorem dX2_fill_78 : decode cX2_fill 78 = .ok (.bipush 6, 2) := by decide +kernel
theorem dX2_fill_80 : decode cX2_fill 80 = .ok (.isub, 1) := by decide +kernel
theorem dX2_fill_97 : decode cX2_fill 97 = .ok (.iload 6, 2) := by decide +kernel
theorem dX2_fill_99 : decode cX2_fill 99 = .ok (.iconst 1, 1) := by decide +kernel
theorem dX2_fill_100 : decode cX2_fill 100 = .ok (.iadd, 1) := by decide +kernel
theorem dX2_fill_101 : decode cX2_fill 101 = .ok (.istore 7, 2) := by decide +kernel
theorem dX2_fill_103 : decode cX2_fill 103 = .ok (.iload 7, 2) := by decide +kernel
theorem dX2_fill_105 : decode cX2_fill 105 = .ok (.iload_n 2, 1) := by decide +kernel
theorem dX2_fill_106 : decode cX2_fill 106 = .ok (.if_icmp .ge 66, 3) := by decide +kernel
theorem dX2_fill_109 : decode cX2_fill 109 = .ok (.iload 5, 2) := by decide +kernel
theorem dX2_fill_111 : decode cX2_fill 111 = .ok (.ifCond .le 61, 3) := by decide +kernel
theorem dX2_fill_114 : decode cX2_fill 114 = .ok (.aload_n 0, 1) := by decide +kernel
theorem dX2_fill_115 : decode cX2_fill 115 = .ok (.getfield 15, 3) := by decide +kernel
theorem dX2_fill_118 : decode cX2_fill 118 = .ok (.iload 6, 2) := by decide +kernel
theorem dX2_fill_120 : decode cX2_fill 120 = .ok (.iaload, 1) := by decide +kernel
theorem dX2_fill_121 : decode cX2_fill 121 = .ok (.iload 7, 2) := by decide +kernel
theorem dX2_fill_123 : decode cX2_fill 123 = .ok (.invokestatic 34, 3) := by decide +kernel
theorem dX2_fill_126 : decode cX2_fill 126 = .ok (.ifCond .eq 6, 3) := by decide +kernel
theorem dX2_fill_129 : decode cX2_fill 129 = .ok (.goto 37, 3) := by decide +kernel
theorem dX2_fill_132 : decode cX2_fill 132 = .ok (.aload_n 0, 1) := by decide +kernel
theorem dX2_fill_133 : decode cX2_fill 133 = .ok (.iload 6, 2) := by decide +kernel
theorem dX2_fill_135 : decode cX2_fill 135 = .ok (.iload 7, 2) := by decide +kernel
theorem dX2_fill_137 : decode cX2_fill 137 = .ok (.invokevirtual 38, 3) := by decide +kernel
theorem dX2_fill_140 : decode cX2_fill 140 = .ok (.aload_n 3, 1) := by decide +kernel
theorem dX2_fill_141 : decode cX2_fill 141 = .ok (.aload_n 0, 1) := by decide +kernel
theorem dX2_fill_142 : decode cX2_fill 142 = .ok (.getfield 15, 3) := by decide +kernel
theorem dX2_fill_145 : decode cX2_fill 145 = .ok (.iload_n 2, 1) := by decide +kernel
theorem dX2_fill_146 : decode cX2_fill 146 = .ok (.invokevirtual 42, 3) := by decide +kernel
theorem dX2_fill_149 : decode cX2_fill 149 = .ok (.ifCond .eq 9, 3) := by decide +kernel
theorem dX2_fill_152 : decode cX2_fill 152 = .ok (.iinc 5 (-1), 3) := by decide +kernel
theorem dX2_fill_155 : decode cX2_fill 155 = .ok (.goto 11, 3) := by decide +kernel
theorem dX2_fill_158 : decode cX2_fill 158 = .ok (.aload_n 0, 1) := by decide +kernel
theorem dX2_fill_159 : decode cX2_fill 159 = .ok (.iload 6, 2) := by decide +kernel
theorem dX2_fill_161 : decode cX2_fill 161 = .ok (.iload 7, 2) := by decide +kernel
theorem dX2_fill_163 : decode cX2_fill 163 = .ok (.invokevirtual 38, 3) := by decide +kernel
theorem dX2_fill_166 : decode cX2_fill 166 = .ok (.iinc 7 1, 3) := by decide +kernel
theorem dX2_fill_169 : decode cX2_fill 169 = .ok (.goto (-66), 3) := by decide +kernel
theorem dX2_fill_172 : decode cX2_fill 172 = .ok (.iinc 6 1, 3) := by decide +kernel
theorem dX2_fill_175 : decode cX2_fill 175 = .ok (.goto (-84), 3) := by decide +kernel
theorem dX2_isOf_10 : decode cX2_isOf 10 = .ok (.iconst 0, 1) := by decide +kernel
theorem dX2_isOf_11 : decode cX2_isOf 11 = .ok (.istore_n 3, 1) := by decide +kernel
theorem dX2_isOf_12 : decode cX2_isOf 12 = .ok (.iload_n 3, 1) := by decide +kernel
theorem dX2_isOf_13 : decode cX2_isOf 13 = .ok (.iload_n 2, 1) := by decide +kernel
theorem dX2_isOf_14 : decode cX2_isOf 14 = .ok (.if_icmp .ge 41, 3) := by decide +kernel
theorem dX2_isOf_17 : decode cX2_isOf 17 = .ok (.aload_n 0, 1) := by decide +kernel
theorem dX2_isOf_18 : decode cX2_isOf 18 = .ok (.getfield 9, 3) := by decide +kernel
theorem dX2_isOf_21 : decode cX2_isOf 21 = .ok (.iload_n 3, 1) := by decide +kernel
theorem dX2_isOf_22 : decode cX2_isOf 22 = .ok (.iaload, 1) := by decide +kernel
theorem dX2_isOf_23 : decode cX2_isOf 23 = .ok (.aload_n 1, 1) := by decide +kernel
theorem dX2_isOf_24 : decode cX2_isOf 24 = .ok (.iload_n 3, 1) := by decide +kernel
theorem dX2_isOf_25 : decode cX2_isOf 25 = .ok (.iaload, 1) := by decide +kernel
theorem dX2_isOf_26 : decode cX2_isOf 26 = .ok (.iconst (-1), 1) := by decide +kernel
theorem dX2_isOf_27 : decode cX2_isOf 27 = .ok (.ixor, 1) := by decide +kernel
theorem dX2_isOf_28 : decode cX2_isOf 28 = .ok (.iand, 1) := by decide +kernel
theorem dX2_isOf_29 : decode cX2_isOf 29 = .ok (.ifCond .ne 18, 3) := by decide +kernel
theorem dX2_isOf_32 : decode cX2_isOf 32 = .ok (.aload_n 1, 1) := by decide +kernel
theorem dX2_isOf_33 : decode cX2_isOf 33 = .ok (.iload_n 3, 1) := by decide +kernel
theorem dX2_isOf_34 : decode cX2_isOf 34 = .ok (.iaload, 1) := by decide +kernel
theorem dX2_isOf_35 : decode cX2_isOf 35 = .ok (.aload_n 0, 1) := by decide +kernel
theorem dX2_isOf_36 : decode cX2_isOf 36 = .ok (.getfield 15, 3) := by decide +kernel
theorem dX2_isOf_39 : decode cX2_isOf 39 = .ok (.iload_n 3, 1) := by decide +kernel
theorem dX2_isOf_40 : decode cX2_isOf 40 = .ok (.iaload, 1) := by decide +kernel
theorem dX2_isOf_41 : decode cX2_isOf 41 = .ok (.iconst (-1), 1) := by decide +kernel
theorem dX2_isOf_42 : decode cX2_isOf 42 = .ok (.ixor, 1) := by decide +kernel
theorem dX2_isOf_43 : decode cX2_isOf 43 = .ok (.iand, 1) := by decide +kernel
theorem dX2_isOf_44 : decode cX2_isOf 44 = .ok (.ifCond .eq 5, 3) := by decide +kernel
theorem dX2_isOf_47 : decode cX2_isOf 47 = .ok (.iconst 0, 1) := by decide +kernel
theorem dX2_isOf_48 : decode cX2_isOf 48 = .ok (.ireturn, 1) := by decide +kernel
theorem dX2_isOf_49 : decode cX2_isOf 49 = .ok (.iinc 3 1, 3) := by decide +kernel
theorem dX2_isOf_52 : decode cX2_isOf 52 = .ok (.goto (-40), 3) := by decide +kernel
theorem dX2_isOf_55 : decode cX2_isOf 55 = .ok (.iconst 1, 1) := by decide +kernel
theorem dX2_isOf_56 : decode cX2_isOf 56 = .ok (.ireturn, 1) := by decide +kernel
theorem dX2_turnOver_0 : decode cX2_turnOver 0 = .ok (.aload_n 0, 1) := by decide +kernel
theorem dX2_turnOver_1 : decode cX2_turnOver 1 = .ok (.getfield 15, 3) := by decide +kernel
theorem dX2_turnOver_4 : decode cX2_turnOver 4 = .ok (.iload_n 1, 1) := by decide +kernel
theorem dX2_turnOver_5 : decode cX2_turnOver 5 = .ok (.dup2, 1) := by decide +kernel
theorem dX2_turnOver_6 : decode cX2_turnOver 6 = .ok (.iaload, 1) := by decide +kernel
theorem dX2_turnOver_7 : decode cX2_turnOver 7 = .ok (.iconst 1, 1) := by decide +kernel
theorem dX2_turnOver_8 : decode cX2_turnOver 8 = .ok (.iload_n 2, 1) := by decide +kernel
theorem dX2_turnOver_9 : decode cX2_turnOver 9 = .ok (.ishl, 1) := by decide +kernel
theorem dX2_turnOver_10 : decode cX2_turnOver 10 = .ok (.ixor, 1) := by decide +kernel
theorem dX2_turnOver_11 : decode cX2_turnOver 11 = .ok (.iastore, 1) := by decide +kernel
theorem dX2_turnOver_12 : decode cX2_turnOver 12 = .ok (.aload_n 0, 1) := by decide +kernel
theorem dX2_turnOver_13 : decode cX2_turnOver 13 = .ok (.getfield 15, 3) := by decide +kernel
theorem dX2_turnOver_16 : decode cX2_turnOver 16 = .ok (.iload_n 2, 1) := by decide +kernel
theorem dX2_turnOver_17 : decode cX2_turnOver 17 = .ok (.dup2, 1) := by decide +kernel
theorem dX2_turnOver_18 : decode cX2_turnOver 18 = .ok (.iaload, 1) := by decide +kernel
theorem dX2_turnOver_19 : decode cX2_turnOver 19 = .ok (.iconst 1, 1) := by decide +kernel
theorem dX2_turnOver_20 : decode cX2_turnOver 20 = .ok (.iload_n 1, 1) := by decide +kernel
theorem dX2_turnOver_21 : decode cX2_turnOver 21 = .ok (.ishl, 1) := by decide +kernel
theorem dX2_turnOver_22 : decode cX2_turnOver 22 = .ok (.ixor, 1) := by decide +kernel
theorem dX2_turnOver_23 : decode cX2_turnOver 23 = .ok (.iastore, 1) := by decide +kernel
theorem dX2_turnOver_24 : decode cX2_turnOver 24 = .ok (.return_, 1) := by decide +kernel
theorem dX3_addArc_0 : decode cX3_addArc 0 = .ok (.aload_n 0, 1) := by decide +kernel
theorem dX3_addArc_1 : decode cX3_addArc 1 = .ok (.getfield 9, 3) := by decide +kernel
theorem dX3_addArc_4 : decode cX3_addArc 4 = .ok (.iconst 2, 1) := by decide +kernel
theorem dX3_addArc_5 : decode cX3_addArc 5 = .ok (.aload_n 0, 1) := by decide +kernel
theorem dX3_addArc_6 : decode cX3_addArc 6 = .ok (.getfield 26, 3) := by decide +kernel
theorem dX3_addArc_9 : decode cX3_addArc 9 = .ok (.imul, 1) := by decide +kernel
theorem dX3_addArc_10 : decode cX3_addArc 10 = .ok (.iload_n 1, 1) := by decide +kernel
theorem dX3_addArc_11 : decode cX3_addArc 11 = .ok (.iastore, 1) := by decide +kernel
theorem dX3_addArc_12 : decode cX3_addArc 12 = .ok (.aload_n 0, 1) := by decide +kernel
theorem dX3_addArc_13 : decode cX3_addArc 13 = .ok (.getfield 9, 3) := by decide +kernel
theorem dX3_addArc_16 : decode cX3_addArc 16 = .ok (.iconst 2, 1) := by decide +kernel
theorem dX3_addArc_17 : decode cX3_addArc 17 = .ok (.aload_n 0, 1) := by decide +kernel
theorem dX3_addArc_18 : decode cX3_addArc 18 = .ok (.getfield 26, 3) := by decide +kernel
theorem dX3_addArc_21 : decode cX3_addArc 21 = .ok (.imul, 1) := by decide +kernel
theorem dX3_addArc_22 : decode cX3_addArc 22 = .ok (.iconst 1, 1) := by decide +kernel
theorem dX3_addArc_23 : decode cX3_addArc 23 = .ok (.iadd, 1) := by decide +kernel
theorem dX3_addArc_24 : decode cX3_addArc 24 = .ok (.iload_n 2, 1) := by decide +kernel
theorem dX3_addArc_25 : decode cX3_addArc 25 = .ok (.iastore, 1) := by decide +kernel
theorem dX3_addArc_26 : decode cX3_addArc 26 = .ok (.aload_n 0, 1) := by decide +kernel
theorem dX3_addArc_27 : decode cX3_addArc 27 = .ok (.getfield 15, 3) := by decide +kernel
theorem dX3_addArc_30 : decode cX3_addArc 30 = .ok (.aload_n 0, 1) := by decide +kernel
theorem dX3_addArc_31 : decode cX3_addArc 31 = .ok (.getfield 26, 3) := by decide +kernel
theorem dX3_addArc_34 : decode cX3_addArc 34 = .ok (.iconst 1, 1) := by decide +kernel
theorem dX3_addArc_35 : decode cX3_addArc 35 = .ok (.bastore, 1) := by decide +kernel
theorem dX3_addArc_36 : decode cX3_addArc 36 = .ok (.aload_n 0, 1) := by decide +kernel
theorem dX3_addArc_37 : decode cX3_addArc 37 = .ok (.dup, 1) := by decide +kernel
theorem dX3_addArc_38 : decode cX3_addArc 38 = .ok (.getfield 26, 3) := by decide +kernel
theorem dX3_addArc_41 : decode cX3_addArc 41 = .ok (.iconst 1, 1) := by decide +kernel
theorem dX3_addArc_42 : decode cX3_addArc 42 = .ok (.iadd, 1) := by decide +kernel
theorem dX3_addArc_43 : decode cX3_addArc 43 = .ok (.putfield 26, 3) := by decide +kernel
theorem dX3_addArc_46 : decode cX3_addArc 46 = .ok (.aload_n 0, 1) := by decide +kernel
theorem dX3_addArc_47 : decode cX3_addArc 47 = .ok (.dup, 1) := by decide +kernel
theorem dX3_addArc_48 : decode cX3_addArc 48 = .ok (.getfield 29, 3) := by decide +kernel
theorem dX3_addArc_51 : decode cX3_addArc 51 = .ok (.iconst 1, 1) := by decide +kernel
theorem dX3_addArc_52 : decode cX3_addArc 52 = .ok (.iadd, 1) := by decide +kernel
theorem dX3_addArc_53 : decode cX3_addArc 53 = .ok (.putfield 29, 3) := by decide +kernel
theorem dX3_addArc_56 : decode cX3_addArc 56 = .ok (.aload_n 0, 1) := by decide +kernel
theorem dX3_addArc_57 : decode cX3_addArc 57 = .ok (.aload_n 0, 1) := by decide +kernel
theorem dX3_addArc_58 : decode cX3_addArc 58 = .ok (.getfield 15, 3) := by decide +kernel
theorem dX3_addArc_61 : decode cX3_addArc 61 = .ok (.aload_n 0, 1) := by decide +kernel
theorem dX3_addArc_62 : decode cX3_addArc 62 = .ok (.getfield 19, 3) := by decide +kernel
theorem dX3_addArc_65 : decode cX3_addArc 65 = .ok (.invokevirtual 32, 3) := by decide +kernel
theorem dX3_addArc_68 : decode cX3_addArc 68 = .ok (.aload_n 0, 1) := by decide +kernel
theorem dX3_addArc_69 : decode cX3_addArc 69 = .ok (.getfield 26, 3) := by decide +kernel
theorem dX3_addArc_72 : decode cX3_addArc 72 = .ok (.iconst 1, 1) := by decide +kernel
theorem dX3_addArc_73 : decode cX3_addArc 73 = .ok (.isub, 1) := by decide +kernel
theorem dX3_addArc_74 : decode cX3_addArc 74 = .ok (.ireturn, 1) := by decide +kernel
theorem dX3_endAt_0 : decode cX3_endAt 0 = .ok (.aload_n 0, 1) := by decide +kernel
theorem dX3_endAt_1 : decode cX3_endAt 1 = .ok (.getfield 15, 3) := by decide +kernel
theorem dX3_endAt_4 : decode cX3_endAt 4 = .ok (.iload_n 3, 1) := by decide +kernel
theorem dX3_endAt_5 : decode cX3_endAt 5 = .ok (.baload, 1) := by decide +kernel
theorem dX3_endAt_6 : decode cX3_endAt 6 = .ok (.ifCond .ne 5, 3) := by decide +kernel
theorem dX3_endAt_9 : decode cX3_endAt 9 = .ok (.iconst (-1), 1) := by decide +kernel
theorem dX3_endAt_10 : decode cX3_endAt 10 = .ok (.ireturn, 1) := by decide +kernel
theorem dX3_endAt_11 : decode cX3_endAt 11 = .ok (.aload_n 0, 1) := by decide +kernel
theorem dX3_endAt_12 : decode cX3_endAt 12 = .ok (.getfield 9, 3) := by decide +kernel
theorem dX3_endAt_15 : decode cX3_endAt 15 = .ok (.iconst 2, 1) := by decide +kernel
theorem dX3_endAt_16 : decode cX3_endAt 16 = .ok (.iload_n 3, 1) := by decide +kernel
theorem dX3_endAt_17 : decode cX3_endAt 17 = .ok (.imul, 1) := by decide +kernel
theorem dX3_endAt_18 : decode cX3_endAt 18 = .ok (.iaload, 1) := by decide +kernel
theorem dX3_endAt_19 : decode cX3_endAt 19 = .ok (.iload_n 1, 1) := by decide +kernel
theorem dX3_endAt_20 : decode cX3_endAt 20 = .ok (.if_icmp .ne 21, 3) := by decide +kernel
theorem dX3_endAt_23 : decode cX3_endAt 23 = .ok (.aload_n 0, 1) := by decide +kernel
theorem dX3_endAt_24 : decode cX3_endAt 24 = .ok (.getfield 9, 3) := by decide +kernel
theorem dX3_endAt_27 : decode cX3_endAt 27 = .ok (.iconst 2, 1) := by decide +kernel
theorem dX3_endAt_28 : decode cX3_endAt 28 = .ok (.iload_n 3, 1) := by decide +kernel
theorem dX3_endAt_29 : decode cX3_endAt 29 = .ok (.imul, 1) := by decide +kernel
theorem dX3_endAt_30 : decode cX3_endAt 30 = .ok (.iconst 1, 1) := by decide +kernel
theorem dX3_endAt_31 : decode cX3_endAt 31 = .ok (.iadd, 1) := by decide +kernel
theorem dX3_endAt_32 : decode cX3_endAt 32 = .ok (.iaload, 1) := by decide +kernel
theorem dX3_endAt_33 : decode cX3_endAt 33 = .ok (.iload_n 2, 1) := by decide +kernel
theorem dX3_endAt_34 : decode cX3_endAt 34 = .ok (.if_icmp .ne 7, 3) := by decide +kernel
theorem dX3_endAt_37 : decode cX3_endAt 37 = .ok (.iconst 2, 1) := by decide +kernel
theorem dX3_endAt_38 : decode cX3_endAt 38 = .ok (.iload_n 3, 1) := by decide +kernel
theorem dX3_endAt_39 : decode cX3_endAt 39 = .ok (.imul, 1) := by decide +kernel
theorem dX3_endAt_40 : decode cX3_endAt 40 = .ok (.ireturn, 1) := by decide +kernel
theorem dX3_endAt_41 : decode cX3_endAt 41 = .ok (.aload_n 0, 1) := by decide +kernel
theorem dX3_endAt_42 : decode cX3_endAt 42 = .ok (.getfield 9, 3) := by decide +kernel
theorem dX3_endAt_45 : decode cX3_endAt 45 = .ok (.iconst 2, 1) := by decide +kernel
theorem dX3_endAt_46 : decode cX3_endAt 46 = .ok (.iload_n 3, 1) := by decide +kernel
theorem dX3_endAt_47 : decode cX3_endAt 47 = .ok (.imul, 1) := by decide +kernel
theorem dX3_endAt_48 : decode cX3_endAt 48 = .ok (.iaload, 1) := by decide +kernel
theorem dX3_endAt_49 : decode cX3_endAt 49 = .ok (.iload_n 2, 1) := by decide +kernel
theorem dX3_endAt_50 : decode cX3_endAt 50 = .ok (.if_icmp .ne 25, 3) := by decide +kernel
theorem dX3_endAt_53 : decode cX3_endAt 53 = .ok (.aload_n 0, 1) := by decide +kernel
theorem dX3_endAt_54 : decode cX3_endAt 54 = .ok (.getfield 9, 3) := by decide +kernel
theorem dX3_endAt_57 : decode cX3_endAt 57 = .ok (.iconst 2, 1) := by decide +kernel
theorem dX3_endAt_58 : decode cX3_endAt 58 = .ok (.iload_n 3, 1) := by decide +kernel
theorem dX3_endAt_59 : decode cX3_endAt 59 = .ok (.imul, 1) := by decide +kernel
theorem dX3_endAt_60 : decode cX3_endAt 60 = .ok (.iconst 1, 1) := by decide +kernel
theorem dX3_endAt_61 : decode cX3_endAt 61 = .ok (.iadd, 1) := by decide +kernel
theorem dX3_endAt_62 : decode cX3_endAt 62 = .ok (.iaload, 1) := by decide +kernel
theorem dX3_endAt_63 : decode cX3_endAt 63 = .ok (.iload_n 1, 1) := by decide +kernel
theorem dX3_endAt_64 : decode cX3_endAt 64 = .ok (.if_icmp .ne 11, 3) := by decide +kernel
theorem dX3_endAt_67 : decode cX3_endAt 67 = .ok (.iconst 2, 1) := by decide +kernel
theorem dX3_endAt_68 : decode cX3_endAt 68 = .ok (.iload_n 3, 1) := by decide +kernel
theorem dX3_endAt_69 : decode cX3_endAt 69 = .ok (.imul, 1) := by decide +kernel
theorem dX3_endAt_70 : decode cX3_endAt 70 = .ok (.iconst 1, 1) := by decide +kernel
theorem dX3_endAt_71 : decode cX3_endAt 71 = .ok (.iadd, 1) := by decide +kernel
theorem dX3_endAt_72 : decode cX3_endAt 72 = .ok (.goto 4, 3) := by decide +kernel
theorem dX3_endAt_75 : decode cX3_endAt 75 = .ok (.iconst (-1), 1) := by decide +kernel
theorem dX3_endAt_76 : decode cX3_endAt 76 = .ok (.ireturn, 1) := by decide +kernel
theorem dX3_findNeighbours_15 : decode cX3_findNeighbours 15 = .ok (.aload_n 1, 1) := by decide +kernel
theorem dX3_findNeighbours_16 : decode cX3_findNeighbours 16 = .ok (.iload_n 3, 1) := by decide +kernel
theorem dX3_findNeighbours_17 : decode cX3_findNeighbours 17 = .ok (.baload, 1) := by decide +kernel
theorem dX3_findNeighbours_18 : decode cX3_findNeighbours 18 = .ok (.ifCond .eq 61, 3) := by decide +kernel
theorem dX3_findNeighbours_21 : decode cX3_findNeighbours 21 = .ok (.aload_n 0, 1) := by decide +kernel
theorem dX3_findNeighbours_22 : decode cX3_findNeighbours 22 = .ok (.iload_n 3, 1) := by decide +kernel
theorem dX3_findNeighbours_23 : decode cX3_findNeighbours 23 = .ok (.invokevirtual 42, 3) := by decide +kernel
theorem dX3_findNeighbours_26 : decode cX3_findNeighbours 26 = .ok (.ifCond .ne 53, 3) := by decide +kernel
theorem dX3_findNeighbours_29 : decode cX3_findNeighbours 29 = .ok (.aload_n 2, 1) := by decide +kernel
theorem dX3_findNeighbours_30 : decode cX3_findNeighbours 30 = .ok (.aload_n 0, 1) := by decide +kernel
theorem dX3_findNeighbours_31 : decode cX3_findNeighbours 31 = .ok (.getfield 9, 3) := by decide +kernel
theorem dX3_findNeighbours_34 : decode cX3_findNeighbours 34 = .ok (.iconst 2, 1) := by decide +kernel
theorem dX3_findNeighbours_35 : decode cX3_findNeighbours 35 = .ok (.iload_n 3, 1) := by decide +kernel
theorem dX3_findNeighbours_36 : decode cX3_findNeighbours 36 = .ok (.imul, 1) := by decide +kernel
theorem dX3_findNeighbours_37 : decode cX3_findNeighbours 37 = .ok (.iaload, 1) := by decide +kernel
theorem dX3_findNeighbours_38 : decode cX3_findNeighbours 38 = .ok (.dup2, 1) := by decide +kernel
theorem dX3_findNeighbours_39 : decode cX3_findNeighbours 39 = .ok (.iaload, 1) := by decide +kernel
theorem dX3_findNeighbours_40 : decode cX3_findNeighbours 40 = .ok (.iconst 1, 1) := by decide +kernel
theorem dX3_findNeighbours_41 : decode cX3_findNeighbours 41 = .ok (.aload_n 0, 1) := by decide +kernel
theorem dX3_findNeighbours_42 : decode cX3_findNeighbours 42 = .ok (.getfield 9, 3) := by decide +kernel
theorem dX3_findNeighbours_45 : decode cX3_findNeighbours 45 = .ok (.iconst 2, 1) := by decide +kernel
theorem dX3_findNeighbours_46 : decode cX3_findNeighbours 46 = .ok (.iload_n 3, 1) := by decide +kernel
theorem dX3_findNeighbours_47 : decode cX3_findNeighbours 47 = .ok (.imul, 1) := by decide +kernel
theorem dX3_findNeighbours_48 : decode cX3_findNeighbours 48 = .ok (.iconst 1, 1) := by decide +kernel
theorem dX3_findNeighbours_49 : decode cX3_findNeighbours 49 = .ok (.iadd, 1) := by decide +kernel
theorem dX3_findNeighbours_50 : decode cX3_findNeighbours 50 = .ok (.iaload, 1) := by decide +kernel
theorem dX3_findNeighbours_51 : decode cX3_findNeighbours 51 = .ok (.ishl, 1) := by decide +kernel
theorem dX3_findNeighbours_52 : decode cX3_findNeighbours 52 = .ok (.ior, 1) := by decide +kernel
theorem dX3_findNeighbours_53 : decode cX3_findNeighbours 53 = .ok (.iastore, 1) := by decide +kernel
theorem dX3_findNeighbours_54 : decode cX3_findNeighbours 54 = .ok (.aload_n 2, 1) := by decide +kernel
theorem dX3_findNeighbours_55 : decode cX3_findNeighbours 55 = .ok (.aload_n 0, 1) := by decide +kernel
theorem dX3_findNeighbours_56 : decode cX3_findNeighbours 56 = .ok (.getfield 9, 3) := by decide +kernel
theorem dX3_findNeighbours_59 : decode cX3_findNeighbours 59 = .ok (.iconst 2, 1) := by decide +kernel
theorem dX3_findNeighbours_60 : decode cX3_findNeighbours 60 = .ok (.iload_n 3, 1) := by decide +kernel
theorem dX3_findNeighbours_61 : decode cX3_findNeighbours 61 = .ok (.imul, 1) := by decide +kernel
theorem dX3_findNeighbours_62 : decode cX3_findNeighbours 62 = .ok (.iconst 1, 1) := by decide +kernel
theorem dX3_findNeighbours_63 : decode cX3_findNeighbours 63 = .ok (.iadd, 1) := by decide +kernel
theorem dX3_findNeighbours_64 : decode cX3_findNeighbours 64 = .ok (.iaload, 1) := by decide +kernel
theorem dX3_findNeighbours_65 : decode cX3_findNeighbours 65 = .ok (.dup2, 1) := by decide +kernel
theorem dX3_findNeighbours_66 : decode cX3_findNeighbours 66 = .ok (.iaload, 1) := by decide +kernel
theorem dX3_findNeighbours_67 : decode cX3_findNeighbours 67 = .ok (.iconst 1, 1) := by decide +kernel
theorem dX3_findNeighbours_68 : decode cX3_findNeighbours 68 = .ok (.aload_n 0, 1) := by decide +kernel
theorem dX3_findNeighbours_69 : decode cX3_findNeighbours 69 = .ok (.getfield 9, 3) := by decide +kernel
theorem dX3_findNeighbours_72 : decode cX3_findNeighbours 72 = .ok (.iconst 2, 1) := by decide +kernel
theorem dX3_findNeighbours_73 : decode cX3_findNeighbours 73 = .ok (.iload_n 3, 1) := by decide +kernel
theorem dX3_findNeighbours_74 : decode cX3_findNeighbours 74 = .ok (.imul, 1) := by decide +kernel
theorem dX3_findNeighbours_75 : decode cX3_findNeighbours 75 = .ok (.iaload, 1) := by decide +kernel
theorem dX3_findNeighbours_76 : decode cX3_findNeighbours 76 = .ok (.ishl, 1) := by decide +kernel
theorem dX3_findNeighbours_77 : decode cX3_findNeighbours 77 = .ok (.ior, 1) := by decide +kernel
theorem dX3_findNeighbours_78 : decode cX3_findNeighbours 78 = .ok (.iastore, 1) := by decide +kernel
theorem dX3_findNeighbours_79 : decode cX3_findNeighbours 79 = .ok (.iinc 3 1, 3) := by decide +kernel
theorem dX3_findNeighbours_82 : decode cX3_findNeighbours 82 = .ok (.goto (-75), 3) := by decide +kernel
theorem dX3_hasArc_12 : decode cX3_hasArc 12 = .ok (.aload_n 0, 1) := by decide +kernel
theorem dX3_hasArc_13 : decode cX3_hasArc 13 = .ok (.getfield 15, 3) := by decide +kernel
theorem dX3_hasArc_16 : decode cX3_hasArc 16 = .ok (.iload_n 1, 1) := by decide +kernel
theorem dX3_hasArc_17 : decode cX3_hasArc 17 = .ok (.baload, 1) := by decide +kernel
theorem dX3_hasArc_18 : decode cX3_hasArc 18 = .ok (.ifCond .eq 7, 3) := by decide +kernel
theorem dX3_hasArc_21 : decode cX3_hasArc 21 = .ok (.iconst 1, 1) := by decide +kernel
theorem dX3_hasArc_22 : decode cX3_hasArc 22 = .ok (.goto 4, 3) := by decide +kernel
theorem dX3_hasNode_12 : decode cX3_hasNode 12 = .ok (.iconst 1, 1) := by decide +kernel
theorem dX3_hasNode_13 : decode cX3_hasNode 13 = .ok (.goto 4, 3) := by decide +kernel
theorem dX3_isLoop_0 : decode cX3_isLoop 0 = .ok (.aload_n 0, 1) := by decide +kernel
theorem dX3_isLoop_1 : decode cX3_isLoop 1 = .ok (.getfield 9, 3) := by decide +kernel
theorem dX3_isLoop_4 : decode cX3_isLoop 4 = .ok (.iconst 2, 1) := by decide +kernel
theorem dX3_isLoop_5 : decode cX3_isLoop 5 = .ok (.iload_n 1, 1) := by decide +kernel
theorem dX3_isLoop_6 : decode cX3_isLoop 6 = .ok (.imul, 1) := by decide +kernel
theorem dX3_isLoop_7 : decode cX3_isLoop 7 = .ok (.iaload, 1) := by decide +kernel
theorem dX3_isLoop_8 : decode cX3_isLoop 8 = .ok (.aload_n 0, 1) := by decide +kernel
theorem dX3_isLoop_9 : decode cX3_isLoop 9 = .ok (.getfield 9, 3) := by decide +kernel
theorem dX3_isLoop_12 : decode cX3_isLoop 12 = .ok (.iconst 2, 1) := by decide +kernel
theorem dX3_isLoop_13 : decode cX3_isLoop 13 = .ok (.iload_n 1, 1) := by decide +kernel
theorem dX3_isLoop_14 : decode cX3_isLoop 14 = .ok (.imul, 1) := by decide +kernel
theorem dX3_isLoop_15 : decode cX3_isLoop 15 = .ok (.iconst 1, 1) := by decide +kernel
theorem dX3_isLoop_16 : decode cX3_isLoop 16 = .ok (.iadd, 1) := by decide +kernel
theorem dX3_isLoop_17 : decode cX3_isLoop 17 = .ok (.iaload, 1) := by decide +kernel
theorem dX3_isLoop_18 : decode cX3_isLoop 18 = .ok (.if_icmp .ne 7, 3) := by decide +kernel
theorem dX3_isLoop_21 : decode cX3_isLoop 21 = .ok (.iconst 1, 1) := by decide +kernel
theorem dX3_isLoop_22 : decode cX3_isLoop 22 = .ok (.goto 4, 3) := by decide +kernel
theorem dX3_isLoop_25 : decode cX3_isLoop 25 = .ok (.iconst 0, 1) := by decide +kernel
theorem dX3_isLoop_26 : decode cX3_isLoop 26 = .ok (.ireturn, 1) := by decide +kernel
theorem dX3_removeArc_0 : decode cX3_removeArc 0 = .ok (.aload_n 0, 1) := by decide +kernel
theorem dX3_removeArc_1 : decode cX3_removeArc 1 = .ok (.getfield 15, 3) := by decide +kernel
theorem dX3_removeArc_4 : decode cX3_removeArc 4 = .ok (.iload_n 1, 1) := by decide +kernel
theorem dX3_removeArc_5 : decode cX3_removeArc 5 = .ok (.iconst 0, 1) := by decide +kernel
theorem dX3_removeArc_6 : decode cX3_removeArc 6 = .ok (.bastore, 1) := by decide +kernel
theorem dX3_removeArc_7 : decode cX3_removeArc 7 = .ok (.aload_n 0, 1) := by decide +kernel
theorem dX3_removeArc_8 : decode cX3_removeArc 8 = .ok (.dup, 1) := by decide +kernel
theorem dX3_removeArc_9 : decode cX3_removeArc 9 = .ok (.getfield 29, 3) := by decide +kernel
theorem dX3_removeArc_12 : decode cX3_removeArc 12 = .ok (.iconst 1, 1) := by decide +kernel
theorem dX3_removeArc_13 : decode cX3_removeArc 13 = .ok (.isub, 1) := by decide +kernel
theorem dX3_removeArc_14 : decode cX3_removeArc 14 = .ok (.putfield 29, 3) := by decide +kernel
theorem dX3_removeArc_17 : decode cX3_removeArc 17 = .ok (.aload_n 0, 1) := by decide +kernel
theorem dX3_removeArc_18 : decode cX3_removeArc 18 = .ok (.aload_n 0, 1) := by decide +kernel
theorem dX3_removeArc_19 : decode cX3_removeArc 19 = .ok (.getfield 15, 3) := by decide +kernel
theorem dX3_removeArc_22 : decode cX3_removeArc 22 = .ok (.aload_n 0, 1) := by decide +kernel
theorem dX3_removeArc_23 : decode cX3_removeArc 23 = .ok (.getfield 19, 3) := by decide +kernel
theorem dX3_removeArc_26 : decode cX3_removeArc 26 = .ok (.invokevirtual 32, 3) := by decide +kernel
theorem dX3_removeArc_29 : decode cX3_removeArc 29 = .ok (.aload_n 0, 1) := by decide +kernel
theorem dX3_removeArc_30 : decode cX3_removeArc 30 = .ok (.getfield 29, 3) := by decide +kernel
theorem dX3_removeArc_33 : decode cX3_removeArc 33 = .ok (.ireturn, 1) := by decide +kernel
theorem dX4_arcAt_0 : decode cX4_arcAt 0 = .ok (.iconst 0, 1) := by decide +kernel
theorem dX4_arcAt_1 : decode cX4_arcAt 1 = .ok (.istore_n 2, 1) := by decide +kernel
theorem dX4_arcAt_2 : decode cX4_arcAt 2 = .ok (.iconst 0, 1) := by decide +kernel
theorem dX4_arcAt_3 : decode cX4_arcAt 3 = .ok (.istore_n 3, 1) := by decide +kernel
theorem dX4_arcAt_4 : decode cX4_arcAt 4 = .ok (.iload_n 3, 1) := by decide +kernel
theorem dX4_arcAt_5 : decode cX4_arcAt 5 = .ok (.aload_n 0, 1) := by decide +kernel
theorem dX4_arcAt_6 : decode cX4_arcAt 6 = .ok (.getfield 19, 3) := by decide +kernel
theorem dX4_arcAt_9 : decode cX4_arcAt 9 = .ok (.getfield 29, 3) := by decide +kernel
theorem dX4_arcAt_12 : decode cX4_arcAt 12 = .ok (.if_icmp .ge 28, 3) := by decide +kernel
theorem dX4_arcAt_15 : decode cX4_arcAt 15 = .ok (.aload_n 0, 1) := by decide +kernel
theorem dX4_arcAt_16 : decode cX4_arcAt 16 = .ok (.getfield 9, 3) := by decide +kernel
theorem dX4_arcAt_19 : decode cX4_arcAt 19 = .ok (.iload_n 3, 1) := by decide +kernel
theorem dX4_arcAt_20 : decode cX4_arcAt 20 = .ok (.baload, 1) := by decide +kernel
theorem dX4_arcAt_21 : decode cX4_arcAt 21 = .ok (.ifCond .eq 13, 3) := by decide +kernel
theorem dX4_arcAt_24 : decode cX4_arcAt 24 = .ok (.iload_n 2, 1) := by decide +kernel
theorem dX4_arcAt_25 : decode cX4_arcAt 25 = .ok (.iload_n 1, 1) := by decide +kernel
theorem dX4_arcAt_26 : decode cX4_arcAt 26 = .ok (.if_icmp .ne 5, 3) := by decide +kernel
theorem dX4_arcAt_29 : decode cX4_arcAt 29 = .ok (.iload_n 3, 1) := by decide +kernel
theorem dX4_arcAt_30 : decode cX4_arcAt 30 = .ok (.ireturn, 1) := by decide +kernel
theorem dX4_arcAt_31 : decode cX4_arcAt 31 = .ok (.iinc 2 1, 3) := by decide +kernel
theorem dX4_arcAt_34 : decode cX4_arcAt 34 = .ok (.iinc 3 1, 3) := by decide +kernel
theorem dX4_arcAt_37 : decode cX4_arcAt 37 = .ok (.goto (-33), 3) := by decide +kernel
theorem dX4_arcAt_40 : decode cX4_arcAt 40 = .ok (.iconst (-1), 1) := by decide +kernel
theorem dX4_arcAt_41 : decode cX4_arcAt 41 = .ok (.ireturn, 1) := by decide +kernel
theorem dX4_branchAt_0 : decode cX4_branchAt 0 = .ok (.iconst 0, 1) := by decide +kernel
theorem dX4_branchAt_1 : decode cX4_branchAt 1 = .ok (.istore_n 2, 1) := by decide +kernel
theorem dX4_branchAt_2 : decode cX4_branchAt 2 = .ok (.iconst 0, 1) := by decide +kernel
theorem dX4_branchAt_3 : decode cX4_branchAt 3 = .ok (.istore_n 3, 1) := by decide +kernel
theorem dX4_branchAt_4 : decode cX4_branchAt 4 = .ok (.iload_n 3, 1) := by decide +kernel
theorem dX4_branchAt_5 : decode cX4_branchAt 5 = .ok (.aload_n 0, 1) := by decide +kernel
theorem dX4_branchAt_6 : decode cX4_branchAt 6 = .ok (.getfield 19, 3) := by decide +kernel
theorem dX4_branchAt_9 : decode cX4_branchAt 9 = .ok (.getfield 37, 3) := by decide +kernel
theorem dX4_branchAt_12 : decode cX4_branchAt 12 = .ok (.if_icmp .ge 29, 3) := by decide +kernel
theorem dX4_branchAt_15 : decode cX4_branchAt 15 = .ok (.aload_n 0, 1) := by decide +kernel
theorem dX4_branchAt_16 : decode cX4_branchAt 16 = .ok (.getfield 15, 3) := by decide +kernel
theorem dX4_branchAt_19 : decode cX4_branchAt 19 = .ok (.iload_n 3, 1) := by decide +kernel
theorem dX4_branchAt_20 : decode cX4_branchAt 20 = .ok (.iaload, 1) := by decide +kernel
theorem dX4_branchAt_21 : decode cX4_branchAt 21 = .ok (.iconst 3, 1) := by decide +kernel
theorem dX4_branchAt_22 : decode cX4_branchAt 22 = .ok (.if_icmp .lt 13, 3) := by decide +kernel
theorem dX4_branchAt_25 : decode cX4_branchAt 25 = .ok (.iload_n 2, 1) := by decide +kernel
theorem dX4_branchAt_26 : decode cX4_branchAt 26 = .ok (.iload_n 1, 1) := by decide +kernel
theorem dX4_branchAt_27 : decode cX4_branchAt 27 = .ok (.if_icmp .ne 5, 3) := by decide +kernel
theorem dX4_branchAt_30 : decode cX4_branchAt 30 = .ok (.iload_n 3, 1) := by decide +kernel
theorem dX4_branchAt_31 : decode cX4_branchAt 31 = .ok (.ireturn, 1) := by decide +kernel
theorem dX4_branchAt_32 : decode cX4_branchAt 32 = .ok (.iinc 2 1, 3) := by decide +kernel
theorem dX4_branchAt_35 : decode cX4_branchAt 35 = .ok (.iinc 3 1, 3) := by decide +kernel
theorem dX4_branchAt_38 : decode cX4_branchAt 38 = .ok (.goto (-34), 3) := by decide +kernel
theorem dX4_branchAt_41 : decode cX4_branchAt 41 = .ok (.iconst (-1), 1) := by decide +kernel
theorem dX4_branchAt_42 : decode cX4_branchAt 42 = .ok (.ireturn, 1) := by decide +kernel
theorem dX4_branchFrom_0 : decode cX4_branchFrom 0 = .ok (.iload_n 1, 1) := by decide +kernel
theorem dX4_branchFrom_1 : decode cX4_branchFrom 1 = .ok (.istore_n 2, 1) := by decide +kernel
theorem dX4_branchFrom_2 : decode cX4_branchFrom 2 = .ok (.iconst 0, 1) := by decide +kernel
theorem dX4_branchFrom_3 : decode cX4_branchFrom 3 = .ok (.istore_n 3, 1) := by decide +kernel
theorem dX4_branchFrom_4 : decode cX4_branchFrom 4 = .ok (.iload_n 3, 1) := by decide +kernel
theorem dX4_branchFrom_5 : decode cX4_branchFrom 5 = .ok (.bipush 20, 2) := by decide +kernel
theorem dX4_branchFrom_7 : decode cX4_branchFrom 7 = .ok (.if_icmp .ge 35, 3) := by decide +kernel
theorem dX4_branchFrom_10 : decode cX4_branchFrom 10 = .ok (.aload_n 0, 1) := by decide +kernel
theorem dX4_branchFrom_11 : decode cX4_branchFrom 11 = .ok (.getfield 15, 3) := by decide +kernel
theorem dX4_branchFrom_14 : decode cX4_branchFrom 14 = .ok (.aload_n 0, 1) := by decide +kernel
theorem dX4_branchFrom_15 : decode cX4_branchFrom 15 = .ok (.getfield 19, 3) := by decide +kernel
theorem dX4_branchFrom_18 : decode cX4_branchFrom 18 = .ok (.getfield 52, 3) := by decide +kernel
theorem dX4_branchFrom_21 : decode cX4_branchFrom 21 = .ok (.iload_n 2, 1) := by decide +kernel
theorem dX4_branchFrom_22 : decode cX4_branchFrom 22 = .ok (.iaload, 1) := by decide +kernel
theorem dX4_branchFrom_23 : decode cX4_branchFrom 23 = .ok (.iaload, 1) := by decide +kernel
theorem dX4_branchFrom_24 : decode cX4_branchFrom 24 = .ok (.iconst 3, 1) := by decide +kernel
theorem dX4_branchFrom_25 : decode cX4_branchFrom 25 = .ok (.if_icmp .ge 17, 3) := by decide +kernel
theorem dX4_branchFrom_28 : decode cX4_branchFrom 28 = .ok (.aload_n 0, 1) := by decide +kernel
theorem dX4_branchFrom_29 : decode cX4_branchFrom 29 = .ok (.iload_n 2, 1) := by decide +kernel
theorem dX4_branchFrom_30 : decode cX4_branchFrom 30 = .ok (.invokevirtual 55, 3) := by decide +kernel
theorem dX4_branchFrom_33 : decode cX4_branchFrom 33 = .ok (.iconst 1, 1) := by decide +kernel
theorem dX4_branchFrom_34 : decode cX4_branchFrom 34 = .ok (.ixor, 1) := by decide +kernel
theorem dX4_branchFrom_35 : decode cX4_branchFrom 35 = .ok (.istore_n 2, 1) := by decide +kernel
theorem dX4_branchFrom_36 : decode cX4_branchFrom 36 = .ok (.iinc 3 1, 3) := by decide +kernel
theorem dX4_branchFrom_39 : decode cX4_branchFrom 39 = .ok (.goto (-35), 3) := by decide +kernel
theorem dX4_branchFrom_42 : decode cX4_branchFrom 42 = .ok (.aload_n 0, 1) := by decide +kernel
theorem dX4_branchFrom_43 : decode cX4_branchFrom 43 = .ok (.getfield 19, 3) := by decide +kernel
theorem dX4_branchFrom_46 : decode cX4_branchFrom 46 = .ok (.getfield 52, 3) := by decide +kernel
theorem dX4_branchFrom_49 : decode cX4_branchFrom 49 = .ok (.iload_n 2, 1) := by decide +kernel
theorem dX4_branchFrom_50 : decode cX4_branchFrom 50 = .ok (.iaload, 1) := by decide +kernel
theorem dX4_branchFrom_51 : decode cX4_branchFrom 51 = .ok (.ireturn, 1) := by decide +kernel
theorem dX4_find_0 : decode cX4_find 0 = .ok (.iconst 0, 1) := by decide +kernel
theorem dX4_find_1 : decode cX4_find 1 = .ok (.istore_n 3, 1) := by decide +kernel
theorem dX4_find_2 : decode cX4_find 2 = .ok (.iload_n 3, 1) := by decide +kernel
theorem dX4_find_3 : decode cX4_find 3 = .ok (.bipush 80, 2) := by decide +kernel
theorem dX4_find_5 : decode cX4_find 5 = .ok (.if_icmp .ge 23, 3) := by decide +kernel
theorem dX4_find_8 : decode cX4_find 8 = .ok (.aload_n 0, 1) := by decide +kernel
theorem dX4_find_9 : decode cX4_find 9 = .ok (.getfield 9, 3) := by decide +kernel
theorem dX4_find_12 : decode cX4_find 12 = .ok (.iload_n 3, 1) := by decide +kernel
theorem dX4_find_13 : decode cX4_find 13 = .ok (.aload_n 0, 1) := by decide +kernel
theorem dX4_find_14 : decode cX4_find 14 = .ok (.getfield 19, 3) := by decide +kernel
theorem dX4_find_17 : decode cX4_find 17 = .ok (.iload_n 3, 1) := by decide +kernel
theorem dX4_find_18 : decode cX4_find 18 = .ok (.invokevirtual 23, 3) := by decide +kernel
theorem dX4_find_21 : decode cX4_find 21 = .ok (.bastore, 1) := by decide +kernel
theorem dX4_find_22 : decode cX4_find 22 = .ok (.iinc 3 1, 3) := by decide +kernel
theorem dX4_find_25 : decode cX4_find 25 = .ok (.goto (-23), 3) := by decide +kernel
theorem dX4_find_28 : decode cX4_find 28 = .ok (.aload_n 0, 1) := by decide +kernel
theorem dX4_find_29 : decode cX4_find 29 = .ok (.getfield 19, 3) := by decide +kernel
theorem dX4_find_32 : decode cX4_find 32 = .ok (.getfield 29, 3) := by decide +kernel
theorem dX4_find_35 : decode cX4_find 35 = .ok (.iconst 1, 1) := by decide +kernel
theorem dX4_find_36 : decode cX4_find 36 = .ok (.isub, 1) := by decide +kernel
theorem dX4_find_37 : decode cX4_find 37 = .ok (.istore_n 3, 1) := by decide +kernel
theorem dX4_find_38 : decode cX4_find 38 = .ok (.iload_n 3, 1) := by decide +kernel
theorem dX4_find_39 : decode cX4_find 39 = .ok (.ifCond .lt 55, 3) := by decide +kernel
theorem dX4_find_42 : decode cX4_find 42 = .ok (.aload_n 0, 1) := by decide +kernel
theorem dX4_find_43 : decode cX4_find 43 = .ok (.getfield 9, 3) := by decide +kernel
theorem dX4_find_46 : decode cX4_find 46 = .ok (.iload_n 3, 1) := by decide +kernel
theorem dX4_find_47 : decode cX4_find 47 = .ok (.baload, 1) := by decide +kernel
theorem dX4_find_48 : decode cX4_find 48 = .ok (.ifCond .eq 40, 3) := by decide +kernel
theorem dX4_find_51 : decode cX4_find 51 = .ok (.aload_n 0, 1) := by decide +kernel
theorem dX4_find_52 : decode cX4_find 52 = .ok (.getfield 9, 3) := by decide +kernel
theorem dX4_find_55 : decode cX4_find 55 = .ok (.iload_n 3, 1) := by decide +kernel
theorem dX4_find_56 : decode cX4_find 56 = .ok (.iconst 0, 1) := by decide +kernel
theorem dX4_find_57 : decode cX4_find 57 = .ok (.bastore, 1) := by decide +kernel
theorem dX4_find_58 : decode cX4_find 58 = .ok (.aload_n 0, 1) := by decide +kernel
theorem dX4_find_59 : decode cX4_find 59 = .ok (.getfield 19, 3) := by decide +kernel
theorem dX4_find_62 : decode cX4_find 62 = .ok (.aload_n 0, 1) := by decide +kernel
theorem dX4_find_63 : decode cX4_find 63 = .ok (.getfield 9, 3) := by decide +kernel
theorem dX4_find_66 : decode cX4_find 66 = .ok (.aload_n 1, 1) := by decide +kernel
theorem dX4_find_67 : decode cX4_find 67 = .ok (.invokevirtual 33, 3) := by decide +kernel
theorem dX4_find_70 : decode cX4_find 70 = .ok (.aload_n 0, 1) := by decide +kernel
theorem dX4_find_71 : decode cX4_find 71 = .ok (.getfield 9, 3) := by decide +kernel
theorem dX4_find_74 : decode cX4_find 74 = .ok (.iload_n 3, 1) := by decide +kernel
theorem dX4_find_75 : decode cX4_find 75 = .ok (.aload_n 2, 1) := by decide +kernel
theorem dX4_find_76 : decode cX4_find 76 = .ok (.aload_n 1, 1) := by decide +kernel
theorem dX4_find_77 : decode cX4_find 77 = .ok (.aload_n 0, 1) := by decide +kernel
theorem dX4_find_78 : decode cX4_find 78 = .ok (.getfield 19, 3) := by decide +kernel
theorem dX4_find_81 : decode cX4_find 81 = .ok (.getfield 37, 3) := by decide +kernel
theorem dX4_find_84 : decode cX4_find 84 = .ok (.invokevirtual 40, 3) := by decide +kernel
theorem dX4_find_87 : decode cX4_find 87 = .ok (.bastore, 1) := by decide +kernel
theorem dX4_find_88 : decode cX4_find 88 = .ok (.iinc 3 (-1), 3) := by decide +kernel
theorem dX4_find_91 : decode cX4_find 91 = .ok (.goto (-53), 3) := by decide +kernel
theorem dX4_find_94 : decode cX4_find 94 = .ok (.aload_n 0, 1) := by decide +kernel
theorem dX4_find_95 : decode cX4_find 95 = .ok (.getfield 15, 3) := by decide +kernel
theorem dX4_find_98 : decode cX4_find 98 = .ok (.iconst 0, 1) := by decide +kernel
theorem dX4_find_99 : decode cX4_find 99 = .ok (.invokestatic 46, 3) := by decide +kernel
theorem dX4_find_102 : decode cX4_find 102 = .ok (.iconst 0, 1) := by decide +kernel
theorem dX4_find_103 : decode cX4_find 103 = .ok (.istore_n 3, 1) := by decide +kernel
theorem dX4_find_104 : decode cX4_find 104 = .ok (.iload_n 3, 1) := by decide +kernel
theorem dX4_find_105 : decode cX4_find 105 = .ok (.iconst 2, 1) := by decide +kernel
theorem dX4_find_106 : decode cX4_find 106 = .ok (.aload_n 0, 1) := by decide +kernel
theorem dX4_find_107 : decode cX4_find 107 = .ok (.getfield 19, 3) := by decide +kernel
theorem dX4_find_110 : decode cX4_find 110 = .ok (.getfield 29, 3) := by decide +kernel
theorem dX4_find_113 : decode cX4_find 113 = .ok (.imul, 1) := by decide +kernel
theorem dX4_find_114 : decode cX4_find 114 = .ok (.if_icmp .ge 38, 3) := by decide +kernel
theorem dX4_find_117 : decode cX4_find 117 = .ok (.aload_n 0, 1) := by decide +kernel
theorem dX4_find_118 : decode cX4_find 118 = .ok (.getfield 9, 3) := by decide +kernel
theorem dX4_find_121 : decode cX4_find 121 = .ok (.iload_n 3, 1) := by decide +kernel
theorem dX4_find_122 : decode cX4_find 122 = .ok (.iconst 2, 1) := by decide +kernel
theorem dX4_find_123 : decode cX4_find 123 = .ok (.idiv, 1) := by decide +kernel
theorem dX4_find_124 : decode cX4_find 124 = .ok (.baload, 1) := by decide +kernel
theorem dX4_find_125 : decode cX4_find 125 = .ok (.ifCond .eq 21, 3) := by decide +kernel
theorem dX4_find_128 : decode cX4_find 128 = .ok (.aload_n 0, 1) := by decide +kernel
theorem dX4_find_129 : decode cX4_find 129 = .ok (.getfield 15, 3) := by decide +kernel
theorem dX4_find_132 : decode cX4_find 132 = .ok (.aload_n 0, 1) := by decide +kernel
theorem dX4_find_133 : decode cX4_find 133 = .ok (.getfield 19, 3) := by decide +kernel
theorem dX4_find_136 : decode cX4_find 136 = .ok (.getfield 52, 3) := by decide +kernel
theorem dX4_find_139 : decode cX4_find 139 = .ok (.iload_n 3, 1) := by decide +kernel
theorem dX4_find_140 : decode cX4_find 140 = .ok (.iaload, 1) := by decide +kernel
theorem dX4_find_141 : decode cX4_find 141 = .ok (.dup2, 1) := by decide +kernel
theorem dX4_find_142 : decode cX4_find 142 = .ok (.iaload, 1) := by decide +kernel
theorem dX4_find_143 : decode cX4_find 143 = .ok (.iconst 1, 1) := by decide +kernel
theorem dX4_find_144 : decode cX4_find 144 = .ok (.iadd, 1) := by decide +kernel
theorem dX4_find_145 : decode cX4_find 145 = .ok (.iastore, 1) := by decide +kernel
theorem dX4_find_146 : decode cX4_find 146 = .ok (.iinc 3 1, 3) := by decide +kernel
theorem dX4_find_149 : decode cX4_find 149 = .ok (.goto (-45), 3) := by decide +kernel
theorem dX4_find_152 : decode cX4_find 152 = .ok (.return_, 1) := by decide +kernel
theorem dX4_kind_0 : decode cX4_kind 0 = .ok (.iconst 0, 1) := by decide +kernel
theorem dX4_kind_1 : decode cX4_kind 1 = .ok (.istore_n 1, 1) := by decide +kernel
theorem dX4_kind_2 : decode cX4_kind 2 = .ok (.iconst 0, 1) := by decide +kernel
theorem dX4_kind_3 : decode cX4_kind 3 = .ok (.istore_n 2, 1) := by decide +kernel
theorem dX4_kind_4 : decode cX4_kind 4 = .ok (.iload_n 2, 1) := by decide +kernel
theorem dX4_kind_5 : decode cX4_kind 5 = .ok (.aload_n 0, 1) := by decide +kernel
theorem dX4_kind_6 : decode cX4_kind 6 = .ok (.getfield 19, 3) := by decide +kernel
theorem dX4_kind_9 : decode cX4_kind 9 = .ok (.getfield 37, 3) := by decide +kernel
theorem dX4_kind_12 : decode cX4_kind 12 = .ok (.if_icmp .ge 22, 3) := by decide +kernel
theorem dX4_kind_15 : decode cX4_kind 15 = .ok (.aload_n 0, 1) := by decide +kernel
theorem dX4_kind_16 : decode cX4_kind 16 = .ok (.getfield 15, 3) := by decide +kernel
theorem dX4_kind_19 : decode cX4_kind 19 = .ok (.iload_n 2, 1) := by decide +kernel
theorem dX4_kind_20 : decode cX4_kind 20 = .ok (.iaload, 1) := by decide +kernel
theorem dX4_kind_21 : decode cX4_kind 21 = .ok (.iconst 4, 1) := by decide +kernel
theorem dX4_kind_22 : decode cX4_kind 22 = .ok (.if_icmp .ne 6, 3) := by decide +kernel
theorem dX4_kind_25 : decode cX4_kind 25 = .ok (.iinc 1 1, 3) := by decide +kernel
theorem dX4_kind_28 : decode cX4_kind 28 = .ok (.iinc 2 1, 3) := by decide +kernel
theorem dX4_kind_31 : decode cX4_kind 31 = .ok (.goto (-27), 3) := by decide +kernel
theorem dX4_kind_34 : decode cX4_kind 34 = .ok (.iload_n 1, 1) := by decide +kernel
theorem dX4_kind_35 : decode cX4_kind 35 = .ok (.iconst 5, 1) := by decide +kernel
theorem dX4_kind_36 : decode cX4_kind 36 = .ok (.if_icmp .ne 7, 3) := by decide +kernel
theorem dX4_kind_39 : decode cX4_kind 39 = .ok (.iconst 5, 1) := by decide +kernel
theorem dX4_kind_40 : decode cX4_kind 40 = .ok (.goto 5, 3) := by decide +kernel
theorem dX4_kind_43 : decode cX4_kind 43 = .ok (.bipush 6, 2) := by decide +kernel
theorem dX4_kind_45 : decode cX4_kind 45 = .ok (.ireturn, 1) := by decide +kernel
theorem dX4_otherEndAt_0 : decode cX4_otherEndAt 0 = .ok (.iconst 0, 1) := by decide +kernel
theorem dX4_otherEndAt_1 : decode cX4_otherEndAt 1 = .ok (.istore_n 2, 1) := by decide +kernel
theorem dX4_otherEndAt_2 : decode cX4_otherEndAt 2 = .ok (.iload_n 2, 1) := by decide +kernel
theorem dX4_otherEndAt_3 : decode cX4_otherEndAt 3 = .ok (.iconst 2, 1) := by decide +kernel
theorem dX4_otherEndAt_4 : decode cX4_otherEndAt 4 = .ok (.aload_n 0, 1) := by decide +kernel
theorem dX4_otherEndAt_5 : decode cX4_otherEndAt 5 = .ok (.getfield 19, 3) := by decide +kernel
theorem dX4_otherEndAt_8 : decode cX4_otherEndAt 8 = .ok (.getfield 29, 3) := by decide +kernel
theorem dX4_otherEndAt_11 : decode cX4_otherEndAt 11 = .ok (.imul, 1) := by decide +kernel
theorem dX4_otherEndAt_12 : decode cX4_otherEndAt 12 = .ok (.if_icmp .ge 48, 3) := by decide +kernel
theorem dX4_otherEndAt_15 : decode cX4_otherEndAt 15 = .ok (.iload_n 2, 1) := by decide +kernel
theorem dX4_otherEndAt_16 : decode cX4_otherEndAt 16 = .ok (.iload_n 1, 1) := by decide +kernel
theorem dX4_otherEndAt_17 : decode cX4_otherEndAt 17 = .ok (.if_icmp .eq 37, 3) := by decide +kernel
theorem dX4_otherEndAt_20 : decode cX4_otherEndAt 20 = .ok (.aload_n 0, 1) := by decide +kernel
theorem dX4_otherEndAt_21 : decode cX4_otherEndAt 21 = .ok (.getfield 9, 3) := by decide +kernel
theorem dX4_otherEndAt_24 : decode cX4_otherEndAt 24 = .ok (.iload_n 2, 1) := by decide +kernel
theorem dX4_otherEndAt_25 : decode cX4_otherEndAt 25 = .ok (.iconst 2, 1) := by decide +kernel
theorem dX4_otherEndAt_26 : decode cX4_otherEndAt 26 = .ok (.idiv, 1) := by decide +kernel
theorem dX4_otherEndAt_27 : decode cX4_otherEndAt 27 = .ok (.baload, 1) := by decide +kernel
theorem dX4_otherEndAt_28 : decode cX4_otherEndAt 28 = .ok (.ifCond .eq 26, 3) := by decide +kernel
theorem dX4_otherEndAt_31 : decode cX4_otherEndAt 31 = .ok (.aload_n 0, 1) := by decide +kernel
theorem dX4_otherEndAt_32 : decode cX4_otherEndAt 32 = .ok (.getfield 19, 3) := by decide +kernel
theorem dX4_otherEndAt_35 : decode cX4_otherEndAt 35 = .ok (.getfield 52, 3) := by decide +kernel
theorem dX4_otherEndAt_38 : decode cX4_otherEndAt 38 = .ok (.iload_n 2, 1) := by decide +kernel
theorem dX4_otherEndAt_39 : decode cX4_otherEndAt 39 = .ok (.iaload, 1) := by decide +kernel
theorem dX4_otherEndAt_40 : decode cX4_otherEndAt 40 = .ok (.aload_n 0, 1) := by decide +kernel
theorem dX4_otherEndAt_41 : decode cX4_otherEndAt 41 = .ok (.getfield 19, 3) := by decide +kernel
theorem dX4_otherEndAt_44 : decode cX4_otherEndAt 44 = .ok (.getfield 52, 3) := by decide +kernel
theorem dX4_otherEndAt_47 : decode cX4_otherEndAt 47 = .ok (.iload_n 1, 1) := by decide +kernel
theorem dX4_otherEndAt_48 : decode cX4_otherEndAt 48 = .ok (.iaload, 1) := by decide +kernel
theorem dX4_otherEndAt_49 : decode cX4_otherEndAt 49 = .ok (.if_icmp .ne 5, 3) := by decide +kernel
theorem dX4_otherEndAt_52 : decode cX4_otherEndAt 52 = .ok (.iload_n 2, 1) := by decide +kernel
theorem dX4_otherEndAt_53 : decode cX4_otherEndAt 53 = .ok (.ireturn, 1) := by decide +kernel
theorem dX4_otherEndAt_54 : decode cX4_otherEndAt 54 = .ok (.iinc 2 1, 3) := by decide +kernel
theorem dX4_otherEndAt_57 : decode cX4_otherEndAt 57 = .ok (.goto (-55), 3) := by decide +kernel
theorem dX4_otherEndAt_60 : decode cX4_otherEndAt 60 = .ok (.iload_n 1, 1) := by decide +kernel
theorem dX4_otherEndAt_61 : decode cX4_otherEndAt 61 = .ok (.ireturn, 1) := by decide +kernel
theorem dX5_accepts_7 : decode cX5_accepts 7 = .ok (.iconst 0, 1) := by decide +kernel
theorem dX5_accepts_8 : decode cX5_accepts 8 = .ok (.istore_n 3, 1) := by decide +kernel
theorem dX5_accepts_9 : decode cX5_accepts 9 = .ok (.iconst 0, 1) := by decide +kernel
theorem dX5_accepts_10 : decode cX5_accepts 10 = .ok (.istore 4, 2) := by decide +kernel
theorem dX5_accepts_12 : decode cX5_accepts 12 = .ok (.iload 4, 2) := by decide +kernel
theorem dX5_accepts_14 : decode cX5_accepts 14 = .ok (.iload_n 2, 1) := by decide +kernel
theorem dX5_accepts_15 : decode cX5_accepts 15 = .ok (.if_icmp .ge 19, 3) := by decide +kernel
theorem dX5_accepts_18 : decode cX5_accepts 18 = .ok (.iload_n 3, 1) := by decide +kernel
theorem dX5_accepts_19 : decode cX5_accepts 19 = .ok (.aload_n 1, 1) := by decide +kernel
theorem dX5_accepts_20 : decode cX5_accepts 20 = .ok (.iload 4, 2) := by decide +kernel
theorem dX5_accepts_22 : decode cX5_accepts 22 = .ok (.iaload, 1) := by decide +kernel
theorem dX5_accepts_23 : decode cX5_accepts 23 = .ok (.invokestatic 43, 3) := by decide +kernel
theorem dX5_accepts_26 : decode cX5_accepts 26 = .ok (.iadd, 1) := by decide +kernel
theorem dX5_accepts_27 : decode cX5_accepts 27 = .ok (.istore_n 3, 1) := by decide +kernel
theorem dX5_accepts_28 : decode cX5_accepts 28 = .ok (.iinc 4 1, 3) := by decide +kernel
theorem dX5_accepts_31 : decode cX5_accepts 31 = .ok (.goto (-19), 3) := by decide +kernel
theorem dX5_accepts_34 : decode cX5_accepts 34 = .ok (.iload_n 3, 1) := by decide +kernel
theorem dX5_accepts_35 : decode cX5_accepts 35 = .ok (.iconst 2, 1) := by decide +kernel
theorem dX5_accepts_36 : decode cX5_accepts 36 = .ok (.idiv, 1) := by decide +kernel
theorem dX5_accepts_37 : decode cX5_accepts 37 = .ok (.iconst 3, 1) := by decide +kernel
theorem dX5_accepts_38 : decode cX5_accepts 38 = .ok (.iload_n 2, 1) := by decide +kernel
theorem dX5_accepts_39 : decode cX5_accepts 39 = .ok (.imul, 1) := by decide +kernel
theorem dX5_accepts_40 : decode cX5_accepts 40 = .ok (.bipush 6, 2) := by decide +kernel
theorem dX5_accepts_42 : decode cX5_accepts 42 = .ok (.isub, 1) := by decide +kernel
theorem dX5_accepts_43 : decode cX5_accepts 43 = .ok (.if_icmp .le 5, 3) := by decide +kernel
theorem dX5_accepts_46 : decode cX5_accepts 46 = .ok (.iconst 0, 1) := by decide +kernel
theorem dX5_accepts_47 : decode cX5_accepts 47 = .ok (.ireturn, 1) := by decide +kernel
theorem dX5_accepts_48 : decode cX5_accepts 48 = .ok (.aload_n 0, 1) := by decide +kernel
theorem dX5_accepts_49 : decode cX5_accepts 49 = .ok (.aload_n 1, 1) := by decide +kernel
theorem dX5_accepts_50 : decode cX5_accepts 50 = .ok (.iload_n 2, 1) := by decide +kernel
theorem dX5_accepts_51 : decode cX5_accepts 51 = .ok (.invokevirtual 49, 3) := by decide +kernel
theorem dX5_accepts_54 : decode cX5_accepts 54 = .ok (.iconst 0, 1) := by decide +kernel
theorem dX5_accepts_55 : decode cX5_accepts 55 = .ok (.istore 4, 2) := by decide +kernel
theorem dX5_accepts_57 : decode cX5_accepts 57 = .ok (.iload 4, 2) := by decide +kernel
theorem dX5_accepts_59 : decode cX5_accepts 59 = .ok (.iload_n 2, 1) := by decide +kernel
theorem dX5_accepts_60 : decode cX5_accepts 60 = .ok (.if_icmp .ge 25, 3) := by decide +kernel
theorem dX5_accepts_63 : decode cX5_accepts 63 = .ok (.aload_n 0, 1) := by decide +kernel
theorem dX5_accepts_64 : decode cX5_accepts 64 = .ok (.getfield 9, 3) := by decide +kernel
theorem dX5_accepts_67 : decode cX5_accepts 67 = .ok (.iload 4, 2) := by decide +kernel
theorem dX5_accepts_69 : decode cX5_accepts 69 = .ok (.iaload, 1) := by decide +kernel
theorem dX5_accepts_70 : decode cX5_accepts 70 = .ok (.ifCond .ge 9, 3) := by decide +kernel
theorem dX5_accepts_73 : decode cX5_accepts 73 = .ok (.aload_n 0, 1) := by decide +kernel
theorem dX5_accepts_74 : decode cX5_accepts 74 = .ok (.iload 4, 2) := by decide +kernel
theorem dX5_accepts_76 : decode cX5_accepts 76 = .ok (.invokevirtual 53, 3) := by decide +kernel
theorem dX5_accepts_79 : decode cX5_accepts 79 = .ok (.iinc 4 1, 3) := by decide +kernel
theorem dX5_accepts_82 : decode cX5_accepts 82 = .ok (.goto (-25), 3) := by decide +kernel
theorem dX5_accepts_85 : decode cX5_accepts 85 = .ok (.iconst 1, 1) := by decide +kernel
theorem dX5_accepts_86 : decode cX5_accepts 86 = .ok (.istore 4, 2) := by decide +kernel
theorem dX5_accepts_88 : decode cX5_accepts 88 = .ok (.iload 4, 2) := by decide +kernel
theorem dX5_accepts_90 : decode cX5_accepts 90 = .ok (.iload_n 2, 1) := by decide +kernel
theorem dX5_accepts_91 : decode cX5_accepts 91 = .ok (.if_icmp .gt 28, 3) := by decide +kernel
theorem dX5_accepts_94 : decode cX5_accepts 94 = .ok (.aload_n 0, 1) := by decide +kernel
theorem dX5_accepts_95 : decode cX5_accepts 95 = .ok (.getfield 28, 3) := by decide +kernel
theorem dX5_accepts_98 : decode cX5_accepts 98 = .ok (.iload 4, 2) := by decide +kernel
theorem dX5_accepts_100 : decode cX5_accepts 100 = .ok (.dup2, 1) := by decide +kernel
theorem dX5_accepts_101 : decode cX5_accepts 101 = .ok (.laload, 1) := by decide +kernel
theorem dX5_accepts_102 : decode cX5_accepts 102 = .ok (.aload_n 0, 1) := by decide +kernel
theorem dX5_accepts_103 : decode cX5_accepts 103 = .ok (.getfield 28, 3) := by decide +kernel
theorem dX5_accepts_106 : decode cX5_accepts 106 = .ok (.iload 4, 2) := by decide +kernel
theorem dX5_accepts_108 : decode cX5_accepts 108 = .ok (.iconst 1, 1) := by decide +kernel
theorem dX5_accepts_109 : decode cX5_accepts 109 = .ok (.isub, 1) := by decide +kernel
theorem dX5_accepts_110 : decode cX5_accepts 110 = .ok (.laload, 1) := by decide +kernel
theorem dX5_accepts_111 : decode cX5_accepts 111 = .ok (.lor, 1) := by decide +kernel
theorem dX5_accepts_112 : decode cX5_accepts 112 = .ok (.lastore, 1) := by decide +kernel
theorem dX5_accepts_113 : decode cX5_accepts 113 = .ok (.iinc 4 1, 3) := by decide +kernel
theorem dX5_accepts_116 : decode cX5_accepts 116 = .ok (.goto (-28), 3) := by decide +kernel
theorem dX5_accepts_119 : decode cX5_accepts 119 = .ok (.iconst 0, 1) := by decide +kernel
theorem dX5_accepts_120 : decode cX5_accepts 120 = .ok (.istore 4, 2) := by decide +kernel
theorem dX5_accepts_122 : decode cX5_accepts 122 = .ok (.iload 4, 2) := by decide +kernel
theorem dX5_accepts_124 : decode cX5_accepts 124 = .ok (.iload_n 2, 1) := by decide +kernel
theorem dX5_accepts_125 : decode cX5_accepts 125 = .ok (.if_icmp .ge 25, 3) := by decide +kernel
theorem dX5_accepts_128 : decode cX5_accepts 128 = .ok (.aload_n 0, 1) := by decide +kernel
theorem dX5_accepts_129 : decode cX5_accepts 129 = .ok (.aload_n 0, 1) := by decide +kernel
theorem dX5_accepts_130 : decode cX5_accepts 130 = .ok (.iload 4, 2) := by decide +kernel
theorem dX5_accepts_132 : decode cX5_accepts 132 = .ok (.iload_n 2, 1) := by decide +kernel
theorem dX5_accepts_133 : decode cX5_accepts 133 = .ok (.invokevirtual 57, 3) := by decide +kernel
theorem dX5_accepts_136 : decode cX5_accepts 136 = .ok (.invokevirtual 61, 3) := by decide +kernel
theorem dX5_accepts_139 : decode cX5_accepts 139 = .ok (.ifCond .ne 5, 3) := by decide +kernel
theorem dX5_accepts_142 : decode cX5_accepts 142 = .ok (.iconst 0, 1) := by decide +kernel
theorem dX5_accepts_143 : decode cX5_accepts 143 = .ok (.ireturn, 1) := by decide +kernel
theorem dX5_accepts_144 : decode cX5_accepts 144 = .ok (.iinc 4 1, 3) := by decide +kernel
theorem dX5_accepts_147 : decode cX5_accepts 147 = .ok (.goto (-25), 3) := by decide +kernel
theorem dX5_accepts_150 : decode cX5_accepts 150 = .ok (.iconst 1, 1) := by decide +kernel
theorem dX5_accepts_151 : decode cX5_accepts 151 = .ok (.ireturn, 1) := by decide +kernel
theorem dX5_addBack_0 : decode cX5_addBack 0 = .ok (.lconst 1, 1) := by decide +kernel
theorem dX5_addBack_1 : decode cX5_addBack 1 = .ok (.aload_n 0, 1) := by decide +kernel
theorem dX5_addBack_2 : decode cX5_addBack 2 = .ok (.getfield 65, 3) := by decide +kernel
theorem dX5_addBack_5 : decode cX5_addBack 5 = .ok (.lshl, 1) := by decide +kernel
theorem dX5_addBack_6 : decode cX5_addBack 6 = .ok (.lstore_n 3, 1) := by decide +kernel
theorem dX5_addBack_7 : decode cX5_addBack 7 = .ok (.aload_n 0, 1) := by decide +kernel
theorem dX5_addBack_8 : decode cX5_addBack 8 = .ok (.dup, 1) := by decide +kernel
theorem dX5_addBack_9 : decode cX5_addBack 9 = .ok (.getfield 65, 3) := by decide +kernel
theorem dX5_addBack_12 : decode cX5_addBack 12 = .ok (.iconst 1, 1) := by decide +kernel
theorem dX5_addBack_13 : decode cX5_addBack 13 = .ok (.iadd, 1) := by decide +kernel
theorem dX5_addBack_14 : decode cX5_addBack 14 = .ok (.putfield 65, 3) := by decide +kernel
theorem dX5_addBack_17 : decode cX5_addBack 17 = .ok (.aload_n 0, 1) := by decide +kernel
theorem dX5_addBack_18 : decode cX5_addBack 18 = .ok (.getfield 21, 3) := by decide +kernel
theorem dX5_addBack_21 : decode cX5_addBack 21 = .ok (.iload_n 1, 1) := by decide +kernel
theorem dX5_addBack_22 : decode cX5_addBack 22 = .ok (.dup2, 1) := by decide +kernel
theorem dX5_addBack_23 : decode cX5_addBack 23 = .ok (.laload, 1) := by decide +kernel
theorem dX5_addBack_24 : decode cX5_addBack 24 = .ok (.lload_n 3, 1) := by decide +kernel
theorem dX5_addBack_25 : decode cX5_addBack 25 = .ok (.lor, 1) := by decide +kernel
theorem dX5_addBack_26 : decode cX5_addBack 26 = .ok (.lastore, 1) := by decide +kernel
theorem dX5_addBack_27 : decode cX5_addBack 27 = .ok (.aload_n 0, 1) := by decide +kernel
theorem dX5_addBack_28 : decode cX5_addBack 28 = .ok (.getfield 28, 3) := by decide +kernel
theorem dX5_addBack_31 : decode cX5_addBack 31 = .ok (.iload_n 2, 1) := by decide +kernel
theorem dX5_addBack_32 : decode cX5_addBack 32 = .ok (.iconst 1, 1) := by decide +kernel
theorem dX5_addBack_33 : decode cX5_addBack 33 = .ok (.iadd, 1) := by decide +kernel
theorem dX5_addBack_34 : decode cX5_addBack 34 = .ok (.dup2, 1) := by decide +kernel
theorem dX5_addBack_35 : decode cX5_addBack 35 = .ok (.laload, 1) := by decide +kernel
theorem dX5_addBack_36 : decode cX5_addBack 36 = .ok (.lload_n 3, 1) := by decide +kernel
theorem dX5_addBack_37 : decode cX5_addBack 37 = .ok (.lor, 1) := by decide +kernel
theorem dX5_addBack_38 : decode cX5_addBack 38 = .ok (.lastore, 1) := by decide +kernel
theorem dX5_addBack_39 : decode cX5_addBack 39 = .ok (.return_, 1) := by decide +kernel
theorem dX5_addLeading_0 : decode cX5_addLeading 0 = .ok (.lload_n 2, 1) := by decide +kernel
theorem dX5_addLeading_1 : decode cX5_addLeading 1 = .ok (.lconst 0, 1) := by decide +kernel
theorem dX5_addLeading_2 : decode cX5_addLeading 2 = .ok (.lcmp, 1) := by decide +kernel
theorem dX5_addLeading_3 : decode cX5_addLeading 3 = .ok (.ifCond .eq 9, 3) := by decide +kernel
theorem dX5_addLeading_6 : decode cX5_addLeading 6 = .ok (.iload_n 1, 1) := by decide +kernel
theorem dX5_addLeading_7 : decode cX5_addLeading 7 = .ok (.bipush 21, 2) := by decide +kernel
theorem dX5_addLeading_9 : decode cX5_addLeading 9 = .ok (.if_icmp .lt 5, 3) := by decide +kernel
theorem dX5_addLeading_12 : decode cX5_addLeading 12 = .ok (.iload_n 1, 1) := by decide +kernel
theorem dX5_addLeading_13 : decode cX5_addLeading 13 = .ok (.ireturn, 1) := by decide +kernel
theorem dX5_addLeading_14 : decode cX5_addLeading 14 = .ok (.iconst 0, 1) := by decide +kernel
theorem dX5_addLeading_15 : decode cX5_addLeading 15 = .ok (.istore 4, 2) := by decide +kernel
theorem dX5_addLeading_17 : decode cX5_addLeading 17 = .ok (.iconst 1, 1) := by decide +kernel
theorem dX5_addLeading_18 : decode cX5_addLeading 18 = .ok (.istore 5, 2) := by decide +kernel
theorem dX5_addLeading_20 : decode cX5_addLeading 20 = .ok (.iload 5, 2) := by decide +kernel
theorem dX5_addLeading_22 : decode cX5_addLeading 22 = .ok (.bipush 21, 2) := by decide +kernel
theorem dX5_addLeading_24 : decode cX5_addLeading 24 = .ok (.if_icmp .ge 27, 3) := by decide +kernel
theorem dX5_addLeading_27 : decode cX5_addLeading 27 = .ok (.lload_n 2, 1) := by decide +kernel
theorem dX5_addLeading_28 : decode cX5_addLeading 28 = .ok (.aload_n 0, 1) := by decide +kernel
theorem dX5_addLeading_29 : decode cX5_addLeading 29 = .ok (.getfield 28, 3) := by decide +kernel
theorem dX5_addLeading_32 : decode cX5_addLeading 32 = .ok (.iload 5, 2) := by decide +kernel
theorem dX5_addLeading_34 : decode cX5_addLeading 34 = .ok (.laload, 1) := by decide +kernel
theorem dX5_addLeading_35 : decode cX5_addLeading 35 = .ok (.land, 1) := by decide +kernel
theorem dX5_addLeading_36 : decode cX5_addLeading 36 = .ok (.lconst 0, 1) := by decide +kernel
theorem dX5_addLeading_37 : decode cX5_addLeading 37 = .ok (.lcmp, 1) := by decide +kernel
theorem dX5_addLeading_38 : decode cX5_addLeading 38 = .ok (.ifCond .ne 13, 3) := by decide +kernel
theorem dX5_addLeading_41 : decode cX5_addLeading 41 = .ok (.iload 5, 2) := by decide +kernel
theorem dX5_addLeading_43 : decode cX5_addLeading 43 = .ok (.istore 4, 2) := by decide +kernel
theorem dX5_addLeading_45 : decode cX5_addLeading 45 = .ok (.iinc 5 1, 3) := by decide +kernel
theorem dX5_addLeading_48 : decode cX5_addLeading 48 = .ok (.goto (-28), 3) := by decide +kernel
theorem dX5_addLeading_51 : decode cX5_addLeading 51 = .ok (.aload_n 0, 1) := by decide +kernel
theorem dX5_addLeading_52 : decode cX5_addLeading 52 = .ok (.getfield 31, 3) := by decide +kernel
theorem dX5_addLeading_55 : decode cX5_addLeading 55 = .ok (.iload_n 1, 1) := by decide +kernel
theorem dX5_addLeading_56 : decode cX5_addLeading 56 = .ok (.lload_n 2, 1) := by decide +kernel
theorem dX5_addLeading_57 : decode cX5_addLeading 57 = .ok (.lastore, 1) := by decide +kernel
theorem dX5_addLeading_58 : decode cX5_addLeading 58 = .ok (.aload_n 0, 1) := by decide +kernel
theorem dX5_addLeading_59 : decode cX5_addLeading 59 = .ok (.getfield 34, 3) := by decide +kernel
theorem dX5_addLeading_62 : decode cX5_addLeading 62 = .ok (.iload_n 1, 1) := by decide +kernel
theorem dX5_addLeading_63 : decode cX5_addLeading 63 = .ok (.iload 4, 2) := by decide +kernel
theorem dX5_addLeading_65 : decode cX5_addLeading 65 = .ok (.iastore, 1) := by decide +kernel
theorem dX5_addLeading_66 : decode cX5_addLeading 66 = .ok (.iload_n 1, 1) := by decide +kernel
theorem dX5_addLeading_67 : decode cX5_addLeading 67 = .ok (.iconst 1, 1) := by decide +kernel
theorem dX5_addLeading_68 : decode cX5_addLeading 68 = .ok (.iadd, 1) := by decide +kernel
theorem dX5_addLeading_69 : decode cX5_addLeading 69 = .ok (.ireturn, 1) := by decide +kernel
theorem dX5_findLeading_0 : decode cX5_findLeading 0 = .ok (.iconst 0, 1) := by decide +kernel
theorem dX5_findLeading_1 : decode cX5_findLeading 1 = .ok (.istore_n 3, 1) := by decide +kernel
theorem dX5_findLeading_2 : decode cX5_findLeading 2 = .ok (.aload_n 0, 1) := by decide +kernel
theorem dX5_findLeading_3 : decode cX5_findLeading 3 = .ok (.getfield 21, 3) := by decide +kernel
theorem dX5_findLeading_6 : decode cX5_findLeading 6 = .ok (.iload_n 1, 1) := by decide +kernel
theorem dX5_findLeading_7 : decode cX5_findLeading 7 = .ok (.laload, 1) := by decide +kernel
theorem dX5_findLeading_8 : decode cX5_findLeading 8 = .ok (.lconst 0, 1) := by decide +kernel
theorem dX5_findLeading_9 : decode cX5_findLeading 9 = .ok (.lcmp, 1) := by decide +kernel
theorem dX5_findLeading_10 : decode cX5_findLeading 10 = .ok (.ifCond .eq 47, 3) := by decide +kernel
theorem dX5_findLeading_13 : decode cX5_findLeading 13 = .ok (.iconst 0, 1) := by decide +kernel
theorem dX5_findLeading_14 : decode cX5_findLeading 14 = .ok (.istore 4, 2) := by decide +kernel
theorem dX5_findLeading_16 : decode cX5_findLeading 16 = .ok (.iload 4, 2) := by decide +kernel
theorem dX5_findLeading_18 : decode cX5_findLeading 18 = .ok (.aload_n 0, 1) := by decide +kernel
theorem dX5_findLeading_19 : decode cX5_findLeading 19 = .ok (.getfield 65, 3) := by decide +kernel
theorem dX5_findLeading_22 : decode cX5_findLeading 22 = .ok (.if_icmp .ge 35, 3) := by decide +kernel
theorem dX5_findLeading_25 : decode cX5_findLeading 25 = .ok (.aload_n 0, 1) := by decide +kernel
theorem dX5_findLeading_26 : decode cX5_findLeading 26 = .ok (.getfield 21, 3) := by decide +kernel
theorem dX5_findLeading_29 : decode cX5_findLeading 29 = .ok (.iload_n 1, 1) := by decide +kernel
theorem dX5_findLeading_30 : decode cX5_findLeading 30 = .ok (.laload, 1) := by decide +kernel
theorem dX5_findLeading_31 : decode cX5_findLeading 31 = .ok (.iload 4, 2) := by decide +kernel
theorem dX5_findLeading_33 : decode cX5_findLeading 33 = .ok (.lushr, 1) := by decide +kernel
theorem dX5_findLeading_34 : decode cX5_findLeading 34 = .ok (.lconst 1, 1) := by decide +kernel
theorem dX5_findLeading_35 : decode cX5_findLeading 35 = .ok (.land, 1) := by decide +kernel
theorem dX5_findLeading_36 : decode cX5_findLeading 36 = .ok (.lconst 0, 1) := by decide +kernel
theorem dX5_findLeading_37 : decode cX5_findLeading 37 = .ok (.lcmp, 1) := by decide +kernel
theorem dX5_findLeading_38 : decode cX5_findLeading 38 = .ok (.ifCond .eq 13, 3) := by decide +kernel
theorem dX5_findLeading_41 : decode cX5_findLeading 41 = .ok (.aload_n 0, 1) := by decide +kernel
theorem dX5_findLeading_42 : decode cX5_findLeading 42 = .ok (.iload_n 3, 1) := by decide +kernel
theorem dX5_findLeading_43 : decode cX5_findLeading 43 = .ok (.lconst 1, 1) := by decide +kernel
theorem dX5_findLeading_44 : decode cX5_findLeading 44 = .ok (.iload 4, 2) := by decide +kernel
theorem dX5_findLeading_46 : decode cX5_findLeading 46 = .ok (.lshl, 1) := by decide +kernel
theorem dX5_findLeading_47 : decode cX5_findLeading 47 = .ok (.invokevirtual 88, 3) := by decide +kernel
theorem dX5_findLeading_50 : decode cX5_findLeading 50 = .ok (.istore_n 3, 1) := by decide +kernel
theorem dX5_findLeading_51 : decode cX5_findLeading 51 = .ok (.iinc 4 1, 3) := by decide +kernel
theorem dX5_findLeading_54 : decode cX5_findLeading 54 = .ok (.goto (-38), 3) := by decide +kernel
theorem dX5_findLeading_57 : decode cX5_findLeading 57 = .ok (.iconst 0, 1) := by decide +kernel
theorem dX5_findLeading_58 : decode cX5_findLeading 58 = .ok (.istore 4, 2) := by decide +kernel
theorem dX5_findLeading_60 : decode cX5_findLeading 60 = .ok (.iload 4, 2) := by decide +kernel
theorem dX5_findLeading_62 : decode cX5_findLeading 62 = .ok (.iload_n 2, 1) := by decide +kernel
theorem dX5_findLeading_63 : decode cX5_findLeading 63 = .ok (.if_icmp .ge 45, 3) := by decide +kernel
theorem dX5_findLeading_66 : decode cX5_findLeading 66 = .ok (.aload_n 0, 1) := by decide +kernel
theorem dX5_findLeading_67 : decode cX5_findLeading 67 = .ok (.getfield 15, 3) := by decide +kernel
theorem dX5_findLeading_70 : decode cX5_findLeading 70 = .ok (.iload 4, 2) := by decide +kernel
theorem dX5_findLeading_72 : decode cX5_findLeading 72 = .ok (.iaload, 1) := by decide +kernel
theorem dX5_findLeading_73 : decode cX5_findLeading 73 = .ok (.iload_n 1, 1) := by decide +kernel
theorem dX5_findLeading_74 : decode cX5_findLeading 74 = .ok (.if_icmp .ne 28, 3) := by decide +kernel
theorem dX5_findLeading_77 : decode cX5_findLeading 77 = .ok (.aload_n 0, 1) := by decide +kernel
theorem dX5_findLeading_78 : decode cX5_findLeading 78 = .ok (.iload_n 3, 1) := by decide +kernel
theorem dX5_findLeading_79 : decode cX5_findLeading 79 = .ok (.aload_n 0, 1) := by decide +kernel
theorem dX5_findLeading_80 : decode cX5_findLeading 80 = .ok (.getfield 25, 3) := by decide +kernel
theorem dX5_findLeading_83 : decode cX5_findLeading 83 = .ok (.iload 4, 2) := by decide +kernel
theorem dX5_findLeading_85 : decode cX5_findLeading 85 = .ok (.laload, 1) := by decide +kernel
theorem dX5_findLeading_86 : decode cX5_findLeading 86 = .ok (.aload_n 0, 1) := by decide +kernel
theorem dX5_findLeading_87 : decode cX5_findLeading 87 = .ok (.getfield 28, 3) := by decide +kernel
theorem dX5_findLeading_90 : decode cX5_findLeading 90 = .ok (.aload_n 0, 1) := by decide +kernel
theorem dX5_findLeading_91 : decode cX5_findLeading 91 = .ok (.getfield 9, 3) := by decide +kernel
theorem dX5_findLeading_94 : decode cX5_findLeading 94 = .ok (.iload_n 1, 1) := by decide +kernel
theorem dX5_findLeading_95 : decode cX5_findLeading 95 = .ok (.iaload, 1) := by decide +kernel
theorem dX5_findLeading_96 : decode cX5_findLeading 96 = .ok (.laload, 1) := by decide +kernel
theorem dX5_findLeading_97 : decode cX5_findLeading 97 = .ok (.land, 1) := by decide +kernel
theorem dX5_findLeading_98 : decode cX5_findLeading 98 = .ok (.invokevirtual 88, 3) := by decide +kernel
theorem dX5_findLeading_101 : decode cX5_findLeading 101 = .ok (.istore_n 3, 1) := by decide +kernel
theorem dX5_findLeading_102 : decode cX5_findLeading 102 = .ok (.iinc 4 1, 3) := by decide +kernel
theorem dX5_findLeading_105 : decode cX5_findLeading 105 = .ok (.goto (-45), 3) := by decide +kernel
theorem dX5_findLeading_108 : decode cX5_findLeading 108 = .ok (.iload_n 3, 1) := by decide +kernel
theorem dX5_findLeading_109 : decode cX5_findLeading 109 = .ok (.ireturn, 1) := by decide +kernel
theorem dX5_leave_0 : decode cX5_leave 0 = .ok (.aload_n 0, 1) := by decide +kernel
theorem dX5_leave_1 : decode cX5_leave 1 = .ok (.getfield 25, 3) := by decide +kernel
theorem dX5_leave_4 : decode cX5_leave 4 = .ok (.iload_n 1, 1) := by decide +kernel
theorem dX5_leave_5 : decode cX5_leave 5 = .ok (.dup2, 1) := by decide +kernel
theorem dX5_leave_6 : decode cX5_leave 6 = .ok (.laload, 1) := by decide +kernel
theorem dX5_leave_7 : decode cX5_leave 7 = .ok (.aload_n 0, 1) := by decide +kernel
theorem dX5_leave_8 : decode cX5_leave 8 = .ok (.getfield 21, 3) := by decide +kernel
theorem dX5_leave_11 : decode cX5_leave 11 = .ok (.iload_n 1, 1) := by decide +kernel
theorem dX5_leave_12 : decode cX5_leave 12 = .ok (.laload, 1) := by decide +kernel
theorem dX5_leave_13 : decode cX5_leave 13 = .ok (.lor, 1) := by decide +kernel
theorem dX5_leave_14 : decode cX5_leave 14 = .ok (.lastore, 1) := by decide +kernel
theorem dX5_leave_15 : decode cX5_leave 15 = .ok (.aload_n 0, 1) := by decide +kernel
theorem dX5_leave_16 : decode cX5_leave 16 = .ok (.getfield 15, 3) := by decide +kernel
theorem dX5_leave_19 : decode cX5_leave 19 = .ok (.iload_n 1, 1) := by decide +kernel
theorem dX5_leave_20 : decode cX5_leave 20 = .ok (.iaload, 1) := by decide +kernel
theorem dX5_leave_21 : decode cX5_leave 21 = .ok (.ifCond .lt 23, 3) := by decide +kernel
theorem dX5_leave_24 : decode cX5_leave 24 = .ok (.aload_n 0, 1) := by decide +kernel
theorem dX5_leave_25 : decode cX5_leave 25 = .ok (.getfield 25, 3) := by decide +kernel
theorem dX5_leave_28 : decode cX5_leave 28 = .ok (.aload_n 0, 1) := by decide +kernel
theorem dX5_leave_29 : decode cX5_leave 29 = .ok (.getfield 15, 3) := by decide +kernel
theorem dX5_leave_32 : decode cX5_leave 32 = .ok (.iload_n 1, 1) := by decide +kernel
theorem dX5_leave_33 : decode cX5_leave 33 = .ok (.iaload, 1) := by decide +kernel
theorem dX5_leave_34 : decode cX5_leave 34 = .ok (.dup2, 1) := by decide +kernel
theorem dX5_leave_35 : decode cX5_leave 35 = .ok (.laload, 1) := by decide +kernel
theorem dX5_leave_36 : decode cX5_leave 36 = .ok (.aload_n 0, 1) := by decide +kernel
theorem dX5_leave_37 : decode cX5_leave 37 = .ok (.getfield 25, 3) := by decide +kernel
theorem dX5_leave_40 : decode cX5_leave 40 = .ok (.iload_n 1, 1) := by decide +kernel
theorem dX5_leave_41 : decode cX5_leave 41 = .ok (.laload, 1) := by decide +kernel
theorem dX5_leave_42 : decode cX5_leave 42 = .ok (.lor, 1) := by decide +kernel
theorem dX5_leave_43 : decode cX5_leave 43 = .ok (.lastore, 1) := by decide +kernel
theorem dX5_leave_44 : decode cX5_leave 44 = .ok (.aload_n 0, 1) := by decide +kernel
theorem dX5_leave_45 : decode cX5_leave 45 = .ok (.getfield 15, 3) := by decide +kernel
theorem dX5_leave_48 : decode cX5_leave 48 = .ok (.iload_n 1, 1) := by decide +kernel
theorem dX5_leave_49 : decode cX5_leave 49 = .ok (.iaload, 1) := by decide +kernel
theorem dX5_leave_50 : decode cX5_leave 50 = .ok (.ireturn, 1) := by decide +kernel
theorem dX5_part_0 : decode cX5_part 0 = .ok (.lload_n 1, 1) := by decide +kernel
theorem dX5_part_1 : decode cX5_part 1 = .ok (.lstore 5, 2) := by decide +kernel
theorem dX5_part_3 : decode cX5_part 3 = .ok (.lload_n 3, 1) := by decide +kernel
theorem dX5_part_4 : decode cX5_part 4 = .ok (.lstore 7, 2) := by decide +kernel
theorem dX5_part_6 : decode cX5_part 6 = .ok (.iconst 0, 1) := by decide +kernel
theorem dX5_part_7 : decode cX5_part 7 = .ok (.istore 9, 2) := by decide +kernel
theorem dX5_part_9 : decode cX5_part 9 = .ok (.iconst 0, 1) := by decide +kernel
theorem dX5_part_10 : decode cX5_part 10 = .ok (.istore 10, 2) := by decide +kernel
theorem dX5_part_12 : decode cX5_part 12 = .ok (.iload 10, 2) := by decide +kernel
theorem dX5_part_14 : decode cX5_part 14 = .ok (.aload_n 0, 1) := by decide +kernel
theorem dX5_part_15 : decode cX5_part 15 = .ok (.getfield 69, 3) := by decide +kernel
theorem dX5_part_18 : decode cX5_part 18 = .ok (.if_icmp .ge 110, 3) := by decide +kernel
theorem dX5_part_21 : decode cX5_part 21 = .ok (.aload_n 0, 1) := by decide +kernel
theorem dX5_part_22 : decode cX5_part 22 = .ok (.getfield 37, 3) := by decide +kernel
theorem dX5_part_25 : decode cX5_part 25 = .ok (.iload 10, 2) := by decide +kernel
theorem dX5_part_27 : decode cX5_part 27 = .ok (.laload, 1) := by decide +kernel
theorem dX5_part_28 : decode cX5_part 28 = .ok (.lstore 11, 2) := by decide +kernel
theorem dX5_part_30 : decode cX5_part 30 = .ok (.aload_n 0, 1) := by decide +kernel
theorem dX5_part_31 : decode cX5_part 31 = .ok (.getfield 40, 3) := by decide +kernel
theorem dX5_part_34 : decode cX5_part 34 = .ok (.iload 10, 2) := by decide +kernel
theorem dX5_part_36 : decode cX5_part 36 = .ok (.laload, 1) := by decide +kernel
theorem dX5_part_37 : decode cX5_part 37 = .ok (.lstore 13, 2) := by decide +kernel
theorem dX5_part_39 : decode cX5_part 39 = .ok (.lload 11, 2) := by decide +kernel
theorem dX5_part_41 : decode cX5_part 41 = .ok (.lload 13, 2) := by decide +kernel
theorem dX5_part_43 : decode cX5_part 43 = .ok (.lor, 1) := by decide +kernel
theorem dX5_part_44 : decode cX5_part 44 = .ok (.lload_n 1, 1) := by decide +kernel
theorem dX5_part_45 : decode cX5_part 45 = .ok (.lload_n 3, 1) := by decide +kernel
theorem dX5_part_46 : decode cX5_part 46 = .ok (.lor, 1) := by decide +kernel
theorem dX5_part_47 : decode cX5_part 47 = .ok (.land, 1) := by decide +kernel
theorem dX5_part_48 : decode cX5_part 48 = .ok (.lconst 0, 1) := by decide +kernel
theorem dX5_part_49 : decode cX5_part 49 = .ok (.lcmp, 1) := by decide +kernel
theorem dX5_part_50 : decode cX5_part 50 = .ok (.ifCond .ne 27, 3) := by decide +kernel
theorem dX5_part_53 : decode cX5_part 53 = .ok (.aload_n 0, 1) := by decide +kernel
theorem dX5_part_54 : decode cX5_part 54 = .ok (.getfield 37, 3) := by decide +kernel
theorem dX5_part_57 : decode cX5_part 57 = .ok (.iload 9, 2) := by decide +kernel
theorem dX5_part_59 : decode cX5_part 59 = .ok (.lload 11, 2) := by decide +kernel
theorem dX5_part_61 : decode cX5_part 61 = .ok (.lastore, 1) := by decide +kernel
