theorem dX12_isCell_4 : decode cX12_isCell 4 = .ok (.iload_n 1, 1) := by decide +kernel
theorem dX12_isCell_5 : decode cX12_isCell 5 = .ok (.aload_n 0, 1) := by decide +kernel
theorem dX12_isCell_6 : decode cX12_isCell 6 = .ok (.getfield 272, 3) := by decide +kernel
theorem dX12_isCell_9 : decode cX12_isCell 9 = .ok (.aload_n 0, 1) := by decide +kernel
theorem dX12_isCell_10 : decode cX12_isCell 10 = .ok (.getfield 275, 3) := by decide +kernel
theorem dX12_isCell_13 : decode cX12_isCell 13 = .ok (.imul, 1) := by decide +kernel
theorem dX12_isCell_14 : decode cX12_isCell 14 = .ok (.if_icmp .ge 7, 3) := by decide +kernel
theorem dX12_isCell_17 : decode cX12_isCell 17 = .ok (.iconst 1, 1) := by decide +kernel
theorem dX12_isCell_18 : decode cX12_isCell 18 = .ok (.goto 4, 3) := by decide +kernel
theorem dX12_isCell_21 : decode cX12_isCell 21 = .ok (.iconst 0, 1) := by decide +kernel
theorem dX12_isCell_22 : decode cX12_isCell 22 = .ok (.ireturn, 1) := by decide +kernel
theorem dX12_isLayer_0 : decode cX12_isLayer 0 = .ok (.iload_n 0, 1) := by decide +kernel
theorem dX12_isLayer_1 : decode cX12_isLayer 1 = .ok (.ifCond .lt 13, 3) := by decide +kernel
theorem dX12_isLayer_4 : decode cX12_isLayer 4 = .ok (.iload_n 0, 1) := by decide +kernel
theorem dX12_isLayer_5 : decode cX12_isLayer 5 = .ok (.bipush 8, 2) := by decide +kernel
theorem dX12_isLayer_7 : decode cX12_isLayer 7 = .ok (.if_icmp .ge 7, 3) := by decide +kernel
theorem dX12_isLayer_10 : decode cX12_isLayer 10 = .ok (.iconst 1, 1) := by decide +kernel
theorem dX12_isLayer_11 : decode cX12_isLayer 11 = .ok (.goto 4, 3) := by decide +kernel
theorem dX12_isLayer_14 : decode cX12_isLayer 14 = .ok (.iconst 0, 1) := by decide +kernel
theorem dX12_isLayer_15 : decode cX12_isLayer 15 = .ok (.ireturn, 1) := by decide +kernel
theorem dX12_isRectangle_0 : decode cX12_isRectangle 0 = .ok (.aload_n 0, 1) := by decide +kernel
theorem dX12_isRectangle_1 : decode cX12_isRectangle 1 = .ok (.iload_n 1, 1) := by decide +kernel
theorem dX12_isRectangle_2 : decode cX12_isRectangle 2 = .ok (.invokevirtual 294, 3) := by decide +kernel
theorem dX12_isRectangle_5 : decode cX12_isRectangle 5 = .ok (.ifCond .eq 45, 3) := by decide +kernel
theorem dX12_isRectangle_8 : decode cX12_isRectangle 8 = .ok (.aload_n 0, 1) := by decide +kernel
theorem dX12_isRectangle_9 : decode cX12_isRectangle 9 = .ok (.iload_n 2, 1) := by decide +kernel
theorem dX12_isRectangle_10 : decode cX12_isRectangle 10 = .ok (.invokevirtual 294, 3) := by decide +kernel
theorem dX12_isRectangle_13 : decode cX12_isRectangle 13 = .ok (.ifCond .eq 37, 3) := by decide +kernel
theorem dX12_isRectangle_16 : decode cX12_isRectangle 16 = .ok (.iload_n 1, 1) := by decide +kernel
theorem dX12_isRectangle_17 : decode cX12_isRectangle 17 = .ok (.aload_n 0, 1) := by decide +kernel
theorem dX12_isRectangle_18 : decode cX12_isRectangle 18 = .ok (.getfield 272, 3) := by decide +kernel
theorem dX12_isRectangle_21 : decode cX12_isRectangle 21 = .ok (.irem, 1) := by decide +kernel
theorem dX12_isRectangle_22 : decode cX12_isRectangle 22 = .ok (.iload_n 2, 1) := by decide +kernel
theorem dX12_isRectangle_23 : decode cX12_isRectangle 23 = .ok (.aload_n 0, 1) := by decide +kernel
theorem dX12_isRectangle_24 : decode cX12_isRectangle 24 = .ok (.getfield 272, 3) := by decide +kernel
theorem dX12_isRectangle_27 : decode cX12_isRectangle 27 = .ok (.irem, 1) := by decide +kernel
theorem dX12_isRectangle_28 : decode cX12_isRectangle 28 = .ok (.if_icmp .gt 22, 3) := by decide +kernel
theorem dX12_isRectangle_31 : decode cX12_isRectangle 31 = .ok (.iload_n 1, 1) := by decide +kernel
theorem dX12_isRectangle_32 : decode cX12_isRectangle 32 = .ok (.aload_n 0, 1) := by decide +kernel
theorem dX12_isRectangle_33 : decode cX12_isRectangle 33 = .ok (.getfield 272, 3) := by decide +kernel
theorem dX12_isRectangle_36 : decode cX12_isRectangle 36 = .ok (.idiv, 1) := by decide +kernel
theorem dX12_isRectangle_37 : decode cX12_isRectangle 37 = .ok (.iload_n 2, 1) := by decide +kernel
theorem dX12_isRectangle_38 : decode cX12_isRectangle 38 = .ok (.aload_n 0, 1) := by decide +kernel
theorem dX12_isRectangle_39 : decode cX12_isRectangle 39 = .ok (.getfield 272, 3) := by decide +kernel
theorem dX12_isRectangle_42 : decode cX12_isRectangle 42 = .ok (.idiv, 1) := by decide +kernel
theorem dX12_isRectangle_43 : decode cX12_isRectangle 43 = .ok (.if_icmp .gt 7, 3) := by decide +kernel
theorem dX12_isRectangle_46 : decode cX12_isRectangle 46 = .ok (.iconst 1, 1) := by decide +kernel
theorem dX12_isRectangle_47 : decode cX12_isRectangle 47 = .ok (.goto 4, 3) := by decide +kernel
theorem dX12_isRectangle_50 : decode cX12_isRectangle 50 = .ok (.iconst 0, 1) := by decide +kernel
theorem dX12_isRectangle_51 : decode cX12_isRectangle 51 = .ok (.ireturn, 1) := by decide +kernel
theorem dX12_isIn_0 : decode cX12_isIn 0 = .ok (.iload_n 1, 1) := by decide +kernel
theorem dX12_isIn_1 : decode cX12_isIn 1 = .ok (.aload_n 0, 1) := by decide +kernel
theorem dX12_isIn_2 : decode cX12_isIn 2 = .ok (.getfield 272, 3) := by decide +kernel
theorem dX12_isIn_5 : decode cX12_isIn 5 = .ok (.irem, 1) := by decide +kernel
theorem dX12_isIn_6 : decode cX12_isIn 6 = .ok (.iload_n 2, 1) := by decide +kernel
theorem dX12_isIn_7 : decode cX12_isIn 7 = .ok (.aload_n 0, 1) := by decide +kernel
theorem dX12_isIn_8 : decode cX12_isIn 8 = .ok (.getfield 272, 3) := by decide +kernel
theorem dX12_isIn_11 : decode cX12_isIn 11 = .ok (.irem, 1) := by decide +kernel
theorem dX12_isIn_12 : decode cX12_isIn 12 = .ok (.iload_n 3, 1) := by decide +kernel
theorem dX12_isIn_13 : decode cX12_isIn 13 = .ok (.aload_n 0, 1) := by decide +kernel
theorem dX12_isIn_14 : decode cX12_isIn 14 = .ok (.getfield 272, 3) := by decide +kernel
theorem dX12_isIn_17 : decode cX12_isIn 17 = .ok (.irem, 1) := by decide +kernel
theorem dX12_isIn_18 : decode cX12_isIn 18 = .ok (.invokestatic 278, 3) := by decide +kernel
theorem dX12_isIn_21 : decode cX12_isIn 21 = .ok (.ifCond .eq 31, 3) := by decide +kernel
theorem dX12_isIn_24 : decode cX12_isIn 24 = .ok (.iload_n 1, 1) := by decide +kernel
theorem dX12_isIn_25 : decode cX12_isIn 25 = .ok (.aload_n 0, 1) := by decide +kernel
theorem dX12_isIn_26 : decode cX12_isIn 26 = .ok (.getfield 272, 3) := by decide +kernel
theorem dX12_isIn_29 : decode cX12_isIn 29 = .ok (.idiv, 1) := by decide +kernel
theorem dX12_isIn_30 : decode cX12_isIn 30 = .ok (.iload_n 2, 1) := by decide +kernel
theorem dX12_isIn_31 : decode cX12_isIn 31 = .ok (.aload_n 0, 1) := by decide +kernel
theorem dX12_isIn_32 : decode cX12_isIn 32 = .ok (.getfield 272, 3) := by decide +kernel
theorem dX12_isIn_35 : decode cX12_isIn 35 = .ok (.idiv, 1) := by decide +kernel
theorem dX12_isIn_36 : decode cX12_isIn 36 = .ok (.iload_n 3, 1) := by decide +kernel
theorem dX12_isIn_37 : decode cX12_isIn 37 = .ok (.aload_n 0, 1) := by decide +kernel
theorem dX12_isIn_38 : decode cX12_isIn 38 = .ok (.getfield 272, 3) := by decide +kernel
theorem dX12_isIn_41 : decode cX12_isIn 41 = .ok (.idiv, 1) := by decide +kernel
theorem dX12_isIn_42 : decode cX12_isIn 42 = .ok (.invokestatic 278, 3) := by decide +kernel
theorem dX12_isIn_45 : decode cX12_isIn 45 = .ok (.ifCond .eq 7, 3) := by decide +kernel
theorem dX12_isIn_48 : decode cX12_isIn 48 = .ok (.iconst 1, 1) := by decide +kernel
theorem dX12_isIn_49 : decode cX12_isIn 49 = .ok (.goto 4, 3) := by decide +kernel
theorem dX12_isIn_52 : decode cX12_isIn 52 = .ok (.iconst 0, 1) := by decide +kernel
theorem dX12_isIn_53 : decode cX12_isIn 53 = .ok (.ireturn, 1) := by decide +kernel
theorem dX12_isPlace_0 : decode cX12_isPlace 0 = .ok (.iload_n 1, 1) := by decide +kernel
theorem dX12_isPlace_1 : decode cX12_isPlace 1 = .ok (.ifCond .lt 15, 3) := by decide +kernel
theorem dX12_isPlace_4 : decode cX12_isPlace 4 = .ok (.iload_n 1, 1) := by decide +kernel
theorem dX12_isPlace_5 : decode cX12_isPlace 5 = .ok (.aload_n 0, 1) := by decide +kernel
theorem dX12_isPlace_6 : decode cX12_isPlace 6 = .ok (.getfield 282, 3) := by decide +kernel
theorem dX12_isPlace_9 : decode cX12_isPlace 9 = .ok (.if_icmp .ge 7, 3) := by decide +kernel
theorem dX12_isPlace_12 : decode cX12_isPlace 12 = .ok (.iconst 1, 1) := by decide +kernel
theorem dX12_isPlace_13 : decode cX12_isPlace 13 = .ok (.goto 4, 3) := by decide +kernel
theorem dX12_isPlace_16 : decode cX12_isPlace 16 = .ok (.iconst 0, 1) := by decide +kernel
theorem dX12_isPlace_17 : decode cX12_isPlace 17 = .ok (.ireturn, 1) := by decide +kernel
theorem dX12_place_0 : decode cX12_place 0 = .ok (.iload_n 1, 1) := by decide +kernel
theorem dX12_place_1 : decode cX12_place 1 = .ok (.iconst 0, 1) := by decide +kernel
theorem dX12_place_2 : decode cX12_place 2 = .ok (.iconst 2, 1) := by decide +kernel
theorem dX12_place_3 : decode cX12_place 3 = .ok (.invokestatic 278, 3) := by decide +kernel
theorem dX12_place_6 : decode cX12_place 6 = .ok (.ifCond .eq 21, 3) := by decide +kernel
theorem dX12_place_9 : decode cX12_place 9 = .ok (.aload_n 0, 1) := by decide +kernel
theorem dX12_place_10 : decode cX12_place 10 = .ok (.iload_n 2, 1) := by decide +kernel
theorem dX12_place_11 : decode cX12_place 11 = .ok (.iload_n 3, 1) := by decide +kernel
theorem dX12_place_12 : decode cX12_place 12 = .ok (.invokevirtual 298, 3) := by decide +kernel
theorem dX12_place_15 : decode cX12_place 15 = .ok (.ifCond .eq 12, 3) := by decide +kernel
theorem dX12_place_18 : decode cX12_place 18 = .ok (.aload_n 0, 1) := by decide +kernel
theorem dX12_place_19 : decode cX12_place 19 = .ok (.getfield 282, 3) := by decide +kernel
theorem dX12_place_22 : decode cX12_place 22 = .ok (.bipush 30, 2) := by decide +kernel
theorem dX12_place_24 : decode cX12_place 24 = .ok (.if_icmp .ne 5, 3) := by decide +kernel
theorem dX12_place_27 : decode cX12_place 27 = .ok (.iconst (-1), 1) := by decide +kernel
theorem dX12_place_28 : decode cX12_place 28 = .ok (.ireturn, 1) := by decide +kernel
theorem dX12_place_29 : decode cX12_place 29 = .ok (.iconst 0, 1) := by decide +kernel
theorem dX12_place_30 : decode cX12_place 30 = .ok (.istore 4, 2) := by decide +kernel
theorem dX12_place_32 : decode cX12_place 32 = .ok (.iload 4, 2) := by decide +kernel
theorem dX12_place_34 : decode cX12_place 34 = .ok (.aload_n 0, 1) := by decide +kernel
theorem dX12_place_35 : decode cX12_place 35 = .ok (.getfield 272, 3) := by decide +kernel
theorem dX12_place_38 : decode cX12_place 38 = .ok (.aload_n 0, 1) := by decide +kernel
theorem dX12_place_39 : decode cX12_place 39 = .ok (.getfield 275, 3) := by decide +kernel
theorem dX12_place_42 : decode cX12_place 42 = .ok (.imul, 1) := by decide +kernel
theorem dX12_place_43 : decode cX12_place 43 = .ok (.if_icmp .ge 33, 3) := by decide +kernel
theorem dX12_place_46 : decode cX12_place 46 = .ok (.aload_n 0, 1) := by decide +kernel
theorem dX12_place_47 : decode cX12_place 47 = .ok (.iload 4, 2) := by decide +kernel
theorem dX12_place_49 : decode cX12_place 49 = .ok (.iload_n 2, 1) := by decide +kernel
theorem dX12_place_50 : decode cX12_place 50 = .ok (.iload_n 3, 1) := by decide +kernel
theorem dX12_place_51 : decode cX12_place 51 = .ok (.invokevirtual 302, 3) := by decide +kernel
theorem dX12_place_54 : decode cX12_place 54 = .ok (.ifCond .eq 16, 3) := by decide +kernel
theorem dX12_place_57 : decode cX12_place 57 = .ok (.aload_n 0, 1) := by decide +kernel
theorem dX12_place_58 : decode cX12_place 58 = .ok (.getfield 13, 3) := by decide +kernel
theorem dX12_place_61 : decode cX12_place 61 = .ok (.iload 4, 2) := by decide +kernel
theorem dX12_place_63 : decode cX12_place 63 = .ok (.iaload, 1) := by decide +kernel
theorem dX12_place_64 : decode cX12_place 64 = .ok (.iconst (-1), 1) := by decide +kernel
theorem dX12_place_65 : decode cX12_place 65 = .ok (.if_icmp .eq 5, 3) := by decide +kernel
theorem dX12_place_68 : decode cX12_place 68 = .ok (.iconst (-1), 1) := by decide +kernel
theorem dX12_place_69 : decode cX12_place 69 = .ok (.ireturn, 1) := by decide +kernel
theorem dX12_place_70 : decode cX12_place 70 = .ok (.iinc 4 1, 3) := by decide +kernel
theorem dX12_place_73 : decode cX12_place 73 = .ok (.goto (-41), 3) := by decide +kernel
theorem dX12_place_76 : decode cX12_place 76 = .ok (.iconst 0, 1) := by decide +kernel
theorem dX12_place_77 : decode cX12_place 77 = .ok (.istore 4, 2) := by decide +kernel
theorem dX12_place_79 : decode cX12_place 79 = .ok (.iload 4, 2) := by decide +kernel
theorem dX12_place_81 : decode cX12_place 81 = .ok (.aload_n 0, 1) := by decide +kernel
theorem dX12_place_82 : decode cX12_place 82 = .ok (.getfield 272, 3) := by decide +kernel
theorem dX12_place_85 : decode cX12_place 85 = .ok (.aload_n 0, 1) := by decide +kernel
theorem dX12_place_86 : decode cX12_place 86 = .ok (.getfield 275, 3) := by decide +kernel
theorem dX12_place_89 : decode cX12_place 89 = .ok (.imul, 1) := by decide +kernel
theorem dX12_place_90 : decode cX12_place 90 = .ok (.if_icmp .ge 31, 3) := by decide +kernel
theorem dX12_place_93 : decode cX12_place 93 = .ok (.aload_n 0, 1) := by decide +kernel
theorem dX12_place_94 : decode cX12_place 94 = .ok (.iload 4, 2) := by decide +kernel
theorem dX12_place_96 : decode cX12_place 96 = .ok (.iload_n 2, 1) := by decide +kernel
theorem dX12_place_97 : decode cX12_place 97 = .ok (.iload_n 3, 1) := by decide +kernel
theorem dX12_place_98 : decode cX12_place 98 = .ok (.invokevirtual 302, 3) := by decide +kernel
theorem dX12_place_101 : decode cX12_place 101 = .ok (.ifCond .eq 14, 3) := by decide +kernel
theorem dX12_place_104 : decode cX12_place 104 = .ok (.aload_n 0, 1) := by decide +kernel
theorem dX12_place_105 : decode cX12_place 105 = .ok (.getfield 13, 3) := by decide +kernel
theorem dX12_place_108 : decode cX12_place 108 = .ok (.iload 4, 2) := by decide +kernel
theorem dX12_place_110 : decode cX12_place 110 = .ok (.aload_n 0, 1) := by decide +kernel
theorem dX12_place_111 : decode cX12_place 111 = .ok (.getfield 282, 3) := by decide +kernel
theorem dX12_place_114 : decode cX12_place 114 = .ok (.iastore, 1) := by decide +kernel
theorem dX12_place_115 : decode cX12_place 115 = .ok (.iinc 4 1, 3) := by decide +kernel
theorem dX12_place_118 : decode cX12_place 118 = .ok (.goto (-39), 3) := by decide +kernel
theorem dX12_place_121 : decode cX12_place 121 = .ok (.aload_n 0, 1) := by decide +kernel
theorem dX12_place_122 : decode cX12_place 122 = .ok (.getfield 16, 3) := by decide +kernel
theorem dX12_place_125 : decode cX12_place 125 = .ok (.aload_n 0, 1) := by decide +kernel
theorem dX12_place_126 : decode cX12_place 126 = .ok (.getfield 282, 3) := by decide +kernel
theorem dX12_place_129 : decode cX12_place 129 = .ok (.iload_n 1, 1) := by decide +kernel
theorem dX12_place_130 : decode cX12_place 130 = .ok (.iastore, 1) := by decide +kernel
theorem dX12_place_131 : decode cX12_place 131 = .ok (.aload_n 0, 1) := by decide +kernel
theorem dX12_place_132 : decode cX12_place 132 = .ok (.getfield 19, 3) := by decide +kernel
theorem dX12_place_135 : decode cX12_place 135 = .ok (.aload_n 0, 1) := by decide +kernel
theorem dX12_place_136 : decode cX12_place 136 = .ok (.getfield 282, 3) := by decide +kernel
theorem dX12_place_139 : decode cX12_place 139 = .ok (.iload_n 2, 1) := by decide +kernel
theorem dX12_place_140 : decode cX12_place 140 = .ok (.iastore, 1) := by decide +kernel
theorem dX12_place_141 : decode cX12_place 141 = .ok (.aload_n 0, 1) := by decide +kernel
theorem dX12_place_142 : decode cX12_place 142 = .ok (.getfield 22, 3) := by decide +kernel
theorem dX12_place_145 : decode cX12_place 145 = .ok (.aload_n 0, 1) := by decide +kernel
theorem dX12_place_146 : decode cX12_place 146 = .ok (.getfield 282, 3) := by decide +kernel
theorem dX12_place_149 : decode cX12_place 149 = .ok (.iload_n 3, 1) := by decide +kernel
theorem dX12_place_150 : decode cX12_place 150 = .ok (.iastore, 1) := by decide +kernel
theorem dX12_place_151 : decode cX12_place 151 = .ok (.aload_n 0, 1) := by decide +kernel
theorem dX12_place_152 : decode cX12_place 152 = .ok (.aload_n 0, 1) := by decide +kernel
theorem dX12_place_153 : decode cX12_place 153 = .ok (.getfield 282, 3) := by decide +kernel
theorem dX12_place_156 : decode cX12_place 156 = .ok (.iconst 1, 1) := by decide +kernel
theorem dX12_place_157 : decode cX12_place 157 = .ok (.iadd, 1) := by decide +kernel
theorem dX12_place_158 : decode cX12_place 158 = .ok (.putfield 282, 3) := by decide +kernel
theorem dX12_place_161 : decode cX12_place 161 = .ok (.aload_n 0, 1) := by decide +kernel
theorem dX12_place_162 : decode cX12_place 162 = .ok (.getfield 282, 3) := by decide +kernel
theorem dX12_place_165 : decode cX12_place 165 = .ok (.iconst 1, 1) := by decide +kernel
theorem dX12_place_166 : decode cX12_place 166 = .ok (.isub, 1) := by decide +kernel
theorem dX12_place_167 : decode cX12_place 167 = .ok (.ireturn, 1) := by decide +kernel
theorem dX12_placeOf_0 : decode cX12_placeOf 0 = .ok (.aload_n 0, 1) := by decide +kernel
theorem dX12_placeOf_1 : decode cX12_placeOf 1 = .ok (.iload_n 1, 1) := by decide +kernel
theorem dX12_placeOf_2 : decode cX12_placeOf 2 = .ok (.invokevirtual 294, 3) := by decide +kernel
theorem dX12_placeOf_5 : decode cX12_placeOf 5 = .ok (.ifCond .eq 12, 3) := by decide +kernel
theorem dX12_placeOf_8 : decode cX12_placeOf 8 = .ok (.aload_n 0, 1) := by decide +kernel
theorem dX12_placeOf_9 : decode cX12_placeOf 9 = .ok (.getfield 13, 3) := by decide +kernel
theorem dX12_placeOf_12 : decode cX12_placeOf 12 = .ok (.iload_n 1, 1) := by decide +kernel
theorem dX12_placeOf_13 : decode cX12_placeOf 13 = .ok (.iaload, 1) := by decide +kernel
theorem dX12_placeOf_14 : decode cX12_placeOf 14 = .ok (.goto 4, 3) := by decide +kernel
theorem dX12_placeOf_17 : decode cX12_placeOf 17 = .ok (.iconst (-1), 1) := by decide +kernel
theorem dX12_placeOf_18 : decode cX12_placeOf 18 = .ok (.ireturn, 1) := by decide +kernel
theorem dX12_dig_0 : decode cX12_dig 0 = .ok (.iload_n 1, 1) := by decide +kernel
theorem dX12_dig_1 : decode cX12_dig 1 = .ok (.iconst 0, 1) := by decide +kernel
theorem dX12_dig_2 : decode cX12_dig 2 = .ok (.bipush 7, 2) := by decide +kernel
theorem dX12_dig_4 : decode cX12_dig 4 = .ok (.invokestatic 278, 3) := by decide +kernel
theorem dX12_dig_7 : decode cX12_dig 7 = .ok (.ifCond .eq 87, 3) := by decide +kernel
theorem dX12_dig_10 : decode cX12_dig 10 = .ok (.iload_n 2, 1) := by decide +kernel
theorem dX12_dig_11 : decode cX12_dig 11 = .ok (.iconst 0, 1) := by decide +kernel
theorem dX12_dig_12 : decode cX12_dig 12 = .ok (.iconst 2, 1) := by decide +kernel
theorem dX12_dig_13 : decode cX12_dig 13 = .ok (.invokestatic 278, 3) := by decide +kernel
theorem dX12_dig_16 : decode cX12_dig 16 = .ok (.ifCond .eq 78, 3) := by decide +kernel
theorem dX12_dig_19 : decode cX12_dig 19 = .ok (.aload_n 0, 1) := by decide +kernel
theorem dX12_dig_20 : decode cX12_dig 20 = .ok (.iload_n 3, 1) := by decide +kernel
theorem dX12_dig_21 : decode cX12_dig 21 = .ok (.iload 4, 2) := by decide +kernel
theorem dX12_dig_23 : decode cX12_dig 23 = .ok (.invokevirtual 298, 3) := by decide +kernel
theorem dX12_dig_26 : decode cX12_dig 26 = .ok (.ifCond .eq 68, 3) := by decide +kernel
theorem dX12_dig_29 : decode cX12_dig 29 = .ok (.iload 5, 2) := by decide +kernel
theorem dX12_dig_31 : decode cX12_dig 31 = .ok (.invokestatic 305, 3) := by decide +kernel
theorem dX12_dig_34 : decode cX12_dig 34 = .ok (.ifCond .eq 60, 3) := by decide +kernel
theorem dX12_dig_37 : decode cX12_dig 37 = .ok (.iload 6, 2) := by decide +kernel
theorem dX12_dig_39 : decode cX12_dig 39 = .ok (.iload 5, 2) := by decide +kernel
theorem dX12_dig_41 : decode cX12_dig 41 = .ok (.bipush 7, 2) := by decide +kernel
theorem dX12_dig_43 : decode cX12_dig 43 = .ok (.invokestatic 278, 3) := by decide +kernel
theorem dX12_dig_46 : decode cX12_dig 46 = .ok (.ifCond .eq 48, 3) := by decide +kernel
theorem dX12_dig_49 : decode cX12_dig 49 = .ok (.iload_n 2, 1) := by decide +kernel
theorem dX12_dig_50 : decode cX12_dig 50 = .ok (.ifCond .ne 8, 3) := by decide +kernel
theorem dX12_dig_53 : decode cX12_dig 53 = .ok (.iload 5, 2) := by decide +kernel
theorem dX12_dig_55 : decode cX12_dig 55 = .ok (.ifCond .ne 39, 3) := by decide +kernel
theorem dX12_dig_58 : decode cX12_dig 58 = .ok (.iload 7, 2) := by decide +kernel
theorem dX12_dig_60 : decode cX12_dig 60 = .ok (.iconst 0, 1) := by decide +kernel
theorem dX12_dig_61 : decode cX12_dig 61 = .ok (.aload_n 0, 1) := by decide +kernel
theorem dX12_dig_62 : decode cX12_dig 62 = .ok (.getfield 291, 3) := by decide +kernel
theorem dX12_dig_65 : decode cX12_dig 65 = .ok (.invokestatic 278, 3) := by decide +kernel
theorem dX12_dig_68 : decode cX12_dig 68 = .ok (.ifCond .eq 26, 3) := by decide +kernel
theorem dX12_dig_71 : decode cX12_dig 71 = .ok (.iload 8, 2) := by decide +kernel
theorem dX12_dig_73 : decode cX12_dig 73 = .ok (.iload 7, 2) := by decide +kernel
theorem dX12_dig_75 : decode cX12_dig 75 = .ok (.aload_n 0, 1) := by decide +kernel
theorem dX12_dig_76 : decode cX12_dig 76 = .ok (.getfield 291, 3) := by decide +kernel
theorem dX12_dig_79 : decode cX12_dig 79 = .ok (.invokestatic 278, 3) := by decide +kernel
theorem dX12_dig_82 : decode cX12_dig 82 = .ok (.ifCond .eq 12, 3) := by decide +kernel
theorem dX12_dig_85 : decode cX12_dig 85 = .ok (.aload_n 0, 1) := by decide +kernel
theorem dX12_dig_86 : decode cX12_dig 86 = .ok (.getfield 285, 3) := by decide +kernel
theorem dX12_dig_89 : decode cX12_dig 89 = .ok (.bipush 100, 2) := by decide +kernel
theorem dX12_dig_91 : decode cX12_dig 91 = .ok (.if_icmp .ne 5, 3) := by decide +kernel
theorem dX12_dig_94 : decode cX12_dig 94 = .ok (.iconst (-1), 1) := by decide +kernel
theorem dX12_dig_95 : decode cX12_dig 95 = .ok (.ireturn, 1) := by decide +kernel
theorem dX12_dig_96 : decode cX12_dig 96 = .ok (.aload_n 0, 1) := by decide +kernel
theorem dX12_dig_97 : decode cX12_dig 97 = .ok (.getfield 25, 3) := by decide +kernel
theorem dX12_dig_100 : decode cX12_dig 100 = .ok (.aload_n 0, 1) := by decide +kernel
theorem dX12_dig_101 : decode cX12_dig 101 = .ok (.getfield 285, 3) := by decide +kernel
theorem dX12_dig_104 : decode cX12_dig 104 = .ok (.iload_n 1, 1) := by decide +kernel
theorem dX12_dig_105 : decode cX12_dig 105 = .ok (.iastore, 1) := by decide +kernel
theorem dX12_dig_106 : decode cX12_dig 106 = .ok (.aload_n 0, 1) := by decide +kernel
theorem dX12_dig_107 : decode cX12_dig 107 = .ok (.getfield 28, 3) := by decide +kernel
theorem dX12_dig_110 : decode cX12_dig 110 = .ok (.aload_n 0, 1) := by decide +kernel
theorem dX12_dig_111 : decode cX12_dig 111 = .ok (.getfield 285, 3) := by decide +kernel
theorem dX12_dig_114 : decode cX12_dig 114 = .ok (.iload_n 2, 1) := by decide +kernel
theorem dX12_dig_115 : decode cX12_dig 115 = .ok (.iastore, 1) := by decide +kernel
theorem dX12_dig_116 : decode cX12_dig 116 = .ok (.aload_n 0, 1) := by decide +kernel
theorem dX12_dig_117 : decode cX12_dig 117 = .ok (.getfield 31, 3) := by decide +kernel
theorem dX12_dig_120 : decode cX12_dig 120 = .ok (.aload_n 0, 1) := by decide +kernel
theorem dX12_dig_121 : decode cX12_dig 121 = .ok (.getfield 285, 3) := by decide +kernel
theorem dX12_dig_124 : decode cX12_dig 124 = .ok (.iload_n 3, 1) := by decide +kernel
theorem dX12_dig_125 : decode cX12_dig 125 = .ok (.iastore, 1) := by decide +kernel
theorem dX12_dig_126 : decode cX12_dig 126 = .ok (.aload_n 0, 1) := by decide +kernel
theorem dX12_dig_127 : decode cX12_dig 127 = .ok (.getfield 34, 3) := by decide +kernel
theorem dX12_dig_130 : decode cX12_dig 130 = .ok (.aload_n 0, 1) := by decide +kernel
theorem dX12_dig_131 : decode cX12_dig 131 = .ok (.getfield 285, 3) := by decide +kernel
theorem dX12_dig_134 : decode cX12_dig 134 = .ok (.iload 4, 2) := by decide +kernel
theorem dX12_dig_136 : decode cX12_dig 136 = .ok (.iastore, 1) := by decide +kernel
theorem dX12_dig_137 : decode cX12_dig 137 = .ok (.aload_n 0, 1) := by decide +kernel
theorem dX12_dig_138 : decode cX12_dig 138 = .ok (.getfield 37, 3) := by decide +kernel
theorem dX12_dig_141 : decode cX12_dig 141 = .ok (.aload_n 0, 1) := by decide +kernel
theorem dX12_dig_142 : decode cX12_dig 142 = .ok (.getfield 285, 3) := by decide +kernel
theorem dX12_dig_145 : decode cX12_dig 145 = .ok (.iload 5, 2) := by decide +kernel
theorem dX12_dig_147 : decode cX12_dig 147 = .ok (.iastore, 1) := by decide +kernel
theorem dX12_dig_148 : decode cX12_dig 148 = .ok (.aload_n 0, 1) := by decide +kernel
theorem dX12_dig_149 : decode cX12_dig 149 = .ok (.getfield 40, 3) := by decide +kernel
theorem dX12_dig_152 : decode cX12_dig 152 = .ok (.aload_n 0, 1) := by decide +kernel
theorem dX12_dig_153 : decode cX12_dig 153 = .ok (.getfield 285, 3) := by decide +kernel
theorem dX12_dig_156 : decode cX12_dig 156 = .ok (.iload 6, 2) := by decide +kernel
theorem dX12_dig_158 : decode cX12_dig 158 = .ok (.iastore, 1) := by decide +kernel
theorem dX12_dig_159 : decode cX12_dig 159 = .ok (.aload_n 0, 1) := by decide +kernel
theorem dX12_dig_160 : decode cX12_dig 160 = .ok (.getfield 43, 3) := by decide +kernel
theorem dX12_dig_163 : decode cX12_dig 163 = .ok (.aload_n 0, 1) := by decide +kernel
theorem dX12_dig_164 : decode cX12_dig 164 = .ok (.getfield 285, 3) := by decide +kernel
theorem dX12_dig_167 : decode cX12_dig 167 = .ok (.iload 7, 2) := by decide +kernel
theorem dX12_dig_169 : decode cX12_dig 169 = .ok (.iastore, 1) := by decide +kernel
theorem dX12_dig_170 : decode cX12_dig 170 = .ok (.aload_n 0, 1) := by decide +kernel
theorem dX12_dig_171 : decode cX12_dig 171 = .ok (.getfield 46, 3) := by decide +kernel
theorem dX12_dig_174 : decode cX12_dig 174 = .ok (.aload_n 0, 1) := by decide +kernel
theorem dX12_dig_175 : decode cX12_dig 175 = .ok (.getfield 285, 3) := by decide +kernel
theorem dX12_dig_178 : decode cX12_dig 178 = .ok (.iload 8, 2) := by decide +kernel
theorem dX12_dig_180 : decode cX12_dig 180 = .ok (.iastore, 1) := by decide +kernel
theorem dX12_dig_181 : decode cX12_dig 181 = .ok (.aload_n 0, 1) := by decide +kernel
theorem dX12_dig_182 : decode cX12_dig 182 = .ok (.getfield 49, 3) := by decide +kernel
theorem dX12_dig_185 : decode cX12_dig 185 = .ok (.aload_n 0, 1) := by decide +kernel
theorem dX12_dig_186 : decode cX12_dig 186 = .ok (.getfield 285, 3) := by decide +kernel
theorem dX12_dig_189 : decode cX12_dig 189 = .ok (.aload_n 0, 1) := by decide +kernel
theorem dX12_dig_190 : decode cX12_dig 190 = .ok (.getfield 291, 3) := by decide +kernel
theorem dX12_dig_193 : decode cX12_dig 193 = .ok (.iastore, 1) := by decide +kernel
theorem dX12_dig_194 : decode cX12_dig 194 = .ok (.aload_n 0, 1) := by decide +kernel
theorem dX12_dig_195 : decode cX12_dig 195 = .ok (.getfield 52, 3) := by decide +kernel
theorem dX12_dig_198 : decode cX12_dig 198 = .ok (.aload_n 0, 1) := by decide +kernel
theorem dX12_dig_199 : decode cX12_dig 199 = .ok (.getfield 285, 3) := by decide +kernel
theorem dX12_dig_202 : decode cX12_dig 202 = .ok (.iconst (-1), 1) := by decide +kernel
theorem dX12_dig_203 : decode cX12_dig 203 = .ok (.iastore, 1) := by decide +kernel
theorem dX12_dig_204 : decode cX12_dig 204 = .ok (.aload_n 0, 1) := by decide +kernel
theorem dX12_dig_205 : decode cX12_dig 205 = .ok (.aload_n 0, 1) := by decide +kernel
theorem dX12_dig_206 : decode cX12_dig 206 = .ok (.getfield 285, 3) := by decide +kernel
theorem dX12_dig_209 : decode cX12_dig 209 = .ok (.iconst 1, 1) := by decide +kernel
theorem dX12_dig_210 : decode cX12_dig 210 = .ok (.iadd, 1) := by decide +kernel
theorem dX12_dig_211 : decode cX12_dig 211 = .ok (.putfield 285, 3) := by decide +kernel
theorem dX12_dig_214 : decode cX12_dig 214 = .ok (.aload_n 0, 1) := by decide +kernel
theorem dX12_dig_215 : decode cX12_dig 215 = .ok (.getfield 285, 3) := by decide +kernel
theorem dX12_dig_218 : decode cX12_dig 218 = .ok (.iconst 1, 1) := by decide +kernel
theorem dX12_dig_219 : decode cX12_dig 219 = .ok (.isub, 1) := by decide +kernel
theorem dX12_dig_220 : decode cX12_dig 220 = .ok (.ireturn, 1) := by decide +kernel
theorem dX12_isDig_0 : decode cX12_isDig 0 = .ok (.iload_n 1, 1) := by decide +kernel
theorem dX12_isDig_1 : decode cX12_isDig 1 = .ok (.ifCond .lt 15, 3) := by decide +kernel
theorem dX12_isDig_4 : decode cX12_isDig 4 = .ok (.iload_n 1, 1) := by decide +kernel
theorem dX12_isDig_5 : decode cX12_isDig 5 = .ok (.aload_n 0, 1) := by decide +kernel
theorem dX12_isDig_6 : decode cX12_isDig 6 = .ok (.getfield 285, 3) := by decide +kernel
theorem dX12_isDig_9 : decode cX12_isDig 9 = .ok (.if_icmp .ge 7, 3) := by decide +kernel
theorem dX12_isDig_12 : decode cX12_isDig 12 = .ok (.iconst 1, 1) := by decide +kernel
theorem dX12_isDig_13 : decode cX12_isDig 13 = .ok (.goto 4, 3) := by decide +kernel
theorem dX12_isDig_16 : decode cX12_isDig 16 = .ok (.iconst 0, 1) := by decide +kernel
theorem dX12_isDig_17 : decode cX12_isDig 17 = .ok (.ireturn, 1) := by decide +kernel
theorem dX12_strike_0 : decode cX12_strike 0 = .ok (.aload_n 0, 1) := by decide +kernel
theorem dX12_strike_1 : decode cX12_strike 1 = .ok (.iload_n 1, 1) := by decide +kernel
theorem dX12_strike_2 : decode cX12_strike 2 = .ok (.invokevirtual 308, 3) := by decide +kernel
theorem dX12_strike_5 : decode cX12_strike 5 = .ok (.ifCond .eq 13, 3) := by decide +kernel
theorem dX12_strike_8 : decode cX12_strike 8 = .ok (.aload_n 0, 1) := by decide +kernel
theorem dX12_strike_9 : decode cX12_strike 9 = .ok (.getfield 52, 3) := by decide +kernel
theorem dX12_strike_12 : decode cX12_strike 12 = .ok (.iload_n 1, 1) := by decide +kernel
theorem dX12_strike_13 : decode cX12_strike 13 = .ok (.iaload, 1) := by decide +kernel
theorem dX12_strike_14 : decode cX12_strike 14 = .ok (.iconst (-1), 1) := by decide +kernel
theorem dX12_strike_15 : decode cX12_strike 15 = .ok (.if_icmp .eq 5, 3) := by decide +kernel
theorem dX12_strike_18 : decode cX12_strike 18 = .ok (.iconst 0, 1) := by decide +kernel
theorem dX12_strike_19 : decode cX12_strike 19 = .ok (.ireturn, 1) := by decide +kernel
theorem dX12_strike_20 : decode cX12_strike 20 = .ok (.aload_n 0, 1) := by decide +kernel
theorem dX12_strike_21 : decode cX12_strike 21 = .ok (.getfield 52, 3) := by decide +kernel
theorem dX12_strike_24 : decode cX12_strike 24 = .ok (.iload_n 1, 1) := by decide +kernel
theorem dX12_strike_25 : decode cX12_strike 25 = .ok (.aload_n 0, 1) := by decide +kernel
theorem dX12_strike_26 : decode cX12_strike 26 = .ok (.getfield 291, 3) := by decide +kernel
theorem dX12_strike_29 : decode cX12_strike 29 = .ok (.iastore, 1) := by decide +kernel
theorem dX12_strike_30 : decode cX12_strike 30 = .ok (.iconst 1, 1) := by decide +kernel
theorem dX12_strike_31 : decode cX12_strike 31 = .ok (.ireturn, 1) := by decide +kernel
theorem dX12_isKnown_0 : decode cX12_isKnown 0 = .ok (.aload_n 0, 1) := by decide +kernel
theorem dX12_isKnown_1 : decode cX12_isKnown 1 = .ok (.getfield 49, 3) := by decide +kernel
theorem dX12_isKnown_4 : decode cX12_isKnown 4 = .ok (.iload_n 1, 1) := by decide +kernel
theorem dX12_isKnown_5 : decode cX12_isKnown 5 = .ok (.iaload, 1) := by decide +kernel
theorem dX12_isKnown_6 : decode cX12_isKnown 6 = .ok (.iload_n 2, 1) := by decide +kernel
theorem dX12_isKnown_7 : decode cX12_isKnown 7 = .ok (.if_icmp .gt 27, 3) := by decide +kernel
theorem dX12_isKnown_10 : decode cX12_isKnown 10 = .ok (.aload_n 0, 1) := by decide +kernel
theorem dX12_isKnown_11 : decode cX12_isKnown 11 = .ok (.getfield 52, 3) := by decide +kernel
theorem dX12_isKnown_14 : decode cX12_isKnown 14 = .ok (.iload_n 1, 1) := by decide +kernel
theorem dX12_isKnown_15 : decode cX12_isKnown 15 = .ok (.iaload, 1) := by decide +kernel
theorem dX12_isKnown_16 : decode cX12_isKnown 16 = .ok (.iconst (-1), 1) := by decide +kernel
theorem dX12_isKnown_17 : decode cX12_isKnown 17 = .ok (.if_icmp .eq 13, 3) := by decide +kernel
theorem dX12_isKnown_20 : decode cX12_isKnown 20 = .ok (.aload_n 0, 1) := by decide +kernel
theorem dX12_isKnown_21 : decode cX12_isKnown 21 = .ok (.getfield 52, 3) := by decide +kernel
theorem dX12_isKnown_24 : decode cX12_isKnown 24 = .ok (.iload_n 1, 1) := by decide +kernel
theorem dX12_isKnown_25 : decode cX12_isKnown 25 = .ok (.iaload, 1) := by decide +kernel
theorem dX12_isKnown_26 : decode cX12_isKnown 26 = .ok (.iload_n 2, 1) := by decide +kernel
theorem dX12_isKnown_27 : decode cX12_isKnown 27 = .ok (.if_icmp .le 7, 3) := by decide +kernel
theorem dX12_isKnown_30 : decode cX12_isKnown 30 = .ok (.iconst 1, 1) := by decide +kernel
theorem dX12_isKnown_31 : decode cX12_isKnown 31 = .ok (.goto 4, 3) := by decide +kernel
theorem dX12_isKnown_34 : decode cX12_isKnown 34 = .ok (.iconst 0, 1) := by decide +kernel
theorem dX12_isKnown_35 : decode cX12_isKnown 35 = .ok (.ireturn, 1) := by decide +kernel
theorem dX12_has_0 : decode cX12_has 0 = .ok (.aload_n 0, 1) := by decide +kernel
theorem dX12_has_1 : decode cX12_has 1 = .ok (.iload_n 2, 1) := by decide +kernel
theorem dX12_has_2 : decode cX12_has 2 = .ok (.aload_n 0, 1) := by decide +kernel
theorem dX12_has_3 : decode cX12_has 3 = .ok (.getfield 31, 3) := by decide +kernel
theorem dX12_has_6 : decode cX12_has 6 = .ok (.iload_n 1, 1) := by decide +kernel
theorem dX12_has_7 : decode cX12_has 7 = .ok (.iaload, 1) := by decide +kernel
theorem dX12_has_8 : decode cX12_has 8 = .ok (.aload_n 0, 1) := by decide +kernel
theorem dX12_has_9 : decode cX12_has 9 = .ok (.getfield 34, 3) := by decide +kernel
theorem dX12_has_12 : decode cX12_has 12 = .ok (.iload_n 1, 1) := by decide +kernel
theorem dX12_has_13 : decode cX12_has 13 = .ok (.iaload, 1) := by decide +kernel
theorem dX12_has_14 : decode cX12_has 14 = .ok (.invokevirtual 302, 3) := by decide +kernel
theorem dX12_has_17 : decode cX12_has 17 = .ok (.ifCond .eq 26, 3) := by decide +kernel
theorem dX12_has_20 : decode cX12_has 20 = .ok (.iload_n 3, 1) := by decide +kernel
theorem dX12_has_21 : decode cX12_has 21 = .ok (.aload_n 0, 1) := by decide +kernel
theorem dX12_has_22 : decode cX12_has 22 = .ok (.getfield 37, 3) := by decide +kernel
theorem dX12_has_25 : decode cX12_has 25 = .ok (.iload_n 1, 1) := by decide +kernel
theorem dX12_has_26 : decode cX12_has 26 = .ok (.iaload, 1) := by decide +kernel
theorem dX12_has_27 : decode cX12_has 27 = .ok (.aload_n 0, 1) := by decide +kernel
theorem dX12_has_28 : decode cX12_has 28 = .ok (.getfield 40, 3) := by decide +kernel
theorem dX12_has_31 : decode cX12_has 31 = .ok (.iload_n 1, 1) := by decide +kernel
theorem dX12_has_32 : decode cX12_has 32 = .ok (.iaload, 1) := by decide +kernel
theorem dX12_has_33 : decode cX12_has 33 = .ok (.invokestatic 278, 3) := by decide +kernel
theorem dX12_has_36 : decode cX12_has 36 = .ok (.ifCond .eq 7, 3) := by decide +kernel
theorem dX12_has_39 : decode cX12_has 39 = .ok (.iconst 1, 1) := by decide +kernel
theorem dX12_has_40 : decode cX12_has 40 = .ok (.goto 4, 3) := by decide +kernel
theorem dX12_has_43 : decode cX12_has 43 = .ok (.iconst 0, 1) := by decide +kernel
theorem dX12_has_44 : decode cX12_has 44 = .ok (.ireturn, 1) := by decide +kernel
theorem dX12_groundOf_0 : decode cX12_groundOf 0 = .ok (.iconst 0, 1) := by decide +kernel
theorem dX12_groundOf_1 : decode cX12_groundOf 1 = .ok (.istore 5, 2) := by decide +kernel
theorem dX12_groundOf_3 : decode cX12_groundOf 3 = .ok (.aload_n 0, 1) := by decide +kernel
theorem dX12_groundOf_4 : decode cX12_groundOf 4 = .ok (.iconst (-1), 1) := by decide +kernel
theorem dX12_groundOf_5 : decode cX12_groundOf 5 = .ok (.putfield 311, 3) := by decide +kernel
theorem dX12_groundOf_8 : decode cX12_groundOf 8 = .ok (.iconst (-1), 1) := by decide +kernel
theorem dX12_groundOf_9 : decode cX12_groundOf 9 = .ok (.istore 6, 2) := by decide +kernel
theorem dX12_groundOf_11 : decode cX12_groundOf 11 = .ok (.iconst (-1), 1) := by decide +kernel
theorem dX12_groundOf_12 : decode cX12_groundOf 12 = .ok (.istore 7, 2) := by decide +kernel
theorem dX12_groundOf_14 : decode cX12_groundOf 14 = .ok (.iconst 1, 1) := by decide +kernel
theorem dX12_groundOf_15 : decode cX12_groundOf 15 = .ok (.istore 8, 2) := by decide +kernel
theorem dX12_groundOf_17 : decode cX12_groundOf 17 = .ok (.iload 8, 2) := by decide +kernel
theorem dX12_groundOf_19 : decode cX12_groundOf 19 = .ok (.ifCond .eq 246, 3) := by decide +kernel
theorem dX12_groundOf_22 : decode cX12_groundOf 22 = .ok (.iconst (-1), 1) := by decide +kernel
theorem dX12_groundOf_23 : decode cX12_groundOf 23 = .ok (.istore 9, 2) := by decide +kernel
theorem dX12_groundOf_25 : decode cX12_groundOf 25 = .ok (.iconst 0, 1) := by decide +kernel
theorem dX12_groundOf_26 : decode cX12_groundOf 26 = .ok (.istore 10, 2) := by decide +kernel
theorem dX12_groundOf_28 : decode cX12_groundOf 28 = .ok (.iload 10, 2) := by decide +kernel
theorem dX12_groundOf_30 : decode cX12_groundOf 30 = .ok (.aload_n 0, 1) := by decide +kernel
theorem dX12_groundOf_31 : decode cX12_groundOf 31 = .ok (.getfield 285, 3) := by decide +kernel
theorem dX12_groundOf_34 : decode cX12_groundOf 34 = .ok (.if_icmp .ge 115, 3) := by decide +kernel
theorem dX12_groundOf_37 : decode cX12_groundOf 37 = .ok (.aload_n 0, 1) := by decide +kernel
theorem dX12_groundOf_38 : decode cX12_groundOf 38 = .ok (.iload 10, 2) := by decide +kernel
theorem dX12_groundOf_40 : decode cX12_groundOf 40 = .ok (.iload 4, 2) := by decide +kernel
theorem dX12_groundOf_42 : decode cX12_groundOf 42 = .ok (.invokevirtual 314, 3) := by decide +kernel
theorem dX12_groundOf_45 : decode cX12_groundOf 45 = .ok (.ifCond .eq 98, 3) := by decide +kernel
theorem dX12_groundOf_48 : decode cX12_groundOf 48 = .ok (.aload_n 0, 1) := by decide +kernel
theorem dX12_groundOf_49 : decode cX12_groundOf 49 = .ok (.iload 10, 2) := by decide +kernel
theorem dX12_groundOf_51 : decode cX12_groundOf 51 = .ok (.iload_n 1, 1) := by decide +kernel
theorem dX12_groundOf_52 : decode cX12_groundOf 52 = .ok (.iload_n 2, 1) := by decide +kernel
theorem dX12_groundOf_53 : decode cX12_groundOf 53 = .ok (.invokevirtual 317, 3) := by decide +kernel
theorem dX12_groundOf_56 : decode cX12_groundOf 56 = .ok (.ifCond .eq 87, 3) := by decide +kernel
theorem dX12_groundOf_59 : decode cX12_groundOf 59 = .ok (.aload_n 0, 1) := by decide +kernel
theorem dX12_groundOf_60 : decode cX12_groundOf 60 = .ok (.getfield 43, 3) := by decide +kernel
theorem dX12_groundOf_63 : decode cX12_groundOf 63 = .ok (.iload 10, 2) := by decide +kernel
theorem dX12_groundOf_65 : decode cX12_groundOf 65 = .ok (.iaload, 1) := by decide +kernel
theorem dX12_groundOf_66 : decode cX12_groundOf 66 = .ok (.iload_n 3, 1) := by decide +kernel
theorem dX12_groundOf_67 : decode cX12_groundOf 67 = .ok (.if_icmp .le 6, 3) := by decide +kernel
theorem dX12_groundOf_70 : decode cX12_groundOf 70 = .ok (.goto 73, 3) := by decide +kernel
theorem dX12_groundOf_73 : decode cX12_groundOf 73 = .ok (.aload_n 0, 1) := by decide +kernel
theorem dX12_groundOf_74 : decode cX12_groundOf 74 = .ok (.getfield 43, 3) := by decide +kernel
theorem dX12_groundOf_77 : decode cX12_groundOf 77 = .ok (.iload 10, 2) := by decide +kernel
theorem dX12_groundOf_79 : decode cX12_groundOf 79 = .ok (.iaload, 1) := by decide +kernel
theorem dX12_groundOf_80 : decode cX12_groundOf 80 = .ok (.iload 6, 2) := by decide +kernel
theorem dX12_groundOf_82 : decode cX12_groundOf 82 = .ok (.if_icmp .gt 22, 3) := by decide +kernel
theorem dX12_groundOf_85 : decode cX12_groundOf 85 = .ok (.aload_n 0, 1) := by decide +kernel
theorem dX12_groundOf_86 : decode cX12_groundOf 86 = .ok (.getfield 43, 3) := by decide +kernel
theorem dX12_groundOf_89 : decode cX12_groundOf 89 = .ok (.iload 10, 2) := by decide +kernel
theorem dX12_groundOf_91 : decode cX12_groundOf 91 = .ok (.iaload, 1) := by decide +kernel
theorem dX12_groundOf_92 : decode cX12_groundOf 92 = .ok (.iload 6, 2) := by decide +kernel
theorem dX12_groundOf_94 : decode cX12_groundOf 94 = .ok (.if_icmp .ne 14, 3) := by decide +kernel
theorem dX12_groundOf_97 : decode cX12_groundOf 97 = .ok (.iload 10, 2) := by decide +kernel
theorem dX12_groundOf_99 : decode cX12_groundOf 99 = .ok (.iload 7, 2) := by decide +kernel
theorem dX12_groundOf_101 : decode cX12_groundOf 101 = .ok (.if_icmp .le 7, 3) := by decide +kernel
theorem dX12_groundOf_104 : decode cX12_groundOf 104 = .ok (.iconst 1, 1) := by decide +kernel
theorem dX12_groundOf_105 : decode cX12_groundOf 105 = .ok (.goto 4, 3) := by decide +kernel
theorem dX12_groundOf_108 : decode cX12_groundOf 108 = .ok (.iconst 0, 1) := by decide +kernel
theorem dX12_groundOf_109 : decode cX12_groundOf 109 = .ok (.istore 11, 2) := by decide +kernel
theorem dX12_groundOf_111 : decode cX12_groundOf 111 = .ok (.iload 11, 2) := by decide +kernel
theorem dX12_groundOf_113 : decode cX12_groundOf 113 = .ok (.ifCond .eq 30, 3) := by decide +kernel
theorem dX12_groundOf_116 : decode cX12_groundOf 116 = .ok (.iload 9, 2) := by decide +kernel
theorem dX12_groundOf_118 : decode cX12_groundOf 118 = .ok (.iconst (-1), 1) := by decide +kernel
theorem dX12_groundOf_119 : decode cX12_groundOf 119 = .ok (.if_icmp .eq 20, 3) := by decide +kernel
theorem dX12_groundOf_122 : decode cX12_groundOf 122 = .ok (.aload_n 0, 1) := by decide +kernel
theorem dX12_groundOf_123 : decode cX12_groundOf 123 = .ok (.getfield 43, 3) := by decide +kernel
theorem dX12_groundOf_126 : decode cX12_groundOf 126 = .ok (.iload 10, 2) := by decide +kernel
theorem dX12_groundOf_128 : decode cX12_groundOf 128 = .ok (.iaload, 1) := by decide +kernel
theorem dX12_groundOf_129 : decode cX12_groundOf 129 = .ok (.aload_n 0, 1) := by decide +kernel
theorem dX12_groundOf_130 : decode cX12_groundOf 130 = .ok (.getfield 43, 3) := by decide +kernel
theorem dX12_groundOf_133 : decode cX12_groundOf 133 = .ok (.iload 9, 2) := by decide +kernel
theorem dX12_groundOf_135 : decode cX12_groundOf 135 = .ok (.iaload, 1) := by decide +kernel
theorem dX12_groundOf_136 : decode cX12_groundOf 136 = .ok (.if_icmp .ge 7, 3) := by decide +kernel
theorem dX12_groundOf_139 : decode cX12_groundOf 139 = .ok (.iload 10, 2) := by decide +kernel
theorem dX12_groundOf_141 : decode cX12_groundOf 141 = .ok (.istore 9, 2) := by decide +kernel
theorem dX12_groundOf_143 : decode cX12_groundOf 143 = .ok (.iinc 10 1, 3) := by decide +kernel
theorem dX12_groundOf_146 : decode cX12_groundOf 146 = .ok (.goto (-118), 3) := by decide +kernel
theorem dX12_groundOf_149 : decode cX12_groundOf 149 = .ok (.iload 9, 2) := by decide +kernel
theorem dX12_groundOf_151 : decode cX12_groundOf 151 = .ok (.iconst (-1), 1) := by decide +kernel
theorem dX12_groundOf_152 : decode cX12_groundOf 152 = .ok (.if_icmp .eq 7, 3) := by decide +kernel
theorem dX12_groundOf_155 : decode cX12_groundOf 155 = .ok (.iconst 1, 1) := by decide +kernel
theorem dX12_groundOf_156 : decode cX12_groundOf 156 = .ok (.goto 4, 3) := by decide +kernel
theorem dX12_groundOf_159 : decode cX12_groundOf 159 = .ok (.iconst 0, 1) := by decide +kernel
theorem dX12_groundOf_160 : decode cX12_groundOf 160 = .ok (.istore 8, 2) := by decide +kernel
theorem dX12_groundOf_162 : decode cX12_groundOf 162 = .ok (.iload 8, 2) := by decide +kernel
theorem dX12_groundOf_164 : decode cX12_groundOf 164 = .ok (.ifCond .ne 6, 3) := by decide +kernel
theorem dX12_groundOf_167 : decode cX12_groundOf 167 = .ok (.goto (-150), 3) := by decide +kernel
theorem dX12_groundOf_170 : decode cX12_groundOf 170 = .ok (.iload 9, 2) := by decide +kernel
theorem dX12_groundOf_172 : decode cX12_groundOf 172 = .ok (.istore 7, 2) := by decide +kernel
theorem dX12_groundOf_174 : decode cX12_groundOf 174 = .ok (.aload_n 0, 1) := by decide +kernel
theorem dX12_groundOf_175 : decode cX12_groundOf 175 = .ok (.getfield 43, 3) := by decide +kernel
theorem dX12_groundOf_178 : decode cX12_groundOf 178 = .ok (.iload 9, 2) := by decide +kernel
theorem dX12_groundOf_180 : decode cX12_groundOf 180 = .ok (.iaload, 1) := by decide +kernel
theorem dX12_groundOf_181 : decode cX12_groundOf 181 = .ok (.istore 6, 2) := by decide +kernel
theorem dX12_groundOf_183 : decode cX12_groundOf 183 = .ok (.aload_n 0, 1) := by decide +kernel
theorem dX12_groundOf_184 : decode cX12_groundOf 184 = .ok (.getfield 28, 3) := by decide +kernel
theorem dX12_groundOf_187 : decode cX12_groundOf 187 = .ok (.iload 9, 2) := by decide +kernel
theorem dX12_groundOf_189 : decode cX12_groundOf 189 = .ok (.iaload, 1) := by decide +kernel
theorem dX12_groundOf_190 : decode cX12_groundOf 190 = .ok (.istore 10, 2) := by decide +kernel
theorem dX12_groundOf_192 : decode cX12_groundOf 192 = .ok (.iload 5, 2) := by decide +kernel
theorem dX12_groundOf_194 : decode cX12_groundOf 194 = .ok (.ifCond .ne 15, 3) := by decide +kernel
theorem dX12_groundOf_197 : decode cX12_groundOf 197 = .ok (.iload 10, 2) := by decide +kernel
theorem dX12_groundOf_199 : decode cX12_groundOf 199 = .ok (.iconst 2, 1) := by decide +kernel
theorem dX12_groundOf_200 : decode cX12_groundOf 200 = .ok (.if_icmp .eq 9, 3) := by decide +kernel
theorem dX12_groundOf_203 : decode cX12_groundOf 203 = .ok (.aload_n 0, 1) := by decide +kernel
theorem dX12_groundOf_204 : decode cX12_groundOf 204 = .ok (.iload 9, 2) := by decide +kernel
theorem dX12_groundOf_206 : decode cX12_groundOf 206 = .ok (.putfield 311, 3) := by decide +kernel
theorem dX12_groundOf_209 : decode cX12_groundOf 209 = .ok (.iload 10, 2) := by decide +kernel
theorem dX12_groundOf_211 : decode cX12_groundOf 211 = .ok (.ifCond .ne 9, 3) := by decide +kernel
theorem dX12_groundOf_214 : decode cX12_groundOf 214 = .ok (.iconst 2, 1) := by decide +kernel
theorem dX12_groundOf_215 : decode cX12_groundOf 215 = .ok (.istore 5, 2) := by decide +kernel
theorem dX12_groundOf_217 : decode cX12_groundOf 217 = .ok (.goto 45, 3) := by decide +kernel
theorem dX12_groundOf_220 : decode cX12_groundOf 220 = .ok (.iload 10, 2) := by decide +kernel
theorem dX12_groundOf_222 : decode cX12_groundOf 222 = .ok (.iconst 1, 1) := by decide +kernel
theorem dX12_groundOf_223 : decode cX12_groundOf 223 = .ok (.if_icmp .ne 19, 3) := by decide +kernel
theorem dX12_groundOf_226 : decode cX12_groundOf 226 = .ok (.iload 5, 2) := by decide +kernel
theorem dX12_groundOf_228 : decode cX12_groundOf 228 = .ok (.ifCond .ne 7, 3) := by decide +kernel
theorem dX12_groundOf_231 : decode cX12_groundOf 231 = .ok (.iconst 1, 1) := by decide +kernel
theorem dX12_groundOf_232 : decode cX12_groundOf 232 = .ok (.goto 5, 3) := by decide +kernel
theorem dX12_groundOf_235 : decode cX12_groundOf 235 = .ok (.iload 5, 2) := by decide +kernel
theorem dX12_groundOf_237 : decode cX12_groundOf 237 = .ok (.istore 5, 2) := by decide +kernel
theorem dX12_groundOf_239 : decode cX12_groundOf 239 = .ok (.goto 23, 3) := by decide +kernel
theorem dX12_groundOf_242 : decode cX12_groundOf 242 = .ok (.iload 5, 2) := by decide +kernel
theorem dX12_groundOf_244 : decode cX12_groundOf 244 = .ok (.iconst 1, 1) := by decide +kernel
theorem dX12_groundOf_245 : decode cX12_groundOf 245 = .ok (.if_icmp .eq 9, 3) := by decide +kernel
theorem dX12_groundOf_248 : decode cX12_groundOf 248 = .ok (.iload 5, 2) := by decide +kernel
theorem dX12_groundOf_250 : decode cX12_groundOf 250 = .ok (.iconst 2, 1) := by decide +kernel
theorem dX12_groundOf_251 : decode cX12_groundOf 251 = .ok (.if_icmp .ne 7, 3) := by decide +kernel
theorem dX12_groundOf_254 : decode cX12_groundOf 254 = .ok (.iconst 3, 1) := by decide +kernel
theorem dX12_groundOf_255 : decode cX12_groundOf 255 = .ok (.goto 5, 3) := by decide +kernel
theorem dX12_groundOf_258 : decode cX12_groundOf 258 = .ok (.iload 5, 2) := by decide +kernel
theorem dX12_groundOf_260 : decode cX12_groundOf 260 = .ok (.istore 5, 2) := by decide +kernel
theorem dX12_groundOf_262 : decode cX12_groundOf 262 = .ok (.goto (-245), 3) := by decide +kernel
theorem dX12_groundOf_265 : decode cX12_groundOf 265 = .ok (.iload 5, 2) := by decide +kernel
theorem dX12_groundOf_267 : decode cX12_groundOf 267 = .ok (.ireturn, 1) := by decide +kernel
theorem dX12_isGround_0 : decode cX12_isGround 0 = .ok (.aload_n 0, 1) := by decide +kernel
theorem dX12_isGround_1 : decode cX12_isGround 1 = .ok (.iload_n 1, 1) := by decide +kernel
theorem dX12_isGround_2 : decode cX12_isGround 2 = .ok (.invokevirtual 294, 3) := by decide +kernel
theorem dX12_isGround_5 : decode cX12_isGround 5 = .ok (.ifCond .eq 29, 3) := by decide +kernel
theorem dX12_isGround_8 : decode cX12_isGround 8 = .ok (.iload_n 2, 1) := by decide +kernel
theorem dX12_isGround_9 : decode cX12_isGround 9 = .ok (.invokestatic 305, 3) := by decide +kernel
theorem dX12_isGround_12 : decode cX12_isGround 12 = .ok (.ifCond .eq 22, 3) := by decide +kernel
theorem dX12_isGround_15 : decode cX12_isGround 15 = .ok (.iload_n 3, 1) := by decide +kernel
theorem dX12_isGround_16 : decode cX12_isGround 16 = .ok (.invokestatic 320, 3) := by decide +kernel
theorem dX12_isGround_19 : decode cX12_isGround 19 = .ok (.ifCond .eq 15, 3) := by decide +kernel
theorem dX12_isGround_22 : decode cX12_isGround 22 = .ok (.iload 4, 2) := by decide +kernel
theorem dX12_isGround_24 : decode cX12_isGround 24 = .ok (.invokestatic 320, 3) := by decide +kernel
theorem dX12_isGround_27 : decode cX12_isGround 27 = .ok (.ifCond .eq 7, 3) := by decide +kernel
theorem dX12_isGround_30 : decode cX12_isGround 30 = .ok (.iconst 1, 1) := by decide +kernel
theorem dX12_isGround_31 : decode cX12_isGround 31 = .ok (.goto 4, 3) := by decide +kernel
theorem dX12_isGround_34 : decode cX12_isGround 34 = .ok (.iconst 0, 1) := by decide +kernel
theorem dX12_isGround_35 : decode cX12_isGround 35 = .ok (.ireturn, 1) := by decide +kernel
theorem dX12_ground_0 : decode cX12_ground 0 = .ok (.aload_n 0, 1) := by decide +kernel
theorem dX12_ground_1 : decode cX12_ground 1 = .ok (.iload_n 1, 1) := by decide +kernel
theorem dX12_ground_2 : decode cX12_ground 2 = .ok (.iload_n 2, 1) := by decide +kernel
theorem dX12_ground_3 : decode cX12_ground 3 = .ok (.iload_n 3, 1) := by decide +kernel
theorem dX12_ground_4 : decode cX12_ground 4 = .ok (.iload 4, 2) := by decide +kernel
theorem dX12_ground_6 : decode cX12_ground 6 = .ok (.invokevirtual 323, 3) := by decide +kernel
theorem dX12_ground_9 : decode cX12_ground 9 = .ok (.ifCond .eq 15, 3) := by decide +kernel
theorem dX12_ground_12 : decode cX12_ground 12 = .ok (.aload_n 0, 1) := by decide +kernel
theorem dX12_ground_13 : decode cX12_ground 13 = .ok (.iload_n 1, 1) := by decide +kernel
theorem dX12_ground_14 : decode cX12_ground 14 = .ok (.iload_n 2, 1) := by decide +kernel
theorem dX12_ground_15 : decode cX12_ground 15 = .ok (.iload_n 3, 1) := by decide +kernel
theorem dX12_ground_16 : decode cX12_ground 16 = .ok (.iload 4, 2) := by decide +kernel
theorem dX12_ground_18 : decode cX12_ground 18 = .ok (.invokevirtual 327, 3) := by decide +kernel
theorem dX12_ground_21 : decode cX12_ground 21 = .ok (.goto 4, 3) := by decide +kernel
theorem dX12_ground_24 : decode cX12_ground 24 = .ok (.iconst (-1), 1) := by decide +kernel
theorem dX12_ground_25 : decode cX12_ground 25 = .ok (.ireturn, 1) := by decide +kernel
theorem dX12_first_0 : decode cX12_first 0 = .ok (.aload_n 0, 1) := by decide +kernel
theorem dX12_first_1 : decode cX12_first 1 = .ok (.iload_n 1, 1) := by decide +kernel
theorem dX12_first_2 : decode cX12_first 2 = .ok (.iload_n 2, 1) := by decide +kernel
theorem dX12_first_3 : decode cX12_first 3 = .ok (.iload_n 3, 1) := by decide +kernel
theorem dX12_first_4 : decode cX12_first 4 = .ok (.iload 4, 2) := by decide +kernel
theorem dX12_first_6 : decode cX12_first 6 = .ok (.invokevirtual 323, 3) := by decide +kernel
theorem dX12_first_9 : decode cX12_first 9 = .ok (.ifCond .eq 22, 3) := by decide +kernel
theorem dX12_first_12 : decode cX12_first 12 = .ok (.aload_n 0, 1) := by decide +kernel
theorem dX12_first_13 : decode cX12_first 13 = .ok (.iload_n 1, 1) := by decide +kernel
theorem dX12_first_14 : decode cX12_first 14 = .ok (.iload_n 2, 1) := by decide +kernel
theorem dX12_first_15 : decode cX12_first 15 = .ok (.iload_n 3, 1) := by decide +kernel
theorem dX12_first_16 : decode cX12_first 16 = .ok (.iload 4, 2) := by decide +kernel
theorem dX12_first_18 : decode cX12_first 18 = .ok (.invokevirtual 327, 3) := by decide +kernel
theorem dX12_first_21 : decode cX12_first 21 = .ok (.ifCond .eq 10, 3) := by decide +kernel
theorem dX12_first_24 : decode cX12_first 24 = .ok (.aload_n 0, 1) := by decide +kernel
theorem dX12_first_25 : decode cX12_first 25 = .ok (.getfield 311, 3) := by decide +kernel
theorem dX12_first_28 : decode cX12_first 28 = .ok (.goto 4, 3) := by decide +kernel
theorem dX12_first_31 : decode cX12_first 31 = .ok (.iconst (-1), 1) := by decide +kernel
theorem dX12_first_32 : decode cX12_first 32 = .ok (.ireturn, 1) := by decide +kernel
theorem dX12_means_0 : decode cX12_means 0 = .ok (.iload_n 1, 1) := by decide +kernel
theorem dX12_means_1 : decode cX12_means 1 = .ok (.iconst 0, 1) := by decide +kernel
theorem dX12_means_2 : decode cX12_means 2 = .ok (.iconst 3, 1) := by decide +kernel
theorem dX12_means_3 : decode cX12_means 3 = .ok (.invokestatic 278, 3) := by decide +kernel
theorem dX12_means_6 : decode cX12_means 6 = .ok (.ifCond .eq 52, 3) := by decide +kernel
theorem dX12_means_9 : decode cX12_means 9 = .ok (.iload_n 2, 1) := by decide +kernel
theorem dX12_means_10 : decode cX12_means 10 = .ok (.iconst 1, 1) := by decide +kernel
theorem dX12_means_11 : decode cX12_means 11 = .ok (.bipush 99, 2) := by decide +kernel
theorem dX12_means_13 : decode cX12_means 13 = .ok (.invokestatic 278, 3) := by decide +kernel
theorem dX12_means_16 : decode cX12_means 16 = .ok (.ifCond .eq 42, 3) := by decide +kernel
theorem dX12_means_19 : decode cX12_means 19 = .ok (.aload_n 0, 1) := by decide +kernel
theorem dX12_means_20 : decode cX12_means 20 = .ok (.iload_n 3, 1) := by decide +kernel
theorem dX12_means_21 : decode cX12_means 21 = .ok (.invokevirtual 331, 3) := by decide +kernel
theorem dX12_means_24 : decode cX12_means 24 = .ok (.ifCond .eq 34, 3) := by decide +kernel
theorem dX12_means_27 : decode cX12_means 27 = .ok (.iload 4, 2) := by decide +kernel
theorem dX12_means_29 : decode cX12_means 29 = .ok (.invokestatic 320, 3) := by decide +kernel
theorem dX12_means_32 : decode cX12_means 32 = .ok (.ifCond .eq 26, 3) := by decide +kernel
theorem dX12_means_35 : decode cX12_means 35 = .ok (.iload 5, 2) := by decide +kernel
theorem dX12_means_37 : decode cX12_means 37 = .ok (.iload 4, 2) := by decide +kernel
theorem dX12_means_39 : decode cX12_means 39 = .ok (.sipush 9999, 3) := by decide +kernel
theorem dX12_means_42 : decode cX12_means 42 = .ok (.invokestatic 278, 3) := by decide +kernel
theorem dX12_means_45 : decode cX12_means 45 = .ok (.ifCond .eq 13, 3) := by decide +kernel
theorem dX12_means_48 : decode cX12_means 48 = .ok (.aload_n 0, 1) := by decide +kernel
theorem dX12_means_49 : decode cX12_means 49 = .ok (.getfield 334, 3) := by decide +kernel
theorem dX12_means_52 : decode cX12_means 52 = .ok (.sipush 200, 3) := by decide +kernel
theorem dX12_means_55 : decode cX12_means 55 = .ok (.if_icmp .ne 5, 3) := by decide +kernel
theorem dX12_means_58 : decode cX12_means 58 = .ok (.iconst 0, 1) := by decide +kernel
theorem dX12_means_59 : decode cX12_means 59 = .ok (.ireturn, 1) := by decide +kernel
theorem dX12_means_60 : decode cX12_means 60 = .ok (.aload_n 0, 1) := by decide +kernel
theorem dX12_means_61 : decode cX12_means 61 = .ok (.getfield 55, 3) := by decide +kernel
theorem dX12_means_64 : decode cX12_means 64 = .ok (.aload_n 0, 1) := by decide +kernel
theorem dX12_means_65 : decode cX12_means 65 = .ok (.getfield 334, 3) := by decide +kernel
theorem dX12_means_68 : decode cX12_means 68 = .ok (.iload_n 1, 1) := by decide +kernel
theorem dX12_means_69 : decode cX12_means 69 = .ok (.iastore, 1) := by decide +kernel
theorem dX12_means_70 : decode cX12_means 70 = .ok (.aload_n 0, 1) := by decide +kernel
theorem dX12_means_71 : decode cX12_means 71 = .ok (.getfield 58, 3) := by decide +kernel
theorem dX12_means_74 : decode cX12_means 74 = .ok (.aload_n 0, 1) := by decide +kernel
theorem dX12_means_75 : decode cX12_means 75 = .ok (.getfield 334, 3) := by decide +kernel
theorem dX12_means_78 : decode cX12_means 78 = .ok (.iload_n 2, 1) := by decide +kernel
theorem dX12_means_79 : decode cX12_means 79 = .ok (.iastore, 1) := by decide +kernel
theorem dX12_means_80 : decode cX12_means 80 = .ok (.aload_n 0, 1) := by decide +kernel
theorem dX12_means_81 : decode cX12_means 81 = .ok (.getfield 61, 3) := by decide +kernel
theorem dX12_means_84 : decode cX12_means 84 = .ok (.aload_n 0, 1) := by decide +kernel
theorem dX12_means_85 : decode cX12_means 85 = .ok (.getfield 334, 3) := by decide +kernel
theorem dX12_means_88 : decode cX12_means 88 = .ok (.iload_n 3, 1) := by decide +kernel
theorem dX12_means_89 : decode cX12_means 89 = .ok (.iastore, 1) := by decide +kernel
theorem dX12_means_90 : decode cX12_means 90 = .ok (.aload_n 0, 1) := by decide +kernel
theorem dX12_means_91 : decode cX12_means 91 = .ok (.getfield 64, 3) := by decide +kernel
theorem dX12_means_94 : decode cX12_means 94 = .ok (.aload_n 0, 1) := by decide +kernel
theorem dX12_means_95 : decode cX12_means 95 = .ok (.getfield 334, 3) := by decide +kernel
theorem dX12_means_98 : decode cX12_means 98 = .ok (.iload 4, 2) := by decide +kernel
theorem dX12_means_100 : decode cX12_means 100 = .ok (.iastore, 1) := by decide +kernel
theorem dX12_means_101 : decode cX12_means 101 = .ok (.aload_n 0, 1) := by decide +kernel
theorem dX12_means_102 : decode cX12_means 102 = .ok (.getfield 67, 3) := by decide +kernel
theorem dX12_means_105 : decode cX12_means 105 = .ok (.aload_n 0, 1) := by decide +kernel
theorem dX12_means_106 : decode cX12_means 106 = .ok (.getfield 334, 3) := by decide +kernel
theorem dX12_means_109 : decode cX12_means 109 = .ok (.iload 5, 2) := by decide +kernel
theorem dX12_means_111 : decode cX12_means 111 = .ok (.iastore, 1) := by decide +kernel
theorem dX12_means_112 : decode cX12_means 112 = .ok (.aload_n 0, 1) := by decide +kernel
theorem dX12_means_113 : decode cX12_means 113 = .ok (.aload_n 0, 1) := by decide +kernel
theorem dX12_means_114 : decode cX12_means 114 = .ok (.getfield 334, 3) := by decide +kernel
theorem dX12_means_117 : decode cX12_means 117 = .ok (.iconst 1, 1) := by decide +kernel
theorem dX12_means_118 : decode cX12_means 118 = .ok (.iadd, 1) := by decide +kernel
theorem dX12_means_119 : decode cX12_means 119 = .ok (.putfield 334, 3) := by decide +kernel
theorem dX12_means_122 : decode cX12_means 122 = .ok (.iconst 1, 1) := by decide +kernel
theorem dX12_means_123 : decode cX12_means 123 = .ok (.ireturn, 1) := by decide +kernel
theorem dX12_meaningOf_0 : decode cX12_meaningOf 0 = .ok (.aload_n 0, 1) := by decide +kernel
theorem dX12_meaningOf_1 : decode cX12_meaningOf 1 = .ok (.getfield 334, 3) := by decide +kernel
theorem dX12_meaningOf_4 : decode cX12_meaningOf 4 = .ok (.iconst 1, 1) := by decide +kernel
theorem dX12_meaningOf_5 : decode cX12_meaningOf 5 = .ok (.isub, 1) := by decide +kernel
theorem dX12_meaningOf_6 : decode cX12_meaningOf 6 = .ok (.istore 4, 2) := by decide +kernel
theorem dX12_meaningOf_8 : decode cX12_meaningOf 8 = .ok (.iload 4, 2) := by decide +kernel
theorem dX12_meaningOf_10 : decode cX12_meaningOf 10 = .ok (.ifCond .lt 60, 3) := by decide +kernel
theorem dX12_meaningOf_13 : decode cX12_meaningOf 13 = .ok (.aload_n 0, 1) := by decide +kernel
theorem dX12_meaningOf_14 : decode cX12_meaningOf 14 = .ok (.getfield 55, 3) := by decide +kernel
theorem dX12_meaningOf_17 : decode cX12_meaningOf 17 = .ok (.iload 4, 2) := by decide +kernel
theorem dX12_meaningOf_19 : decode cX12_meaningOf 19 = .ok (.iaload, 1) := by decide +kernel
theorem dX12_meaningOf_20 : decode cX12_meaningOf 20 = .ok (.iload_n 1, 1) := by decide +kernel
theorem dX12_meaningOf_21 : decode cX12_meaningOf 21 = .ok (.if_icmp .ne 43, 3) := by decide +kernel
theorem dX12_meaningOf_24 : decode cX12_meaningOf 24 = .ok (.aload_n 0, 1) := by decide +kernel
theorem dX12_meaningOf_25 : decode cX12_meaningOf 25 = .ok (.getfield 58, 3) := by decide +kernel
theorem dX12_meaningOf_28 : decode cX12_meaningOf 28 = .ok (.iload 4, 2) := by decide +kernel
theorem dX12_meaningOf_30 : decode cX12_meaningOf 30 = .ok (.iaload, 1) := by decide +kernel
theorem dX12_meaningOf_31 : decode cX12_meaningOf 31 = .ok (.iload_n 2, 1) := by decide +kernel
theorem dX12_meaningOf_32 : decode cX12_meaningOf 32 = .ok (.if_icmp .ne 32, 3) := by decide +kernel
theorem dX12_meaningOf_35 : decode cX12_meaningOf 35 = .ok (.iload_n 3, 1) := by decide +kernel
theorem dX12_meaningOf_36 : decode cX12_meaningOf 36 = .ok (.aload_n 0, 1) := by decide +kernel
theorem dX12_meaningOf_37 : decode cX12_meaningOf 37 = .ok (.getfield 64, 3) := by decide +kernel
theorem dX12_meaningOf_40 : decode cX12_meaningOf 40 = .ok (.iload 4, 2) := by decide +kernel
theorem dX12_meaningOf_42 : decode cX12_meaningOf 42 = .ok (.iaload, 1) := by decide +kernel
theorem dX12_meaningOf_43 : decode cX12_meaningOf 43 = .ok (.aload_n 0, 1) := by decide +kernel
theorem dX12_meaningOf_44 : decode cX12_meaningOf 44 = .ok (.getfield 67, 3) := by decide +kernel
theorem dX12_meaningOf_47 : decode cX12_meaningOf 47 = .ok (.iload 4, 2) := by decide +kernel
theorem dX12_meaningOf_49 : decode cX12_meaningOf 49 = .ok (.iaload, 1) := by decide +kernel
theorem dX12_meaningOf_50 : decode cX12_meaningOf 50 = .ok (.invokestatic 278, 3) := by decide +kernel
theorem dX12_meaningOf_53 : decode cX12_meaningOf 53 = .ok (.ifCond .eq 11, 3) := by decide +kernel
theorem dX12_meaningOf_56 : decode cX12_meaningOf 56 = .ok (.aload_n 0, 1) := by decide +kernel
theorem dX12_meaningOf_57 : decode cX12_meaningOf 57 = .ok (.getfield 61, 3) := by decide +kernel
theorem dX12_meaningOf_60 : decode cX12_meaningOf 60 = .ok (.iload 4, 2) := by decide +kernel
theorem dX12_meaningOf_62 : decode cX12_meaningOf 62 = .ok (.iaload, 1) := by decide +kernel
theorem dX12_meaningOf_63 : decode cX12_meaningOf 63 = .ok (.ireturn, 1) := by decide +kernel
theorem dX12_meaningOf_64 : decode cX12_meaningOf 64 = .ok (.iinc 4 (-1), 3) := by decide +kernel
theorem dX12_meaningOf_67 : decode cX12_meaningOf 67 = .ok (.goto (-59), 3) := by decide +kernel
theorem dX12_meaningOf_70 : decode cX12_meaningOf 70 = .ok (.iconst (-1), 1) := by decide +kernel
theorem dX12_meaningOf_71 : decode cX12_meaningOf 71 = .ok (.ireturn, 1) := by decide +kernel
theorem dX12_meaning_0 : decode cX12_meaning 0 = .ok (.iload_n 1, 1) := by decide +kernel
theorem dX12_meaning_1 : decode cX12_meaning 1 = .ok (.iconst 0, 1) := by decide +kernel
theorem dX12_meaning_2 : decode cX12_meaning 2 = .ok (.iconst 3, 1) := by decide +kernel
theorem dX12_meaning_3 : decode cX12_meaning 3 = .ok (.invokestatic 278, 3) := by decide +kernel
theorem dX12_meaning_6 : decode cX12_meaning 6 = .ok (.ifCond .eq 30, 3) := by decide +kernel
theorem dX12_meaning_9 : decode cX12_meaning 9 = .ok (.iload_n 2, 1) := by decide +kernel
theorem dX12_meaning_10 : decode cX12_meaning 10 = .ok (.iconst 1, 1) := by decide +kernel
theorem dX12_meaning_11 : decode cX12_meaning 11 = .ok (.bipush 99, 2) := by decide +kernel
theorem dX12_meaning_13 : decode cX12_meaning 13 = .ok (.invokestatic 278, 3) := by decide +kernel
theorem dX12_meaning_16 : decode cX12_meaning 16 = .ok (.ifCond .eq 20, 3) := by decide +kernel
theorem dX12_meaning_19 : decode cX12_meaning 19 = .ok (.iload_n 3, 1) := by decide +kernel
theorem dX12_meaning_20 : decode cX12_meaning 20 = .ok (.invokestatic 320, 3) := by decide +kernel
theorem dX12_meaning_23 : decode cX12_meaning 23 = .ok (.ifCond .eq 13, 3) := by decide +kernel
theorem dX12_meaning_26 : decode cX12_meaning 26 = .ok (.aload_n 0, 1) := by decide +kernel
theorem dX12_meaning_27 : decode cX12_meaning 27 = .ok (.iload_n 1, 1) := by decide +kernel
theorem dX12_meaning_28 : decode cX12_meaning 28 = .ok (.iload_n 2, 1) := by decide +kernel
theorem dX12_meaning_29 : decode cX12_meaning 29 = .ok (.iload_n 3, 1) := by decide +kernel
theorem dX12_meaning_30 : decode cX12_meaning 30 = .ok (.invokevirtual 337, 3) := by decide +kernel
theorem dX12_meaning_33 : decode cX12_meaning 33 = .ok (.goto 4, 3) := by decide +kernel
theorem dX12_meaning_36 : decode cX12_meaning 36 = .ok (.iconst (-1), 1) := by decide +kernel
theorem dX12_meaning_37 : decode cX12_meaning 37 = .ok (.ireturn, 1) := by decide +kernel
theorem dX12_types_0 : decode cX12_types 0 = .ok (.iconst 3, 1) := by decide +kernel
theorem dX12_types_1 : decode cX12_types 1 = .ok (.istore_n 2, 1) := by decide +kernel
theorem dX12_types_2 : decode cX12_types 2 = .ok (.iload_n 2, 1) := by decide +kernel
theorem dX12_types_3 : decode cX12_types 3 = .ok (.ifCond .lt 35, 3) := by decide +kernel
theorem dX12_types_6 : decode cX12_types 6 = .ok (.aload_n 0, 1) := by decide +kernel
theorem dX12_types_7 : decode cX12_types 7 = .ok (.getfield 70, 3) := by decide +kernel
theorem dX12_types_10 : decode cX12_types 10 = .ok (.aload_n 0, 1) := by decide +kernel
theorem dX12_types_11 : decode cX12_types 11 = .ok (.getfield 341, 3) := by decide +kernel
theorem dX12_types_14 : decode cX12_types 14 = .ok (.iload_n 1, 1) := by decide +kernel
theorem dX12_types_15 : decode cX12_types 15 = .ok (.bipush 8, 2) := by decide +kernel
theorem dX12_types_17 : decode cX12_types 17 = .ok (.iload_n 2, 1) := by decide +kernel
theorem dX12_types_18 : decode cX12_types 18 = .ok (.imul, 1) := by decide +kernel
theorem dX12_types_19 : decode cX12_types 19 = .ok (.ishr, 1) := by decide +kernel
theorem dX12_types_20 : decode cX12_types 20 = .ok (.i2b, 1) := by decide +kernel
theorem dX12_types_21 : decode cX12_types 21 = .ok (.bastore, 1) := by decide +kernel
theorem dX12_types_22 : decode cX12_types 22 = .ok (.aload_n 0, 1) := by decide +kernel
theorem dX12_types_23 : decode cX12_types 23 = .ok (.aload_n 0, 1) := by decide +kernel
theorem dX12_types_24 : decode cX12_types 24 = .ok (.getfield 341, 3) := by decide +kernel
theorem dX12_types_27 : decode cX12_types 27 = .ok (.iconst 1, 1) := by decide +kernel
theorem dX12_types_28 : decode cX12_types 28 = .ok (.iadd, 1) := by decide +kernel
theorem dX12_types_29 : decode cX12_types 29 = .ok (.putfield 341, 3) := by decide +kernel
theorem dX12_types_32 : decode cX12_types 32 = .ok (.iinc 2 (-1), 3) := by decide +kernel
theorem dX12_types_35 : decode cX12_types 35 = .ok (.goto (-33), 3) := by decide +kernel
theorem dX12_types_38 : decode cX12_types 38 = .ok (.return_, 1) := by decide +kernel
theorem dX12_feed_0 : decode cX12_feed 0 = .ok (.aload_n 0, 1) := by decide +kernel
theorem dX12_feed_1 : decode cX12_feed 1 = .ok (.getfield 341, 3) := by decide +kernel
theorem dX12_feed_4 : decode cX12_feed 4 = .ok (.bipush 20, 2) := by decide +kernel
theorem dX12_feed_6 : decode cX12_feed 6 = .ok (.iadd, 1) := by decide +kernel
theorem dX12_feed_7 : decode cX12_feed 7 = .ok (.sipush 400, 3) := by decide +kernel
theorem dX12_feed_10 : decode cX12_feed 10 = .ok (.if_icmp .le 5, 3) := by decide +kernel
theorem dX12_feed_13 : decode cX12_feed 13 = .ok (.iconst (-1), 1) := by decide +kernel
theorem dX12_feed_14 : decode cX12_feed 14 = .ok (.ireturn, 1) := by decide +kernel
theorem dX12_feed_15 : decode cX12_feed 15 = .ok (.aload_n 0, 1) := by decide +kernel
theorem dX12_feed_16 : decode cX12_feed 16 = .ok (.iload_n 1, 1) := by decide +kernel
theorem dX12_feed_17 : decode cX12_feed 17 = .ok (.invokevirtual 344, 3) := by decide +kernel
theorem dX12_feed_20 : decode cX12_feed 20 = .ok (.aload_n 0, 1) := by decide +kernel
theorem dX12_feed_21 : decode cX12_feed 21 = .ok (.iload_n 2, 1) := by decide +kernel
theorem dX12_feed_22 : decode cX12_feed 22 = .ok (.invokevirtual 344, 3) := by decide +kernel
theorem dX12_feed_25 : decode cX12_feed 25 = .ok (.aload_n 0, 1) := by decide +kernel
theorem dX12_feed_26 : decode cX12_feed 26 = .ok (.iload_n 3, 1) := by decide +kernel
theorem dX12_feed_27 : decode cX12_feed 27 = .ok (.invokevirtual 344, 3) := by decide +kernel
theorem dX12_feed_30 : decode cX12_feed 30 = .ok (.aload_n 0, 1) := by decide +kernel
theorem dX12_feed_31 : decode cX12_feed 31 = .ok (.iload 4, 2) := by decide +kernel
theorem dX12_feed_33 : decode cX12_feed 33 = .ok (.invokevirtual 344, 3) := by decide +kernel
theorem dX12_feed_36 : decode cX12_feed 36 = .ok (.aload_n 0, 1) := by decide +kernel
theorem dX12_feed_37 : decode cX12_feed 37 = .ok (.iload 5, 2) := by decide +kernel
theorem dX12_feed_39 : decode cX12_feed 39 = .ok (.invokevirtual 344, 3) := by decide +kernel
theorem dX12_feed_42 : decode cX12_feed 42 = .ok (.aload_n 0, 1) := by decide +kernel
theorem dX12_feed_43 : decode cX12_feed 43 = .ok (.getfield 341, 3) := by decide +kernel
theorem dX12_feed_46 : decode cX12_feed 46 = .ok (.ireturn, 1) := by decide +kernel
theorem dX12_byteHere_0 : decode cX12_byteHere 0 = .ok (.aload_n 0, 1) := by decide +kernel
theorem dX12_byteHere_1 : decode cX12_byteHere 1 = .ok (.getfield 348, 3) := by decide +kernel
theorem dX12_byteHere_4 : decode cX12_byteHere 4 = .ok (.aload_n 0, 1) := by decide +kernel
theorem dX12_byteHere_5 : decode cX12_byteHere 5 = .ok (.getfield 351, 3) := by decide +kernel
theorem dX12_byteHere_8 : decode cX12_byteHere 8 = .ok (.if_icmp .ge 19, 3) := by decide +kernel
theorem dX12_byteHere_11 : decode cX12_byteHere 11 = .ok (.aload_n 0, 1) := by decide +kernel
theorem dX12_byteHere_12 : decode cX12_byteHere 12 = .ok (.getfield 70, 3) := by decide +kernel
theorem dX12_byteHere_15 : decode cX12_byteHere 15 = .ok (.aload_n 0, 1) := by decide +kernel
theorem dX12_byteHere_16 : decode cX12_byteHere 16 = .ok (.getfield 348, 3) := by decide +kernel
theorem dX12_byteHere_19 : decode cX12_byteHere 19 = .ok (.baload, 1) := by decide +kernel
theorem dX12_byteHere_20 : decode cX12_byteHere 20 = .ok (.sipush 255, 3) := by decide +kernel
theorem dX12_byteHere_23 : decode cX12_byteHere 23 = .ok (.iand, 1) := by decide +kernel
theorem dX12_byteHere_24 : decode cX12_byteHere 24 = .ok (.goto 4, 3) := by decide +kernel
theorem dX12_byteHere_27 : decode cX12_byteHere 27 = .ok (.iconst (-1), 1) := by decide +kernel
theorem dX12_byteHere_28 : decode cX12_byteHere 28 = .ok (.ireturn, 1) := by decide +kernel
theorem dX12_isDigit_0 : decode cX12_isDigit 0 = .ok (.aload_n 0, 1) := by decide +kernel
theorem dX12_isDigit_1 : decode cX12_isDigit 1 = .ok (.invokevirtual 354, 3) := by decide +kernel
theorem dX12_isDigit_4 : decode cX12_isDigit 4 = .ok (.bipush 48, 2) := by decide +kernel
theorem dX12_isDigit_6 : decode cX12_isDigit 6 = .ok (.if_icmp .lt 16, 3) := by decide +kernel
theorem dX12_isDigit_9 : decode cX12_isDigit 9 = .ok (.aload_n 0, 1) := by decide +kernel
theorem dX12_isDigit_10 : decode cX12_isDigit 10 = .ok (.invokevirtual 354, 3) := by decide +kernel
theorem dX12_isDigit_13 : decode cX12_isDigit 13 = .ok (.bipush 57, 2) := by decide +kernel
theorem dX12_isDigit_15 : decode cX12_isDigit 15 = .ok (.if_icmp .gt 7, 3) := by decide +kernel
theorem dX12_isDigit_18 : decode cX12_isDigit 18 = .ok (.iconst 1, 1) := by decide +kernel
theorem dX12_isDigit_19 : decode cX12_isDigit 19 = .ok (.goto 4, 3) := by decide +kernel
theorem dX12_isDigit_22 : decode cX12_isDigit 22 = .ok (.iconst 0, 1) := by decide +kernel
theorem dX12_isDigit_23 : decode cX12_isDigit 23 = .ok (.ireturn, 1) := by decide +kernel
theorem dX12_wrong_0 : decode cX12_wrong 0 = .ok (.aload_n 0, 1) := by decide +kernel
theorem dX12_wrong_1 : decode cX12_wrong 1 = .ok (.sipush (-1000), 3) := by decide +kernel
theorem dX12_wrong_4 : decode cX12_wrong 4 = .ok (.iload_n 1, 1) := by decide +kernel
theorem dX12_wrong_5 : decode cX12_wrong 5 = .ok (.imul, 1) := by decide +kernel
theorem dX12_wrong_6 : decode cX12_wrong 6 = .ok (.iload_n 2, 1) := by decide +kernel
theorem dX12_wrong_7 : decode cX12_wrong 7 = .ok (.isub, 1) := by decide +kernel
theorem dX12_wrong_8 : decode cX12_wrong 8 = .ok (.putfield 358, 3) := by decide +kernel
theorem dX12_wrong_11 : decode cX12_wrong 11 = .ok (.iconst 0, 1) := by decide +kernel
theorem dX12_wrong_12 : decode cX12_wrong 12 = .ok (.ireturn, 1) := by decide +kernel
theorem dX12_takes_0 : decode cX12_takes 0 = .ok (.aload_n 0, 1) := by decide +kernel
theorem dX12_takes_1 : decode cX12_takes 1 = .ok (.invokevirtual 354, 3) := by decide +kernel
theorem dX12_takes_4 : decode cX12_takes 4 = .ok (.iload_n 1, 1) := by decide +kernel
theorem dX12_takes_5 : decode cX12_takes 5 = .ok (.if_icmp .eq 13, 3) := by decide +kernel
theorem dX12_takes_8 : decode cX12_takes 8 = .ok (.aload_n 0, 1) := by decide +kernel
theorem dX12_takes_9 : decode cX12_takes 9 = .ok (.iconst 1, 1) := by decide +kernel
theorem dX12_takes_10 : decode cX12_takes 10 = .ok (.aload_n 0, 1) := by decide +kernel
theorem dX12_takes_11 : decode cX12_takes 11 = .ok (.getfield 348, 3) := by decide +kernel
theorem dX12_takes_14 : decode cX12_takes 14 = .ok (.invokevirtual 361, 3) := by decide +kernel
theorem dX12_takes_17 : decode cX12_takes 17 = .ok (.ireturn, 1) := by decide +kernel
theorem dX12_takes_18 : decode cX12_takes 18 = .ok (.aload_n 0, 1) := by decide +kernel
theorem dX12_takes_19 : decode cX12_takes 19 = .ok (.aload_n 0, 1) := by decide +kernel
theorem dX12_takes_20 : decode cX12_takes 20 = .ok (.getfield 348, 3) := by decide +kernel
theorem dX12_takes_23 : decode cX12_takes 23 = .ok (.iconst 1, 1) := by decide +kernel
theorem dX12_takes_24 : decode cX12_takes 24 = .ok (.iadd, 1) := by decide +kernel
theorem dX12_takes_25 : decode cX12_takes 25 = .ok (.putfield 348, 3) := by decide +kernel
theorem dX12_takes_28 : decode cX12_takes 28 = .ok (.iconst 1, 1) := by decide +kernel
theorem dX12_takes_29 : decode cX12_takes 29 = .ok (.ireturn, 1) := by decide +kernel
theorem dX12_readsNumber_0 : decode cX12_readsNumber 0 = .ok (.aload_n 0, 1) := by decide +kernel
theorem dX12_readsNumber_1 : decode cX12_readsNumber 1 = .ok (.getfield 348, 3) := by decide +kernel
theorem dX12_readsNumber_4 : decode cX12_readsNumber 4 = .ok (.istore_n 2, 1) := by decide +kernel
theorem dX12_readsNumber_5 : decode cX12_readsNumber 5 = .ok (.aload_n 0, 1) := by decide +kernel
theorem dX12_readsNumber_6 : decode cX12_readsNumber 6 = .ok (.iconst 0, 1) := by decide +kernel
theorem dX12_readsNumber_7 : decode cX12_readsNumber 7 = .ok (.putfield 364, 3) := by decide +kernel
theorem dX12_readsNumber_10 : decode cX12_readsNumber 10 = .ok (.aload_n 0, 1) := by decide +kernel
theorem dX12_readsNumber_11 : decode cX12_readsNumber 11 = .ok (.invokevirtual 367, 3) := by decide +kernel
theorem dX12_readsNumber_14 : decode cX12_readsNumber 14 = .ok (.ifCond .ne 13, 3) := by decide +kernel
theorem dX12_readsNumber_17 : decode cX12_readsNumber 17 = .ok (.aload_n 0, 1) := by decide +kernel
theorem dX12_readsNumber_18 : decode cX12_readsNumber 18 = .ok (.iconst 1, 1) := by decide +kernel
theorem dX12_readsNumber_19 : decode cX12_readsNumber 19 = .ok (.aload_n 0, 1) := by decide +kernel
theorem dX12_readsNumber_20 : decode cX12_readsNumber 20 = .ok (.getfield 348, 3) := by decide +kernel
theorem dX12_readsNumber_23 : decode cX12_readsNumber 23 = .ok (.invokevirtual 361, 3) := by decide +kernel
theorem dX12_readsNumber_26 : decode cX12_readsNumber 26 = .ok (.ireturn, 1) := by decide +kernel
theorem dX12_readsNumber_27 : decode cX12_readsNumber 27 = .ok (.aload_n 0, 1) := by decide +kernel
theorem dX12_readsNumber_28 : decode cX12_readsNumber 28 = .ok (.invokevirtual 367, 3) := by decide +kernel
theorem dX12_readsNumber_31 : decode cX12_readsNumber 31 = .ok (.ifCond .eq 55, 3) := by decide +kernel
theorem dX12_readsNumber_34 : decode cX12_readsNumber 34 = .ok (.aload_n 0, 1) := by decide +kernel
theorem dX12_readsNumber_35 : decode cX12_readsNumber 35 = .ok (.getfield 348, 3) := by decide +kernel
theorem dX12_readsNumber_38 : decode cX12_readsNumber 38 = .ok (.iload_n 2, 1) := by decide +kernel
theorem dX12_readsNumber_39 : decode cX12_readsNumber 39 = .ok (.iconst 5, 1) := by decide +kernel
theorem dX12_readsNumber_40 : decode cX12_readsNumber 40 = .ok (.iadd, 1) := by decide +kernel
theorem dX12_readsNumber_41 : decode cX12_readsNumber 41 = .ok (.if_icmp .ne 13, 3) := by decide +kernel
theorem dX12_readsNumber_44 : decode cX12_readsNumber 44 = .ok (.aload_n 0, 1) := by decide +kernel
theorem dX12_readsNumber_45 : decode cX12_readsNumber 45 = .ok (.iconst 2, 1) := by decide +kernel
theorem dX12_readsNumber_46 : decode cX12_readsNumber 46 = .ok (.aload_n 0, 1) := by decide +kernel
theorem dX12_readsNumber_47 : decode cX12_readsNumber 47 = .ok (.getfield 348, 3) := by decide +kernel
theorem dX12_readsNumber_50 : decode cX12_readsNumber 50 = .ok (.invokevirtual 361, 3) := by decide +kernel
theorem dX12_readsNumber_53 : decode cX12_readsNumber 53 = .ok (.ireturn, 1) := by decide +kernel
theorem dX12_readsNumber_54 : decode cX12_readsNumber 54 = .ok (.aload_n 0, 1) := by decide +kernel
theorem dX12_readsNumber_55 : decode cX12_readsNumber 55 = .ok (.bipush 10, 2) := by decide +kernel
theorem dX12_readsNumber_57 : decode cX12_readsNumber 57 = .ok (.aload_n 0, 1) := by decide +kernel
theorem dX12_readsNumber_58 : decode cX12_readsNumber 58 = .ok (.getfield 364, 3) := by decide +kernel
theorem dX12_readsNumber_61 : decode cX12_readsNumber 61 = .ok (.imul, 1) := by decide +kernel
theorem dX12_readsNumber_62 : decode cX12_readsNumber 62 = .ok (.aload_n 0, 1) := by decide +kernel
theorem dX12_readsNumber_63 : decode cX12_readsNumber 63 = .ok (.invokevirtual 354, 3) := by decide +kernel
theorem dX12_readsNumber_66 : decode cX12_readsNumber 66 = .ok (.iadd, 1) := by decide +kernel
theorem dX12_readsNumber_67 : decode cX12_readsNumber 67 = .ok (.bipush 48, 2) := by decide +kernel
theorem dX12_readsNumber_69 : decode cX12_readsNumber 69 = .ok (.isub, 1) := by decide +kernel
theorem dX12_readsNumber_70 : decode cX12_readsNumber 70 = .ok (.putfield 364, 3) := by decide +kernel
theorem dX12_readsNumber_73 : decode cX12_readsNumber 73 = .ok (.aload_n 0, 1) := by decide +kernel
theorem dX12_readsNumber_74 : decode cX12_readsNumber 74 = .ok (.aload_n 0, 1) := by decide +kernel
theorem dX12_readsNumber_75 : decode cX12_readsNumber 75 = .ok (.getfield 348, 3) := by decide +kernel
theorem dX12_readsNumber_78 : decode cX12_readsNumber 78 = .ok (.iconst 1, 1) := by decide +kernel
theorem dX12_readsNumber_79 : decode cX12_readsNumber 79 = .ok (.iadd, 1) := by decide +kernel
theorem dX12_readsNumber_80 : decode cX12_readsNumber 80 = .ok (.putfield 348, 3) := by decide +kernel
theorem dX12_readsNumber_83 : decode cX12_readsNumber 83 = .ok (.goto (-56), 3) := by decide +kernel
theorem dX12_readsNumber_86 : decode cX12_readsNumber 86 = .ok (.aload_n 0, 1) := by decide +kernel
theorem dX12_readsNumber_87 : decode cX12_readsNumber 87 = .ok (.getfield 364, 3) := by decide +kernel
theorem dX12_readsNumber_90 : decode cX12_readsNumber 90 = .ok (.iload_n 1, 1) := by decide +kernel
theorem dX12_readsNumber_91 : decode cX12_readsNumber 91 = .ok (.if_icmp .le 12, 3) := by decide +kernel
theorem dX12_readsNumber_94 : decode cX12_readsNumber 94 = .ok (.aload_n 0, 1) := by decide +kernel
theorem dX12_readsNumber_95 : decode cX12_readsNumber 95 = .ok (.iconst 3, 1) := by decide +kernel
theorem dX12_readsNumber_96 : decode cX12_readsNumber 96 = .ok (.iload_n 2, 1) := by decide +kernel
theorem dX12_readsNumber_97 : decode cX12_readsNumber 97 = .ok (.invokevirtual 361, 3) := by decide +kernel
theorem dX12_readsNumber_100 : decode cX12_readsNumber 100 = .ok (.ifCond .eq 7, 3) := by decide +kernel
theorem dX12_readsNumber_103 : decode cX12_readsNumber 103 = .ok (.iconst 1, 1) := by decide +kernel
theorem dX12_readsNumber_104 : decode cX12_readsNumber 104 = .ok (.goto 4, 3) := by decide +kernel
theorem dX12_readsNumber_107 : decode cX12_readsNumber 107 = .ok (.iconst 0, 1) := by decide +kernel
theorem dX12_readsNumber_108 : decode cX12_readsNumber 108 = .ok (.ireturn, 1) := by decide +kernel
theorem dX12_says_0 : decode cX12_says 0 = .ok (.aload_n 0, 1) := by decide +kernel
theorem dX12_says_1 : decode cX12_says 1 = .ok (.getfield 74, 3) := by decide +kernel
theorem dX12_says_4 : decode cX12_says 4 = .ok (.aload_n 0, 1) := by decide +kernel
theorem dX12_says_5 : decode cX12_says 5 = .ok (.getfield 371, 3) := by decide +kernel
theorem dX12_says_8 : decode cX12_says 8 = .ok (.ldc_w 374, 3) := by decide +kernel
theorem dX12_says_11 : decode cX12_says 11 = .ok (.iload_n 1, 1) := by decide +kernel
theorem dX12_says_12 : decode cX12_says 12 = .ok (.imul, 1) := by decide +kernel
theorem dX12_says_13 : decode cX12_says 13 = .ok (.iload_n 2, 1) := by decide +kernel
theorem dX12_says_14 : decode cX12_says 14 = .ok (.iadd, 1) := by decide +kernel
theorem dX12_says_15 : decode cX12_says 15 = .ok (.iastore, 1) := by decide +kernel
theorem dX12_says_16 : decode cX12_says 16 = .ok (.aload_n 0, 1) := by decide +kernel
theorem dX12_says_17 : decode cX12_says 17 = .ok (.aload_n 0, 1) := by decide +kernel
theorem dX12_says_18 : decode cX12_says 18 = .ok (.getfield 371, 3) := by decide +kernel
theorem dX12_says_21 : decode cX12_says 21 = .ok (.iconst 1, 1) := by decide +kernel
theorem dX12_says_22 : decode cX12_says 22 = .ok (.iadd, 1) := by decide +kernel
theorem dX12_says_23 : decode cX12_says 23 = .ok (.putfield 371, 3) := by decide +kernel
theorem dX12_says_26 : decode cX12_says 26 = .ok (.return_, 1) := by decide +kernel
theorem dX12_opens_0 : decode cX12_opens 0 = .ok (.aload_n 0, 1) := by decide +kernel
theorem dX12_opens_1 : decode cX12_opens 1 = .ok (.getfield 375, 3) := by decide +kernel
theorem dX12_opens_4 : decode cX12_opens 4 = .ok (.bipush 6, 2) := by decide +kernel
theorem dX12_opens_6 : decode cX12_opens 6 = .ok (.if_icmp .ne 13, 3) := by decide +kernel
theorem dX12_opens_9 : decode cX12_opens 9 = .ok (.aload_n 0, 1) := by decide +kernel
theorem dX12_opens_10 : decode cX12_opens 10 = .ok (.iconst 5, 1) := by decide +kernel
theorem dX12_opens_11 : decode cX12_opens 11 = .ok (.aload_n 0, 1) := by decide +kernel
theorem dX12_opens_12 : decode cX12_opens 12 = .ok (.getfield 348, 3) := by decide +kernel
theorem dX12_opens_15 : decode cX12_opens 15 = .ok (.invokevirtual 361, 3) := by decide +kernel
theorem dX12_opens_18 : decode cX12_opens 18 = .ok (.ireturn, 1) := by decide +kernel
theorem dX12_opens_19 : decode cX12_opens 19 = .ok (.aload_n 0, 1) := by decide +kernel
theorem dX12_opens_20 : decode cX12_opens 20 = .ok (.aload_n 0, 1) := by decide +kernel
theorem dX12_opens_21 : decode cX12_opens 21 = .ok (.getfield 375, 3) := by decide +kernel
theorem dX12_opens_24 : decode cX12_opens 24 = .ok (.iconst 1, 1) := by decide +kernel
theorem dX12_opens_25 : decode cX12_opens 25 = .ok (.iadd, 1) := by decide +kernel
theorem dX12_opens_26 : decode cX12_opens 26 = .ok (.putfield 375, 3) := by decide +kernel
theorem dX12_opens_29 : decode cX12_opens 29 = .ok (.aload_n 0, 1) := by decide +kernel
theorem dX12_opens_30 : decode cX12_opens 30 = .ok (.getfield 77, 3) := by decide +kernel
theorem dX12_opens_33 : decode cX12_opens 33 = .ok (.aload_n 0, 1) := by decide +kernel
theorem dX12_opens_34 : decode cX12_opens 34 = .ok (.getfield 378, 3) := by decide +kernel
theorem dX12_opens_37 : decode cX12_opens 37 = .ok (.ldc_w 374, 3) := by decide +kernel
theorem dX12_opens_40 : decode cX12_opens 40 = .ok (.iload_n 1, 1) := by decide +kernel
theorem dX12_opens_41 : decode cX12_opens 41 = .ok (.imul, 1) := by decide +kernel
theorem dX12_opens_42 : decode cX12_opens 42 = .ok (.iastore, 1) := by decide +kernel
theorem dX12_opens_43 : decode cX12_opens 43 = .ok (.aload_n 0, 1) := by decide +kernel
theorem dX12_opens_44 : decode cX12_opens 44 = .ok (.aload_n 0, 1) := by decide +kernel
theorem dX12_opens_45 : decode cX12_opens 45 = .ok (.getfield 378, 3) := by decide +kernel
theorem dX12_opens_48 : decode cX12_opens 48 = .ok (.iconst 1, 1) := by decide +kernel
theorem dX12_opens_49 : decode cX12_opens 49 = .ok (.iadd, 1) := by decide +kernel
theorem dX12_opens_50 : decode cX12_opens 50 = .ok (.putfield 378, 3) := by decide +kernel
theorem dX12_opens_53 : decode cX12_opens 53 = .ok (.aload_n 0, 1) := by decide +kernel
theorem dX12_opens_54 : decode cX12_opens 54 = .ok (.aload_n 0, 1) := by decide +kernel
theorem dX12_opens_55 : decode cX12_opens 55 = .ok (.getfield 348, 3) := by decide +kernel
theorem dX12_opens_58 : decode cX12_opens 58 = .ok (.iconst 1, 1) := by decide +kernel
theorem dX12_opens_59 : decode cX12_opens 59 = .ok (.iadd, 1) := by decide +kernel
theorem dX12_opens_60 : decode cX12_opens 60 = .ok (.putfield 348, 3) := by decide +kernel
theorem dX12_opens_63 : decode cX12_opens 63 = .ok (.iconst 1, 1) := by decide +kernel
theorem dX12_opens_64 : decode cX12_opens 64 = .ok (.ireturn, 1) := by decide +kernel
theorem dX12_top_0 : decode cX12_top 0 = .ok (.aload_n 0, 1) := by decide +kernel
theorem dX12_top_1 : decode cX12_top 1 = .ok (.getfield 378, 3) := by decide +kernel
theorem dX12_top_4 : decode cX12_top 4 = .ok (.ifCond .ne 7, 3) := by decide +kernel
theorem dX12_top_7 : decode cX12_top 7 = .ok (.iconst (-1), 1) := by decide +kernel
theorem dX12_top_8 : decode cX12_top 8 = .ok (.goto 18, 3) := by decide +kernel
theorem dX12_top_11 : decode cX12_top 11 = .ok (.aload_n 0, 1) := by decide +kernel
theorem dX12_top_12 : decode cX12_top 12 = .ok (.getfield 77, 3) := by decide +kernel
theorem dX12_top_15 : decode cX12_top 15 = .ok (.aload_n 0, 1) := by decide +kernel
theorem dX12_top_16 : decode cX12_top 16 = .ok (.getfield 378, 3) := by decide +kernel
theorem dX12_top_19 : decode cX12_top 19 = .ok (.iconst 1, 1) := by decide +kernel
theorem dX12_top_20 : decode cX12_top 20 = .ok (.isub, 1) := by decide +kernel
theorem dX12_top_21 : decode cX12_top 21 = .ok (.iaload, 1) := by decide +kernel
theorem dX12_top_22 : decode cX12_top 22 = .ok (.ldc_w 374, 3) := by decide +kernel
theorem dX12_top_25 : decode cX12_top 25 = .ok (.idiv, 1) := by decide +kernel
theorem dX12_top_26 : decode cX12_top 26 = .ok (.ireturn, 1) := by decide +kernel
theorem dX12_factOf_0 : decode cX12_factOf 0 = .ok (.iload_n 0, 1) := by decide +kernel
theorem dX12_factOf_1 : decode cX12_factOf 1 = .ok (.bipush 119, 2) := by decide +kernel
theorem dX12_factOf_3 : decode cX12_factOf 3 = .ok (.if_icmp .ne 7, 3) := by decide +kernel
theorem dX12_factOf_6 : decode cX12_factOf 6 = .ok (.iconst 0, 1) := by decide +kernel
theorem dX12_factOf_7 : decode cX12_factOf 7 = .ok (.goto 44, 3) := by decide +kernel
theorem dX12_factOf_10 : decode cX12_factOf 10 = .ok (.iload_n 0, 1) := by decide +kernel
theorem dX12_factOf_11 : decode cX12_factOf 11 = .ok (.bipush 104, 2) := by decide +kernel
theorem dX12_factOf_13 : decode cX12_factOf 13 = .ok (.if_icmp .ne 7, 3) := by decide +kernel
theorem dX12_factOf_16 : decode cX12_factOf 16 = .ok (.iconst 1, 1) := by decide +kernel
theorem dX12_factOf_17 : decode cX12_factOf 17 = .ok (.goto 34, 3) := by decide +kernel
theorem dX12_factOf_20 : decode cX12_factOf 20 = .ok (.iload_n 0, 1) := by decide +kernel
theorem dX12_factOf_21 : decode cX12_factOf 21 = .ok (.bipush 107, 2) := by decide +kernel
theorem dX12_factOf_23 : decode cX12_factOf 23 = .ok (.if_icmp .ne 7, 3) := by decide +kernel
theorem dX12_factOf_26 : decode cX12_factOf 26 = .ok (.iconst 2, 1) := by decide +kernel
theorem dX12_factOf_27 : decode cX12_factOf 27 = .ok (.goto 24, 3) := by decide +kernel
theorem dX12_factOf_30 : decode cX12_factOf 30 = .ok (.iload_n 0, 1) := by decide +kernel
theorem dX12_factOf_31 : decode cX12_factOf 31 = .ok (.bipush 109, 2) := by decide +kernel
theorem dX12_factOf_33 : decode cX12_factOf 33 = .ok (.if_icmp .ne 7, 3) := by decide +kernel
theorem dX12_factOf_36 : decode cX12_factOf 36 = .ok (.iconst 3, 1) := by decide +kernel
theorem dX12_factOf_37 : decode cX12_factOf 37 = .ok (.goto 14, 3) := by decide +kernel
theorem dX12_factOf_40 : decode cX12_factOf 40 = .ok (.iload_n 0, 1) := by decide +kernel
theorem dX12_factOf_41 : decode cX12_factOf 41 = .ok (.bipush 112, 2) := by decide +kernel
theorem dX12_factOf_43 : decode cX12_factOf 43 = .ok (.if_icmp .ne 7, 3) := by decide +kernel
theorem dX12_factOf_46 : decode cX12_factOf 46 = .ok (.iconst 4, 1) := by decide +kernel
theorem dX12_factOf_47 : decode cX12_factOf 47 = .ok (.goto 4, 3) := by decide +kernel
theorem dX12_factOf_50 : decode cX12_factOf 50 = .ok (.iconst (-1), 1) := by decide +kernel
theorem dX12_factOf_51 : decode cX12_factOf 51 = .ok (.ireturn, 1) := by decide +kernel
theorem dX12_sumSign_0 : decode cX12_sumSign 0 = .ok (.iload_n 0, 1) := by decide +kernel
theorem dX12_sumSign_1 : decode cX12_sumSign 1 = .ok (.bipush 43, 2) := by decide +kernel
theorem dX12_sumSign_3 : decode cX12_sumSign 3 = .ok (.if_icmp .ne 7, 3) := by decide +kernel
theorem dX12_sumSign_6 : decode cX12_sumSign 6 = .ok (.iconst 2, 1) := by decide +kernel
theorem dX12_sumSign_7 : decode cX12_sumSign 7 = .ok (.goto 45, 3) := by decide +kernel
theorem dX12_sumSign_10 : decode cX12_sumSign 10 = .ok (.iload_n 0, 1) := by decide +kernel
theorem dX12_sumSign_11 : decode cX12_sumSign 11 = .ok (.bipush 45, 2) := by decide +kernel
theorem dX12_sumSign_13 : decode cX12_sumSign 13 = .ok (.if_icmp .ne 7, 3) := by decide +kernel
theorem dX12_sumSign_16 : decode cX12_sumSign 16 = .ok (.iconst 3, 1) := by decide +kernel
theorem dX12_sumSign_17 : decode cX12_sumSign 17 = .ok (.goto 35, 3) := by decide +kernel
theorem dX12_sumSign_20 : decode cX12_sumSign 20 = .ok (.iload_n 0, 1) := by decide +kernel
theorem dX12_sumSign_21 : decode cX12_sumSign 21 = .ok (.bipush 42, 2) := by decide +kernel
theorem dX12_sumSign_23 : decode cX12_sumSign 23 = .ok (.if_icmp .ne 7, 3) := by decide +kernel
theorem dX12_sumSign_26 : decode cX12_sumSign 26 = .ok (.iconst 4, 1) := by decide +kernel
theorem dX12_sumSign_27 : decode cX12_sumSign 27 = .ok (.goto 25, 3) := by decide +kernel
theorem dX12_sumSign_30 : decode cX12_sumSign 30 = .ok (.iload_n 0, 1) := by decide +kernel
theorem dX12_sumSign_31 : decode cX12_sumSign 31 = .ok (.bipush 47, 2) := by decide +kernel
theorem dX12_sumSign_33 : decode cX12_sumSign 33 = .ok (.if_icmp .ne 7, 3) := by decide +kernel
theorem dX12_sumSign_36 : decode cX12_sumSign 36 = .ok (.iconst 5, 1) := by decide +kernel
theorem dX12_sumSign_37 : decode cX12_sumSign 37 = .ok (.goto 15, 3) := by decide +kernel
theorem dX12_sumSign_40 : decode cX12_sumSign 40 = .ok (.iload_n 0, 1) := by decide +kernel
theorem dX12_sumSign_41 : decode cX12_sumSign 41 = .ok (.bipush 37, 2) := by decide +kernel
theorem dX12_sumSign_43 : decode cX12_sumSign 43 = .ok (.if_icmp .ne 8, 3) := by decide +kernel
theorem dX12_sumSign_46 : decode cX12_sumSign 46 = .ok (.bipush 6, 2) := by decide +kernel
theorem dX12_sumSign_48 : decode cX12_sumSign 48 = .ok (.goto 4, 3) := by decide +kernel
theorem dX12_sumSign_51 : decode cX12_sumSign 51 = .ok (.iconst (-1), 1) := by decide +kernel
theorem dX12_sumSign_52 : decode cX12_sumSign 52 = .ok (.ireturn, 1) := by decide +kernel
theorem dX12_closesSums_0 : decode cX12_closesSums 0 = .ok (.aload_n 0, 1) := by decide +kernel
theorem dX12_closesSums_1 : decode cX12_closesSums 1 = .ok (.invokevirtual 381, 3) := by decide +kernel
theorem dX12_closesSums_4 : decode cX12_closesSums 4 = .ok (.iconst 4, 1) := by decide +kernel
theorem dX12_closesSums_5 : decode cX12_closesSums 5 = .ok (.if_icmp .lt 12, 3) := by decide +kernel
theorem dX12_closesSums_8 : decode cX12_closesSums 8 = .ok (.aload_n 0, 1) := by decide +kernel
theorem dX12_closesSums_9 : decode cX12_closesSums 9 = .ok (.invokevirtual 381, 3) := by decide +kernel
theorem dX12_closesSums_12 : decode cX12_closesSums 12 = .ok (.bipush 6, 2) := by decide +kernel
theorem dX12_closesSums_14 : decode cX12_closesSums 14 = .ok (.if_icmp .le 23, 3) := by decide +kernel
theorem dX12_closesSums_17 : decode cX12_closesSums 17 = .ok (.iload_n 1, 1) := by decide +kernel
theorem dX12_closesSums_18 : decode cX12_closesSums 18 = .ok (.ifCond .eq 41, 3) := by decide +kernel
theorem dX12_closesSums_21 : decode cX12_closesSums 21 = .ok (.aload_n 0, 1) := by decide +kernel
theorem dX12_closesSums_22 : decode cX12_closesSums 22 = .ok (.invokevirtual 381, 3) := by decide +kernel
theorem dX12_closesSums_25 : decode cX12_closesSums 25 = .ok (.iconst 2, 1) := by decide +kernel
theorem dX12_closesSums_26 : decode cX12_closesSums 26 = .ok (.if_icmp .eq 11, 3) := by decide +kernel
theorem dX12_closesSums_29 : decode cX12_closesSums 29 = .ok (.aload_n 0, 1) := by decide +kernel
theorem dX12_closesSums_30 : decode cX12_closesSums 30 = .ok (.invokevirtual 381, 3) := by decide +kernel
theorem dX12_closesSums_33 : decode cX12_closesSums 33 = .ok (.iconst 3, 1) := by decide +kernel
theorem dX12_closesSums_34 : decode cX12_closesSums 34 = .ok (.if_icmp .ne 25, 3) := by decide +kernel
theorem dX12_closesSums_37 : decode cX12_closesSums 37 = .ok (.aload_n 0, 1) := by decide +kernel
theorem dX12_closesSums_38 : decode cX12_closesSums 38 = .ok (.aload_n 0, 1) := by decide +kernel
theorem dX12_closesSums_39 : decode cX12_closesSums 39 = .ok (.invokevirtual 381, 3) := by decide +kernel
theorem dX12_closesSums_42 : decode cX12_closesSums 42 = .ok (.iconst 0, 1) := by decide +kernel
theorem dX12_closesSums_43 : decode cX12_closesSums 43 = .ok (.invokevirtual 384, 3) := by decide +kernel
theorem dX12_closesSums_46 : decode cX12_closesSums 46 = .ok (.aload_n 0, 1) := by decide +kernel
theorem dX12_closesSums_47 : decode cX12_closesSums 47 = .ok (.aload_n 0, 1) := by decide +kernel
theorem dX12_closesSums_48 : decode cX12_closesSums 48 = .ok (.getfield 378, 3) := by decide +kernel
theorem dX12_closesSums_51 : decode cX12_closesSums 51 = .ok (.iconst 1, 1) := by decide +kernel
theorem dX12_closesSums_52 : decode cX12_closesSums 52 = .ok (.isub, 1) := by decide +kernel
theorem dX12_closesSums_53 : decode cX12_closesSums 53 = .ok (.putfield 378, 3) := by decide +kernel
theorem dX12_closesSums_56 : decode cX12_closesSums 56 = .ok (.goto (-56), 3) := by decide +kernel
theorem dX12_closesSums_59 : decode cX12_closesSums 59 = .ok (.return_, 1) := by decide +kernel
theorem dX12_readsFactor_0 : decode cX12_readsFactor 0 = .ok (.aload_n 0, 1) := by decide +kernel
theorem dX12_readsFactor_1 : decode cX12_readsFactor 1 = .ok (.invokevirtual 354, 3) := by decide +kernel
theorem dX12_readsFactor_4 : decode cX12_readsFactor 4 = .ok (.bipush 91, 2) := by decide +kernel
theorem dX12_readsFactor_6 : decode cX12_readsFactor 6 = .ok (.if_icmp .ne 14, 3) := by decide +kernel
theorem dX12_readsFactor_9 : decode cX12_readsFactor 9 = .ok (.aload_n 0, 1) := by decide +kernel
theorem dX12_readsFactor_10 : decode cX12_readsFactor 10 = .ok (.bipush 14, 2) := by decide +kernel
theorem dX12_readsFactor_12 : decode cX12_readsFactor 12 = .ok (.invokevirtual 387, 3) := by decide +kernel
theorem dX12_readsFactor_15 : decode cX12_readsFactor 15 = .ok (.ifCond .ne (-15), 3) := by decide +kernel
theorem dX12_readsFactor_18 : decode cX12_readsFactor 18 = .ok (.iconst 0, 1) := by decide +kernel
theorem dX12_readsFactor_19 : decode cX12_readsFactor 19 = .ok (.ireturn, 1) := by decide +kernel
theorem dX12_readsFactor_20 : decode cX12_readsFactor 20 = .ok (.aload_n 0, 1) := by decide +kernel
theorem dX12_readsFactor_21 : decode cX12_readsFactor 21 = .ok (.invokevirtual 367, 3) := by decide +kernel
theorem dX12_readsFactor_24 : decode cX12_readsFactor 24 = .ok (.ifCond .eq 26, 3) := by decide +kernel
theorem dX12_readsFactor_27 : decode cX12_readsFactor 27 = .ok (.aload_n 0, 1) := by decide +kernel
theorem dX12_readsFactor_28 : decode cX12_readsFactor 28 = .ok (.ldc_w 390, 3) := by decide +kernel
theorem dX12_readsFactor_31 : decode cX12_readsFactor 31 = .ok (.invokevirtual 391, 3) := by decide +kernel
theorem dX12_readsFactor_34 : decode cX12_readsFactor 34 = .ok (.ifCond .ne 5, 3) := by decide +kernel
theorem dX12_readsFactor_37 : decode cX12_readsFactor 37 = .ok (.iconst 0, 1) := by decide +kernel
theorem dX12_readsFactor_38 : decode cX12_readsFactor 38 = .ok (.ireturn, 1) := by decide +kernel
theorem dX12_readsFactor_39 : decode cX12_readsFactor 39 = .ok (.aload_n 0, 1) := by decide +kernel
theorem dX12_readsFactor_40 : decode cX12_readsFactor 40 = .ok (.iconst 0, 1) := by decide +kernel
theorem dX12_readsFactor_41 : decode cX12_readsFactor 41 = .ok (.aload_n 0, 1) := by decide +kernel
theorem dX12_readsFactor_42 : decode cX12_readsFactor 42 = .ok (.getfield 364, 3) := by decide +kernel
theorem dX12_readsFactor_45 : decode cX12_readsFactor 45 = .ok (.invokevirtual 384, 3) := by decide +kernel
theorem dX12_readsFactor_48 : decode cX12_readsFactor 48 = .ok (.iconst 1, 1) := by decide +kernel
theorem dX12_readsFactor_49 : decode cX12_readsFactor 49 = .ok (.ireturn, 1) := by decide +kernel
theorem dX12_readsFactor_50 : decode cX12_readsFactor 50 = .ok (.aload_n 0, 1) := by decide +kernel
theorem dX12_readsFactor_51 : decode cX12_readsFactor 51 = .ok (.invokevirtual 354, 3) := by decide +kernel
theorem dX12_readsFactor_54 : decode cX12_readsFactor 54 = .ok (.invokestatic 394, 3) := by decide +kernel
theorem dX12_readsFactor_57 : decode cX12_readsFactor 57 = .ok (.istore_n 1, 1) := by decide +kernel
theorem dX12_readsFactor_58 : decode cX12_readsFactor 58 = .ok (.iload_n 1, 1) := by decide +kernel
theorem dX12_readsFactor_59 : decode cX12_readsFactor 59 = .ok (.iconst (-1), 1) := by decide +kernel
theorem dX12_readsFactor_60 : decode cX12_readsFactor 60 = .ok (.if_icmp .ne 13, 3) := by decide +kernel
theorem dX12_readsFactor_63 : decode cX12_readsFactor 63 = .ok (.aload_n 0, 1) := by decide +kernel
theorem dX12_readsFactor_64 : decode cX12_readsFactor 64 = .ok (.iconst 1, 1) := by decide +kernel
theorem dX12_readsFactor_65 : decode cX12_readsFactor 65 = .ok (.aload_n 0, 1) := by decide +kernel
theorem dX12_readsFactor_66 : decode cX12_readsFactor 66 = .ok (.getfield 348, 3) := by decide +kernel
theorem dX12_readsFactor_69 : decode cX12_readsFactor 69 = .ok (.invokevirtual 361, 3) := by decide +kernel
theorem dX12_readsFactor_72 : decode cX12_readsFactor 72 = .ok (.ireturn, 1) := by decide +kernel
theorem dX12_readsFactor_73 : decode cX12_readsFactor 73 = .ok (.aload_n 0, 1) := by decide +kernel
theorem dX12_readsFactor_74 : decode cX12_readsFactor 74 = .ok (.iconst 1, 1) := by decide +kernel
theorem dX12_readsFactor_75 : decode cX12_readsFactor 75 = .ok (.iload_n 1, 1) := by decide +kernel
theorem dX12_readsFactor_76 : decode cX12_readsFactor 76 = .ok (.invokevirtual 384, 3) := by decide +kernel
theorem dX12_readsFactor_79 : decode cX12_readsFactor 79 = .ok (.aload_n 0, 1) := by decide +kernel
theorem dX12_readsFactor_80 : decode cX12_readsFactor 80 = .ok (.aload_n 0, 1) := by decide +kernel
theorem dX12_readsFactor_81 : decode cX12_readsFactor 81 = .ok (.getfield 348, 3) := by decide +kernel
theorem dX12_readsFactor_84 : decode cX12_readsFactor 84 = .ok (.iconst 1, 1) := by decide +kernel
theorem dX12_readsFactor_85 : decode cX12_readsFactor 85 = .ok (.iadd, 1) := by decide +kernel
theorem dX12_readsFactor_86 : decode cX12_readsFactor 86 = .ok (.putfield 348, 3) := by decide +kernel
theorem dX12_readsFactor_89 : decode cX12_readsFactor 89 = .ok (.iconst 1, 1) := by decide +kernel
theorem dX12_readsFactor_90 : decode cX12_readsFactor 90 = .ok (.ireturn, 1) := by decide +kernel
theorem dX12_hasOpenSum_0 : decode cX12_hasOpenSum 0 = .ok (.iload_n 1, 1) := by decide +kernel
theorem dX12_hasOpenSum_1 : decode cX12_hasOpenSum 1 = .ok (.istore_n 2, 1) := by decide +kernel
theorem dX12_hasOpenSum_2 : decode cX12_hasOpenSum 2 = .ok (.iload_n 2, 1) := by decide +kernel
theorem dX12_hasOpenSum_3 : decode cX12_hasOpenSum 3 = .ok (.aload_n 0, 1) := by decide +kernel
theorem dX12_hasOpenSum_4 : decode cX12_hasOpenSum 4 = .ok (.getfield 378, 3) := by decide +kernel
theorem dX12_hasOpenSum_7 : decode cX12_hasOpenSum 7 = .ok (.if_icmp .ge 26, 3) := by decide +kernel
theorem dX12_hasOpenSum_10 : decode cX12_hasOpenSum 10 = .ok (.aload_n 0, 1) := by decide +kernel
theorem dX12_hasOpenSum_11 : decode cX12_hasOpenSum 11 = .ok (.getfield 77, 3) := by decide +kernel
theorem dX12_hasOpenSum_14 : decode cX12_hasOpenSum 14 = .ok (.iload_n 2, 1) := by decide +kernel
theorem dX12_hasOpenSum_15 : decode cX12_hasOpenSum 15 = .ok (.iaload, 1) := by decide +kernel
theorem dX12_hasOpenSum_16 : decode cX12_hasOpenSum 16 = .ok (.ldc_w 374, 3) := by decide +kernel
theorem dX12_hasOpenSum_19 : decode cX12_hasOpenSum 19 = .ok (.idiv, 1) := by decide +kernel
theorem dX12_hasOpenSum_20 : decode cX12_hasOpenSum 20 = .ok (.bipush 14, 2) := by decide +kernel
theorem dX12_hasOpenSum_22 : decode cX12_hasOpenSum 22 = .ok (.if_icmp .ne 5, 3) := by decide +kernel
theorem dX12_hasOpenSum_25 : decode cX12_hasOpenSum 25 = .ok (.iconst 1, 1) := by decide +kernel
theorem dX12_hasOpenSum_26 : decode cX12_hasOpenSum 26 = .ok (.ireturn, 1) := by decide +kernel
theorem dX12_hasOpenSum_27 : decode cX12_hasOpenSum 27 = .ok (.iinc 2 1, 3) := by decide +kernel
theorem dX12_hasOpenSum_30 : decode cX12_hasOpenSum 30 = .ok (.goto (-28), 3) := by decide +kernel
theorem dX12_hasOpenSum_33 : decode cX12_hasOpenSum 33 = .ok (.iconst 0, 1) := by decide +kernel
theorem dX12_hasOpenSum_34 : decode cX12_hasOpenSum 34 = .ok (.ireturn, 1) := by decide +kernel
theorem dX12_readsSum_0 : decode cX12_readsSum 0 = .ok (.aload_n 0, 1) := by decide +kernel
theorem dX12_readsSum_1 : decode cX12_readsSum 1 = .ok (.getfield 378, 3) := by decide +kernel
theorem dX12_readsSum_4 : decode cX12_readsSum 4 = .ok (.istore_n 1, 1) := by decide +kernel
theorem dX12_readsSum_5 : decode cX12_readsSum 5 = .ok (.aload_n 0, 1) := by decide +kernel
theorem dX12_readsSum_6 : decode cX12_readsSum 6 = .ok (.invokevirtual 398, 3) := by decide +kernel
theorem dX12_readsSum_9 : decode cX12_readsSum 9 = .ok (.ifCond .ne 5, 3) := by decide +kernel
theorem dX12_readsSum_12 : decode cX12_readsSum 12 = .ok (.iconst 0, 1) := by decide +kernel
theorem dX12_readsSum_13 : decode cX12_readsSum 13 = .ok (.ireturn, 1) := by decide +kernel
theorem dX12_readsSum_14 : decode cX12_readsSum 14 = .ok (.aload_n 0, 1) := by decide +kernel
theorem dX12_readsSum_15 : decode cX12_readsSum 15 = .ok (.invokevirtual 354, 3) := by decide +kernel
theorem dX12_readsSum_18 : decode cX12_readsSum 18 = .ok (.invokestatic 401, 3) := by decide +kernel
theorem dX12_readsSum_21 : decode cX12_readsSum 21 = .ok (.istore_n 2, 1) := by decide +kernel
theorem dX12_readsSum_22 : decode cX12_readsSum 22 = .ok (.iload_n 2, 1) := by decide +kernel
theorem dX12_readsSum_23 : decode cX12_readsSum 23 = .ok (.iconst (-1), 1) := by decide +kernel
theorem dX12_readsSum_24 : decode cX12_readsSum 24 = .ok (.if_icmp .eq 60, 3) := by decide +kernel
theorem dX12_readsSum_27 : decode cX12_readsSum 27 = .ok (.aload_n 0, 1) := by decide +kernel
theorem dX12_readsSum_28 : decode cX12_readsSum 28 = .ok (.iload_n 2, 1) := by decide +kernel
theorem dX12_readsSum_29 : decode cX12_readsSum 29 = .ok (.iconst 4, 1) := by decide +kernel
theorem dX12_readsSum_30 : decode cX12_readsSum 30 = .ok (.if_icmp .ge 7, 3) := by decide +kernel
theorem dX12_readsSum_33 : decode cX12_readsSum 33 = .ok (.iconst 1, 1) := by decide +kernel
theorem dX12_readsSum_34 : decode cX12_readsSum 34 = .ok (.goto 4, 3) := by decide +kernel
theorem dX12_readsSum_37 : decode cX12_readsSum 37 = .ok (.iconst 0, 1) := by decide +kernel
theorem dX12_readsSum_38 : decode cX12_readsSum 38 = .ok (.invokevirtual 404, 3) := by decide +kernel
theorem dX12_readsSum_41 : decode cX12_readsSum 41 = .ok (.aload_n 0, 1) := by decide +kernel
theorem dX12_readsSum_42 : decode cX12_readsSum 42 = .ok (.getfield 77, 3) := by decide +kernel
theorem dX12_readsSum_45 : decode cX12_readsSum 45 = .ok (.aload_n 0, 1) := by decide +kernel
theorem dX12_readsSum_46 : decode cX12_readsSum 46 = .ok (.getfield 378, 3) := by decide +kernel
theorem dX12_readsSum_49 : decode cX12_readsSum 49 = .ok (.ldc_w 374, 3) := by decide +kernel
theorem dX12_readsSum_52 : decode cX12_readsSum 52 = .ok (.iload_n 2, 1) := by decide +kernel
theorem dX12_readsSum_53 : decode cX12_readsSum 53 = .ok (.imul, 1) := by decide +kernel
theorem dX12_readsSum_54 : decode cX12_readsSum 54 = .ok (.iastore, 1) := by decide +kernel
theorem dX12_readsSum_55 : decode cX12_readsSum 55 = .ok (.aload_n 0, 1) := by decide +kernel
theorem dX12_readsSum_56 : decode cX12_readsSum 56 = .ok (.aload_n 0, 1) := by decide +kernel
theorem dX12_readsSum_57 : decode cX12_readsSum 57 = .ok (.getfield 378, 3) := by decide +kernel
theorem dX12_readsSum_60 : decode cX12_readsSum 60 = .ok (.iconst 1, 1) := by decide +kernel
theorem dX12_readsSum_61 : decode cX12_readsSum 61 = .ok (.iadd, 1) := by decide +kernel
theorem dX12_readsSum_62 : decode cX12_readsSum 62 = .ok (.putfield 378, 3) := by decide +kernel
theorem dX12_readsSum_65 : decode cX12_readsSum 65 = .ok (.aload_n 0, 1) := by decide +kernel
theorem dX12_readsSum_66 : decode cX12_readsSum 66 = .ok (.aload_n 0, 1) := by decide +kernel
theorem dX12_readsSum_67 : decode cX12_readsSum 67 = .ok (.getfield 348, 3) := by decide +kernel
theorem dX12_readsSum_70 : decode cX12_readsSum 70 = .ok (.iconst 1, 1) := by decide +kernel
theorem dX12_readsSum_71 : decode cX12_readsSum 71 = .ok (.iadd, 1) := by decide +kernel
theorem dX12_readsSum_72 : decode cX12_readsSum 72 = .ok (.putfield 348, 3) := by decide +kernel
theorem dX12_readsSum_75 : decode cX12_readsSum 75 = .ok (.aload_n 0, 1) := by decide +kernel
theorem dX12_readsSum_76 : decode cX12_readsSum 76 = .ok (.invokevirtual 398, 3) := by decide +kernel
theorem dX12_readsSum_79 : decode cX12_readsSum 79 = .ok (.ifCond .ne 85, 3) := by decide +kernel
theorem dX12_readsSum_82 : decode cX12_readsSum 82 = .ok (.iconst 0, 1) := by decide +kernel
theorem dX12_readsSum_83 : decode cX12_readsSum 83 = .ok (.ireturn, 1) := by decide +kernel
theorem dX12_readsSum_84 : decode cX12_readsSum 84 = .ok (.aload_n 0, 1) := by decide +kernel
theorem dX12_readsSum_85 : decode cX12_readsSum 85 = .ok (.invokevirtual 354, 3) := by decide +kernel
theorem dX12_readsSum_88 : decode cX12_readsSum 88 = .ok (.bipush 93, 2) := by decide +kernel
theorem dX12_readsSum_90 : decode cX12_readsSum 90 = .ok (.if_icmp .ne 49, 3) := by decide +kernel
theorem dX12_readsSum_93 : decode cX12_readsSum 93 = .ok (.aload_n 0, 1) := by decide +kernel
theorem dX12_readsSum_94 : decode cX12_readsSum 94 = .ok (.iload_n 1, 1) := by decide +kernel
theorem dX12_readsSum_95 : decode cX12_readsSum 95 = .ok (.invokevirtual 408, 3) := by decide +kernel
theorem dX12_readsSum_98 : decode cX12_readsSum 98 = .ok (.ifCond .eq 41, 3) := by decide +kernel
theorem dX12_readsSum_101 : decode cX12_readsSum 101 = .ok (.aload_n 0, 1) := by decide +kernel
theorem dX12_readsSum_102 : decode cX12_readsSum 102 = .ok (.iconst 1, 1) := by decide +kernel
theorem dX12_readsSum_103 : decode cX12_readsSum 103 = .ok (.invokevirtual 404, 3) := by decide +kernel
theorem dX12_readsSum_106 : decode cX12_readsSum 106 = .ok (.aload_n 0, 1) := by decide +kernel
theorem dX12_readsSum_107 : decode cX12_readsSum 107 = .ok (.aload_n 0, 1) := by decide +kernel
theorem dX12_readsSum_108 : decode cX12_readsSum 108 = .ok (.getfield 378, 3) := by decide +kernel
theorem dX12_readsSum_111 : decode cX12_readsSum 111 = .ok (.iconst 1, 1) := by decide +kernel
theorem dX12_readsSum_112 : decode cX12_readsSum 112 = .ok (.isub, 1) := by decide +kernel
theorem dX12_readsSum_113 : decode cX12_readsSum 113 = .ok (.putfield 378, 3) := by decide +kernel
theorem dX12_readsSum_116 : decode cX12_readsSum 116 = .ok (.aload_n 0, 1) := by decide +kernel
theorem dX12_readsSum_117 : decode cX12_readsSum 117 = .ok (.aload_n 0, 1) := by decide +kernel
theorem dX12_readsSum_118 : decode cX12_readsSum 118 = .ok (.getfield 375, 3) := by decide +kernel
theorem dX12_readsSum_121 : decode cX12_readsSum 121 = .ok (.iconst 1, 1) := by decide +kernel
theorem dX12_readsSum_122 : decode cX12_readsSum 122 = .ok (.isub, 1) := by decide +kernel
theorem dX12_readsSum_123 : decode cX12_readsSum 123 = .ok (.putfield 375, 3) := by decide +kernel
theorem dX12_readsSum_126 : decode cX12_readsSum 126 = .ok (.aload_n 0, 1) := by decide +kernel
theorem dX12_readsSum_127 : decode cX12_readsSum 127 = .ok (.aload_n 0, 1) := by decide +kernel
theorem dX12_readsSum_128 : decode cX12_readsSum 128 = .ok (.getfield 348, 3) := by decide +kernel
theorem dX12_readsSum_131 : decode cX12_readsSum 131 = .ok (.iconst 1, 1) := by decide +kernel
theorem dX12_readsSum_132 : decode cX12_readsSum 132 = .ok (.iadd, 1) := by decide +kernel
theorem dX12_readsSum_133 : decode cX12_readsSum 133 = .ok (.putfield 348, 3) := by decide +kernel
theorem dX12_readsSum_136 : decode cX12_readsSum 136 = .ok (.goto 28, 3) := by decide +kernel
theorem dX12_readsSum_139 : decode cX12_readsSum 139 = .ok (.aload_n 0, 1) := by decide +kernel
theorem dX12_readsSum_140 : decode cX12_readsSum 140 = .ok (.iload_n 1, 1) := by decide +kernel
theorem dX12_readsSum_141 : decode cX12_readsSum 141 = .ok (.invokevirtual 408, 3) := by decide +kernel
theorem dX12_readsSum_144 : decode cX12_readsSum 144 = .ok (.ifCond .eq 13, 3) := by decide +kernel
theorem dX12_readsSum_147 : decode cX12_readsSum 147 = .ok (.aload_n 0, 1) := by decide +kernel
theorem dX12_readsSum_148 : decode cX12_readsSum 148 = .ok (.iconst 1, 1) := by decide +kernel
theorem dX12_readsSum_149 : decode cX12_readsSum 149 = .ok (.aload_n 0, 1) := by decide +kernel
theorem dX12_readsSum_150 : decode cX12_readsSum 150 = .ok (.getfield 348, 3) := by decide +kernel
theorem dX12_readsSum_153 : decode cX12_readsSum 153 = .ok (.invokevirtual 361, 3) := by decide +kernel
theorem dX12_readsSum_156 : decode cX12_readsSum 156 = .ok (.ireturn, 1) := by decide +kernel
theorem dX12_readsSum_157 : decode cX12_readsSum 157 = .ok (.aload_n 0, 1) := by decide +kernel
theorem dX12_readsSum_158 : decode cX12_readsSum 158 = .ok (.iconst 1, 1) := by decide +kernel
theorem dX12_readsSum_159 : decode cX12_readsSum 159 = .ok (.invokevirtual 404, 3) := by decide +kernel
theorem dX12_readsSum_162 : decode cX12_readsSum 162 = .ok (.iconst 1, 1) := by decide +kernel
theorem dX12_readsSum_163 : decode cX12_readsSum 163 = .ok (.ireturn, 1) := by decide +kernel
theorem dX12_readsSum_164 : decode cX12_readsSum 164 = .ok (.goto (-150), 3) := by decide +kernel
theorem dX12_endsPiece_0 : decode cX12_endsPiece 0 = .ok (.aload_n 0, 1) := by decide +kernel
theorem dX12_endsPiece_1 : decode cX12_endsPiece 1 = .ok (.invokevirtual 381, 3) := by decide +kernel
theorem dX12_endsPiece_4 : decode cX12_endsPiece 4 = .ok (.bipush 10, 2) := by decide +kernel
theorem dX12_endsPiece_6 : decode cX12_endsPiece 6 = .ok (.if_icmp .ne 33, 3) := by decide +kernel
theorem dX12_endsPiece_9 : decode cX12_endsPiece 9 = .ok (.aload_n 0, 1) := by decide +kernel
theorem dX12_endsPiece_10 : decode cX12_endsPiece 10 = .ok (.bipush 10, 2) := by decide +kernel
theorem dX12_endsPiece_12 : decode cX12_endsPiece 12 = .ok (.iconst 0, 1) := by decide +kernel
theorem dX12_endsPiece_13 : decode cX12_endsPiece 13 = .ok (.invokevirtual 384, 3) := by decide +kernel
theorem dX12_endsPiece_16 : decode cX12_endsPiece 16 = .ok (.aload_n 0, 1) := by decide +kernel
theorem dX12_endsPiece_17 : decode cX12_endsPiece 17 = .ok (.aload_n 0, 1) := by decide +kernel
theorem dX12_endsPiece_18 : decode cX12_endsPiece 18 = .ok (.getfield 378, 3) := by decide +kernel
theorem dX12_endsPiece_21 : decode cX12_endsPiece 21 = .ok (.iconst 1, 1) := by decide +kernel
theorem dX12_endsPiece_22 : decode cX12_endsPiece 22 = .ok (.isub, 1) := by decide +kernel
theorem dX12_endsPiece_23 : decode cX12_endsPiece 23 = .ok (.putfield 378, 3) := by decide +kernel
theorem dX12_endsPiece_26 : decode cX12_endsPiece 26 = .ok (.aload_n 0, 1) := by decide +kernel
theorem dX12_endsPiece_27 : decode cX12_endsPiece 27 = .ok (.aload_n 0, 1) := by decide +kernel
theorem dX12_endsPiece_28 : decode cX12_endsPiece 28 = .ok (.getfield 375, 3) := by decide +kernel
theorem dX12_endsPiece_31 : decode cX12_endsPiece 31 = .ok (.iconst 1, 1) := by decide +kernel
theorem dX12_endsPiece_32 : decode cX12_endsPiece 32 = .ok (.isub, 1) := by decide +kernel
theorem dX12_endsPiece_33 : decode cX12_endsPiece 33 = .ok (.putfield 375, 3) := by decide +kernel
theorem dX12_endsPiece_36 : decode cX12_endsPiece 36 = .ok (.goto (-36), 3) := by decide +kernel
theorem dX12_endsPiece_39 : decode cX12_endsPiece 39 = .ok (.return_, 1) := by decide +kernel
theorem dX12_lands_0 : decode cX12_lands 0 = .ok (.aload_n 0, 1) := by decide +kernel
theorem dX12_lands_1 : decode cX12_lands 1 = .ok (.invokevirtual 381, 3) := by decide +kernel
theorem dX12_lands_4 : decode cX12_lands 4 = .ok (.bipush 11, 2) := by decide +kernel
theorem dX12_lands_6 : decode cX12_lands 6 = .ok (.if_icmp .eq 16, 3) := by decide +kernel
theorem dX12_lands_9 : decode cX12_lands 9 = .ok (.iload_n 1, 1) := by decide +kernel
theorem dX12_lands_10 : decode cX12_lands 10 = .ok (.ifCond .eq 66, 3) := by decide +kernel
theorem dX12_lands_13 : decode cX12_lands 13 = .ok (.aload_n 0, 1) := by decide +kernel
theorem dX12_lands_14 : decode cX12_lands 14 = .ok (.invokevirtual 381, 3) := by decide +kernel
theorem dX12_lands_17 : decode cX12_lands 17 = .ok (.bipush 12, 2) := by decide +kernel
theorem dX12_lands_19 : decode cX12_lands 19 = .ok (.if_icmp .ne 57, 3) := by decide +kernel
theorem dX12_lands_22 : decode cX12_lands 22 = .ok (.aload_n 0, 1) := by decide +kernel
theorem dX12_lands_23 : decode cX12_lands 23 = .ok (.getfield 77, 3) := by decide +kernel
theorem dX12_lands_26 : decode cX12_lands 26 = .ok (.aload_n 0, 1) := by decide +kernel
theorem dX12_lands_27 : decode cX12_lands 27 = .ok (.getfield 378, 3) := by decide +kernel
theorem dX12_lands_30 : decode cX12_lands 30 = .ok (.iconst 1, 1) := by decide +kernel
theorem dX12_lands_31 : decode cX12_lands 31 = .ok (.isub, 1) := by decide +kernel
theorem dX12_lands_32 : decode cX12_lands 32 = .ok (.iaload, 1) := by decide +kernel
theorem dX12_lands_33 : decode cX12_lands 33 = .ok (.ldc_w 374, 3) := by decide +kernel
theorem dX12_lands_36 : decode cX12_lands 36 = .ok (.irem, 1) := by decide +kernel
theorem dX12_lands_37 : decode cX12_lands 37 = .ok (.istore_n 2, 1) := by decide +kernel
theorem dX12_lands_38 : decode cX12_lands 38 = .ok (.aload_n 0, 1) := by decide +kernel
theorem dX12_lands_39 : decode cX12_lands 39 = .ok (.getfield 74, 3) := by decide +kernel
theorem dX12_lands_42 : decode cX12_lands 42 = .ok (.iload_n 2, 1) := by decide +kernel
theorem dX12_lands_43 : decode cX12_lands 43 = .ok (.ldc_w 374, 3) := by decide +kernel
theorem dX12_lands_46 : decode cX12_lands 46 = .ok (.aload_n 0, 1) := by decide +kernel
theorem dX12_lands_47 : decode cX12_lands 47 = .ok (.getfield 74, 3) := by decide +kernel
theorem dX12_lands_50 : decode cX12_lands 50 = .ok (.iload_n 2, 1) := by decide +kernel
theorem dX12_lands_51 : decode cX12_lands 51 = .ok (.iaload, 1) := by decide +kernel
theorem dX12_lands_52 : decode cX12_lands 52 = .ok (.ldc_w 374, 3) := by decide +kernel
theorem dX12_lands_55 : decode cX12_lands 55 = .ok (.idiv, 1) := by decide +kernel
theorem dX12_lands_56 : decode cX12_lands 56 = .ok (.imul, 1) := by decide +kernel
theorem dX12_lands_57 : decode cX12_lands 57 = .ok (.aload_n 0, 1) := by decide +kernel
theorem dX12_lands_58 : decode cX12_lands 58 = .ok (.getfield 371, 3) := by decide +kernel
theorem dX12_lands_61 : decode cX12_lands 61 = .ok (.iadd, 1) := by decide +kernel
theorem dX12_lands_62 : decode cX12_lands 62 = .ok (.iastore, 1) := by decide +kernel
theorem dX12_lands_63 : decode cX12_lands 63 = .ok (.aload_n 0, 1) := by decide +kernel
theorem dX12_lands_64 : decode cX12_lands 64 = .ok (.aload_n 0, 1) := by decide +kernel
theorem dX12_lands_65 : decode cX12_lands 65 = .ok (.getfield 378, 3) := by decide +kernel
theorem dX12_lands_68 : decode cX12_lands 68 = .ok (.iconst 1, 1) := by decide +kernel
theorem dX12_lands_69 : decode cX12_lands 69 = .ok (.isub, 1) := by decide +kernel
theorem dX12_lands_70 : decode cX12_lands 70 = .ok (.putfield 378, 3) := by decide +kernel
theorem dX12_lands_73 : decode cX12_lands 73 = .ok (.goto (-73), 3) := by decide +kernel
theorem dX12_lands_76 : decode cX12_lands 76 = .ok (.return_, 1) := by decide +kernel
theorem dX12_jumps_0 : decode cX12_jumps 0 = .ok (.aload_n 0, 1) := by decide +kernel
theorem dX12_jumps_1 : decode cX12_jumps 1 = .ok (.getfield 77, 3) := by decide +kernel
theorem dX12_jumps_4 : decode cX12_jumps 4 = .ok (.aload_n 0, 1) := by decide +kernel
theorem dX12_jumps_5 : decode cX12_jumps 5 = .ok (.getfield 378, 3) := by decide +kernel
theorem dX12_jumps_8 : decode cX12_jumps 8 = .ok (.ldc_w 374, 3) := by decide +kernel
theorem dX12_jumps_11 : decode cX12_jumps 11 = .ok (.iload_n 1, 1) := by decide +kernel
theorem dX12_jumps_12 : decode cX12_jumps 12 = .ok (.imul, 1) := by decide +kernel
theorem dX12_jumps_13 : decode cX12_jumps 13 = .ok (.aload_n 0, 1) := by decide +kernel
theorem dX12_jumps_14 : decode cX12_jumps 14 = .ok (.getfield 371, 3) := by decide +kernel
theorem dX12_jumps_17 : decode cX12_jumps 17 = .ok (.iadd, 1) := by decide +kernel
theorem dX12_jumps_18 : decode cX12_jumps 18 = .ok (.iastore, 1) := by decide +kernel
theorem dX12_jumps_19 : decode cX12_jumps 19 = .ok (.aload_n 0, 1) := by decide +kernel
theorem dX12_jumps_20 : decode cX12_jumps 20 = .ok (.aload_n 0, 1) := by decide +kernel
theorem dX12_jumps_21 : decode cX12_jumps 21 = .ok (.getfield 378, 3) := by decide +kernel
theorem dX12_jumps_24 : decode cX12_jumps 24 = .ok (.iconst 1, 1) := by decide +kernel
theorem dX12_jumps_25 : decode cX12_jumps 25 = .ok (.iadd, 1) := by decide +kernel
theorem dX12_jumps_26 : decode cX12_jumps 26 = .ok (.putfield 378, 3) := by decide +kernel
theorem dX12_jumps_29 : decode cX12_jumps 29 = .ok (.aload_n 0, 1) := by decide +kernel
theorem dX12_jumps_30 : decode cX12_jumps 30 = .ok (.iload_n 1, 1) := by decide +kernel
theorem dX12_jumps_31 : decode cX12_jumps 31 = .ok (.iconst 0, 1) := by decide +kernel
theorem dX12_jumps_32 : decode cX12_jumps 32 = .ok (.invokevirtual 384, 3) := by decide +kernel
theorem dX12_jumps_35 : decode cX12_jumps 35 = .ok (.aload_n 0, 1) := by decide +kernel
theorem dX12_jumps_36 : decode cX12_jumps 36 = .ok (.aload_n 0, 1) := by decide +kernel
theorem dX12_jumps_37 : decode cX12_jumps 37 = .ok (.getfield 348, 3) := by decide +kernel
theorem dX12_jumps_40 : decode cX12_jumps 40 = .ok (.iconst 1, 1) := by decide +kernel
theorem dX12_jumps_41 : decode cX12_jumps 41 = .ok (.iadd, 1) := by decide +kernel
theorem dX12_jumps_42 : decode cX12_jumps 42 = .ok (.putfield 348, 3) := by decide +kernel
theorem dX12_jumps_45 : decode cX12_jumps 45 = .ok (.return_, 1) := by decide +kernel
theorem dX12_readsCompared_0 : decode cX12_readsCompared 0 = .ok (.aload_n 0, 1) := by decide +kernel
theorem dX12_readsCompared_1 : decode cX12_readsCompared 1 = .ok (.invokevirtual 411, 3) := by decide +kernel
theorem dX12_readsCompared_4 : decode cX12_readsCompared 4 = .ok (.ifCond .ne 5, 3) := by decide +kernel
theorem dX12_readsCompared_7 : decode cX12_readsCompared 7 = .ok (.iconst 0, 1) := by decide +kernel
theorem dX12_readsCompared_8 : decode cX12_readsCompared 8 = .ok (.ireturn, 1) := by decide +kernel
theorem dX12_readsCompared_9 : decode cX12_readsCompared 9 = .ok (.aload_n 0, 1) := by decide +kernel
theorem dX12_readsCompared_10 : decode cX12_readsCompared 10 = .ok (.invokevirtual 354, 3) := by decide +kernel
theorem dX12_readsCompared_13 : decode cX12_readsCompared 13 = .ok (.bipush 60, 2) := by decide +kernel
theorem dX12_readsCompared_15 : decode cX12_readsCompared 15 = .ok (.if_icmp .ne 8, 3) := by decide +kernel
theorem dX12_readsCompared_18 : decode cX12_readsCompared 18 = .ok (.bipush 7, 2) := by decide +kernel
theorem dX12_readsCompared_20 : decode cX12_readsCompared 20 = .ok (.goto 32, 3) := by decide +kernel
theorem dX12_readsCompared_23 : decode cX12_readsCompared 23 = .ok (.aload_n 0, 1) := by decide +kernel
theorem dX12_readsCompared_24 : decode cX12_readsCompared 24 = .ok (.invokevirtual 354, 3) := by decide +kernel
theorem dX12_readsCompared_27 : decode cX12_readsCompared 27 = .ok (.bipush 62, 2) := by decide +kernel
theorem dX12_readsCompared_29 : decode cX12_readsCompared 29 = .ok (.if_icmp .ne 8, 3) := by decide +kernel
theorem dX12_readsCompared_32 : decode cX12_readsCompared 32 = .ok (.bipush 8, 2) := by decide +kernel
theorem dX12_readsCompared_34 : decode cX12_readsCompared 34 = .ok (.goto 18, 3) := by decide +kernel
theorem dX12_readsCompared_37 : decode cX12_readsCompared 37 = .ok (.aload_n 0, 1) := by decide +kernel
theorem dX12_readsCompared_38 : decode cX12_readsCompared 38 = .ok (.invokevirtual 354, 3) := by decide +kernel
theorem dX12_readsCompared_41 : decode cX12_readsCompared 41 = .ok (.bipush 61, 2) := by decide +kernel
theorem dX12_readsCompared_43 : decode cX12_readsCompared 43 = .ok (.if_icmp .ne 8, 3) := by decide +kernel
theorem dX12_readsCompared_46 : decode cX12_readsCompared 46 = .ok (.bipush 9, 2) := by decide +kernel
theorem dX12_readsCompared_48 : decode cX12_readsCompared 48 = .ok (.goto 4, 3) := by decide +kernel
theorem dX12_readsCompared_51 : decode cX12_readsCompared 51 = .ok (.iconst (-1), 1) := by decide +kernel
theorem dX12_readsCompared_52 : decode cX12_readsCompared 52 = .ok (.istore_n 1, 1) := by decide +kernel
theorem dX12_readsCompared_53 : decode cX12_readsCompared 53 = .ok (.iload_n 1, 1) := by decide +kernel
theorem dX12_readsCompared_54 : decode cX12_readsCompared 54 = .ok (.iconst (-1), 1) := by decide +kernel
theorem dX12_readsCompared_55 : decode cX12_readsCompared 55 = .ok (.if_icmp .ne 13, 3) := by decide +kernel
theorem dX12_readsCompared_58 : decode cX12_readsCompared 58 = .ok (.aload_n 0, 1) := by decide +kernel
theorem dX12_readsCompared_59 : decode cX12_readsCompared 59 = .ok (.iconst 1, 1) := by decide +kernel
theorem dX12_readsCompared_60 : decode cX12_readsCompared 60 = .ok (.aload_n 0, 1) := by decide +kernel
theorem dX12_readsCompared_61 : decode cX12_readsCompared 61 = .ok (.getfield 348, 3) := by decide +kernel
theorem dX12_readsCompared_64 : decode cX12_readsCompared 64 = .ok (.invokevirtual 361, 3) := by decide +kernel
theorem dX12_readsCompared_67 : decode cX12_readsCompared 67 = .ok (.ireturn, 1) := by decide +kernel
theorem dX12_readsCompared_68 : decode cX12_readsCompared 68 = .ok (.aload_n 0, 1) := by decide +kernel
theorem dX12_readsCompared_69 : decode cX12_readsCompared 69 = .ok (.aload_n 0, 1) := by decide +kernel
theorem dX12_readsCompared_70 : decode cX12_readsCompared 70 = .ok (.getfield 348, 3) := by decide +kernel
theorem dX12_readsCompared_73 : decode cX12_readsCompared 73 = .ok (.iconst 1, 1) := by decide +kernel
theorem dX12_readsCompared_74 : decode cX12_readsCompared 74 = .ok (.iadd, 1) := by decide +kernel
theorem dX12_readsCompared_75 : decode cX12_readsCompared 75 = .ok (.putfield 348, 3) := by decide +kernel
theorem dX12_readsCompared_78 : decode cX12_readsCompared 78 = .ok (.aload_n 0, 1) := by decide +kernel
theorem dX12_readsCompared_79 : decode cX12_readsCompared 79 = .ok (.invokevirtual 411, 3) := by decide +kernel
theorem dX12_readsCompared_82 : decode cX12_readsCompared 82 = .ok (.ifCond .ne 5, 3) := by decide +kernel
theorem dX12_readsCompared_85 : decode cX12_readsCompared 85 = .ok (.iconst 0, 1) := by decide +kernel
theorem dX12_readsCompared_86 : decode cX12_readsCompared 86 = .ok (.ireturn, 1) := by decide +kernel
theorem dX12_readsCompared_87 : decode cX12_readsCompared 87 = .ok (.aload_n 0, 1) := by decide +kernel
theorem dX12_readsCompared_88 : decode cX12_readsCompared 88 = .ok (.iload_n 1, 1) := by decide +kernel
theorem dX12_readsCompared_89 : decode cX12_readsCompared 89 = .ok (.iconst 0, 1) := by decide +kernel
theorem dX12_readsCompared_90 : decode cX12_readsCompared 90 = .ok (.invokevirtual 384, 3) := by decide +kernel
theorem dX12_readsCompared_93 : decode cX12_readsCompared 93 = .ok (.aload_n 0, 1) := by decide +kernel
theorem dX12_readsCompared_94 : decode cX12_readsCompared 94 = .ok (.invokevirtual 414, 3) := by decide +kernel
theorem dX12_readsCompared_97 : decode cX12_readsCompared 97 = .ok (.iconst 1, 1) := by decide +kernel
theorem dX12_readsCompared_98 : decode cX12_readsCompared 98 = .ok (.ireturn, 1) := by decide +kernel
theorem dX12_readsCondition_0 : decode cX12_readsCondition 0 = .ok (.aload_n 0, 1) := by decide +kernel
theorem dX12_readsCondition_1 : decode cX12_readsCondition 1 = .ok (.iconst 0, 1) := by decide +kernel
theorem dX12_readsCondition_2 : decode cX12_readsCondition 2 = .ok (.putfield 375, 3) := by decide +kernel
theorem dX12_readsCondition_5 : decode cX12_readsCondition 5 = .ok (.aload_n 0, 1) := by decide +kernel
theorem dX12_readsCondition_6 : decode cX12_readsCondition 6 = .ok (.iconst 0, 1) := by decide +kernel
theorem dX12_readsCondition_7 : decode cX12_readsCondition 7 = .ok (.putfield 378, 3) := by decide +kernel
theorem dX12_readsCondition_10 : decode cX12_readsCondition 10 = .ok (.aload_n 0, 1) := by decide +kernel
theorem dX12_readsCondition_11 : decode cX12_readsCondition 11 = .ok (.bipush 13, 2) := by decide +kernel
theorem dX12_readsCondition_13 : decode cX12_readsCondition 13 = .ok (.invokevirtual 387, 3) := by decide +kernel
theorem dX12_readsCondition_16 : decode cX12_readsCondition 16 = .ok (.ifCond .ne 5, 3) := by decide +kernel
theorem dX12_readsCondition_19 : decode cX12_readsCondition 19 = .ok (.iconst 0, 1) := by decide +kernel
theorem dX12_readsCondition_20 : decode cX12_readsCondition 20 = .ok (.ireturn, 1) := by decide +kernel
theorem dX12_readsCondition_21 : decode cX12_readsCondition 21 = .ok (.aload_n 0, 1) := by decide +kernel
theorem dX12_readsCondition_22 : decode cX12_readsCondition 22 = .ok (.invokevirtual 354, 3) := by decide +kernel
theorem dX12_readsCondition_25 : decode cX12_readsCondition 25 = .ok (.bipush 33, 2) := by decide +kernel
theorem dX12_readsCondition_27 : decode cX12_readsCondition 27 = .ok (.if_icmp .eq 12, 3) := by decide +kernel
theorem dX12_readsCondition_30 : decode cX12_readsCondition 30 = .ok (.aload_n 0, 1) := by decide +kernel
theorem dX12_readsCondition_31 : decode cX12_readsCondition 31 = .ok (.invokevirtual 354, 3) := by decide +kernel
theorem dX12_readsCondition_34 : decode cX12_readsCondition 34 = .ok (.bipush 40, 2) := by decide +kernel
theorem dX12_readsCondition_36 : decode cX12_readsCondition 36 = .ok (.if_icmp .ne 28, 3) := by decide +kernel
theorem dX12_readsCondition_39 : decode cX12_readsCondition 39 = .ok (.aload_n 0, 1) := by decide +kernel
theorem dX12_readsCondition_40 : decode cX12_readsCondition 40 = .ok (.aload_n 0, 1) := by decide +kernel
theorem dX12_readsCondition_41 : decode cX12_readsCondition 41 = .ok (.invokevirtual 354, 3) := by decide +kernel
theorem dX12_readsCondition_44 : decode cX12_readsCondition 44 = .ok (.bipush 33, 2) := by decide +kernel
theorem dX12_readsCondition_46 : decode cX12_readsCondition 46 = .ok (.if_icmp .ne 8, 3) := by decide +kernel
theorem dX12_readsCondition_49 : decode cX12_readsCondition 49 = .ok (.bipush 10, 2) := by decide +kernel
theorem dX12_readsCondition_51 : decode cX12_readsCondition 51 = .ok (.goto 5, 3) := by decide +kernel
theorem dX12_readsCondition_54 : decode cX12_readsCondition 54 = .ok (.bipush 13, 2) := by decide +kernel
theorem dX12_readsCondition_56 : decode cX12_readsCondition 56 = .ok (.invokevirtual 387, 3) := by decide +kernel
theorem dX12_readsCondition_59 : decode cX12_readsCondition 59 = .ok (.ifCond .ne (-38), 3) := by decide +kernel
theorem dX12_readsCondition_62 : decode cX12_readsCondition 62 = .ok (.iconst 0, 1) := by decide +kernel
theorem dX12_readsCondition_63 : decode cX12_readsCondition 63 = .ok (.ireturn, 1) := by decide +kernel
theorem dX12_readsCondition_64 : decode cX12_readsCondition 64 = .ok (.aload_n 0, 1) := by decide +kernel
theorem dX12_readsCondition_65 : decode cX12_readsCondition 65 = .ok (.invokevirtual 417, 3) := by decide +kernel
theorem dX12_readsCondition_68 : decode cX12_readsCondition 68 = .ok (.ifCond .ne 5, 3) := by decide +kernel
theorem dX12_readsCondition_71 : decode cX12_readsCondition 71 = .ok (.iconst 0, 1) := by decide +kernel
theorem dX12_readsCondition_72 : decode cX12_readsCondition 72 = .ok (.ireturn, 1) := by decide +kernel
theorem dX12_readsCondition_73 : decode cX12_readsCondition 73 = .ok (.aload_n 0, 1) := by decide +kernel
theorem dX12_readsCondition_74 : decode cX12_readsCondition 74 = .ok (.invokevirtual 354, 3) := by decide +kernel
theorem dX12_readsCondition_77 : decode cX12_readsCondition 77 = .ok (.bipush 41, 2) := by decide +kernel
theorem dX12_readsCondition_79 : decode cX12_readsCondition 79 = .ok (.if_icmp .ne 54, 3) := by decide +kernel
theorem dX12_readsCondition_82 : decode cX12_readsCondition 82 = .ok (.aload_n 0, 1) := by decide +kernel
theorem dX12_readsCondition_83 : decode cX12_readsCondition 83 = .ok (.iconst 1, 1) := by decide +kernel
theorem dX12_readsCondition_84 : decode cX12_readsCondition 84 = .ok (.invokevirtual 420, 3) := by decide +kernel
theorem dX12_readsCondition_87 : decode cX12_readsCondition 87 = .ok (.aload_n 0, 1) := by decide +kernel
theorem dX12_readsCondition_88 : decode cX12_readsCondition 88 = .ok (.aload_n 0, 1) := by decide +kernel
theorem dX12_readsCondition_89 : decode cX12_readsCondition 89 = .ok (.getfield 378, 3) := by decide +kernel
theorem dX12_readsCondition_92 : decode cX12_readsCondition 92 = .ok (.iconst 1, 1) := by decide +kernel
theorem dX12_readsCondition_93 : decode cX12_readsCondition 93 = .ok (.isub, 1) := by decide +kernel
theorem dX12_readsCondition_94 : decode cX12_readsCondition 94 = .ok (.putfield 378, 3) := by decide +kernel
theorem dX12_readsCondition_97 : decode cX12_readsCondition 97 = .ok (.aload_n 0, 1) := by decide +kernel
theorem dX12_readsCondition_98 : decode cX12_readsCondition 98 = .ok (.aload_n 0, 1) := by decide +kernel
theorem dX12_readsCondition_99 : decode cX12_readsCondition 99 = .ok (.getfield 375, 3) := by decide +kernel
theorem dX12_readsCondition_102 : decode cX12_readsCondition 102 = .ok (.iconst 1, 1) := by decide +kernel
theorem dX12_readsCondition_103 : decode cX12_readsCondition 103 = .ok (.isub, 1) := by decide +kernel
theorem dX12_readsCondition_104 : decode cX12_readsCondition 104 = .ok (.putfield 375, 3) := by decide +kernel
theorem dX12_readsCondition_107 : decode cX12_readsCondition 107 = .ok (.aload_n 0, 1) := by decide +kernel
theorem dX12_readsCondition_108 : decode cX12_readsCondition 108 = .ok (.aload_n 0, 1) := by decide +kernel
theorem dX12_readsCondition_109 : decode cX12_readsCondition 109 = .ok (.getfield 348, 3) := by decide +kernel
theorem dX12_readsCondition_112 : decode cX12_readsCondition 112 = .ok (.iconst 1, 1) := by decide +kernel
theorem dX12_readsCondition_113 : decode cX12_readsCondition 113 = .ok (.iadd, 1) := by decide +kernel
theorem dX12_readsCondition_114 : decode cX12_readsCondition 114 = .ok (.putfield 348, 3) := by decide +kernel
theorem dX12_readsCondition_117 : decode cX12_readsCondition 117 = .ok (.aload_n 0, 1) := by decide +kernel
theorem dX12_readsCondition_118 : decode cX12_readsCondition 118 = .ok (.getfield 378, 3) := by decide +kernel
theorem dX12_readsCondition_121 : decode cX12_readsCondition 121 = .ok (.ifCond .ne 5, 3) := by decide +kernel
theorem dX12_readsCondition_124 : decode cX12_readsCondition 124 = .ok (.iconst 1, 1) := by decide +kernel
theorem dX12_readsCondition_125 : decode cX12_readsCondition 125 = .ok (.ireturn, 1) := by decide +kernel
theorem dX12_readsCondition_126 : decode cX12_readsCondition 126 = .ok (.aload_n 0, 1) := by decide +kernel
theorem dX12_readsCondition_127 : decode cX12_readsCondition 127 = .ok (.invokevirtual 414, 3) := by decide +kernel
theorem dX12_readsCondition_130 : decode cX12_readsCondition 130 = .ok (.goto (-57), 3) := by decide +kernel
theorem dX12_readsCondition_133 : decode cX12_readsCondition 133 = .ok (.aload_n 0, 1) := by decide +kernel
theorem dX12_readsCondition_134 : decode cX12_readsCondition 134 = .ok (.invokevirtual 354, 3) := by decide +kernel
theorem dX12_readsCondition_137 : decode cX12_readsCondition 137 = .ok (.bipush 38, 2) := by decide +kernel
theorem dX12_readsCondition_139 : decode cX12_readsCondition 139 = .ok (.if_icmp .eq 22, 3) := by decide +kernel
theorem dX12_readsCondition_142 : decode cX12_readsCondition 142 = .ok (.aload_n 0, 1) := by decide +kernel
theorem dX12_readsCondition_143 : decode cX12_readsCondition 143 = .ok (.invokevirtual 354, 3) := by decide +kernel
theorem dX12_readsCondition_146 : decode cX12_readsCondition 146 = .ok (.bipush 124, 2) := by decide +kernel
theorem dX12_readsCondition_148 : decode cX12_readsCondition 148 = .ok (.if_icmp .eq 13, 3) := by decide +kernel
theorem dX12_readsCondition_151 : decode cX12_readsCondition 151 = .ok (.aload_n 0, 1) := by decide +kernel
theorem dX12_readsCondition_152 : decode cX12_readsCondition 152 = .ok (.iconst 1, 1) := by decide +kernel
theorem dX12_readsCondition_153 : decode cX12_readsCondition 153 = .ok (.aload_n 0, 1) := by decide +kernel
theorem dX12_readsCondition_154 : decode cX12_readsCondition 154 = .ok (.getfield 348, 3) := by decide +kernel
theorem dX12_readsCondition_157 : decode cX12_readsCondition 157 = .ok (.invokevirtual 361, 3) := by decide +kernel
theorem dX12_readsCondition_160 : decode cX12_readsCondition 160 = .ok (.ireturn, 1) := by decide +kernel
theorem dX12_readsCondition_161 : decode cX12_readsCondition 161 = .ok (.aload_n 0, 1) := by decide +kernel
theorem dX12_readsCondition_162 : decode cX12_readsCondition 162 = .ok (.aload_n 0, 1) := by decide +kernel
theorem dX12_readsCondition_163 : decode cX12_readsCondition 163 = .ok (.invokevirtual 354, 3) := by decide +kernel
theorem dX12_readsCondition_166 : decode cX12_readsCondition 166 = .ok (.bipush 124, 2) := by decide +kernel
theorem dX12_readsCondition_168 : decode cX12_readsCondition 168 = .ok (.if_icmp .ne 7, 3) := by decide +kernel
theorem dX12_readsCondition_171 : decode cX12_readsCondition 171 = .ok (.iconst 1, 1) := by decide +kernel
theorem dX12_readsCondition_172 : decode cX12_readsCondition 172 = .ok (.goto 4, 3) := by decide +kernel
theorem dX12_readsCondition_175 : decode cX12_readsCondition 175 = .ok (.iconst 0, 1) := by decide +kernel
theorem dX12_readsCondition_176 : decode cX12_readsCondition 176 = .ok (.invokevirtual 420, 3) := by decide +kernel
theorem dX12_readsCondition_179 : decode cX12_readsCondition 179 = .ok (.aload_n 0, 1) := by decide +kernel
theorem dX12_readsCondition_180 : decode cX12_readsCondition 180 = .ok (.aload_n 0, 1) := by decide +kernel
theorem dX12_readsCondition_181 : decode cX12_readsCondition 181 = .ok (.invokevirtual 354, 3) := by decide +kernel
theorem dX12_readsCondition_184 : decode cX12_readsCondition 184 = .ok (.bipush 38, 2) := by decide +kernel
theorem dX12_readsCondition_186 : decode cX12_readsCondition 186 = .ok (.if_icmp .ne 8, 3) := by decide +kernel
theorem dX12_readsCondition_189 : decode cX12_readsCondition 189 = .ok (.bipush 11, 2) := by decide +kernel
theorem dX12_readsCondition_191 : decode cX12_readsCondition 191 = .ok (.goto 5, 3) := by decide +kernel
theorem dX12_readsCondition_194 : decode cX12_readsCondition 194 = .ok (.bipush 12, 2) := by decide +kernel
theorem dX12_readsCondition_196 : decode cX12_readsCondition 196 = .ok (.invokevirtual 423, 3) := by decide +kernel
theorem dX12_readsCondition_199 : decode cX12_readsCondition 199 = .ok (.goto (-178), 3) := by decide +kernel
theorem dX12_isLetter_0 : decode cX12_isLetter 0 = .ok (.iload_n 0, 1) := by decide +kernel
theorem dX12_isLetter_1 : decode cX12_isLetter 1 = .ok (.bipush 110, 2) := by decide +kernel
theorem dX12_isLetter_3 : decode cX12_isLetter 3 = .ok (.if_icmp .eq 27, 3) := by decide +kernel
theorem dX12_isLetter_6 : decode cX12_isLetter 6 = .ok (.iload_n 0, 1) := by decide +kernel
theorem dX12_isLetter_7 : decode cX12_isLetter 7 = .ok (.bipush 97, 2) := by decide +kernel
theorem dX12_isLetter_9 : decode cX12_isLetter 9 = .ok (.if_icmp .eq 21, 3) := by decide +kernel
theorem dX12_isLetter_12 : decode cX12_isLetter 12 = .ok (.iload_n 0, 1) := by decide +kernel
theorem dX12_isLetter_13 : decode cX12_isLetter 13 = .ok (.bipush 118, 2) := by decide +kernel
theorem dX12_isLetter_15 : decode cX12_isLetter 15 = .ok (.if_icmp .eq 15, 3) := by decide +kernel
theorem dX12_isLetter_18 : decode cX12_isLetter 18 = .ok (.iload_n 0, 1) := by decide +kernel
theorem dX12_isLetter_19 : decode cX12_isLetter 19 = .ok (.bipush 102, 2) := by decide +kernel
theorem dX12_isLetter_21 : decode cX12_isLetter 21 = .ok (.if_icmp .eq 9, 3) := by decide +kernel
theorem dX12_isLetter_24 : decode cX12_isLetter 24 = .ok (.iload_n 0, 1) := by decide +kernel
theorem dX12_isLetter_25 : decode cX12_isLetter 25 = .ok (.bipush 120, 2) := by decide +kernel
theorem dX12_isLetter_27 : decode cX12_isLetter 27 = .ok (.if_icmp .ne 7, 3) := by decide +kernel
theorem dX12_isLetter_30 : decode cX12_isLetter 30 = .ok (.iconst 1, 1) := by decide +kernel
theorem dX12_isLetter_31 : decode cX12_isLetter 31 = .ok (.goto 4, 3) := by decide +kernel
theorem dX12_isLetter_34 : decode cX12_isLetter 34 = .ok (.iconst 0, 1) := by decide +kernel
theorem dX12_isLetter_35 : decode cX12_isLetter 35 = .ok (.ireturn, 1) := by decide +kernel
theorem dX12_mostOf_0 : decode cX12_mostOf 0 = .ok (.iload_n 0, 1) := by decide +kernel
theorem dX12_mostOf_1 : decode cX12_mostOf 1 = .ok (.bipush 110, 2) := by decide +kernel
theorem dX12_mostOf_3 : decode cX12_mostOf 3 = .ok (.if_icmp .ne 7, 3) := by decide +kernel
theorem dX12_mostOf_6 : decode cX12_mostOf 6 = .ok (.iconst 3, 1) := by decide +kernel
theorem dX12_mostOf_7 : decode cX12_mostOf 7 = .ok (.goto 38, 3) := by decide +kernel
theorem dX12_mostOf_10 : decode cX12_mostOf 10 = .ok (.iload_n 0, 1) := by decide +kernel
theorem dX12_mostOf_11 : decode cX12_mostOf 11 = .ok (.bipush 97, 2) := by decide +kernel
theorem dX12_mostOf_13 : decode cX12_mostOf 13 = .ok (.if_icmp .ne 8, 3) := by decide +kernel
theorem dX12_mostOf_16 : decode cX12_mostOf 16 = .ok (.bipush 8, 2) := by decide +kernel
theorem dX12_mostOf_18 : decode cX12_mostOf 18 = .ok (.goto 27, 3) := by decide +kernel
theorem dX12_mostOf_21 : decode cX12_mostOf 21 = .ok (.iload_n 0, 1) := by decide +kernel
theorem dX12_mostOf_22 : decode cX12_mostOf 22 = .ok (.bipush 118, 2) := by decide +kernel
theorem dX12_mostOf_24 : decode cX12_mostOf 24 = .ok (.if_icmp .ne 8, 3) := by decide +kernel
theorem dX12_mostOf_27 : decode cX12_mostOf 27 = .ok (.bipush 99, 2) := by decide +kernel
theorem dX12_mostOf_29 : decode cX12_mostOf 29 = .ok (.goto 16, 3) := by decide +kernel
theorem dX12_mostOf_32 : decode cX12_mostOf 32 = .ok (.iload_n 0, 1) := by decide +kernel
theorem dX12_mostOf_33 : decode cX12_mostOf 33 = .ok (.bipush 102, 2) := by decide +kernel
theorem dX12_mostOf_35 : decode cX12_mostOf 35 = .ok (.if_icmp .ne 8, 3) := by decide +kernel
theorem dX12_mostOf_38 : decode cX12_mostOf 38 = .ok (.bipush 7, 2) := by decide +kernel
theorem dX12_mostOf_40 : decode cX12_mostOf 40 = .ok (.goto 5, 3) := by decide +kernel
theorem dX12_mostOf_43 : decode cX12_mostOf 43 = .ok (.bipush 19, 2) := by decide +kernel
theorem dX12_mostOf_45 : decode cX12_mostOf 45 = .ok (.ireturn, 1) := by decide +kernel
theorem dX12_readsClause_0 : decode cX12_readsClause 0 = .ok (.aload_n 0, 1) := by decide +kernel
theorem dX12_readsClause_1 : decode cX12_readsClause 1 = .ok (.invokevirtual 354, 3) := by decide +kernel
theorem dX12_readsClause_4 : decode cX12_readsClause 4 = .ok (.istore_n 1, 1) := by decide +kernel
theorem dX12_readsClause_5 : decode cX12_readsClause 5 = .ok (.iload_n 1, 1) := by decide +kernel
theorem dX12_readsClause_6 : decode cX12_readsClause 6 = .ok (.invokestatic 426, 3) := by decide +kernel
theorem dX12_readsClause_9 : decode cX12_readsClause 9 = .ok (.ifCond .ne 13, 3) := by decide +kernel
theorem dX12_readsClause_12 : decode cX12_readsClause 12 = .ok (.aload_n 0, 1) := by decide +kernel
theorem dX12_readsClause_13 : decode cX12_readsClause 13 = .ok (.iconst 1, 1) := by decide +kernel
theorem dX12_readsClause_14 : decode cX12_readsClause 14 = .ok (.aload_n 0, 1) := by decide +kernel
theorem dX12_readsClause_15 : decode cX12_readsClause 15 = .ok (.getfield 348, 3) := by decide +kernel
theorem dX12_readsClause_18 : decode cX12_readsClause 18 = .ok (.invokevirtual 361, 3) := by decide +kernel
theorem dX12_readsClause_21 : decode cX12_readsClause 21 = .ok (.ireturn, 1) := by decide +kernel
theorem dX12_readsClause_22 : decode cX12_readsClause 22 = .ok (.aload_n 0, 1) := by decide +kernel
theorem dX12_readsClause_23 : decode cX12_readsClause 23 = .ok (.getfield 429, 3) := by decide +kernel
theorem dX12_readsClause_26 : decode cX12_readsClause 26 = .ok (.bipush 10, 2) := by decide +kernel
theorem dX12_readsClause_28 : decode cX12_readsClause 28 = .ok (.if_icmp .ne 13, 3) := by decide +kernel
theorem dX12_readsClause_31 : decode cX12_readsClause 31 = .ok (.aload_n 0, 1) := by decide +kernel
theorem dX12_readsClause_32 : decode cX12_readsClause 32 = .ok (.iconst 4, 1) := by decide +kernel
theorem dX12_readsClause_33 : decode cX12_readsClause 33 = .ok (.aload_n 0, 1) := by decide +kernel
theorem dX12_readsClause_34 : decode cX12_readsClause 34 = .ok (.getfield 348, 3) := by decide +kernel
theorem dX12_readsClause_37 : decode cX12_readsClause 37 = .ok (.invokevirtual 361, 3) := by decide +kernel
theorem dX12_readsClause_40 : decode cX12_readsClause 40 = .ok (.ireturn, 1) := by decide +kernel
theorem dX12_readsClause_41 : decode cX12_readsClause 41 = .ok (.aload_n 0, 1) := by decide +kernel
theorem dX12_readsClause_42 : decode cX12_readsClause 42 = .ok (.aload_n 0, 1) := by decide +kernel
theorem dX12_readsClause_43 : decode cX12_readsClause 43 = .ok (.getfield 348, 3) := by decide +kernel
theorem dX12_readsClause_46 : decode cX12_readsClause 46 = .ok (.iconst 1, 1) := by decide +kernel
theorem dX12_readsClause_47 : decode cX12_readsClause 47 = .ok (.iadd, 1) := by decide +kernel
theorem dX12_readsClause_48 : decode cX12_readsClause 48 = .ok (.putfield 348, 3) := by decide +kernel
theorem dX12_readsClause_51 : decode cX12_readsClause 51 = .ok (.aload_n 0, 1) := by decide +kernel
theorem dX12_readsClause_52 : decode cX12_readsClause 52 = .ok (.iload_n 1, 1) := by decide +kernel
theorem dX12_readsClause_53 : decode cX12_readsClause 53 = .ok (.invokestatic 432, 3) := by decide +kernel
theorem dX12_readsClause_56 : decode cX12_readsClause 56 = .ok (.invokevirtual 391, 3) := by decide +kernel
theorem dX12_readsClause_59 : decode cX12_readsClause 59 = .ok (.ifCond .ne 5, 3) := by decide +kernel
theorem dX12_readsClause_62 : decode cX12_readsClause 62 = .ok (.iconst 0, 1) := by decide +kernel
theorem dX12_readsClause_63 : decode cX12_readsClause 63 = .ok (.ireturn, 1) := by decide +kernel
theorem dX12_readsClause_64 : decode cX12_readsClause 64 = .ok (.aload_n 0, 1) := by decide +kernel
theorem dX12_readsClause_65 : decode cX12_readsClause 65 = .ok (.getfield 429, 3) := by decide +kernel
theorem dX12_readsClause_68 : decode cX12_readsClause 68 = .ok (.istore_n 2, 1) := by decide +kernel
theorem dX12_readsClause_69 : decode cX12_readsClause 69 = .ok (.aload_n 0, 1) := by decide +kernel
theorem dX12_readsClause_70 : decode cX12_readsClause 70 = .ok (.getfield 80, 3) := by decide +kernel
theorem dX12_readsClause_73 : decode cX12_readsClause 73 = .ok (.iload_n 2, 1) := by decide +kernel
theorem dX12_readsClause_74 : decode cX12_readsClause 74 = .ok (.iload_n 1, 1) := by decide +kernel
theorem dX12_readsClause_75 : decode cX12_readsClause 75 = .ok (.iastore, 1) := by decide +kernel
theorem dX12_readsClause_76 : decode cX12_readsClause 76 = .ok (.aload_n 0, 1) := by decide +kernel
theorem dX12_readsClause_77 : decode cX12_readsClause 77 = .ok (.getfield 89, 3) := by decide +kernel
theorem dX12_readsClause_80 : decode cX12_readsClause 80 = .ok (.iload_n 2, 1) := by decide +kernel
theorem dX12_readsClause_81 : decode cX12_readsClause 81 = .ok (.aload_n 0, 1) := by decide +kernel
theorem dX12_readsClause_82 : decode cX12_readsClause 82 = .ok (.getfield 364, 3) := by decide +kernel
theorem dX12_readsClause_85 : decode cX12_readsClause 85 = .ok (.iastore, 1) := by decide +kernel
theorem dX12_readsClause_86 : decode cX12_readsClause 86 = .ok (.aload_n 0, 1) := by decide +kernel
theorem dX12_readsClause_87 : decode cX12_readsClause 87 = .ok (.getfield 92, 3) := by decide +kernel
theorem dX12_readsClause_90 : decode cX12_readsClause 90 = .ok (.iload_n 2, 1) := by decide +kernel
theorem dX12_readsClause_91 : decode cX12_readsClause 91 = .ok (.iconst 0, 1) := by decide +kernel
theorem dX12_readsClause_92 : decode cX12_readsClause 92 = .ok (.iastore, 1) := by decide +kernel
theorem dX12_readsClause_93 : decode cX12_readsClause 93 = .ok (.aload_n 0, 1) := by decide +kernel
theorem dX12_readsClause_94 : decode cX12_readsClause 94 = .ok (.getfield 83, 3) := by decide +kernel
theorem dX12_readsClause_97 : decode cX12_readsClause 97 = .ok (.iload_n 2, 1) := by decide +kernel
theorem dX12_readsClause_98 : decode cX12_readsClause 98 = .ok (.aload_n 0, 1) := by decide +kernel
theorem dX12_readsClause_99 : decode cX12_readsClause 99 = .ok (.getfield 371, 3) := by decide +kernel
theorem dX12_readsClause_102 : decode cX12_readsClause 102 = .ok (.iastore, 1) := by decide +kernel
theorem dX12_readsClause_103 : decode cX12_readsClause 103 = .ok (.iload_n 1, 1) := by decide +kernel
theorem dX12_readsClause_104 : decode cX12_readsClause 104 = .ok (.bipush 120, 2) := by decide +kernel
theorem dX12_readsClause_106 : decode cX12_readsClause 106 = .ok (.if_icmp .ne 36, 3) := by decide +kernel
theorem dX12_readsClause_109 : decode cX12_readsClause 109 = .ok (.aload_n 0, 1) := by decide +kernel
theorem dX12_readsClause_110 : decode cX12_readsClause 110 = .ok (.bipush 46, 2) := by decide +kernel
theorem dX12_readsClause_112 : decode cX12_readsClause 112 = .ok (.invokevirtual 435, 3) := by decide +kernel
theorem dX12_readsClause_115 : decode cX12_readsClause 115 = .ok (.ifCond .eq 12, 3) := by decide +kernel
theorem dX12_readsClause_118 : decode cX12_readsClause 118 = .ok (.aload_n 0, 1) := by decide +kernel
theorem dX12_readsClause_119 : decode cX12_readsClause 119 = .ok (.bipush 9, 2) := by decide +kernel
theorem dX12_readsClause_121 : decode cX12_readsClause 121 = .ok (.invokevirtual 391, 3) := by decide +kernel
theorem dX12_readsClause_124 : decode cX12_readsClause 124 = .ok (.ifCond .ne 5, 3) := by decide +kernel
theorem dX12_readsClause_127 : decode cX12_readsClause 127 = .ok (.iconst 0, 1) := by decide +kernel
theorem dX12_readsClause_128 : decode cX12_readsClause 128 = .ok (.ireturn, 1) := by decide +kernel
theorem dX12_readsClause_129 : decode cX12_readsClause 129 = .ok (.aload_n 0, 1) := by decide +kernel
theorem dX12_readsClause_130 : decode cX12_readsClause 130 = .ok (.getfield 92, 3) := by decide +kernel
theorem dX12_readsClause_133 : decode cX12_readsClause 133 = .ok (.iload_n 2, 1) := by decide +kernel
theorem dX12_readsClause_134 : decode cX12_readsClause 134 = .ok (.aload_n 0, 1) := by decide +kernel
theorem dX12_readsClause_135 : decode cX12_readsClause 135 = .ok (.getfield 364, 3) := by decide +kernel
theorem dX12_readsClause_138 : decode cX12_readsClause 138 = .ok (.iastore, 1) := by decide +kernel
theorem dX12_readsClause_139 : decode cX12_readsClause 139 = .ok (.goto 21, 3) := by decide +kernel
theorem dX12_readsClause_142 : decode cX12_readsClause 142 = .ok (.aload_n 0, 1) := by decide +kernel
theorem dX12_readsClause_143 : decode cX12_readsClause 143 = .ok (.invokevirtual 354, 3) := by decide +kernel
theorem dX12_readsClause_146 : decode cX12_readsClause 146 = .ok (.bipush 40, 2) := by decide +kernel
theorem dX12_readsClause_148 : decode cX12_readsClause 148 = .ok (.if_icmp .ne 12, 3) := by decide +kernel
theorem dX12_readsClause_151 : decode cX12_readsClause 151 = .ok (.aload_n 0, 1) := by decide +kernel
theorem dX12_readsClause_152 : decode cX12_readsClause 152 = .ok (.invokevirtual 438, 3) := by decide +kernel
theorem dX12_readsClause_155 : decode cX12_readsClause 155 = .ok (.ifCond .ne 5, 3) := by decide +kernel
theorem dX12_readsClause_158 : decode cX12_readsClause 158 = .ok (.iconst 0, 1) := by decide +kernel
theorem dX12_readsClause_159 : decode cX12_readsClause 159 = .ok (.ireturn, 1) := by decide +kernel
theorem dX12_readsClause_160 : decode cX12_readsClause 160 = .ok (.aload_n 0, 1) := by decide +kernel
theorem dX12_readsClause_161 : decode cX12_readsClause 161 = .ok (.getfield 86, 3) := by decide +kernel
theorem dX12_readsClause_164 : decode cX12_readsClause 164 = .ok (.iload_n 2, 1) := by decide +kernel
theorem dX12_readsClause_165 : decode cX12_readsClause 165 = .ok (.aload_n 0, 1) := by decide +kernel
theorem dX12_readsClause_166 : decode cX12_readsClause 166 = .ok (.getfield 371, 3) := by decide +kernel
theorem dX12_readsClause_169 : decode cX12_readsClause 169 = .ok (.iastore, 1) := by decide +kernel
theorem dX12_readsClause_170 : decode cX12_readsClause 170 = .ok (.aload_n 0, 1) := by decide +kernel
theorem dX12_readsClause_171 : decode cX12_readsClause 171 = .ok (.aload_n 0, 1) := by decide +kernel
theorem dX12_readsClause_172 : decode cX12_readsClause 172 = .ok (.getfield 429, 3) := by decide +kernel
theorem dX12_readsClause_175 : decode cX12_readsClause 175 = .ok (.iconst 1, 1) := by decide +kernel
theorem dX12_readsClause_176 : decode cX12_readsClause 176 = .ok (.iadd, 1) := by decide +kernel
theorem dX12_readsClause_177 : decode cX12_readsClause 177 = .ok (.putfield 429, 3) := by decide +kernel
theorem dX12_readsClause_180 : decode cX12_readsClause 180 = .ok (.iconst 1, 1) := by decide +kernel
theorem dX12_readsClause_181 : decode cX12_readsClause 181 = .ok (.ireturn, 1) := by decide +kernel
theorem dX12_rules_0 : decode cX12_rules 0 = .ok (.iload_n 1, 1) := by decide +kernel
theorem dX12_rules_1 : decode cX12_rules 1 = .ok (.invokestatic 320, 3) := by decide +kernel
theorem dX12_rules_4 : decode cX12_rules 4 = .ok (.ifCond .eq 42, 3) := by decide +kernel
theorem dX12_rules_7 : decode cX12_rules 7 = .ok (.iload_n 2, 1) := by decide +kernel
theorem dX12_rules_8 : decode cX12_rules 8 = .ok (.iload_n 1, 1) := by decide +kernel
theorem dX12_rules_9 : decode cX12_rules 9 = .ok (.sipush 9999, 3) := by decide +kernel
theorem dX12_rules_12 : decode cX12_rules 12 = .ok (.invokestatic 278, 3) := by decide +kernel
theorem dX12_rules_15 : decode cX12_rules 15 = .ok (.ifCond .eq 31, 3) := by decide +kernel
theorem dX12_rules_18 : decode cX12_rules 18 = .ok (.iload_n 3, 1) := by decide +kernel
theorem dX12_rules_19 : decode cX12_rules 19 = .ok (.iconst 1, 1) := by decide +kernel
theorem dX12_rules_20 : decode cX12_rules 20 = .ok (.sipush 160, 3) := by decide +kernel
theorem dX12_rules_23 : decode cX12_rules 23 = .ok (.invokestatic 278, 3) := by decide +kernel
theorem dX12_rules_26 : decode cX12_rules 26 = .ok (.ifCond .eq 20, 3) := by decide +kernel
theorem dX12_rules_29 : decode cX12_rules 29 = .ok (.iload_n 3, 1) := by decide +kernel
theorem dX12_rules_30 : decode cX12_rules 30 = .ok (.aload_n 0, 1) := by decide +kernel
theorem dX12_rules_31 : decode cX12_rules 31 = .ok (.getfield 341, 3) := by decide +kernel
theorem dX12_rules_34 : decode cX12_rules 34 = .ok (.if_icmp .gt 12, 3) := by decide +kernel
theorem dX12_rules_37 : decode cX12_rules 37 = .ok (.aload_n 0, 1) := by decide +kernel
theorem dX12_rules_38 : decode cX12_rules 38 = .ok (.getfield 441, 3) := by decide +kernel
theorem dX12_rules_41 : decode cX12_rules 41 = .ok (.bipush 20, 2) := by decide +kernel
theorem dX12_rules_43 : decode cX12_rules 43 = .ok (.if_icmp .ne 5, 3) := by decide +kernel
theorem dX12_rules_46 : decode cX12_rules 46 = .ok (.iconst (-1), 1) := by decide +kernel
theorem dX12_rules_47 : decode cX12_rules 47 = .ok (.ireturn, 1) := by decide +kernel
theorem dX12_rules_48 : decode cX12_rules 48 = .ok (.aload_n 0, 1) := by decide +kernel
theorem dX12_rules_49 : decode cX12_rules 49 = .ok (.iconst 0, 1) := by decide +kernel
theorem dX12_rules_50 : decode cX12_rules 50 = .ok (.putfield 348, 3) := by decide +kernel
theorem dX12_rules_53 : decode cX12_rules 53 = .ok (.aload_n 0, 1) := by decide +kernel
theorem dX12_rules_54 : decode cX12_rules 54 = .ok (.iload_n 3, 1) := by decide +kernel
theorem dX12_rules_55 : decode cX12_rules 55 = .ok (.putfield 351, 3) := by decide +kernel
theorem dX12_rules_58 : decode cX12_rules 58 = .ok (.aload_n 0, 1) := by decide +kernel
theorem dX12_rules_59 : decode cX12_rules 59 = .ok (.iconst 0, 1) := by decide +kernel
theorem dX12_rules_60 : decode cX12_rules 60 = .ok (.putfield 371, 3) := by decide +kernel
theorem dX12_rules_63 : decode cX12_rules 63 = .ok (.aload_n 0, 1) := by decide +kernel
theorem dX12_rules_64 : decode cX12_rules 64 = .ok (.iconst 0, 1) := by decide +kernel
theorem dX12_rules_65 : decode cX12_rules 65 = .ok (.putfield 429, 3) := by decide +kernel
theorem dX12_rules_68 : decode cX12_rules 68 = .ok (.aload_n 0, 1) := by decide +kernel
theorem dX12_rules_69 : decode cX12_rules 69 = .ok (.invokevirtual 444, 3) := by decide +kernel
theorem dX12_rules_72 : decode cX12_rules 72 = .ok (.istore 4, 2) := by decide +kernel
theorem dX12_rules_74 : decode cX12_rules 74 = .ok (.iload 4, 2) := by decide +kernel
theorem dX12_rules_76 : decode cX12_rules 76 = .ok (.ifCond .eq 40, 3) := by decide +kernel
theorem dX12_rules_79 : decode cX12_rules 79 = .ok (.aload_n 0, 1) := by decide +kernel
theorem dX12_rules_80 : decode cX12_rules 80 = .ok (.getfield 348, 3) := by decide +kernel
theorem dX12_rules_83 : decode cX12_rules 83 = .ok (.aload_n 0, 1) := by decide +kernel
theorem dX12_rules_84 : decode cX12_rules 84 = .ok (.getfield 351, 3) := by decide +kernel
theorem dX12_rules_87 : decode cX12_rules 87 = .ok (.if_icmp .ge 29, 3) := by decide +kernel
theorem dX12_rules_90 : decode cX12_rules 90 = .ok (.aload_n 0, 1) := by decide +kernel
theorem dX12_rules_91 : decode cX12_rules 91 = .ok (.bipush 59, 2) := by decide +kernel
theorem dX12_rules_93 : decode cX12_rules 93 = .ok (.invokevirtual 435, 3) := by decide +kernel
theorem dX12_rules_96 : decode cX12_rules 96 = .ok (.ifCond .eq 14, 3) := by decide +kernel
theorem dX12_rules_99 : decode cX12_rules 99 = .ok (.aload_n 0, 1) := by decide +kernel
theorem dX12_rules_100 : decode cX12_rules 100 = .ok (.invokevirtual 444, 3) := by decide +kernel
theorem dX12_rules_103 : decode cX12_rules 103 = .ok (.ifCond .eq 7, 3) := by decide +kernel
theorem dX12_rules_106 : decode cX12_rules 106 = .ok (.iconst 1, 1) := by decide +kernel
theorem dX12_rules_107 : decode cX12_rules 107 = .ok (.goto 4, 3) := by decide +kernel
theorem dX12_rules_110 : decode cX12_rules 110 = .ok (.iconst 0, 1) := by decide +kernel
theorem dX12_rules_111 : decode cX12_rules 111 = .ok (.istore 4, 2) := by decide +kernel
theorem dX12_rules_113 : decode cX12_rules 113 = .ok (.goto (-39), 3) := by decide +kernel
theorem dX12_rules_116 : decode cX12_rules 116 = .ok (.aload_n 0, 1) := by decide +kernel
theorem dX12_rules_117 : decode cX12_rules 117 = .ok (.iconst 0, 1) := by decide +kernel
theorem dX12_rules_118 : decode cX12_rules 118 = .ok (.putfield 341, 3) := by decide +kernel
theorem dX12_rules_121 : decode cX12_rules 121 = .ok (.iload 4, 2) := by decide +kernel
theorem dX12_rules_123 : decode cX12_rules 123 = .ok (.ifCond .ne 8, 3) := by decide +kernel
theorem dX12_rules_126 : decode cX12_rules 126 = .ok (.aload_n 0, 1) := by decide +kernel
theorem dX12_rules_127 : decode cX12_rules 127 = .ok (.getfield 358, 3) := by decide +kernel
theorem dX12_rules_130 : decode cX12_rules 130 = .ok (.ireturn, 1) := by decide +kernel
theorem dX12_rules_131 : decode cX12_rules 131 = .ok (.aload_n 0, 1) := by decide +kernel
theorem dX12_rules_132 : decode cX12_rules 132 = .ok (.getfield 98, 3) := by decide +kernel
theorem dX12_rules_135 : decode cX12_rules 135 = .ok (.aload_n 0, 1) := by decide +kernel
theorem dX12_rules_136 : decode cX12_rules 136 = .ok (.getfield 441, 3) := by decide +kernel
theorem dX12_rules_139 : decode cX12_rules 139 = .ok (.iload_n 1, 1) := by decide +kernel
theorem dX12_rules_140 : decode cX12_rules 140 = .ok (.iastore, 1) := by decide +kernel
theorem dX12_rules_141 : decode cX12_rules 141 = .ok (.aload_n 0, 1) := by decide +kernel
theorem dX12_rules_142 : decode cX12_rules 142 = .ok (.getfield 101, 3) := by decide +kernel
theorem dX12_rules_145 : decode cX12_rules 145 = .ok (.aload_n 0, 1) := by decide +kernel
theorem dX12_rules_146 : decode cX12_rules 146 = .ok (.getfield 441, 3) := by decide +kernel
theorem dX12_rules_149 : decode cX12_rules 149 = .ok (.iload_n 2, 1) := by decide +kernel
theorem dX12_rules_150 : decode cX12_rules 150 = .ok (.iastore, 1) := by decide +kernel
theorem dX12_rules_151 : decode cX12_rules 151 = .ok (.aload_n 0, 1) := by decide +kernel
theorem dX12_rules_152 : decode cX12_rules 152 = .ok (.getfield 104, 3) := by decide +kernel
theorem dX12_rules_155 : decode cX12_rules 155 = .ok (.aload_n 0, 1) := by decide +kernel
theorem dX12_rules_156 : decode cX12_rules 156 = .ok (.getfield 441, 3) := by decide +kernel
theorem dX12_rules_159 : decode cX12_rules 159 = .ok (.aload_n 0, 1) := by decide +kernel
theorem dX12_rules_160 : decode cX12_rules 160 = .ok (.getfield 429, 3) := by decide +kernel
theorem dX12_rules_163 : decode cX12_rules 163 = .ok (.iastore, 1) := by decide +kernel
theorem dX12_rules_164 : decode cX12_rules 164 = .ok (.iconst 0, 1) := by decide +kernel
theorem dX12_rules_165 : decode cX12_rules 165 = .ok (.istore 5, 2) := by decide +kernel
theorem dX12_rules_167 : decode cX12_rules 167 = .ok (.iload 5, 2) := by decide +kernel
theorem dX12_rules_169 : decode cX12_rules 169 = .ok (.aload_n 0, 1) := by decide +kernel
theorem dX12_rules_170 : decode cX12_rules 170 = .ok (.getfield 371, 3) := by decide +kernel
theorem dX12_rules_173 : decode cX12_rules 173 = .ok (.if_icmp .ge 32, 3) := by decide +kernel
theorem dX12_rules_176 : decode cX12_rules 176 = .ok (.aload_n 0, 1) := by decide +kernel
theorem dX12_rules_177 : decode cX12_rules 177 = .ok (.getfield 95, 3) := by decide +kernel
theorem dX12_rules_180 : decode cX12_rules 180 = .ok (.sipush 180, 3) := by decide +kernel
theorem dX12_rules_183 : decode cX12_rules 183 = .ok (.aload_n 0, 1) := by decide +kernel
theorem dX12_rules_184 : decode cX12_rules 184 = .ok (.getfield 441, 3) := by decide +kernel
theorem dX12_rules_187 : decode cX12_rules 187 = .ok (.imul, 1) := by decide +kernel
theorem dX12_rules_188 : decode cX12_rules 188 = .ok (.iload 5, 2) := by decide +kernel
theorem dX12_rules_190 : decode cX12_rules 190 = .ok (.iadd, 1) := by decide +kernel
theorem dX12_rules_191 : decode cX12_rules 191 = .ok (.aload_n 0, 1) := by decide +kernel
theorem dX12_rules_192 : decode cX12_rules 192 = .ok (.getfield 74, 3) := by decide +kernel
theorem dX12_rules_195 : decode cX12_rules 195 = .ok (.iload 5, 2) := by decide +kernel
theorem dX12_rules_197 : decode cX12_rules 197 = .ok (.iaload, 1) := by decide +kernel
theorem dX12_rules_198 : decode cX12_rules 198 = .ok (.iastore, 1) := by decide +kernel
theorem dX12_rules_199 : decode cX12_rules 199 = .ok (.iinc 5 1, 3) := by decide +kernel
theorem dX12_rules_202 : decode cX12_rules 202 = .ok (.goto (-35), 3) := by decide +kernel
theorem dX12_rules_205 : decode cX12_rules 205 = .ok (.iconst 0, 1) := by decide +kernel
theorem dX12_rules_206 : decode cX12_rules 206 = .ok (.istore 5, 2) := by decide +kernel
theorem dX12_rules_208 : decode cX12_rules 208 = .ok (.iload 5, 2) := by decide +kernel
theorem dX12_rules_210 : decode cX12_rules 210 = .ok (.aload_n 0, 1) := by decide +kernel
theorem dX12_rules_211 : decode cX12_rules 211 = .ok (.getfield 429, 3) := by decide +kernel
theorem dX12_rules_214 : decode cX12_rules 214 = .ok (.if_icmp .ge 109, 3) := by decide +kernel
theorem dX12_rules_217 : decode cX12_rules 217 = .ok (.bipush 10, 2) := by decide +kernel
theorem dX12_rules_219 : decode cX12_rules 219 = .ok (.aload_n 0, 1) := by decide +kernel
theorem dX12_rules_220 : decode cX12_rules 220 = .ok (.getfield 441, 3) := by decide +kernel
theorem dX12_rules_223 : decode cX12_rules 223 = .ok (.imul, 1) := by decide +kernel
theorem dX12_rules_224 : decode cX12_rules 224 = .ok (.iload 5, 2) := by decide +kernel
theorem dX12_rules_226 : decode cX12_rules 226 = .ok (.iadd, 1) := by decide +kernel
theorem dX12_rules_227 : decode cX12_rules 227 = .ok (.istore 6, 2) := by decide +kernel
theorem dX12_rules_229 : decode cX12_rules 229 = .ok (.aload_n 0, 1) := by decide +kernel
theorem dX12_rules_230 : decode cX12_rules 230 = .ok (.getfield 107, 3) := by decide +kernel
theorem dX12_rules_233 : decode cX12_rules 233 = .ok (.iload 6, 2) := by decide +kernel
theorem dX12_rules_235 : decode cX12_rules 235 = .ok (.aload_n 0, 1) := by decide +kernel
theorem dX12_rules_236 : decode cX12_rules 236 = .ok (.getfield 80, 3) := by decide +kernel
theorem dX12_rules_239 : decode cX12_rules 239 = .ok (.iload 5, 2) := by decide +kernel
theorem dX12_rules_241 : decode cX12_rules 241 = .ok (.iaload, 1) := by decide +kernel
theorem dX12_rules_242 : decode cX12_rules 242 = .ok (.iastore, 1) := by decide +kernel
theorem dX12_rules_243 : decode cX12_rules 243 = .ok (.aload_n 0, 1) := by decide +kernel
theorem dX12_rules_244 : decode cX12_rules 244 = .ok (.getfield 116, 3) := by decide +kernel
theorem dX12_rules_247 : decode cX12_rules 247 = .ok (.iload 6, 2) := by decide +kernel
theorem dX12_rules_249 : decode cX12_rules 249 = .ok (.aload_n 0, 1) := by decide +kernel
theorem dX12_rules_250 : decode cX12_rules 250 = .ok (.getfield 89, 3) := by decide +kernel
theorem dX12_rules_253 : decode cX12_rules 253 = .ok (.iload 5, 2) := by decide +kernel
theorem dX12_rules_255 : decode cX12_rules 255 = .ok (.iaload, 1) := by decide +kernel
theorem dX12_rules_256 : decode cX12_rules 256 = .ok (.iastore, 1) := by decide +kernel
theorem dX12_rules_257 : decode cX12_rules 257 = .ok (.aload_n 0, 1) := by decide +kernel
theorem dX12_rules_258 : decode cX12_rules 258 = .ok (.getfield 119, 3) := by decide +kernel
theorem dX12_rules_261 : decode cX12_rules 261 = .ok (.iload 6, 2) := by decide +kernel
theorem dX12_rules_263 : decode cX12_rules 263 = .ok (.aload_n 0, 1) := by decide +kernel
theorem dX12_rules_264 : decode cX12_rules 264 = .ok (.getfield 92, 3) := by decide +kernel
theorem dX12_rules_267 : decode cX12_rules 267 = .ok (.iload 5, 2) := by decide +kernel
theorem dX12_rules_269 : decode cX12_rules 269 = .ok (.iaload, 1) := by decide +kernel
theorem dX12_rules_270 : decode cX12_rules 270 = .ok (.iastore, 1) := by decide +kernel
theorem dX12_rules_271 : decode cX12_rules 271 = .ok (.aload_n 0, 1) := by decide +kernel
theorem dX12_rules_272 : decode cX12_rules 272 = .ok (.getfield 110, 3) := by decide +kernel
theorem dX12_rules_275 : decode cX12_rules 275 = .ok (.iload 6, 2) := by decide +kernel
theorem dX12_rules_277 : decode cX12_rules 277 = .ok (.sipush 180, 3) := by decide +kernel
theorem dX12_rules_280 : decode cX12_rules 280 = .ok (.aload_n 0, 1) := by decide +kernel
theorem dX12_rules_281 : decode cX12_rules 281 = .ok (.getfield 441, 3) := by decide +kernel
theorem dX12_rules_284 : decode cX12_rules 284 = .ok (.imul, 1) := by decide +kernel
theorem dX12_rules_285 : decode cX12_rules 285 = .ok (.aload_n 0, 1) := by decide +kernel
theorem dX12_rules_286 : decode cX12_rules 286 = .ok (.getfield 83, 3) := by decide +kernel
theorem dX12_rules_289 : decode cX12_rules 289 = .ok (.iload 5, 2) := by decide +kernel
theorem dX12_rules_291 : decode cX12_rules 291 = .ok (.iaload, 1) := by decide +kernel
theorem dX12_rules_292 : decode cX12_rules 292 = .ok (.iadd, 1) := by decide +kernel
theorem dX12_rules_293 : decode cX12_rules 293 = .ok (.iastore, 1) := by decide +kernel
theorem dX12_rules_294 : decode cX12_rules 294 = .ok (.aload_n 0, 1) := by decide +kernel
theorem dX12_rules_295 : decode cX12_rules 295 = .ok (.getfield 113, 3) := by decide +kernel
theorem dX12_rules_298 : decode cX12_rules 298 = .ok (.iload 6, 2) := by decide +kernel
theorem dX12_rules_300 : decode cX12_rules 300 = .ok (.sipush 180, 3) := by decide +kernel
theorem dX12_rules_303 : decode cX12_rules 303 = .ok (.aload_n 0, 1) := by decide +kernel
theorem dX12_rules_304 : decode cX12_rules 304 = .ok (.getfield 441, 3) := by decide +kernel
theorem dX12_rules_307 : decode cX12_rules 307 = .ok (.imul, 1) := by decide +kernel
theorem dX12_rules_308 : decode cX12_rules 308 = .ok (.aload_n 0, 1) := by decide +kernel
theorem dX12_rules_309 : decode cX12_rules 309 = .ok (.getfield 86, 3) := by decide +kernel
theorem dX12_rules_312 : decode cX12_rules 312 = .ok (.iload 5, 2) := by decide +kernel
theorem dX12_rules_314 : decode cX12_rules 314 = .ok (.iaload, 1) := by decide +kernel
theorem dX12_rules_315 : decode cX12_rules 315 = .ok (.iadd, 1) := by decide +kernel
theorem dX12_rules_316 : decode cX12_rules 316 = .ok (.iastore, 1) := by decide +kernel
theorem dX12_rules_317 : decode cX12_rules 317 = .ok (.iinc 5 1, 3) := by decide +kernel
theorem dX12_rules_320 : decode cX12_rules 320 = .ok (.goto (-112), 3) := by decide +kernel
theorem dX12_rules_323 : decode cX12_rules 323 = .ok (.aload_n 0, 1) := by decide +kernel
theorem dX12_rules_324 : decode cX12_rules 324 = .ok (.aload_n 0, 1) := by decide +kernel
theorem dX12_rules_325 : decode cX12_rules 325 = .ok (.getfield 441, 3) := by decide +kernel
theorem dX12_rules_328 : decode cX12_rules 328 = .ok (.iconst 1, 1) := by decide +kernel
theorem dX12_rules_329 : decode cX12_rules 329 = .ok (.iadd, 1) := by decide +kernel
theorem dX12_rules_330 : decode cX12_rules 330 = .ok (.putfield 441, 3) := by decide +kernel
theorem dX12_rules_333 : decode cX12_rules 333 = .ok (.aload_n 0, 1) := by decide +kernel
theorem dX12_rules_334 : decode cX12_rules 334 = .ok (.getfield 441, 3) := by decide +kernel
theorem dX12_rules_337 : decode cX12_rules 337 = .ok (.iconst 1, 1) := by decide +kernel
theorem dX12_rules_338 : decode cX12_rules 338 = .ok (.isub, 1) := by decide +kernel
theorem dX12_rules_339 : decode cX12_rules 339 = .ok (.ireturn, 1) := by decide +kernel
theorem dX12_isForce_0 : decode cX12_isForce 0 = .ok (.iload_n 2, 1) := by decide +kernel
theorem dX12_isForce_1 : decode cX12_isForce 1 = .ok (.aload_n 0, 1) := by decide +kernel
theorem dX12_isForce_2 : decode cX12_isForce 2 = .ok (.getfield 98, 3) := by decide +kernel
theorem dX12_isForce_5 : decode cX12_isForce 5 = .ok (.iload_n 1, 1) := by decide +kernel
theorem dX12_isForce_6 : decode cX12_isForce 6 = .ok (.iaload, 1) := by decide +kernel
theorem dX12_isForce_7 : decode cX12_isForce 7 = .ok (.aload_n 0, 1) := by decide +kernel
theorem dX12_isForce_8 : decode cX12_isForce 8 = .ok (.getfield 101, 3) := by decide +kernel
theorem dX12_isForce_11 : decode cX12_isForce 11 = .ok (.iload_n 1, 1) := by decide +kernel
theorem dX12_isForce_12 : decode cX12_isForce 12 = .ok (.iaload, 1) := by decide +kernel
theorem dX12_isForce_13 : decode cX12_isForce 13 = .ok (.invokestatic 278, 3) := by decide +kernel
theorem dX12_isForce_16 : decode cX12_isForce 16 = .ok (.ireturn, 1) := by decide +kernel
theorem dX12_strikes_0 : decode cX12_strikes 0 = .ok (.iconst 0, 1) := by decide +kernel
theorem dX12_strikes_1 : decode cX12_strikes 1 = .ok (.istore_n 2, 1) := by decide +kernel
theorem dX12_strikes_2 : decode cX12_strikes 2 = .ok (.iload_n 2, 1) := by decide +kernel
theorem dX12_strikes_3 : decode cX12_strikes 3 = .ok (.bipush 10, 2) := by decide +kernel
theorem dX12_strikes_5 : decode cX12_strikes 5 = .ok (.aload_n 0, 1) := by decide +kernel
theorem dX12_strikes_6 : decode cX12_strikes 6 = .ok (.getfield 441, 3) := by decide +kernel
theorem dX12_strikes_9 : decode cX12_strikes 9 = .ok (.imul, 1) := by decide +kernel
theorem dX12_strikes_10 : decode cX12_strikes 10 = .ok (.if_icmp .ge 16, 3) := by decide +kernel
theorem dX12_strikes_13 : decode cX12_strikes 13 = .ok (.aload_n 0, 1) := by decide +kernel
theorem dX12_strikes_14 : decode cX12_strikes 14 = .ok (.getfield 122, 3) := by decide +kernel
theorem dX12_strikes_17 : decode cX12_strikes 17 = .ok (.iload_n 2, 1) := by decide +kernel
theorem dX12_strikes_18 : decode cX12_strikes 18 = .ok (.iconst 0, 1) := by decide +kernel
theorem dX12_strikes_19 : decode cX12_strikes 19 = .ok (.bastore, 1) := by decide +kernel
theorem dX12_strikes_20 : decode cX12_strikes 20 = .ok (.iinc 2 1, 3) := by decide +kernel
theorem dX12_strikes_23 : decode cX12_strikes 23 = .ok (.goto (-21), 3) := by decide +kernel
theorem dX12_strikes_26 : decode cX12_strikes 26 = .ok (.aload_n 0, 1) := by decide +kernel
theorem dX12_strikes_27 : decode cX12_strikes 27 = .ok (.getfield 441, 3) := by decide +kernel
theorem dX12_strikes_30 : decode cX12_strikes 30 = .ok (.iconst 1, 1) := by decide +kernel
theorem dX12_strikes_31 : decode cX12_strikes 31 = .ok (.isub, 1) := by decide +kernel
theorem dX12_strikes_32 : decode cX12_strikes 32 = .ok (.istore_n 2, 1) := by decide +kernel
theorem dX12_strikes_33 : decode cX12_strikes 33 = .ok (.iload_n 2, 1) := by decide +kernel
theorem dX12_strikes_34 : decode cX12_strikes 34 = .ok (.ifCond .lt 116, 3) := by decide +kernel
theorem dX12_strikes_37 : decode cX12_strikes 37 = .ok (.iconst 0, 1) := by decide +kernel
theorem dX12_strikes_38 : decode cX12_strikes 38 = .ok (.istore_n 3, 1) := by decide +kernel
theorem dX12_strikes_39 : decode cX12_strikes 39 = .ok (.iload_n 3, 1) := by decide +kernel
theorem dX12_strikes_40 : decode cX12_strikes 40 = .ok (.aload_n 0, 1) := by decide +kernel
theorem dX12_strikes_41 : decode cX12_strikes 41 = .ok (.getfield 104, 3) := by decide +kernel
theorem dX12_strikes_44 : decode cX12_strikes 44 = .ok (.iload_n 2, 1) := by decide +kernel
theorem dX12_strikes_45 : decode cX12_strikes 45 = .ok (.iaload, 1) := by decide +kernel
theorem dX12_strikes_46 : decode cX12_strikes 46 = .ok (.if_icmp .ge 98, 3) := by decide +kernel
theorem dX12_strikes_49 : decode cX12_strikes 49 = .ok (.aload_n 0, 1) := by decide +kernel
theorem dX12_strikes_50 : decode cX12_strikes 50 = .ok (.iload_n 2, 1) := by decide +kernel
theorem dX12_strikes_51 : decode cX12_strikes 51 = .ok (.iload_n 1, 1) := by decide +kernel
theorem dX12_strikes_52 : decode cX12_strikes 52 = .ok (.invokevirtual 447, 3) := by decide +kernel
theorem dX12_strikes_55 : decode cX12_strikes 55 = .ok (.ifCond .eq 89, 3) := by decide +kernel
theorem dX12_strikes_58 : decode cX12_strikes 58 = .ok (.bipush 10, 2) := by decide +kernel
theorem dX12_strikes_60 : decode cX12_strikes 60 = .ok (.iload_n 2, 1) := by decide +kernel
theorem dX12_strikes_61 : decode cX12_strikes 61 = .ok (.imul, 1) := by decide +kernel
theorem dX12_strikes_62 : decode cX12_strikes 62 = .ok (.iload_n 3, 1) := by decide +kernel
theorem dX12_strikes_63 : decode cX12_strikes 63 = .ok (.iadd, 1) := by decide +kernel
theorem dX12_strikes_64 : decode cX12_strikes 64 = .ok (.istore 4, 2) := by decide +kernel
theorem dX12_strikes_66 : decode cX12_strikes 66 = .ok (.aload_n 0, 1) := by decide +kernel
theorem dX12_strikes_67 : decode cX12_strikes 67 = .ok (.getfield 107, 3) := by decide +kernel
theorem dX12_strikes_70 : decode cX12_strikes 70 = .ok (.iload 4, 2) := by decide +kernel
theorem dX12_strikes_72 : decode cX12_strikes 72 = .ok (.iaload, 1) := by decide +kernel
theorem dX12_strikes_73 : decode cX12_strikes 73 = .ok (.bipush 120, 2) := by decide +kernel
theorem dX12_strikes_75 : decode cX12_strikes 75 = .ok (.if_icmp .ne 63, 3) := by decide +kernel
theorem dX12_strikes_78 : decode cX12_strikes 78 = .ok (.aload_n 0, 1) := by decide +kernel
theorem dX12_strikes_79 : decode cX12_strikes 79 = .ok (.getfield 122, 3) := by decide +kernel
theorem dX12_strikes_82 : decode cX12_strikes 82 = .ok (.iload 4, 2) := by decide +kernel
theorem dX12_strikes_84 : decode cX12_strikes 84 = .ok (.baload, 1) := by decide +kernel
theorem dX12_strikes_85 : decode cX12_strikes 85 = .ok (.ifCond .ne 53, 3) := by decide +kernel
theorem dX12_strikes_88 : decode cX12_strikes 88 = .ok (.aload_n 0, 1) := by decide +kernel
theorem dX12_strikes_89 : decode cX12_strikes 89 = .ok (.getfield 116, 3) := by decide +kernel
theorem dX12_strikes_92 : decode cX12_strikes 92 = .ok (.iload 4, 2) := by decide +kernel
theorem dX12_strikes_94 : decode cX12_strikes 94 = .ok (.iaload, 1) := by decide +kernel
theorem dX12_strikes_95 : decode cX12_strikes 95 = .ok (.iload_n 2, 1) := by decide +kernel
theorem dX12_strikes_96 : decode cX12_strikes 96 = .ok (.if_icmp .ge 42, 3) := by decide +kernel
theorem dX12_strikes_99 : decode cX12_strikes 99 = .ok (.aload_n 0, 1) := by decide +kernel
theorem dX12_strikes_100 : decode cX12_strikes 100 = .ok (.aload_n 0, 1) := by decide +kernel
theorem dX12_strikes_101 : decode cX12_strikes 101 = .ok (.getfield 116, 3) := by decide +kernel
theorem dX12_strikes_104 : decode cX12_strikes 104 = .ok (.iload 4, 2) := by decide +kernel
theorem dX12_strikes_106 : decode cX12_strikes 106 = .ok (.iaload, 1) := by decide +kernel
theorem dX12_strikes_107 : decode cX12_strikes 107 = .ok (.iload_n 1, 1) := by decide +kernel
theorem dX12_strikes_108 : decode cX12_strikes 108 = .ok (.invokevirtual 447, 3) := by decide +kernel
theorem dX12_strikes_111 : decode cX12_strikes 111 = .ok (.ifCond .eq 27, 3) := by decide +kernel
theorem dX12_strikes_114 : decode cX12_strikes 114 = .ok (.aload_n 0, 1) := by decide +kernel
theorem dX12_strikes_115 : decode cX12_strikes 115 = .ok (.getfield 122, 3) := by decide +kernel
theorem dX12_strikes_118 : decode cX12_strikes 118 = .ok (.bipush 10, 2) := by decide +kernel
theorem dX12_strikes_120 : decode cX12_strikes 120 = .ok (.aload_n 0, 1) := by decide +kernel
theorem dX12_strikes_121 : decode cX12_strikes 121 = .ok (.getfield 116, 3) := by decide +kernel
theorem dX12_strikes_124 : decode cX12_strikes 124 = .ok (.iload 4, 2) := by decide +kernel
theorem dX12_strikes_126 : decode cX12_strikes 126 = .ok (.iaload, 1) := by decide +kernel
theorem dX12_strikes_127 : decode cX12_strikes 127 = .ok (.imul, 1) := by decide +kernel
theorem dX12_strikes_128 : decode cX12_strikes 128 = .ok (.aload_n 0, 1) := by decide +kernel
theorem dX12_strikes_129 : decode cX12_strikes 129 = .ok (.getfield 119, 3) := by decide +kernel
theorem dX12_strikes_132 : decode cX12_strikes 132 = .ok (.iload 4, 2) := by decide +kernel
theorem dX12_strikes_134 : decode cX12_strikes 134 = .ok (.iaload, 1) := by decide +kernel
theorem dX12_strikes_135 : decode cX12_strikes 135 = .ok (.iadd, 1) := by decide +kernel
theorem dX12_strikes_136 : decode cX12_strikes 136 = .ok (.iconst 1, 1) := by decide +kernel
theorem dX12_strikes_137 : decode cX12_strikes 137 = .ok (.bastore, 1) := by decide +kernel
theorem dX12_strikes_138 : decode cX12_strikes 138 = .ok (.iinc 3 1, 3) := by decide +kernel
theorem dX12_strikes_141 : decode cX12_strikes 141 = .ok (.goto (-102), 3) := by decide +kernel
theorem dX12_strikes_144 : decode cX12_strikes 144 = .ok (.iinc 2 (-1), 3) := by decide +kernel
theorem dX12_strikes_147 : decode cX12_strikes 147 = .ok (.goto (-114), 3) := by decide +kernel
theorem dX12_strikes_150 : decode cX12_strikes 150 = .ok (.return_, 1) := by decide +kernel
theorem dX12_reckon_0 : decode cX12_reckon 0 = .ok (.iload_n 0, 1) := by decide +kernel
theorem dX12_reckon_1 : decode cX12_reckon 1 = .ok (.tableswitch 85 2 8 #[43, 47, 51, 55, 59, 63, 74], 43) := by decide +kernel
theorem dX12_reckon_44 : decode cX12_reckon 44 = .ok (.iload_n 1, 1) := by decide +kernel
theorem dX12_reckon_45 : decode cX12_reckon 45 = .ok (.iload_n 2, 1) := by decide +kernel
theorem dX12_reckon_46 : decode cX12_reckon 46 = .ok (.iadd, 1) := by decide +kernel
theorem dX12_reckon_47 : decode cX12_reckon 47 = .ok (.ireturn, 1) := by decide +kernel
theorem dX12_reckon_48 : decode cX12_reckon 48 = .ok (.iload_n 1, 1) := by decide +kernel
theorem dX12_reckon_49 : decode cX12_reckon 49 = .ok (.iload_n 2, 1) := by decide +kernel
theorem dX12_reckon_50 : decode cX12_reckon 50 = .ok (.isub, 1) := by decide +kernel
theorem dX12_reckon_51 : decode cX12_reckon 51 = .ok (.ireturn, 1) := by decide +kernel
theorem dX12_reckon_52 : decode cX12_reckon 52 = .ok (.iload_n 1, 1) := by decide +kernel
theorem dX12_reckon_53 : decode cX12_reckon 53 = .ok (.iload_n 2, 1) := by decide +kernel
theorem dX12_reckon_54 : decode cX12_reckon 54 = .ok (.imul, 1) := by decide +kernel
theorem dX12_reckon_55 : decode cX12_reckon 55 = .ok (.ireturn, 1) := by decide +kernel
theorem dX12_reckon_56 : decode cX12_reckon 56 = .ok (.iload_n 1, 1) := by decide +kernel
theorem dX12_reckon_57 : decode cX12_reckon 57 = .ok (.iload_n 2, 1) := by decide +kernel
theorem dX12_reckon_58 : decode cX12_reckon 58 = .ok (.idiv, 1) := by decide +kernel
theorem dX12_reckon_59 : decode cX12_reckon 59 = .ok (.ireturn, 1) := by decide +kernel
theorem dX12_reckon_60 : decode cX12_reckon 60 = .ok (.iload_n 1, 1) := by decide +kernel
theorem dX12_reckon_61 : decode cX12_reckon 61 = .ok (.iload_n 2, 1) := by decide +kernel
theorem dX12_reckon_62 : decode cX12_reckon 62 = .ok (.irem, 1) := by decide +kernel
theorem dX12_reckon_63 : decode cX12_reckon 63 = .ok (.ireturn, 1) := by decide +kernel
theorem dX12_reckon_64 : decode cX12_reckon 64 = .ok (.iload_n 1, 1) := by decide +kernel
theorem dX12_reckon_65 : decode cX12_reckon 65 = .ok (.iload_n 2, 1) := by decide +kernel
theorem dX12_reckon_66 : decode cX12_reckon 66 = .ok (.if_icmp .ge 7, 3) := by decide +kernel
theorem dX12_reckon_69 : decode cX12_reckon 69 = .ok (.iconst 1, 1) := by decide +kernel
theorem dX12_reckon_70 : decode cX12_reckon 70 = .ok (.goto 4, 3) := by decide +kernel
theorem dX12_reckon_73 : decode cX12_reckon 73 = .ok (.iconst 0, 1) := by decide +kernel
theorem dX12_reckon_74 : decode cX12_reckon 74 = .ok (.ireturn, 1) := by decide +kernel
theorem dX12_reckon_75 : decode cX12_reckon 75 = .ok (.iload_n 1, 1) := by decide +kernel
theorem dX12_reckon_76 : decode cX12_reckon 76 = .ok (.iload_n 2, 1) := by decide +kernel
theorem dX12_reckon_77 : decode cX12_reckon 77 = .ok (.if_icmp .le 7, 3) := by decide +kernel
theorem dX12_reckon_80 : decode cX12_reckon 80 = .ok (.iconst 1, 1) := by decide +kernel
theorem dX12_reckon_81 : decode cX12_reckon 81 = .ok (.goto 4, 3) := by decide +kernel
theorem dX12_reckon_84 : decode cX12_reckon 84 = .ok (.iconst 0, 1) := by decide +kernel
theorem dX12_reckon_85 : decode cX12_reckon 85 = .ok (.ireturn, 1) := by decide +kernel
theorem dX12_reckon_86 : decode cX12_reckon 86 = .ok (.iload_n 1, 1) := by decide +kernel
theorem dX12_reckon_87 : decode cX12_reckon 87 = .ok (.iload_n 2, 1) := by decide +kernel
theorem dX12_reckon_88 : decode cX12_reckon 88 = .ok (.if_icmp .ne 7, 3) := by decide +kernel
theorem dX12_reckon_91 : decode cX12_reckon 91 = .ok (.iconst 1, 1) := by decide +kernel
theorem dX12_reckon_92 : decode cX12_reckon 92 = .ok (.goto 4, 3) := by decide +kernel
theorem dX12_reckon_95 : decode cX12_reckon 95 = .ok (.iconst 0, 1) := by decide +kernel
theorem dX12_reckon_96 : decode cX12_reckon 96 = .ok (.ireturn, 1) := by decide +kernel
theorem dX12_isTrue_0 : decode cX12_isTrue 0 = .ok (.iconst 0, 1) := by decide +kernel
theorem dX12_isTrue_1 : decode cX12_isTrue 1 = .ok (.istore_n 2, 1) := by decide +kernel
theorem dX12_isTrue_2 : decode cX12_isTrue 2 = .ok (.sipush 180, 3) := by decide +kernel
theorem dX12_isTrue_5 : decode cX12_isTrue 5 = .ok (.iload_n 1, 1) := by decide +kernel
theorem dX12_isTrue_6 : decode cX12_isTrue 6 = .ok (.bipush 10, 2) := by decide +kernel
theorem dX12_isTrue_8 : decode cX12_isTrue 8 = .ok (.idiv, 1) := by decide +kernel
theorem dX12_isTrue_9 : decode cX12_isTrue 9 = .ok (.imul, 1) := by decide +kernel
theorem dX12_isTrue_10 : decode cX12_isTrue 10 = .ok (.istore_n 3, 1) := by decide +kernel
theorem dX12_isTrue_11 : decode cX12_isTrue 11 = .ok (.aload_n 0, 1) := by decide +kernel
theorem dX12_isTrue_12 : decode cX12_isTrue 12 = .ok (.getfield 110, 3) := by decide +kernel
theorem dX12_isTrue_15 : decode cX12_isTrue 15 = .ok (.iload_n 1, 1) := by decide +kernel
theorem dX12_isTrue_16 : decode cX12_isTrue 16 = .ok (.iaload, 1) := by decide +kernel
theorem dX12_isTrue_17 : decode cX12_isTrue 17 = .ok (.istore 4, 2) := by decide +kernel
theorem dX12_isTrue_19 : decode cX12_isTrue 19 = .ok (.iload 4, 2) := by decide +kernel
theorem dX12_isTrue_21 : decode cX12_isTrue 21 = .ok (.aload_n 0, 1) := by decide +kernel
theorem dX12_isTrue_22 : decode cX12_isTrue 22 = .ok (.getfield 113, 3) := by decide +kernel
theorem dX12_isTrue_25 : decode cX12_isTrue 25 = .ok (.iload_n 1, 1) := by decide +kernel
theorem dX12_isTrue_26 : decode cX12_isTrue 26 = .ok (.iaload, 1) := by decide +kernel
theorem dX12_isTrue_27 : decode cX12_isTrue 27 = .ok (.if_icmp .ge 215, 3) := by decide +kernel
theorem dX12_isTrue_30 : decode cX12_isTrue 30 = .ok (.aload_n 0, 1) := by decide +kernel
theorem dX12_isTrue_31 : decode cX12_isTrue 31 = .ok (.getfield 95, 3) := by decide +kernel
theorem dX12_isTrue_34 : decode cX12_isTrue 34 = .ok (.iload 4, 2) := by decide +kernel
theorem dX12_isTrue_36 : decode cX12_isTrue 36 = .ok (.iaload, 1) := by decide +kernel
theorem dX12_isTrue_37 : decode cX12_isTrue 37 = .ok (.ldc_w 374, 3) := by decide +kernel
theorem dX12_isTrue_40 : decode cX12_isTrue 40 = .ok (.idiv, 1) := by decide +kernel
theorem dX12_isTrue_41 : decode cX12_isTrue 41 = .ok (.istore 5, 2) := by decide +kernel
theorem dX12_isTrue_43 : decode cX12_isTrue 43 = .ok (.aload_n 0, 1) := by decide +kernel
theorem dX12_isTrue_44 : decode cX12_isTrue 44 = .ok (.getfield 95, 3) := by decide +kernel
theorem dX12_isTrue_47 : decode cX12_isTrue 47 = .ok (.iload 4, 2) := by decide +kernel
theorem dX12_isTrue_49 : decode cX12_isTrue 49 = .ok (.iaload, 1) := by decide +kernel
theorem dX12_isTrue_50 : decode cX12_isTrue 50 = .ok (.ldc_w 374, 3) := by decide +kernel
theorem dX12_isTrue_53 : decode cX12_isTrue 53 = .ok (.irem, 1) := by decide +kernel
theorem dX12_isTrue_54 : decode cX12_isTrue 54 = .ok (.istore 6, 2) := by decide +kernel
theorem dX12_isTrue_56 : decode cX12_isTrue 56 = .ok (.iload 4, 2) := by decide +kernel
theorem dX12_isTrue_58 : decode cX12_isTrue 58 = .ok (.iconst 1, 1) := by decide +kernel
theorem dX12_isTrue_59 : decode cX12_isTrue 59 = .ok (.iadd, 1) := by decide +kernel
theorem dX12_isTrue_60 : decode cX12_isTrue 60 = .ok (.istore 4, 2) := by decide +kernel
theorem dX12_isTrue_62 : decode cX12_isTrue 62 = .ok (.iload 5, 2) := by decide +kernel
theorem dX12_isTrue_64 : decode cX12_isTrue 64 = .ok (.ifCond .eq 9, 3) := by decide +kernel
theorem dX12_isTrue_67 : decode cX12_isTrue 67 = .ok (.iload 5, 2) := by decide +kernel
theorem dX12_isTrue_69 : decode cX12_isTrue 69 = .ok (.iconst 1, 1) := by decide +kernel
theorem dX12_isTrue_70 : decode cX12_isTrue 70 = .ok (.if_icmp .ne 33, 3) := by decide +kernel
theorem dX12_isTrue_73 : decode cX12_isTrue 73 = .ok (.aload_n 0, 1) := by decide +kernel
theorem dX12_isTrue_74 : decode cX12_isTrue 74 = .ok (.getfield 126, 3) := by decide +kernel
theorem dX12_isTrue_77 : decode cX12_isTrue 77 = .ok (.iload_n 2, 1) := by decide +kernel
theorem dX12_isTrue_78 : decode cX12_isTrue 78 = .ok (.iload 5, 2) := by decide +kernel
theorem dX12_isTrue_80 : decode cX12_isTrue 80 = .ok (.ifCond .ne 8, 3) := by decide +kernel
theorem dX12_isTrue_83 : decode cX12_isTrue 83 = .ok (.iload 6, 2) := by decide +kernel
theorem dX12_isTrue_85 : decode cX12_isTrue 85 = .ok (.goto 10, 3) := by decide +kernel
theorem dX12_isTrue_88 : decode cX12_isTrue 88 = .ok (.aload_n 0, 1) := by decide +kernel
theorem dX12_isTrue_89 : decode cX12_isTrue 89 = .ok (.getfield 129, 3) := by decide +kernel
theorem dX12_isTrue_92 : decode cX12_isTrue 92 = .ok (.iload 6, 2) := by decide +kernel
theorem dX12_isTrue_94 : decode cX12_isTrue 94 = .ok (.iaload, 1) := by decide +kernel
theorem dX12_isTrue_95 : decode cX12_isTrue 95 = .ok (.iastore, 1) := by decide +kernel
theorem dX12_isTrue_96 : decode cX12_isTrue 96 = .ok (.iload_n 2, 1) := by decide +kernel
theorem dX12_isTrue_97 : decode cX12_isTrue 97 = .ok (.iconst 1, 1) := by decide +kernel
theorem dX12_isTrue_98 : decode cX12_isTrue 98 = .ok (.iadd, 1) := by decide +kernel
theorem dX12_isTrue_99 : decode cX12_isTrue 99 = .ok (.istore_n 2, 1) := by decide +kernel
theorem dX12_isTrue_100 : decode cX12_isTrue 100 = .ok (.goto 139, 3) := by decide +kernel
theorem dX12_isTrue_103 : decode cX12_isTrue 103 = .ok (.iload 5, 2) := by decide +kernel
theorem dX12_isTrue_105 : decode cX12_isTrue 105 = .ok (.bipush 10, 2) := by decide +kernel
theorem dX12_isTrue_107 : decode cX12_isTrue 107 = .ok (.if_icmp .ne 24, 3) := by decide +kernel
theorem dX12_isTrue_110 : decode cX12_isTrue 110 = .ok (.aload_n 0, 1) := by decide +kernel
theorem dX12_isTrue_111 : decode cX12_isTrue 111 = .ok (.getfield 126, 3) := by decide +kernel
theorem dX12_isTrue_114 : decode cX12_isTrue 114 = .ok (.iload_n 2, 1) := by decide +kernel
theorem dX12_isTrue_115 : decode cX12_isTrue 115 = .ok (.iconst 1, 1) := by decide +kernel
theorem dX12_isTrue_116 : decode cX12_isTrue 116 = .ok (.isub, 1) := by decide +kernel
theorem dX12_isTrue_117 : decode cX12_isTrue 117 = .ok (.iconst 1, 1) := by decide +kernel
theorem dX12_isTrue_118 : decode cX12_isTrue 118 = .ok (.aload_n 0, 1) := by decide +kernel
theorem dX12_isTrue_119 : decode cX12_isTrue 119 = .ok (.getfield 126, 3) := by decide +kernel
theorem dX12_isTrue_122 : decode cX12_isTrue 122 = .ok (.iload_n 2, 1) := by decide +kernel
theorem dX12_isTrue_123 : decode cX12_isTrue 123 = .ok (.iconst 1, 1) := by decide +kernel
theorem dX12_isTrue_124 : decode cX12_isTrue 124 = .ok (.isub, 1) := by decide +kernel
theorem dX12_isTrue_125 : decode cX12_isTrue 125 = .ok (.iaload, 1) := by decide +kernel
theorem dX12_isTrue_126 : decode cX12_isTrue 126 = .ok (.isub, 1) := by decide +kernel
theorem dX12_isTrue_127 : decode cX12_isTrue 127 = .ok (.iastore, 1) := by decide +kernel
theorem dX12_isTrue_128 : decode cX12_isTrue 128 = .ok (.goto 111, 3) := by decide +kernel
theorem dX12_isTrue_131 : decode cX12_isTrue 131 = .ok (.iload 5, 2) := by decide +kernel
theorem dX12_isTrue_133 : decode cX12_isTrue 133 = .ok (.bipush 11, 2) := by decide +kernel
theorem dX12_isTrue_135 : decode cX12_isTrue 135 = .ok (.if_icmp .eq 10, 3) := by decide +kernel
theorem dX12_isTrue_138 : decode cX12_isTrue 138 = .ok (.iload 5, 2) := by decide +kernel
theorem dX12_isTrue_140 : decode cX12_isTrue 140 = .ok (.bipush 12, 2) := by decide +kernel
theorem dX12_isTrue_142 : decode cX12_isTrue 142 = .ok (.if_icmp .ne 42, 3) := by decide +kernel
theorem dX12_isTrue_145 : decode cX12_isTrue 145 = .ok (.aload_n 0, 1) := by decide +kernel
theorem dX12_isTrue_146 : decode cX12_isTrue 146 = .ok (.getfield 126, 3) := by decide +kernel
theorem dX12_isTrue_149 : decode cX12_isTrue 149 = .ok (.iload_n 2, 1) := by decide +kernel
theorem dX12_isTrue_150 : decode cX12_isTrue 150 = .ok (.iconst 1, 1) := by decide +kernel
theorem dX12_isTrue_151 : decode cX12_isTrue 151 = .ok (.isub, 1) := by decide +kernel
theorem dX12_isTrue_152 : decode cX12_isTrue 152 = .ok (.iaload, 1) := by decide +kernel
theorem dX12_isTrue_153 : decode cX12_isTrue 153 = .ok (.iload 5, 2) := by decide +kernel
theorem dX12_isTrue_155 : decode cX12_isTrue 155 = .ok (.bipush 12, 2) := by decide +kernel
theorem dX12_isTrue_157 : decode cX12_isTrue 157 = .ok (.if_icmp .ne 7, 3) := by decide +kernel
theorem dX12_isTrue_160 : decode cX12_isTrue 160 = .ok (.iconst 1, 1) := by decide +kernel
theorem dX12_isTrue_161 : decode cX12_isTrue 161 = .ok (.goto 4, 3) := by decide +kernel
theorem dX12_isTrue_164 : decode cX12_isTrue 164 = .ok (.iconst 0, 1) := by decide +kernel
theorem dX12_isTrue_165 : decode cX12_isTrue 165 = .ok (.if_icmp .ne 12, 3) := by decide +kernel
theorem dX12_isTrue_168 : decode cX12_isTrue 168 = .ok (.iload_n 3, 1) := by decide +kernel
