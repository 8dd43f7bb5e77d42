theorem dX10_bestSet_81 : decode cX10_bestSet 81 = .ok (.iload_n 2, 1) := by decide +kernel
theorem dX10_bestSet_82 : decode cX10_bestSet 82 = .ok (.ireturn, 1) := by decide +kernel
theorem dX11_init_0 : decode cX11_init 0 = .ok (.aload_n 0, 1) := by decide +kernel
theorem dX11_init_1 : decode cX11_init 1 = .ok (.invokespecial 1, 3) := by decide +kernel
theorem dX11_init_4 : decode cX11_init 4 = .ok (.aload_n 0, 1) := by decide +kernel
theorem dX11_init_5 : decode cX11_init 5 = .ok (.new 7, 3) := by decide +kernel
theorem dX11_init_8 : decode cX11_init 8 = .ok (.dup, 1) := by decide +kernel
theorem dX11_init_9 : decode cX11_init 9 = .ok (.invokespecial 9, 3) := by decide +kernel
theorem dX11_init_12 : decode cX11_init 12 = .ok (.putfield 10, 3) := by decide +kernel
theorem dX11_init_15 : decode cX11_init 15 = .ok (.aload_n 0, 1) := by decide +kernel
theorem dX11_init_16 : decode cX11_init 16 = .ok (.new 16, 3) := by decide +kernel
theorem dX11_init_19 : decode cX11_init 19 = .ok (.dup, 1) := by decide +kernel
theorem dX11_init_20 : decode cX11_init 20 = .ok (.invokespecial 18, 3) := by decide +kernel
theorem dX11_init_23 : decode cX11_init 23 = .ok (.putfield 19, 3) := by decide +kernel
theorem dX11_init_26 : decode cX11_init 26 = .ok (.aload_n 0, 1) := by decide +kernel
theorem dX11_init_27 : decode cX11_init 27 = .ok (.new 23, 3) := by decide +kernel
theorem dX11_init_30 : decode cX11_init 30 = .ok (.dup, 1) := by decide +kernel
theorem dX11_init_31 : decode cX11_init 31 = .ok (.aload_n 0, 1) := by decide +kernel
theorem dX11_init_32 : decode cX11_init 32 = .ok (.getfield 19, 3) := by decide +kernel
theorem dX11_init_35 : decode cX11_init 35 = .ok (.invokespecial 25, 3) := by decide +kernel
theorem dX11_init_38 : decode cX11_init 38 = .ok (.putfield 28, 3) := by decide +kernel
theorem dX11_init_41 : decode cX11_init 41 = .ok (.aload_n 0, 1) := by decide +kernel
theorem dX11_init_42 : decode cX11_init 42 = .ok (.new 32, 3) := by decide +kernel
theorem dX11_init_45 : decode cX11_init 45 = .ok (.dup, 1) := by decide +kernel
theorem dX11_init_46 : decode cX11_init 46 = .ok (.invokespecial 34, 3) := by decide +kernel
theorem dX11_init_49 : decode cX11_init 49 = .ok (.putfield 35, 3) := by decide +kernel
theorem dX11_init_52 : decode cX11_init 52 = .ok (.aload_n 0, 1) := by decide +kernel
theorem dX11_init_53 : decode cX11_init 53 = .ok (.new 39, 3) := by decide +kernel
theorem dX11_init_56 : decode cX11_init 56 = .ok (.dup, 1) := by decide +kernel
theorem dX11_init_57 : decode cX11_init 57 = .ok (.invokespecial 41, 3) := by decide +kernel
theorem dX11_init_60 : decode cX11_init 60 = .ok (.putfield 42, 3) := by decide +kernel
theorem dX11_init_63 : decode cX11_init 63 = .ok (.aload_n 0, 1) := by decide +kernel
theorem dX11_init_64 : decode cX11_init 64 = .ok (.new 46, 3) := by decide +kernel
theorem dX11_init_67 : decode cX11_init 67 = .ok (.dup, 1) := by decide +kernel
theorem dX11_init_68 : decode cX11_init 68 = .ok (.aload_n 0, 1) := by decide +kernel
theorem dX11_init_69 : decode cX11_init 69 = .ok (.getfield 19, 3) := by decide +kernel
theorem dX11_init_72 : decode cX11_init 72 = .ok (.aload_n 0, 1) := by decide +kernel
theorem dX11_init_73 : decode cX11_init 73 = .ok (.getfield 28, 3) := by decide +kernel
theorem dX11_init_76 : decode cX11_init 76 = .ok (.aload_n 0, 1) := by decide +kernel
theorem dX11_init_77 : decode cX11_init 77 = .ok (.getfield 42, 3) := by decide +kernel
theorem dX11_init_80 : decode cX11_init 80 = .ok (.invokespecial 48, 3) := by decide +kernel
theorem dX11_init_83 : decode cX11_init 83 = .ok (.putfield 51, 3) := by decide +kernel
theorem dX11_init_86 : decode cX11_init 86 = .ok (.aload_n 0, 1) := by decide +kernel
theorem dX11_init_87 : decode cX11_init 87 = .ok (.new 55, 3) := by decide +kernel
theorem dX11_init_90 : decode cX11_init 90 = .ok (.dup, 1) := by decide +kernel
theorem dX11_init_91 : decode cX11_init 91 = .ok (.aload_n 0, 1) := by decide +kernel
theorem dX11_init_92 : decode cX11_init 92 = .ok (.getfield 51, 3) := by decide +kernel
theorem dX11_init_95 : decode cX11_init 95 = .ok (.aload_n 0, 1) := by decide +kernel
theorem dX11_init_96 : decode cX11_init 96 = .ok (.getfield 42, 3) := by decide +kernel
theorem dX11_init_99 : decode cX11_init 99 = .ok (.invokespecial 57, 3) := by decide +kernel
theorem dX11_init_102 : decode cX11_init 102 = .ok (.putfield 60, 3) := by decide +kernel
theorem dX11_init_105 : decode cX11_init 105 = .ok (.aload_n 0, 1) := by decide +kernel
theorem dX11_init_106 : decode cX11_init 106 = .ok (.new 64, 3) := by decide +kernel
theorem dX11_init_109 : decode cX11_init 109 = .ok (.dup, 1) := by decide +kernel
theorem dX11_init_110 : decode cX11_init 110 = .ok (.invokespecial 66, 3) := by decide +kernel
theorem dX11_init_113 : decode cX11_init 113 = .ok (.putfield 67, 3) := by decide +kernel
theorem dX11_init_116 : decode cX11_init 116 = .ok (.aload_n 0, 1) := by decide +kernel
theorem dX11_init_117 : decode cX11_init 117 = .ok (.new 71, 3) := by decide +kernel
theorem dX11_init_120 : decode cX11_init 120 = .ok (.dup, 1) := by decide +kernel
theorem dX11_init_121 : decode cX11_init 121 = .ok (.aload_n 0, 1) := by decide +kernel
theorem dX11_init_122 : decode cX11_init 122 = .ok (.getfield 19, 3) := by decide +kernel
theorem dX11_init_125 : decode cX11_init 125 = .ok (.invokespecial 73, 3) := by decide +kernel
theorem dX11_init_128 : decode cX11_init 128 = .ok (.putfield 74, 3) := by decide +kernel
theorem dX11_init_131 : decode cX11_init 131 = .ok (.aload_n 0, 1) := by decide +kernel
theorem dX11_init_132 : decode cX11_init 132 = .ok (.new 78, 3) := by decide +kernel
theorem dX11_init_135 : decode cX11_init 135 = .ok (.dup, 1) := by decide +kernel
theorem dX11_init_136 : decode cX11_init 136 = .ok (.aload_n 0, 1) := by decide +kernel
theorem dX11_init_137 : decode cX11_init 137 = .ok (.getfield 19, 3) := by decide +kernel
theorem dX11_init_140 : decode cX11_init 140 = .ok (.aload_n 0, 1) := by decide +kernel
theorem dX11_init_141 : decode cX11_init 141 = .ok (.getfield 42, 3) := by decide +kernel
theorem dX11_init_144 : decode cX11_init 144 = .ok (.invokespecial 80, 3) := by decide +kernel
theorem dX11_init_147 : decode cX11_init 147 = .ok (.putfield 83, 3) := by decide +kernel
theorem dX11_init_150 : decode cX11_init 150 = .ok (.aload_n 0, 1) := by decide +kernel
theorem dX11_init_151 : decode cX11_init 151 = .ok (.iconst 0, 1) := by decide +kernel
theorem dX11_init_152 : decode cX11_init 152 = .ok (.putfield 87, 3) := by decide +kernel
theorem dX11_init_155 : decode cX11_init 155 = .ok (.return_, 1) := by decide +kernel
theorem dX11_city_0 : decode cX11_city 0 = .ok (.iload_n 1, 1) := by decide +kernel
theorem dX11_city_1 : decode cX11_city 1 = .ok (.iconst 4, 1) := by decide +kernel
theorem dX11_city_2 : decode cX11_city 2 = .ok (.bipush 10, 2) := by decide +kernel
theorem dX11_city_4 : decode cX11_city 4 = .ok (.invokestatic 91, 3) := by decide +kernel
theorem dX11_city_7 : decode cX11_city 7 = .ok (.ifCond .eq 13, 3) := by decide +kernel
theorem dX11_city_10 : decode cX11_city 10 = .ok (.iload_n 2, 1) := by decide +kernel
theorem dX11_city_11 : decode cX11_city 11 = .ok (.iconst 4, 1) := by decide +kernel
theorem dX11_city_12 : decode cX11_city 12 = .ok (.bipush 10, 2) := by decide +kernel
theorem dX11_city_14 : decode cX11_city 14 = .ok (.invokestatic 91, 3) := by decide +kernel
theorem dX11_city_17 : decode cX11_city 17 = .ok (.ifCond .ne 5, 3) := by decide +kernel
theorem dX11_city_20 : decode cX11_city 20 = .ok (.iconst 0, 1) := by decide +kernel
theorem dX11_city_21 : decode cX11_city 21 = .ok (.ireturn, 1) := by decide +kernel
theorem dX11_city_22 : decode cX11_city 22 = .ok (.aload_n 0, 1) := by decide +kernel
theorem dX11_city_23 : decode cX11_city 23 = .ok (.getfield 19, 3) := by decide +kernel
theorem dX11_city_26 : decode cX11_city 26 = .ok (.getfield 95, 3) := by decide +kernel
theorem dX11_city_29 : decode cX11_city 29 = .ok (.ifCond .gt 23, 3) := by decide +kernel
theorem dX11_city_32 : decode cX11_city 32 = .ok (.aload_n 0, 1) := by decide +kernel
theorem dX11_city_33 : decode cX11_city 33 = .ok (.getfield 28, 3) := by decide +kernel
theorem dX11_city_36 : decode cX11_city 36 = .ok (.getfield 98, 3) := by decide +kernel
theorem dX11_city_39 : decode cX11_city 39 = .ok (.ifCond .gt 13, 3) := by decide +kernel
theorem dX11_city_42 : decode cX11_city 42 = .ok (.aload_n 0, 1) := by decide +kernel
theorem dX11_city_43 : decode cX11_city 43 = .ok (.getfield 74, 3) := by decide +kernel
theorem dX11_city_46 : decode cX11_city 46 = .ok (.getfield 101, 3) := by decide +kernel
theorem dX11_city_49 : decode cX11_city 49 = .ok (.ifCond .le 5, 3) := by decide +kernel
theorem dX11_city_52 : decode cX11_city 52 = .ok (.iconst 0, 1) := by decide +kernel
theorem dX11_city_53 : decode cX11_city 53 = .ok (.ireturn, 1) := by decide +kernel
theorem dX11_city_54 : decode cX11_city 54 = .ok (.aload_n 0, 1) := by decide +kernel
theorem dX11_city_55 : decode cX11_city 55 = .ok (.getfield 19, 3) := by decide +kernel
theorem dX11_city_58 : decode cX11_city 58 = .ok (.iload_n 1, 1) := by decide +kernel
theorem dX11_city_59 : decode cX11_city 59 = .ok (.iload_n 2, 1) := by decide +kernel
theorem dX11_city_60 : decode cX11_city 60 = .ok (.invokevirtual 104, 3) := by decide +kernel
theorem dX11_city_63 : decode cX11_city 63 = .ok (.aload_n 0, 1) := by decide +kernel
theorem dX11_city_64 : decode cX11_city 64 = .ok (.getfield 74, 3) := by decide +kernel
theorem dX11_city_67 : decode cX11_city 67 = .ok (.invokevirtual 108, 3) := by decide +kernel
theorem dX11_city_70 : decode cX11_city 70 = .ok (.iconst 1, 1) := by decide +kernel
theorem dX11_city_71 : decode cX11_city 71 = .ok (.ireturn, 1) := by decide +kernel
theorem dX11_now_0 : decode cX11_now 0 = .ok (.iload_n 1, 1) := by decide +kernel
theorem dX11_now_1 : decode cX11_now 1 = .ok (.invokestatic 111, 3) := by decide +kernel
theorem dX11_now_4 : decode cX11_now 4 = .ok (.ifCond .eq 11, 3) := by decide +kernel
theorem dX11_now_7 : decode cX11_now 7 = .ok (.iload_n 1, 1) := by decide +kernel
theorem dX11_now_8 : decode cX11_now 8 = .ok (.aload_n 0, 1) := by decide +kernel
theorem dX11_now_9 : decode cX11_now 9 = .ok (.getfield 87, 3) := by decide +kernel
theorem dX11_now_12 : decode cX11_now 12 = .ok (.if_icmp .ge 5, 3) := by decide +kernel
theorem dX11_now_15 : decode cX11_now 15 = .ok (.iconst 0, 1) := by decide +kernel
theorem dX11_now_16 : decode cX11_now 16 = .ok (.ireturn, 1) := by decide +kernel
theorem dX11_now_17 : decode cX11_now 17 = .ok (.aload_n 0, 1) := by decide +kernel
theorem dX11_now_18 : decode cX11_now 18 = .ok (.iload_n 1, 1) := by decide +kernel
theorem dX11_now_19 : decode cX11_now 19 = .ok (.putfield 87, 3) := by decide +kernel
theorem dX11_now_22 : decode cX11_now 22 = .ok (.iconst 1, 1) := by decide +kernel
theorem dX11_now_23 : decode cX11_now 23 = .ok (.ireturn, 1) := by decide +kernel
theorem dX11_place_0 : decode cX11_place 0 = .ok (.iload_n 1, 1) := by decide +kernel
theorem dX11_place_1 : decode cX11_place 1 = .ok (.iconst 0, 1) := by decide +kernel
theorem dX11_place_2 : decode cX11_place 2 = .ok (.iconst 2, 1) := by decide +kernel
theorem dX11_place_3 : decode cX11_place 3 = .ok (.invokestatic 91, 3) := by decide +kernel
theorem dX11_place_6 : decode cX11_place 6 = .ok (.ifCond .eq 15, 3) := by decide +kernel
theorem dX11_place_9 : decode cX11_place 9 = .ok (.aload_n 0, 1) := by decide +kernel
theorem dX11_place_10 : decode cX11_place 10 = .ok (.getfield 19, 3) := by decide +kernel
theorem dX11_place_13 : decode cX11_place 13 = .ok (.iload_n 2, 1) := by decide +kernel
theorem dX11_place_14 : decode cX11_place 14 = .ok (.iload_n 3, 1) := by decide +kernel
theorem dX11_place_15 : decode cX11_place 15 = .ok (.invokevirtual 115, 3) := by decide +kernel
theorem dX11_place_18 : decode cX11_place 18 = .ok (.ifCond .ne 5, 3) := by decide +kernel
theorem dX11_place_21 : decode cX11_place 21 = .ok (.iconst (-1), 1) := by decide +kernel
theorem dX11_place_22 : decode cX11_place 22 = .ok (.ireturn, 1) := by decide +kernel
theorem dX11_place_23 : decode cX11_place 23 = .ok (.aload_n 0, 1) := by decide +kernel
theorem dX11_place_24 : decode cX11_place 24 = .ok (.getfield 19, 3) := by decide +kernel
theorem dX11_place_27 : decode cX11_place 27 = .ok (.getfield 95, 3) := by decide +kernel
theorem dX11_place_30 : decode cX11_place 30 = .ok (.bipush 30, 2) := by decide +kernel
theorem dX11_place_32 : decode cX11_place 32 = .ok (.if_icmp .ge 15, 3) := by decide +kernel
theorem dX11_place_35 : decode cX11_place 35 = .ok (.aload_n 0, 1) := by decide +kernel
theorem dX11_place_36 : decode cX11_place 36 = .ok (.getfield 19, 3) := by decide +kernel
theorem dX11_place_39 : decode cX11_place 39 = .ok (.iload_n 2, 1) := by decide +kernel
theorem dX11_place_40 : decode cX11_place 40 = .ok (.iload_n 3, 1) := by decide +kernel
theorem dX11_place_41 : decode cX11_place 41 = .ok (.invokevirtual 119, 3) := by decide +kernel
theorem dX11_place_44 : decode cX11_place 44 = .ok (.ifCond .eq 5, 3) := by decide +kernel
theorem dX11_place_47 : decode cX11_place 47 = .ok (.iconst (-1), 1) := by decide +kernel
theorem dX11_place_48 : decode cX11_place 48 = .ok (.ireturn, 1) := by decide +kernel
theorem dX11_place_49 : decode cX11_place 49 = .ok (.aload_n 0, 1) := by decide +kernel
theorem dX11_place_50 : decode cX11_place 50 = .ok (.getfield 28, 3) := by decide +kernel
theorem dX11_place_53 : decode cX11_place 53 = .ok (.aload_n 0, 1) := by decide +kernel
theorem dX11_place_54 : decode cX11_place 54 = .ok (.getfield 19, 3) := by decide +kernel
theorem dX11_place_57 : decode cX11_place 57 = .ok (.getfield 95, 3) := by decide +kernel
theorem dX11_place_60 : decode cX11_place 60 = .ok (.iload_n 2, 1) := by decide +kernel
theorem dX11_place_61 : decode cX11_place 61 = .ok (.iload_n 3, 1) := by decide +kernel
theorem dX11_place_62 : decode cX11_place 62 = .ok (.invokevirtual 122, 3) := by decide +kernel
theorem dX11_place_65 : decode cX11_place 65 = .ok (.aload_n 0, 1) := by decide +kernel
theorem dX11_place_66 : decode cX11_place 66 = .ok (.getfield 19, 3) := by decide +kernel
theorem dX11_place_69 : decode cX11_place 69 = .ok (.iload_n 1, 1) := by decide +kernel
theorem dX11_place_70 : decode cX11_place 70 = .ok (.iload_n 2, 1) := by decide +kernel
theorem dX11_place_71 : decode cX11_place 71 = .ok (.iload_n 3, 1) := by decide +kernel
theorem dX11_place_72 : decode cX11_place 72 = .ok (.invokevirtual 126, 3) := by decide +kernel
theorem dX11_place_75 : decode cX11_place 75 = .ok (.ireturn, 1) := by decide +kernel
theorem dX11_placeOf_0 : decode cX11_placeOf 0 = .ok (.aload_n 0, 1) := by decide +kernel
theorem dX11_placeOf_1 : decode cX11_placeOf 1 = .ok (.getfield 19, 3) := by decide +kernel
theorem dX11_placeOf_4 : decode cX11_placeOf 4 = .ok (.iload_n 1, 1) := by decide +kernel
theorem dX11_placeOf_5 : decode cX11_placeOf 5 = .ok (.invokevirtual 130, 3) := by decide +kernel
theorem dX11_placeOf_8 : decode cX11_placeOf 8 = .ok (.ifCond .eq 14, 3) := by decide +kernel
theorem dX11_placeOf_11 : decode cX11_placeOf 11 = .ok (.aload_n 0, 1) := by decide +kernel
theorem dX11_placeOf_12 : decode cX11_placeOf 12 = .ok (.getfield 19, 3) := by decide +kernel
theorem dX11_placeOf_15 : decode cX11_placeOf 15 = .ok (.iload_n 1, 1) := by decide +kernel
theorem dX11_placeOf_16 : decode cX11_placeOf 16 = .ok (.invokevirtual 133, 3) := by decide +kernel
theorem dX11_placeOf_19 : decode cX11_placeOf 19 = .ok (.goto 4, 3) := by decide +kernel
theorem dX11_placeOf_22 : decode cX11_placeOf 22 = .ok (.iconst (-1), 1) := by decide +kernel
theorem dX11_placeOf_23 : decode cX11_placeOf 23 = .ok (.ireturn, 1) := by decide +kernel
theorem dX11_dig_0 : decode cX11_dig 0 = .ok (.iload_n 1, 1) := by decide +kernel
theorem dX11_dig_1 : decode cX11_dig 1 = .ok (.iconst 0, 1) := by decide +kernel
theorem dX11_dig_2 : decode cX11_dig 2 = .ok (.bipush 7, 2) := by decide +kernel
theorem dX11_dig_4 : decode cX11_dig 4 = .ok (.invokestatic 91, 3) := by decide +kernel
theorem dX11_dig_7 : decode cX11_dig 7 = .ok (.ifCond .eq 25, 3) := by decide +kernel
theorem dX11_dig_10 : decode cX11_dig 10 = .ok (.iload_n 2, 1) := by decide +kernel
theorem dX11_dig_11 : decode cX11_dig 11 = .ok (.iconst 0, 1) := by decide +kernel
theorem dX11_dig_12 : decode cX11_dig 12 = .ok (.iconst 2, 1) := by decide +kernel
theorem dX11_dig_13 : decode cX11_dig 13 = .ok (.invokestatic 91, 3) := by decide +kernel
theorem dX11_dig_16 : decode cX11_dig 16 = .ok (.ifCond .eq 16, 3) := by decide +kernel
theorem dX11_dig_19 : decode cX11_dig 19 = .ok (.aload_n 0, 1) := by decide +kernel
theorem dX11_dig_20 : decode cX11_dig 20 = .ok (.getfield 19, 3) := by decide +kernel
theorem dX11_dig_23 : decode cX11_dig 23 = .ok (.iload_n 3, 1) := by decide +kernel
theorem dX11_dig_24 : decode cX11_dig 24 = .ok (.iload 4, 2) := by decide +kernel
theorem dX11_dig_26 : decode cX11_dig 26 = .ok (.invokevirtual 115, 3) := by decide +kernel
theorem dX11_dig_29 : decode cX11_dig 29 = .ok (.ifCond .ne 5, 3) := by decide +kernel
theorem dX11_dig_32 : decode cX11_dig 32 = .ok (.iconst (-1), 1) := by decide +kernel
theorem dX11_dig_33 : decode cX11_dig 33 = .ok (.ireturn, 1) := by decide +kernel
theorem dX11_dig_34 : decode cX11_dig 34 = .ok (.iload 5, 2) := by decide +kernel
theorem dX11_dig_36 : decode cX11_dig 36 = .ok (.iload 6, 2) := by decide +kernel
theorem dX11_dig_38 : decode cX11_dig 38 = .ok (.bipush 7, 2) := by decide +kernel
theorem dX11_dig_40 : decode cX11_dig 40 = .ok (.invokestatic 137, 3) := by decide +kernel
theorem dX11_dig_43 : decode cX11_dig 43 = .ok (.ifCond .eq 12, 3) := by decide +kernel
theorem dX11_dig_46 : decode cX11_dig 46 = .ok (.iload_n 2, 1) := by decide +kernel
theorem dX11_dig_47 : decode cX11_dig 47 = .ok (.ifCond .ne 10, 3) := by decide +kernel
theorem dX11_dig_50 : decode cX11_dig 50 = .ok (.iload 5, 2) := by decide +kernel
theorem dX11_dig_52 : decode cX11_dig 52 = .ok (.ifCond .eq 5, 3) := by decide +kernel
theorem dX11_dig_55 : decode cX11_dig 55 = .ok (.iconst (-1), 1) := by decide +kernel
theorem dX11_dig_56 : decode cX11_dig 56 = .ok (.ireturn, 1) := by decide +kernel
theorem dX11_dig_57 : decode cX11_dig 57 = .ok (.iload 7, 2) := by decide +kernel
theorem dX11_dig_59 : decode cX11_dig 59 = .ok (.iload 8, 2) := by decide +kernel
theorem dX11_dig_61 : decode cX11_dig 61 = .ok (.aload_n 0, 1) := by decide +kernel
theorem dX11_dig_62 : decode cX11_dig 62 = .ok (.getfield 87, 3) := by decide +kernel
theorem dX11_dig_65 : decode cX11_dig 65 = .ok (.invokestatic 137, 3) := by decide +kernel
theorem dX11_dig_68 : decode cX11_dig 68 = .ok (.ifCond .eq 15, 3) := by decide +kernel
theorem dX11_dig_71 : decode cX11_dig 71 = .ok (.aload_n 0, 1) := by decide +kernel
theorem dX11_dig_72 : decode cX11_dig 72 = .ok (.getfield 28, 3) := by decide +kernel
theorem dX11_dig_75 : decode cX11_dig 75 = .ok (.getfield 98, 3) := by decide +kernel
theorem dX11_dig_78 : decode cX11_dig 78 = .ok (.bipush 100, 2) := by decide +kernel
theorem dX11_dig_80 : decode cX11_dig 80 = .ok (.if_icmp .lt 5, 3) := by decide +kernel
theorem dX11_dig_83 : decode cX11_dig 83 = .ok (.iconst (-1), 1) := by decide +kernel
theorem dX11_dig_84 : decode cX11_dig 84 = .ok (.ireturn, 1) := by decide +kernel
theorem dX11_dig_85 : decode cX11_dig 85 = .ok (.aload_n 0, 1) := by decide +kernel
theorem dX11_dig_86 : decode cX11_dig 86 = .ok (.getfield 28, 3) := by decide +kernel
theorem dX11_dig_89 : decode cX11_dig 89 = .ok (.iload_n 1, 1) := by decide +kernel
theorem dX11_dig_90 : decode cX11_dig 90 = .ok (.iload_n 2, 1) := by decide +kernel
theorem dX11_dig_91 : decode cX11_dig 91 = .ok (.iload_n 3, 1) := by decide +kernel
theorem dX11_dig_92 : decode cX11_dig 92 = .ok (.iload 4, 2) := by decide +kernel
theorem dX11_dig_94 : decode cX11_dig 94 = .ok (.invokevirtual 140, 3) := by decide +kernel
theorem dX11_dig_97 : decode cX11_dig 97 = .ok (.aload_n 0, 1) := by decide +kernel
theorem dX11_dig_98 : decode cX11_dig 98 = .ok (.getfield 28, 3) := by decide +kernel
theorem dX11_dig_101 : decode cX11_dig 101 = .ok (.iload 5, 2) := by decide +kernel
theorem dX11_dig_103 : decode cX11_dig 103 = .ok (.iload 6, 2) := by decide +kernel
theorem dX11_dig_105 : decode cX11_dig 105 = .ok (.invokevirtual 144, 3) := by decide +kernel
theorem dX11_dig_108 : decode cX11_dig 108 = .ok (.aload_n 0, 1) := by decide +kernel
theorem dX11_dig_109 : decode cX11_dig 109 = .ok (.getfield 28, 3) := by decide +kernel
theorem dX11_dig_112 : decode cX11_dig 112 = .ok (.iload 7, 2) := by decide +kernel
theorem dX11_dig_114 : decode cX11_dig 114 = .ok (.iload 8, 2) := by decide +kernel
theorem dX11_dig_116 : decode cX11_dig 116 = .ok (.aload_n 0, 1) := by decide +kernel
theorem dX11_dig_117 : decode cX11_dig 117 = .ok (.getfield 87, 3) := by decide +kernel
theorem dX11_dig_120 : decode cX11_dig 120 = .ok (.invokevirtual 147, 3) := by decide +kernel
theorem dX11_dig_123 : decode cX11_dig 123 = .ok (.ireturn, 1) := by decide +kernel
theorem dX11_strike_0 : decode cX11_strike 0 = .ok (.iload_n 1, 1) := by decide +kernel
theorem dX11_strike_1 : decode cX11_strike 1 = .ok (.iconst 0, 1) := by decide +kernel
theorem dX11_strike_2 : decode cX11_strike 2 = .ok (.aload_n 0, 1) := by decide +kernel
theorem dX11_strike_3 : decode cX11_strike 3 = .ok (.getfield 28, 3) := by decide +kernel
theorem dX11_strike_6 : decode cX11_strike 6 = .ok (.getfield 98, 3) := by decide +kernel
theorem dX11_strike_9 : decode cX11_strike 9 = .ok (.iconst 1, 1) := by decide +kernel
theorem dX11_strike_10 : decode cX11_strike 10 = .ok (.isub, 1) := by decide +kernel
theorem dX11_strike_11 : decode cX11_strike 11 = .ok (.invokestatic 91, 3) := by decide +kernel
theorem dX11_strike_14 : decode cX11_strike 14 = .ok (.ifCond .eq 14, 3) := by decide +kernel
theorem dX11_strike_17 : decode cX11_strike 17 = .ok (.aload_n 0, 1) := by decide +kernel
theorem dX11_strike_18 : decode cX11_strike 18 = .ok (.getfield 28, 3) := by decide +kernel
theorem dX11_strike_21 : decode cX11_strike 21 = .ok (.iload_n 1, 1) := by decide +kernel
theorem dX11_strike_22 : decode cX11_strike 22 = .ok (.invokevirtual 150, 3) := by decide +kernel
theorem dX11_strike_25 : decode cX11_strike 25 = .ok (.ifCond .eq 5, 3) := by decide +kernel
theorem dX11_strike_28 : decode cX11_strike 28 = .ok (.iconst 0, 1) := by decide +kernel
theorem dX11_strike_29 : decode cX11_strike 29 = .ok (.ireturn, 1) := by decide +kernel
theorem dX11_strike_30 : decode cX11_strike 30 = .ok (.aload_n 0, 1) := by decide +kernel
theorem dX11_strike_31 : decode cX11_strike 31 = .ok (.getfield 28, 3) := by decide +kernel
theorem dX11_strike_34 : decode cX11_strike 34 = .ok (.iload_n 1, 1) := by decide +kernel
theorem dX11_strike_35 : decode cX11_strike 35 = .ok (.aload_n 0, 1) := by decide +kernel
theorem dX11_strike_36 : decode cX11_strike 36 = .ok (.getfield 87, 3) := by decide +kernel
theorem dX11_strike_39 : decode cX11_strike 39 = .ok (.invokevirtual 153, 3) := by decide +kernel
theorem dX11_strike_42 : decode cX11_strike 42 = .ok (.iconst 1, 1) := by decide +kernel
theorem dX11_strike_43 : decode cX11_strike 43 = .ok (.ireturn, 1) := by decide +kernel
theorem dX11_ground_0 : decode cX11_ground 0 = .ok (.aload_n 0, 1) := by decide +kernel
theorem dX11_ground_1 : decode cX11_ground 1 = .ok (.iload_n 1, 1) := by decide +kernel
theorem dX11_ground_2 : decode cX11_ground 2 = .ok (.iload_n 2, 1) := by decide +kernel
theorem dX11_ground_3 : decode cX11_ground 3 = .ok (.invokevirtual 156, 3) := by decide +kernel
theorem dX11_ground_6 : decode cX11_ground 6 = .ok (.ifCond .eq 33, 3) := by decide +kernel
theorem dX11_ground_9 : decode cX11_ground 9 = .ok (.iload_n 3, 1) := by decide +kernel
theorem dX11_ground_10 : decode cX11_ground 10 = .ok (.invokestatic 111, 3) := by decide +kernel
theorem dX11_ground_13 : decode cX11_ground 13 = .ok (.ifCond .eq 26, 3) := by decide +kernel
theorem dX11_ground_16 : decode cX11_ground 16 = .ok (.iload 4, 2) := by decide +kernel
theorem dX11_ground_18 : decode cX11_ground 18 = .ok (.invokestatic 111, 3) := by decide +kernel
theorem dX11_ground_21 : decode cX11_ground 21 = .ok (.ifCond .eq 18, 3) := by decide +kernel
theorem dX11_ground_24 : decode cX11_ground 24 = .ok (.aload_n 0, 1) := by decide +kernel
theorem dX11_ground_25 : decode cX11_ground 25 = .ok (.getfield 28, 3) := by decide +kernel
theorem dX11_ground_28 : decode cX11_ground 28 = .ok (.iload_n 1, 1) := by decide +kernel
theorem dX11_ground_29 : decode cX11_ground 29 = .ok (.iload_n 2, 1) := by decide +kernel
theorem dX11_ground_30 : decode cX11_ground 30 = .ok (.iload_n 3, 1) := by decide +kernel
theorem dX11_ground_31 : decode cX11_ground 31 = .ok (.iload 4, 2) := by decide +kernel
theorem dX11_ground_33 : decode cX11_ground 33 = .ok (.invokevirtual 159, 3) := by decide +kernel
theorem dX11_ground_36 : decode cX11_ground 36 = .ok (.goto 4, 3) := by decide +kernel
theorem dX11_ground_39 : decode cX11_ground 39 = .ok (.iconst (-1), 1) := by decide +kernel
theorem dX11_ground_40 : decode cX11_ground 40 = .ok (.ireturn, 1) := by decide +kernel
theorem dX11_first_0 : decode cX11_first 0 = .ok (.aload_n 0, 1) := by decide +kernel
theorem dX11_first_1 : decode cX11_first 1 = .ok (.iload_n 1, 1) := by decide +kernel
theorem dX11_first_2 : decode cX11_first 2 = .ok (.iload_n 2, 1) := by decide +kernel
theorem dX11_first_3 : decode cX11_first 3 = .ok (.invokevirtual 156, 3) := by decide +kernel
theorem dX11_first_6 : decode cX11_first 6 = .ok (.ifCond .eq 33, 3) := by decide +kernel
theorem dX11_first_9 : decode cX11_first 9 = .ok (.iload_n 3, 1) := by decide +kernel
theorem dX11_first_10 : decode cX11_first 10 = .ok (.invokestatic 111, 3) := by decide +kernel
theorem dX11_first_13 : decode cX11_first 13 = .ok (.ifCond .eq 26, 3) := by decide +kernel
theorem dX11_first_16 : decode cX11_first 16 = .ok (.iload 4, 2) := by decide +kernel
theorem dX11_first_18 : decode cX11_first 18 = .ok (.invokestatic 111, 3) := by decide +kernel
theorem dX11_first_21 : decode cX11_first 21 = .ok (.ifCond .eq 18, 3) := by decide +kernel
theorem dX11_first_24 : decode cX11_first 24 = .ok (.aload_n 0, 1) := by decide +kernel
theorem dX11_first_25 : decode cX11_first 25 = .ok (.getfield 28, 3) := by decide +kernel
theorem dX11_first_28 : decode cX11_first 28 = .ok (.iload_n 1, 1) := by decide +kernel
theorem dX11_first_29 : decode cX11_first 29 = .ok (.iload_n 2, 1) := by decide +kernel
theorem dX11_first_30 : decode cX11_first 30 = .ok (.iload_n 3, 1) := by decide +kernel
theorem dX11_first_31 : decode cX11_first 31 = .ok (.iload 4, 2) := by decide +kernel
theorem dX11_first_33 : decode cX11_first 33 = .ok (.invokevirtual 163, 3) := by decide +kernel
theorem dX11_first_36 : decode cX11_first 36 = .ok (.goto 4, 3) := by decide +kernel
theorem dX11_first_39 : decode cX11_first 39 = .ok (.iconst (-1), 1) := by decide +kernel
theorem dX11_first_40 : decode cX11_first 40 = .ok (.ireturn, 1) := by decide +kernel
theorem dX11_means_0 : decode cX11_means 0 = .ok (.iload_n 1, 1) := by decide +kernel
theorem dX11_means_1 : decode cX11_means 1 = .ok (.iload_n 2, 1) := by decide +kernel
theorem dX11_means_2 : decode cX11_means 2 = .ok (.invokestatic 166, 3) := by decide +kernel
theorem dX11_means_5 : decode cX11_means 5 = .ok (.ifCond .eq 24, 3) := by decide +kernel
theorem dX11_means_8 : decode cX11_means 8 = .ok (.aload_n 0, 1) := by decide +kernel
theorem dX11_means_9 : decode cX11_means 9 = .ok (.iload_n 3, 1) := by decide +kernel
theorem dX11_means_10 : decode cX11_means 10 = .ok (.invokevirtual 169, 3) := by decide +kernel
theorem dX11_means_13 : decode cX11_means 13 = .ok (.ifCond .eq 16, 3) := by decide +kernel
theorem dX11_means_16 : decode cX11_means 16 = .ok (.iload 4, 2) := by decide +kernel
theorem dX11_means_18 : decode cX11_means 18 = .ok (.iload 5, 2) := by decide +kernel
theorem dX11_means_20 : decode cX11_means 20 = .ok (.sipush 9999, 3) := by decide +kernel
theorem dX11_means_23 : decode cX11_means 23 = .ok (.invokestatic 137, 3) := by decide +kernel
theorem dX11_means_26 : decode cX11_means 26 = .ok (.ifCond .ne 5, 3) := by decide +kernel
theorem dX11_means_29 : decode cX11_means 29 = .ok (.iconst 0, 1) := by decide +kernel
theorem dX11_means_30 : decode cX11_means 30 = .ok (.ireturn, 1) := by decide +kernel
theorem dX11_means_31 : decode cX11_means 31 = .ok (.aload_n 0, 1) := by decide +kernel
theorem dX11_means_32 : decode cX11_means 32 = .ok (.getfield 19, 3) := by decide +kernel
theorem dX11_means_35 : decode cX11_means 35 = .ok (.getfield 172, 3) := by decide +kernel
theorem dX11_means_38 : decode cX11_means 38 = .ok (.sipush 200, 3) := by decide +kernel
theorem dX11_means_41 : decode cX11_means 41 = .ok (.if_icmp .lt 5, 3) := by decide +kernel
theorem dX11_means_44 : decode cX11_means 44 = .ok (.iconst 0, 1) := by decide +kernel
theorem dX11_means_45 : decode cX11_means 45 = .ok (.ireturn, 1) := by decide +kernel
theorem dX11_means_46 : decode cX11_means 46 = .ok (.aload_n 0, 1) := by decide +kernel
theorem dX11_means_47 : decode cX11_means 47 = .ok (.getfield 19, 3) := by decide +kernel
theorem dX11_means_50 : decode cX11_means 50 = .ok (.iload_n 1, 1) := by decide +kernel
theorem dX11_means_51 : decode cX11_means 51 = .ok (.iload_n 2, 1) := by decide +kernel
theorem dX11_means_52 : decode cX11_means 52 = .ok (.iload_n 3, 1) := by decide +kernel
theorem dX11_means_53 : decode cX11_means 53 = .ok (.iload 4, 2) := by decide +kernel
theorem dX11_means_55 : decode cX11_means 55 = .ok (.iload 5, 2) := by decide +kernel
theorem dX11_means_57 : decode cX11_means 57 = .ok (.invokevirtual 175, 3) := by decide +kernel
theorem dX11_means_60 : decode cX11_means 60 = .ok (.iconst 1, 1) := by decide +kernel
theorem dX11_means_61 : decode cX11_means 61 = .ok (.ireturn, 1) := by decide +kernel
theorem dX11_meaning_0 : decode cX11_meaning 0 = .ok (.iload_n 1, 1) := by decide +kernel
theorem dX11_meaning_1 : decode cX11_meaning 1 = .ok (.iload_n 2, 1) := by decide +kernel
theorem dX11_meaning_2 : decode cX11_meaning 2 = .ok (.invokestatic 166, 3) := by decide +kernel
theorem dX11_meaning_5 : decode cX11_meaning 5 = .ok (.ifCond .eq 23, 3) := by decide +kernel
theorem dX11_meaning_8 : decode cX11_meaning 8 = .ok (.iload_n 3, 1) := by decide +kernel
theorem dX11_meaning_9 : decode cX11_meaning 9 = .ok (.invokestatic 111, 3) := by decide +kernel
theorem dX11_meaning_12 : decode cX11_meaning 12 = .ok (.ifCond .eq 16, 3) := by decide +kernel
theorem dX11_meaning_15 : decode cX11_meaning 15 = .ok (.aload_n 0, 1) := by decide +kernel
theorem dX11_meaning_16 : decode cX11_meaning 16 = .ok (.getfield 19, 3) := by decide +kernel
theorem dX11_meaning_19 : decode cX11_meaning 19 = .ok (.iload_n 1, 1) := by decide +kernel
theorem dX11_meaning_20 : decode cX11_meaning 20 = .ok (.iload_n 2, 1) := by decide +kernel
theorem dX11_meaning_21 : decode cX11_meaning 21 = .ok (.iload_n 3, 1) := by decide +kernel
theorem dX11_meaning_22 : decode cX11_meaning 22 = .ok (.invokevirtual 179, 3) := by decide +kernel
theorem dX11_meaning_25 : decode cX11_meaning 25 = .ok (.goto 4, 3) := by decide +kernel
theorem dX11_meaning_28 : decode cX11_meaning 28 = .ok (.iconst (-1), 1) := by decide +kernel
theorem dX11_meaning_29 : decode cX11_meaning 29 = .ok (.ireturn, 1) := by decide +kernel
theorem dX11_feed_0 : decode cX11_feed 0 = .ok (.aload_n 0, 1) := by decide +kernel
theorem dX11_feed_1 : decode cX11_feed 1 = .ok (.getfield 10, 3) := by decide +kernel
theorem dX11_feed_4 : decode cX11_feed 4 = .ok (.getfield 182, 3) := by decide +kernel
theorem dX11_feed_7 : decode cX11_feed 7 = .ok (.sipush 380, 3) := by decide +kernel
theorem dX11_feed_10 : decode cX11_feed 10 = .ok (.if_icmp .le 5, 3) := by decide +kernel
theorem dX11_feed_13 : decode cX11_feed 13 = .ok (.iconst (-1), 1) := by decide +kernel
theorem dX11_feed_14 : decode cX11_feed 14 = .ok (.ireturn, 1) := by decide +kernel
theorem dX11_feed_15 : decode cX11_feed 15 = .ok (.aload_n 0, 1) := by decide +kernel
theorem dX11_feed_16 : decode cX11_feed 16 = .ok (.getfield 10, 3) := by decide +kernel
theorem dX11_feed_19 : decode cX11_feed 19 = .ok (.iload_n 1, 1) := by decide +kernel
theorem dX11_feed_20 : decode cX11_feed 20 = .ok (.invokevirtual 185, 3) := by decide +kernel
theorem dX11_feed_23 : decode cX11_feed 23 = .ok (.aload_n 0, 1) := by decide +kernel
theorem dX11_feed_24 : decode cX11_feed 24 = .ok (.getfield 10, 3) := by decide +kernel
theorem dX11_feed_27 : decode cX11_feed 27 = .ok (.iload_n 2, 1) := by decide +kernel
theorem dX11_feed_28 : decode cX11_feed 28 = .ok (.invokevirtual 185, 3) := by decide +kernel
theorem dX11_feed_31 : decode cX11_feed 31 = .ok (.aload_n 0, 1) := by decide +kernel
theorem dX11_feed_32 : decode cX11_feed 32 = .ok (.getfield 10, 3) := by decide +kernel
theorem dX11_feed_35 : decode cX11_feed 35 = .ok (.iload_n 3, 1) := by decide +kernel
theorem dX11_feed_36 : decode cX11_feed 36 = .ok (.invokevirtual 185, 3) := by decide +kernel
theorem dX11_feed_39 : decode cX11_feed 39 = .ok (.aload_n 0, 1) := by decide +kernel
theorem dX11_feed_40 : decode cX11_feed 40 = .ok (.getfield 10, 3) := by decide +kernel
theorem dX11_feed_43 : decode cX11_feed 43 = .ok (.iload 4, 2) := by decide +kernel
theorem dX11_feed_45 : decode cX11_feed 45 = .ok (.invokevirtual 185, 3) := by decide +kernel
theorem dX11_feed_48 : decode cX11_feed 48 = .ok (.aload_n 0, 1) := by decide +kernel
theorem dX11_feed_49 : decode cX11_feed 49 = .ok (.getfield 10, 3) := by decide +kernel
theorem dX11_feed_52 : decode cX11_feed 52 = .ok (.iload 5, 2) := by decide +kernel
theorem dX11_feed_54 : decode cX11_feed 54 = .ok (.invokevirtual 185, 3) := by decide +kernel
theorem dX11_feed_57 : decode cX11_feed 57 = .ok (.aload_n 0, 1) := by decide +kernel
theorem dX11_feed_58 : decode cX11_feed 58 = .ok (.getfield 10, 3) := by decide +kernel
theorem dX11_feed_61 : decode cX11_feed 61 = .ok (.getfield 182, 3) := by decide +kernel
theorem dX11_feed_64 : decode cX11_feed 64 = .ok (.ireturn, 1) := by decide +kernel
theorem dX11_rules_0 : decode cX11_rules 0 = .ok (.iload_n 1, 1) := by decide +kernel
theorem dX11_rules_1 : decode cX11_rules 1 = .ok (.iload_n 2, 1) := by decide +kernel
theorem dX11_rules_2 : decode cX11_rules 2 = .ok (.sipush 9999, 3) := by decide +kernel
theorem dX11_rules_5 : decode cX11_rules 5 = .ok (.invokestatic 137, 3) := by decide +kernel
theorem dX11_rules_8 : decode cX11_rules 8 = .ok (.ifCond .eq 14, 3) := by decide +kernel
theorem dX11_rules_11 : decode cX11_rules 11 = .ok (.iload_n 3, 1) := by decide +kernel
theorem dX11_rules_12 : decode cX11_rules 12 = .ok (.iconst 1, 1) := by decide +kernel
theorem dX11_rules_13 : decode cX11_rules 13 = .ok (.sipush 160, 3) := by decide +kernel
theorem dX11_rules_16 : decode cX11_rules 16 = .ok (.invokestatic 91, 3) := by decide +kernel
theorem dX11_rules_19 : decode cX11_rules 19 = .ok (.ifCond .ne 5, 3) := by decide +kernel
theorem dX11_rules_22 : decode cX11_rules 22 = .ok (.iconst (-1), 1) := by decide +kernel
theorem dX11_rules_23 : decode cX11_rules 23 = .ok (.ireturn, 1) := by decide +kernel
theorem dX11_rules_24 : decode cX11_rules 24 = .ok (.aload_n 0, 1) := by decide +kernel
theorem dX11_rules_25 : decode cX11_rules 25 = .ok (.getfield 42, 3) := by decide +kernel
theorem dX11_rules_28 : decode cX11_rules 28 = .ok (.invokevirtual 189, 3) := by decide +kernel
theorem dX11_rules_31 : decode cX11_rules 31 = .ok (.bipush 20, 2) := by decide +kernel
theorem dX11_rules_33 : decode cX11_rules 33 = .ok (.if_icmp .ge 14, 3) := by decide +kernel
theorem dX11_rules_36 : decode cX11_rules 36 = .ok (.iload_n 3, 1) := by decide +kernel
theorem dX11_rules_37 : decode cX11_rules 37 = .ok (.aload_n 0, 1) := by decide +kernel
theorem dX11_rules_38 : decode cX11_rules 38 = .ok (.getfield 10, 3) := by decide +kernel
theorem dX11_rules_41 : decode cX11_rules 41 = .ok (.getfield 182, 3) := by decide +kernel
theorem dX11_rules_44 : decode cX11_rules 44 = .ok (.if_icmp .le 5, 3) := by decide +kernel
theorem dX11_rules_47 : decode cX11_rules 47 = .ok (.iconst (-1), 1) := by decide +kernel
theorem dX11_rules_48 : decode cX11_rules 48 = .ok (.ireturn, 1) := by decide +kernel
theorem dX11_rules_49 : decode cX11_rules 49 = .ok (.aload_n 0, 1) := by decide +kernel
theorem dX11_rules_50 : decode cX11_rules 50 = .ok (.getfield 10, 3) := by decide +kernel
theorem dX11_rules_53 : decode cX11_rules 53 = .ok (.invokevirtual 192, 3) := by decide +kernel
theorem dX11_rules_56 : decode cX11_rules 56 = .ok (.aload_n 0, 1) := by decide +kernel
theorem dX11_rules_57 : decode cX11_rules 57 = .ok (.getfield 35, 3) := by decide +kernel
theorem dX11_rules_60 : decode cX11_rules 60 = .ok (.aload_n 0, 1) := by decide +kernel
theorem dX11_rules_61 : decode cX11_rules 61 = .ok (.getfield 10, 3) := by decide +kernel
theorem dX11_rules_64 : decode cX11_rules 64 = .ok (.getfield 195, 3) := by decide +kernel
theorem dX11_rules_67 : decode cX11_rules 67 = .ok (.iload_n 3, 1) := by decide +kernel
theorem dX11_rules_68 : decode cX11_rules 68 = .ok (.invokevirtual 199, 3) := by decide +kernel
theorem dX11_rules_71 : decode cX11_rules 71 = .ok (.istore 4, 2) := by decide +kernel
theorem dX11_rules_73 : decode cX11_rules 73 = .ok (.iload 4, 2) := by decide +kernel
theorem dX11_rules_75 : decode cX11_rules 75 = .ok (.ifCond .eq 8, 3) := by decide +kernel
theorem dX11_rules_78 : decode cX11_rules 78 = .ok (.iload 4, 2) := by decide +kernel
theorem dX11_rules_80 : decode cX11_rules 80 = .ok (.goto 19, 3) := by decide +kernel
theorem dX11_rules_83 : decode cX11_rules 83 = .ok (.aload_n 0, 1) := by decide +kernel
theorem dX11_rules_84 : decode cX11_rules 84 = .ok (.getfield 42, 3) := by decide +kernel
theorem dX11_rules_87 : decode cX11_rules 87 = .ok (.iload_n 1, 1) := by decide +kernel
theorem dX11_rules_88 : decode cX11_rules 88 = .ok (.iload_n 2, 1) := by decide +kernel
theorem dX11_rules_89 : decode cX11_rules 89 = .ok (.aload_n 0, 1) := by decide +kernel
theorem dX11_rules_90 : decode cX11_rules 90 = .ok (.getfield 35, 3) := by decide +kernel
theorem dX11_rules_93 : decode cX11_rules 93 = .ok (.invokevirtual 203, 3) := by decide +kernel
theorem dX11_rules_96 : decode cX11_rules 96 = .ok (.invokevirtual 207, 3) := by decide +kernel
theorem dX11_rules_99 : decode cX11_rules 99 = .ok (.ireturn, 1) := by decide +kernel
theorem dX11_number_0 : decode cX11_number 0 = .ok (.iload_n 1, 1) := by decide +kernel
theorem dX11_number_1 : decode cX11_number 1 = .ok (.iconst 0, 1) := by decide +kernel
theorem dX11_number_2 : decode cX11_number 2 = .ok (.iconst 3, 1) := by decide +kernel
theorem dX11_number_3 : decode cX11_number 3 = .ok (.invokestatic 91, 3) := by decide +kernel
theorem dX11_number_6 : decode cX11_number 6 = .ok (.ifCond .eq 20, 3) := by decide +kernel
theorem dX11_number_9 : decode cX11_number 9 = .ok (.iload_n 2, 1) := by decide +kernel
theorem dX11_number_10 : decode cX11_number 10 = .ok (.invokestatic 111, 3) := by decide +kernel
theorem dX11_number_13 : decode cX11_number 13 = .ok (.ifCond .eq 13, 3) := by decide +kernel
theorem dX11_number_16 : decode cX11_number 16 = .ok (.iload_n 3, 1) := by decide +kernel
theorem dX11_number_17 : decode cX11_number 17 = .ok (.iconst 0, 1) := by decide +kernel
theorem dX11_number_18 : decode cX11_number 18 = .ok (.bipush 7, 2) := by decide +kernel
theorem dX11_number_20 : decode cX11_number 20 = .ok (.invokestatic 91, 3) := by decide +kernel
theorem dX11_number_23 : decode cX11_number 23 = .ok (.ifCond .ne 5, 3) := by decide +kernel
theorem dX11_number_26 : decode cX11_number 26 = .ok (.iconst (-1), 1) := by decide +kernel
theorem dX11_number_27 : decode cX11_number 27 = .ok (.ireturn, 1) := by decide +kernel
theorem dX11_number_28 : decode cX11_number 28 = .ok (.iload 4, 2) := by decide +kernel
theorem dX11_number_30 : decode cX11_number 30 = .ok (.iconst 0, 1) := by decide +kernel
theorem dX11_number_31 : decode cX11_number 31 = .ok (.bipush 7, 2) := by decide +kernel
theorem dX11_number_33 : decode cX11_number 33 = .ok (.invokestatic 91, 3) := by decide +kernel
theorem dX11_number_36 : decode cX11_number 36 = .ok (.ifCond .eq 30, 3) := by decide +kernel
theorem dX11_number_39 : decode cX11_number 39 = .ok (.iload 5, 2) := by decide +kernel
theorem dX11_number_41 : decode cX11_number 41 = .ok (.iconst 0, 1) := by decide +kernel
theorem dX11_number_42 : decode cX11_number 42 = .ok (.sipush 255, 3) := by decide +kernel
theorem dX11_number_45 : decode cX11_number 45 = .ok (.invokestatic 91, 3) := by decide +kernel
theorem dX11_number_48 : decode cX11_number 48 = .ok (.ifCond .eq 18, 3) := by decide +kernel
theorem dX11_number_51 : decode cX11_number 51 = .ok (.iload 6, 2) := by decide +kernel
theorem dX11_number_53 : decode cX11_number 53 = .ok (.iconst (-1), 1) := by decide +kernel
theorem dX11_number_54 : decode cX11_number 54 = .ok (.if_icmp .eq 14, 3) := by decide +kernel
theorem dX11_number_57 : decode cX11_number 57 = .ok (.aload_n 0, 1) := by decide +kernel
theorem dX11_number_58 : decode cX11_number 58 = .ok (.iload 6, 2) := by decide +kernel
theorem dX11_number_60 : decode cX11_number 60 = .ok (.invokevirtual 169, 3) := by decide +kernel
theorem dX11_number_63 : decode cX11_number 63 = .ok (.ifCond .ne 5, 3) := by decide +kernel
theorem dX11_number_66 : decode cX11_number 66 = .ok (.iconst (-1), 1) := by decide +kernel
theorem dX11_number_67 : decode cX11_number 67 = .ok (.ireturn, 1) := by decide +kernel
theorem dX11_number_68 : decode cX11_number 68 = .ok (.aload_n 0, 1) := by decide +kernel
theorem dX11_number_69 : decode cX11_number 69 = .ok (.getfield 42, 3) := by decide +kernel
theorem dX11_number_72 : decode cX11_number 72 = .ok (.iload_n 2, 1) := by decide +kernel
theorem dX11_number_73 : decode cX11_number 73 = .ok (.iload_n 3, 1) := by decide +kernel
theorem dX11_number_74 : decode cX11_number 74 = .ok (.iload 4, 2) := by decide +kernel
theorem dX11_number_76 : decode cX11_number 76 = .ok (.iload 5, 2) := by decide +kernel
theorem dX11_number_78 : decode cX11_number 78 = .ok (.iload 6, 2) := by decide +kernel
theorem dX11_number_80 : decode cX11_number 80 = .ok (.iconst (-1), 1) := by decide +kernel
theorem dX11_number_81 : decode cX11_number 81 = .ok (.if_icmp .ne 7, 3) := by decide +kernel
theorem dX11_number_84 : decode cX11_number 84 = .ok (.iconst (-1), 1) := by decide +kernel
theorem dX11_number_85 : decode cX11_number 85 = .ok (.goto 13, 3) := by decide +kernel
theorem dX11_number_88 : decode cX11_number 88 = .ok (.aload_n 0, 1) := by decide +kernel
theorem dX11_number_89 : decode cX11_number 89 = .ok (.getfield 19, 3) := by decide +kernel
theorem dX11_number_92 : decode cX11_number 92 = .ok (.getfield 210, 3) := by decide +kernel
theorem dX11_number_95 : decode cX11_number 95 = .ok (.iload 6, 2) := by decide +kernel
theorem dX11_number_97 : decode cX11_number 97 = .ok (.iaload, 1) := by decide +kernel
theorem dX11_number_98 : decode cX11_number 98 = .ok (.invokevirtual 214, 3) := by decide +kernel
theorem dX11_number_101 : decode cX11_number 101 = .ok (.iload_n 1, 1) := by decide +kernel
theorem dX11_number_102 : decode cX11_number 102 = .ok (.tableswitch 50 0 2 #[26, 34, 42], 26) := by decide +kernel
theorem dX11_number_128 : decode cX11_number 128 = .ok (.aload_n 0, 1) := by decide +kernel
theorem dX11_number_129 : decode cX11_number 129 = .ok (.getfield 42, 3) := by decide +kernel
theorem dX11_number_132 : decode cX11_number 132 = .ok (.invokevirtual 217, 3) := by decide +kernel
theorem dX11_number_135 : decode cX11_number 135 = .ok (.ireturn, 1) := by decide +kernel
theorem dX11_number_136 : decode cX11_number 136 = .ok (.aload_n 0, 1) := by decide +kernel
theorem dX11_number_137 : decode cX11_number 137 = .ok (.getfield 42, 3) := by decide +kernel
theorem dX11_number_140 : decode cX11_number 140 = .ok (.invokevirtual 220, 3) := by decide +kernel
theorem dX11_number_143 : decode cX11_number 143 = .ok (.ireturn, 1) := by decide +kernel
theorem dX11_number_144 : decode cX11_number 144 = .ok (.aload_n 0, 1) := by decide +kernel
theorem dX11_number_145 : decode cX11_number 145 = .ok (.getfield 42, 3) := by decide +kernel
theorem dX11_number_148 : decode cX11_number 148 = .ok (.invokevirtual 223, 3) := by decide +kernel
theorem dX11_number_151 : decode cX11_number 151 = .ok (.ireturn, 1) := by decide +kernel
theorem dX11_number_152 : decode cX11_number 152 = .ok (.aload_n 0, 1) := by decide +kernel
theorem dX11_number_153 : decode cX11_number 153 = .ok (.getfield 42, 3) := by decide +kernel
theorem dX11_number_156 : decode cX11_number 156 = .ok (.invokevirtual 226, 3) := by decide +kernel
theorem dX11_number_159 : decode cX11_number 159 = .ok (.ireturn, 1) := by decide +kernel
theorem dX11_find_0 : decode cX11_find 0 = .ok (.iload_n 1, 1) := by decide +kernel
theorem dX11_find_1 : decode cX11_find 1 = .ok (.iconst 0, 1) := by decide +kernel
theorem dX11_find_2 : decode cX11_find 2 = .ok (.bipush 7, 2) := by decide +kernel
theorem dX11_find_4 : decode cX11_find 4 = .ok (.invokestatic 91, 3) := by decide +kernel
theorem dX11_find_7 : decode cX11_find 7 = .ok (.ifCond .eq 23, 3) := by decide +kernel
theorem dX11_find_10 : decode cX11_find 10 = .ok (.iload_n 2, 1) := by decide +kernel
theorem dX11_find_11 : decode cX11_find 11 = .ok (.iload_n 3, 1) := by decide +kernel
theorem dX11_find_12 : decode cX11_find 12 = .ok (.aload_n 0, 1) := by decide +kernel
theorem dX11_find_13 : decode cX11_find 13 = .ok (.getfield 87, 3) := by decide +kernel
theorem dX11_find_16 : decode cX11_find 16 = .ok (.invokestatic 137, 3) := by decide +kernel
theorem dX11_find_19 : decode cX11_find 19 = .ok (.ifCond .eq 11, 3) := by decide +kernel
theorem dX11_find_22 : decode cX11_find 22 = .ok (.iload_n 3, 1) := by decide +kernel
theorem dX11_find_23 : decode cX11_find 23 = .ok (.iload_n 2, 1) := by decide +kernel
theorem dX11_find_24 : decode cX11_find 24 = .ok (.isub, 1) := by decide +kernel
theorem dX11_find_25 : decode cX11_find 25 = .ok (.bipush 20, 2) := by decide +kernel
theorem dX11_find_27 : decode cX11_find 27 = .ok (.if_icmp .lt 5, 3) := by decide +kernel
theorem dX11_find_30 : decode cX11_find 30 = .ok (.iconst (-1), 1) := by decide +kernel
theorem dX11_find_31 : decode cX11_find 31 = .ok (.ireturn, 1) := by decide +kernel
theorem dX11_find_32 : decode cX11_find 32 = .ok (.iload 4, 2) := by decide +kernel
theorem dX11_find_34 : decode cX11_find 34 = .ok (.iconst 0, 1) := by decide +kernel
theorem dX11_find_35 : decode cX11_find 35 = .ok (.bipush 99, 2) := by decide +kernel
theorem dX11_find_37 : decode cX11_find 37 = .ok (.invokestatic 91, 3) := by decide +kernel
theorem dX11_find_40 : decode cX11_find 40 = .ok (.ifCond .eq 15, 3) := by decide +kernel
theorem dX11_find_43 : decode cX11_find 43 = .ok (.iload 5, 2) := by decide +kernel
theorem dX11_find_45 : decode cX11_find 45 = .ok (.iload 6, 2) := by decide +kernel
theorem dX11_find_47 : decode cX11_find 47 = .ok (.bipush 7, 2) := by decide +kernel
theorem dX11_find_49 : decode cX11_find 49 = .ok (.invokestatic 137, 3) := by decide +kernel
theorem dX11_find_52 : decode cX11_find 52 = .ok (.ifCond .ne 5, 3) := by decide +kernel
theorem dX11_find_55 : decode cX11_find 55 = .ok (.iconst (-1), 1) := by decide +kernel
theorem dX11_find_56 : decode cX11_find 56 = .ok (.ireturn, 1) := by decide +kernel
theorem dX11_find_57 : decode cX11_find 57 = .ok (.iload 7, 2) := by decide +kernel
theorem dX11_find_59 : decode cX11_find 59 = .ok (.iconst 0, 1) := by decide +kernel
theorem dX11_find_60 : decode cX11_find 60 = .ok (.bipush 7, 2) := by decide +kernel
theorem dX11_find_62 : decode cX11_find 62 = .ok (.invokestatic 91, 3) := by decide +kernel
theorem dX11_find_65 : decode cX11_find 65 = .ok (.ifCond .eq 28, 3) := by decide +kernel
theorem dX11_find_68 : decode cX11_find 68 = .ok (.iload 8, 2) := by decide +kernel
theorem dX11_find_70 : decode cX11_find 70 = .ok (.iconst 0, 1) := by decide +kernel
theorem dX11_find_71 : decode cX11_find 71 = .ok (.sipush 255, 3) := by decide +kernel
theorem dX11_find_74 : decode cX11_find 74 = .ok (.invokestatic 91, 3) := by decide +kernel
theorem dX11_find_77 : decode cX11_find 77 = .ok (.ifCond .eq 16, 3) := by decide +kernel
theorem dX11_find_80 : decode cX11_find 80 = .ok (.aload_n 0, 1) := by decide +kernel
theorem dX11_find_81 : decode cX11_find 81 = .ok (.getfield 51, 3) := by decide +kernel
theorem dX11_find_84 : decode cX11_find 84 = .ok (.getfield 229, 3) := by decide +kernel
theorem dX11_find_87 : decode cX11_find 87 = .ok (.sipush 150, 3) := by decide +kernel
theorem dX11_find_90 : decode cX11_find 90 = .ok (.if_icmp .lt 5, 3) := by decide +kernel
theorem dX11_find_93 : decode cX11_find 93 = .ok (.iconst (-1), 1) := by decide +kernel
theorem dX11_find_94 : decode cX11_find 94 = .ok (.ireturn, 1) := by decide +kernel
theorem dX11_find_95 : decode cX11_find 95 = .ok (.aload_n 0, 1) := by decide +kernel
theorem dX11_find_96 : decode cX11_find 96 = .ok (.getfield 51, 3) := by decide +kernel
theorem dX11_find_99 : decode cX11_find 99 = .ok (.iload_n 1, 1) := by decide +kernel
theorem dX11_find_100 : decode cX11_find 100 = .ok (.iload 4, 2) := by decide +kernel
theorem dX11_find_102 : decode cX11_find 102 = .ok (.iload 7, 2) := by decide +kernel
theorem dX11_find_104 : decode cX11_find 104 = .ok (.iload 8, 2) := by decide +kernel
theorem dX11_find_106 : decode cX11_find 106 = .ok (.invokevirtual 230, 3) := by decide +kernel
theorem dX11_find_109 : decode cX11_find 109 = .ok (.aload_n 0, 1) := by decide +kernel
theorem dX11_find_110 : decode cX11_find 110 = .ok (.getfield 51, 3) := by decide +kernel
theorem dX11_find_113 : decode cX11_find 113 = .ok (.iload 5, 2) := by decide +kernel
theorem dX11_find_115 : decode cX11_find 115 = .ok (.iload 6, 2) := by decide +kernel
theorem dX11_find_117 : decode cX11_find 117 = .ok (.invokevirtual 231, 3) := by decide +kernel
theorem dX11_find_120 : decode cX11_find 120 = .ok (.aload_n 0, 1) := by decide +kernel
theorem dX11_find_121 : decode cX11_find 121 = .ok (.getfield 51, 3) := by decide +kernel
theorem dX11_find_124 : decode cX11_find 124 = .ok (.iload_n 2, 1) := by decide +kernel
theorem dX11_find_125 : decode cX11_find 125 = .ok (.iload_n 3, 1) := by decide +kernel
theorem dX11_find_126 : decode cX11_find 126 = .ok (.aload_n 0, 1) := by decide +kernel
theorem dX11_find_127 : decode cX11_find 127 = .ok (.getfield 87, 3) := by decide +kernel
theorem dX11_find_130 : decode cX11_find 130 = .ok (.invokevirtual 232, 3) := by decide +kernel
theorem dX11_find_133 : decode cX11_find 133 = .ok (.ireturn, 1) := by decide +kernel
theorem dX11_may_0 : decode cX11_may 0 = .ok (.aload_n 0, 1) := by decide +kernel
theorem dX11_may_1 : decode cX11_may 1 = .ok (.iload_n 1, 1) := by decide +kernel
theorem dX11_may_2 : decode cX11_may 2 = .ok (.invokevirtual 233, 3) := by decide +kernel
theorem dX11_may_5 : decode cX11_may 5 = .ok (.ifCond .eq 22, 3) := by decide +kernel
theorem dX11_may_8 : decode cX11_may 8 = .ok (.iload_n 2, 1) := by decide +kernel
theorem dX11_may_9 : decode cX11_may 9 = .ok (.invokestatic 111, 3) := by decide +kernel
theorem dX11_may_12 : decode cX11_may 12 = .ok (.ifCond .eq 15, 3) := by decide +kernel
theorem dX11_may_15 : decode cX11_may 15 = .ok (.aload_n 0, 1) := by decide +kernel
theorem dX11_may_16 : decode cX11_may 16 = .ok (.getfield 51, 3) := by decide +kernel
theorem dX11_may_19 : decode cX11_may 19 = .ok (.iload_n 1, 1) := by decide +kernel
theorem dX11_may_20 : decode cX11_may 20 = .ok (.iload_n 2, 1) := by decide +kernel
theorem dX11_may_21 : decode cX11_may 21 = .ok (.invokevirtual 236, 3) := by decide +kernel
theorem dX11_may_24 : decode cX11_may 24 = .ok (.ifCond .ne 5, 3) := by decide +kernel
theorem dX11_may_27 : decode cX11_may 27 = .ok (.iconst (-1), 1) := by decide +kernel
theorem dX11_may_28 : decode cX11_may 28 = .ok (.ireturn, 1) := by decide +kernel
theorem dX11_may_29 : decode cX11_may 29 = .ok (.aload_n 0, 1) := by decide +kernel
theorem dX11_may_30 : decode cX11_may 30 = .ok (.getfield 51, 3) := by decide +kernel
theorem dX11_may_33 : decode cX11_may 33 = .ok (.iload_n 1, 1) := by decide +kernel
theorem dX11_may_34 : decode cX11_may 34 = .ok (.iload_n 2, 1) := by decide +kernel
theorem dX11_may_35 : decode cX11_may 35 = .ok (.iconst (-1), 1) := by decide +kernel
theorem dX11_may_36 : decode cX11_may 36 = .ok (.invokevirtual 239, 3) := by decide +kernel
theorem dX11_may_39 : decode cX11_may 39 = .ok (.ireturn, 1) := by decide +kernel
theorem dX11_sure_0 : decode cX11_sure 0 = .ok (.iload_n 1, 1) := by decide +kernel
theorem dX11_sure_1 : decode cX11_sure 1 = .ok (.invokestatic 111, 3) := by decide +kernel
theorem dX11_sure_4 : decode cX11_sure 4 = .ok (.ifCond .eq 15, 3) := by decide +kernel
theorem dX11_sure_7 : decode cX11_sure 7 = .ok (.aload_n 0, 1) := by decide +kernel
theorem dX11_sure_8 : decode cX11_sure 8 = .ok (.getfield 51, 3) := by decide +kernel
theorem dX11_sure_11 : decode cX11_sure 11 = .ok (.iload_n 1, 1) := by decide +kernel
theorem dX11_sure_12 : decode cX11_sure 12 = .ok (.iconst (-1), 1) := by decide +kernel
theorem dX11_sure_13 : decode cX11_sure 13 = .ok (.invokevirtual 242, 3) := by decide +kernel
theorem dX11_sure_16 : decode cX11_sure 16 = .ok (.goto 4, 3) := by decide +kernel
theorem dX11_sure_19 : decode cX11_sure 19 = .ok (.iconst (-1), 1) := by decide +kernel
theorem dX11_sure_20 : decode cX11_sure 20 = .ok (.ireturn, 1) := by decide +kernel
theorem dX11_nowhere_0 : decode cX11_nowhere 0 = .ok (.iload_n 1, 1) := by decide +kernel
theorem dX11_nowhere_1 : decode cX11_nowhere 1 = .ok (.ifCond .lt 22, 3) := by decide +kernel
theorem dX11_nowhere_4 : decode cX11_nowhere 4 = .ok (.iload_n 2, 1) := by decide +kernel
theorem dX11_nowhere_5 : decode cX11_nowhere 5 = .ok (.invokestatic 111, 3) := by decide +kernel
theorem dX11_nowhere_8 : decode cX11_nowhere 8 = .ok (.ifCond .eq 15, 3) := by decide +kernel
theorem dX11_nowhere_11 : decode cX11_nowhere 11 = .ok (.aload_n 0, 1) := by decide +kernel
theorem dX11_nowhere_12 : decode cX11_nowhere 12 = .ok (.getfield 51, 3) := by decide +kernel
theorem dX11_nowhere_15 : decode cX11_nowhere 15 = .ok (.iload_n 1, 1) := by decide +kernel
theorem dX11_nowhere_16 : decode cX11_nowhere 16 = .ok (.iload_n 2, 1) := by decide +kernel
theorem dX11_nowhere_17 : decode cX11_nowhere 17 = .ok (.invokevirtual 246, 3) := by decide +kernel
theorem dX11_nowhere_20 : decode cX11_nowhere 20 = .ok (.goto 4, 3) := by decide +kernel
theorem dX11_nowhere_23 : decode cX11_nowhere 23 = .ok (.iconst (-1), 1) := by decide +kernel
theorem dX11_nowhere_24 : decode cX11_nowhere 24 = .ok (.ireturn, 1) := by decide +kernel
theorem dX11_barred_0 : decode cX11_barred 0 = .ok (.iload_n 1, 1) := by decide +kernel
theorem dX11_barred_1 : decode cX11_barred 1 = .ok (.iconst 0, 1) := by decide +kernel
theorem dX11_barred_2 : decode cX11_barred 2 = .ok (.aload_n 0, 1) := by decide +kernel
theorem dX11_barred_3 : decode cX11_barred 3 = .ok (.getfield 28, 3) := by decide +kernel
theorem dX11_barred_6 : decode cX11_barred 6 = .ok (.getfield 98, 3) := by decide +kernel
theorem dX11_barred_9 : decode cX11_barred 9 = .ok (.iconst 1, 1) := by decide +kernel
theorem dX11_barred_10 : decode cX11_barred 10 = .ok (.isub, 1) := by decide +kernel
theorem dX11_barred_11 : decode cX11_barred 11 = .ok (.invokestatic 91, 3) := by decide +kernel
theorem dX11_barred_14 : decode cX11_barred 14 = .ok (.ifCond .eq 16, 3) := by decide +kernel
theorem dX11_barred_17 : decode cX11_barred 17 = .ok (.aload_n 0, 1) := by decide +kernel
theorem dX11_barred_18 : decode cX11_barred 18 = .ok (.getfield 28, 3) := by decide +kernel
theorem dX11_barred_21 : decode cX11_barred 21 = .ok (.getfield 249, 3) := by decide +kernel
theorem dX11_barred_24 : decode cX11_barred 24 = .ok (.iload_n 1, 1) := by decide +kernel
theorem dX11_barred_25 : decode cX11_barred 25 = .ok (.iaload, 1) := by decide +kernel
theorem dX11_barred_26 : decode cX11_barred 26 = .ok (.iconst 2, 1) := by decide +kernel
theorem dX11_barred_27 : decode cX11_barred 27 = .ok (.if_icmp .ne 5, 3) := by decide +kernel
theorem dX11_barred_30 : decode cX11_barred 30 = .ok (.iconst (-1), 1) := by decide +kernel
theorem dX11_barred_31 : decode cX11_barred 31 = .ok (.ireturn, 1) := by decide +kernel
theorem dX11_barred_32 : decode cX11_barred 32 = .ok (.aload_n 0, 1) := by decide +kernel
theorem dX11_barred_33 : decode cX11_barred 33 = .ok (.getfield 42, 3) := by decide +kernel
theorem dX11_barred_36 : decode cX11_barred 36 = .ok (.aload_n 0, 1) := by decide +kernel
theorem dX11_barred_37 : decode cX11_barred 37 = .ok (.getfield 28, 3) := by decide +kernel
theorem dX11_barred_40 : decode cX11_barred 40 = .ok (.getfield 250, 3) := by decide +kernel
theorem dX11_barred_43 : decode cX11_barred 43 = .ok (.iload_n 1, 1) := by decide +kernel
theorem dX11_barred_44 : decode cX11_barred 44 = .ok (.iaload, 1) := by decide +kernel
theorem dX11_barred_45 : decode cX11_barred 45 = .ok (.aload_n 0, 1) := by decide +kernel
theorem dX11_barred_46 : decode cX11_barred 46 = .ok (.getfield 28, 3) := by decide +kernel
theorem dX11_barred_49 : decode cX11_barred 49 = .ok (.getfield 253, 3) := by decide +kernel
theorem dX11_barred_52 : decode cX11_barred 52 = .ok (.iload_n 1, 1) := by decide +kernel
theorem dX11_barred_53 : decode cX11_barred 53 = .ok (.iaload, 1) := by decide +kernel
theorem dX11_barred_54 : decode cX11_barred 54 = .ok (.aload_n 0, 1) := by decide +kernel
theorem dX11_barred_55 : decode cX11_barred 55 = .ok (.getfield 28, 3) := by decide +kernel
theorem dX11_barred_58 : decode cX11_barred 58 = .ok (.getfield 249, 3) := by decide +kernel
theorem dX11_barred_61 : decode cX11_barred 61 = .ok (.iload_n 1, 1) := by decide +kernel
theorem dX11_barred_62 : decode cX11_barred 62 = .ok (.iaload, 1) := by decide +kernel
theorem dX11_barred_63 : decode cX11_barred 63 = .ok (.iconst 0, 1) := by decide +kernel
theorem dX11_barred_64 : decode cX11_barred 64 = .ok (.iconst (-1), 1) := by decide +kernel
theorem dX11_barred_65 : decode cX11_barred 65 = .ok (.invokevirtual 214, 3) := by decide +kernel
theorem dX11_barred_68 : decode cX11_barred 68 = .ok (.aload_n 0, 1) := by decide +kernel
theorem dX11_barred_69 : decode cX11_barred 69 = .ok (.getfield 28, 3) := by decide +kernel
theorem dX11_barred_72 : decode cX11_barred 72 = .ok (.getfield 256, 3) := by decide +kernel
theorem dX11_barred_75 : decode cX11_barred 75 = .ok (.iload_n 1, 1) := by decide +kernel
theorem dX11_barred_76 : decode cX11_barred 76 = .ok (.iaload, 1) := by decide +kernel
theorem dX11_barred_77 : decode cX11_barred 77 = .ok (.aload_n 0, 1) := by decide +kernel
theorem dX11_barred_78 : decode cX11_barred 78 = .ok (.getfield 42, 3) := by decide +kernel
theorem dX11_barred_81 : decode cX11_barred 81 = .ok (.invokevirtual 223, 3) := by decide +kernel
theorem dX11_barred_84 : decode cX11_barred 84 = .ok (.if_icmp .le 7, 3) := by decide +kernel
theorem dX11_barred_87 : decode cX11_barred 87 = .ok (.iconst 1, 1) := by decide +kernel
theorem dX11_barred_88 : decode cX11_barred 88 = .ok (.goto 4, 3) := by decide +kernel
theorem dX11_barred_91 : decode cX11_barred 91 = .ok (.iconst 0, 1) := by decide +kernel
theorem dX11_barred_92 : decode cX11_barred 92 = .ok (.ireturn, 1) := by decide +kernel
theorem dX11_thing_0 : decode cX11_thing 0 = .ok (.iload_n 1, 1) := by decide +kernel
theorem dX11_thing_1 : decode cX11_thing 1 = .ok (.iconst 0, 1) := by decide +kernel
theorem dX11_thing_2 : decode cX11_thing 2 = .ok (.bipush 9, 2) := by decide +kernel
theorem dX11_thing_4 : decode cX11_thing 4 = .ok (.invokestatic 91, 3) := by decide +kernel
theorem dX11_thing_7 : decode cX11_thing 7 = .ok (.ifCond .eq 13, 3) := by decide +kernel
theorem dX11_thing_10 : decode cX11_thing 10 = .ok (.iload_n 2, 1) := by decide +kernel
theorem dX11_thing_11 : decode cX11_thing 11 = .ok (.iconst 0, 1) := by decide +kernel
theorem dX11_thing_12 : decode cX11_thing 12 = .ok (.bipush 7, 2) := by decide +kernel
theorem dX11_thing_14 : decode cX11_thing 14 = .ok (.invokestatic 91, 3) := by decide +kernel
theorem dX11_thing_17 : decode cX11_thing 17 = .ok (.ifCond .ne 5, 3) := by decide +kernel
theorem dX11_thing_20 : decode cX11_thing 20 = .ok (.iconst (-1), 1) := by decide +kernel
theorem dX11_thing_21 : decode cX11_thing 21 = .ok (.ireturn, 1) := by decide +kernel
theorem dX11_thing_22 : decode cX11_thing 22 = .ok (.iload_n 3, 1) := by decide +kernel
theorem dX11_thing_23 : decode cX11_thing 23 = .ok (.iconst 0, 1) := by decide +kernel
theorem dX11_thing_24 : decode cX11_thing 24 = .ok (.sipush 255, 3) := by decide +kernel
theorem dX11_thing_27 : decode cX11_thing 27 = .ok (.invokestatic 91, 3) := by decide +kernel
theorem dX11_thing_30 : decode cX11_thing 30 = .ok (.ifCond .eq 15, 3) := by decide +kernel
theorem dX11_thing_33 : decode cX11_thing 33 = .ok (.aload_n 0, 1) := by decide +kernel
theorem dX11_thing_34 : decode cX11_thing 34 = .ok (.getfield 60, 3) := by decide +kernel
theorem dX11_thing_37 : decode cX11_thing 37 = .ok (.getfield 259, 3) := by decide +kernel
theorem dX11_thing_40 : decode cX11_thing 40 = .ok (.bipush 60, 2) := by decide +kernel
theorem dX11_thing_42 : decode cX11_thing 42 = .ok (.if_icmp .lt 5, 3) := by decide +kernel
theorem dX11_thing_45 : decode cX11_thing 45 = .ok (.iconst (-1), 1) := by decide +kernel
theorem dX11_thing_46 : decode cX11_thing 46 = .ok (.ireturn, 1) := by decide +kernel
theorem dX11_thing_47 : decode cX11_thing 47 = .ok (.aload_n 0, 1) := by decide +kernel
theorem dX11_thing_48 : decode cX11_thing 48 = .ok (.getfield 60, 3) := by decide +kernel
theorem dX11_thing_51 : decode cX11_thing 51 = .ok (.iload_n 1, 1) := by decide +kernel
theorem dX11_thing_52 : decode cX11_thing 52 = .ok (.iload_n 2, 1) := by decide +kernel
theorem dX11_thing_53 : decode cX11_thing 53 = .ok (.iload_n 3, 1) := by decide +kernel
theorem dX11_thing_54 : decode cX11_thing 54 = .ok (.invokevirtual 262, 3) := by decide +kernel
theorem dX11_thing_57 : decode cX11_thing 57 = .ok (.ireturn, 1) := by decide +kernel
theorem dX11_gone_0 : decode cX11_gone 0 = .ok (.iload_n 1, 1) := by decide +kernel
theorem dX11_gone_1 : decode cX11_gone 1 = .ok (.iconst 0, 1) := by decide +kernel
theorem dX11_gone_2 : decode cX11_gone 2 = .ok (.aload_n 0, 1) := by decide +kernel
theorem dX11_gone_3 : decode cX11_gone 3 = .ok (.getfield 60, 3) := by decide +kernel
theorem dX11_gone_6 : decode cX11_gone 6 = .ok (.getfield 259, 3) := by decide +kernel
theorem dX11_gone_9 : decode cX11_gone 9 = .ok (.iconst 1, 1) := by decide +kernel
theorem dX11_gone_10 : decode cX11_gone 10 = .ok (.isub, 1) := by decide +kernel
theorem dX11_gone_11 : decode cX11_gone 11 = .ok (.invokestatic 91, 3) := by decide +kernel
theorem dX11_gone_14 : decode cX11_gone 14 = .ok (.ifCond .eq 16, 3) := by decide +kernel
theorem dX11_gone_17 : decode cX11_gone 17 = .ok (.aload_n 0, 1) := by decide +kernel
theorem dX11_gone_18 : decode cX11_gone 18 = .ok (.getfield 60, 3) := by decide +kernel
theorem dX11_gone_21 : decode cX11_gone 21 = .ok (.getfield 263, 3) := by decide +kernel
theorem dX11_gone_24 : decode cX11_gone 24 = .ok (.iload_n 1, 1) := by decide +kernel
theorem dX11_gone_25 : decode cX11_gone 25 = .ok (.baload, 1) := by decide +kernel
theorem dX11_gone_26 : decode cX11_gone 26 = .ok (.iload_n 2, 1) := by decide +kernel
theorem dX11_gone_27 : decode cX11_gone 27 = .ok (.if_icmp .ne 5, 3) := by decide +kernel
theorem dX11_gone_30 : decode cX11_gone 30 = .ok (.iconst 0, 1) := by decide +kernel
theorem dX11_gone_31 : decode cX11_gone 31 = .ok (.ireturn, 1) := by decide +kernel
theorem dX11_gone_32 : decode cX11_gone 32 = .ok (.aload_n 0, 1) := by decide +kernel
theorem dX11_gone_33 : decode cX11_gone 33 = .ok (.getfield 60, 3) := by decide +kernel
theorem dX11_gone_36 : decode cX11_gone 36 = .ok (.getfield 263, 3) := by decide +kernel
theorem dX11_gone_39 : decode cX11_gone 39 = .ok (.iload_n 1, 1) := by decide +kernel
theorem dX11_gone_40 : decode cX11_gone 40 = .ok (.iload_n 2, 1) := by decide +kernel
theorem dX11_gone_41 : decode cX11_gone 41 = .ok (.bastore, 1) := by decide +kernel
theorem dX11_gone_42 : decode cX11_gone 42 = .ok (.iconst 1, 1) := by decide +kernel
theorem dX11_gone_43 : decode cX11_gone 43 = .ok (.ireturn, 1) := by decide +kernel
theorem dX11_like_0 : decode cX11_like 0 = .ok (.aload_n 0, 1) := by decide +kernel
theorem dX11_like_1 : decode cX11_like 1 = .ok (.iload_n 1, 1) := by decide +kernel
theorem dX11_like_2 : decode cX11_like 2 = .ok (.invokevirtual 233, 3) := by decide +kernel
theorem dX11_like_5 : decode cX11_like 5 = .ok (.ifCond .eq 20, 3) := by decide +kernel
theorem dX11_like_8 : decode cX11_like 8 = .ok (.iload_n 2, 1) := by decide +kernel
theorem dX11_like_9 : decode cX11_like 9 = .ok (.iconst 0, 1) := by decide +kernel
theorem dX11_like_10 : decode cX11_like 10 = .ok (.aload_n 0, 1) := by decide +kernel
theorem dX11_like_11 : decode cX11_like 11 = .ok (.getfield 60, 3) := by decide +kernel
theorem dX11_like_14 : decode cX11_like 14 = .ok (.getfield 259, 3) := by decide +kernel
theorem dX11_like_17 : decode cX11_like 17 = .ok (.iconst 1, 1) := by decide +kernel
theorem dX11_like_18 : decode cX11_like 18 = .ok (.isub, 1) := by decide +kernel
theorem dX11_like_19 : decode cX11_like 19 = .ok (.invokestatic 91, 3) := by decide +kernel
theorem dX11_like_22 : decode cX11_like 22 = .ok (.ifCond .ne 5, 3) := by decide +kernel
theorem dX11_like_25 : decode cX11_like 25 = .ok (.iconst (-1), 1) := by decide +kernel
theorem dX11_like_26 : decode cX11_like 26 = .ok (.ireturn, 1) := by decide +kernel
theorem dX11_like_27 : decode cX11_like 27 = .ok (.aload_n 0, 1) := by decide +kernel
theorem dX11_like_28 : decode cX11_like 28 = .ok (.getfield 60, 3) := by decide +kernel
theorem dX11_like_31 : decode cX11_like 31 = .ok (.getfield 263, 3) := by decide +kernel
theorem dX11_like_34 : decode cX11_like 34 = .ok (.iload_n 2, 1) := by decide +kernel
theorem dX11_like_35 : decode cX11_like 35 = .ok (.baload, 1) := by decide +kernel
theorem dX11_like_36 : decode cX11_like 36 = .ok (.ifCond .ne 27, 3) := by decide +kernel
theorem dX11_like_39 : decode cX11_like 39 = .ok (.aload_n 0, 1) := by decide +kernel
theorem dX11_like_40 : decode cX11_like 40 = .ok (.getfield 60, 3) := by decide +kernel
theorem dX11_like_43 : decode cX11_like 43 = .ok (.iload_n 1, 1) := by decide +kernel
theorem dX11_like_44 : decode cX11_like 44 = .ok (.iload_n 2, 1) := by decide +kernel
theorem dX11_like_45 : decode cX11_like 45 = .ok (.aload_n 0, 1) := by decide +kernel
theorem dX11_like_46 : decode cX11_like 46 = .ok (.getfield 60, 3) := by decide +kernel
theorem dX11_like_49 : decode cX11_like 49 = .ok (.iload_n 1, 1) := by decide +kernel
theorem dX11_like_50 : decode cX11_like 50 = .ok (.invokevirtual 267, 3) := by decide +kernel
theorem dX11_like_53 : decode cX11_like 53 = .ok (.invokevirtual 270, 3) := by decide +kernel
theorem dX11_like_56 : decode cX11_like 56 = .ok (.ifCond .eq 7, 3) := by decide +kernel
theorem dX11_like_59 : decode cX11_like 59 = .ok (.iconst 1, 1) := by decide +kernel
theorem dX11_like_60 : decode cX11_like 60 = .ok (.goto 4, 3) := by decide +kernel
theorem dX11_like_63 : decode cX11_like 63 = .ok (.iconst 0, 1) := by decide +kernel
theorem dX11_like_64 : decode cX11_like 64 = .ok (.ireturn, 1) := by decide +kernel
theorem dX11_join_0 : decode cX11_join 0 = .ok (.iload_n 1, 1) := by decide +kernel
theorem dX11_join_1 : decode cX11_join 1 = .ok (.iconst 0, 1) := by decide +kernel
theorem dX11_join_2 : decode cX11_join 2 = .ok (.bipush 8, 2) := by decide +kernel
theorem dX11_join_4 : decode cX11_join 4 = .ok (.invokestatic 91, 3) := by decide +kernel
theorem dX11_join_7 : decode cX11_join 7 = .ok (.ifCond .eq 14, 3) := by decide +kernel
theorem dX11_join_10 : decode cX11_join 10 = .ok (.iload_n 1, 1) := by decide +kernel
theorem dX11_join_11 : decode cX11_join 11 = .ok (.aload_n 0, 1) := by decide +kernel
theorem dX11_join_12 : decode cX11_join 12 = .ok (.getfield 10, 3) := by decide +kernel
theorem dX11_join_15 : decode cX11_join 15 = .ok (.getfield 182, 3) := by decide +kernel
theorem dX11_join_18 : decode cX11_join 18 = .ok (.if_icmp .le 5, 3) := by decide +kernel
theorem dX11_join_21 : decode cX11_join 21 = .ok (.iconst (-1), 1) := by decide +kernel
theorem dX11_join_22 : decode cX11_join 22 = .ok (.ireturn, 1) := by decide +kernel
theorem dX11_join_23 : decode cX11_join 23 = .ok (.aload_n 0, 1) := by decide +kernel
theorem dX11_join_24 : decode cX11_join 24 = .ok (.getfield 10, 3) := by decide +kernel
theorem dX11_join_27 : decode cX11_join 27 = .ok (.invokevirtual 192, 3) := by decide +kernel
theorem dX11_join_30 : decode cX11_join 30 = .ok (.aload_n 0, 1) := by decide +kernel
theorem dX11_join_31 : decode cX11_join 31 = .ok (.getfield 60, 3) := by decide +kernel
theorem dX11_join_34 : decode cX11_join 34 = .ok (.aload_n 0, 1) := by decide +kernel
theorem dX11_join_35 : decode cX11_join 35 = .ok (.getfield 10, 3) := by decide +kernel
theorem dX11_join_38 : decode cX11_join 38 = .ok (.getfield 195, 3) := by decide +kernel
theorem dX11_join_41 : decode cX11_join 41 = .ok (.iload_n 1, 1) := by decide +kernel
theorem dX11_join_42 : decode cX11_join 42 = .ok (.invokevirtual 273, 3) := by decide +kernel
theorem dX11_join_45 : decode cX11_join 45 = .ok (.ifCond .eq 13, 3) := by decide +kernel
theorem dX11_join_48 : decode cX11_join 48 = .ok (.aload_n 0, 1) := by decide +kernel
theorem dX11_join_49 : decode cX11_join 49 = .ok (.getfield 60, 3) := by decide +kernel
theorem dX11_join_52 : decode cX11_join 52 = .ok (.invokevirtual 277, 3) := by decide +kernel
theorem dX11_join_55 : decode cX11_join 55 = .ok (.goto 5, 3) := by decide +kernel
theorem dX11_join_58 : decode cX11_join 58 = .ok (.bipush (-2), 2) := by decide +kernel
theorem dX11_join_60 : decode cX11_join 60 = .ok (.ireturn, 1) := by decide +kernel
theorem dX11_joined_0 : decode cX11_joined 0 = .ok (.iload_n 1, 1) := by decide +kernel
theorem dX11_joined_1 : decode cX11_joined 1 = .ok (.iconst 0, 1) := by decide +kernel
theorem dX11_joined_2 : decode cX11_joined 2 = .ok (.aload_n 0, 1) := by decide +kernel
theorem dX11_joined_3 : decode cX11_joined 3 = .ok (.getfield 60, 3) := by decide +kernel
theorem dX11_joined_6 : decode cX11_joined 6 = .ok (.getfield 280, 3) := by decide +kernel
theorem dX11_joined_9 : decode cX11_joined 9 = .ok (.iconst 1, 1) := by decide +kernel
theorem dX11_joined_10 : decode cX11_joined 10 = .ok (.isub, 1) := by decide +kernel
theorem dX11_joined_11 : decode cX11_joined 11 = .ok (.invokestatic 91, 3) := by decide +kernel
theorem dX11_joined_14 : decode cX11_joined 14 = .ok (.ifCond .eq 15, 3) := by decide +kernel
theorem dX11_joined_17 : decode cX11_joined 17 = .ok (.aload_n 0, 1) := by decide +kernel
theorem dX11_joined_18 : decode cX11_joined 18 = .ok (.getfield 60, 3) := by decide +kernel
theorem dX11_joined_21 : decode cX11_joined 21 = .ok (.getfield 283, 3) := by decide +kernel
theorem dX11_joined_24 : decode cX11_joined 24 = .ok (.iload_n 1, 1) := by decide +kernel
theorem dX11_joined_25 : decode cX11_joined 25 = .ok (.iaload, 1) := by decide +kernel
theorem dX11_joined_26 : decode cX11_joined 26 = .ok (.goto 4, 3) := by decide +kernel
theorem dX11_joined_29 : decode cX11_joined 29 = .ok (.iconst (-1), 1) := by decide +kernel
theorem dX11_joined_30 : decode cX11_joined 30 = .ok (.ireturn, 1) := by decide +kernel
theorem dX11_lost_0 : decode cX11_lost 0 = .ok (.iload_n 1, 1) := by decide +kernel
theorem dX11_lost_1 : decode cX11_lost 1 = .ok (.iconst 0, 1) := by decide +kernel
theorem dX11_lost_2 : decode cX11_lost 2 = .ok (.bipush 100, 2) := by decide +kernel
theorem dX11_lost_4 : decode cX11_lost 4 = .ok (.invokestatic 91, 3) := by decide +kernel
theorem dX11_lost_7 : decode cX11_lost 7 = .ok (.ifCond .eq 23, 3) := by decide +kernel
theorem dX11_lost_10 : decode cX11_lost 10 = .ok (.iload_n 2, 1) := by decide +kernel
theorem dX11_lost_11 : decode cX11_lost 11 = .ok (.iconst 0, 1) := by decide +kernel
theorem dX11_lost_12 : decode cX11_lost 12 = .ok (.iconst 1, 1) := by decide +kernel
theorem dX11_lost_13 : decode cX11_lost 13 = .ok (.invokestatic 91, 3) := by decide +kernel
theorem dX11_lost_16 : decode cX11_lost 16 = .ok (.ifCond .eq 14, 3) := by decide +kernel
theorem dX11_lost_19 : decode cX11_lost 19 = .ok (.iload_n 1, 1) := by decide +kernel
theorem dX11_lost_20 : decode cX11_lost 20 = .ok (.aload_n 0, 1) := by decide +kernel
theorem dX11_lost_21 : decode cX11_lost 21 = .ok (.getfield 10, 3) := by decide +kernel
theorem dX11_lost_24 : decode cX11_lost 24 = .ok (.getfield 182, 3) := by decide +kernel
theorem dX11_lost_27 : decode cX11_lost 27 = .ok (.if_icmp .le 5, 3) := by decide +kernel
theorem dX11_lost_30 : decode cX11_lost 30 = .ok (.iconst (-1), 1) := by decide +kernel
theorem dX11_lost_31 : decode cX11_lost 31 = .ok (.ireturn, 1) := by decide +kernel
theorem dX11_lost_32 : decode cX11_lost 32 = .ok (.aload_n 0, 1) := by decide +kernel
theorem dX11_lost_33 : decode cX11_lost 33 = .ok (.getfield 10, 3) := by decide +kernel
theorem dX11_lost_36 : decode cX11_lost 36 = .ok (.invokevirtual 192, 3) := by decide +kernel
theorem dX11_lost_39 : decode cX11_lost 39 = .ok (.aload_n 0, 1) := by decide +kernel
theorem dX11_lost_40 : decode cX11_lost 40 = .ok (.getfield 60, 3) := by decide +kernel
theorem dX11_lost_43 : decode cX11_lost 43 = .ok (.aload_n 0, 1) := by decide +kernel
theorem dX11_lost_44 : decode cX11_lost 44 = .ok (.getfield 10, 3) := by decide +kernel
theorem dX11_lost_47 : decode cX11_lost 47 = .ok (.getfield 195, 3) := by decide +kernel
theorem dX11_lost_50 : decode cX11_lost 50 = .ok (.iload_n 1, 1) := by decide +kernel
theorem dX11_lost_51 : decode cX11_lost 51 = .ok (.invokevirtual 273, 3) := by decide +kernel
theorem dX11_lost_54 : decode cX11_lost 54 = .ok (.ifCond .ne 6, 3) := by decide +kernel
theorem dX11_lost_57 : decode cX11_lost 57 = .ok (.bipush (-2), 2) := by decide +kernel
theorem dX11_lost_59 : decode cX11_lost 59 = .ok (.ireturn, 1) := by decide +kernel
theorem dX11_lost_60 : decode cX11_lost 60 = .ok (.aload_n 0, 1) := by decide +kernel
theorem dX11_lost_61 : decode cX11_lost 61 = .ok (.getfield 60, 3) := by decide +kernel
theorem dX11_lost_64 : decode cX11_lost 64 = .ok (.invokevirtual 286, 3) := by decide +kernel
theorem dX11_lost_67 : decode cX11_lost 67 = .ok (.iload_n 2, 1) := by decide +kernel
theorem dX11_lost_68 : decode cX11_lost 68 = .ok (.ifCond .ne 13, 3) := by decide +kernel
theorem dX11_lost_71 : decode cX11_lost 71 = .ok (.aload_n 0, 1) := by decide +kernel
theorem dX11_lost_72 : decode cX11_lost 72 = .ok (.getfield 60, 3) := by decide +kernel
theorem dX11_lost_75 : decode cX11_lost 75 = .ok (.getfield 289, 3) := by decide +kernel
theorem dX11_lost_78 : decode cX11_lost 78 = .ok (.goto 10, 3) := by decide +kernel
theorem dX11_lost_81 : decode cX11_lost 81 = .ok (.aload_n 0, 1) := by decide +kernel
theorem dX11_lost_82 : decode cX11_lost 82 = .ok (.getfield 60, 3) := by decide +kernel
theorem dX11_lost_85 : decode cX11_lost 85 = .ok (.invokevirtual 292, 3) := by decide +kernel
theorem dX11_lost_88 : decode cX11_lost 88 = .ok (.ireturn, 1) := by decide +kernel
theorem dX11_wall_0 : decode cX11_wall 0 = .ok (.aload_n 0, 1) := by decide +kernel
theorem dX11_wall_1 : decode cX11_wall 1 = .ok (.iload_n 1, 1) := by decide +kernel
theorem dX11_wall_2 : decode cX11_wall 2 = .ok (.invokevirtual 169, 3) := by decide +kernel
theorem dX11_wall_5 : decode cX11_wall 5 = .ok (.ifCond .eq 26, 3) := by decide +kernel
theorem dX11_wall_8 : decode cX11_wall 8 = .ok (.iload_n 2, 1) := by decide +kernel
theorem dX11_wall_9 : decode cX11_wall 9 = .ok (.iconst 0, 1) := by decide +kernel
theorem dX11_wall_10 : decode cX11_wall 10 = .ok (.sipush 10000, 3) := by decide +kernel
theorem dX11_wall_13 : decode cX11_wall 13 = .ok (.invokestatic 91, 3) := by decide +kernel
theorem dX11_wall_16 : decode cX11_wall 16 = .ok (.ifCond .eq 15, 3) := by decide +kernel
theorem dX11_wall_19 : decode cX11_wall 19 = .ok (.aload_n 0, 1) := by decide +kernel
theorem dX11_wall_20 : decode cX11_wall 20 = .ok (.getfield 67, 3) := by decide +kernel
theorem dX11_wall_23 : decode cX11_wall 23 = .ok (.getfield 295, 3) := by decide +kernel
theorem dX11_wall_26 : decode cX11_wall 26 = .ok (.bipush 30, 2) := by decide +kernel
theorem dX11_wall_28 : decode cX11_wall 28 = .ok (.if_icmp .lt 5, 3) := by decide +kernel
theorem dX11_wall_31 : decode cX11_wall 31 = .ok (.iconst (-1), 1) := by decide +kernel
theorem dX11_wall_32 : decode cX11_wall 32 = .ok (.ireturn, 1) := by decide +kernel
theorem dX11_wall_33 : decode cX11_wall 33 = .ok (.aload_n 0, 1) := by decide +kernel
theorem dX11_wall_34 : decode cX11_wall 34 = .ok (.getfield 67, 3) := by decide +kernel
theorem dX11_wall_37 : decode cX11_wall 37 = .ok (.iload_n 2, 1) := by decide +kernel
theorem dX11_wall_38 : decode cX11_wall 38 = .ok (.invokevirtual 296, 3) := by decide +kernel
theorem dX11_wall_41 : decode cX11_wall 41 = .ok (.ireturn, 1) := by decide +kernel
theorem dX11_draw_0 : decode cX11_draw 0 = .ok (.aload_n 0, 1) := by decide +kernel
theorem dX11_draw_1 : decode cX11_draw 1 = .ok (.iload_n 1, 1) := by decide +kernel
theorem dX11_draw_2 : decode cX11_draw 2 = .ok (.invokevirtual 298, 3) := by decide +kernel
theorem dX11_draw_5 : decode cX11_draw 5 = .ok (.ifCond .eq 26, 3) := by decide +kernel
theorem dX11_draw_8 : decode cX11_draw 8 = .ok (.iload_n 2, 1) := by decide +kernel
theorem dX11_draw_9 : decode cX11_draw 9 = .ok (.iconst 0, 1) := by decide +kernel
theorem dX11_draw_10 : decode cX11_draw 10 = .ok (.aload_n 0, 1) := by decide +kernel
theorem dX11_draw_11 : decode cX11_draw 11 = .ok (.getfield 87, 3) := by decide +kernel
theorem dX11_draw_14 : decode cX11_draw 14 = .ok (.invokestatic 91, 3) := by decide +kernel
theorem dX11_draw_17 : decode cX11_draw 17 = .ok (.ifCond .eq 14, 3) := by decide +kernel
theorem dX11_draw_20 : decode cX11_draw 20 = .ok (.iload_n 3, 1) := by decide +kernel
theorem dX11_draw_21 : decode cX11_draw 21 = .ok (.iconst 0, 1) := by decide +kernel
theorem dX11_draw_22 : decode cX11_draw 22 = .ok (.sipush 255, 3) := by decide +kernel
theorem dX11_draw_25 : decode cX11_draw 25 = .ok (.invokestatic 91, 3) := by decide +kernel
theorem dX11_draw_28 : decode cX11_draw 28 = .ok (.ifCond .ne 5, 3) := by decide +kernel
theorem dX11_draw_31 : decode cX11_draw 31 = .ok (.iconst (-1), 1) := by decide +kernel
theorem dX11_draw_32 : decode cX11_draw 32 = .ok (.ireturn, 1) := by decide +kernel
theorem dX11_draw_33 : decode cX11_draw 33 = .ok (.aload_n 0, 1) := by decide +kernel
theorem dX11_draw_34 : decode cX11_draw 34 = .ok (.getfield 67, 3) := by decide +kernel
theorem dX11_draw_37 : decode cX11_draw 37 = .ok (.getfield 301, 3) := by decide +kernel
theorem dX11_draw_40 : decode cX11_draw 40 = .ok (.bipush 100, 2) := by decide +kernel
theorem dX11_draw_42 : decode cX11_draw 42 = .ok (.if_icmp .ge 20, 3) := by decide +kernel
theorem dX11_draw_45 : decode cX11_draw 45 = .ok (.aload_n 0, 1) := by decide +kernel
theorem dX11_draw_46 : decode cX11_draw 46 = .ok (.getfield 67, 3) := by decide +kernel
theorem dX11_draw_49 : decode cX11_draw 49 = .ok (.iload_n 1, 1) := by decide +kernel
theorem dX11_draw_50 : decode cX11_draw 50 = .ok (.iload_n 2, 1) := by decide +kernel
theorem dX11_draw_51 : decode cX11_draw 51 = .ok (.iload_n 3, 1) := by decide +kernel
theorem dX11_draw_52 : decode cX11_draw 52 = .ok (.aload_n 0, 1) := by decide +kernel
theorem dX11_draw_53 : decode cX11_draw 53 = .ok (.getfield 87, 3) := by decide +kernel
theorem dX11_draw_56 : decode cX11_draw 56 = .ok (.invokevirtual 304, 3) := by decide +kernel
theorem dX11_draw_59 : decode cX11_draw 59 = .ok (.goto 4, 3) := by decide +kernel
theorem dX11_draw_62 : decode cX11_draw 62 = .ok (.iconst (-1), 1) := by decide +kernel
theorem dX11_draw_63 : decode cX11_draw 63 = .ok (.ireturn, 1) := by decide +kernel
theorem dX11_copy_0 : decode cX11_copy 0 = .ok (.iload_n 1, 1) := by decide +kernel
theorem dX11_copy_1 : decode cX11_copy 1 = .ok (.iconst 0, 1) := by decide +kernel
theorem dX11_copy_2 : decode cX11_copy 2 = .ok (.aload_n 0, 1) := by decide +kernel
theorem dX11_copy_3 : decode cX11_copy 3 = .ok (.getfield 67, 3) := by decide +kernel
theorem dX11_copy_6 : decode cX11_copy 6 = .ok (.getfield 301, 3) := by decide +kernel
theorem dX11_copy_9 : decode cX11_copy 9 = .ok (.iconst 1, 1) := by decide +kernel
theorem dX11_copy_10 : decode cX11_copy 10 = .ok (.isub, 1) := by decide +kernel
theorem dX11_copy_11 : decode cX11_copy 11 = .ok (.invokestatic 91, 3) := by decide +kernel
theorem dX11_copy_14 : decode cX11_copy 14 = .ok (.ifCond .eq 15, 3) := by decide +kernel
theorem dX11_copy_17 : decode cX11_copy 17 = .ok (.iload_n 2, 1) := by decide +kernel
theorem dX11_copy_18 : decode cX11_copy 18 = .ok (.iconst 0, 1) := by decide +kernel
theorem dX11_copy_19 : decode cX11_copy 19 = .ok (.aload_n 0, 1) := by decide +kernel
theorem dX11_copy_20 : decode cX11_copy 20 = .ok (.getfield 87, 3) := by decide +kernel
theorem dX11_copy_23 : decode cX11_copy 23 = .ok (.invokestatic 91, 3) := by decide +kernel
theorem dX11_copy_26 : decode cX11_copy 26 = .ok (.ifCond .ne 5, 3) := by decide +kernel
theorem dX11_copy_29 : decode cX11_copy 29 = .ok (.iconst (-1), 1) := by decide +kernel
theorem dX11_copy_30 : decode cX11_copy 30 = .ok (.ireturn, 1) := by decide +kernel
theorem dX11_copy_31 : decode cX11_copy 31 = .ok (.aload_n 0, 1) := by decide +kernel
theorem dX11_copy_32 : decode cX11_copy 32 = .ok (.getfield 67, 3) := by decide +kernel
theorem dX11_copy_35 : decode cX11_copy 35 = .ok (.getfield 301, 3) := by decide +kernel
theorem dX11_copy_38 : decode cX11_copy 38 = .ok (.bipush 100, 2) := by decide +kernel
theorem dX11_copy_40 : decode cX11_copy 40 = .ok (.if_icmp .ge 13, 3) := by decide +kernel
theorem dX11_copy_43 : decode cX11_copy 43 = .ok (.aload_n 0, 1) := by decide +kernel
theorem dX11_copy_44 : decode cX11_copy 44 = .ok (.getfield 67, 3) := by decide +kernel
theorem dX11_copy_47 : decode cX11_copy 47 = .ok (.invokevirtual 307, 3) := by decide +kernel
theorem dX11_copy_50 : decode cX11_copy 50 = .ok (.goto 4, 3) := by decide +kernel
theorem dX11_copy_53 : decode cX11_copy 53 = .ok (.iconst (-1), 1) := by decide +kernel
theorem dX11_copy_54 : decode cX11_copy 54 = .ok (.ireturn, 1) := by decide +kernel
theorem dX11_stood_0 : decode cX11_stood 0 = .ok (.aload_n 0, 1) := by decide +kernel
theorem dX11_stood_1 : decode cX11_stood 1 = .ok (.iload_n 1, 1) := by decide +kernel
theorem dX11_stood_2 : decode cX11_stood 2 = .ok (.invokevirtual 298, 3) := by decide +kernel
theorem dX11_stood_5 : decode cX11_stood 5 = .ok (.ifCond .eq 30, 3) := by decide +kernel
theorem dX11_stood_8 : decode cX11_stood 8 = .ok (.iload_n 2, 1) := by decide +kernel
theorem dX11_stood_9 : decode cX11_stood 9 = .ok (.iconst 0, 1) := by decide +kernel
theorem dX11_stood_10 : decode cX11_stood 10 = .ok (.bipush 7, 2) := by decide +kernel
theorem dX11_stood_12 : decode cX11_stood 12 = .ok (.invokestatic 91, 3) := by decide +kernel
theorem dX11_stood_15 : decode cX11_stood 15 = .ok (.ifCond .eq 20, 3) := by decide +kernel
theorem dX11_stood_18 : decode cX11_stood 18 = .ok (.iload_n 3, 1) := by decide +kernel
theorem dX11_stood_19 : decode cX11_stood 19 = .ok (.invokestatic 111, 3) := by decide +kernel
theorem dX11_stood_22 : decode cX11_stood 22 = .ok (.ifCond .eq 13, 3) := by decide +kernel
theorem dX11_stood_25 : decode cX11_stood 25 = .ok (.iload 4, 2) := by decide +kernel
theorem dX11_stood_27 : decode cX11_stood 27 = .ok (.iconst 0, 1) := by decide +kernel
theorem dX11_stood_28 : decode cX11_stood 28 = .ok (.iconst 3, 1) := by decide +kernel
theorem dX11_stood_29 : decode cX11_stood 29 = .ok (.invokestatic 91, 3) := by decide +kernel
theorem dX11_stood_32 : decode cX11_stood 32 = .ok (.ifCond .ne 5, 3) := by decide +kernel
theorem dX11_stood_35 : decode cX11_stood 35 = .ok (.iconst (-1), 1) := by decide +kernel
theorem dX11_stood_36 : decode cX11_stood 36 = .ok (.ireturn, 1) := by decide +kernel
theorem dX11_stood_37 : decode cX11_stood 37 = .ok (.aload_n 0, 1) := by decide +kernel
theorem dX11_stood_38 : decode cX11_stood 38 = .ok (.getfield 67, 3) := by decide +kernel
theorem dX11_stood_41 : decode cX11_stood 41 = .ok (.iload_n 1, 1) := by decide +kernel
theorem dX11_stood_42 : decode cX11_stood 42 = .ok (.iload_n 2, 1) := by decide +kernel
theorem dX11_stood_43 : decode cX11_stood 43 = .ok (.iload_n 3, 1) := by decide +kernel
theorem dX11_stood_44 : decode cX11_stood 44 = .ok (.invokevirtual 310, 3) := by decide +kernel
theorem dX11_stood_47 : decode cX11_stood 47 = .ok (.iload 4, 2) := by decide +kernel
theorem dX11_stood_49 : decode cX11_stood 49 = .ok (.tableswitch 65 0 2 #[27, 42, 57], 27) := by decide +kernel
theorem dX11_stood_76 : decode cX11_stood 76 = .ok (.aload_n 0, 1) := by decide +kernel
theorem dX11_stood_77 : decode cX11_stood 77 = .ok (.getfield 67, 3) := by decide +kernel
theorem dX11_stood_80 : decode cX11_stood 80 = .ok (.aload_n 0, 1) := by decide +kernel
theorem dX11_stood_81 : decode cX11_stood 81 = .ok (.getfield 67, 3) := by decide +kernel
theorem dX11_stood_84 : decode cX11_stood 84 = .ok (.getfield 313, 3) := by decide +kernel
theorem dX11_stood_87 : decode cX11_stood 87 = .ok (.invokevirtual 316, 3) := by decide +kernel
theorem dX11_stood_90 : decode cX11_stood 90 = .ok (.ireturn, 1) := by decide +kernel
theorem dX11_stood_91 : decode cX11_stood 91 = .ok (.aload_n 0, 1) := by decide +kernel
theorem dX11_stood_92 : decode cX11_stood 92 = .ok (.getfield 67, 3) := by decide +kernel
theorem dX11_stood_95 : decode cX11_stood 95 = .ok (.aload_n 0, 1) := by decide +kernel
theorem dX11_stood_96 : decode cX11_stood 96 = .ok (.getfield 67, 3) := by decide +kernel
theorem dX11_stood_99 : decode cX11_stood 99 = .ok (.getfield 319, 3) := by decide +kernel
theorem dX11_stood_102 : decode cX11_stood 102 = .ok (.invokevirtual 316, 3) := by decide +kernel
theorem dX11_stood_105 : decode cX11_stood 105 = .ok (.ireturn, 1) := by decide +kernel
theorem dX11_stood_106 : decode cX11_stood 106 = .ok (.aload_n 0, 1) := by decide +kernel
theorem dX11_stood_107 : decode cX11_stood 107 = .ok (.getfield 67, 3) := by decide +kernel
theorem dX11_stood_110 : decode cX11_stood 110 = .ok (.getfield 322, 3) := by decide +kernel
theorem dX11_stood_113 : decode cX11_stood 113 = .ok (.ireturn, 1) := by decide +kernel
theorem dX11_stood_114 : decode cX11_stood 114 = .ok (.aload_n 0, 1) := by decide +kernel
theorem dX11_stood_115 : decode cX11_stood 115 = .ok (.getfield 67, 3) := by decide +kernel
theorem dX11_stood_118 : decode cX11_stood 118 = .ok (.getfield 325, 3) := by decide +kernel
theorem dX11_stood_121 : decode cX11_stood 121 = .ok (.ireturn, 1) := by decide +kernel
theorem dX11_ash_0 : decode cX11_ash 0 = .ok (.iload_n 1, 1) := by decide +kernel
theorem dX11_ash_1 : decode cX11_ash 1 = .ok (.invokestatic 328, 3) := by decide +kernel
theorem dX11_ash_4 : decode cX11_ash 4 = .ok (.ifCond .eq 13, 3) := by decide +kernel
theorem dX11_ash_7 : decode cX11_ash 7 = .ok (.iload_n 2, 1) := by decide +kernel
theorem dX11_ash_8 : decode cX11_ash 8 = .ok (.iload_n 3, 1) := by decide +kernel
theorem dX11_ash_9 : decode cX11_ash 9 = .ok (.bipush 99, 2) := by decide +kernel
theorem dX11_ash_11 : decode cX11_ash 11 = .ok (.invokestatic 137, 3) := by decide +kernel
theorem dX11_ash_14 : decode cX11_ash 14 = .ok (.ifCond .ne 5, 3) := by decide +kernel
theorem dX11_ash_17 : decode cX11_ash 17 = .ok (.iconst 0, 1) := by decide +kernel
theorem dX11_ash_18 : decode cX11_ash 18 = .ok (.ireturn, 1) := by decide +kernel
theorem dX11_ash_19 : decode cX11_ash 19 = .ok (.aload_n 0, 1) := by decide +kernel
theorem dX11_ash_20 : decode cX11_ash 20 = .ok (.getfield 74, 3) := by decide +kernel
theorem dX11_ash_23 : decode cX11_ash 23 = .ok (.getfield 331, 3) := by decide +kernel
theorem dX11_ash_26 : decode cX11_ash 26 = .ok (.iload_n 1, 1) := by decide +kernel
theorem dX11_ash_27 : decode cX11_ash 27 = .ok (.iload_n 2, 1) := by decide +kernel
theorem dX11_ash_28 : decode cX11_ash 28 = .ok (.iastore, 1) := by decide +kernel
theorem dX11_ash_29 : decode cX11_ash 29 = .ok (.aload_n 0, 1) := by decide +kernel
theorem dX11_ash_30 : decode cX11_ash 30 = .ok (.getfield 74, 3) := by decide +kernel
theorem dX11_ash_33 : decode cX11_ash 33 = .ok (.getfield 332, 3) := by decide +kernel
theorem dX11_ash_36 : decode cX11_ash 36 = .ok (.iload_n 1, 1) := by decide +kernel
theorem dX11_ash_37 : decode cX11_ash 37 = .ok (.iload_n 3, 1) := by decide +kernel
theorem dX11_ash_38 : decode cX11_ash 38 = .ok (.iastore, 1) := by decide +kernel
theorem dX11_ash_39 : decode cX11_ash 39 = .ok (.iconst 1, 1) := by decide +kernel
theorem dX11_ash_40 : decode cX11_ash 40 = .ok (.ireturn, 1) := by decide +kernel
theorem dX11_above_0 : decode cX11_above 0 = .ok (.iload_n 1, 1) := by decide +kernel
theorem dX11_above_1 : decode cX11_above 1 = .ok (.invokestatic 328, 3) := by decide +kernel
theorem dX11_above_4 : decode cX11_above 4 = .ok (.ifCond .eq 27, 3) := by decide +kernel
theorem dX11_above_7 : decode cX11_above 7 = .ok (.iload_n 2, 1) := by decide +kernel
theorem dX11_above_8 : decode cX11_above 8 = .ok (.invokestatic 328, 3) := by decide +kernel
theorem dX11_above_11 : decode cX11_above 11 = .ok (.ifCond .eq 20, 3) := by decide +kernel
theorem dX11_above_14 : decode cX11_above 14 = .ok (.iload_n 1, 1) := by decide +kernel
theorem dX11_above_15 : decode cX11_above 15 = .ok (.iload_n 2, 1) := by decide +kernel
theorem dX11_above_16 : decode cX11_above 16 = .ok (.if_icmp .eq 15, 3) := by decide +kernel
theorem dX11_above_19 : decode cX11_above 19 = .ok (.aload_n 0, 1) := by decide +kernel
theorem dX11_above_20 : decode cX11_above 20 = .ok (.getfield 74, 3) := by decide +kernel
theorem dX11_above_23 : decode cX11_above 23 = .ok (.getfield 335, 3) := by decide +kernel
theorem dX11_above_26 : decode cX11_above 26 = .ok (.bipush 40, 2) := by decide +kernel
theorem dX11_above_28 : decode cX11_above 28 = .ok (.if_icmp .lt 5, 3) := by decide +kernel
theorem dX11_above_31 : decode cX11_above 31 = .ok (.iconst 0, 1) := by decide +kernel
theorem dX11_above_32 : decode cX11_above 32 = .ok (.ireturn, 1) := by decide +kernel
theorem dX11_above_33 : decode cX11_above 33 = .ok (.aload_n 0, 1) := by decide +kernel
theorem dX11_above_34 : decode cX11_above 34 = .ok (.getfield 74, 3) := by decide +kernel
theorem dX11_above_37 : decode cX11_above 37 = .ok (.iload_n 1, 1) := by decide +kernel
theorem dX11_above_38 : decode cX11_above 38 = .ok (.iload_n 2, 1) := by decide +kernel
theorem dX11_above_39 : decode cX11_above 39 = .ok (.invokevirtual 338, 3) := by decide +kernel
theorem dX11_above_42 : decode cX11_above 42 = .ok (.iconst 1, 1) := by decide +kernel
theorem dX11_above_43 : decode cX11_above 43 = .ok (.ireturn, 1) := by decide +kernel
theorem dX11_hour_0 : decode cX11_hour 0 = .ok (.iload_n 1, 1) := by decide +kernel
theorem dX11_hour_1 : decode cX11_hour 1 = .ok (.invokestatic 328, 3) := by decide +kernel
theorem dX11_hour_4 : decode cX11_hour 4 = .ok (.ifCond .eq 22, 3) := by decide +kernel
theorem dX11_hour_7 : decode cX11_hour 7 = .ok (.iload_n 2, 1) := by decide +kernel
theorem dX11_hour_8 : decode cX11_hour 8 = .ok (.iconst 0, 1) := by decide +kernel
theorem dX11_hour_9 : decode cX11_hour 9 = .ok (.iconst 1, 1) := by decide +kernel
theorem dX11_hour_10 : decode cX11_hour 10 = .ok (.invokestatic 91, 3) := by decide +kernel
theorem dX11_hour_13 : decode cX11_hour 13 = .ok (.ifCond .eq 13, 3) := by decide +kernel
theorem dX11_hour_16 : decode cX11_hour 16 = .ok (.aload_n 0, 1) := by decide +kernel
theorem dX11_hour_17 : decode cX11_hour 17 = .ok (.getfield 74, 3) := by decide +kernel
theorem dX11_hour_20 : decode cX11_hour 20 = .ok (.invokevirtual 341, 3) := by decide +kernel
theorem dX11_hour_23 : decode cX11_hour 23 = .ok (.ifCond .ne 5, 3) := by decide +kernel
theorem dX11_hour_26 : decode cX11_hour 26 = .ok (.iconst (-1), 1) := by decide +kernel
theorem dX11_hour_27 : decode cX11_hour 27 = .ok (.ireturn, 1) := by decide +kernel
theorem dX11_hour_28 : decode cX11_hour 28 = .ok (.iload_n 2, 1) := by decide +kernel
theorem dX11_hour_29 : decode cX11_hour 29 = .ok (.ifCond .ne 15, 3) := by decide +kernel
theorem dX11_hour_32 : decode cX11_hour 32 = .ok (.aload_n 0, 1) := by decide +kernel
theorem dX11_hour_33 : decode cX11_hour 33 = .ok (.getfield 74, 3) := by decide +kernel
theorem dX11_hour_36 : decode cX11_hour 36 = .ok (.getfield 345, 3) := by decide +kernel
theorem dX11_hour_39 : decode cX11_hour 39 = .ok (.iload_n 1, 1) := by decide +kernel
theorem dX11_hour_40 : decode cX11_hour 40 = .ok (.iaload, 1) := by decide +kernel
theorem dX11_hour_41 : decode cX11_hour 41 = .ok (.goto 12, 3) := by decide +kernel
theorem dX11_hour_44 : decode cX11_hour 44 = .ok (.aload_n 0, 1) := by decide +kernel
theorem dX11_hour_45 : decode cX11_hour 45 = .ok (.getfield 74, 3) := by decide +kernel
theorem dX11_hour_48 : decode cX11_hour 48 = .ok (.getfield 348, 3) := by decide +kernel
theorem dX11_hour_51 : decode cX11_hour 51 = .ok (.iload_n 1, 1) := by decide +kernel
theorem dX11_hour_52 : decode cX11_hour 52 = .ok (.iaload, 1) := by decide +kernel
theorem dX11_hour_53 : decode cX11_hour 53 = .ok (.ireturn, 1) := by decide +kernel
theorem dX11_height_0 : decode cX11_height 0 = .ok (.aload_n 0, 1) := by decide +kernel
theorem dX11_height_1 : decode cX11_height 1 = .ok (.getfield 19, 3) := by decide +kernel
theorem dX11_height_4 : decode cX11_height 4 = .ok (.iload_n 1, 1) := by decide +kernel
theorem dX11_height_5 : decode cX11_height 5 = .ok (.invokevirtual 130, 3) := by decide +kernel
theorem dX11_height_8 : decode cX11_height 8 = .ok (.ifCond .eq 13, 3) := by decide +kernel
theorem dX11_height_11 : decode cX11_height 11 = .ok (.iload_n 2, 1) := by decide +kernel
theorem dX11_height_12 : decode cX11_height 12 = .ok (.iconst 0, 1) := by decide +kernel
theorem dX11_height_13 : decode cX11_height 13 = .ok (.bipush 8, 2) := by decide +kernel
theorem dX11_height_15 : decode cX11_height 15 = .ok (.invokestatic 91, 3) := by decide +kernel
theorem dX11_height_18 : decode cX11_height 18 = .ok (.ifCond .ne 5, 3) := by decide +kernel
theorem dX11_height_21 : decode cX11_height 21 = .ok (.iconst 0, 1) := by decide +kernel
theorem dX11_height_22 : decode cX11_height 22 = .ok (.ireturn, 1) := by decide +kernel
theorem dX11_height_23 : decode cX11_height 23 = .ok (.aload_n 0, 1) := by decide +kernel
theorem dX11_height_24 : decode cX11_height 24 = .ok (.getfield 74, 3) := by decide +kernel
theorem dX11_height_27 : decode cX11_height 27 = .ok (.getfield 351, 3) := by decide +kernel
theorem dX11_height_30 : decode cX11_height 30 = .ok (.iload_n 1, 1) := by decide +kernel
theorem dX11_height_31 : decode cX11_height 31 = .ok (.iload_n 2, 1) := by decide +kernel
theorem dX11_height_32 : decode cX11_height 32 = .ok (.iastore, 1) := by decide +kernel
theorem dX11_height_33 : decode cX11_height 33 = .ok (.iconst 1, 1) := by decide +kernel
theorem dX11_height_34 : decode cX11_height 34 = .ok (.ireturn, 1) := by decide +kernel
theorem dX11_hollow_0 : decode cX11_hollow 0 = .ok (.aload_n 0, 1) := by decide +kernel
theorem dX11_hollow_1 : decode cX11_hollow 1 = .ok (.iload_n 1, 1) := by decide +kernel
theorem dX11_hollow_2 : decode cX11_hollow 2 = .ok (.iload_n 2, 1) := by decide +kernel
theorem dX11_hollow_3 : decode cX11_hollow 3 = .ok (.invokevirtual 156, 3) := by decide +kernel
theorem dX11_hollow_6 : decode cX11_hollow 6 = .ok (.ifCond .eq 27, 3) := by decide +kernel
theorem dX11_hollow_9 : decode cX11_hollow 9 = .ok (.aload_n 0, 1) := by decide +kernel
theorem dX11_hollow_10 : decode cX11_hollow 10 = .ok (.getfield 74, 3) := by decide +kernel
theorem dX11_hollow_13 : decode cX11_hollow 13 = .ok (.getfield 101, 3) := by decide +kernel
theorem dX11_hollow_16 : decode cX11_hollow 16 = .ok (.bipush 40, 2) := by decide +kernel
theorem dX11_hollow_18 : decode cX11_hollow 18 = .ok (.if_icmp .ge 15, 3) := by decide +kernel
theorem dX11_hollow_21 : decode cX11_hollow 21 = .ok (.aload_n 0, 1) := by decide +kernel
theorem dX11_hollow_22 : decode cX11_hollow 22 = .ok (.getfield 74, 3) := by decide +kernel
theorem dX11_hollow_25 : decode cX11_hollow 25 = .ok (.iload_n 1, 1) := by decide +kernel
theorem dX11_hollow_26 : decode cX11_hollow 26 = .ok (.iload_n 2, 1) := by decide +kernel
theorem dX11_hollow_27 : decode cX11_hollow 27 = .ok (.invokevirtual 354, 3) := by decide +kernel
theorem dX11_hollow_30 : decode cX11_hollow 30 = .ok (.goto 4, 3) := by decide +kernel
theorem dX11_hollow_33 : decode cX11_hollow 33 = .ok (.iconst (-1), 1) := by decide +kernel
theorem dX11_hollow_34 : decode cX11_hollow 34 = .ok (.ireturn, 1) := by decide +kernel
theorem dX11_way_0 : decode cX11_way 0 = .ok (.iload_n 1, 1) := by decide +kernel
theorem dX11_way_1 : decode cX11_way 1 = .ok (.iconst 0, 1) := by decide +kernel
theorem dX11_way_2 : decode cX11_way 2 = .ok (.aload_n 0, 1) := by decide +kernel
theorem dX11_way_3 : decode cX11_way 3 = .ok (.getfield 74, 3) := by decide +kernel
theorem dX11_way_6 : decode cX11_way 6 = .ok (.getfield 101, 3) := by decide +kernel
theorem dX11_way_9 : decode cX11_way 9 = .ok (.iconst 1, 1) := by decide +kernel
theorem dX11_way_10 : decode cX11_way 10 = .ok (.isub, 1) := by decide +kernel
theorem dX11_way_11 : decode cX11_way 11 = .ok (.invokestatic 91, 3) := by decide +kernel
theorem dX11_way_14 : decode cX11_way 14 = .ok (.ifCond .eq 24, 3) := by decide +kernel
theorem dX11_way_17 : decode cX11_way 17 = .ok (.aload_n 0, 1) := by decide +kernel
theorem dX11_way_18 : decode cX11_way 18 = .ok (.getfield 74, 3) := by decide +kernel
theorem dX11_way_21 : decode cX11_way 21 = .ok (.invokevirtual 341, 3) := by decide +kernel
theorem dX11_way_24 : decode cX11_way 24 = .ok (.ifCond .eq 14, 3) := by decide +kernel
theorem dX11_way_27 : decode cX11_way 27 = .ok (.aload_n 0, 1) := by decide +kernel
theorem dX11_way_28 : decode cX11_way 28 = .ok (.getfield 74, 3) := by decide +kernel
theorem dX11_way_31 : decode cX11_way 31 = .ok (.iload_n 1, 1) := by decide +kernel
theorem dX11_way_32 : decode cX11_way 32 = .ok (.invokevirtual 356, 3) := by decide +kernel
theorem dX11_way_35 : decode cX11_way 35 = .ok (.goto 4, 3) := by decide +kernel
theorem dX11_way_38 : decode cX11_way 38 = .ok (.iconst (-1), 1) := by decide +kernel
theorem dX11_way_39 : decode cX11_way 39 = .ok (.ireturn, 1) := by decide +kernel
theorem dX11_sign_0 : decode cX11_sign 0 = .ok (.iload_n 1, 1) := by decide +kernel
theorem dX11_sign_1 : decode cX11_sign 1 = .ok (.iconst 0, 1) := by decide +kernel
theorem dX11_sign_2 : decode cX11_sign 2 = .ok (.bipush 29, 2) := by decide +kernel
theorem dX11_sign_4 : decode cX11_sign 4 = .ok (.invokestatic 91, 3) := by decide +kernel
theorem dX11_sign_7 : decode cX11_sign 7 = .ok (.ifCond .eq 21, 3) := by decide +kernel
theorem dX11_sign_10 : decode cX11_sign 10 = .ok (.iload_n 2, 1) := by decide +kernel
theorem dX11_sign_11 : decode cX11_sign 11 = .ok (.iconst 0, 1) := by decide +kernel
theorem dX11_sign_12 : decode cX11_sign 12 = .ok (.bipush 7, 2) := by decide +kernel
theorem dX11_sign_14 : decode cX11_sign 14 = .ok (.invokestatic 91, 3) := by decide +kernel
theorem dX11_sign_17 : decode cX11_sign 17 = .ok (.ifCond .eq 11, 3) := by decide +kernel
theorem dX11_sign_20 : decode cX11_sign 20 = .ok (.aload_n 0, 1) := by decide +kernel
theorem dX11_sign_21 : decode cX11_sign 21 = .ok (.iload_n 3, 1) := by decide +kernel
theorem dX11_sign_22 : decode cX11_sign 22 = .ok (.invokevirtual 169, 3) := by decide +kernel
theorem dX11_sign_25 : decode cX11_sign 25 = .ok (.ifCond .ne 5, 3) := by decide +kernel
theorem dX11_sign_28 : decode cX11_sign 28 = .ok (.iconst 0, 1) := by decide +kernel
theorem dX11_sign_29 : decode cX11_sign 29 = .ok (.ireturn, 1) := by decide +kernel
theorem dX11_sign_30 : decode cX11_sign 30 = .ok (.iload 4, 2) := by decide +kernel
theorem dX11_sign_32 : decode cX11_sign 32 = .ok (.iconst 0, 1) := by decide +kernel
theorem dX11_sign_33 : decode cX11_sign 33 = .ok (.aload_n 0, 1) := by decide +kernel
theorem dX11_sign_34 : decode cX11_sign 34 = .ok (.getfield 87, 3) := by decide +kernel
theorem dX11_sign_37 : decode cX11_sign 37 = .ok (.invokestatic 91, 3) := by decide +kernel
theorem dX11_sign_40 : decode cX11_sign 40 = .ok (.ifCond .eq 15, 3) := by decide +kernel
theorem dX11_sign_43 : decode cX11_sign 43 = .ok (.aload_n 0, 1) := by decide +kernel
theorem dX11_sign_44 : decode cX11_sign 44 = .ok (.getfield 83, 3) := by decide +kernel
theorem dX11_sign_47 : decode cX11_sign 47 = .ok (.getfield 359, 3) := by decide +kernel
theorem dX11_sign_50 : decode cX11_sign 50 = .ok (.bipush 100, 2) := by decide +kernel
theorem dX11_sign_52 : decode cX11_sign 52 = .ok (.if_icmp .lt 5, 3) := by decide +kernel
theorem dX11_sign_55 : decode cX11_sign 55 = .ok (.iconst 0, 1) := by decide +kernel
theorem dX11_sign_56 : decode cX11_sign 56 = .ok (.ireturn, 1) := by decide +kernel
theorem dX11_sign_57 : decode cX11_sign 57 = .ok (.aload_n 0, 1) := by decide +kernel
theorem dX11_sign_58 : decode cX11_sign 58 = .ok (.getfield 83, 3) := by decide +kernel
theorem dX11_sign_61 : decode cX11_sign 61 = .ok (.iload_n 1, 1) := by decide +kernel
theorem dX11_sign_62 : decode cX11_sign 62 = .ok (.iload_n 2, 1) := by decide +kernel
theorem dX11_sign_63 : decode cX11_sign 63 = .ok (.iload_n 3, 1) := by decide +kernel
theorem dX11_sign_64 : decode cX11_sign 64 = .ok (.iload 4, 2) := by decide +kernel
theorem dX11_sign_66 : decode cX11_sign 66 = .ok (.invokevirtual 360, 3) := by decide +kernel
theorem dX11_sign_69 : decode cX11_sign 69 = .ok (.iconst 1, 1) := by decide +kernel
theorem dX11_sign_70 : decode cX11_sign 70 = .ok (.ireturn, 1) := by decide +kernel
theorem dX11_who_0 : decode cX11_who 0 = .ok (.aload_n 0, 1) := by decide +kernel
theorem dX11_who_1 : decode cX11_who 1 = .ok (.iload_n 1, 1) := by decide +kernel
theorem dX11_who_2 : decode cX11_who 2 = .ok (.invokevirtual 169, 3) := by decide +kernel
theorem dX11_who_5 : decode cX11_who 5 = .ok (.ifCond .eq 12, 3) := by decide +kernel
theorem dX11_who_8 : decode cX11_who 8 = .ok (.iload_n 2, 1) := by decide +kernel
theorem dX11_who_9 : decode cX11_who 9 = .ok (.iconst 0, 1) := by decide +kernel
theorem dX11_who_10 : decode cX11_who 10 = .ok (.iconst 2, 1) := by decide +kernel
theorem dX11_who_11 : decode cX11_who 11 = .ok (.invokestatic 91, 3) := by decide +kernel
theorem dX11_who_14 : decode cX11_who 14 = .ok (.ifCond .ne 5, 3) := by decide +kernel
theorem dX11_who_17 : decode cX11_who 17 = .ok (.iconst (-1), 1) := by decide +kernel
theorem dX11_who_18 : decode cX11_who 18 = .ok (.ireturn, 1) := by decide +kernel
theorem dX11_who_19 : decode cX11_who 19 = .ok (.aload_n 0, 1) := by decide +kernel
theorem dX11_who_20 : decode cX11_who 20 = .ok (.getfield 83, 3) := by decide +kernel
theorem dX11_who_23 : decode cX11_who 23 = .ok (.iload_n 1, 1) := by decide +kernel
theorem dX11_who_24 : decode cX11_who 24 = .ok (.invokevirtual 362, 3) := by decide +kernel
theorem dX11_who_27 : decode cX11_who 27 = .ok (.aload_n 0, 1) := by decide +kernel
theorem dX11_who_28 : decode cX11_who 28 = .ok (.getfield 83, 3) := by decide +kernel
theorem dX11_who_31 : decode cX11_who 31 = .ok (.invokevirtual 365, 3) := by decide +kernel
theorem dX11_who_34 : decode cX11_who 34 = .ok (.istore_n 3, 1) := by decide +kernel
theorem dX11_who_35 : decode cX11_who 35 = .ok (.iload_n 3, 1) := by decide +kernel
theorem dX11_who_36 : decode cX11_who 36 = .ok (.iconst (-1), 1) := by decide +kernel
theorem dX11_who_37 : decode cX11_who 37 = .ok (.if_icmp .eq 7, 3) := by decide +kernel
theorem dX11_who_40 : decode cX11_who 40 = .ok (.iload_n 2, 1) := by decide +kernel
theorem dX11_who_41 : decode cX11_who 41 = .ok (.ifCond .ne 5, 3) := by decide +kernel
theorem dX11_who_44 : decode cX11_who 44 = .ok (.iload_n 3, 1) := by decide +kernel
theorem dX11_who_45 : decode cX11_who 45 = .ok (.ireturn, 1) := by decide +kernel
theorem dX11_who_46 : decode cX11_who 46 = .ok (.iload_n 2, 1) := by decide +kernel
theorem dX11_who_47 : decode cX11_who 47 = .ok (.iconst 1, 1) := by decide +kernel
theorem dX11_who_48 : decode cX11_who 48 = .ok (.if_icmp .ne 15, 3) := by decide +kernel
theorem dX11_who_51 : decode cX11_who 51 = .ok (.aload_n 0, 1) := by decide +kernel
theorem dX11_who_52 : decode cX11_who 52 = .ok (.getfield 83, 3) := by decide +kernel
theorem dX11_who_55 : decode cX11_who 55 = .ok (.getfield 368, 3) := by decide +kernel
theorem dX11_who_58 : decode cX11_who 58 = .ok (.iload_n 3, 1) := by decide +kernel
theorem dX11_who_59 : decode cX11_who 59 = .ok (.iaload, 1) := by decide +kernel
theorem dX11_who_60 : decode cX11_who 60 = .ok (.goto 19, 3) := by decide +kernel
theorem dX11_who_63 : decode cX11_who 63 = .ok (.aload_n 0, 1) := by decide +kernel
theorem dX11_who_64 : decode cX11_who 64 = .ok (.getfield 83, 3) := by decide +kernel
theorem dX11_who_67 : decode cX11_who 67 = .ok (.aload_n 0, 1) := by decide +kernel
theorem dX11_who_68 : decode cX11_who 68 = .ok (.getfield 83, 3) := by decide +kernel
theorem dX11_who_71 : decode cX11_who 71 = .ok (.getfield 368, 3) := by decide +kernel
theorem dX11_who_74 : decode cX11_who 74 = .ok (.iload_n 3, 1) := by decide +kernel
theorem dX11_who_75 : decode cX11_who 75 = .ok (.iaload, 1) := by decide +kernel
theorem dX11_who_76 : decode cX11_who 76 = .ok (.invokevirtual 371, 3) := by decide +kernel
theorem dX11_who_79 : decode cX11_who 79 = .ok (.ireturn, 1) := by decide +kernel
theorem dX11_work_0 : decode cX11_work 0 = .ok (.aload_n 0, 1) := by decide +kernel
theorem dX11_work_1 : decode cX11_work 1 = .ok (.iload_n 1, 1) := by decide +kernel
theorem dX11_work_2 : decode cX11_work 2 = .ok (.invokevirtual 298, 3) := by decide +kernel
theorem dX11_work_5 : decode cX11_work 5 = .ok (.ifCond .eq 24, 3) := by decide +kernel
theorem dX11_work_8 : decode cX11_work 8 = .ok (.iload_n 2, 1) := by decide +kernel
theorem dX11_work_9 : decode cX11_work 9 = .ok (.iconst 1, 1) := by decide +kernel
theorem dX11_work_10 : decode cX11_work 10 = .ok (.sipush 10000, 3) := by decide +kernel
theorem dX11_work_13 : decode cX11_work 13 = .ok (.invokestatic 91, 3) := by decide +kernel
theorem dX11_work_16 : decode cX11_work 16 = .ok (.ifCond .eq 13, 3) := by decide +kernel
theorem dX11_work_19 : decode cX11_work 19 = .ok (.iload_n 3, 1) := by decide +kernel
theorem dX11_work_20 : decode cX11_work 20 = .ok (.iconst 1, 1) := by decide +kernel
theorem dX11_work_21 : decode cX11_work 21 = .ok (.bipush 100, 2) := by decide +kernel
theorem dX11_work_23 : decode cX11_work 23 = .ok (.invokestatic 91, 3) := by decide +kernel
theorem dX11_work_26 : decode cX11_work 26 = .ok (.ifCond .ne 5, 3) := by decide +kernel
theorem dX11_work_29 : decode cX11_work 29 = .ok (.iconst (-1), 1) := by decide +kernel
theorem dX11_work_30 : decode cX11_work 30 = .ok (.ireturn, 1) := by decide +kernel
theorem dX11_work_31 : decode cX11_work 31 = .ok (.aload_n 0, 1) := by decide +kernel
theorem dX11_work_32 : decode cX11_work 32 = .ok (.getfield 67, 3) := by decide +kernel
theorem dX11_work_35 : decode cX11_work 35 = .ok (.getfield 374, 3) := by decide +kernel
theorem dX11_work_38 : decode cX11_work 38 = .ok (.bipush 9, 2) := by decide +kernel
theorem dX11_work_40 : decode cX11_work 40 = .ok (.if_icmp .ge 16, 3) := by decide +kernel
theorem dX11_work_43 : decode cX11_work 43 = .ok (.aload_n 0, 1) := by decide +kernel
theorem dX11_work_44 : decode cX11_work 44 = .ok (.getfield 67, 3) := by decide +kernel
theorem dX11_work_47 : decode cX11_work 47 = .ok (.iload_n 1, 1) := by decide +kernel
theorem dX11_work_48 : decode cX11_work 48 = .ok (.iload_n 2, 1) := by decide +kernel
theorem dX11_work_49 : decode cX11_work 49 = .ok (.iload_n 3, 1) := by decide +kernel
theorem dX11_work_50 : decode cX11_work 50 = .ok (.invokevirtual 377, 3) := by decide +kernel
theorem dX11_work_53 : decode cX11_work 53 = .ok (.goto 4, 3) := by decide +kernel
theorem dX11_work_56 : decode cX11_work 56 = .ok (.iconst (-1), 1) := by decide +kernel
theorem dX11_work_57 : decode cX11_work 57 = .ok (.ireturn, 1) := by decide +kernel
theorem dX11_best_0 : decode cX11_best 0 = .ok (.iload_n 1, 1) := by decide +kernel
theorem dX11_best_1 : decode cX11_best 1 = .ok (.iconst 0, 1) := by decide +kernel
theorem dX11_best_2 : decode cX11_best 2 = .ok (.ldc_w 380, 3) := by decide +kernel
theorem dX11_best_5 : decode cX11_best 5 = .ok (.invokestatic 91, 3) := by decide +kernel
theorem dX11_best_8 : decode cX11_best 8 = .ok (.ifCond .eq 14, 3) := by decide +kernel
theorem dX11_best_11 : decode cX11_best 11 = .ok (.aload_n 0, 1) := by decide +kernel
theorem dX11_best_12 : decode cX11_best 12 = .ok (.getfield 67, 3) := by decide +kernel
theorem dX11_best_15 : decode cX11_best 15 = .ok (.iload_n 1, 1) := by decide +kernel
theorem dX11_best_16 : decode cX11_best 16 = .ok (.invokevirtual 381, 3) := by decide +kernel
theorem dX11_best_19 : decode cX11_best 19 = .ok (.goto 4, 3) := by decide +kernel
theorem dX11_best_22 : decode cX11_best 22 = .ok (.iconst (-1), 1) := by decide +kernel
theorem dX11_best_23 : decode cX11_best 23 = .ok (.ireturn, 1) := by decide +kernel
theorem dX11_saves_0 : decode cX11_saves 0 = .ok (.iload_n 1, 1) := by decide +kernel
theorem dX11_saves_1 : decode cX11_saves 1 = .ok (.iconst 0, 1) := by decide +kernel
theorem dX11_saves_2 : decode cX11_saves 2 = .ok (.iconst 1, 1) := by decide +kernel
theorem dX11_saves_3 : decode cX11_saves 3 = .ok (.aload_n 0, 1) := by decide +kernel
theorem dX11_saves_4 : decode cX11_saves 4 = .ok (.getfield 67, 3) := by decide +kernel
theorem dX11_saves_7 : decode cX11_saves 7 = .ok (.getfield 374, 3) := by decide +kernel
theorem dX11_saves_10 : decode cX11_saves 10 = .ok (.ishl, 1) := by decide +kernel
theorem dX11_saves_11 : decode cX11_saves 11 = .ok (.iconst 1, 1) := by decide +kernel
theorem dX11_saves_12 : decode cX11_saves 12 = .ok (.isub, 1) := by decide +kernel
theorem dX11_saves_13 : decode cX11_saves 13 = .ok (.invokestatic 91, 3) := by decide +kernel
theorem dX11_saves_16 : decode cX11_saves 16 = .ok (.ifCond .eq 14, 3) := by decide +kernel
theorem dX11_saves_19 : decode cX11_saves 19 = .ok (.aload_n 0, 1) := by decide +kernel
theorem dX11_saves_20 : decode cX11_saves 20 = .ok (.getfield 67, 3) := by decide +kernel
theorem dX11_saves_23 : decode cX11_saves 23 = .ok (.iload_n 1, 1) := by decide +kernel
theorem dX11_saves_24 : decode cX11_saves 24 = .ok (.invokevirtual 384, 3) := by decide +kernel
theorem dX11_saves_27 : decode cX11_saves 27 = .ok (.goto 4, 3) := by decide +kernel
theorem dX11_saves_30 : decode cX11_saves 30 = .ok (.iconst (-1), 1) := by decide +kernel
theorem dX11_saves_31 : decode cX11_saves 31 = .ok (.ireturn, 1) := by decide +kernel
theorem dX11_beside_0 : decode cX11_beside 0 = .ok (.iload_n 1, 1) := by decide +kernel
theorem dX11_beside_1 : decode cX11_beside 1 = .ok (.iconst 0, 1) := by decide +kernel
theorem dX11_beside_2 : decode cX11_beside 2 = .ok (.bipush 7, 2) := by decide +kernel
theorem dX11_beside_4 : decode cX11_beside 4 = .ok (.invokestatic 91, 3) := by decide +kernel
theorem dX11_beside_7 : decode cX11_beside 7 = .ok (.ifCond .eq 18, 3) := by decide +kernel
theorem dX11_beside_10 : decode cX11_beside 10 = .ok (.aload_n 0, 1) := by decide +kernel
theorem dX11_beside_11 : decode cX11_beside 11 = .ok (.getfield 51, 3) := by decide +kernel
theorem dX11_beside_14 : decode cX11_beside 14 = .ok (.aload_n 0, 1) := by decide +kernel
theorem dX11_beside_15 : decode cX11_beside 15 = .ok (.getfield 87, 3) := by decide +kernel
theorem dX11_beside_18 : decode cX11_beside 18 = .ok (.iload_n 1, 1) := by decide +kernel
theorem dX11_beside_19 : decode cX11_beside 19 = .ok (.invokevirtual 242, 3) := by decide +kernel
theorem dX11_beside_22 : decode cX11_beside 22 = .ok (.goto 4, 3) := by decide +kernel
theorem dX11_beside_25 : decode cX11_beside 25 = .ok (.iconst (-1), 1) := by decide +kernel
theorem dX11_beside_26 : decode cX11_beside 26 = .ok (.ireturn, 1) := by decide +kernel
theorem dX11_check_0 : decode cX11_check 0 = .ok (.iload_n 1, 1) := by decide +kernel
theorem dX11_check_1 : decode cX11_check 1 = .ok (.ifCond .lt 17, 3) := by decide +kernel
theorem dX11_check_4 : decode cX11_check 4 = .ok (.iload_n 1, 1) := by decide +kernel
theorem dX11_check_5 : decode cX11_check 5 = .ok (.aload_n 0, 1) := by decide +kernel
theorem dX11_check_6 : decode cX11_check 6 = .ok (.getfield 10, 3) := by decide +kernel
theorem dX11_check_9 : decode cX11_check 9 = .ok (.getfield 182, 3) := by decide +kernel
theorem dX11_check_12 : decode cX11_check 12 = .ok (.bipush 12, 2) := by decide +kernel
theorem dX11_check_14 : decode cX11_check 14 = .ok (.idiv, 1) := by decide +kernel
theorem dX11_check_15 : decode cX11_check 15 = .ok (.if_icmp .le 6, 3) := by decide +kernel
theorem dX11_check_18 : decode cX11_check 18 = .ok (.bipush (-2), 2) := by decide +kernel
theorem dX11_check_20 : decode cX11_check 20 = .ok (.ireturn, 1) := by decide +kernel
theorem dX11_check_21 : decode cX11_check 21 = .ok (.aload_n 0, 1) := by decide +kernel
theorem dX11_check_22 : decode cX11_check 22 = .ok (.getfield 10, 3) := by decide +kernel
theorem dX11_check_25 : decode cX11_check 25 = .ok (.invokevirtual 192, 3) := by decide +kernel
theorem dX11_check_28 : decode cX11_check 28 = .ok (.iconst 0, 1) := by decide +kernel
theorem dX11_check_29 : decode cX11_check 29 = .ok (.istore_n 2, 1) := by decide +kernel
theorem dX11_check_30 : decode cX11_check 30 = .ok (.iconst 0, 1) := by decide +kernel
theorem dX11_check_31 : decode cX11_check 31 = .ok (.istore_n 3, 1) := by decide +kernel
theorem dX11_check_32 : decode cX11_check 32 = .ok (.iload_n 3, 1) := by decide +kernel
theorem dX11_check_33 : decode cX11_check 33 = .ok (.aload_n 0, 1) := by decide +kernel
theorem dX11_check_34 : decode cX11_check 34 = .ok (.getfield 19, 3) := by decide +kernel
theorem dX11_check_37 : decode cX11_check 37 = .ok (.invokevirtual 387, 3) := by decide +kernel
theorem dX11_check_40 : decode cX11_check 40 = .ok (.if_icmp .ge 90, 3) := by decide +kernel
theorem dX11_check_43 : decode cX11_check 43 = .ok (.iconst 0, 1) := by decide +kernel
theorem dX11_check_44 : decode cX11_check 44 = .ok (.istore 4, 2) := by decide +kernel
theorem dX11_check_46 : decode cX11_check 46 = .ok (.iload 4, 2) := by decide +kernel
theorem dX11_check_48 : decode cX11_check 48 = .ok (.bipush 8, 2) := by decide +kernel
theorem dX11_check_50 : decode cX11_check 50 = .ok (.if_icmp .ge 74, 3) := by decide +kernel
theorem dX11_check_53 : decode cX11_check 53 = .ok (.aload_n 0, 1) := by decide +kernel
theorem dX11_check_54 : decode cX11_check 54 = .ok (.getfield 28, 3) := by decide +kernel
theorem dX11_check_57 : decode cX11_check 57 = .ok (.iload_n 3, 1) := by decide +kernel
theorem dX11_check_58 : decode cX11_check 58 = .ok (.iload 4, 2) := by decide +kernel
theorem dX11_check_60 : decode cX11_check 60 = .ok (.aload_n 0, 1) := by decide +kernel
theorem dX11_check_61 : decode cX11_check 61 = .ok (.getfield 87, 3) := by decide +kernel
theorem dX11_check_64 : decode cX11_check 64 = .ok (.aload_n 0, 1) := by decide +kernel
theorem dX11_check_65 : decode cX11_check 65 = .ok (.getfield 87, 3) := by decide +kernel
theorem dX11_check_68 : decode cX11_check 68 = .ok (.invokevirtual 159, 3) := by decide +kernel
theorem dX11_check_71 : decode cX11_check 71 = .ok (.istore 5, 2) := by decide +kernel
theorem dX11_check_73 : decode cX11_check 73 = .ok (.iload 5, 2) := by decide +kernel
theorem dX11_check_75 : decode cX11_check 75 = .ok (.ifCond .ne 6, 3) := by decide +kernel
theorem dX11_check_78 : decode cX11_check 78 = .ok (.goto 40, 3) := by decide +kernel
theorem dX11_check_81 : decode cX11_check 81 = .ok (.iload_n 2, 1) := by decide +kernel
theorem dX11_check_82 : decode cX11_check 82 = .ok (.iload_n 1, 1) := by decide +kernel
theorem dX11_check_83 : decode cX11_check 83 = .ok (.if_icmp .ge 16, 3) := by decide +kernel
theorem dX11_check_86 : decode cX11_check 86 = .ok (.aload_n 0, 1) := by decide +kernel
theorem dX11_check_87 : decode cX11_check 87 = .ok (.iload_n 2, 1) := by decide +kernel
theorem dX11_check_88 : decode cX11_check 88 = .ok (.iload_n 3, 1) := by decide +kernel
theorem dX11_check_89 : decode cX11_check 89 = .ok (.iload 4, 2) := by decide +kernel
theorem dX11_check_91 : decode cX11_check 91 = .ok (.iload 5, 2) := by decide +kernel
theorem dX11_check_93 : decode cX11_check 93 = .ok (.invokevirtual 390, 3) := by decide +kernel
theorem dX11_check_96 : decode cX11_check 96 = .ok (.goto 4, 3) := by decide +kernel
theorem dX11_check_99 : decode cX11_check 99 = .ok (.iconst 0, 1) := by decide +kernel
theorem dX11_check_100 : decode cX11_check 100 = .ok (.istore 6, 2) := by decide +kernel
theorem dX11_check_102 : decode cX11_check 102 = .ok (.iload 6, 2) := by decide +kernel
theorem dX11_check_104 : decode cX11_check 104 = .ok (.iconst (-1), 1) := by decide +kernel
theorem dX11_check_105 : decode cX11_check 105 = .ok (.if_icmp .eq 10, 3) := by decide +kernel
theorem dX11_check_108 : decode cX11_check 108 = .ok (.iconst 3, 1) := by decide +kernel
theorem dX11_check_109 : decode cX11_check 109 = .ok (.iload_n 2, 1) := by decide +kernel
theorem dX11_check_110 : decode cX11_check 110 = .ok (.imul, 1) := by decide +kernel
theorem dX11_check_111 : decode cX11_check 111 = .ok (.iload 6, 2) := by decide +kernel
theorem dX11_check_113 : decode cX11_check 113 = .ok (.iadd, 1) := by decide +kernel
theorem dX11_check_114 : decode cX11_check 114 = .ok (.ireturn, 1) := by decide +kernel
theorem dX11_check_115 : decode cX11_check 115 = .ok (.iinc 2 1, 3) := by decide +kernel
theorem dX11_check_118 : decode cX11_check 118 = .ok (.iinc 4 1, 3) := by decide +kernel
theorem dX11_check_121 : decode cX11_check 121 = .ok (.goto (-75), 3) := by decide +kernel
theorem dX11_check_124 : decode cX11_check 124 = .ok (.iinc 3 1, 3) := by decide +kernel
theorem dX11_check_127 : decode cX11_check 127 = .ok (.goto (-95), 3) := by decide +kernel
theorem dX11_check_130 : decode cX11_check 130 = .ok (.iload_n 2, 1) := by decide +kernel
theorem dX11_check_131 : decode cX11_check 131 = .ok (.iload_n 1, 1) := by decide +kernel
theorem dX11_check_132 : decode cX11_check 132 = .ok (.if_icmp .ge 9, 3) := by decide +kernel
theorem dX11_check_135 : decode cX11_check 135 = .ok (.iconst 3, 1) := by decide +kernel
theorem dX11_check_136 : decode cX11_check 136 = .ok (.iload_n 2, 1) := by decide +kernel
theorem dX11_check_137 : decode cX11_check 137 = .ok (.imul, 1) := by decide +kernel
theorem dX11_check_138 : decode cX11_check 138 = .ok (.goto 4, 3) := by decide +kernel
theorem dX11_check_141 : decode cX11_check 141 = .ok (.iconst (-1), 1) := by decide +kernel
theorem dX11_check_142 : decode cX11_check 142 = .ok (.ireturn, 1) := by decide +kernel
theorem dX11_count_0 : decode cX11_count 0 = .ok (.iload_n 1, 1) := by decide +kernel
theorem dX11_count_1 : decode cX11_count 1 = .ok (.bipush 20, 2) := by decide +kernel
theorem dX11_count_3 : decode cX11_count 3 = .ok (.bipush 20, 2) := by decide +kernel
theorem dX11_count_5 : decode cX11_count 5 = .ok (.aload_n 0, 1) := by decide +kernel
theorem dX11_count_6 : decode cX11_count 6 = .ok (.getfield 42, 3) := by decide +kernel
theorem dX11_count_9 : decode cX11_count 9 = .ok (.invokevirtual 189, 3) := by decide +kernel
theorem dX11_count_12 : decode cX11_count 12 = .ok (.iadd, 1) := by decide +kernel
theorem dX11_count_13 : decode cX11_count 13 = .ok (.iconst 1, 1) := by decide +kernel
theorem dX11_count_14 : decode cX11_count 14 = .ok (.isub, 1) := by decide +kernel
theorem dX11_count_15 : decode cX11_count 15 = .ok (.invokestatic 91, 3) := by decide +kernel
theorem dX11_count_18 : decode cX11_count 18 = .ok (.ifCond .eq 15, 3) := by decide +kernel
theorem dX11_count_21 : decode cX11_count 21 = .ok (.aload_n 0, 1) := by decide +kernel
theorem dX11_count_22 : decode cX11_count 22 = .ok (.getfield 42, 3) := by decide +kernel
theorem dX11_count_25 : decode cX11_count 25 = .ok (.iload_n 1, 1) := by decide +kernel
theorem dX11_count_26 : decode cX11_count 26 = .ok (.bipush 20, 2) := by decide +kernel
theorem dX11_count_28 : decode cX11_count 28 = .ok (.isub, 1) := by decide +kernel
theorem dX11_count_29 : decode cX11_count 29 = .ok (.invokevirtual 393, 3) := by decide +kernel
theorem dX11_count_32 : decode cX11_count 32 = .ok (.ireturn, 1) := by decide +kernel
theorem dX11_count_33 : decode cX11_count 33 = .ok (.iload_n 1, 1) := by decide +kernel
theorem dX11_count_34 : decode cX11_count 34 = .ok (.tableswitch 107 0 7 #[46, 51, 59, 67, 75, 83, 91, 99], 46) := by decide +kernel
theorem dX11_count_80 : decode cX11_count 80 = .ok (.aload_n 0, 1) := by decide +kernel
theorem dX11_count_81 : decode cX11_count 81 = .ok (.getfield 87, 3) := by decide +kernel
theorem dX11_count_84 : decode cX11_count 84 = .ok (.ireturn, 1) := by decide +kernel
theorem dX11_count_85 : decode cX11_count 85 = .ok (.aload_n 0, 1) := by decide +kernel
theorem dX11_count_86 : decode cX11_count 86 = .ok (.getfield 19, 3) := by decide +kernel
theorem dX11_count_89 : decode cX11_count 89 = .ok (.getfield 396, 3) := by decide +kernel
theorem dX11_count_92 : decode cX11_count 92 = .ok (.ireturn, 1) := by decide +kernel
theorem dX11_count_93 : decode cX11_count 93 = .ok (.aload_n 0, 1) := by decide +kernel
theorem dX11_count_94 : decode cX11_count 94 = .ok (.getfield 19, 3) := by decide +kernel
theorem dX11_count_97 : decode cX11_count 97 = .ok (.getfield 399, 3) := by decide +kernel
theorem dX11_count_100 : decode cX11_count 100 = .ok (.ireturn, 1) := by decide +kernel
theorem dX11_count_101 : decode cX11_count 101 = .ok (.aload_n 0, 1) := by decide +kernel
theorem dX11_count_102 : decode cX11_count 102 = .ok (.getfield 19, 3) := by decide +kernel
theorem dX11_count_105 : decode cX11_count 105 = .ok (.getfield 95, 3) := by decide +kernel
theorem dX11_count_108 : decode cX11_count 108 = .ok (.ireturn, 1) := by decide +kernel
theorem dX11_count_109 : decode cX11_count 109 = .ok (.aload_n 0, 1) := by decide +kernel
theorem dX11_count_110 : decode cX11_count 110 = .ok (.getfield 28, 3) := by decide +kernel
theorem dX11_count_113 : decode cX11_count 113 = .ok (.getfield 98, 3) := by decide +kernel
theorem dX11_count_116 : decode cX11_count 116 = .ok (.ireturn, 1) := by decide +kernel
theorem dX11_count_117 : decode cX11_count 117 = .ok (.aload_n 0, 1) := by decide +kernel
theorem dX11_count_118 : decode cX11_count 118 = .ok (.getfield 42, 3) := by decide +kernel
theorem dX11_count_121 : decode cX11_count 121 = .ok (.invokevirtual 189, 3) := by decide +kernel
theorem dX11_count_124 : decode cX11_count 124 = .ok (.ireturn, 1) := by decide +kernel
theorem dX11_count_125 : decode cX11_count 125 = .ok (.aload_n 0, 1) := by decide +kernel
theorem dX11_count_126 : decode cX11_count 126 = .ok (.getfield 51, 3) := by decide +kernel
theorem dX11_count_129 : decode cX11_count 129 = .ok (.getfield 229, 3) := by decide +kernel
theorem dX11_count_132 : decode cX11_count 132 = .ok (.ireturn, 1) := by decide +kernel
theorem dX11_count_133 : decode cX11_count 133 = .ok (.aload_n 0, 1) := by decide +kernel
theorem dX11_count_134 : decode cX11_count 134 = .ok (.getfield 60, 3) := by decide +kernel
theorem dX11_count_137 : decode cX11_count 137 = .ok (.getfield 259, 3) := by decide +kernel
theorem dX11_count_140 : decode cX11_count 140 = .ok (.ireturn, 1) := by decide +kernel
theorem dX11_count_141 : decode cX11_count 141 = .ok (.aload_n 0, 1) := by decide +kernel
theorem dX11_count_142 : decode cX11_count 142 = .ok (.iload_n 1, 1) := by decide +kernel
theorem dX11_count_143 : decode cX11_count 143 = .ok (.invokevirtual 401, 3) := by decide +kernel
theorem dX11_count_146 : decode cX11_count 146 = .ok (.ireturn, 1) := by decide +kernel
theorem dX11_countLater_0 : decode cX11_countLater 0 = .ok (.iload_n 1, 1) := by decide +kernel
theorem dX11_countLater_1 : decode cX11_countLater 1 = .ok (.tableswitch 111 8 15 #[47, 55, 63, 71, 79, 87, 95, 103], 47) := by decide +kernel
theorem dX11_countLater_48 : decode cX11_countLater 48 = .ok (.aload_n 0, 1) := by decide +kernel
theorem dX11_countLater_49 : decode cX11_countLater 49 = .ok (.getfield 67, 3) := by decide +kernel
theorem dX11_countLater_52 : decode cX11_countLater 52 = .ok (.getfield 295, 3) := by decide +kernel
theorem dX11_countLater_55 : decode cX11_countLater 55 = .ok (.ireturn, 1) := by decide +kernel
theorem dX11_countLater_56 : decode cX11_countLater 56 = .ok (.aload_n 0, 1) := by decide +kernel
theorem dX11_countLater_57 : decode cX11_countLater 57 = .ok (.getfield 67, 3) := by decide +kernel
theorem dX11_countLater_60 : decode cX11_countLater 60 = .ok (.getfield 301, 3) := by decide +kernel
theorem dX11_countLater_63 : decode cX11_countLater 63 = .ok (.ireturn, 1) := by decide +kernel
theorem dX11_countLater_64 : decode cX11_countLater 64 = .ok (.aload_n 0, 1) := by decide +kernel
theorem dX11_countLater_65 : decode cX11_countLater 65 = .ok (.getfield 74, 3) := by decide +kernel
theorem dX11_countLater_68 : decode cX11_countLater 68 = .ok (.getfield 335, 3) := by decide +kernel
theorem dX11_countLater_71 : decode cX11_countLater 71 = .ok (.ireturn, 1) := by decide +kernel
theorem dX11_countLater_72 : decode cX11_countLater 72 = .ok (.aload_n 0, 1) := by decide +kernel
theorem dX11_countLater_73 : decode cX11_countLater 73 = .ok (.getfield 74, 3) := by decide +kernel
theorem dX11_countLater_76 : decode cX11_countLater 76 = .ok (.getfield 101, 3) := by decide +kernel
theorem dX11_countLater_79 : decode cX11_countLater 79 = .ok (.ireturn, 1) := by decide +kernel
theorem dX11_countLater_80 : decode cX11_countLater 80 = .ok (.aload_n 0, 1) := by decide +kernel
theorem dX11_countLater_81 : decode cX11_countLater 81 = .ok (.getfield 83, 3) := by decide +kernel
theorem dX11_countLater_84 : decode cX11_countLater 84 = .ok (.getfield 359, 3) := by decide +kernel
theorem dX11_countLater_87 : decode cX11_countLater 87 = .ok (.ireturn, 1) := by decide +kernel
theorem dX11_countLater_88 : decode cX11_countLater 88 = .ok (.aload_n 0, 1) := by decide +kernel
theorem dX11_countLater_89 : decode cX11_countLater 89 = .ok (.getfield 67, 3) := by decide +kernel
theorem dX11_countLater_92 : decode cX11_countLater 92 = .ok (.getfield 374, 3) := by decide +kernel
theorem dX11_countLater_95 : decode cX11_countLater 95 = .ok (.ireturn, 1) := by decide +kernel
theorem dX11_countLater_96 : decode cX11_countLater 96 = .ok (.aload_n 0, 1) := by decide +kernel
theorem dX11_countLater_97 : decode cX11_countLater 97 = .ok (.getfield 10, 3) := by decide +kernel
theorem dX11_countLater_100 : decode cX11_countLater 100 = .ok (.getfield 182, 3) := by decide +kernel
theorem dX11_countLater_103 : decode cX11_countLater 103 = .ok (.ireturn, 1) := by decide +kernel
theorem dX11_countLater_104 : decode cX11_countLater 104 = .ok (.aload_n 0, 1) := by decide +kernel
theorem dX11_countLater_105 : decode cX11_countLater 105 = .ok (.getfield 19, 3) := by decide +kernel
theorem dX11_countLater_108 : decode cX11_countLater 108 = .ok (.getfield 172, 3) := by decide +kernel
theorem dX11_countLater_111 : decode cX11_countLater 111 = .ok (.ireturn, 1) := by decide +kernel
theorem dX11_countLater_112 : decode cX11_countLater 112 = .ok (.iconst (-1), 1) := by decide +kernel
theorem dX11_countLater_113 : decode cX11_countLater 113 = .ok (.ireturn, 1) := by decide +kernel
theorem dX11_firstWrong_0 : decode cX11_firstWrong 0 = .ok (.aload_n 0, 1) := by decide +kernel
theorem dX11_firstWrong_1 : decode cX11_firstWrong 1 = .ok (.getfield 10, 3) := by decide +kernel
theorem dX11_firstWrong_4 : decode cX11_firstWrong 4 = .ok (.iconst 3, 1) := by decide +kernel
theorem dX11_firstWrong_5 : decode cX11_firstWrong 5 = .ok (.iload_n 1, 1) := by decide +kernel
theorem dX11_firstWrong_6 : decode cX11_firstWrong 6 = .ok (.imul, 1) := by decide +kernel
theorem dX11_firstWrong_7 : decode cX11_firstWrong 7 = .ok (.invokevirtual 404, 3) := by decide +kernel
theorem dX11_firstWrong_10 : decode cX11_firstWrong 10 = .ok (.iload_n 2, 1) := by decide +kernel
theorem dX11_firstWrong_11 : decode cX11_firstWrong 11 = .ok (.if_icmp .eq 5, 3) := by decide +kernel
theorem dX11_firstWrong_14 : decode cX11_firstWrong 14 = .ok (.iconst 0, 1) := by decide +kernel
theorem dX11_firstWrong_15 : decode cX11_firstWrong 15 = .ok (.ireturn, 1) := by decide +kernel
theorem dX11_firstWrong_16 : decode cX11_firstWrong 16 = .ok (.aload_n 0, 1) := by decide +kernel
theorem dX11_firstWrong_17 : decode cX11_firstWrong 17 = .ok (.getfield 10, 3) := by decide +kernel
theorem dX11_firstWrong_20 : decode cX11_firstWrong 20 = .ok (.iconst 3, 1) := by decide +kernel
theorem dX11_firstWrong_21 : decode cX11_firstWrong 21 = .ok (.iload_n 1, 1) := by decide +kernel
theorem dX11_firstWrong_22 : decode cX11_firstWrong 22 = .ok (.imul, 1) := by decide +kernel
theorem dX11_firstWrong_23 : decode cX11_firstWrong 23 = .ok (.iconst 1, 1) := by decide +kernel
theorem dX11_firstWrong_24 : decode cX11_firstWrong 24 = .ok (.iadd, 1) := by decide +kernel
theorem dX11_firstWrong_25 : decode cX11_firstWrong 25 = .ok (.invokevirtual 404, 3) := by decide +kernel
theorem dX11_firstWrong_28 : decode cX11_firstWrong 28 = .ok (.iload_n 3, 1) := by decide +kernel
theorem dX11_firstWrong_29 : decode cX11_firstWrong 29 = .ok (.if_icmp .eq 5, 3) := by decide +kernel
theorem dX11_firstWrong_32 : decode cX11_firstWrong 32 = .ok (.iconst 1, 1) := by decide +kernel
theorem dX11_firstWrong_33 : decode cX11_firstWrong 33 = .ok (.ireturn, 1) := by decide +kernel
theorem dX11_firstWrong_34 : decode cX11_firstWrong 34 = .ok (.aload_n 0, 1) := by decide +kernel
theorem dX11_firstWrong_35 : decode cX11_firstWrong 35 = .ok (.getfield 10, 3) := by decide +kernel
theorem dX11_firstWrong_38 : decode cX11_firstWrong 38 = .ok (.iconst 3, 1) := by decide +kernel
theorem dX11_firstWrong_39 : decode cX11_firstWrong 39 = .ok (.iload_n 1, 1) := by decide +kernel
theorem dX11_firstWrong_40 : decode cX11_firstWrong 40 = .ok (.imul, 1) := by decide +kernel
theorem dX11_firstWrong_41 : decode cX11_firstWrong 41 = .ok (.iconst 2, 1) := by decide +kernel
theorem dX11_firstWrong_42 : decode cX11_firstWrong 42 = .ok (.iadd, 1) := by decide +kernel
theorem dX11_firstWrong_43 : decode cX11_firstWrong 43 = .ok (.invokevirtual 404, 3) := by decide +kernel
theorem dX11_firstWrong_46 : decode cX11_firstWrong 46 = .ok (.iload 4, 2) := by decide +kernel
theorem dX11_firstWrong_48 : decode cX11_firstWrong 48 = .ok (.if_icmp .eq 7, 3) := by decide +kernel
theorem dX11_firstWrong_51 : decode cX11_firstWrong 51 = .ok (.iconst 2, 1) := by decide +kernel
theorem dX11_firstWrong_52 : decode cX11_firstWrong 52 = .ok (.goto 4, 3) := by decide +kernel
theorem dX11_firstWrong_55 : decode cX11_firstWrong 55 = .ok (.iconst (-1), 1) := by decide +kernel
theorem dX11_firstWrong_56 : decode cX11_firstWrong 56 = .ok (.ireturn, 1) := by decide +kernel
theorem dX11_within_0 : decode cX11_within 0 = .ok (.iload_n 1, 1) := by decide +kernel
theorem dX11_within_1 : decode cX11_within 1 = .ok (.iload_n 0, 1) := by decide +kernel
theorem dX11_within_2 : decode cX11_within 2 = .ok (.if_icmp .gt 12, 3) := by decide +kernel
theorem dX11_within_5 : decode cX11_within 5 = .ok (.iload_n 0, 1) := by decide +kernel
theorem dX11_within_6 : decode cX11_within 6 = .ok (.iload_n 2, 1) := by decide +kernel
theorem dX11_within_7 : decode cX11_within 7 = .ok (.if_icmp .gt 7, 3) := by decide +kernel
theorem dX11_within_10 : decode cX11_within 10 = .ok (.iconst 1, 1) := by decide +kernel
theorem dX11_within_11 : decode cX11_within 11 = .ok (.goto 4, 3) := by decide +kernel
theorem dX11_within_14 : decode cX11_within 14 = .ok (.iconst 0, 1) := by decide +kernel
theorem dX11_within_15 : decode cX11_within 15 = .ok (.ireturn, 1) := by decide +kernel
theorem dX11_isSpan_0 : decode cX11_isSpan 0 = .ok (.iconst 0, 1) := by decide +kernel
theorem dX11_isSpan_1 : decode cX11_isSpan 1 = .ok (.iload_n 0, 1) := by decide +kernel
theorem dX11_isSpan_2 : decode cX11_isSpan 2 = .ok (.if_icmp .gt 17, 3) := by decide +kernel
theorem dX11_isSpan_5 : decode cX11_isSpan 5 = .ok (.iload_n 0, 1) := by decide +kernel
theorem dX11_isSpan_6 : decode cX11_isSpan 6 = .ok (.iload_n 1, 1) := by decide +kernel
theorem dX11_isSpan_7 : decode cX11_isSpan 7 = .ok (.if_icmp .gt 12, 3) := by decide +kernel
theorem dX11_isSpan_10 : decode cX11_isSpan 10 = .ok (.iload_n 1, 1) := by decide +kernel
theorem dX11_isSpan_11 : decode cX11_isSpan 11 = .ok (.iload_n 2, 1) := by decide +kernel
theorem dX11_isSpan_12 : decode cX11_isSpan 12 = .ok (.if_icmp .gt 7, 3) := by decide +kernel
theorem dX11_isSpan_15 : decode cX11_isSpan 15 = .ok (.iconst 1, 1) := by decide +kernel
theorem dX11_isSpan_16 : decode cX11_isSpan 16 = .ok (.goto 4, 3) := by decide +kernel
theorem dX11_isSpan_19 : decode cX11_isSpan 19 = .ok (.iconst 0, 1) := by decide +kernel
theorem dX11_isSpan_20 : decode cX11_isSpan 20 = .ok (.ireturn, 1) := by decide +kernel
theorem dX11_isWeek_0 : decode cX11_isWeek 0 = .ok (.iload_n 0, 1) := by decide +kernel
theorem dX11_isWeek_1 : decode cX11_isWeek 1 = .ok (.iconst 0, 1) := by decide +kernel
theorem dX11_isWeek_2 : decode cX11_isWeek 2 = .ok (.sipush 9999, 3) := by decide +kernel
theorem dX11_isWeek_5 : decode cX11_isWeek 5 = .ok (.invokestatic 91, 3) := by decide +kernel
theorem dX11_isWeek_8 : decode cX11_isWeek 8 = .ok (.ireturn, 1) := by decide +kernel
theorem dX11_isLayer_0 : decode cX11_isLayer 0 = .ok (.iload_n 0, 1) := by decide +kernel
theorem dX11_isLayer_1 : decode cX11_isLayer 1 = .ok (.iconst 0, 1) := by decide +kernel
theorem dX11_isLayer_2 : decode cX11_isLayer 2 = .ok (.bipush 7, 2) := by decide +kernel
theorem dX11_isLayer_4 : decode cX11_isLayer 4 = .ok (.invokestatic 91, 3) := by decide +kernel
theorem dX11_isLayer_7 : decode cX11_isLayer 7 = .ok (.ireturn, 1) := by decide +kernel
theorem dX11_isNumber_0 : decode cX11_isNumber 0 = .ok (.iload_n 0, 1) := by decide +kernel
theorem dX11_isNumber_1 : decode cX11_isNumber 1 = .ok (.iconst 0, 1) := by decide +kernel
theorem dX11_isNumber_2 : decode cX11_isNumber 2 = .ok (.iconst 3, 1) := by decide +kernel
theorem dX11_isNumber_3 : decode cX11_isNumber 3 = .ok (.invokestatic 91, 3) := by decide +kernel
theorem dX11_isNumber_6 : decode cX11_isNumber 6 = .ok (.ifCond .eq 17, 3) := by decide +kernel
theorem dX11_isNumber_9 : decode cX11_isNumber 9 = .ok (.iload_n 1, 1) := by decide +kernel
theorem dX11_isNumber_10 : decode cX11_isNumber 10 = .ok (.iconst 1, 1) := by decide +kernel
theorem dX11_isNumber_11 : decode cX11_isNumber 11 = .ok (.bipush 99, 2) := by decide +kernel
theorem dX11_isNumber_13 : decode cX11_isNumber 13 = .ok (.invokestatic 91, 3) := by decide +kernel
theorem dX11_isNumber_16 : decode cX11_isNumber 16 = .ok (.ifCond .eq 7, 3) := by decide +kernel
theorem dX11_isNumber_19 : decode cX11_isNumber 19 = .ok (.iconst 1, 1) := by decide +kernel
theorem dX11_isNumber_20 : decode cX11_isNumber 20 = .ok (.goto 4, 3) := by decide +kernel
theorem dX11_isNumber_23 : decode cX11_isNumber 23 = .ok (.iconst 0, 1) := by decide +kernel
theorem dX11_isNumber_24 : decode cX11_isNumber 24 = .ok (.ireturn, 1) := by decide +kernel
theorem dX11_isSpot_0 : decode cX11_isSpot 0 = .ok (.aload_n 0, 1) := by decide +kernel
theorem dX11_isSpot_1 : decode cX11_isSpot 1 = .ok (.getfield 19, 3) := by decide +kernel
theorem dX11_isSpot_4 : decode cX11_isSpot 4 = .ok (.iload_n 1, 1) := by decide +kernel
theorem dX11_isSpot_5 : decode cX11_isSpot 5 = .ok (.invokevirtual 130, 3) := by decide +kernel
theorem dX11_isSpot_8 : decode cX11_isSpot 8 = .ok (.ifCond .eq 14, 3) := by decide +kernel
theorem dX11_isSpot_11 : decode cX11_isSpot 11 = .ok (.iload_n 2, 1) := by decide +kernel
theorem dX11_isSpot_12 : decode cX11_isSpot 12 = .ok (.invokestatic 328, 3) := by decide +kernel
theorem dX11_isSpot_15 : decode cX11_isSpot 15 = .ok (.ifCond .eq 7, 3) := by decide +kernel
theorem dX11_isSpot_18 : decode cX11_isSpot 18 = .ok (.iconst 1, 1) := by decide +kernel
theorem dX11_isSpot_19 : decode cX11_isSpot 19 = .ok (.goto 4, 3) := by decide +kernel
theorem dX11_isSpot_22 : decode cX11_isSpot 22 = .ok (.iconst 0, 1) := by decide +kernel
theorem dX11_isSpot_23 : decode cX11_isSpot 23 = .ok (.ireturn, 1) := by decide +kernel
theorem dX11_isPlace_0 : decode cX11_isPlace 0 = .ok (.iload_n 1, 1) := by decide +kernel
theorem dX11_isPlace_1 : decode cX11_isPlace 1 = .ok (.iconst 0, 1) := by decide +kernel
theorem dX11_isPlace_2 : decode cX11_isPlace 2 = .ok (.aload_n 0, 1) := by decide +kernel
theorem dX11_isPlace_3 : decode cX11_isPlace 3 = .ok (.getfield 19, 3) := by decide +kernel
theorem dX11_isPlace_6 : decode cX11_isPlace 6 = .ok (.getfield 95, 3) := by decide +kernel
theorem dX11_isPlace_9 : decode cX11_isPlace 9 = .ok (.iconst 1, 1) := by decide +kernel
theorem dX11_isPlace_10 : decode cX11_isPlace 10 = .ok (.isub, 1) := by decide +kernel
theorem dX11_isPlace_11 : decode cX11_isPlace 11 = .ok (.invokestatic 91, 3) := by decide +kernel
theorem dX11_isPlace_14 : decode cX11_isPlace 14 = .ok (.ireturn, 1) := by decide +kernel
theorem dX11_isFind_0 : decode cX11_isFind 0 = .ok (.iload_n 1, 1) := by decide +kernel
theorem dX11_isFind_1 : decode cX11_isFind 1 = .ok (.iconst 0, 1) := by decide +kernel
theorem dX11_isFind_2 : decode cX11_isFind 2 = .ok (.aload_n 0, 1) := by decide +kernel
theorem dX11_isFind_3 : decode cX11_isFind 3 = .ok (.getfield 51, 3) := by decide +kernel
theorem dX11_isFind_6 : decode cX11_isFind 6 = .ok (.getfield 229, 3) := by decide +kernel
theorem dX11_isFind_9 : decode cX11_isFind 9 = .ok (.iconst 1, 1) := by decide +kernel
theorem dX11_isFind_10 : decode cX11_isFind 10 = .ok (.isub, 1) := by decide +kernel
theorem dX11_isFind_11 : decode cX11_isFind 11 = .ok (.invokestatic 91, 3) := by decide +kernel
theorem dX11_isFind_14 : decode cX11_isFind 14 = .ok (.ireturn, 1) := by decide +kernel
theorem dX11_isWall_0 : decode cX11_isWall 0 = .ok (.iload_n 1, 1) := by decide +kernel
theorem dX11_isWall_1 : decode cX11_isWall 1 = .ok (.iconst 0, 1) := by decide +kernel
theorem dX11_isWall_2 : decode cX11_isWall 2 = .ok (.aload_n 0, 1) := by decide +kernel
theorem dX11_isWall_3 : decode cX11_isWall 3 = .ok (.getfield 67, 3) := by decide +kernel
theorem dX11_isWall_6 : decode cX11_isWall 6 = .ok (.getfield 295, 3) := by decide +kernel
theorem dX11_isWall_9 : decode cX11_isWall 9 = .ok (.iconst 1, 1) := by decide +kernel
theorem dX11_isWall_10 : decode cX11_isWall 10 = .ok (.isub, 1) := by decide +kernel
theorem dX11_isWall_11 : decode cX11_isWall 11 = .ok (.invokestatic 91, 3) := by decide +kernel
theorem dX11_isWall_14 : decode cX11_isWall 14 = .ok (.ireturn, 1) := by decide +kernel
theorem dX12_init_0 : decode cX12_init 0 = .ok (.aload_n 0, 1) := by decide +kernel
theorem dX12_init_1 : decode cX12_init 1 = .ok (.invokespecial 1, 3) := by decide +kernel
theorem dX12_init_4 : decode cX12_init 4 = .ok (.aload_n 0, 1) := by decide +kernel
theorem dX12_init_5 : decode cX12_init 5 = .ok (.bipush 100, 2) := by decide +kernel
theorem dX12_init_7 : decode cX12_init 7 = .ok (.newarray .int, 2) := by decide +kernel
theorem dX12_init_9 : decode cX12_init 9 = .ok (.putfield 7, 3) := by decide +kernel
theorem dX12_init_12 : decode cX12_init 12 = .ok (.aload_n 0, 1) := by decide +kernel
theorem dX12_init_13 : decode cX12_init 13 = .ok (.bipush 100, 2) := by decide +kernel
theorem dX12_init_15 : decode cX12_init 15 = .ok (.newarray .int, 2) := by decide +kernel
theorem dX12_init_17 : decode cX12_init 17 = .ok (.putfield 13, 3) := by decide +kernel
theorem dX12_init_20 : decode cX12_init 20 = .ok (.aload_n 0, 1) := by decide +kernel
theorem dX12_init_21 : decode cX12_init 21 = .ok (.bipush 30, 2) := by decide +kernel
theorem dX12_init_23 : decode cX12_init 23 = .ok (.newarray .int, 2) := by decide +kernel
theorem dX12_init_25 : decode cX12_init 25 = .ok (.putfield 16, 3) := by decide +kernel
theorem dX12_init_28 : decode cX12_init 28 = .ok (.aload_n 0, 1) := by decide +kernel
theorem dX12_init_29 : decode cX12_init 29 = .ok (.bipush 30, 2) := by decide +kernel
theorem dX12_init_31 : decode cX12_init 31 = .ok (.newarray .int, 2) := by decide +kernel
theorem dX12_init_33 : decode cX12_init 33 = .ok (.putfield 19, 3) := by decide +kernel
theorem dX12_init_36 : decode cX12_init 36 = .ok (.aload_n 0, 1) := by decide +kernel
theorem dX12_init_37 : decode cX12_init 37 = .ok (.bipush 30, 2) := by decide +kernel
theorem dX12_init_39 : decode cX12_init 39 = .ok (.newarray .int, 2) := by decide +kernel
theorem dX12_init_41 : decode cX12_init 41 = .ok (.putfield 22, 3) := by decide +kernel
theorem dX12_init_44 : decode cX12_init 44 = .ok (.aload_n 0, 1) := by decide +kernel
theorem dX12_init_45 : decode cX12_init 45 = .ok (.bipush 100, 2) := by decide +kernel
theorem dX12_init_47 : decode cX12_init 47 = .ok (.newarray .int, 2) := by decide +kernel
theorem dX12_init_49 : decode cX12_init 49 = .ok (.putfield 25, 3) := by decide +kernel
theorem dX12_init_52 : decode cX12_init 52 = .ok (.aload_n 0, 1) := by decide +kernel
theorem dX12_init_53 : decode cX12_init 53 = .ok (.bipush 100, 2) := by decide +kernel
theorem dX12_init_55 : decode cX12_init 55 = .ok (.newarray .int, 2) := by decide +kernel
theorem dX12_init_57 : decode cX12_init 57 = .ok (.putfield 28, 3) := by decide +kernel
theorem dX12_init_60 : decode cX12_init 60 = .ok (.aload_n 0, 1) := by decide +kernel
theorem dX12_init_61 : decode cX12_init 61 = .ok (.bipush 100, 2) := by decide +kernel
theorem dX12_init_63 : decode cX12_init 63 = .ok (.newarray .int, 2) := by decide +kernel
theorem dX12_init_65 : decode cX12_init 65 = .ok (.putfield 31, 3) := by decide +kernel
theorem dX12_init_68 : decode cX12_init 68 = .ok (.aload_n 0, 1) := by decide +kernel
theorem dX12_init_69 : decode cX12_init 69 = .ok (.bipush 100, 2) := by decide +kernel
theorem dX12_init_71 : decode cX12_init 71 = .ok (.newarray .int, 2) := by decide +kernel
theorem dX12_init_73 : decode cX12_init 73 = .ok (.putfield 34, 3) := by decide +kernel
theorem dX12_init_76 : decode cX12_init 76 = .ok (.aload_n 0, 1) := by decide +kernel
theorem dX12_init_77 : decode cX12_init 77 = .ok (.bipush 100, 2) := by decide +kernel
theorem dX12_init_79 : decode cX12_init 79 = .ok (.newarray .int, 2) := by decide +kernel
theorem dX12_init_81 : decode cX12_init 81 = .ok (.putfield 37, 3) := by decide +kernel
theorem dX12_init_84 : decode cX12_init 84 = .ok (.aload_n 0, 1) := by decide +kernel
theorem dX12_init_85 : decode cX12_init 85 = .ok (.bipush 100, 2) := by decide +kernel
theorem dX12_init_87 : decode cX12_init 87 = .ok (.newarray .int, 2) := by decide +kernel
theorem dX12_init_89 : decode cX12_init 89 = .ok (.putfield 40, 3) := by decide +kernel
theorem dX12_init_92 : decode cX12_init 92 = .ok (.aload_n 0, 1) := by decide +kernel
theorem dX12_init_93 : decode cX12_init 93 = .ok (.bipush 100, 2) := by decide +kernel
theorem dX12_init_95 : decode cX12_init 95 = .ok (.newarray .int, 2) := by decide +kernel
theorem dX12_init_97 : decode cX12_init 97 = .ok (.putfield 43, 3) := by decide +kernel
theorem dX12_init_100 : decode cX12_init 100 = .ok (.aload_n 0, 1) := by decide +kernel
theorem dX12_init_101 : decode cX12_init 101 = .ok (.bipush 100, 2) := by decide +kernel
theorem dX12_init_103 : decode cX12_init 103 = .ok (.newarray .int, 2) := by decide +kernel
theorem dX12_init_105 : decode cX12_init 105 = .ok (.putfield 46, 3) := by decide +kernel
theorem dX12_init_108 : decode cX12_init 108 = .ok (.aload_n 0, 1) := by decide +kernel
theorem dX12_init_109 : decode cX12_init 109 = .ok (.bipush 100, 2) := by decide +kernel
theorem dX12_init_111 : decode cX12_init 111 = .ok (.newarray .int, 2) := by decide +kernel
theorem dX12_init_113 : decode cX12_init 113 = .ok (.putfield 49, 3) := by decide +kernel
theorem dX12_init_116 : decode cX12_init 116 = .ok (.aload_n 0, 1) := by decide +kernel
theorem dX12_init_117 : decode cX12_init 117 = .ok (.bipush 100, 2) := by decide +kernel
theorem dX12_init_119 : decode cX12_init 119 = .ok (.newarray .int, 2) := by decide +kernel
theorem dX12_init_121 : decode cX12_init 121 = .ok (.putfield 52, 3) := by decide +kernel
theorem dX12_init_124 : decode cX12_init 124 = .ok (.aload_n 0, 1) := by decide +kernel
theorem dX12_init_125 : decode cX12_init 125 = .ok (.sipush 200, 3) := by decide +kernel
theorem dX12_init_128 : decode cX12_init 128 = .ok (.newarray .int, 2) := by decide +kernel
theorem dX12_init_130 : decode cX12_init 130 = .ok (.putfield 55, 3) := by decide +kernel
theorem dX12_init_133 : decode cX12_init 133 = .ok (.aload_n 0, 1) := by decide +kernel
theorem dX12_init_134 : decode cX12_init 134 = .ok (.sipush 200, 3) := by decide +kernel
theorem dX12_init_137 : decode cX12_init 137 = .ok (.newarray .int, 2) := by decide +kernel
theorem dX12_init_139 : decode cX12_init 139 = .ok (.putfield 58, 3) := by decide +kernel
theorem dX12_init_142 : decode cX12_init 142 = .ok (.aload_n 0, 1) := by decide +kernel
theorem dX12_init_143 : decode cX12_init 143 = .ok (.sipush 200, 3) := by decide +kernel
theorem dX12_init_146 : decode cX12_init 146 = .ok (.newarray .int, 2) := by decide +kernel
theorem dX12_init_148 : decode cX12_init 148 = .ok (.putfield 61, 3) := by decide +kernel
theorem dX12_init_151 : decode cX12_init 151 = .ok (.aload_n 0, 1) := by decide +kernel
theorem dX12_init_152 : decode cX12_init 152 = .ok (.sipush 200, 3) := by decide +kernel
theorem dX12_init_155 : decode cX12_init 155 = .ok (.newarray .int, 2) := by decide +kernel
theorem dX12_init_157 : decode cX12_init 157 = .ok (.putfield 64, 3) := by decide +kernel
theorem dX12_init_160 : decode cX12_init 160 = .ok (.aload_n 0, 1) := by decide +kernel
theorem dX12_init_161 : decode cX12_init 161 = .ok (.sipush 200, 3) := by decide +kernel
theorem dX12_init_164 : decode cX12_init 164 = .ok (.newarray .int, 2) := by decide +kernel
theorem dX12_init_166 : decode cX12_init 166 = .ok (.putfield 67, 3) := by decide +kernel
theorem dX12_init_169 : decode cX12_init 169 = .ok (.aload_n 0, 1) := by decide +kernel
theorem dX12_init_170 : decode cX12_init 170 = .ok (.sipush 400, 3) := by decide +kernel
theorem dX12_init_173 : decode cX12_init 173 = .ok (.newarray .byte, 2) := by decide +kernel
theorem dX12_init_175 : decode cX12_init 175 = .ok (.putfield 70, 3) := by decide +kernel
theorem dX12_init_178 : decode cX12_init 178 = .ok (.aload_n 0, 1) := by decide +kernel
theorem dX12_init_179 : decode cX12_init 179 = .ok (.sipush 180, 3) := by decide +kernel
theorem dX12_init_182 : decode cX12_init 182 = .ok (.newarray .int, 2) := by decide +kernel
theorem dX12_init_184 : decode cX12_init 184 = .ok (.putfield 74, 3) := by decide +kernel
theorem dX12_init_187 : decode cX12_init 187 = .ok (.aload_n 0, 1) := by decide +kernel
theorem dX12_init_188 : decode cX12_init 188 = .ok (.sipush 180, 3) := by decide +kernel
theorem dX12_init_191 : decode cX12_init 191 = .ok (.newarray .int, 2) := by decide +kernel
theorem dX12_init_193 : decode cX12_init 193 = .ok (.putfield 77, 3) := by decide +kernel
theorem dX12_init_196 : decode cX12_init 196 = .ok (.aload_n 0, 1) := by decide +kernel
theorem dX12_init_197 : decode cX12_init 197 = .ok (.bipush 10, 2) := by decide +kernel
theorem dX12_init_199 : decode cX12_init 199 = .ok (.newarray .int, 2) := by decide +kernel
theorem dX12_init_201 : decode cX12_init 201 = .ok (.putfield 80, 3) := by decide +kernel
theorem dX12_init_204 : decode cX12_init 204 = .ok (.aload_n 0, 1) := by decide +kernel
theorem dX12_init_205 : decode cX12_init 205 = .ok (.bipush 10, 2) := by decide +kernel
theorem dX12_init_207 : decode cX12_init 207 = .ok (.newarray .int, 2) := by decide +kernel
theorem dX12_init_209 : decode cX12_init 209 = .ok (.putfield 83, 3) := by decide +kernel
theorem dX12_init_212 : decode cX12_init 212 = .ok (.aload_n 0, 1) := by decide +kernel
theorem dX12_init_213 : decode cX12_init 213 = .ok (.bipush 10, 2) := by decide +kernel
theorem dX12_init_215 : decode cX12_init 215 = .ok (.newarray .int, 2) := by decide +kernel
theorem dX12_init_217 : decode cX12_init 217 = .ok (.putfield 86, 3) := by decide +kernel
theorem dX12_init_220 : decode cX12_init 220 = .ok (.aload_n 0, 1) := by decide +kernel
theorem dX12_init_221 : decode cX12_init 221 = .ok (.bipush 10, 2) := by decide +kernel
theorem dX12_init_223 : decode cX12_init 223 = .ok (.newarray .int, 2) := by decide +kernel
theorem dX12_init_225 : decode cX12_init 225 = .ok (.putfield 89, 3) := by decide +kernel
theorem dX12_init_228 : decode cX12_init 228 = .ok (.aload_n 0, 1) := by decide +kernel
theorem dX12_init_229 : decode cX12_init 229 = .ok (.bipush 10, 2) := by decide +kernel
theorem dX12_init_231 : decode cX12_init 231 = .ok (.newarray .int, 2) := by decide +kernel
theorem dX12_init_233 : decode cX12_init 233 = .ok (.putfield 92, 3) := by decide +kernel
theorem dX12_init_236 : decode cX12_init 236 = .ok (.aload_n 0, 1) := by decide +kernel
theorem dX12_init_237 : decode cX12_init 237 = .ok (.sipush 3600, 3) := by decide +kernel
theorem dX12_init_240 : decode cX12_init 240 = .ok (.newarray .int, 2) := by decide +kernel
theorem dX12_init_242 : decode cX12_init 242 = .ok (.putfield 95, 3) := by decide +kernel
theorem dX12_init_245 : decode cX12_init 245 = .ok (.aload_n 0, 1) := by decide +kernel
theorem dX12_init_246 : decode cX12_init 246 = .ok (.bipush 20, 2) := by decide +kernel
theorem dX12_init_248 : decode cX12_init 248 = .ok (.newarray .int, 2) := by decide +kernel
theorem dX12_init_250 : decode cX12_init 250 = .ok (.putfield 98, 3) := by decide +kernel
theorem dX12_init_253 : decode cX12_init 253 = .ok (.aload_n 0, 1) := by decide +kernel
theorem dX12_init_254 : decode cX12_init 254 = .ok (.bipush 20, 2) := by decide +kernel
theorem dX12_init_256 : decode cX12_init 256 = .ok (.newarray .int, 2) := by decide +kernel
theorem dX12_init_258 : decode cX12_init 258 = .ok (.putfield 101, 3) := by decide +kernel
theorem dX12_init_261 : decode cX12_init 261 = .ok (.aload_n 0, 1) := by decide +kernel
theorem dX12_init_262 : decode cX12_init 262 = .ok (.bipush 20, 2) := by decide +kernel
theorem dX12_init_264 : decode cX12_init 264 = .ok (.newarray .int, 2) := by decide +kernel
theorem dX12_init_266 : decode cX12_init 266 = .ok (.putfield 104, 3) := by decide +kernel
theorem dX12_init_269 : decode cX12_init 269 = .ok (.aload_n 0, 1) := by decide +kernel
theorem dX12_init_270 : decode cX12_init 270 = .ok (.sipush 200, 3) := by decide +kernel
theorem dX12_init_273 : decode cX12_init 273 = .ok (.newarray .int, 2) := by decide +kernel
theorem dX12_init_275 : decode cX12_init 275 = .ok (.putfield 107, 3) := by decide +kernel
theorem dX12_init_278 : decode cX12_init 278 = .ok (.aload_n 0, 1) := by decide +kernel
theorem dX12_init_279 : decode cX12_init 279 = .ok (.sipush 200, 3) := by decide +kernel
theorem dX12_init_282 : decode cX12_init 282 = .ok (.newarray .int, 2) := by decide +kernel
theorem dX12_init_284 : decode cX12_init 284 = .ok (.putfield 110, 3) := by decide +kernel
theorem dX12_init_287 : decode cX12_init 287 = .ok (.aload_n 0, 1) := by decide +kernel
theorem dX12_init_288 : decode cX12_init 288 = .ok (.sipush 200, 3) := by decide +kernel
theorem dX12_init_291 : decode cX12_init 291 = .ok (.newarray .int, 2) := by decide +kernel
theorem dX12_init_293 : decode cX12_init 293 = .ok (.putfield 113, 3) := by decide +kernel
theorem dX12_init_296 : decode cX12_init 296 = .ok (.aload_n 0, 1) := by decide +kernel
theorem dX12_init_297 : decode cX12_init 297 = .ok (.sipush 200, 3) := by decide +kernel
theorem dX12_init_300 : decode cX12_init 300 = .ok (.newarray .int, 2) := by decide +kernel
theorem dX12_init_302 : decode cX12_init 302 = .ok (.putfield 116, 3) := by decide +kernel
theorem dX12_init_305 : decode cX12_init 305 = .ok (.aload_n 0, 1) := by decide +kernel
theorem dX12_init_306 : decode cX12_init 306 = .ok (.sipush 200, 3) := by decide +kernel
theorem dX12_init_309 : decode cX12_init 309 = .ok (.newarray .int, 2) := by decide +kernel
theorem dX12_init_311 : decode cX12_init 311 = .ok (.putfield 119, 3) := by decide +kernel
theorem dX12_init_314 : decode cX12_init 314 = .ok (.aload_n 0, 1) := by decide +kernel
theorem dX12_init_315 : decode cX12_init 315 = .ok (.sipush 200, 3) := by decide +kernel
theorem dX12_init_318 : decode cX12_init 318 = .ok (.newarray .boolean, 2) := by decide +kernel
theorem dX12_init_320 : decode cX12_init 320 = .ok (.putfield 122, 3) := by decide +kernel
theorem dX12_init_323 : decode cX12_init 323 = .ok (.aload_n 0, 1) := by decide +kernel
theorem dX12_init_324 : decode cX12_init 324 = .ok (.sipush 180, 3) := by decide +kernel
theorem dX12_init_327 : decode cX12_init 327 = .ok (.newarray .int, 2) := by decide +kernel
theorem dX12_init_329 : decode cX12_init 329 = .ok (.putfield 126, 3) := by decide +kernel
theorem dX12_init_332 : decode cX12_init 332 = .ok (.aload_n 0, 1) := by decide +kernel
theorem dX12_init_333 : decode cX12_init 333 = .ok (.iconst 5, 1) := by decide +kernel
theorem dX12_init_334 : decode cX12_init 334 = .ok (.newarray .int, 2) := by decide +kernel
theorem dX12_init_336 : decode cX12_init 336 = .ok (.putfield 129, 3) := by decide +kernel
theorem dX12_init_339 : decode cX12_init 339 = .ok (.aload_n 0, 1) := by decide +kernel
theorem dX12_init_340 : decode cX12_init 340 = .ok (.iconst (-1), 1) := by decide +kernel
theorem dX12_init_341 : decode cX12_init 341 = .ok (.putfield 132, 3) := by decide +kernel
theorem dX12_init_344 : decode cX12_init 344 = .ok (.aload_n 0, 1) := by decide +kernel
theorem dX12_init_345 : decode cX12_init 345 = .ok (.sipush 150, 3) := by decide +kernel
theorem dX12_init_348 : decode cX12_init 348 = .ok (.newarray .int, 2) := by decide +kernel
theorem dX12_init_350 : decode cX12_init 350 = .ok (.putfield 136, 3) := by decide +kernel
theorem dX12_init_353 : decode cX12_init 353 = .ok (.aload_n 0, 1) := by decide +kernel
theorem dX12_init_354 : decode cX12_init 354 = .ok (.sipush 150, 3) := by decide +kernel
theorem dX12_init_357 : decode cX12_init 357 = .ok (.newarray .int, 2) := by decide +kernel
theorem dX12_init_359 : decode cX12_init 359 = .ok (.putfield 139, 3) := by decide +kernel
theorem dX12_init_362 : decode cX12_init 362 = .ok (.aload_n 0, 1) := by decide +kernel
theorem dX12_init_363 : decode cX12_init 363 = .ok (.sipush 150, 3) := by decide +kernel
theorem dX12_init_366 : decode cX12_init 366 = .ok (.newarray .int, 2) := by decide +kernel
theorem dX12_init_368 : decode cX12_init 368 = .ok (.putfield 142, 3) := by decide +kernel
theorem dX12_init_371 : decode cX12_init 371 = .ok (.aload_n 0, 1) := by decide +kernel
theorem dX12_init_372 : decode cX12_init 372 = .ok (.sipush 150, 3) := by decide +kernel
theorem dX12_init_375 : decode cX12_init 375 = .ok (.newarray .int, 2) := by decide +kernel
theorem dX12_init_377 : decode cX12_init 377 = .ok (.putfield 145, 3) := by decide +kernel
theorem dX12_init_380 : decode cX12_init 380 = .ok (.aload_n 0, 1) := by decide +kernel
theorem dX12_init_381 : decode cX12_init 381 = .ok (.sipush 150, 3) := by decide +kernel
theorem dX12_init_384 : decode cX12_init 384 = .ok (.newarray .int, 2) := by decide +kernel
theorem dX12_init_386 : decode cX12_init 386 = .ok (.putfield 148, 3) := by decide +kernel
theorem dX12_init_389 : decode cX12_init 389 = .ok (.aload_n 0, 1) := by decide +kernel
theorem dX12_init_390 : decode cX12_init 390 = .ok (.sipush 150, 3) := by decide +kernel
theorem dX12_init_393 : decode cX12_init 393 = .ok (.newarray .int, 2) := by decide +kernel
theorem dX12_init_395 : decode cX12_init 395 = .ok (.putfield 151, 3) := by decide +kernel
theorem dX12_init_398 : decode cX12_init 398 = .ok (.aload_n 0, 1) := by decide +kernel
theorem dX12_init_399 : decode cX12_init 399 = .ok (.sipush 150, 3) := by decide +kernel
theorem dX12_init_402 : decode cX12_init 402 = .ok (.newarray .int, 2) := by decide +kernel
theorem dX12_init_404 : decode cX12_init 404 = .ok (.putfield 154, 3) := by decide +kernel
theorem dX12_init_407 : decode cX12_init 407 = .ok (.aload_n 0, 1) := by decide +kernel
theorem dX12_init_408 : decode cX12_init 408 = .ok (.sipush 150, 3) := by decide +kernel
theorem dX12_init_411 : decode cX12_init 411 = .ok (.newarray .int, 2) := by decide +kernel
theorem dX12_init_413 : decode cX12_init 413 = .ok (.putfield 157, 3) := by decide +kernel
theorem dX12_init_416 : decode cX12_init 416 = .ok (.aload_n 0, 1) := by decide +kernel
theorem dX12_init_417 : decode cX12_init 417 = .ok (.sipush 150, 3) := by decide +kernel
theorem dX12_init_420 : decode cX12_init 420 = .ok (.newarray .int, 2) := by decide +kernel
theorem dX12_init_422 : decode cX12_init 422 = .ok (.putfield 160, 3) := by decide +kernel
theorem dX12_init_425 : decode cX12_init 425 = .ok (.aload_n 0, 1) := by decide +kernel
theorem dX12_init_426 : decode cX12_init 426 = .ok (.bipush 60, 2) := by decide +kernel
theorem dX12_init_428 : decode cX12_init 428 = .ok (.newarray .int, 2) := by decide +kernel
theorem dX12_init_430 : decode cX12_init 430 = .ok (.putfield 163, 3) := by decide +kernel
theorem dX12_init_433 : decode cX12_init 433 = .ok (.aload_n 0, 1) := by decide +kernel
theorem dX12_init_434 : decode cX12_init 434 = .ok (.bipush 60, 2) := by decide +kernel
theorem dX12_init_436 : decode cX12_init 436 = .ok (.newarray .int, 2) := by decide +kernel
theorem dX12_init_438 : decode cX12_init 438 = .ok (.putfield 166, 3) := by decide +kernel
theorem dX12_init_441 : decode cX12_init 441 = .ok (.aload_n 0, 1) := by decide +kernel
theorem dX12_init_442 : decode cX12_init 442 = .ok (.bipush 60, 2) := by decide +kernel
theorem dX12_init_444 : decode cX12_init 444 = .ok (.newarray .int, 2) := by decide +kernel
theorem dX12_init_446 : decode cX12_init 446 = .ok (.putfield 169, 3) := by decide +kernel
theorem dX12_init_449 : decode cX12_init 449 = .ok (.aload_n 0, 1) := by decide +kernel
theorem dX12_init_450 : decode cX12_init 450 = .ok (.bipush 100, 2) := by decide +kernel
theorem dX12_init_452 : decode cX12_init 452 = .ok (.newarray .int, 2) := by decide +kernel
theorem dX12_init_454 : decode cX12_init 454 = .ok (.putfield 172, 3) := by decide +kernel
theorem dX12_init_457 : decode cX12_init 457 = .ok (.aload_n 0, 1) := by decide +kernel
theorem dX12_init_458 : decode cX12_init 458 = .ok (.bipush 8, 2) := by decide +kernel
theorem dX12_init_460 : decode cX12_init 460 = .ok (.newarray .int, 2) := by decide +kernel
theorem dX12_init_462 : decode cX12_init 462 = .ok (.putfield 175, 3) := by decide +kernel
theorem dX12_init_465 : decode cX12_init 465 = .ok (.aload_n 0, 1) := by decide +kernel
theorem dX12_init_466 : decode cX12_init 466 = .ok (.sipush 256, 3) := by decide +kernel
theorem dX12_init_469 : decode cX12_init 469 = .ok (.newarray .int, 2) := by decide +kernel
theorem dX12_init_471 : decode cX12_init 471 = .ok (.putfield 178, 3) := by decide +kernel
theorem dX12_init_474 : decode cX12_init 474 = .ok (.aload_n 0, 1) := by decide +kernel
theorem dX12_init_475 : decode cX12_init 475 = .ok (.bipush 60, 2) := by decide +kernel
theorem dX12_init_477 : decode cX12_init 477 = .ok (.newarray .boolean, 2) := by decide +kernel
theorem dX12_init_479 : decode cX12_init 479 = .ok (.putfield 181, 3) := by decide +kernel
theorem dX12_init_482 : decode cX12_init 482 = .ok (.aload_n 0, 1) := by decide +kernel
theorem dX12_init_483 : decode cX12_init 483 = .ok (.bipush 60, 2) := by decide +kernel
theorem dX12_init_485 : decode cX12_init 485 = .ok (.newarray .boolean, 2) := by decide +kernel
theorem dX12_init_487 : decode cX12_init 487 = .ok (.putfield 184, 3) := by decide +kernel
theorem dX12_init_490 : decode cX12_init 490 = .ok (.aload_n 0, 1) := by decide +kernel
theorem dX12_init_491 : decode cX12_init 491 = .ok (.sipush 480, 3) := by decide +kernel
theorem dX12_init_494 : decode cX12_init 494 = .ok (.newarray .int, 2) := by decide +kernel
theorem dX12_init_496 : decode cX12_init 496 = .ok (.putfield 187, 3) := by decide +kernel
theorem dX12_init_499 : decode cX12_init 499 = .ok (.aload_n 0, 1) := by decide +kernel
theorem dX12_init_500 : decode cX12_init 500 = .ok (.bipush 30, 2) := by decide +kernel
theorem dX12_init_502 : decode cX12_init 502 = .ok (.newarray .int, 2) := by decide +kernel
theorem dX12_init_504 : decode cX12_init 504 = .ok (.putfield 190, 3) := by decide +kernel
theorem dX12_init_507 : decode cX12_init 507 = .ok (.aload_n 0, 1) := by decide +kernel
theorem dX12_init_508 : decode cX12_init 508 = .ok (.bipush 30, 2) := by decide +kernel
theorem dX12_init_510 : decode cX12_init 510 = .ok (.newarray .int, 2) := by decide +kernel
theorem dX12_init_512 : decode cX12_init 512 = .ok (.putfield 193, 3) := by decide +kernel
theorem dX12_init_515 : decode cX12_init 515 = .ok (.aload_n 0, 1) := by decide +kernel
theorem dX12_init_516 : decode cX12_init 516 = .ok (.bipush 100, 2) := by decide +kernel
theorem dX12_init_518 : decode cX12_init 518 = .ok (.newarray .int, 2) := by decide +kernel
theorem dX12_init_520 : decode cX12_init 520 = .ok (.putfield 196, 3) := by decide +kernel
theorem dX12_init_523 : decode cX12_init 523 = .ok (.aload_n 0, 1) := by decide +kernel
theorem dX12_init_524 : decode cX12_init 524 = .ok (.bipush 100, 2) := by decide +kernel
theorem dX12_init_526 : decode cX12_init 526 = .ok (.newarray .int, 2) := by decide +kernel
theorem dX12_init_528 : decode cX12_init 528 = .ok (.putfield 199, 3) := by decide +kernel
theorem dX12_init_531 : decode cX12_init 531 = .ok (.aload_n 0, 1) := by decide +kernel
theorem dX12_init_532 : decode cX12_init 532 = .ok (.bipush 100, 2) := by decide +kernel
theorem dX12_init_534 : decode cX12_init 534 = .ok (.newarray .int, 2) := by decide +kernel
theorem dX12_init_536 : decode cX12_init 536 = .ok (.putfield 202, 3) := by decide +kernel
theorem dX12_init_539 : decode cX12_init 539 = .ok (.aload_n 0, 1) := by decide +kernel
theorem dX12_init_540 : decode cX12_init 540 = .ok (.bipush 100, 2) := by decide +kernel
theorem dX12_init_542 : decode cX12_init 542 = .ok (.newarray .int, 2) := by decide +kernel
theorem dX12_init_544 : decode cX12_init 544 = .ok (.putfield 205, 3) := by decide +kernel
theorem dX12_init_547 : decode cX12_init 547 = .ok (.aload_n 0, 1) := by decide +kernel
theorem dX12_init_548 : decode cX12_init 548 = .ok (.bipush 100, 2) := by decide +kernel
theorem dX12_init_550 : decode cX12_init 550 = .ok (.newarray .int, 2) := by decide +kernel
theorem dX12_init_552 : decode cX12_init 552 = .ok (.putfield 208, 3) := by decide +kernel
theorem dX12_init_555 : decode cX12_init 555 = .ok (.aload_n 0, 1) := by decide +kernel
theorem dX12_init_556 : decode cX12_init 556 = .ok (.bipush 100, 2) := by decide +kernel
theorem dX12_init_558 : decode cX12_init 558 = .ok (.newarray .boolean, 2) := by decide +kernel
theorem dX12_init_560 : decode cX12_init 560 = .ok (.putfield 211, 3) := by decide +kernel
theorem dX12_init_563 : decode cX12_init 563 = .ok (.aload_n 0, 1) := by decide +kernel
theorem dX12_init_564 : decode cX12_init 564 = .ok (.bipush 8, 2) := by decide +kernel
theorem dX12_init_566 : decode cX12_init 566 = .ok (.newarray .int, 2) := by decide +kernel
theorem dX12_init_568 : decode cX12_init 568 = .ok (.putfield 214, 3) := by decide +kernel
theorem dX12_init_571 : decode cX12_init 571 = .ok (.aload_n 0, 1) := by decide +kernel
theorem dX12_init_572 : decode cX12_init 572 = .ok (.bipush 8, 2) := by decide +kernel
theorem dX12_init_574 : decode cX12_init 574 = .ok (.newarray .int, 2) := by decide +kernel
theorem dX12_init_576 : decode cX12_init 576 = .ok (.putfield 217, 3) := by decide +kernel
theorem dX12_init_579 : decode cX12_init 579 = .ok (.aload_n 0, 1) := by decide +kernel
theorem dX12_init_580 : decode cX12_init 580 = .ok (.bipush 40, 2) := by decide +kernel
theorem dX12_init_582 : decode cX12_init 582 = .ok (.newarray .int, 2) := by decide +kernel
theorem dX12_init_584 : decode cX12_init 584 = .ok (.putfield 220, 3) := by decide +kernel
theorem dX12_init_587 : decode cX12_init 587 = .ok (.aload_n 0, 1) := by decide +kernel
theorem dX12_init_588 : decode cX12_init 588 = .ok (.bipush 40, 2) := by decide +kernel
theorem dX12_init_590 : decode cX12_init 590 = .ok (.newarray .int, 2) := by decide +kernel
theorem dX12_init_592 : decode cX12_init 592 = .ok (.putfield 223, 3) := by decide +kernel
theorem dX12_init_595 : decode cX12_init 595 = .ok (.aload_n 0, 1) := by decide +kernel
theorem dX12_init_596 : decode cX12_init 596 = .ok (.bipush 8, 2) := by decide +kernel
theorem dX12_init_598 : decode cX12_init 598 = .ok (.newarray .int, 2) := by decide +kernel
theorem dX12_init_600 : decode cX12_init 600 = .ok (.putfield 226, 3) := by decide +kernel
theorem dX12_init_603 : decode cX12_init 603 = .ok (.aload_n 0, 1) := by decide +kernel
theorem dX12_init_604 : decode cX12_init 604 = .ok (.bipush 8, 2) := by decide +kernel
theorem dX12_init_606 : decode cX12_init 606 = .ok (.newarray .int, 2) := by decide +kernel
theorem dX12_init_608 : decode cX12_init 608 = .ok (.putfield 229, 3) := by decide +kernel
theorem dX12_init_611 : decode cX12_init 611 = .ok (.aload_n 0, 1) := by decide +kernel
theorem dX12_init_612 : decode cX12_init 612 = .ok (.bipush 40, 2) := by decide +kernel
theorem dX12_init_614 : decode cX12_init 614 = .ok (.newarray .int, 2) := by decide +kernel
theorem dX12_init_616 : decode cX12_init 616 = .ok (.putfield 232, 3) := by decide +kernel
theorem dX12_init_619 : decode cX12_init 619 = .ok (.aload_n 0, 1) := by decide +kernel
theorem dX12_init_620 : decode cX12_init 620 = .ok (.bipush 40, 2) := by decide +kernel
theorem dX12_init_622 : decode cX12_init 622 = .ok (.newarray .int, 2) := by decide +kernel
theorem dX12_init_624 : decode cX12_init 624 = .ok (.putfield 235, 3) := by decide +kernel
theorem dX12_init_627 : decode cX12_init 627 = .ok (.aload_n 0, 1) := by decide +kernel
theorem dX12_init_628 : decode cX12_init 628 = .ok (.bipush 100, 2) := by decide +kernel
theorem dX12_init_630 : decode cX12_init 630 = .ok (.newarray .int, 2) := by decide +kernel
theorem dX12_init_632 : decode cX12_init 632 = .ok (.putfield 238, 3) := by decide +kernel
theorem dX12_init_635 : decode cX12_init 635 = .ok (.aload_n 0, 1) := by decide +kernel
theorem dX12_init_636 : decode cX12_init 636 = .ok (.bipush 100, 2) := by decide +kernel
theorem dX12_init_638 : decode cX12_init 638 = .ok (.newarray .int, 2) := by decide +kernel
theorem dX12_init_640 : decode cX12_init 640 = .ok (.putfield 241, 3) := by decide +kernel
theorem dX12_init_643 : decode cX12_init 643 = .ok (.aload_n 0, 1) := by decide +kernel
theorem dX12_init_644 : decode cX12_init 644 = .ok (.bipush 100, 2) := by decide +kernel
theorem dX12_init_646 : decode cX12_init 646 = .ok (.newarray .int, 2) := by decide +kernel
theorem dX12_init_648 : decode cX12_init 648 = .ok (.putfield 244, 3) := by decide +kernel
theorem dX12_init_651 : decode cX12_init 651 = .ok (.aload_n 0, 1) := by decide +kernel
theorem dX12_init_652 : decode cX12_init 652 = .ok (.bipush 100, 2) := by decide +kernel
theorem dX12_init_654 : decode cX12_init 654 = .ok (.newarray .int, 2) := by decide +kernel
theorem dX12_init_656 : decode cX12_init 656 = .ok (.putfield 247, 3) := by decide +kernel
theorem dX12_init_659 : decode cX12_init 659 = .ok (.aload_n 0, 1) := by decide +kernel
theorem dX12_init_660 : decode cX12_init 660 = .ok (.bipush 100, 2) := by decide +kernel
theorem dX12_init_662 : decode cX12_init 662 = .ok (.newarray .int, 2) := by decide +kernel
theorem dX12_init_664 : decode cX12_init 664 = .ok (.putfield 250, 3) := by decide +kernel
theorem dX12_init_667 : decode cX12_init 667 = .ok (.aload_n 0, 1) := by decide +kernel
theorem dX12_init_668 : decode cX12_init 668 = .ok (.bipush 9, 2) := by decide +kernel
theorem dX12_init_670 : decode cX12_init 670 = .ok (.newarray .int, 2) := by decide +kernel
theorem dX12_init_672 : decode cX12_init 672 = .ok (.putfield 253, 3) := by decide +kernel
theorem dX12_init_675 : decode cX12_init 675 = .ok (.aload_n 0, 1) := by decide +kernel
theorem dX12_init_676 : decode cX12_init 676 = .ok (.bipush 9, 2) := by decide +kernel
theorem dX12_init_678 : decode cX12_init 678 = .ok (.newarray .int, 2) := by decide +kernel
theorem dX12_init_680 : decode cX12_init 680 = .ok (.putfield 256, 3) := by decide +kernel
theorem dX12_init_683 : decode cX12_init 683 = .ok (.aload_n 0, 1) := by decide +kernel
theorem dX12_init_684 : decode cX12_init 684 = .ok (.bipush 9, 2) := by decide +kernel
theorem dX12_init_686 : decode cX12_init 686 = .ok (.newarray .int, 2) := by decide +kernel
theorem dX12_init_688 : decode cX12_init 688 = .ok (.putfield 259, 3) := by decide +kernel
theorem dX12_init_691 : decode cX12_init 691 = .ok (.aload_n 0, 1) := by decide +kernel
theorem dX12_init_692 : decode cX12_init 692 = .ok (.bipush 30, 2) := by decide +kernel
theorem dX12_init_694 : decode cX12_init 694 = .ok (.newarray .int, 2) := by decide +kernel
theorem dX12_init_696 : decode cX12_init 696 = .ok (.putfield 262, 3) := by decide +kernel
theorem dX12_init_699 : decode cX12_init 699 = .ok (.aload_n 0, 1) := by decide +kernel
theorem dX12_init_700 : decode cX12_init 700 = .ok (.bipush 30, 2) := by decide +kernel
theorem dX12_init_702 : decode cX12_init 702 = .ok (.newarray .int, 2) := by decide +kernel
theorem dX12_init_704 : decode cX12_init 704 = .ok (.putfield 265, 3) := by decide +kernel
theorem dX12_init_707 : decode cX12_init 707 = .ok (.aload_n 0, 1) := by decide +kernel
theorem dX12_init_708 : decode cX12_init 708 = .ok (.bipush 8, 2) := by decide +kernel
theorem dX12_init_710 : decode cX12_init 710 = .ok (.bipush 8, 2) := by decide +kernel
theorem dX12_init_712 : decode cX12_init 712 = .ok (.invokevirtual 268, 3) := by decide +kernel
theorem dX12_init_715 : decode cX12_init 715 = .ok (.iconst 0, 1) := by decide +kernel
theorem dX12_init_716 : decode cX12_init 716 = .ok (.istore_n 1, 1) := by decide +kernel
theorem dX12_init_717 : decode cX12_init 717 = .ok (.iload_n 1, 1) := by decide +kernel
theorem dX12_init_718 : decode cX12_init 718 = .ok (.bipush 8, 2) := by decide +kernel
theorem dX12_init_720 : decode cX12_init 720 = .ok (.if_icmp .ge 17, 3) := by decide +kernel
theorem dX12_init_723 : decode cX12_init 723 = .ok (.aload_n 0, 1) := by decide +kernel
theorem dX12_init_724 : decode cX12_init 724 = .ok (.getfield 217, 3) := by decide +kernel
theorem dX12_init_727 : decode cX12_init 727 = .ok (.iload_n 1, 1) := by decide +kernel
theorem dX12_init_728 : decode cX12_init 728 = .ok (.bipush 99, 2) := by decide +kernel
theorem dX12_init_730 : decode cX12_init 730 = .ok (.iastore, 1) := by decide +kernel
theorem dX12_init_731 : decode cX12_init 731 = .ok (.iinc 1 1, 3) := by decide +kernel
theorem dX12_init_734 : decode cX12_init 734 = .ok (.goto (-17), 3) := by decide +kernel
theorem dX12_init_737 : decode cX12_init 737 = .ok (.return_, 1) := by decide +kernel
theorem dX12_in_0 : decode cX12_in 0 = .ok (.iload_n 0, 1) := by decide +kernel
theorem dX12_in_1 : decode cX12_in 1 = .ok (.iload_n 1, 1) := by decide +kernel
theorem dX12_in_2 : decode cX12_in 2 = .ok (.if_icmp .lt 12, 3) := by decide +kernel
theorem dX12_in_5 : decode cX12_in 5 = .ok (.iload_n 0, 1) := by decide +kernel
theorem dX12_in_6 : decode cX12_in 6 = .ok (.iload_n 2, 1) := by decide +kernel
theorem dX12_in_7 : decode cX12_in 7 = .ok (.if_icmp .gt 7, 3) := by decide +kernel
theorem dX12_in_10 : decode cX12_in 10 = .ok (.iconst 1, 1) := by decide +kernel
theorem dX12_in_11 : decode cX12_in 11 = .ok (.goto 4, 3) := by decide +kernel
theorem dX12_in_14 : decode cX12_in 14 = .ok (.iconst 0, 1) := by decide +kernel
theorem dX12_in_15 : decode cX12_in 15 = .ok (.ireturn, 1) := by decide +kernel
theorem dX12_isWeek_0 : decode cX12_isWeek 0 = .ok (.iload_n 0, 1) := by decide +kernel
theorem dX12_isWeek_1 : decode cX12_isWeek 1 = .ok (.ifCond .lt 14, 3) := by decide +kernel
theorem dX12_isWeek_4 : decode cX12_isWeek 4 = .ok (.iload_n 0, 1) := by decide +kernel
theorem dX12_isWeek_5 : decode cX12_isWeek 5 = .ok (.sipush 9999, 3) := by decide +kernel
theorem dX12_isWeek_8 : decode cX12_isWeek 8 = .ok (.if_icmp .gt 7, 3) := by decide +kernel
theorem dX12_isWeek_11 : decode cX12_isWeek 11 = .ok (.iconst 1, 1) := by decide +kernel
theorem dX12_isWeek_12 : decode cX12_isWeek 12 = .ok (.goto 4, 3) := by decide +kernel
theorem dX12_isWeek_15 : decode cX12_isWeek 15 = .ok (.iconst 0, 1) := by decide +kernel
theorem dX12_isWeek_16 : decode cX12_isWeek 16 = .ok (.ireturn, 1) := by decide +kernel
theorem dX12_begins_0 : decode cX12_begins 0 = .ok (.aload_n 0, 1) := by decide +kernel
theorem dX12_begins_1 : decode cX12_begins 1 = .ok (.iload_n 1, 1) := by decide +kernel
theorem dX12_begins_2 : decode cX12_begins 2 = .ok (.putfield 272, 3) := by decide +kernel
theorem dX12_begins_5 : decode cX12_begins 5 = .ok (.aload_n 0, 1) := by decide +kernel
theorem dX12_begins_6 : decode cX12_begins 6 = .ok (.iload_n 2, 1) := by decide +kernel
theorem dX12_begins_7 : decode cX12_begins 7 = .ok (.putfield 275, 3) := by decide +kernel
theorem dX12_begins_10 : decode cX12_begins 10 = .ok (.iconst 0, 1) := by decide +kernel
theorem dX12_begins_11 : decode cX12_begins 11 = .ok (.istore_n 3, 1) := by decide +kernel
theorem dX12_begins_12 : decode cX12_begins 12 = .ok (.iload_n 3, 1) := by decide +kernel
theorem dX12_begins_13 : decode cX12_begins 13 = .ok (.bipush 100, 2) := by decide +kernel
theorem dX12_begins_15 : decode cX12_begins 15 = .ok (.if_icmp .ge 24, 3) := by decide +kernel
theorem dX12_begins_18 : decode cX12_begins 18 = .ok (.aload_n 0, 1) := by decide +kernel
theorem dX12_begins_19 : decode cX12_begins 19 = .ok (.getfield 7, 3) := by decide +kernel
theorem dX12_begins_22 : decode cX12_begins 22 = .ok (.iload_n 3, 1) := by decide +kernel
theorem dX12_begins_23 : decode cX12_begins 23 = .ok (.bipush 8, 2) := by decide +kernel
theorem dX12_begins_25 : decode cX12_begins 25 = .ok (.iastore, 1) := by decide +kernel
theorem dX12_begins_26 : decode cX12_begins 26 = .ok (.aload_n 0, 1) := by decide +kernel
theorem dX12_begins_27 : decode cX12_begins 27 = .ok (.getfield 13, 3) := by decide +kernel
theorem dX12_begins_30 : decode cX12_begins 30 = .ok (.iload_n 3, 1) := by decide +kernel
theorem dX12_begins_31 : decode cX12_begins 31 = .ok (.iconst (-1), 1) := by decide +kernel
theorem dX12_begins_32 : decode cX12_begins 32 = .ok (.iastore, 1) := by decide +kernel
theorem dX12_begins_33 : decode cX12_begins 33 = .ok (.iinc 3 1, 3) := by decide +kernel
theorem dX12_begins_36 : decode cX12_begins 36 = .ok (.goto (-24), 3) := by decide +kernel
theorem dX12_begins_39 : decode cX12_begins 39 = .ok (.return_, 1) := by decide +kernel
theorem dX12_city_0 : decode cX12_city 0 = .ok (.iload_n 1, 1) := by decide +kernel
theorem dX12_city_1 : decode cX12_city 1 = .ok (.iconst 4, 1) := by decide +kernel
theorem dX12_city_2 : decode cX12_city 2 = .ok (.bipush 10, 2) := by decide +kernel
theorem dX12_city_4 : decode cX12_city 4 = .ok (.invokestatic 278, 3) := by decide +kernel
theorem dX12_city_7 : decode cX12_city 7 = .ok (.ifCond .eq 34, 3) := by decide +kernel
theorem dX12_city_10 : decode cX12_city 10 = .ok (.iload_n 2, 1) := by decide +kernel
theorem dX12_city_11 : decode cX12_city 11 = .ok (.iconst 4, 1) := by decide +kernel
theorem dX12_city_12 : decode cX12_city 12 = .ok (.bipush 10, 2) := by decide +kernel
theorem dX12_city_14 : decode cX12_city 14 = .ok (.invokestatic 278, 3) := by decide +kernel
theorem dX12_city_17 : decode cX12_city 17 = .ok (.ifCond .eq 24, 3) := by decide +kernel
theorem dX12_city_20 : decode cX12_city 20 = .ok (.aload_n 0, 1) := by decide +kernel
theorem dX12_city_21 : decode cX12_city 21 = .ok (.getfield 282, 3) := by decide +kernel
theorem dX12_city_24 : decode cX12_city 24 = .ok (.ifCond .gt 17, 3) := by decide +kernel
theorem dX12_city_27 : decode cX12_city 27 = .ok (.aload_n 0, 1) := by decide +kernel
theorem dX12_city_28 : decode cX12_city 28 = .ok (.getfield 285, 3) := by decide +kernel
theorem dX12_city_31 : decode cX12_city 31 = .ok (.ifCond .gt 10, 3) := by decide +kernel
theorem dX12_city_34 : decode cX12_city 34 = .ok (.aload_n 0, 1) := by decide +kernel
theorem dX12_city_35 : decode cX12_city 35 = .ok (.getfield 288, 3) := by decide +kernel
theorem dX12_city_38 : decode cX12_city 38 = .ok (.ifCond .le 5, 3) := by decide +kernel
theorem dX12_city_41 : decode cX12_city 41 = .ok (.iconst 0, 1) := by decide +kernel
theorem dX12_city_42 : decode cX12_city 42 = .ok (.ireturn, 1) := by decide +kernel
theorem dX12_city_43 : decode cX12_city 43 = .ok (.aload_n 0, 1) := by decide +kernel
theorem dX12_city_44 : decode cX12_city 44 = .ok (.iload_n 1, 1) := by decide +kernel
theorem dX12_city_45 : decode cX12_city 45 = .ok (.iload_n 2, 1) := by decide +kernel
theorem dX12_city_46 : decode cX12_city 46 = .ok (.invokevirtual 268, 3) := by decide +kernel
theorem dX12_city_49 : decode cX12_city 49 = .ok (.iconst 1, 1) := by decide +kernel
theorem dX12_city_50 : decode cX12_city 50 = .ok (.ireturn, 1) := by decide +kernel
theorem dX12_now_0 : decode cX12_now 0 = .ok (.iload_n 1, 1) := by decide +kernel
theorem dX12_now_1 : decode cX12_now 1 = .ok (.aload_n 0, 1) := by decide +kernel
theorem dX12_now_2 : decode cX12_now 2 = .ok (.getfield 291, 3) := by decide +kernel
theorem dX12_now_5 : decode cX12_now 5 = .ok (.sipush 9999, 3) := by decide +kernel
theorem dX12_now_8 : decode cX12_now 8 = .ok (.invokestatic 278, 3) := by decide +kernel
theorem dX12_now_11 : decode cX12_now 11 = .ok (.ifCond .ne 5, 3) := by decide +kernel
theorem dX12_now_14 : decode cX12_now 14 = .ok (.iconst 0, 1) := by decide +kernel
theorem dX12_now_15 : decode cX12_now 15 = .ok (.ireturn, 1) := by decide +kernel
theorem dX12_now_16 : decode cX12_now 16 = .ok (.aload_n 0, 1) := by decide +kernel
theorem dX12_now_17 : decode cX12_now 17 = .ok (.iload_n 1, 1) := by decide +kernel
theorem dX12_now_18 : decode cX12_now 18 = .ok (.putfield 291, 3) := by decide +kernel
theorem dX12_now_21 : decode cX12_now 21 = .ok (.iconst 1, 1) := by decide +kernel
theorem dX12_now_22 : decode cX12_now 22 = .ok (.ireturn, 1) := by decide +kernel
theorem dX12_isCell_0 : decode cX12_isCell 0 = .ok (.iload_n 1, 1) := by decide +kernel
theorem dX12_isCell_1 : decode cX12_isCell 1 = .ok (.ifCond .lt 20, 3) := by decide +kernel
