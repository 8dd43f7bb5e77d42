theorem dX12_hours_128 : decode cX12_hours 128 = .ok (.iload 4, 2) := by decide +kernel
theorem dX12_hours_130 : decode cX12_hours 130 = .ok (.aload_n 0, 1) := by decide +kernel
theorem dX12_hours_131 : decode cX12_hours 131 = .ok (.getfield 229, 3) := by decide +kernel
theorem dX12_hours_134 : decode cX12_hours 134 = .ok (.iload_n 3, 1) := by decide +kernel
theorem dX12_hours_135 : decode cX12_hours 135 = .ok (.iaload, 1) := by decide +kernel
theorem dX12_hours_136 : decode cX12_hours 136 = .ok (.iconst 1, 1) := by decide +kernel
theorem dX12_hours_137 : decode cX12_hours 137 = .ok (.isub, 1) := by decide +kernel
theorem dX12_hours_138 : decode cX12_hours 138 = .ok (.iastore, 1) := by decide +kernel
theorem dX12_hours_139 : decode cX12_hours 139 = .ok (.iconst 1, 1) := by decide +kernel
theorem dX12_hours_140 : decode cX12_hours 140 = .ok (.istore_n 1, 1) := by decide +kernel
theorem dX12_hours_141 : decode cX12_hours 141 = .ok (.aload_n 0, 1) := by decide +kernel
theorem dX12_hours_142 : decode cX12_hours 142 = .ok (.getfield 226, 3) := by decide +kernel
theorem dX12_hours_145 : decode cX12_hours 145 = .ok (.iload_n 3, 1) := by decide +kernel
theorem dX12_hours_146 : decode cX12_hours 146 = .ok (.iaload, 1) := by decide +kernel
theorem dX12_hours_147 : decode cX12_hours 147 = .ok (.aload_n 0, 1) := by decide +kernel
theorem dX12_hours_148 : decode cX12_hours 148 = .ok (.getfield 229, 3) := by decide +kernel
theorem dX12_hours_151 : decode cX12_hours 151 = .ok (.iload_n 3, 1) := by decide +kernel
theorem dX12_hours_152 : decode cX12_hours 152 = .ok (.iaload, 1) := by decide +kernel
theorem dX12_hours_153 : decode cX12_hours 153 = .ok (.if_icmp .gt 20, 3) := by decide +kernel
theorem dX12_hours_156 : decode cX12_hours 156 = .ok (.aload_n 0, 1) := by decide +kernel
theorem dX12_hours_157 : decode cX12_hours 157 = .ok (.getfield 226, 3) := by decide +kernel
theorem dX12_hours_160 : decode cX12_hours 160 = .ok (.iload 4, 2) := by decide +kernel
theorem dX12_hours_162 : decode cX12_hours 162 = .ok (.iaload, 1) := by decide +kernel
theorem dX12_hours_163 : decode cX12_hours 163 = .ok (.aload_n 0, 1) := by decide +kernel
theorem dX12_hours_164 : decode cX12_hours 164 = .ok (.getfield 229, 3) := by decide +kernel
theorem dX12_hours_167 : decode cX12_hours 167 = .ok (.iload 4, 2) := by decide +kernel
theorem dX12_hours_169 : decode cX12_hours 169 = .ok (.iaload, 1) := by decide +kernel
theorem dX12_hours_170 : decode cX12_hours 170 = .ok (.if_icmp .le 5, 3) := by decide +kernel
theorem dX12_hours_173 : decode cX12_hours 173 = .ok (.iconst 0, 1) := by decide +kernel
theorem dX12_hours_174 : decode cX12_hours 174 = .ok (.ireturn, 1) := by decide +kernel
theorem dX12_hours_175 : decode cX12_hours 175 = .ok (.iinc 2 1, 3) := by decide +kernel
theorem dX12_hours_178 : decode cX12_hours 178 = .ok (.goto (-130), 3) := by decide +kernel
theorem dX12_hours_181 : decode cX12_hours 181 = .ok (.goto (-141), 3) := by decide +kernel
theorem dX12_hours_184 : decode cX12_hours 184 = .ok (.iconst 1, 1) := by decide +kernel
theorem dX12_hours_185 : decode cX12_hours 185 = .ok (.ireturn, 1) := by decide +kernel
theorem dX12_hour_0 : decode cX12_hour 0 = .ok (.iload_n 1, 1) := by decide +kernel
theorem dX12_hour_1 : decode cX12_hour 1 = .ok (.invokestatic 305, 3) := by decide +kernel
theorem dX12_hour_4 : decode cX12_hour 4 = .ok (.ifCond .eq 19, 3) := by decide +kernel
theorem dX12_hour_7 : decode cX12_hour 7 = .ok (.iload_n 2, 1) := by decide +kernel
theorem dX12_hour_8 : decode cX12_hour 8 = .ok (.iconst 0, 1) := by decide +kernel
theorem dX12_hour_9 : decode cX12_hour 9 = .ok (.iconst 1, 1) := by decide +kernel
theorem dX12_hour_10 : decode cX12_hour 10 = .ok (.invokestatic 278, 3) := by decide +kernel
theorem dX12_hour_13 : decode cX12_hour 13 = .ok (.ifCond .eq 10, 3) := by decide +kernel
theorem dX12_hour_16 : decode cX12_hour 16 = .ok (.aload_n 0, 1) := by decide +kernel
theorem dX12_hour_17 : decode cX12_hour 17 = .ok (.invokevirtual 543, 3) := by decide +kernel
theorem dX12_hour_20 : decode cX12_hour 20 = .ok (.ifCond .ne 5, 3) := by decide +kernel
theorem dX12_hour_23 : decode cX12_hour 23 = .ok (.iconst (-1), 1) := by decide +kernel
theorem dX12_hour_24 : decode cX12_hour 24 = .ok (.ireturn, 1) := by decide +kernel
theorem dX12_hour_25 : decode cX12_hour 25 = .ok (.iload_n 2, 1) := by decide +kernel
theorem dX12_hour_26 : decode cX12_hour 26 = .ok (.ifCond .ne 12, 3) := by decide +kernel
theorem dX12_hour_29 : decode cX12_hour 29 = .ok (.aload_n 0, 1) := by decide +kernel
theorem dX12_hour_30 : decode cX12_hour 30 = .ok (.getfield 226, 3) := by decide +kernel
theorem dX12_hour_33 : decode cX12_hour 33 = .ok (.iload_n 1, 1) := by decide +kernel
theorem dX12_hour_34 : decode cX12_hour 34 = .ok (.iaload, 1) := by decide +kernel
theorem dX12_hour_35 : decode cX12_hour 35 = .ok (.goto 9, 3) := by decide +kernel
theorem dX12_hour_38 : decode cX12_hour 38 = .ok (.aload_n 0, 1) := by decide +kernel
theorem dX12_hour_39 : decode cX12_hour 39 = .ok (.getfield 229, 3) := by decide +kernel
theorem dX12_hour_42 : decode cX12_hour 42 = .ok (.iload_n 1, 1) := by decide +kernel
theorem dX12_hour_43 : decode cX12_hour 43 = .ok (.iaload, 1) := by decide +kernel
theorem dX12_hour_44 : decode cX12_hour 44 = .ok (.ireturn, 1) := by decide +kernel
theorem dX12_height_0 : decode cX12_height 0 = .ok (.aload_n 0, 1) := by decide +kernel
theorem dX12_height_1 : decode cX12_height 1 = .ok (.iload_n 1, 1) := by decide +kernel
theorem dX12_height_2 : decode cX12_height 2 = .ok (.invokevirtual 294, 3) := by decide +kernel
theorem dX12_height_5 : decode cX12_height 5 = .ok (.ifCond .eq 13, 3) := by decide +kernel
theorem dX12_height_8 : decode cX12_height 8 = .ok (.iload_n 2, 1) := by decide +kernel
theorem dX12_height_9 : decode cX12_height 9 = .ok (.iconst 0, 1) := by decide +kernel
theorem dX12_height_10 : decode cX12_height 10 = .ok (.bipush 8, 2) := by decide +kernel
theorem dX12_height_12 : decode cX12_height 12 = .ok (.invokestatic 278, 3) := by decide +kernel
theorem dX12_height_15 : decode cX12_height 15 = .ok (.ifCond .ne 5, 3) := by decide +kernel
theorem dX12_height_18 : decode cX12_height 18 = .ok (.iconst 0, 1) := by decide +kernel
theorem dX12_height_19 : decode cX12_height 19 = .ok (.ireturn, 1) := by decide +kernel
theorem dX12_height_20 : decode cX12_height 20 = .ok (.aload_n 0, 1) := by decide +kernel
theorem dX12_height_21 : decode cX12_height 21 = .ok (.getfield 7, 3) := by decide +kernel
theorem dX12_height_24 : decode cX12_height 24 = .ok (.iload_n 1, 1) := by decide +kernel
theorem dX12_height_25 : decode cX12_height 25 = .ok (.iload_n 2, 1) := by decide +kernel
theorem dX12_height_26 : decode cX12_height 26 = .ok (.iastore, 1) := by decide +kernel
theorem dX12_height_27 : decode cX12_height 27 = .ok (.iconst 1, 1) := by decide +kernel
theorem dX12_height_28 : decode cX12_height 28 = .ok (.ireturn, 1) := by decide +kernel
theorem dX12_hollow_0 : decode cX12_hollow 0 = .ok (.aload_n 0, 1) := by decide +kernel
theorem dX12_hollow_1 : decode cX12_hollow 1 = .ok (.iload_n 1, 1) := by decide +kernel
theorem dX12_hollow_2 : decode cX12_hollow 2 = .ok (.invokevirtual 294, 3) := by decide +kernel
theorem dX12_hollow_5 : decode cX12_hollow 5 = .ok (.ifCond .eq 19, 3) := by decide +kernel
theorem dX12_hollow_8 : decode cX12_hollow 8 = .ok (.iload_n 2, 1) := by decide +kernel
theorem dX12_hollow_9 : decode cX12_hollow 9 = .ok (.invokestatic 305, 3) := by decide +kernel
theorem dX12_hollow_12 : decode cX12_hollow 12 = .ok (.ifCond .eq 12, 3) := by decide +kernel
theorem dX12_hollow_15 : decode cX12_hollow 15 = .ok (.aload_n 0, 1) := by decide +kernel
theorem dX12_hollow_16 : decode cX12_hollow 16 = .ok (.getfield 288, 3) := by decide +kernel
theorem dX12_hollow_19 : decode cX12_hollow 19 = .ok (.bipush 40, 2) := by decide +kernel
theorem dX12_hollow_21 : decode cX12_hollow 21 = .ok (.if_icmp .ne 5, 3) := by decide +kernel
theorem dX12_hollow_24 : decode cX12_hollow 24 = .ok (.iconst (-1), 1) := by decide +kernel
theorem dX12_hollow_25 : decode cX12_hollow 25 = .ok (.ireturn, 1) := by decide +kernel
theorem dX12_hollow_26 : decode cX12_hollow 26 = .ok (.aload_n 0, 1) := by decide +kernel
theorem dX12_hollow_27 : decode cX12_hollow 27 = .ok (.getfield 232, 3) := by decide +kernel
theorem dX12_hollow_30 : decode cX12_hollow 30 = .ok (.aload_n 0, 1) := by decide +kernel
theorem dX12_hollow_31 : decode cX12_hollow 31 = .ok (.getfield 288, 3) := by decide +kernel
theorem dX12_hollow_34 : decode cX12_hollow 34 = .ok (.iload_n 1, 1) := by decide +kernel
theorem dX12_hollow_35 : decode cX12_hollow 35 = .ok (.iastore, 1) := by decide +kernel
theorem dX12_hollow_36 : decode cX12_hollow 36 = .ok (.aload_n 0, 1) := by decide +kernel
theorem dX12_hollow_37 : decode cX12_hollow 37 = .ok (.getfield 235, 3) := by decide +kernel
theorem dX12_hollow_40 : decode cX12_hollow 40 = .ok (.aload_n 0, 1) := by decide +kernel
theorem dX12_hollow_41 : decode cX12_hollow 41 = .ok (.getfield 288, 3) := by decide +kernel
theorem dX12_hollow_44 : decode cX12_hollow 44 = .ok (.iload_n 2, 1) := by decide +kernel
theorem dX12_hollow_45 : decode cX12_hollow 45 = .ok (.iastore, 1) := by decide +kernel
theorem dX12_hollow_46 : decode cX12_hollow 46 = .ok (.aload_n 0, 1) := by decide +kernel
theorem dX12_hollow_47 : decode cX12_hollow 47 = .ok (.aload_n 0, 1) := by decide +kernel
theorem dX12_hollow_48 : decode cX12_hollow 48 = .ok (.getfield 288, 3) := by decide +kernel
theorem dX12_hollow_51 : decode cX12_hollow 51 = .ok (.iconst 1, 1) := by decide +kernel
theorem dX12_hollow_52 : decode cX12_hollow 52 = .ok (.iadd, 1) := by decide +kernel
theorem dX12_hollow_53 : decode cX12_hollow 53 = .ok (.putfield 288, 3) := by decide +kernel
theorem dX12_hollow_56 : decode cX12_hollow 56 = .ok (.aload_n 0, 1) := by decide +kernel
theorem dX12_hollow_57 : decode cX12_hollow 57 = .ok (.getfield 288, 3) := by decide +kernel
theorem dX12_hollow_60 : decode cX12_hollow 60 = .ok (.iconst 1, 1) := by decide +kernel
theorem dX12_hollow_61 : decode cX12_hollow 61 = .ok (.isub, 1) := by decide +kernel
theorem dX12_hollow_62 : decode cX12_hollow 62 = .ok (.ireturn, 1) := by decide +kernel
theorem dX12_isBorder_0 : decode cX12_isBorder 0 = .ok (.iload_n 1, 1) := by decide +kernel
theorem dX12_isBorder_1 : decode cX12_isBorder 1 = .ok (.aload_n 0, 1) := by decide +kernel
theorem dX12_isBorder_2 : decode cX12_isBorder 2 = .ok (.getfield 272, 3) := by decide +kernel
theorem dX12_isBorder_5 : decode cX12_isBorder 5 = .ok (.irem, 1) := by decide +kernel
theorem dX12_isBorder_6 : decode cX12_isBorder 6 = .ok (.ifCond .eq 42, 3) := by decide +kernel
theorem dX12_isBorder_9 : decode cX12_isBorder 9 = .ok (.iload_n 1, 1) := by decide +kernel
theorem dX12_isBorder_10 : decode cX12_isBorder 10 = .ok (.aload_n 0, 1) := by decide +kernel
theorem dX12_isBorder_11 : decode cX12_isBorder 11 = .ok (.getfield 272, 3) := by decide +kernel
theorem dX12_isBorder_14 : decode cX12_isBorder 14 = .ok (.irem, 1) := by decide +kernel
theorem dX12_isBorder_15 : decode cX12_isBorder 15 = .ok (.aload_n 0, 1) := by decide +kernel
theorem dX12_isBorder_16 : decode cX12_isBorder 16 = .ok (.getfield 272, 3) := by decide +kernel
theorem dX12_isBorder_19 : decode cX12_isBorder 19 = .ok (.iconst 1, 1) := by decide +kernel
theorem dX12_isBorder_20 : decode cX12_isBorder 20 = .ok (.isub, 1) := by decide +kernel
theorem dX12_isBorder_21 : decode cX12_isBorder 21 = .ok (.if_icmp .eq 27, 3) := by decide +kernel
theorem dX12_isBorder_24 : decode cX12_isBorder 24 = .ok (.iload_n 1, 1) := by decide +kernel
theorem dX12_isBorder_25 : decode cX12_isBorder 25 = .ok (.aload_n 0, 1) := by decide +kernel
theorem dX12_isBorder_26 : decode cX12_isBorder 26 = .ok (.getfield 272, 3) := by decide +kernel
theorem dX12_isBorder_29 : decode cX12_isBorder 29 = .ok (.idiv, 1) := by decide +kernel
theorem dX12_isBorder_30 : decode cX12_isBorder 30 = .ok (.ifCond .eq 18, 3) := by decide +kernel
theorem dX12_isBorder_33 : decode cX12_isBorder 33 = .ok (.iload_n 1, 1) := by decide +kernel
theorem dX12_isBorder_34 : decode cX12_isBorder 34 = .ok (.aload_n 0, 1) := by decide +kernel
theorem dX12_isBorder_35 : decode cX12_isBorder 35 = .ok (.getfield 272, 3) := by decide +kernel
theorem dX12_isBorder_38 : decode cX12_isBorder 38 = .ok (.idiv, 1) := by decide +kernel
theorem dX12_isBorder_39 : decode cX12_isBorder 39 = .ok (.aload_n 0, 1) := by decide +kernel
theorem dX12_isBorder_40 : decode cX12_isBorder 40 = .ok (.getfield 275, 3) := by decide +kernel
theorem dX12_isBorder_43 : decode cX12_isBorder 43 = .ok (.iconst 1, 1) := by decide +kernel
theorem dX12_isBorder_44 : decode cX12_isBorder 44 = .ok (.isub, 1) := by decide +kernel
theorem dX12_isBorder_45 : decode cX12_isBorder 45 = .ok (.if_icmp .ne 7, 3) := by decide +kernel
theorem dX12_isBorder_48 : decode cX12_isBorder 48 = .ok (.iconst 1, 1) := by decide +kernel
theorem dX12_isBorder_49 : decode cX12_isBorder 49 = .ok (.goto 4, 3) := by decide +kernel
theorem dX12_isBorder_52 : decode cX12_isBorder 52 = .ok (.iconst 0, 1) := by decide +kernel
theorem dX12_isBorder_53 : decode cX12_isBorder 53 = .ok (.ireturn, 1) := by decide +kernel
theorem dX12_areBeside_0 : decode cX12_areBeside 0 = .ok (.iload_n 1, 1) := by decide +kernel
theorem dX12_areBeside_1 : decode cX12_areBeside 1 = .ok (.aload_n 0, 1) := by decide +kernel
theorem dX12_areBeside_2 : decode cX12_areBeside 2 = .ok (.getfield 272, 3) := by decide +kernel
theorem dX12_areBeside_5 : decode cX12_areBeside 5 = .ok (.irem, 1) := by decide +kernel
theorem dX12_areBeside_6 : decode cX12_areBeside 6 = .ok (.iload_n 2, 1) := by decide +kernel
theorem dX12_areBeside_7 : decode cX12_areBeside 7 = .ok (.aload_n 0, 1) := by decide +kernel
theorem dX12_areBeside_8 : decode cX12_areBeside 8 = .ok (.getfield 272, 3) := by decide +kernel
theorem dX12_areBeside_11 : decode cX12_areBeside 11 = .ok (.irem, 1) := by decide +kernel
theorem dX12_areBeside_12 : decode cX12_areBeside 12 = .ok (.isub, 1) := by decide +kernel
theorem dX12_areBeside_13 : decode cX12_areBeside 13 = .ok (.iconst (-1), 1) := by decide +kernel
theorem dX12_areBeside_14 : decode cX12_areBeside 14 = .ok (.iconst 1, 1) := by decide +kernel
theorem dX12_areBeside_15 : decode cX12_areBeside 15 = .ok (.invokestatic 278, 3) := by decide +kernel
theorem dX12_areBeside_18 : decode cX12_areBeside 18 = .ok (.ifCond .eq 28, 3) := by decide +kernel
theorem dX12_areBeside_21 : decode cX12_areBeside 21 = .ok (.iload_n 1, 1) := by decide +kernel
theorem dX12_areBeside_22 : decode cX12_areBeside 22 = .ok (.aload_n 0, 1) := by decide +kernel
theorem dX12_areBeside_23 : decode cX12_areBeside 23 = .ok (.getfield 272, 3) := by decide +kernel
theorem dX12_areBeside_26 : decode cX12_areBeside 26 = .ok (.idiv, 1) := by decide +kernel
theorem dX12_areBeside_27 : decode cX12_areBeside 27 = .ok (.iload_n 2, 1) := by decide +kernel
theorem dX12_areBeside_28 : decode cX12_areBeside 28 = .ok (.aload_n 0, 1) := by decide +kernel
theorem dX12_areBeside_29 : decode cX12_areBeside 29 = .ok (.getfield 272, 3) := by decide +kernel
theorem dX12_areBeside_32 : decode cX12_areBeside 32 = .ok (.idiv, 1) := by decide +kernel
theorem dX12_areBeside_33 : decode cX12_areBeside 33 = .ok (.isub, 1) := by decide +kernel
theorem dX12_areBeside_34 : decode cX12_areBeside 34 = .ok (.iconst (-1), 1) := by decide +kernel
theorem dX12_areBeside_35 : decode cX12_areBeside 35 = .ok (.iconst 1, 1) := by decide +kernel
theorem dX12_areBeside_36 : decode cX12_areBeside 36 = .ok (.invokestatic 278, 3) := by decide +kernel
theorem dX12_areBeside_39 : decode cX12_areBeside 39 = .ok (.ifCond .eq 7, 3) := by decide +kernel
theorem dX12_areBeside_42 : decode cX12_areBeside 42 = .ok (.iconst 1, 1) := by decide +kernel
theorem dX12_areBeside_43 : decode cX12_areBeside 43 = .ok (.goto 4, 3) := by decide +kernel
theorem dX12_areBeside_46 : decode cX12_areBeside 46 = .ok (.iconst 0, 1) := by decide +kernel
theorem dX12_areBeside_47 : decode cX12_areBeside 47 = .ok (.ireturn, 1) := by decide +kernel
theorem dX12_way_0 : decode cX12_way 0 = .ok (.iload_n 1, 1) := by decide +kernel
theorem dX12_way_1 : decode cX12_way 1 = .ok (.ifCond .lt 18, 3) := by decide +kernel
theorem dX12_way_4 : decode cX12_way 4 = .ok (.iload_n 1, 1) := by decide +kernel
theorem dX12_way_5 : decode cX12_way 5 = .ok (.aload_n 0, 1) := by decide +kernel
theorem dX12_way_6 : decode cX12_way 6 = .ok (.getfield 288, 3) := by decide +kernel
theorem dX12_way_9 : decode cX12_way 9 = .ok (.if_icmp .ge 10, 3) := by decide +kernel
theorem dX12_way_12 : decode cX12_way 12 = .ok (.aload_n 0, 1) := by decide +kernel
theorem dX12_way_13 : decode cX12_way 13 = .ok (.invokevirtual 543, 3) := by decide +kernel
theorem dX12_way_16 : decode cX12_way 16 = .ok (.ifCond .ne 5, 3) := by decide +kernel
theorem dX12_way_19 : decode cX12_way 19 = .ok (.iconst (-1), 1) := by decide +kernel
theorem dX12_way_20 : decode cX12_way 20 = .ok (.ireturn, 1) := by decide +kernel
theorem dX12_way_21 : decode cX12_way 21 = .ok (.aload_n 0, 1) := by decide +kernel
theorem dX12_way_22 : decode cX12_way 22 = .ok (.getfield 226, 3) := by decide +kernel
theorem dX12_way_25 : decode cX12_way 25 = .ok (.aload_n 0, 1) := by decide +kernel
theorem dX12_way_26 : decode cX12_way 26 = .ok (.getfield 235, 3) := by decide +kernel
theorem dX12_way_29 : decode cX12_way 29 = .ok (.iload_n 1, 1) := by decide +kernel
theorem dX12_way_30 : decode cX12_way 30 = .ok (.iaload, 1) := by decide +kernel
theorem dX12_way_31 : decode cX12_way 31 = .ok (.iaload, 1) := by decide +kernel
theorem dX12_way_32 : decode cX12_way 32 = .ok (.istore_n 2, 1) := by decide +kernel
theorem dX12_way_33 : decode cX12_way 33 = .ok (.iconst 0, 1) := by decide +kernel
theorem dX12_way_34 : decode cX12_way 34 = .ok (.istore_n 3, 1) := by decide +kernel
theorem dX12_way_35 : decode cX12_way 35 = .ok (.iconst 0, 1) := by decide +kernel
theorem dX12_way_36 : decode cX12_way 36 = .ok (.istore 4, 2) := by decide +kernel
theorem dX12_way_38 : decode cX12_way 38 = .ok (.iload 4, 2) := by decide +kernel
theorem dX12_way_40 : decode cX12_way 40 = .ok (.bipush 8, 2) := by decide +kernel
theorem dX12_way_42 : decode cX12_way 42 = .ok (.if_icmp .ge 28, 3) := by decide +kernel
theorem dX12_way_45 : decode cX12_way 45 = .ok (.iload_n 3, 1) := by decide +kernel
theorem dX12_way_46 : decode cX12_way 46 = .ok (.aload_n 0, 1) := by decide +kernel
theorem dX12_way_47 : decode cX12_way 47 = .ok (.getfield 229, 3) := by decide +kernel
theorem dX12_way_50 : decode cX12_way 50 = .ok (.iload 4, 2) := by decide +kernel
theorem dX12_way_52 : decode cX12_way 52 = .ok (.iaload, 1) := by decide +kernel
theorem dX12_way_53 : decode cX12_way 53 = .ok (.iload_n 2, 1) := by decide +kernel
theorem dX12_way_54 : decode cX12_way 54 = .ok (.if_icmp .gt 7, 3) := by decide +kernel
theorem dX12_way_57 : decode cX12_way 57 = .ok (.iconst 1, 1) := by decide +kernel
theorem dX12_way_58 : decode cX12_way 58 = .ok (.goto 4, 3) := by decide +kernel
theorem dX12_way_61 : decode cX12_way 61 = .ok (.iconst 0, 1) := by decide +kernel
theorem dX12_way_62 : decode cX12_way 62 = .ok (.iadd, 1) := by decide +kernel
theorem dX12_way_63 : decode cX12_way 63 = .ok (.istore_n 3, 1) := by decide +kernel
theorem dX12_way_64 : decode cX12_way 64 = .ok (.iinc 4 1, 3) := by decide +kernel
theorem dX12_way_67 : decode cX12_way 67 = .ok (.goto (-29), 3) := by decide +kernel
theorem dX12_way_70 : decode cX12_way 70 = .ok (.iconst 0, 1) := by decide +kernel
theorem dX12_way_71 : decode cX12_way 71 = .ok (.istore 4, 2) := by decide +kernel
theorem dX12_way_73 : decode cX12_way 73 = .ok (.iload 4, 2) := by decide +kernel
theorem dX12_way_75 : decode cX12_way 75 = .ok (.aload_n 0, 1) := by decide +kernel
theorem dX12_way_76 : decode cX12_way 76 = .ok (.getfield 272, 3) := by decide +kernel
theorem dX12_way_79 : decode cX12_way 79 = .ok (.aload_n 0, 1) := by decide +kernel
theorem dX12_way_80 : decode cX12_way 80 = .ok (.getfield 275, 3) := by decide +kernel
theorem dX12_way_83 : decode cX12_way 83 = .ok (.imul, 1) := by decide +kernel
theorem dX12_way_84 : decode cX12_way 84 = .ok (.if_icmp .ge 32, 3) := by decide +kernel
theorem dX12_way_87 : decode cX12_way 87 = .ok (.aload_n 0, 1) := by decide +kernel
theorem dX12_way_88 : decode cX12_way 88 = .ok (.getfield 238, 3) := by decide +kernel
theorem dX12_way_91 : decode cX12_way 91 = .ok (.iload 4, 2) := by decide +kernel
theorem dX12_way_93 : decode cX12_way 93 = .ok (.iload 4, 2) := by decide +kernel
theorem dX12_way_95 : decode cX12_way 95 = .ok (.aload_n 0, 1) := by decide +kernel
theorem dX12_way_96 : decode cX12_way 96 = .ok (.getfield 232, 3) := by decide +kernel
theorem dX12_way_99 : decode cX12_way 99 = .ok (.iload_n 1, 1) := by decide +kernel
theorem dX12_way_100 : decode cX12_way 100 = .ok (.iaload, 1) := by decide +kernel
theorem dX12_way_101 : decode cX12_way 101 = .ok (.if_icmp .ne 7, 3) := by decide +kernel
theorem dX12_way_104 : decode cX12_way 104 = .ok (.iconst 0, 1) := by decide +kernel
theorem dX12_way_105 : decode cX12_way 105 = .ok (.goto 4, 3) := by decide +kernel
theorem dX12_way_108 : decode cX12_way 108 = .ok (.iconst (-1), 1) := by decide +kernel
theorem dX12_way_109 : decode cX12_way 109 = .ok (.iastore, 1) := by decide +kernel
theorem dX12_way_110 : decode cX12_way 110 = .ok (.iinc 4 1, 3) := by decide +kernel
theorem dX12_way_113 : decode cX12_way 113 = .ok (.goto (-40), 3) := by decide +kernel
theorem dX12_way_116 : decode cX12_way 116 = .ok (.aload_n 0, 1) := by decide +kernel
theorem dX12_way_117 : decode cX12_way 117 = .ok (.aload_n 0, 1) := by decide +kernel
theorem dX12_way_118 : decode cX12_way 118 = .ok (.getfield 232, 3) := by decide +kernel
theorem dX12_way_121 : decode cX12_way 121 = .ok (.iload_n 1, 1) := by decide +kernel
theorem dX12_way_122 : decode cX12_way 122 = .ok (.iaload, 1) := by decide +kernel
theorem dX12_way_123 : decode cX12_way 123 = .ok (.invokevirtual 546, 3) := by decide +kernel
theorem dX12_way_126 : decode cX12_way 126 = .ok (.ifCond .eq 5, 3) := by decide +kernel
theorem dX12_way_129 : decode cX12_way 129 = .ok (.iconst 0, 1) := by decide +kernel
theorem dX12_way_130 : decode cX12_way 130 = .ok (.ireturn, 1) := by decide +kernel
theorem dX12_way_131 : decode cX12_way 131 = .ok (.iconst 1, 1) := by decide +kernel
theorem dX12_way_132 : decode cX12_way 132 = .ok (.istore 4, 2) := by decide +kernel
theorem dX12_way_134 : decode cX12_way 134 = .ok (.iload 4, 2) := by decide +kernel
theorem dX12_way_136 : decode cX12_way 136 = .ok (.aload_n 0, 1) := by decide +kernel
theorem dX12_way_137 : decode cX12_way 137 = .ok (.getfield 272, 3) := by decide +kernel
theorem dX12_way_140 : decode cX12_way 140 = .ok (.aload_n 0, 1) := by decide +kernel
theorem dX12_way_141 : decode cX12_way 141 = .ok (.getfield 275, 3) := by decide +kernel
theorem dX12_way_144 : decode cX12_way 144 = .ok (.imul, 1) := by decide +kernel
theorem dX12_way_145 : decode cX12_way 145 = .ok (.if_icmp .ge 149, 3) := by decide +kernel
theorem dX12_way_148 : decode cX12_way 148 = .ok (.iconst 0, 1) := by decide +kernel
theorem dX12_way_149 : decode cX12_way 149 = .ok (.istore 5, 2) := by decide +kernel
theorem dX12_way_151 : decode cX12_way 151 = .ok (.iload 5, 2) := by decide +kernel
theorem dX12_way_153 : decode cX12_way 153 = .ok (.aload_n 0, 1) := by decide +kernel
theorem dX12_way_154 : decode cX12_way 154 = .ok (.getfield 272, 3) := by decide +kernel
theorem dX12_way_157 : decode cX12_way 157 = .ok (.aload_n 0, 1) := by decide +kernel
theorem dX12_way_158 : decode cX12_way 158 = .ok (.getfield 275, 3) := by decide +kernel
theorem dX12_way_161 : decode cX12_way 161 = .ok (.imul, 1) := by decide +kernel
theorem dX12_way_162 : decode cX12_way 162 = .ok (.if_icmp .ge 126, 3) := by decide +kernel
theorem dX12_way_165 : decode cX12_way 165 = .ok (.aload_n 0, 1) := by decide +kernel
theorem dX12_way_166 : decode cX12_way 166 = .ok (.getfield 238, 3) := by decide +kernel
theorem dX12_way_169 : decode cX12_way 169 = .ok (.iload 5, 2) := by decide +kernel
theorem dX12_way_171 : decode cX12_way 171 = .ok (.iaload, 1) := by decide +kernel
theorem dX12_way_172 : decode cX12_way 172 = .ok (.iconst (-1), 1) := by decide +kernel
theorem dX12_way_173 : decode cX12_way 173 = .ok (.if_icmp .ne 109, 3) := by decide +kernel
theorem dX12_way_176 : decode cX12_way 176 = .ok (.iload_n 3, 1) := by decide +kernel
theorem dX12_way_177 : decode cX12_way 177 = .ok (.aload_n 0, 1) := by decide +kernel
theorem dX12_way_178 : decode cX12_way 178 = .ok (.getfield 7, 3) := by decide +kernel
theorem dX12_way_181 : decode cX12_way 181 = .ok (.iload 5, 2) := by decide +kernel
theorem dX12_way_183 : decode cX12_way 183 = .ok (.iaload, 1) := by decide +kernel
theorem dX12_way_184 : decode cX12_way 184 = .ok (.if_icmp .lt 6, 3) := by decide +kernel
theorem dX12_way_187 : decode cX12_way 187 = .ok (.goto 95, 3) := by decide +kernel
theorem dX12_way_190 : decode cX12_way 190 = .ok (.iconst 0, 1) := by decide +kernel
theorem dX12_way_191 : decode cX12_way 191 = .ok (.istore 6, 2) := by decide +kernel
theorem dX12_way_193 : decode cX12_way 193 = .ok (.iload 6, 2) := by decide +kernel
theorem dX12_way_195 : decode cX12_way 195 = .ok (.aload_n 0, 1) := by decide +kernel
theorem dX12_way_196 : decode cX12_way 196 = .ok (.getfield 272, 3) := by decide +kernel
theorem dX12_way_199 : decode cX12_way 199 = .ok (.aload_n 0, 1) := by decide +kernel
theorem dX12_way_200 : decode cX12_way 200 = .ok (.getfield 275, 3) := by decide +kernel
theorem dX12_way_203 : decode cX12_way 203 = .ok (.imul, 1) := by decide +kernel
theorem dX12_way_204 : decode cX12_way 204 = .ok (.if_icmp .ge 54, 3) := by decide +kernel
theorem dX12_way_207 : decode cX12_way 207 = .ok (.aload_n 0, 1) := by decide +kernel
theorem dX12_way_208 : decode cX12_way 208 = .ok (.getfield 238, 3) := by decide +kernel
theorem dX12_way_211 : decode cX12_way 211 = .ok (.iload 5, 2) := by decide +kernel
theorem dX12_way_213 : decode cX12_way 213 = .ok (.iaload, 1) := by decide +kernel
theorem dX12_way_214 : decode cX12_way 214 = .ok (.iconst (-1), 1) := by decide +kernel
theorem dX12_way_215 : decode cX12_way 215 = .ok (.if_icmp .ne 43, 3) := by decide +kernel
theorem dX12_way_218 : decode cX12_way 218 = .ok (.aload_n 0, 1) := by decide +kernel
theorem dX12_way_219 : decode cX12_way 219 = .ok (.getfield 238, 3) := by decide +kernel
theorem dX12_way_222 : decode cX12_way 222 = .ok (.iload 6, 2) := by decide +kernel
theorem dX12_way_224 : decode cX12_way 224 = .ok (.iaload, 1) := by decide +kernel
theorem dX12_way_225 : decode cX12_way 225 = .ok (.iload 4, 2) := by decide +kernel
theorem dX12_way_227 : decode cX12_way 227 = .ok (.iconst 1, 1) := by decide +kernel
theorem dX12_way_228 : decode cX12_way 228 = .ok (.isub, 1) := by decide +kernel
theorem dX12_way_229 : decode cX12_way 229 = .ok (.if_icmp .ne 23, 3) := by decide +kernel
theorem dX12_way_232 : decode cX12_way 232 = .ok (.aload_n 0, 1) := by decide +kernel
theorem dX12_way_233 : decode cX12_way 233 = .ok (.iload 6, 2) := by decide +kernel
theorem dX12_way_235 : decode cX12_way 235 = .ok (.iload 5, 2) := by decide +kernel
theorem dX12_way_237 : decode cX12_way 237 = .ok (.invokevirtual 549, 3) := by decide +kernel
theorem dX12_way_240 : decode cX12_way 240 = .ok (.ifCond .eq 12, 3) := by decide +kernel
theorem dX12_way_243 : decode cX12_way 243 = .ok (.aload_n 0, 1) := by decide +kernel
theorem dX12_way_244 : decode cX12_way 244 = .ok (.getfield 238, 3) := by decide +kernel
theorem dX12_way_247 : decode cX12_way 247 = .ok (.iload 5, 2) := by decide +kernel
theorem dX12_way_249 : decode cX12_way 249 = .ok (.iload 4, 2) := by decide +kernel
theorem dX12_way_251 : decode cX12_way 251 = .ok (.iastore, 1) := by decide +kernel
theorem dX12_way_252 : decode cX12_way 252 = .ok (.iinc 6 1, 3) := by decide +kernel
theorem dX12_way_255 : decode cX12_way 255 = .ok (.goto (-62), 3) := by decide +kernel
theorem dX12_way_258 : decode cX12_way 258 = .ok (.aload_n 0, 1) := by decide +kernel
theorem dX12_way_259 : decode cX12_way 259 = .ok (.getfield 238, 3) := by decide +kernel
theorem dX12_way_262 : decode cX12_way 262 = .ok (.iload 5, 2) := by decide +kernel
theorem dX12_way_264 : decode cX12_way 264 = .ok (.iaload, 1) := by decide +kernel
theorem dX12_way_265 : decode cX12_way 265 = .ok (.iload 4, 2) := by decide +kernel
theorem dX12_way_267 : decode cX12_way 267 = .ok (.if_icmp .ne 15, 3) := by decide +kernel
theorem dX12_way_270 : decode cX12_way 270 = .ok (.aload_n 0, 1) := by decide +kernel
theorem dX12_way_271 : decode cX12_way 271 = .ok (.iload 5, 2) := by decide +kernel
theorem dX12_way_273 : decode cX12_way 273 = .ok (.invokevirtual 546, 3) := by decide +kernel
theorem dX12_way_276 : decode cX12_way 276 = .ok (.ifCond .eq 6, 3) := by decide +kernel
theorem dX12_way_279 : decode cX12_way 279 = .ok (.iload 4, 2) := by decide +kernel
theorem dX12_way_281 : decode cX12_way 281 = .ok (.ireturn, 1) := by decide +kernel
theorem dX12_way_282 : decode cX12_way 282 = .ok (.iinc 5 1, 3) := by decide +kernel
theorem dX12_way_285 : decode cX12_way 285 = .ok (.goto (-134), 3) := by decide +kernel
theorem dX12_way_288 : decode cX12_way 288 = .ok (.iinc 4 1, 3) := by decide +kernel
theorem dX12_way_291 : decode cX12_way 291 = .ok (.goto (-157), 3) := by decide +kernel
theorem dX12_way_294 : decode cX12_way 294 = .ok (.bipush (-2), 2) := by decide +kernel
theorem dX12_way_296 : decode cX12_way 296 = .ok (.ireturn, 1) := by decide +kernel
theorem dX12_sign_0 : decode cX12_sign 0 = .ok (.iload_n 1, 1) := by decide +kernel
theorem dX12_sign_1 : decode cX12_sign 1 = .ok (.iconst 0, 1) := by decide +kernel
theorem dX12_sign_2 : decode cX12_sign 2 = .ok (.bipush 29, 2) := by decide +kernel
theorem dX12_sign_4 : decode cX12_sign 4 = .ok (.invokestatic 278, 3) := by decide +kernel
theorem dX12_sign_7 : decode cX12_sign 7 = .ok (.ifCond .eq 43, 3) := by decide +kernel
theorem dX12_sign_10 : decode cX12_sign 10 = .ok (.iload_n 2, 1) := by decide +kernel
theorem dX12_sign_11 : decode cX12_sign 11 = .ok (.iconst 0, 1) := by decide +kernel
theorem dX12_sign_12 : decode cX12_sign 12 = .ok (.bipush 7, 2) := by decide +kernel
theorem dX12_sign_14 : decode cX12_sign 14 = .ok (.invokestatic 278, 3) := by decide +kernel
theorem dX12_sign_17 : decode cX12_sign 17 = .ok (.ifCond .eq 33, 3) := by decide +kernel
theorem dX12_sign_20 : decode cX12_sign 20 = .ok (.aload_n 0, 1) := by decide +kernel
theorem dX12_sign_21 : decode cX12_sign 21 = .ok (.iload_n 3, 1) := by decide +kernel
theorem dX12_sign_22 : decode cX12_sign 22 = .ok (.invokevirtual 331, 3) := by decide +kernel
theorem dX12_sign_25 : decode cX12_sign 25 = .ok (.ifCond .eq 25, 3) := by decide +kernel
theorem dX12_sign_28 : decode cX12_sign 28 = .ok (.iload 4, 2) := by decide +kernel
theorem dX12_sign_30 : decode cX12_sign 30 = .ok (.iconst 0, 1) := by decide +kernel
theorem dX12_sign_31 : decode cX12_sign 31 = .ok (.aload_n 0, 1) := by decide +kernel
theorem dX12_sign_32 : decode cX12_sign 32 = .ok (.getfield 291, 3) := by decide +kernel
theorem dX12_sign_35 : decode cX12_sign 35 = .ok (.invokestatic 278, 3) := by decide +kernel
theorem dX12_sign_38 : decode cX12_sign 38 = .ok (.ifCond .eq 12, 3) := by decide +kernel
theorem dX12_sign_41 : decode cX12_sign 41 = .ok (.aload_n 0, 1) := by decide +kernel
theorem dX12_sign_42 : decode cX12_sign 42 = .ok (.getfield 552, 3) := by decide +kernel
theorem dX12_sign_45 : decode cX12_sign 45 = .ok (.bipush 100, 2) := by decide +kernel
theorem dX12_sign_47 : decode cX12_sign 47 = .ok (.if_icmp .ne 5, 3) := by decide +kernel
theorem dX12_sign_50 : decode cX12_sign 50 = .ok (.iconst 0, 1) := by decide +kernel
theorem dX12_sign_51 : decode cX12_sign 51 = .ok (.ireturn, 1) := by decide +kernel
theorem dX12_sign_52 : decode cX12_sign 52 = .ok (.aload_n 0, 1) := by decide +kernel
theorem dX12_sign_53 : decode cX12_sign 53 = .ok (.getfield 241, 3) := by decide +kernel
theorem dX12_sign_56 : decode cX12_sign 56 = .ok (.aload_n 0, 1) := by decide +kernel
theorem dX12_sign_57 : decode cX12_sign 57 = .ok (.getfield 552, 3) := by decide +kernel
theorem dX12_sign_60 : decode cX12_sign 60 = .ok (.iload_n 1, 1) := by decide +kernel
theorem dX12_sign_61 : decode cX12_sign 61 = .ok (.iastore, 1) := by decide +kernel
theorem dX12_sign_62 : decode cX12_sign 62 = .ok (.aload_n 0, 1) := by decide +kernel
theorem dX12_sign_63 : decode cX12_sign 63 = .ok (.getfield 244, 3) := by decide +kernel
theorem dX12_sign_66 : decode cX12_sign 66 = .ok (.aload_n 0, 1) := by decide +kernel
theorem dX12_sign_67 : decode cX12_sign 67 = .ok (.getfield 552, 3) := by decide +kernel
theorem dX12_sign_70 : decode cX12_sign 70 = .ok (.iload_n 2, 1) := by decide +kernel
theorem dX12_sign_71 : decode cX12_sign 71 = .ok (.iastore, 1) := by decide +kernel
theorem dX12_sign_72 : decode cX12_sign 72 = .ok (.aload_n 0, 1) := by decide +kernel
theorem dX12_sign_73 : decode cX12_sign 73 = .ok (.getfield 247, 3) := by decide +kernel
theorem dX12_sign_76 : decode cX12_sign 76 = .ok (.aload_n 0, 1) := by decide +kernel
theorem dX12_sign_77 : decode cX12_sign 77 = .ok (.getfield 552, 3) := by decide +kernel
theorem dX12_sign_80 : decode cX12_sign 80 = .ok (.iload_n 3, 1) := by decide +kernel
theorem dX12_sign_81 : decode cX12_sign 81 = .ok (.iastore, 1) := by decide +kernel
theorem dX12_sign_82 : decode cX12_sign 82 = .ok (.aload_n 0, 1) := by decide +kernel
theorem dX12_sign_83 : decode cX12_sign 83 = .ok (.getfield 250, 3) := by decide +kernel
theorem dX12_sign_86 : decode cX12_sign 86 = .ok (.aload_n 0, 1) := by decide +kernel
theorem dX12_sign_87 : decode cX12_sign 87 = .ok (.getfield 552, 3) := by decide +kernel
theorem dX12_sign_90 : decode cX12_sign 90 = .ok (.iload 4, 2) := by decide +kernel
theorem dX12_sign_92 : decode cX12_sign 92 = .ok (.iastore, 1) := by decide +kernel
theorem dX12_sign_93 : decode cX12_sign 93 = .ok (.aload_n 0, 1) := by decide +kernel
theorem dX12_sign_94 : decode cX12_sign 94 = .ok (.aload_n 0, 1) := by decide +kernel
theorem dX12_sign_95 : decode cX12_sign 95 = .ok (.getfield 552, 3) := by decide +kernel
theorem dX12_sign_98 : decode cX12_sign 98 = .ok (.iconst 1, 1) := by decide +kernel
theorem dX12_sign_99 : decode cX12_sign 99 = .ok (.iadd, 1) := by decide +kernel
theorem dX12_sign_100 : decode cX12_sign 100 = .ok (.putfield 552, 3) := by decide +kernel
theorem dX12_sign_103 : decode cX12_sign 103 = .ok (.iconst 1, 1) := by decide +kernel
theorem dX12_sign_104 : decode cX12_sign 104 = .ok (.ireturn, 1) := by decide +kernel
theorem dX12_who_0 : decode cX12_who 0 = .ok (.aload_n 0, 1) := by decide +kernel
theorem dX12_who_1 : decode cX12_who 1 = .ok (.iload_n 1, 1) := by decide +kernel
theorem dX12_who_2 : decode cX12_who 2 = .ok (.invokevirtual 331, 3) := by decide +kernel
theorem dX12_who_5 : decode cX12_who 5 = .ok (.ifCond .eq 12, 3) := by decide +kernel
theorem dX12_who_8 : decode cX12_who 8 = .ok (.iload_n 2, 1) := by decide +kernel
theorem dX12_who_9 : decode cX12_who 9 = .ok (.iconst 0, 1) := by decide +kernel
theorem dX12_who_10 : decode cX12_who 10 = .ok (.iconst 2, 1) := by decide +kernel
theorem dX12_who_11 : decode cX12_who 11 = .ok (.invokestatic 278, 3) := by decide +kernel
theorem dX12_who_14 : decode cX12_who 14 = .ok (.ifCond .ne 5, 3) := by decide +kernel
theorem dX12_who_17 : decode cX12_who 17 = .ok (.iconst (-1), 1) := by decide +kernel
theorem dX12_who_18 : decode cX12_who 18 = .ok (.ireturn, 1) := by decide +kernel
theorem dX12_who_19 : decode cX12_who 19 = .ok (.iconst 0, 1) := by decide +kernel
theorem dX12_who_20 : decode cX12_who 20 = .ok (.istore_n 3, 1) := by decide +kernel
theorem dX12_who_21 : decode cX12_who 21 = .ok (.iload_n 3, 1) := by decide +kernel
theorem dX12_who_22 : decode cX12_who 22 = .ok (.bipush 30, 2) := by decide +kernel
theorem dX12_who_24 : decode cX12_who 24 = .ok (.if_icmp .ge 23, 3) := by decide +kernel
theorem dX12_who_27 : decode cX12_who 27 = .ok (.aload_n 0, 1) := by decide +kernel
theorem dX12_who_28 : decode cX12_who 28 = .ok (.getfield 262, 3) := by decide +kernel
theorem dX12_who_31 : decode cX12_who 31 = .ok (.iload_n 3, 1) := by decide +kernel
theorem dX12_who_32 : decode cX12_who 32 = .ok (.iconst 0, 1) := by decide +kernel
theorem dX12_who_33 : decode cX12_who 33 = .ok (.iastore, 1) := by decide +kernel
theorem dX12_who_34 : decode cX12_who 34 = .ok (.aload_n 0, 1) := by decide +kernel
theorem dX12_who_35 : decode cX12_who 35 = .ok (.getfield 265, 3) := by decide +kernel
theorem dX12_who_38 : decode cX12_who 38 = .ok (.iload_n 3, 1) := by decide +kernel
theorem dX12_who_39 : decode cX12_who 39 = .ok (.iconst 0, 1) := by decide +kernel
theorem dX12_who_40 : decode cX12_who 40 = .ok (.iastore, 1) := by decide +kernel
theorem dX12_who_41 : decode cX12_who 41 = .ok (.iinc 3 1, 3) := by decide +kernel
theorem dX12_who_44 : decode cX12_who 44 = .ok (.goto (-23), 3) := by decide +kernel
theorem dX12_who_47 : decode cX12_who 47 = .ok (.iconst 0, 1) := by decide +kernel
theorem dX12_who_48 : decode cX12_who 48 = .ok (.istore_n 3, 1) := by decide +kernel
theorem dX12_who_49 : decode cX12_who 49 = .ok (.iload_n 3, 1) := by decide +kernel
theorem dX12_who_50 : decode cX12_who 50 = .ok (.aload_n 0, 1) := by decide +kernel
theorem dX12_who_51 : decode cX12_who 51 = .ok (.getfield 552, 3) := by decide +kernel
theorem dX12_who_54 : decode cX12_who 54 = .ok (.if_icmp .ge 95, 3) := by decide +kernel
theorem dX12_who_57 : decode cX12_who 57 = .ok (.aload_n 0, 1) := by decide +kernel
theorem dX12_who_58 : decode cX12_who 58 = .ok (.getfield 247, 3) := by decide +kernel
theorem dX12_who_61 : decode cX12_who 61 = .ok (.iload_n 3, 1) := by decide +kernel
theorem dX12_who_62 : decode cX12_who 62 = .ok (.iaload, 1) := by decide +kernel
theorem dX12_who_63 : decode cX12_who 63 = .ok (.iload_n 1, 1) := by decide +kernel
theorem dX12_who_64 : decode cX12_who 64 = .ok (.if_icmp .eq 6, 3) := by decide +kernel
theorem dX12_who_67 : decode cX12_who 67 = .ok (.goto 76, 3) := by decide +kernel
theorem dX12_who_70 : decode cX12_who 70 = .ok (.aload_n 0, 1) := by decide +kernel
theorem dX12_who_71 : decode cX12_who 71 = .ok (.aload_n 0, 1) := by decide +kernel
theorem dX12_who_72 : decode cX12_who 72 = .ok (.getfield 250, 3) := by decide +kernel
theorem dX12_who_75 : decode cX12_who 75 = .ok (.iload_n 3, 1) := by decide +kernel
theorem dX12_who_76 : decode cX12_who 76 = .ok (.iaload, 1) := by decide +kernel
theorem dX12_who_77 : decode cX12_who 77 = .ok (.iconst 0, 1) := by decide +kernel
theorem dX12_who_78 : decode cX12_who 78 = .ok (.aload_n 0, 1) := by decide +kernel
theorem dX12_who_79 : decode cX12_who 79 = .ok (.getfield 244, 3) := by decide +kernel
theorem dX12_who_82 : decode cX12_who 82 = .ok (.iload_n 3, 1) := by decide +kernel
theorem dX12_who_83 : decode cX12_who 83 = .ok (.iaload, 1) := by decide +kernel
theorem dX12_who_84 : decode cX12_who 84 = .ok (.iconst 0, 1) := by decide +kernel
theorem dX12_who_85 : decode cX12_who 85 = .ok (.iload_n 1, 1) := by decide +kernel
theorem dX12_who_86 : decode cX12_who 86 = .ok (.invokevirtual 459, 3) := by decide +kernel
theorem dX12_who_89 : decode cX12_who 89 = .ok (.aload_n 0, 1) := by decide +kernel
theorem dX12_who_90 : decode cX12_who 90 = .ok (.getfield 262, 3) := by decide +kernel
theorem dX12_who_93 : decode cX12_who 93 = .ok (.aload_n 0, 1) := by decide +kernel
theorem dX12_who_94 : decode cX12_who 94 = .ok (.getfield 241, 3) := by decide +kernel
theorem dX12_who_97 : decode cX12_who 97 = .ok (.iload_n 3, 1) := by decide +kernel
theorem dX12_who_98 : decode cX12_who 98 = .ok (.iaload, 1) := by decide +kernel
theorem dX12_who_99 : decode cX12_who 99 = .ok (.aload_n 0, 1) := by decide +kernel
theorem dX12_who_100 : decode cX12_who 100 = .ok (.getfield 262, 3) := by decide +kernel
theorem dX12_who_103 : decode cX12_who 103 = .ok (.aload_n 0, 1) := by decide +kernel
theorem dX12_who_104 : decode cX12_who 104 = .ok (.getfield 241, 3) := by decide +kernel
theorem dX12_who_107 : decode cX12_who 107 = .ok (.iload_n 3, 1) := by decide +kernel
theorem dX12_who_108 : decode cX12_who 108 = .ok (.iaload, 1) := by decide +kernel
theorem dX12_who_109 : decode cX12_who 109 = .ok (.iaload, 1) := by decide +kernel
theorem dX12_who_110 : decode cX12_who 110 = .ok (.iconst 1, 1) := by decide +kernel
theorem dX12_who_111 : decode cX12_who 111 = .ok (.iadd, 1) := by decide +kernel
theorem dX12_who_112 : decode cX12_who 112 = .ok (.iastore, 1) := by decide +kernel
theorem dX12_who_113 : decode cX12_who 113 = .ok (.aload_n 0, 1) := by decide +kernel
theorem dX12_who_114 : decode cX12_who 114 = .ok (.getfield 265, 3) := by decide +kernel
theorem dX12_who_117 : decode cX12_who 117 = .ok (.aload_n 0, 1) := by decide +kernel
theorem dX12_who_118 : decode cX12_who 118 = .ok (.getfield 241, 3) := by decide +kernel
theorem dX12_who_121 : decode cX12_who 121 = .ok (.iload_n 3, 1) := by decide +kernel
theorem dX12_who_122 : decode cX12_who 122 = .ok (.iaload, 1) := by decide +kernel
theorem dX12_who_123 : decode cX12_who 123 = .ok (.aload_n 0, 1) := by decide +kernel
theorem dX12_who_124 : decode cX12_who 124 = .ok (.getfield 265, 3) := by decide +kernel
theorem dX12_who_127 : decode cX12_who 127 = .ok (.aload_n 0, 1) := by decide +kernel
theorem dX12_who_128 : decode cX12_who 128 = .ok (.getfield 241, 3) := by decide +kernel
theorem dX12_who_131 : decode cX12_who 131 = .ok (.iload_n 3, 1) := by decide +kernel
theorem dX12_who_132 : decode cX12_who 132 = .ok (.iaload, 1) := by decide +kernel
theorem dX12_who_133 : decode cX12_who 133 = .ok (.iaload, 1) := by decide +kernel
theorem dX12_who_134 : decode cX12_who 134 = .ok (.aload_n 0, 1) := by decide +kernel
theorem dX12_who_135 : decode cX12_who 135 = .ok (.bipush 118, 2) := by decide +kernel
theorem dX12_who_137 : decode cX12_who 137 = .ok (.iconst 0, 1) := by decide +kernel
theorem dX12_who_138 : decode cX12_who 138 = .ok (.invokevirtual 463, 3) := by decide +kernel
theorem dX12_who_141 : decode cX12_who 141 = .ok (.iadd, 1) := by decide +kernel
theorem dX12_who_142 : decode cX12_who 142 = .ok (.iastore, 1) := by decide +kernel
theorem dX12_who_143 : decode cX12_who 143 = .ok (.iinc 3 1, 3) := by decide +kernel
theorem dX12_who_146 : decode cX12_who 146 = .ok (.goto (-97), 3) := by decide +kernel
theorem dX12_who_149 : decode cX12_who 149 = .ok (.iconst (-1), 1) := by decide +kernel
theorem dX12_who_150 : decode cX12_who 150 = .ok (.istore_n 3, 1) := by decide +kernel
theorem dX12_who_151 : decode cX12_who 151 = .ok (.iconst 0, 1) := by decide +kernel
theorem dX12_who_152 : decode cX12_who 152 = .ok (.istore 4, 2) := by decide +kernel
theorem dX12_who_154 : decode cX12_who 154 = .ok (.iconst 0, 1) := by decide +kernel
theorem dX12_who_155 : decode cX12_who 155 = .ok (.istore 5, 2) := by decide +kernel
theorem dX12_who_157 : decode cX12_who 157 = .ok (.iload 5, 2) := by decide +kernel
theorem dX12_who_159 : decode cX12_who 159 = .ok (.bipush 30, 2) := by decide +kernel
theorem dX12_who_161 : decode cX12_who 161 = .ok (.if_icmp .ge 47, 3) := by decide +kernel
theorem dX12_who_164 : decode cX12_who 164 = .ok (.aload_n 0, 1) := by decide +kernel
theorem dX12_who_165 : decode cX12_who 165 = .ok (.getfield 262, 3) := by decide +kernel
theorem dX12_who_168 : decode cX12_who 168 = .ok (.iload 5, 2) := by decide +kernel
theorem dX12_who_170 : decode cX12_who 170 = .ok (.iaload, 1) := by decide +kernel
theorem dX12_who_171 : decode cX12_who 171 = .ok (.iconst 2, 1) := by decide +kernel
theorem dX12_who_172 : decode cX12_who 172 = .ok (.if_icmp .lt 30, 3) := by decide +kernel
theorem dX12_who_175 : decode cX12_who 175 = .ok (.aload_n 0, 1) := by decide +kernel
theorem dX12_who_176 : decode cX12_who 176 = .ok (.getfield 265, 3) := by decide +kernel
theorem dX12_who_179 : decode cX12_who 179 = .ok (.iload 5, 2) := by decide +kernel
theorem dX12_who_181 : decode cX12_who 181 = .ok (.iaload, 1) := by decide +kernel
theorem dX12_who_182 : decode cX12_who 182 = .ok (.iload 4, 2) := by decide +kernel
theorem dX12_who_184 : decode cX12_who 184 = .ok (.if_icmp .gt 6, 3) := by decide +kernel
theorem dX12_who_187 : decode cX12_who 187 = .ok (.goto 15, 3) := by decide +kernel
theorem dX12_who_190 : decode cX12_who 190 = .ok (.iload 5, 2) := by decide +kernel
theorem dX12_who_192 : decode cX12_who 192 = .ok (.istore_n 3, 1) := by decide +kernel
theorem dX12_who_193 : decode cX12_who 193 = .ok (.aload_n 0, 1) := by decide +kernel
theorem dX12_who_194 : decode cX12_who 194 = .ok (.getfield 265, 3) := by decide +kernel
theorem dX12_who_197 : decode cX12_who 197 = .ok (.iload 5, 2) := by decide +kernel
theorem dX12_who_199 : decode cX12_who 199 = .ok (.iaload, 1) := by decide +kernel
theorem dX12_who_200 : decode cX12_who 200 = .ok (.istore 4, 2) := by decide +kernel
theorem dX12_who_202 : decode cX12_who 202 = .ok (.iinc 5 1, 3) := by decide +kernel
theorem dX12_who_205 : decode cX12_who 205 = .ok (.goto (-48), 3) := by decide +kernel
theorem dX12_who_208 : decode cX12_who 208 = .ok (.iload_n 3, 1) := by decide +kernel
theorem dX12_who_209 : decode cX12_who 209 = .ok (.iconst (-1), 1) := by decide +kernel
theorem dX12_who_210 : decode cX12_who 210 = .ok (.if_icmp .eq 7, 3) := by decide +kernel
theorem dX12_who_213 : decode cX12_who 213 = .ok (.iload_n 2, 1) := by decide +kernel
theorem dX12_who_214 : decode cX12_who 214 = .ok (.ifCond .ne 5, 3) := by decide +kernel
theorem dX12_who_217 : decode cX12_who 217 = .ok (.iload_n 3, 1) := by decide +kernel
theorem dX12_who_218 : decode cX12_who 218 = .ok (.ireturn, 1) := by decide +kernel
theorem dX12_who_219 : decode cX12_who 219 = .ok (.iload_n 2, 1) := by decide +kernel
theorem dX12_who_220 : decode cX12_who 220 = .ok (.iconst 1, 1) := by decide +kernel
theorem dX12_who_221 : decode cX12_who 221 = .ok (.if_icmp .ne 6, 3) := by decide +kernel
theorem dX12_who_224 : decode cX12_who 224 = .ok (.iload 4, 2) := by decide +kernel
theorem dX12_who_226 : decode cX12_who 226 = .ok (.ireturn, 1) := by decide +kernel
theorem dX12_who_227 : decode cX12_who 227 = .ok (.iconst 0, 1) := by decide +kernel
theorem dX12_who_228 : decode cX12_who 228 = .ok (.istore 5, 2) := by decide +kernel
theorem dX12_who_230 : decode cX12_who 230 = .ok (.iconst 0, 1) := by decide +kernel
theorem dX12_who_231 : decode cX12_who 231 = .ok (.istore 6, 2) := by decide +kernel
theorem dX12_who_233 : decode cX12_who 233 = .ok (.iload 6, 2) := by decide +kernel
theorem dX12_who_235 : decode cX12_who 235 = .ok (.bipush 30, 2) := by decide +kernel
theorem dX12_who_237 : decode cX12_who 237 = .ok (.if_icmp .ge 44, 3) := by decide +kernel
theorem dX12_who_240 : decode cX12_who 240 = .ok (.iload 5, 2) := by decide +kernel
theorem dX12_who_242 : decode cX12_who 242 = .ok (.aload_n 0, 1) := by decide +kernel
theorem dX12_who_243 : decode cX12_who 243 = .ok (.getfield 262, 3) := by decide +kernel
theorem dX12_who_246 : decode cX12_who 246 = .ok (.iload 6, 2) := by decide +kernel
theorem dX12_who_248 : decode cX12_who 248 = .ok (.iaload, 1) := by decide +kernel
theorem dX12_who_249 : decode cX12_who 249 = .ok (.iconst 2, 1) := by decide +kernel
theorem dX12_who_250 : decode cX12_who 250 = .ok (.if_icmp .lt 21, 3) := by decide +kernel
theorem dX12_who_253 : decode cX12_who 253 = .ok (.iconst 2, 1) := by decide +kernel
theorem dX12_who_254 : decode cX12_who 254 = .ok (.aload_n 0, 1) := by decide +kernel
theorem dX12_who_255 : decode cX12_who 255 = .ok (.getfield 265, 3) := by decide +kernel
theorem dX12_who_258 : decode cX12_who 258 = .ok (.iload 6, 2) := by decide +kernel
theorem dX12_who_260 : decode cX12_who 260 = .ok (.iaload, 1) := by decide +kernel
theorem dX12_who_261 : decode cX12_who 261 = .ok (.imul, 1) := by decide +kernel
theorem dX12_who_262 : decode cX12_who 262 = .ok (.iload 4, 2) := by decide +kernel
theorem dX12_who_264 : decode cX12_who 264 = .ok (.if_icmp .lt 7, 3) := by decide +kernel
theorem dX12_who_267 : decode cX12_who 267 = .ok (.iconst 1, 1) := by decide +kernel
theorem dX12_who_268 : decode cX12_who 268 = .ok (.goto 4, 3) := by decide +kernel
theorem dX12_who_271 : decode cX12_who 271 = .ok (.iconst 0, 1) := by decide +kernel
theorem dX12_who_272 : decode cX12_who 272 = .ok (.iadd, 1) := by decide +kernel
theorem dX12_who_273 : decode cX12_who 273 = .ok (.istore 5, 2) := by decide +kernel
theorem dX12_who_275 : decode cX12_who 275 = .ok (.iinc 6 1, 3) := by decide +kernel
theorem dX12_who_278 : decode cX12_who 278 = .ok (.goto (-45), 3) := by decide +kernel
theorem dX12_who_281 : decode cX12_who 281 = .ok (.iload 5, 2) := by decide +kernel
theorem dX12_who_283 : decode cX12_who 283 = .ok (.ireturn, 1) := by decide +kernel
theorem dX12_work_0 : decode cX12_work 0 = .ok (.aload_n 0, 1) := by decide +kernel
theorem dX12_work_1 : decode cX12_work 1 = .ok (.iload_n 1, 1) := by decide +kernel
theorem dX12_work_2 : decode cX12_work 2 = .ok (.invokevirtual 527, 3) := by decide +kernel
theorem dX12_work_5 : decode cX12_work 5 = .ok (.ifCond .eq 33, 3) := by decide +kernel
theorem dX12_work_8 : decode cX12_work 8 = .ok (.iload_n 2, 1) := by decide +kernel
theorem dX12_work_9 : decode cX12_work 9 = .ok (.iconst 1, 1) := by decide +kernel
theorem dX12_work_10 : decode cX12_work 10 = .ok (.sipush 10000, 3) := by decide +kernel
theorem dX12_work_13 : decode cX12_work 13 = .ok (.invokestatic 278, 3) := by decide +kernel
theorem dX12_work_16 : decode cX12_work 16 = .ok (.ifCond .eq 22, 3) := by decide +kernel
theorem dX12_work_19 : decode cX12_work 19 = .ok (.iload_n 3, 1) := by decide +kernel
theorem dX12_work_20 : decode cX12_work 20 = .ok (.iconst 1, 1) := by decide +kernel
theorem dX12_work_21 : decode cX12_work 21 = .ok (.bipush 100, 2) := by decide +kernel
theorem dX12_work_23 : decode cX12_work 23 = .ok (.invokestatic 278, 3) := by decide +kernel
theorem dX12_work_26 : decode cX12_work 26 = .ok (.ifCond .eq 12, 3) := by decide +kernel
theorem dX12_work_29 : decode cX12_work 29 = .ok (.aload_n 0, 1) := by decide +kernel
theorem dX12_work_30 : decode cX12_work 30 = .ok (.getfield 555, 3) := by decide +kernel
theorem dX12_work_33 : decode cX12_work 33 = .ok (.bipush 9, 2) := by decide +kernel
theorem dX12_work_35 : decode cX12_work 35 = .ok (.if_icmp .ne 5, 3) := by decide +kernel
theorem dX12_work_38 : decode cX12_work 38 = .ok (.iconst (-1), 1) := by decide +kernel
theorem dX12_work_39 : decode cX12_work 39 = .ok (.ireturn, 1) := by decide +kernel
theorem dX12_work_40 : decode cX12_work 40 = .ok (.aload_n 0, 1) := by decide +kernel
theorem dX12_work_41 : decode cX12_work 41 = .ok (.getfield 253, 3) := by decide +kernel
theorem dX12_work_44 : decode cX12_work 44 = .ok (.aload_n 0, 1) := by decide +kernel
theorem dX12_work_45 : decode cX12_work 45 = .ok (.getfield 555, 3) := by decide +kernel
theorem dX12_work_48 : decode cX12_work 48 = .ok (.iload_n 1, 1) := by decide +kernel
theorem dX12_work_49 : decode cX12_work 49 = .ok (.iastore, 1) := by decide +kernel
theorem dX12_work_50 : decode cX12_work 50 = .ok (.aload_n 0, 1) := by decide +kernel
theorem dX12_work_51 : decode cX12_work 51 = .ok (.getfield 256, 3) := by decide +kernel
theorem dX12_work_54 : decode cX12_work 54 = .ok (.aload_n 0, 1) := by decide +kernel
theorem dX12_work_55 : decode cX12_work 55 = .ok (.getfield 555, 3) := by decide +kernel
theorem dX12_work_58 : decode cX12_work 58 = .ok (.iload_n 2, 1) := by decide +kernel
theorem dX12_work_59 : decode cX12_work 59 = .ok (.iastore, 1) := by decide +kernel
theorem dX12_work_60 : decode cX12_work 60 = .ok (.aload_n 0, 1) := by decide +kernel
theorem dX12_work_61 : decode cX12_work 61 = .ok (.getfield 259, 3) := by decide +kernel
theorem dX12_work_64 : decode cX12_work 64 = .ok (.aload_n 0, 1) := by decide +kernel
theorem dX12_work_65 : decode cX12_work 65 = .ok (.getfield 555, 3) := by decide +kernel
theorem dX12_work_68 : decode cX12_work 68 = .ok (.iload_n 3, 1) := by decide +kernel
theorem dX12_work_69 : decode cX12_work 69 = .ok (.iastore, 1) := by decide +kernel
theorem dX12_work_70 : decode cX12_work 70 = .ok (.aload_n 0, 1) := by decide +kernel
theorem dX12_work_71 : decode cX12_work 71 = .ok (.aload_n 0, 1) := by decide +kernel
theorem dX12_work_72 : decode cX12_work 72 = .ok (.getfield 555, 3) := by decide +kernel
theorem dX12_work_75 : decode cX12_work 75 = .ok (.iconst 1, 1) := by decide +kernel
theorem dX12_work_76 : decode cX12_work 76 = .ok (.iadd, 1) := by decide +kernel
theorem dX12_work_77 : decode cX12_work 77 = .ok (.putfield 555, 3) := by decide +kernel
theorem dX12_work_80 : decode cX12_work 80 = .ok (.aload_n 0, 1) := by decide +kernel
theorem dX12_work_81 : decode cX12_work 81 = .ok (.getfield 555, 3) := by decide +kernel
theorem dX12_work_84 : decode cX12_work 84 = .ok (.iconst 1, 1) := by decide +kernel
theorem dX12_work_85 : decode cX12_work 85 = .ok (.isub, 1) := by decide +kernel
theorem dX12_work_86 : decode cX12_work 86 = .ok (.ireturn, 1) := by decide +kernel
theorem dX12_saved_0 : decode cX12_saved 0 = .ok (.iconst 0, 1) := by decide +kernel
theorem dX12_saved_1 : decode cX12_saved 1 = .ok (.istore_n 2, 1) := by decide +kernel
theorem dX12_saved_2 : decode cX12_saved 2 = .ok (.iconst 0, 1) := by decide +kernel
theorem dX12_saved_3 : decode cX12_saved 3 = .ok (.istore_n 3, 1) := by decide +kernel
theorem dX12_saved_4 : decode cX12_saved 4 = .ok (.iload_n 3, 1) := by decide +kernel
theorem dX12_saved_5 : decode cX12_saved 5 = .ok (.aload_n 0, 1) := by decide +kernel
theorem dX12_saved_6 : decode cX12_saved 6 = .ok (.getfield 521, 3) := by decide +kernel
theorem dX12_saved_9 : decode cX12_saved 9 = .ok (.if_icmp .ge 102, 3) := by decide +kernel
theorem dX12_saved_12 : decode cX12_saved 12 = .ok (.iconst 0, 1) := by decide +kernel
theorem dX12_saved_13 : decode cX12_saved 13 = .ok (.istore 4, 2) := by decide +kernel
theorem dX12_saved_15 : decode cX12_saved 15 = .ok (.iconst 0, 1) := by decide +kernel
theorem dX12_saved_16 : decode cX12_saved 16 = .ok (.istore 5, 2) := by decide +kernel
theorem dX12_saved_18 : decode cX12_saved 18 = .ok (.iload 5, 2) := by decide +kernel
theorem dX12_saved_20 : decode cX12_saved 20 = .ok (.aload_n 0, 1) := by decide +kernel
theorem dX12_saved_21 : decode cX12_saved 21 = .ok (.getfield 555, 3) := by decide +kernel
theorem dX12_saved_24 : decode cX12_saved 24 = .ok (.if_icmp .ge 56, 3) := by decide +kernel
theorem dX12_saved_27 : decode cX12_saved 27 = .ok (.iload 4, 2) := by decide +kernel
theorem dX12_saved_29 : decode cX12_saved 29 = .ok (.iload_n 1, 1) := by decide +kernel
theorem dX12_saved_30 : decode cX12_saved 30 = .ok (.iload 5, 2) := by decide +kernel
theorem dX12_saved_32 : decode cX12_saved 32 = .ok (.ishr, 1) := by decide +kernel
theorem dX12_saved_33 : decode cX12_saved 33 = .ok (.iconst 1, 1) := by decide +kernel
theorem dX12_saved_34 : decode cX12_saved 34 = .ok (.iand, 1) := by decide +kernel
theorem dX12_saved_35 : decode cX12_saved 35 = .ok (.iconst 1, 1) := by decide +kernel
theorem dX12_saved_36 : decode cX12_saved 36 = .ok (.if_icmp .ne 34, 3) := by decide +kernel
theorem dX12_saved_39 : decode cX12_saved 39 = .ok (.aload_n 0, 1) := by decide +kernel
theorem dX12_saved_40 : decode cX12_saved 40 = .ok (.getfield 253, 3) := by decide +kernel
theorem dX12_saved_43 : decode cX12_saved 43 = .ok (.iload 5, 2) := by decide +kernel
theorem dX12_saved_45 : decode cX12_saved 45 = .ok (.iaload, 1) := by decide +kernel
theorem dX12_saved_46 : decode cX12_saved 46 = .ok (.iload_n 3, 1) := by decide +kernel
theorem dX12_saved_47 : decode cX12_saved 47 = .ok (.if_icmp .ne 23, 3) := by decide +kernel
theorem dX12_saved_50 : decode cX12_saved 50 = .ok (.aload_n 0, 1) := by decide +kernel
theorem dX12_saved_51 : decode cX12_saved 51 = .ok (.getfield 193, 3) := by decide +kernel
theorem dX12_saved_54 : decode cX12_saved 54 = .ok (.iload_n 3, 1) := by decide +kernel
theorem dX12_saved_55 : decode cX12_saved 55 = .ok (.iaload, 1) := by decide +kernel
theorem dX12_saved_56 : decode cX12_saved 56 = .ok (.aload_n 0, 1) := by decide +kernel
theorem dX12_saved_57 : decode cX12_saved 57 = .ok (.getfield 259, 3) := by decide +kernel
theorem dX12_saved_60 : decode cX12_saved 60 = .ok (.iload 5, 2) := by decide +kernel
theorem dX12_saved_62 : decode cX12_saved 62 = .ok (.iaload, 1) := by decide +kernel
theorem dX12_saved_63 : decode cX12_saved 63 = .ok (.imul, 1) := by decide +kernel
theorem dX12_saved_64 : decode cX12_saved 64 = .ok (.bipush 100, 2) := by decide +kernel
theorem dX12_saved_66 : decode cX12_saved 66 = .ok (.idiv, 1) := by decide +kernel
theorem dX12_saved_67 : decode cX12_saved 67 = .ok (.goto 4, 3) := by decide +kernel
theorem dX12_saved_70 : decode cX12_saved 70 = .ok (.iconst 0, 1) := by decide +kernel
theorem dX12_saved_71 : decode cX12_saved 71 = .ok (.iadd, 1) := by decide +kernel
theorem dX12_saved_72 : decode cX12_saved 72 = .ok (.istore 4, 2) := by decide +kernel
theorem dX12_saved_74 : decode cX12_saved 74 = .ok (.iinc 5 1, 3) := by decide +kernel
theorem dX12_saved_77 : decode cX12_saved 77 = .ok (.goto (-59), 3) := by decide +kernel
theorem dX12_saved_80 : decode cX12_saved 80 = .ok (.iload_n 2, 1) := by decide +kernel
theorem dX12_saved_81 : decode cX12_saved 81 = .ok (.iload 4, 2) := by decide +kernel
theorem dX12_saved_83 : decode cX12_saved 83 = .ok (.aload_n 0, 1) := by decide +kernel
theorem dX12_saved_84 : decode cX12_saved 84 = .ok (.getfield 193, 3) := by decide +kernel
theorem dX12_saved_87 : decode cX12_saved 87 = .ok (.iload_n 3, 1) := by decide +kernel
theorem dX12_saved_88 : decode cX12_saved 88 = .ok (.iaload, 1) := by decide +kernel
theorem dX12_saved_89 : decode cX12_saved 89 = .ok (.if_icmp .ge 8, 3) := by decide +kernel
theorem dX12_saved_92 : decode cX12_saved 92 = .ok (.iload 4, 2) := by decide +kernel
theorem dX12_saved_94 : decode cX12_saved 94 = .ok (.goto 9, 3) := by decide +kernel
theorem dX12_saved_97 : decode cX12_saved 97 = .ok (.aload_n 0, 1) := by decide +kernel
theorem dX12_saved_98 : decode cX12_saved 98 = .ok (.getfield 193, 3) := by decide +kernel
theorem dX12_saved_101 : decode cX12_saved 101 = .ok (.iload_n 3, 1) := by decide +kernel
theorem dX12_saved_102 : decode cX12_saved 102 = .ok (.iaload, 1) := by decide +kernel
theorem dX12_saved_103 : decode cX12_saved 103 = .ok (.iadd, 1) := by decide +kernel
theorem dX12_saved_104 : decode cX12_saved 104 = .ok (.istore_n 2, 1) := by decide +kernel
theorem dX12_saved_105 : decode cX12_saved 105 = .ok (.iinc 3 1, 3) := by decide +kernel
theorem dX12_saved_108 : decode cX12_saved 108 = .ok (.goto (-104), 3) := by decide +kernel
theorem dX12_saved_111 : decode cX12_saved 111 = .ok (.iload_n 2, 1) := by decide +kernel
theorem dX12_saved_112 : decode cX12_saved 112 = .ok (.ireturn, 1) := by decide +kernel
theorem dX12_costs_0 : decode cX12_costs 0 = .ok (.iconst 0, 1) := by decide +kernel
theorem dX12_costs_1 : decode cX12_costs 1 = .ok (.istore_n 2, 1) := by decide +kernel
theorem dX12_costs_2 : decode cX12_costs 2 = .ok (.iconst 0, 1) := by decide +kernel
theorem dX12_costs_3 : decode cX12_costs 3 = .ok (.istore_n 3, 1) := by decide +kernel
theorem dX12_costs_4 : decode cX12_costs 4 = .ok (.iload_n 3, 1) := by decide +kernel
theorem dX12_costs_5 : decode cX12_costs 5 = .ok (.aload_n 0, 1) := by decide +kernel
theorem dX12_costs_6 : decode cX12_costs 6 = .ok (.getfield 555, 3) := by decide +kernel
theorem dX12_costs_9 : decode cX12_costs 9 = .ok (.if_icmp .ge 31, 3) := by decide +kernel
theorem dX12_costs_12 : decode cX12_costs 12 = .ok (.iload_n 2, 1) := by decide +kernel
theorem dX12_costs_13 : decode cX12_costs 13 = .ok (.iload_n 1, 1) := by decide +kernel
theorem dX12_costs_14 : decode cX12_costs 14 = .ok (.iload_n 3, 1) := by decide +kernel
theorem dX12_costs_15 : decode cX12_costs 15 = .ok (.ishr, 1) := by decide +kernel
theorem dX12_costs_16 : decode cX12_costs 16 = .ok (.iconst 1, 1) := by decide +kernel
theorem dX12_costs_17 : decode cX12_costs 17 = .ok (.iand, 1) := by decide +kernel
theorem dX12_costs_18 : decode cX12_costs 18 = .ok (.iconst 1, 1) := by decide +kernel
theorem dX12_costs_19 : decode cX12_costs 19 = .ok (.if_icmp .ne 12, 3) := by decide +kernel
theorem dX12_costs_22 : decode cX12_costs 22 = .ok (.aload_n 0, 1) := by decide +kernel
theorem dX12_costs_23 : decode cX12_costs 23 = .ok (.getfield 256, 3) := by decide +kernel
theorem dX12_costs_26 : decode cX12_costs 26 = .ok (.iload_n 3, 1) := by decide +kernel
theorem dX12_costs_27 : decode cX12_costs 27 = .ok (.iaload, 1) := by decide +kernel
theorem dX12_costs_28 : decode cX12_costs 28 = .ok (.goto 4, 3) := by decide +kernel
theorem dX12_costs_31 : decode cX12_costs 31 = .ok (.iconst 0, 1) := by decide +kernel
theorem dX12_costs_32 : decode cX12_costs 32 = .ok (.iadd, 1) := by decide +kernel
theorem dX12_costs_33 : decode cX12_costs 33 = .ok (.istore_n 2, 1) := by decide +kernel
theorem dX12_costs_34 : decode cX12_costs 34 = .ok (.iinc 3 1, 3) := by decide +kernel
theorem dX12_costs_37 : decode cX12_costs 37 = .ok (.goto (-33), 3) := by decide +kernel
theorem dX12_costs_40 : decode cX12_costs 40 = .ok (.iload_n 2, 1) := by decide +kernel
theorem dX12_costs_41 : decode cX12_costs 41 = .ok (.ireturn, 1) := by decide +kernel
theorem dX12_best_0 : decode cX12_best 0 = .ok (.iload_n 1, 1) := by decide +kernel
theorem dX12_best_1 : decode cX12_best 1 = .ok (.iconst 0, 1) := by decide +kernel
theorem dX12_best_2 : decode cX12_best 2 = .ok (.ldc_w 558, 3) := by decide +kernel
theorem dX12_best_5 : decode cX12_best 5 = .ok (.invokestatic 278, 3) := by decide +kernel
theorem dX12_best_8 : decode cX12_best 8 = .ok (.ifCond .ne 5, 3) := by decide +kernel
theorem dX12_best_11 : decode cX12_best 11 = .ok (.iconst (-1), 1) := by decide +kernel
theorem dX12_best_12 : decode cX12_best 12 = .ok (.ireturn, 1) := by decide +kernel
theorem dX12_best_13 : decode cX12_best 13 = .ok (.iconst 0, 1) := by decide +kernel
theorem dX12_best_14 : decode cX12_best 14 = .ok (.istore_n 2, 1) := by decide +kernel
theorem dX12_best_15 : decode cX12_best 15 = .ok (.iconst 1, 1) := by decide +kernel
theorem dX12_best_16 : decode cX12_best 16 = .ok (.istore_n 3, 1) := by decide +kernel
theorem dX12_best_17 : decode cX12_best 17 = .ok (.iload_n 3, 1) := by decide +kernel
theorem dX12_best_18 : decode cX12_best 18 = .ok (.iconst 1, 1) := by decide +kernel
theorem dX12_best_19 : decode cX12_best 19 = .ok (.aload_n 0, 1) := by decide +kernel
theorem dX12_best_20 : decode cX12_best 20 = .ok (.getfield 555, 3) := by decide +kernel
theorem dX12_best_23 : decode cX12_best 23 = .ok (.ishl, 1) := by decide +kernel
theorem dX12_best_24 : decode cX12_best 24 = .ok (.if_icmp .ge 59, 3) := by decide +kernel
theorem dX12_best_27 : decode cX12_best 27 = .ok (.aload_n 0, 1) := by decide +kernel
theorem dX12_best_28 : decode cX12_best 28 = .ok (.iload_n 3, 1) := by decide +kernel
theorem dX12_best_29 : decode cX12_best 29 = .ok (.invokevirtual 559, 3) := by decide +kernel
theorem dX12_best_32 : decode cX12_best 32 = .ok (.iload_n 1, 1) := by decide +kernel
theorem dX12_best_33 : decode cX12_best 33 = .ok (.if_icmp .le 6, 3) := by decide +kernel
theorem dX12_best_36 : decode cX12_best 36 = .ok (.goto 41, 3) := by decide +kernel
theorem dX12_best_39 : decode cX12_best 39 = .ok (.aload_n 0, 1) := by decide +kernel
theorem dX12_best_40 : decode cX12_best 40 = .ok (.iload_n 3, 1) := by decide +kernel
theorem dX12_best_41 : decode cX12_best 41 = .ok (.invokevirtual 562, 3) := by decide +kernel
theorem dX12_best_44 : decode cX12_best 44 = .ok (.aload_n 0, 1) := by decide +kernel
theorem dX12_best_45 : decode cX12_best 45 = .ok (.iload_n 2, 1) := by decide +kernel
theorem dX12_best_46 : decode cX12_best 46 = .ok (.invokevirtual 562, 3) := by decide +kernel
theorem dX12_best_49 : decode cX12_best 49 = .ok (.isub, 1) := by decide +kernel
theorem dX12_best_50 : decode cX12_best 50 = .ok (.istore 4, 2) := by decide +kernel
theorem dX12_best_52 : decode cX12_best 52 = .ok (.iload 4, 2) := by decide +kernel
theorem dX12_best_54 : decode cX12_best 54 = .ok (.ifCond .gt 21, 3) := by decide +kernel
theorem dX12_best_57 : decode cX12_best 57 = .ok (.iload 4, 2) := by decide +kernel
theorem dX12_best_59 : decode cX12_best 59 = .ok (.ifCond .ne 18, 3) := by decide +kernel
theorem dX12_best_62 : decode cX12_best 62 = .ok (.aload_n 0, 1) := by decide +kernel
theorem dX12_best_63 : decode cX12_best 63 = .ok (.iload_n 3, 1) := by decide +kernel
theorem dX12_best_64 : decode cX12_best 64 = .ok (.invokevirtual 559, 3) := by decide +kernel
theorem dX12_best_67 : decode cX12_best 67 = .ok (.aload_n 0, 1) := by decide +kernel
theorem dX12_best_68 : decode cX12_best 68 = .ok (.iload_n 2, 1) := by decide +kernel
theorem dX12_best_69 : decode cX12_best 69 = .ok (.invokevirtual 559, 3) := by decide +kernel
theorem dX12_best_72 : decode cX12_best 72 = .ok (.if_icmp .ge 5, 3) := by decide +kernel
theorem dX12_best_75 : decode cX12_best 75 = .ok (.iload_n 3, 1) := by decide +kernel
theorem dX12_best_76 : decode cX12_best 76 = .ok (.istore_n 2, 1) := by decide +kernel
theorem dX12_best_77 : decode cX12_best 77 = .ok (.iinc 3 1, 3) := by decide +kernel
theorem dX12_best_80 : decode cX12_best 80 = .ok (.goto (-63), 3) := by decide +kernel
theorem dX12_best_83 : decode cX12_best 83 = .ok (.iload_n 2, 1) := by decide +kernel
theorem dX12_best_84 : decode cX12_best 84 = .ok (.ireturn, 1) := by decide +kernel
theorem dX12_saves_0 : decode cX12_saves 0 = .ok (.iload_n 1, 1) := by decide +kernel
theorem dX12_saves_1 : decode cX12_saves 1 = .ok (.iconst 0, 1) := by decide +kernel
theorem dX12_saves_2 : decode cX12_saves 2 = .ok (.iconst 1, 1) := by decide +kernel
theorem dX12_saves_3 : decode cX12_saves 3 = .ok (.aload_n 0, 1) := by decide +kernel
theorem dX12_saves_4 : decode cX12_saves 4 = .ok (.getfield 555, 3) := by decide +kernel
theorem dX12_saves_7 : decode cX12_saves 7 = .ok (.ishl, 1) := by decide +kernel
theorem dX12_saves_8 : decode cX12_saves 8 = .ok (.iconst 1, 1) := by decide +kernel
theorem dX12_saves_9 : decode cX12_saves 9 = .ok (.isub, 1) := by decide +kernel
theorem dX12_saves_10 : decode cX12_saves 10 = .ok (.invokestatic 278, 3) := by decide +kernel
theorem dX12_saves_13 : decode cX12_saves 13 = .ok (.ifCond .eq 11, 3) := by decide +kernel
theorem dX12_saves_16 : decode cX12_saves 16 = .ok (.aload_n 0, 1) := by decide +kernel
theorem dX12_saves_17 : decode cX12_saves 17 = .ok (.iload_n 1, 1) := by decide +kernel
theorem dX12_saves_18 : decode cX12_saves 18 = .ok (.invokevirtual 562, 3) := by decide +kernel
theorem dX12_saves_21 : decode cX12_saves 21 = .ok (.goto 4, 3) := by decide +kernel
theorem dX12_saves_24 : decode cX12_saves 24 = .ok (.iconst (-1), 1) := by decide +kernel
theorem dX12_saves_25 : decode cX12_saves 25 = .ok (.ireturn, 1) := by decide +kernel
theorem dX12_tapeNumber_0 : decode cX12_tapeNumber 0 = .ok (.iconst 0, 1) := by decide +kernel
theorem dX12_tapeNumber_1 : decode cX12_tapeNumber 1 = .ok (.istore_n 2, 1) := by decide +kernel
theorem dX12_tapeNumber_2 : decode cX12_tapeNumber 2 = .ok (.iconst 4, 1) := by decide +kernel
theorem dX12_tapeNumber_3 : decode cX12_tapeNumber 3 = .ok (.iload_n 1, 1) := by decide +kernel
theorem dX12_tapeNumber_4 : decode cX12_tapeNumber 4 = .ok (.imul, 1) := by decide +kernel
theorem dX12_tapeNumber_5 : decode cX12_tapeNumber 5 = .ok (.istore_n 3, 1) := by decide +kernel
theorem dX12_tapeNumber_6 : decode cX12_tapeNumber 6 = .ok (.iload_n 3, 1) := by decide +kernel
theorem dX12_tapeNumber_7 : decode cX12_tapeNumber 7 = .ok (.iconst 4, 1) := by decide +kernel
theorem dX12_tapeNumber_8 : decode cX12_tapeNumber 8 = .ok (.iload_n 1, 1) := by decide +kernel
theorem dX12_tapeNumber_9 : decode cX12_tapeNumber 9 = .ok (.imul, 1) := by decide +kernel
theorem dX12_tapeNumber_10 : decode cX12_tapeNumber 10 = .ok (.iconst 4, 1) := by decide +kernel
theorem dX12_tapeNumber_11 : decode cX12_tapeNumber 11 = .ok (.iadd, 1) := by decide +kernel
theorem dX12_tapeNumber_12 : decode cX12_tapeNumber 12 = .ok (.if_icmp .ge 25, 3) := by decide +kernel
theorem dX12_tapeNumber_15 : decode cX12_tapeNumber 15 = .ok (.iload_n 2, 1) := by decide +kernel
theorem dX12_tapeNumber_16 : decode cX12_tapeNumber 16 = .ok (.bipush 8, 2) := by decide +kernel
theorem dX12_tapeNumber_18 : decode cX12_tapeNumber 18 = .ok (.ishl, 1) := by decide +kernel
theorem dX12_tapeNumber_19 : decode cX12_tapeNumber 19 = .ok (.aload_n 0, 1) := by decide +kernel
theorem dX12_tapeNumber_20 : decode cX12_tapeNumber 20 = .ok (.getfield 70, 3) := by decide +kernel
theorem dX12_tapeNumber_23 : decode cX12_tapeNumber 23 = .ok (.iload_n 3, 1) := by decide +kernel
theorem dX12_tapeNumber_24 : decode cX12_tapeNumber 24 = .ok (.baload, 1) := by decide +kernel
theorem dX12_tapeNumber_25 : decode cX12_tapeNumber 25 = .ok (.sipush 255, 3) := by decide +kernel
theorem dX12_tapeNumber_28 : decode cX12_tapeNumber 28 = .ok (.iand, 1) := by decide +kernel
theorem dX12_tapeNumber_29 : decode cX12_tapeNumber 29 = .ok (.ior, 1) := by decide +kernel
theorem dX12_tapeNumber_30 : decode cX12_tapeNumber 30 = .ok (.istore_n 2, 1) := by decide +kernel
theorem dX12_tapeNumber_31 : decode cX12_tapeNumber 31 = .ok (.iinc 3 1, 3) := by decide +kernel
theorem dX12_tapeNumber_34 : decode cX12_tapeNumber 34 = .ok (.goto (-28), 3) := by decide +kernel
theorem dX12_tapeNumber_37 : decode cX12_tapeNumber 37 = .ok (.iload_n 2, 1) := by decide +kernel
theorem dX12_tapeNumber_38 : decode cX12_tapeNumber 38 = .ok (.ireturn, 1) := by decide +kernel
theorem dX12_check_0 : decode cX12_check 0 = .ok (.iload_n 1, 1) := by decide +kernel
theorem dX12_check_1 : decode cX12_check 1 = .ok (.ifCond .lt 14, 3) := by decide +kernel
theorem dX12_check_4 : decode cX12_check 4 = .ok (.iload_n 1, 1) := by decide +kernel
theorem dX12_check_5 : decode cX12_check 5 = .ok (.aload_n 0, 1) := by decide +kernel
theorem dX12_check_6 : decode cX12_check 6 = .ok (.getfield 341, 3) := by decide +kernel
theorem dX12_check_9 : decode cX12_check 9 = .ok (.bipush 12, 2) := by decide +kernel
theorem dX12_check_11 : decode cX12_check 11 = .ok (.idiv, 1) := by decide +kernel
theorem dX12_check_12 : decode cX12_check 12 = .ok (.if_icmp .le 6, 3) := by decide +kernel
theorem dX12_check_15 : decode cX12_check 15 = .ok (.bipush (-2), 2) := by decide +kernel
theorem dX12_check_17 : decode cX12_check 17 = .ok (.ireturn, 1) := by decide +kernel
theorem dX12_check_18 : decode cX12_check 18 = .ok (.aload_n 0, 1) := by decide +kernel
theorem dX12_check_19 : decode cX12_check 19 = .ok (.iconst 0, 1) := by decide +kernel
theorem dX12_check_20 : decode cX12_check 20 = .ok (.putfield 341, 3) := by decide +kernel
theorem dX12_check_23 : decode cX12_check 23 = .ok (.iconst 0, 1) := by decide +kernel
theorem dX12_check_24 : decode cX12_check 24 = .ok (.istore_n 2, 1) := by decide +kernel
theorem dX12_check_25 : decode cX12_check 25 = .ok (.iconst 0, 1) := by decide +kernel
theorem dX12_check_26 : decode cX12_check 26 = .ok (.istore_n 3, 1) := by decide +kernel
theorem dX12_check_27 : decode cX12_check 27 = .ok (.iload_n 3, 1) := by decide +kernel
theorem dX12_check_28 : decode cX12_check 28 = .ok (.aload_n 0, 1) := by decide +kernel
theorem dX12_check_29 : decode cX12_check 29 = .ok (.getfield 272, 3) := by decide +kernel
theorem dX12_check_32 : decode cX12_check 32 = .ok (.aload_n 0, 1) := by decide +kernel
theorem dX12_check_33 : decode cX12_check 33 = .ok (.getfield 275, 3) := by decide +kernel
theorem dX12_check_36 : decode cX12_check 36 = .ok (.imul, 1) := by decide +kernel
theorem dX12_check_37 : decode cX12_check 37 = .ok (.if_icmp .ge 104, 3) := by decide +kernel
theorem dX12_check_40 : decode cX12_check 40 = .ok (.iconst 0, 1) := by decide +kernel
theorem dX12_check_41 : decode cX12_check 41 = .ok (.istore 4, 2) := by decide +kernel
theorem dX12_check_43 : decode cX12_check 43 = .ok (.iload 4, 2) := by decide +kernel
theorem dX12_check_45 : decode cX12_check 45 = .ok (.bipush 8, 2) := by decide +kernel
theorem dX12_check_47 : decode cX12_check 47 = .ok (.if_icmp .ge 88, 3) := by decide +kernel
theorem dX12_check_50 : decode cX12_check 50 = .ok (.aload_n 0, 1) := by decide +kernel
theorem dX12_check_51 : decode cX12_check 51 = .ok (.iload_n 3, 1) := by decide +kernel
theorem dX12_check_52 : decode cX12_check 52 = .ok (.iload 4, 2) := by decide +kernel
theorem dX12_check_54 : decode cX12_check 54 = .ok (.aload_n 0, 1) := by decide +kernel
theorem dX12_check_55 : decode cX12_check 55 = .ok (.getfield 291, 3) := by decide +kernel
theorem dX12_check_58 : decode cX12_check 58 = .ok (.aload_n 0, 1) := by decide +kernel
theorem dX12_check_59 : decode cX12_check 59 = .ok (.getfield 291, 3) := by decide +kernel
theorem dX12_check_62 : decode cX12_check 62 = .ok (.invokevirtual 327, 3) := by decide +kernel
theorem dX12_check_65 : decode cX12_check 65 = .ok (.istore 5, 2) := by decide +kernel
theorem dX12_check_67 : decode cX12_check 67 = .ok (.iload 5, 2) := by decide +kernel
theorem dX12_check_69 : decode cX12_check 69 = .ok (.ifCond .ne 6, 3) := by decide +kernel
theorem dX12_check_72 : decode cX12_check 72 = .ok (.goto 57, 3) := by decide +kernel
theorem dX12_check_75 : decode cX12_check 75 = .ok (.iload_n 2, 1) := by decide +kernel
theorem dX12_check_76 : decode cX12_check 76 = .ok (.iconst 3, 1) := by decide +kernel
theorem dX12_check_77 : decode cX12_check 77 = .ok (.iload_n 1, 1) := by decide +kernel
theorem dX12_check_78 : decode cX12_check 78 = .ok (.imul, 1) := by decide +kernel
theorem dX12_check_79 : decode cX12_check 79 = .ok (.if_icmp .eq 12, 3) := by decide +kernel
theorem dX12_check_82 : decode cX12_check 82 = .ok (.aload_n 0, 1) := by decide +kernel
theorem dX12_check_83 : decode cX12_check 83 = .ok (.iload_n 2, 1) := by decide +kernel
theorem dX12_check_84 : decode cX12_check 84 = .ok (.invokevirtual 565, 3) := by decide +kernel
theorem dX12_check_87 : decode cX12_check 87 = .ok (.iload_n 3, 1) := by decide +kernel
theorem dX12_check_88 : decode cX12_check 88 = .ok (.if_icmp .eq 5, 3) := by decide +kernel
theorem dX12_check_91 : decode cX12_check 91 = .ok (.iload_n 2, 1) := by decide +kernel
theorem dX12_check_92 : decode cX12_check 92 = .ok (.ireturn, 1) := by decide +kernel
theorem dX12_check_93 : decode cX12_check 93 = .ok (.aload_n 0, 1) := by decide +kernel
theorem dX12_check_94 : decode cX12_check 94 = .ok (.iload_n 2, 1) := by decide +kernel
theorem dX12_check_95 : decode cX12_check 95 = .ok (.iconst 1, 1) := by decide +kernel
theorem dX12_check_96 : decode cX12_check 96 = .ok (.iadd, 1) := by decide +kernel
theorem dX12_check_97 : decode cX12_check 97 = .ok (.invokevirtual 565, 3) := by decide +kernel
theorem dX12_check_100 : decode cX12_check 100 = .ok (.iload 4, 2) := by decide +kernel
theorem dX12_check_102 : decode cX12_check 102 = .ok (.if_icmp .eq 7, 3) := by decide +kernel
theorem dX12_check_105 : decode cX12_check 105 = .ok (.iload_n 2, 1) := by decide +kernel
theorem dX12_check_106 : decode cX12_check 106 = .ok (.iconst 1, 1) := by decide +kernel
theorem dX12_check_107 : decode cX12_check 107 = .ok (.iadd, 1) := by decide +kernel
theorem dX12_check_108 : decode cX12_check 108 = .ok (.ireturn, 1) := by decide +kernel
theorem dX12_check_109 : decode cX12_check 109 = .ok (.aload_n 0, 1) := by decide +kernel
theorem dX12_check_110 : decode cX12_check 110 = .ok (.iload_n 2, 1) := by decide +kernel
theorem dX12_check_111 : decode cX12_check 111 = .ok (.iconst 2, 1) := by decide +kernel
theorem dX12_check_112 : decode cX12_check 112 = .ok (.iadd, 1) := by decide +kernel
theorem dX12_check_113 : decode cX12_check 113 = .ok (.invokevirtual 565, 3) := by decide +kernel
theorem dX12_check_116 : decode cX12_check 116 = .ok (.iload 5, 2) := by decide +kernel
theorem dX12_check_118 : decode cX12_check 118 = .ok (.if_icmp .eq 7, 3) := by decide +kernel
theorem dX12_check_121 : decode cX12_check 121 = .ok (.iload_n 2, 1) := by decide +kernel
theorem dX12_check_122 : decode cX12_check 122 = .ok (.iconst 2, 1) := by decide +kernel
theorem dX12_check_123 : decode cX12_check 123 = .ok (.iadd, 1) := by decide +kernel
theorem dX12_check_124 : decode cX12_check 124 = .ok (.ireturn, 1) := by decide +kernel
theorem dX12_check_125 : decode cX12_check 125 = .ok (.iload_n 2, 1) := by decide +kernel
theorem dX12_check_126 : decode cX12_check 126 = .ok (.iconst 3, 1) := by decide +kernel
theorem dX12_check_127 : decode cX12_check 127 = .ok (.iadd, 1) := by decide +kernel
theorem dX12_check_128 : decode cX12_check 128 = .ok (.istore_n 2, 1) := by decide +kernel
theorem dX12_check_129 : decode cX12_check 129 = .ok (.iinc 4 1, 3) := by decide +kernel
theorem dX12_check_132 : decode cX12_check 132 = .ok (.goto (-89), 3) := by decide +kernel
theorem dX12_check_135 : decode cX12_check 135 = .ok (.iinc 3 1, 3) := by decide +kernel
theorem dX12_check_138 : decode cX12_check 138 = .ok (.goto (-111), 3) := by decide +kernel
theorem dX12_check_141 : decode cX12_check 141 = .ok (.iload_n 2, 1) := by decide +kernel
theorem dX12_check_142 : decode cX12_check 142 = .ok (.iconst 3, 1) := by decide +kernel
theorem dX12_check_143 : decode cX12_check 143 = .ok (.iload_n 1, 1) := by decide +kernel
theorem dX12_check_144 : decode cX12_check 144 = .ok (.imul, 1) := by decide +kernel
theorem dX12_check_145 : decode cX12_check 145 = .ok (.if_icmp .ge 7, 3) := by decide +kernel
theorem dX12_check_148 : decode cX12_check 148 = .ok (.iload_n 2, 1) := by decide +kernel
theorem dX12_check_149 : decode cX12_check 149 = .ok (.goto 4, 3) := by decide +kernel
theorem dX12_check_152 : decode cX12_check 152 = .ok (.iconst (-1), 1) := by decide +kernel
theorem dX12_check_153 : decode cX12_check 153 = .ok (.ireturn, 1) := by decide +kernel
theorem dX12_count_0 : decode cX12_count 0 = .ok (.iload_n 1, 1) := by decide +kernel
theorem dX12_count_1 : decode cX12_count 1 = .ok (.tableswitch 159 0 15 #[79, 84, 89, 94, 99, 104, 109, 114, 119, 124, 129, 134, 139, 144, 149, 154], 79) := by decide +kernel
theorem dX12_count_80 : decode cX12_count 80 = .ok (.aload_n 0, 1) := by decide +kernel
theorem dX12_count_81 : decode cX12_count 81 = .ok (.getfield 291, 3) := by decide +kernel
theorem dX12_count_84 : decode cX12_count 84 = .ok (.ireturn, 1) := by decide +kernel
theorem dX12_count_85 : decode cX12_count 85 = .ok (.aload_n 0, 1) := by decide +kernel
theorem dX12_count_86 : decode cX12_count 86 = .ok (.getfield 272, 3) := by decide +kernel
theorem dX12_count_89 : decode cX12_count 89 = .ok (.ireturn, 1) := by decide +kernel
theorem dX12_count_90 : decode cX12_count 90 = .ok (.aload_n 0, 1) := by decide +kernel
theorem dX12_count_91 : decode cX12_count 91 = .ok (.getfield 275, 3) := by decide +kernel
theorem dX12_count_94 : decode cX12_count 94 = .ok (.ireturn, 1) := by decide +kernel
theorem dX12_count_95 : decode cX12_count 95 = .ok (.aload_n 0, 1) := by decide +kernel
theorem dX12_count_96 : decode cX12_count 96 = .ok (.getfield 282, 3) := by decide +kernel
theorem dX12_count_99 : decode cX12_count 99 = .ok (.ireturn, 1) := by decide +kernel
theorem dX12_count_100 : decode cX12_count 100 = .ok (.aload_n 0, 1) := by decide +kernel
theorem dX12_count_101 : decode cX12_count 101 = .ok (.getfield 285, 3) := by decide +kernel
theorem dX12_count_104 : decode cX12_count 104 = .ok (.ireturn, 1) := by decide +kernel
theorem dX12_count_105 : decode cX12_count 105 = .ok (.aload_n 0, 1) := by decide +kernel
theorem dX12_count_106 : decode cX12_count 106 = .ok (.getfield 441, 3) := by decide +kernel
theorem dX12_count_109 : decode cX12_count 109 = .ok (.ireturn, 1) := by decide +kernel
theorem dX12_count_110 : decode cX12_count 110 = .ok (.aload_n 0, 1) := by decide +kernel
theorem dX12_count_111 : decode cX12_count 111 = .ok (.getfield 470, 3) := by decide +kernel
theorem dX12_count_114 : decode cX12_count 114 = .ok (.ireturn, 1) := by decide +kernel
theorem dX12_count_115 : decode cX12_count 115 = .ok (.aload_n 0, 1) := by decide +kernel
theorem dX12_count_116 : decode cX12_count 116 = .ok (.getfield 491, 3) := by decide +kernel
theorem dX12_count_119 : decode cX12_count 119 = .ok (.ireturn, 1) := by decide +kernel
theorem dX12_count_120 : decode cX12_count 120 = .ok (.aload_n 0, 1) := by decide +kernel
theorem dX12_count_121 : decode cX12_count 121 = .ok (.getfield 521, 3) := by decide +kernel
theorem dX12_count_124 : decode cX12_count 124 = .ok (.ireturn, 1) := by decide +kernel
theorem dX12_count_125 : decode cX12_count 125 = .ok (.aload_n 0, 1) := by decide +kernel
theorem dX12_count_126 : decode cX12_count 126 = .ok (.getfield 524, 3) := by decide +kernel
theorem dX12_count_129 : decode cX12_count 129 = .ok (.ireturn, 1) := by decide +kernel
theorem dX12_count_130 : decode cX12_count 130 = .ok (.aload_n 0, 1) := by decide +kernel
theorem dX12_count_131 : decode cX12_count 131 = .ok (.getfield 540, 3) := by decide +kernel
theorem dX12_count_134 : decode cX12_count 134 = .ok (.ireturn, 1) := by decide +kernel
theorem dX12_count_135 : decode cX12_count 135 = .ok (.aload_n 0, 1) := by decide +kernel
theorem dX12_count_136 : decode cX12_count 136 = .ok (.getfield 288, 3) := by decide +kernel
theorem dX12_count_139 : decode cX12_count 139 = .ok (.ireturn, 1) := by decide +kernel
theorem dX12_count_140 : decode cX12_count 140 = .ok (.aload_n 0, 1) := by decide +kernel
theorem dX12_count_141 : decode cX12_count 141 = .ok (.getfield 552, 3) := by decide +kernel
theorem dX12_count_144 : decode cX12_count 144 = .ok (.ireturn, 1) := by decide +kernel
theorem dX12_count_145 : decode cX12_count 145 = .ok (.aload_n 0, 1) := by decide +kernel
theorem dX12_count_146 : decode cX12_count 146 = .ok (.getfield 555, 3) := by decide +kernel
theorem dX12_count_149 : decode cX12_count 149 = .ok (.ireturn, 1) := by decide +kernel
theorem dX12_count_150 : decode cX12_count 150 = .ok (.aload_n 0, 1) := by decide +kernel
theorem dX12_count_151 : decode cX12_count 151 = .ok (.getfield 341, 3) := by decide +kernel
theorem dX12_count_154 : decode cX12_count 154 = .ok (.ireturn, 1) := by decide +kernel
theorem dX12_count_155 : decode cX12_count 155 = .ok (.aload_n 0, 1) := by decide +kernel
theorem dX12_count_156 : decode cX12_count 156 = .ok (.getfield 334, 3) := by decide +kernel
theorem dX12_count_159 : decode cX12_count 159 = .ok (.ireturn, 1) := by decide +kernel
theorem dX12_count_160 : decode cX12_count 160 = .ok (.iload_n 1, 1) := by decide +kernel
theorem dX12_count_161 : decode cX12_count 161 = .ok (.bipush 20, 2) := by decide +kernel
theorem dX12_count_163 : decode cX12_count 163 = .ok (.bipush 19, 2) := by decide +kernel
theorem dX12_count_165 : decode cX12_count 165 = .ok (.aload_n 0, 1) := by decide +kernel
theorem dX12_count_166 : decode cX12_count 166 = .ok (.getfield 441, 3) := by decide +kernel
theorem dX12_count_169 : decode cX12_count 169 = .ok (.iadd, 1) := by decide +kernel
theorem dX12_count_170 : decode cX12_count 170 = .ok (.invokestatic 278, 3) := by decide +kernel
theorem dX12_count_173 : decode cX12_count 173 = .ok (.ifCond .eq 15, 3) := by decide +kernel
theorem dX12_count_176 : decode cX12_count 176 = .ok (.aload_n 0, 1) := by decide +kernel
theorem dX12_count_177 : decode cX12_count 177 = .ok (.getfield 104, 3) := by decide +kernel
theorem dX12_count_180 : decode cX12_count 180 = .ok (.iload_n 1, 1) := by decide +kernel
theorem dX12_count_181 : decode cX12_count 181 = .ok (.bipush 20, 2) := by decide +kernel
theorem dX12_count_183 : decode cX12_count 183 = .ok (.isub, 1) := by decide +kernel
theorem dX12_count_184 : decode cX12_count 184 = .ok (.iaload, 1) := by decide +kernel
theorem dX12_count_185 : decode cX12_count 185 = .ok (.goto 4, 3) := by decide +kernel
theorem dX12_count_188 : decode cX12_count 188 = .ok (.iconst (-1), 1) := by decide +kernel
theorem dX12_count_189 : decode cX12_count 189 = .ok (.ireturn, 1) := by decide +kernel
theorem dJ6_numberOfTrailingZeros_0f7a4_0 : decode cJ6_numberOfTrailingZeros_0f7a4 0 = .ok (.iload_n 0, 1) := by decide +kernel
theorem dJ6_numberOfTrailingZeros_0f7a4_1 : decode cJ6_numberOfTrailingZeros_0f7a4 1 = .ok (.iconst (-1), 1) := by decide +kernel
theorem dJ6_numberOfTrailingZeros_0f7a4_2 : decode cJ6_numberOfTrailingZeros_0f7a4 2 = .ok (.ixor, 1) := by decide +kernel
theorem dJ6_numberOfTrailingZeros_0f7a4_3 : decode cJ6_numberOfTrailingZeros_0f7a4 3 = .ok (.iload_n 0, 1) := by decide +kernel
theorem dJ6_numberOfTrailingZeros_0f7a4_4 : decode cJ6_numberOfTrailingZeros_0f7a4 4 = .ok (.iconst 1, 1) := by decide +kernel
theorem dJ6_numberOfTrailingZeros_0f7a4_5 : decode cJ6_numberOfTrailingZeros_0f7a4 5 = .ok (.isub, 1) := by decide +kernel
theorem dJ6_numberOfTrailingZeros_0f7a4_6 : decode cJ6_numberOfTrailingZeros_0f7a4 6 = .ok (.iand, 1) := by decide +kernel
theorem dJ6_numberOfTrailingZeros_0f7a4_7 : decode cJ6_numberOfTrailingZeros_0f7a4 7 = .ok (.istore_n 0, 1) := by decide +kernel
theorem dJ6_numberOfTrailingZeros_0f7a4_8 : decode cJ6_numberOfTrailingZeros_0f7a4 8 = .ok (.iload_n 0, 1) := by decide +kernel
theorem dJ6_numberOfTrailingZeros_0f7a4_9 : decode cJ6_numberOfTrailingZeros_0f7a4 9 = .ok (.ifCond .gt 8, 3) := by decide +kernel
theorem dJ6_numberOfTrailingZeros_0f7a4_12 : decode cJ6_numberOfTrailingZeros_0f7a4 12 = .ok (.iload_n 0, 1) := by decide +kernel
theorem dJ6_numberOfTrailingZeros_0f7a4_13 : decode cJ6_numberOfTrailingZeros_0f7a4 13 = .ok (.bipush 32, 2) := by decide +kernel
theorem dJ6_numberOfTrailingZeros_0f7a4_15 : decode cJ6_numberOfTrailingZeros_0f7a4 15 = .ok (.iand, 1) := by decide +kernel
theorem dJ6_numberOfTrailingZeros_0f7a4_16 : decode cJ6_numberOfTrailingZeros_0f7a4 16 = .ok (.ireturn, 1) := by decide +kernel
theorem dJ6_numberOfTrailingZeros_0f7a4_17 : decode cJ6_numberOfTrailingZeros_0f7a4 17 = .ok (.iconst 1, 1) := by decide +kernel
theorem dJ6_numberOfTrailingZeros_0f7a4_18 : decode cJ6_numberOfTrailingZeros_0f7a4 18 = .ok (.istore_n 1, 1) := by decide +kernel
theorem dJ6_numberOfTrailingZeros_0f7a4_19 : decode cJ6_numberOfTrailingZeros_0f7a4 19 = .ok (.iload_n 0, 1) := by decide +kernel
theorem dJ6_numberOfTrailingZeros_0f7a4_20 : decode cJ6_numberOfTrailingZeros_0f7a4 20 = .ok (.ldc_w 264, 3) := by decide +kernel
theorem dJ6_numberOfTrailingZeros_0f7a4_23 : decode cJ6_numberOfTrailingZeros_0f7a4 23 = .ok (.if_icmp .le 11, 3) := by decide +kernel
theorem dJ6_numberOfTrailingZeros_0f7a4_26 : decode cJ6_numberOfTrailingZeros_0f7a4 26 = .ok (.iinc 1 16, 3) := by decide +kernel
theorem dJ6_numberOfTrailingZeros_0f7a4_29 : decode cJ6_numberOfTrailingZeros_0f7a4 29 = .ok (.iload_n 0, 1) := by decide +kernel
theorem dJ6_numberOfTrailingZeros_0f7a4_30 : decode cJ6_numberOfTrailingZeros_0f7a4 30 = .ok (.bipush 16, 2) := by decide +kernel
theorem dJ6_numberOfTrailingZeros_0f7a4_32 : decode cJ6_numberOfTrailingZeros_0f7a4 32 = .ok (.iushr, 1) := by decide +kernel
theorem dJ6_numberOfTrailingZeros_0f7a4_33 : decode cJ6_numberOfTrailingZeros_0f7a4 33 = .ok (.istore_n 0, 1) := by decide +kernel
theorem dJ6_numberOfTrailingZeros_0f7a4_34 : decode cJ6_numberOfTrailingZeros_0f7a4 34 = .ok (.iload_n 0, 1) := by decide +kernel
theorem dJ6_numberOfTrailingZeros_0f7a4_35 : decode cJ6_numberOfTrailingZeros_0f7a4 35 = .ok (.sipush 256, 3) := by decide +kernel
theorem dJ6_numberOfTrailingZeros_0f7a4_38 : decode cJ6_numberOfTrailingZeros_0f7a4 38 = .ok (.if_icmp .le 11, 3) := by decide +kernel
theorem dJ6_numberOfTrailingZeros_0f7a4_41 : decode cJ6_numberOfTrailingZeros_0f7a4 41 = .ok (.iinc 1 8, 3) := by decide +kernel
theorem dJ6_numberOfTrailingZeros_0f7a4_44 : decode cJ6_numberOfTrailingZeros_0f7a4 44 = .ok (.iload_n 0, 1) := by decide +kernel
theorem dJ6_numberOfTrailingZeros_0f7a4_45 : decode cJ6_numberOfTrailingZeros_0f7a4 45 = .ok (.bipush 8, 2) := by decide +kernel
theorem dJ6_numberOfTrailingZeros_0f7a4_47 : decode cJ6_numberOfTrailingZeros_0f7a4 47 = .ok (.iushr, 1) := by decide +kernel
theorem dJ6_numberOfTrailingZeros_0f7a4_48 : decode cJ6_numberOfTrailingZeros_0f7a4 48 = .ok (.istore_n 0, 1) := by decide +kernel
theorem dJ6_numberOfTrailingZeros_0f7a4_49 : decode cJ6_numberOfTrailingZeros_0f7a4 49 = .ok (.iload_n 0, 1) := by decide +kernel
theorem dJ6_numberOfTrailingZeros_0f7a4_50 : decode cJ6_numberOfTrailingZeros_0f7a4 50 = .ok (.bipush 16, 2) := by decide +kernel
theorem dJ6_numberOfTrailingZeros_0f7a4_52 : decode cJ6_numberOfTrailingZeros_0f7a4 52 = .ok (.if_icmp .le 10, 3) := by decide +kernel
theorem dJ6_numberOfTrailingZeros_0f7a4_55 : decode cJ6_numberOfTrailingZeros_0f7a4 55 = .ok (.iinc 1 4, 3) := by decide +kernel
theorem dJ6_numberOfTrailingZeros_0f7a4_58 : decode cJ6_numberOfTrailingZeros_0f7a4 58 = .ok (.iload_n 0, 1) := by decide +kernel
theorem dJ6_numberOfTrailingZeros_0f7a4_59 : decode cJ6_numberOfTrailingZeros_0f7a4 59 = .ok (.iconst 4, 1) := by decide +kernel
theorem dJ6_numberOfTrailingZeros_0f7a4_60 : decode cJ6_numberOfTrailingZeros_0f7a4 60 = .ok (.iushr, 1) := by decide +kernel
theorem dJ6_numberOfTrailingZeros_0f7a4_61 : decode cJ6_numberOfTrailingZeros_0f7a4 61 = .ok (.istore_n 0, 1) := by decide +kernel
theorem dJ6_numberOfTrailingZeros_0f7a4_62 : decode cJ6_numberOfTrailingZeros_0f7a4 62 = .ok (.iload_n 0, 1) := by decide +kernel
theorem dJ6_numberOfTrailingZeros_0f7a4_63 : decode cJ6_numberOfTrailingZeros_0f7a4 63 = .ok (.iconst 4, 1) := by decide +kernel
theorem dJ6_numberOfTrailingZeros_0f7a4_64 : decode cJ6_numberOfTrailingZeros_0f7a4 64 = .ok (.if_icmp .le 10, 3) := by decide +kernel
theorem dJ6_numberOfTrailingZeros_0f7a4_67 : decode cJ6_numberOfTrailingZeros_0f7a4 67 = .ok (.iinc 1 2, 3) := by decide +kernel
theorem dJ6_numberOfTrailingZeros_0f7a4_70 : decode cJ6_numberOfTrailingZeros_0f7a4 70 = .ok (.iload_n 0, 1) := by decide +kernel
theorem dJ6_numberOfTrailingZeros_0f7a4_71 : decode cJ6_numberOfTrailingZeros_0f7a4 71 = .ok (.iconst 2, 1) := by decide +kernel
theorem dJ6_numberOfTrailingZeros_0f7a4_72 : decode cJ6_numberOfTrailingZeros_0f7a4 72 = .ok (.iushr, 1) := by decide +kernel
theorem dJ6_numberOfTrailingZeros_0f7a4_73 : decode cJ6_numberOfTrailingZeros_0f7a4 73 = .ok (.istore_n 0, 1) := by decide +kernel
theorem dJ6_numberOfTrailingZeros_0f7a4_74 : decode cJ6_numberOfTrailingZeros_0f7a4 74 = .ok (.iload_n 1, 1) := by decide +kernel
theorem dJ6_numberOfTrailingZeros_0f7a4_75 : decode cJ6_numberOfTrailingZeros_0f7a4 75 = .ok (.iload_n 0, 1) := by decide +kernel
theorem dJ6_numberOfTrailingZeros_0f7a4_76 : decode cJ6_numberOfTrailingZeros_0f7a4 76 = .ok (.iconst 1, 1) := by decide +kernel
theorem dJ6_numberOfTrailingZeros_0f7a4_77 : decode cJ6_numberOfTrailingZeros_0f7a4 77 = .ok (.iushr, 1) := by decide +kernel
theorem dJ6_numberOfTrailingZeros_0f7a4_78 : decode cJ6_numberOfTrailingZeros_0f7a4 78 = .ok (.iadd, 1) := by decide +kernel
theorem dJ6_numberOfTrailingZeros_0f7a4_79 : decode cJ6_numberOfTrailingZeros_0f7a4 79 = .ok (.ireturn, 1) := by decide +kernel
theorem dJ6_bitCount_0f7a4_0 : decode cJ6_bitCount_0f7a4 0 = .ok (.iload_n 0, 1) := by decide +kernel
theorem dJ6_bitCount_0f7a4_1 : decode cJ6_bitCount_0f7a4 1 = .ok (.iload_n 0, 1) := by decide +kernel
theorem dJ6_bitCount_0f7a4_2 : decode cJ6_bitCount_0f7a4 2 = .ok (.iconst 1, 1) := by decide +kernel
theorem dJ6_bitCount_0f7a4_3 : decode cJ6_bitCount_0f7a4 3 = .ok (.iushr, 1) := by decide +kernel
theorem dJ6_bitCount_0f7a4_4 : decode cJ6_bitCount_0f7a4 4 = .ok (.ldc_w 265, 3) := by decide +kernel
theorem dJ6_bitCount_0f7a4_7 : decode cJ6_bitCount_0f7a4 7 = .ok (.iand, 1) := by decide +kernel
theorem dJ6_bitCount_0f7a4_8 : decode cJ6_bitCount_0f7a4 8 = .ok (.isub, 1) := by decide +kernel
theorem dJ6_bitCount_0f7a4_9 : decode cJ6_bitCount_0f7a4 9 = .ok (.istore_n 0, 1) := by decide +kernel
theorem dJ6_bitCount_0f7a4_10 : decode cJ6_bitCount_0f7a4 10 = .ok (.iload_n 0, 1) := by decide +kernel
theorem dJ6_bitCount_0f7a4_11 : decode cJ6_bitCount_0f7a4 11 = .ok (.ldc_w 266, 3) := by decide +kernel
theorem dJ6_bitCount_0f7a4_14 : decode cJ6_bitCount_0f7a4 14 = .ok (.iand, 1) := by decide +kernel
theorem dJ6_bitCount_0f7a4_15 : decode cJ6_bitCount_0f7a4 15 = .ok (.iload_n 0, 1) := by decide +kernel
theorem dJ6_bitCount_0f7a4_16 : decode cJ6_bitCount_0f7a4 16 = .ok (.iconst 2, 1) := by decide +kernel
theorem dJ6_bitCount_0f7a4_17 : decode cJ6_bitCount_0f7a4 17 = .ok (.iushr, 1) := by decide +kernel
theorem dJ6_bitCount_0f7a4_18 : decode cJ6_bitCount_0f7a4 18 = .ok (.ldc_w 266, 3) := by decide +kernel
theorem dJ6_bitCount_0f7a4_21 : decode cJ6_bitCount_0f7a4 21 = .ok (.iand, 1) := by decide +kernel
theorem dJ6_bitCount_0f7a4_22 : decode cJ6_bitCount_0f7a4 22 = .ok (.iadd, 1) := by decide +kernel
theorem dJ6_bitCount_0f7a4_23 : decode cJ6_bitCount_0f7a4 23 = .ok (.istore_n 0, 1) := by decide +kernel
theorem dJ6_bitCount_0f7a4_24 : decode cJ6_bitCount_0f7a4 24 = .ok (.iload_n 0, 1) := by decide +kernel
theorem dJ6_bitCount_0f7a4_25 : decode cJ6_bitCount_0f7a4 25 = .ok (.iload_n 0, 1) := by decide +kernel
theorem dJ6_bitCount_0f7a4_26 : decode cJ6_bitCount_0f7a4 26 = .ok (.iconst 4, 1) := by decide +kernel
theorem dJ6_bitCount_0f7a4_27 : decode cJ6_bitCount_0f7a4 27 = .ok (.iushr, 1) := by decide +kernel
theorem dJ6_bitCount_0f7a4_28 : decode cJ6_bitCount_0f7a4 28 = .ok (.iadd, 1) := by decide +kernel
theorem dJ6_bitCount_0f7a4_29 : decode cJ6_bitCount_0f7a4 29 = .ok (.ldc_w 267, 3) := by decide +kernel
theorem dJ6_bitCount_0f7a4_32 : decode cJ6_bitCount_0f7a4 32 = .ok (.iand, 1) := by decide +kernel
theorem dJ6_bitCount_0f7a4_33 : decode cJ6_bitCount_0f7a4 33 = .ok (.istore_n 0, 1) := by decide +kernel
theorem dJ6_bitCount_0f7a4_34 : decode cJ6_bitCount_0f7a4 34 = .ok (.iload_n 0, 1) := by decide +kernel
theorem dJ6_bitCount_0f7a4_35 : decode cJ6_bitCount_0f7a4 35 = .ok (.iload_n 0, 1) := by decide +kernel
theorem dJ6_bitCount_0f7a4_36 : decode cJ6_bitCount_0f7a4 36 = .ok (.bipush 8, 2) := by decide +kernel
theorem dJ6_bitCount_0f7a4_38 : decode cJ6_bitCount_0f7a4 38 = .ok (.iushr, 1) := by decide +kernel
theorem dJ6_bitCount_0f7a4_39 : decode cJ6_bitCount_0f7a4 39 = .ok (.iadd, 1) := by decide +kernel
theorem dJ6_bitCount_0f7a4_40 : decode cJ6_bitCount_0f7a4 40 = .ok (.istore_n 0, 1) := by decide +kernel
theorem dJ6_bitCount_0f7a4_41 : decode cJ6_bitCount_0f7a4 41 = .ok (.iload_n 0, 1) := by decide +kernel
theorem dJ6_bitCount_0f7a4_42 : decode cJ6_bitCount_0f7a4 42 = .ok (.iload_n 0, 1) := by decide +kernel
theorem dJ6_bitCount_0f7a4_43 : decode cJ6_bitCount_0f7a4 43 = .ok (.bipush 16, 2) := by decide +kernel
theorem dJ6_bitCount_0f7a4_45 : decode cJ6_bitCount_0f7a4 45 = .ok (.iushr, 1) := by decide +kernel
theorem dJ6_bitCount_0f7a4_46 : decode cJ6_bitCount_0f7a4 46 = .ok (.iadd, 1) := by decide +kernel
theorem dJ6_bitCount_0f7a4_47 : decode cJ6_bitCount_0f7a4 47 = .ok (.istore_n 0, 1) := by decide +kernel
theorem dJ6_bitCount_0f7a4_48 : decode cJ6_bitCount_0f7a4 48 = .ok (.iload_n 0, 1) := by decide +kernel
theorem dJ6_bitCount_0f7a4_49 : decode cJ6_bitCount_0f7a4 49 = .ok (.bipush 63, 2) := by decide +kernel
theorem dJ6_bitCount_0f7a4_51 : decode cJ6_bitCount_0f7a4 51 = .ok (.iand, 1) := by decide +kernel
theorem dJ6_bitCount_0f7a4_52 : decode cJ6_bitCount_0f7a4 52 = .ok (.ireturn, 1) := by decide +kernel
theorem dJ9_max_7cf53_0 : decode cJ9_max_7cf53 0 = .ok (.iload_n 0, 1) := by decide +kernel
theorem dJ9_max_7cf53_1 : decode cJ9_max_7cf53 1 = .ok (.iload_n 1, 1) := by decide +kernel
theorem dJ9_max_7cf53_2 : decode cJ9_max_7cf53 2 = .ok (.if_icmp .lt 7, 3) := by decide +kernel
theorem dJ9_max_7cf53_5 : decode cJ9_max_7cf53 5 = .ok (.iload_n 0, 1) := by decide +kernel
theorem dJ9_max_7cf53_6 : decode cJ9_max_7cf53 6 = .ok (.goto 4, 3) := by decide +kernel
theorem dJ9_max_7cf53_9 : decode cJ9_max_7cf53 9 = .ok (.iload_n 1, 1) := by decide +kernel
theorem dJ9_max_7cf53_10 : decode cJ9_max_7cf53 10 = .ok (.ireturn, 1) := by decide +kernel
theorem dJ9_max_f86c9_0 : decode cJ9_max_f86c9 0 = .ok (.lload_n 0, 1) := by decide +kernel
theorem dJ9_max_f86c9_1 : decode cJ9_max_f86c9 1 = .ok (.lload_n 2, 1) := by decide +kernel
theorem dJ9_max_f86c9_2 : decode cJ9_max_f86c9 2 = .ok (.lcmp, 1) := by decide +kernel
theorem dJ9_max_f86c9_3 : decode cJ9_max_f86c9 3 = .ok (.ifCond .lt 7, 3) := by decide +kernel
theorem dJ9_max_f86c9_6 : decode cJ9_max_f86c9 6 = .ok (.lload_n 0, 1) := by decide +kernel
theorem dJ9_max_f86c9_7 : decode cJ9_max_f86c9 7 = .ok (.goto 4, 3) := by decide +kernel
theorem dJ9_max_f86c9_10 : decode cJ9_max_f86c9 10 = .ok (.lload_n 2, 1) := by decide +kernel
theorem dJ9_max_f86c9_11 : decode cJ9_max_f86c9 11 = .ok (.lreturn, 1) := by decide +kernel
theorem dJ9_min_7cf53_0 : decode cJ9_min_7cf53 0 = .ok (.iload_n 0, 1) := by decide +kernel
theorem dJ9_min_7cf53_1 : decode cJ9_min_7cf53 1 = .ok (.iload_n 1, 1) := by decide +kernel
theorem dJ9_min_7cf53_2 : decode cJ9_min_7cf53 2 = .ok (.if_icmp .gt 7, 3) := by decide +kernel
theorem dJ9_min_7cf53_5 : decode cJ9_min_7cf53 5 = .ok (.iload_n 0, 1) := by decide +kernel
theorem dJ9_min_7cf53_6 : decode cJ9_min_7cf53 6 = .ok (.goto 4, 3) := by decide +kernel
theorem dJ9_min_7cf53_9 : decode cJ9_min_7cf53 9 = .ok (.iload_n 1, 1) := by decide +kernel
theorem dJ9_min_7cf53_10 : decode cJ9_min_7cf53 10 = .ok (.ireturn, 1) := by decide +kernel
theorem dJxa1e45_init_da8c8_0 : decode cJxa1e45_init_da8c8 0 = .ok (.aload_n 0, 1) := by decide +kernel
theorem dJxa1e45_init_da8c8_1 : decode cJxa1e45_init_da8c8 1 = .ok (.invokespecial 1, 3) := by decide +kernel
theorem dJxa1e45_init_da8c8_4 : decode cJxa1e45_init_da8c8 4 = .ok (.return_, 1) := by decide +kernel
theorem dJxc12de_init_da8c8_0 : decode cJxc12de_init_da8c8 0 = .ok (.aload_n 0, 1) := by decide +kernel
theorem dJxc12de_init_da8c8_1 : decode cJxc12de_init_da8c8 1 = .ok (.invokespecial 1, 3) := by decide +kernel
theorem dJxc12de_init_da8c8_4 : decode cJxc12de_init_da8c8 4 = .ok (.aload_n 0, 1) := by decide +kernel
theorem dJxc12de_init_da8c8_5 : decode cJxc12de_init_da8c8 5 = .ok (.iconst 0, 1) := by decide +kernel
theorem dJxc12de_init_da8c8_6 : decode cJxc12de_init_da8c8 6 = .ok (.putfield 7, 3) := by decide +kernel
theorem dJxc12de_init_da8c8_9 : decode cJxc12de_init_da8c8 9 = .ok (.return_, 1) := by decide +kernel
theorem dJx4a65c_init_da8c8_0 : decode cJx4a65c_init_da8c8 0 = .ok (.aload_n 0, 1) := by decide +kernel
theorem dJx4a65c_init_da8c8_1 : decode cJx4a65c_init_da8c8 1 = .ok (.invokespecial 1, 3) := by decide +kernel
theorem dJx4a65c_init_da8c8_4 : decode cJx4a65c_init_da8c8 4 = .ok (.aload_n 0, 1) := by decide +kernel
theorem dJx4a65c_init_da8c8_5 : decode cJx4a65c_init_da8c8 5 = .ok (.getstatic 39, 3) := by decide +kernel
theorem dJx4a65c_init_da8c8_8 : decode cJx4a65c_init_da8c8 8 = .ok (.putfield 9, 3) := by decide +kernel
theorem dJx4a65c_init_da8c8_11 : decode cJx4a65c_init_da8c8 11 = .ok (.return_, 1) := by decide +kernel
theorem dJx4a65c_grow_92f84_0 : decode cJx4a65c_grow_92f84 0 = .ok (.aload_n 0, 1) := by decide +kernel
theorem dJx4a65c_grow_92f84_1 : decode cJx4a65c_grow_92f84 1 = .ok (.getfield 9, 3) := by decide +kernel
theorem dJx4a65c_grow_92f84_4 : decode cJx4a65c_grow_92f84 4 = .ok (.arraylength, 1) := by decide +kernel
theorem dJx4a65c_grow_92f84_5 : decode cJx4a65c_grow_92f84 5 = .ok (.istore_n 2, 1) := by decide +kernel
theorem dJx4a65c_grow_92f84_6 : decode cJx4a65c_grow_92f84 6 = .ok (.iload_n 2, 1) := by decide +kernel
theorem dJx4a65c_grow_92f84_7 : decode cJx4a65c_grow_92f84 7 = .ok (.ifCond .gt 13, 3) := by decide +kernel
theorem dJx4a65c_grow_92f84_10 : decode cJx4a65c_grow_92f84 10 = .ok (.aload_n 0, 1) := by decide +kernel
theorem dJx4a65c_grow_92f84_11 : decode cJx4a65c_grow_92f84 11 = .ok (.getfield 9, 3) := by decide +kernel
theorem dJx4a65c_grow_92f84_14 : decode cJx4a65c_grow_92f84 14 = .ok (.getstatic 39, 3) := by decide +kernel
theorem dJx4a65c_grow_92f84_17 : decode cJx4a65c_grow_92f84 17 = .ok (.if_acmp .eq 28, 3) := by decide +kernel
theorem dJx4a65c_grow_92f84_20 : decode cJx4a65c_grow_92f84 20 = .ok (.iload_n 2, 1) := by decide +kernel
theorem dJx4a65c_grow_92f84_21 : decode cJx4a65c_grow_92f84 21 = .ok (.iload_n 1, 1) := by decide +kernel
theorem dJx4a65c_grow_92f84_22 : decode cJx4a65c_grow_92f84 22 = .ok (.iload_n 2, 1) := by decide +kernel
theorem dJx4a65c_grow_92f84_23 : decode cJx4a65c_grow_92f84 23 = .ok (.isub, 1) := by decide +kernel
theorem dJx4a65c_grow_92f84_24 : decode cJx4a65c_grow_92f84 24 = .ok (.iload_n 2, 1) := by decide +kernel
theorem dJx4a65c_grow_92f84_25 : decode cJx4a65c_grow_92f84 25 = .ok (.iconst 1, 1) := by decide +kernel
theorem dJx4a65c_grow_92f84_26 : decode cJx4a65c_grow_92f84 26 = .ok (.ishr, 1) := by decide +kernel
theorem dJx4a65c_grow_92f84_27 : decode cJx4a65c_grow_92f84 27 = .ok (.invokestatic 73, 3) := by decide +kernel
theorem dJx4a65c_grow_92f84_30 : decode cJx4a65c_grow_92f84 30 = .ok (.istore_n 3, 1) := by decide +kernel
theorem dJx4a65c_grow_92f84_31 : decode cJx4a65c_grow_92f84 31 = .ok (.aload_n 0, 1) := by decide +kernel
theorem dJx4a65c_grow_92f84_32 : decode cJx4a65c_grow_92f84 32 = .ok (.aload_n 0, 1) := by decide +kernel
theorem dJx4a65c_grow_92f84_33 : decode cJx4a65c_grow_92f84 33 = .ok (.getfield 9, 3) := by decide +kernel
theorem dJx4a65c_grow_92f84_36 : decode cJx4a65c_grow_92f84 36 = .ok (.iload_n 3, 1) := by decide +kernel
theorem dJx4a65c_grow_92f84_37 : decode cJx4a65c_grow_92f84 37 = .ok (.invokestatic 66, 3) := by decide +kernel
theorem dJx4a65c_grow_92f84_40 : decode cJx4a65c_grow_92f84 40 = .ok (.dup_x1, 1) := by decide +kernel
theorem dJx4a65c_grow_92f84_41 : decode cJx4a65c_grow_92f84 41 = .ok (.putfield 9, 3) := by decide +kernel
theorem dJx4a65c_grow_92f84_44 : decode cJx4a65c_grow_92f84 44 = .ok (.areturn, 1) := by decide +kernel
theorem dJx4a65c_grow_92f84_45 : decode cJx4a65c_grow_92f84 45 = .ok (.aload_n 0, 1) := by decide +kernel
theorem dJx4a65c_grow_92f84_46 : decode cJx4a65c_grow_92f84 46 = .ok (.bipush 10, 2) := by decide +kernel
theorem dJx4a65c_grow_92f84_48 : decode cJx4a65c_grow_92f84 48 = .ok (.iload_n 1, 1) := by decide +kernel
theorem dJx4a65c_grow_92f84_49 : decode cJx4a65c_grow_92f84 49 = .ok (.invokestatic 79, 3) := by decide +kernel
theorem dJx4a65c_grow_92f84_52 : decode cJx4a65c_grow_92f84 52 = .ok (.anewarray 7, 3) := by decide +kernel
theorem dJx4a65c_grow_92f84_55 : decode cJx4a65c_grow_92f84 55 = .ok (.dup_x1, 1) := by decide +kernel
theorem dJx4a65c_grow_92f84_56 : decode cJx4a65c_grow_92f84 56 = .ok (.putfield 9, 3) := by decide +kernel
theorem dJx4a65c_grow_92f84_59 : decode cJx4a65c_grow_92f84 59 = .ok (.areturn, 1) := by decide +kernel
theorem dJx4a65c_grow_d5877_0 : decode cJx4a65c_grow_d5877 0 = .ok (.aload_n 0, 1) := by decide +kernel
theorem dJx4a65c_grow_d5877_1 : decode cJx4a65c_grow_d5877 1 = .ok (.aload_n 0, 1) := by decide +kernel
theorem dJx4a65c_grow_d5877_2 : decode cJx4a65c_grow_d5877 2 = .ok (.getfield 48, 3) := by decide +kernel
theorem dJx4a65c_grow_d5877_5 : decode cJx4a65c_grow_d5877 5 = .ok (.iconst 1, 1) := by decide +kernel
theorem dJx4a65c_grow_d5877_6 : decode cJx4a65c_grow_d5877 6 = .ok (.iadd, 1) := by decide +kernel
theorem dJx4a65c_grow_d5877_7 : decode cJx4a65c_grow_d5877 7 = .ok (.invokevirtual 69, 3) := by decide +kernel
theorem dJx4a65c_grow_d5877_10 : decode cJx4a65c_grow_d5877 10 = .ok (.areturn, 1) := by decide +kernel
theorem dJx4a65c_size_8abf5_0 : decode cJx4a65c_size_8abf5 0 = .ok (.aload_n 0, 1) := by decide +kernel
theorem dJx4a65c_size_8abf5_1 : decode cJx4a65c_size_8abf5 1 = .ok (.getfield 48, 3) := by decide +kernel
theorem dJx4a65c_size_8abf5_4 : decode cJx4a65c_size_8abf5 4 = .ok (.ireturn, 1) := by decide +kernel
theorem dJx4a65c_elementData_915e3_0 : decode cJx4a65c_elementData_915e3 0 = .ok (.aload_n 0, 1) := by decide +kernel
theorem dJx4a65c_elementData_915e3_1 : decode cJx4a65c_elementData_915e3 1 = .ok (.getfield 9, 3) := by decide +kernel
theorem dJx4a65c_elementData_915e3_4 : decode cJx4a65c_elementData_915e3 4 = .ok (.iload_n 1, 1) := by decide +kernel
theorem dJx4a65c_elementData_915e3_5 : decode cJx4a65c_elementData_915e3 5 = .ok (.aaload, 1) := by decide +kernel
theorem dJx4a65c_elementData_915e3_6 : decode cJx4a65c_elementData_915e3 6 = .ok (.areturn, 1) := by decide +kernel
theorem dJx4a65c_get_915e3_0 : decode cJx4a65c_get_915e3 0 = .ok (.iload_n 1, 1) := by decide +kernel
theorem dJx4a65c_get_915e3_1 : decode cJx4a65c_get_915e3 1 = .ok (.aload_n 0, 1) := by decide +kernel
theorem dJx4a65c_get_915e3_2 : decode cJx4a65c_get_915e3 2 = .ok (.getfield 48, 3) := by decide +kernel
theorem dJx4a65c_get_915e3_5 : decode cJx4a65c_get_915e3 5 = .ok (.invokestatic 118, 3) := by decide +kernel
theorem dJx4a65c_get_915e3_8 : decode cJx4a65c_get_915e3 8 = .ok (.pop, 1) := by decide +kernel
theorem dJx4a65c_get_915e3_9 : decode cJx4a65c_get_915e3 9 = .ok (.aload_n 0, 1) := by decide +kernel
theorem dJx4a65c_get_915e3_10 : decode cJx4a65c_get_915e3 10 = .ok (.iload_n 1, 1) := by decide +kernel
theorem dJx4a65c_get_915e3_11 : decode cJx4a65c_get_915e3 11 = .ok (.invokevirtual 123, 3) := by decide +kernel
theorem dJx4a65c_get_915e3_14 : decode cJx4a65c_get_915e3 14 = .ok (.areturn, 1) := by decide +kernel
theorem dJx4a65c_add_72be8_0 : decode cJx4a65c_add_72be8 0 = .ok (.iload_n 3, 1) := by decide +kernel
theorem dJx4a65c_add_72be8_1 : decode cJx4a65c_add_72be8 1 = .ok (.aload_n 2, 1) := by decide +kernel
theorem dJx4a65c_add_72be8_2 : decode cJx4a65c_add_72be8 2 = .ok (.arraylength, 1) := by decide +kernel
theorem dJx4a65c_add_72be8_3 : decode cJx4a65c_add_72be8 3 = .ok (.if_icmp .ne 8, 3) := by decide +kernel
theorem dJx4a65c_add_72be8_6 : decode cJx4a65c_add_72be8 6 = .ok (.aload_n 0, 1) := by decide +kernel
theorem dJx4a65c_add_72be8_7 : decode cJx4a65c_add_72be8 7 = .ok (.invokevirtual 129, 3) := by decide +kernel
theorem dJx4a65c_add_72be8_10 : decode cJx4a65c_add_72be8 10 = .ok (.astore_n 2, 1) := by decide +kernel
theorem dJx4a65c_add_72be8_11 : decode cJx4a65c_add_72be8 11 = .ok (.aload_n 2, 1) := by decide +kernel
theorem dJx4a65c_add_72be8_12 : decode cJx4a65c_add_72be8 12 = .ok (.iload_n 3, 1) := by decide +kernel
theorem dJx4a65c_add_72be8_13 : decode cJx4a65c_add_72be8 13 = .ok (.aload_n 1, 1) := by decide +kernel
theorem dJx4a65c_add_72be8_14 : decode cJx4a65c_add_72be8 14 = .ok (.aastore, 1) := by decide +kernel
theorem dJx4a65c_add_72be8_15 : decode cJx4a65c_add_72be8 15 = .ok (.aload_n 0, 1) := by decide +kernel
theorem dJx4a65c_add_72be8_16 : decode cJx4a65c_add_72be8 16 = .ok (.iload_n 3, 1) := by decide +kernel
theorem dJx4a65c_add_72be8_17 : decode cJx4a65c_add_72be8 17 = .ok (.iconst 1, 1) := by decide +kernel
theorem dJx4a65c_add_72be8_18 : decode cJx4a65c_add_72be8 18 = .ok (.iadd, 1) := by decide +kernel
theorem dJx4a65c_add_72be8_19 : decode cJx4a65c_add_72be8 19 = .ok (.putfield 48, 3) := by decide +kernel
theorem dJx4a65c_add_72be8_22 : decode cJx4a65c_add_72be8 22 = .ok (.return_, 1) := by decide +kernel
theorem dJx4a65c_add_9ea2d_0 : decode cJx4a65c_add_9ea2d 0 = .ok (.aload_n 0, 1) := by decide +kernel
theorem dJx4a65c_add_9ea2d_1 : decode cJx4a65c_add_9ea2d 1 = .ok (.dup, 1) := by decide +kernel
theorem dJx4a65c_add_9ea2d_2 : decode cJx4a65c_add_9ea2d 2 = .ok (.getfield 63, 3) := by decide +kernel
theorem dJx4a65c_add_9ea2d_5 : decode cJx4a65c_add_9ea2d 5 = .ok (.iconst 1, 1) := by decide +kernel
theorem dJx4a65c_add_9ea2d_6 : decode cJx4a65c_add_9ea2d 6 = .ok (.iadd, 1) := by decide +kernel
theorem dJx4a65c_add_9ea2d_7 : decode cJx4a65c_add_9ea2d 7 = .ok (.putfield 63, 3) := by decide +kernel
theorem dJx4a65c_add_9ea2d_10 : decode cJx4a65c_add_9ea2d 10 = .ok (.aload_n 0, 1) := by decide +kernel
theorem dJx4a65c_add_9ea2d_11 : decode cJx4a65c_add_9ea2d 11 = .ok (.aload_n 1, 1) := by decide +kernel
theorem dJx4a65c_add_9ea2d_12 : decode cJx4a65c_add_9ea2d 12 = .ok (.aload_n 0, 1) := by decide +kernel
theorem dJx4a65c_add_9ea2d_13 : decode cJx4a65c_add_9ea2d 13 = .ok (.getfield 9, 3) := by decide +kernel
theorem dJx4a65c_add_9ea2d_16 : decode cJx4a65c_add_9ea2d 16 = .ok (.aload_n 0, 1) := by decide +kernel
theorem dJx4a65c_add_9ea2d_17 : decode cJx4a65c_add_9ea2d 17 = .ok (.getfield 48, 3) := by decide +kernel
theorem dJx4a65c_add_9ea2d_20 : decode cJx4a65c_add_9ea2d 20 = .ok (.invokevirtual 131, 3) := by decide +kernel
theorem dJx4a65c_add_9ea2d_23 : decode cJx4a65c_add_9ea2d 23 = .ok (.iconst 1, 1) := by decide +kernel
theorem dJx4a65c_add_9ea2d_24 : decode cJx4a65c_add_9ea2d 24 = .ok (.ireturn, 1) := by decide +kernel
theorem dJ7_fill_d0a16_0 : decode cJ7_fill_d0a16 0 = .ok (.iconst 0, 1) := by decide +kernel
theorem dJ7_fill_d0a16_1 : decode cJ7_fill_d0a16 1 = .ok (.istore_n 3, 1) := by decide +kernel
theorem dJ7_fill_d0a16_2 : decode cJ7_fill_d0a16 2 = .ok (.aload_n 0, 1) := by decide +kernel
theorem dJ7_fill_d0a16_3 : decode cJ7_fill_d0a16 3 = .ok (.arraylength, 1) := by decide +kernel
theorem dJ7_fill_d0a16_4 : decode cJ7_fill_d0a16 4 = .ok (.istore 4, 2) := by decide +kernel
theorem dJ7_fill_d0a16_6 : decode cJ7_fill_d0a16 6 = .ok (.iload_n 3, 1) := by decide +kernel
theorem dJ7_fill_d0a16_7 : decode cJ7_fill_d0a16 7 = .ok (.iload 4, 2) := by decide +kernel
theorem dJ7_fill_d0a16_9 : decode cJ7_fill_d0a16 9 = .ok (.if_icmp .ge 13, 3) := by decide +kernel
theorem dJ7_fill_d0a16_12 : decode cJ7_fill_d0a16 12 = .ok (.aload_n 0, 1) := by decide +kernel
theorem dJ7_fill_d0a16_13 : decode cJ7_fill_d0a16 13 = .ok (.iload_n 3, 1) := by decide +kernel
theorem dJ7_fill_d0a16_14 : decode cJ7_fill_d0a16 14 = .ok (.lload_n 1, 1) := by decide +kernel
theorem dJ7_fill_d0a16_15 : decode cJ7_fill_d0a16 15 = .ok (.lastore, 1) := by decide +kernel
theorem dJ7_fill_d0a16_16 : decode cJ7_fill_d0a16 16 = .ok (.iinc 3 1, 3) := by decide +kernel
theorem dJ7_fill_d0a16_19 : decode cJ7_fill_d0a16 19 = .ok (.goto (-13), 3) := by decide +kernel
theorem dJ7_fill_d0a16_22 : decode cJ7_fill_d0a16 22 = .ok (.return_, 1) := by decide +kernel
theorem dJ7_fill_53178_0 : decode cJ7_fill_53178 0 = .ok (.iconst 0, 1) := by decide +kernel
theorem dJ7_fill_53178_1 : decode cJ7_fill_53178 1 = .ok (.istore_n 2, 1) := by decide +kernel
theorem dJ7_fill_53178_2 : decode cJ7_fill_53178 2 = .ok (.aload_n 0, 1) := by decide +kernel
theorem dJ7_fill_53178_3 : decode cJ7_fill_53178 3 = .ok (.arraylength, 1) := by decide +kernel
theorem dJ7_fill_53178_4 : decode cJ7_fill_53178 4 = .ok (.istore_n 3, 1) := by decide +kernel
theorem dJ7_fill_53178_5 : decode cJ7_fill_53178 5 = .ok (.iload_n 2, 1) := by decide +kernel
theorem dJ7_fill_53178_6 : decode cJ7_fill_53178 6 = .ok (.iload_n 3, 1) := by decide +kernel
theorem dJ7_fill_53178_7 : decode cJ7_fill_53178 7 = .ok (.if_icmp .ge 13, 3) := by decide +kernel
theorem dJ7_fill_53178_10 : decode cJ7_fill_53178 10 = .ok (.aload_n 0, 1) := by decide +kernel
theorem dJ7_fill_53178_11 : decode cJ7_fill_53178 11 = .ok (.iload_n 2, 1) := by decide +kernel
theorem dJ7_fill_53178_12 : decode cJ7_fill_53178 12 = .ok (.iload_n 1, 1) := by decide +kernel
theorem dJ7_fill_53178_13 : decode cJ7_fill_53178 13 = .ok (.iastore, 1) := by decide +kernel
theorem dJ7_fill_53178_14 : decode cJ7_fill_53178 14 = .ok (.iinc 2 1, 3) := by decide +kernel
theorem dJ7_fill_53178_17 : decode cJ7_fill_53178 17 = .ok (.goto (-12), 3) := by decide +kernel
theorem dJ7_fill_53178_20 : decode cJ7_fill_53178 20 = .ok (.return_, 1) := by decide +kernel
theorem dJ7_copyOf_1904c_0 : decode cJ7_copyOf_1904c 0 = .ok (.aload_n 0, 1) := by decide +kernel
theorem dJ7_copyOf_1904c_1 : decode cJ7_copyOf_1904c 1 = .ok (.iload_n 1, 1) := by decide +kernel
theorem dJ7_copyOf_1904c_2 : decode cJ7_copyOf_1904c 2 = .ok (.aload_n 0, 1) := by decide +kernel
theorem dJ7_copyOf_1904c_3 : decode cJ7_copyOf_1904c 3 = .ok (.invokevirtual 86, 3) := by decide +kernel
theorem dJ7_copyOf_1904c_6 : decode cJ7_copyOf_1904c 6 = .ok (.invokestatic 300, 3) := by decide +kernel
theorem dJ7_copyOf_1904c_9 : decode cJ7_copyOf_1904c 9 = .ok (.areturn, 1) := by decide +kernel
theorem dJ7_copyOf_6403c_0 : decode cJ7_copyOf_6403c 0 = .ok (.aload_n 2, 1) := by decide +kernel
theorem dJ7_copyOf_6403c_1 : decode cJ7_copyOf_6403c 1 = .ok (.ldc 110, 2) := by decide +kernel
theorem dJ7_copyOf_6403c_3 : decode cJ7_copyOf_6403c 3 = .ok (.if_acmp .ne 10, 3) := by decide +kernel
theorem dJ7_copyOf_6403c_6 : decode cJ7_copyOf_6403c 6 = .ok (.iload_n 1, 1) := by decide +kernel
theorem dJ7_copyOf_6403c_7 : decode cJ7_copyOf_6403c 7 = .ok (.anewarray 2, 3) := by decide +kernel
theorem dJ7_copyOf_6403c_10 : decode cJ7_copyOf_6403c 10 = .ok (.goto 14, 3) := by decide +kernel
theorem dJ7_copyOf_6403c_13 : decode cJ7_copyOf_6403c 13 = .ok (.aload_n 2, 1) := by decide +kernel
theorem dJ7_copyOf_6403c_14 : decode cJ7_copyOf_6403c 14 = .ok (.invokevirtual 90, 3) := by decide +kernel
theorem dJ7_copyOf_6403c_17 : decode cJ7_copyOf_6403c 17 = .ok (.iload_n 1, 1) := by decide +kernel
theorem dJ7_copyOf_6403c_18 : decode cJ7_copyOf_6403c 18 = .ok (.invokestatic 95, 3) := by decide +kernel
theorem dJ7_copyOf_6403c_21 : decode cJ7_copyOf_6403c 21 = .ok (.checkcast 110, 3) := by decide +kernel
theorem dJ7_copyOf_6403c_24 : decode cJ7_copyOf_6403c 24 = .ok (.astore_n 3, 1) := by decide +kernel
theorem dJ7_copyOf_6403c_25 : decode cJ7_copyOf_6403c 25 = .ok (.aload_n 0, 1) := by decide +kernel
theorem dJ7_copyOf_6403c_26 : decode cJ7_copyOf_6403c 26 = .ok (.iconst 0, 1) := by decide +kernel
theorem dJ7_copyOf_6403c_27 : decode cJ7_copyOf_6403c 27 = .ok (.aload_n 3, 1) := by decide +kernel
theorem dJ7_copyOf_6403c_28 : decode cJ7_copyOf_6403c 28 = .ok (.iconst 0, 1) := by decide +kernel
theorem dJ7_copyOf_6403c_29 : decode cJ7_copyOf_6403c 29 = .ok (.aload_n 0, 1) := by decide +kernel
theorem dJ7_copyOf_6403c_30 : decode cJ7_copyOf_6403c 30 = .ok (.arraylength, 1) := by decide +kernel
theorem dJ7_copyOf_6403c_31 : decode cJ7_copyOf_6403c 31 = .ok (.iload_n 1, 1) := by decide +kernel
theorem dJ7_copyOf_6403c_32 : decode cJ7_copyOf_6403c 32 = .ok (.invokestatic 304, 3) := by decide +kernel
theorem dJ7_copyOf_6403c_35 : decode cJ7_copyOf_6403c 35 = .ok (.invokestatic 150, 3) := by decide +kernel
theorem dJ7_copyOf_6403c_38 : decode cJ7_copyOf_6403c 38 = .ok (.aload_n 3, 1) := by decide +kernel
theorem dJ7_copyOf_6403c_39 : decode cJ7_copyOf_6403c 39 = .ok (.areturn, 1) := by decide +kernel
theorem dJ7_copyOf_59c91_0 : decode cJ7_copyOf_59c91 0 = .ok (.iload_n 1, 1) := by decide +kernel
theorem dJ7_copyOf_59c91_1 : decode cJ7_copyOf_59c91 1 = .ok (.aload_n 0, 1) := by decide +kernel
theorem dJ7_copyOf_59c91_2 : decode cJ7_copyOf_59c91 2 = .ok (.arraylength, 1) := by decide +kernel
theorem dJ7_copyOf_59c91_3 : decode cJ7_copyOf_59c91 3 = .ok (.if_icmp .ne 11, 3) := by decide +kernel
theorem dJ7_copyOf_59c91_6 : decode cJ7_copyOf_59c91 6 = .ok (.aload_n 0, 1) := by decide +kernel
theorem dJ7_copyOf_59c91_7 : decode cJ7_copyOf_59c91 7 = .ok (.invokevirtual 316, 3) := by decide +kernel
theorem dJ7_copyOf_59c91_10 : decode cJ7_copyOf_59c91 10 = .ok (.checkcast 317, 3) := by decide +kernel
theorem dJ7_copyOf_59c91_13 : decode cJ7_copyOf_59c91 13 = .ok (.areturn, 1) := by decide +kernel
theorem dJ7_copyOf_59c91_14 : decode cJ7_copyOf_59c91 14 = .ok (.iload_n 1, 1) := by decide +kernel
theorem dJ7_copyOf_59c91_15 : decode cJ7_copyOf_59c91 15 = .ok (.newarray .int, 2) := by decide +kernel
theorem dJ7_copyOf_59c91_17 : decode cJ7_copyOf_59c91 17 = .ok (.astore_n 2, 1) := by decide +kernel
theorem dJ7_copyOf_59c91_18 : decode cJ7_copyOf_59c91 18 = .ok (.aload_n 0, 1) := by decide +kernel
theorem dJ7_copyOf_59c91_19 : decode cJ7_copyOf_59c91 19 = .ok (.iconst 0, 1) := by decide +kernel
theorem dJ7_copyOf_59c91_20 : decode cJ7_copyOf_59c91 20 = .ok (.aload_n 2, 1) := by decide +kernel
theorem dJ7_copyOf_59c91_21 : decode cJ7_copyOf_59c91 21 = .ok (.iconst 0, 1) := by decide +kernel
theorem dJ7_copyOf_59c91_22 : decode cJ7_copyOf_59c91 22 = .ok (.aload_n 0, 1) := by decide +kernel
theorem dJ7_copyOf_59c91_23 : decode cJ7_copyOf_59c91 23 = .ok (.arraylength, 1) := by decide +kernel
theorem dJ7_copyOf_59c91_24 : decode cJ7_copyOf_59c91 24 = .ok (.iload_n 1, 1) := by decide +kernel
theorem dJ7_copyOf_59c91_25 : decode cJ7_copyOf_59c91 25 = .ok (.invokestatic 304, 3) := by decide +kernel
theorem dJ7_copyOf_59c91_28 : decode cJ7_copyOf_59c91 28 = .ok (.invokestatic 150, 3) := by decide +kernel
theorem dJ7_copyOf_59c91_31 : decode cJ7_copyOf_59c91 31 = .ok (.aload_n 2, 1) := by decide +kernel
theorem dJ7_copyOf_59c91_32 : decode cJ7_copyOf_59c91 32 = .ok (.areturn, 1) := by decide +kernel
theorem dJ15_checkIndex_7cf53_0 : decode cJ15_checkIndex_7cf53 0 = .ok (.iload_n 0, 1) := by decide +kernel
theorem dJ15_checkIndex_7cf53_1 : decode cJ15_checkIndex_7cf53 1 = .ok (.iload_n 1, 1) := by decide +kernel
theorem dJ15_checkIndex_7cf53_2 : decode cJ15_checkIndex_7cf53 2 = .ok (.aconst_null, 1) := by decide +kernel
theorem dJ15_checkIndex_7cf53_3 : decode cJ15_checkIndex_7cf53 3 = .ok (.invokestatic 105, 3) := by decide +kernel
theorem dJ15_checkIndex_7cf53_6 : decode cJ15_checkIndex_7cf53 6 = .ok (.ireturn, 1) := by decide +kernel
theorem dJ8_newLength_cabcc_0 : decode cJ8_newLength_cabcc 0 = .ok (.iload_n 0, 1) := by decide +kernel
theorem dJ8_newLength_cabcc_1 : decode cJ8_newLength_cabcc 1 = .ok (.iload_n 1, 1) := by decide +kernel
theorem dJ8_newLength_cabcc_2 : decode cJ8_newLength_cabcc 2 = .ok (.iload_n 2, 1) := by decide +kernel
theorem dJ8_newLength_cabcc_3 : decode cJ8_newLength_cabcc 3 = .ok (.invokestatic 194, 3) := by decide +kernel
theorem dJ8_newLength_cabcc_6 : decode cJ8_newLength_cabcc 6 = .ok (.iadd, 1) := by decide +kernel
theorem dJ8_newLength_cabcc_7 : decode cJ8_newLength_cabcc 7 = .ok (.istore_n 3, 1) := by decide +kernel
theorem dJ8_newLength_cabcc_8 : decode cJ8_newLength_cabcc 8 = .ok (.iconst 0, 1) := by decide +kernel
theorem dJ8_newLength_cabcc_9 : decode cJ8_newLength_cabcc 9 = .ok (.iload_n 3, 1) := by decide +kernel
theorem dJ8_newLength_cabcc_10 : decode cJ8_newLength_cabcc 10 = .ok (.if_icmp .ge 11, 3) := by decide +kernel
theorem dJ8_newLength_cabcc_13 : decode cJ8_newLength_cabcc 13 = .ok (.iload_n 3, 1) := by decide +kernel
theorem dJ8_newLength_cabcc_14 : decode cJ8_newLength_cabcc 14 = .ok (.ldc 200, 2) := by decide +kernel
theorem dJ8_newLength_cabcc_16 : decode cJ8_newLength_cabcc 16 = .ok (.if_icmp .gt 5, 3) := by decide +kernel
theorem dJ8_newLength_cabcc_19 : decode cJ8_newLength_cabcc 19 = .ok (.iload_n 3, 1) := by decide +kernel
theorem dJ8_newLength_cabcc_20 : decode cJ8_newLength_cabcc 20 = .ok (.ireturn, 1) := by decide +kernel
theorem dJ8_newLength_cabcc_21 : decode cJ8_newLength_cabcc 21 = .ok (.iload_n 0, 1) := by decide +kernel
theorem dJ8_newLength_cabcc_22 : decode cJ8_newLength_cabcc 22 = .ok (.iload_n 1, 1) := by decide +kernel
theorem dJ8_newLength_cabcc_23 : decode cJ8_newLength_cabcc 23 = .ok (.invokestatic 201, 3) := by decide +kernel
theorem dJ8_newLength_cabcc_26 : decode cJ8_newLength_cabcc 26 = .ok (.ireturn, 1) := by decide +kernel
theorem dJ8_hugeLength_7cf53_0 : decode cJ8_hugeLength_7cf53 0 = .ok (.iload_n 0, 1) := by decide +kernel
theorem dJ8_hugeLength_7cf53_1 : decode cJ8_hugeLength_7cf53 1 = .ok (.iload_n 1, 1) := by decide +kernel
theorem dJ8_hugeLength_7cf53_2 : decode cJ8_hugeLength_7cf53 2 = .ok (.iadd, 1) := by decide +kernel
theorem dJ8_hugeLength_7cf53_3 : decode cJ8_hugeLength_7cf53 3 = .ok (.istore_n 2, 1) := by decide +kernel
theorem dJ8_hugeLength_7cf53_4 : decode cJ8_hugeLength_7cf53 4 = .ok (.iload_n 2, 1) := by decide +kernel
theorem dJ8_hugeLength_7cf53_5 : decode cJ8_hugeLength_7cf53 5 = .ok (.ifCond .ge 44, 3) := by decide +kernel
theorem dJ8_hugeLength_7cf53_8 : decode cJ8_hugeLength_7cf53 8 = .ok (.new 204, 3) := by decide +kernel
theorem dJ8_hugeLength_7cf53_11 : decode cJ8_hugeLength_7cf53 11 = .ok (.dup, 1) := by decide +kernel
theorem dJ8_hugeLength_7cf53_12 : decode cJ8_hugeLength_7cf53 12 = .ok (.new 89, 3) := by decide +kernel
theorem dJ8_hugeLength_7cf53_15 : decode cJ8_hugeLength_7cf53 15 = .ok (.dup, 1) := by decide +kernel
theorem dJ8_hugeLength_7cf53_16 : decode cJ8_hugeLength_7cf53 16 = .ok (.invokespecial 91, 3) := by decide +kernel
theorem dJ8_hugeLength_7cf53_19 : decode cJ8_hugeLength_7cf53 19 = .ok (.ldc 206, 2) := by decide +kernel
theorem dJ8_hugeLength_7cf53_21 : decode cJ8_hugeLength_7cf53 21 = .ok (.invokevirtual 94, 3) := by decide +kernel
theorem dJ8_hugeLength_7cf53_24 : decode cJ8_hugeLength_7cf53 24 = .ok (.iload_n 0, 1) := by decide +kernel
theorem dJ8_hugeLength_7cf53_25 : decode cJ8_hugeLength_7cf53 25 = .ok (.invokevirtual 98, 3) := by decide +kernel
theorem dJ8_hugeLength_7cf53_28 : decode cJ8_hugeLength_7cf53 28 = .ok (.ldc 208, 2) := by decide +kernel
theorem dJ8_hugeLength_7cf53_30 : decode cJ8_hugeLength_7cf53 30 = .ok (.invokevirtual 94, 3) := by decide +kernel
theorem dJ8_hugeLength_7cf53_33 : decode cJ8_hugeLength_7cf53 33 = .ok (.iload_n 1, 1) := by decide +kernel
theorem dJ8_hugeLength_7cf53_34 : decode cJ8_hugeLength_7cf53 34 = .ok (.invokevirtual 98, 3) := by decide +kernel
theorem dJ8_hugeLength_7cf53_37 : decode cJ8_hugeLength_7cf53 37 = .ok (.ldc 210, 2) := by decide +kernel
theorem dJ8_hugeLength_7cf53_39 : decode cJ8_hugeLength_7cf53 39 = .ok (.invokevirtual 94, 3) := by decide +kernel
theorem dJ8_hugeLength_7cf53_42 : decode cJ8_hugeLength_7cf53 42 = .ok (.invokevirtual 101, 3) := by decide +kernel
theorem dJ8_hugeLength_7cf53_45 : decode cJ8_hugeLength_7cf53 45 = .ok (.invokespecial 212, 3) := by decide +kernel
theorem dJ8_hugeLength_7cf53_48 : decode cJ8_hugeLength_7cf53 48 = .ok (.athrow, 1) := by decide +kernel
theorem dJ8_hugeLength_7cf53_49 : decode cJ8_hugeLength_7cf53 49 = .ok (.iload_n 2, 1) := by decide +kernel
theorem dJ8_hugeLength_7cf53_50 : decode cJ8_hugeLength_7cf53 50 = .ok (.ldc 200, 2) := by decide +kernel
theorem dJ8_hugeLength_7cf53_52 : decode cJ8_hugeLength_7cf53 52 = .ok (.if_icmp .gt 6, 3) := by decide +kernel
theorem dJ8_hugeLength_7cf53_55 : decode cJ8_hugeLength_7cf53 55 = .ok (.ldc 200, 2) := by decide +kernel
theorem dJ8_hugeLength_7cf53_57 : decode cJ8_hugeLength_7cf53 57 = .ok (.ireturn, 1) := by decide +kernel
theorem dJ8_hugeLength_7cf53_58 : decode cJ8_hugeLength_7cf53 58 = .ok (.iload_n 2, 1) := by decide +kernel
theorem dJ8_hugeLength_7cf53_59 : decode cJ8_hugeLength_7cf53 59 = .ok (.ireturn, 1) := by decide +kernel
theorem dJ3_checkIndex_8e157_0 : decode cJ3_checkIndex_8e157 0 = .ok (.iload_n 0, 1) := by decide +kernel
theorem dJ3_checkIndex_8e157_1 : decode cJ3_checkIndex_8e157 1 = .ok (.ifCond .lt 8, 3) := by decide +kernel
theorem dJ3_checkIndex_8e157_4 : decode cJ3_checkIndex_8e157 4 = .ok (.iload_n 0, 1) := by decide +kernel
theorem dJ3_checkIndex_8e157_5 : decode cJ3_checkIndex_8e157 5 = .ok (.iload_n 1, 1) := by decide +kernel
theorem dJ3_checkIndex_8e157_6 : decode cJ3_checkIndex_8e157 6 = .ok (.if_icmp .lt 10, 3) := by decide +kernel
theorem dJ3_checkIndex_8e157_9 : decode cJ3_checkIndex_8e157 9 = .ok (.aload_n 2, 1) := by decide +kernel
theorem dJ3_checkIndex_8e157_10 : decode cJ3_checkIndex_8e157 10 = .ok (.iload_n 0, 1) := by decide +kernel
theorem dJ3_checkIndex_8e157_11 : decode cJ3_checkIndex_8e157 11 = .ok (.iload_n 1, 1) := by decide +kernel
theorem dJ3_checkIndex_8e157_12 : decode cJ3_checkIndex_8e157 12 = .ok (.invokestatic 95, 3) := by decide +kernel
theorem dJ3_checkIndex_8e157_15 : decode cJ3_checkIndex_8e157 15 = .ok (.athrow, 1) := by decide +kernel
theorem dJ3_checkIndex_8e157_16 : decode cJ3_checkIndex_8e157 16 = .ok (.iload_n 0, 1) := by decide +kernel
theorem dJ3_checkIndex_8e157_17 : decode cJ3_checkIndex_8e157 17 = .ok (.ireturn, 1) := by decide +kernel
theorem dL_law_0 : decode cL_law 0 = .ok (.new 7, 3) := by decide +kernel
theorem dL_law_3 : decode cL_law 3 = .ok (.dup, 1) := by decide +kernel
theorem dL_law_4 : decode cL_law 4 = .ok (.invokespecial 9, 3) := by decide +kernel
theorem dL_law_7 : decode cL_law 7 = .ok (.astore_n 1, 1) := by decide +kernel
theorem dL_law_8 : decode cL_law 8 = .ok (.new 10, 3) := by decide +kernel
theorem dL_law_11 : decode cL_law 11 = .ok (.dup, 1) := by decide +kernel
theorem dL_law_12 : decode cL_law 12 = .ok (.invokespecial 12, 3) := by decide +kernel
theorem dL_law_15 : decode cL_law 15 = .ok (.astore_n 2, 1) := by decide +kernel
theorem dL_law_16 : decode cL_law 16 = .ok (.iconst 0, 1) := by decide +kernel
theorem dL_law_17 : decode cL_law 17 = .ok (.istore_n 3, 1) := by decide +kernel
theorem dL_law_18 : decode cL_law 18 = .ok (.iload_n 3, 1) := by decide +kernel
theorem dL_law_19 : decode cL_law 19 = .ok (.aload_n 0, 1) := by decide +kernel
theorem dL_law_20 : decode cL_law 20 = .ok (.arraylength, 1) := by decide +kernel
theorem dL_law_21 : decode cL_law 21 = .ok (.bipush 9, 2) := by decide +kernel
theorem dL_law_23 : decode cL_law 23 = .ok (.isub, 1) := by decide +kernel
theorem dL_law_24 : decode cL_law 24 = .ok (.if_icmp .gt 1854, 3) := by decide +kernel
theorem dL_law_27 : decode cL_law 27 = .ok (.aload_n 0, 1) := by decide +kernel
theorem dL_law_28 : decode cL_law 28 = .ok (.iload_n 3, 1) := by decide +kernel
theorem dL_law_29 : decode cL_law 29 = .ok (.iaload, 1) := by decide +kernel
theorem dL_law_30 : decode cL_law 30 = .ok (.bipush 63, 2) := by decide +kernel
theorem dL_law_32 : decode cL_law 32 = .ok (.iand, 1) := by decide +kernel
theorem dL_law_33 : decode cL_law 33 = .ok (.tableswitch 1839 0 41 #[183, 216, 239, 282, 305, 404, 427, 480, 533, 596, 639, 702, 745, 820, 919, 952, 975, 1008, 1031, 1074, 1123, 1156, 1179, 1202, 1235, 1268, 1311, 1344, 1397, 1440, 1473, 1506, 1539, 1572, 1595, 1648, 1681, 1724, 1747, 1770, 1793, 1816], 183) := by decide +kernel
theorem dL_law_216 : decode cL_law 216 = .ok (.aload_n 1, 1) := by decide +kernel
theorem dL_law_217 : decode cL_law 217 = .ok (.aload_n 0, 1) := by decide +kernel
theorem dL_law_218 : decode cL_law 218 = .ok (.iload_n 3, 1) := by decide +kernel
theorem dL_law_219 : decode cL_law 219 = .ok (.iconst 1, 1) := by decide +kernel
theorem dL_law_220 : decode cL_law 220 = .ok (.iadd, 1) := by decide +kernel
theorem dL_law_221 : decode cL_law 221 = .ok (.iaload, 1) := by decide +kernel
theorem dL_law_222 : decode cL_law 222 = .ok (.aload_n 0, 1) := by decide +kernel
theorem dL_law_223 : decode cL_law 223 = .ok (.iload_n 3, 1) := by decide +kernel
theorem dL_law_224 : decode cL_law 224 = .ok (.iconst 2, 1) := by decide +kernel
theorem dL_law_225 : decode cL_law 225 = .ok (.iadd, 1) := by decide +kernel
theorem dL_law_226 : decode cL_law 226 = .ok (.iaload, 1) := by decide +kernel
theorem dL_law_227 : decode cL_law 227 = .ok (.invokevirtual 13, 3) := by decide +kernel
theorem dL_law_230 : decode cL_law 230 = .ok (.aload_n 2, 1) := by decide +kernel
theorem dL_law_231 : decode cL_law 231 = .ok (.aload_n 0, 1) := by decide +kernel
theorem dL_law_232 : decode cL_law 232 = .ok (.iload_n 3, 1) := by decide +kernel
theorem dL_law_233 : decode cL_law 233 = .ok (.iconst 1, 1) := by decide +kernel
theorem dL_law_234 : decode cL_law 234 = .ok (.iadd, 1) := by decide +kernel
theorem dL_law_235 : decode cL_law 235 = .ok (.iaload, 1) := by decide +kernel
theorem dL_law_236 : decode cL_law 236 = .ok (.aload_n 0, 1) := by decide +kernel
theorem dL_law_237 : decode cL_law 237 = .ok (.iload_n 3, 1) := by decide +kernel
theorem dL_law_238 : decode cL_law 238 = .ok (.iconst 2, 1) := by decide +kernel
theorem dL_law_239 : decode cL_law 239 = .ok (.iadd, 1) := by decide +kernel
theorem dL_law_240 : decode cL_law 240 = .ok (.iaload, 1) := by decide +kernel
theorem dL_law_241 : decode cL_law 241 = .ok (.invokevirtual 17, 3) := by decide +kernel
theorem dL_law_244 : decode cL_law 244 = .ok (.if_icmp .eq 1628, 3) := by decide +kernel
theorem dL_law_247 : decode cL_law 247 = .ok (.iconst 0, 1) := by decide +kernel
theorem dL_law_248 : decode cL_law 248 = .ok (.ireturn, 1) := by decide +kernel
theorem dL_law_249 : decode cL_law 249 = .ok (.aload_n 1, 1) := by decide +kernel
theorem dL_law_250 : decode cL_law 250 = .ok (.aload_n 0, 1) := by decide +kernel
theorem dL_law_251 : decode cL_law 251 = .ok (.iload_n 3, 1) := by decide +kernel
theorem dL_law_252 : decode cL_law 252 = .ok (.iconst 1, 1) := by decide +kernel
theorem dL_law_253 : decode cL_law 253 = .ok (.iadd, 1) := by decide +kernel
theorem dL_law_254 : decode cL_law 254 = .ok (.iaload, 1) := by decide +kernel
theorem dL_law_255 : decode cL_law 255 = .ok (.invokevirtual 18, 3) := by decide +kernel
theorem dL_law_258 : decode cL_law 258 = .ok (.aload_n 2, 1) := by decide +kernel
theorem dL_law_259 : decode cL_law 259 = .ok (.aload_n 0, 1) := by decide +kernel
theorem dL_law_260 : decode cL_law 260 = .ok (.iload_n 3, 1) := by decide +kernel
theorem dL_law_261 : decode cL_law 261 = .ok (.iconst 1, 1) := by decide +kernel
theorem dL_law_262 : decode cL_law 262 = .ok (.iadd, 1) := by decide +kernel
theorem dL_law_263 : decode cL_law 263 = .ok (.iaload, 1) := by decide +kernel
theorem dL_law_264 : decode cL_law 264 = .ok (.invokevirtual 22, 3) := by decide +kernel
theorem dL_law_267 : decode cL_law 267 = .ok (.if_icmp .eq 1605, 3) := by decide +kernel
theorem dL_law_270 : decode cL_law 270 = .ok (.iconst 0, 1) := by decide +kernel
theorem dL_law_271 : decode cL_law 271 = .ok (.ireturn, 1) := by decide +kernel
theorem dL_law_272 : decode cL_law 272 = .ok (.aload_n 1, 1) := by decide +kernel
theorem dL_law_273 : decode cL_law 273 = .ok (.aload_n 0, 1) := by decide +kernel
theorem dL_law_274 : decode cL_law 274 = .ok (.iload_n 3, 1) := by decide +kernel
theorem dL_law_275 : decode cL_law 275 = .ok (.iconst 1, 1) := by decide +kernel
theorem dL_law_276 : decode cL_law 276 = .ok (.iadd, 1) := by decide +kernel
theorem dL_law_277 : decode cL_law 277 = .ok (.iaload, 1) := by decide +kernel
theorem dL_law_278 : decode cL_law 278 = .ok (.aload_n 0, 1) := by decide +kernel
theorem dL_law_279 : decode cL_law 279 = .ok (.iload_n 3, 1) := by decide +kernel
theorem dL_law_280 : decode cL_law 280 = .ok (.iconst 2, 1) := by decide +kernel
theorem dL_law_281 : decode cL_law 281 = .ok (.iadd, 1) := by decide +kernel
theorem dL_law_282 : decode cL_law 282 = .ok (.iaload, 1) := by decide +kernel
theorem dL_law_283 : decode cL_law 283 = .ok (.aload_n 0, 1) := by decide +kernel
theorem dL_law_284 : decode cL_law 284 = .ok (.iload_n 3, 1) := by decide +kernel
theorem dL_law_285 : decode cL_law 285 = .ok (.iconst 3, 1) := by decide +kernel
theorem dL_law_286 : decode cL_law 286 = .ok (.iadd, 1) := by decide +kernel
theorem dL_law_287 : decode cL_law 287 = .ok (.iaload, 1) := by decide +kernel
theorem dL_law_288 : decode cL_law 288 = .ok (.invokevirtual 23, 3) := by decide +kernel
theorem dL_law_291 : decode cL_law 291 = .ok (.aload_n 2, 1) := by decide +kernel
theorem dL_law_292 : decode cL_law 292 = .ok (.aload_n 0, 1) := by decide +kernel
theorem dL_law_293 : decode cL_law 293 = .ok (.iload_n 3, 1) := by decide +kernel
theorem dL_law_294 : decode cL_law 294 = .ok (.iconst 1, 1) := by decide +kernel
theorem dL_law_295 : decode cL_law 295 = .ok (.iadd, 1) := by decide +kernel
theorem dL_law_296 : decode cL_law 296 = .ok (.iaload, 1) := by decide +kernel
theorem dL_law_297 : decode cL_law 297 = .ok (.aload_n 0, 1) := by decide +kernel
theorem dL_law_298 : decode cL_law 298 = .ok (.iload_n 3, 1) := by decide +kernel
theorem dL_law_299 : decode cL_law 299 = .ok (.iconst 2, 1) := by decide +kernel
theorem dL_law_300 : decode cL_law 300 = .ok (.iadd, 1) := by decide +kernel
theorem dL_law_301 : decode cL_law 301 = .ok (.iaload, 1) := by decide +kernel
theorem dL_law_302 : decode cL_law 302 = .ok (.aload_n 0, 1) := by decide +kernel
theorem dL_law_303 : decode cL_law 303 = .ok (.iload_n 3, 1) := by decide +kernel
theorem dL_law_304 : decode cL_law 304 = .ok (.iconst 3, 1) := by decide +kernel
theorem dL_law_305 : decode cL_law 305 = .ok (.iadd, 1) := by decide +kernel
theorem dL_law_306 : decode cL_law 306 = .ok (.iaload, 1) := by decide +kernel
theorem dL_law_307 : decode cL_law 307 = .ok (.invokevirtual 27, 3) := by decide +kernel
theorem dL_law_310 : decode cL_law 310 = .ok (.if_icmp .eq 1562, 3) := by decide +kernel
theorem dL_law_313 : decode cL_law 313 = .ok (.iconst 0, 1) := by decide +kernel
theorem dL_law_314 : decode cL_law 314 = .ok (.ireturn, 1) := by decide +kernel
theorem dL_law_315 : decode cL_law 315 = .ok (.aload_n 1, 1) := by decide +kernel
theorem dL_law_316 : decode cL_law 316 = .ok (.aload_n 0, 1) := by decide +kernel
theorem dL_law_317 : decode cL_law 317 = .ok (.iload_n 3, 1) := by decide +kernel
theorem dL_law_318 : decode cL_law 318 = .ok (.iconst 1, 1) := by decide +kernel
theorem dL_law_319 : decode cL_law 319 = .ok (.iadd, 1) := by decide +kernel
theorem dL_law_320 : decode cL_law 320 = .ok (.iaload, 1) := by decide +kernel
theorem dL_law_321 : decode cL_law 321 = .ok (.invokevirtual 28, 3) := by decide +kernel
theorem dL_law_324 : decode cL_law 324 = .ok (.aload_n 2, 1) := by decide +kernel
theorem dL_law_325 : decode cL_law 325 = .ok (.aload_n 0, 1) := by decide +kernel
theorem dL_law_326 : decode cL_law 326 = .ok (.iload_n 3, 1) := by decide +kernel
theorem dL_law_327 : decode cL_law 327 = .ok (.iconst 1, 1) := by decide +kernel
theorem dL_law_328 : decode cL_law 328 = .ok (.iadd, 1) := by decide +kernel
theorem dL_law_329 : decode cL_law 329 = .ok (.iaload, 1) := by decide +kernel
theorem dL_law_330 : decode cL_law 330 = .ok (.invokevirtual 32, 3) := by decide +kernel
theorem dL_law_333 : decode cL_law 333 = .ok (.if_icmp .eq 1539, 3) := by decide +kernel
theorem dL_law_336 : decode cL_law 336 = .ok (.iconst 0, 1) := by decide +kernel
theorem dL_law_337 : decode cL_law 337 = .ok (.ireturn, 1) := by decide +kernel
theorem dL_law_338 : decode cL_law 338 = .ok (.aload_n 1, 1) := by decide +kernel
theorem dL_law_339 : decode cL_law 339 = .ok (.aload_n 0, 1) := by decide +kernel
theorem dL_law_340 : decode cL_law 340 = .ok (.iload_n 3, 1) := by decide +kernel
theorem dL_law_341 : decode cL_law 341 = .ok (.iconst 1, 1) := by decide +kernel
theorem dL_law_342 : decode cL_law 342 = .ok (.iadd, 1) := by decide +kernel
theorem dL_law_343 : decode cL_law 343 = .ok (.iaload, 1) := by decide +kernel
theorem dL_law_344 : decode cL_law 344 = .ok (.aload_n 0, 1) := by decide +kernel
theorem dL_law_345 : decode cL_law 345 = .ok (.iload_n 3, 1) := by decide +kernel
theorem dL_law_346 : decode cL_law 346 = .ok (.iconst 2, 1) := by decide +kernel
theorem dL_law_347 : decode cL_law 347 = .ok (.iadd, 1) := by decide +kernel
theorem dL_law_348 : decode cL_law 348 = .ok (.iaload, 1) := by decide +kernel
theorem dL_law_349 : decode cL_law 349 = .ok (.aload_n 0, 1) := by decide +kernel
theorem dL_law_350 : decode cL_law 350 = .ok (.iload_n 3, 1) := by decide +kernel
theorem dL_law_351 : decode cL_law 351 = .ok (.iconst 3, 1) := by decide +kernel
theorem dL_law_352 : decode cL_law 352 = .ok (.iadd, 1) := by decide +kernel
theorem dL_law_353 : decode cL_law 353 = .ok (.iaload, 1) := by decide +kernel
theorem dL_law_354 : decode cL_law 354 = .ok (.aload_n 0, 1) := by decide +kernel
theorem dL_law_355 : decode cL_law 355 = .ok (.iload_n 3, 1) := by decide +kernel
theorem dL_law_356 : decode cL_law 356 = .ok (.iconst 4, 1) := by decide +kernel
theorem dL_law_357 : decode cL_law 357 = .ok (.iadd, 1) := by decide +kernel
theorem dL_law_358 : decode cL_law 358 = .ok (.iaload, 1) := by decide +kernel
theorem dL_law_359 : decode cL_law 359 = .ok (.aload_n 0, 1) := by decide +kernel
theorem dL_law_360 : decode cL_law 360 = .ok (.iload_n 3, 1) := by decide +kernel
theorem dL_law_361 : decode cL_law 361 = .ok (.iconst 5, 1) := by decide +kernel
theorem dL_law_362 : decode cL_law 362 = .ok (.iadd, 1) := by decide +kernel
theorem dL_law_363 : decode cL_law 363 = .ok (.iaload, 1) := by decide +kernel
theorem dL_law_364 : decode cL_law 364 = .ok (.aload_n 0, 1) := by decide +kernel
theorem dL_law_365 : decode cL_law 365 = .ok (.iload_n 3, 1) := by decide +kernel
theorem dL_law_366 : decode cL_law 366 = .ok (.bipush 6, 2) := by decide +kernel
theorem dL_law_368 : decode cL_law 368 = .ok (.iadd, 1) := by decide +kernel
theorem dL_law_369 : decode cL_law 369 = .ok (.iaload, 1) := by decide +kernel
theorem dL_law_370 : decode cL_law 370 = .ok (.aload_n 0, 1) := by decide +kernel
theorem dL_law_371 : decode cL_law 371 = .ok (.iload_n 3, 1) := by decide +kernel
theorem dL_law_372 : decode cL_law 372 = .ok (.bipush 7, 2) := by decide +kernel
theorem dL_law_374 : decode cL_law 374 = .ok (.iadd, 1) := by decide +kernel
theorem dL_law_375 : decode cL_law 375 = .ok (.iaload, 1) := by decide +kernel
theorem dL_law_376 : decode cL_law 376 = .ok (.aload_n 0, 1) := by decide +kernel
theorem dL_law_377 : decode cL_law 377 = .ok (.iload_n 3, 1) := by decide +kernel
theorem dL_law_378 : decode cL_law 378 = .ok (.bipush 8, 2) := by decide +kernel
theorem dL_law_380 : decode cL_law 380 = .ok (.iadd, 1) := by decide +kernel
theorem dL_law_381 : decode cL_law 381 = .ok (.iaload, 1) := by decide +kernel
theorem dL_law_382 : decode cL_law 382 = .ok (.invokevirtual 33, 3) := by decide +kernel
theorem dL_law_385 : decode cL_law 385 = .ok (.aload_n 2, 1) := by decide +kernel
theorem dL_law_386 : decode cL_law 386 = .ok (.aload_n 0, 1) := by decide +kernel
theorem dL_law_387 : decode cL_law 387 = .ok (.iload_n 3, 1) := by decide +kernel
theorem dL_law_388 : decode cL_law 388 = .ok (.iconst 1, 1) := by decide +kernel
theorem dL_law_389 : decode cL_law 389 = .ok (.iadd, 1) := by decide +kernel
theorem dL_law_390 : decode cL_law 390 = .ok (.iaload, 1) := by decide +kernel
theorem dL_law_391 : decode cL_law 391 = .ok (.aload_n 0, 1) := by decide +kernel
theorem dL_law_392 : decode cL_law 392 = .ok (.iload_n 3, 1) := by decide +kernel
theorem dL_law_393 : decode cL_law 393 = .ok (.iconst 2, 1) := by decide +kernel
theorem dL_law_394 : decode cL_law 394 = .ok (.iadd, 1) := by decide +kernel
theorem dL_law_395 : decode cL_law 395 = .ok (.iaload, 1) := by decide +kernel
theorem dL_law_396 : decode cL_law 396 = .ok (.aload_n 0, 1) := by decide +kernel
theorem dL_law_397 : decode cL_law 397 = .ok (.iload_n 3, 1) := by decide +kernel
theorem dL_law_398 : decode cL_law 398 = .ok (.iconst 3, 1) := by decide +kernel
theorem dL_law_399 : decode cL_law 399 = .ok (.iadd, 1) := by decide +kernel
theorem dL_law_400 : decode cL_law 400 = .ok (.iaload, 1) := by decide +kernel
theorem dL_law_401 : decode cL_law 401 = .ok (.aload_n 0, 1) := by decide +kernel
theorem dL_law_402 : decode cL_law 402 = .ok (.iload_n 3, 1) := by decide +kernel
theorem dL_law_403 : decode cL_law 403 = .ok (.iconst 4, 1) := by decide +kernel
theorem dL_law_404 : decode cL_law 404 = .ok (.iadd, 1) := by decide +kernel
theorem dL_law_405 : decode cL_law 405 = .ok (.iaload, 1) := by decide +kernel
theorem dL_law_406 : decode cL_law 406 = .ok (.aload_n 0, 1) := by decide +kernel
theorem dL_law_407 : decode cL_law 407 = .ok (.iload_n 3, 1) := by decide +kernel
theorem dL_law_408 : decode cL_law 408 = .ok (.iconst 5, 1) := by decide +kernel
theorem dL_law_409 : decode cL_law 409 = .ok (.iadd, 1) := by decide +kernel
theorem dL_law_410 : decode cL_law 410 = .ok (.iaload, 1) := by decide +kernel
theorem dL_law_411 : decode cL_law 411 = .ok (.aload_n 0, 1) := by decide +kernel
theorem dL_law_412 : decode cL_law 412 = .ok (.iload_n 3, 1) := by decide +kernel
theorem dL_law_413 : decode cL_law 413 = .ok (.bipush 6, 2) := by decide +kernel
theorem dL_law_415 : decode cL_law 415 = .ok (.iadd, 1) := by decide +kernel
theorem dL_law_416 : decode cL_law 416 = .ok (.iaload, 1) := by decide +kernel
theorem dL_law_417 : decode cL_law 417 = .ok (.aload_n 0, 1) := by decide +kernel
theorem dL_law_418 : decode cL_law 418 = .ok (.iload_n 3, 1) := by decide +kernel
theorem dL_law_419 : decode cL_law 419 = .ok (.bipush 7, 2) := by decide +kernel
theorem dL_law_421 : decode cL_law 421 = .ok (.iadd, 1) := by decide +kernel
theorem dL_law_422 : decode cL_law 422 = .ok (.iaload, 1) := by decide +kernel
theorem dL_law_423 : decode cL_law 423 = .ok (.aload_n 0, 1) := by decide +kernel
theorem dL_law_424 : decode cL_law 424 = .ok (.iload_n 3, 1) := by decide +kernel
theorem dL_law_425 : decode cL_law 425 = .ok (.bipush 8, 2) := by decide +kernel
theorem dL_law_427 : decode cL_law 427 = .ok (.iadd, 1) := by decide +kernel
theorem dL_law_428 : decode cL_law 428 = .ok (.iaload, 1) := by decide +kernel
theorem dL_law_429 : decode cL_law 429 = .ok (.invokevirtual 37, 3) := by decide +kernel
theorem dL_law_432 : decode cL_law 432 = .ok (.if_icmp .eq 1440, 3) := by decide +kernel
theorem dL_law_435 : decode cL_law 435 = .ok (.iconst 0, 1) := by decide +kernel
theorem dL_law_436 : decode cL_law 436 = .ok (.ireturn, 1) := by decide +kernel
theorem dL_law_437 : decode cL_law 437 = .ok (.aload_n 1, 1) := by decide +kernel
theorem dL_law_438 : decode cL_law 438 = .ok (.aload_n 0, 1) := by decide +kernel
theorem dL_law_439 : decode cL_law 439 = .ok (.iload_n 3, 1) := by decide +kernel
theorem dL_law_440 : decode cL_law 440 = .ok (.iconst 1, 1) := by decide +kernel
theorem dL_law_441 : decode cL_law 441 = .ok (.iadd, 1) := by decide +kernel
theorem dL_law_442 : decode cL_law 442 = .ok (.iaload, 1) := by decide +kernel
theorem dL_law_443 : decode cL_law 443 = .ok (.invokevirtual 38, 3) := by decide +kernel
theorem dL_law_446 : decode cL_law 446 = .ok (.aload_n 2, 1) := by decide +kernel
theorem dL_law_447 : decode cL_law 447 = .ok (.aload_n 0, 1) := by decide +kernel
theorem dL_law_448 : decode cL_law 448 = .ok (.iload_n 3, 1) := by decide +kernel
theorem dL_law_449 : decode cL_law 449 = .ok (.iconst 1, 1) := by decide +kernel
theorem dL_law_450 : decode cL_law 450 = .ok (.iadd, 1) := by decide +kernel
theorem dL_law_451 : decode cL_law 451 = .ok (.iaload, 1) := by decide +kernel
theorem dL_law_452 : decode cL_law 452 = .ok (.invokevirtual 41, 3) := by decide +kernel
theorem dL_law_455 : decode cL_law 455 = .ok (.if_icmp .eq 1417, 3) := by decide +kernel
theorem dL_law_458 : decode cL_law 458 = .ok (.iconst 0, 1) := by decide +kernel
theorem dL_law_459 : decode cL_law 459 = .ok (.ireturn, 1) := by decide +kernel
theorem dL_law_460 : decode cL_law 460 = .ok (.aload_n 1, 1) := by decide +kernel
theorem dL_law_461 : decode cL_law 461 = .ok (.aload_n 0, 1) := by decide +kernel
theorem dL_law_462 : decode cL_law 462 = .ok (.iload_n 3, 1) := by decide +kernel
theorem dL_law_463 : decode cL_law 463 = .ok (.iconst 1, 1) := by decide +kernel
theorem dL_law_464 : decode cL_law 464 = .ok (.iadd, 1) := by decide +kernel
theorem dL_law_465 : decode cL_law 465 = .ok (.iaload, 1) := by decide +kernel
theorem dL_law_466 : decode cL_law 466 = .ok (.aload_n 0, 1) := by decide +kernel
theorem dL_law_467 : decode cL_law 467 = .ok (.iload_n 3, 1) := by decide +kernel
theorem dL_law_468 : decode cL_law 468 = .ok (.iconst 2, 1) := by decide +kernel
theorem dL_law_469 : decode cL_law 469 = .ok (.iadd, 1) := by decide +kernel
theorem dL_law_470 : decode cL_law 470 = .ok (.iaload, 1) := by decide +kernel
theorem dL_law_471 : decode cL_law 471 = .ok (.aload_n 0, 1) := by decide +kernel
theorem dL_law_472 : decode cL_law 472 = .ok (.iload_n 3, 1) := by decide +kernel
theorem dL_law_473 : decode cL_law 473 = .ok (.iconst 3, 1) := by decide +kernel
theorem dL_law_474 : decode cL_law 474 = .ok (.iadd, 1) := by decide +kernel
theorem dL_law_475 : decode cL_law 475 = .ok (.iaload, 1) := by decide +kernel
theorem dL_law_476 : decode cL_law 476 = .ok (.aload_n 0, 1) := by decide +kernel
theorem dL_law_477 : decode cL_law 477 = .ok (.iload_n 3, 1) := by decide +kernel
theorem dL_law_478 : decode cL_law 478 = .ok (.iconst 4, 1) := by decide +kernel
theorem dL_law_479 : decode cL_law 479 = .ok (.iadd, 1) := by decide +kernel
theorem dL_law_480 : decode cL_law 480 = .ok (.iaload, 1) := by decide +kernel
theorem dL_law_481 : decode cL_law 481 = .ok (.invokevirtual 42, 3) := by decide +kernel
theorem dL_law_484 : decode cL_law 484 = .ok (.aload_n 2, 1) := by decide +kernel
theorem dL_law_485 : decode cL_law 485 = .ok (.aload_n 0, 1) := by decide +kernel
theorem dL_law_486 : decode cL_law 486 = .ok (.iload_n 3, 1) := by decide +kernel
theorem dL_law_487 : decode cL_law 487 = .ok (.iconst 1, 1) := by decide +kernel
theorem dL_law_488 : decode cL_law 488 = .ok (.iadd, 1) := by decide +kernel
theorem dL_law_489 : decode cL_law 489 = .ok (.iaload, 1) := by decide +kernel
theorem dL_law_490 : decode cL_law 490 = .ok (.aload_n 0, 1) := by decide +kernel
theorem dL_law_491 : decode cL_law 491 = .ok (.iload_n 3, 1) := by decide +kernel
theorem dL_law_492 : decode cL_law 492 = .ok (.iconst 2, 1) := by decide +kernel
theorem dL_law_493 : decode cL_law 493 = .ok (.iadd, 1) := by decide +kernel
theorem dL_law_494 : decode cL_law 494 = .ok (.iaload, 1) := by decide +kernel
theorem dL_law_495 : decode cL_law 495 = .ok (.aload_n 0, 1) := by decide +kernel
theorem dL_law_496 : decode cL_law 496 = .ok (.iload_n 3, 1) := by decide +kernel
theorem dL_law_497 : decode cL_law 497 = .ok (.iconst 3, 1) := by decide +kernel
theorem dL_law_498 : decode cL_law 498 = .ok (.iadd, 1) := by decide +kernel
theorem dL_law_499 : decode cL_law 499 = .ok (.iaload, 1) := by decide +kernel
theorem dL_law_500 : decode cL_law 500 = .ok (.aload_n 0, 1) := by decide +kernel
theorem dL_law_501 : decode cL_law 501 = .ok (.iload_n 3, 1) := by decide +kernel
theorem dL_law_502 : decode cL_law 502 = .ok (.iconst 4, 1) := by decide +kernel
theorem dL_law_503 : decode cL_law 503 = .ok (.iadd, 1) := by decide +kernel
theorem dL_law_504 : decode cL_law 504 = .ok (.iaload, 1) := by decide +kernel
theorem dL_law_505 : decode cL_law 505 = .ok (.invokevirtual 46, 3) := by decide +kernel
theorem dL_law_508 : decode cL_law 508 = .ok (.if_icmp .eq 1364, 3) := by decide +kernel
theorem dL_law_511 : decode cL_law 511 = .ok (.iconst 0, 1) := by decide +kernel
theorem dL_law_512 : decode cL_law 512 = .ok (.ireturn, 1) := by decide +kernel
theorem dL_law_513 : decode cL_law 513 = .ok (.aload_n 1, 1) := by decide +kernel
theorem dL_law_514 : decode cL_law 514 = .ok (.aload_n 0, 1) := by decide +kernel
theorem dL_law_515 : decode cL_law 515 = .ok (.iload_n 3, 1) := by decide +kernel
theorem dL_law_516 : decode cL_law 516 = .ok (.iconst 1, 1) := by decide +kernel
theorem dL_law_517 : decode cL_law 517 = .ok (.iadd, 1) := by decide +kernel
theorem dL_law_518 : decode cL_law 518 = .ok (.iaload, 1) := by decide +kernel
theorem dL_law_519 : decode cL_law 519 = .ok (.aload_n 0, 1) := by decide +kernel
theorem dL_law_520 : decode cL_law 520 = .ok (.iload_n 3, 1) := by decide +kernel
theorem dL_law_521 : decode cL_law 521 = .ok (.iconst 2, 1) := by decide +kernel
theorem dL_law_522 : decode cL_law 522 = .ok (.iadd, 1) := by decide +kernel
theorem dL_law_523 : decode cL_law 523 = .ok (.iaload, 1) := by decide +kernel
theorem dL_law_524 : decode cL_law 524 = .ok (.aload_n 0, 1) := by decide +kernel
theorem dL_law_525 : decode cL_law 525 = .ok (.iload_n 3, 1) := by decide +kernel
theorem dL_law_526 : decode cL_law 526 = .ok (.iconst 3, 1) := by decide +kernel
theorem dL_law_527 : decode cL_law 527 = .ok (.iadd, 1) := by decide +kernel
theorem dL_law_528 : decode cL_law 528 = .ok (.iaload, 1) := by decide +kernel
theorem dL_law_529 : decode cL_law 529 = .ok (.aload_n 0, 1) := by decide +kernel
theorem dL_law_530 : decode cL_law 530 = .ok (.iload_n 3, 1) := by decide +kernel
theorem dL_law_531 : decode cL_law 531 = .ok (.iconst 4, 1) := by decide +kernel
theorem dL_law_532 : decode cL_law 532 = .ok (.iadd, 1) := by decide +kernel
theorem dL_law_533 : decode cL_law 533 = .ok (.iaload, 1) := by decide +kernel
theorem dL_law_534 : decode cL_law 534 = .ok (.invokevirtual 47, 3) := by decide +kernel
theorem dL_law_537 : decode cL_law 537 = .ok (.aload_n 2, 1) := by decide +kernel
theorem dL_law_538 : decode cL_law 538 = .ok (.aload_n 0, 1) := by decide +kernel
theorem dL_law_539 : decode cL_law 539 = .ok (.iload_n 3, 1) := by decide +kernel
theorem dL_law_540 : decode cL_law 540 = .ok (.iconst 1, 1) := by decide +kernel
theorem dL_law_541 : decode cL_law 541 = .ok (.iadd, 1) := by decide +kernel
theorem dL_law_542 : decode cL_law 542 = .ok (.iaload, 1) := by decide +kernel
theorem dL_law_543 : decode cL_law 543 = .ok (.aload_n 0, 1) := by decide +kernel
theorem dL_law_544 : decode cL_law 544 = .ok (.iload_n 3, 1) := by decide +kernel
theorem dL_law_545 : decode cL_law 545 = .ok (.iconst 2, 1) := by decide +kernel
theorem dL_law_546 : decode cL_law 546 = .ok (.iadd, 1) := by decide +kernel
theorem dL_law_547 : decode cL_law 547 = .ok (.iaload, 1) := by decide +kernel
theorem dL_law_548 : decode cL_law 548 = .ok (.aload_n 0, 1) := by decide +kernel
theorem dL_law_549 : decode cL_law 549 = .ok (.iload_n 3, 1) := by decide +kernel
theorem dL_law_550 : decode cL_law 550 = .ok (.iconst 3, 1) := by decide +kernel
theorem dL_law_551 : decode cL_law 551 = .ok (.iadd, 1) := by decide +kernel
theorem dL_law_552 : decode cL_law 552 = .ok (.iaload, 1) := by decide +kernel
theorem dL_law_553 : decode cL_law 553 = .ok (.aload_n 0, 1) := by decide +kernel
theorem dL_law_554 : decode cL_law 554 = .ok (.iload_n 3, 1) := by decide +kernel
theorem dL_law_555 : decode cL_law 555 = .ok (.iconst 4, 1) := by decide +kernel
theorem dL_law_556 : decode cL_law 556 = .ok (.iadd, 1) := by decide +kernel
theorem dL_law_557 : decode cL_law 557 = .ok (.iaload, 1) := by decide +kernel
theorem dL_law_558 : decode cL_law 558 = .ok (.invokevirtual 50, 3) := by decide +kernel
theorem dL_law_561 : decode cL_law 561 = .ok (.if_icmp .eq 1311, 3) := by decide +kernel
theorem dL_law_564 : decode cL_law 564 = .ok (.iconst 0, 1) := by decide +kernel
theorem dL_law_565 : decode cL_law 565 = .ok (.ireturn, 1) := by decide +kernel
theorem dL_law_566 : decode cL_law 566 = .ok (.aload_n 1, 1) := by decide +kernel
theorem dL_law_567 : decode cL_law 567 = .ok (.aload_n 0, 1) := by decide +kernel
theorem dL_law_568 : decode cL_law 568 = .ok (.iload_n 3, 1) := by decide +kernel
theorem dL_law_569 : decode cL_law 569 = .ok (.iconst 1, 1) := by decide +kernel
theorem dL_law_570 : decode cL_law 570 = .ok (.iadd, 1) := by decide +kernel
theorem dL_law_571 : decode cL_law 571 = .ok (.iaload, 1) := by decide +kernel
theorem dL_law_572 : decode cL_law 572 = .ok (.aload_n 0, 1) := by decide +kernel
theorem dL_law_573 : decode cL_law 573 = .ok (.iload_n 3, 1) := by decide +kernel
theorem dL_law_574 : decode cL_law 574 = .ok (.iconst 2, 1) := by decide +kernel
theorem dL_law_575 : decode cL_law 575 = .ok (.iadd, 1) := by decide +kernel
theorem dL_law_576 : decode cL_law 576 = .ok (.iaload, 1) := by decide +kernel
theorem dL_law_577 : decode cL_law 577 = .ok (.aload_n 0, 1) := by decide +kernel
theorem dL_law_578 : decode cL_law 578 = .ok (.iload_n 3, 1) := by decide +kernel
theorem dL_law_579 : decode cL_law 579 = .ok (.iconst 3, 1) := by decide +kernel
theorem dL_law_580 : decode cL_law 580 = .ok (.iadd, 1) := by decide +kernel
theorem dL_law_581 : decode cL_law 581 = .ok (.iaload, 1) := by decide +kernel
theorem dL_law_582 : decode cL_law 582 = .ok (.aload_n 0, 1) := by decide +kernel
theorem dL_law_583 : decode cL_law 583 = .ok (.iload_n 3, 1) := by decide +kernel
theorem dL_law_584 : decode cL_law 584 = .ok (.iconst 4, 1) := by decide +kernel
theorem dL_law_585 : decode cL_law 585 = .ok (.iadd, 1) := by decide +kernel
theorem dL_law_586 : decode cL_law 586 = .ok (.iaload, 1) := by decide +kernel
theorem dL_law_587 : decode cL_law 587 = .ok (.aload_n 0, 1) := by decide +kernel
theorem dL_law_588 : decode cL_law 588 = .ok (.iload_n 3, 1) := by decide +kernel
theorem dL_law_589 : decode cL_law 589 = .ok (.iconst 5, 1) := by decide +kernel
theorem dL_law_590 : decode cL_law 590 = .ok (.iadd, 1) := by decide +kernel
theorem dL_law_591 : decode cL_law 591 = .ok (.iaload, 1) := by decide +kernel
theorem dL_law_592 : decode cL_law 592 = .ok (.invokevirtual 51, 3) := by decide +kernel
theorem dL_law_595 : decode cL_law 595 = .ok (.aload_n 2, 1) := by decide +kernel
theorem dL_law_596 : decode cL_law 596 = .ok (.aload_n 0, 1) := by decide +kernel
theorem dL_law_597 : decode cL_law 597 = .ok (.iload_n 3, 1) := by decide +kernel
theorem dL_law_598 : decode cL_law 598 = .ok (.iconst 1, 1) := by decide +kernel
theorem dL_law_599 : decode cL_law 599 = .ok (.iadd, 1) := by decide +kernel
theorem dL_law_600 : decode cL_law 600 = .ok (.iaload, 1) := by decide +kernel
theorem dL_law_601 : decode cL_law 601 = .ok (.aload_n 0, 1) := by decide +kernel
theorem dL_law_602 : decode cL_law 602 = .ok (.iload_n 3, 1) := by decide +kernel
theorem dL_law_603 : decode cL_law 603 = .ok (.iconst 2, 1) := by decide +kernel
theorem dL_law_604 : decode cL_law 604 = .ok (.iadd, 1) := by decide +kernel
theorem dL_law_605 : decode cL_law 605 = .ok (.iaload, 1) := by decide +kernel
theorem dL_law_606 : decode cL_law 606 = .ok (.aload_n 0, 1) := by decide +kernel
theorem dL_law_607 : decode cL_law 607 = .ok (.iload_n 3, 1) := by decide +kernel
theorem dL_law_608 : decode cL_law 608 = .ok (.iconst 3, 1) := by decide +kernel
theorem dL_law_609 : decode cL_law 609 = .ok (.iadd, 1) := by decide +kernel
theorem dL_law_610 : decode cL_law 610 = .ok (.iaload, 1) := by decide +kernel
theorem dL_law_611 : decode cL_law 611 = .ok (.aload_n 0, 1) := by decide +kernel
theorem dL_law_612 : decode cL_law 612 = .ok (.iload_n 3, 1) := by decide +kernel
theorem dL_law_613 : decode cL_law 613 = .ok (.iconst 4, 1) := by decide +kernel
theorem dL_law_614 : decode cL_law 614 = .ok (.iadd, 1) := by decide +kernel
theorem dL_law_615 : decode cL_law 615 = .ok (.iaload, 1) := by decide +kernel
theorem dL_law_616 : decode cL_law 616 = .ok (.aload_n 0, 1) := by decide +kernel
theorem dL_law_617 : decode cL_law 617 = .ok (.iload_n 3, 1) := by decide +kernel
theorem dL_law_618 : decode cL_law 618 = .ok (.iconst 5, 1) := by decide +kernel
theorem dL_law_619 : decode cL_law 619 = .ok (.iadd, 1) := by decide +kernel
theorem dL_law_620 : decode cL_law 620 = .ok (.iaload, 1) := by decide +kernel
theorem dL_law_621 : decode cL_law 621 = .ok (.invokevirtual 55, 3) := by decide +kernel
theorem dL_law_624 : decode cL_law 624 = .ok (.if_icmp .eq 1248, 3) := by decide +kernel
theorem dL_law_627 : decode cL_law 627 = .ok (.iconst 0, 1) := by decide +kernel
theorem dL_law_628 : decode cL_law 628 = .ok (.ireturn, 1) := by decide +kernel
theorem dL_law_629 : decode cL_law 629 = .ok (.aload_n 1, 1) := by decide +kernel
theorem dL_law_630 : decode cL_law 630 = .ok (.aload_n 0, 1) := by decide +kernel
theorem dL_law_631 : decode cL_law 631 = .ok (.iload_n 3, 1) := by decide +kernel
theorem dL_law_632 : decode cL_law 632 = .ok (.iconst 1, 1) := by decide +kernel
theorem dL_law_633 : decode cL_law 633 = .ok (.iadd, 1) := by decide +kernel
theorem dL_law_634 : decode cL_law 634 = .ok (.iaload, 1) := by decide +kernel
theorem dL_law_635 : decode cL_law 635 = .ok (.aload_n 0, 1) := by decide +kernel
theorem dL_law_636 : decode cL_law 636 = .ok (.iload_n 3, 1) := by decide +kernel
theorem dL_law_637 : decode cL_law 637 = .ok (.iconst 2, 1) := by decide +kernel
theorem dL_law_638 : decode cL_law 638 = .ok (.iadd, 1) := by decide +kernel
theorem dL_law_639 : decode cL_law 639 = .ok (.iaload, 1) := by decide +kernel
theorem dL_law_640 : decode cL_law 640 = .ok (.aload_n 0, 1) := by decide +kernel
theorem dL_law_641 : decode cL_law 641 = .ok (.iload_n 3, 1) := by decide +kernel
theorem dL_law_642 : decode cL_law 642 = .ok (.iconst 3, 1) := by decide +kernel
theorem dL_law_643 : decode cL_law 643 = .ok (.iadd, 1) := by decide +kernel
theorem dL_law_644 : decode cL_law 644 = .ok (.iaload, 1) := by decide +kernel
theorem dL_law_645 : decode cL_law 645 = .ok (.invokevirtual 56, 3) := by decide +kernel
theorem dL_law_648 : decode cL_law 648 = .ok (.aload_n 2, 1) := by decide +kernel
theorem dL_law_649 : decode cL_law 649 = .ok (.aload_n 0, 1) := by decide +kernel
theorem dL_law_650 : decode cL_law 650 = .ok (.iload_n 3, 1) := by decide +kernel
theorem dL_law_651 : decode cL_law 651 = .ok (.iconst 1, 1) := by decide +kernel
theorem dL_law_652 : decode cL_law 652 = .ok (.iadd, 1) := by decide +kernel
theorem dL_law_653 : decode cL_law 653 = .ok (.iaload, 1) := by decide +kernel
theorem dL_law_654 : decode cL_law 654 = .ok (.aload_n 0, 1) := by decide +kernel
theorem dL_law_655 : decode cL_law 655 = .ok (.iload_n 3, 1) := by decide +kernel
theorem dL_law_656 : decode cL_law 656 = .ok (.iconst 2, 1) := by decide +kernel
theorem dL_law_657 : decode cL_law 657 = .ok (.iadd, 1) := by decide +kernel
theorem dL_law_658 : decode cL_law 658 = .ok (.iaload, 1) := by decide +kernel
theorem dL_law_659 : decode cL_law 659 = .ok (.aload_n 0, 1) := by decide +kernel
theorem dL_law_660 : decode cL_law 660 = .ok (.iload_n 3, 1) := by decide +kernel
theorem dL_law_661 : decode cL_law 661 = .ok (.iconst 3, 1) := by decide +kernel
theorem dL_law_662 : decode cL_law 662 = .ok (.iadd, 1) := by decide +kernel
theorem dL_law_663 : decode cL_law 663 = .ok (.iaload, 1) := by decide +kernel
theorem dL_law_664 : decode cL_law 664 = .ok (.invokevirtual 59, 3) := by decide +kernel
theorem dL_law_667 : decode cL_law 667 = .ok (.if_icmp .eq 1205, 3) := by decide +kernel
theorem dL_law_670 : decode cL_law 670 = .ok (.iconst 0, 1) := by decide +kernel
theorem dL_law_671 : decode cL_law 671 = .ok (.ireturn, 1) := by decide +kernel
theorem dL_law_672 : decode cL_law 672 = .ok (.aload_n 1, 1) := by decide +kernel
theorem dL_law_673 : decode cL_law 673 = .ok (.aload_n 0, 1) := by decide +kernel
theorem dL_law_674 : decode cL_law 674 = .ok (.iload_n 3, 1) := by decide +kernel
theorem dL_law_675 : decode cL_law 675 = .ok (.iconst 1, 1) := by decide +kernel
theorem dL_law_676 : decode cL_law 676 = .ok (.iadd, 1) := by decide +kernel
theorem dL_law_677 : decode cL_law 677 = .ok (.iaload, 1) := by decide +kernel
theorem dL_law_678 : decode cL_law 678 = .ok (.aload_n 0, 1) := by decide +kernel
theorem dL_law_679 : decode cL_law 679 = .ok (.iload_n 3, 1) := by decide +kernel
theorem dL_law_680 : decode cL_law 680 = .ok (.iconst 2, 1) := by decide +kernel
theorem dL_law_681 : decode cL_law 681 = .ok (.iadd, 1) := by decide +kernel
theorem dL_law_682 : decode cL_law 682 = .ok (.iaload, 1) := by decide +kernel
theorem dL_law_683 : decode cL_law 683 = .ok (.aload_n 0, 1) := by decide +kernel
theorem dL_law_684 : decode cL_law 684 = .ok (.iload_n 3, 1) := by decide +kernel
theorem dL_law_685 : decode cL_law 685 = .ok (.iconst 3, 1) := by decide +kernel
theorem dL_law_686 : decode cL_law 686 = .ok (.iadd, 1) := by decide +kernel
theorem dL_law_687 : decode cL_law 687 = .ok (.iaload, 1) := by decide +kernel
theorem dL_law_688 : decode cL_law 688 = .ok (.aload_n 0, 1) := by decide +kernel
theorem dL_law_689 : decode cL_law 689 = .ok (.iload_n 3, 1) := by decide +kernel
theorem dL_law_690 : decode cL_law 690 = .ok (.iconst 4, 1) := by decide +kernel
theorem dL_law_691 : decode cL_law 691 = .ok (.iadd, 1) := by decide +kernel
theorem dL_law_692 : decode cL_law 692 = .ok (.iaload, 1) := by decide +kernel
theorem dL_law_693 : decode cL_law 693 = .ok (.aload_n 0, 1) := by decide +kernel
theorem dL_law_694 : decode cL_law 694 = .ok (.iload_n 3, 1) := by decide +kernel
theorem dL_law_695 : decode cL_law 695 = .ok (.iconst 5, 1) := by decide +kernel
theorem dL_law_696 : decode cL_law 696 = .ok (.iadd, 1) := by decide +kernel
theorem dL_law_697 : decode cL_law 697 = .ok (.iaload, 1) := by decide +kernel
theorem dL_law_698 : decode cL_law 698 = .ok (.invokevirtual 60, 3) := by decide +kernel
theorem dL_law_701 : decode cL_law 701 = .ok (.aload_n 2, 1) := by decide +kernel
theorem dL_law_702 : decode cL_law 702 = .ok (.aload_n 0, 1) := by decide +kernel
theorem dL_law_703 : decode cL_law 703 = .ok (.iload_n 3, 1) := by decide +kernel
theorem dL_law_704 : decode cL_law 704 = .ok (.iconst 1, 1) := by decide +kernel
theorem dL_law_705 : decode cL_law 705 = .ok (.iadd, 1) := by decide +kernel
theorem dL_law_706 : decode cL_law 706 = .ok (.iaload, 1) := by decide +kernel
theorem dL_law_707 : decode cL_law 707 = .ok (.aload_n 0, 1) := by decide +kernel
theorem dL_law_708 : decode cL_law 708 = .ok (.iload_n 3, 1) := by decide +kernel
theorem dL_law_709 : decode cL_law 709 = .ok (.iconst 2, 1) := by decide +kernel
theorem dL_law_710 : decode cL_law 710 = .ok (.iadd, 1) := by decide +kernel
theorem dL_law_711 : decode cL_law 711 = .ok (.iaload, 1) := by decide +kernel
theorem dL_law_712 : decode cL_law 712 = .ok (.aload_n 0, 1) := by decide +kernel
theorem dL_law_713 : decode cL_law 713 = .ok (.iload_n 3, 1) := by decide +kernel
theorem dL_law_714 : decode cL_law 714 = .ok (.iconst 3, 1) := by decide +kernel
theorem dL_law_715 : decode cL_law 715 = .ok (.iadd, 1) := by decide +kernel
theorem dL_law_716 : decode cL_law 716 = .ok (.iaload, 1) := by decide +kernel
theorem dL_law_717 : decode cL_law 717 = .ok (.aload_n 0, 1) := by decide +kernel
theorem dL_law_718 : decode cL_law 718 = .ok (.iload_n 3, 1) := by decide +kernel
theorem dL_law_719 : decode cL_law 719 = .ok (.iconst 4, 1) := by decide +kernel
theorem dL_law_720 : decode cL_law 720 = .ok (.iadd, 1) := by decide +kernel
theorem dL_law_721 : decode cL_law 721 = .ok (.iaload, 1) := by decide +kernel
theorem dL_law_722 : decode cL_law 722 = .ok (.aload_n 0, 1) := by decide +kernel
theorem dL_law_723 : decode cL_law 723 = .ok (.iload_n 3, 1) := by decide +kernel
theorem dL_law_724 : decode cL_law 724 = .ok (.iconst 5, 1) := by decide +kernel
theorem dL_law_725 : decode cL_law 725 = .ok (.iadd, 1) := by decide +kernel
theorem dL_law_726 : decode cL_law 726 = .ok (.iaload, 1) := by decide +kernel
theorem dL_law_727 : decode cL_law 727 = .ok (.invokevirtual 64, 3) := by decide +kernel
theorem dL_law_730 : decode cL_law 730 = .ok (.if_icmp .eq 1142, 3) := by decide +kernel
theorem dL_law_733 : decode cL_law 733 = .ok (.iconst 0, 1) := by decide +kernel
theorem dL_law_734 : decode cL_law 734 = .ok (.ireturn, 1) := by decide +kernel
theorem dL_law_735 : decode cL_law 735 = .ok (.aload_n 1, 1) := by decide +kernel
theorem dL_law_736 : decode cL_law 736 = .ok (.aload_n 0, 1) := by decide +kernel
theorem dL_law_737 : decode cL_law 737 = .ok (.iload_n 3, 1) := by decide +kernel
theorem dL_law_738 : decode cL_law 738 = .ok (.iconst 1, 1) := by decide +kernel
theorem dL_law_739 : decode cL_law 739 = .ok (.iadd, 1) := by decide +kernel
theorem dL_law_740 : decode cL_law 740 = .ok (.iaload, 1) := by decide +kernel
theorem dL_law_741 : decode cL_law 741 = .ok (.aload_n 0, 1) := by decide +kernel
theorem dL_law_742 : decode cL_law 742 = .ok (.iload_n 3, 1) := by decide +kernel
theorem dL_law_743 : decode cL_law 743 = .ok (.iconst 2, 1) := by decide +kernel
theorem dL_law_744 : decode cL_law 744 = .ok (.iadd, 1) := by decide +kernel
theorem dL_law_745 : decode cL_law 745 = .ok (.iaload, 1) := by decide +kernel
theorem dL_law_746 : decode cL_law 746 = .ok (.aload_n 0, 1) := by decide +kernel
theorem dL_law_747 : decode cL_law 747 = .ok (.iload_n 3, 1) := by decide +kernel
theorem dL_law_748 : decode cL_law 748 = .ok (.iconst 3, 1) := by decide +kernel
theorem dL_law_749 : decode cL_law 749 = .ok (.iadd, 1) := by decide +kernel
theorem dL_law_750 : decode cL_law 750 = .ok (.iaload, 1) := by decide +kernel
theorem dL_law_751 : decode cL_law 751 = .ok (.invokevirtual 65, 3) := by decide +kernel
theorem dL_law_754 : decode cL_law 754 = .ok (.aload_n 2, 1) := by decide +kernel
theorem dL_law_755 : decode cL_law 755 = .ok (.aload_n 0, 1) := by decide +kernel
theorem dL_law_756 : decode cL_law 756 = .ok (.iload_n 3, 1) := by decide +kernel
theorem dL_law_757 : decode cL_law 757 = .ok (.iconst 1, 1) := by decide +kernel
theorem dL_law_758 : decode cL_law 758 = .ok (.iadd, 1) := by decide +kernel
theorem dL_law_759 : decode cL_law 759 = .ok (.iaload, 1) := by decide +kernel
theorem dL_law_760 : decode cL_law 760 = .ok (.aload_n 0, 1) := by decide +kernel
theorem dL_law_761 : decode cL_law 761 = .ok (.iload_n 3, 1) := by decide +kernel
theorem dL_law_762 : decode cL_law 762 = .ok (.iconst 2, 1) := by decide +kernel
theorem dL_law_763 : decode cL_law 763 = .ok (.iadd, 1) := by decide +kernel
theorem dL_law_764 : decode cL_law 764 = .ok (.iaload, 1) := by decide +kernel
theorem dL_law_765 : decode cL_law 765 = .ok (.aload_n 0, 1) := by decide +kernel
theorem dL_law_766 : decode cL_law 766 = .ok (.iload_n 3, 1) := by decide +kernel
theorem dL_law_767 : decode cL_law 767 = .ok (.iconst 3, 1) := by decide +kernel
theorem dL_law_768 : decode cL_law 768 = .ok (.iadd, 1) := by decide +kernel
theorem dL_law_769 : decode cL_law 769 = .ok (.iaload, 1) := by decide +kernel
theorem dL_law_770 : decode cL_law 770 = .ok (.invokevirtual 68, 3) := by decide +kernel
theorem dL_law_773 : decode cL_law 773 = .ok (.if_icmp .eq 1099, 3) := by decide +kernel
theorem dL_law_776 : decode cL_law 776 = .ok (.iconst 0, 1) := by decide +kernel
theorem dL_law_777 : decode cL_law 777 = .ok (.ireturn, 1) := by decide +kernel
theorem dL_law_778 : decode cL_law 778 = .ok (.aload_n 1, 1) := by decide +kernel
theorem dL_law_779 : decode cL_law 779 = .ok (.aload_n 0, 1) := by decide +kernel
theorem dL_law_780 : decode cL_law 780 = .ok (.iload_n 3, 1) := by decide +kernel
theorem dL_law_781 : decode cL_law 781 = .ok (.iconst 1, 1) := by decide +kernel
theorem dL_law_782 : decode cL_law 782 = .ok (.iadd, 1) := by decide +kernel
theorem dL_law_783 : decode cL_law 783 = .ok (.iaload, 1) := by decide +kernel
theorem dL_law_784 : decode cL_law 784 = .ok (.aload_n 0, 1) := by decide +kernel
theorem dL_law_785 : decode cL_law 785 = .ok (.iload_n 3, 1) := by decide +kernel
theorem dL_law_786 : decode cL_law 786 = .ok (.iconst 2, 1) := by decide +kernel
theorem dL_law_787 : decode cL_law 787 = .ok (.iadd, 1) := by decide +kernel
theorem dL_law_788 : decode cL_law 788 = .ok (.iaload, 1) := by decide +kernel
theorem dL_law_789 : decode cL_law 789 = .ok (.aload_n 0, 1) := by decide +kernel
theorem dL_law_790 : decode cL_law 790 = .ok (.iload_n 3, 1) := by decide +kernel
theorem dL_law_791 : decode cL_law 791 = .ok (.iconst 3, 1) := by decide +kernel
theorem dL_law_792 : decode cL_law 792 = .ok (.iadd, 1) := by decide +kernel
theorem dL_law_793 : decode cL_law 793 = .ok (.iaload, 1) := by decide +kernel
theorem dL_law_794 : decode cL_law 794 = .ok (.aload_n 0, 1) := by decide +kernel
theorem dL_law_795 : decode cL_law 795 = .ok (.iload_n 3, 1) := by decide +kernel
theorem dL_law_796 : decode cL_law 796 = .ok (.iconst 4, 1) := by decide +kernel
theorem dL_law_797 : decode cL_law 797 = .ok (.iadd, 1) := by decide +kernel
theorem dL_law_798 : decode cL_law 798 = .ok (.iaload, 1) := by decide +kernel
theorem dL_law_799 : decode cL_law 799 = .ok (.aload_n 0, 1) := by decide +kernel
theorem dL_law_800 : decode cL_law 800 = .ok (.iload_n 3, 1) := by decide +kernel
theorem dL_law_801 : decode cL_law 801 = .ok (.iconst 5, 1) := by decide +kernel
theorem dL_law_802 : decode cL_law 802 = .ok (.iadd, 1) := by decide +kernel
theorem dL_law_803 : decode cL_law 803 = .ok (.iaload, 1) := by decide +kernel
theorem dL_law_804 : decode cL_law 804 = .ok (.aload_n 0, 1) := by decide +kernel
theorem dL_law_805 : decode cL_law 805 = .ok (.iload_n 3, 1) := by decide +kernel
theorem dL_law_806 : decode cL_law 806 = .ok (.bipush 6, 2) := by decide +kernel
theorem dL_law_808 : decode cL_law 808 = .ok (.iadd, 1) := by decide +kernel
theorem dL_law_809 : decode cL_law 809 = .ok (.iaload, 1) := by decide +kernel
theorem dL_law_810 : decode cL_law 810 = .ok (.invokevirtual 69, 3) := by decide +kernel
theorem dL_law_813 : decode cL_law 813 = .ok (.aload_n 2, 1) := by decide +kernel
theorem dL_law_814 : decode cL_law 814 = .ok (.aload_n 0, 1) := by decide +kernel
theorem dL_law_815 : decode cL_law 815 = .ok (.iload_n 3, 1) := by decide +kernel
theorem dL_law_816 : decode cL_law 816 = .ok (.iconst 1, 1) := by decide +kernel
theorem dL_law_817 : decode cL_law 817 = .ok (.iadd, 1) := by decide +kernel
theorem dL_law_818 : decode cL_law 818 = .ok (.iaload, 1) := by decide +kernel
theorem dL_law_819 : decode cL_law 819 = .ok (.aload_n 0, 1) := by decide +kernel
theorem dL_law_820 : decode cL_law 820 = .ok (.iload_n 3, 1) := by decide +kernel
theorem dL_law_821 : decode cL_law 821 = .ok (.iconst 2, 1) := by decide +kernel
theorem dL_law_822 : decode cL_law 822 = .ok (.iadd, 1) := by decide +kernel
theorem dL_law_823 : decode cL_law 823 = .ok (.iaload, 1) := by decide +kernel
theorem dL_law_824 : decode cL_law 824 = .ok (.aload_n 0, 1) := by decide +kernel
theorem dL_law_825 : decode cL_law 825 = .ok (.iload_n 3, 1) := by decide +kernel
theorem dL_law_826 : decode cL_law 826 = .ok (.iconst 3, 1) := by decide +kernel
theorem dL_law_827 : decode cL_law 827 = .ok (.iadd, 1) := by decide +kernel
theorem dL_law_828 : decode cL_law 828 = .ok (.iaload, 1) := by decide +kernel
theorem dL_law_829 : decode cL_law 829 = .ok (.aload_n 0, 1) := by decide +kernel
theorem dL_law_830 : decode cL_law 830 = .ok (.iload_n 3, 1) := by decide +kernel
theorem dL_law_831 : decode cL_law 831 = .ok (.iconst 4, 1) := by decide +kernel
theorem dL_law_832 : decode cL_law 832 = .ok (.iadd, 1) := by decide +kernel
theorem dL_law_833 : decode cL_law 833 = .ok (.iaload, 1) := by decide +kernel
theorem dL_law_834 : decode cL_law 834 = .ok (.aload_n 0, 1) := by decide +kernel
theorem dL_law_835 : decode cL_law 835 = .ok (.iload_n 3, 1) := by decide +kernel
theorem dL_law_836 : decode cL_law 836 = .ok (.iconst 5, 1) := by decide +kernel
theorem dL_law_837 : decode cL_law 837 = .ok (.iadd, 1) := by decide +kernel
theorem dL_law_838 : decode cL_law 838 = .ok (.iaload, 1) := by decide +kernel
theorem dL_law_839 : decode cL_law 839 = .ok (.aload_n 0, 1) := by decide +kernel
theorem dL_law_840 : decode cL_law 840 = .ok (.iload_n 3, 1) := by decide +kernel
theorem dL_law_841 : decode cL_law 841 = .ok (.bipush 6, 2) := by decide +kernel
theorem dL_law_843 : decode cL_law 843 = .ok (.iadd, 1) := by decide +kernel
theorem dL_law_844 : decode cL_law 844 = .ok (.iaload, 1) := by decide +kernel
theorem dL_law_845 : decode cL_law 845 = .ok (.invokevirtual 73, 3) := by decide +kernel
theorem dL_law_848 : decode cL_law 848 = .ok (.if_icmp .eq 1024, 3) := by decide +kernel
theorem dL_law_851 : decode cL_law 851 = .ok (.iconst 0, 1) := by decide +kernel
theorem dL_law_852 : decode cL_law 852 = .ok (.ireturn, 1) := by decide +kernel
theorem dL_law_853 : decode cL_law 853 = .ok (.aload_n 1, 1) := by decide +kernel
theorem dL_law_854 : decode cL_law 854 = .ok (.aload_n 0, 1) := by decide +kernel
theorem dL_law_855 : decode cL_law 855 = .ok (.iload_n 3, 1) := by decide +kernel
theorem dL_law_856 : decode cL_law 856 = .ok (.iconst 1, 1) := by decide +kernel
theorem dL_law_857 : decode cL_law 857 = .ok (.iadd, 1) := by decide +kernel
theorem dL_law_858 : decode cL_law 858 = .ok (.iaload, 1) := by decide +kernel
theorem dL_law_859 : decode cL_law 859 = .ok (.aload_n 0, 1) := by decide +kernel
theorem dL_law_860 : decode cL_law 860 = .ok (.iload_n 3, 1) := by decide +kernel
theorem dL_law_861 : decode cL_law 861 = .ok (.iconst 2, 1) := by decide +kernel
theorem dL_law_862 : decode cL_law 862 = .ok (.iadd, 1) := by decide +kernel
theorem dL_law_863 : decode cL_law 863 = .ok (.iaload, 1) := by decide +kernel
theorem dL_law_864 : decode cL_law 864 = .ok (.aload_n 0, 1) := by decide +kernel
theorem dL_law_865 : decode cL_law 865 = .ok (.iload_n 3, 1) := by decide +kernel
theorem dL_law_866 : decode cL_law 866 = .ok (.iconst 3, 1) := by decide +kernel
theorem dL_law_867 : decode cL_law 867 = .ok (.iadd, 1) := by decide +kernel
theorem dL_law_868 : decode cL_law 868 = .ok (.iaload, 1) := by decide +kernel
theorem dL_law_869 : decode cL_law 869 = .ok (.aload_n 0, 1) := by decide +kernel
theorem dL_law_870 : decode cL_law 870 = .ok (.iload_n 3, 1) := by decide +kernel
theorem dL_law_871 : decode cL_law 871 = .ok (.iconst 4, 1) := by decide +kernel
theorem dL_law_872 : decode cL_law 872 = .ok (.iadd, 1) := by decide +kernel
theorem dL_law_873 : decode cL_law 873 = .ok (.iaload, 1) := by decide +kernel
theorem dL_law_874 : decode cL_law 874 = .ok (.aload_n 0, 1) := by decide +kernel
theorem dL_law_875 : decode cL_law 875 = .ok (.iload_n 3, 1) := by decide +kernel
theorem dL_law_876 : decode cL_law 876 = .ok (.iconst 5, 1) := by decide +kernel
theorem dL_law_877 : decode cL_law 877 = .ok (.iadd, 1) := by decide +kernel
theorem dL_law_878 : decode cL_law 878 = .ok (.iaload, 1) := by decide +kernel
theorem dL_law_879 : decode cL_law 879 = .ok (.aload_n 0, 1) := by decide +kernel
theorem dL_law_880 : decode cL_law 880 = .ok (.iload_n 3, 1) := by decide +kernel
theorem dL_law_881 : decode cL_law 881 = .ok (.bipush 6, 2) := by decide +kernel
theorem dL_law_883 : decode cL_law 883 = .ok (.iadd, 1) := by decide +kernel
theorem dL_law_884 : decode cL_law 884 = .ok (.iaload, 1) := by decide +kernel
theorem dL_law_885 : decode cL_law 885 = .ok (.aload_n 0, 1) := by decide +kernel
theorem dL_law_886 : decode cL_law 886 = .ok (.iload_n 3, 1) := by decide +kernel
theorem dL_law_887 : decode cL_law 887 = .ok (.bipush 7, 2) := by decide +kernel
theorem dL_law_889 : decode cL_law 889 = .ok (.iadd, 1) := by decide +kernel
theorem dL_law_890 : decode cL_law 890 = .ok (.iaload, 1) := by decide +kernel
theorem dL_law_891 : decode cL_law 891 = .ok (.aload_n 0, 1) := by decide +kernel
theorem dL_law_892 : decode cL_law 892 = .ok (.iload_n 3, 1) := by decide +kernel
theorem dL_law_893 : decode cL_law 893 = .ok (.bipush 8, 2) := by decide +kernel
theorem dL_law_895 : decode cL_law 895 = .ok (.iadd, 1) := by decide +kernel
theorem dL_law_896 : decode cL_law 896 = .ok (.iaload, 1) := by decide +kernel
theorem dL_law_897 : decode cL_law 897 = .ok (.invokevirtual 74, 3) := by decide +kernel
theorem dL_law_900 : decode cL_law 900 = .ok (.aload_n 2, 1) := by decide +kernel
theorem dL_law_901 : decode cL_law 901 = .ok (.aload_n 0, 1) := by decide +kernel
theorem dL_law_902 : decode cL_law 902 = .ok (.iload_n 3, 1) := by decide +kernel
theorem dL_law_903 : decode cL_law 903 = .ok (.iconst 1, 1) := by decide +kernel
theorem dL_law_904 : decode cL_law 904 = .ok (.iadd, 1) := by decide +kernel
theorem dL_law_905 : decode cL_law 905 = .ok (.iaload, 1) := by decide +kernel
theorem dL_law_906 : decode cL_law 906 = .ok (.aload_n 0, 1) := by decide +kernel
theorem dL_law_907 : decode cL_law 907 = .ok (.iload_n 3, 1) := by decide +kernel
theorem dL_law_908 : decode cL_law 908 = .ok (.iconst 2, 1) := by decide +kernel
theorem dL_law_909 : decode cL_law 909 = .ok (.iadd, 1) := by decide +kernel
theorem dL_law_910 : decode cL_law 910 = .ok (.iaload, 1) := by decide +kernel
theorem dL_law_911 : decode cL_law 911 = .ok (.aload_n 0, 1) := by decide +kernel
theorem dL_law_912 : decode cL_law 912 = .ok (.iload_n 3, 1) := by decide +kernel
theorem dL_law_913 : decode cL_law 913 = .ok (.iconst 3, 1) := by decide +kernel
theorem dL_law_914 : decode cL_law 914 = .ok (.iadd, 1) := by decide +kernel
theorem dL_law_915 : decode cL_law 915 = .ok (.iaload, 1) := by decide +kernel
theorem dL_law_916 : decode cL_law 916 = .ok (.aload_n 0, 1) := by decide +kernel
theorem dL_law_917 : decode cL_law 917 = .ok (.iload_n 3, 1) := by decide +kernel
theorem dL_law_918 : decode cL_law 918 = .ok (.iconst 4, 1) := by decide +kernel
theorem dL_law_919 : decode cL_law 919 = .ok (.iadd, 1) := by decide +kernel
theorem dL_law_920 : decode cL_law 920 = .ok (.iaload, 1) := by decide +kernel
theorem dL_law_921 : decode cL_law 921 = .ok (.aload_n 0, 1) := by decide +kernel
theorem dL_law_922 : decode cL_law 922 = .ok (.iload_n 3, 1) := by decide +kernel
theorem dL_law_923 : decode cL_law 923 = .ok (.iconst 5, 1) := by decide +kernel
theorem dL_law_924 : decode cL_law 924 = .ok (.iadd, 1) := by decide +kernel
theorem dL_law_925 : decode cL_law 925 = .ok (.iaload, 1) := by decide +kernel
theorem dL_law_926 : decode cL_law 926 = .ok (.aload_n 0, 1) := by decide +kernel
theorem dL_law_927 : decode cL_law 927 = .ok (.iload_n 3, 1) := by decide +kernel
theorem dL_law_928 : decode cL_law 928 = .ok (.bipush 6, 2) := by decide +kernel
theorem dL_law_930 : decode cL_law 930 = .ok (.iadd, 1) := by decide +kernel
theorem dL_law_931 : decode cL_law 931 = .ok (.iaload, 1) := by decide +kernel
theorem dL_law_932 : decode cL_law 932 = .ok (.aload_n 0, 1) := by decide +kernel
theorem dL_law_933 : decode cL_law 933 = .ok (.iload_n 3, 1) := by decide +kernel
theorem dL_law_934 : decode cL_law 934 = .ok (.bipush 7, 2) := by decide +kernel
theorem dL_law_936 : decode cL_law 936 = .ok (.iadd, 1) := by decide +kernel
theorem dL_law_937 : decode cL_law 937 = .ok (.iaload, 1) := by decide +kernel
theorem dL_law_938 : decode cL_law 938 = .ok (.aload_n 0, 1) := by decide +kernel
theorem dL_law_939 : decode cL_law 939 = .ok (.iload_n 3, 1) := by decide +kernel
theorem dL_law_940 : decode cL_law 940 = .ok (.bipush 8, 2) := by decide +kernel
theorem dL_law_942 : decode cL_law 942 = .ok (.iadd, 1) := by decide +kernel
theorem dL_law_943 : decode cL_law 943 = .ok (.iaload, 1) := by decide +kernel
theorem dL_law_944 : decode cL_law 944 = .ok (.invokevirtual 77, 3) := by decide +kernel
theorem dL_law_947 : decode cL_law 947 = .ok (.if_icmp .eq 925, 3) := by decide +kernel
theorem dL_law_950 : decode cL_law 950 = .ok (.iconst 0, 1) := by decide +kernel
theorem dL_law_951 : decode cL_law 951 = .ok (.ireturn, 1) := by decide +kernel
theorem dL_law_952 : decode cL_law 952 = .ok (.aload_n 1, 1) := by decide +kernel
theorem dL_law_953 : decode cL_law 953 = .ok (.aload_n 0, 1) := by decide +kernel
theorem dL_law_954 : decode cL_law 954 = .ok (.iload_n 3, 1) := by decide +kernel
theorem dL_law_955 : decode cL_law 955 = .ok (.iconst 1, 1) := by decide +kernel
theorem dL_law_956 : decode cL_law 956 = .ok (.iadd, 1) := by decide +kernel
theorem dL_law_957 : decode cL_law 957 = .ok (.iaload, 1) := by decide +kernel
theorem dL_law_958 : decode cL_law 958 = .ok (.aload_n 0, 1) := by decide +kernel
theorem dL_law_959 : decode cL_law 959 = .ok (.iload_n 3, 1) := by decide +kernel
theorem dL_law_960 : decode cL_law 960 = .ok (.iconst 2, 1) := by decide +kernel
theorem dL_law_961 : decode cL_law 961 = .ok (.iadd, 1) := by decide +kernel
theorem dL_law_962 : decode cL_law 962 = .ok (.iaload, 1) := by decide +kernel
theorem dL_law_963 : decode cL_law 963 = .ok (.invokevirtual 78, 3) := by decide +kernel
theorem dL_law_966 : decode cL_law 966 = .ok (.aload_n 2, 1) := by decide +kernel
theorem dL_law_967 : decode cL_law 967 = .ok (.aload_n 0, 1) := by decide +kernel
theorem dL_law_968 : decode cL_law 968 = .ok (.iload_n 3, 1) := by decide +kernel
theorem dL_law_969 : decode cL_law 969 = .ok (.iconst 1, 1) := by decide +kernel
theorem dL_law_970 : decode cL_law 970 = .ok (.iadd, 1) := by decide +kernel
theorem dL_law_971 : decode cL_law 971 = .ok (.iaload, 1) := by decide +kernel
theorem dL_law_972 : decode cL_law 972 = .ok (.aload_n 0, 1) := by decide +kernel
