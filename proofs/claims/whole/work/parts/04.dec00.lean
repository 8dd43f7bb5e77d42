theorem dX0_init_0 : decode cX0_init 0 = .ok (.aload_n 0, 1) := by decide +kernel
theorem dX0_init_1 : decode cX0_init 1 = .ok (.invokespecial 3, 3) := by decide +kernel
theorem dX0_init_4 : decode cX0_init 4 = .ok (.aload_n 0, 1) := by decide +kernel
theorem dX0_init_5 : decode cX0_init 5 = .ok (.bipush 8, 2) := by decide +kernel
theorem dX0_init_7 : decode cX0_init 7 = .ok (.newarray .int, 2) := by decide +kernel
theorem dX0_init_9 : decode cX0_init 9 = .ok (.putfield 9, 3) := by decide +kernel
theorem dX0_init_12 : decode cX0_init 12 = .ok (.aload_n 0, 1) := by decide +kernel
theorem dX0_init_13 : decode cX0_init 13 = .ok (.bipush 8, 2) := by decide +kernel
theorem dX0_init_15 : decode cX0_init 15 = .ok (.newarray .int, 2) := by decide +kernel
theorem dX0_init_17 : decode cX0_init 17 = .ok (.putfield 15, 3) := by decide +kernel
theorem dX0_init_20 : decode cX0_init 20 = .ok (.aload_n 0, 1) := by decide +kernel
theorem dX0_init_21 : decode cX0_init 21 = .ok (.bipush 8, 2) := by decide +kernel
theorem dX0_init_23 : decode cX0_init 23 = .ok (.newarray .int, 2) := by decide +kernel
theorem dX0_init_25 : decode cX0_init 25 = .ok (.putfield 18, 3) := by decide +kernel
theorem dX0_init_28 : decode cX0_init 28 = .ok (.aload_n 0, 1) := by decide +kernel
theorem dX0_init_29 : decode cX0_init 29 = .ok (.bipush 8, 2) := by decide +kernel
theorem dX0_init_31 : decode cX0_init 31 = .ok (.newarray .int, 2) := by decide +kernel
theorem dX0_init_33 : decode cX0_init 33 = .ok (.putfield 21, 3) := by decide +kernel
theorem dX0_init_36 : decode cX0_init 36 = .ok (.aload_n 0, 1) := by decide +kernel
theorem dX0_init_37 : decode cX0_init 37 = .ok (.bipush 40, 2) := by decide +kernel
theorem dX0_init_39 : decode cX0_init 39 = .ok (.newarray .int, 2) := by decide +kernel
theorem dX0_init_41 : decode cX0_init 41 = .ok (.putfield 24, 3) := by decide +kernel
theorem dX0_init_44 : decode cX0_init 44 = .ok (.aload_n 0, 1) := by decide +kernel
theorem dX0_init_45 : decode cX0_init 45 = .ok (.bipush 40, 2) := by decide +kernel
theorem dX0_init_47 : decode cX0_init 47 = .ok (.newarray .int, 2) := by decide +kernel
theorem dX0_init_49 : decode cX0_init 49 = .ok (.putfield 27, 3) := by decide +kernel
theorem dX0_init_52 : decode cX0_init 52 = .ok (.aload_n 0, 1) := by decide +kernel
theorem dX0_init_53 : decode cX0_init 53 = .ok (.bipush 100, 2) := by decide +kernel
theorem dX0_init_55 : decode cX0_init 55 = .ok (.newarray .int, 2) := by decide +kernel
theorem dX0_init_57 : decode cX0_init 57 = .ok (.putfield 30, 3) := by decide +kernel
theorem dX0_init_60 : decode cX0_init 60 = .ok (.aload_n 0, 1) := by decide +kernel
theorem dX0_init_61 : decode cX0_init 61 = .ok (.bipush 40, 2) := by decide +kernel
theorem dX0_init_63 : decode cX0_init 63 = .ok (.newarray .int, 2) := by decide +kernel
theorem dX0_init_65 : decode cX0_init 65 = .ok (.putfield 33, 3) := by decide +kernel
theorem dX0_init_68 : decode cX0_init 68 = .ok (.aload_n 0, 1) := by decide +kernel
theorem dX0_init_69 : decode cX0_init 69 = .ok (.bipush 40, 2) := by decide +kernel
theorem dX0_init_71 : decode cX0_init 71 = .ok (.newarray .int, 2) := by decide +kernel
theorem dX0_init_73 : decode cX0_init 73 = .ok (.putfield 36, 3) := by decide +kernel
theorem dX0_init_76 : decode cX0_init 76 = .ok (.aload_n 0, 1) := by decide +kernel
theorem dX0_init_77 : decode cX0_init 77 = .ok (.bipush 100, 2) := by decide +kernel
theorem dX0_init_79 : decode cX0_init 79 = .ok (.newarray .int, 2) := by decide +kernel
theorem dX0_init_81 : decode cX0_init 81 = .ok (.putfield 39, 3) := by decide +kernel
theorem dX0_init_84 : decode cX0_init 84 = .ok (.aload_n 0, 1) := by decide +kernel
theorem dX0_init_85 : decode cX0_init 85 = .ok (.bipush 100, 2) := by decide +kernel
theorem dX0_init_87 : decode cX0_init 87 = .ok (.newarray .int, 2) := by decide +kernel
theorem dX0_init_89 : decode cX0_init 89 = .ok (.putfield 42, 3) := by decide +kernel
theorem dX0_init_92 : decode cX0_init 92 = .ok (.aload_n 0, 1) := by decide +kernel
theorem dX0_init_93 : decode cX0_init 93 = .ok (.aload_n 1, 1) := by decide +kernel
theorem dX0_init_94 : decode cX0_init 94 = .ok (.putfield 45, 3) := by decide +kernel
theorem dX0_init_97 : decode cX0_init 97 = .ok (.aload_n 0, 1) := by decide +kernel
theorem dX0_init_98 : decode cX0_init 98 = .ok (.getfield 15, 3) := by decide +kernel
theorem dX0_init_101 : decode cX0_init 101 = .ok (.bipush 99, 2) := by decide +kernel
theorem dX0_init_103 : decode cX0_init 103 = .ok (.invokestatic 49, 3) := by decide +kernel
theorem dX0_init_106 : decode cX0_init 106 = .ok (.aload_n 0, 1) := by decide +kernel
theorem dX0_init_107 : decode cX0_init 107 = .ok (.getfield 30, 3) := by decide +kernel
theorem dX0_init_110 : decode cX0_init 110 = .ok (.bipush 8, 2) := by decide +kernel
theorem dX0_init_112 : decode cX0_init 112 = .ok (.invokestatic 49, 3) := by decide +kernel
theorem dX0_init_115 : decode cX0_init 115 = .ok (.return_, 1) := by decide +kernel
theorem dX0_level_0 : decode cX0_level 0 = .ok (.aload_n 0, 1) := by decide +kernel
theorem dX0_level_1 : decode cX0_level 1 = .ok (.getfield 30, 3) := by decide +kernel
theorem dX0_level_4 : decode cX0_level 4 = .ok (.bipush 8, 2) := by decide +kernel
theorem dX0_level_6 : decode cX0_level 6 = .ok (.invokestatic 49, 3) := by decide +kernel
theorem dX0_level_9 : decode cX0_level 9 = .ok (.return_, 1) := by decide +kernel
theorem dX0_cut_0 : decode cX0_cut 0 = .ok (.aload_n 0, 1) := by decide +kernel
theorem dX0_cut_1 : decode cX0_cut 1 = .ok (.getfield 24, 3) := by decide +kernel
theorem dX0_cut_4 : decode cX0_cut 4 = .ok (.aload_n 0, 1) := by decide +kernel
theorem dX0_cut_5 : decode cX0_cut 5 = .ok (.getfield 55, 3) := by decide +kernel
theorem dX0_cut_8 : decode cX0_cut 8 = .ok (.iload_n 1, 1) := by decide +kernel
theorem dX0_cut_9 : decode cX0_cut 9 = .ok (.iastore, 1) := by decide +kernel
theorem dX0_cut_10 : decode cX0_cut 10 = .ok (.aload_n 0, 1) := by decide +kernel
theorem dX0_cut_11 : decode cX0_cut 11 = .ok (.getfield 27, 3) := by decide +kernel
theorem dX0_cut_14 : decode cX0_cut 14 = .ok (.aload_n 0, 1) := by decide +kernel
theorem dX0_cut_15 : decode cX0_cut 15 = .ok (.getfield 55, 3) := by decide +kernel
theorem dX0_cut_18 : decode cX0_cut 18 = .ok (.iload_n 2, 1) := by decide +kernel
theorem dX0_cut_19 : decode cX0_cut 19 = .ok (.iastore, 1) := by decide +kernel
theorem dX0_cut_20 : decode cX0_cut 20 = .ok (.aload_n 0, 1) := by decide +kernel
theorem dX0_cut_21 : decode cX0_cut 21 = .ok (.dup, 1) := by decide +kernel
theorem dX0_cut_22 : decode cX0_cut 22 = .ok (.getfield 55, 3) := by decide +kernel
theorem dX0_cut_25 : decode cX0_cut 25 = .ok (.iconst 1, 1) := by decide +kernel
theorem dX0_cut_26 : decode cX0_cut 26 = .ok (.iadd, 1) := by decide +kernel
theorem dX0_cut_27 : decode cX0_cut 27 = .ok (.putfield 55, 3) := by decide +kernel
theorem dX0_cut_30 : decode cX0_cut 30 = .ok (.return_, 1) := by decide +kernel
theorem dX0_add_0 : decode cX0_add 0 = .ok (.aload_n 0, 1) := by decide +kernel
theorem dX0_add_1 : decode cX0_add 1 = .ok (.getfield 33, 3) := by decide +kernel
theorem dX0_add_4 : decode cX0_add 4 = .ok (.aload_n 0, 1) := by decide +kernel
theorem dX0_add_5 : decode cX0_add 5 = .ok (.getfield 59, 3) := by decide +kernel
theorem dX0_add_8 : decode cX0_add 8 = .ok (.iload_n 1, 1) := by decide +kernel
theorem dX0_add_9 : decode cX0_add 9 = .ok (.iastore, 1) := by decide +kernel
theorem dX0_add_10 : decode cX0_add 10 = .ok (.aload_n 0, 1) := by decide +kernel
theorem dX0_add_11 : decode cX0_add 11 = .ok (.getfield 36, 3) := by decide +kernel
theorem dX0_add_14 : decode cX0_add 14 = .ok (.aload_n 0, 1) := by decide +kernel
theorem dX0_add_15 : decode cX0_add 15 = .ok (.getfield 59, 3) := by decide +kernel
theorem dX0_add_18 : decode cX0_add 18 = .ok (.iload_n 2, 1) := by decide +kernel
theorem dX0_add_19 : decode cX0_add 19 = .ok (.iastore, 1) := by decide +kernel
theorem dX0_add_20 : decode cX0_add 20 = .ok (.aload_n 0, 1) := by decide +kernel
theorem dX0_add_21 : decode cX0_add 21 = .ok (.dup, 1) := by decide +kernel
theorem dX0_add_22 : decode cX0_add 22 = .ok (.getfield 59, 3) := by decide +kernel
theorem dX0_add_25 : decode cX0_add 25 = .ok (.iconst 1, 1) := by decide +kernel
theorem dX0_add_26 : decode cX0_add 26 = .ok (.iadd, 1) := by decide +kernel
theorem dX0_add_27 : decode cX0_add 27 = .ok (.putfield 59, 3) := by decide +kernel
theorem dX0_add_30 : decode cX0_add 30 = .ok (.aload_n 0, 1) := by decide +kernel
theorem dX0_add_31 : decode cX0_add 31 = .ok (.getfield 59, 3) := by decide +kernel
theorem dX0_add_34 : decode cX0_add 34 = .ok (.iconst 1, 1) := by decide +kernel
theorem dX0_add_35 : decode cX0_add 35 = .ok (.isub, 1) := by decide +kernel
theorem dX0_add_36 : decode cX0_add 36 = .ok (.ireturn, 1) := by decide +kernel
theorem dX0_reckon_0 : decode cX0_reckon 0 = .ok (.aload_n 0, 1) := by decide +kernel
theorem dX0_reckon_1 : decode cX0_reckon 1 = .ok (.getfield 9, 3) := by decide +kernel
theorem dX0_reckon_4 : decode cX0_reckon 4 = .ok (.iconst 0, 1) := by decide +kernel
theorem dX0_reckon_5 : decode cX0_reckon 5 = .ok (.aload_n 0, 1) := by decide +kernel
theorem dX0_reckon_6 : decode cX0_reckon 6 = .ok (.getfield 18, 3) := by decide +kernel
theorem dX0_reckon_9 : decode cX0_reckon 9 = .ok (.iconst 0, 1) := by decide +kernel
theorem dX0_reckon_10 : decode cX0_reckon 10 = .ok (.bipush 8, 2) := by decide +kernel
theorem dX0_reckon_12 : decode cX0_reckon 12 = .ok (.invokestatic 62, 3) := by decide +kernel
theorem dX0_reckon_15 : decode cX0_reckon 15 = .ok (.aload_n 0, 1) := by decide +kernel
theorem dX0_reckon_16 : decode cX0_reckon 16 = .ok (.getfield 15, 3) := by decide +kernel
theorem dX0_reckon_19 : decode cX0_reckon 19 = .ok (.iconst 0, 1) := by decide +kernel
theorem dX0_reckon_20 : decode cX0_reckon 20 = .ok (.aload_n 0, 1) := by decide +kernel
theorem dX0_reckon_21 : decode cX0_reckon 21 = .ok (.getfield 21, 3) := by decide +kernel
theorem dX0_reckon_24 : decode cX0_reckon 24 = .ok (.iconst 0, 1) := by decide +kernel
theorem dX0_reckon_25 : decode cX0_reckon 25 = .ok (.bipush 8, 2) := by decide +kernel
theorem dX0_reckon_27 : decode cX0_reckon 27 = .ok (.invokestatic 62, 3) := by decide +kernel
theorem dX0_reckon_30 : decode cX0_reckon 30 = .ok (.iconst 1, 1) := by decide +kernel
theorem dX0_reckon_31 : decode cX0_reckon 31 = .ok (.istore_n 1, 1) := by decide +kernel
theorem dX0_reckon_32 : decode cX0_reckon 32 = .ok (.iconst 0, 1) := by decide +kernel
theorem dX0_reckon_33 : decode cX0_reckon 33 = .ok (.istore_n 2, 1) := by decide +kernel
theorem dX0_reckon_34 : decode cX0_reckon 34 = .ok (.iload_n 2, 1) := by decide +kernel
theorem dX0_reckon_35 : decode cX0_reckon 35 = .ok (.bipush 8, 2) := by decide +kernel
theorem dX0_reckon_37 : decode cX0_reckon 37 = .ok (.if_icmp .ge 18, 3) := by decide +kernel
theorem dX0_reckon_40 : decode cX0_reckon 40 = .ok (.iload_n 1, 1) := by decide +kernel
theorem dX0_reckon_41 : decode cX0_reckon 41 = .ok (.ifCond .eq 14, 3) := by decide +kernel
theorem dX0_reckon_44 : decode cX0_reckon 44 = .ok (.aload_n 0, 1) := by decide +kernel
theorem dX0_reckon_45 : decode cX0_reckon 45 = .ok (.invokevirtual 68, 3) := by decide +kernel
theorem dX0_reckon_48 : decode cX0_reckon 48 = .ok (.istore_n 1, 1) := by decide +kernel
theorem dX0_reckon_49 : decode cX0_reckon 49 = .ok (.iinc 2 1, 3) := by decide +kernel
theorem dX0_reckon_52 : decode cX0_reckon 52 = .ok (.goto (-18), 3) := by decide +kernel
theorem dX0_reckon_55 : decode cX0_reckon 55 = .ok (.iconst 0, 1) := by decide +kernel
theorem dX0_reckon_56 : decode cX0_reckon 56 = .ok (.istore_n 2, 1) := by decide +kernel
theorem dX0_reckon_57 : decode cX0_reckon 57 = .ok (.iload_n 2, 1) := by decide +kernel
theorem dX0_reckon_58 : decode cX0_reckon 58 = .ok (.bipush 8, 2) := by decide +kernel
theorem dX0_reckon_60 : decode cX0_reckon 60 = .ok (.if_icmp .ge 32, 3) := by decide +kernel
theorem dX0_reckon_63 : decode cX0_reckon 63 = .ok (.iload_n 1, 1) := by decide +kernel
theorem dX0_reckon_64 : decode cX0_reckon 64 = .ok (.aload_n 0, 1) := by decide +kernel
theorem dX0_reckon_65 : decode cX0_reckon 65 = .ok (.getfield 18, 3) := by decide +kernel
theorem dX0_reckon_68 : decode cX0_reckon 68 = .ok (.iload_n 2, 1) := by decide +kernel
theorem dX0_reckon_69 : decode cX0_reckon 69 = .ok (.iaload, 1) := by decide +kernel
theorem dX0_reckon_70 : decode cX0_reckon 70 = .ok (.aload_n 0, 1) := by decide +kernel
theorem dX0_reckon_71 : decode cX0_reckon 71 = .ok (.getfield 21, 3) := by decide +kernel
theorem dX0_reckon_74 : decode cX0_reckon 74 = .ok (.iload_n 2, 1) := by decide +kernel
theorem dX0_reckon_75 : decode cX0_reckon 75 = .ok (.iaload, 1) := by decide +kernel
theorem dX0_reckon_76 : decode cX0_reckon 76 = .ok (.if_icmp .le 7, 3) := by decide +kernel
theorem dX0_reckon_79 : decode cX0_reckon 79 = .ok (.iconst 1, 1) := by decide +kernel
theorem dX0_reckon_80 : decode cX0_reckon 80 = .ok (.goto 4, 3) := by decide +kernel
theorem dX0_reckon_83 : decode cX0_reckon 83 = .ok (.iconst 0, 1) := by decide +kernel
theorem dX0_reckon_84 : decode cX0_reckon 84 = .ok (.ior, 1) := by decide +kernel
theorem dX0_reckon_85 : decode cX0_reckon 85 = .ok (.istore_n 1, 1) := by decide +kernel
theorem dX0_reckon_86 : decode cX0_reckon 86 = .ok (.iinc 2 1, 3) := by decide +kernel
theorem dX0_reckon_89 : decode cX0_reckon 89 = .ok (.goto (-32), 3) := by decide +kernel
theorem dX0_reckon_92 : decode cX0_reckon 92 = .ok (.iload_n 1, 1) := by decide +kernel
theorem dX0_reckon_93 : decode cX0_reckon 93 = .ok (.ifCond .ne 7, 3) := by decide +kernel
theorem dX0_reckon_96 : decode cX0_reckon 96 = .ok (.iconst 1, 1) := by decide +kernel
theorem dX0_reckon_97 : decode cX0_reckon 97 = .ok (.goto 4, 3) := by decide +kernel
theorem dX0_reckon_100 : decode cX0_reckon 100 = .ok (.iconst 0, 1) := by decide +kernel
theorem dX0_reckon_101 : decode cX0_reckon 101 = .ok (.ireturn, 1) := by decide +kernel
theorem dX0_push_0 : decode cX0_push 0 = .ok (.iconst 0, 1) := by decide +kernel
theorem dX0_push_1 : decode cX0_push 1 = .ok (.istore_n 1, 1) := by decide +kernel
theorem dX0_push_2 : decode cX0_push 2 = .ok (.iconst 0, 1) := by decide +kernel
theorem dX0_push_3 : decode cX0_push 3 = .ok (.istore_n 2, 1) := by decide +kernel
theorem dX0_push_4 : decode cX0_push 4 = .ok (.iload_n 2, 1) := by decide +kernel
theorem dX0_push_5 : decode cX0_push 5 = .ok (.aload_n 0, 1) := by decide +kernel
theorem dX0_push_6 : decode cX0_push 6 = .ok (.getfield 55, 3) := by decide +kernel
theorem dX0_push_9 : decode cX0_push 9 = .ok (.if_icmp .ge 94, 3) := by decide +kernel
theorem dX0_push_12 : decode cX0_push 12 = .ok (.aload_n 0, 1) := by decide +kernel
theorem dX0_push_13 : decode cX0_push 13 = .ok (.getfield 24, 3) := by decide +kernel
theorem dX0_push_16 : decode cX0_push 16 = .ok (.iload_n 2, 1) := by decide +kernel
theorem dX0_push_17 : decode cX0_push 17 = .ok (.iaload, 1) := by decide +kernel
theorem dX0_push_18 : decode cX0_push 18 = .ok (.istore_n 3, 1) := by decide +kernel
theorem dX0_push_19 : decode cX0_push 19 = .ok (.aload_n 0, 1) := by decide +kernel
theorem dX0_push_20 : decode cX0_push 20 = .ok (.getfield 27, 3) := by decide +kernel
theorem dX0_push_23 : decode cX0_push 23 = .ok (.iload_n 2, 1) := by decide +kernel
theorem dX0_push_24 : decode cX0_push 24 = .ok (.iaload, 1) := by decide +kernel
theorem dX0_push_25 : decode cX0_push 25 = .ok (.istore 4, 2) := by decide +kernel
theorem dX0_push_27 : decode cX0_push 27 = .ok (.aload_n 0, 1) := by decide +kernel
theorem dX0_push_28 : decode cX0_push 28 = .ok (.getfield 18, 3) := by decide +kernel
theorem dX0_push_31 : decode cX0_push 31 = .ok (.iload_n 3, 1) := by decide +kernel
theorem dX0_push_32 : decode cX0_push 32 = .ok (.iaload, 1) := by decide +kernel
theorem dX0_push_33 : decode cX0_push 33 = .ok (.aload_n 0, 1) := by decide +kernel
theorem dX0_push_34 : decode cX0_push 34 = .ok (.getfield 18, 3) := by decide +kernel
theorem dX0_push_37 : decode cX0_push 37 = .ok (.iload 4, 2) := by decide +kernel
theorem dX0_push_39 : decode cX0_push 39 = .ok (.iaload, 1) := by decide +kernel
theorem dX0_push_40 : decode cX0_push 40 = .ok (.iconst 1, 1) := by decide +kernel
theorem dX0_push_41 : decode cX0_push 41 = .ok (.iadd, 1) := by decide +kernel
theorem dX0_push_42 : decode cX0_push 42 = .ok (.if_icmp .ge 20, 3) := by decide +kernel
theorem dX0_push_45 : decode cX0_push 45 = .ok (.aload_n 0, 1) := by decide +kernel
theorem dX0_push_46 : decode cX0_push 46 = .ok (.getfield 18, 3) := by decide +kernel
theorem dX0_push_49 : decode cX0_push 49 = .ok (.iload_n 3, 1) := by decide +kernel
theorem dX0_push_50 : decode cX0_push 50 = .ok (.aload_n 0, 1) := by decide +kernel
theorem dX0_push_51 : decode cX0_push 51 = .ok (.getfield 18, 3) := by decide +kernel
theorem dX0_push_54 : decode cX0_push 54 = .ok (.iload 4, 2) := by decide +kernel
theorem dX0_push_56 : decode cX0_push 56 = .ok (.iaload, 1) := by decide +kernel
theorem dX0_push_57 : decode cX0_push 57 = .ok (.iconst 1, 1) := by decide +kernel
theorem dX0_push_58 : decode cX0_push 58 = .ok (.iadd, 1) := by decide +kernel
theorem dX0_push_59 : decode cX0_push 59 = .ok (.iastore, 1) := by decide +kernel
theorem dX0_push_60 : decode cX0_push 60 = .ok (.iconst 1, 1) := by decide +kernel
theorem dX0_push_61 : decode cX0_push 61 = .ok (.istore_n 1, 1) := by decide +kernel
theorem dX0_push_62 : decode cX0_push 62 = .ok (.aload_n 0, 1) := by decide +kernel
theorem dX0_push_63 : decode cX0_push 63 = .ok (.getfield 21, 3) := by decide +kernel
theorem dX0_push_66 : decode cX0_push 66 = .ok (.iload 4, 2) := by decide +kernel
theorem dX0_push_68 : decode cX0_push 68 = .ok (.iaload, 1) := by decide +kernel
theorem dX0_push_69 : decode cX0_push 69 = .ok (.aload_n 0, 1) := by decide +kernel
theorem dX0_push_70 : decode cX0_push 70 = .ok (.getfield 21, 3) := by decide +kernel
theorem dX0_push_73 : decode cX0_push 73 = .ok (.iload_n 3, 1) := by decide +kernel
theorem dX0_push_74 : decode cX0_push 74 = .ok (.iaload, 1) := by decide +kernel
theorem dX0_push_75 : decode cX0_push 75 = .ok (.iconst 1, 1) := by decide +kernel
theorem dX0_push_76 : decode cX0_push 76 = .ok (.isub, 1) := by decide +kernel
theorem dX0_push_77 : decode cX0_push 77 = .ok (.if_icmp .le 20, 3) := by decide +kernel
theorem dX0_push_80 : decode cX0_push 80 = .ok (.aload_n 0, 1) := by decide +kernel
theorem dX0_push_81 : decode cX0_push 81 = .ok (.getfield 21, 3) := by decide +kernel
theorem dX0_push_84 : decode cX0_push 84 = .ok (.iload 4, 2) := by decide +kernel
theorem dX0_push_86 : decode cX0_push 86 = .ok (.aload_n 0, 1) := by decide +kernel
theorem dX0_push_87 : decode cX0_push 87 = .ok (.getfield 21, 3) := by decide +kernel
theorem dX0_push_90 : decode cX0_push 90 = .ok (.iload_n 3, 1) := by decide +kernel
theorem dX0_push_91 : decode cX0_push 91 = .ok (.iaload, 1) := by decide +kernel
theorem dX0_push_92 : decode cX0_push 92 = .ok (.iconst 1, 1) := by decide +kernel
theorem dX0_push_93 : decode cX0_push 93 = .ok (.isub, 1) := by decide +kernel
theorem dX0_push_94 : decode cX0_push 94 = .ok (.iastore, 1) := by decide +kernel
theorem dX0_push_95 : decode cX0_push 95 = .ok (.iconst 1, 1) := by decide +kernel
theorem dX0_push_96 : decode cX0_push 96 = .ok (.istore_n 1, 1) := by decide +kernel
theorem dX0_push_97 : decode cX0_push 97 = .ok (.iinc 2 1, 3) := by decide +kernel
theorem dX0_push_100 : decode cX0_push 100 = .ok (.goto (-96), 3) := by decide +kernel
theorem dX0_push_103 : decode cX0_push 103 = .ok (.iload_n 1, 1) := by decide +kernel
theorem dX0_push_104 : decode cX0_push 104 = .ok (.ireturn, 1) := by decide +kernel
theorem dX0_laidBy_0 : decode cX0_laidBy 0 = .ok (.iconst 0, 1) := by decide +kernel
theorem dX0_laidBy_1 : decode cX0_laidBy 1 = .ok (.istore_n 2, 1) := by decide +kernel
theorem dX0_laidBy_2 : decode cX0_laidBy 2 = .ok (.iconst 0, 1) := by decide +kernel
theorem dX0_laidBy_3 : decode cX0_laidBy 3 = .ok (.istore_n 3, 1) := by decide +kernel
theorem dX0_laidBy_4 : decode cX0_laidBy 4 = .ok (.iload_n 3, 1) := by decide +kernel
theorem dX0_laidBy_5 : decode cX0_laidBy 5 = .ok (.bipush 8, 2) := by decide +kernel
theorem dX0_laidBy_7 : decode cX0_laidBy 7 = .ok (.if_icmp .ge 22, 3) := by decide +kernel
theorem dX0_laidBy_10 : decode cX0_laidBy 10 = .ok (.aload_n 0, 1) := by decide +kernel
theorem dX0_laidBy_11 : decode cX0_laidBy 11 = .ok (.getfield 21, 3) := by decide +kernel
theorem dX0_laidBy_14 : decode cX0_laidBy 14 = .ok (.iload_n 3, 1) := by decide +kernel
theorem dX0_laidBy_15 : decode cX0_laidBy 15 = .ok (.iaload, 1) := by decide +kernel
theorem dX0_laidBy_16 : decode cX0_laidBy 16 = .ok (.iload_n 1, 1) := by decide +kernel
theorem dX0_laidBy_17 : decode cX0_laidBy 17 = .ok (.if_icmp .gt 6, 3) := by decide +kernel
theorem dX0_laidBy_20 : decode cX0_laidBy 20 = .ok (.iinc 2 1, 3) := by decide +kernel
theorem dX0_laidBy_23 : decode cX0_laidBy 23 = .ok (.iinc 3 1, 3) := by decide +kernel
theorem dX0_laidBy_26 : decode cX0_laidBy 26 = .ok (.goto (-22), 3) := by decide +kernel
theorem dX0_laidBy_29 : decode cX0_laidBy 29 = .ok (.iload_n 2, 1) := by decide +kernel
theorem dX0_laidBy_30 : decode cX0_laidBy 30 = .ok (.ireturn, 1) := by decide +kernel
theorem dX0_stepsOut_0 : decode cX0_stepsOut 0 = .ok (.aload_n 0, 1) := by decide +kernel
theorem dX0_stepsOut_1 : decode cX0_stepsOut 1 = .ok (.aload_n 0, 1) := by decide +kernel
theorem dX0_stepsOut_2 : decode cX0_stepsOut 2 = .ok (.getfield 18, 3) := by decide +kernel
theorem dX0_stepsOut_5 : decode cX0_stepsOut 5 = .ok (.aload_n 0, 1) := by decide +kernel
theorem dX0_stepsOut_6 : decode cX0_stepsOut 6 = .ok (.getfield 36, 3) := by decide +kernel
theorem dX0_stepsOut_9 : decode cX0_stepsOut 9 = .ok (.iload_n 1, 1) := by decide +kernel
theorem dX0_stepsOut_10 : decode cX0_stepsOut 10 = .ok (.iaload, 1) := by decide +kernel
theorem dX0_stepsOut_11 : decode cX0_stepsOut 11 = .ok (.iaload, 1) := by decide +kernel
theorem dX0_stepsOut_12 : decode cX0_stepsOut 12 = .ok (.invokevirtual 72, 3) := by decide +kernel
theorem dX0_stepsOut_15 : decode cX0_stepsOut 15 = .ok (.istore_n 2, 1) := by decide +kernel
theorem dX0_stepsOut_16 : decode cX0_stepsOut 16 = .ok (.aload_n 0, 1) := by decide +kernel
theorem dX0_stepsOut_17 : decode cX0_stepsOut 17 = .ok (.getfield 42, 3) := by decide +kernel
theorem dX0_stepsOut_20 : decode cX0_stepsOut 20 = .ok (.iconst (-1), 1) := by decide +kernel
theorem dX0_stepsOut_21 : decode cX0_stepsOut 21 = .ok (.invokestatic 49, 3) := by decide +kernel
theorem dX0_stepsOut_24 : decode cX0_stepsOut 24 = .ok (.aload_n 0, 1) := by decide +kernel
theorem dX0_stepsOut_25 : decode cX0_stepsOut 25 = .ok (.getfield 42, 3) := by decide +kernel
theorem dX0_stepsOut_28 : decode cX0_stepsOut 28 = .ok (.aload_n 0, 1) := by decide +kernel
theorem dX0_stepsOut_29 : decode cX0_stepsOut 29 = .ok (.getfield 33, 3) := by decide +kernel
theorem dX0_stepsOut_32 : decode cX0_stepsOut 32 = .ok (.iload_n 1, 1) := by decide +kernel
theorem dX0_stepsOut_33 : decode cX0_stepsOut 33 = .ok (.iaload, 1) := by decide +kernel
theorem dX0_stepsOut_34 : decode cX0_stepsOut 34 = .ok (.iconst 0, 1) := by decide +kernel
theorem dX0_stepsOut_35 : decode cX0_stepsOut 35 = .ok (.iastore, 1) := by decide +kernel
theorem dX0_stepsOut_36 : decode cX0_stepsOut 36 = .ok (.aload_n 0, 1) := by decide +kernel
theorem dX0_stepsOut_37 : decode cX0_stepsOut 37 = .ok (.getfield 39, 3) := by decide +kernel
theorem dX0_stepsOut_40 : decode cX0_stepsOut 40 = .ok (.iconst 0, 1) := by decide +kernel
theorem dX0_stepsOut_41 : decode cX0_stepsOut 41 = .ok (.aload_n 0, 1) := by decide +kernel
theorem dX0_stepsOut_42 : decode cX0_stepsOut 42 = .ok (.getfield 33, 3) := by decide +kernel
theorem dX0_stepsOut_45 : decode cX0_stepsOut 45 = .ok (.iload_n 1, 1) := by decide +kernel
theorem dX0_stepsOut_46 : decode cX0_stepsOut 46 = .ok (.iaload, 1) := by decide +kernel
theorem dX0_stepsOut_47 : decode cX0_stepsOut 47 = .ok (.iastore, 1) := by decide +kernel
theorem dX0_stepsOut_48 : decode cX0_stepsOut 48 = .ok (.aload_n 0, 1) := by decide +kernel
theorem dX0_stepsOut_49 : decode cX0_stepsOut 49 = .ok (.iconst 1, 1) := by decide +kernel
theorem dX0_stepsOut_50 : decode cX0_stepsOut 50 = .ok (.putfield 76, 3) := by decide +kernel
theorem dX0_stepsOut_53 : decode cX0_stepsOut 53 = .ok (.iconst 0, 1) := by decide +kernel
theorem dX0_stepsOut_54 : decode cX0_stepsOut 54 = .ok (.istore_n 3, 1) := by decide +kernel
theorem dX0_stepsOut_55 : decode cX0_stepsOut 55 = .ok (.iload_n 3, 1) := by decide +kernel
theorem dX0_stepsOut_56 : decode cX0_stepsOut 56 = .ok (.aload_n 0, 1) := by decide +kernel
theorem dX0_stepsOut_57 : decode cX0_stepsOut 57 = .ok (.getfield 76, 3) := by decide +kernel
theorem dX0_stepsOut_60 : decode cX0_stepsOut 60 = .ok (.if_icmp .ge 51, 3) := by decide +kernel
theorem dX0_stepsOut_63 : decode cX0_stepsOut 63 = .ok (.iload_n 3, 1) := by decide +kernel
theorem dX0_stepsOut_64 : decode cX0_stepsOut 64 = .ok (.bipush 100, 2) := by decide +kernel
theorem dX0_stepsOut_66 : decode cX0_stepsOut 66 = .ok (.if_icmp .ge 45, 3) := by decide +kernel
theorem dX0_stepsOut_69 : decode cX0_stepsOut 69 = .ok (.aload_n 0, 1) := by decide +kernel
theorem dX0_stepsOut_70 : decode cX0_stepsOut 70 = .ok (.aload_n 0, 1) := by decide +kernel
theorem dX0_stepsOut_71 : decode cX0_stepsOut 71 = .ok (.getfield 39, 3) := by decide +kernel
theorem dX0_stepsOut_74 : decode cX0_stepsOut 74 = .ok (.iload_n 3, 1) := by decide +kernel
theorem dX0_stepsOut_75 : decode cX0_stepsOut 75 = .ok (.iaload, 1) := by decide +kernel
theorem dX0_stepsOut_76 : decode cX0_stepsOut 76 = .ok (.invokevirtual 79, 3) := by decide +kernel
theorem dX0_stepsOut_79 : decode cX0_stepsOut 79 = .ok (.ifCond .eq 15, 3) := by decide +kernel
theorem dX0_stepsOut_82 : decode cX0_stepsOut 82 = .ok (.aload_n 0, 1) := by decide +kernel
theorem dX0_stepsOut_83 : decode cX0_stepsOut 83 = .ok (.getfield 42, 3) := by decide +kernel
theorem dX0_stepsOut_86 : decode cX0_stepsOut 86 = .ok (.aload_n 0, 1) := by decide +kernel
theorem dX0_stepsOut_87 : decode cX0_stepsOut 87 = .ok (.getfield 39, 3) := by decide +kernel
theorem dX0_stepsOut_90 : decode cX0_stepsOut 90 = .ok (.iload_n 3, 1) := by decide +kernel
theorem dX0_stepsOut_91 : decode cX0_stepsOut 91 = .ok (.iaload, 1) := by decide +kernel
theorem dX0_stepsOut_92 : decode cX0_stepsOut 92 = .ok (.iaload, 1) := by decide +kernel
theorem dX0_stepsOut_93 : decode cX0_stepsOut 93 = .ok (.ireturn, 1) := by decide +kernel
theorem dX0_stepsOut_94 : decode cX0_stepsOut 94 = .ok (.aload_n 0, 1) := by decide +kernel
theorem dX0_stepsOut_95 : decode cX0_stepsOut 95 = .ok (.aload_n 0, 1) := by decide +kernel
theorem dX0_stepsOut_96 : decode cX0_stepsOut 96 = .ok (.getfield 39, 3) := by decide +kernel
theorem dX0_stepsOut_99 : decode cX0_stepsOut 99 = .ok (.iload_n 3, 1) := by decide +kernel
theorem dX0_stepsOut_100 : decode cX0_stepsOut 100 = .ok (.iaload, 1) := by decide +kernel
theorem dX0_stepsOut_101 : decode cX0_stepsOut 101 = .ok (.iload_n 2, 1) := by decide +kernel
theorem dX0_stepsOut_102 : decode cX0_stepsOut 102 = .ok (.invokevirtual 83, 3) := by decide +kernel
theorem dX0_stepsOut_105 : decode cX0_stepsOut 105 = .ok (.iinc 3 1, 3) := by decide +kernel
theorem dX0_stepsOut_108 : decode cX0_stepsOut 108 = .ok (.goto (-53), 3) := by decide +kernel
theorem dX0_stepsOut_111 : decode cX0_stepsOut 111 = .ok (.bipush (-2), 2) := by decide +kernel
theorem dX0_stepsOut_113 : decode cX0_stepsOut 113 = .ok (.ireturn, 1) := by decide +kernel
theorem dX0_isBorder_0 : decode cX0_isBorder 0 = .ok (.aload_n 0, 1) := by decide +kernel
theorem dX0_isBorder_1 : decode cX0_isBorder 1 = .ok (.getfield 45, 3) := by decide +kernel
theorem dX0_isBorder_4 : decode cX0_isBorder 4 = .ok (.iload_n 1, 1) := by decide +kernel
theorem dX0_isBorder_5 : decode cX0_isBorder 5 = .ok (.invokevirtual 87, 3) := by decide +kernel
theorem dX0_isBorder_8 : decode cX0_isBorder 8 = .ok (.istore_n 2, 1) := by decide +kernel
theorem dX0_isBorder_9 : decode cX0_isBorder 9 = .ok (.aload_n 0, 1) := by decide +kernel
theorem dX0_isBorder_10 : decode cX0_isBorder 10 = .ok (.getfield 45, 3) := by decide +kernel
theorem dX0_isBorder_13 : decode cX0_isBorder 13 = .ok (.iload_n 1, 1) := by decide +kernel
theorem dX0_isBorder_14 : decode cX0_isBorder 14 = .ok (.invokevirtual 92, 3) := by decide +kernel
theorem dX0_isBorder_17 : decode cX0_isBorder 17 = .ok (.istore_n 3, 1) := by decide +kernel
theorem dX0_isBorder_18 : decode cX0_isBorder 18 = .ok (.iload_n 2, 1) := by decide +kernel
theorem dX0_isBorder_19 : decode cX0_isBorder 19 = .ok (.ifCond .eq 33, 3) := by decide +kernel
theorem dX0_isBorder_22 : decode cX0_isBorder 22 = .ok (.iload_n 3, 1) := by decide +kernel
theorem dX0_isBorder_23 : decode cX0_isBorder 23 = .ok (.ifCond .eq 29, 3) := by decide +kernel
theorem dX0_isBorder_26 : decode cX0_isBorder 26 = .ok (.iload_n 2, 1) := by decide +kernel
theorem dX0_isBorder_27 : decode cX0_isBorder 27 = .ok (.aload_n 0, 1) := by decide +kernel
theorem dX0_isBorder_28 : decode cX0_isBorder 28 = .ok (.getfield 45, 3) := by decide +kernel
theorem dX0_isBorder_31 : decode cX0_isBorder 31 = .ok (.getfield 95, 3) := by decide +kernel
theorem dX0_isBorder_34 : decode cX0_isBorder 34 = .ok (.iconst 1, 1) := by decide +kernel
theorem dX0_isBorder_35 : decode cX0_isBorder 35 = .ok (.isub, 1) := by decide +kernel
theorem dX0_isBorder_36 : decode cX0_isBorder 36 = .ok (.if_icmp .eq 16, 3) := by decide +kernel
theorem dX0_isBorder_39 : decode cX0_isBorder 39 = .ok (.iload_n 3, 1) := by decide +kernel
theorem dX0_isBorder_40 : decode cX0_isBorder 40 = .ok (.aload_n 0, 1) := by decide +kernel
theorem dX0_isBorder_41 : decode cX0_isBorder 41 = .ok (.getfield 45, 3) := by decide +kernel
theorem dX0_isBorder_44 : decode cX0_isBorder 44 = .ok (.getfield 98, 3) := by decide +kernel
theorem dX0_isBorder_47 : decode cX0_isBorder 47 = .ok (.iconst 1, 1) := by decide +kernel
theorem dX0_isBorder_48 : decode cX0_isBorder 48 = .ok (.isub, 1) := by decide +kernel
theorem dX0_isBorder_49 : decode cX0_isBorder 49 = .ok (.if_icmp .ne 7, 3) := by decide +kernel
theorem dX0_isBorder_52 : decode cX0_isBorder 52 = .ok (.iconst 1, 1) := by decide +kernel
theorem dX0_isBorder_53 : decode cX0_isBorder 53 = .ok (.goto 4, 3) := by decide +kernel
theorem dX0_isBorder_56 : decode cX0_isBorder 56 = .ok (.iconst 0, 1) := by decide +kernel
theorem dX0_isBorder_57 : decode cX0_isBorder 57 = .ok (.ireturn, 1) := by decide +kernel
theorem dX0_spread_0 : decode cX0_spread 0 = .ok (.iconst (-1), 1) := by decide +kernel
theorem dX0_spread_1 : decode cX0_spread 1 = .ok (.istore_n 3, 1) := by decide +kernel
theorem dX0_spread_2 : decode cX0_spread 2 = .ok (.iload_n 3, 1) := by decide +kernel
theorem dX0_spread_3 : decode cX0_spread 3 = .ok (.iconst 1, 1) := by decide +kernel
theorem dX0_spread_4 : decode cX0_spread 4 = .ok (.if_icmp .gt 119, 3) := by decide +kernel
theorem dX0_spread_7 : decode cX0_spread 7 = .ok (.iconst (-1), 1) := by decide +kernel
theorem dX0_spread_8 : decode cX0_spread 8 = .ok (.istore 4, 2) := by decide +kernel
theorem dX0_spread_10 : decode cX0_spread 10 = .ok (.iload 4, 2) := by decide +kernel
theorem dX0_spread_12 : decode cX0_spread 12 = .ok (.iconst 1, 1) := by decide +kernel
theorem dX0_spread_13 : decode cX0_spread 13 = .ok (.if_icmp .gt 104, 3) := by decide +kernel
theorem dX0_spread_16 : decode cX0_spread 16 = .ok (.iload_n 1, 1) := by decide +kernel
theorem dX0_spread_17 : decode cX0_spread 17 = .ok (.iload_n 3, 1) := by decide +kernel
theorem dX0_spread_18 : decode cX0_spread 18 = .ok (.aload_n 0, 1) := by decide +kernel
theorem dX0_spread_19 : decode cX0_spread 19 = .ok (.getfield 45, 3) := by decide +kernel
theorem dX0_spread_22 : decode cX0_spread 22 = .ok (.getfield 95, 3) := by decide +kernel
theorem dX0_spread_25 : decode cX0_spread 25 = .ok (.imul, 1) := by decide +kernel
theorem dX0_spread_26 : decode cX0_spread 26 = .ok (.iadd, 1) := by decide +kernel
theorem dX0_spread_27 : decode cX0_spread 27 = .ok (.iload 4, 2) := by decide +kernel
theorem dX0_spread_29 : decode cX0_spread 29 = .ok (.iadd, 1) := by decide +kernel
theorem dX0_spread_30 : decode cX0_spread 30 = .ok (.istore 5, 2) := by decide +kernel
theorem dX0_spread_32 : decode cX0_spread 32 = .ok (.aload_n 0, 1) := by decide +kernel
theorem dX0_spread_33 : decode cX0_spread 33 = .ok (.getfield 76, 3) := by decide +kernel
theorem dX0_spread_36 : decode cX0_spread 36 = .ok (.bipush 100, 2) := by decide +kernel
theorem dX0_spread_38 : decode cX0_spread 38 = .ok (.if_icmp .ge 73, 3) := by decide +kernel
theorem dX0_spread_41 : decode cX0_spread 41 = .ok (.aload_n 0, 1) := by decide +kernel
theorem dX0_spread_42 : decode cX0_spread 42 = .ok (.getfield 45, 3) := by decide +kernel
theorem dX0_spread_45 : decode cX0_spread 45 = .ok (.iload 5, 2) := by decide +kernel
theorem dX0_spread_47 : decode cX0_spread 47 = .ok (.invokevirtual 100, 3) := by decide +kernel
theorem dX0_spread_50 : decode cX0_spread 50 = .ok (.ifCond .eq 61, 3) := by decide +kernel
theorem dX0_spread_53 : decode cX0_spread 53 = .ok (.aload_n 0, 1) := by decide +kernel
theorem dX0_spread_54 : decode cX0_spread 54 = .ok (.getfield 42, 3) := by decide +kernel
theorem dX0_spread_57 : decode cX0_spread 57 = .ok (.iload 5, 2) := by decide +kernel
theorem dX0_spread_59 : decode cX0_spread 59 = .ok (.iaload, 1) := by decide +kernel
theorem dX0_spread_60 : decode cX0_spread 60 = .ok (.iconst (-1), 1) := by decide +kernel
theorem dX0_spread_61 : decode cX0_spread 61 = .ok (.if_icmp .ne 50, 3) := by decide +kernel
theorem dX0_spread_64 : decode cX0_spread 64 = .ok (.iload_n 2, 1) := by decide +kernel
theorem dX0_spread_65 : decode cX0_spread 65 = .ok (.aload_n 0, 1) := by decide +kernel
theorem dX0_spread_66 : decode cX0_spread 66 = .ok (.getfield 30, 3) := by decide +kernel
theorem dX0_spread_69 : decode cX0_spread 69 = .ok (.iload 5, 2) := by decide +kernel
theorem dX0_spread_71 : decode cX0_spread 71 = .ok (.iaload, 1) := by decide +kernel
theorem dX0_spread_72 : decode cX0_spread 72 = .ok (.if_icmp .ge 39, 3) := by decide +kernel
theorem dX0_spread_75 : decode cX0_spread 75 = .ok (.aload_n 0, 1) := by decide +kernel
theorem dX0_spread_76 : decode cX0_spread 76 = .ok (.getfield 42, 3) := by decide +kernel
theorem dX0_spread_79 : decode cX0_spread 79 = .ok (.iload 5, 2) := by decide +kernel
theorem dX0_spread_81 : decode cX0_spread 81 = .ok (.aload_n 0, 1) := by decide +kernel
theorem dX0_spread_82 : decode cX0_spread 82 = .ok (.getfield 42, 3) := by decide +kernel
theorem dX0_spread_85 : decode cX0_spread 85 = .ok (.iload_n 1, 1) := by decide +kernel
theorem dX0_spread_86 : decode cX0_spread 86 = .ok (.iaload, 1) := by decide +kernel
theorem dX0_spread_87 : decode cX0_spread 87 = .ok (.iconst 1, 1) := by decide +kernel
theorem dX0_spread_88 : decode cX0_spread 88 = .ok (.iadd, 1) := by decide +kernel
theorem dX0_spread_89 : decode cX0_spread 89 = .ok (.iastore, 1) := by decide +kernel
theorem dX0_spread_90 : decode cX0_spread 90 = .ok (.aload_n 0, 1) := by decide +kernel
theorem dX0_spread_91 : decode cX0_spread 91 = .ok (.getfield 39, 3) := by decide +kernel
theorem dX0_spread_94 : decode cX0_spread 94 = .ok (.aload_n 0, 1) := by decide +kernel
theorem dX0_spread_95 : decode cX0_spread 95 = .ok (.getfield 76, 3) := by decide +kernel
theorem dX0_spread_98 : decode cX0_spread 98 = .ok (.iload 5, 2) := by decide +kernel
theorem dX0_spread_100 : decode cX0_spread 100 = .ok (.iastore, 1) := by decide +kernel
theorem dX0_spread_101 : decode cX0_spread 101 = .ok (.aload_n 0, 1) := by decide +kernel
theorem dX0_spread_102 : decode cX0_spread 102 = .ok (.dup, 1) := by decide +kernel
theorem dX0_spread_103 : decode cX0_spread 103 = .ok (.getfield 76, 3) := by decide +kernel
theorem dX0_spread_106 : decode cX0_spread 106 = .ok (.iconst 1, 1) := by decide +kernel
theorem dX0_spread_107 : decode cX0_spread 107 = .ok (.iadd, 1) := by decide +kernel
theorem dX0_spread_108 : decode cX0_spread 108 = .ok (.putfield 76, 3) := by decide +kernel
theorem dX0_spread_111 : decode cX0_spread 111 = .ok (.iinc 4 1, 3) := by decide +kernel
theorem dX0_spread_114 : decode cX0_spread 114 = .ok (.goto (-104), 3) := by decide +kernel
theorem dX0_spread_117 : decode cX0_spread 117 = .ok (.iinc 3 1, 3) := by decide +kernel
theorem dX0_spread_120 : decode cX0_spread 120 = .ok (.goto (-118), 3) := by decide +kernel
theorem dX0_spread_123 : decode cX0_spread 123 = .ok (.return_, 1) := by decide +kernel
theorem dX1_init_0 : decode cX1_init 0 = .ok (.aload_n 0, 1) := by decide +kernel
theorem dX1_init_1 : decode cX1_init 1 = .ok (.invokespecial 3, 3) := by decide +kernel
theorem dX1_init_4 : decode cX1_init 4 = .ok (.aload_n 0, 1) := by decide +kernel
theorem dX1_init_5 : decode cX1_init 5 = .ok (.bipush 100, 2) := by decide +kernel
theorem dX1_init_7 : decode cX1_init 7 = .ok (.newarray .int, 2) := by decide +kernel
theorem dX1_init_9 : decode cX1_init 9 = .ok (.putfield 11, 3) := by decide +kernel
theorem dX1_init_12 : decode cX1_init 12 = .ok (.aload_n 0, 1) := by decide +kernel
theorem dX1_init_13 : decode cX1_init 13 = .ok (.bipush 100, 2) := by decide +kernel
theorem dX1_init_15 : decode cX1_init 15 = .ok (.newarray .int, 2) := by decide +kernel
theorem dX1_init_17 : decode cX1_init 17 = .ok (.putfield 15, 3) := by decide +kernel
theorem dX1_init_20 : decode cX1_init 20 = .ok (.aload_n 0, 1) := by decide +kernel
theorem dX1_init_21 : decode cX1_init 21 = .ok (.bipush 100, 2) := by decide +kernel
theorem dX1_init_23 : decode cX1_init 23 = .ok (.newarray .int, 2) := by decide +kernel
theorem dX1_init_25 : decode cX1_init 25 = .ok (.putfield 18, 3) := by decide +kernel
theorem dX1_init_28 : decode cX1_init 28 = .ok (.aload_n 0, 1) := by decide +kernel
theorem dX1_init_29 : decode cX1_init 29 = .ok (.bipush 100, 2) := by decide +kernel
theorem dX1_init_31 : decode cX1_init 31 = .ok (.newarray .int, 2) := by decide +kernel
theorem dX1_init_33 : decode cX1_init 33 = .ok (.putfield 21, 3) := by decide +kernel
theorem dX1_init_36 : decode cX1_init 36 = .ok (.aload_n 0, 1) := by decide +kernel
theorem dX1_init_37 : decode cX1_init 37 = .ok (.bipush 100, 2) := by decide +kernel
theorem dX1_init_39 : decode cX1_init 39 = .ok (.newarray .int, 2) := by decide +kernel
theorem dX1_init_41 : decode cX1_init 41 = .ok (.putfield 24, 3) := by decide +kernel
theorem dX1_init_44 : decode cX1_init 44 = .ok (.aload_n 0, 1) := by decide +kernel
theorem dX1_init_45 : decode cX1_init 45 = .ok (.bipush 100, 2) := by decide +kernel
theorem dX1_init_47 : decode cX1_init 47 = .ok (.newarray .int, 2) := by decide +kernel
theorem dX1_init_49 : decode cX1_init 49 = .ok (.putfield 27, 3) := by decide +kernel
theorem dX1_init_52 : decode cX1_init 52 = .ok (.aload_n 0, 1) := by decide +kernel
theorem dX1_init_53 : decode cX1_init 53 = .ok (.bipush 100, 2) := by decide +kernel
theorem dX1_init_55 : decode cX1_init 55 = .ok (.newarray .int, 2) := by decide +kernel
theorem dX1_init_57 : decode cX1_init 57 = .ok (.putfield 30, 3) := by decide +kernel
theorem dX1_init_60 : decode cX1_init 60 = .ok (.aload_n 0, 1) := by decide +kernel
theorem dX1_init_61 : decode cX1_init 61 = .ok (.bipush 100, 2) := by decide +kernel
theorem dX1_init_63 : decode cX1_init 63 = .ok (.newarray .int, 2) := by decide +kernel
theorem dX1_init_65 : decode cX1_init 65 = .ok (.putfield 33, 3) := by decide +kernel
theorem dX1_init_68 : decode cX1_init 68 = .ok (.aload_n 0, 1) := by decide +kernel
theorem dX1_init_69 : decode cX1_init 69 = .ok (.bipush 100, 2) := by decide +kernel
theorem dX1_init_71 : decode cX1_init 71 = .ok (.newarray .int, 2) := by decide +kernel
theorem dX1_init_73 : decode cX1_init 73 = .ok (.putfield 36, 3) := by decide +kernel
theorem dX1_init_76 : decode cX1_init 76 = .ok (.aload_n 0, 1) := by decide +kernel
theorem dX1_init_77 : decode cX1_init 77 = .ok (.bipush 100, 2) := by decide +kernel
theorem dX1_init_79 : decode cX1_init 79 = .ok (.newarray .int, 2) := by decide +kernel
theorem dX1_init_81 : decode cX1_init 81 = .ok (.putfield 39, 3) := by decide +kernel
theorem dX1_init_84 : decode cX1_init 84 = .ok (.aload_n 0, 1) := by decide +kernel
theorem dX1_init_85 : decode cX1_init 85 = .ok (.bipush 100, 2) := by decide +kernel
theorem dX1_init_87 : decode cX1_init 87 = .ok (.newarray .int, 2) := by decide +kernel
theorem dX1_init_89 : decode cX1_init 89 = .ok (.putfield 42, 3) := by decide +kernel
theorem dX1_init_92 : decode cX1_init 92 = .ok (.aload_n 0, 1) := by decide +kernel
theorem dX1_init_93 : decode cX1_init 93 = .ok (.bipush 100, 2) := by decide +kernel
theorem dX1_init_95 : decode cX1_init 95 = .ok (.newarray .int, 2) := by decide +kernel
theorem dX1_init_97 : decode cX1_init 97 = .ok (.putfield 45, 3) := by decide +kernel
theorem dX1_init_100 : decode cX1_init 100 = .ok (.aload_n 0, 1) := by decide +kernel
theorem dX1_init_101 : decode cX1_init 101 = .ok (.aload_n 1, 1) := by decide +kernel
theorem dX1_init_102 : decode cX1_init 102 = .ok (.putfield 48, 3) := by decide +kernel
theorem dX1_init_105 : decode cX1_init 105 = .ok (.return_, 1) := by decide +kernel
theorem dX1_begin_0 : decode cX1_begin 0 = .ok (.aload_n 0, 1) := by decide +kernel
theorem dX1_begin_1 : decode cX1_begin 1 = .ok (.getfield 11, 3) := by decide +kernel
theorem dX1_begin_4 : decode cX1_begin 4 = .ok (.aload_n 0, 1) := by decide +kernel
theorem dX1_begin_5 : decode cX1_begin 5 = .ok (.getfield 52, 3) := by decide +kernel
theorem dX1_begin_8 : decode cX1_begin 8 = .ok (.iload_n 1, 1) := by decide +kernel
theorem dX1_begin_9 : decode cX1_begin 9 = .ok (.iastore, 1) := by decide +kernel
theorem dX1_begin_10 : decode cX1_begin 10 = .ok (.aload_n 0, 1) := by decide +kernel
theorem dX1_begin_11 : decode cX1_begin 11 = .ok (.getfield 15, 3) := by decide +kernel
theorem dX1_begin_14 : decode cX1_begin 14 = .ok (.aload_n 0, 1) := by decide +kernel
theorem dX1_begin_15 : decode cX1_begin 15 = .ok (.getfield 52, 3) := by decide +kernel
theorem dX1_begin_18 : decode cX1_begin 18 = .ok (.iload_n 2, 1) := by decide +kernel
theorem dX1_begin_19 : decode cX1_begin 19 = .ok (.iastore, 1) := by decide +kernel
theorem dX1_begin_20 : decode cX1_begin 20 = .ok (.aload_n 0, 1) := by decide +kernel
theorem dX1_begin_21 : decode cX1_begin 21 = .ok (.getfield 18, 3) := by decide +kernel
theorem dX1_begin_24 : decode cX1_begin 24 = .ok (.aload_n 0, 1) := by decide +kernel
theorem dX1_begin_25 : decode cX1_begin 25 = .ok (.getfield 52, 3) := by decide +kernel
theorem dX1_begin_28 : decode cX1_begin 28 = .ok (.iload_n 3, 1) := by decide +kernel
theorem dX1_begin_29 : decode cX1_begin 29 = .ok (.iastore, 1) := by decide +kernel
theorem dX1_begin_30 : decode cX1_begin 30 = .ok (.aload_n 0, 1) := by decide +kernel
theorem dX1_begin_31 : decode cX1_begin 31 = .ok (.getfield 21, 3) := by decide +kernel
theorem dX1_begin_34 : decode cX1_begin 34 = .ok (.aload_n 0, 1) := by decide +kernel
theorem dX1_begin_35 : decode cX1_begin 35 = .ok (.getfield 52, 3) := by decide +kernel
theorem dX1_begin_38 : decode cX1_begin 38 = .ok (.iload 4, 2) := by decide +kernel
theorem dX1_begin_40 : decode cX1_begin 40 = .ok (.iastore, 1) := by decide +kernel
theorem dX1_begin_41 : decode cX1_begin 41 = .ok (.aload_n 0, 1) := by decide +kernel
theorem dX1_begin_42 : decode cX1_begin 42 = .ok (.getfield 42, 3) := by decide +kernel
theorem dX1_begin_45 : decode cX1_begin 45 = .ok (.aload_n 0, 1) := by decide +kernel
theorem dX1_begin_46 : decode cX1_begin 46 = .ok (.getfield 52, 3) := by decide +kernel
theorem dX1_begin_49 : decode cX1_begin 49 = .ok (.aload_n 0, 1) := by decide +kernel
theorem dX1_begin_50 : decode cX1_begin 50 = .ok (.getfield 48, 3) := by decide +kernel
theorem dX1_begin_53 : decode cX1_begin 53 = .ok (.iload_n 3, 1) := by decide +kernel
theorem dX1_begin_54 : decode cX1_begin 54 = .ok (.iload 4, 2) := by decide +kernel
theorem dX1_begin_56 : decode cX1_begin 56 = .ok (.invokevirtual 56, 3) := by decide +kernel
theorem dX1_begin_59 : decode cX1_begin 59 = .ok (.iastore, 1) := by decide +kernel
theorem dX1_begin_60 : decode cX1_begin 60 = .ok (.return_, 1) := by decide +kernel
theorem dX1_reach_0 : decode cX1_reach 0 = .ok (.aload_n 0, 1) := by decide +kernel
theorem dX1_reach_1 : decode cX1_reach 1 = .ok (.getfield 24, 3) := by decide +kernel
theorem dX1_reach_4 : decode cX1_reach 4 = .ok (.aload_n 0, 1) := by decide +kernel
theorem dX1_reach_5 : decode cX1_reach 5 = .ok (.getfield 52, 3) := by decide +kernel
theorem dX1_reach_8 : decode cX1_reach 8 = .ok (.iload_n 1, 1) := by decide +kernel
theorem dX1_reach_9 : decode cX1_reach 9 = .ok (.iastore, 1) := by decide +kernel
theorem dX1_reach_10 : decode cX1_reach 10 = .ok (.aload_n 0, 1) := by decide +kernel
theorem dX1_reach_11 : decode cX1_reach 11 = .ok (.getfield 27, 3) := by decide +kernel
theorem dX1_reach_14 : decode cX1_reach 14 = .ok (.aload_n 0, 1) := by decide +kernel
theorem dX1_reach_15 : decode cX1_reach 15 = .ok (.getfield 52, 3) := by decide +kernel
theorem dX1_reach_18 : decode cX1_reach 18 = .ok (.iload_n 2, 1) := by decide +kernel
theorem dX1_reach_19 : decode cX1_reach 19 = .ok (.iastore, 1) := by decide +kernel
theorem dX1_reach_20 : decode cX1_reach 20 = .ok (.return_, 1) := by decide +kernel
theorem dX1_finish_0 : decode cX1_finish 0 = .ok (.aload_n 0, 1) := by decide +kernel
theorem dX1_finish_1 : decode cX1_finish 1 = .ok (.getfield 30, 3) := by decide +kernel
theorem dX1_finish_4 : decode cX1_finish 4 = .ok (.aload_n 0, 1) := by decide +kernel
theorem dX1_finish_5 : decode cX1_finish 5 = .ok (.getfield 52, 3) := by decide +kernel
theorem dX1_finish_8 : decode cX1_finish 8 = .ok (.iload_n 1, 1) := by decide +kernel
theorem dX1_finish_9 : decode cX1_finish 9 = .ok (.iastore, 1) := by decide +kernel
theorem dX1_finish_10 : decode cX1_finish 10 = .ok (.aload_n 0, 1) := by decide +kernel
theorem dX1_finish_11 : decode cX1_finish 11 = .ok (.getfield 33, 3) := by decide +kernel
theorem dX1_finish_14 : decode cX1_finish 14 = .ok (.aload_n 0, 1) := by decide +kernel
theorem dX1_finish_15 : decode cX1_finish 15 = .ok (.getfield 52, 3) := by decide +kernel
theorem dX1_finish_18 : decode cX1_finish 18 = .ok (.iload_n 2, 1) := by decide +kernel
theorem dX1_finish_19 : decode cX1_finish 19 = .ok (.iastore, 1) := by decide +kernel
theorem dX1_finish_20 : decode cX1_finish 20 = .ok (.aload_n 0, 1) := by decide +kernel
theorem dX1_finish_21 : decode cX1_finish 21 = .ok (.getfield 36, 3) := by decide +kernel
theorem dX1_finish_24 : decode cX1_finish 24 = .ok (.aload_n 0, 1) := by decide +kernel
theorem dX1_finish_25 : decode cX1_finish 25 = .ok (.getfield 52, 3) := by decide +kernel
theorem dX1_finish_28 : decode cX1_finish 28 = .ok (.iload_n 3, 1) := by decide +kernel
theorem dX1_finish_29 : decode cX1_finish 29 = .ok (.iastore, 1) := by decide +kernel
theorem dX1_finish_30 : decode cX1_finish 30 = .ok (.aload_n 0, 1) := by decide +kernel
theorem dX1_finish_31 : decode cX1_finish 31 = .ok (.getfield 39, 3) := by decide +kernel
theorem dX1_finish_34 : decode cX1_finish 34 = .ok (.aload_n 0, 1) := by decide +kernel
theorem dX1_finish_35 : decode cX1_finish 35 = .ok (.getfield 52, 3) := by decide +kernel
theorem dX1_finish_38 : decode cX1_finish 38 = .ok (.sipush 10000, 3) := by decide +kernel
theorem dX1_finish_41 : decode cX1_finish 41 = .ok (.iastore, 1) := by decide +kernel
theorem dX1_finish_42 : decode cX1_finish 42 = .ok (.aload_n 0, 1) := by decide +kernel
theorem dX1_finish_43 : decode cX1_finish 43 = .ok (.getfield 52, 3) := by decide +kernel
theorem dX1_finish_46 : decode cX1_finish 46 = .ok (.istore 4, 2) := by decide +kernel
theorem dX1_finish_48 : decode cX1_finish 48 = .ok (.iload 4, 2) := by decide +kernel
theorem dX1_finish_50 : decode cX1_finish 50 = .ok (.ifCond .le 43, 3) := by decide +kernel
theorem dX1_finish_53 : decode cX1_finish 53 = .ok (.aload_n 0, 1) := by decide +kernel
theorem dX1_finish_54 : decode cX1_finish 54 = .ok (.getfield 30, 3) := by decide +kernel
theorem dX1_finish_57 : decode cX1_finish 57 = .ok (.aload_n 0, 1) := by decide +kernel
theorem dX1_finish_58 : decode cX1_finish 58 = .ok (.getfield 45, 3) := by decide +kernel
theorem dX1_finish_61 : decode cX1_finish 61 = .ok (.iload 4, 2) := by decide +kernel
theorem dX1_finish_63 : decode cX1_finish 63 = .ok (.iconst 1, 1) := by decide +kernel
theorem dX1_finish_64 : decode cX1_finish 64 = .ok (.isub, 1) := by decide +kernel
theorem dX1_finish_65 : decode cX1_finish 65 = .ok (.iaload, 1) := by decide +kernel
theorem dX1_finish_66 : decode cX1_finish 66 = .ok (.iaload, 1) := by decide +kernel
theorem dX1_finish_67 : decode cX1_finish 67 = .ok (.iload_n 1, 1) := by decide +kernel
theorem dX1_finish_68 : decode cX1_finish 68 = .ok (.if_icmp .le 25, 3) := by decide +kernel
theorem dX1_finish_71 : decode cX1_finish 71 = .ok (.aload_n 0, 1) := by decide +kernel
theorem dX1_finish_72 : decode cX1_finish 72 = .ok (.getfield 45, 3) := by decide +kernel
theorem dX1_finish_75 : decode cX1_finish 75 = .ok (.iload 4, 2) := by decide +kernel
theorem dX1_finish_77 : decode cX1_finish 77 = .ok (.aload_n 0, 1) := by decide +kernel
theorem dX1_finish_78 : decode cX1_finish 78 = .ok (.getfield 45, 3) := by decide +kernel
theorem dX1_finish_81 : decode cX1_finish 81 = .ok (.iload 4, 2) := by decide +kernel
theorem dX1_finish_83 : decode cX1_finish 83 = .ok (.iconst 1, 1) := by decide +kernel
theorem dX1_finish_84 : decode cX1_finish 84 = .ok (.isub, 1) := by decide +kernel
theorem dX1_finish_85 : decode cX1_finish 85 = .ok (.iaload, 1) := by decide +kernel
theorem dX1_finish_86 : decode cX1_finish 86 = .ok (.iastore, 1) := by decide +kernel
theorem dX1_finish_87 : decode cX1_finish 87 = .ok (.iinc 4 (-1), 3) := by decide +kernel
theorem dX1_finish_90 : decode cX1_finish 90 = .ok (.goto (-42), 3) := by decide +kernel
theorem dX1_finish_93 : decode cX1_finish 93 = .ok (.aload_n 0, 1) := by decide +kernel
theorem dX1_finish_94 : decode cX1_finish 94 = .ok (.getfield 45, 3) := by decide +kernel
theorem dX1_finish_97 : decode cX1_finish 97 = .ok (.iload 4, 2) := by decide +kernel
theorem dX1_finish_99 : decode cX1_finish 99 = .ok (.aload_n 0, 1) := by decide +kernel
theorem dX1_finish_100 : decode cX1_finish 100 = .ok (.getfield 52, 3) := by decide +kernel
theorem dX1_finish_103 : decode cX1_finish 103 = .ok (.iastore, 1) := by decide +kernel
theorem dX1_finish_104 : decode cX1_finish 104 = .ok (.aload_n 0, 1) := by decide +kernel
theorem dX1_finish_105 : decode cX1_finish 105 = .ok (.dup, 1) := by decide +kernel
theorem dX1_finish_106 : decode cX1_finish 106 = .ok (.getfield 52, 3) := by decide +kernel
theorem dX1_finish_109 : decode cX1_finish 109 = .ok (.iconst 1, 1) := by decide +kernel
theorem dX1_finish_110 : decode cX1_finish 110 = .ok (.iadd, 1) := by decide +kernel
theorem dX1_finish_111 : decode cX1_finish 111 = .ok (.putfield 52, 3) := by decide +kernel
theorem dX1_finish_114 : decode cX1_finish 114 = .ok (.aload_n 0, 1) := by decide +kernel
theorem dX1_finish_115 : decode cX1_finish 115 = .ok (.getfield 52, 3) := by decide +kernel
theorem dX1_finish_118 : decode cX1_finish 118 = .ok (.iconst 1, 1) := by decide +kernel
theorem dX1_finish_119 : decode cX1_finish 119 = .ok (.isub, 1) := by decide +kernel
theorem dX1_finish_120 : decode cX1_finish 120 = .ok (.ireturn, 1) := by decide +kernel
theorem dX1_noteArea_0 : decode cX1_noteArea 0 = .ok (.iconst 0, 1) := by decide +kernel
theorem dX1_noteArea_1 : decode cX1_noteArea 1 = .ok (.istore 4, 2) := by decide +kernel
theorem dX1_noteArea_3 : decode cX1_noteArea 3 = .ok (.iload 4, 2) := by decide +kernel
theorem dX1_noteArea_5 : decode cX1_noteArea 5 = .ok (.aload_n 0, 1) := by decide +kernel
theorem dX1_noteArea_6 : decode cX1_noteArea 6 = .ok (.getfield 52, 3) := by decide +kernel
theorem dX1_noteArea_9 : decode cX1_noteArea 9 = .ok (.if_icmp .ge 48, 3) := by decide +kernel
theorem dX1_noteArea_12 : decode cX1_noteArea 12 = .ok (.aload_n 0, 1) := by decide +kernel
theorem dX1_noteArea_13 : decode cX1_noteArea 13 = .ok (.getfield 48, 3) := by decide +kernel
theorem dX1_noteArea_16 : decode cX1_noteArea 16 = .ok (.iload_n 2, 1) := by decide +kernel
theorem dX1_noteArea_17 : decode cX1_noteArea 17 = .ok (.iload_n 3, 1) := by decide +kernel
theorem dX1_noteArea_18 : decode cX1_noteArea 18 = .ok (.aload_n 0, 1) := by decide +kernel
theorem dX1_noteArea_19 : decode cX1_noteArea 19 = .ok (.getfield 18, 3) := by decide +kernel
theorem dX1_noteArea_22 : decode cX1_noteArea 22 = .ok (.iload 4, 2) := by decide +kernel
theorem dX1_noteArea_24 : decode cX1_noteArea 24 = .ok (.iaload, 1) := by decide +kernel
theorem dX1_noteArea_25 : decode cX1_noteArea 25 = .ok (.aload_n 0, 1) := by decide +kernel
theorem dX1_noteArea_26 : decode cX1_noteArea 26 = .ok (.getfield 21, 3) := by decide +kernel
theorem dX1_noteArea_29 : decode cX1_noteArea 29 = .ok (.iload 4, 2) := by decide +kernel
theorem dX1_noteArea_31 : decode cX1_noteArea 31 = .ok (.iaload, 1) := by decide +kernel
theorem dX1_noteArea_32 : decode cX1_noteArea 32 = .ok (.invokevirtual 62, 3) := by decide +kernel
theorem dX1_noteArea_35 : decode cX1_noteArea 35 = .ok (.ifCond .eq 16, 3) := by decide +kernel
theorem dX1_noteArea_38 : decode cX1_noteArea 38 = .ok (.aload_n 0, 1) := by decide +kernel
theorem dX1_noteArea_39 : decode cX1_noteArea 39 = .ok (.getfield 42, 3) := by decide +kernel
theorem dX1_noteArea_42 : decode cX1_noteArea 42 = .ok (.iload 4, 2) := by decide +kernel
theorem dX1_noteArea_44 : decode cX1_noteArea 44 = .ok (.dup2, 1) := by decide +kernel
theorem dX1_noteArea_45 : decode cX1_noteArea 45 = .ok (.iaload, 1) := by decide +kernel
theorem dX1_noteArea_46 : decode cX1_noteArea 46 = .ok (.iconst 1, 1) := by decide +kernel
theorem dX1_noteArea_47 : decode cX1_noteArea 47 = .ok (.iload_n 1, 1) := by decide +kernel
theorem dX1_noteArea_48 : decode cX1_noteArea 48 = .ok (.ishl, 1) := by decide +kernel
theorem dX1_noteArea_49 : decode cX1_noteArea 49 = .ok (.ior, 1) := by decide +kernel
theorem dX1_noteArea_50 : decode cX1_noteArea 50 = .ok (.iastore, 1) := by decide +kernel
theorem dX1_noteArea_51 : decode cX1_noteArea 51 = .ok (.iinc 4 1, 3) := by decide +kernel
theorem dX1_noteArea_54 : decode cX1_noteArea 54 = .ok (.goto (-51), 3) := by decide +kernel
theorem dX1_noteArea_57 : decode cX1_noteArea 57 = .ok (.return_, 1) := by decide +kernel
theorem dX1_isStruck_0 : decode cX1_isStruck 0 = .ok (.aload_n 0, 1) := by decide +kernel
theorem dX1_isStruck_1 : decode cX1_isStruck 1 = .ok (.getfield 39, 3) := by decide +kernel
theorem dX1_isStruck_4 : decode cX1_isStruck 4 = .ok (.iload_n 1, 1) := by decide +kernel
theorem dX1_isStruck_5 : decode cX1_isStruck 5 = .ok (.iaload, 1) := by decide +kernel
theorem dX1_isStruck_6 : decode cX1_isStruck 6 = .ok (.sipush 10000, 3) := by decide +kernel
theorem dX1_isStruck_9 : decode cX1_isStruck 9 = .ok (.if_icmp .eq 7, 3) := by decide +kernel
theorem dX1_isStruck_12 : decode cX1_isStruck 12 = .ok (.iconst 1, 1) := by decide +kernel
theorem dX1_isStruck_13 : decode cX1_isStruck 13 = .ok (.goto 4, 3) := by decide +kernel
theorem dX1_isStruck_16 : decode cX1_isStruck 16 = .ok (.iconst 0, 1) := by decide +kernel
theorem dX1_isStruck_17 : decode cX1_isStruck 17 = .ok (.ireturn, 1) := by decide +kernel
theorem dX1_cross_0 : decode cX1_cross 0 = .ok (.aload_n 0, 1) := by decide +kernel
theorem dX1_cross_1 : decode cX1_cross 1 = .ok (.getfield 39, 3) := by decide +kernel
theorem dX1_cross_4 : decode cX1_cross 4 = .ok (.iload_n 1, 1) := by decide +kernel
theorem dX1_cross_5 : decode cX1_cross 5 = .ok (.iload_n 2, 1) := by decide +kernel
theorem dX1_cross_6 : decode cX1_cross 6 = .ok (.iastore, 1) := by decide +kernel
theorem dX1_cross_7 : decode cX1_cross 7 = .ok (.return_, 1) := by decide +kernel
theorem dX1_isKnown_0 : decode cX1_isKnown 0 = .ok (.aload_n 0, 1) := by decide +kernel
theorem dX1_isKnown_1 : decode cX1_isKnown 1 = .ok (.getfield 36, 3) := by decide +kernel
theorem dX1_isKnown_4 : decode cX1_isKnown 4 = .ok (.iload_n 1, 1) := by decide +kernel
theorem dX1_isKnown_5 : decode cX1_isKnown 5 = .ok (.iaload, 1) := by decide +kernel
theorem dX1_isKnown_6 : decode cX1_isKnown 6 = .ok (.iload_n 2, 1) := by decide +kernel
theorem dX1_isKnown_7 : decode cX1_isKnown 7 = .ok (.if_icmp .gt 17, 3) := by decide +kernel
theorem dX1_isKnown_10 : decode cX1_isKnown 10 = .ok (.iload_n 2, 1) := by decide +kernel
theorem dX1_isKnown_11 : decode cX1_isKnown 11 = .ok (.aload_n 0, 1) := by decide +kernel
theorem dX1_isKnown_12 : decode cX1_isKnown 12 = .ok (.getfield 39, 3) := by decide +kernel
theorem dX1_isKnown_15 : decode cX1_isKnown 15 = .ok (.iload_n 1, 1) := by decide +kernel
theorem dX1_isKnown_16 : decode cX1_isKnown 16 = .ok (.iaload, 1) := by decide +kernel
theorem dX1_isKnown_17 : decode cX1_isKnown 17 = .ok (.if_icmp .ge 7, 3) := by decide +kernel
theorem dX1_isKnown_20 : decode cX1_isKnown 20 = .ok (.iconst 1, 1) := by decide +kernel
theorem dX1_isKnown_21 : decode cX1_isKnown 21 = .ok (.goto 4, 3) := by decide +kernel
theorem dX1_isKnown_24 : decode cX1_isKnown 24 = .ok (.iconst 0, 1) := by decide +kernel
theorem dX1_isKnown_25 : decode cX1_isKnown 25 = .ok (.ireturn, 1) := by decide +kernel
theorem dX1_serves_0 : decode cX1_serves 0 = .ok (.aload_n 0, 1) := by decide +kernel
theorem dX1_serves_1 : decode cX1_serves 1 = .ok (.getfield 11, 3) := by decide +kernel
theorem dX1_serves_4 : decode cX1_serves 4 = .ok (.iload_n 1, 1) := by decide +kernel
theorem dX1_serves_5 : decode cX1_serves 5 = .ok (.iaload, 1) := by decide +kernel
theorem dX1_serves_6 : decode cX1_serves 6 = .ok (.iload_n 2, 1) := by decide +kernel
theorem dX1_serves_7 : decode cX1_serves 7 = .ok (.if_icmp .ne 48, 3) := by decide +kernel
theorem dX1_serves_10 : decode cX1_serves 10 = .ok (.aload_n 0, 1) := by decide +kernel
theorem dX1_serves_11 : decode cX1_serves 11 = .ok (.getfield 15, 3) := by decide +kernel
theorem dX1_serves_14 : decode cX1_serves 14 = .ok (.iload_n 1, 1) := by decide +kernel
theorem dX1_serves_15 : decode cX1_serves 15 = .ok (.iaload, 1) := by decide +kernel
theorem dX1_serves_16 : decode cX1_serves 16 = .ok (.iconst 2, 1) := by decide +kernel
theorem dX1_serves_17 : decode cX1_serves 17 = .ok (.if_icmp .eq 38, 3) := by decide +kernel
theorem dX1_serves_20 : decode cX1_serves 20 = .ok (.aload_n 0, 1) := by decide +kernel
theorem dX1_serves_21 : decode cX1_serves 21 = .ok (.getfield 24, 3) := by decide +kernel
theorem dX1_serves_24 : decode cX1_serves 24 = .ok (.iload_n 1, 1) := by decide +kernel
theorem dX1_serves_25 : decode cX1_serves 25 = .ok (.iaload, 1) := by decide +kernel
theorem dX1_serves_26 : decode cX1_serves 26 = .ok (.iload 4, 2) := by decide +kernel
theorem dX1_serves_28 : decode cX1_serves 28 = .ok (.if_icmp .gt 27, 3) := by decide +kernel
theorem dX1_serves_31 : decode cX1_serves 31 = .ok (.iload_n 3, 1) := by decide +kernel
theorem dX1_serves_32 : decode cX1_serves 32 = .ok (.aload_n 0, 1) := by decide +kernel
theorem dX1_serves_33 : decode cX1_serves 33 = .ok (.getfield 27, 3) := by decide +kernel
theorem dX1_serves_36 : decode cX1_serves 36 = .ok (.iload_n 1, 1) := by decide +kernel
theorem dX1_serves_37 : decode cX1_serves 37 = .ok (.iaload, 1) := by decide +kernel
theorem dX1_serves_38 : decode cX1_serves 38 = .ok (.if_icmp .gt 17, 3) := by decide +kernel
theorem dX1_serves_41 : decode cX1_serves 41 = .ok (.aload_n 0, 1) := by decide +kernel
theorem dX1_serves_42 : decode cX1_serves 42 = .ok (.iload_n 1, 1) := by decide +kernel
theorem dX1_serves_43 : decode cX1_serves 43 = .ok (.iload 5, 2) := by decide +kernel
theorem dX1_serves_45 : decode cX1_serves 45 = .ok (.invokevirtual 66, 3) := by decide +kernel
theorem dX1_serves_48 : decode cX1_serves 48 = .ok (.ifCond .eq 7, 3) := by decide +kernel
theorem dX1_serves_51 : decode cX1_serves 51 = .ok (.iconst 1, 1) := by decide +kernel
theorem dX1_serves_52 : decode cX1_serves 52 = .ok (.goto 4, 3) := by decide +kernel
theorem dX1_serves_55 : decode cX1_serves 55 = .ok (.iconst 0, 1) := by decide +kernel
theorem dX1_serves_56 : decode cX1_serves 56 = .ok (.ireturn, 1) := by decide +kernel
theorem dX1_cuts_0 : decode cX1_cuts 0 = .ok (.aload_n 0, 1) := by decide +kernel
theorem dX1_cuts_1 : decode cX1_cuts 1 = .ok (.getfield 24, 3) := by decide +kernel
theorem dX1_cuts_4 : decode cX1_cuts 4 = .ok (.iload_n 1, 1) := by decide +kernel
theorem dX1_cuts_5 : decode cX1_cuts 5 = .ok (.iaload, 1) := by decide +kernel
theorem dX1_cuts_6 : decode cX1_cuts 6 = .ok (.iload_n 3, 1) := by decide +kernel
theorem dX1_cuts_7 : decode cX1_cuts 7 = .ok (.if_icmp .gt 41, 3) := by decide +kernel
theorem dX1_cuts_10 : decode cX1_cuts 10 = .ok (.iload_n 3, 1) := by decide +kernel
theorem dX1_cuts_11 : decode cX1_cuts 11 = .ok (.aload_n 0, 1) := by decide +kernel
theorem dX1_cuts_12 : decode cX1_cuts 12 = .ok (.getfield 27, 3) := by decide +kernel
theorem dX1_cuts_15 : decode cX1_cuts 15 = .ok (.iload_n 1, 1) := by decide +kernel
theorem dX1_cuts_16 : decode cX1_cuts 16 = .ok (.iaload, 1) := by decide +kernel
theorem dX1_cuts_17 : decode cX1_cuts 17 = .ok (.if_icmp .gt 31, 3) := by decide +kernel
theorem dX1_cuts_20 : decode cX1_cuts 20 = .ok (.aload_n 0, 1) := by decide +kernel
theorem dX1_cuts_21 : decode cX1_cuts 21 = .ok (.getfield 48, 3) := by decide +kernel
theorem dX1_cuts_24 : decode cX1_cuts 24 = .ok (.iload_n 2, 1) := by decide +kernel
theorem dX1_cuts_25 : decode cX1_cuts 25 = .ok (.iload_n 2, 1) := by decide +kernel
theorem dX1_cuts_26 : decode cX1_cuts 26 = .ok (.aload_n 0, 1) := by decide +kernel
theorem dX1_cuts_27 : decode cX1_cuts 27 = .ok (.getfield 18, 3) := by decide +kernel
theorem dX1_cuts_30 : decode cX1_cuts 30 = .ok (.iload_n 1, 1) := by decide +kernel
theorem dX1_cuts_31 : decode cX1_cuts 31 = .ok (.iaload, 1) := by decide +kernel
theorem dX1_cuts_32 : decode cX1_cuts 32 = .ok (.aload_n 0, 1) := by decide +kernel
theorem dX1_cuts_33 : decode cX1_cuts 33 = .ok (.getfield 21, 3) := by decide +kernel
theorem dX1_cuts_36 : decode cX1_cuts 36 = .ok (.iload_n 1, 1) := by decide +kernel
theorem dX1_cuts_37 : decode cX1_cuts 37 = .ok (.iaload, 1) := by decide +kernel
theorem dX1_cuts_38 : decode cX1_cuts 38 = .ok (.invokevirtual 62, 3) := by decide +kernel
theorem dX1_cuts_41 : decode cX1_cuts 41 = .ok (.ifCond .eq 7, 3) := by decide +kernel
theorem dX1_cuts_44 : decode cX1_cuts 44 = .ok (.iconst 1, 1) := by decide +kernel
theorem dX1_cuts_45 : decode cX1_cuts 45 = .ok (.goto 4, 3) := by decide +kernel
theorem dX1_cuts_48 : decode cX1_cuts 48 = .ok (.iconst 0, 1) := by decide +kernel
theorem dX1_cuts_49 : decode cX1_cuts 49 = .ok (.ireturn, 1) := by decide +kernel
theorem dX1_state_0 : decode cX1_state 0 = .ok (.iconst 0, 1) := by decide +kernel
theorem dX1_state_1 : decode cX1_state 1 = .ok (.istore 5, 2) := by decide +kernel
theorem dX1_state_3 : decode cX1_state 3 = .ok (.iconst 0, 1) := by decide +kernel
theorem dX1_state_4 : decode cX1_state 4 = .ok (.istore 6, 2) := by decide +kernel
theorem dX1_state_6 : decode cX1_state 6 = .ok (.iload 6, 2) := by decide +kernel
theorem dX1_state_8 : decode cX1_state 8 = .ok (.aload_n 0, 1) := by decide +kernel
theorem dX1_state_9 : decode cX1_state 9 = .ok (.getfield 52, 3) := by decide +kernel
theorem dX1_state_12 : decode cX1_state 12 = .ok (.if_icmp .ge 70, 3) := by decide +kernel
theorem dX1_state_15 : decode cX1_state 15 = .ok (.aload_n 0, 1) := by decide +kernel
theorem dX1_state_16 : decode cX1_state 16 = .ok (.getfield 30, 3) := by decide +kernel
theorem dX1_state_19 : decode cX1_state 19 = .ok (.aload_n 0, 1) := by decide +kernel
theorem dX1_state_20 : decode cX1_state 20 = .ok (.getfield 45, 3) := by decide +kernel
theorem dX1_state_23 : decode cX1_state 23 = .ok (.iload 6, 2) := by decide +kernel
theorem dX1_state_25 : decode cX1_state 25 = .ok (.iaload, 1) := by decide +kernel
theorem dX1_state_26 : decode cX1_state 26 = .ok (.iaload, 1) := by decide +kernel
theorem dX1_state_27 : decode cX1_state 27 = .ok (.iload_n 3, 1) := by decide +kernel
theorem dX1_state_28 : decode cX1_state 28 = .ok (.if_icmp .gt 54, 3) := by decide +kernel
theorem dX1_state_31 : decode cX1_state 31 = .ok (.aload_n 0, 1) := by decide +kernel
theorem dX1_state_32 : decode cX1_state 32 = .ok (.getfield 45, 3) := by decide +kernel
theorem dX1_state_35 : decode cX1_state 35 = .ok (.iload 6, 2) := by decide +kernel
theorem dX1_state_37 : decode cX1_state 37 = .ok (.iaload, 1) := by decide +kernel
theorem dX1_state_38 : decode cX1_state 38 = .ok (.istore 7, 2) := by decide +kernel
theorem dX1_state_40 : decode cX1_state 40 = .ok (.aload_n 0, 1) := by decide +kernel
theorem dX1_state_41 : decode cX1_state 41 = .ok (.iload 7, 2) := by decide +kernel
theorem dX1_state_43 : decode cX1_state 43 = .ok (.iload 4, 2) := by decide +kernel
theorem dX1_state_45 : decode cX1_state 45 = .ok (.invokevirtual 66, 3) := by decide +kernel
theorem dX1_state_48 : decode cX1_state 48 = .ok (.ifCond .eq 28, 3) := by decide +kernel
theorem dX1_state_51 : decode cX1_state 51 = .ok (.aload_n 0, 1) := by decide +kernel
theorem dX1_state_52 : decode cX1_state 52 = .ok (.iload 7, 2) := by decide +kernel
theorem dX1_state_54 : decode cX1_state 54 = .ok (.iload_n 1, 1) := by decide +kernel
theorem dX1_state_55 : decode cX1_state 55 = .ok (.iload_n 2, 1) := by decide +kernel
theorem dX1_state_56 : decode cX1_state 56 = .ok (.invokevirtual 70, 3) := by decide +kernel
theorem dX1_state_59 : decode cX1_state 59 = .ok (.ifCond .eq 17, 3) := by decide +kernel
theorem dX1_state_62 : decode cX1_state 62 = .ok (.iload 5, 2) := by decide +kernel
theorem dX1_state_64 : decode cX1_state 64 = .ok (.aload_n 0, 1) := by decide +kernel
theorem dX1_state_65 : decode cX1_state 65 = .ok (.getfield 15, 3) := by decide +kernel
theorem dX1_state_68 : decode cX1_state 68 = .ok (.iload 7, 2) := by decide +kernel
theorem dX1_state_70 : decode cX1_state 70 = .ok (.iaload, 1) := by decide +kernel
theorem dX1_state_71 : decode cX1_state 71 = .ok (.invokestatic 74, 3) := by decide +kernel
theorem dX1_state_74 : decode cX1_state 74 = .ok (.istore 5, 2) := by decide +kernel
theorem dX1_state_76 : decode cX1_state 76 = .ok (.iinc 6 1, 3) := by decide +kernel
theorem dX1_state_79 : decode cX1_state 79 = .ok (.goto (-73), 3) := by decide +kernel
theorem dX1_state_82 : decode cX1_state 82 = .ok (.iload 5, 2) := by decide +kernel
theorem dX1_state_84 : decode cX1_state 84 = .ok (.ireturn, 1) := by decide +kernel
theorem dX1_after_0 : decode cX1_after 0 = .ok (.iload_n 1, 1) := by decide +kernel
theorem dX1_after_1 : decode cX1_after 1 = .ok (.ifCond .ne 5, 3) := by decide +kernel
theorem dX1_after_4 : decode cX1_after 4 = .ok (.iconst 2, 1) := by decide +kernel
theorem dX1_after_5 : decode cX1_after 5 = .ok (.ireturn, 1) := by decide +kernel
theorem dX1_after_6 : decode cX1_after 6 = .ok (.iload_n 1, 1) := by decide +kernel
theorem dX1_after_7 : decode cX1_after 7 = .ok (.iconst 1, 1) := by decide +kernel
theorem dX1_after_8 : decode cX1_after 8 = .ok (.if_icmp .ne 13, 3) := by decide +kernel
theorem dX1_after_11 : decode cX1_after 11 = .ok (.iload_n 0, 1) := by decide +kernel
theorem dX1_after_12 : decode cX1_after 12 = .ok (.ifCond .ne 7, 3) := by decide +kernel
theorem dX1_after_15 : decode cX1_after 15 = .ok (.iconst 1, 1) := by decide +kernel
theorem dX1_after_16 : decode cX1_after 16 = .ok (.goto 4, 3) := by decide +kernel
theorem dX1_after_19 : decode cX1_after 19 = .ok (.iload_n 0, 1) := by decide +kernel
theorem dX1_after_20 : decode cX1_after 20 = .ok (.ireturn, 1) := by decide +kernel
theorem dX1_after_21 : decode cX1_after 21 = .ok (.iload_n 0, 1) := by decide +kernel
theorem dX1_after_22 : decode cX1_after 22 = .ok (.ifCond .ne 7, 3) := by decide +kernel
theorem dX1_after_25 : decode cX1_after 25 = .ok (.iconst 0, 1) := by decide +kernel
theorem dX1_after_26 : decode cX1_after 26 = .ok (.goto 4, 3) := by decide +kernel
theorem dX1_after_29 : decode cX1_after 29 = .ok (.iconst 3, 1) := by decide +kernel
theorem dX1_after_30 : decode cX1_after 30 = .ok (.ireturn, 1) := by decide +kernel
theorem dX1_opener_0 : decode cX1_opener 0 = .ok (.iconst 0, 1) := by decide +kernel
theorem dX1_opener_1 : decode cX1_opener 1 = .ok (.istore 5, 2) := by decide +kernel
theorem dX1_opener_3 : decode cX1_opener 3 = .ok (.iload 5, 2) := by decide +kernel
theorem dX1_opener_5 : decode cX1_opener 5 = .ok (.aload_n 0, 1) := by decide +kernel
theorem dX1_opener_6 : decode cX1_opener 6 = .ok (.getfield 52, 3) := by decide +kernel
theorem dX1_opener_9 : decode cX1_opener 9 = .ok (.if_icmp .ge 70, 3) := by decide +kernel
theorem dX1_opener_12 : decode cX1_opener 12 = .ok (.aload_n 0, 1) := by decide +kernel
theorem dX1_opener_13 : decode cX1_opener 13 = .ok (.getfield 30, 3) := by decide +kernel
theorem dX1_opener_16 : decode cX1_opener 16 = .ok (.aload_n 0, 1) := by decide +kernel
theorem dX1_opener_17 : decode cX1_opener 17 = .ok (.getfield 45, 3) := by decide +kernel
theorem dX1_opener_20 : decode cX1_opener 20 = .ok (.iload 5, 2) := by decide +kernel
theorem dX1_opener_22 : decode cX1_opener 22 = .ok (.iaload, 1) := by decide +kernel
theorem dX1_opener_23 : decode cX1_opener 23 = .ok (.iaload, 1) := by decide +kernel
theorem dX1_opener_24 : decode cX1_opener 24 = .ok (.iload_n 3, 1) := by decide +kernel
theorem dX1_opener_25 : decode cX1_opener 25 = .ok (.if_icmp .gt 54, 3) := by decide +kernel
theorem dX1_opener_28 : decode cX1_opener 28 = .ok (.aload_n 0, 1) := by decide +kernel
theorem dX1_opener_29 : decode cX1_opener 29 = .ok (.getfield 45, 3) := by decide +kernel
theorem dX1_opener_32 : decode cX1_opener 32 = .ok (.iload 5, 2) := by decide +kernel
theorem dX1_opener_34 : decode cX1_opener 34 = .ok (.iaload, 1) := by decide +kernel
theorem dX1_opener_35 : decode cX1_opener 35 = .ok (.istore 6, 2) := by decide +kernel
theorem dX1_opener_37 : decode cX1_opener 37 = .ok (.aload_n 0, 1) := by decide +kernel
theorem dX1_opener_38 : decode cX1_opener 38 = .ok (.getfield 15, 3) := by decide +kernel
theorem dX1_opener_41 : decode cX1_opener 41 = .ok (.iload 6, 2) := by decide +kernel
theorem dX1_opener_43 : decode cX1_opener 43 = .ok (.iaload, 1) := by decide +kernel
theorem dX1_opener_44 : decode cX1_opener 44 = .ok (.iconst 2, 1) := by decide +kernel
theorem dX1_opener_45 : decode cX1_opener 45 = .ok (.if_icmp .eq 28, 3) := by decide +kernel
theorem dX1_opener_48 : decode cX1_opener 48 = .ok (.aload_n 0, 1) := by decide +kernel
theorem dX1_opener_49 : decode cX1_opener 49 = .ok (.iload 6, 2) := by decide +kernel
theorem dX1_opener_51 : decode cX1_opener 51 = .ok (.iload 4, 2) := by decide +kernel
theorem dX1_opener_53 : decode cX1_opener 53 = .ok (.invokevirtual 66, 3) := by decide +kernel
theorem dX1_opener_56 : decode cX1_opener 56 = .ok (.ifCond .eq 17, 3) := by decide +kernel
theorem dX1_opener_59 : decode cX1_opener 59 = .ok (.aload_n 0, 1) := by decide +kernel
theorem dX1_opener_60 : decode cX1_opener 60 = .ok (.iload 6, 2) := by decide +kernel
theorem dX1_opener_62 : decode cX1_opener 62 = .ok (.iload_n 1, 1) := by decide +kernel
theorem dX1_opener_63 : decode cX1_opener 63 = .ok (.iload_n 2, 1) := by decide +kernel
theorem dX1_opener_64 : decode cX1_opener 64 = .ok (.invokevirtual 70, 3) := by decide +kernel
theorem dX1_opener_67 : decode cX1_opener 67 = .ok (.ifCond .eq 6, 3) := by decide +kernel
theorem dX1_opener_70 : decode cX1_opener 70 = .ok (.iload 6, 2) := by decide +kernel
theorem dX1_opener_72 : decode cX1_opener 72 = .ok (.ireturn, 1) := by decide +kernel
theorem dX1_opener_73 : decode cX1_opener 73 = .ok (.iinc 5 1, 3) := by decide +kernel
theorem dX1_opener_76 : decode cX1_opener 76 = .ok (.goto (-73), 3) := by decide +kernel
theorem dX1_opener_79 : decode cX1_opener 79 = .ok (.iconst (-1), 1) := by decide +kernel
theorem dX1_opener_80 : decode cX1_opener 80 = .ok (.ireturn, 1) := by decide +kernel
theorem dX2_init_0 : decode cX2_init 0 = .ok (.aload_n 0, 1) := by decide +kernel
theorem dX2_init_1 : decode cX2_init 1 = .ok (.invokespecial 3, 3) := by decide +kernel
theorem dX2_init_4 : decode cX2_init 4 = .ok (.aload_n 0, 1) := by decide +kernel
theorem dX2_init_5 : decode cX2_init 5 = .ok (.sipush 150, 3) := by decide +kernel
theorem dX2_init_8 : decode cX2_init 8 = .ok (.newarray .int, 2) := by decide +kernel
theorem dX2_init_10 : decode cX2_init 10 = .ok (.putfield 11, 3) := by decide +kernel
theorem dX2_init_13 : decode cX2_init 13 = .ok (.aload_n 0, 1) := by decide +kernel
theorem dX2_init_14 : decode cX2_init 14 = .ok (.sipush 150, 3) := by decide +kernel
theorem dX2_init_17 : decode cX2_init 17 = .ok (.newarray .int, 2) := by decide +kernel
theorem dX2_init_19 : decode cX2_init 19 = .ok (.putfield 15, 3) := by decide +kernel
theorem dX2_init_22 : decode cX2_init 22 = .ok (.aload_n 0, 1) := by decide +kernel
theorem dX2_init_23 : decode cX2_init 23 = .ok (.sipush 150, 3) := by decide +kernel
theorem dX2_init_26 : decode cX2_init 26 = .ok (.newarray .int, 2) := by decide +kernel
theorem dX2_init_28 : decode cX2_init 28 = .ok (.putfield 18, 3) := by decide +kernel
theorem dX2_init_31 : decode cX2_init 31 = .ok (.aload_n 0, 1) := by decide +kernel
theorem dX2_init_32 : decode cX2_init 32 = .ok (.sipush 150, 3) := by decide +kernel
theorem dX2_init_35 : decode cX2_init 35 = .ok (.newarray .int, 2) := by decide +kernel
theorem dX2_init_37 : decode cX2_init 37 = .ok (.putfield 21, 3) := by decide +kernel
theorem dX2_init_40 : decode cX2_init 40 = .ok (.aload_n 0, 1) := by decide +kernel
theorem dX2_init_41 : decode cX2_init 41 = .ok (.sipush 150, 3) := by decide +kernel
theorem dX2_init_44 : decode cX2_init 44 = .ok (.newarray .int, 2) := by decide +kernel
theorem dX2_init_46 : decode cX2_init 46 = .ok (.putfield 24, 3) := by decide +kernel
theorem dX2_init_49 : decode cX2_init 49 = .ok (.aload_n 0, 1) := by decide +kernel
theorem dX2_init_50 : decode cX2_init 50 = .ok (.sipush 150, 3) := by decide +kernel
theorem dX2_init_53 : decode cX2_init 53 = .ok (.newarray .int, 2) := by decide +kernel
theorem dX2_init_55 : decode cX2_init 55 = .ok (.putfield 27, 3) := by decide +kernel
theorem dX2_init_58 : decode cX2_init 58 = .ok (.aload_n 0, 1) := by decide +kernel
theorem dX2_init_59 : decode cX2_init 59 = .ok (.sipush 150, 3) := by decide +kernel
theorem dX2_init_62 : decode cX2_init 62 = .ok (.newarray .int, 2) := by decide +kernel
theorem dX2_init_64 : decode cX2_init 64 = .ok (.putfield 30, 3) := by decide +kernel
theorem dX2_init_67 : decode cX2_init 67 = .ok (.aload_n 0, 1) := by decide +kernel
theorem dX2_init_68 : decode cX2_init 68 = .ok (.sipush 150, 3) := by decide +kernel
theorem dX2_init_71 : decode cX2_init 71 = .ok (.newarray .int, 2) := by decide +kernel
theorem dX2_init_73 : decode cX2_init 73 = .ok (.putfield 33, 3) := by decide +kernel
theorem dX2_init_76 : decode cX2_init 76 = .ok (.aload_n 0, 1) := by decide +kernel
theorem dX2_init_77 : decode cX2_init 77 = .ok (.sipush 150, 3) := by decide +kernel
theorem dX2_init_80 : decode cX2_init 80 = .ok (.newarray .int, 2) := by decide +kernel
theorem dX2_init_82 : decode cX2_init 82 = .ok (.putfield 36, 3) := by decide +kernel
theorem dX2_init_85 : decode cX2_init 85 = .ok (.aload_n 0, 1) := by decide +kernel
theorem dX2_init_86 : decode cX2_init 86 = .ok (.bipush 20, 2) := by decide +kernel
theorem dX2_init_88 : decode cX2_init 88 = .ok (.newarray .int, 2) := by decide +kernel
theorem dX2_init_90 : decode cX2_init 90 = .ok (.putfield 39, 3) := by decide +kernel
theorem dX2_init_93 : decode cX2_init 93 = .ok (.aload_n 0, 1) := by decide +kernel
theorem dX2_init_94 : decode cX2_init 94 = .ok (.iconst 3, 1) := by decide +kernel
theorem dX2_init_95 : decode cX2_init 95 = .ok (.newarray .int, 2) := by decide +kernel
theorem dX2_init_97 : decode cX2_init 97 = .ok (.putfield 44, 3) := by decide +kernel
theorem dX2_init_100 : decode cX2_init 100 = .ok (.aload_n 0, 1) := by decide +kernel
theorem dX2_init_101 : decode cX2_init 101 = .ok (.aload_n 1, 1) := by decide +kernel
theorem dX2_init_102 : decode cX2_init 102 = .ok (.putfield 47, 3) := by decide +kernel
theorem dX2_init_105 : decode cX2_init 105 = .ok (.aload_n 0, 1) := by decide +kernel
theorem dX2_init_106 : decode cX2_init 106 = .ok (.aload_n 2, 1) := by decide +kernel
theorem dX2_init_107 : decode cX2_init 107 = .ok (.putfield 51, 3) := by decide +kernel
theorem dX2_init_110 : decode cX2_init 110 = .ok (.aload_n 0, 1) := by decide +kernel
theorem dX2_init_111 : decode cX2_init 111 = .ok (.aload_n 3, 1) := by decide +kernel
theorem dX2_init_112 : decode cX2_init 112 = .ok (.putfield 55, 3) := by decide +kernel
theorem dX2_init_115 : decode cX2_init 115 = .ok (.return_, 1) := by decide +kernel
theorem dX2_begin_0 : decode cX2_begin 0 = .ok (.aload_n 0, 1) := by decide +kernel
theorem dX2_begin_1 : decode cX2_begin 1 = .ok (.getfield 11, 3) := by decide +kernel
theorem dX2_begin_4 : decode cX2_begin 4 = .ok (.aload_n 0, 1) := by decide +kernel
theorem dX2_begin_5 : decode cX2_begin 5 = .ok (.getfield 59, 3) := by decide +kernel
theorem dX2_begin_8 : decode cX2_begin 8 = .ok (.iload_n 1, 1) := by decide +kernel
theorem dX2_begin_9 : decode cX2_begin 9 = .ok (.iastore, 1) := by decide +kernel
theorem dX2_begin_10 : decode cX2_begin 10 = .ok (.aload_n 0, 1) := by decide +kernel
theorem dX2_begin_11 : decode cX2_begin 11 = .ok (.getfield 21, 3) := by decide +kernel
theorem dX2_begin_14 : decode cX2_begin 14 = .ok (.aload_n 0, 1) := by decide +kernel
theorem dX2_begin_15 : decode cX2_begin 15 = .ok (.getfield 59, 3) := by decide +kernel
theorem dX2_begin_18 : decode cX2_begin 18 = .ok (.iload_n 2, 1) := by decide +kernel
theorem dX2_begin_19 : decode cX2_begin 19 = .ok (.iastore, 1) := by decide +kernel
theorem dX2_begin_20 : decode cX2_begin 20 = .ok (.aload_n 0, 1) := by decide +kernel
theorem dX2_begin_21 : decode cX2_begin 21 = .ok (.getfield 30, 3) := by decide +kernel
theorem dX2_begin_24 : decode cX2_begin 24 = .ok (.aload_n 0, 1) := by decide +kernel
theorem dX2_begin_25 : decode cX2_begin 25 = .ok (.getfield 59, 3) := by decide +kernel
theorem dX2_begin_28 : decode cX2_begin 28 = .ok (.iload_n 3, 1) := by decide +kernel
theorem dX2_begin_29 : decode cX2_begin 29 = .ok (.iastore, 1) := by decide +kernel
theorem dX2_begin_30 : decode cX2_begin 30 = .ok (.aload_n 0, 1) := by decide +kernel
theorem dX2_begin_31 : decode cX2_begin 31 = .ok (.getfield 33, 3) := by decide +kernel
theorem dX2_begin_34 : decode cX2_begin 34 = .ok (.aload_n 0, 1) := by decide +kernel
theorem dX2_begin_35 : decode cX2_begin 35 = .ok (.getfield 59, 3) := by decide +kernel
theorem dX2_begin_38 : decode cX2_begin 38 = .ok (.iload 4, 2) := by decide +kernel
theorem dX2_begin_40 : decode cX2_begin 40 = .ok (.iastore, 1) := by decide +kernel
theorem dX2_begin_41 : decode cX2_begin 41 = .ok (.return_, 1) := by decide +kernel
theorem dX2_reach_0 : decode cX2_reach 0 = .ok (.aload_n 0, 1) := by decide +kernel
theorem dX2_reach_1 : decode cX2_reach 1 = .ok (.getfield 24, 3) := by decide +kernel
theorem dX2_reach_4 : decode cX2_reach 4 = .ok (.aload_n 0, 1) := by decide +kernel
theorem dX2_reach_5 : decode cX2_reach 5 = .ok (.getfield 59, 3) := by decide +kernel
theorem dX2_reach_8 : decode cX2_reach 8 = .ok (.iload_n 1, 1) := by decide +kernel
theorem dX2_reach_9 : decode cX2_reach 9 = .ok (.iastore, 1) := by decide +kernel
theorem dX2_reach_10 : decode cX2_reach 10 = .ok (.aload_n 0, 1) := by decide +kernel
theorem dX2_reach_11 : decode cX2_reach 11 = .ok (.getfield 27, 3) := by decide +kernel
theorem dX2_reach_14 : decode cX2_reach 14 = .ok (.aload_n 0, 1) := by decide +kernel
theorem dX2_reach_15 : decode cX2_reach 15 = .ok (.getfield 59, 3) := by decide +kernel
theorem dX2_reach_18 : decode cX2_reach 18 = .ok (.iload_n 2, 1) := by decide +kernel
theorem dX2_reach_19 : decode cX2_reach 19 = .ok (.iastore, 1) := by decide +kernel
theorem dX2_reach_20 : decode cX2_reach 20 = .ok (.return_, 1) := by decide +kernel
theorem dX2_finish_0 : decode cX2_finish 0 = .ok (.aload_n 0, 1) := by decide +kernel
theorem dX2_finish_1 : decode cX2_finish 1 = .ok (.getfield 15, 3) := by decide +kernel
theorem dX2_finish_4 : decode cX2_finish 4 = .ok (.aload_n 0, 1) := by decide +kernel
theorem dX2_finish_5 : decode cX2_finish 5 = .ok (.getfield 59, 3) := by decide +kernel
theorem dX2_finish_8 : decode cX2_finish 8 = .ok (.iload_n 1, 1) := by decide +kernel
theorem dX2_finish_9 : decode cX2_finish 9 = .ok (.iastore, 1) := by decide +kernel
theorem dX2_finish_10 : decode cX2_finish 10 = .ok (.aload_n 0, 1) := by decide +kernel
theorem dX2_finish_11 : decode cX2_finish 11 = .ok (.getfield 18, 3) := by decide +kernel
theorem dX2_finish_14 : decode cX2_finish 14 = .ok (.aload_n 0, 1) := by decide +kernel
theorem dX2_finish_15 : decode cX2_finish 15 = .ok (.getfield 59, 3) := by decide +kernel
theorem dX2_finish_18 : decode cX2_finish 18 = .ok (.iload_n 2, 1) := by decide +kernel
theorem dX2_finish_19 : decode cX2_finish 19 = .ok (.iastore, 1) := by decide +kernel
theorem dX2_finish_20 : decode cX2_finish 20 = .ok (.aload_n 0, 1) := by decide +kernel
theorem dX2_finish_21 : decode cX2_finish 21 = .ok (.getfield 36, 3) := by decide +kernel
theorem dX2_finish_24 : decode cX2_finish 24 = .ok (.aload_n 0, 1) := by decide +kernel
theorem dX2_finish_25 : decode cX2_finish 25 = .ok (.getfield 59, 3) := by decide +kernel
theorem dX2_finish_28 : decode cX2_finish 28 = .ok (.iload_n 3, 1) := by decide +kernel
theorem dX2_finish_29 : decode cX2_finish 29 = .ok (.iastore, 1) := by decide +kernel
theorem dX2_finish_30 : decode cX2_finish 30 = .ok (.aload_n 0, 1) := by decide +kernel
theorem dX2_finish_31 : decode cX2_finish 31 = .ok (.dup, 1) := by decide +kernel
theorem dX2_finish_32 : decode cX2_finish 32 = .ok (.getfield 59, 3) := by decide +kernel
theorem dX2_finish_35 : decode cX2_finish 35 = .ok (.iconst 1, 1) := by decide +kernel
theorem dX2_finish_36 : decode cX2_finish 36 = .ok (.iadd, 1) := by decide +kernel
theorem dX2_finish_37 : decode cX2_finish 37 = .ok (.putfield 59, 3) := by decide +kernel
theorem dX2_finish_40 : decode cX2_finish 40 = .ok (.aload_n 0, 1) := by decide +kernel
theorem dX2_finish_41 : decode cX2_finish 41 = .ok (.getfield 59, 3) := by decide +kernel
theorem dX2_finish_44 : decode cX2_finish 44 = .ok (.iconst 1, 1) := by decide +kernel
theorem dX2_finish_45 : decode cX2_finish 45 = .ok (.isub, 1) := by decide +kernel
theorem dX2_finish_46 : decode cX2_finish 46 = .ok (.ireturn, 1) := by decide +kernel
theorem dX2_isKnown_0 : decode cX2_isKnown 0 = .ok (.aload_n 0, 1) := by decide +kernel
theorem dX2_isKnown_1 : decode cX2_isKnown 1 = .ok (.getfield 36, 3) := by decide +kernel
theorem dX2_isKnown_4 : decode cX2_isKnown 4 = .ok (.iload_n 1, 1) := by decide +kernel
theorem dX2_isKnown_5 : decode cX2_isKnown 5 = .ok (.iaload, 1) := by decide +kernel
theorem dX2_isKnown_6 : decode cX2_isKnown 6 = .ok (.iload_n 2, 1) := by decide +kernel
theorem dX2_isKnown_7 : decode cX2_isKnown 7 = .ok (.if_icmp .gt 7, 3) := by decide +kernel
theorem dX2_isKnown_10 : decode cX2_isKnown 10 = .ok (.iconst 1, 1) := by decide +kernel
theorem dX2_isKnown_11 : decode cX2_isKnown 11 = .ok (.goto 4, 3) := by decide +kernel
theorem dX2_isKnown_14 : decode cX2_isKnown 14 = .ok (.iconst 0, 1) := by decide +kernel
theorem dX2_isKnown_15 : decode cX2_isKnown 15 = .ok (.ireturn, 1) := by decide +kernel
theorem dX2_askFor_0 : decode cX2_askFor 0 = .ok (.aload_n 0, 1) := by decide +kernel
theorem dX2_askFor_1 : decode cX2_askFor 1 = .ok (.getfield 55, 3) := by decide +kernel
theorem dX2_askFor_4 : decode cX2_askFor 4 = .ok (.aload_n 0, 1) := by decide +kernel
theorem dX2_askFor_5 : decode cX2_askFor 5 = .ok (.getfield 15, 3) := by decide +kernel
theorem dX2_askFor_8 : decode cX2_askFor 8 = .ok (.iload_n 1, 1) := by decide +kernel
theorem dX2_askFor_9 : decode cX2_askFor 9 = .ok (.iaload, 1) := by decide +kernel
theorem dX2_askFor_10 : decode cX2_askFor 10 = .ok (.aload_n 0, 1) := by decide +kernel
theorem dX2_askFor_11 : decode cX2_askFor 11 = .ok (.getfield 11, 3) := by decide +kernel
theorem dX2_askFor_14 : decode cX2_askFor 14 = .ok (.iload_n 1, 1) := by decide +kernel
theorem dX2_askFor_15 : decode cX2_askFor 15 = .ok (.iaload, 1) := by decide +kernel
theorem dX2_askFor_16 : decode cX2_askFor 16 = .ok (.aload_n 0, 1) := by decide +kernel
theorem dX2_askFor_17 : decode cX2_askFor 17 = .ok (.getfield 30, 3) := by decide +kernel
theorem dX2_askFor_20 : decode cX2_askFor 20 = .ok (.iload_n 1, 1) := by decide +kernel
theorem dX2_askFor_21 : decode cX2_askFor 21 = .ok (.iaload, 1) := by decide +kernel
theorem dX2_askFor_22 : decode cX2_askFor 22 = .ok (.aload_n 0, 1) := by decide +kernel
theorem dX2_askFor_23 : decode cX2_askFor 23 = .ok (.getfield 33, 3) := by decide +kernel
theorem dX2_askFor_26 : decode cX2_askFor 26 = .ok (.iload_n 1, 1) := by decide +kernel
theorem dX2_askFor_27 : decode cX2_askFor 27 = .ok (.iaload, 1) := by decide +kernel
theorem dX2_askFor_28 : decode cX2_askFor 28 = .ok (.iconst (-1), 1) := by decide +kernel
theorem dX2_askFor_29 : decode cX2_askFor 29 = .ok (.invokevirtual 63, 3) := by decide +kernel
theorem dX2_askFor_32 : decode cX2_askFor 32 = .ok (.return_, 1) := by decide +kernel
theorem dX2_placesOf_0 : decode cX2_placesOf 0 = .ok (.aload_n 0, 1) := by decide +kernel
theorem dX2_placesOf_1 : decode cX2_placesOf 1 = .ok (.iload_n 1, 1) := by decide +kernel
theorem dX2_placesOf_2 : decode cX2_placesOf 2 = .ok (.iload_n 2, 1) := by decide +kernel
theorem dX2_placesOf_3 : decode cX2_placesOf 3 = .ok (.invokevirtual 69, 3) := by decide +kernel
theorem dX2_placesOf_6 : decode cX2_placesOf 6 = .ok (.iload_n 3, 1) := by decide +kernel
theorem dX2_placesOf_7 : decode cX2_placesOf 7 = .ok (.iconst (-1), 1) := by decide +kernel
theorem dX2_placesOf_8 : decode cX2_placesOf 8 = .ok (.if_icmp .ne 12, 3) := by decide +kernel
theorem dX2_placesOf_11 : decode cX2_placesOf 11 = .ok (.aload_n 0, 1) := by decide +kernel
theorem dX2_placesOf_12 : decode cX2_placesOf 12 = .ok (.getfield 11, 3) := by decide +kernel
theorem dX2_placesOf_15 : decode cX2_placesOf 15 = .ok (.iload_n 1, 1) := by decide +kernel
theorem dX2_placesOf_16 : decode cX2_placesOf 16 = .ok (.iaload, 1) := by decide +kernel
theorem dX2_placesOf_17 : decode cX2_placesOf 17 = .ok (.goto 4, 3) := by decide +kernel
theorem dX2_placesOf_20 : decode cX2_placesOf 20 = .ok (.iload_n 3, 1) := by decide +kernel
theorem dX2_placesOf_21 : decode cX2_placesOf 21 = .ok (.istore 4, 2) := by decide +kernel
theorem dX2_placesOf_23 : decode cX2_placesOf 23 = .ok (.iconst 0, 1) := by decide +kernel
theorem dX2_placesOf_24 : decode cX2_placesOf 24 = .ok (.istore 5, 2) := by decide +kernel
theorem dX2_placesOf_26 : decode cX2_placesOf 26 = .ok (.aload_n 0, 1) := by decide +kernel
theorem dX2_placesOf_27 : decode cX2_placesOf 27 = .ok (.getfield 15, 3) := by decide +kernel
theorem dX2_placesOf_30 : decode cX2_placesOf 30 = .ok (.iload_n 1, 1) := by decide +kernel
theorem dX2_placesOf_31 : decode cX2_placesOf 31 = .ok (.iaload, 1) := by decide +kernel
theorem dX2_placesOf_32 : decode cX2_placesOf 32 = .ok (.istore 6, 2) := by decide +kernel
theorem dX2_placesOf_34 : decode cX2_placesOf 34 = .ok (.iload 6, 2) := by decide +kernel
theorem dX2_placesOf_36 : decode cX2_placesOf 36 = .ok (.aload_n 0, 1) := by decide +kernel
theorem dX2_placesOf_37 : decode cX2_placesOf 37 = .ok (.getfield 18, 3) := by decide +kernel
theorem dX2_placesOf_40 : decode cX2_placesOf 40 = .ok (.iload_n 1, 1) := by decide +kernel
theorem dX2_placesOf_41 : decode cX2_placesOf 41 = .ok (.iaload, 1) := by decide +kernel
theorem dX2_placesOf_42 : decode cX2_placesOf 42 = .ok (.if_icmp .gt 65, 3) := by decide +kernel
theorem dX2_placesOf_45 : decode cX2_placesOf 45 = .ok (.aload_n 0, 1) := by decide +kernel
theorem dX2_placesOf_46 : decode cX2_placesOf 46 = .ok (.getfield 39, 3) := by decide +kernel
theorem dX2_placesOf_49 : decode cX2_placesOf 49 = .ok (.iload 6, 2) := by decide +kernel
theorem dX2_placesOf_51 : decode cX2_placesOf 51 = .ok (.aload_n 0, 1) := by decide +kernel
theorem dX2_placesOf_52 : decode cX2_placesOf 52 = .ok (.getfield 15, 3) := by decide +kernel
theorem dX2_placesOf_55 : decode cX2_placesOf 55 = .ok (.iload_n 1, 1) := by decide +kernel
theorem dX2_placesOf_56 : decode cX2_placesOf 56 = .ok (.iaload, 1) := by decide +kernel
theorem dX2_placesOf_57 : decode cX2_placesOf 57 = .ok (.isub, 1) := by decide +kernel
theorem dX2_placesOf_58 : decode cX2_placesOf 58 = .ok (.iaload, 1) := by decide +kernel
theorem dX2_placesOf_59 : decode cX2_placesOf 59 = .ok (.iload 5, 2) := by decide +kernel
theorem dX2_placesOf_61 : decode cX2_placesOf 61 = .ok (.iconst (-1), 1) := by decide +kernel
theorem dX2_placesOf_62 : decode cX2_placesOf 62 = .ok (.ixor, 1) := by decide +kernel
theorem dX2_placesOf_63 : decode cX2_placesOf 63 = .ok (.iand, 1) := by decide +kernel
theorem dX2_placesOf_64 : decode cX2_placesOf 64 = .ok (.istore 7, 2) := by decide +kernel
theorem dX2_placesOf_66 : decode cX2_placesOf 66 = .ok (.iload 7, 2) := by decide +kernel
theorem dX2_placesOf_68 : decode cX2_placesOf 68 = .ok (.ifCond .eq 33, 3) := by decide +kernel
theorem dX2_placesOf_71 : decode cX2_placesOf 71 = .ok (.iload 5, 2) := by decide +kernel
theorem dX2_placesOf_73 : decode cX2_placesOf 73 = .ok (.aload_n 0, 1) := by decide +kernel
theorem dX2_placesOf_74 : decode cX2_placesOf 74 = .ok (.getfield 21, 3) := by decide +kernel
theorem dX2_placesOf_77 : decode cX2_placesOf 77 = .ok (.iload_n 1, 1) := by decide +kernel
theorem dX2_placesOf_78 : decode cX2_placesOf 78 = .ok (.iaload, 1) := by decide +kernel
theorem dX2_placesOf_79 : decode cX2_placesOf 79 = .ok (.ifCond .ne 8, 3) := by decide +kernel
theorem dX2_placesOf_82 : decode cX2_placesOf 82 = .ok (.iload 7, 2) := by decide +kernel
theorem dX2_placesOf_84 : decode cX2_placesOf 84 = .ok (.goto 14, 3) := by decide +kernel
theorem dX2_placesOf_87 : decode cX2_placesOf 87 = .ok (.aload_n 0, 1) := by decide +kernel
theorem dX2_placesOf_88 : decode cX2_placesOf 88 = .ok (.iload_n 1, 1) := by decide +kernel
theorem dX2_placesOf_89 : decode cX2_placesOf 89 = .ok (.iload 6, 2) := by decide +kernel
theorem dX2_placesOf_91 : decode cX2_placesOf 91 = .ok (.iload 7, 2) := by decide +kernel
theorem dX2_placesOf_93 : decode cX2_placesOf 93 = .ok (.iload 4, 2) := by decide +kernel
theorem dX2_placesOf_95 : decode cX2_placesOf 95 = .ok (.invokevirtual 73, 3) := by decide +kernel
theorem dX2_placesOf_98 : decode cX2_placesOf 98 = .ok (.ior, 1) := by decide +kernel
theorem dX2_placesOf_99 : decode cX2_placesOf 99 = .ok (.istore 5, 2) := by decide +kernel
theorem dX2_placesOf_101 : decode cX2_placesOf 101 = .ok (.iinc 6 1, 3) := by decide +kernel
theorem dX2_placesOf_104 : decode cX2_placesOf 104 = .ok (.goto (-70), 3) := by decide +kernel
theorem dX2_placesOf_107 : decode cX2_placesOf 107 = .ok (.iload 5, 2) := by decide +kernel
theorem dX2_placesOf_109 : decode cX2_placesOf 109 = .ok (.ireturn, 1) := by decide +kernel
theorem dX2_gatherDug_0 : decode cX2_gatherDug 0 = .ok (.aload_n 0, 1) := by decide +kernel
theorem dX2_gatherDug_1 : decode cX2_gatherDug 1 = .ok (.getfield 39, 3) := by decide +kernel
theorem dX2_gatherDug_4 : decode cX2_gatherDug 4 = .ok (.iconst 0, 1) := by decide +kernel
theorem dX2_gatherDug_5 : decode cX2_gatherDug 5 = .ok (.invokestatic 77, 3) := by decide +kernel
theorem dX2_gatherDug_8 : decode cX2_gatherDug 8 = .ok (.iconst 0, 1) := by decide +kernel
theorem dX2_gatherDug_9 : decode cX2_gatherDug 9 = .ok (.istore_n 3, 1) := by decide +kernel
theorem dX2_gatherDug_10 : decode cX2_gatherDug 10 = .ok (.iload_n 3, 1) := by decide +kernel
theorem dX2_gatherDug_11 : decode cX2_gatherDug 11 = .ok (.aload_n 0, 1) := by decide +kernel
theorem dX2_gatherDug_12 : decode cX2_gatherDug 12 = .ok (.getfield 51, 3) := by decide +kernel
theorem dX2_gatherDug_15 : decode cX2_gatherDug 15 = .ok (.getfield 83, 3) := by decide +kernel
theorem dX2_gatherDug_18 : decode cX2_gatherDug 18 = .ok (.if_icmp .ge 118, 3) := by decide +kernel
theorem dX2_gatherDug_21 : decode cX2_gatherDug 21 = .ok (.aload_n 0, 1) := by decide +kernel
theorem dX2_gatherDug_22 : decode cX2_gatherDug 22 = .ok (.getfield 51, 3) := by decide +kernel
theorem dX2_gatherDug_25 : decode cX2_gatherDug 25 = .ok (.iload_n 3, 1) := by decide +kernel
theorem dX2_gatherDug_26 : decode cX2_gatherDug 26 = .ok (.aload_n 0, 1) := by decide +kernel
theorem dX2_gatherDug_27 : decode cX2_gatherDug 27 = .ok (.getfield 11, 3) := by decide +kernel
theorem dX2_gatherDug_30 : decode cX2_gatherDug 30 = .ok (.iload_n 1, 1) := by decide +kernel
theorem dX2_gatherDug_31 : decode cX2_gatherDug 31 = .ok (.iaload, 1) := by decide +kernel
theorem dX2_gatherDug_32 : decode cX2_gatherDug 32 = .ok (.aload_n 0, 1) := by decide +kernel
theorem dX2_gatherDug_33 : decode cX2_gatherDug 33 = .ok (.getfield 24, 3) := by decide +kernel
theorem dX2_gatherDug_36 : decode cX2_gatherDug 36 = .ok (.iload_n 1, 1) := by decide +kernel
theorem dX2_gatherDug_37 : decode cX2_gatherDug 37 = .ok (.iaload, 1) := by decide +kernel
theorem dX2_gatherDug_38 : decode cX2_gatherDug 38 = .ok (.aload_n 0, 1) := by decide +kernel
theorem dX2_gatherDug_39 : decode cX2_gatherDug 39 = .ok (.getfield 27, 3) := by decide +kernel
theorem dX2_gatherDug_42 : decode cX2_gatherDug 42 = .ok (.iload_n 1, 1) := by decide +kernel
theorem dX2_gatherDug_43 : decode cX2_gatherDug 43 = .ok (.iaload, 1) := by decide +kernel
theorem dX2_gatherDug_44 : decode cX2_gatherDug 44 = .ok (.iload_n 2, 1) := by decide +kernel
theorem dX2_gatherDug_45 : decode cX2_gatherDug 45 = .ok (.invokevirtual 86, 3) := by decide +kernel
theorem dX2_gatherDug_48 : decode cX2_gatherDug 48 = .ok (.ifCond .eq 82, 3) := by decide +kernel
theorem dX2_gatherDug_51 : decode cX2_gatherDug 51 = .ok (.aload_n 0, 1) := by decide +kernel
theorem dX2_gatherDug_52 : decode cX2_gatherDug 52 = .ok (.getfield 18, 3) := by decide +kernel
theorem dX2_gatherDug_55 : decode cX2_gatherDug 55 = .ok (.iload_n 1, 1) := by decide +kernel
theorem dX2_gatherDug_56 : decode cX2_gatherDug 56 = .ok (.iaload, 1) := by decide +kernel
theorem dX2_gatherDug_57 : decode cX2_gatherDug 57 = .ok (.aload_n 0, 1) := by decide +kernel
theorem dX2_gatherDug_58 : decode cX2_gatherDug 58 = .ok (.getfield 51, 3) := by decide +kernel
theorem dX2_gatherDug_61 : decode cX2_gatherDug 61 = .ok (.getfield 90, 3) := by decide +kernel
theorem dX2_gatherDug_64 : decode cX2_gatherDug 64 = .ok (.iload_n 3, 1) := by decide +kernel
theorem dX2_gatherDug_65 : decode cX2_gatherDug 65 = .ok (.iaload, 1) := by decide +kernel
theorem dX2_gatherDug_66 : decode cX2_gatherDug 66 = .ok (.invokestatic 91, 3) := by decide +kernel
theorem dX2_gatherDug_69 : decode cX2_gatherDug 69 = .ok (.istore 4, 2) := by decide +kernel
theorem dX2_gatherDug_71 : decode cX2_gatherDug 71 = .ok (.aload_n 0, 1) := by decide +kernel
theorem dX2_gatherDug_72 : decode cX2_gatherDug 72 = .ok (.getfield 15, 3) := by decide +kernel
theorem dX2_gatherDug_75 : decode cX2_gatherDug 75 = .ok (.iload_n 1, 1) := by decide +kernel
theorem dX2_gatherDug_76 : decode cX2_gatherDug 76 = .ok (.iaload, 1) := by decide +kernel
theorem dX2_gatherDug_77 : decode cX2_gatherDug 77 = .ok (.aload_n 0, 1) := by decide +kernel
theorem dX2_gatherDug_78 : decode cX2_gatherDug 78 = .ok (.getfield 51, 3) := by decide +kernel
theorem dX2_gatherDug_81 : decode cX2_gatherDug 81 = .ok (.getfield 97, 3) := by decide +kernel
theorem dX2_gatherDug_84 : decode cX2_gatherDug 84 = .ok (.iload_n 3, 1) := by decide +kernel
theorem dX2_gatherDug_85 : decode cX2_gatherDug 85 = .ok (.iaload, 1) := by decide +kernel
theorem dX2_gatherDug_86 : decode cX2_gatherDug 86 = .ok (.invokestatic 98, 3) := by decide +kernel
theorem dX2_gatherDug_89 : decode cX2_gatherDug 89 = .ok (.istore 5, 2) := by decide +kernel
theorem dX2_gatherDug_91 : decode cX2_gatherDug 91 = .ok (.iload 5, 2) := by decide +kernel
theorem dX2_gatherDug_93 : decode cX2_gatherDug 93 = .ok (.iload 4, 2) := by decide +kernel
theorem dX2_gatherDug_95 : decode cX2_gatherDug 95 = .ok (.if_icmp .gt 35, 3) := by decide +kernel
theorem dX2_gatherDug_98 : decode cX2_gatherDug 98 = .ok (.aload_n 0, 1) := by decide +kernel
theorem dX2_gatherDug_99 : decode cX2_gatherDug 99 = .ok (.getfield 39, 3) := by decide +kernel
theorem dX2_gatherDug_102 : decode cX2_gatherDug 102 = .ok (.iload 5, 2) := by decide +kernel
theorem dX2_gatherDug_104 : decode cX2_gatherDug 104 = .ok (.aload_n 0, 1) := by decide +kernel
theorem dX2_gatherDug_105 : decode cX2_gatherDug 105 = .ok (.getfield 15, 3) := by decide +kernel
theorem dX2_gatherDug_108 : decode cX2_gatherDug 108 = .ok (.iload_n 1, 1) := by decide +kernel
theorem dX2_gatherDug_109 : decode cX2_gatherDug 109 = .ok (.iaload, 1) := by decide +kernel
theorem dX2_gatherDug_110 : decode cX2_gatherDug 110 = .ok (.isub, 1) := by decide +kernel
theorem dX2_gatherDug_111 : decode cX2_gatherDug 111 = .ok (.dup2, 1) := by decide +kernel
theorem dX2_gatherDug_112 : decode cX2_gatherDug 112 = .ok (.iaload, 1) := by decide +kernel
theorem dX2_gatherDug_113 : decode cX2_gatherDug 113 = .ok (.aload_n 0, 1) := by decide +kernel
theorem dX2_gatherDug_114 : decode cX2_gatherDug 114 = .ok (.getfield 51, 3) := by decide +kernel
theorem dX2_gatherDug_117 : decode cX2_gatherDug 117 = .ok (.getfield 101, 3) := by decide +kernel
theorem dX2_gatherDug_120 : decode cX2_gatherDug 120 = .ok (.iload_n 3, 1) := by decide +kernel
theorem dX2_gatherDug_121 : decode cX2_gatherDug 121 = .ok (.iaload, 1) := by decide +kernel
theorem dX2_gatherDug_122 : decode cX2_gatherDug 122 = .ok (.ior, 1) := by decide +kernel
theorem dX2_gatherDug_123 : decode cX2_gatherDug 123 = .ok (.iastore, 1) := by decide +kernel
theorem dX2_gatherDug_124 : decode cX2_gatherDug 124 = .ok (.iinc 5 1, 3) := by decide +kernel
theorem dX2_gatherDug_127 : decode cX2_gatherDug 127 = .ok (.goto (-36), 3) := by decide +kernel
theorem dX2_gatherDug_130 : decode cX2_gatherDug 130 = .ok (.iinc 3 1, 3) := by decide +kernel
theorem dX2_gatherDug_133 : decode cX2_gatherDug 133 = .ok (.goto (-123), 3) := by decide +kernel
theorem dX2_gatherDug_136 : decode cX2_gatherDug 136 = .ok (.return_, 1) := by decide +kernel
theorem dX2_named_0 : decode cX2_named 0 = .ok (.iconst 0, 1) := by decide +kernel
theorem dX2_named_1 : decode cX2_named 1 = .ok (.istore 5, 2) := by decide +kernel
theorem dX2_named_3 : decode cX2_named 3 = .ok (.aload_n 0, 1) := by decide +kernel
theorem dX2_named_4 : decode cX2_named 4 = .ok (.getfield 44, 3) := by decide +kernel
theorem dX2_named_7 : decode cX2_named 7 = .ok (.iconst (-1), 1) := by decide +kernel
theorem dX2_named_8 : decode cX2_named 8 = .ok (.invokestatic 77, 3) := by decide +kernel
theorem dX2_named_11 : decode cX2_named 11 = .ok (.iconst 0, 1) := by decide +kernel
theorem dX2_named_12 : decode cX2_named 12 = .ok (.istore 6, 2) := by decide +kernel
theorem dX2_named_14 : decode cX2_named 14 = .ok (.iload 6, 2) := by decide +kernel
theorem dX2_named_16 : decode cX2_named 16 = .ok (.iconst 4, 1) := by decide +kernel
theorem dX2_named_17 : decode cX2_named 17 = .ok (.if_icmp .ge 131, 3) := by decide +kernel
theorem dX2_named_20 : decode cX2_named 20 = .ok (.aload_n 0, 1) := by decide +kernel
theorem dX2_named_21 : decode cX2_named 21 = .ok (.getfield 47, 3) := by decide +kernel
theorem dX2_named_24 : decode cX2_named 24 = .ok (.iload 6, 2) := by decide +kernel
theorem dX2_named_26 : decode cX2_named 26 = .ok (.aload_n 0, 1) := by decide +kernel
theorem dX2_named_27 : decode cX2_named 27 = .ok (.getfield 21, 3) := by decide +kernel
theorem dX2_named_30 : decode cX2_named 30 = .ok (.iload_n 1, 1) := by decide +kernel
theorem dX2_named_31 : decode cX2_named 31 = .ok (.iaload, 1) := by decide +kernel
theorem dX2_named_32 : decode cX2_named 32 = .ok (.iload_n 2, 1) := by decide +kernel
theorem dX2_named_33 : decode cX2_named 33 = .ok (.invokevirtual 104, 3) := by decide +kernel
theorem dX2_named_36 : decode cX2_named 36 = .ok (.istore 7, 2) := by decide +kernel
theorem dX2_named_38 : decode cX2_named 38 = .ok (.iload 7, 2) := by decide +kernel
theorem dX2_named_40 : decode cX2_named 40 = .ok (.iconst (-1), 1) := by decide +kernel
theorem dX2_named_41 : decode cX2_named 41 = .ok (.if_icmp .eq 101, 3) := by decide +kernel
theorem dX2_named_44 : decode cX2_named 44 = .ok (.iload_n 3, 1) := by decide +kernel
theorem dX2_named_45 : decode cX2_named 45 = .ok (.iload 7, 2) := by decide +kernel
theorem dX2_named_47 : decode cX2_named 47 = .ok (.ishr, 1) := by decide +kernel
theorem dX2_named_48 : decode cX2_named 48 = .ok (.iconst 1, 1) := by decide +kernel
theorem dX2_named_49 : decode cX2_named 49 = .ok (.iand, 1) := by decide +kernel
theorem dX2_named_50 : decode cX2_named 50 = .ok (.ifCond .ne 6, 3) := by decide +kernel
theorem dX2_named_53 : decode cX2_named 53 = .ok (.goto 89, 3) := by decide +kernel
theorem dX2_named_56 : decode cX2_named 56 = .ok (.aload_n 0, 1) := by decide +kernel
theorem dX2_named_57 : decode cX2_named 57 = .ok (.getfield 47, 3) := by decide +kernel
theorem dX2_named_60 : decode cX2_named 60 = .ok (.getfield 108, 3) := by decide +kernel
theorem dX2_named_63 : decode cX2_named 63 = .ok (.iload 7, 2) := by decide +kernel
theorem dX2_named_65 : decode cX2_named 65 = .ok (.iaload, 1) := by decide +kernel
theorem dX2_named_66 : decode cX2_named 66 = .ok (.istore 8, 2) := by decide +kernel
theorem dX2_named_68 : decode cX2_named 68 = .ok (.aload_n 0, 1) := by decide +kernel
theorem dX2_named_69 : decode cX2_named 69 = .ok (.getfield 44, 3) := by decide +kernel
theorem dX2_named_72 : decode cX2_named 72 = .ok (.iload 8, 2) := by decide +kernel
theorem dX2_named_74 : decode cX2_named 74 = .ok (.iaload, 1) := by decide +kernel
theorem dX2_named_75 : decode cX2_named 75 = .ok (.iconst (-1), 1) := by decide +kernel
theorem dX2_named_76 : decode cX2_named 76 = .ok (.if_icmp .ne 41, 3) := by decide +kernel
theorem dX2_named_79 : decode cX2_named 79 = .ok (.aload_n 0, 1) := by decide +kernel
theorem dX2_named_80 : decode cX2_named 80 = .ok (.getfield 55, 3) := by decide +kernel
theorem dX2_named_83 : decode cX2_named 83 = .ok (.iload_n 2, 1) := by decide +kernel
theorem dX2_named_84 : decode cX2_named 84 = .ok (.iload 4, 2) := by decide +kernel
theorem dX2_named_86 : decode cX2_named 86 = .ok (.aload_n 0, 1) := by decide +kernel
theorem dX2_named_87 : decode cX2_named 87 = .ok (.getfield 30, 3) := by decide +kernel
theorem dX2_named_90 : decode cX2_named 90 = .ok (.iload_n 1, 1) := by decide +kernel
theorem dX2_named_91 : decode cX2_named 91 = .ok (.iaload, 1) := by decide +kernel
theorem dX2_named_92 : decode cX2_named 92 = .ok (.aload_n 0, 1) := by decide +kernel
theorem dX2_named_93 : decode cX2_named 93 = .ok (.getfield 33, 3) := by decide +kernel
theorem dX2_named_96 : decode cX2_named 96 = .ok (.iload_n 1, 1) := by decide +kernel
theorem dX2_named_97 : decode cX2_named 97 = .ok (.iaload, 1) := by decide +kernel
theorem dX2_named_98 : decode cX2_named 98 = .ok (.iload 8, 2) := by decide +kernel
theorem dX2_named_100 : decode cX2_named 100 = .ok (.invokevirtual 63, 3) := by decide +kernel
theorem dX2_named_103 : decode cX2_named 103 = .ok (.aload_n 0, 1) := by decide +kernel
theorem dX2_named_104 : decode cX2_named 104 = .ok (.getfield 44, 3) := by decide +kernel
theorem dX2_named_107 : decode cX2_named 107 = .ok (.iload 8, 2) := by decide +kernel
theorem dX2_named_109 : decode cX2_named 109 = .ok (.aload_n 0, 1) := by decide +kernel
theorem dX2_named_110 : decode cX2_named 110 = .ok (.getfield 55, 3) := by decide +kernel
theorem dX2_named_113 : decode cX2_named 113 = .ok (.invokevirtual 109, 3) := by decide +kernel
theorem dX2_named_116 : decode cX2_named 116 = .ok (.iastore, 1) := by decide +kernel
theorem dX2_named_117 : decode cX2_named 117 = .ok (.aload_n 0, 1) := by decide +kernel
theorem dX2_named_118 : decode cX2_named 118 = .ok (.getfield 44, 3) := by decide +kernel
theorem dX2_named_121 : decode cX2_named 121 = .ok (.iload 8, 2) := by decide +kernel
theorem dX2_named_123 : decode cX2_named 123 = .ok (.iaload, 1) := by decide +kernel
theorem dX2_named_124 : decode cX2_named 124 = .ok (.iload 6, 2) := by decide +kernel
theorem dX2_named_126 : decode cX2_named 126 = .ok (.ishr, 1) := by decide +kernel
theorem dX2_named_127 : decode cX2_named 127 = .ok (.iconst 1, 1) := by decide +kernel
theorem dX2_named_128 : decode cX2_named 128 = .ok (.iand, 1) := by decide +kernel
theorem dX2_named_129 : decode cX2_named 129 = .ok (.iconst 1, 1) := by decide +kernel
theorem dX2_named_130 : decode cX2_named 130 = .ok (.if_icmp .ne 12, 3) := by decide +kernel
theorem dX2_named_133 : decode cX2_named 133 = .ok (.iload 5, 2) := by decide +kernel
theorem dX2_named_135 : decode cX2_named 135 = .ok (.iconst 1, 1) := by decide +kernel
theorem dX2_named_136 : decode cX2_named 136 = .ok (.iload 7, 2) := by decide +kernel
theorem dX2_named_138 : decode cX2_named 138 = .ok (.ishl, 1) := by decide +kernel
theorem dX2_named_139 : decode cX2_named 139 = .ok (.ior, 1) := by decide +kernel
theorem dX2_named_140 : decode cX2_named 140 = .ok (.istore 5, 2) := by decide +kernel
theorem dX2_named_142 : decode cX2_named 142 = .ok (.iinc 6 1, 3) := by decide +kernel
theorem dX2_named_145 : decode cX2_named 145 = .ok (.goto (-131), 3) := by decide +kernel
theorem dX2_named_148 : decode cX2_named 148 = .ok (.iload 5, 2) := by decide +kernel
theorem dX2_named_150 : decode cX2_named 150 = .ok (.ireturn, 1) := by decide +kernel
theorem dX2_countSure_0 : decode cX2_countSure 0 = .ok (.iconst 0, 1) := by decide +kernel
theorem dX2_countSure_1 : decode cX2_countSure 1 = .ok (.istore_n 3, 1) := by decide +kernel
theorem dX2_countSure_2 : decode cX2_countSure 2 = .ok (.iconst 0, 1) := by decide +kernel
theorem dX2_countSure_3 : decode cX2_countSure 3 = .ok (.istore 4, 2) := by decide +kernel
theorem dX2_countSure_5 : decode cX2_countSure 5 = .ok (.iload 4, 2) := by decide +kernel
theorem dX2_countSure_7 : decode cX2_countSure 7 = .ok (.aload_n 0, 1) := by decide +kernel
theorem dX2_countSure_8 : decode cX2_countSure 8 = .ok (.getfield 59, 3) := by decide +kernel
theorem dX2_countSure_11 : decode cX2_countSure 11 = .ok (.if_icmp .ge 37, 3) := by decide +kernel
theorem dX2_countSure_14 : decode cX2_countSure 14 = .ok (.aload_n 0, 1) := by decide +kernel
theorem dX2_countSure_15 : decode cX2_countSure 15 = .ok (.iload 4, 2) := by decide +kernel
theorem dX2_countSure_17 : decode cX2_countSure 17 = .ok (.iload_n 1, 1) := by decide +kernel
theorem dX2_countSure_18 : decode cX2_countSure 18 = .ok (.invokevirtual 113, 3) := by decide +kernel
theorem dX2_countSure_21 : decode cX2_countSure 21 = .ok (.ifCond .eq 21, 3) := by decide +kernel
theorem dX2_countSure_24 : decode cX2_countSure 24 = .ok (.aload_n 0, 1) := by decide +kernel
theorem dX2_countSure_25 : decode cX2_countSure 25 = .ok (.iload 4, 2) := by decide +kernel
theorem dX2_countSure_27 : decode cX2_countSure 27 = .ok (.iload_n 1, 1) := by decide +kernel
theorem dX2_countSure_28 : decode cX2_countSure 28 = .ok (.iload_n 2, 1) := by decide +kernel
theorem dX2_countSure_29 : decode cX2_countSure 29 = .ok (.invokevirtual 117, 3) := by decide +kernel
theorem dX2_countSure_32 : decode cX2_countSure 32 = .ok (.invokestatic 120, 3) := by decide +kernel
theorem dX2_countSure_35 : decode cX2_countSure 35 = .ok (.iconst 1, 1) := by decide +kernel
theorem dX2_countSure_36 : decode cX2_countSure 36 = .ok (.if_icmp .ne 6, 3) := by decide +kernel
theorem dX2_countSure_39 : decode cX2_countSure 39 = .ok (.iinc 3 1, 3) := by decide +kernel
theorem dX2_countSure_42 : decode cX2_countSure 42 = .ok (.iinc 4 1, 3) := by decide +kernel
theorem dX2_countSure_45 : decode cX2_countSure 45 = .ok (.goto (-40), 3) := by decide +kernel
theorem dX2_countSure_48 : decode cX2_countSure 48 = .ok (.iload_n 3, 1) := by decide +kernel
theorem dX2_countSure_49 : decode cX2_countSure 49 = .ok (.ireturn, 1) := by decide +kernel
theorem dX2_unplaced_0 : decode cX2_unplaced 0 = .ok (.iload_n 1, 1) := by decide +kernel
theorem dX2_unplaced_1 : decode cX2_unplaced 1 = .ok (.istore_n 3, 1) := by decide +kernel
theorem dX2_unplaced_2 : decode cX2_unplaced 2 = .ok (.iconst 0, 1) := by decide +kernel
theorem dX2_unplaced_3 : decode cX2_unplaced 3 = .ok (.istore 4, 2) := by decide +kernel
theorem dX2_unplaced_5 : decode cX2_unplaced 5 = .ok (.iload 4, 2) := by decide +kernel
theorem dX2_unplaced_7 : decode cX2_unplaced 7 = .ok (.aload_n 0, 1) := by decide +kernel
theorem dX2_unplaced_8 : decode cX2_unplaced 8 = .ok (.getfield 59, 3) := by decide +kernel
theorem dX2_unplaced_11 : decode cX2_unplaced 11 = .ok (.if_icmp .ge 40, 3) := by decide +kernel
theorem dX2_unplaced_14 : decode cX2_unplaced 14 = .ok (.aload_n 0, 1) := by decide +kernel
theorem dX2_unplaced_15 : decode cX2_unplaced 15 = .ok (.iload 4, 2) := by decide +kernel
theorem dX2_unplaced_17 : decode cX2_unplaced 17 = .ok (.iload_n 2, 1) := by decide +kernel
theorem dX2_unplaced_18 : decode cX2_unplaced 18 = .ok (.invokevirtual 113, 3) := by decide +kernel
theorem dX2_unplaced_21 : decode cX2_unplaced 21 = .ok (.ifCond .eq 24, 3) := by decide +kernel
theorem dX2_unplaced_24 : decode cX2_unplaced 24 = .ok (.aload_n 0, 1) := by decide +kernel
theorem dX2_unplaced_25 : decode cX2_unplaced 25 = .ok (.iload 4, 2) := by decide +kernel
theorem dX2_unplaced_27 : decode cX2_unplaced 27 = .ok (.iload_n 2, 1) := by decide +kernel
theorem dX2_unplaced_28 : decode cX2_unplaced 28 = .ok (.iconst (-1), 1) := by decide +kernel
theorem dX2_unplaced_29 : decode cX2_unplaced 29 = .ok (.invokevirtual 117, 3) := by decide +kernel
theorem dX2_unplaced_32 : decode cX2_unplaced 32 = .ok (.ifCond .ne 13, 3) := by decide +kernel
theorem dX2_unplaced_35 : decode cX2_unplaced 35 = .ok (.iload_n 3, 1) := by decide +kernel
theorem dX2_unplaced_36 : decode cX2_unplaced 36 = .ok (.ifCond .ne 6, 3) := by decide +kernel
theorem dX2_unplaced_39 : decode cX2_unplaced 39 = .ok (.iload 4, 2) := by decide +kernel
theorem dX2_unplaced_41 : decode cX2_unplaced 41 = .ok (.ireturn, 1) := by decide +kernel
theorem dX2_unplaced_42 : decode cX2_unplaced 42 = .ok (.iinc 3 (-1), 3) := by decide +kernel
theorem dX2_unplaced_45 : decode cX2_unplaced 45 = .ok (.iinc 4 1, 3) := by decide +kernel
theorem dX2_unplaced_48 : decode cX2_unplaced 48 = .ok (.goto (-43), 3) := by decide +kernel
theorem dX2_unplaced_51 : decode cX2_unplaced 51 = .ok (.iconst (-1), 1) := by decide +kernel
theorem dX2_unplaced_52 : decode cX2_unplaced 52 = .ok (.ireturn, 1) := by decide +kernel
theorem dX3_init_0 : decode cX3_init 0 = .ok (.aload_n 0, 1) := by decide +kernel
theorem dX3_init_1 : decode cX3_init 1 = .ok (.invokespecial 3, 3) := by decide +kernel
theorem dX3_init_4 : decode cX3_init 4 = .ok (.aload_n 0, 1) := by decide +kernel
theorem dX3_init_5 : decode cX3_init 5 = .ok (.bipush 60, 2) := by decide +kernel
theorem dX3_init_7 : decode cX3_init 7 = .ok (.newarray .int, 2) := by decide +kernel
theorem dX3_init_9 : decode cX3_init 9 = .ok (.putfield 11, 3) := by decide +kernel
theorem dX3_init_12 : decode cX3_init 12 = .ok (.aload_n 0, 1) := by decide +kernel
theorem dX3_init_13 : decode cX3_init 13 = .ok (.bipush 60, 2) := by decide +kernel
theorem dX3_init_15 : decode cX3_init 15 = .ok (.newarray .int, 2) := by decide +kernel
theorem dX3_init_17 : decode cX3_init 17 = .ok (.putfield 15, 3) := by decide +kernel
theorem dX3_init_20 : decode cX3_init 20 = .ok (.aload_n 0, 1) := by decide +kernel
theorem dX3_init_21 : decode cX3_init 21 = .ok (.bipush 60, 2) := by decide +kernel
theorem dX3_init_23 : decode cX3_init 23 = .ok (.newarray .int, 2) := by decide +kernel
theorem dX3_init_25 : decode cX3_init 25 = .ok (.putfield 18, 3) := by decide +kernel
theorem dX3_init_28 : decode cX3_init 28 = .ok (.aload_n 0, 1) := by decide +kernel
theorem dX3_init_29 : decode cX3_init 29 = .ok (.bipush 60, 2) := by decide +kernel
theorem dX3_init_31 : decode cX3_init 31 = .ok (.newarray .boolean, 2) := by decide +kernel
theorem dX3_init_33 : decode cX3_init 33 = .ok (.putfield 21, 3) := by decide +kernel
theorem dX3_init_36 : decode cX3_init 36 = .ok (.aload_n 0, 1) := by decide +kernel
theorem dX3_init_37 : decode cX3_init 37 = .ok (.bipush 100, 2) := by decide +kernel
theorem dX3_init_39 : decode cX3_init 39 = .ok (.newarray .int, 2) := by decide +kernel
theorem dX3_init_41 : decode cX3_init 41 = .ok (.putfield 25, 3) := by decide +kernel
theorem dX3_init_44 : decode cX3_init 44 = .ok (.aload_n 0, 1) := by decide +kernel
theorem dX3_init_45 : decode cX3_init 45 = .ok (.bipush 100, 2) := by decide +kernel
theorem dX3_init_47 : decode cX3_init 47 = .ok (.newarray .int, 2) := by decide +kernel
theorem dX3_init_49 : decode cX3_init 49 = .ok (.putfield 28, 3) := by decide +kernel
theorem dX3_init_52 : decode cX3_init 52 = .ok (.aload_n 0, 1) := by decide +kernel
theorem dX3_init_53 : decode cX3_init 53 = .ok (.bipush 8, 2) := by decide +kernel
theorem dX3_init_55 : decode cX3_init 55 = .ok (.newarray .int, 2) := by decide +kernel
theorem dX3_init_57 : decode cX3_init 57 = .ok (.putfield 31, 3) := by decide +kernel
theorem dX3_init_60 : decode cX3_init 60 = .ok (.aload_n 0, 1) := by decide +kernel
theorem dX3_init_61 : decode cX3_init 61 = .ok (.bipush 8, 2) := by decide +kernel
theorem dX3_init_63 : decode cX3_init 63 = .ok (.newarray .long, 2) := by decide +kernel
theorem dX3_init_65 : decode cX3_init 65 = .ok (.putfield 34, 3) := by decide +kernel
theorem dX3_init_68 : decode cX3_init 68 = .ok (.aload_n 0, 1) := by decide +kernel
theorem dX3_init_69 : decode cX3_init 69 = .ok (.sipush 256, 3) := by decide +kernel
theorem dX3_init_72 : decode cX3_init 72 = .ok (.newarray .long, 2) := by decide +kernel
theorem dX3_init_74 : decode cX3_init 74 = .ok (.putfield 38, 3) := by decide +kernel
theorem dX3_init_77 : decode cX3_init 77 = .ok (.aload_n 0, 1) := by decide +kernel
theorem dX3_init_78 : decode cX3_init 78 = .ok (.bipush 10, 2) := by decide +kernel
theorem dX3_init_80 : decode cX3_init 80 = .ok (.newarray .int, 2) := by decide +kernel
theorem dX3_init_82 : decode cX3_init 82 = .ok (.putfield 41, 3) := by decide +kernel
theorem dX3_init_85 : decode cX3_init 85 = .ok (.aload_n 0, 1) := by decide +kernel
theorem dX3_init_86 : decode cX3_init 86 = .ok (.aload_n 1, 1) := by decide +kernel
theorem dX3_init_87 : decode cX3_init 87 = .ok (.putfield 44, 3) := by decide +kernel
theorem dX3_init_90 : decode cX3_init 90 = .ok (.aload_n 0, 1) := by decide +kernel
theorem dX3_init_91 : decode cX3_init 91 = .ok (.aload_n 2, 1) := by decide +kernel
theorem dX3_init_92 : decode cX3_init 92 = .ok (.putfield 48, 3) := by decide +kernel
theorem dX3_init_95 : decode cX3_init 95 = .ok (.return_, 1) := by decide +kernel
theorem dX3_add_0 : decode cX3_add 0 = .ok (.aload_n 0, 1) := by decide +kernel
theorem dX3_add_1 : decode cX3_add 1 = .ok (.getfield 11, 3) := by decide +kernel
theorem dX3_add_4 : decode cX3_add 4 = .ok (.aload_n 0, 1) := by decide +kernel
theorem dX3_add_5 : decode cX3_add 5 = .ok (.getfield 52, 3) := by decide +kernel
theorem dX3_add_8 : decode cX3_add 8 = .ok (.iload_n 1, 1) := by decide +kernel
theorem dX3_add_9 : decode cX3_add 9 = .ok (.iastore, 1) := by decide +kernel
theorem dX3_add_10 : decode cX3_add 10 = .ok (.aload_n 0, 1) := by decide +kernel
theorem dX3_add_11 : decode cX3_add 11 = .ok (.getfield 15, 3) := by decide +kernel
theorem dX3_add_14 : decode cX3_add 14 = .ok (.aload_n 0, 1) := by decide +kernel
theorem dX3_add_15 : decode cX3_add 15 = .ok (.getfield 52, 3) := by decide +kernel
theorem dX3_add_18 : decode cX3_add 18 = .ok (.iload_n 2, 1) := by decide +kernel
theorem dX3_add_19 : decode cX3_add 19 = .ok (.iastore, 1) := by decide +kernel
theorem dX3_add_20 : decode cX3_add 20 = .ok (.aload_n 0, 1) := by decide +kernel
theorem dX3_add_21 : decode cX3_add 21 = .ok (.getfield 18, 3) := by decide +kernel
theorem dX3_add_24 : decode cX3_add 24 = .ok (.aload_n 0, 1) := by decide +kernel
theorem dX3_add_25 : decode cX3_add 25 = .ok (.getfield 52, 3) := by decide +kernel
theorem dX3_add_28 : decode cX3_add 28 = .ok (.iload_n 3, 1) := by decide +kernel
theorem dX3_add_29 : decode cX3_add 29 = .ok (.iastore, 1) := by decide +kernel
theorem dX3_add_30 : decode cX3_add 30 = .ok (.aload_n 0, 1) := by decide +kernel
theorem dX3_add_31 : decode cX3_add 31 = .ok (.getfield 21, 3) := by decide +kernel
theorem dX3_add_34 : decode cX3_add 34 = .ok (.aload_n 0, 1) := by decide +kernel
theorem dX3_add_35 : decode cX3_add 35 = .ok (.getfield 52, 3) := by decide +kernel
theorem dX3_add_38 : decode cX3_add 38 = .ok (.iconst 0, 1) := by decide +kernel
theorem dX3_add_39 : decode cX3_add 39 = .ok (.bastore, 1) := by decide +kernel
theorem dX3_add_40 : decode cX3_add 40 = .ok (.aload_n 0, 1) := by decide +kernel
theorem dX3_add_41 : decode cX3_add 41 = .ok (.dup, 1) := by decide +kernel
theorem dX3_add_42 : decode cX3_add 42 = .ok (.getfield 52, 3) := by decide +kernel
theorem dX3_add_45 : decode cX3_add 45 = .ok (.iconst 1, 1) := by decide +kernel
theorem dX3_add_46 : decode cX3_add 46 = .ok (.iadd, 1) := by decide +kernel
theorem dX3_add_47 : decode cX3_add 47 = .ok (.putfield 52, 3) := by decide +kernel
theorem dX3_add_50 : decode cX3_add 50 = .ok (.aload_n 0, 1) := by decide +kernel
theorem dX3_add_51 : decode cX3_add 51 = .ok (.getfield 52, 3) := by decide +kernel
theorem dX3_add_54 : decode cX3_add 54 = .ok (.iconst 1, 1) := by decide +kernel
theorem dX3_add_55 : decode cX3_add 55 = .ok (.isub, 1) := by decide +kernel
theorem dX3_add_56 : decode cX3_add 56 = .ok (.ireturn, 1) := by decide +kernel
theorem dX3_marksNeeded_0 : decode cX3_marksNeeded 0 = .ok (.aload_n 0, 1) := by decide +kernel
theorem dX3_marksNeeded_1 : decode cX3_marksNeeded 1 = .ok (.getfield 44, 3) := by decide +kernel
theorem dX3_marksNeeded_4 : decode cX3_marksNeeded 4 = .ok (.iload_n 1, 1) := by decide +kernel
theorem dX3_marksNeeded_5 : decode cX3_marksNeeded 5 = .ok (.invokevirtual 56, 3) := by decide +kernel
theorem dX3_marksNeeded_8 : decode cX3_marksNeeded 8 = .ok (.aload_n 0, 1) := by decide +kernel
theorem dX3_marksNeeded_9 : decode cX3_marksNeeded 9 = .ok (.getfield 48, 3) := by decide +kernel
theorem dX3_marksNeeded_12 : decode cX3_marksNeeded 12 = .ok (.invokevirtual 62, 3) := by decide +kernel
theorem dX3_marksNeeded_15 : decode cX3_marksNeeded 15 = .ok (.ireturn, 1) := by decide +kernel
theorem dX3_agreeing_0 : decode cX3_agreeing 0 = .ok (.bipush 8, 2) := by decide +kernel
theorem dX3_agreeing_2 : decode cX3_agreeing 2 = .ok (.aload_n 0, 1) := by decide +kernel
theorem dX3_agreeing_3 : decode cX3_agreeing 3 = .ok (.getfield 44, 3) := by decide +kernel
theorem dX3_agreeing_6 : decode cX3_agreeing 6 = .ok (.getfield 68, 3) := by decide +kernel
theorem dX3_agreeing_9 : decode cX3_agreeing 9 = .ok (.iload_n 1, 1) := by decide +kernel
theorem dX3_agreeing_10 : decode cX3_agreeing 10 = .ok (.iaload, 1) := by decide +kernel
theorem dX3_agreeing_11 : decode cX3_agreeing 11 = .ok (.aload_n 0, 1) := by decide +kernel
theorem dX3_agreeing_12 : decode cX3_agreeing 12 = .ok (.getfield 18, 3) := by decide +kernel
theorem dX3_agreeing_15 : decode cX3_agreeing 15 = .ok (.iload_n 2, 1) := by decide +kernel
theorem dX3_agreeing_16 : decode cX3_agreeing 16 = .ok (.iaload, 1) := by decide +kernel
theorem dX3_agreeing_17 : decode cX3_agreeing 17 = .ok (.ixor, 1) := by decide +kernel
theorem dX3_agreeing_18 : decode cX3_agreeing 18 = .ok (.invokestatic 69, 3) := by decide +kernel
theorem dX3_agreeing_21 : decode cX3_agreeing 21 = .ok (.isub, 1) := by decide +kernel
theorem dX3_agreeing_22 : decode cX3_agreeing 22 = .ok (.ireturn, 1) := by decide +kernel
theorem dX3_fits_0 : decode cX3_fits 0 = .ok (.aload_n 0, 1) := by decide +kernel
theorem dX3_fits_1 : decode cX3_fits 1 = .ok (.getfield 44, 3) := by decide +kernel
theorem dX3_fits_4 : decode cX3_fits 4 = .ok (.getfield 75, 3) := by decide +kernel
theorem dX3_fits_7 : decode cX3_fits 7 = .ok (.iload_n 1, 1) := by decide +kernel
theorem dX3_fits_8 : decode cX3_fits 8 = .ok (.iaload, 1) := by decide +kernel
theorem dX3_fits_9 : decode cX3_fits 9 = .ok (.aload_n 0, 1) := by decide +kernel
theorem dX3_fits_10 : decode cX3_fits 10 = .ok (.getfield 15, 3) := by decide +kernel
theorem dX3_fits_13 : decode cX3_fits 13 = .ok (.iload_n 2, 1) := by decide +kernel
theorem dX3_fits_14 : decode cX3_fits 14 = .ok (.iaload, 1) := by decide +kernel
theorem dX3_fits_15 : decode cX3_fits 15 = .ok (.if_icmp .ne 17, 3) := by decide +kernel
theorem dX3_fits_18 : decode cX3_fits 18 = .ok (.aload_n 0, 1) := by decide +kernel
theorem dX3_fits_19 : decode cX3_fits 19 = .ok (.iload_n 1, 1) := by decide +kernel
theorem dX3_fits_20 : decode cX3_fits 20 = .ok (.iload_n 2, 1) := by decide +kernel
theorem dX3_fits_21 : decode cX3_fits 21 = .ok (.invokevirtual 76, 3) := by decide +kernel
theorem dX3_fits_24 : decode cX3_fits 24 = .ok (.iload_n 3, 1) := by decide +kernel
theorem dX3_fits_25 : decode cX3_fits 25 = .ok (.if_icmp .lt 7, 3) := by decide +kernel
theorem dX3_fits_28 : decode cX3_fits 28 = .ok (.iconst 1, 1) := by decide +kernel
theorem dX3_fits_29 : decode cX3_fits 29 = .ok (.goto 4, 3) := by decide +kernel
theorem dX3_fits_32 : decode cX3_fits 32 = .ok (.iconst 0, 1) := by decide +kernel
theorem dX3_fits_33 : decode cX3_fits 33 = .ok (.ireturn, 1) := by decide +kernel
theorem dX3_choose_0 : decode cX3_choose 0 = .ok (.aload_n 0, 1) := by decide +kernel
theorem dX3_choose_1 : decode cX3_choose 1 = .ok (.iconst 0, 1) := by decide +kernel
theorem dX3_choose_2 : decode cX3_choose 2 = .ok (.putfield 80, 3) := by decide +kernel
theorem dX3_choose_5 : decode cX3_choose 5 = .ok (.iconst 0, 1) := by decide +kernel
theorem dX3_choose_6 : decode cX3_choose 6 = .ok (.istore_n 3, 1) := by decide +kernel
theorem dX3_choose_7 : decode cX3_choose 7 = .ok (.iload_n 3, 1) := by decide +kernel
theorem dX3_choose_8 : decode cX3_choose 8 = .ok (.iload_n 2, 1) := by decide +kernel
theorem dX3_choose_9 : decode cX3_choose 9 = .ok (.if_icmp .ge 83, 3) := by decide +kernel
theorem dX3_choose_12 : decode cX3_choose 12 = .ok (.iload_n 3, 1) := by decide +kernel
theorem dX3_choose_13 : decode cX3_choose 13 = .ok (.bipush 100, 2) := by decide +kernel
theorem dX3_choose_15 : decode cX3_choose 15 = .ok (.if_icmp .ge 77, 3) := by decide +kernel
theorem dX3_choose_18 : decode cX3_choose 18 = .ok (.aload_n 1, 1) := by decide +kernel
theorem dX3_choose_19 : decode cX3_choose 19 = .ok (.iload_n 3, 1) := by decide +kernel
theorem dX3_choose_20 : decode cX3_choose 20 = .ok (.baload, 1) := by decide +kernel
theorem dX3_choose_21 : decode cX3_choose 21 = .ok (.sipush 255, 3) := by decide +kernel
theorem dX3_choose_24 : decode cX3_choose 24 = .ok (.iand, 1) := by decide +kernel
theorem dX3_choose_25 : decode cX3_choose 25 = .ok (.istore 4, 2) := by decide +kernel
theorem dX3_choose_27 : decode cX3_choose 27 = .ok (.iload 4, 2) := by decide +kernel
theorem dX3_choose_29 : decode cX3_choose 29 = .ok (.aload_n 0, 1) := by decide +kernel
theorem dX3_choose_30 : decode cX3_choose 30 = .ok (.getfield 44, 3) := by decide +kernel
theorem dX3_choose_33 : decode cX3_choose 33 = .ok (.getfield 83, 3) := by decide +kernel
theorem dX3_choose_36 : decode cX3_choose 36 = .ok (.if_icmp .ge 12, 3) := by decide +kernel
theorem dX3_choose_39 : decode cX3_choose 39 = .ok (.aload_n 0, 1) := by decide +kernel
theorem dX3_choose_40 : decode cX3_choose 40 = .ok (.iload 4, 2) := by decide +kernel
theorem dX3_choose_42 : decode cX3_choose 42 = .ok (.invokevirtual 86, 3) := by decide +kernel
theorem dX3_choose_45 : decode cX3_choose 45 = .ok (.ifCond .eq 5, 3) := by decide +kernel
theorem dX3_choose_48 : decode cX3_choose 48 = .ok (.iconst 0, 1) := by decide +kernel
theorem dX3_choose_49 : decode cX3_choose 49 = .ok (.ireturn, 1) := by decide +kernel
theorem dX3_choose_50 : decode cX3_choose 50 = .ok (.aload_n 0, 1) := by decide +kernel
theorem dX3_choose_51 : decode cX3_choose 51 = .ok (.getfield 25, 3) := by decide +kernel
theorem dX3_choose_54 : decode cX3_choose 54 = .ok (.aload_n 0, 1) := by decide +kernel
theorem dX3_choose_55 : decode cX3_choose 55 = .ok (.getfield 80, 3) := by decide +kernel
theorem dX3_choose_58 : decode cX3_choose 58 = .ok (.iload 4, 2) := by decide +kernel
theorem dX3_choose_60 : decode cX3_choose 60 = .ok (.iastore, 1) := by decide +kernel
theorem dX3_choose_61 : decode cX3_choose 61 = .ok (.aload_n 0, 1) := by decide +kernel
theorem dX3_choose_62 : decode cX3_choose 62 = .ok (.getfield 28, 3) := by decide +kernel
theorem dX3_choose_65 : decode cX3_choose 65 = .ok (.aload_n 0, 1) := by decide +kernel
theorem dX3_choose_66 : decode cX3_choose 66 = .ok (.getfield 80, 3) := by decide +kernel
theorem dX3_choose_69 : decode cX3_choose 69 = .ok (.aload_n 0, 1) := by decide +kernel
theorem dX3_choose_70 : decode cX3_choose 70 = .ok (.iload 4, 2) := by decide +kernel
theorem dX3_choose_72 : decode cX3_choose 72 = .ok (.invokevirtual 90, 3) := by decide +kernel
theorem dX3_choose_75 : decode cX3_choose 75 = .ok (.iastore, 1) := by decide +kernel
theorem dX3_choose_76 : decode cX3_choose 76 = .ok (.aload_n 0, 1) := by decide +kernel
theorem dX3_choose_77 : decode cX3_choose 77 = .ok (.dup, 1) := by decide +kernel
theorem dX3_choose_78 : decode cX3_choose 78 = .ok (.getfield 80, 3) := by decide +kernel
theorem dX3_choose_81 : decode cX3_choose 81 = .ok (.iconst 1, 1) := by decide +kernel
theorem dX3_choose_82 : decode cX3_choose 82 = .ok (.iadd, 1) := by decide +kernel
theorem dX3_choose_83 : decode cX3_choose 83 = .ok (.putfield 80, 3) := by decide +kernel
theorem dX3_choose_86 : decode cX3_choose 86 = .ok (.iinc 3 1, 3) := by decide +kernel
theorem dX3_choose_89 : decode cX3_choose 89 = .ok (.goto (-82), 3) := by decide +kernel
theorem dX3_choose_92 : decode cX3_choose 92 = .ok (.iconst 1, 1) := by decide +kernel
theorem dX3_choose_93 : decode cX3_choose 93 = .ok (.ireturn, 1) := by decide +kernel
theorem dX3_isChosen_0 : decode cX3_isChosen 0 = .ok (.iconst 0, 1) := by decide +kernel
theorem dX3_isChosen_1 : decode cX3_isChosen 1 = .ok (.istore_n 2, 1) := by decide +kernel
theorem dX3_isChosen_2 : decode cX3_isChosen 2 = .ok (.iload_n 2, 1) := by decide +kernel
theorem dX3_isChosen_3 : decode cX3_isChosen 3 = .ok (.aload_n 0, 1) := by decide +kernel
theorem dX3_isChosen_4 : decode cX3_isChosen 4 = .ok (.getfield 80, 3) := by decide +kernel
theorem dX3_isChosen_7 : decode cX3_isChosen 7 = .ok (.if_icmp .ge 21, 3) := by decide +kernel
theorem dX3_isChosen_10 : decode cX3_isChosen 10 = .ok (.aload_n 0, 1) := by decide +kernel
theorem dX3_isChosen_11 : decode cX3_isChosen 11 = .ok (.getfield 25, 3) := by decide +kernel
theorem dX3_isChosen_14 : decode cX3_isChosen 14 = .ok (.iload_n 2, 1) := by decide +kernel
theorem dX3_isChosen_15 : decode cX3_isChosen 15 = .ok (.iaload, 1) := by decide +kernel
theorem dX3_isChosen_16 : decode cX3_isChosen 16 = .ok (.iload_n 1, 1) := by decide +kernel
theorem dX3_isChosen_17 : decode cX3_isChosen 17 = .ok (.if_icmp .ne 5, 3) := by decide +kernel
theorem dX3_isChosen_20 : decode cX3_isChosen 20 = .ok (.iconst 1, 1) := by decide +kernel
theorem dX3_isChosen_21 : decode cX3_isChosen 21 = .ok (.ireturn, 1) := by decide +kernel
theorem dX3_isChosen_22 : decode cX3_isChosen 22 = .ok (.iinc 2 1, 3) := by decide +kernel
theorem dX3_isChosen_25 : decode cX3_isChosen 25 = .ok (.goto (-23), 3) := by decide +kernel
theorem dX3_isChosen_28 : decode cX3_isChosen 28 = .ok (.iconst 0, 1) := by decide +kernel
theorem dX3_isChosen_29 : decode cX3_isChosen 29 = .ok (.ireturn, 1) := by decide +kernel
theorem dX3_match_0 : decode cX3_match 0 = .ok (.iconst 1, 1) := by decide +kernel
theorem dX3_match_1 : decode cX3_match 1 = .ok (.aload_n 0, 1) := by decide +kernel
theorem dX3_match_2 : decode cX3_match 2 = .ok (.getfield 80, 3) := by decide +kernel
theorem dX3_match_5 : decode cX3_match 5 = .ok (.ishl, 1) := by decide +kernel
theorem dX3_match_6 : decode cX3_match 6 = .ok (.istore_n 1, 1) := by decide +kernel
theorem dX3_match_7 : decode cX3_match 7 = .ok (.aload_n 0, 1) := by decide +kernel
theorem dX3_match_8 : decode cX3_match 8 = .ok (.getfield 38, 3) := by decide +kernel
theorem dX3_match_11 : decode cX3_match 11 = .ok (.ldc2_w 93, 3) := by decide +kernel
theorem dX3_match_14 : decode cX3_match 14 = .ok (.invokestatic 95, 3) := by decide +kernel
theorem dX3_match_17 : decode cX3_match 17 = .ok (.aload_n 0, 1) := by decide +kernel
theorem dX3_match_18 : decode cX3_match 18 = .ok (.getfield 38, 3) := by decide +kernel
theorem dX3_match_21 : decode cX3_match 21 = .ok (.iconst 0, 1) := by decide +kernel
theorem dX3_match_22 : decode cX3_match 22 = .ok (.lconst 0, 1) := by decide +kernel
theorem dX3_match_23 : decode cX3_match 23 = .ok (.lastore, 1) := by decide +kernel
theorem dX3_match_24 : decode cX3_match 24 = .ok (.iconst 0, 1) := by decide +kernel
theorem dX3_match_25 : decode cX3_match 25 = .ok (.istore_n 2, 1) := by decide +kernel
theorem dX3_match_26 : decode cX3_match 26 = .ok (.iload_n 2, 1) := by decide +kernel
theorem dX3_match_27 : decode cX3_match 27 = .ok (.aload_n 0, 1) := by decide +kernel
theorem dX3_match_28 : decode cX3_match 28 = .ok (.getfield 52, 3) := by decide +kernel
theorem dX3_match_31 : decode cX3_match 31 = .ok (.if_icmp .ge 51, 3) := by decide +kernel
theorem dX3_match_34 : decode cX3_match 34 = .ok (.aload_n 0, 1) := by decide +kernel
theorem dX3_match_35 : decode cX3_match 35 = .ok (.iload_n 2, 1) := by decide +kernel
theorem dX3_match_36 : decode cX3_match 36 = .ok (.invokevirtual 101, 3) := by decide +kernel
theorem dX3_match_39 : decode cX3_match 39 = .ok (.ifCond .eq 37, 3) := by decide +kernel
theorem dX3_match_42 : decode cX3_match 42 = .ok (.iload_n 1, 1) := by decide +kernel
theorem dX3_match_43 : decode cX3_match 43 = .ok (.iconst 1, 1) := by decide +kernel
theorem dX3_match_44 : decode cX3_match 44 = .ok (.isub, 1) := by decide +kernel
theorem dX3_match_45 : decode cX3_match 45 = .ok (.istore_n 3, 1) := by decide +kernel
theorem dX3_match_46 : decode cX3_match 46 = .ok (.iload_n 3, 1) := by decide +kernel
theorem dX3_match_47 : decode cX3_match 47 = .ok (.ifCond .le 29, 3) := by decide +kernel
theorem dX3_match_50 : decode cX3_match 50 = .ok (.aload_n 0, 1) := by decide +kernel
theorem dX3_match_51 : decode cX3_match 51 = .ok (.getfield 38, 3) := by decide +kernel
theorem dX3_match_54 : decode cX3_match 54 = .ok (.iload_n 3, 1) := by decide +kernel
theorem dX3_match_55 : decode cX3_match 55 = .ok (.aload_n 0, 1) := by decide +kernel
theorem dX3_match_56 : decode cX3_match 56 = .ok (.getfield 38, 3) := by decide +kernel
theorem dX3_match_59 : decode cX3_match 59 = .ok (.iload_n 3, 1) := by decide +kernel
theorem dX3_match_60 : decode cX3_match 60 = .ok (.laload, 1) := by decide +kernel
theorem dX3_match_61 : decode cX3_match 61 = .ok (.aload_n 0, 1) := by decide +kernel
theorem dX3_match_62 : decode cX3_match 62 = .ok (.iload_n 3, 1) := by decide +kernel
theorem dX3_match_63 : decode cX3_match 63 = .ok (.invokevirtual 104, 3) := by decide +kernel
theorem dX3_match_66 : decode cX3_match 66 = .ok (.invokestatic 108, 3) := by decide +kernel
theorem dX3_match_69 : decode cX3_match 69 = .ok (.lastore, 1) := by decide +kernel
theorem dX3_match_70 : decode cX3_match 70 = .ok (.iinc 3 (-1), 3) := by decide +kernel
theorem dX3_match_73 : decode cX3_match 73 = .ok (.goto (-27), 3) := by decide +kernel
theorem dX3_match_76 : decode cX3_match 76 = .ok (.iinc 2 1, 3) := by decide +kernel
theorem dX3_match_79 : decode cX3_match 79 = .ok (.goto (-53), 3) := by decide +kernel
theorem dX3_match_82 : decode cX3_match 82 = .ok (.lconst 0, 1) := by decide +kernel
theorem dX3_match_83 : decode cX3_match 83 = .ok (.lstore_n 2, 1) := by decide +kernel
theorem dX3_match_84 : decode cX3_match 84 = .ok (.iconst 1, 1) := by decide +kernel
theorem dX3_match_85 : decode cX3_match 85 = .ok (.istore 4, 2) := by decide +kernel
theorem dX3_match_87 : decode cX3_match 87 = .ok (.iload 4, 2) := by decide +kernel
theorem dX3_match_89 : decode cX3_match 89 = .ok (.iload_n 1, 1) := by decide +kernel
theorem dX3_match_90 : decode cX3_match 90 = .ok (.if_icmp .ge 21, 3) := by decide +kernel
theorem dX3_match_93 : decode cX3_match 93 = .ok (.lload_n 2, 1) := by decide +kernel
theorem dX3_match_94 : decode cX3_match 94 = .ok (.aload_n 0, 1) := by decide +kernel
theorem dX3_match_95 : decode cX3_match 95 = .ok (.getfield 38, 3) := by decide +kernel
theorem dX3_match_98 : decode cX3_match 98 = .ok (.iload 4, 2) := by decide +kernel
theorem dX3_match_100 : decode cX3_match 100 = .ok (.laload, 1) := by decide +kernel
theorem dX3_match_101 : decode cX3_match 101 = .ok (.invokestatic 108, 3) := by decide +kernel
theorem dX3_match_104 : decode cX3_match 104 = .ok (.lstore_n 2, 1) := by decide +kernel
theorem dX3_match_105 : decode cX3_match 105 = .ok (.iinc 4 1, 3) := by decide +kernel
theorem dX3_match_108 : decode cX3_match 108 = .ok (.goto (-21), 3) := by decide +kernel
theorem dX3_match_111 : decode cX3_match 111 = .ok (.aload_n 0, 1) := by decide +kernel
theorem dX3_match_112 : decode cX3_match 112 = .ok (.lload_n 2, 1) := by decide +kernel
theorem dX3_match_113 : decode cX3_match 113 = .ok (.ldc2_w 114, 3) := by decide +kernel
theorem dX3_match_116 : decode cX3_match 116 = .ok (.lrem, 1) := by decide +kernel
theorem dX3_match_117 : decode cX3_match 117 = .ok (.invokevirtual 116, 3) := by decide +kernel
theorem dX3_match_120 : decode cX3_match 120 = .ok (.ireturn, 1) := by decide +kernel
theorem dX3_offer_0 : decode cX3_offer 0 = .ok (.iconst 0, 1) := by decide +kernel
theorem dX3_offer_1 : decode cX3_offer 1 = .ok (.istore_n 2, 1) := by decide +kernel
theorem dX3_offer_2 : decode cX3_offer 2 = .ok (.iconst 0, 1) := by decide +kernel
theorem dX3_offer_3 : decode cX3_offer 3 = .ok (.istore_n 3, 1) := by decide +kernel
theorem dX3_offer_4 : decode cX3_offer 4 = .ok (.iload_n 3, 1) := by decide +kernel
theorem dX3_offer_5 : decode cX3_offer 5 = .ok (.aload_n 0, 1) := by decide +kernel
theorem dX3_offer_6 : decode cX3_offer 6 = .ok (.getfield 80, 3) := by decide +kernel
theorem dX3_offer_9 : decode cX3_offer 9 = .ok (.if_icmp .ge 84, 3) := by decide +kernel
theorem dX3_offer_12 : decode cX3_offer 12 = .ok (.aload_n 0, 1) := by decide +kernel
theorem dX3_offer_13 : decode cX3_offer 13 = .ok (.getfield 25, 3) := by decide +kernel
theorem dX3_offer_16 : decode cX3_offer 16 = .ok (.iload_n 3, 1) := by decide +kernel
theorem dX3_offer_17 : decode cX3_offer 17 = .ok (.iaload, 1) := by decide +kernel
theorem dX3_offer_18 : decode cX3_offer 18 = .ok (.istore 4, 2) := by decide +kernel
theorem dX3_offer_20 : decode cX3_offer 20 = .ok (.aload_n 0, 1) := by decide +kernel
theorem dX3_offer_21 : decode cX3_offer 21 = .ok (.getfield 34, 3) := by decide +kernel
theorem dX3_offer_24 : decode cX3_offer 24 = .ok (.iload_n 3, 1) := by decide +kernel
theorem dX3_offer_25 : decode cX3_offer 25 = .ok (.lconst 0, 1) := by decide +kernel
theorem dX3_offer_26 : decode cX3_offer 26 = .ok (.lastore, 1) := by decide +kernel
theorem dX3_offer_27 : decode cX3_offer 27 = .ok (.aload_n 0, 1) := by decide +kernel
theorem dX3_offer_28 : decode cX3_offer 28 = .ok (.getfield 21, 3) := by decide +kernel
theorem dX3_offer_31 : decode cX3_offer 31 = .ok (.iload_n 1, 1) := by decide +kernel
theorem dX3_offer_32 : decode cX3_offer 32 = .ok (.baload, 1) := by decide +kernel
theorem dX3_offer_33 : decode cX3_offer 33 = .ok (.ifCond .ne 54, 3) := by decide +kernel
theorem dX3_offer_36 : decode cX3_offer 36 = .ok (.aload_n 0, 1) := by decide +kernel
theorem dX3_offer_37 : decode cX3_offer 37 = .ok (.iload 4, 2) := by decide +kernel
theorem dX3_offer_39 : decode cX3_offer 39 = .ok (.iload_n 1, 1) := by decide +kernel
theorem dX3_offer_40 : decode cX3_offer 40 = .ok (.aload_n 0, 1) := by decide +kernel
theorem dX3_offer_41 : decode cX3_offer 41 = .ok (.getfield 28, 3) := by decide +kernel
theorem dX3_offer_44 : decode cX3_offer 44 = .ok (.iload_n 3, 1) := by decide +kernel
theorem dX3_offer_45 : decode cX3_offer 45 = .ok (.iaload, 1) := by decide +kernel
theorem dX3_offer_46 : decode cX3_offer 46 = .ok (.invokevirtual 120, 3) := by decide +kernel
theorem dX3_offer_49 : decode cX3_offer 49 = .ok (.ifCond .eq 38, 3) := by decide +kernel
theorem dX3_offer_52 : decode cX3_offer 52 = .ok (.aload_n 0, 1) := by decide +kernel
theorem dX3_offer_53 : decode cX3_offer 53 = .ok (.getfield 34, 3) := by decide +kernel
theorem dX3_offer_56 : decode cX3_offer 56 = .ok (.iload_n 3, 1) := by decide +kernel
theorem dX3_offer_57 : decode cX3_offer 57 = .ok (.bipush 65, 2) := by decide +kernel
theorem dX3_offer_59 : decode cX3_offer 59 = .ok (.aload_n 0, 1) := by decide +kernel
theorem dX3_offer_60 : decode cX3_offer 60 = .ok (.iload 4, 2) := by decide +kernel
theorem dX3_offer_62 : decode cX3_offer 62 = .ok (.iload_n 1, 1) := by decide +kernel
theorem dX3_offer_63 : decode cX3_offer 63 = .ok (.invokevirtual 76, 3) := by decide +kernel
theorem dX3_offer_66 : decode cX3_offer 66 = .ok (.iadd, 1) := by decide +kernel
theorem dX3_offer_67 : decode cX3_offer 67 = .ok (.i2l, 1) := by decide +kernel
theorem dX3_offer_68 : decode cX3_offer 68 = .ok (.ldc2_w 114, 3) := by decide +kernel
theorem dX3_offer_71 : decode cX3_offer 71 = .ok (.lmul, 1) := by decide +kernel
theorem dX3_offer_72 : decode cX3_offer 72 = .ok (.bipush 60, 2) := by decide +kernel
theorem dX3_offer_74 : decode cX3_offer 74 = .ok (.iload_n 1, 1) := by decide +kernel
theorem dX3_offer_75 : decode cX3_offer 75 = .ok (.isub, 1) := by decide +kernel
theorem dX3_offer_76 : decode cX3_offer 76 = .ok (.i2l, 1) := by decide +kernel
theorem dX3_offer_77 : decode cX3_offer 77 = .ok (.getstatic 124, 3) := by decide +kernel
theorem dX3_offer_80 : decode cX3_offer 80 = .ok (.iload_n 3, 1) := by decide +kernel
theorem dX3_offer_81 : decode cX3_offer 81 = .ok (.laload, 1) := by decide +kernel
theorem dX3_offer_82 : decode cX3_offer 82 = .ok (.lmul, 1) := by decide +kernel
theorem dX3_offer_83 : decode cX3_offer 83 = .ok (.ladd, 1) := by decide +kernel
theorem dX3_offer_84 : decode cX3_offer 84 = .ok (.lastore, 1) := by decide +kernel
theorem dX3_offer_85 : decode cX3_offer 85 = .ok (.iconst 1, 1) := by decide +kernel
theorem dX3_offer_86 : decode cX3_offer 86 = .ok (.istore_n 2, 1) := by decide +kernel
theorem dX3_offer_87 : decode cX3_offer 87 = .ok (.iinc 3 1, 3) := by decide +kernel
theorem dX3_offer_90 : decode cX3_offer 90 = .ok (.goto (-86), 3) := by decide +kernel
theorem dX3_offer_93 : decode cX3_offer 93 = .ok (.iload_n 2, 1) := by decide +kernel
theorem dX3_offer_94 : decode cX3_offer 94 = .ok (.ireturn, 1) := by decide +kernel
theorem dX3_bestWithLast_0 : decode cX3_bestWithLast 0 = .ok (.ldc2_w 93, 3) := by decide +kernel
theorem dX3_bestWithLast_3 : decode cX3_bestWithLast 3 = .ok (.lstore_n 2, 1) := by decide +kernel
theorem dX3_bestWithLast_4 : decode cX3_bestWithLast 4 = .ok (.iconst 0, 1) := by decide +kernel
theorem dX3_bestWithLast_5 : decode cX3_bestWithLast 5 = .ok (.istore 4, 2) := by decide +kernel
theorem dX3_bestWithLast_7 : decode cX3_bestWithLast 7 = .ok (.iload 4, 2) := by decide +kernel
theorem dX3_bestWithLast_9 : decode cX3_bestWithLast 9 = .ok (.aload_n 0, 1) := by decide +kernel
theorem dX3_bestWithLast_10 : decode cX3_bestWithLast 10 = .ok (.getfield 80, 3) := by decide +kernel
theorem dX3_bestWithLast_13 : decode cX3_bestWithLast 13 = .ok (.if_icmp .ge 71, 3) := by decide +kernel
theorem dX3_bestWithLast_16 : decode cX3_bestWithLast 16 = .ok (.iload_n 1, 1) := by decide +kernel
theorem dX3_bestWithLast_17 : decode cX3_bestWithLast 17 = .ok (.iload 4, 2) := by decide +kernel
theorem dX3_bestWithLast_19 : decode cX3_bestWithLast 19 = .ok (.ishr, 1) := by decide +kernel
theorem dX3_bestWithLast_20 : decode cX3_bestWithLast 20 = .ok (.iconst 1, 1) := by decide +kernel
theorem dX3_bestWithLast_21 : decode cX3_bestWithLast 21 = .ok (.iand, 1) := by decide +kernel
theorem dX3_bestWithLast_22 : decode cX3_bestWithLast 22 = .ok (.iconst 1, 1) := by decide +kernel
theorem dX3_bestWithLast_23 : decode cX3_bestWithLast 23 = .ok (.if_icmp .ne 55, 3) := by decide +kernel
theorem dX3_bestWithLast_26 : decode cX3_bestWithLast 26 = .ok (.aload_n 0, 1) := by decide +kernel
theorem dX3_bestWithLast_27 : decode cX3_bestWithLast 27 = .ok (.getfield 34, 3) := by decide +kernel
theorem dX3_bestWithLast_30 : decode cX3_bestWithLast 30 = .ok (.iload 4, 2) := by decide +kernel
theorem dX3_bestWithLast_32 : decode cX3_bestWithLast 32 = .ok (.laload, 1) := by decide +kernel
theorem dX3_bestWithLast_33 : decode cX3_bestWithLast 33 = .ok (.lconst 0, 1) := by decide +kernel
theorem dX3_bestWithLast_34 : decode cX3_bestWithLast 34 = .ok (.lcmp, 1) := by decide +kernel
theorem dX3_bestWithLast_35 : decode cX3_bestWithLast 35 = .ok (.ifCond .le 43, 3) := by decide +kernel
theorem dX3_bestWithLast_38 : decode cX3_bestWithLast 38 = .ok (.aload_n 0, 1) := by decide +kernel
theorem dX3_bestWithLast_39 : decode cX3_bestWithLast 39 = .ok (.getfield 38, 3) := by decide +kernel
theorem dX3_bestWithLast_42 : decode cX3_bestWithLast 42 = .ok (.iload_n 1, 1) := by decide +kernel
theorem dX3_bestWithLast_43 : decode cX3_bestWithLast 43 = .ok (.iconst 1, 1) := by decide +kernel
theorem dX3_bestWithLast_44 : decode cX3_bestWithLast 44 = .ok (.iload 4, 2) := by decide +kernel
theorem dX3_bestWithLast_46 : decode cX3_bestWithLast 46 = .ok (.ishl, 1) := by decide +kernel
theorem dX3_bestWithLast_47 : decode cX3_bestWithLast 47 = .ok (.ixor, 1) := by decide +kernel
theorem dX3_bestWithLast_48 : decode cX3_bestWithLast 48 = .ok (.laload, 1) := by decide +kernel
theorem dX3_bestWithLast_49 : decode cX3_bestWithLast 49 = .ok (.lconst 0, 1) := by decide +kernel
theorem dX3_bestWithLast_50 : decode cX3_bestWithLast 50 = .ok (.lcmp, 1) := by decide +kernel
theorem dX3_bestWithLast_51 : decode cX3_bestWithLast 51 = .ok (.ifCond .lt 27, 3) := by decide +kernel
theorem dX3_bestWithLast_54 : decode cX3_bestWithLast 54 = .ok (.lload_n 2, 1) := by decide +kernel
theorem dX3_bestWithLast_55 : decode cX3_bestWithLast 55 = .ok (.aload_n 0, 1) := by decide +kernel
theorem dX3_bestWithLast_56 : decode cX3_bestWithLast 56 = .ok (.getfield 38, 3) := by decide +kernel
theorem dX3_bestWithLast_59 : decode cX3_bestWithLast 59 = .ok (.iload_n 1, 1) := by decide +kernel
theorem dX3_bestWithLast_60 : decode cX3_bestWithLast 60 = .ok (.iconst 1, 1) := by decide +kernel
theorem dX3_bestWithLast_61 : decode cX3_bestWithLast 61 = .ok (.iload 4, 2) := by decide +kernel
theorem dX3_bestWithLast_63 : decode cX3_bestWithLast 63 = .ok (.ishl, 1) := by decide +kernel
theorem dX3_bestWithLast_64 : decode cX3_bestWithLast 64 = .ok (.ixor, 1) := by decide +kernel
theorem dX3_bestWithLast_65 : decode cX3_bestWithLast 65 = .ok (.laload, 1) := by decide +kernel
theorem dX3_bestWithLast_66 : decode cX3_bestWithLast 66 = .ok (.aload_n 0, 1) := by decide +kernel
theorem dX3_bestWithLast_67 : decode cX3_bestWithLast 67 = .ok (.getfield 34, 3) := by decide +kernel
theorem dX3_bestWithLast_70 : decode cX3_bestWithLast 70 = .ok (.iload 4, 2) := by decide +kernel
theorem dX3_bestWithLast_72 : decode cX3_bestWithLast 72 = .ok (.laload, 1) := by decide +kernel
theorem dX3_bestWithLast_73 : decode cX3_bestWithLast 73 = .ok (.ladd, 1) := by decide +kernel
theorem dX3_bestWithLast_74 : decode cX3_bestWithLast 74 = .ok (.invokestatic 108, 3) := by decide +kernel
theorem dX3_bestWithLast_77 : decode cX3_bestWithLast 77 = .ok (.lstore_n 2, 1) := by decide +kernel
theorem dX3_bestWithLast_78 : decode cX3_bestWithLast 78 = .ok (.iinc 4 1, 3) := by decide +kernel
theorem dX3_bestWithLast_81 : decode cX3_bestWithLast 81 = .ok (.goto (-74), 3) := by decide +kernel
theorem dX3_bestWithLast_84 : decode cX3_bestWithLast 84 = .ok (.lload_n 2, 1) := by decide +kernel
theorem dX3_bestWithLast_85 : decode cX3_bestWithLast 85 = .ok (.lreturn, 1) := by decide +kernel
theorem dX3_readRow_0 : decode cX3_readRow 0 = .ok (.iconst 0, 1) := by decide +kernel
theorem dX3_readRow_1 : decode cX3_readRow 1 = .ok (.istore_n 3, 1) := by decide +kernel
theorem dX3_readRow_2 : decode cX3_readRow 2 = .ok (.aload_n 0, 1) := by decide +kernel
theorem dX3_readRow_3 : decode cX3_readRow 3 = .ok (.aload_n 0, 1) := by decide +kernel
theorem dX3_readRow_4 : decode cX3_readRow 4 = .ok (.getfield 80, 3) := by decide +kernel
theorem dX3_readRow_7 : decode cX3_readRow 7 = .ok (.putfield 127, 3) := by decide +kernel
theorem dX3_readRow_10 : decode cX3_readRow 10 = .ok (.iconst 0, 1) := by decide +kernel
theorem dX3_readRow_11 : decode cX3_readRow 11 = .ok (.istore 4, 2) := by decide +kernel
theorem dX3_readRow_13 : decode cX3_readRow 13 = .ok (.iload 4, 2) := by decide +kernel
theorem dX3_readRow_15 : decode cX3_readRow 15 = .ok (.aload_n 0, 1) := by decide +kernel
theorem dX3_readRow_16 : decode cX3_readRow 16 = .ok (.getfield 80, 3) := by decide +kernel
theorem dX3_readRow_19 : decode cX3_readRow 19 = .ok (.if_icmp .ge 47, 3) := by decide +kernel
theorem dX3_readRow_22 : decode cX3_readRow 22 = .ok (.aload_n 0, 1) := by decide +kernel
theorem dX3_readRow_23 : decode cX3_readRow 23 = .ok (.getfield 31, 3) := by decide +kernel
theorem dX3_readRow_26 : decode cX3_readRow 26 = .ok (.iload 4, 2) := by decide +kernel
theorem dX3_readRow_28 : decode cX3_readRow 28 = .ok (.bipush 60, 2) := by decide +kernel
theorem dX3_readRow_30 : decode cX3_readRow 30 = .ok (.lload_n 1, 1) := by decide +kernel
theorem dX3_readRow_31 : decode cX3_readRow 31 = .ok (.getstatic 124, 3) := by decide +kernel
theorem dX3_readRow_34 : decode cX3_readRow 34 = .ok (.iload 4, 2) := by decide +kernel
theorem dX3_readRow_36 : decode cX3_readRow 36 = .ok (.laload, 1) := by decide +kernel
theorem dX3_readRow_37 : decode cX3_readRow 37 = .ok (.ldiv, 1) := by decide +kernel
theorem dX3_readRow_38 : decode cX3_readRow 38 = .ok (.ldc2_w 130, 3) := by decide +kernel
theorem dX3_readRow_41 : decode cX3_readRow 41 = .ok (.lrem, 1) := by decide +kernel
theorem dX3_readRow_42 : decode cX3_readRow 42 = .ok (.l2i, 1) := by decide +kernel
theorem dX3_readRow_43 : decode cX3_readRow 43 = .ok (.isub, 1) := by decide +kernel
theorem dX3_readRow_44 : decode cX3_readRow 44 = .ok (.iastore, 1) := by decide +kernel
theorem dX3_readRow_45 : decode cX3_readRow 45 = .ok (.aload_n 0, 1) := by decide +kernel
theorem dX3_readRow_46 : decode cX3_readRow 46 = .ok (.getfield 31, 3) := by decide +kernel
theorem dX3_readRow_49 : decode cX3_readRow 49 = .ok (.iload 4, 2) := by decide +kernel
theorem dX3_readRow_51 : decode cX3_readRow 51 = .ok (.iaload, 1) := by decide +kernel
theorem dX3_readRow_52 : decode cX3_readRow 52 = .ok (.bipush 60, 2) := by decide +kernel
theorem dX3_readRow_54 : decode cX3_readRow 54 = .ok (.if_icmp .ge 6, 3) := by decide +kernel
theorem dX3_readRow_57 : decode cX3_readRow 57 = .ok (.iinc 3 1, 3) := by decide +kernel
theorem dX3_readRow_60 : decode cX3_readRow 60 = .ok (.iinc 4 1, 3) := by decide +kernel
theorem dX3_readRow_63 : decode cX3_readRow 63 = .ok (.goto (-50), 3) := by decide +kernel
theorem dX3_readRow_66 : decode cX3_readRow 66 = .ok (.iload_n 3, 1) := by decide +kernel
theorem dX3_readRow_67 : decode cX3_readRow 67 = .ok (.ireturn, 1) := by decide +kernel
theorem dX3_keepLost_0 : decode cX3_keepLost 0 = .ok (.iconst 0, 1) := by decide +kernel
theorem dX3_keepLost_1 : decode cX3_keepLost 1 = .ok (.istore_n 1, 1) := by decide +kernel
theorem dX3_keepLost_2 : decode cX3_keepLost 2 = .ok (.iconst 0, 1) := by decide +kernel
theorem dX3_keepLost_3 : decode cX3_keepLost 3 = .ok (.istore_n 2, 1) := by decide +kernel
theorem dX3_keepLost_4 : decode cX3_keepLost 4 = .ok (.iload_n 2, 1) := by decide +kernel
theorem dX3_keepLost_5 : decode cX3_keepLost 5 = .ok (.aload_n 0, 1) := by decide +kernel
theorem dX3_keepLost_6 : decode cX3_keepLost 6 = .ok (.getfield 80, 3) := by decide +kernel
theorem dX3_keepLost_9 : decode cX3_keepLost 9 = .ok (.if_icmp .ge 44, 3) := by decide +kernel
theorem dX3_keepLost_12 : decode cX3_keepLost 12 = .ok (.aload_n 0, 1) := by decide +kernel
theorem dX3_keepLost_13 : decode cX3_keepLost 13 = .ok (.iload_n 2, 1) := by decide +kernel
theorem dX3_keepLost_14 : decode cX3_keepLost 14 = .ok (.invokevirtual 132, 3) := by decide +kernel
theorem dX3_keepLost_17 : decode cX3_keepLost 17 = .ok (.ifCond .eq 30, 3) := by decide +kernel
theorem dX3_keepLost_20 : decode cX3_keepLost 20 = .ok (.aload_n 0, 1) := by decide +kernel
theorem dX3_keepLost_21 : decode cX3_keepLost 21 = .ok (.getfield 25, 3) := by decide +kernel
theorem dX3_keepLost_24 : decode cX3_keepLost 24 = .ok (.iload_n 1, 1) := by decide +kernel
theorem dX3_keepLost_25 : decode cX3_keepLost 25 = .ok (.aload_n 0, 1) := by decide +kernel
theorem dX3_keepLost_26 : decode cX3_keepLost 26 = .ok (.getfield 25, 3) := by decide +kernel
theorem dX3_keepLost_29 : decode cX3_keepLost 29 = .ok (.iload_n 2, 1) := by decide +kernel
theorem dX3_keepLost_30 : decode cX3_keepLost 30 = .ok (.iaload, 1) := by decide +kernel
theorem dX3_keepLost_31 : decode cX3_keepLost 31 = .ok (.iastore, 1) := by decide +kernel
theorem dX3_keepLost_32 : decode cX3_keepLost 32 = .ok (.aload_n 0, 1) := by decide +kernel
theorem dX3_keepLost_33 : decode cX3_keepLost 33 = .ok (.getfield 28, 3) := by decide +kernel
theorem dX3_keepLost_36 : decode cX3_keepLost 36 = .ok (.iload_n 1, 1) := by decide +kernel
theorem dX3_keepLost_37 : decode cX3_keepLost 37 = .ok (.aload_n 0, 1) := by decide +kernel
theorem dX3_keepLost_38 : decode cX3_keepLost 38 = .ok (.getfield 28, 3) := by decide +kernel
theorem dX3_keepLost_41 : decode cX3_keepLost 41 = .ok (.iload_n 2, 1) := by decide +kernel
theorem dX3_keepLost_42 : decode cX3_keepLost 42 = .ok (.iaload, 1) := by decide +kernel
theorem dX3_keepLost_43 : decode cX3_keepLost 43 = .ok (.iastore, 1) := by decide +kernel
theorem dX3_keepLost_44 : decode cX3_keepLost 44 = .ok (.iinc 1 1, 3) := by decide +kernel
theorem dX3_keepLost_47 : decode cX3_keepLost 47 = .ok (.iinc 2 1, 3) := by decide +kernel
theorem dX3_keepLost_50 : decode cX3_keepLost 50 = .ok (.goto (-46), 3) := by decide +kernel
theorem dX3_keepLost_53 : decode cX3_keepLost 53 = .ok (.aload_n 0, 1) := by decide +kernel
theorem dX3_keepLost_54 : decode cX3_keepLost 54 = .ok (.iload_n 1, 1) := by decide +kernel
theorem dX3_keepLost_55 : decode cX3_keepLost 55 = .ok (.putfield 80, 3) := by decide +kernel
theorem dX3_keepLost_58 : decode cX3_keepLost 58 = .ok (.return_, 1) := by decide +kernel
theorem dX3_isLost_0 : decode cX3_isLost 0 = .ok (.iconst 0, 1) := by decide +kernel
theorem dX3_isLost_1 : decode cX3_isLost 1 = .ok (.istore_n 2, 1) := by decide +kernel
theorem dX3_isLost_2 : decode cX3_isLost 2 = .ok (.iload_n 2, 1) := by decide +kernel
theorem dX3_isLost_3 : decode cX3_isLost 3 = .ok (.aload_n 0, 1) := by decide +kernel
theorem dX3_isLost_4 : decode cX3_isLost 4 = .ok (.getfield 52, 3) := by decide +kernel
theorem dX3_isLost_7 : decode cX3_isLost 7 = .ok (.if_icmp .ge 40, 3) := by decide +kernel
theorem dX3_isLost_10 : decode cX3_isLost 10 = .ok (.aload_n 0, 1) := by decide +kernel
theorem dX3_isLost_11 : decode cX3_isLost 11 = .ok (.getfield 21, 3) := by decide +kernel
theorem dX3_isLost_14 : decode cX3_isLost 14 = .ok (.iload_n 2, 1) := by decide +kernel
theorem dX3_isLost_15 : decode cX3_isLost 15 = .ok (.baload, 1) := by decide +kernel
theorem dX3_isLost_16 : decode cX3_isLost 16 = .ok (.ifCond .ne 25, 3) := by decide +kernel
theorem dX3_isLost_19 : decode cX3_isLost 19 = .ok (.aload_n 0, 1) := by decide +kernel
theorem dX3_isLost_20 : decode cX3_isLost 20 = .ok (.aload_n 0, 1) := by decide +kernel
theorem dX3_isLost_21 : decode cX3_isLost 21 = .ok (.getfield 25, 3) := by decide +kernel
theorem dX3_isLost_24 : decode cX3_isLost 24 = .ok (.iload_n 1, 1) := by decide +kernel
theorem dX3_isLost_25 : decode cX3_isLost 25 = .ok (.iaload, 1) := by decide +kernel
theorem dX3_isLost_26 : decode cX3_isLost 26 = .ok (.iload_n 2, 1) := by decide +kernel
theorem dX3_isLost_27 : decode cX3_isLost 27 = .ok (.aload_n 0, 1) := by decide +kernel
theorem dX3_isLost_28 : decode cX3_isLost 28 = .ok (.getfield 28, 3) := by decide +kernel
theorem dX3_isLost_31 : decode cX3_isLost 31 = .ok (.iload_n 1, 1) := by decide +kernel
theorem dX3_isLost_32 : decode cX3_isLost 32 = .ok (.iaload, 1) := by decide +kernel
theorem dX3_isLost_33 : decode cX3_isLost 33 = .ok (.invokevirtual 120, 3) := by decide +kernel
theorem dX3_isLost_36 : decode cX3_isLost 36 = .ok (.ifCond .eq 5, 3) := by decide +kernel
theorem dX3_isLost_39 : decode cX3_isLost 39 = .ok (.iconst 0, 1) := by decide +kernel
theorem dX3_isLost_40 : decode cX3_isLost 40 = .ok (.ireturn, 1) := by decide +kernel
theorem dX3_isLost_41 : decode cX3_isLost 41 = .ok (.iinc 2 1, 3) := by decide +kernel
theorem dX3_isLost_44 : decode cX3_isLost 44 = .ok (.goto (-42), 3) := by decide +kernel
theorem dX3_isLost_47 : decode cX3_isLost 47 = .ok (.iconst 1, 1) := by decide +kernel
theorem dX3_isLost_48 : decode cX3_isLost 48 = .ok (.ireturn, 1) := by decide +kernel
theorem dX3_nextToLook_0 : decode cX3_nextToLook 0 = .ok (.aload_n 0, 1) := by decide +kernel
theorem dX3_nextToLook_1 : decode cX3_nextToLook 1 = .ok (.getfield 41, 3) := by decide +kernel
theorem dX3_nextToLook_4 : decode cX3_nextToLook 4 = .ok (.iconst 0, 1) := by decide +kernel
theorem dX3_nextToLook_5 : decode cX3_nextToLook 5 = .ok (.invokestatic 135, 3) := by decide +kernel
theorem dX3_nextToLook_8 : decode cX3_nextToLook 8 = .ok (.iconst 0, 1) := by decide +kernel
theorem dX3_nextToLook_9 : decode cX3_nextToLook 9 = .ok (.istore_n 1, 1) := by decide +kernel
theorem dX3_nextToLook_10 : decode cX3_nextToLook 10 = .ok (.iload_n 1, 1) := by decide +kernel
theorem dX3_nextToLook_11 : decode cX3_nextToLook 11 = .ok (.aload_n 0, 1) := by decide +kernel
theorem dX3_nextToLook_12 : decode cX3_nextToLook 12 = .ok (.getfield 80, 3) := by decide +kernel
theorem dX3_nextToLook_15 : decode cX3_nextToLook 15 = .ok (.if_icmp .ge 43, 3) := by decide +kernel
theorem dX3_nextToLook_18 : decode cX3_nextToLook 18 = .ok (.aload_n 0, 1) := by decide +kernel
theorem dX3_nextToLook_19 : decode cX3_nextToLook 19 = .ok (.iload_n 1, 1) := by decide +kernel
theorem dX3_nextToLook_20 : decode cX3_nextToLook 20 = .ok (.invokevirtual 138, 3) := by decide +kernel
theorem dX3_nextToLook_23 : decode cX3_nextToLook 23 = .ok (.istore_n 2, 1) := by decide +kernel
theorem dX3_nextToLook_24 : decode cX3_nextToLook 24 = .ok (.iconst 0, 1) := by decide +kernel
theorem dX3_nextToLook_25 : decode cX3_nextToLook 25 = .ok (.istore_n 3, 1) := by decide +kernel
theorem dX3_nextToLook_26 : decode cX3_nextToLook 26 = .ok (.iload_n 3, 1) := by decide +kernel
theorem dX3_nextToLook_27 : decode cX3_nextToLook 27 = .ok (.bipush 10, 2) := by decide +kernel
theorem dX3_nextToLook_29 : decode cX3_nextToLook 29 = .ok (.if_icmp .ge 23, 3) := by decide +kernel
theorem dX3_nextToLook_32 : decode cX3_nextToLook 32 = .ok (.aload_n 0, 1) := by decide +kernel
theorem dX3_nextToLook_33 : decode cX3_nextToLook 33 = .ok (.getfield 41, 3) := by decide +kernel
theorem dX3_nextToLook_36 : decode cX3_nextToLook 36 = .ok (.iload_n 3, 1) := by decide +kernel
theorem dX3_nextToLook_37 : decode cX3_nextToLook 37 = .ok (.dup2, 1) := by decide +kernel
theorem dX3_nextToLook_38 : decode cX3_nextToLook 38 = .ok (.iaload, 1) := by decide +kernel
theorem dX3_nextToLook_39 : decode cX3_nextToLook 39 = .ok (.iload_n 2, 1) := by decide +kernel
theorem dX3_nextToLook_40 : decode cX3_nextToLook 40 = .ok (.iload_n 3, 1) := by decide +kernel
theorem dX3_nextToLook_41 : decode cX3_nextToLook 41 = .ok (.ishr, 1) := by decide +kernel
theorem dX3_nextToLook_42 : decode cX3_nextToLook 42 = .ok (.iconst 1, 1) := by decide +kernel
theorem dX3_nextToLook_43 : decode cX3_nextToLook 43 = .ok (.iand, 1) := by decide +kernel
theorem dX3_nextToLook_44 : decode cX3_nextToLook 44 = .ok (.iadd, 1) := by decide +kernel
theorem dX3_nextToLook_45 : decode cX3_nextToLook 45 = .ok (.iastore, 1) := by decide +kernel
theorem dX3_nextToLook_46 : decode cX3_nextToLook 46 = .ok (.iinc 3 1, 3) := by decide +kernel
theorem dX3_nextToLook_49 : decode cX3_nextToLook 49 = .ok (.goto (-23), 3) := by decide +kernel
theorem dX3_nextToLook_52 : decode cX3_nextToLook 52 = .ok (.iinc 1 1, 3) := by decide +kernel
theorem dX3_nextToLook_55 : decode cX3_nextToLook 55 = .ok (.goto (-45), 3) := by decide +kernel
theorem dX3_nextToLook_58 : decode cX3_nextToLook 58 = .ok (.iconst (-1), 1) := by decide +kernel
theorem dX3_nextToLook_59 : decode cX3_nextToLook 59 = .ok (.istore_n 1, 1) := by decide +kernel
theorem dX3_nextToLook_60 : decode cX3_nextToLook 60 = .ok (.iconst 0, 1) := by decide +kernel
theorem dX3_nextToLook_61 : decode cX3_nextToLook 61 = .ok (.istore_n 2, 1) := by decide +kernel
theorem dX3_nextToLook_62 : decode cX3_nextToLook 62 = .ok (.iload_n 2, 1) := by decide +kernel
theorem dX3_nextToLook_63 : decode cX3_nextToLook 63 = .ok (.bipush 10, 2) := by decide +kernel
theorem dX3_nextToLook_65 : decode cX3_nextToLook 65 = .ok (.if_icmp .ge 35, 3) := by decide +kernel
theorem dX3_nextToLook_68 : decode cX3_nextToLook 68 = .ok (.aload_n 0, 1) := by decide +kernel
theorem dX3_nextToLook_69 : decode cX3_nextToLook 69 = .ok (.getfield 41, 3) := by decide +kernel
theorem dX3_nextToLook_72 : decode cX3_nextToLook 72 = .ok (.iload_n 2, 1) := by decide +kernel
theorem dX3_nextToLook_73 : decode cX3_nextToLook 73 = .ok (.iaload, 1) := by decide +kernel
theorem dX3_nextToLook_74 : decode cX3_nextToLook 74 = .ok (.iload_n 1, 1) := by decide +kernel
theorem dX3_nextToLook_75 : decode cX3_nextToLook 75 = .ok (.iconst (-1), 1) := by decide +kernel
theorem dX3_nextToLook_76 : decode cX3_nextToLook 76 = .ok (.if_icmp .ne 7, 3) := by decide +kernel
theorem dX3_nextToLook_79 : decode cX3_nextToLook 79 = .ok (.iconst 0, 1) := by decide +kernel
theorem dX3_nextToLook_80 : decode cX3_nextToLook 80 = .ok (.goto 9, 3) := by decide +kernel
theorem dX3_nextToLook_83 : decode cX3_nextToLook 83 = .ok (.aload_n 0, 1) := by decide +kernel
theorem dX3_nextToLook_84 : decode cX3_nextToLook 84 = .ok (.getfield 41, 3) := by decide +kernel
theorem dX3_nextToLook_87 : decode cX3_nextToLook 87 = .ok (.iload_n 1, 1) := by decide +kernel
theorem dX3_nextToLook_88 : decode cX3_nextToLook 88 = .ok (.iaload, 1) := by decide +kernel
theorem dX3_nextToLook_89 : decode cX3_nextToLook 89 = .ok (.if_icmp .le 5, 3) := by decide +kernel
theorem dX3_nextToLook_92 : decode cX3_nextToLook 92 = .ok (.iload_n 2, 1) := by decide +kernel
theorem dX3_nextToLook_93 : decode cX3_nextToLook 93 = .ok (.istore_n 1, 1) := by decide +kernel
theorem dX3_nextToLook_94 : decode cX3_nextToLook 94 = .ok (.iinc 2 1, 3) := by decide +kernel
theorem dX3_nextToLook_97 : decode cX3_nextToLook 97 = .ok (.goto (-35), 3) := by decide +kernel
theorem dX3_nextToLook_100 : decode cX3_nextToLook 100 = .ok (.iload_n 1, 1) := by decide +kernel
theorem dX3_nextToLook_101 : decode cX3_nextToLook 101 = .ok (.ireturn, 1) := by decide +kernel
theorem dX3_museumsWithLike_0 : decode cX3_museumsWithLike 0 = .ok (.iconst 0, 1) := by decide +kernel
theorem dX3_museumsWithLike_1 : decode cX3_museumsWithLike 1 = .ok (.istore_n 2, 1) := by decide +kernel
theorem dX3_museumsWithLike_2 : decode cX3_museumsWithLike 2 = .ok (.iconst 0, 1) := by decide +kernel
theorem dX3_museumsWithLike_3 : decode cX3_museumsWithLike 3 = .ok (.istore_n 3, 1) := by decide +kernel
theorem dX3_museumsWithLike_4 : decode cX3_museumsWithLike 4 = .ok (.iload_n 3, 1) := by decide +kernel
theorem dX3_museumsWithLike_5 : decode cX3_museumsWithLike 5 = .ok (.aload_n 0, 1) := by decide +kernel
theorem dX3_museumsWithLike_6 : decode cX3_museumsWithLike 6 = .ok (.getfield 52, 3) := by decide +kernel
theorem dX3_museumsWithLike_9 : decode cX3_museumsWithLike 9 = .ok (.if_icmp .ge 40, 3) := by decide +kernel
theorem dX3_museumsWithLike_12 : decode cX3_museumsWithLike 12 = .ok (.aload_n 0, 1) := by decide +kernel
theorem dX3_museumsWithLike_13 : decode cX3_museumsWithLike 13 = .ok (.aload_n 0, 1) := by decide +kernel
theorem dX3_museumsWithLike_14 : decode cX3_museumsWithLike 14 = .ok (.getfield 25, 3) := by decide +kernel
theorem dX3_museumsWithLike_17 : decode cX3_museumsWithLike 17 = .ok (.iload_n 1, 1) := by decide +kernel
theorem dX3_museumsWithLike_18 : decode cX3_museumsWithLike 18 = .ok (.iaload, 1) := by decide +kernel
theorem dX3_museumsWithLike_19 : decode cX3_museumsWithLike 19 = .ok (.iload_n 3, 1) := by decide +kernel
theorem dX3_museumsWithLike_20 : decode cX3_museumsWithLike 20 = .ok (.aload_n 0, 1) := by decide +kernel
theorem dX3_museumsWithLike_21 : decode cX3_museumsWithLike 21 = .ok (.getfield 28, 3) := by decide +kernel
theorem dX3_museumsWithLike_24 : decode cX3_museumsWithLike 24 = .ok (.iload_n 1, 1) := by decide +kernel
theorem dX3_museumsWithLike_25 : decode cX3_museumsWithLike 25 = .ok (.iaload, 1) := by decide +kernel
theorem dX3_museumsWithLike_26 : decode cX3_museumsWithLike 26 = .ok (.invokevirtual 120, 3) := by decide +kernel
theorem dX3_museumsWithLike_29 : decode cX3_museumsWithLike 29 = .ok (.ifCond .eq 14, 3) := by decide +kernel
theorem dX3_museumsWithLike_32 : decode cX3_museumsWithLike 32 = .ok (.iload_n 2, 1) := by decide +kernel
theorem dX3_museumsWithLike_33 : decode cX3_museumsWithLike 33 = .ok (.iconst 1, 1) := by decide +kernel
theorem dX3_museumsWithLike_34 : decode cX3_museumsWithLike 34 = .ok (.aload_n 0, 1) := by decide +kernel
theorem dX3_museumsWithLike_35 : decode cX3_museumsWithLike 35 = .ok (.getfield 11, 3) := by decide +kernel
theorem dX3_museumsWithLike_38 : decode cX3_museumsWithLike 38 = .ok (.iload_n 3, 1) := by decide +kernel
theorem dX3_museumsWithLike_39 : decode cX3_museumsWithLike 39 = .ok (.iaload, 1) := by decide +kernel
theorem dX3_museumsWithLike_40 : decode cX3_museumsWithLike 40 = .ok (.ishl, 1) := by decide +kernel
theorem dX3_museumsWithLike_41 : decode cX3_museumsWithLike 41 = .ok (.ior, 1) := by decide +kernel
theorem dX3_museumsWithLike_42 : decode cX3_museumsWithLike 42 = .ok (.istore_n 2, 1) := by decide +kernel
theorem dX3_museumsWithLike_43 : decode cX3_museumsWithLike 43 = .ok (.iinc 3 1, 3) := by decide +kernel
theorem dX3_museumsWithLike_46 : decode cX3_museumsWithLike 46 = .ok (.goto (-42), 3) := by decide +kernel
theorem dX3_museumsWithLike_49 : decode cX3_museumsWithLike 49 = .ok (.iload_n 2, 1) := by decide +kernel
theorem dX3_museumsWithLike_50 : decode cX3_museumsWithLike 50 = .ok (.ireturn, 1) := by decide +kernel
theorem dX4_init_0 : decode cX4_init 0 = .ok (.aload_n 0, 1) := by decide +kernel
theorem dX4_init_1 : decode cX4_init 1 = .ok (.invokespecial 3, 3) := by decide +kernel
theorem dX4_init_4 : decode cX4_init 4 = .ok (.aload_n 0, 1) := by decide +kernel
theorem dX4_init_5 : decode cX4_init 5 = .ok (.bipush 8, 2) := by decide +kernel
theorem dX4_init_7 : decode cX4_init 7 = .ok (.putfield 9, 3) := by decide +kernel
theorem dX4_init_10 : decode cX4_init 10 = .ok (.aload_n 0, 1) := by decide +kernel
theorem dX4_init_11 : decode cX4_init 11 = .ok (.bipush 8, 2) := by decide +kernel
theorem dX4_init_13 : decode cX4_init 13 = .ok (.putfield 15, 3) := by decide +kernel
theorem dX4_init_16 : decode cX4_init 16 = .ok (.aload_n 0, 1) := by decide +kernel
theorem dX4_init_17 : decode cX4_init 17 = .ok (.bipush 30, 2) := by decide +kernel
theorem dX4_init_19 : decode cX4_init 19 = .ok (.newarray .int, 2) := by decide +kernel
theorem dX4_init_21 : decode cX4_init 21 = .ok (.putfield 18, 3) := by decide +kernel
theorem dX4_init_24 : decode cX4_init 24 = .ok (.aload_n 0, 1) := by decide +kernel
theorem dX4_init_25 : decode cX4_init 25 = .ok (.bipush 30, 2) := by decide +kernel
theorem dX4_init_27 : decode cX4_init 27 = .ok (.newarray .int, 2) := by decide +kernel
theorem dX4_init_29 : decode cX4_init 29 = .ok (.putfield 22, 3) := by decide +kernel
theorem dX4_init_32 : decode cX4_init 32 = .ok (.aload_n 0, 1) := by decide +kernel
theorem dX4_init_33 : decode cX4_init 33 = .ok (.bipush 30, 2) := by decide +kernel
theorem dX4_init_35 : decode cX4_init 35 = .ok (.newarray .int, 2) := by decide +kernel
theorem dX4_init_37 : decode cX4_init 37 = .ok (.putfield 25, 3) := by decide +kernel
theorem dX4_init_40 : decode cX4_init 40 = .ok (.aload_n 0, 1) := by decide +kernel
theorem dX4_init_41 : decode cX4_init 41 = .ok (.sipush 200, 3) := by decide +kernel
theorem dX4_init_44 : decode cX4_init 44 = .ok (.newarray .int, 2) := by decide +kernel
theorem dX4_init_46 : decode cX4_init 46 = .ok (.putfield 28, 3) := by decide +kernel
theorem dX4_init_49 : decode cX4_init 49 = .ok (.aload_n 0, 1) := by decide +kernel
theorem dX4_init_50 : decode cX4_init 50 = .ok (.sipush 200, 3) := by decide +kernel
theorem dX4_init_53 : decode cX4_init 53 = .ok (.newarray .int, 2) := by decide +kernel
theorem dX4_init_55 : decode cX4_init 55 = .ok (.putfield 31, 3) := by decide +kernel
theorem dX4_init_58 : decode cX4_init 58 = .ok (.aload_n 0, 1) := by decide +kernel
theorem dX4_init_59 : decode cX4_init 59 = .ok (.sipush 200, 3) := by decide +kernel
theorem dX4_init_62 : decode cX4_init 62 = .ok (.newarray .int, 2) := by decide +kernel
theorem dX4_init_64 : decode cX4_init 64 = .ok (.putfield 34, 3) := by decide +kernel
theorem dX4_init_67 : decode cX4_init 67 = .ok (.aload_n 0, 1) := by decide +kernel
theorem dX4_init_68 : decode cX4_init 68 = .ok (.sipush 200, 3) := by decide +kernel
theorem dX4_init_71 : decode cX4_init 71 = .ok (.newarray .int, 2) := by decide +kernel
theorem dX4_init_73 : decode cX4_init 73 = .ok (.putfield 37, 3) := by decide +kernel
theorem dX4_init_76 : decode cX4_init 76 = .ok (.return_, 1) := by decide +kernel
theorem dX4_resize_0 : decode cX4_resize 0 = .ok (.aload_n 0, 1) := by decide +kernel
theorem dX4_resize_1 : decode cX4_resize 1 = .ok (.iload_n 1, 1) := by decide +kernel
theorem dX4_resize_2 : decode cX4_resize 2 = .ok (.putfield 9, 3) := by decide +kernel
theorem dX4_resize_5 : decode cX4_resize 5 = .ok (.aload_n 0, 1) := by decide +kernel
theorem dX4_resize_6 : decode cX4_resize 6 = .ok (.iload_n 2, 1) := by decide +kernel
theorem dX4_resize_7 : decode cX4_resize 7 = .ok (.putfield 15, 3) := by decide +kernel
theorem dX4_resize_10 : decode cX4_resize 10 = .ok (.return_, 1) := by decide +kernel
theorem dX4_cells_0 : decode cX4_cells 0 = .ok (.aload_n 0, 1) := by decide +kernel
theorem dX4_cells_1 : decode cX4_cells 1 = .ok (.getfield 9, 3) := by decide +kernel
theorem dX4_cells_4 : decode cX4_cells 4 = .ok (.aload_n 0, 1) := by decide +kernel
theorem dX4_cells_5 : decode cX4_cells 5 = .ok (.getfield 15, 3) := by decide +kernel
theorem dX4_cells_8 : decode cX4_cells 8 = .ok (.imul, 1) := by decide +kernel
theorem dX4_cells_9 : decode cX4_cells 9 = .ok (.ireturn, 1) := by decide +kernel
theorem dX4_isCell_0 : decode cX4_isCell 0 = .ok (.iconst 0, 1) := by decide +kernel
theorem dX4_isCell_1 : decode cX4_isCell 1 = .ok (.iload_n 1, 1) := by decide +kernel
theorem dX4_isCell_2 : decode cX4_isCell 2 = .ok (.if_icmp .gt 15, 3) := by decide +kernel
theorem dX4_isCell_5 : decode cX4_isCell 5 = .ok (.iload_n 1, 1) := by decide +kernel
theorem dX4_isCell_6 : decode cX4_isCell 6 = .ok (.aload_n 0, 1) := by decide +kernel
theorem dX4_isCell_7 : decode cX4_isCell 7 = .ok (.invokevirtual 40, 3) := by decide +kernel
theorem dX4_isCell_10 : decode cX4_isCell 10 = .ok (.if_icmp .ge 7, 3) := by decide +kernel
theorem dX4_isCell_13 : decode cX4_isCell 13 = .ok (.iconst 1, 1) := by decide +kernel
theorem dX4_isCell_14 : decode cX4_isCell 14 = .ok (.goto 4, 3) := by decide +kernel
theorem dX4_isCell_17 : decode cX4_isCell 17 = .ok (.iconst 0, 1) := by decide +kernel
theorem dX4_isCell_18 : decode cX4_isCell 18 = .ok (.ireturn, 1) := by decide +kernel
theorem dX4_column_0 : decode cX4_column 0 = .ok (.aload_n 0, 1) := by decide +kernel
theorem dX4_column_1 : decode cX4_column 1 = .ok (.getfield 9, 3) := by decide +kernel
theorem dX4_column_4 : decode cX4_column 4 = .ok (.ifCond .le 12, 3) := by decide +kernel
theorem dX4_column_7 : decode cX4_column 7 = .ok (.iload_n 1, 1) := by decide +kernel
theorem dX4_column_8 : decode cX4_column 8 = .ok (.aload_n 0, 1) := by decide +kernel
theorem dX4_column_9 : decode cX4_column 9 = .ok (.getfield 9, 3) := by decide +kernel
theorem dX4_column_12 : decode cX4_column 12 = .ok (.irem, 1) := by decide +kernel
theorem dX4_column_13 : decode cX4_column 13 = .ok (.goto 4, 3) := by decide +kernel
theorem dX4_column_16 : decode cX4_column 16 = .ok (.iconst 0, 1) := by decide +kernel
theorem dX4_column_17 : decode cX4_column 17 = .ok (.ireturn, 1) := by decide +kernel
theorem dX4_row_0 : decode cX4_row 0 = .ok (.aload_n 0, 1) := by decide +kernel
theorem dX4_row_1 : decode cX4_row 1 = .ok (.getfield 9, 3) := by decide +kernel
theorem dX4_row_4 : decode cX4_row 4 = .ok (.ifCond .le 12, 3) := by decide +kernel
theorem dX4_row_7 : decode cX4_row 7 = .ok (.iload_n 1, 1) := by decide +kernel
theorem dX4_row_8 : decode cX4_row 8 = .ok (.aload_n 0, 1) := by decide +kernel
theorem dX4_row_9 : decode cX4_row 9 = .ok (.getfield 9, 3) := by decide +kernel
theorem dX4_row_12 : decode cX4_row 12 = .ok (.idiv, 1) := by decide +kernel
theorem dX4_row_13 : decode cX4_row 13 = .ok (.goto 4, 3) := by decide +kernel
theorem dX4_row_16 : decode cX4_row 16 = .ok (.iconst 0, 1) := by decide +kernel
theorem dX4_row_17 : decode cX4_row 17 = .ok (.ireturn, 1) := by decide +kernel
theorem dX4_isArea_0 : decode cX4_isArea 0 = .ok (.aload_n 0, 1) := by decide +kernel
theorem dX4_isArea_1 : decode cX4_isArea 1 = .ok (.iload_n 1, 1) := by decide +kernel
theorem dX4_isArea_2 : decode cX4_isArea 2 = .ok (.invokevirtual 44, 3) := by decide +kernel
theorem dX4_isArea_5 : decode cX4_isArea 5 = .ok (.ifCond .eq 41, 3) := by decide +kernel
theorem dX4_isArea_8 : decode cX4_isArea 8 = .ok (.aload_n 0, 1) := by decide +kernel
theorem dX4_isArea_9 : decode cX4_isArea 9 = .ok (.iload_n 2, 1) := by decide +kernel
theorem dX4_isArea_10 : decode cX4_isArea 10 = .ok (.invokevirtual 44, 3) := by decide +kernel
theorem dX4_isArea_13 : decode cX4_isArea 13 = .ok (.ifCond .eq 33, 3) := by decide +kernel
theorem dX4_isArea_16 : decode cX4_isArea 16 = .ok (.aload_n 0, 1) := by decide +kernel
theorem dX4_isArea_17 : decode cX4_isArea 17 = .ok (.iload_n 1, 1) := by decide +kernel
theorem dX4_isArea_18 : decode cX4_isArea 18 = .ok (.invokevirtual 48, 3) := by decide +kernel
theorem dX4_isArea_21 : decode cX4_isArea 21 = .ok (.aload_n 0, 1) := by decide +kernel
theorem dX4_isArea_22 : decode cX4_isArea 22 = .ok (.iload_n 2, 1) := by decide +kernel
theorem dX4_isArea_23 : decode cX4_isArea 23 = .ok (.invokevirtual 48, 3) := by decide +kernel
theorem dX4_isArea_26 : decode cX4_isArea 26 = .ok (.if_icmp .gt 20, 3) := by decide +kernel
theorem dX4_isArea_29 : decode cX4_isArea 29 = .ok (.aload_n 0, 1) := by decide +kernel
theorem dX4_isArea_30 : decode cX4_isArea 30 = .ok (.iload_n 1, 1) := by decide +kernel
theorem dX4_isArea_31 : decode cX4_isArea 31 = .ok (.invokevirtual 52, 3) := by decide +kernel
theorem dX4_isArea_34 : decode cX4_isArea 34 = .ok (.aload_n 0, 1) := by decide +kernel
theorem dX4_isArea_35 : decode cX4_isArea 35 = .ok (.iload_n 2, 1) := by decide +kernel
theorem dX4_isArea_36 : decode cX4_isArea 36 = .ok (.invokevirtual 52, 3) := by decide +kernel
theorem dX4_isArea_39 : decode cX4_isArea 39 = .ok (.if_icmp .gt 7, 3) := by decide +kernel
theorem dX4_isArea_42 : decode cX4_isArea 42 = .ok (.iconst 1, 1) := by decide +kernel
theorem dX4_isArea_43 : decode cX4_isArea 43 = .ok (.goto 4, 3) := by decide +kernel
theorem dX4_isArea_46 : decode cX4_isArea 46 = .ok (.iconst 0, 1) := by decide +kernel
theorem dX4_isArea_47 : decode cX4_isArea 47 = .ok (.ireturn, 1) := by decide +kernel
theorem dX4_meet_0 : decode cX4_meet 0 = .ok (.aload_n 0, 1) := by decide +kernel
theorem dX4_meet_1 : decode cX4_meet 1 = .ok (.iload_n 1, 1) := by decide +kernel
theorem dX4_meet_2 : decode cX4_meet 2 = .ok (.invokevirtual 48, 3) := by decide +kernel
theorem dX4_meet_5 : decode cX4_meet 5 = .ok (.aload_n 0, 1) := by decide +kernel
theorem dX4_meet_6 : decode cX4_meet 6 = .ok (.iload 4, 2) := by decide +kernel
theorem dX4_meet_8 : decode cX4_meet 8 = .ok (.invokevirtual 48, 3) := by decide +kernel
theorem dX4_meet_11 : decode cX4_meet 11 = .ok (.if_icmp .gt 47, 3) := by decide +kernel
theorem dX4_meet_14 : decode cX4_meet 14 = .ok (.aload_n 0, 1) := by decide +kernel
theorem dX4_meet_15 : decode cX4_meet 15 = .ok (.iload_n 3, 1) := by decide +kernel
theorem dX4_meet_16 : decode cX4_meet 16 = .ok (.invokevirtual 48, 3) := by decide +kernel
theorem dX4_meet_19 : decode cX4_meet 19 = .ok (.aload_n 0, 1) := by decide +kernel
theorem dX4_meet_20 : decode cX4_meet 20 = .ok (.iload_n 2, 1) := by decide +kernel
theorem dX4_meet_21 : decode cX4_meet 21 = .ok (.invokevirtual 48, 3) := by decide +kernel
theorem dX4_meet_24 : decode cX4_meet 24 = .ok (.if_icmp .gt 34, 3) := by decide +kernel
theorem dX4_meet_27 : decode cX4_meet 27 = .ok (.aload_n 0, 1) := by decide +kernel
theorem dX4_meet_28 : decode cX4_meet 28 = .ok (.iload_n 1, 1) := by decide +kernel
theorem dX4_meet_29 : decode cX4_meet 29 = .ok (.invokevirtual 52, 3) := by decide +kernel
theorem dX4_meet_32 : decode cX4_meet 32 = .ok (.aload_n 0, 1) := by decide +kernel
theorem dX4_meet_33 : decode cX4_meet 33 = .ok (.iload 4, 2) := by decide +kernel
theorem dX4_meet_35 : decode cX4_meet 35 = .ok (.invokevirtual 52, 3) := by decide +kernel
theorem dX4_meet_38 : decode cX4_meet 38 = .ok (.if_icmp .gt 20, 3) := by decide +kernel
theorem dX4_meet_41 : decode cX4_meet 41 = .ok (.aload_n 0, 1) := by decide +kernel
theorem dX4_meet_42 : decode cX4_meet 42 = .ok (.iload_n 3, 1) := by decide +kernel
theorem dX4_meet_43 : decode cX4_meet 43 = .ok (.invokevirtual 52, 3) := by decide +kernel
theorem dX4_meet_46 : decode cX4_meet 46 = .ok (.aload_n 0, 1) := by decide +kernel
theorem dX4_meet_47 : decode cX4_meet 47 = .ok (.iload_n 2, 1) := by decide +kernel
theorem dX4_meet_48 : decode cX4_meet 48 = .ok (.invokevirtual 52, 3) := by decide +kernel
theorem dX4_meet_51 : decode cX4_meet 51 = .ok (.if_icmp .gt 7, 3) := by decide +kernel
theorem dX4_meet_54 : decode cX4_meet 54 = .ok (.iconst 1, 1) := by decide +kernel
theorem dX4_meet_55 : decode cX4_meet 55 = .ok (.goto 4, 3) := by decide +kernel
theorem dX4_meet_58 : decode cX4_meet 58 = .ok (.iconst 0, 1) := by decide +kernel
theorem dX4_meet_59 : decode cX4_meet 59 = .ok (.ireturn, 1) := by decide +kernel
theorem dX4_isTaken_0 : decode cX4_isTaken 0 = .ok (.aload_n 0, 1) := by decide +kernel
theorem dX4_isTaken_1 : decode cX4_isTaken 1 = .ok (.iload_n 1, 1) := by decide +kernel
theorem dX4_isTaken_2 : decode cX4_isTaken 2 = .ok (.iload_n 2, 1) := by decide +kernel
theorem dX4_isTaken_3 : decode cX4_isTaken 3 = .ok (.invokevirtual 55, 3) := by decide +kernel
theorem dX4_isTaken_6 : decode cX4_isTaken 6 = .ok (.ifCond .eq 7, 3) := by decide +kernel
theorem dX4_isTaken_9 : decode cX4_isTaken 9 = .ok (.iconst 1, 1) := by decide +kernel
theorem dX4_isTaken_10 : decode cX4_isTaken 10 = .ok (.goto 4, 3) := by decide +kernel
theorem dX4_isTaken_13 : decode cX4_isTaken 13 = .ok (.iconst 0, 1) := by decide +kernel
theorem dX4_isTaken_14 : decode cX4_isTaken 14 = .ok (.ireturn, 1) := by decide +kernel
theorem dX4_placesIn_0 : decode cX4_placesIn 0 = .ok (.iconst 0, 1) := by decide +kernel
theorem dX4_placesIn_1 : decode cX4_placesIn 1 = .ok (.istore_n 3, 1) := by decide +kernel
theorem dX4_placesIn_2 : decode cX4_placesIn 2 = .ok (.iconst 0, 1) := by decide +kernel
theorem dX4_placesIn_3 : decode cX4_placesIn 3 = .ok (.istore 4, 2) := by decide +kernel
theorem dX4_placesIn_5 : decode cX4_placesIn 5 = .ok (.iload 4, 2) := by decide +kernel
theorem dX4_placesIn_7 : decode cX4_placesIn 7 = .ok (.aload_n 0, 1) := by decide +kernel
theorem dX4_placesIn_8 : decode cX4_placesIn 8 = .ok (.getfield 59, 3) := by decide +kernel
theorem dX4_placesIn_11 : decode cX4_placesIn 11 = .ok (.if_icmp .ge 39, 3) := by decide +kernel
theorem dX4_placesIn_14 : decode cX4_placesIn 14 = .ok (.aload_n 0, 1) := by decide +kernel
theorem dX4_placesIn_15 : decode cX4_placesIn 15 = .ok (.iload_n 1, 1) := by decide +kernel
theorem dX4_placesIn_16 : decode cX4_placesIn 16 = .ok (.iload_n 2, 1) := by decide +kernel
theorem dX4_placesIn_17 : decode cX4_placesIn 17 = .ok (.aload_n 0, 1) := by decide +kernel
theorem dX4_placesIn_18 : decode cX4_placesIn 18 = .ok (.getfield 22, 3) := by decide +kernel
theorem dX4_placesIn_21 : decode cX4_placesIn 21 = .ok (.iload 4, 2) := by decide +kernel
theorem dX4_placesIn_23 : decode cX4_placesIn 23 = .ok (.iaload, 1) := by decide +kernel
theorem dX4_placesIn_24 : decode cX4_placesIn 24 = .ok (.aload_n 0, 1) := by decide +kernel
theorem dX4_placesIn_25 : decode cX4_placesIn 25 = .ok (.getfield 25, 3) := by decide +kernel
theorem dX4_placesIn_28 : decode cX4_placesIn 28 = .ok (.iload 4, 2) := by decide +kernel
theorem dX4_placesIn_30 : decode cX4_placesIn 30 = .ok (.iaload, 1) := by decide +kernel
theorem dX4_placesIn_31 : decode cX4_placesIn 31 = .ok (.invokevirtual 62, 3) := by decide +kernel
theorem dX4_placesIn_34 : decode cX4_placesIn 34 = .ok (.ifCond .eq 10, 3) := by decide +kernel
theorem dX4_placesIn_37 : decode cX4_placesIn 37 = .ok (.iload_n 3, 1) := by decide +kernel
theorem dX4_placesIn_38 : decode cX4_placesIn 38 = .ok (.iconst 1, 1) := by decide +kernel
theorem dX4_placesIn_39 : decode cX4_placesIn 39 = .ok (.iload 4, 2) := by decide +kernel
theorem dX4_placesIn_41 : decode cX4_placesIn 41 = .ok (.ishl, 1) := by decide +kernel
theorem dX4_placesIn_42 : decode cX4_placesIn 42 = .ok (.ior, 1) := by decide +kernel
