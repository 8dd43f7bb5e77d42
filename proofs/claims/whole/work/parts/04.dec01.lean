theorem dX4_placesIn_43 : decode cX4_placesIn 43 = .ok (.istore_n 3, 1) := by decide +kernel
theorem dX4_placesIn_44 : decode cX4_placesIn 44 = .ok (.iinc 4 1, 3) := by decide +kernel
theorem dX4_placesIn_47 : decode cX4_placesIn 47 = .ok (.goto (-42), 3) := by decide +kernel
theorem dX4_placesIn_50 : decode cX4_placesIn 50 = .ok (.iload_n 3, 1) := by decide +kernel
theorem dX4_placesIn_51 : decode cX4_placesIn 51 = .ok (.ireturn, 1) := by decide +kernel
theorem dX4_owner_0 : decode cX4_owner 0 = .ok (.aload_n 0, 1) := by decide +kernel
theorem dX4_owner_1 : decode cX4_owner 1 = .ok (.iload_n 1, 1) := by decide +kernel
theorem dX4_owner_2 : decode cX4_owner 2 = .ok (.iload_n 1, 1) := by decide +kernel
theorem dX4_owner_3 : decode cX4_owner 3 = .ok (.invokevirtual 55, 3) := by decide +kernel
theorem dX4_owner_6 : decode cX4_owner 6 = .ok (.istore_n 2, 1) := by decide +kernel
theorem dX4_owner_7 : decode cX4_owner 7 = .ok (.iload_n 2, 1) := by decide +kernel
theorem dX4_owner_8 : decode cX4_owner 8 = .ok (.ifCond .ne 7, 3) := by decide +kernel
theorem dX4_owner_11 : decode cX4_owner 11 = .ok (.iconst (-1), 1) := by decide +kernel
theorem dX4_owner_12 : decode cX4_owner 12 = .ok (.goto 7, 3) := by decide +kernel
theorem dX4_owner_15 : decode cX4_owner 15 = .ok (.iload_n 2, 1) := by decide +kernel
theorem dX4_owner_16 : decode cX4_owner 16 = .ok (.invokestatic 66, 3) := by decide +kernel
theorem dX4_owner_19 : decode cX4_owner 19 = .ok (.ireturn, 1) := by decide +kernel
theorem dX4_add_0 : decode cX4_add 0 = .ok (.aload_n 0, 1) := by decide +kernel
theorem dX4_add_1 : decode cX4_add 1 = .ok (.getfield 18, 3) := by decide +kernel
theorem dX4_add_4 : decode cX4_add 4 = .ok (.aload_n 0, 1) := by decide +kernel
theorem dX4_add_5 : decode cX4_add 5 = .ok (.getfield 59, 3) := by decide +kernel
theorem dX4_add_8 : decode cX4_add 8 = .ok (.iload_n 1, 1) := by decide +kernel
theorem dX4_add_9 : decode cX4_add 9 = .ok (.iastore, 1) := by decide +kernel
theorem dX4_add_10 : decode cX4_add 10 = .ok (.aload_n 0, 1) := by decide +kernel
theorem dX4_add_11 : decode cX4_add 11 = .ok (.getfield 22, 3) := by decide +kernel
theorem dX4_add_14 : decode cX4_add 14 = .ok (.aload_n 0, 1) := by decide +kernel
theorem dX4_add_15 : decode cX4_add 15 = .ok (.getfield 59, 3) := by decide +kernel
theorem dX4_add_18 : decode cX4_add 18 = .ok (.iload_n 2, 1) := by decide +kernel
theorem dX4_add_19 : decode cX4_add 19 = .ok (.iastore, 1) := by decide +kernel
theorem dX4_add_20 : decode cX4_add 20 = .ok (.aload_n 0, 1) := by decide +kernel
theorem dX4_add_21 : decode cX4_add 21 = .ok (.getfield 25, 3) := by decide +kernel
theorem dX4_add_24 : decode cX4_add 24 = .ok (.aload_n 0, 1) := by decide +kernel
theorem dX4_add_25 : decode cX4_add 25 = .ok (.getfield 59, 3) := by decide +kernel
theorem dX4_add_28 : decode cX4_add 28 = .ok (.iload_n 3, 1) := by decide +kernel
theorem dX4_add_29 : decode cX4_add 29 = .ok (.iastore, 1) := by decide +kernel
theorem dX4_add_30 : decode cX4_add 30 = .ok (.aload_n 0, 1) := by decide +kernel
theorem dX4_add_31 : decode cX4_add 31 = .ok (.dup, 1) := by decide +kernel
theorem dX4_add_32 : decode cX4_add 32 = .ok (.getfield 59, 3) := by decide +kernel
theorem dX4_add_35 : decode cX4_add 35 = .ok (.iconst 1, 1) := by decide +kernel
theorem dX4_add_36 : decode cX4_add 36 = .ok (.iadd, 1) := by decide +kernel
theorem dX4_add_37 : decode cX4_add 37 = .ok (.putfield 59, 3) := by decide +kernel
theorem dX4_add_40 : decode cX4_add 40 = .ok (.aload_n 0, 1) := by decide +kernel
theorem dX4_add_41 : decode cX4_add 41 = .ok (.getfield 59, 3) := by decide +kernel
theorem dX4_add_44 : decode cX4_add 44 = .ok (.iconst 1, 1) := by decide +kernel
theorem dX4_add_45 : decode cX4_add 45 = .ok (.isub, 1) := by decide +kernel
theorem dX4_add_46 : decode cX4_add 46 = .ok (.ireturn, 1) := by decide +kernel
theorem dX4_tell_0 : decode cX4_tell 0 = .ok (.aload_n 0, 1) := by decide +kernel
theorem dX4_tell_1 : decode cX4_tell 1 = .ok (.getfield 28, 3) := by decide +kernel
theorem dX4_tell_4 : decode cX4_tell 4 = .ok (.aload_n 0, 1) := by decide +kernel
theorem dX4_tell_5 : decode cX4_tell 5 = .ok (.getfield 71, 3) := by decide +kernel
theorem dX4_tell_8 : decode cX4_tell 8 = .ok (.iload_n 1, 1) := by decide +kernel
theorem dX4_tell_9 : decode cX4_tell 9 = .ok (.iload_n 2, 1) := by decide +kernel
theorem dX4_tell_10 : decode cX4_tell 10 = .ok (.invokestatic 74, 3) := by decide +kernel
theorem dX4_tell_13 : decode cX4_tell 13 = .ok (.iastore, 1) := by decide +kernel
theorem dX4_tell_14 : decode cX4_tell 14 = .ok (.aload_n 0, 1) := by decide +kernel
theorem dX4_tell_15 : decode cX4_tell 15 = .ok (.getfield 31, 3) := by decide +kernel
theorem dX4_tell_18 : decode cX4_tell 18 = .ok (.aload_n 0, 1) := by decide +kernel
theorem dX4_tell_19 : decode cX4_tell 19 = .ok (.getfield 71, 3) := by decide +kernel
theorem dX4_tell_22 : decode cX4_tell 22 = .ok (.iload_n 3, 1) := by decide +kernel
theorem dX4_tell_23 : decode cX4_tell 23 = .ok (.iastore, 1) := by decide +kernel
theorem dX4_tell_24 : decode cX4_tell 24 = .ok (.aload_n 0, 1) := by decide +kernel
theorem dX4_tell_25 : decode cX4_tell 25 = .ok (.getfield 34, 3) := by decide +kernel
theorem dX4_tell_28 : decode cX4_tell 28 = .ok (.aload_n 0, 1) := by decide +kernel
theorem dX4_tell_29 : decode cX4_tell 29 = .ok (.getfield 71, 3) := by decide +kernel
theorem dX4_tell_32 : decode cX4_tell 32 = .ok (.iload 4, 2) := by decide +kernel
theorem dX4_tell_34 : decode cX4_tell 34 = .ok (.iastore, 1) := by decide +kernel
theorem dX4_tell_35 : decode cX4_tell 35 = .ok (.aload_n 0, 1) := by decide +kernel
theorem dX4_tell_36 : decode cX4_tell 36 = .ok (.getfield 37, 3) := by decide +kernel
theorem dX4_tell_39 : decode cX4_tell 39 = .ok (.aload_n 0, 1) := by decide +kernel
theorem dX4_tell_40 : decode cX4_tell 40 = .ok (.getfield 71, 3) := by decide +kernel
theorem dX4_tell_43 : decode cX4_tell 43 = .ok (.iload 5, 2) := by decide +kernel
theorem dX4_tell_45 : decode cX4_tell 45 = .ok (.iastore, 1) := by decide +kernel
theorem dX4_tell_46 : decode cX4_tell 46 = .ok (.aload_n 0, 1) := by decide +kernel
theorem dX4_tell_47 : decode cX4_tell 47 = .ok (.dup, 1) := by decide +kernel
theorem dX4_tell_48 : decode cX4_tell 48 = .ok (.getfield 71, 3) := by decide +kernel
theorem dX4_tell_51 : decode cX4_tell 51 = .ok (.iconst 1, 1) := by decide +kernel
theorem dX4_tell_52 : decode cX4_tell 52 = .ok (.iadd, 1) := by decide +kernel
theorem dX4_tell_53 : decode cX4_tell 53 = .ok (.putfield 71, 3) := by decide +kernel
theorem dX4_tell_56 : decode cX4_tell 56 = .ok (.return_, 1) := by decide +kernel
theorem dX4_meant_0 : decode cX4_meant 0 = .ok (.iload_n 1, 1) := by decide +kernel
theorem dX4_meant_1 : decode cX4_meant 1 = .ok (.iload_n 2, 1) := by decide +kernel
theorem dX4_meant_2 : decode cX4_meant 2 = .ok (.invokestatic 74, 3) := by decide +kernel
theorem dX4_meant_5 : decode cX4_meant 5 = .ok (.istore 4, 2) := by decide +kernel
theorem dX4_meant_7 : decode cX4_meant 7 = .ok (.aload_n 0, 1) := by decide +kernel
theorem dX4_meant_8 : decode cX4_meant 8 = .ok (.getfield 71, 3) := by decide +kernel
theorem dX4_meant_11 : decode cX4_meant 11 = .ok (.iconst 1, 1) := by decide +kernel
theorem dX4_meant_12 : decode cX4_meant 12 = .ok (.isub, 1) := by decide +kernel
theorem dX4_meant_13 : decode cX4_meant 13 = .ok (.istore 5, 2) := by decide +kernel
theorem dX4_meant_15 : decode cX4_meant 15 = .ok (.iload 5, 2) := by decide +kernel
theorem dX4_meant_17 : decode cX4_meant 17 = .ok (.ifCond .lt 51, 3) := by decide +kernel
theorem dX4_meant_20 : decode cX4_meant 20 = .ok (.aload_n 0, 1) := by decide +kernel
theorem dX4_meant_21 : decode cX4_meant 21 = .ok (.getfield 28, 3) := by decide +kernel
theorem dX4_meant_24 : decode cX4_meant 24 = .ok (.iload 5, 2) := by decide +kernel
theorem dX4_meant_26 : decode cX4_meant 26 = .ok (.iaload, 1) := by decide +kernel
theorem dX4_meant_27 : decode cX4_meant 27 = .ok (.iload 4, 2) := by decide +kernel
theorem dX4_meant_29 : decode cX4_meant 29 = .ok (.if_icmp .ne 33, 3) := by decide +kernel
theorem dX4_meant_32 : decode cX4_meant 32 = .ok (.aload_n 0, 1) := by decide +kernel
theorem dX4_meant_33 : decode cX4_meant 33 = .ok (.getfield 34, 3) := by decide +kernel
theorem dX4_meant_36 : decode cX4_meant 36 = .ok (.iload 5, 2) := by decide +kernel
theorem dX4_meant_38 : decode cX4_meant 38 = .ok (.iaload, 1) := by decide +kernel
theorem dX4_meant_39 : decode cX4_meant 39 = .ok (.iload_n 3, 1) := by decide +kernel
theorem dX4_meant_40 : decode cX4_meant 40 = .ok (.if_icmp .gt 22, 3) := by decide +kernel
theorem dX4_meant_43 : decode cX4_meant 43 = .ok (.iload_n 3, 1) := by decide +kernel
theorem dX4_meant_44 : decode cX4_meant 44 = .ok (.aload_n 0, 1) := by decide +kernel
theorem dX4_meant_45 : decode cX4_meant 45 = .ok (.getfield 37, 3) := by decide +kernel
theorem dX4_meant_48 : decode cX4_meant 48 = .ok (.iload 5, 2) := by decide +kernel
theorem dX4_meant_50 : decode cX4_meant 50 = .ok (.iaload, 1) := by decide +kernel
theorem dX4_meant_51 : decode cX4_meant 51 = .ok (.if_icmp .gt 11, 3) := by decide +kernel
theorem dX4_meant_54 : decode cX4_meant 54 = .ok (.aload_n 0, 1) := by decide +kernel
theorem dX4_meant_55 : decode cX4_meant 55 = .ok (.getfield 31, 3) := by decide +kernel
theorem dX4_meant_58 : decode cX4_meant 58 = .ok (.iload 5, 2) := by decide +kernel
theorem dX4_meant_60 : decode cX4_meant 60 = .ok (.iaload, 1) := by decide +kernel
theorem dX4_meant_61 : decode cX4_meant 61 = .ok (.ireturn, 1) := by decide +kernel
theorem dX4_meant_62 : decode cX4_meant 62 = .ok (.iinc 5 (-1), 3) := by decide +kernel
theorem dX4_meant_65 : decode cX4_meant 65 = .ok (.goto (-50), 3) := by decide +kernel
theorem dX4_meant_68 : decode cX4_meant 68 = .ok (.iconst (-1), 1) := by decide +kernel
theorem dX4_meant_69 : decode cX4_meant 69 = .ok (.ireturn, 1) := by decide +kernel
theorem dX4_key_0 : decode cX4_key 0 = .ok (.iload_n 0, 1) := by decide +kernel
theorem dX4_key_1 : decode cX4_key 1 = .ok (.bipush 100, 2) := by decide +kernel
theorem dX4_key_3 : decode cX4_key 3 = .ok (.imul, 1) := by decide +kernel
theorem dX4_key_4 : decode cX4_key 4 = .ok (.iload_n 1, 1) := by decide +kernel
theorem dX4_key_5 : decode cX4_key 5 = .ok (.iadd, 1) := by decide +kernel
theorem dX4_key_6 : decode cX4_key 6 = .ok (.ireturn, 1) := by decide +kernel
theorem dX5_init_0 : decode cX5_init 0 = .ok (.aload_n 0, 1) := by decide +kernel
theorem dX5_init_1 : decode cX5_init 1 = .ok (.invokespecial 3, 3) := by decide +kernel
theorem dX5_init_4 : decode cX5_init 4 = .ok (.aload_n 0, 1) := by decide +kernel
theorem dX5_init_5 : decode cX5_init 5 = .ok (.new 9, 3) := by decide +kernel
theorem dX5_init_8 : decode cX5_init 8 = .ok (.dup, 1) := by decide +kernel
theorem dX5_init_9 : decode cX5_init 9 = .ok (.invokespecial 11, 3) := by decide +kernel
theorem dX5_init_12 : decode cX5_init 12 = .ok (.putfield 12, 3) := by decide +kernel
theorem dX5_init_15 : decode cX5_init 15 = .ok (.aload_n 0, 1) := by decide +kernel
theorem dX5_init_16 : decode cX5_init 16 = .ok (.bipush 20, 2) := by decide +kernel
theorem dX5_init_18 : decode cX5_init 18 = .ok (.newarray .int, 2) := by decide +kernel
theorem dX5_init_20 : decode cX5_init 20 = .ok (.putfield 18, 3) := by decide +kernel
theorem dX5_init_23 : decode cX5_init 23 = .ok (.aload_n 0, 1) := by decide +kernel
theorem dX5_init_24 : decode cX5_init 24 = .ok (.bipush 20, 2) := by decide +kernel
theorem dX5_init_26 : decode cX5_init 26 = .ok (.newarray .int, 2) := by decide +kernel
theorem dX5_init_28 : decode cX5_init 28 = .ok (.putfield 22, 3) := by decide +kernel
theorem dX5_init_31 : decode cX5_init 31 = .ok (.aload_n 0, 1) := by decide +kernel
theorem dX5_init_32 : decode cX5_init 32 = .ok (.bipush 20, 2) := by decide +kernel
theorem dX5_init_34 : decode cX5_init 34 = .ok (.newarray .int, 2) := by decide +kernel
theorem dX5_init_36 : decode cX5_init 36 = .ok (.putfield 25, 3) := by decide +kernel
theorem dX5_init_39 : decode cX5_init 39 = .ok (.aload_n 0, 1) := by decide +kernel
theorem dX5_init_40 : decode cX5_init 40 = .ok (.iconst 5, 1) := by decide +kernel
theorem dX5_init_41 : decode cX5_init 41 = .ok (.newarray .int, 2) := by decide +kernel
theorem dX5_init_43 : decode cX5_init 43 = .ok (.putfield 30, 3) := by decide +kernel
theorem dX5_init_46 : decode cX5_init 46 = .ok (.aload_n 0, 1) := by decide +kernel
theorem dX5_init_47 : decode cX5_init 47 = .ok (.bipush 32, 2) := by decide +kernel
theorem dX5_init_49 : decode cX5_init 49 = .ok (.newarray .int, 2) := by decide +kernel
theorem dX5_init_51 : decode cX5_init 51 = .ok (.putfield 33, 3) := by decide +kernel
theorem dX5_init_54 : decode cX5_init 54 = .ok (.return_, 1) := by decide +kernel
theorem dX5_size_0 : decode cX5_size 0 = .ok (.aload_n 0, 1) := by decide +kernel
theorem dX5_size_1 : decode cX5_size 1 = .ok (.getfield 12, 3) := by decide +kernel
theorem dX5_size_4 : decode cX5_size 4 = .ok (.invokevirtual 36, 3) := by decide +kernel
theorem dX5_size_7 : decode cX5_size 7 = .ok (.ireturn, 1) := by decide +kernel
theorem dX5_clauses_0 : decode cX5_clauses 0 = .ok (.aload_n 0, 1) := by decide +kernel
theorem dX5_clauses_1 : decode cX5_clauses 1 = .ok (.getfield 12, 3) := by decide +kernel
theorem dX5_clauses_4 : decode cX5_clauses 4 = .ok (.iload_n 1, 1) := by decide +kernel
theorem dX5_clauses_5 : decode cX5_clauses 5 = .ok (.invokevirtual 40, 3) := by decide +kernel
theorem dX5_clauses_8 : decode cX5_clauses 8 = .ok (.checkcast 28, 3) := by decide +kernel
theorem dX5_clauses_11 : decode cX5_clauses 11 = .ok (.invokevirtual 44, 3) := by decide +kernel
theorem dX5_clauses_14 : decode cX5_clauses 14 = .ok (.ireturn, 1) := by decide +kernel
theorem dX5_add_0 : decode cX5_add 0 = .ok (.aload_n 0, 1) := by decide +kernel
theorem dX5_add_1 : decode cX5_add 1 = .ok (.getfield 18, 3) := by decide +kernel
theorem dX5_add_4 : decode cX5_add 4 = .ok (.aload_n 0, 1) := by decide +kernel
theorem dX5_add_5 : decode cX5_add 5 = .ok (.getfield 12, 3) := by decide +kernel
theorem dX5_add_8 : decode cX5_add 8 = .ok (.invokevirtual 36, 3) := by decide +kernel
theorem dX5_add_11 : decode cX5_add 11 = .ok (.iload_n 1, 1) := by decide +kernel
theorem dX5_add_12 : decode cX5_add 12 = .ok (.iastore, 1) := by decide +kernel
theorem dX5_add_13 : decode cX5_add 13 = .ok (.aload_n 0, 1) := by decide +kernel
theorem dX5_add_14 : decode cX5_add 14 = .ok (.getfield 22, 3) := by decide +kernel
theorem dX5_add_17 : decode cX5_add 17 = .ok (.aload_n 0, 1) := by decide +kernel
theorem dX5_add_18 : decode cX5_add 18 = .ok (.getfield 12, 3) := by decide +kernel
theorem dX5_add_21 : decode cX5_add 21 = .ok (.invokevirtual 36, 3) := by decide +kernel
theorem dX5_add_24 : decode cX5_add 24 = .ok (.iload_n 2, 1) := by decide +kernel
theorem dX5_add_25 : decode cX5_add 25 = .ok (.iastore, 1) := by decide +kernel
theorem dX5_add_26 : decode cX5_add 26 = .ok (.aload_n 0, 1) := by decide +kernel
theorem dX5_add_27 : decode cX5_add 27 = .ok (.getfield 12, 3) := by decide +kernel
theorem dX5_add_30 : decode cX5_add 30 = .ok (.aload_n 3, 1) := by decide +kernel
theorem dX5_add_31 : decode cX5_add 31 = .ok (.invokevirtual 47, 3) := by decide +kernel
theorem dX5_add_34 : decode cX5_add 34 = .ok (.pop, 1) := by decide +kernel
theorem dX5_add_35 : decode cX5_add 35 = .ok (.aload_n 0, 1) := by decide +kernel
theorem dX5_add_36 : decode cX5_add 36 = .ok (.getfield 12, 3) := by decide +kernel
theorem dX5_add_39 : decode cX5_add 39 = .ok (.invokevirtual 36, 3) := by decide +kernel
theorem dX5_add_42 : decode cX5_add 42 = .ok (.iconst 1, 1) := by decide +kernel
theorem dX5_add_43 : decode cX5_add 43 = .ok (.isub, 1) := by decide +kernel
theorem dX5_add_44 : decode cX5_add 44 = .ok (.ireturn, 1) := by decide +kernel
theorem dX5_ask_0 : decode cX5_ask 0 = .ok (.aload_n 0, 1) := by decide +kernel
theorem dX5_ask_1 : decode cX5_ask 1 = .ok (.getfield 30, 3) := by decide +kernel
theorem dX5_ask_4 : decode cX5_ask 4 = .ok (.iconst 0, 1) := by decide +kernel
theorem dX5_ask_5 : decode cX5_ask 5 = .ok (.iload_n 1, 1) := by decide +kernel
theorem dX5_ask_6 : decode cX5_ask 6 = .ok (.iastore, 1) := by decide +kernel
theorem dX5_ask_7 : decode cX5_ask 7 = .ok (.aload_n 0, 1) := by decide +kernel
theorem dX5_ask_8 : decode cX5_ask 8 = .ok (.getfield 30, 3) := by decide +kernel
theorem dX5_ask_11 : decode cX5_ask 11 = .ok (.iconst 1, 1) := by decide +kernel
theorem dX5_ask_12 : decode cX5_ask 12 = .ok (.iload_n 2, 1) := by decide +kernel
theorem dX5_ask_13 : decode cX5_ask 13 = .ok (.iastore, 1) := by decide +kernel
theorem dX5_ask_14 : decode cX5_ask 14 = .ok (.aload_n 0, 1) := by decide +kernel
theorem dX5_ask_15 : decode cX5_ask 15 = .ok (.getfield 30, 3) := by decide +kernel
theorem dX5_ask_18 : decode cX5_ask 18 = .ok (.iconst 2, 1) := by decide +kernel
theorem dX5_ask_19 : decode cX5_ask 19 = .ok (.iload_n 3, 1) := by decide +kernel
theorem dX5_ask_20 : decode cX5_ask 20 = .ok (.iastore, 1) := by decide +kernel
theorem dX5_ask_21 : decode cX5_ask 21 = .ok (.aload_n 0, 1) := by decide +kernel
theorem dX5_ask_22 : decode cX5_ask 22 = .ok (.getfield 30, 3) := by decide +kernel
theorem dX5_ask_25 : decode cX5_ask 25 = .ok (.iconst 3, 1) := by decide +kernel
theorem dX5_ask_26 : decode cX5_ask 26 = .ok (.iload 4, 2) := by decide +kernel
theorem dX5_ask_28 : decode cX5_ask 28 = .ok (.iastore, 1) := by decide +kernel
theorem dX5_ask_29 : decode cX5_ask 29 = .ok (.aload_n 0, 1) := by decide +kernel
theorem dX5_ask_30 : decode cX5_ask 30 = .ok (.getfield 30, 3) := by decide +kernel
theorem dX5_ask_33 : decode cX5_ask 33 = .ok (.iconst 4, 1) := by decide +kernel
theorem dX5_ask_34 : decode cX5_ask 34 = .ok (.iload 5, 2) := by decide +kernel
theorem dX5_ask_36 : decode cX5_ask 36 = .ok (.iastore, 1) := by decide +kernel
theorem dX5_ask_37 : decode cX5_ask 37 = .ok (.return_, 1) := by decide +kernel
theorem dX5_marksWanted_0 : decode cX5_marksWanted 0 = .ok (.aload_n 0, 1) := by decide +kernel
theorem dX5_marksWanted_1 : decode cX5_marksWanted 1 = .ok (.bipush 97, 2) := by decide +kernel
theorem dX5_marksWanted_3 : decode cX5_marksWanted 3 = .ok (.bipush 8, 2) := by decide +kernel
theorem dX5_marksWanted_5 : decode cX5_marksWanted 5 = .ok (.invokevirtual 51, 3) := by decide +kernel
theorem dX5_marksWanted_8 : decode cX5_marksWanted 8 = .ok (.ireturn, 1) := by decide +kernel
theorem dX5_signWorth_0 : decode cX5_signWorth 0 = .ok (.aload_n 0, 1) := by decide +kernel
theorem dX5_signWorth_1 : decode cX5_signWorth 1 = .ok (.bipush 118, 2) := by decide +kernel
theorem dX5_signWorth_3 : decode cX5_signWorth 3 = .ok (.iconst 0, 1) := by decide +kernel
theorem dX5_signWorth_4 : decode cX5_signWorth 4 = .ok (.invokevirtual 51, 3) := by decide +kernel
theorem dX5_signWorth_7 : decode cX5_signWorth 7 = .ok (.ireturn, 1) := by decide +kernel
theorem dX5_deepest_0 : decode cX5_deepest 0 = .ok (.aload_n 0, 1) := by decide +kernel
theorem dX5_deepest_1 : decode cX5_deepest 1 = .ok (.bipush 102, 2) := by decide +kernel
theorem dX5_deepest_3 : decode cX5_deepest 3 = .ok (.bipush 7, 2) := by decide +kernel
theorem dX5_deepest_5 : decode cX5_deepest 5 = .ok (.invokevirtual 51, 3) := by decide +kernel
theorem dX5_deepest_8 : decode cX5_deepest 8 = .ok (.ireturn, 1) := by decide +kernel
theorem dX5_lines_0 : decode cX5_lines 0 = .ok (.iconst 0, 1) := by decide +kernel
theorem dX5_lines_1 : decode cX5_lines 1 = .ok (.istore_n 1, 1) := by decide +kernel
theorem dX5_lines_2 : decode cX5_lines 2 = .ok (.aload_n 0, 1) := by decide +kernel
theorem dX5_lines_3 : decode cX5_lines 3 = .ok (.getfield 25, 3) := by decide +kernel
theorem dX5_lines_6 : decode cX5_lines 6 = .ok (.iconst 0, 1) := by decide +kernel
theorem dX5_lines_7 : decode cX5_lines 7 = .ok (.invokestatic 55, 3) := by decide +kernel
theorem dX5_lines_10 : decode cX5_lines 10 = .ok (.aload_n 0, 1) := by decide +kernel
theorem dX5_lines_11 : decode cX5_lines 11 = .ok (.getfield 12, 3) := by decide +kernel
theorem dX5_lines_14 : decode cX5_lines 14 = .ok (.invokevirtual 36, 3) := by decide +kernel
theorem dX5_lines_17 : decode cX5_lines 17 = .ok (.iconst 1, 1) := by decide +kernel
theorem dX5_lines_18 : decode cX5_lines 18 = .ok (.isub, 1) := by decide +kernel
theorem dX5_lines_19 : decode cX5_lines 19 = .ok (.istore_n 2, 1) := by decide +kernel
theorem dX5_lines_20 : decode cX5_lines 20 = .ok (.iload_n 2, 1) := by decide +kernel
theorem dX5_lines_21 : decode cX5_lines 21 = .ok (.ifCond .lt 67, 3) := by decide +kernel
theorem dX5_lines_24 : decode cX5_lines 24 = .ok (.aload_n 0, 1) := by decide +kernel
theorem dX5_lines_25 : decode cX5_lines 25 = .ok (.iload_n 2, 1) := by decide +kernel
theorem dX5_lines_26 : decode cX5_lines 26 = .ok (.invokevirtual 61, 3) := by decide +kernel
theorem dX5_lines_29 : decode cX5_lines 29 = .ok (.ifCond .eq 53, 3) := by decide +kernel
theorem dX5_lines_32 : decode cX5_lines 32 = .ok (.aload_n 0, 1) := by decide +kernel
theorem dX5_lines_33 : decode cX5_lines 33 = .ok (.getfield 12, 3) := by decide +kernel
theorem dX5_lines_36 : decode cX5_lines 36 = .ok (.iload_n 2, 1) := by decide +kernel
theorem dX5_lines_37 : decode cX5_lines 37 = .ok (.invokevirtual 40, 3) := by decide +kernel
theorem dX5_lines_40 : decode cX5_lines 40 = .ok (.checkcast 28, 3) := by decide +kernel
theorem dX5_lines_43 : decode cX5_lines 43 = .ok (.aload_n 0, 1) := by decide +kernel
theorem dX5_lines_44 : decode cX5_lines 44 = .ok (.getfield 25, 3) := by decide +kernel
theorem dX5_lines_47 : decode cX5_lines 47 = .ok (.iload_n 2, 1) := by decide +kernel
theorem dX5_lines_48 : decode cX5_lines 48 = .ok (.invokevirtual 65, 3) := by decide +kernel
theorem dX5_lines_51 : decode cX5_lines 51 = .ok (.iload_n 1, 1) := by decide +kernel
theorem dX5_lines_52 : decode cX5_lines 52 = .ok (.aload_n 0, 1) := by decide +kernel
theorem dX5_lines_53 : decode cX5_lines 53 = .ok (.getfield 12, 3) := by decide +kernel
theorem dX5_lines_56 : decode cX5_lines 56 = .ok (.iload_n 2, 1) := by decide +kernel
theorem dX5_lines_57 : decode cX5_lines 57 = .ok (.invokevirtual 40, 3) := by decide +kernel
theorem dX5_lines_60 : decode cX5_lines 60 = .ok (.checkcast 28, 3) := by decide +kernel
theorem dX5_lines_63 : decode cX5_lines 63 = .ok (.aload_n 0, 1) := by decide +kernel
theorem dX5_lines_64 : decode cX5_lines 64 = .ok (.getfield 25, 3) := by decide +kernel
theorem dX5_lines_67 : decode cX5_lines 67 = .ok (.iload_n 2, 1) := by decide +kernel
theorem dX5_lines_68 : decode cX5_lines 68 = .ok (.iaload, 1) := by decide +kernel
theorem dX5_lines_69 : decode cX5_lines 69 = .ok (.aload_n 0, 1) := by decide +kernel
theorem dX5_lines_70 : decode cX5_lines 70 = .ok (.getfield 30, 3) := by decide +kernel
theorem dX5_lines_73 : decode cX5_lines 73 = .ok (.aload_n 0, 1) := by decide +kernel
theorem dX5_lines_74 : decode cX5_lines 74 = .ok (.getfield 33, 3) := by decide +kernel
theorem dX5_lines_77 : decode cX5_lines 77 = .ok (.invokevirtual 68, 3) := by decide +kernel
theorem dX5_lines_80 : decode cX5_lines 80 = .ok (.ior, 1) := by decide +kernel
theorem dX5_lines_81 : decode cX5_lines 81 = .ok (.istore_n 1, 1) := by decide +kernel
theorem dX5_lines_82 : decode cX5_lines 82 = .ok (.iinc 2 (-1), 3) := by decide +kernel
theorem dX5_lines_85 : decode cX5_lines 85 = .ok (.goto (-65), 3) := by decide +kernel
theorem dX5_lines_88 : decode cX5_lines 88 = .ok (.iload_n 1, 1) := by decide +kernel
theorem dX5_lines_89 : decode cX5_lines 89 = .ok (.ifCond .ne 8, 3) := by decide +kernel
theorem dX5_lines_92 : decode cX5_lines 92 = .ok (.bipush 15, 2) := by decide +kernel
theorem dX5_lines_94 : decode cX5_lines 94 = .ok (.goto 4, 3) := by decide +kernel
theorem dX5_lines_97 : decode cX5_lines 97 = .ok (.iload_n 1, 1) := by decide +kernel
theorem dX5_lines_98 : decode cX5_lines 98 = .ok (.ireturn, 1) := by decide +kernel
theorem dX5_highestOf_0 : decode cX5_highestOf 0 = .ok (.aload_n 0, 1) := by decide +kernel
theorem dX5_highestOf_1 : decode cX5_highestOf 1 = .ok (.getfield 25, 3) := by decide +kernel
theorem dX5_highestOf_4 : decode cX5_highestOf 4 = .ok (.iconst 0, 1) := by decide +kernel
theorem dX5_highestOf_5 : decode cX5_highestOf 5 = .ok (.invokestatic 55, 3) := by decide +kernel
theorem dX5_highestOf_8 : decode cX5_highestOf 8 = .ok (.aload_n 0, 1) := by decide +kernel
theorem dX5_highestOf_9 : decode cX5_highestOf 9 = .ok (.getfield 12, 3) := by decide +kernel
theorem dX5_highestOf_12 : decode cX5_highestOf 12 = .ok (.invokevirtual 36, 3) := by decide +kernel
theorem dX5_highestOf_15 : decode cX5_highestOf 15 = .ok (.iconst 1, 1) := by decide +kernel
theorem dX5_highestOf_16 : decode cX5_highestOf 16 = .ok (.isub, 1) := by decide +kernel
theorem dX5_highestOf_17 : decode cX5_highestOf 17 = .ok (.istore_n 3, 1) := by decide +kernel
theorem dX5_highestOf_18 : decode cX5_highestOf 18 = .ok (.iload_n 3, 1) := by decide +kernel
theorem dX5_highestOf_19 : decode cX5_highestOf 19 = .ok (.ifCond .lt 76, 3) := by decide +kernel
theorem dX5_highestOf_22 : decode cX5_highestOf 22 = .ok (.aload_n 0, 1) := by decide +kernel
theorem dX5_highestOf_23 : decode cX5_highestOf 23 = .ok (.iload_n 3, 1) := by decide +kernel
theorem dX5_highestOf_24 : decode cX5_highestOf 24 = .ok (.invokevirtual 61, 3) := by decide +kernel
theorem dX5_highestOf_27 : decode cX5_highestOf 27 = .ok (.ifCond .eq 62, 3) := by decide +kernel
theorem dX5_highestOf_30 : decode cX5_highestOf 30 = .ok (.aload_n 0, 1) := by decide +kernel
theorem dX5_highestOf_31 : decode cX5_highestOf 31 = .ok (.getfield 12, 3) := by decide +kernel
theorem dX5_highestOf_34 : decode cX5_highestOf 34 = .ok (.iload_n 3, 1) := by decide +kernel
theorem dX5_highestOf_35 : decode cX5_highestOf 35 = .ok (.invokevirtual 40, 3) := by decide +kernel
theorem dX5_highestOf_38 : decode cX5_highestOf 38 = .ok (.checkcast 28, 3) := by decide +kernel
theorem dX5_highestOf_41 : decode cX5_highestOf 41 = .ok (.aload_n 0, 1) := by decide +kernel
theorem dX5_highestOf_42 : decode cX5_highestOf 42 = .ok (.getfield 25, 3) := by decide +kernel
theorem dX5_highestOf_45 : decode cX5_highestOf 45 = .ok (.iload_n 3, 1) := by decide +kernel
theorem dX5_highestOf_46 : decode cX5_highestOf 46 = .ok (.invokevirtual 65, 3) := by decide +kernel
theorem dX5_highestOf_49 : decode cX5_highestOf 49 = .ok (.aload_n 0, 1) := by decide +kernel
theorem dX5_highestOf_50 : decode cX5_highestOf 50 = .ok (.getfield 12, 3) := by decide +kernel
theorem dX5_highestOf_53 : decode cX5_highestOf 53 = .ok (.iload_n 3, 1) := by decide +kernel
theorem dX5_highestOf_54 : decode cX5_highestOf 54 = .ok (.invokevirtual 40, 3) := by decide +kernel
theorem dX5_highestOf_57 : decode cX5_highestOf 57 = .ok (.checkcast 28, 3) := by decide +kernel
theorem dX5_highestOf_60 : decode cX5_highestOf 60 = .ok (.iload_n 1, 1) := by decide +kernel
theorem dX5_highestOf_61 : decode cX5_highestOf 61 = .ok (.aload_n 0, 1) := by decide +kernel
theorem dX5_highestOf_62 : decode cX5_highestOf 62 = .ok (.getfield 25, 3) := by decide +kernel
theorem dX5_highestOf_65 : decode cX5_highestOf 65 = .ok (.iload_n 3, 1) := by decide +kernel
theorem dX5_highestOf_66 : decode cX5_highestOf 66 = .ok (.iaload, 1) := by decide +kernel
theorem dX5_highestOf_67 : decode cX5_highestOf 67 = .ok (.aload_n 0, 1) := by decide +kernel
theorem dX5_highestOf_68 : decode cX5_highestOf 68 = .ok (.getfield 30, 3) := by decide +kernel
theorem dX5_highestOf_71 : decode cX5_highestOf 71 = .ok (.aload_n 0, 1) := by decide +kernel
theorem dX5_highestOf_72 : decode cX5_highestOf 72 = .ok (.getfield 33, 3) := by decide +kernel
theorem dX5_highestOf_75 : decode cX5_highestOf 75 = .ok (.invokevirtual 72, 3) := by decide +kernel
theorem dX5_highestOf_78 : decode cX5_highestOf 78 = .ok (.istore 4, 2) := by decide +kernel
theorem dX5_highestOf_80 : decode cX5_highestOf 80 = .ok (.iload 4, 2) := by decide +kernel
theorem dX5_highestOf_82 : decode cX5_highestOf 82 = .ok (.iconst (-1), 1) := by decide +kernel
theorem dX5_highestOf_83 : decode cX5_highestOf 83 = .ok (.if_icmp .eq 6, 3) := by decide +kernel
theorem dX5_highestOf_86 : decode cX5_highestOf 86 = .ok (.iload 4, 2) := by decide +kernel
theorem dX5_highestOf_88 : decode cX5_highestOf 88 = .ok (.ireturn, 1) := by decide +kernel
theorem dX5_highestOf_89 : decode cX5_highestOf 89 = .ok (.iinc 3 (-1), 3) := by decide +kernel
theorem dX5_highestOf_92 : decode cX5_highestOf 92 = .ok (.goto (-74), 3) := by decide +kernel
theorem dX5_highestOf_95 : decode cX5_highestOf 95 = .ok (.iload_n 2, 1) := by decide +kernel
theorem dX5_highestOf_96 : decode cX5_highestOf 96 = .ok (.ireturn, 1) := by decide +kernel
theorem dX5_isInForce_0 : decode cX5_isInForce 0 = .ok (.aload_n 0, 1) := by decide +kernel
theorem dX5_isInForce_1 : decode cX5_isInForce 1 = .ok (.getfield 18, 3) := by decide +kernel
theorem dX5_isInForce_4 : decode cX5_isInForce 4 = .ok (.iload_n 1, 1) := by decide +kernel
theorem dX5_isInForce_5 : decode cX5_isInForce 5 = .ok (.iaload, 1) := by decide +kernel
theorem dX5_isInForce_6 : decode cX5_isInForce 6 = .ok (.aload_n 0, 1) := by decide +kernel
theorem dX5_isInForce_7 : decode cX5_isInForce 7 = .ok (.getfield 30, 3) := by decide +kernel
theorem dX5_isInForce_10 : decode cX5_isInForce 10 = .ok (.iconst 0, 1) := by decide +kernel
theorem dX5_isInForce_11 : decode cX5_isInForce 11 = .ok (.iaload, 1) := by decide +kernel
theorem dX5_isInForce_12 : decode cX5_isInForce 12 = .ok (.if_icmp .gt 22, 3) := by decide +kernel
theorem dX5_isInForce_15 : decode cX5_isInForce 15 = .ok (.aload_n 0, 1) := by decide +kernel
theorem dX5_isInForce_16 : decode cX5_isInForce 16 = .ok (.getfield 30, 3) := by decide +kernel
theorem dX5_isInForce_19 : decode cX5_isInForce 19 = .ok (.iconst 0, 1) := by decide +kernel
theorem dX5_isInForce_20 : decode cX5_isInForce 20 = .ok (.iaload, 1) := by decide +kernel
theorem dX5_isInForce_21 : decode cX5_isInForce 21 = .ok (.aload_n 0, 1) := by decide +kernel
theorem dX5_isInForce_22 : decode cX5_isInForce 22 = .ok (.getfield 22, 3) := by decide +kernel
theorem dX5_isInForce_25 : decode cX5_isInForce 25 = .ok (.iload_n 1, 1) := by decide +kernel
theorem dX5_isInForce_26 : decode cX5_isInForce 26 = .ok (.iaload, 1) := by decide +kernel
theorem dX5_isInForce_27 : decode cX5_isInForce 27 = .ok (.if_icmp .gt 7, 3) := by decide +kernel
theorem dX5_isInForce_30 : decode cX5_isInForce 30 = .ok (.iconst 1, 1) := by decide +kernel
theorem dX5_isInForce_31 : decode cX5_isInForce 31 = .ok (.goto 4, 3) := by decide +kernel
theorem dX5_isInForce_34 : decode cX5_isInForce 34 = .ok (.iconst 0, 1) := by decide +kernel
theorem dX5_isInForce_35 : decode cX5_isInForce 35 = .ok (.ireturn, 1) := by decide +kernel
theorem dX6_init_0 : decode cX6_init 0 = .ok (.aload_n 0, 1) := by decide +kernel
theorem dX6_init_1 : decode cX6_init 1 = .ok (.invokespecial 3, 3) := by decide +kernel
theorem dX6_init_4 : decode cX6_init 4 = .ok (.aload_n 0, 1) := by decide +kernel
theorem dX6_init_5 : decode cX6_init 5 = .ok (.iconst 0, 1) := by decide +kernel
theorem dX6_init_6 : decode cX6_init 6 = .ok (.newarray .byte, 2) := by decide +kernel
theorem dX6_init_8 : decode cX6_init 8 = .ok (.putfield 9, 3) := by decide +kernel
theorem dX6_init_11 : decode cX6_init 11 = .ok (.aload_n 0, 1) := by decide +kernel
theorem dX6_init_12 : decode cX6_init 12 = .ok (.bipush 10, 2) := by decide +kernel
theorem dX6_init_14 : decode cX6_init 14 = .ok (.newarray .int, 2) := by decide +kernel
theorem dX6_init_16 : decode cX6_init 16 = .ok (.putfield 15, 3) := by decide +kernel
theorem dX6_init_19 : decode cX6_init 19 = .ok (.aload_n 0, 1) := by decide +kernel
theorem dX6_init_20 : decode cX6_init 20 = .ok (.bipush 10, 2) := by decide +kernel
theorem dX6_init_22 : decode cX6_init 22 = .ok (.newarray .int, 2) := by decide +kernel
theorem dX6_init_24 : decode cX6_init 24 = .ok (.putfield 19, 3) := by decide +kernel
theorem dX6_init_27 : decode cX6_init 27 = .ok (.aload_n 0, 1) := by decide +kernel
theorem dX6_init_28 : decode cX6_init 28 = .ok (.bipush 10, 2) := by decide +kernel
theorem dX6_init_30 : decode cX6_init 30 = .ok (.newarray .int, 2) := by decide +kernel
theorem dX6_init_32 : decode cX6_init 32 = .ok (.putfield 22, 3) := by decide +kernel
theorem dX6_init_35 : decode cX6_init 35 = .ok (.aload_n 0, 1) := by decide +kernel
theorem dX6_init_36 : decode cX6_init 36 = .ok (.bipush 10, 2) := by decide +kernel
theorem dX6_init_38 : decode cX6_init 38 = .ok (.newarray .int, 2) := by decide +kernel
theorem dX6_init_40 : decode cX6_init 40 = .ok (.putfield 25, 3) := by decide +kernel
theorem dX6_init_43 : decode cX6_init 43 = .ok (.aload_n 0, 1) := by decide +kernel
theorem dX6_init_44 : decode cX6_init 44 = .ok (.sipush 160, 3) := by decide +kernel
theorem dX6_init_47 : decode cX6_init 47 = .ok (.newarray .int, 2) := by decide +kernel
theorem dX6_init_49 : decode cX6_init 49 = .ok (.putfield 28, 3) := by decide +kernel
theorem dX6_init_52 : decode cX6_init 52 = .ok (.return_, 1) := by decide +kernel
theorem dX6_read_0 : decode cX6_read 0 = .ok (.aload_n 0, 1) := by decide +kernel
theorem dX6_read_1 : decode cX6_read 1 = .ok (.aload_n 1, 1) := by decide +kernel
theorem dX6_read_2 : decode cX6_read 2 = .ok (.putfield 9, 3) := by decide +kernel
theorem dX6_read_5 : decode cX6_read 5 = .ok (.aload_n 0, 1) := by decide +kernel
theorem dX6_read_6 : decode cX6_read 6 = .ok (.iload_n 2, 1) := by decide +kernel
theorem dX6_read_7 : decode cX6_read 7 = .ok (.aload_n 1, 1) := by decide +kernel
theorem dX6_read_8 : decode cX6_read 8 = .ok (.arraylength, 1) := by decide +kernel
theorem dX6_read_9 : decode cX6_read 9 = .ok (.invokestatic 31, 3) := by decide +kernel
theorem dX6_read_12 : decode cX6_read 12 = .ok (.putfield 37, 3) := by decide +kernel
theorem dX6_read_15 : decode cX6_read 15 = .ok (.aload_n 0, 1) := by decide +kernel
theorem dX6_read_16 : decode cX6_read 16 = .ok (.iconst 0, 1) := by decide +kernel
theorem dX6_read_17 : decode cX6_read 17 = .ok (.putfield 41, 3) := by decide +kernel
theorem dX6_read_20 : decode cX6_read 20 = .ok (.aload_n 0, 1) := by decide +kernel
theorem dX6_read_21 : decode cX6_read 21 = .ok (.iconst 0, 1) := by decide +kernel
theorem dX6_read_22 : decode cX6_read 22 = .ok (.putfield 44, 3) := by decide +kernel
theorem dX6_read_25 : decode cX6_read 25 = .ok (.aload_n 0, 1) := by decide +kernel
theorem dX6_read_26 : decode cX6_read 26 = .ok (.iconst 0, 1) := by decide +kernel
theorem dX6_read_27 : decode cX6_read 27 = .ok (.putfield 47, 3) := by decide +kernel
theorem dX6_read_30 : decode cX6_read 30 = .ok (.aload_n 0, 1) := by decide +kernel
theorem dX6_read_31 : decode cX6_read 31 = .ok (.iconst 0, 1) := by decide +kernel
theorem dX6_read_32 : decode cX6_read 32 = .ok (.putfield 50, 3) := by decide +kernel
theorem dX6_read_35 : decode cX6_read 35 = .ok (.aload_n 0, 1) := by decide +kernel
theorem dX6_read_36 : decode cX6_read 36 = .ok (.invokevirtual 53, 3) := by decide +kernel
theorem dX6_read_39 : decode cX6_read 39 = .ok (.iconst 0, 1) := by decide +kernel
theorem dX6_read_40 : decode cX6_read 40 = .ok (.istore_n 3, 1) := by decide +kernel
theorem dX6_read_41 : decode cX6_read 41 = .ok (.iload_n 3, 1) := by decide +kernel
theorem dX6_read_42 : decode cX6_read 42 = .ok (.aload_n 0, 1) := by decide +kernel
theorem dX6_read_43 : decode cX6_read 43 = .ok (.getfield 37, 3) := by decide +kernel
theorem dX6_read_46 : decode cX6_read 46 = .ok (.if_icmp .ge 22, 3) := by decide +kernel
theorem dX6_read_49 : decode cX6_read 49 = .ok (.aload_n 0, 1) := by decide +kernel
theorem dX6_read_50 : decode cX6_read 50 = .ok (.bipush 59, 2) := by decide +kernel
theorem dX6_read_52 : decode cX6_read 52 = .ok (.invokevirtual 56, 3) := by decide +kernel
theorem dX6_read_55 : decode cX6_read 55 = .ok (.ifCond .eq 13, 3) := by decide +kernel
theorem dX6_read_58 : decode cX6_read 58 = .ok (.aload_n 0, 1) := by decide +kernel
theorem dX6_read_59 : decode cX6_read 59 = .ok (.invokevirtual 53, 3) := by decide +kernel
theorem dX6_read_62 : decode cX6_read 62 = .ok (.iinc 3 1, 3) := by decide +kernel
theorem dX6_read_65 : decode cX6_read 65 = .ok (.goto (-24), 3) := by decide +kernel
theorem dX6_read_68 : decode cX6_read 68 = .ok (.aload_n 0, 1) := by decide +kernel
theorem dX6_read_69 : decode cX6_read 69 = .ok (.getfield 41, 3) := by decide +kernel
theorem dX6_read_72 : decode cX6_read 72 = .ok (.aload_n 0, 1) := by decide +kernel
theorem dX6_read_73 : decode cX6_read 73 = .ok (.getfield 37, 3) := by decide +kernel
theorem dX6_read_76 : decode cX6_read 76 = .ok (.if_icmp .ge 12, 3) := by decide +kernel
theorem dX6_read_79 : decode cX6_read 79 = .ok (.aload_n 0, 1) := by decide +kernel
theorem dX6_read_80 : decode cX6_read 80 = .ok (.iconst 1, 1) := by decide +kernel
theorem dX6_read_81 : decode cX6_read 81 = .ok (.aload_n 0, 1) := by decide +kernel
theorem dX6_read_82 : decode cX6_read 82 = .ok (.getfield 41, 3) := by decide +kernel
theorem dX6_read_85 : decode cX6_read 85 = .ok (.invokevirtual 60, 3) := by decide +kernel
theorem dX6_read_88 : decode cX6_read 88 = .ok (.aload_n 0, 1) := by decide +kernel
theorem dX6_read_89 : decode cX6_read 89 = .ok (.getfield 44, 3) := by decide +kernel
theorem dX6_read_92 : decode cX6_read 92 = .ok (.ireturn, 1) := by decide +kernel
theorem dX6_text_0 : decode cX6_text 0 = .ok (.new 64, 3) := by decide +kernel
theorem dX6_text_3 : decode cX6_text 3 = .ok (.dup, 1) := by decide +kernel
theorem dX6_text_4 : decode cX6_text 4 = .ok (.aload_n 0, 1) := by decide +kernel
theorem dX6_text_5 : decode cX6_text 5 = .ok (.getfield 15, 3) := by decide +kernel
theorem dX6_text_8 : decode cX6_text 8 = .ok (.aload_n 0, 1) := by decide +kernel
theorem dX6_text_9 : decode cX6_text 9 = .ok (.getfield 47, 3) := by decide +kernel
theorem dX6_text_12 : decode cX6_text 12 = .ok (.invokestatic 66, 3) := by decide +kernel
theorem dX6_text_15 : decode cX6_text 15 = .ok (.aload_n 0, 1) := by decide +kernel
theorem dX6_text_16 : decode cX6_text 16 = .ok (.getfield 19, 3) := by decide +kernel
theorem dX6_text_19 : decode cX6_text 19 = .ok (.aload_n 0, 1) := by decide +kernel
theorem dX6_text_20 : decode cX6_text 20 = .ok (.getfield 47, 3) := by decide +kernel
theorem dX6_text_23 : decode cX6_text 23 = .ok (.invokestatic 66, 3) := by decide +kernel
theorem dX6_text_26 : decode cX6_text 26 = .ok (.aload_n 0, 1) := by decide +kernel
theorem dX6_text_27 : decode cX6_text 27 = .ok (.getfield 22, 3) := by decide +kernel
theorem dX6_text_30 : decode cX6_text 30 = .ok (.aload_n 0, 1) := by decide +kernel
theorem dX6_text_31 : decode cX6_text 31 = .ok (.getfield 47, 3) := by decide +kernel
theorem dX6_text_34 : decode cX6_text 34 = .ok (.invokestatic 66, 3) := by decide +kernel
theorem dX6_text_37 : decode cX6_text 37 = .ok (.aload_n 0, 1) := by decide +kernel
theorem dX6_text_38 : decode cX6_text 38 = .ok (.getfield 25, 3) := by decide +kernel
theorem dX6_text_41 : decode cX6_text 41 = .ok (.aload_n 0, 1) := by decide +kernel
theorem dX6_text_42 : decode cX6_text 42 = .ok (.getfield 47, 3) := by decide +kernel
theorem dX6_text_45 : decode cX6_text 45 = .ok (.invokestatic 66, 3) := by decide +kernel
theorem dX6_text_48 : decode cX6_text 48 = .ok (.aload_n 0, 1) := by decide +kernel
theorem dX6_text_49 : decode cX6_text 49 = .ok (.getfield 28, 3) := by decide +kernel
theorem dX6_text_52 : decode cX6_text 52 = .ok (.aload_n 0, 1) := by decide +kernel
theorem dX6_text_53 : decode cX6_text 53 = .ok (.getfield 50, 3) := by decide +kernel
theorem dX6_text_56 : decode cX6_text 56 = .ok (.invokestatic 66, 3) := by decide +kernel
theorem dX6_text_59 : decode cX6_text 59 = .ok (.invokespecial 72, 3) := by decide +kernel
theorem dX6_text_62 : decode cX6_text 62 = .ok (.areturn, 1) := by decide +kernel
theorem dX6_clause_0 : decode cX6_clause 0 = .ok (.aload_n 0, 1) := by decide +kernel
theorem dX6_clause_1 : decode cX6_clause 1 = .ok (.invokevirtual 75, 3) := by decide +kernel
theorem dX6_clause_4 : decode cX6_clause 4 = .ok (.istore_n 1, 1) := by decide +kernel
theorem dX6_clause_5 : decode cX6_clause 5 = .ok (.iload_n 1, 1) := by decide +kernel
theorem dX6_clause_6 : decode cX6_clause 6 = .ok (.invokestatic 79, 3) := by decide +kernel
theorem dX6_clause_9 : decode cX6_clause 9 = .ok (.istore_n 2, 1) := by decide +kernel
theorem dX6_clause_10 : decode cX6_clause 10 = .ok (.iload_n 2, 1) := by decide +kernel
theorem dX6_clause_11 : decode cX6_clause 11 = .ok (.iconst (-1), 1) := by decide +kernel
theorem dX6_clause_12 : decode cX6_clause 12 = .ok (.if_icmp .ne 13, 3) := by decide +kernel
theorem dX6_clause_15 : decode cX6_clause 15 = .ok (.aload_n 0, 1) := by decide +kernel
theorem dX6_clause_16 : decode cX6_clause 16 = .ok (.iconst 1, 1) := by decide +kernel
theorem dX6_clause_17 : decode cX6_clause 17 = .ok (.aload_n 0, 1) := by decide +kernel
theorem dX6_clause_18 : decode cX6_clause 18 = .ok (.getfield 41, 3) := by decide +kernel
theorem dX6_clause_21 : decode cX6_clause 21 = .ok (.invokevirtual 60, 3) := by decide +kernel
theorem dX6_clause_24 : decode cX6_clause 24 = .ok (.return_, 1) := by decide +kernel
theorem dX6_clause_25 : decode cX6_clause 25 = .ok (.aload_n 0, 1) := by decide +kernel
theorem dX6_clause_26 : decode cX6_clause 26 = .ok (.getfield 47, 3) := by decide +kernel
theorem dX6_clause_29 : decode cX6_clause 29 = .ok (.bipush 10, 2) := by decide +kernel
theorem dX6_clause_31 : decode cX6_clause 31 = .ok (.if_icmp .lt 13, 3) := by decide +kernel
theorem dX6_clause_34 : decode cX6_clause 34 = .ok (.aload_n 0, 1) := by decide +kernel
theorem dX6_clause_35 : decode cX6_clause 35 = .ok (.iconst 4, 1) := by decide +kernel
theorem dX6_clause_36 : decode cX6_clause 36 = .ok (.aload_n 0, 1) := by decide +kernel
theorem dX6_clause_37 : decode cX6_clause 37 = .ok (.getfield 41, 3) := by decide +kernel
theorem dX6_clause_40 : decode cX6_clause 40 = .ok (.invokevirtual 60, 3) := by decide +kernel
theorem dX6_clause_43 : decode cX6_clause 43 = .ok (.return_, 1) := by decide +kernel
theorem dX6_clause_44 : decode cX6_clause 44 = .ok (.aload_n 0, 1) := by decide +kernel
theorem dX6_clause_45 : decode cX6_clause 45 = .ok (.dup, 1) := by decide +kernel
theorem dX6_clause_46 : decode cX6_clause 46 = .ok (.getfield 41, 3) := by decide +kernel
theorem dX6_clause_49 : decode cX6_clause 49 = .ok (.iconst 1, 1) := by decide +kernel
theorem dX6_clause_50 : decode cX6_clause 50 = .ok (.iadd, 1) := by decide +kernel
theorem dX6_clause_51 : decode cX6_clause 51 = .ok (.putfield 41, 3) := by decide +kernel
theorem dX6_clause_54 : decode cX6_clause 54 = .ok (.aload_n 0, 1) := by decide +kernel
theorem dX6_clause_55 : decode cX6_clause 55 = .ok (.getfield 15, 3) := by decide +kernel
theorem dX6_clause_58 : decode cX6_clause 58 = .ok (.aload_n 0, 1) := by decide +kernel
theorem dX6_clause_59 : decode cX6_clause 59 = .ok (.getfield 47, 3) := by decide +kernel
theorem dX6_clause_62 : decode cX6_clause 62 = .ok (.iload_n 1, 1) := by decide +kernel
theorem dX6_clause_63 : decode cX6_clause 63 = .ok (.iastore, 1) := by decide +kernel
theorem dX6_clause_64 : decode cX6_clause 64 = .ok (.aload_n 0, 1) := by decide +kernel
theorem dX6_clause_65 : decode cX6_clause 65 = .ok (.getfield 19, 3) := by decide +kernel
theorem dX6_clause_68 : decode cX6_clause 68 = .ok (.aload_n 0, 1) := by decide +kernel
theorem dX6_clause_69 : decode cX6_clause 69 = .ok (.getfield 47, 3) := by decide +kernel
theorem dX6_clause_72 : decode cX6_clause 72 = .ok (.aload_n 0, 1) := by decide +kernel
theorem dX6_clause_73 : decode cX6_clause 73 = .ok (.iload_n 2, 1) := by decide +kernel
theorem dX6_clause_74 : decode cX6_clause 74 = .ok (.invokevirtual 83, 3) := by decide +kernel
theorem dX6_clause_77 : decode cX6_clause 77 = .ok (.iastore, 1) := by decide +kernel
theorem dX6_clause_78 : decode cX6_clause 78 = .ok (.aload_n 0, 1) := by decide +kernel
theorem dX6_clause_79 : decode cX6_clause 79 = .ok (.getfield 22, 3) := by decide +kernel
theorem dX6_clause_82 : decode cX6_clause 82 = .ok (.aload_n 0, 1) := by decide +kernel
theorem dX6_clause_83 : decode cX6_clause 83 = .ok (.getfield 47, 3) := by decide +kernel
theorem dX6_clause_86 : decode cX6_clause 86 = .ok (.iconst 0, 1) := by decide +kernel
theorem dX6_clause_87 : decode cX6_clause 87 = .ok (.iastore, 1) := by decide +kernel
theorem dX6_clause_88 : decode cX6_clause 88 = .ok (.iload_n 1, 1) := by decide +kernel
theorem dX6_clause_89 : decode cX6_clause 89 = .ok (.bipush 120, 2) := by decide +kernel
theorem dX6_clause_91 : decode cX6_clause 91 = .ok (.if_icmp .ne 27, 3) := by decide +kernel
theorem dX6_clause_94 : decode cX6_clause 94 = .ok (.aload_n 0, 1) := by decide +kernel
theorem dX6_clause_95 : decode cX6_clause 95 = .ok (.bipush 46, 2) := by decide +kernel
theorem dX6_clause_97 : decode cX6_clause 97 = .ok (.invokevirtual 86, 3) := by decide +kernel
theorem dX6_clause_100 : decode cX6_clause 100 = .ok (.aload_n 0, 1) := by decide +kernel
theorem dX6_clause_101 : decode cX6_clause 101 = .ok (.getfield 22, 3) := by decide +kernel
theorem dX6_clause_104 : decode cX6_clause 104 = .ok (.aload_n 0, 1) := by decide +kernel
theorem dX6_clause_105 : decode cX6_clause 105 = .ok (.getfield 47, 3) := by decide +kernel
theorem dX6_clause_108 : decode cX6_clause 108 = .ok (.aload_n 0, 1) := by decide +kernel
theorem dX6_clause_109 : decode cX6_clause 109 = .ok (.bipush 9, 2) := by decide +kernel
theorem dX6_clause_111 : decode cX6_clause 111 = .ok (.invokevirtual 83, 3) := by decide +kernel
theorem dX6_clause_114 : decode cX6_clause 114 = .ok (.iastore, 1) := by decide +kernel
theorem dX6_clause_115 : decode cX6_clause 115 = .ok (.goto 23, 3) := by decide +kernel
theorem dX6_clause_118 : decode cX6_clause 118 = .ok (.aload_n 0, 1) := by decide +kernel
theorem dX6_clause_119 : decode cX6_clause 119 = .ok (.bipush 40, 2) := by decide +kernel
theorem dX6_clause_121 : decode cX6_clause 121 = .ok (.invokevirtual 56, 3) := by decide +kernel
theorem dX6_clause_124 : decode cX6_clause 124 = .ok (.ifCond .eq 14, 3) := by decide +kernel
theorem dX6_clause_127 : decode cX6_clause 127 = .ok (.aload_n 0, 1) := by decide +kernel
theorem dX6_clause_128 : decode cX6_clause 128 = .ok (.iconst 1, 1) := by decide +kernel
theorem dX6_clause_129 : decode cX6_clause 129 = .ok (.invokevirtual 90, 3) := by decide +kernel
theorem dX6_clause_132 : decode cX6_clause 132 = .ok (.aload_n 0, 1) := by decide +kernel
theorem dX6_clause_133 : decode cX6_clause 133 = .ok (.bipush 41, 2) := by decide +kernel
theorem dX6_clause_135 : decode cX6_clause 135 = .ok (.invokevirtual 86, 3) := by decide +kernel
theorem dX6_clause_138 : decode cX6_clause 138 = .ok (.aload_n 0, 1) := by decide +kernel
theorem dX6_clause_139 : decode cX6_clause 139 = .ok (.getfield 25, 3) := by decide +kernel
theorem dX6_clause_142 : decode cX6_clause 142 = .ok (.aload_n 0, 1) := by decide +kernel
theorem dX6_clause_143 : decode cX6_clause 143 = .ok (.getfield 47, 3) := by decide +kernel
theorem dX6_clause_146 : decode cX6_clause 146 = .ok (.aload_n 0, 1) := by decide +kernel
theorem dX6_clause_147 : decode cX6_clause 147 = .ok (.getfield 50, 3) := by decide +kernel
theorem dX6_clause_150 : decode cX6_clause 150 = .ok (.iastore, 1) := by decide +kernel
theorem dX6_clause_151 : decode cX6_clause 151 = .ok (.aload_n 0, 1) := by decide +kernel
theorem dX6_clause_152 : decode cX6_clause 152 = .ok (.dup, 1) := by decide +kernel
theorem dX6_clause_153 : decode cX6_clause 153 = .ok (.getfield 47, 3) := by decide +kernel
theorem dX6_clause_156 : decode cX6_clause 156 = .ok (.iconst 1, 1) := by decide +kernel
theorem dX6_clause_157 : decode cX6_clause 157 = .ok (.iadd, 1) := by decide +kernel
theorem dX6_clause_158 : decode cX6_clause 158 = .ok (.putfield 47, 3) := by decide +kernel
theorem dX6_clause_161 : decode cX6_clause 161 = .ok (.return_, 1) := by decide +kernel
theorem dX6_highestOf_0 : decode cX6_highestOf 0 = .ok (.iload_n 0, 1) := by decide +kernel
theorem dX6_highestOf_1 : decode cX6_highestOf 1 = .ok (.lookupswitch 65 #[(97, 53), (102, 59), (110, 51), (118, 56), (120, 62)], 51) := by decide +kernel
theorem dX6_highestOf_52 : decode cX6_highestOf 52 = .ok (.iconst 3, 1) := by decide +kernel
theorem dX6_highestOf_53 : decode cX6_highestOf 53 = .ok (.ireturn, 1) := by decide +kernel
theorem dX6_highestOf_54 : decode cX6_highestOf 54 = .ok (.bipush 8, 2) := by decide +kernel
theorem dX6_highestOf_56 : decode cX6_highestOf 56 = .ok (.ireturn, 1) := by decide +kernel
theorem dX6_highestOf_57 : decode cX6_highestOf 57 = .ok (.bipush 99, 2) := by decide +kernel
theorem dX6_highestOf_59 : decode cX6_highestOf 59 = .ok (.ireturn, 1) := by decide +kernel
theorem dX6_highestOf_60 : decode cX6_highestOf 60 = .ok (.bipush 7, 2) := by decide +kernel
theorem dX6_highestOf_62 : decode cX6_highestOf 62 = .ok (.ireturn, 1) := by decide +kernel
theorem dX6_highestOf_63 : decode cX6_highestOf 63 = .ok (.bipush 19, 2) := by decide +kernel
theorem dX6_highestOf_65 : decode cX6_highestOf 65 = .ok (.ireturn, 1) := by decide +kernel
theorem dX6_highestOf_66 : decode cX6_highestOf 66 = .ok (.iconst (-1), 1) := by decide +kernel
theorem dX6_highestOf_67 : decode cX6_highestOf 67 = .ok (.ireturn, 1) := by decide +kernel
theorem dX6_condition_0 : decode cX6_condition 0 = .ok (.aload_n 0, 1) := by decide +kernel
theorem dX6_condition_1 : decode cX6_condition 1 = .ok (.iload_n 1, 1) := by decide +kernel
theorem dX6_condition_2 : decode cX6_condition 2 = .ok (.invokevirtual 96, 3) := by decide +kernel
theorem dX6_condition_5 : decode cX6_condition 5 = .ok (.iconst 0, 1) := by decide +kernel
theorem dX6_condition_6 : decode cX6_condition 6 = .ok (.istore_n 2, 1) := by decide +kernel
theorem dX6_condition_7 : decode cX6_condition 7 = .ok (.iload_n 2, 1) := by decide +kernel
theorem dX6_condition_8 : decode cX6_condition 8 = .ok (.aload_n 0, 1) := by decide +kernel
theorem dX6_condition_9 : decode cX6_condition 9 = .ok (.getfield 37, 3) := by decide +kernel
theorem dX6_condition_12 : decode cX6_condition 12 = .ok (.if_icmp .ge 35, 3) := by decide +kernel
theorem dX6_condition_15 : decode cX6_condition 15 = .ok (.aload_n 0, 1) := by decide +kernel
theorem dX6_condition_16 : decode cX6_condition 16 = .ok (.bipush 124, 2) := by decide +kernel
theorem dX6_condition_18 : decode cX6_condition 18 = .ok (.invokevirtual 56, 3) := by decide +kernel
theorem dX6_condition_21 : decode cX6_condition 21 = .ok (.ifCond .eq 26, 3) := by decide +kernel
theorem dX6_condition_24 : decode cX6_condition 24 = .ok (.aload_n 0, 1) := by decide +kernel
theorem dX6_condition_25 : decode cX6_condition 25 = .ok (.bipush (-124), 2) := by decide +kernel
theorem dX6_condition_27 : decode cX6_condition 27 = .ok (.invokevirtual 99, 3) := by decide +kernel
theorem dX6_condition_30 : decode cX6_condition 30 = .ok (.istore_n 3, 1) := by decide +kernel
theorem dX6_condition_31 : decode cX6_condition 31 = .ok (.aload_n 0, 1) := by decide +kernel
theorem dX6_condition_32 : decode cX6_condition 32 = .ok (.iload_n 1, 1) := by decide +kernel
theorem dX6_condition_33 : decode cX6_condition 33 = .ok (.invokevirtual 96, 3) := by decide +kernel
theorem dX6_condition_36 : decode cX6_condition 36 = .ok (.aload_n 0, 1) := by decide +kernel
theorem dX6_condition_37 : decode cX6_condition 37 = .ok (.iload_n 3, 1) := by decide +kernel
theorem dX6_condition_38 : decode cX6_condition 38 = .ok (.invokevirtual 102, 3) := by decide +kernel
theorem dX6_condition_41 : decode cX6_condition 41 = .ok (.iinc 2 1, 3) := by decide +kernel
theorem dX6_condition_44 : decode cX6_condition 44 = .ok (.goto (-37), 3) := by decide +kernel
theorem dX6_condition_47 : decode cX6_condition 47 = .ok (.return_, 1) := by decide +kernel
theorem dX6_part_0 : decode cX6_part 0 = .ok (.aload_n 0, 1) := by decide +kernel
theorem dX6_part_1 : decode cX6_part 1 = .ok (.iload_n 1, 1) := by decide +kernel
theorem dX6_part_2 : decode cX6_part 2 = .ok (.invokevirtual 105, 3) := by decide +kernel
theorem dX6_part_5 : decode cX6_part 5 = .ok (.iconst 0, 1) := by decide +kernel
theorem dX6_part_6 : decode cX6_part 6 = .ok (.istore_n 2, 1) := by decide +kernel
theorem dX6_part_7 : decode cX6_part 7 = .ok (.iload_n 2, 1) := by decide +kernel
theorem dX6_part_8 : decode cX6_part 8 = .ok (.aload_n 0, 1) := by decide +kernel
theorem dX6_part_9 : decode cX6_part 9 = .ok (.getfield 37, 3) := by decide +kernel
theorem dX6_part_12 : decode cX6_part 12 = .ok (.if_icmp .ge 35, 3) := by decide +kernel
theorem dX6_part_15 : decode cX6_part 15 = .ok (.aload_n 0, 1) := by decide +kernel
theorem dX6_part_16 : decode cX6_part 16 = .ok (.bipush 38, 2) := by decide +kernel
theorem dX6_part_18 : decode cX6_part 18 = .ok (.invokevirtual 56, 3) := by decide +kernel
theorem dX6_part_21 : decode cX6_part 21 = .ok (.ifCond .eq 26, 3) := by decide +kernel
theorem dX6_part_24 : decode cX6_part 24 = .ok (.aload_n 0, 1) := by decide +kernel
theorem dX6_part_25 : decode cX6_part 25 = .ok (.bipush (-38), 2) := by decide +kernel
theorem dX6_part_27 : decode cX6_part 27 = .ok (.invokevirtual 99, 3) := by decide +kernel
theorem dX6_part_30 : decode cX6_part 30 = .ok (.istore_n 3, 1) := by decide +kernel
theorem dX6_part_31 : decode cX6_part 31 = .ok (.aload_n 0, 1) := by decide +kernel
theorem dX6_part_32 : decode cX6_part 32 = .ok (.iload_n 1, 1) := by decide +kernel
theorem dX6_part_33 : decode cX6_part 33 = .ok (.invokevirtual 105, 3) := by decide +kernel
theorem dX6_part_36 : decode cX6_part 36 = .ok (.aload_n 0, 1) := by decide +kernel
theorem dX6_part_37 : decode cX6_part 37 = .ok (.iload_n 3, 1) := by decide +kernel
theorem dX6_part_38 : decode cX6_part 38 = .ok (.invokevirtual 102, 3) := by decide +kernel
theorem dX6_part_41 : decode cX6_part 41 = .ok (.iinc 2 1, 3) := by decide +kernel
theorem dX6_part_44 : decode cX6_part 44 = .ok (.goto (-37), 3) := by decide +kernel
theorem dX6_part_47 : decode cX6_part 47 = .ok (.return_, 1) := by decide +kernel
theorem dX6_piece_0 : decode cX6_piece 0 = .ok (.aload_n 0, 1) := by decide +kernel
theorem dX6_piece_1 : decode cX6_piece 1 = .ok (.invokevirtual 75, 3) := by decide +kernel
theorem dX6_piece_4 : decode cX6_piece 4 = .ok (.istore_n 2, 1) := by decide +kernel
theorem dX6_piece_5 : decode cX6_piece 5 = .ok (.iload_n 2, 1) := by decide +kernel
theorem dX6_piece_6 : decode cX6_piece 6 = .ok (.bipush 33, 2) := by decide +kernel
theorem dX6_piece_8 : decode cX6_piece 8 = .ok (.if_icmp .ne 28, 3) := by decide +kernel
theorem dX6_piece_11 : decode cX6_piece 11 = .ok (.aload_n 0, 1) := by decide +kernel
theorem dX6_piece_12 : decode cX6_piece 12 = .ok (.iload_n 1, 1) := by decide +kernel
theorem dX6_piece_13 : decode cX6_piece 13 = .ok (.invokevirtual 108, 3) := by decide +kernel
theorem dX6_piece_16 : decode cX6_piece 16 = .ok (.ifCond .eq 112, 3) := by decide +kernel
theorem dX6_piece_19 : decode cX6_piece 19 = .ok (.aload_n 0, 1) := by decide +kernel
theorem dX6_piece_20 : decode cX6_piece 20 = .ok (.iload_n 1, 1) := by decide +kernel
theorem dX6_piece_21 : decode cX6_piece 21 = .ok (.iconst 1, 1) := by decide +kernel
theorem dX6_piece_22 : decode cX6_piece 22 = .ok (.iadd, 1) := by decide +kernel
theorem dX6_piece_23 : decode cX6_piece 23 = .ok (.invokevirtual 105, 3) := by decide +kernel
theorem dX6_piece_26 : decode cX6_piece 26 = .ok (.aload_n 0, 1) := by decide +kernel
theorem dX6_piece_27 : decode cX6_piece 27 = .ok (.bipush (-33), 2) := by decide +kernel
theorem dX6_piece_29 : decode cX6_piece 29 = .ok (.invokevirtual 99, 3) := by decide +kernel
theorem dX6_piece_32 : decode cX6_piece 32 = .ok (.pop, 1) := by decide +kernel
theorem dX6_piece_33 : decode cX6_piece 33 = .ok (.goto 95, 3) := by decide +kernel
theorem dX6_piece_36 : decode cX6_piece 36 = .ok (.iload_n 2, 1) := by decide +kernel
theorem dX6_piece_37 : decode cX6_piece 37 = .ok (.bipush 40, 2) := by decide +kernel
theorem dX6_piece_39 : decode cX6_piece 39 = .ok (.if_icmp .ne 27, 3) := by decide +kernel
theorem dX6_piece_42 : decode cX6_piece 42 = .ok (.aload_n 0, 1) := by decide +kernel
theorem dX6_piece_43 : decode cX6_piece 43 = .ok (.iload_n 1, 1) := by decide +kernel
theorem dX6_piece_44 : decode cX6_piece 44 = .ok (.invokevirtual 108, 3) := by decide +kernel
theorem dX6_piece_47 : decode cX6_piece 47 = .ok (.ifCond .eq 81, 3) := by decide +kernel
theorem dX6_piece_50 : decode cX6_piece 50 = .ok (.aload_n 0, 1) := by decide +kernel
theorem dX6_piece_51 : decode cX6_piece 51 = .ok (.iload_n 1, 1) := by decide +kernel
theorem dX6_piece_52 : decode cX6_piece 52 = .ok (.iconst 1, 1) := by decide +kernel
theorem dX6_piece_53 : decode cX6_piece 53 = .ok (.iadd, 1) := by decide +kernel
theorem dX6_piece_54 : decode cX6_piece 54 = .ok (.invokevirtual 90, 3) := by decide +kernel
theorem dX6_piece_57 : decode cX6_piece 57 = .ok (.aload_n 0, 1) := by decide +kernel
theorem dX6_piece_58 : decode cX6_piece 58 = .ok (.bipush 41, 2) := by decide +kernel
theorem dX6_piece_60 : decode cX6_piece 60 = .ok (.invokevirtual 86, 3) := by decide +kernel
theorem dX6_piece_63 : decode cX6_piece 63 = .ok (.goto 65, 3) := by decide +kernel
theorem dX6_piece_66 : decode cX6_piece 66 = .ok (.aload_n 0, 1) := by decide +kernel
theorem dX6_piece_67 : decode cX6_piece 67 = .ok (.iload_n 1, 1) := by decide +kernel
theorem dX6_piece_68 : decode cX6_piece 68 = .ok (.invokevirtual 112, 3) := by decide +kernel
theorem dX6_piece_71 : decode cX6_piece 71 = .ok (.aload_n 0, 1) := by decide +kernel
theorem dX6_piece_72 : decode cX6_piece 72 = .ok (.invokevirtual 75, 3) := by decide +kernel
theorem dX6_piece_75 : decode cX6_piece 75 = .ok (.istore_n 3, 1) := by decide +kernel
theorem dX6_piece_76 : decode cX6_piece 76 = .ok (.iload_n 3, 1) := by decide +kernel
theorem dX6_piece_77 : decode cX6_piece 77 = .ok (.bipush 60, 2) := by decide +kernel
theorem dX6_piece_79 : decode cX6_piece 79 = .ok (.if_icmp .eq 15, 3) := by decide +kernel
theorem dX6_piece_82 : decode cX6_piece 82 = .ok (.iload_n 3, 1) := by decide +kernel
theorem dX6_piece_83 : decode cX6_piece 83 = .ok (.bipush 62, 2) := by decide +kernel
theorem dX6_piece_85 : decode cX6_piece 85 = .ok (.if_icmp .eq 9, 3) := by decide +kernel
theorem dX6_piece_88 : decode cX6_piece 88 = .ok (.iload_n 3, 1) := by decide +kernel
theorem dX6_piece_89 : decode cX6_piece 89 = .ok (.bipush 61, 2) := by decide +kernel
theorem dX6_piece_91 : decode cX6_piece 91 = .ok (.if_icmp .ne 28, 3) := by decide +kernel
theorem dX6_piece_94 : decode cX6_piece 94 = .ok (.aload_n 0, 1) := by decide +kernel
theorem dX6_piece_95 : decode cX6_piece 95 = .ok (.dup, 1) := by decide +kernel
theorem dX6_piece_96 : decode cX6_piece 96 = .ok (.getfield 41, 3) := by decide +kernel
theorem dX6_piece_99 : decode cX6_piece 99 = .ok (.iconst 1, 1) := by decide +kernel
theorem dX6_piece_100 : decode cX6_piece 100 = .ok (.iadd, 1) := by decide +kernel
theorem dX6_piece_101 : decode cX6_piece 101 = .ok (.putfield 41, 3) := by decide +kernel
theorem dX6_piece_104 : decode cX6_piece 104 = .ok (.aload_n 0, 1) := by decide +kernel
theorem dX6_piece_105 : decode cX6_piece 105 = .ok (.iload_n 1, 1) := by decide +kernel
theorem dX6_piece_106 : decode cX6_piece 106 = .ok (.invokevirtual 112, 3) := by decide +kernel
theorem dX6_piece_109 : decode cX6_piece 109 = .ok (.aload_n 0, 1) := by decide +kernel
theorem dX6_piece_110 : decode cX6_piece 110 = .ok (.iload_n 3, 1) := by decide +kernel
theorem dX6_piece_111 : decode cX6_piece 111 = .ok (.ineg, 1) := by decide +kernel
theorem dX6_piece_112 : decode cX6_piece 112 = .ok (.invokevirtual 99, 3) := by decide +kernel
theorem dX6_piece_115 : decode cX6_piece 115 = .ok (.pop, 1) := by decide +kernel
theorem dX6_piece_116 : decode cX6_piece 116 = .ok (.goto 12, 3) := by decide +kernel
theorem dX6_piece_119 : decode cX6_piece 119 = .ok (.aload_n 0, 1) := by decide +kernel
theorem dX6_piece_120 : decode cX6_piece 120 = .ok (.iconst 1, 1) := by decide +kernel
theorem dX6_piece_121 : decode cX6_piece 121 = .ok (.aload_n 0, 1) := by decide +kernel
theorem dX6_piece_122 : decode cX6_piece 122 = .ok (.getfield 41, 3) := by decide +kernel
theorem dX6_piece_125 : decode cX6_piece 125 = .ok (.invokevirtual 60, 3) := by decide +kernel
theorem dX6_piece_128 : decode cX6_piece 128 = .ok (.return_, 1) := by decide +kernel
theorem dX6_sum_0 : decode cX6_sum 0 = .ok (.aload_n 0, 1) := by decide +kernel
theorem dX6_sum_1 : decode cX6_sum 1 = .ok (.iload_n 1, 1) := by decide +kernel
theorem dX6_sum_2 : decode cX6_sum 2 = .ok (.invokevirtual 115, 3) := by decide +kernel
theorem dX6_sum_5 : decode cX6_sum 5 = .ok (.iconst 0, 1) := by decide +kernel
theorem dX6_sum_6 : decode cX6_sum 6 = .ok (.istore_n 2, 1) := by decide +kernel
theorem dX6_sum_7 : decode cX6_sum 7 = .ok (.iload_n 2, 1) := by decide +kernel
theorem dX6_sum_8 : decode cX6_sum 8 = .ok (.aload_n 0, 1) := by decide +kernel
theorem dX6_sum_9 : decode cX6_sum 9 = .ok (.getfield 37, 3) := by decide +kernel
theorem dX6_sum_12 : decode cX6_sum 12 = .ok (.if_icmp .ge 54, 3) := by decide +kernel
theorem dX6_sum_15 : decode cX6_sum 15 = .ok (.aload_n 0, 1) := by decide +kernel
theorem dX6_sum_16 : decode cX6_sum 16 = .ok (.invokevirtual 75, 3) := by decide +kernel
theorem dX6_sum_19 : decode cX6_sum 19 = .ok (.bipush 43, 2) := by decide +kernel
theorem dX6_sum_21 : decode cX6_sum 21 = .ok (.if_icmp .eq 12, 3) := by decide +kernel
theorem dX6_sum_24 : decode cX6_sum 24 = .ok (.aload_n 0, 1) := by decide +kernel
theorem dX6_sum_25 : decode cX6_sum 25 = .ok (.invokevirtual 75, 3) := by decide +kernel
theorem dX6_sum_28 : decode cX6_sum 28 = .ok (.bipush 45, 2) := by decide +kernel
theorem dX6_sum_30 : decode cX6_sum 30 = .ok (.if_icmp .ne 36, 3) := by decide +kernel
theorem dX6_sum_33 : decode cX6_sum 33 = .ok (.aload_n 0, 1) := by decide +kernel
theorem dX6_sum_34 : decode cX6_sum 34 = .ok (.invokevirtual 75, 3) := by decide +kernel
theorem dX6_sum_37 : decode cX6_sum 37 = .ok (.istore_n 3, 1) := by decide +kernel
theorem dX6_sum_38 : decode cX6_sum 38 = .ok (.aload_n 0, 1) := by decide +kernel
theorem dX6_sum_39 : decode cX6_sum 39 = .ok (.dup, 1) := by decide +kernel
theorem dX6_sum_40 : decode cX6_sum 40 = .ok (.getfield 41, 3) := by decide +kernel
theorem dX6_sum_43 : decode cX6_sum 43 = .ok (.iconst 1, 1) := by decide +kernel
theorem dX6_sum_44 : decode cX6_sum 44 = .ok (.iadd, 1) := by decide +kernel
theorem dX6_sum_45 : decode cX6_sum 45 = .ok (.putfield 41, 3) := by decide +kernel
theorem dX6_sum_48 : decode cX6_sum 48 = .ok (.aload_n 0, 1) := by decide +kernel
theorem dX6_sum_49 : decode cX6_sum 49 = .ok (.iload_n 1, 1) := by decide +kernel
theorem dX6_sum_50 : decode cX6_sum 50 = .ok (.invokevirtual 115, 3) := by decide +kernel
theorem dX6_sum_53 : decode cX6_sum 53 = .ok (.aload_n 0, 1) := by decide +kernel
theorem dX6_sum_54 : decode cX6_sum 54 = .ok (.iload_n 3, 1) := by decide +kernel
theorem dX6_sum_55 : decode cX6_sum 55 = .ok (.ineg, 1) := by decide +kernel
theorem dX6_sum_56 : decode cX6_sum 56 = .ok (.invokevirtual 99, 3) := by decide +kernel
theorem dX6_sum_59 : decode cX6_sum 59 = .ok (.pop, 1) := by decide +kernel
theorem dX6_sum_60 : decode cX6_sum 60 = .ok (.iinc 2 1, 3) := by decide +kernel
theorem dX6_sum_63 : decode cX6_sum 63 = .ok (.goto (-56), 3) := by decide +kernel
theorem dX6_sum_66 : decode cX6_sum 66 = .ok (.return_, 1) := by decide +kernel
theorem dX6_term_0 : decode cX6_term 0 = .ok (.aload_n 0, 1) := by decide +kernel
theorem dX6_term_1 : decode cX6_term 1 = .ok (.iload_n 1, 1) := by decide +kernel
theorem dX6_term_2 : decode cX6_term 2 = .ok (.invokevirtual 118, 3) := by decide +kernel
theorem dX6_term_5 : decode cX6_term 5 = .ok (.iconst 0, 1) := by decide +kernel
theorem dX6_term_6 : decode cX6_term 6 = .ok (.istore_n 2, 1) := by decide +kernel
theorem dX6_term_7 : decode cX6_term 7 = .ok (.iload_n 2, 1) := by decide +kernel
theorem dX6_term_8 : decode cX6_term 8 = .ok (.aload_n 0, 1) := by decide +kernel
theorem dX6_term_9 : decode cX6_term 9 = .ok (.getfield 37, 3) := by decide +kernel
theorem dX6_term_12 : decode cX6_term 12 = .ok (.if_icmp .ge 63, 3) := by decide +kernel
theorem dX6_term_15 : decode cX6_term 15 = .ok (.aload_n 0, 1) := by decide +kernel
theorem dX6_term_16 : decode cX6_term 16 = .ok (.invokevirtual 75, 3) := by decide +kernel
theorem dX6_term_19 : decode cX6_term 19 = .ok (.bipush 42, 2) := by decide +kernel
theorem dX6_term_21 : decode cX6_term 21 = .ok (.if_icmp .eq 21, 3) := by decide +kernel
theorem dX6_term_24 : decode cX6_term 24 = .ok (.aload_n 0, 1) := by decide +kernel
theorem dX6_term_25 : decode cX6_term 25 = .ok (.invokevirtual 75, 3) := by decide +kernel
theorem dX6_term_28 : decode cX6_term 28 = .ok (.bipush 47, 2) := by decide +kernel
theorem dX6_term_30 : decode cX6_term 30 = .ok (.if_icmp .eq 12, 3) := by decide +kernel
theorem dX6_term_33 : decode cX6_term 33 = .ok (.aload_n 0, 1) := by decide +kernel
theorem dX6_term_34 : decode cX6_term 34 = .ok (.invokevirtual 75, 3) := by decide +kernel
theorem dX6_term_37 : decode cX6_term 37 = .ok (.bipush 37, 2) := by decide +kernel
theorem dX6_term_39 : decode cX6_term 39 = .ok (.if_icmp .ne 36, 3) := by decide +kernel
theorem dX6_term_42 : decode cX6_term 42 = .ok (.aload_n 0, 1) := by decide +kernel
theorem dX6_term_43 : decode cX6_term 43 = .ok (.invokevirtual 75, 3) := by decide +kernel
theorem dX6_term_46 : decode cX6_term 46 = .ok (.istore_n 3, 1) := by decide +kernel
theorem dX6_term_47 : decode cX6_term 47 = .ok (.aload_n 0, 1) := by decide +kernel
theorem dX6_term_48 : decode cX6_term 48 = .ok (.dup, 1) := by decide +kernel
theorem dX6_term_49 : decode cX6_term 49 = .ok (.getfield 41, 3) := by decide +kernel
theorem dX6_term_52 : decode cX6_term 52 = .ok (.iconst 1, 1) := by decide +kernel
theorem dX6_term_53 : decode cX6_term 53 = .ok (.iadd, 1) := by decide +kernel
theorem dX6_term_54 : decode cX6_term 54 = .ok (.putfield 41, 3) := by decide +kernel
theorem dX6_term_57 : decode cX6_term 57 = .ok (.aload_n 0, 1) := by decide +kernel
theorem dX6_term_58 : decode cX6_term 58 = .ok (.iload_n 1, 1) := by decide +kernel
theorem dX6_term_59 : decode cX6_term 59 = .ok (.invokevirtual 118, 3) := by decide +kernel
theorem dX6_term_62 : decode cX6_term 62 = .ok (.aload_n 0, 1) := by decide +kernel
theorem dX6_term_63 : decode cX6_term 63 = .ok (.iload_n 3, 1) := by decide +kernel
theorem dX6_term_64 : decode cX6_term 64 = .ok (.ineg, 1) := by decide +kernel
theorem dX6_term_65 : decode cX6_term 65 = .ok (.invokevirtual 99, 3) := by decide +kernel
theorem dX6_term_68 : decode cX6_term 68 = .ok (.pop, 1) := by decide +kernel
theorem dX6_term_69 : decode cX6_term 69 = .ok (.iinc 2 1, 3) := by decide +kernel
theorem dX6_term_72 : decode cX6_term 72 = .ok (.goto (-65), 3) := by decide +kernel
theorem dX6_term_75 : decode cX6_term 75 = .ok (.return_, 1) := by decide +kernel
theorem dX6_factor_0 : decode cX6_factor 0 = .ok (.aload_n 0, 1) := by decide +kernel
theorem dX6_factor_1 : decode cX6_factor 1 = .ok (.invokevirtual 75, 3) := by decide +kernel
theorem dX6_factor_4 : decode cX6_factor 4 = .ok (.istore_n 2, 1) := by decide +kernel
theorem dX6_factor_5 : decode cX6_factor 5 = .ok (.iload_n 2, 1) := by decide +kernel
theorem dX6_factor_6 : decode cX6_factor 6 = .ok (.invokestatic 121, 3) := by decide +kernel
theorem dX6_factor_9 : decode cX6_factor 9 = .ok (.istore_n 3, 1) := by decide +kernel
theorem dX6_factor_10 : decode cX6_factor 10 = .ok (.iload_n 2, 1) := by decide +kernel
theorem dX6_factor_11 : decode cX6_factor 11 = .ok (.bipush 91, 2) := by decide +kernel
theorem dX6_factor_13 : decode cX6_factor 13 = .ok (.if_icmp .ne 27, 3) := by decide +kernel
theorem dX6_factor_16 : decode cX6_factor 16 = .ok (.aload_n 0, 1) := by decide +kernel
theorem dX6_factor_17 : decode cX6_factor 17 = .ok (.iload_n 1, 1) := by decide +kernel
theorem dX6_factor_18 : decode cX6_factor 18 = .ok (.invokevirtual 108, 3) := by decide +kernel
theorem dX6_factor_21 : decode cX6_factor 21 = .ok (.ifCond .eq 57, 3) := by decide +kernel
theorem dX6_factor_24 : decode cX6_factor 24 = .ok (.aload_n 0, 1) := by decide +kernel
theorem dX6_factor_25 : decode cX6_factor 25 = .ok (.iload_n 1, 1) := by decide +kernel
theorem dX6_factor_26 : decode cX6_factor 26 = .ok (.iconst 1, 1) := by decide +kernel
theorem dX6_factor_27 : decode cX6_factor 27 = .ok (.iadd, 1) := by decide +kernel
theorem dX6_factor_28 : decode cX6_factor 28 = .ok (.invokevirtual 112, 3) := by decide +kernel
theorem dX6_factor_31 : decode cX6_factor 31 = .ok (.aload_n 0, 1) := by decide +kernel
theorem dX6_factor_32 : decode cX6_factor 32 = .ok (.bipush 93, 2) := by decide +kernel
theorem dX6_factor_34 : decode cX6_factor 34 = .ok (.invokevirtual 86, 3) := by decide +kernel
theorem dX6_factor_37 : decode cX6_factor 37 = .ok (.goto 41, 3) := by decide +kernel
theorem dX6_factor_40 : decode cX6_factor 40 = .ok (.iload_n 3, 1) := by decide +kernel
theorem dX6_factor_41 : decode cX6_factor 41 = .ok (.iconst (-1), 1) := by decide +kernel
theorem dX6_factor_42 : decode cX6_factor 42 = .ok (.if_icmp .eq 25, 3) := by decide +kernel
theorem dX6_factor_45 : decode cX6_factor 45 = .ok (.aload_n 0, 1) := by decide +kernel
theorem dX6_factor_46 : decode cX6_factor 46 = .ok (.dup, 1) := by decide +kernel
theorem dX6_factor_47 : decode cX6_factor 47 = .ok (.getfield 41, 3) := by decide +kernel
theorem dX6_factor_50 : decode cX6_factor 50 = .ok (.iconst 1, 1) := by decide +kernel
theorem dX6_factor_51 : decode cX6_factor 51 = .ok (.iadd, 1) := by decide +kernel
theorem dX6_factor_52 : decode cX6_factor 52 = .ok (.putfield 41, 3) := by decide +kernel
theorem dX6_factor_55 : decode cX6_factor 55 = .ok (.aload_n 0, 1) := by decide +kernel
theorem dX6_factor_56 : decode cX6_factor 56 = .ok (.ldc 124, 2) := by decide +kernel
theorem dX6_factor_58 : decode cX6_factor 58 = .ok (.iload_n 3, 1) := by decide +kernel
theorem dX6_factor_59 : decode cX6_factor 59 = .ok (.iadd, 1) := by decide +kernel
theorem dX6_factor_60 : decode cX6_factor 60 = .ok (.invokevirtual 99, 3) := by decide +kernel
theorem dX6_factor_63 : decode cX6_factor 63 = .ok (.pop, 1) := by decide +kernel
theorem dX6_factor_64 : decode cX6_factor 64 = .ok (.goto 14, 3) := by decide +kernel
theorem dX6_factor_67 : decode cX6_factor 67 = .ok (.aload_n 0, 1) := by decide +kernel
theorem dX6_factor_68 : decode cX6_factor 68 = .ok (.aload_n 0, 1) := by decide +kernel
theorem dX6_factor_69 : decode cX6_factor 69 = .ok (.ldc 125, 2) := by decide +kernel
theorem dX6_factor_71 : decode cX6_factor 71 = .ok (.invokevirtual 83, 3) := by decide +kernel
theorem dX6_factor_74 : decode cX6_factor 74 = .ok (.invokevirtual 99, 3) := by decide +kernel
theorem dX6_factor_77 : decode cX6_factor 77 = .ok (.pop, 1) := by decide +kernel
theorem dX6_factor_78 : decode cX6_factor 78 = .ok (.return_, 1) := by decide +kernel
theorem dX6_letterOf_0 : decode cX6_letterOf 0 = .ok (.iload_n 0, 1) := by decide +kernel
theorem dX6_letterOf_1 : decode cX6_letterOf 1 = .ok (.lookupswitch 61 #[(104, 53), (107, 55), (109, 57), (112, 59), (119, 51)], 51) := by decide +kernel
theorem dX6_letterOf_52 : decode cX6_letterOf 52 = .ok (.iconst 0, 1) := by decide +kernel
theorem dX6_letterOf_53 : decode cX6_letterOf 53 = .ok (.ireturn, 1) := by decide +kernel
theorem dX6_letterOf_54 : decode cX6_letterOf 54 = .ok (.iconst 1, 1) := by decide +kernel
theorem dX6_letterOf_55 : decode cX6_letterOf 55 = .ok (.ireturn, 1) := by decide +kernel
theorem dX6_letterOf_56 : decode cX6_letterOf 56 = .ok (.iconst 2, 1) := by decide +kernel
theorem dX6_letterOf_57 : decode cX6_letterOf 57 = .ok (.ireturn, 1) := by decide +kernel
theorem dX6_letterOf_58 : decode cX6_letterOf 58 = .ok (.iconst 3, 1) := by decide +kernel
theorem dX6_letterOf_59 : decode cX6_letterOf 59 = .ok (.ireturn, 1) := by decide +kernel
theorem dX6_letterOf_60 : decode cX6_letterOf 60 = .ok (.iconst 4, 1) := by decide +kernel
theorem dX6_letterOf_61 : decode cX6_letterOf 61 = .ok (.ireturn, 1) := by decide +kernel
theorem dX6_letterOf_62 : decode cX6_letterOf 62 = .ok (.iconst (-1), 1) := by decide +kernel
theorem dX6_letterOf_63 : decode cX6_letterOf 63 = .ok (.ireturn, 1) := by decide +kernel
theorem dX6_digits_0 : decode cX6_digits 0 = .ok (.aload_n 0, 1) := by decide +kernel
theorem dX6_digits_1 : decode cX6_digits 1 = .ok (.getfield 41, 3) := by decide +kernel
theorem dX6_digits_4 : decode cX6_digits 4 = .ok (.istore_n 2, 1) := by decide +kernel
theorem dX6_digits_5 : decode cX6_digits 5 = .ok (.iconst 0, 1) := by decide +kernel
theorem dX6_digits_6 : decode cX6_digits 6 = .ok (.istore_n 3, 1) := by decide +kernel
theorem dX6_digits_7 : decode cX6_digits 7 = .ok (.iconst 0, 1) := by decide +kernel
theorem dX6_digits_8 : decode cX6_digits 8 = .ok (.istore 4, 2) := by decide +kernel
theorem dX6_digits_10 : decode cX6_digits 10 = .ok (.iload 4, 2) := by decide +kernel
theorem dX6_digits_12 : decode cX6_digits 12 = .ok (.iconst 5, 1) := by decide +kernel
theorem dX6_digits_13 : decode cX6_digits 13 = .ok (.if_icmp .gt 63, 3) := by decide +kernel
theorem dX6_digits_16 : decode cX6_digits 16 = .ok (.aload_n 0, 1) := by decide +kernel
theorem dX6_digits_17 : decode cX6_digits 17 = .ok (.invokevirtual 75, 3) := by decide +kernel
theorem dX6_digits_20 : decode cX6_digits 20 = .ok (.bipush 48, 2) := by decide +kernel
theorem dX6_digits_22 : decode cX6_digits 22 = .ok (.bipush 57, 2) := by decide +kernel
theorem dX6_digits_24 : decode cX6_digits 24 = .ok (.invokestatic 126, 3) := by decide +kernel
theorem dX6_digits_27 : decode cX6_digits 27 = .ok (.ifCond .eq 49, 3) := by decide +kernel
theorem dX6_digits_30 : decode cX6_digits 30 = .ok (.iload 4, 2) := by decide +kernel
theorem dX6_digits_32 : decode cX6_digits 32 = .ok (.iconst 5, 1) := by decide +kernel
theorem dX6_digits_33 : decode cX6_digits 33 = .ok (.if_icmp .ne 14, 3) := by decide +kernel
theorem dX6_digits_36 : decode cX6_digits 36 = .ok (.aload_n 0, 1) := by decide +kernel
theorem dX6_digits_37 : decode cX6_digits 37 = .ok (.iconst 2, 1) := by decide +kernel
theorem dX6_digits_38 : decode cX6_digits 38 = .ok (.aload_n 0, 1) := by decide +kernel
theorem dX6_digits_39 : decode cX6_digits 39 = .ok (.getfield 41, 3) := by decide +kernel
theorem dX6_digits_42 : decode cX6_digits 42 = .ok (.invokevirtual 60, 3) := by decide +kernel
theorem dX6_digits_45 : decode cX6_digits 45 = .ok (.iconst 0, 1) := by decide +kernel
theorem dX6_digits_46 : decode cX6_digits 46 = .ok (.ireturn, 1) := by decide +kernel
theorem dX6_digits_47 : decode cX6_digits 47 = .ok (.iload_n 3, 1) := by decide +kernel
theorem dX6_digits_48 : decode cX6_digits 48 = .ok (.bipush 10, 2) := by decide +kernel
theorem dX6_digits_50 : decode cX6_digits 50 = .ok (.imul, 1) := by decide +kernel
theorem dX6_digits_51 : decode cX6_digits 51 = .ok (.aload_n 0, 1) := by decide +kernel
theorem dX6_digits_52 : decode cX6_digits 52 = .ok (.invokevirtual 75, 3) := by decide +kernel
theorem dX6_digits_55 : decode cX6_digits 55 = .ok (.iadd, 1) := by decide +kernel
theorem dX6_digits_56 : decode cX6_digits 56 = .ok (.bipush 48, 2) := by decide +kernel
theorem dX6_digits_58 : decode cX6_digits 58 = .ok (.isub, 1) := by decide +kernel
theorem dX6_digits_59 : decode cX6_digits 59 = .ok (.istore_n 3, 1) := by decide +kernel
theorem dX6_digits_60 : decode cX6_digits 60 = .ok (.aload_n 0, 1) := by decide +kernel
theorem dX6_digits_61 : decode cX6_digits 61 = .ok (.dup, 1) := by decide +kernel
theorem dX6_digits_62 : decode cX6_digits 62 = .ok (.getfield 41, 3) := by decide +kernel
theorem dX6_digits_65 : decode cX6_digits 65 = .ok (.iconst 1, 1) := by decide +kernel
theorem dX6_digits_66 : decode cX6_digits 66 = .ok (.iadd, 1) := by decide +kernel
theorem dX6_digits_67 : decode cX6_digits 67 = .ok (.putfield 41, 3) := by decide +kernel
theorem dX6_digits_70 : decode cX6_digits 70 = .ok (.iinc 4 1, 3) := by decide +kernel
theorem dX6_digits_73 : decode cX6_digits 73 = .ok (.goto (-63), 3) := by decide +kernel
theorem dX6_digits_76 : decode cX6_digits 76 = .ok (.aload_n 0, 1) := by decide +kernel
theorem dX6_digits_77 : decode cX6_digits 77 = .ok (.getfield 41, 3) := by decide +kernel
theorem dX6_digits_80 : decode cX6_digits 80 = .ok (.iload_n 2, 1) := by decide +kernel
theorem dX6_digits_81 : decode cX6_digits 81 = .ok (.if_icmp .ne 15, 3) := by decide +kernel
theorem dX6_digits_84 : decode cX6_digits 84 = .ok (.aload_n 0, 1) := by decide +kernel
theorem dX6_digits_85 : decode cX6_digits 85 = .ok (.iconst 1, 1) := by decide +kernel
theorem dX6_digits_86 : decode cX6_digits 86 = .ok (.aload_n 0, 1) := by decide +kernel
theorem dX6_digits_87 : decode cX6_digits 87 = .ok (.getfield 41, 3) := by decide +kernel
theorem dX6_digits_90 : decode cX6_digits 90 = .ok (.invokevirtual 60, 3) := by decide +kernel
theorem dX6_digits_93 : decode cX6_digits 93 = .ok (.goto 14, 3) := by decide +kernel
theorem dX6_digits_96 : decode cX6_digits 96 = .ok (.iload_n 3, 1) := by decide +kernel
theorem dX6_digits_97 : decode cX6_digits 97 = .ok (.iload_n 1, 1) := by decide +kernel
theorem dX6_digits_98 : decode cX6_digits 98 = .ok (.if_icmp .le 9, 3) := by decide +kernel
theorem dX6_digits_101 : decode cX6_digits 101 = .ok (.aload_n 0, 1) := by decide +kernel
theorem dX6_digits_102 : decode cX6_digits 102 = .ok (.iconst 3, 1) := by decide +kernel
theorem dX6_digits_103 : decode cX6_digits 103 = .ok (.iload_n 2, 1) := by decide +kernel
theorem dX6_digits_104 : decode cX6_digits 104 = .ok (.invokevirtual 60, 3) := by decide +kernel
theorem dX6_digits_107 : decode cX6_digits 107 = .ok (.iload_n 3, 1) := by decide +kernel
theorem dX6_digits_108 : decode cX6_digits 108 = .ok (.ireturn, 1) := by decide +kernel
theorem dX6_peek_0 : decode cX6_peek 0 = .ok (.aload_n 0, 1) := by decide +kernel
theorem dX6_peek_1 : decode cX6_peek 1 = .ok (.getfield 44, 3) := by decide +kernel
theorem dX6_peek_4 : decode cX6_peek 4 = .ok (.ifCond .ne 30, 3) := by decide +kernel
theorem dX6_peek_7 : decode cX6_peek 7 = .ok (.aload_n 0, 1) := by decide +kernel
theorem dX6_peek_8 : decode cX6_peek 8 = .ok (.getfield 41, 3) := by decide +kernel
theorem dX6_peek_11 : decode cX6_peek 11 = .ok (.aload_n 0, 1) := by decide +kernel
theorem dX6_peek_12 : decode cX6_peek 12 = .ok (.getfield 37, 3) := by decide +kernel
theorem dX6_peek_15 : decode cX6_peek 15 = .ok (.if_icmp .ge 19, 3) := by decide +kernel
theorem dX6_peek_18 : decode cX6_peek 18 = .ok (.aload_n 0, 1) := by decide +kernel
theorem dX6_peek_19 : decode cX6_peek 19 = .ok (.getfield 9, 3) := by decide +kernel
theorem dX6_peek_22 : decode cX6_peek 22 = .ok (.aload_n 0, 1) := by decide +kernel
theorem dX6_peek_23 : decode cX6_peek 23 = .ok (.getfield 41, 3) := by decide +kernel
theorem dX6_peek_26 : decode cX6_peek 26 = .ok (.baload, 1) := by decide +kernel
theorem dX6_peek_27 : decode cX6_peek 27 = .ok (.sipush 255, 3) := by decide +kernel
theorem dX6_peek_30 : decode cX6_peek 30 = .ok (.iand, 1) := by decide +kernel
theorem dX6_peek_31 : decode cX6_peek 31 = .ok (.goto 4, 3) := by decide +kernel
theorem dX6_peek_34 : decode cX6_peek 34 = .ok (.iconst (-1), 1) := by decide +kernel
theorem dX6_peek_35 : decode cX6_peek 35 = .ok (.ireturn, 1) := by decide +kernel
theorem dX6_take_0 : decode cX6_take 0 = .ok (.aload_n 0, 1) := by decide +kernel
theorem dX6_take_1 : decode cX6_take 1 = .ok (.invokevirtual 75, 3) := by decide +kernel
theorem dX6_take_4 : decode cX6_take 4 = .ok (.iload_n 1, 1) := by decide +kernel
theorem dX6_take_5 : decode cX6_take 5 = .ok (.if_icmp .eq 5, 3) := by decide +kernel
theorem dX6_take_8 : decode cX6_take 8 = .ok (.iconst 0, 1) := by decide +kernel
theorem dX6_take_9 : decode cX6_take 9 = .ok (.ireturn, 1) := by decide +kernel
theorem dX6_take_10 : decode cX6_take 10 = .ok (.aload_n 0, 1) := by decide +kernel
theorem dX6_take_11 : decode cX6_take 11 = .ok (.dup, 1) := by decide +kernel
theorem dX6_take_12 : decode cX6_take 12 = .ok (.getfield 41, 3) := by decide +kernel
theorem dX6_take_15 : decode cX6_take 15 = .ok (.iconst 1, 1) := by decide +kernel
theorem dX6_take_16 : decode cX6_take 16 = .ok (.iadd, 1) := by decide +kernel
theorem dX6_take_17 : decode cX6_take 17 = .ok (.putfield 41, 3) := by decide +kernel
theorem dX6_take_20 : decode cX6_take 20 = .ok (.iconst 1, 1) := by decide +kernel
theorem dX6_take_21 : decode cX6_take 21 = .ok (.ireturn, 1) := by decide +kernel
theorem dX6_expect_0 : decode cX6_expect 0 = .ok (.aload_n 0, 1) := by decide +kernel
theorem dX6_expect_1 : decode cX6_expect 1 = .ok (.iload_n 1, 1) := by decide +kernel
theorem dX6_expect_2 : decode cX6_expect 2 = .ok (.invokevirtual 56, 3) := by decide +kernel
theorem dX6_expect_5 : decode cX6_expect 5 = .ok (.ifCond .ne 12, 3) := by decide +kernel
theorem dX6_expect_8 : decode cX6_expect 8 = .ok (.aload_n 0, 1) := by decide +kernel
theorem dX6_expect_9 : decode cX6_expect 9 = .ok (.iconst 1, 1) := by decide +kernel
theorem dX6_expect_10 : decode cX6_expect 10 = .ok (.aload_n 0, 1) := by decide +kernel
theorem dX6_expect_11 : decode cX6_expect 11 = .ok (.getfield 41, 3) := by decide +kernel
theorem dX6_expect_14 : decode cX6_expect 14 = .ok (.invokevirtual 60, 3) := by decide +kernel
theorem dX6_expect_17 : decode cX6_expect 17 = .ok (.return_, 1) := by decide +kernel
theorem dX6_opens_0 : decode cX6_opens 0 = .ok (.iload_n 1, 1) := by decide +kernel
theorem dX6_opens_1 : decode cX6_opens 1 = .ok (.bipush 6, 2) := by decide +kernel
theorem dX6_opens_3 : decode cX6_opens 3 = .ok (.if_icmp .lt 14, 3) := by decide +kernel
theorem dX6_opens_6 : decode cX6_opens 6 = .ok (.aload_n 0, 1) := by decide +kernel
theorem dX6_opens_7 : decode cX6_opens 7 = .ok (.iconst 5, 1) := by decide +kernel
theorem dX6_opens_8 : decode cX6_opens 8 = .ok (.aload_n 0, 1) := by decide +kernel
theorem dX6_opens_9 : decode cX6_opens 9 = .ok (.getfield 41, 3) := by decide +kernel
theorem dX6_opens_12 : decode cX6_opens 12 = .ok (.invokevirtual 60, 3) := by decide +kernel
theorem dX6_opens_15 : decode cX6_opens 15 = .ok (.iconst 0, 1) := by decide +kernel
theorem dX6_opens_16 : decode cX6_opens 16 = .ok (.ireturn, 1) := by decide +kernel
theorem dX6_opens_17 : decode cX6_opens 17 = .ok (.aload_n 0, 1) := by decide +kernel
theorem dX6_opens_18 : decode cX6_opens 18 = .ok (.dup, 1) := by decide +kernel
theorem dX6_opens_19 : decode cX6_opens 19 = .ok (.getfield 41, 3) := by decide +kernel
theorem dX6_opens_22 : decode cX6_opens 22 = .ok (.iconst 1, 1) := by decide +kernel
theorem dX6_opens_23 : decode cX6_opens 23 = .ok (.iadd, 1) := by decide +kernel
theorem dX6_opens_24 : decode cX6_opens 24 = .ok (.putfield 41, 3) := by decide +kernel
theorem dX6_opens_27 : decode cX6_opens 27 = .ok (.iconst 1, 1) := by decide +kernel
theorem dX6_opens_28 : decode cX6_opens 28 = .ok (.ireturn, 1) := by decide +kernel
theorem dX6_refuse_0 : decode cX6_refuse 0 = .ok (.aload_n 0, 1) := by decide +kernel
theorem dX6_refuse_1 : decode cX6_refuse 1 = .ok (.getfield 44, 3) := by decide +kernel
theorem dX6_refuse_4 : decode cX6_refuse 4 = .ok (.ifCond .ne 14, 3) := by decide +kernel
theorem dX6_refuse_7 : decode cX6_refuse 7 = .ok (.aload_n 0, 1) := by decide +kernel
theorem dX6_refuse_8 : decode cX6_refuse 8 = .ok (.sipush (-1000), 3) := by decide +kernel
theorem dX6_refuse_11 : decode cX6_refuse 11 = .ok (.iload_n 1, 1) := by decide +kernel
theorem dX6_refuse_12 : decode cX6_refuse 12 = .ok (.imul, 1) := by decide +kernel
theorem dX6_refuse_13 : decode cX6_refuse 13 = .ok (.iload_n 2, 1) := by decide +kernel
theorem dX6_refuse_14 : decode cX6_refuse 14 = .ok (.isub, 1) := by decide +kernel
theorem dX6_refuse_15 : decode cX6_refuse 15 = .ok (.putfield 44, 3) := by decide +kernel
theorem dX6_refuse_18 : decode cX6_refuse 18 = .ok (.return_, 1) := by decide +kernel
theorem dX6_write_0 : decode cX6_write 0 = .ok (.aload_n 0, 1) := by decide +kernel
theorem dX6_write_1 : decode cX6_write 1 = .ok (.getfield 50, 3) := by decide +kernel
theorem dX6_write_4 : decode cX6_write 4 = .ok (.sipush 160, 3) := by decide +kernel
theorem dX6_write_7 : decode cX6_write 7 = .ok (.if_icmp .ge 23, 3) := by decide +kernel
theorem dX6_write_10 : decode cX6_write 10 = .ok (.aload_n 0, 1) := by decide +kernel
theorem dX6_write_11 : decode cX6_write 11 = .ok (.getfield 28, 3) := by decide +kernel
theorem dX6_write_14 : decode cX6_write 14 = .ok (.aload_n 0, 1) := by decide +kernel
theorem dX6_write_15 : decode cX6_write 15 = .ok (.getfield 50, 3) := by decide +kernel
theorem dX6_write_18 : decode cX6_write 18 = .ok (.iload_n 1, 1) := by decide +kernel
theorem dX6_write_19 : decode cX6_write 19 = .ok (.iastore, 1) := by decide +kernel
theorem dX6_write_20 : decode cX6_write 20 = .ok (.aload_n 0, 1) := by decide +kernel
theorem dX6_write_21 : decode cX6_write 21 = .ok (.dup, 1) := by decide +kernel
theorem dX6_write_22 : decode cX6_write 22 = .ok (.getfield 50, 3) := by decide +kernel
theorem dX6_write_25 : decode cX6_write 25 = .ok (.iconst 1, 1) := by decide +kernel
theorem dX6_write_26 : decode cX6_write 26 = .ok (.iadd, 1) := by decide +kernel
theorem dX6_write_27 : decode cX6_write 27 = .ok (.putfield 50, 3) := by decide +kernel
theorem dX6_write_30 : decode cX6_write 30 = .ok (.aload_n 0, 1) := by decide +kernel
theorem dX6_write_31 : decode cX6_write 31 = .ok (.getfield 50, 3) := by decide +kernel
theorem dX6_write_34 : decode cX6_write 34 = .ok (.iconst 1, 1) := by decide +kernel
theorem dX6_write_35 : decode cX6_write 35 = .ok (.isub, 1) := by decide +kernel
theorem dX6_write_36 : decode cX6_write 36 = .ok (.ireturn, 1) := by decide +kernel
theorem dX6_land_0 : decode cX6_land 0 = .ok (.iload_n 1, 1) := by decide +kernel
theorem dX6_land_1 : decode cX6_land 1 = .ok (.ifCond .lt 32, 3) := by decide +kernel
theorem dX6_land_4 : decode cX6_land 4 = .ok (.iload_n 1, 1) := by decide +kernel
theorem dX6_land_5 : decode cX6_land 5 = .ok (.aload_n 0, 1) := by decide +kernel
theorem dX6_land_6 : decode cX6_land 6 = .ok (.getfield 50, 3) := by decide +kernel
theorem dX6_land_9 : decode cX6_land 9 = .ok (.if_icmp .ge 24, 3) := by decide +kernel
theorem dX6_land_12 : decode cX6_land 12 = .ok (.aload_n 0, 1) := by decide +kernel
theorem dX6_land_13 : decode cX6_land 13 = .ok (.getfield 28, 3) := by decide +kernel
theorem dX6_land_16 : decode cX6_land 16 = .ok (.iload_n 1, 1) := by decide +kernel
theorem dX6_land_17 : decode cX6_land 17 = .ok (.dup2, 1) := by decide +kernel
theorem dX6_land_18 : decode cX6_land 18 = .ok (.iaload, 1) := by decide +kernel
theorem dX6_land_19 : decode cX6_land 19 = .ok (.aload_n 0, 1) := by decide +kernel
theorem dX6_land_20 : decode cX6_land 20 = .ok (.getfield 50, 3) := by decide +kernel
theorem dX6_land_23 : decode cX6_land 23 = .ok (.iconst 1, 1) := by decide +kernel
theorem dX6_land_24 : decode cX6_land 24 = .ok (.isub, 1) := by decide +kernel
theorem dX6_land_25 : decode cX6_land 25 = .ok (.iload_n 1, 1) := by decide +kernel
theorem dX6_land_26 : decode cX6_land 26 = .ok (.isub, 1) := by decide +kernel
theorem dX6_land_27 : decode cX6_land 27 = .ok (.sipush 256, 3) := by decide +kernel
theorem dX6_land_30 : decode cX6_land 30 = .ok (.imul, 1) := by decide +kernel
theorem dX6_land_31 : decode cX6_land 31 = .ok (.isub, 1) := by decide +kernel
theorem dX6_land_32 : decode cX6_land 32 = .ok (.iastore, 1) := by decide +kernel
theorem dX6_land_33 : decode cX6_land 33 = .ok (.return_, 1) := by decide +kernel
theorem dX7_init_0 : decode cX7_init 0 = .ok (.aload_n 0, 1) := by decide +kernel
theorem dX7_init_1 : decode cX7_init 1 = .ok (.invokespecial 3, 3) := by decide +kernel
theorem dX7_init_4 : decode cX7_init 4 = .ok (.aload_n 0, 1) := by decide +kernel
theorem dX7_init_5 : decode cX7_init 5 = .ok (.aload_n 1, 1) := by decide +kernel
theorem dX7_init_6 : decode cX7_init 6 = .ok (.putfield 9, 3) := by decide +kernel
theorem dX7_init_9 : decode cX7_init 9 = .ok (.aload_n 0, 1) := by decide +kernel
theorem dX7_init_10 : decode cX7_init 10 = .ok (.aload_n 2, 1) := by decide +kernel
theorem dX7_init_11 : decode cX7_init 11 = .ok (.putfield 15, 3) := by decide +kernel
theorem dX7_init_14 : decode cX7_init 14 = .ok (.aload_n 0, 1) := by decide +kernel
theorem dX7_init_15 : decode cX7_init 15 = .ok (.aload_n 3, 1) := by decide +kernel
theorem dX7_init_16 : decode cX7_init 16 = .ok (.putfield 18, 3) := by decide +kernel
theorem dX7_init_19 : decode cX7_init 19 = .ok (.aload_n 0, 1) := by decide +kernel
theorem dX7_init_20 : decode cX7_init 20 = .ok (.aload 4, 2) := by decide +kernel
theorem dX7_init_22 : decode cX7_init 22 = .ok (.putfield 21, 3) := by decide +kernel
theorem dX7_init_25 : decode cX7_init 25 = .ok (.aload_n 0, 1) := by decide +kernel
theorem dX7_init_26 : decode cX7_init 26 = .ok (.aload 5, 2) := by decide +kernel
theorem dX7_init_28 : decode cX7_init 28 = .ok (.putfield 24, 3) := by decide +kernel
theorem dX7_init_31 : decode cX7_init 31 = .ok (.return_, 1) := by decide +kernel
theorem dX7_clauses_0 : decode cX7_clauses 0 = .ok (.aload_n 0, 1) := by decide +kernel
theorem dX7_clauses_1 : decode cX7_clauses 1 = .ok (.getfield 9, 3) := by decide +kernel
theorem dX7_clauses_4 : decode cX7_clauses 4 = .ok (.arraylength, 1) := by decide +kernel
theorem dX7_clauses_5 : decode cX7_clauses 5 = .ok (.ireturn, 1) := by decide +kernel
theorem dX7_strikeIn_0 : decode cX7_strikeIn 0 = .ok (.iconst 0, 1) := by decide +kernel
theorem dX7_strikeIn_1 : decode cX7_strikeIn 1 = .ok (.istore_n 3, 1) := by decide +kernel
theorem dX7_strikeIn_2 : decode cX7_strikeIn 2 = .ok (.iload_n 3, 1) := by decide +kernel
theorem dX7_strikeIn_3 : decode cX7_strikeIn 3 = .ok (.aload_n 0, 1) := by decide +kernel
theorem dX7_strikeIn_4 : decode cX7_strikeIn 4 = .ok (.getfield 9, 3) := by decide +kernel
theorem dX7_strikeIn_7 : decode cX7_strikeIn 7 = .ok (.arraylength, 1) := by decide +kernel
theorem dX7_strikeIn_8 : decode cX7_strikeIn 8 = .ok (.if_icmp .ge 59, 3) := by decide +kernel
theorem dX7_strikeIn_11 : decode cX7_strikeIn 11 = .ok (.aload_n 0, 1) := by decide +kernel
theorem dX7_strikeIn_12 : decode cX7_strikeIn 12 = .ok (.getfield 9, 3) := by decide +kernel
theorem dX7_strikeIn_15 : decode cX7_strikeIn 15 = .ok (.iload_n 3, 1) := by decide +kernel
theorem dX7_strikeIn_16 : decode cX7_strikeIn 16 = .ok (.iaload, 1) := by decide +kernel
theorem dX7_strikeIn_17 : decode cX7_strikeIn 17 = .ok (.bipush 120, 2) := by decide +kernel
theorem dX7_strikeIn_19 : decode cX7_strikeIn 19 = .ok (.if_icmp .ne 42, 3) := by decide +kernel
theorem dX7_strikeIn_22 : decode cX7_strikeIn 22 = .ok (.aload_n 1, 1) := by decide +kernel
theorem dX7_strikeIn_23 : decode cX7_strikeIn 23 = .ok (.iload_n 2, 1) := by decide +kernel
theorem dX7_strikeIn_24 : decode cX7_strikeIn 24 = .ok (.iaload, 1) := by decide +kernel
theorem dX7_strikeIn_25 : decode cX7_strikeIn 25 = .ok (.iload_n 3, 1) := by decide +kernel
theorem dX7_strikeIn_26 : decode cX7_strikeIn 26 = .ok (.ishr, 1) := by decide +kernel
theorem dX7_strikeIn_27 : decode cX7_strikeIn 27 = .ok (.iconst 1, 1) := by decide +kernel
theorem dX7_strikeIn_28 : decode cX7_strikeIn 28 = .ok (.iand, 1) := by decide +kernel
theorem dX7_strikeIn_29 : decode cX7_strikeIn 29 = .ok (.ifCond .ne 32, 3) := by decide +kernel
theorem dX7_strikeIn_32 : decode cX7_strikeIn 32 = .ok (.aload_n 0, 1) := by decide +kernel
theorem dX7_strikeIn_33 : decode cX7_strikeIn 33 = .ok (.getfield 15, 3) := by decide +kernel
theorem dX7_strikeIn_36 : decode cX7_strikeIn 36 = .ok (.iload_n 3, 1) := by decide +kernel
theorem dX7_strikeIn_37 : decode cX7_strikeIn 37 = .ok (.iaload, 1) := by decide +kernel
theorem dX7_strikeIn_38 : decode cX7_strikeIn 38 = .ok (.iload_n 2, 1) := by decide +kernel
theorem dX7_strikeIn_39 : decode cX7_strikeIn 39 = .ok (.if_icmp .ge 22, 3) := by decide +kernel
theorem dX7_strikeIn_42 : decode cX7_strikeIn 42 = .ok (.aload_n 1, 1) := by decide +kernel
theorem dX7_strikeIn_43 : decode cX7_strikeIn 43 = .ok (.aload_n 0, 1) := by decide +kernel
theorem dX7_strikeIn_44 : decode cX7_strikeIn 44 = .ok (.getfield 15, 3) := by decide +kernel
theorem dX7_strikeIn_47 : decode cX7_strikeIn 47 = .ok (.iload_n 3, 1) := by decide +kernel
theorem dX7_strikeIn_48 : decode cX7_strikeIn 48 = .ok (.iaload, 1) := by decide +kernel
theorem dX7_strikeIn_49 : decode cX7_strikeIn 49 = .ok (.dup2, 1) := by decide +kernel
theorem dX7_strikeIn_50 : decode cX7_strikeIn 50 = .ok (.iaload, 1) := by decide +kernel
theorem dX7_strikeIn_51 : decode cX7_strikeIn 51 = .ok (.iconst 1, 1) := by decide +kernel
theorem dX7_strikeIn_52 : decode cX7_strikeIn 52 = .ok (.aload_n 0, 1) := by decide +kernel
theorem dX7_strikeIn_53 : decode cX7_strikeIn 53 = .ok (.getfield 18, 3) := by decide +kernel
theorem dX7_strikeIn_56 : decode cX7_strikeIn 56 = .ok (.iload_n 3, 1) := by decide +kernel
theorem dX7_strikeIn_57 : decode cX7_strikeIn 57 = .ok (.iaload, 1) := by decide +kernel
theorem dX7_strikeIn_58 : decode cX7_strikeIn 58 = .ok (.ishl, 1) := by decide +kernel
theorem dX7_strikeIn_59 : decode cX7_strikeIn 59 = .ok (.ior, 1) := by decide +kernel
theorem dX7_strikeIn_60 : decode cX7_strikeIn 60 = .ok (.iastore, 1) := by decide +kernel
theorem dX7_strikeIn_61 : decode cX7_strikeIn 61 = .ok (.iinc 3 1, 3) := by decide +kernel
theorem dX7_strikeIn_64 : decode cX7_strikeIn 64 = .ok (.goto (-62), 3) := by decide +kernel
theorem dX7_strikeIn_67 : decode cX7_strikeIn 67 = .ok (.return_, 1) := by decide +kernel
theorem dX7_lastOf_0 : decode cX7_lastOf 0 = .ok (.aload_n 0, 1) := by decide +kernel
theorem dX7_lastOf_1 : decode cX7_lastOf 1 = .ok (.getfield 9, 3) := by decide +kernel
theorem dX7_lastOf_4 : decode cX7_lastOf 4 = .ok (.arraylength, 1) := by decide +kernel
theorem dX7_lastOf_5 : decode cX7_lastOf 5 = .ok (.iconst 1, 1) := by decide +kernel
theorem dX7_lastOf_6 : decode cX7_lastOf 6 = .ok (.isub, 1) := by decide +kernel
theorem dX7_lastOf_7 : decode cX7_lastOf 7 = .ok (.istore 5, 2) := by decide +kernel
theorem dX7_lastOf_9 : decode cX7_lastOf 9 = .ok (.iload 5, 2) := by decide +kernel
theorem dX7_lastOf_11 : decode cX7_lastOf 11 = .ok (.ifCond .lt 49, 3) := by decide +kernel
theorem dX7_lastOf_14 : decode cX7_lastOf 14 = .ok (.aload_n 0, 1) := by decide +kernel
theorem dX7_lastOf_15 : decode cX7_lastOf 15 = .ok (.getfield 9, 3) := by decide +kernel
theorem dX7_lastOf_18 : decode cX7_lastOf 18 = .ok (.iload 5, 2) := by decide +kernel
theorem dX7_lastOf_20 : decode cX7_lastOf 20 = .ok (.iaload, 1) := by decide +kernel
theorem dX7_lastOf_21 : decode cX7_lastOf 21 = .ok (.iload_n 1, 1) := by decide +kernel
theorem dX7_lastOf_22 : decode cX7_lastOf 22 = .ok (.if_icmp .ne 32, 3) := by decide +kernel
theorem dX7_lastOf_25 : decode cX7_lastOf 25 = .ok (.iload_n 2, 1) := by decide +kernel
theorem dX7_lastOf_26 : decode cX7_lastOf 26 = .ok (.iload 5, 2) := by decide +kernel
theorem dX7_lastOf_28 : decode cX7_lastOf 28 = .ok (.ishr, 1) := by decide +kernel
theorem dX7_lastOf_29 : decode cX7_lastOf 29 = .ok (.iconst 1, 1) := by decide +kernel
theorem dX7_lastOf_30 : decode cX7_lastOf 30 = .ok (.iand, 1) := by decide +kernel
theorem dX7_lastOf_31 : decode cX7_lastOf 31 = .ok (.ifCond .ne 23, 3) := by decide +kernel
theorem dX7_lastOf_34 : decode cX7_lastOf 34 = .ok (.aload_n 0, 1) := by decide +kernel
theorem dX7_lastOf_35 : decode cX7_lastOf 35 = .ok (.iload 5, 2) := by decide +kernel
theorem dX7_lastOf_37 : decode cX7_lastOf 37 = .ok (.aload_n 3, 1) := by decide +kernel
theorem dX7_lastOf_38 : decode cX7_lastOf 38 = .ok (.aload 4, 2) := by decide +kernel
theorem dX7_lastOf_40 : decode cX7_lastOf 40 = .ok (.invokevirtual 27, 3) := by decide +kernel
theorem dX7_lastOf_43 : decode cX7_lastOf 43 = .ok (.ifCond .eq 11, 3) := by decide +kernel
theorem dX7_lastOf_46 : decode cX7_lastOf 46 = .ok (.aload_n 0, 1) := by decide +kernel
theorem dX7_lastOf_47 : decode cX7_lastOf 47 = .ok (.getfield 15, 3) := by decide +kernel
theorem dX7_lastOf_50 : decode cX7_lastOf 50 = .ok (.iload 5, 2) := by decide +kernel
theorem dX7_lastOf_52 : decode cX7_lastOf 52 = .ok (.iaload, 1) := by decide +kernel
theorem dX7_lastOf_53 : decode cX7_lastOf 53 = .ok (.ireturn, 1) := by decide +kernel
theorem dX7_lastOf_54 : decode cX7_lastOf 54 = .ok (.iinc 5 (-1), 3) := by decide +kernel
theorem dX7_lastOf_57 : decode cX7_lastOf 57 = .ok (.goto (-48), 3) := by decide +kernel
theorem dX7_lastOf_60 : decode cX7_lastOf 60 = .ok (.iconst (-1), 1) := by decide +kernel
theorem dX7_lastOf_61 : decode cX7_lastOf 61 = .ok (.ireturn, 1) := by decide +kernel
theorem dX7_lines_0 : decode cX7_lines 0 = .ok (.iconst 0, 1) := by decide +kernel
theorem dX7_lines_1 : decode cX7_lines 1 = .ok (.istore 4, 2) := by decide +kernel
theorem dX7_lines_3 : decode cX7_lines 3 = .ok (.iconst 0, 1) := by decide +kernel
theorem dX7_lines_4 : decode cX7_lines 4 = .ok (.istore 5, 2) := by decide +kernel
theorem dX7_lines_6 : decode cX7_lines 6 = .ok (.iload 5, 2) := by decide +kernel
theorem dX7_lines_8 : decode cX7_lines 8 = .ok (.aload_n 0, 1) := by decide +kernel
theorem dX7_lines_9 : decode cX7_lines 9 = .ok (.getfield 9, 3) := by decide +kernel
theorem dX7_lines_12 : decode cX7_lines 12 = .ok (.arraylength, 1) := by decide +kernel
theorem dX7_lines_13 : decode cX7_lines 13 = .ok (.if_icmp .ge 55, 3) := by decide +kernel
theorem dX7_lines_16 : decode cX7_lines 16 = .ok (.aload_n 0, 1) := by decide +kernel
theorem dX7_lines_17 : decode cX7_lines 17 = .ok (.getfield 9, 3) := by decide +kernel
theorem dX7_lines_20 : decode cX7_lines 20 = .ok (.iload 5, 2) := by decide +kernel
theorem dX7_lines_22 : decode cX7_lines 22 = .ok (.iaload, 1) := by decide +kernel
theorem dX7_lines_23 : decode cX7_lines 23 = .ok (.bipush 110, 2) := by decide +kernel
theorem dX7_lines_25 : decode cX7_lines 25 = .ok (.if_icmp .ne 37, 3) := by decide +kernel
theorem dX7_lines_28 : decode cX7_lines 28 = .ok (.iload_n 1, 1) := by decide +kernel
theorem dX7_lines_29 : decode cX7_lines 29 = .ok (.iload 5, 2) := by decide +kernel
theorem dX7_lines_31 : decode cX7_lines 31 = .ok (.ishr, 1) := by decide +kernel
theorem dX7_lines_32 : decode cX7_lines 32 = .ok (.iconst 1, 1) := by decide +kernel
theorem dX7_lines_33 : decode cX7_lines 33 = .ok (.iand, 1) := by decide +kernel
theorem dX7_lines_34 : decode cX7_lines 34 = .ok (.ifCond .ne 28, 3) := by decide +kernel
theorem dX7_lines_37 : decode cX7_lines 37 = .ok (.aload_n 0, 1) := by decide +kernel
theorem dX7_lines_38 : decode cX7_lines 38 = .ok (.iload 5, 2) := by decide +kernel
theorem dX7_lines_40 : decode cX7_lines 40 = .ok (.aload_n 2, 1) := by decide +kernel
theorem dX7_lines_41 : decode cX7_lines 41 = .ok (.aload_n 3, 1) := by decide +kernel
theorem dX7_lines_42 : decode cX7_lines 42 = .ok (.invokevirtual 27, 3) := by decide +kernel
theorem dX7_lines_45 : decode cX7_lines 45 = .ok (.ifCond .eq 17, 3) := by decide +kernel
theorem dX7_lines_48 : decode cX7_lines 48 = .ok (.iload 4, 2) := by decide +kernel
theorem dX7_lines_50 : decode cX7_lines 50 = .ok (.iconst 1, 1) := by decide +kernel
theorem dX7_lines_51 : decode cX7_lines 51 = .ok (.aload_n 0, 1) := by decide +kernel
theorem dX7_lines_52 : decode cX7_lines 52 = .ok (.getfield 15, 3) := by decide +kernel
theorem dX7_lines_55 : decode cX7_lines 55 = .ok (.iload 5, 2) := by decide +kernel
theorem dX7_lines_57 : decode cX7_lines 57 = .ok (.iaload, 1) := by decide +kernel
theorem dX7_lines_58 : decode cX7_lines 58 = .ok (.ishl, 1) := by decide +kernel
theorem dX7_lines_59 : decode cX7_lines 59 = .ok (.ior, 1) := by decide +kernel
theorem dX7_lines_60 : decode cX7_lines 60 = .ok (.istore 4, 2) := by decide +kernel
theorem dX7_lines_62 : decode cX7_lines 62 = .ok (.iinc 5 1, 3) := by decide +kernel
theorem dX7_lines_65 : decode cX7_lines 65 = .ok (.goto (-59), 3) := by decide +kernel
theorem dX7_lines_68 : decode cX7_lines 68 = .ok (.iload 4, 2) := by decide +kernel
theorem dX7_lines_70 : decode cX7_lines 70 = .ok (.ireturn, 1) := by decide +kernel
theorem dX7_holds_0 : decode cX7_holds 0 = .ok (.iload_n 1, 1) := by decide +kernel
theorem dX7_holds_1 : decode cX7_holds 1 = .ok (.ifCond .ne 7, 3) := by decide +kernel
theorem dX7_holds_4 : decode cX7_holds 4 = .ok (.iconst 0, 1) := by decide +kernel
theorem dX7_holds_5 : decode cX7_holds 5 = .ok (.goto 11, 3) := by decide +kernel
theorem dX7_holds_8 : decode cX7_holds 8 = .ok (.aload_n 0, 1) := by decide +kernel
theorem dX7_holds_9 : decode cX7_holds 9 = .ok (.getfield 21, 3) := by decide +kernel
theorem dX7_holds_12 : decode cX7_holds 12 = .ok (.iload_n 1, 1) := by decide +kernel
theorem dX7_holds_13 : decode cX7_holds 13 = .ok (.iconst 1, 1) := by decide +kernel
theorem dX7_holds_14 : decode cX7_holds 14 = .ok (.isub, 1) := by decide +kernel
theorem dX7_holds_15 : decode cX7_holds 15 = .ok (.iaload, 1) := by decide +kernel
theorem dX7_holds_16 : decode cX7_holds 16 = .ok (.istore 4, 2) := by decide +kernel
theorem dX7_holds_18 : decode cX7_holds 18 = .ok (.iconst 0, 1) := by decide +kernel
theorem dX7_holds_19 : decode cX7_holds 19 = .ok (.istore 5, 2) := by decide +kernel
theorem dX7_holds_21 : decode cX7_holds 21 = .ok (.iload 4, 2) := by decide +kernel
theorem dX7_holds_23 : decode cX7_holds 23 = .ok (.istore 6, 2) := by decide +kernel
theorem dX7_holds_25 : decode cX7_holds 25 = .ok (.iload 6, 2) := by decide +kernel
theorem dX7_holds_27 : decode cX7_holds 27 = .ok (.aload_n 0, 1) := by decide +kernel
theorem dX7_holds_28 : decode cX7_holds 28 = .ok (.getfield 21, 3) := by decide +kernel
theorem dX7_holds_31 : decode cX7_holds 31 = .ok (.iload_n 1, 1) := by decide +kernel
theorem dX7_holds_32 : decode cX7_holds 32 = .ok (.iaload, 1) := by decide +kernel
theorem dX7_holds_33 : decode cX7_holds 33 = .ok (.if_icmp .ge 217, 3) := by decide +kernel
theorem dX7_holds_36 : decode cX7_holds 36 = .ok (.aload_n 0, 1) := by decide +kernel
theorem dX7_holds_37 : decode cX7_holds 37 = .ok (.getfield 24, 3) := by decide +kernel
theorem dX7_holds_40 : decode cX7_holds 40 = .ok (.iload 6, 2) := by decide +kernel
theorem dX7_holds_42 : decode cX7_holds 42 = .ok (.iaload, 1) := by decide +kernel
theorem dX7_holds_43 : decode cX7_holds 43 = .ok (.istore 7, 2) := by decide +kernel
theorem dX7_holds_45 : decode cX7_holds 45 = .ok (.iload 7, 2) := by decide +kernel
theorem dX7_holds_47 : decode cX7_holds 47 = .ok (.ineg, 1) := by decide +kernel
theorem dX7_holds_48 : decode cX7_holds 48 = .ok (.sipush 255, 3) := by decide +kernel
theorem dX7_holds_51 : decode cX7_holds 51 = .ok (.iand, 1) := by decide +kernel
theorem dX7_holds_52 : decode cX7_holds 52 = .ok (.istore 8, 2) := by decide +kernel
theorem dX7_holds_54 : decode cX7_holds 54 = .ok (.iload 7, 2) := by decide +kernel
theorem dX7_holds_56 : decode cX7_holds 56 = .ok (.ifCond .lt 41, 3) := by decide +kernel
theorem dX7_holds_59 : decode cX7_holds 59 = .ok (.iload 5, 2) := by decide +kernel
theorem dX7_holds_61 : decode cX7_holds 61 = .ok (.aload_n 3, 1) := by decide +kernel
theorem dX7_holds_62 : decode cX7_holds 62 = .ok (.arraylength, 1) := by decide +kernel
theorem dX7_holds_63 : decode cX7_holds 63 = .ok (.if_icmp .lt 5, 3) := by decide +kernel
theorem dX7_holds_66 : decode cX7_holds 66 = .ok (.iconst 0, 1) := by decide +kernel
theorem dX7_holds_67 : decode cX7_holds 67 = .ok (.ireturn, 1) := by decide +kernel
theorem dX7_holds_68 : decode cX7_holds 68 = .ok (.aload_n 3, 1) := by decide +kernel
theorem dX7_holds_69 : decode cX7_holds 69 = .ok (.iload 5, 2) := by decide +kernel
theorem dX7_holds_71 : decode cX7_holds 71 = .ok (.iload 7, 2) := by decide +kernel
theorem dX7_holds_73 : decode cX7_holds 73 = .ok (.ldc 31, 2) := by decide +kernel
theorem dX7_holds_75 : decode cX7_holds 75 = .ok (.if_icmp .ge 8, 3) := by decide +kernel
theorem dX7_holds_78 : decode cX7_holds 78 = .ok (.iload 7, 2) := by decide +kernel
theorem dX7_holds_80 : decode cX7_holds 80 = .ok (.goto 10, 3) := by decide +kernel
theorem dX7_holds_83 : decode cX7_holds 83 = .ok (.aload_n 2, 1) := by decide +kernel
theorem dX7_holds_84 : decode cX7_holds 84 = .ok (.iload 7, 2) := by decide +kernel
theorem dX7_holds_86 : decode cX7_holds 86 = .ok (.ldc 31, 2) := by decide +kernel
theorem dX7_holds_88 : decode cX7_holds 88 = .ok (.isub, 1) := by decide +kernel
theorem dX7_holds_89 : decode cX7_holds 89 = .ok (.iaload, 1) := by decide +kernel
theorem dX7_holds_90 : decode cX7_holds 90 = .ok (.iastore, 1) := by decide +kernel
theorem dX7_holds_91 : decode cX7_holds 91 = .ok (.iinc 5 1, 3) := by decide +kernel
theorem dX7_holds_94 : decode cX7_holds 94 = .ok (.goto 150, 3) := by decide +kernel
theorem dX7_holds_97 : decode cX7_holds 97 = .ok (.iload 5, 2) := by decide +kernel
theorem dX7_holds_99 : decode cX7_holds 99 = .ok (.iconst 1, 1) := by decide +kernel
theorem dX7_holds_100 : decode cX7_holds 100 = .ok (.if_icmp .ge 5, 3) := by decide +kernel
theorem dX7_holds_103 : decode cX7_holds 103 = .ok (.iconst 0, 1) := by decide +kernel
theorem dX7_holds_104 : decode cX7_holds 104 = .ok (.ireturn, 1) := by decide +kernel
theorem dX7_holds_105 : decode cX7_holds 105 = .ok (.iload 8, 2) := by decide +kernel
theorem dX7_holds_107 : decode cX7_holds 107 = .ok (.bipush 33, 2) := by decide +kernel
theorem dX7_holds_109 : decode cX7_holds 109 = .ok (.if_icmp .ne 20, 3) := by decide +kernel
theorem dX7_holds_112 : decode cX7_holds 112 = .ok (.aload_n 3, 1) := by decide +kernel
theorem dX7_holds_113 : decode cX7_holds 113 = .ok (.iload 5, 2) := by decide +kernel
theorem dX7_holds_115 : decode cX7_holds 115 = .ok (.iconst 1, 1) := by decide +kernel
theorem dX7_holds_116 : decode cX7_holds 116 = .ok (.isub, 1) := by decide +kernel
theorem dX7_holds_117 : decode cX7_holds 117 = .ok (.iconst 1, 1) := by decide +kernel
theorem dX7_holds_118 : decode cX7_holds 118 = .ok (.aload_n 3, 1) := by decide +kernel
theorem dX7_holds_119 : decode cX7_holds 119 = .ok (.iload 5, 2) := by decide +kernel
theorem dX7_holds_121 : decode cX7_holds 121 = .ok (.iconst 1, 1) := by decide +kernel
theorem dX7_holds_122 : decode cX7_holds 122 = .ok (.isub, 1) := by decide +kernel
theorem dX7_holds_123 : decode cX7_holds 123 = .ok (.iaload, 1) := by decide +kernel
theorem dX7_holds_124 : decode cX7_holds 124 = .ok (.isub, 1) := by decide +kernel
theorem dX7_holds_125 : decode cX7_holds 125 = .ok (.iastore, 1) := by decide +kernel
theorem dX7_holds_126 : decode cX7_holds 126 = .ok (.goto 118, 3) := by decide +kernel
theorem dX7_holds_129 : decode cX7_holds 129 = .ok (.iload 8, 2) := by decide +kernel
theorem dX7_holds_131 : decode cX7_holds 131 = .ok (.bipush 38, 2) := by decide +kernel
theorem dX7_holds_133 : decode cX7_holds 133 = .ok (.if_icmp .eq 10, 3) := by decide +kernel
theorem dX7_holds_136 : decode cX7_holds 136 = .ok (.iload 8, 2) := by decide +kernel
theorem dX7_holds_138 : decode cX7_holds 138 = .ok (.bipush 124, 2) := by decide +kernel
theorem dX7_holds_140 : decode cX7_holds 140 = .ok (.if_icmp .ne 49, 3) := by decide +kernel
theorem dX7_holds_143 : decode cX7_holds 143 = .ok (.iload 8, 2) := by decide +kernel
theorem dX7_holds_145 : decode cX7_holds 145 = .ok (.bipush 124, 2) := by decide +kernel
theorem dX7_holds_147 : decode cX7_holds 147 = .ok (.if_icmp .ne 7, 3) := by decide +kernel
theorem dX7_holds_150 : decode cX7_holds 150 = .ok (.iconst 1, 1) := by decide +kernel
theorem dX7_holds_151 : decode cX7_holds 151 = .ok (.goto 4, 3) := by decide +kernel
theorem dX7_holds_154 : decode cX7_holds 154 = .ok (.iconst 0, 1) := by decide +kernel
theorem dX7_holds_155 : decode cX7_holds 155 = .ok (.istore 9, 2) := by decide +kernel
theorem dX7_holds_157 : decode cX7_holds 157 = .ok (.aload_n 3, 1) := by decide +kernel
theorem dX7_holds_158 : decode cX7_holds 158 = .ok (.iload 5, 2) := by decide +kernel
theorem dX7_holds_160 : decode cX7_holds 160 = .ok (.iconst 1, 1) := by decide +kernel
theorem dX7_holds_161 : decode cX7_holds 161 = .ok (.isub, 1) := by decide +kernel
theorem dX7_holds_162 : decode cX7_holds 162 = .ok (.iaload, 1) := by decide +kernel
theorem dX7_holds_163 : decode cX7_holds 163 = .ok (.iload 9, 2) := by decide +kernel
theorem dX7_holds_165 : decode cX7_holds 165 = .ok (.if_icmp .ne 18, 3) := by decide +kernel
theorem dX7_holds_168 : decode cX7_holds 168 = .ok (.iload 6, 2) := by decide +kernel
theorem dX7_holds_170 : decode cX7_holds 170 = .ok (.iload 7, 2) := by decide +kernel
theorem dX7_holds_172 : decode cX7_holds 172 = .ok (.ineg, 1) := by decide +kernel
theorem dX7_holds_173 : decode cX7_holds 173 = .ok (.sipush 256, 3) := by decide +kernel
theorem dX7_holds_176 : decode cX7_holds 176 = .ok (.idiv, 1) := by decide +kernel
theorem dX7_holds_177 : decode cX7_holds 177 = .ok (.iadd, 1) := by decide +kernel
theorem dX7_holds_178 : decode cX7_holds 178 = .ok (.istore 6, 2) := by decide +kernel
theorem dX7_holds_180 : decode cX7_holds 180 = .ok (.goto 6, 3) := by decide +kernel
theorem dX7_holds_183 : decode cX7_holds 183 = .ok (.iinc 5 (-1), 3) := by decide +kernel
theorem dX7_holds_186 : decode cX7_holds 186 = .ok (.goto 58, 3) := by decide +kernel
theorem dX7_holds_189 : decode cX7_holds 189 = .ok (.iload 5, 2) := by decide +kernel
theorem dX7_holds_191 : decode cX7_holds 191 = .ok (.iconst 2, 1) := by decide +kernel
theorem dX7_holds_192 : decode cX7_holds 192 = .ok (.if_icmp .lt 26, 3) := by decide +kernel
theorem dX7_holds_195 : decode cX7_holds 195 = .ok (.aload_n 3, 1) := by decide +kernel
theorem dX7_holds_196 : decode cX7_holds 196 = .ok (.iload 5, 2) := by decide +kernel
theorem dX7_holds_198 : decode cX7_holds 198 = .ok (.iconst 1, 1) := by decide +kernel
theorem dX7_holds_199 : decode cX7_holds 199 = .ok (.isub, 1) := by decide +kernel
theorem dX7_holds_200 : decode cX7_holds 200 = .ok (.iaload, 1) := by decide +kernel
theorem dX7_holds_201 : decode cX7_holds 201 = .ok (.ifCond .ne 19, 3) := by decide +kernel
theorem dX7_holds_204 : decode cX7_holds 204 = .ok (.iload 8, 2) := by decide +kernel
theorem dX7_holds_206 : decode cX7_holds 206 = .ok (.bipush 47, 2) := by decide +kernel
theorem dX7_holds_208 : decode cX7_holds 208 = .ok (.if_icmp .eq 10, 3) := by decide +kernel
theorem dX7_holds_211 : decode cX7_holds 211 = .ok (.iload 8, 2) := by decide +kernel
theorem dX7_holds_213 : decode cX7_holds 213 = .ok (.bipush 37, 2) := by decide +kernel
theorem dX7_holds_215 : decode cX7_holds 215 = .ok (.if_icmp .ne 5, 3) := by decide +kernel
theorem dX7_holds_218 : decode cX7_holds 218 = .ok (.iconst 0, 1) := by decide +kernel
theorem dX7_holds_219 : decode cX7_holds 219 = .ok (.ireturn, 1) := by decide +kernel
theorem dX7_holds_220 : decode cX7_holds 220 = .ok (.iinc 5 (-1), 3) := by decide +kernel
theorem dX7_holds_223 : decode cX7_holds 223 = .ok (.aload_n 3, 1) := by decide +kernel
theorem dX7_holds_224 : decode cX7_holds 224 = .ok (.iload 5, 2) := by decide +kernel
theorem dX7_holds_226 : decode cX7_holds 226 = .ok (.iconst 1, 1) := by decide +kernel
theorem dX7_holds_227 : decode cX7_holds 227 = .ok (.isub, 1) := by decide +kernel
theorem dX7_holds_228 : decode cX7_holds 228 = .ok (.iload 8, 2) := by decide +kernel
theorem dX7_holds_230 : decode cX7_holds 230 = .ok (.aload_n 3, 1) := by decide +kernel
theorem dX7_holds_231 : decode cX7_holds 231 = .ok (.iload 5, 2) := by decide +kernel
theorem dX7_holds_233 : decode cX7_holds 233 = .ok (.iconst 1, 1) := by decide +kernel
theorem dX7_holds_234 : decode cX7_holds 234 = .ok (.isub, 1) := by decide +kernel
theorem dX7_holds_235 : decode cX7_holds 235 = .ok (.iaload, 1) := by decide +kernel
theorem dX7_holds_236 : decode cX7_holds 236 = .ok (.aload_n 3, 1) := by decide +kernel
theorem dX7_holds_237 : decode cX7_holds 237 = .ok (.iload 5, 2) := by decide +kernel
theorem dX7_holds_239 : decode cX7_holds 239 = .ok (.iaload, 1) := by decide +kernel
theorem dX7_holds_240 : decode cX7_holds 240 = .ok (.invokestatic 32, 3) := by decide +kernel
theorem dX7_holds_243 : decode cX7_holds 243 = .ok (.iastore, 1) := by decide +kernel
theorem dX7_holds_244 : decode cX7_holds 244 = .ok (.iinc 6 1, 3) := by decide +kernel
theorem dX7_holds_247 : decode cX7_holds 247 = .ok (.goto (-222), 3) := by decide +kernel
theorem dX7_holds_250 : decode cX7_holds 250 = .ok (.iload 5, 2) := by decide +kernel
theorem dX7_holds_252 : decode cX7_holds 252 = .ok (.ifCond .eq 10, 3) := by decide +kernel
theorem dX7_holds_255 : decode cX7_holds 255 = .ok (.aload_n 3, 1) := by decide +kernel
theorem dX7_holds_256 : decode cX7_holds 256 = .ok (.iconst 0, 1) := by decide +kernel
theorem dX7_holds_257 : decode cX7_holds 257 = .ok (.iaload, 1) := by decide +kernel
theorem dX7_holds_258 : decode cX7_holds 258 = .ok (.iconst 1, 1) := by decide +kernel
theorem dX7_holds_259 : decode cX7_holds 259 = .ok (.if_icmp .ne 7, 3) := by decide +kernel
theorem dX7_holds_262 : decode cX7_holds 262 = .ok (.iconst 1, 1) := by decide +kernel
theorem dX7_holds_263 : decode cX7_holds 263 = .ok (.goto 4, 3) := by decide +kernel
theorem dX7_holds_266 : decode cX7_holds 266 = .ok (.iconst 0, 1) := by decide +kernel
theorem dX7_holds_267 : decode cX7_holds 267 = .ok (.ireturn, 1) := by decide +kernel
theorem dX7_reckon_0 : decode cX7_reckon 0 = .ok (.iload_n 0, 1) := by decide +kernel
theorem dX7_reckon_1 : decode cX7_reckon 1 = .ok (.lookupswitch 125 #[(37, 91), (42, 75), (43, 67), (45, 71), (47, 79), (60, 103), (62, 114)], 67) := by decide +kernel
theorem dX7_reckon_68 : decode cX7_reckon 68 = .ok (.iload_n 1, 1) := by decide +kernel
theorem dX7_reckon_69 : decode cX7_reckon 69 = .ok (.iload_n 2, 1) := by decide +kernel
theorem dX7_reckon_70 : decode cX7_reckon 70 = .ok (.iadd, 1) := by decide +kernel
theorem dX7_reckon_71 : decode cX7_reckon 71 = .ok (.ireturn, 1) := by decide +kernel
theorem dX7_reckon_72 : decode cX7_reckon 72 = .ok (.iload_n 1, 1) := by decide +kernel
theorem dX7_reckon_73 : decode cX7_reckon 73 = .ok (.iload_n 2, 1) := by decide +kernel
theorem dX7_reckon_74 : decode cX7_reckon 74 = .ok (.isub, 1) := by decide +kernel
theorem dX7_reckon_75 : decode cX7_reckon 75 = .ok (.ireturn, 1) := by decide +kernel
theorem dX7_reckon_76 : decode cX7_reckon 76 = .ok (.iload_n 1, 1) := by decide +kernel
theorem dX7_reckon_77 : decode cX7_reckon 77 = .ok (.iload_n 2, 1) := by decide +kernel
theorem dX7_reckon_78 : decode cX7_reckon 78 = .ok (.imul, 1) := by decide +kernel
theorem dX7_reckon_79 : decode cX7_reckon 79 = .ok (.ireturn, 1) := by decide +kernel
theorem dX7_reckon_80 : decode cX7_reckon 80 = .ok (.iload_n 2, 1) := by decide +kernel
theorem dX7_reckon_81 : decode cX7_reckon 81 = .ok (.ifCond .ne 7, 3) := by decide +kernel
theorem dX7_reckon_84 : decode cX7_reckon 84 = .ok (.iconst 0, 1) := by decide +kernel
theorem dX7_reckon_85 : decode cX7_reckon 85 = .ok (.goto 6, 3) := by decide +kernel
theorem dX7_reckon_88 : decode cX7_reckon 88 = .ok (.iload_n 1, 1) := by decide +kernel
theorem dX7_reckon_89 : decode cX7_reckon 89 = .ok (.iload_n 2, 1) := by decide +kernel
theorem dX7_reckon_90 : decode cX7_reckon 90 = .ok (.idiv, 1) := by decide +kernel
theorem dX7_reckon_91 : decode cX7_reckon 91 = .ok (.ireturn, 1) := by decide +kernel
theorem dX7_reckon_92 : decode cX7_reckon 92 = .ok (.iload_n 2, 1) := by decide +kernel
theorem dX7_reckon_93 : decode cX7_reckon 93 = .ok (.ifCond .ne 7, 3) := by decide +kernel
theorem dX7_reckon_96 : decode cX7_reckon 96 = .ok (.iconst 0, 1) := by decide +kernel
theorem dX7_reckon_97 : decode cX7_reckon 97 = .ok (.goto 6, 3) := by decide +kernel
theorem dX7_reckon_100 : decode cX7_reckon 100 = .ok (.iload_n 1, 1) := by decide +kernel
theorem dX7_reckon_101 : decode cX7_reckon 101 = .ok (.iload_n 2, 1) := by decide +kernel
theorem dX7_reckon_102 : decode cX7_reckon 102 = .ok (.irem, 1) := by decide +kernel
theorem dX7_reckon_103 : decode cX7_reckon 103 = .ok (.ireturn, 1) := by decide +kernel
theorem dX7_reckon_104 : decode cX7_reckon 104 = .ok (.iload_n 1, 1) := by decide +kernel
theorem dX7_reckon_105 : decode cX7_reckon 105 = .ok (.iload_n 2, 1) := by decide +kernel
theorem dX7_reckon_106 : decode cX7_reckon 106 = .ok (.if_icmp .ge 7, 3) := by decide +kernel
theorem dX7_reckon_109 : decode cX7_reckon 109 = .ok (.iconst 1, 1) := by decide +kernel
theorem dX7_reckon_110 : decode cX7_reckon 110 = .ok (.goto 4, 3) := by decide +kernel
theorem dX7_reckon_113 : decode cX7_reckon 113 = .ok (.iconst 0, 1) := by decide +kernel
theorem dX7_reckon_114 : decode cX7_reckon 114 = .ok (.ireturn, 1) := by decide +kernel
theorem dX7_reckon_115 : decode cX7_reckon 115 = .ok (.iload_n 1, 1) := by decide +kernel
theorem dX7_reckon_116 : decode cX7_reckon 116 = .ok (.iload_n 2, 1) := by decide +kernel
theorem dX7_reckon_117 : decode cX7_reckon 117 = .ok (.if_icmp .le 7, 3) := by decide +kernel
theorem dX7_reckon_120 : decode cX7_reckon 120 = .ok (.iconst 1, 1) := by decide +kernel
theorem dX7_reckon_121 : decode cX7_reckon 121 = .ok (.goto 4, 3) := by decide +kernel
theorem dX7_reckon_124 : decode cX7_reckon 124 = .ok (.iconst 0, 1) := by decide +kernel
theorem dX7_reckon_125 : decode cX7_reckon 125 = .ok (.ireturn, 1) := by decide +kernel
theorem dX7_reckon_126 : decode cX7_reckon 126 = .ok (.iload_n 1, 1) := by decide +kernel
theorem dX7_reckon_127 : decode cX7_reckon 127 = .ok (.iload_n 2, 1) := by decide +kernel
theorem dX7_reckon_128 : decode cX7_reckon 128 = .ok (.if_icmp .ne 7, 3) := by decide +kernel
theorem dX7_reckon_131 : decode cX7_reckon 131 = .ok (.iconst 1, 1) := by decide +kernel
theorem dX7_reckon_132 : decode cX7_reckon 132 = .ok (.goto 4, 3) := by decide +kernel
theorem dX7_reckon_135 : decode cX7_reckon 135 = .ok (.iconst 0, 1) := by decide +kernel
theorem dX7_reckon_136 : decode cX7_reckon 136 = .ok (.ireturn, 1) := by decide +kernel
theorem dX8_init_0 : decode cX8_init 0 = .ok (.aload_n 0, 1) := by decide +kernel
theorem dX8_init_1 : decode cX8_init 1 = .ok (.invokespecial 3, 3) := by decide +kernel
theorem dX8_init_4 : decode cX8_init 4 = .ok (.aload_n 0, 1) := by decide +kernel
theorem dX8_init_5 : decode cX8_init 5 = .ok (.bipush 100, 2) := by decide +kernel
theorem dX8_init_7 : decode cX8_init 7 = .ok (.newarray .int, 2) := by decide +kernel
theorem dX8_init_9 : decode cX8_init 9 = .ok (.putfield 11, 3) := by decide +kernel
theorem dX8_init_12 : decode cX8_init 12 = .ok (.aload_n 0, 1) := by decide +kernel
theorem dX8_init_13 : decode cX8_init 13 = .ok (.bipush 100, 2) := by decide +kernel
theorem dX8_init_15 : decode cX8_init 15 = .ok (.newarray .int, 2) := by decide +kernel
theorem dX8_init_17 : decode cX8_init 17 = .ok (.putfield 15, 3) := by decide +kernel
theorem dX8_init_20 : decode cX8_init 20 = .ok (.aload_n 0, 1) := by decide +kernel
theorem dX8_init_21 : decode cX8_init 21 = .ok (.bipush 100, 2) := by decide +kernel
theorem dX8_init_23 : decode cX8_init 23 = .ok (.newarray .int, 2) := by decide +kernel
theorem dX8_init_25 : decode cX8_init 25 = .ok (.putfield 18, 3) := by decide +kernel
theorem dX8_init_28 : decode cX8_init 28 = .ok (.aload_n 0, 1) := by decide +kernel
theorem dX8_init_29 : decode cX8_init 29 = .ok (.bipush 100, 2) := by decide +kernel
theorem dX8_init_31 : decode cX8_init 31 = .ok (.newarray .int, 2) := by decide +kernel
theorem dX8_init_33 : decode cX8_init 33 = .ok (.putfield 21, 3) := by decide +kernel
theorem dX8_init_36 : decode cX8_init 36 = .ok (.aload_n 0, 1) := by decide +kernel
theorem dX8_init_37 : decode cX8_init 37 = .ok (.bipush 30, 2) := by decide +kernel
theorem dX8_init_39 : decode cX8_init 39 = .ok (.newarray .int, 2) := by decide +kernel
theorem dX8_init_41 : decode cX8_init 41 = .ok (.putfield 24, 3) := by decide +kernel
theorem dX8_init_44 : decode cX8_init 44 = .ok (.aload_n 0, 1) := by decide +kernel
theorem dX8_init_45 : decode cX8_init 45 = .ok (.bipush 30, 2) := by decide +kernel
theorem dX8_init_47 : decode cX8_init 47 = .ok (.newarray .int, 2) := by decide +kernel
theorem dX8_init_49 : decode cX8_init 49 = .ok (.putfield 27, 3) := by decide +kernel
theorem dX8_init_52 : decode cX8_init 52 = .ok (.aload_n 0, 1) := by decide +kernel
theorem dX8_init_53 : decode cX8_init 53 = .ok (.aload_n 1, 1) := by decide +kernel
theorem dX8_init_54 : decode cX8_init 54 = .ok (.putfield 30, 3) := by decide +kernel
theorem dX8_init_57 : decode cX8_init 57 = .ok (.aload_n 0, 1) := by decide +kernel
theorem dX8_init_58 : decode cX8_init 58 = .ok (.aload_n 2, 1) := by decide +kernel
theorem dX8_init_59 : decode cX8_init 59 = .ok (.putfield 34, 3) := by decide +kernel
theorem dX8_init_62 : decode cX8_init 62 = .ok (.return_, 1) := by decide +kernel
theorem dX8_add_0 : decode cX8_add 0 = .ok (.aload_n 0, 1) := by decide +kernel
theorem dX8_add_1 : decode cX8_add 1 = .ok (.getfield 11, 3) := by decide +kernel
theorem dX8_add_4 : decode cX8_add 4 = .ok (.aload_n 0, 1) := by decide +kernel
theorem dX8_add_5 : decode cX8_add 5 = .ok (.getfield 38, 3) := by decide +kernel
theorem dX8_add_8 : decode cX8_add 8 = .ok (.iload_n 1, 1) := by decide +kernel
theorem dX8_add_9 : decode cX8_add 9 = .ok (.iastore, 1) := by decide +kernel
theorem dX8_add_10 : decode cX8_add 10 = .ok (.aload_n 0, 1) := by decide +kernel
theorem dX8_add_11 : decode cX8_add 11 = .ok (.getfield 15, 3) := by decide +kernel
theorem dX8_add_14 : decode cX8_add 14 = .ok (.aload_n 0, 1) := by decide +kernel
theorem dX8_add_15 : decode cX8_add 15 = .ok (.getfield 38, 3) := by decide +kernel
theorem dX8_add_18 : decode cX8_add 18 = .ok (.iload_n 2, 1) := by decide +kernel
theorem dX8_add_19 : decode cX8_add 19 = .ok (.iastore, 1) := by decide +kernel
theorem dX8_add_20 : decode cX8_add 20 = .ok (.aload_n 0, 1) := by decide +kernel
theorem dX8_add_21 : decode cX8_add 21 = .ok (.getfield 18, 3) := by decide +kernel
theorem dX8_add_24 : decode cX8_add 24 = .ok (.aload_n 0, 1) := by decide +kernel
theorem dX8_add_25 : decode cX8_add 25 = .ok (.getfield 38, 3) := by decide +kernel
theorem dX8_add_28 : decode cX8_add 28 = .ok (.iload_n 3, 1) := by decide +kernel
theorem dX8_add_29 : decode cX8_add 29 = .ok (.iastore, 1) := by decide +kernel
theorem dX8_add_30 : decode cX8_add 30 = .ok (.aload_n 0, 1) := by decide +kernel
theorem dX8_add_31 : decode cX8_add 31 = .ok (.getfield 21, 3) := by decide +kernel
theorem dX8_add_34 : decode cX8_add 34 = .ok (.aload_n 0, 1) := by decide +kernel
theorem dX8_add_35 : decode cX8_add 35 = .ok (.getfield 38, 3) := by decide +kernel
theorem dX8_add_38 : decode cX8_add 38 = .ok (.iload 4, 2) := by decide +kernel
theorem dX8_add_40 : decode cX8_add 40 = .ok (.iastore, 1) := by decide +kernel
theorem dX8_add_41 : decode cX8_add 41 = .ok (.aload_n 0, 1) := by decide +kernel
theorem dX8_add_42 : decode cX8_add 42 = .ok (.dup, 1) := by decide +kernel
theorem dX8_add_43 : decode cX8_add 43 = .ok (.getfield 38, 3) := by decide +kernel
theorem dX8_add_46 : decode cX8_add 46 = .ok (.iconst 1, 1) := by decide +kernel
theorem dX8_add_47 : decode cX8_add 47 = .ok (.iadd, 1) := by decide +kernel
theorem dX8_add_48 : decode cX8_add 48 = .ok (.putfield 38, 3) := by decide +kernel
theorem dX8_add_51 : decode cX8_add 51 = .ok (.return_, 1) := by decide +kernel
theorem dX8_weigh_0 : decode cX8_weigh 0 = .ok (.aload_n 0, 1) := by decide +kernel
theorem dX8_weigh_1 : decode cX8_weigh 1 = .ok (.getfield 24, 3) := by decide +kernel
theorem dX8_weigh_4 : decode cX8_weigh 4 = .ok (.iconst 0, 1) := by decide +kernel
theorem dX8_weigh_5 : decode cX8_weigh 5 = .ok (.invokestatic 42, 3) := by decide +kernel
theorem dX8_weigh_8 : decode cX8_weigh 8 = .ok (.aload_n 0, 1) := by decide +kernel
theorem dX8_weigh_9 : decode cX8_weigh 9 = .ok (.getfield 27, 3) := by decide +kernel
theorem dX8_weigh_12 : decode cX8_weigh 12 = .ok (.iconst 0, 1) := by decide +kernel
theorem dX8_weigh_13 : decode cX8_weigh 13 = .ok (.invokestatic 42, 3) := by decide +kernel
theorem dX8_weigh_16 : decode cX8_weigh 16 = .ok (.iconst 0, 1) := by decide +kernel
theorem dX8_weigh_17 : decode cX8_weigh 17 = .ok (.istore_n 2, 1) := by decide +kernel
theorem dX8_weigh_18 : decode cX8_weigh 18 = .ok (.iload_n 2, 1) := by decide +kernel
theorem dX8_weigh_19 : decode cX8_weigh 19 = .ok (.aload_n 0, 1) := by decide +kernel
theorem dX8_weigh_20 : decode cX8_weigh 20 = .ok (.getfield 38, 3) := by decide +kernel
theorem dX8_weigh_23 : decode cX8_weigh 23 = .ok (.if_icmp .ge 85, 3) := by decide +kernel
theorem dX8_weigh_26 : decode cX8_weigh 26 = .ok (.aload_n 0, 1) := by decide +kernel
theorem dX8_weigh_27 : decode cX8_weigh 27 = .ok (.getfield 18, 3) := by decide +kernel
theorem dX8_weigh_30 : decode cX8_weigh 30 = .ok (.iload_n 2, 1) := by decide +kernel
theorem dX8_weigh_31 : decode cX8_weigh 31 = .ok (.iaload, 1) := by decide +kernel
theorem dX8_weigh_32 : decode cX8_weigh 32 = .ok (.iload_n 1, 1) := by decide +kernel
theorem dX8_weigh_33 : decode cX8_weigh 33 = .ok (.if_icmp .ne 69, 3) := by decide +kernel
theorem dX8_weigh_36 : decode cX8_weigh 36 = .ok (.aload_n 0, 1) := by decide +kernel
theorem dX8_weigh_37 : decode cX8_weigh 37 = .ok (.getfield 34, 3) := by decide +kernel
theorem dX8_weigh_40 : decode cX8_weigh 40 = .ok (.aload_n 0, 1) := by decide +kernel
theorem dX8_weigh_41 : decode cX8_weigh 41 = .ok (.getfield 21, 3) := by decide +kernel
theorem dX8_weigh_44 : decode cX8_weigh 44 = .ok (.iload_n 2, 1) := by decide +kernel
theorem dX8_weigh_45 : decode cX8_weigh 45 = .ok (.iaload, 1) := by decide +kernel
theorem dX8_weigh_46 : decode cX8_weigh 46 = .ok (.iconst 0, 1) := by decide +kernel
theorem dX8_weigh_47 : decode cX8_weigh 47 = .ok (.aload_n 0, 1) := by decide +kernel
theorem dX8_weigh_48 : decode cX8_weigh 48 = .ok (.getfield 15, 3) := by decide +kernel
theorem dX8_weigh_51 : decode cX8_weigh 51 = .ok (.iload_n 2, 1) := by decide +kernel
theorem dX8_weigh_52 : decode cX8_weigh 52 = .ok (.iaload, 1) := by decide +kernel
theorem dX8_weigh_53 : decode cX8_weigh 53 = .ok (.iconst 0, 1) := by decide +kernel
theorem dX8_weigh_54 : decode cX8_weigh 54 = .ok (.aload_n 0, 1) := by decide +kernel
theorem dX8_weigh_55 : decode cX8_weigh 55 = .ok (.getfield 30, 3) := by decide +kernel
theorem dX8_weigh_58 : decode cX8_weigh 58 = .ok (.getfield 48, 3) := by decide +kernel
theorem dX8_weigh_61 : decode cX8_weigh 61 = .ok (.iload_n 1, 1) := by decide +kernel
theorem dX8_weigh_62 : decode cX8_weigh 62 = .ok (.iaload, 1) := by decide +kernel
theorem dX8_weigh_63 : decode cX8_weigh 63 = .ok (.invokevirtual 51, 3) := by decide +kernel
theorem dX8_weigh_66 : decode cX8_weigh 66 = .ok (.aload_n 0, 1) := by decide +kernel
theorem dX8_weigh_67 : decode cX8_weigh 67 = .ok (.getfield 24, 3) := by decide +kernel
theorem dX8_weigh_70 : decode cX8_weigh 70 = .ok (.aload_n 0, 1) := by decide +kernel
theorem dX8_weigh_71 : decode cX8_weigh 71 = .ok (.getfield 11, 3) := by decide +kernel
theorem dX8_weigh_74 : decode cX8_weigh 74 = .ok (.iload_n 2, 1) := by decide +kernel
theorem dX8_weigh_75 : decode cX8_weigh 75 = .ok (.iaload, 1) := by decide +kernel
theorem dX8_weigh_76 : decode cX8_weigh 76 = .ok (.dup2, 1) := by decide +kernel
theorem dX8_weigh_77 : decode cX8_weigh 77 = .ok (.iaload, 1) := by decide +kernel
theorem dX8_weigh_78 : decode cX8_weigh 78 = .ok (.aload_n 0, 1) := by decide +kernel
theorem dX8_weigh_79 : decode cX8_weigh 79 = .ok (.getfield 34, 3) := by decide +kernel
theorem dX8_weigh_82 : decode cX8_weigh 82 = .ok (.invokevirtual 57, 3) := by decide +kernel
theorem dX8_weigh_85 : decode cX8_weigh 85 = .ok (.iadd, 1) := by decide +kernel
theorem dX8_weigh_86 : decode cX8_weigh 86 = .ok (.iastore, 1) := by decide +kernel
theorem dX8_weigh_87 : decode cX8_weigh 87 = .ok (.aload_n 0, 1) := by decide +kernel
theorem dX8_weigh_88 : decode cX8_weigh 88 = .ok (.getfield 27, 3) := by decide +kernel
theorem dX8_weigh_91 : decode cX8_weigh 91 = .ok (.aload_n 0, 1) := by decide +kernel
theorem dX8_weigh_92 : decode cX8_weigh 92 = .ok (.getfield 11, 3) := by decide +kernel
theorem dX8_weigh_95 : decode cX8_weigh 95 = .ok (.iload_n 2, 1) := by decide +kernel
theorem dX8_weigh_96 : decode cX8_weigh 96 = .ok (.iaload, 1) := by decide +kernel
theorem dX8_weigh_97 : decode cX8_weigh 97 = .ok (.dup2, 1) := by decide +kernel
theorem dX8_weigh_98 : decode cX8_weigh 98 = .ok (.iaload, 1) := by decide +kernel
theorem dX8_weigh_99 : decode cX8_weigh 99 = .ok (.iconst 1, 1) := by decide +kernel
theorem dX8_weigh_100 : decode cX8_weigh 100 = .ok (.iadd, 1) := by decide +kernel
theorem dX8_weigh_101 : decode cX8_weigh 101 = .ok (.iastore, 1) := by decide +kernel
theorem dX8_weigh_102 : decode cX8_weigh 102 = .ok (.iinc 2 1, 3) := by decide +kernel
theorem dX8_weigh_105 : decode cX8_weigh 105 = .ok (.goto (-87), 3) := by decide +kernel
theorem dX8_weigh_108 : decode cX8_weigh 108 = .ok (.return_, 1) := by decide +kernel
theorem dX8_strongest_0 : decode cX8_strongest 0 = .ok (.iconst (-1), 1) := by decide +kernel
theorem dX8_strongest_1 : decode cX8_strongest 1 = .ok (.istore_n 1, 1) := by decide +kernel
theorem dX8_strongest_2 : decode cX8_strongest 2 = .ok (.iconst 0, 1) := by decide +kernel
theorem dX8_strongest_3 : decode cX8_strongest 3 = .ok (.istore_n 2, 1) := by decide +kernel
theorem dX8_strongest_4 : decode cX8_strongest 4 = .ok (.iload_n 2, 1) := by decide +kernel
theorem dX8_strongest_5 : decode cX8_strongest 5 = .ok (.bipush 30, 2) := by decide +kernel
theorem dX8_strongest_7 : decode cX8_strongest 7 = .ok (.if_icmp .ge 45, 3) := by decide +kernel
theorem dX8_strongest_10 : decode cX8_strongest 10 = .ok (.aload_n 0, 1) := by decide +kernel
theorem dX8_strongest_11 : decode cX8_strongest 11 = .ok (.getfield 27, 3) := by decide +kernel
theorem dX8_strongest_14 : decode cX8_strongest 14 = .ok (.iload_n 2, 1) := by decide +kernel
theorem dX8_strongest_15 : decode cX8_strongest 15 = .ok (.iaload, 1) := by decide +kernel
theorem dX8_strongest_16 : decode cX8_strongest 16 = .ok (.iconst 2, 1) := by decide +kernel
theorem dX8_strongest_17 : decode cX8_strongest 17 = .ok (.if_icmp .lt 29, 3) := by decide +kernel
theorem dX8_strongest_20 : decode cX8_strongest 20 = .ok (.aload_n 0, 1) := by decide +kernel
theorem dX8_strongest_21 : decode cX8_strongest 21 = .ok (.getfield 24, 3) := by decide +kernel
theorem dX8_strongest_24 : decode cX8_strongest 24 = .ok (.iload_n 2, 1) := by decide +kernel
theorem dX8_strongest_25 : decode cX8_strongest 25 = .ok (.iaload, 1) := by decide +kernel
theorem dX8_strongest_26 : decode cX8_strongest 26 = .ok (.iload_n 1, 1) := by decide +kernel
theorem dX8_strongest_27 : decode cX8_strongest 27 = .ok (.iconst (-1), 1) := by decide +kernel
theorem dX8_strongest_28 : decode cX8_strongest 28 = .ok (.if_icmp .ne 7, 3) := by decide +kernel
theorem dX8_strongest_31 : decode cX8_strongest 31 = .ok (.iconst 0, 1) := by decide +kernel
theorem dX8_strongest_32 : decode cX8_strongest 32 = .ok (.goto 9, 3) := by decide +kernel
theorem dX8_strongest_35 : decode cX8_strongest 35 = .ok (.aload_n 0, 1) := by decide +kernel
theorem dX8_strongest_36 : decode cX8_strongest 36 = .ok (.getfield 24, 3) := by decide +kernel
theorem dX8_strongest_39 : decode cX8_strongest 39 = .ok (.iload_n 1, 1) := by decide +kernel
theorem dX8_strongest_40 : decode cX8_strongest 40 = .ok (.iaload, 1) := by decide +kernel
theorem dX8_strongest_41 : decode cX8_strongest 41 = .ok (.if_icmp .le 5, 3) := by decide +kernel
theorem dX8_strongest_44 : decode cX8_strongest 44 = .ok (.iload_n 2, 1) := by decide +kernel
theorem dX8_strongest_45 : decode cX8_strongest 45 = .ok (.istore_n 1, 1) := by decide +kernel
theorem dX8_strongest_46 : decode cX8_strongest 46 = .ok (.iinc 2 1, 3) := by decide +kernel
theorem dX8_strongest_49 : decode cX8_strongest 49 = .ok (.goto (-45), 3) := by decide +kernel
theorem dX8_strongest_52 : decode cX8_strongest 52 = .ok (.iload_n 1, 1) := by decide +kernel
theorem dX8_strongest_53 : decode cX8_strongest 53 = .ok (.ireturn, 1) := by decide +kernel
theorem dX8_rivals_0 : decode cX8_rivals 0 = .ok (.iconst 0, 1) := by decide +kernel
theorem dX8_rivals_1 : decode cX8_rivals 1 = .ok (.istore_n 2, 1) := by decide +kernel
theorem dX8_rivals_2 : decode cX8_rivals 2 = .ok (.iconst 0, 1) := by decide +kernel
theorem dX8_rivals_3 : decode cX8_rivals 3 = .ok (.istore_n 3, 1) := by decide +kernel
theorem dX8_rivals_4 : decode cX8_rivals 4 = .ok (.iload_n 3, 1) := by decide +kernel
theorem dX8_rivals_5 : decode cX8_rivals 5 = .ok (.bipush 30, 2) := by decide +kernel
theorem dX8_rivals_7 : decode cX8_rivals 7 = .ok (.if_icmp .ge 34, 3) := by decide +kernel
theorem dX8_rivals_10 : decode cX8_rivals 10 = .ok (.aload_n 0, 1) := by decide +kernel
theorem dX8_rivals_11 : decode cX8_rivals 11 = .ok (.getfield 27, 3) := by decide +kernel
theorem dX8_rivals_14 : decode cX8_rivals 14 = .ok (.iload_n 3, 1) := by decide +kernel
theorem dX8_rivals_15 : decode cX8_rivals 15 = .ok (.iaload, 1) := by decide +kernel
theorem dX8_rivals_16 : decode cX8_rivals 16 = .ok (.iconst 2, 1) := by decide +kernel
theorem dX8_rivals_17 : decode cX8_rivals 17 = .ok (.if_icmp .lt 18, 3) := by decide +kernel
theorem dX8_rivals_20 : decode cX8_rivals 20 = .ok (.iconst 2, 1) := by decide +kernel
theorem dX8_rivals_21 : decode cX8_rivals 21 = .ok (.aload_n 0, 1) := by decide +kernel
theorem dX8_rivals_22 : decode cX8_rivals 22 = .ok (.getfield 24, 3) := by decide +kernel
theorem dX8_rivals_25 : decode cX8_rivals 25 = .ok (.iload_n 3, 1) := by decide +kernel
theorem dX8_rivals_26 : decode cX8_rivals 26 = .ok (.iaload, 1) := by decide +kernel
theorem dX8_rivals_27 : decode cX8_rivals 27 = .ok (.imul, 1) := by decide +kernel
theorem dX8_rivals_28 : decode cX8_rivals 28 = .ok (.iload_n 1, 1) := by decide +kernel
theorem dX8_rivals_29 : decode cX8_rivals 29 = .ok (.if_icmp .lt 6, 3) := by decide +kernel
theorem dX8_rivals_32 : decode cX8_rivals 32 = .ok (.iinc 2 1, 3) := by decide +kernel
theorem dX8_rivals_35 : decode cX8_rivals 35 = .ok (.iinc 3 1, 3) := by decide +kernel
theorem dX8_rivals_38 : decode cX8_rivals 38 = .ok (.goto (-34), 3) := by decide +kernel
theorem dX8_rivals_41 : decode cX8_rivals 41 = .ok (.iload_n 2, 1) := by decide +kernel
theorem dX8_rivals_42 : decode cX8_rivals 42 = .ok (.ireturn, 1) := by decide +kernel
theorem dX9_init_0 : decode cX9_init 0 = .ok (.aload_n 0, 1) := by decide +kernel
theorem dX9_init_1 : decode cX9_init 1 = .ok (.invokespecial 1, 3) := by decide +kernel
theorem dX9_init_4 : decode cX9_init 4 = .ok (.aload_n 0, 1) := by decide +kernel
theorem dX9_init_5 : decode cX9_init 5 = .ok (.sipush 400, 3) := by decide +kernel
theorem dX9_init_8 : decode cX9_init 8 = .ok (.newarray .byte, 2) := by decide +kernel
theorem dX9_init_10 : decode cX9_init 10 = .ok (.putfield 9, 3) := by decide +kernel
theorem dX9_init_13 : decode cX9_init 13 = .ok (.return_, 1) := by decide +kernel
theorem dX9_append_0 : decode cX9_append 0 = .ok (.bipush 24, 2) := by decide +kernel
theorem dX9_append_2 : decode cX9_append 2 = .ok (.istore_n 2, 1) := by decide +kernel
theorem dX9_append_3 : decode cX9_append 3 = .ok (.iload_n 2, 1) := by decide +kernel
theorem dX9_append_4 : decode cX9_append 4 = .ok (.ifCond .lt 42, 3) := by decide +kernel
theorem dX9_append_7 : decode cX9_append 7 = .ok (.aload_n 0, 1) := by decide +kernel
theorem dX9_append_8 : decode cX9_append 8 = .ok (.getfield 13, 3) := by decide +kernel
theorem dX9_append_11 : decode cX9_append 11 = .ok (.sipush 400, 3) := by decide +kernel
theorem dX9_append_14 : decode cX9_append 14 = .ok (.if_icmp .ge 32, 3) := by decide +kernel
theorem dX9_append_17 : decode cX9_append 17 = .ok (.aload_n 0, 1) := by decide +kernel
theorem dX9_append_18 : decode cX9_append 18 = .ok (.getfield 9, 3) := by decide +kernel
theorem dX9_append_21 : decode cX9_append 21 = .ok (.aload_n 0, 1) := by decide +kernel
theorem dX9_append_22 : decode cX9_append 22 = .ok (.getfield 13, 3) := by decide +kernel
theorem dX9_append_25 : decode cX9_append 25 = .ok (.iload_n 1, 1) := by decide +kernel
theorem dX9_append_26 : decode cX9_append 26 = .ok (.iload_n 2, 1) := by decide +kernel
theorem dX9_append_27 : decode cX9_append 27 = .ok (.ishr, 1) := by decide +kernel
theorem dX9_append_28 : decode cX9_append 28 = .ok (.i2b, 1) := by decide +kernel
theorem dX9_append_29 : decode cX9_append 29 = .ok (.bastore, 1) := by decide +kernel
theorem dX9_append_30 : decode cX9_append 30 = .ok (.aload_n 0, 1) := by decide +kernel
theorem dX9_append_31 : decode cX9_append 31 = .ok (.dup, 1) := by decide +kernel
theorem dX9_append_32 : decode cX9_append 32 = .ok (.getfield 13, 3) := by decide +kernel
theorem dX9_append_35 : decode cX9_append 35 = .ok (.iconst 1, 1) := by decide +kernel
theorem dX9_append_36 : decode cX9_append 36 = .ok (.iadd, 1) := by decide +kernel
theorem dX9_append_37 : decode cX9_append 37 = .ok (.putfield 13, 3) := by decide +kernel
theorem dX9_append_40 : decode cX9_append 40 = .ok (.iinc 2 (-8), 3) := by decide +kernel
theorem dX9_append_43 : decode cX9_append 43 = .ok (.goto (-40), 3) := by decide +kernel
theorem dX9_append_46 : decode cX9_append 46 = .ok (.return_, 1) := by decide +kernel
theorem dX9_clear_0 : decode cX9_clear 0 = .ok (.aload_n 0, 1) := by decide +kernel
theorem dX9_clear_1 : decode cX9_clear 1 = .ok (.iconst 0, 1) := by decide +kernel
theorem dX9_clear_2 : decode cX9_clear 2 = .ok (.putfield 13, 3) := by decide +kernel
theorem dX9_clear_5 : decode cX9_clear 5 = .ok (.return_, 1) := by decide +kernel
theorem dX9_whole_0 : decode cX9_whole 0 = .ok (.iload_n 1, 1) := by decide +kernel
theorem dX9_whole_1 : decode cX9_whole 1 = .ok (.ifCond .lt 9, 3) := by decide +kernel
theorem dX9_whole_4 : decode cX9_whole 4 = .ok (.iload_n 1, 1) := by decide +kernel
theorem dX9_whole_5 : decode cX9_whole 5 = .ok (.bipush 99, 2) := by decide +kernel
theorem dX9_whole_7 : decode cX9_whole 7 = .ok (.if_icmp .le 5, 3) := by decide +kernel
theorem dX9_whole_10 : decode cX9_whole 10 = .ok (.iconst 0, 1) := by decide +kernel
theorem dX9_whole_11 : decode cX9_whole 11 = .ok (.ireturn, 1) := by decide +kernel
theorem dX9_whole_12 : decode cX9_whole 12 = .ok (.iconst 0, 1) := by decide +kernel
theorem dX9_whole_13 : decode cX9_whole 13 = .ok (.istore_n 2, 1) := by decide +kernel
theorem dX9_whole_14 : decode cX9_whole 14 = .ok (.iconst 0, 1) := by decide +kernel
theorem dX9_whole_15 : decode cX9_whole 15 = .ok (.istore_n 3, 1) := by decide +kernel
theorem dX9_whole_16 : decode cX9_whole 16 = .ok (.iload_n 3, 1) := by decide +kernel
theorem dX9_whole_17 : decode cX9_whole 17 = .ok (.iconst 4, 1) := by decide +kernel
theorem dX9_whole_18 : decode cX9_whole 18 = .ok (.if_icmp .ge 29, 3) := by decide +kernel
theorem dX9_whole_21 : decode cX9_whole 21 = .ok (.iload_n 2, 1) := by decide +kernel
theorem dX9_whole_22 : decode cX9_whole 22 = .ok (.bipush 8, 2) := by decide +kernel
theorem dX9_whole_24 : decode cX9_whole 24 = .ok (.ishl, 1) := by decide +kernel
theorem dX9_whole_25 : decode cX9_whole 25 = .ok (.aload_n 0, 1) := by decide +kernel
theorem dX9_whole_26 : decode cX9_whole 26 = .ok (.getfield 9, 3) := by decide +kernel
theorem dX9_whole_29 : decode cX9_whole 29 = .ok (.iconst 4, 1) := by decide +kernel
theorem dX9_whole_30 : decode cX9_whole 30 = .ok (.iload_n 1, 1) := by decide +kernel
theorem dX9_whole_31 : decode cX9_whole 31 = .ok (.imul, 1) := by decide +kernel
theorem dX9_whole_32 : decode cX9_whole 32 = .ok (.iload_n 3, 1) := by decide +kernel
theorem dX9_whole_33 : decode cX9_whole 33 = .ok (.iadd, 1) := by decide +kernel
theorem dX9_whole_34 : decode cX9_whole 34 = .ok (.baload, 1) := by decide +kernel
theorem dX9_whole_35 : decode cX9_whole 35 = .ok (.sipush 255, 3) := by decide +kernel
theorem dX9_whole_38 : decode cX9_whole 38 = .ok (.iand, 1) := by decide +kernel
theorem dX9_whole_39 : decode cX9_whole 39 = .ok (.ior, 1) := by decide +kernel
theorem dX9_whole_40 : decode cX9_whole 40 = .ok (.istore_n 2, 1) := by decide +kernel
theorem dX9_whole_41 : decode cX9_whole 41 = .ok (.iinc 3 1, 3) := by decide +kernel
theorem dX9_whole_44 : decode cX9_whole 44 = .ok (.goto (-28), 3) := by decide +kernel
theorem dX9_whole_47 : decode cX9_whole 47 = .ok (.iload_n 2, 1) := by decide +kernel
theorem dX9_whole_48 : decode cX9_whole 48 = .ok (.ireturn, 1) := by decide +kernel
theorem dX10_init_0 : decode cX10_init 0 = .ok (.aload_n 0, 1) := by decide +kernel
theorem dX10_init_1 : decode cX10_init 1 = .ok (.invokespecial 3, 3) := by decide +kernel
theorem dX10_init_4 : decode cX10_init 4 = .ok (.aload_n 0, 1) := by decide +kernel
theorem dX10_init_5 : decode cX10_init 5 = .ok (.bipush 30, 2) := by decide +kernel
theorem dX10_init_7 : decode cX10_init 7 = .ok (.newarray .int, 2) := by decide +kernel
theorem dX10_init_9 : decode cX10_init 9 = .ok (.putfield 11, 3) := by decide +kernel
theorem dX10_init_12 : decode cX10_init 12 = .ok (.aload_n 0, 1) := by decide +kernel
theorem dX10_init_13 : decode cX10_init 13 = .ok (.bipush 100, 2) := by decide +kernel
theorem dX10_init_15 : decode cX10_init 15 = .ok (.newarray .int, 2) := by decide +kernel
theorem dX10_init_17 : decode cX10_init 17 = .ok (.putfield 15, 3) := by decide +kernel
theorem dX10_init_20 : decode cX10_init 20 = .ok (.aload_n 0, 1) := by decide +kernel
theorem dX10_init_21 : decode cX10_init 21 = .ok (.bipush 100, 2) := by decide +kernel
theorem dX10_init_23 : decode cX10_init 23 = .ok (.newarray .int, 2) := by decide +kernel
theorem dX10_init_25 : decode cX10_init 25 = .ok (.putfield 18, 3) := by decide +kernel
theorem dX10_init_28 : decode cX10_init 28 = .ok (.aload_n 0, 1) := by decide +kernel
theorem dX10_init_29 : decode cX10_init 29 = .ok (.bipush 100, 2) := by decide +kernel
theorem dX10_init_31 : decode cX10_init 31 = .ok (.newarray .int, 2) := by decide +kernel
theorem dX10_init_33 : decode cX10_init 33 = .ok (.putfield 21, 3) := by decide +kernel
theorem dX10_init_36 : decode cX10_init 36 = .ok (.aload_n 0, 1) := by decide +kernel
theorem dX10_init_37 : decode cX10_init 37 = .ok (.bipush 100, 2) := by decide +kernel
theorem dX10_init_39 : decode cX10_init 39 = .ok (.newarray .int, 2) := by decide +kernel
theorem dX10_init_41 : decode cX10_init 41 = .ok (.putfield 24, 3) := by decide +kernel
theorem dX10_init_44 : decode cX10_init 44 = .ok (.aload_n 0, 1) := by decide +kernel
theorem dX10_init_45 : decode cX10_init 45 = .ok (.bipush 100, 2) := by decide +kernel
theorem dX10_init_47 : decode cX10_init 47 = .ok (.newarray .int, 2) := by decide +kernel
theorem dX10_init_49 : decode cX10_init 49 = .ok (.putfield 27, 3) := by decide +kernel
theorem dX10_init_52 : decode cX10_init 52 = .ok (.aload_n 0, 1) := by decide +kernel
theorem dX10_init_53 : decode cX10_init 53 = .ok (.bipush 9, 2) := by decide +kernel
theorem dX10_init_55 : decode cX10_init 55 = .ok (.newarray .int, 2) := by decide +kernel
theorem dX10_init_57 : decode cX10_init 57 = .ok (.putfield 30, 3) := by decide +kernel
theorem dX10_init_60 : decode cX10_init 60 = .ok (.aload_n 0, 1) := by decide +kernel
theorem dX10_init_61 : decode cX10_init 61 = .ok (.bipush 9, 2) := by decide +kernel
theorem dX10_init_63 : decode cX10_init 63 = .ok (.newarray .int, 2) := by decide +kernel
theorem dX10_init_65 : decode cX10_init 65 = .ok (.putfield 33, 3) := by decide +kernel
theorem dX10_init_68 : decode cX10_init 68 = .ok (.aload_n 0, 1) := by decide +kernel
theorem dX10_init_69 : decode cX10_init 69 = .ok (.bipush 9, 2) := by decide +kernel
theorem dX10_init_71 : decode cX10_init 71 = .ok (.newarray .int, 2) := by decide +kernel
theorem dX10_init_73 : decode cX10_init 73 = .ok (.putfield 36, 3) := by decide +kernel
theorem dX10_init_76 : decode cX10_init 76 = .ok (.aload_n 0, 1) := by decide +kernel
theorem dX10_init_77 : decode cX10_init 77 = .ok (.bipush 30, 2) := by decide +kernel
theorem dX10_init_79 : decode cX10_init 79 = .ok (.newarray .int, 2) := by decide +kernel
theorem dX10_init_81 : decode cX10_init 81 = .ok (.putfield 39, 3) := by decide +kernel
theorem dX10_init_84 : decode cX10_init 84 = .ok (.return_, 1) := by decide +kernel
theorem dX10_add_0 : decode cX10_add 0 = .ok (.aload_n 0, 1) := by decide +kernel
theorem dX10_add_1 : decode cX10_add 1 = .ok (.getfield 11, 3) := by decide +kernel
theorem dX10_add_4 : decode cX10_add 4 = .ok (.aload_n 0, 1) := by decide +kernel
theorem dX10_add_5 : decode cX10_add 5 = .ok (.getfield 42, 3) := by decide +kernel
theorem dX10_add_8 : decode cX10_add 8 = .ok (.iload_n 1, 1) := by decide +kernel
theorem dX10_add_9 : decode cX10_add 9 = .ok (.iastore, 1) := by decide +kernel
theorem dX10_add_10 : decode cX10_add 10 = .ok (.aload_n 0, 1) := by decide +kernel
theorem dX10_add_11 : decode cX10_add 11 = .ok (.dup, 1) := by decide +kernel
theorem dX10_add_12 : decode cX10_add 12 = .ok (.getfield 42, 3) := by decide +kernel
theorem dX10_add_15 : decode cX10_add 15 = .ok (.iconst 1, 1) := by decide +kernel
theorem dX10_add_16 : decode cX10_add 16 = .ok (.iadd, 1) := by decide +kernel
theorem dX10_add_17 : decode cX10_add 17 = .ok (.putfield 42, 3) := by decide +kernel
theorem dX10_add_20 : decode cX10_add 20 = .ok (.aload_n 0, 1) := by decide +kernel
theorem dX10_add_21 : decode cX10_add 21 = .ok (.getfield 42, 3) := by decide +kernel
theorem dX10_add_24 : decode cX10_add 24 = .ok (.iconst 1, 1) := by decide +kernel
theorem dX10_add_25 : decode cX10_add 25 = .ok (.isub, 1) := by decide +kernel
theorem dX10_add_26 : decode cX10_add 26 = .ok (.ireturn, 1) := by decide +kernel
theorem dX10_look_0 : decode cX10_look 0 = .ok (.aload_n 0, 1) := by decide +kernel
theorem dX10_look_1 : decode cX10_look 1 = .ok (.getfield 15, 3) := by decide +kernel
theorem dX10_look_4 : decode cX10_look 4 = .ok (.aload_n 0, 1) := by decide +kernel
theorem dX10_look_5 : decode cX10_look 5 = .ok (.getfield 46, 3) := by decide +kernel
theorem dX10_look_8 : decode cX10_look 8 = .ok (.iload_n 1, 1) := by decide +kernel
theorem dX10_look_9 : decode cX10_look 9 = .ok (.iastore, 1) := by decide +kernel
theorem dX10_look_10 : decode cX10_look 10 = .ok (.aload_n 0, 1) := by decide +kernel
theorem dX10_look_11 : decode cX10_look 11 = .ok (.getfield 18, 3) := by decide +kernel
theorem dX10_look_14 : decode cX10_look 14 = .ok (.aload_n 0, 1) := by decide +kernel
theorem dX10_look_15 : decode cX10_look 15 = .ok (.getfield 46, 3) := by decide +kernel
theorem dX10_look_18 : decode cX10_look 18 = .ok (.iload_n 2, 1) := by decide +kernel
theorem dX10_look_19 : decode cX10_look 19 = .ok (.iastore, 1) := by decide +kernel
theorem dX10_look_20 : decode cX10_look 20 = .ok (.aload_n 0, 1) := by decide +kernel
theorem dX10_look_21 : decode cX10_look 21 = .ok (.getfield 21, 3) := by decide +kernel
theorem dX10_look_24 : decode cX10_look 24 = .ok (.aload_n 0, 1) := by decide +kernel
theorem dX10_look_25 : decode cX10_look 25 = .ok (.getfield 46, 3) := by decide +kernel
theorem dX10_look_28 : decode cX10_look 28 = .ok (.iload_n 3, 1) := by decide +kernel
theorem dX10_look_29 : decode cX10_look 29 = .ok (.iastore, 1) := by decide +kernel
theorem dX10_look_30 : decode cX10_look 30 = .ok (.aload_n 0, 1) := by decide +kernel
theorem dX10_look_31 : decode cX10_look 31 = .ok (.getfield 24, 3) := by decide +kernel
theorem dX10_look_34 : decode cX10_look 34 = .ok (.aload_n 0, 1) := by decide +kernel
theorem dX10_look_35 : decode cX10_look 35 = .ok (.getfield 46, 3) := by decide +kernel
theorem dX10_look_38 : decode cX10_look 38 = .ok (.iload 4, 2) := by decide +kernel
theorem dX10_look_40 : decode cX10_look 40 = .ok (.iastore, 1) := by decide +kernel
theorem dX10_look_41 : decode cX10_look 41 = .ok (.aload_n 0, 1) := by decide +kernel
theorem dX10_look_42 : decode cX10_look 42 = .ok (.getfield 49, 3) := by decide +kernel
theorem dX10_look_45 : decode cX10_look 45 = .ok (.istore 5, 2) := by decide +kernel
theorem dX10_look_47 : decode cX10_look 47 = .ok (.iload 5, 2) := by decide +kernel
theorem dX10_look_49 : decode cX10_look 49 = .ok (.ifCond .le 43, 3) := by decide +kernel
theorem dX10_look_52 : decode cX10_look 52 = .ok (.aload_n 0, 1) := by decide +kernel
theorem dX10_look_53 : decode cX10_look 53 = .ok (.getfield 18, 3) := by decide +kernel
theorem dX10_look_56 : decode cX10_look 56 = .ok (.aload_n 0, 1) := by decide +kernel
theorem dX10_look_57 : decode cX10_look 57 = .ok (.getfield 27, 3) := by decide +kernel
theorem dX10_look_60 : decode cX10_look 60 = .ok (.iload 5, 2) := by decide +kernel
theorem dX10_look_62 : decode cX10_look 62 = .ok (.iconst 1, 1) := by decide +kernel
theorem dX10_look_63 : decode cX10_look 63 = .ok (.isub, 1) := by decide +kernel
theorem dX10_look_64 : decode cX10_look 64 = .ok (.iaload, 1) := by decide +kernel
theorem dX10_look_65 : decode cX10_look 65 = .ok (.iaload, 1) := by decide +kernel
theorem dX10_look_66 : decode cX10_look 66 = .ok (.iload_n 2, 1) := by decide +kernel
theorem dX10_look_67 : decode cX10_look 67 = .ok (.if_icmp .le 25, 3) := by decide +kernel
theorem dX10_look_70 : decode cX10_look 70 = .ok (.aload_n 0, 1) := by decide +kernel
theorem dX10_look_71 : decode cX10_look 71 = .ok (.getfield 27, 3) := by decide +kernel
theorem dX10_look_74 : decode cX10_look 74 = .ok (.iload 5, 2) := by decide +kernel
theorem dX10_look_76 : decode cX10_look 76 = .ok (.aload_n 0, 1) := by decide +kernel
theorem dX10_look_77 : decode cX10_look 77 = .ok (.getfield 27, 3) := by decide +kernel
theorem dX10_look_80 : decode cX10_look 80 = .ok (.iload 5, 2) := by decide +kernel
theorem dX10_look_82 : decode cX10_look 82 = .ok (.iconst 1, 1) := by decide +kernel
theorem dX10_look_83 : decode cX10_look 83 = .ok (.isub, 1) := by decide +kernel
theorem dX10_look_84 : decode cX10_look 84 = .ok (.iaload, 1) := by decide +kernel
theorem dX10_look_85 : decode cX10_look 85 = .ok (.iastore, 1) := by decide +kernel
theorem dX10_look_86 : decode cX10_look 86 = .ok (.iinc 5 (-1), 3) := by decide +kernel
theorem dX10_look_89 : decode cX10_look 89 = .ok (.goto (-42), 3) := by decide +kernel
theorem dX10_look_92 : decode cX10_look 92 = .ok (.aload_n 0, 1) := by decide +kernel
theorem dX10_look_93 : decode cX10_look 93 = .ok (.getfield 27, 3) := by decide +kernel
theorem dX10_look_96 : decode cX10_look 96 = .ok (.iload 5, 2) := by decide +kernel
theorem dX10_look_98 : decode cX10_look 98 = .ok (.aload_n 0, 1) := by decide +kernel
theorem dX10_look_99 : decode cX10_look 99 = .ok (.getfield 46, 3) := by decide +kernel
theorem dX10_look_102 : decode cX10_look 102 = .ok (.iastore, 1) := by decide +kernel
theorem dX10_look_103 : decode cX10_look 103 = .ok (.aload_n 0, 1) := by decide +kernel
theorem dX10_look_104 : decode cX10_look 104 = .ok (.dup, 1) := by decide +kernel
theorem dX10_look_105 : decode cX10_look 105 = .ok (.getfield 49, 3) := by decide +kernel
theorem dX10_look_108 : decode cX10_look 108 = .ok (.iconst 1, 1) := by decide +kernel
theorem dX10_look_109 : decode cX10_look 109 = .ok (.iadd, 1) := by decide +kernel
theorem dX10_look_110 : decode cX10_look 110 = .ok (.putfield 49, 3) := by decide +kernel
theorem dX10_look_113 : decode cX10_look 113 = .ok (.aload_n 0, 1) := by decide +kernel
theorem dX10_look_114 : decode cX10_look 114 = .ok (.invokevirtual 52, 3) := by decide +kernel
theorem dX10_look_117 : decode cX10_look 117 = .ok (.ireturn, 1) := by decide +kernel
theorem dX10_trace_0 : decode cX10_trace 0 = .ok (.aload_n 0, 1) := by decide +kernel
theorem dX10_trace_1 : decode cX10_trace 1 = .ok (.dup, 1) := by decide +kernel
theorem dX10_trace_2 : decode cX10_trace 2 = .ok (.getfield 46, 3) := by decide +kernel
theorem dX10_trace_5 : decode cX10_trace 5 = .ok (.iconst 1, 1) := by decide +kernel
theorem dX10_trace_6 : decode cX10_trace 6 = .ok (.iadd, 1) := by decide +kernel
theorem dX10_trace_7 : decode cX10_trace 7 = .ok (.putfield 46, 3) := by decide +kernel
theorem dX10_trace_10 : decode cX10_trace 10 = .ok (.aload_n 0, 1) := by decide +kernel
theorem dX10_trace_11 : decode cX10_trace 11 = .ok (.getfield 46, 3) := by decide +kernel
theorem dX10_trace_14 : decode cX10_trace 14 = .ok (.iconst 1, 1) := by decide +kernel
theorem dX10_trace_15 : decode cX10_trace 15 = .ok (.isub, 1) := by decide +kernel
theorem dX10_trace_16 : decode cX10_trace 16 = .ok (.ireturn, 1) := by decide +kernel
theorem dX10_review_0 : decode cX10_review 0 = .ok (.iconst (-1), 1) := by decide +kernel
theorem dX10_review_1 : decode cX10_review 1 = .ok (.istore 4, 2) := by decide +kernel
theorem dX10_review_3 : decode cX10_review 3 = .ok (.aload_n 0, 1) := by decide +kernel
theorem dX10_review_4 : decode cX10_review 4 = .ok (.iconst (-1), 1) := by decide +kernel
theorem dX10_review_5 : decode cX10_review 5 = .ok (.putfield 56, 3) := by decide +kernel
theorem dX10_review_8 : decode cX10_review 8 = .ok (.aload_n 0, 1) := by decide +kernel
theorem dX10_review_9 : decode cX10_review 9 = .ok (.iconst (-1), 1) := by decide +kernel
theorem dX10_review_10 : decode cX10_review 10 = .ok (.putfield 59, 3) := by decide +kernel
theorem dX10_review_13 : decode cX10_review 13 = .ok (.aload_n 0, 1) := by decide +kernel
theorem dX10_review_14 : decode cX10_review 14 = .ok (.iconst (-1), 1) := by decide +kernel
theorem dX10_review_15 : decode cX10_review 15 = .ok (.putfield 62, 3) := by decide +kernel
theorem dX10_review_18 : decode cX10_review 18 = .ok (.aload_n 0, 1) := by decide +kernel
theorem dX10_review_19 : decode cX10_review 19 = .ok (.iconst (-1), 1) := by decide +kernel
theorem dX10_review_20 : decode cX10_review 20 = .ok (.putfield 65, 3) := by decide +kernel
theorem dX10_review_23 : decode cX10_review 23 = .ok (.iconst 0, 1) := by decide +kernel
theorem dX10_review_24 : decode cX10_review 24 = .ok (.istore 5, 2) := by decide +kernel
theorem dX10_review_26 : decode cX10_review 26 = .ok (.iload 5, 2) := by decide +kernel
theorem dX10_review_28 : decode cX10_review 28 = .ok (.aload_n 0, 1) := by decide +kernel
theorem dX10_review_29 : decode cX10_review 29 = .ok (.getfield 49, 3) := by decide +kernel
theorem dX10_review_32 : decode cX10_review 32 = .ok (.if_icmp .ge 142, 3) := by decide +kernel
theorem dX10_review_35 : decode cX10_review 35 = .ok (.aload_n 0, 1) := by decide +kernel
theorem dX10_review_36 : decode cX10_review 36 = .ok (.getfield 27, 3) := by decide +kernel
theorem dX10_review_39 : decode cX10_review 39 = .ok (.iload 5, 2) := by decide +kernel
theorem dX10_review_41 : decode cX10_review 41 = .ok (.iaload, 1) := by decide +kernel
theorem dX10_review_42 : decode cX10_review 42 = .ok (.istore 6, 2) := by decide +kernel
theorem dX10_review_44 : decode cX10_review 44 = .ok (.aload_n 0, 1) := by decide +kernel
theorem dX10_review_45 : decode cX10_review 45 = .ok (.getfield 15, 3) := by decide +kernel
theorem dX10_review_48 : decode cX10_review 48 = .ok (.iload 6, 2) := by decide +kernel
theorem dX10_review_50 : decode cX10_review 50 = .ok (.iaload, 1) := by decide +kernel
theorem dX10_review_51 : decode cX10_review 51 = .ok (.iload_n 1, 1) := by decide +kernel
theorem dX10_review_52 : decode cX10_review 52 = .ok (.if_icmp .ne 116, 3) := by decide +kernel
theorem dX10_review_55 : decode cX10_review 55 = .ok (.aload_n 0, 1) := by decide +kernel
theorem dX10_review_56 : decode cX10_review 56 = .ok (.getfield 24, 3) := by decide +kernel
theorem dX10_review_59 : decode cX10_review 59 = .ok (.iload 6, 2) := by decide +kernel
theorem dX10_review_61 : decode cX10_review 61 = .ok (.iaload, 1) := by decide +kernel
theorem dX10_review_62 : decode cX10_review 62 = .ok (.iload_n 3, 1) := by decide +kernel
theorem dX10_review_63 : decode cX10_review 63 = .ok (.if_icmp .le 6, 3) := by decide +kernel
theorem dX10_review_66 : decode cX10_review 66 = .ok (.goto 102, 3) := by decide +kernel
theorem dX10_review_69 : decode cX10_review 69 = .ok (.aload_n 0, 1) := by decide +kernel
theorem dX10_review_70 : decode cX10_review 70 = .ok (.getfield 21, 3) := by decide +kernel
theorem dX10_review_73 : decode cX10_review 73 = .ok (.iload 6, 2) := by decide +kernel
theorem dX10_review_75 : decode cX10_review 75 = .ok (.iaload, 1) := by decide +kernel
theorem dX10_review_76 : decode cX10_review 76 = .ok (.iload_n 2, 1) := by decide +kernel
theorem dX10_review_77 : decode cX10_review 77 = .ok (.ishr, 1) := by decide +kernel
theorem dX10_review_78 : decode cX10_review 78 = .ok (.iconst 1, 1) := by decide +kernel
theorem dX10_review_79 : decode cX10_review 79 = .ok (.iand, 1) := by decide +kernel
theorem dX10_review_80 : decode cX10_review 80 = .ok (.iconst 1, 1) := by decide +kernel
theorem dX10_review_81 : decode cX10_review 81 = .ok (.if_icmp .ne 43, 3) := by decide +kernel
theorem dX10_review_84 : decode cX10_review 84 = .ok (.iload 4, 2) := by decide +kernel
theorem dX10_review_86 : decode cX10_review 86 = .ok (.iconst (-1), 1) := by decide +kernel
theorem dX10_review_87 : decode cX10_review 87 = .ok (.if_icmp .eq 23, 3) := by decide +kernel
theorem dX10_review_90 : decode cX10_review 90 = .ok (.aload_n 0, 1) := by decide +kernel
theorem dX10_review_91 : decode cX10_review 91 = .ok (.getfield 65, 3) := by decide +kernel
theorem dX10_review_94 : decode cX10_review 94 = .ok (.iconst (-1), 1) := by decide +kernel
theorem dX10_review_95 : decode cX10_review 95 = .ok (.if_icmp .ne 15, 3) := by decide +kernel
theorem dX10_review_98 : decode cX10_review 98 = .ok (.aload_n 0, 1) := by decide +kernel
theorem dX10_review_99 : decode cX10_review 99 = .ok (.iload 4, 2) := by decide +kernel
theorem dX10_review_101 : decode cX10_review 101 = .ok (.putfield 62, 3) := by decide +kernel
theorem dX10_review_104 : decode cX10_review 104 = .ok (.aload_n 0, 1) := by decide +kernel
theorem dX10_review_105 : decode cX10_review 105 = .ok (.iload 6, 2) := by decide +kernel
theorem dX10_review_107 : decode cX10_review 107 = .ok (.putfield 65, 3) := by decide +kernel
theorem dX10_review_110 : decode cX10_review 110 = .ok (.aload_n 0, 1) := by decide +kernel
theorem dX10_review_111 : decode cX10_review 111 = .ok (.iload 6, 2) := by decide +kernel
theorem dX10_review_113 : decode cX10_review 113 = .ok (.putfield 56, 3) := by decide +kernel
theorem dX10_review_116 : decode cX10_review 116 = .ok (.aload_n 0, 1) := by decide +kernel
theorem dX10_review_117 : decode cX10_review 117 = .ok (.iconst (-1), 1) := by decide +kernel
theorem dX10_review_118 : decode cX10_review 118 = .ok (.putfield 59, 3) := by decide +kernel
theorem dX10_review_121 : decode cX10_review 121 = .ok (.goto 47, 3) := by decide +kernel
theorem dX10_review_124 : decode cX10_review 124 = .ok (.aload_n 0, 1) := by decide +kernel
theorem dX10_review_125 : decode cX10_review 125 = .ok (.getfield 56, 3) := by decide +kernel
theorem dX10_review_128 : decode cX10_review 128 = .ok (.iconst (-1), 1) := by decide +kernel
theorem dX10_review_129 : decode cX10_review 129 = .ok (.if_icmp .eq 39, 3) := by decide +kernel
theorem dX10_review_132 : decode cX10_review 132 = .ok (.iload 4, 2) := by decide +kernel
theorem dX10_review_134 : decode cX10_review 134 = .ok (.iconst (-1), 1) := by decide +kernel
theorem dX10_review_135 : decode cX10_review 135 = .ok (.if_icmp .ne 8, 3) := by decide +kernel
theorem dX10_review_138 : decode cX10_review 138 = .ok (.iload 6, 2) := by decide +kernel
theorem dX10_review_140 : decode cX10_review 140 = .ok (.goto 5, 3) := by decide +kernel
theorem dX10_review_143 : decode cX10_review 143 = .ok (.iload 4, 2) := by decide +kernel
theorem dX10_review_145 : decode cX10_review 145 = .ok (.istore 4, 2) := by decide +kernel
theorem dX10_review_147 : decode cX10_review 147 = .ok (.aload_n 0, 1) := by decide +kernel
theorem dX10_review_148 : decode cX10_review 148 = .ok (.aload_n 0, 1) := by decide +kernel
theorem dX10_review_149 : decode cX10_review 149 = .ok (.getfield 59, 3) := by decide +kernel
theorem dX10_review_152 : decode cX10_review 152 = .ok (.iconst (-1), 1) := by decide +kernel
theorem dX10_review_153 : decode cX10_review 153 = .ok (.if_icmp .ne 8, 3) := by decide +kernel
theorem dX10_review_156 : decode cX10_review 156 = .ok (.iload 6, 2) := by decide +kernel
theorem dX10_review_158 : decode cX10_review 158 = .ok (.goto 7, 3) := by decide +kernel
theorem dX10_review_161 : decode cX10_review 161 = .ok (.aload_n 0, 1) := by decide +kernel
theorem dX10_review_162 : decode cX10_review 162 = .ok (.getfield 59, 3) := by decide +kernel
theorem dX10_review_165 : decode cX10_review 165 = .ok (.putfield 59, 3) := by decide +kernel
theorem dX10_review_168 : decode cX10_review 168 = .ok (.iinc 5 1, 3) := by decide +kernel
theorem dX10_review_171 : decode cX10_review 171 = .ok (.goto (-145), 3) := by decide +kernel
theorem dX10_review_174 : decode cX10_review 174 = .ok (.return_, 1) := by decide +kernel
theorem dX10_weekOf_0 : decode cX10_weekOf 0 = .ok (.iload_n 1, 1) := by decide +kernel
theorem dX10_weekOf_1 : decode cX10_weekOf 1 = .ok (.iconst (-1), 1) := by decide +kernel
theorem dX10_weekOf_2 : decode cX10_weekOf 2 = .ok (.if_icmp .ne 7, 3) := by decide +kernel
theorem dX10_weekOf_5 : decode cX10_weekOf 5 = .ok (.iconst (-1), 1) := by decide +kernel
theorem dX10_weekOf_6 : decode cX10_weekOf 6 = .ok (.goto 9, 3) := by decide +kernel
theorem dX10_weekOf_9 : decode cX10_weekOf 9 = .ok (.aload_n 0, 1) := by decide +kernel
theorem dX10_weekOf_10 : decode cX10_weekOf 10 = .ok (.getfield 18, 3) := by decide +kernel
theorem dX10_weekOf_13 : decode cX10_weekOf 13 = .ok (.iload_n 1, 1) := by decide +kernel
theorem dX10_weekOf_14 : decode cX10_weekOf 14 = .ok (.iaload, 1) := by decide +kernel
theorem dX10_weekOf_15 : decode cX10_weekOf 15 = .ok (.ireturn, 1) := by decide +kernel
theorem dX10_undertake_0 : decode cX10_undertake 0 = .ok (.aload_n 0, 1) := by decide +kernel
theorem dX10_undertake_1 : decode cX10_undertake 1 = .ok (.getfield 30, 3) := by decide +kernel
theorem dX10_undertake_4 : decode cX10_undertake 4 = .ok (.aload_n 0, 1) := by decide +kernel
theorem dX10_undertake_5 : decode cX10_undertake 5 = .ok (.getfield 68, 3) := by decide +kernel
theorem dX10_undertake_8 : decode cX10_undertake 8 = .ok (.iload_n 1, 1) := by decide +kernel
theorem dX10_undertake_9 : decode cX10_undertake 9 = .ok (.iastore, 1) := by decide +kernel
theorem dX10_undertake_10 : decode cX10_undertake 10 = .ok (.aload_n 0, 1) := by decide +kernel
theorem dX10_undertake_11 : decode cX10_undertake 11 = .ok (.getfield 33, 3) := by decide +kernel
theorem dX10_undertake_14 : decode cX10_undertake 14 = .ok (.aload_n 0, 1) := by decide +kernel
theorem dX10_undertake_15 : decode cX10_undertake 15 = .ok (.getfield 68, 3) := by decide +kernel
theorem dX10_undertake_18 : decode cX10_undertake 18 = .ok (.iload_n 2, 1) := by decide +kernel
theorem dX10_undertake_19 : decode cX10_undertake 19 = .ok (.iastore, 1) := by decide +kernel
theorem dX10_undertake_20 : decode cX10_undertake 20 = .ok (.aload_n 0, 1) := by decide +kernel
theorem dX10_undertake_21 : decode cX10_undertake 21 = .ok (.getfield 36, 3) := by decide +kernel
theorem dX10_undertake_24 : decode cX10_undertake 24 = .ok (.aload_n 0, 1) := by decide +kernel
theorem dX10_undertake_25 : decode cX10_undertake 25 = .ok (.getfield 68, 3) := by decide +kernel
theorem dX10_undertake_28 : decode cX10_undertake 28 = .ok (.aload_n 0, 1) := by decide +kernel
theorem dX10_undertake_29 : decode cX10_undertake 29 = .ok (.getfield 11, 3) := by decide +kernel
theorem dX10_undertake_32 : decode cX10_undertake 32 = .ok (.iload_n 1, 1) := by decide +kernel
theorem dX10_undertake_33 : decode cX10_undertake 33 = .ok (.iaload, 1) := by decide +kernel
theorem dX10_undertake_34 : decode cX10_undertake 34 = .ok (.iload_n 3, 1) := by decide +kernel
theorem dX10_undertake_35 : decode cX10_undertake 35 = .ok (.imul, 1) := by decide +kernel
theorem dX10_undertake_36 : decode cX10_undertake 36 = .ok (.bipush 100, 2) := by decide +kernel
theorem dX10_undertake_38 : decode cX10_undertake 38 = .ok (.idiv, 1) := by decide +kernel
theorem dX10_undertake_39 : decode cX10_undertake 39 = .ok (.iastore, 1) := by decide +kernel
theorem dX10_undertake_40 : decode cX10_undertake 40 = .ok (.aload_n 0, 1) := by decide +kernel
theorem dX10_undertake_41 : decode cX10_undertake 41 = .ok (.dup, 1) := by decide +kernel
theorem dX10_undertake_42 : decode cX10_undertake 42 = .ok (.getfield 68, 3) := by decide +kernel
theorem dX10_undertake_45 : decode cX10_undertake 45 = .ok (.iconst 1, 1) := by decide +kernel
theorem dX10_undertake_46 : decode cX10_undertake 46 = .ok (.iadd, 1) := by decide +kernel
theorem dX10_undertake_47 : decode cX10_undertake 47 = .ok (.putfield 68, 3) := by decide +kernel
theorem dX10_undertake_50 : decode cX10_undertake 50 = .ok (.aload_n 0, 1) := by decide +kernel
theorem dX10_undertake_51 : decode cX10_undertake 51 = .ok (.getfield 68, 3) := by decide +kernel
theorem dX10_undertake_54 : decode cX10_undertake 54 = .ok (.iconst 1, 1) := by decide +kernel
theorem dX10_undertake_55 : decode cX10_undertake 55 = .ok (.isub, 1) := by decide +kernel
theorem dX10_undertake_56 : decode cX10_undertake 56 = .ok (.ireturn, 1) := by decide +kernel
theorem dX10_savedBy_0 : decode cX10_savedBy 0 = .ok (.iconst 0, 1) := by decide +kernel
theorem dX10_savedBy_1 : decode cX10_savedBy 1 = .ok (.istore_n 2, 1) := by decide +kernel
theorem dX10_savedBy_2 : decode cX10_savedBy 2 = .ok (.aload_n 0, 1) := by decide +kernel
theorem dX10_savedBy_3 : decode cX10_savedBy 3 = .ok (.getfield 39, 3) := by decide +kernel
theorem dX10_savedBy_6 : decode cX10_savedBy 6 = .ok (.iconst 0, 1) := by decide +kernel
theorem dX10_savedBy_7 : decode cX10_savedBy 7 = .ok (.invokestatic 71, 3) := by decide +kernel
theorem dX10_savedBy_10 : decode cX10_savedBy 10 = .ok (.iconst 0, 1) := by decide +kernel
theorem dX10_savedBy_11 : decode cX10_savedBy 11 = .ok (.istore_n 3, 1) := by decide +kernel
theorem dX10_savedBy_12 : decode cX10_savedBy 12 = .ok (.iload_n 3, 1) := by decide +kernel
theorem dX10_savedBy_13 : decode cX10_savedBy 13 = .ok (.aload_n 0, 1) := by decide +kernel
theorem dX10_savedBy_14 : decode cX10_savedBy 14 = .ok (.getfield 68, 3) := by decide +kernel
theorem dX10_savedBy_17 : decode cX10_savedBy 17 = .ok (.if_icmp .ge 69, 3) := by decide +kernel
theorem dX10_savedBy_20 : decode cX10_savedBy 20 = .ok (.iload_n 1, 1) := by decide +kernel
theorem dX10_savedBy_21 : decode cX10_savedBy 21 = .ok (.iload_n 3, 1) := by decide +kernel
theorem dX10_savedBy_22 : decode cX10_savedBy 22 = .ok (.ishr, 1) := by decide +kernel
theorem dX10_savedBy_23 : decode cX10_savedBy 23 = .ok (.iconst 1, 1) := by decide +kernel
theorem dX10_savedBy_24 : decode cX10_savedBy 24 = .ok (.iand, 1) := by decide +kernel
theorem dX10_savedBy_25 : decode cX10_savedBy 25 = .ok (.iconst 1, 1) := by decide +kernel
theorem dX10_savedBy_26 : decode cX10_savedBy 26 = .ok (.if_icmp .ne 54, 3) := by decide +kernel
theorem dX10_savedBy_29 : decode cX10_savedBy 29 = .ok (.aload_n 0, 1) := by decide +kernel
theorem dX10_savedBy_30 : decode cX10_savedBy 30 = .ok (.getfield 30, 3) := by decide +kernel
theorem dX10_savedBy_33 : decode cX10_savedBy 33 = .ok (.iload_n 3, 1) := by decide +kernel
theorem dX10_savedBy_34 : decode cX10_savedBy 34 = .ok (.iaload, 1) := by decide +kernel
theorem dX10_savedBy_35 : decode cX10_savedBy 35 = .ok (.istore 4, 2) := by decide +kernel
theorem dX10_savedBy_37 : decode cX10_savedBy 37 = .ok (.aload_n 0, 1) := by decide +kernel
theorem dX10_savedBy_38 : decode cX10_savedBy 38 = .ok (.getfield 36, 3) := by decide +kernel
theorem dX10_savedBy_41 : decode cX10_savedBy 41 = .ok (.iload_n 3, 1) := by decide +kernel
theorem dX10_savedBy_42 : decode cX10_savedBy 42 = .ok (.iaload, 1) := by decide +kernel
theorem dX10_savedBy_43 : decode cX10_savedBy 43 = .ok (.aload_n 0, 1) := by decide +kernel
theorem dX10_savedBy_44 : decode cX10_savedBy 44 = .ok (.getfield 11, 3) := by decide +kernel
theorem dX10_savedBy_47 : decode cX10_savedBy 47 = .ok (.iload 4, 2) := by decide +kernel
theorem dX10_savedBy_49 : decode cX10_savedBy 49 = .ok (.iaload, 1) := by decide +kernel
theorem dX10_savedBy_50 : decode cX10_savedBy 50 = .ok (.aload_n 0, 1) := by decide +kernel
theorem dX10_savedBy_51 : decode cX10_savedBy 51 = .ok (.getfield 39, 3) := by decide +kernel
theorem dX10_savedBy_54 : decode cX10_savedBy 54 = .ok (.iload 4, 2) := by decide +kernel
theorem dX10_savedBy_56 : decode cX10_savedBy 56 = .ok (.iaload, 1) := by decide +kernel
theorem dX10_savedBy_57 : decode cX10_savedBy 57 = .ok (.isub, 1) := by decide +kernel
theorem dX10_savedBy_58 : decode cX10_savedBy 58 = .ok (.invokestatic 77, 3) := by decide +kernel
theorem dX10_savedBy_61 : decode cX10_savedBy 61 = .ok (.istore 5, 2) := by decide +kernel
theorem dX10_savedBy_63 : decode cX10_savedBy 63 = .ok (.aload_n 0, 1) := by decide +kernel
theorem dX10_savedBy_64 : decode cX10_savedBy 64 = .ok (.getfield 39, 3) := by decide +kernel
theorem dX10_savedBy_67 : decode cX10_savedBy 67 = .ok (.iload 4, 2) := by decide +kernel
theorem dX10_savedBy_69 : decode cX10_savedBy 69 = .ok (.dup2, 1) := by decide +kernel
theorem dX10_savedBy_70 : decode cX10_savedBy 70 = .ok (.iaload, 1) := by decide +kernel
theorem dX10_savedBy_71 : decode cX10_savedBy 71 = .ok (.iload 5, 2) := by decide +kernel
theorem dX10_savedBy_73 : decode cX10_savedBy 73 = .ok (.iadd, 1) := by decide +kernel
theorem dX10_savedBy_74 : decode cX10_savedBy 74 = .ok (.iastore, 1) := by decide +kernel
theorem dX10_savedBy_75 : decode cX10_savedBy 75 = .ok (.iload_n 2, 1) := by decide +kernel
theorem dX10_savedBy_76 : decode cX10_savedBy 76 = .ok (.iload 5, 2) := by decide +kernel
theorem dX10_savedBy_78 : decode cX10_savedBy 78 = .ok (.iadd, 1) := by decide +kernel
theorem dX10_savedBy_79 : decode cX10_savedBy 79 = .ok (.istore_n 2, 1) := by decide +kernel
theorem dX10_savedBy_80 : decode cX10_savedBy 80 = .ok (.iinc 3 1, 3) := by decide +kernel
theorem dX10_savedBy_83 : decode cX10_savedBy 83 = .ok (.goto (-71), 3) := by decide +kernel
theorem dX10_savedBy_86 : decode cX10_savedBy 86 = .ok (.iload_n 2, 1) := by decide +kernel
theorem dX10_savedBy_87 : decode cX10_savedBy 87 = .ok (.ireturn, 1) := by decide +kernel
theorem dX10_costOf_0 : decode cX10_costOf 0 = .ok (.iconst 0, 1) := by decide +kernel
theorem dX10_costOf_1 : decode cX10_costOf 1 = .ok (.istore_n 2, 1) := by decide +kernel
theorem dX10_costOf_2 : decode cX10_costOf 2 = .ok (.iconst 0, 1) := by decide +kernel
theorem dX10_costOf_3 : decode cX10_costOf 3 = .ok (.istore_n 3, 1) := by decide +kernel
theorem dX10_costOf_4 : decode cX10_costOf 4 = .ok (.iload_n 3, 1) := by decide +kernel
theorem dX10_costOf_5 : decode cX10_costOf 5 = .ok (.aload_n 0, 1) := by decide +kernel
theorem dX10_costOf_6 : decode cX10_costOf 6 = .ok (.getfield 68, 3) := by decide +kernel
theorem dX10_costOf_9 : decode cX10_costOf 9 = .ok (.if_icmp .ge 24, 3) := by decide +kernel
theorem dX10_costOf_12 : decode cX10_costOf 12 = .ok (.iload_n 2, 1) := by decide +kernel
theorem dX10_costOf_13 : decode cX10_costOf 13 = .ok (.iload_n 1, 1) := by decide +kernel
theorem dX10_costOf_14 : decode cX10_costOf 14 = .ok (.iload_n 3, 1) := by decide +kernel
theorem dX10_costOf_15 : decode cX10_costOf 15 = .ok (.ishr, 1) := by decide +kernel
theorem dX10_costOf_16 : decode cX10_costOf 16 = .ok (.iconst 1, 1) := by decide +kernel
theorem dX10_costOf_17 : decode cX10_costOf 17 = .ok (.iand, 1) := by decide +kernel
theorem dX10_costOf_18 : decode cX10_costOf 18 = .ok (.aload_n 0, 1) := by decide +kernel
theorem dX10_costOf_19 : decode cX10_costOf 19 = .ok (.getfield 33, 3) := by decide +kernel
theorem dX10_costOf_22 : decode cX10_costOf 22 = .ok (.iload_n 3, 1) := by decide +kernel
theorem dX10_costOf_23 : decode cX10_costOf 23 = .ok (.iaload, 1) := by decide +kernel
theorem dX10_costOf_24 : decode cX10_costOf 24 = .ok (.imul, 1) := by decide +kernel
theorem dX10_costOf_25 : decode cX10_costOf 25 = .ok (.iadd, 1) := by decide +kernel
theorem dX10_costOf_26 : decode cX10_costOf 26 = .ok (.istore_n 2, 1) := by decide +kernel
theorem dX10_costOf_27 : decode cX10_costOf 27 = .ok (.iinc 3 1, 3) := by decide +kernel
theorem dX10_costOf_30 : decode cX10_costOf 30 = .ok (.goto (-26), 3) := by decide +kernel
theorem dX10_costOf_33 : decode cX10_costOf 33 = .ok (.iload_n 2, 1) := by decide +kernel
theorem dX10_costOf_34 : decode cX10_costOf 34 = .ok (.ireturn, 1) := by decide +kernel
theorem dX10_bestSet_0 : decode cX10_bestSet 0 = .ok (.iconst 0, 1) := by decide +kernel
theorem dX10_bestSet_1 : decode cX10_bestSet 1 = .ok (.istore_n 2, 1) := by decide +kernel
theorem dX10_bestSet_2 : decode cX10_bestSet 2 = .ok (.iconst 0, 1) := by decide +kernel
theorem dX10_bestSet_3 : decode cX10_bestSet 3 = .ok (.istore_n 3, 1) := by decide +kernel
theorem dX10_bestSet_4 : decode cX10_bestSet 4 = .ok (.iconst 0, 1) := by decide +kernel
theorem dX10_bestSet_5 : decode cX10_bestSet 5 = .ok (.istore 4, 2) := by decide +kernel
theorem dX10_bestSet_7 : decode cX10_bestSet 7 = .ok (.iconst 1, 1) := by decide +kernel
theorem dX10_bestSet_8 : decode cX10_bestSet 8 = .ok (.istore 5, 2) := by decide +kernel
theorem dX10_bestSet_10 : decode cX10_bestSet 10 = .ok (.iload 5, 2) := by decide +kernel
theorem dX10_bestSet_12 : decode cX10_bestSet 12 = .ok (.iconst 1, 1) := by decide +kernel
theorem dX10_bestSet_13 : decode cX10_bestSet 13 = .ok (.aload_n 0, 1) := by decide +kernel
theorem dX10_bestSet_14 : decode cX10_bestSet 14 = .ok (.getfield 68, 3) := by decide +kernel
theorem dX10_bestSet_17 : decode cX10_bestSet 17 = .ok (.ishl, 1) := by decide +kernel
theorem dX10_bestSet_18 : decode cX10_bestSet 18 = .ok (.if_icmp .ge 63, 3) := by decide +kernel
theorem dX10_bestSet_21 : decode cX10_bestSet 21 = .ok (.aload_n 0, 1) := by decide +kernel
theorem dX10_bestSet_22 : decode cX10_bestSet 22 = .ok (.iload 5, 2) := by decide +kernel
theorem dX10_bestSet_24 : decode cX10_bestSet 24 = .ok (.invokevirtual 83, 3) := by decide +kernel
theorem dX10_bestSet_27 : decode cX10_bestSet 27 = .ok (.istore 6, 2) := by decide +kernel
theorem dX10_bestSet_29 : decode cX10_bestSet 29 = .ok (.iload 6, 2) := by decide +kernel
theorem dX10_bestSet_31 : decode cX10_bestSet 31 = .ok (.iload_n 1, 1) := by decide +kernel
theorem dX10_bestSet_32 : decode cX10_bestSet 32 = .ok (.if_icmp .le 6, 3) := by decide +kernel
theorem dX10_bestSet_35 : decode cX10_bestSet 35 = .ok (.goto 40, 3) := by decide +kernel
theorem dX10_bestSet_38 : decode cX10_bestSet 38 = .ok (.aload_n 0, 1) := by decide +kernel
theorem dX10_bestSet_39 : decode cX10_bestSet 39 = .ok (.iload 5, 2) := by decide +kernel
theorem dX10_bestSet_41 : decode cX10_bestSet 41 = .ok (.invokevirtual 87, 3) := by decide +kernel
theorem dX10_bestSet_44 : decode cX10_bestSet 44 = .ok (.istore 7, 2) := by decide +kernel
theorem dX10_bestSet_46 : decode cX10_bestSet 46 = .ok (.iload 7, 2) := by decide +kernel
theorem dX10_bestSet_48 : decode cX10_bestSet 48 = .ok (.iload_n 3, 1) := by decide +kernel
theorem dX10_bestSet_49 : decode cX10_bestSet 49 = .ok (.if_icmp .gt 16, 3) := by decide +kernel
theorem dX10_bestSet_52 : decode cX10_bestSet 52 = .ok (.iload 7, 2) := by decide +kernel
theorem dX10_bestSet_54 : decode cX10_bestSet 54 = .ok (.iload_n 3, 1) := by decide +kernel
theorem dX10_bestSet_55 : decode cX10_bestSet 55 = .ok (.if_icmp .ne 20, 3) := by decide +kernel
theorem dX10_bestSet_58 : decode cX10_bestSet 58 = .ok (.iload 6, 2) := by decide +kernel
theorem dX10_bestSet_60 : decode cX10_bestSet 60 = .ok (.iload 4, 2) := by decide +kernel
theorem dX10_bestSet_62 : decode cX10_bestSet 62 = .ok (.if_icmp .ge 13, 3) := by decide +kernel
theorem dX10_bestSet_65 : decode cX10_bestSet 65 = .ok (.iload 5, 2) := by decide +kernel
theorem dX10_bestSet_67 : decode cX10_bestSet 67 = .ok (.istore_n 2, 1) := by decide +kernel
theorem dX10_bestSet_68 : decode cX10_bestSet 68 = .ok (.iload 7, 2) := by decide +kernel
theorem dX10_bestSet_70 : decode cX10_bestSet 70 = .ok (.istore_n 3, 1) := by decide +kernel
theorem dX10_bestSet_71 : decode cX10_bestSet 71 = .ok (.iload 6, 2) := by decide +kernel
theorem dX10_bestSet_73 : decode cX10_bestSet 73 = .ok (.istore 4, 2) := by decide +kernel
theorem dX10_bestSet_75 : decode cX10_bestSet 75 = .ok (.iinc 5 1, 3) := by decide +kernel
theorem dX10_bestSet_78 : decode cX10_bestSet 78 = .ok (.goto (-68), 3) := by decide +kernel
