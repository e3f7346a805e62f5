theorem dX7_init_100 : decode cX7_init 100 = .ok (.aload_n 0, 1) := by decide +kernel
theorem dX7_init_101 : decode cX7_init 101 = .ok (.getfield 32, 3) := by decide +kernel
theorem dX7_init_104 : decode cX7_init 104 = .ok (.invokespecial 54, 3) := by decide +kernel
theorem dX7_init_107 : decode cX7_init 107 = .ok (.putfield 55, 3) := by decide +kernel
theorem dX7_init_110 : decode cX7_init 110 = .ok (.aload_n 0, 1) := by decide +kernel
theorem dX7_init_111 : decode cX7_init 111 = .ok (.new 59, 3) := by decide +kernel
theorem dX7_init_114 : decode cX7_init 114 = .ok (.dup, 1) := by decide +kernel
theorem dX7_init_115 : decode cX7_init 115 = .ok (.aload_n 0, 1) := by decide +kernel
theorem dX7_init_116 : decode cX7_init 116 = .ok (.getfield 23, 3) := by decide +kernel
theorem dX7_init_119 : decode cX7_init 119 = .ok (.aload_n 0, 1) := by decide +kernel
theorem dX7_init_120 : decode cX7_init 120 = .ok (.getfield 32, 3) := by decide +kernel
theorem dX7_init_123 : decode cX7_init 123 = .ok (.invokespecial 61, 3) := by decide +kernel
theorem dX7_init_126 : decode cX7_init 126 = .ok (.putfield 62, 3) := by decide +kernel
theorem dX7_init_129 : decode cX7_init 129 = .ok (.return_, 1) := by decide +kernel
theorem dX7_insert_0 : decode cX7_insert 0 = .ok (.iload_n 1, 1) := by decide +kernel
theorem dX7_insert_1 : decode cX7_insert 1 = .ok (.invokestatic 66, 3) := by decide +kernel
theorem dX7_insert_4 : decode cX7_insert 4 = .ok (.ifCond .eq 15, 3) := by decide +kernel
theorem dX7_insert_7 : decode cX7_insert 7 = .ok (.iload_n 2, 1) := by decide +kernel
theorem dX7_insert_8 : decode cX7_insert 8 = .ok (.iload_n 3, 1) := by decide +kernel
theorem dX7_insert_9 : decode cX7_insert 9 = .ok (.iload 4, 2) := by decide +kernel
theorem dX7_insert_11 : decode cX7_insert 11 = .ok (.iload 5, 2) := by decide +kernel
theorem dX7_insert_13 : decode cX7_insert 13 = .ok (.invokestatic 70, 3) := by decide +kernel
theorem dX7_insert_16 : decode cX7_insert 16 = .ok (.ifCond .ne 5, 3) := by decide +kernel
theorem dX7_insert_19 : decode cX7_insert 19 = .ok (.iconst (-1), 1) := by decide +kernel
theorem dX7_insert_20 : decode cX7_insert 20 = .ok (.ireturn, 1) := by decide +kernel
theorem dX7_insert_21 : decode cX7_insert 21 = .ok (.aload_n 0, 1) := by decide +kernel
theorem dX7_insert_22 : decode cX7_insert 22 = .ok (.getfield 23, 3) := by decide +kernel
theorem dX7_insert_25 : decode cX7_insert 25 = .ok (.sipush 805, 3) := by decide +kernel
theorem dX7_insert_28 : decode cX7_insert 28 = .ok (.iload_n 1, 1) := by decide +kernel
theorem dX7_insert_29 : decode cX7_insert 29 = .ok (.iload_n 2, 1) := by decide +kernel
theorem dX7_insert_30 : decode cX7_insert 30 = .ok (.iload_n 3, 1) := by decide +kernel
theorem dX7_insert_31 : decode cX7_insert 31 = .ok (.iload 4, 2) := by decide +kernel
theorem dX7_insert_33 : decode cX7_insert 33 = .ok (.iload 5, 2) := by decide +kernel
theorem dX7_insert_35 : decode cX7_insert 35 = .ok (.invokevirtual 74, 3) := by decide +kernel
theorem dX7_insert_38 : decode cX7_insert 38 = .ok (.aload_n 0, 1) := by decide +kernel
theorem dX7_insert_39 : decode cX7_insert 39 = .ok (.getfield 23, 3) := by decide +kernel
theorem dX7_insert_42 : decode cX7_insert 42 = .ok (.sipush 805, 3) := by decide +kernel
theorem dX7_insert_45 : decode cX7_insert 45 = .ok (.invokevirtual 78, 3) := by decide +kernel
theorem dX7_insert_48 : decode cX7_insert 48 = .ok (.iconst (-1), 1) := by decide +kernel
theorem dX7_insert_49 : decode cX7_insert 49 = .ok (.if_icmp .eq 6, 3) := by decide +kernel
theorem dX7_insert_52 : decode cX7_insert 52 = .ok (.bipush (-2), 2) := by decide +kernel
theorem dX7_insert_54 : decode cX7_insert 54 = .ok (.ireturn, 1) := by decide +kernel
theorem dX7_insert_55 : decode cX7_insert 55 = .ok (.aload_n 0, 1) := by decide +kernel
theorem dX7_insert_56 : decode cX7_insert 56 = .ok (.getfield 23, 3) := by decide +kernel
theorem dX7_insert_59 : decode cX7_insert 59 = .ok (.getfield 82, 3) := by decide +kernel
theorem dX7_insert_62 : decode cX7_insert 62 = .ok (.sipush 400, 3) := by decide +kernel
theorem dX7_insert_65 : decode cX7_insert 65 = .ok (.if_icmp .lt 6, 3) := by decide +kernel
theorem dX7_insert_68 : decode cX7_insert 68 = .ok (.bipush (-3), 2) := by decide +kernel
theorem dX7_insert_70 : decode cX7_insert 70 = .ok (.ireturn, 1) := by decide +kernel
theorem dX7_insert_71 : decode cX7_insert 71 = .ok (.aload_n 0, 1) := by decide +kernel
theorem dX7_insert_72 : decode cX7_insert 72 = .ok (.getfield 48, 3) := by decide +kernel
theorem dX7_insert_75 : decode cX7_insert 75 = .ok (.invokevirtual 86, 3) := by decide +kernel
theorem dX7_insert_78 : decode cX7_insert 78 = .ok (.aload_n 0, 1) := by decide +kernel
theorem dX7_insert_79 : decode cX7_insert 79 = .ok (.getfield 32, 3) := by decide +kernel
theorem dX7_insert_82 : decode cX7_insert 82 = .ok (.aload_n 0, 1) := by decide +kernel
theorem dX7_insert_83 : decode cX7_insert 83 = .ok (.getfield 23, 3) := by decide +kernel
theorem dX7_insert_86 : decode cX7_insert 86 = .ok (.sipush 805, 3) := by decide +kernel
theorem dX7_insert_89 : decode cX7_insert 89 = .ok (.invokevirtual 89, 3) := by decide +kernel
theorem dX7_insert_92 : decode cX7_insert 92 = .ok (.invokevirtual 92, 3) := by decide +kernel
theorem dX7_insert_95 : decode cX7_insert 95 = .ok (.aload_n 0, 1) := by decide +kernel
theorem dX7_insert_96 : decode cX7_insert 96 = .ok (.getfield 32, 3) := by decide +kernel
theorem dX7_insert_99 : decode cX7_insert 99 = .ok (.invokevirtual 96, 3) := by decide +kernel
theorem dX7_insert_102 : decode cX7_insert 102 = .ok (.aload_n 0, 1) := by decide +kernel
theorem dX7_insert_103 : decode cX7_insert 103 = .ok (.getfield 23, 3) := by decide +kernel
theorem dX7_insert_106 : decode cX7_insert 106 = .ok (.getfield 82, 3) := by decide +kernel
theorem dX7_insert_109 : decode cX7_insert 109 = .ok (.ireturn, 1) := by decide +kernel
theorem dX7_remove_0 : decode cX7_remove 0 = .ok (.iload_n 1, 1) := by decide +kernel
theorem dX7_remove_1 : decode cX7_remove 1 = .ok (.invokestatic 66, 3) := by decide +kernel
theorem dX7_remove_4 : decode cX7_remove 4 = .ok (.ifCond .eq 15, 3) := by decide +kernel
theorem dX7_remove_7 : decode cX7_remove 7 = .ok (.iload_n 2, 1) := by decide +kernel
theorem dX7_remove_8 : decode cX7_remove 8 = .ok (.iload_n 3, 1) := by decide +kernel
theorem dX7_remove_9 : decode cX7_remove 9 = .ok (.iload 4, 2) := by decide +kernel
theorem dX7_remove_11 : decode cX7_remove 11 = .ok (.iload 5, 2) := by decide +kernel
theorem dX7_remove_13 : decode cX7_remove 13 = .ok (.invokestatic 70, 3) := by decide +kernel
theorem dX7_remove_16 : decode cX7_remove 16 = .ok (.ifCond .ne 5, 3) := by decide +kernel
theorem dX7_remove_19 : decode cX7_remove 19 = .ok (.iconst (-1), 1) := by decide +kernel
theorem dX7_remove_20 : decode cX7_remove 20 = .ok (.ireturn, 1) := by decide +kernel
theorem dX7_remove_21 : decode cX7_remove 21 = .ok (.aload_n 0, 1) := by decide +kernel
theorem dX7_remove_22 : decode cX7_remove 22 = .ok (.getfield 23, 3) := by decide +kernel
theorem dX7_remove_25 : decode cX7_remove 25 = .ok (.sipush 805, 3) := by decide +kernel
theorem dX7_remove_28 : decode cX7_remove 28 = .ok (.iload_n 1, 1) := by decide +kernel
theorem dX7_remove_29 : decode cX7_remove 29 = .ok (.iload_n 2, 1) := by decide +kernel
theorem dX7_remove_30 : decode cX7_remove 30 = .ok (.iload_n 3, 1) := by decide +kernel
theorem dX7_remove_31 : decode cX7_remove 31 = .ok (.iload 4, 2) := by decide +kernel
theorem dX7_remove_33 : decode cX7_remove 33 = .ok (.iload 5, 2) := by decide +kernel
theorem dX7_remove_35 : decode cX7_remove 35 = .ok (.invokevirtual 74, 3) := by decide +kernel
theorem dX7_remove_38 : decode cX7_remove 38 = .ok (.aload_n 0, 1) := by decide +kernel
theorem dX7_remove_39 : decode cX7_remove 39 = .ok (.getfield 23, 3) := by decide +kernel
theorem dX7_remove_42 : decode cX7_remove 42 = .ok (.sipush 805, 3) := by decide +kernel
theorem dX7_remove_45 : decode cX7_remove 45 = .ok (.invokevirtual 78, 3) := by decide +kernel
theorem dX7_remove_48 : decode cX7_remove 48 = .ok (.istore 6, 2) := by decide +kernel
theorem dX7_remove_50 : decode cX7_remove 50 = .ok (.iload 6, 2) := by decide +kernel
theorem dX7_remove_52 : decode cX7_remove 52 = .ok (.iconst (-1), 1) := by decide +kernel
theorem dX7_remove_53 : decode cX7_remove 53 = .ok (.if_icmp .ne 6, 3) := by decide +kernel
theorem dX7_remove_56 : decode cX7_remove 56 = .ok (.bipush (-2), 2) := by decide +kernel
theorem dX7_remove_58 : decode cX7_remove 58 = .ok (.ireturn, 1) := by decide +kernel
theorem dX7_remove_59 : decode cX7_remove 59 = .ok (.aload_n 0, 1) := by decide +kernel
theorem dX7_remove_60 : decode cX7_remove 60 = .ok (.getfield 48, 3) := by decide +kernel
theorem dX7_remove_63 : decode cX7_remove 63 = .ok (.invokevirtual 86, 3) := by decide +kernel
theorem dX7_remove_66 : decode cX7_remove 66 = .ok (.aload_n 0, 1) := by decide +kernel
theorem dX7_remove_67 : decode cX7_remove 67 = .ok (.getfield 32, 3) := by decide +kernel
theorem dX7_remove_70 : decode cX7_remove 70 = .ok (.iload 6, 2) := by decide +kernel
theorem dX7_remove_72 : decode cX7_remove 72 = .ok (.invokevirtual 99, 3) := by decide +kernel
theorem dX7_remove_75 : decode cX7_remove 75 = .ok (.aload_n 0, 1) := by decide +kernel
theorem dX7_remove_76 : decode cX7_remove 76 = .ok (.getfield 32, 3) := by decide +kernel
theorem dX7_remove_79 : decode cX7_remove 79 = .ok (.invokevirtual 96, 3) := by decide +kernel
theorem dX7_remove_82 : decode cX7_remove 82 = .ok (.aload_n 0, 1) := by decide +kernel
theorem dX7_remove_83 : decode cX7_remove 83 = .ok (.getfield 23, 3) := by decide +kernel
theorem dX7_remove_86 : decode cX7_remove 86 = .ok (.getfield 82, 3) := by decide +kernel
theorem dX7_remove_89 : decode cX7_remove 89 = .ok (.ireturn, 1) := by decide +kernel
theorem dX7_window_0 : decode cX7_window 0 = .ok (.iload_n 1, 1) := by decide +kernel
theorem dX7_window_1 : decode cX7_window 1 = .ok (.iload_n 2, 1) := by decide +kernel
theorem dX7_window_2 : decode cX7_window 2 = .ok (.iload_n 3, 1) := by decide +kernel
theorem dX7_window_3 : decode cX7_window 3 = .ok (.iload 4, 2) := by decide +kernel
theorem dX7_window_5 : decode cX7_window 5 = .ok (.invokestatic 70, 3) := by decide +kernel
theorem dX7_window_8 : decode cX7_window 8 = .ok (.ifCond .ne 5, 3) := by decide +kernel
theorem dX7_window_11 : decode cX7_window 11 = .ok (.iconst (-1), 1) := by decide +kernel
theorem dX7_window_12 : decode cX7_window 12 = .ok (.ireturn, 1) := by decide +kernel
theorem dX7_window_13 : decode cX7_window 13 = .ok (.aload_n 0, 1) := by decide +kernel
theorem dX7_window_14 : decode cX7_window 14 = .ok (.getfield 23, 3) := by decide +kernel
theorem dX7_window_17 : decode cX7_window 17 = .ok (.sipush 804, 3) := by decide +kernel
theorem dX7_window_20 : decode cX7_window 20 = .ok (.iconst (-1), 1) := by decide +kernel
theorem dX7_window_21 : decode cX7_window 21 = .ok (.iload_n 1, 1) := by decide +kernel
theorem dX7_window_22 : decode cX7_window 22 = .ok (.iload_n 2, 1) := by decide +kernel
theorem dX7_window_23 : decode cX7_window 23 = .ok (.iload_n 3, 1) := by decide +kernel
theorem dX7_window_24 : decode cX7_window 24 = .ok (.iload 4, 2) := by decide +kernel
theorem dX7_window_26 : decode cX7_window 26 = .ok (.invokevirtual 74, 3) := by decide +kernel
theorem dX7_window_29 : decode cX7_window 29 = .ok (.aload_n 0, 1) := by decide +kernel
theorem dX7_window_30 : decode cX7_window 30 = .ok (.getfield 48, 3) := by decide +kernel
theorem dX7_window_33 : decode cX7_window 33 = .ok (.invokevirtual 102, 3) := by decide +kernel
theorem dX7_window_36 : decode cX7_window 36 = .ok (.iconst 0, 1) := by decide +kernel
theorem dX7_window_37 : decode cX7_window 37 = .ok (.ireturn, 1) := by decide +kernel
theorem dX7_next_0 : decode cX7_next 0 = .ok (.aload_n 0, 1) := by decide +kernel
theorem dX7_next_1 : decode cX7_next 1 = .ok (.getfield 48, 3) := by decide +kernel
theorem dX7_next_4 : decode cX7_next 4 = .ok (.getfield 105, 3) := by decide +kernel
theorem dX7_next_7 : decode cX7_next 7 = .ok (.ifCond .ne 5, 3) := by decide +kernel
theorem dX7_next_10 : decode cX7_next 10 = .ok (.iconst (-1), 1) := by decide +kernel
theorem dX7_next_11 : decode cX7_next 11 = .ok (.ireturn, 1) := by decide +kernel
theorem dX7_next_12 : decode cX7_next 12 = .ok (.aload_n 0, 1) := by decide +kernel
theorem dX7_next_13 : decode cX7_next 13 = .ok (.getfield 48, 3) := by decide +kernel
theorem dX7_next_16 : decode cX7_next 16 = .ok (.invokevirtual 109, 3) := by decide +kernel
theorem dX7_next_19 : decode cX7_next 19 = .ok (.istore_n 1, 1) := by decide +kernel
theorem dX7_next_20 : decode cX7_next 20 = .ok (.iload_n 1, 1) := by decide +kernel
theorem dX7_next_21 : decode cX7_next 21 = .ok (.iconst (-1), 1) := by decide +kernel
theorem dX7_next_22 : decode cX7_next 22 = .ok (.if_icmp .ne 8, 3) := by decide +kernel
theorem dX7_next_25 : decode cX7_next 25 = .ok (.bipush (-2), 2) := by decide +kernel
theorem dX7_next_27 : decode cX7_next 27 = .ok (.goto 12, 3) := by decide +kernel
theorem dX7_next_30 : decode cX7_next 30 = .ok (.aload_n 0, 1) := by decide +kernel
theorem dX7_next_31 : decode cX7_next 31 = .ok (.getfield 23, 3) := by decide +kernel
theorem dX7_next_34 : decode cX7_next 34 = .ok (.getfield 113, 3) := by decide +kernel
theorem dX7_next_37 : decode cX7_next 37 = .ok (.iload_n 1, 1) := by decide +kernel
theorem dX7_next_38 : decode cX7_next 38 = .ok (.iaload, 1) := by decide +kernel
theorem dX7_next_39 : decode cX7_next 39 = .ok (.ireturn, 1) := by decide +kernel
theorem dX7_countIn_0 : decode cX7_countIn 0 = .ok (.iload_n 1, 1) := by decide +kernel
theorem dX7_countIn_1 : decode cX7_countIn 1 = .ok (.iload_n 2, 1) := by decide +kernel
theorem dX7_countIn_2 : decode cX7_countIn 2 = .ok (.iload_n 3, 1) := by decide +kernel
theorem dX7_countIn_3 : decode cX7_countIn 3 = .ok (.iload 4, 2) := by decide +kernel
theorem dX7_countIn_5 : decode cX7_countIn 5 = .ok (.invokestatic 70, 3) := by decide +kernel
theorem dX7_countIn_8 : decode cX7_countIn 8 = .ok (.ifCond .ne 5, 3) := by decide +kernel
theorem dX7_countIn_11 : decode cX7_countIn 11 = .ok (.iconst (-1), 1) := by decide +kernel
theorem dX7_countIn_12 : decode cX7_countIn 12 = .ok (.ireturn, 1) := by decide +kernel
theorem dX7_countIn_13 : decode cX7_countIn 13 = .ok (.aload_n 0, 1) := by decide +kernel
theorem dX7_countIn_14 : decode cX7_countIn 14 = .ok (.getfield 23, 3) := by decide +kernel
theorem dX7_countIn_17 : decode cX7_countIn 17 = .ok (.sipush 805, 3) := by decide +kernel
theorem dX7_countIn_20 : decode cX7_countIn 20 = .ok (.iconst (-1), 1) := by decide +kernel
theorem dX7_countIn_21 : decode cX7_countIn 21 = .ok (.iload_n 1, 1) := by decide +kernel
theorem dX7_countIn_22 : decode cX7_countIn 22 = .ok (.iload_n 2, 1) := by decide +kernel
theorem dX7_countIn_23 : decode cX7_countIn 23 = .ok (.iload_n 3, 1) := by decide +kernel
theorem dX7_countIn_24 : decode cX7_countIn 24 = .ok (.iload 4, 2) := by decide +kernel
theorem dX7_countIn_26 : decode cX7_countIn 26 = .ok (.invokevirtual 74, 3) := by decide +kernel
theorem dX7_countIn_29 : decode cX7_countIn 29 = .ok (.aload_n 0, 1) := by decide +kernel
theorem dX7_countIn_30 : decode cX7_countIn 30 = .ok (.getfield 23, 3) := by decide +kernel
theorem dX7_countIn_33 : decode cX7_countIn 33 = .ok (.sipush 805, 3) := by decide +kernel
theorem dX7_countIn_36 : decode cX7_countIn 36 = .ok (.iconst 0, 1) := by decide +kernel
theorem dX7_countIn_37 : decode cX7_countIn 37 = .ok (.invokevirtual 117, 3) := by decide +kernel
theorem dX7_countIn_40 : decode cX7_countIn 40 = .ok (.ireturn, 1) := by decide +kernel
theorem dX7_nearest_0 : decode cX7_nearest 0 = .ok (.iload_n 1, 1) := by decide +kernel
theorem dX7_nearest_1 : decode cX7_nearest 1 = .ok (.invokestatic 120, 3) := by decide +kernel
theorem dX7_nearest_4 : decode cX7_nearest 4 = .ok (.ifCond .eq 25, 3) := by decide +kernel
theorem dX7_nearest_7 : decode cX7_nearest 7 = .ok (.iload_n 2, 1) := by decide +kernel
theorem dX7_nearest_8 : decode cX7_nearest 8 = .ok (.invokestatic 120, 3) := by decide +kernel
theorem dX7_nearest_11 : decode cX7_nearest 11 = .ok (.ifCond .eq 18, 3) := by decide +kernel
theorem dX7_nearest_14 : decode cX7_nearest 14 = .ok (.iload_n 3, 1) := by decide +kernel
theorem dX7_nearest_15 : decode cX7_nearest 15 = .ok (.ifCond .lt 14, 3) := by decide +kernel
theorem dX7_nearest_18 : decode cX7_nearest 18 = .ok (.iload_n 3, 1) := by decide +kernel
theorem dX7_nearest_19 : decode cX7_nearest 19 = .ok (.aload_n 0, 1) := by decide +kernel
theorem dX7_nearest_20 : decode cX7_nearest 20 = .ok (.getfield 23, 3) := by decide +kernel
theorem dX7_nearest_23 : decode cX7_nearest 23 = .ok (.getfield 82, 3) := by decide +kernel
theorem dX7_nearest_26 : decode cX7_nearest 26 = .ok (.if_icmp .lt 5, 3) := by decide +kernel
theorem dX7_nearest_29 : decode cX7_nearest 29 = .ok (.iconst (-1), 1) := by decide +kernel
theorem dX7_nearest_30 : decode cX7_nearest 30 = .ok (.ireturn, 1) := by decide +kernel
theorem dX7_nearest_31 : decode cX7_nearest 31 = .ok (.aload_n 0, 1) := by decide +kernel
theorem dX7_nearest_32 : decode cX7_nearest 32 = .ok (.getfield 55, 3) := by decide +kernel
theorem dX7_nearest_35 : decode cX7_nearest 35 = .ok (.iload_n 1, 1) := by decide +kernel
theorem dX7_nearest_36 : decode cX7_nearest 36 = .ok (.iload_n 2, 1) := by decide +kernel
theorem dX7_nearest_37 : decode cX7_nearest 37 = .ok (.iload_n 3, 1) := by decide +kernel
theorem dX7_nearest_38 : decode cX7_nearest 38 = .ok (.invokevirtual 123, 3) := by decide +kernel
theorem dX7_nearest_41 : decode cX7_nearest 41 = .ok (.istore 4, 2) := by decide +kernel
theorem dX7_nearest_43 : decode cX7_nearest 43 = .ok (.iload 4, 2) := by decide +kernel
theorem dX7_nearest_45 : decode cX7_nearest 45 = .ok (.iconst (-1), 1) := by decide +kernel
theorem dX7_nearest_46 : decode cX7_nearest 46 = .ok (.if_icmp .ne 7, 3) := by decide +kernel
theorem dX7_nearest_49 : decode cX7_nearest 49 = .ok (.iconst (-1), 1) := by decide +kernel
theorem dX7_nearest_50 : decode cX7_nearest 50 = .ok (.goto 13, 3) := by decide +kernel
theorem dX7_nearest_53 : decode cX7_nearest 53 = .ok (.aload_n 0, 1) := by decide +kernel
theorem dX7_nearest_54 : decode cX7_nearest 54 = .ok (.getfield 23, 3) := by decide +kernel
theorem dX7_nearest_57 : decode cX7_nearest 57 = .ok (.getfield 113, 3) := by decide +kernel
theorem dX7_nearest_60 : decode cX7_nearest 60 = .ok (.iload 4, 2) := by decide +kernel
theorem dX7_nearest_62 : decode cX7_nearest 62 = .ok (.iaload, 1) := by decide +kernel
theorem dX7_nearest_63 : decode cX7_nearest 63 = .ok (.ireturn, 1) := by decide +kernel
theorem dX7_distance_0 : decode cX7_distance 0 = .ok (.aload_n 0, 1) := by decide +kernel
theorem dX7_distance_1 : decode cX7_distance 1 = .ok (.getfield 55, 3) := by decide +kernel
theorem dX7_distance_4 : decode cX7_distance 4 = .ok (.getfield 127, 3) := by decide +kernel
theorem dX7_distance_7 : decode cX7_distance 7 = .ok (.ireturn, 1) := by decide +kernel
theorem dX7_pairs_0 : decode cX7_pairs 0 = .ok (.iconst 0, 1) := by decide +kernel
theorem dX7_pairs_1 : decode cX7_pairs 1 = .ok (.istore_n 1, 1) := by decide +kernel
theorem dX7_pairs_2 : decode cX7_pairs 2 = .ok (.iconst 0, 1) := by decide +kernel
theorem dX7_pairs_3 : decode cX7_pairs 3 = .ok (.istore_n 2, 1) := by decide +kernel
theorem dX7_pairs_4 : decode cX7_pairs 4 = .ok (.iload_n 2, 1) := by decide +kernel
theorem dX7_pairs_5 : decode cX7_pairs 5 = .ok (.aload_n 0, 1) := by decide +kernel
theorem dX7_pairs_6 : decode cX7_pairs 6 = .ok (.getfield 23, 3) := by decide +kernel
theorem dX7_pairs_9 : decode cX7_pairs 9 = .ok (.getfield 130, 3) := by decide +kernel
theorem dX7_pairs_12 : decode cX7_pairs 12 = .ok (.if_icmp .ge 34, 3) := by decide +kernel
theorem dX7_pairs_15 : decode cX7_pairs 15 = .ok (.aload_n 0, 1) := by decide +kernel
theorem dX7_pairs_16 : decode cX7_pairs 16 = .ok (.getfield 23, 3) := by decide +kernel
theorem dX7_pairs_19 : decode cX7_pairs 19 = .ok (.iload_n 2, 1) := by decide +kernel
theorem dX7_pairs_20 : decode cX7_pairs 20 = .ok (.invokevirtual 133, 3) := by decide +kernel
theorem dX7_pairs_23 : decode cX7_pairs 23 = .ok (.ifCond .eq 17, 3) := by decide +kernel
theorem dX7_pairs_26 : decode cX7_pairs 26 = .ok (.iload_n 1, 1) := by decide +kernel
theorem dX7_pairs_27 : decode cX7_pairs 27 = .ok (.aload_n 0, 1) := by decide +kernel
theorem dX7_pairs_28 : decode cX7_pairs 28 = .ok (.getfield 23, 3) := by decide +kernel
theorem dX7_pairs_31 : decode cX7_pairs 31 = .ok (.iload_n 2, 1) := by decide +kernel
theorem dX7_pairs_32 : decode cX7_pairs 32 = .ok (.iload_n 2, 1) := by decide +kernel
theorem dX7_pairs_33 : decode cX7_pairs 33 = .ok (.iconst 1, 1) := by decide +kernel
theorem dX7_pairs_34 : decode cX7_pairs 34 = .ok (.iadd, 1) := by decide +kernel
theorem dX7_pairs_35 : decode cX7_pairs 35 = .ok (.invokevirtual 117, 3) := by decide +kernel
theorem dX7_pairs_38 : decode cX7_pairs 38 = .ok (.iadd, 1) := by decide +kernel
theorem dX7_pairs_39 : decode cX7_pairs 39 = .ok (.istore_n 1, 1) := by decide +kernel
theorem dX7_pairs_40 : decode cX7_pairs 40 = .ok (.iinc 2 1, 3) := by decide +kernel
theorem dX7_pairs_43 : decode cX7_pairs 43 = .ok (.goto (-39), 3) := by decide +kernel
theorem dX7_pairs_46 : decode cX7_pairs 46 = .ok (.iload_n 1, 1) := by decide +kernel
theorem dX7_pairs_47 : decode cX7_pairs 47 = .ok (.ireturn, 1) := by decide +kernel
theorem dX7_visited_0 : decode cX7_visited 0 = .ok (.iload_n 1, 1) := by decide +kernel
theorem dX7_visited_1 : decode cX7_visited 1 = .ok (.tableswitch 65 0 2 #[27, 49, 57], 27) := by decide +kernel
theorem dX7_visited_28 : decode cX7_visited 28 = .ok (.aload_n 0, 1) := by decide +kernel
theorem dX7_visited_29 : decode cX7_visited 29 = .ok (.getfield 48, 3) := by decide +kernel
theorem dX7_visited_32 : decode cX7_visited 32 = .ok (.getfield 105, 3) := by decide +kernel
theorem dX7_visited_35 : decode cX7_visited 35 = .ok (.ifCond .eq 13, 3) := by decide +kernel
theorem dX7_visited_38 : decode cX7_visited 38 = .ok (.aload_n 0, 1) := by decide +kernel
theorem dX7_visited_39 : decode cX7_visited 39 = .ok (.getfield 48, 3) := by decide +kernel
theorem dX7_visited_42 : decode cX7_visited 42 = .ok (.getfield 136, 3) := by decide +kernel
theorem dX7_visited_45 : decode cX7_visited 45 = .ok (.goto 4, 3) := by decide +kernel
theorem dX7_visited_48 : decode cX7_visited 48 = .ok (.iconst (-1), 1) := by decide +kernel
theorem dX7_visited_49 : decode cX7_visited 49 = .ok (.ireturn, 1) := by decide +kernel
theorem dX7_visited_50 : decode cX7_visited 50 = .ok (.aload_n 0, 1) := by decide +kernel
theorem dX7_visited_51 : decode cX7_visited 51 = .ok (.getfield 55, 3) := by decide +kernel
theorem dX7_visited_54 : decode cX7_visited 54 = .ok (.getfield 139, 3) := by decide +kernel
theorem dX7_visited_57 : decode cX7_visited 57 = .ok (.ireturn, 1) := by decide +kernel
theorem dX7_visited_58 : decode cX7_visited 58 = .ok (.aload_n 0, 1) := by decide +kernel
theorem dX7_visited_59 : decode cX7_visited 59 = .ok (.getfield 32, 3) := by decide +kernel
theorem dX7_visited_62 : decode cX7_visited 62 = .ok (.invokevirtual 140, 3) := by decide +kernel
theorem dX7_visited_65 : decode cX7_visited 65 = .ok (.ireturn, 1) := by decide +kernel
theorem dX7_visited_66 : decode cX7_visited 66 = .ok (.iconst (-1), 1) := by decide +kernel
theorem dX7_visited_67 : decode cX7_visited 67 = .ok (.ireturn, 1) := by decide +kernel
theorem dX7_pack_0 : decode cX7_pack 0 = .ok (.aload_n 0, 1) := by decide +kernel
theorem dX7_pack_1 : decode cX7_pack 1 = .ok (.getfield 48, 3) := by decide +kernel
theorem dX7_pack_4 : decode cX7_pack 4 = .ok (.invokevirtual 86, 3) := by decide +kernel
theorem dX7_pack_7 : decode cX7_pack 7 = .ok (.aload_n 0, 1) := by decide +kernel
theorem dX7_pack_8 : decode cX7_pack 8 = .ok (.getfield 41, 3) := by decide +kernel
theorem dX7_pack_11 : decode cX7_pack 11 = .ok (.invokevirtual 143, 3) := by decide +kernel
theorem dX7_pack_14 : decode cX7_pack 14 = .ok (.aload_n 0, 1) := by decide +kernel
theorem dX7_pack_15 : decode cX7_pack 15 = .ok (.getfield 32, 3) := by decide +kernel
theorem dX7_pack_18 : decode cX7_pack 18 = .ok (.invokevirtual 96, 3) := by decide +kernel
theorem dX7_pack_21 : decode cX7_pack 21 = .ok (.aload_n 0, 1) := by decide +kernel
theorem dX7_pack_22 : decode cX7_pack 22 = .ok (.getfield 32, 3) := by decide +kernel
theorem dX7_pack_25 : decode cX7_pack 25 = .ok (.getfield 146, 3) := by decide +kernel
theorem dX7_pack_28 : decode cX7_pack 28 = .ok (.ireturn, 1) := by decide +kernel
theorem dX7_clear_0 : decode cX7_clear 0 = .ok (.aload_n 0, 1) := by decide +kernel
theorem dX7_clear_1 : decode cX7_clear 1 = .ok (.getfield 23, 3) := by decide +kernel
theorem dX7_clear_4 : decode cX7_clear 4 = .ok (.getfield 82, 3) := by decide +kernel
theorem dX7_clear_7 : decode cX7_clear 7 = .ok (.istore_n 1, 1) := by decide +kernel
theorem dX7_clear_8 : decode cX7_clear 8 = .ok (.aload_n 0, 1) := by decide +kernel
theorem dX7_clear_9 : decode cX7_clear 9 = .ok (.getfield 48, 3) := by decide +kernel
theorem dX7_clear_12 : decode cX7_clear 12 = .ok (.invokevirtual 86, 3) := by decide +kernel
theorem dX7_clear_15 : decode cX7_clear 15 = .ok (.aload_n 0, 1) := by decide +kernel
theorem dX7_clear_16 : decode cX7_clear 16 = .ok (.getfield 23, 3) := by decide +kernel
theorem dX7_clear_19 : decode cX7_clear 19 = .ok (.invokevirtual 149, 3) := by decide +kernel
theorem dX7_clear_22 : decode cX7_clear 22 = .ok (.aload_n 0, 1) := by decide +kernel
theorem dX7_clear_23 : decode cX7_clear 23 = .ok (.getfield 32, 3) := by decide +kernel
theorem dX7_clear_26 : decode cX7_clear 26 = .ok (.invokevirtual 152, 3) := by decide +kernel
theorem dX7_clear_29 : decode cX7_clear 29 = .ok (.iload_n 1, 1) := by decide +kernel
theorem dX7_clear_30 : decode cX7_clear 30 = .ok (.ireturn, 1) := by decide +kernel
theorem dX7_count_0 : decode cX7_count 0 = .ok (.iload_n 1, 1) := by decide +kernel
theorem dX7_count_1 : decode cX7_count 1 = .ok (.tableswitch 121 0 7 #[47, 55, 73, 81, 89, 97, 105, 113], 47) := by decide +kernel
theorem dX7_count_48 : decode cX7_count 48 = .ok (.aload_n 0, 1) := by decide +kernel
theorem dX7_count_49 : decode cX7_count 49 = .ok (.getfield 23, 3) := by decide +kernel
theorem dX7_count_52 : decode cX7_count 52 = .ok (.getfield 82, 3) := by decide +kernel
theorem dX7_count_55 : decode cX7_count 55 = .ok (.ireturn, 1) := by decide +kernel
theorem dX7_count_56 : decode cX7_count 56 = .ok (.aload_n 0, 1) := by decide +kernel
theorem dX7_count_57 : decode cX7_count 57 = .ok (.getfield 23, 3) := by decide +kernel
theorem dX7_count_60 : decode cX7_count 60 = .ok (.getfield 155, 3) := by decide +kernel
theorem dX7_count_63 : decode cX7_count 63 = .ok (.aload_n 0, 1) := by decide +kernel
theorem dX7_count_64 : decode cX7_count 64 = .ok (.getfield 32, 3) := by decide +kernel
theorem dX7_count_67 : decode cX7_count 67 = .ok (.getfield 158, 3) := by decide +kernel
theorem dX7_count_70 : decode cX7_count 70 = .ok (.iaload, 1) := by decide +kernel
theorem dX7_count_71 : decode cX7_count 71 = .ok (.iconst 1, 1) := by decide +kernel
theorem dX7_count_72 : decode cX7_count 72 = .ok (.iadd, 1) := by decide +kernel
theorem dX7_count_73 : decode cX7_count 73 = .ok (.ireturn, 1) := by decide +kernel
theorem dX7_count_74 : decode cX7_count 74 = .ok (.aload_n 0, 1) := by decide +kernel
theorem dX7_count_75 : decode cX7_count 75 = .ok (.getfield 32, 3) := by decide +kernel
theorem dX7_count_78 : decode cX7_count 78 = .ok (.getfield 146, 3) := by decide +kernel
theorem dX7_count_81 : decode cX7_count 81 = .ok (.ireturn, 1) := by decide +kernel
theorem dX7_count_82 : decode cX7_count 82 = .ok (.aload_n 0, 1) := by decide +kernel
theorem dX7_count_83 : decode cX7_count 83 = .ok (.getfield 32, 3) := by decide +kernel
theorem dX7_count_86 : decode cX7_count 86 = .ok (.getfield 161, 3) := by decide +kernel
theorem dX7_count_89 : decode cX7_count 89 = .ok (.ireturn, 1) := by decide +kernel
theorem dX7_count_90 : decode cX7_count 90 = .ok (.aload_n 0, 1) := by decide +kernel
theorem dX7_count_91 : decode cX7_count 91 = .ok (.getfield 32, 3) := by decide +kernel
theorem dX7_count_94 : decode cX7_count 94 = .ok (.getfield 164, 3) := by decide +kernel
theorem dX7_count_97 : decode cX7_count 97 = .ok (.ireturn, 1) := by decide +kernel
theorem dX7_count_98 : decode cX7_count 98 = .ok (.aload_n 0, 1) := by decide +kernel
theorem dX7_count_99 : decode cX7_count 99 = .ok (.getfield 32, 3) := by decide +kernel
theorem dX7_count_102 : decode cX7_count 102 = .ok (.getfield 167, 3) := by decide +kernel
theorem dX7_count_105 : decode cX7_count 105 = .ok (.ireturn, 1) := by decide +kernel
theorem dX7_count_106 : decode cX7_count 106 = .ok (.aload_n 0, 1) := by decide +kernel
theorem dX7_count_107 : decode cX7_count 107 = .ok (.getfield 23, 3) := by decide +kernel
theorem dX7_count_110 : decode cX7_count 110 = .ok (.getfield 170, 3) := by decide +kernel
theorem dX7_count_113 : decode cX7_count 113 = .ok (.ireturn, 1) := by decide +kernel
theorem dX7_count_114 : decode cX7_count 114 = .ok (.aload_n 0, 1) := by decide +kernel
theorem dX7_count_115 : decode cX7_count 115 = .ok (.getfield 23, 3) := by decide +kernel
theorem dX7_count_118 : decode cX7_count 118 = .ok (.getfield 173, 3) := by decide +kernel
theorem dX7_count_121 : decode cX7_count 121 = .ok (.ireturn, 1) := by decide +kernel
theorem dX7_count_122 : decode cX7_count 122 = .ok (.iconst (-1), 1) := by decide +kernel
theorem dX7_count_123 : decode cX7_count 123 = .ok (.ireturn, 1) := by decide +kernel
theorem dX7_node_0 : decode cX7_node 0 = .ok (.iload_n 1, 1) := by decide +kernel
theorem dX7_node_1 : decode cX7_node 1 = .ok (.ifCond .lt 14, 3) := by decide +kernel
theorem dX7_node_4 : decode cX7_node 4 = .ok (.iload_n 1, 1) := by decide +kernel
theorem dX7_node_5 : decode cX7_node 5 = .ok (.aload_n 0, 1) := by decide +kernel
theorem dX7_node_6 : decode cX7_node 6 = .ok (.getfield 32, 3) := by decide +kernel
theorem dX7_node_9 : decode cX7_node 9 = .ok (.getfield 146, 3) := by decide +kernel
theorem dX7_node_12 : decode cX7_node 12 = .ok (.if_icmp .lt 5, 3) := by decide +kernel
theorem dX7_node_15 : decode cX7_node 15 = .ok (.iconst (-1), 1) := by decide +kernel
theorem dX7_node_16 : decode cX7_node 16 = .ok (.ireturn, 1) := by decide +kernel
theorem dX7_node_17 : decode cX7_node 17 = .ok (.aload_n 0, 1) := by decide +kernel
theorem dX7_node_18 : decode cX7_node 18 = .ok (.getfield 32, 3) := by decide +kernel
theorem dX7_node_21 : decode cX7_node 21 = .ok (.getfield 176, 3) := by decide +kernel
theorem dX7_node_24 : decode cX7_node 24 = .ok (.iload_n 1, 1) := by decide +kernel
theorem dX7_node_25 : decode cX7_node 25 = .ok (.iaload, 1) := by decide +kernel
theorem dX7_node_26 : decode cX7_node 26 = .ok (.istore_n 3, 1) := by decide +kernel
theorem dX7_node_27 : decode cX7_node 27 = .ok (.iload_n 2, 1) := by decide +kernel
theorem dX7_node_28 : decode cX7_node 28 = .ok (.tableswitch 128 0 6 #[44, 54, 64, 64, 64, 64, 92], 44) := by decide +kernel
theorem dX7_node_72 : decode cX7_node 72 = .ok (.aload_n 0, 1) := by decide +kernel
theorem dX7_node_73 : decode cX7_node 73 = .ok (.getfield 23, 3) := by decide +kernel
theorem dX7_node_76 : decode cX7_node 76 = .ok (.getfield 155, 3) := by decide +kernel
theorem dX7_node_79 : decode cX7_node 79 = .ok (.iload_n 3, 1) := by decide +kernel
theorem dX7_node_80 : decode cX7_node 80 = .ok (.iaload, 1) := by decide +kernel
theorem dX7_node_81 : decode cX7_node 81 = .ok (.ireturn, 1) := by decide +kernel
theorem dX7_node_82 : decode cX7_node 82 = .ok (.aload_n 0, 1) := by decide +kernel
theorem dX7_node_83 : decode cX7_node 83 = .ok (.getfield 23, 3) := by decide +kernel
theorem dX7_node_86 : decode cX7_node 86 = .ok (.getfield 179, 3) := by decide +kernel
theorem dX7_node_89 : decode cX7_node 89 = .ok (.iload_n 3, 1) := by decide +kernel
theorem dX7_node_90 : decode cX7_node 90 = .ok (.iaload, 1) := by decide +kernel
theorem dX7_node_91 : decode cX7_node 91 = .ok (.ireturn, 1) := by decide +kernel
theorem dX7_node_92 : decode cX7_node 92 = .ok (.aload_n 0, 1) := by decide +kernel
theorem dX7_node_93 : decode cX7_node 93 = .ok (.getfield 23, 3) := by decide +kernel
theorem dX7_node_96 : decode cX7_node 96 = .ok (.getfield 179, 3) := by decide +kernel
theorem dX7_node_99 : decode cX7_node 99 = .ok (.iload_n 3, 1) := by decide +kernel
theorem dX7_node_100 : decode cX7_node 100 = .ok (.iaload, 1) := by decide +kernel
theorem dX7_node_101 : decode cX7_node 101 = .ok (.ifCond .ne 7, 3) := by decide +kernel
theorem dX7_node_104 : decode cX7_node 104 = .ok (.iconst (-1), 1) := by decide +kernel
theorem dX7_node_105 : decode cX7_node 105 = .ok (.goto 14, 3) := by decide +kernel
theorem dX7_node_108 : decode cX7_node 108 = .ok (.aload_n 0, 1) := by decide +kernel
theorem dX7_node_109 : decode cX7_node 109 = .ok (.getfield 23, 3) := by decide +kernel
theorem dX7_node_112 : decode cX7_node 112 = .ok (.iload_n 3, 1) := by decide +kernel
theorem dX7_node_113 : decode cX7_node 113 = .ok (.iload_n 2, 1) := by decide +kernel
theorem dX7_node_114 : decode cX7_node 114 = .ok (.iconst 2, 1) := by decide +kernel
theorem dX7_node_115 : decode cX7_node 115 = .ok (.isub, 1) := by decide +kernel
theorem dX7_node_116 : decode cX7_node 116 = .ok (.invokevirtual 182, 3) := by decide +kernel
theorem dX7_node_119 : decode cX7_node 119 = .ok (.ireturn, 1) := by decide +kernel
theorem dX7_node_120 : decode cX7_node 120 = .ok (.aload_n 0, 1) := by decide +kernel
theorem dX7_node_121 : decode cX7_node 121 = .ok (.getfield 23, 3) := by decide +kernel
theorem dX7_node_124 : decode cX7_node 124 = .ok (.getfield 185, 3) := by decide +kernel
theorem dX7_node_127 : decode cX7_node 127 = .ok (.iload_n 3, 1) := by decide +kernel
theorem dX7_node_128 : decode cX7_node 128 = .ok (.iaload, 1) := by decide +kernel
theorem dX7_node_129 : decode cX7_node 129 = .ok (.iconst (-1), 1) := by decide +kernel
theorem dX7_node_130 : decode cX7_node 130 = .ok (.if_icmp .ne 8, 3) := by decide +kernel
theorem dX7_node_133 : decode cX7_node 133 = .ok (.bipush (-2), 2) := by decide +kernel
theorem dX7_node_135 : decode cX7_node 135 = .ok (.goto 20, 3) := by decide +kernel
theorem dX7_node_138 : decode cX7_node 138 = .ok (.aload_n 0, 1) := by decide +kernel
theorem dX7_node_139 : decode cX7_node 139 = .ok (.getfield 23, 3) := by decide +kernel
theorem dX7_node_142 : decode cX7_node 142 = .ok (.getfield 113, 3) := by decide +kernel
theorem dX7_node_145 : decode cX7_node 145 = .ok (.aload_n 0, 1) := by decide +kernel
theorem dX7_node_146 : decode cX7_node 146 = .ok (.getfield 23, 3) := by decide +kernel
theorem dX7_node_149 : decode cX7_node 149 = .ok (.getfield 185, 3) := by decide +kernel
theorem dX7_node_152 : decode cX7_node 152 = .ok (.iload_n 3, 1) := by decide +kernel
theorem dX7_node_153 : decode cX7_node 153 = .ok (.iaload, 1) := by decide +kernel
theorem dX7_node_154 : decode cX7_node 154 = .ok (.iaload, 1) := by decide +kernel
theorem dX7_node_155 : decode cX7_node 155 = .ok (.ireturn, 1) := by decide +kernel
theorem dX7_node_156 : decode cX7_node 156 = .ok (.iconst (-1), 1) := by decide +kernel
theorem dX7_node_157 : decode cX7_node 157 = .ok (.ireturn, 1) := by decide +kernel
theorem dX7_held_0 : decode cX7_held 0 = .ok (.iload_n 1, 1) := by decide +kernel
theorem dX7_held_1 : decode cX7_held 1 = .ok (.ifCond .lt 39, 3) := by decide +kernel
theorem dX7_held_4 : decode cX7_held 4 = .ok (.iload_n 1, 1) := by decide +kernel
theorem dX7_held_5 : decode cX7_held 5 = .ok (.aload_n 0, 1) := by decide +kernel
theorem dX7_held_6 : decode cX7_held 6 = .ok (.getfield 32, 3) := by decide +kernel
theorem dX7_held_9 : decode cX7_held 9 = .ok (.getfield 146, 3) := by decide +kernel
theorem dX7_held_12 : decode cX7_held 12 = .ok (.if_icmp .ge 28, 3) := by decide +kernel
theorem dX7_held_15 : decode cX7_held 15 = .ok (.iload_n 2, 1) := by decide +kernel
theorem dX7_held_16 : decode cX7_held 16 = .ok (.ifCond .lt 24, 3) := by decide +kernel
theorem dX7_held_19 : decode cX7_held 19 = .ok (.iload_n 2, 1) := by decide +kernel
theorem dX7_held_20 : decode cX7_held 20 = .ok (.aload_n 0, 1) := by decide +kernel
theorem dX7_held_21 : decode cX7_held 21 = .ok (.getfield 23, 3) := by decide +kernel
theorem dX7_held_24 : decode cX7_held 24 = .ok (.getfield 179, 3) := by decide +kernel
theorem dX7_held_27 : decode cX7_held 27 = .ok (.aload_n 0, 1) := by decide +kernel
theorem dX7_held_28 : decode cX7_held 28 = .ok (.getfield 32, 3) := by decide +kernel
theorem dX7_held_31 : decode cX7_held 31 = .ok (.getfield 176, 3) := by decide +kernel
theorem dX7_held_34 : decode cX7_held 34 = .ok (.iload_n 1, 1) := by decide +kernel
theorem dX7_held_35 : decode cX7_held 35 = .ok (.iaload, 1) := by decide +kernel
theorem dX7_held_36 : decode cX7_held 36 = .ok (.iaload, 1) := by decide +kernel
theorem dX7_held_37 : decode cX7_held 37 = .ok (.if_icmp .lt 5, 3) := by decide +kernel
theorem dX7_held_40 : decode cX7_held 40 = .ok (.iconst (-1), 1) := by decide +kernel
theorem dX7_held_41 : decode cX7_held 41 = .ok (.ireturn, 1) := by decide +kernel
theorem dX7_held_42 : decode cX7_held 42 = .ok (.aload_n 0, 1) := by decide +kernel
theorem dX7_held_43 : decode cX7_held 43 = .ok (.getfield 23, 3) := by decide +kernel
theorem dX7_held_46 : decode cX7_held 46 = .ok (.aload_n 0, 1) := by decide +kernel
theorem dX7_held_47 : decode cX7_held 47 = .ok (.getfield 32, 3) := by decide +kernel
theorem dX7_held_50 : decode cX7_held 50 = .ok (.getfield 176, 3) := by decide +kernel
theorem dX7_held_53 : decode cX7_held 53 = .ok (.iload_n 1, 1) := by decide +kernel
theorem dX7_held_54 : decode cX7_held 54 = .ok (.iaload, 1) := by decide +kernel
theorem dX7_held_55 : decode cX7_held 55 = .ok (.iload_n 2, 1) := by decide +kernel
theorem dX7_held_56 : decode cX7_held 56 = .ok (.invokevirtual 188, 3) := by decide +kernel
theorem dX7_held_59 : decode cX7_held 59 = .ok (.istore 4, 2) := by decide +kernel
theorem dX7_held_61 : decode cX7_held 61 = .ok (.iload_n 3, 1) := by decide +kernel
theorem dX7_held_62 : decode cX7_held 62 = .ok (.ifCond .ne 16, 3) := by decide +kernel
theorem dX7_held_65 : decode cX7_held 65 = .ok (.aload_n 0, 1) := by decide +kernel
theorem dX7_held_66 : decode cX7_held 66 = .ok (.getfield 23, 3) := by decide +kernel
theorem dX7_held_69 : decode cX7_held 69 = .ok (.getfield 113, 3) := by decide +kernel
theorem dX7_held_72 : decode cX7_held 72 = .ok (.iload 4, 2) := by decide +kernel
theorem dX7_held_74 : decode cX7_held 74 = .ok (.iaload, 1) := by decide +kernel
theorem dX7_held_75 : decode cX7_held 75 = .ok (.goto 15, 3) := by decide +kernel
theorem dX7_held_78 : decode cX7_held 78 = .ok (.aload_n 0, 1) := by decide +kernel
theorem dX7_held_79 : decode cX7_held 79 = .ok (.getfield 23, 3) := by decide +kernel
theorem dX7_held_82 : decode cX7_held 82 = .ok (.iload 4, 2) := by decide +kernel
theorem dX7_held_84 : decode cX7_held 84 = .ok (.iload_n 3, 1) := by decide +kernel
theorem dX7_held_85 : decode cX7_held 85 = .ok (.iconst 1, 1) := by decide +kernel
theorem dX7_held_86 : decode cX7_held 86 = .ok (.isub, 1) := by decide +kernel
theorem dX7_held_87 : decode cX7_held 87 = .ok (.invokevirtual 182, 3) := by decide +kernel
theorem dX7_held_90 : decode cX7_held 90 = .ok (.ireturn, 1) := by decide +kernel
theorem dX7_audit_0 : decode cX7_audit 0 = .ok (.aload_n 0, 1) := by decide +kernel
theorem dX7_audit_1 : decode cX7_audit 1 = .ok (.getfield 62, 3) := by decide +kernel
theorem dX7_audit_4 : decode cX7_audit 4 = .ok (.invokevirtual 191, 3) := by decide +kernel
theorem dX7_audit_7 : decode cX7_audit 7 = .ok (.ireturn, 1) := by decide +kernel
theorem dX7_isId_0 : decode cX7_isId 0 = .ok (.iload_n 0, 1) := by decide +kernel
theorem dX7_isId_1 : decode cX7_isId 1 = .ok (.ifCond .lt 14, 3) := by decide +kernel
theorem dX7_isId_4 : decode cX7_isId 4 = .ok (.iload_n 0, 1) := by decide +kernel
theorem dX7_isId_5 : decode cX7_isId 5 = .ok (.sipush 999, 3) := by decide +kernel
theorem dX7_isId_8 : decode cX7_isId 8 = .ok (.if_icmp .gt 7, 3) := by decide +kernel
theorem dX7_isId_11 : decode cX7_isId 11 = .ok (.iconst 1, 1) := by decide +kernel
theorem dX7_isId_12 : decode cX7_isId 12 = .ok (.goto 4, 3) := by decide +kernel
theorem dX7_isId_15 : decode cX7_isId 15 = .ok (.iconst 0, 1) := by decide +kernel
theorem dX7_isId_16 : decode cX7_isId 16 = .ok (.ireturn, 1) := by decide +kernel
theorem dX7_isPlace_0 : decode cX7_isPlace 0 = .ok (.iload_n 0, 1) := by decide +kernel
theorem dX7_isPlace_1 : decode cX7_isPlace 1 = .ok (.ifCond .lt 14, 3) := by decide +kernel
theorem dX7_isPlace_4 : decode cX7_isPlace 4 = .ok (.iload_n 0, 1) := by decide +kernel
theorem dX7_isPlace_5 : decode cX7_isPlace 5 = .ok (.sipush 32767, 3) := by decide +kernel
theorem dX7_isPlace_8 : decode cX7_isPlace 8 = .ok (.if_icmp .gt 7, 3) := by decide +kernel
theorem dX7_isPlace_11 : decode cX7_isPlace 11 = .ok (.iconst 1, 1) := by decide +kernel
theorem dX7_isPlace_12 : decode cX7_isPlace 12 = .ok (.goto 4, 3) := by decide +kernel
theorem dX7_isPlace_15 : decode cX7_isPlace 15 = .ok (.iconst 0, 1) := by decide +kernel
theorem dX7_isPlace_16 : decode cX7_isPlace 16 = .ok (.ireturn, 1) := by decide +kernel
theorem dX7_isRectangle_0 : decode cX7_isRectangle 0 = .ok (.iload_n 0, 1) := by decide +kernel
theorem dX7_isRectangle_1 : decode cX7_isRectangle 1 = .ok (.invokestatic 120, 3) := by decide +kernel
theorem dX7_isRectangle_4 : decode cX7_isRectangle 4 = .ok (.ifCond .eq 38, 3) := by decide +kernel
theorem dX7_isRectangle_7 : decode cX7_isRectangle 7 = .ok (.iload_n 1, 1) := by decide +kernel
theorem dX7_isRectangle_8 : decode cX7_isRectangle 8 = .ok (.invokestatic 120, 3) := by decide +kernel
theorem dX7_isRectangle_11 : decode cX7_isRectangle 11 = .ok (.ifCond .eq 31, 3) := by decide +kernel
theorem dX7_isRectangle_14 : decode cX7_isRectangle 14 = .ok (.iload_n 2, 1) := by decide +kernel
theorem dX7_isRectangle_15 : decode cX7_isRectangle 15 = .ok (.invokestatic 120, 3) := by decide +kernel
theorem dX7_isRectangle_18 : decode cX7_isRectangle 18 = .ok (.ifCond .eq 24, 3) := by decide +kernel
theorem dX7_isRectangle_21 : decode cX7_isRectangle 21 = .ok (.iload_n 3, 1) := by decide +kernel
theorem dX7_isRectangle_22 : decode cX7_isRectangle 22 = .ok (.invokestatic 120, 3) := by decide +kernel
theorem dX7_isRectangle_25 : decode cX7_isRectangle 25 = .ok (.ifCond .eq 17, 3) := by decide +kernel
theorem dX7_isRectangle_28 : decode cX7_isRectangle 28 = .ok (.iload_n 0, 1) := by decide +kernel
theorem dX7_isRectangle_29 : decode cX7_isRectangle 29 = .ok (.iload_n 2, 1) := by decide +kernel
theorem dX7_isRectangle_30 : decode cX7_isRectangle 30 = .ok (.if_icmp .gt 12, 3) := by decide +kernel
theorem dX7_isRectangle_33 : decode cX7_isRectangle 33 = .ok (.iload_n 1, 1) := by decide +kernel
theorem dX7_isRectangle_34 : decode cX7_isRectangle 34 = .ok (.iload_n 3, 1) := by decide +kernel
theorem dX7_isRectangle_35 : decode cX7_isRectangle 35 = .ok (.if_icmp .gt 7, 3) := by decide +kernel
theorem dX7_isRectangle_38 : decode cX7_isRectangle 38 = .ok (.iconst 1, 1) := by decide +kernel
theorem dX7_isRectangle_39 : decode cX7_isRectangle 39 = .ok (.goto 4, 3) := by decide +kernel
theorem dX7_isRectangle_42 : decode cX7_isRectangle 42 = .ok (.iconst 0, 1) := by decide +kernel
theorem dX7_isRectangle_43 : decode cX7_isRectangle 43 = .ok (.ireturn, 1) := by decide +kernel
theorem dX8_init_0 : decode cX8_init 0 = .ok (.aload_n 0, 1) := by decide +kernel
theorem dX8_init_1 : decode cX8_init 1 = .ok (.invokespecial 7, 3) := by decide +kernel
theorem dX8_init_4 : decode cX8_init 4 = .ok (.aload_n 0, 1) := by decide +kernel
theorem dX8_init_5 : decode cX8_init 5 = .ok (.sipush 401, 3) := by decide +kernel
theorem dX8_init_8 : decode cX8_init 8 = .ok (.newarray .int, 2) := by decide +kernel
theorem dX8_init_10 : decode cX8_init 10 = .ok (.putfield 13, 3) := by decide +kernel
theorem dX8_init_13 : decode cX8_init 13 = .ok (.aload_n 0, 1) := by decide +kernel
theorem dX8_init_14 : decode cX8_init 14 = .ok (.sipush 1604, 3) := by decide +kernel
theorem dX8_init_17 : decode cX8_init 17 = .ok (.newarray .int, 2) := by decide +kernel
theorem dX8_init_19 : decode cX8_init 19 = .ok (.putfield 17, 3) := by decide +kernel
theorem dX8_init_22 : decode cX8_init 22 = .ok (.aload_n 0, 1) := by decide +kernel
theorem dX8_init_23 : decode cX8_init 23 = .ok (.sipush 500, 3) := by decide +kernel
theorem dX8_init_26 : decode cX8_init 26 = .ok (.newarray .int, 2) := by decide +kernel
theorem dX8_init_28 : decode cX8_init 28 = .ok (.putfield 20, 3) := by decide +kernel
theorem dX8_init_31 : decode cX8_init 31 = .ok (.aload_n 0, 1) := by decide +kernel
theorem dX8_init_32 : decode cX8_init 32 = .ok (.sipush 500, 3) := by decide +kernel
theorem dX8_init_35 : decode cX8_init 35 = .ok (.newarray .int, 2) := by decide +kernel
theorem dX8_init_37 : decode cX8_init 37 = .ok (.putfield 23, 3) := by decide +kernel
theorem dX8_init_40 : decode cX8_init 40 = .ok (.aload_n 0, 1) := by decide +kernel
theorem dX8_init_41 : decode cX8_init 41 = .ok (.sipush 5500, 3) := by decide +kernel
theorem dX8_init_44 : decode cX8_init 44 = .ok (.newarray .int, 2) := by decide +kernel
theorem dX8_init_46 : decode cX8_init 46 = .ok (.putfield 26, 3) := by decide +kernel
theorem dX8_init_49 : decode cX8_init 49 = .ok (.aload_n 0, 1) := by decide +kernel
theorem dX8_init_50 : decode cX8_init 50 = .ok (.sipush 2000, 3) := by decide +kernel
theorem dX8_init_53 : decode cX8_init 53 = .ok (.newarray .int, 2) := by decide +kernel
theorem dX8_init_55 : decode cX8_init 55 = .ok (.putfield 29, 3) := by decide +kernel
theorem dX8_init_58 : decode cX8_init 58 = .ok (.aload_n 0, 1) := by decide +kernel
theorem dX8_init_59 : decode cX8_init 59 = .ok (.sipush 500, 3) := by decide +kernel
theorem dX8_init_62 : decode cX8_init 62 = .ok (.newarray .int, 2) := by decide +kernel
theorem dX8_init_64 : decode cX8_init 64 = .ok (.putfield 32, 3) := by decide +kernel
theorem dX8_init_67 : decode cX8_init 67 = .ok (.aload_n 0, 1) := by decide +kernel
theorem dX8_init_68 : decode cX8_init 68 = .ok (.bipush 64, 2) := by decide +kernel
theorem dX8_init_70 : decode cX8_init 70 = .ok (.newarray .int, 2) := by decide +kernel
theorem dX8_init_72 : decode cX8_init 72 = .ok (.putfield 35, 3) := by decide +kernel
theorem dX8_init_75 : decode cX8_init 75 = .ok (.aload_n 0, 1) := by decide +kernel
theorem dX8_init_76 : decode cX8_init 76 = .ok (.bipush 64, 2) := by decide +kernel
theorem dX8_init_78 : decode cX8_init 78 = .ok (.newarray .int, 2) := by decide +kernel
theorem dX8_init_80 : decode cX8_init 80 = .ok (.putfield 38, 3) := by decide +kernel
theorem dX8_init_83 : decode cX8_init 83 = .ok (.aload_n 0, 1) := by decide +kernel
theorem dX8_init_84 : decode cX8_init 84 = .ok (.sipush 500, 3) := by decide +kernel
theorem dX8_init_87 : decode cX8_init 87 = .ok (.newarray .int, 2) := by decide +kernel
theorem dX8_init_89 : decode cX8_init 89 = .ok (.putfield 41, 3) := by decide +kernel
theorem dX8_init_92 : decode cX8_init 92 = .ok (.aload_n 0, 1) := by decide +kernel
theorem dX8_init_93 : decode cX8_init 93 = .ok (.iconst 4, 1) := by decide +kernel
theorem dX8_init_94 : decode cX8_init 94 = .ok (.newarray .int, 2) := by decide +kernel
theorem dX8_init_96 : decode cX8_init 96 = .ok (.putfield 44, 3) := by decide +kernel
theorem dX8_init_99 : decode cX8_init 99 = .ok (.aload_n 0, 1) := by decide +kernel
theorem dX8_init_100 : decode cX8_init 100 = .ok (.bipush 40, 2) := by decide +kernel
theorem dX8_init_102 : decode cX8_init 102 = .ok (.newarray .int, 2) := by decide +kernel
theorem dX8_init_104 : decode cX8_init 104 = .ok (.putfield 47, 3) := by decide +kernel
theorem dX8_init_107 : decode cX8_init 107 = .ok (.aload_n 0, 1) := by decide +kernel
theorem dX8_init_108 : decode cX8_init 108 = .ok (.bipush 40, 2) := by decide +kernel
theorem dX8_init_110 : decode cX8_init 110 = .ok (.newarray .int, 2) := by decide +kernel
theorem dX8_init_112 : decode cX8_init 112 = .ok (.putfield 50, 3) := by decide +kernel
theorem dX8_init_115 : decode cX8_init 115 = .ok (.aload_n 0, 1) := by decide +kernel
theorem dX8_init_116 : decode cX8_init 116 = .ok (.bipush 11, 2) := by decide +kernel
theorem dX8_init_118 : decode cX8_init 118 = .ok (.newarray .int, 2) := by decide +kernel
theorem dX8_init_120 : decode cX8_init 120 = .ok (.putfield 53, 3) := by decide +kernel
theorem dX8_init_123 : decode cX8_init 123 = .ok (.aload_n 0, 1) := by decide +kernel
theorem dX8_init_124 : decode cX8_init 124 = .ok (.bipush 11, 2) := by decide +kernel
theorem dX8_init_126 : decode cX8_init 126 = .ok (.newarray .int, 2) := by decide +kernel
theorem dX8_init_128 : decode cX8_init 128 = .ok (.putfield 56, 3) := by decide +kernel
theorem dX8_init_131 : decode cX8_init 131 = .ok (.aload_n 0, 1) := by decide +kernel
theorem dX8_init_132 : decode cX8_init 132 = .ok (.bipush 11, 2) := by decide +kernel
theorem dX8_init_134 : decode cX8_init 134 = .ok (.newarray .int, 2) := by decide +kernel
theorem dX8_init_136 : decode cX8_init 136 = .ok (.putfield 59, 3) := by decide +kernel
theorem dX8_init_139 : decode cX8_init 139 = .ok (.aload_n 0, 1) := by decide +kernel
theorem dX8_init_140 : decode cX8_init 140 = .ok (.bipush 8, 2) := by decide +kernel
theorem dX8_init_142 : decode cX8_init 142 = .ok (.newarray .int, 2) := by decide +kernel
theorem dX8_init_144 : decode cX8_init 144 = .ok (.putfield 62, 3) := by decide +kernel
theorem dX8_init_147 : decode cX8_init 147 = .ok (.aload_n 0, 1) := by decide +kernel
theorem dX8_init_148 : decode cX8_init 148 = .ok (.iconst 2, 1) := by decide +kernel
theorem dX8_init_149 : decode cX8_init 149 = .ok (.newarray .int, 2) := by decide +kernel
theorem dX8_init_151 : decode cX8_init 151 = .ok (.putfield 65, 3) := by decide +kernel
theorem dX8_init_154 : decode cX8_init 154 = .ok (.aload_n 0, 1) := by decide +kernel
theorem dX8_init_155 : decode cX8_init 155 = .ok (.sipush 1000, 3) := by decide +kernel
theorem dX8_init_158 : decode cX8_init 158 = .ok (.newarray .int, 2) := by decide +kernel
theorem dX8_init_160 : decode cX8_init 160 = .ok (.putfield 68, 3) := by decide +kernel
theorem dX8_init_163 : decode cX8_init 163 = .ok (.aload_n 0, 1) := by decide +kernel
theorem dX8_init_164 : decode cX8_init 164 = .ok (.sipush 1000, 3) := by decide +kernel
theorem dX8_init_167 : decode cX8_init 167 = .ok (.newarray .int, 2) := by decide +kernel
theorem dX8_init_169 : decode cX8_init 169 = .ok (.putfield 71, 3) := by decide +kernel
theorem dX8_init_172 : decode cX8_init 172 = .ok (.aload_n 0, 1) := by decide +kernel
theorem dX8_init_173 : decode cX8_init 173 = .ok (.sipush 500, 3) := by decide +kernel
theorem dX8_init_176 : decode cX8_init 176 = .ok (.newarray .int, 2) := by decide +kernel
theorem dX8_init_178 : decode cX8_init 178 = .ok (.putfield 74, 3) := by decide +kernel
theorem dX8_init_181 : decode cX8_init 181 = .ok (.aload_n 0, 1) := by decide +kernel
theorem dX8_init_182 : decode cX8_init 182 = .ok (.sipush 400, 3) := by decide +kernel
theorem dX8_init_185 : decode cX8_init 185 = .ok (.newarray .int, 2) := by decide +kernel
theorem dX8_init_187 : decode cX8_init 187 = .ok (.putfield 77, 3) := by decide +kernel
theorem dX8_init_190 : decode cX8_init 190 = .ok (.aload_n 0, 1) := by decide +kernel
theorem dX8_init_191 : decode cX8_init 191 = .ok (.sipush 200, 3) := by decide +kernel
theorem dX8_init_194 : decode cX8_init 194 = .ok (.newarray .int, 2) := by decide +kernel
theorem dX8_init_196 : decode cX8_init 196 = .ok (.putfield 80, 3) := by decide +kernel
theorem dX8_init_199 : decode cX8_init 199 = .ok (.iload_n 1, 1) := by decide +kernel
theorem dX8_init_200 : decode cX8_init 200 = .ok (.iconst 4, 1) := by decide +kernel
theorem dX8_init_201 : decode cX8_init 201 = .ok (.if_icmp .ge 7, 3) := by decide +kernel
theorem dX8_init_204 : decode cX8_init 204 = .ok (.iconst 4, 1) := by decide +kernel
theorem dX8_init_205 : decode cX8_init 205 = .ok (.goto 15, 3) := by decide +kernel
theorem dX8_init_208 : decode cX8_init 208 = .ok (.iload_n 1, 1) := by decide +kernel
theorem dX8_init_209 : decode cX8_init 209 = .ok (.bipush 10, 2) := by decide +kernel
theorem dX8_init_211 : decode cX8_init 211 = .ok (.if_icmp .le 8, 3) := by decide +kernel
theorem dX8_init_214 : decode cX8_init 214 = .ok (.bipush 10, 2) := by decide +kernel
theorem dX8_init_216 : decode cX8_init 216 = .ok (.goto 4, 3) := by decide +kernel
theorem dX8_init_219 : decode cX8_init 219 = .ok (.iload_n 1, 1) := by decide +kernel
theorem dX8_init_220 : decode cX8_init 220 = .ok (.istore_n 3, 1) := by decide +kernel
theorem dX8_init_221 : decode cX8_init 221 = .ok (.aload_n 0, 1) := by decide +kernel
theorem dX8_init_222 : decode cX8_init 222 = .ok (.iload_n 3, 1) := by decide +kernel
theorem dX8_init_223 : decode cX8_init 223 = .ok (.putfield 83, 3) := by decide +kernel
theorem dX8_init_226 : decode cX8_init 226 = .ok (.aload_n 0, 1) := by decide +kernel
theorem dX8_init_227 : decode cX8_init 227 = .ok (.iload_n 2, 1) := by decide +kernel
theorem dX8_init_228 : decode cX8_init 228 = .ok (.iconst 2, 1) := by decide +kernel
theorem dX8_init_229 : decode cX8_init 229 = .ok (.if_icmp .ge 7, 3) := by decide +kernel
theorem dX8_init_232 : decode cX8_init 232 = .ok (.iconst 2, 1) := by decide +kernel
theorem dX8_init_233 : decode cX8_init 233 = .ok (.goto 17, 3) := by decide +kernel
theorem dX8_init_236 : decode cX8_init 236 = .ok (.iload_n 2, 1) := by decide +kernel
theorem dX8_init_237 : decode cX8_init 237 = .ok (.iload_n 3, 1) := by decide +kernel
theorem dX8_init_238 : decode cX8_init 238 = .ok (.iconst 2, 1) := by decide +kernel
theorem dX8_init_239 : decode cX8_init 239 = .ok (.idiv, 1) := by decide +kernel
theorem dX8_init_240 : decode cX8_init 240 = .ok (.if_icmp .le 9, 3) := by decide +kernel
theorem dX8_init_243 : decode cX8_init 243 = .ok (.iload_n 3, 1) := by decide +kernel
theorem dX8_init_244 : decode cX8_init 244 = .ok (.iconst 2, 1) := by decide +kernel
theorem dX8_init_245 : decode cX8_init 245 = .ok (.idiv, 1) := by decide +kernel
theorem dX8_init_246 : decode cX8_init 246 = .ok (.goto 4, 3) := by decide +kernel
theorem dX8_init_249 : decode cX8_init 249 = .ok (.iload_n 2, 1) := by decide +kernel
theorem dX8_init_250 : decode cX8_init 250 = .ok (.putfield 86, 3) := by decide +kernel
theorem dX8_init_253 : decode cX8_init 253 = .ok (.iconst 0, 1) := by decide +kernel
theorem dX8_init_254 : decode cX8_init 254 = .ok (.istore 4, 2) := by decide +kernel
theorem dX8_init_256 : decode cX8_init 256 = .ok (.iload 4, 2) := by decide +kernel
theorem dX8_init_258 : decode cX8_init 258 = .ok (.sipush 400, 3) := by decide +kernel
theorem dX8_init_261 : decode cX8_init 261 = .ok (.if_icmp .gt 18, 3) := by decide +kernel
theorem dX8_init_264 : decode cX8_init 264 = .ok (.aload_n 0, 1) := by decide +kernel
theorem dX8_init_265 : decode cX8_init 265 = .ok (.getfield 13, 3) := by decide +kernel
theorem dX8_init_268 : decode cX8_init 268 = .ok (.iload 4, 2) := by decide +kernel
theorem dX8_init_270 : decode cX8_init 270 = .ok (.bipush (-2), 2) := by decide +kernel
theorem dX8_init_272 : decode cX8_init 272 = .ok (.iastore, 1) := by decide +kernel
theorem dX8_init_273 : decode cX8_init 273 = .ok (.iinc 4 1, 3) := by decide +kernel
theorem dX8_init_276 : decode cX8_init 276 = .ok (.goto (-20), 3) := by decide +kernel
theorem dX8_init_279 : decode cX8_init 279 = .ok (.iconst 0, 1) := by decide +kernel
theorem dX8_init_280 : decode cX8_init 280 = .ok (.istore 4, 2) := by decide +kernel
theorem dX8_init_282 : decode cX8_init 282 = .ok (.iload 4, 2) := by decide +kernel
theorem dX8_init_284 : decode cX8_init 284 = .ok (.sipush 500, 3) := by decide +kernel
theorem dX8_init_287 : decode cX8_init 287 = .ok (.if_icmp .ge 18, 3) := by decide +kernel
theorem dX8_init_290 : decode cX8_init 290 = .ok (.aload_n 0, 1) := by decide +kernel
theorem dX8_init_291 : decode cX8_init 291 = .ok (.getfield 20, 3) := by decide +kernel
theorem dX8_init_294 : decode cX8_init 294 = .ok (.iload 4, 2) := by decide +kernel
theorem dX8_init_296 : decode cX8_init 296 = .ok (.bipush (-2), 2) := by decide +kernel
theorem dX8_init_298 : decode cX8_init 298 = .ok (.iastore, 1) := by decide +kernel
theorem dX8_init_299 : decode cX8_init 299 = .ok (.iinc 4 1, 3) := by decide +kernel
theorem dX8_init_302 : decode cX8_init 302 = .ok (.goto (-20), 3) := by decide +kernel
theorem dX8_init_305 : decode cX8_init 305 = .ok (.aload_n 0, 1) := by decide +kernel
theorem dX8_init_306 : decode cX8_init 306 = .ok (.aload_n 0, 1) := by decide +kernel
theorem dX8_init_307 : decode cX8_init 307 = .ok (.iconst 0, 1) := by decide +kernel
theorem dX8_init_308 : decode cX8_init 308 = .ok (.invokevirtual 89, 3) := by decide +kernel
theorem dX8_init_311 : decode cX8_init 311 = .ok (.putfield 93, 3) := by decide +kernel
theorem dX8_init_314 : decode cX8_init 314 = .ok (.return_, 1) := by decide +kernel
theorem dX8_side_0 : decode cX8_side 0 = .ok (.iload_n 1, 1) := by decide +kernel
theorem dX8_side_1 : decode cX8_side 1 = .ok (.ifCond .ge 16, 3) := by decide +kernel
theorem dX8_side_4 : decode cX8_side 4 = .ok (.aload_n 0, 1) := by decide +kernel
theorem dX8_side_5 : decode cX8_side 5 = .ok (.getfield 17, 3) := by decide +kernel
theorem dX8_side_8 : decode cX8_side 8 = .ok (.iconst 4, 1) := by decide +kernel
theorem dX8_side_9 : decode cX8_side 9 = .ok (.iload_n 2, 1) := by decide +kernel
theorem dX8_side_10 : decode cX8_side 10 = .ok (.imul, 1) := by decide +kernel
theorem dX8_side_11 : decode cX8_side 11 = .ok (.iload_n 3, 1) := by decide +kernel
theorem dX8_side_12 : decode cX8_side 12 = .ok (.iadd, 1) := by decide +kernel
theorem dX8_side_13 : decode cX8_side 13 = .ok (.iaload, 1) := by decide +kernel
theorem dX8_side_14 : decode cX8_side 14 = .ok (.goto 13, 3) := by decide +kernel
theorem dX8_side_17 : decode cX8_side 17 = .ok (.aload_n 0, 1) := by decide +kernel
theorem dX8_side_18 : decode cX8_side 18 = .ok (.getfield 29, 3) := by decide +kernel
theorem dX8_side_21 : decode cX8_side 21 = .ok (.iconst 4, 1) := by decide +kernel
theorem dX8_side_22 : decode cX8_side 22 = .ok (.iload_n 2, 1) := by decide +kernel
theorem dX8_side_23 : decode cX8_side 23 = .ok (.imul, 1) := by decide +kernel
theorem dX8_side_24 : decode cX8_side 24 = .ok (.iload_n 3, 1) := by decide +kernel
theorem dX8_side_25 : decode cX8_side 25 = .ok (.iadd, 1) := by decide +kernel
theorem dX8_side_26 : decode cX8_side 26 = .ok (.iaload, 1) := by decide +kernel
theorem dX8_side_27 : decode cX8_side 27 = .ok (.ireturn, 1) := by decide +kernel
theorem dX8_area_0 : decode cX8_area 0 = .ok (.iload_n 2, 1) := by decide +kernel
theorem dX8_area_1 : decode cX8_area 1 = .ok (.iload_n 0, 1) := by decide +kernel
theorem dX8_area_2 : decode cX8_area 2 = .ok (.isub, 1) := by decide +kernel
theorem dX8_area_3 : decode cX8_area 3 = .ok (.i2l, 1) := by decide +kernel
theorem dX8_area_4 : decode cX8_area 4 = .ok (.lconst 1, 1) := by decide +kernel
theorem dX8_area_5 : decode cX8_area 5 = .ok (.ladd, 1) := by decide +kernel
theorem dX8_area_6 : decode cX8_area 6 = .ok (.iload_n 3, 1) := by decide +kernel
theorem dX8_area_7 : decode cX8_area 7 = .ok (.iload_n 1, 1) := by decide +kernel
theorem dX8_area_8 : decode cX8_area 8 = .ok (.isub, 1) := by decide +kernel
theorem dX8_area_9 : decode cX8_area 9 = .ok (.i2l, 1) := by decide +kernel
theorem dX8_area_10 : decode cX8_area 10 = .ok (.lconst 1, 1) := by decide +kernel
theorem dX8_area_11 : decode cX8_area 11 = .ok (.ladd, 1) := by decide +kernel
theorem dX8_area_12 : decode cX8_area 12 = .ok (.lmul, 1) := by decide +kernel
theorem dX8_area_13 : decode cX8_area 13 = .ok (.lreturn, 1) := by decide +kernel
theorem dX8_areaOf_0 : decode cX8_areaOf 0 = .ok (.aload_n 0, 1) := by decide +kernel
theorem dX8_areaOf_1 : decode cX8_areaOf 1 = .ok (.iload_n 1, 1) := by decide +kernel
theorem dX8_areaOf_2 : decode cX8_areaOf 2 = .ok (.iload_n 2, 1) := by decide +kernel
theorem dX8_areaOf_3 : decode cX8_areaOf 3 = .ok (.iconst 0, 1) := by decide +kernel
theorem dX8_areaOf_4 : decode cX8_areaOf 4 = .ok (.invokevirtual 96, 3) := by decide +kernel
theorem dX8_areaOf_7 : decode cX8_areaOf 7 = .ok (.aload_n 0, 1) := by decide +kernel
theorem dX8_areaOf_8 : decode cX8_areaOf 8 = .ok (.iload_n 1, 1) := by decide +kernel
theorem dX8_areaOf_9 : decode cX8_areaOf 9 = .ok (.iload_n 2, 1) := by decide +kernel
theorem dX8_areaOf_10 : decode cX8_areaOf 10 = .ok (.iconst 1, 1) := by decide +kernel
theorem dX8_areaOf_11 : decode cX8_areaOf 11 = .ok (.invokevirtual 96, 3) := by decide +kernel
theorem dX8_areaOf_14 : decode cX8_areaOf 14 = .ok (.aload_n 0, 1) := by decide +kernel
theorem dX8_areaOf_15 : decode cX8_areaOf 15 = .ok (.iload_n 1, 1) := by decide +kernel
theorem dX8_areaOf_16 : decode cX8_areaOf 16 = .ok (.iload_n 2, 1) := by decide +kernel
theorem dX8_areaOf_17 : decode cX8_areaOf 17 = .ok (.iconst 2, 1) := by decide +kernel
theorem dX8_areaOf_18 : decode cX8_areaOf 18 = .ok (.invokevirtual 96, 3) := by decide +kernel
theorem dX8_areaOf_21 : decode cX8_areaOf 21 = .ok (.aload_n 0, 1) := by decide +kernel
theorem dX8_areaOf_22 : decode cX8_areaOf 22 = .ok (.iload_n 1, 1) := by decide +kernel
theorem dX8_areaOf_23 : decode cX8_areaOf 23 = .ok (.iload_n 2, 1) := by decide +kernel
theorem dX8_areaOf_24 : decode cX8_areaOf 24 = .ok (.iconst 3, 1) := by decide +kernel
theorem dX8_areaOf_25 : decode cX8_areaOf 25 = .ok (.invokevirtual 96, 3) := by decide +kernel
theorem dX8_areaOf_28 : decode cX8_areaOf 28 = .ok (.invokestatic 100, 3) := by decide +kernel
theorem dX8_areaOf_31 : decode cX8_areaOf 31 = .ok (.lreturn, 1) := by decide +kernel
theorem dX8_lesser_0 : decode cX8_lesser 0 = .ok (.iload_n 0, 1) := by decide +kernel
theorem dX8_lesser_1 : decode cX8_lesser 1 = .ok (.iload_n 1, 1) := by decide +kernel
theorem dX8_lesser_2 : decode cX8_lesser 2 = .ok (.if_icmp .ge 7, 3) := by decide +kernel
theorem dX8_lesser_5 : decode cX8_lesser 5 = .ok (.iload_n 0, 1) := by decide +kernel
theorem dX8_lesser_6 : decode cX8_lesser 6 = .ok (.goto 4, 3) := by decide +kernel
theorem dX8_lesser_9 : decode cX8_lesser 9 = .ok (.iload_n 1, 1) := by decide +kernel
theorem dX8_lesser_10 : decode cX8_lesser 10 = .ok (.ireturn, 1) := by decide +kernel
theorem dX8_greater_0 : decode cX8_greater 0 = .ok (.iload_n 0, 1) := by decide +kernel
theorem dX8_greater_1 : decode cX8_greater 1 = .ok (.iload_n 1, 1) := by decide +kernel
theorem dX8_greater_2 : decode cX8_greater 2 = .ok (.if_icmp .le 7, 3) := by decide +kernel
theorem dX8_greater_5 : decode cX8_greater 5 = .ok (.iload_n 0, 1) := by decide +kernel
theorem dX8_greater_6 : decode cX8_greater 6 = .ok (.goto 4, 3) := by decide +kernel
theorem dX8_greater_9 : decode cX8_greater 9 = .ok (.iload_n 1, 1) := by decide +kernel
theorem dX8_greater_10 : decode cX8_greater 10 = .ok (.ireturn, 1) := by decide +kernel
theorem dX8_areaBoth_0 : decode cX8_areaBoth 0 = .ok (.aload_n 0, 1) := by decide +kernel
theorem dX8_areaBoth_1 : decode cX8_areaBoth 1 = .ok (.iload_n 1, 1) := by decide +kernel
theorem dX8_areaBoth_2 : decode cX8_areaBoth 2 = .ok (.iload_n 2, 1) := by decide +kernel
theorem dX8_areaBoth_3 : decode cX8_areaBoth 3 = .ok (.iconst 0, 1) := by decide +kernel
theorem dX8_areaBoth_4 : decode cX8_areaBoth 4 = .ok (.invokevirtual 96, 3) := by decide +kernel
theorem dX8_areaBoth_7 : decode cX8_areaBoth 7 = .ok (.aload_n 0, 1) := by decide +kernel
theorem dX8_areaBoth_8 : decode cX8_areaBoth 8 = .ok (.iload_n 3, 1) := by decide +kernel
theorem dX8_areaBoth_9 : decode cX8_areaBoth 9 = .ok (.iload 4, 2) := by decide +kernel
theorem dX8_areaBoth_11 : decode cX8_areaBoth 11 = .ok (.iconst 0, 1) := by decide +kernel
theorem dX8_areaBoth_12 : decode cX8_areaBoth 12 = .ok (.invokevirtual 96, 3) := by decide +kernel
theorem dX8_areaBoth_15 : decode cX8_areaBoth 15 = .ok (.invokestatic 104, 3) := by decide +kernel
theorem dX8_areaBoth_18 : decode cX8_areaBoth 18 = .ok (.aload_n 0, 1) := by decide +kernel
theorem dX8_areaBoth_19 : decode cX8_areaBoth 19 = .ok (.iload_n 1, 1) := by decide +kernel
theorem dX8_areaBoth_20 : decode cX8_areaBoth 20 = .ok (.iload_n 2, 1) := by decide +kernel
theorem dX8_areaBoth_21 : decode cX8_areaBoth 21 = .ok (.iconst 1, 1) := by decide +kernel
theorem dX8_areaBoth_22 : decode cX8_areaBoth 22 = .ok (.invokevirtual 96, 3) := by decide +kernel
theorem dX8_areaBoth_25 : decode cX8_areaBoth 25 = .ok (.aload_n 0, 1) := by decide +kernel
theorem dX8_areaBoth_26 : decode cX8_areaBoth 26 = .ok (.iload_n 3, 1) := by decide +kernel
theorem dX8_areaBoth_27 : decode cX8_areaBoth 27 = .ok (.iload 4, 2) := by decide +kernel
theorem dX8_areaBoth_29 : decode cX8_areaBoth 29 = .ok (.iconst 1, 1) := by decide +kernel
theorem dX8_areaBoth_30 : decode cX8_areaBoth 30 = .ok (.invokevirtual 96, 3) := by decide +kernel
theorem dX8_areaBoth_33 : decode cX8_areaBoth 33 = .ok (.invokestatic 104, 3) := by decide +kernel
theorem dX8_areaBoth_36 : decode cX8_areaBoth 36 = .ok (.aload_n 0, 1) := by decide +kernel
theorem dX8_areaBoth_37 : decode cX8_areaBoth 37 = .ok (.iload_n 1, 1) := by decide +kernel
theorem dX8_areaBoth_38 : decode cX8_areaBoth 38 = .ok (.iload_n 2, 1) := by decide +kernel
theorem dX8_areaBoth_39 : decode cX8_areaBoth 39 = .ok (.iconst 2, 1) := by decide +kernel
theorem dX8_areaBoth_40 : decode cX8_areaBoth 40 = .ok (.invokevirtual 96, 3) := by decide +kernel
theorem dX8_areaBoth_43 : decode cX8_areaBoth 43 = .ok (.aload_n 0, 1) := by decide +kernel
theorem dX8_areaBoth_44 : decode cX8_areaBoth 44 = .ok (.iload_n 3, 1) := by decide +kernel
theorem dX8_areaBoth_45 : decode cX8_areaBoth 45 = .ok (.iload 4, 2) := by decide +kernel
theorem dX8_areaBoth_47 : decode cX8_areaBoth 47 = .ok (.iconst 2, 1) := by decide +kernel
theorem dX8_areaBoth_48 : decode cX8_areaBoth 48 = .ok (.invokevirtual 96, 3) := by decide +kernel
theorem dX8_areaBoth_51 : decode cX8_areaBoth 51 = .ok (.invokestatic 108, 3) := by decide +kernel
theorem dX8_areaBoth_54 : decode cX8_areaBoth 54 = .ok (.aload_n 0, 1) := by decide +kernel
theorem dX8_areaBoth_55 : decode cX8_areaBoth 55 = .ok (.iload_n 1, 1) := by decide +kernel
theorem dX8_areaBoth_56 : decode cX8_areaBoth 56 = .ok (.iload_n 2, 1) := by decide +kernel
theorem dX8_areaBoth_57 : decode cX8_areaBoth 57 = .ok (.iconst 3, 1) := by decide +kernel
theorem dX8_areaBoth_58 : decode cX8_areaBoth 58 = .ok (.invokevirtual 96, 3) := by decide +kernel
theorem dX8_areaBoth_61 : decode cX8_areaBoth 61 = .ok (.aload_n 0, 1) := by decide +kernel
theorem dX8_areaBoth_62 : decode cX8_areaBoth 62 = .ok (.iload_n 3, 1) := by decide +kernel
theorem dX8_areaBoth_63 : decode cX8_areaBoth 63 = .ok (.iload 4, 2) := by decide +kernel
theorem dX8_areaBoth_65 : decode cX8_areaBoth 65 = .ok (.iconst 3, 1) := by decide +kernel
theorem dX8_areaBoth_66 : decode cX8_areaBoth 66 = .ok (.invokevirtual 96, 3) := by decide +kernel
theorem dX8_areaBoth_69 : decode cX8_areaBoth 69 = .ok (.invokestatic 108, 3) := by decide +kernel
theorem dX8_areaBoth_72 : decode cX8_areaBoth 72 = .ok (.invokestatic 100, 3) := by decide +kernel
theorem dX8_areaBoth_75 : decode cX8_areaBoth 75 = .ok (.lreturn, 1) := by decide +kernel
theorem dX8_meet_0 : decode cX8_meet 0 = .ok (.aload_n 0, 1) := by decide +kernel
theorem dX8_meet_1 : decode cX8_meet 1 = .ok (.iload_n 1, 1) := by decide +kernel
theorem dX8_meet_2 : decode cX8_meet 2 = .ok (.iload_n 2, 1) := by decide +kernel
theorem dX8_meet_3 : decode cX8_meet 3 = .ok (.iconst 0, 1) := by decide +kernel
theorem dX8_meet_4 : decode cX8_meet 4 = .ok (.invokevirtual 96, 3) := by decide +kernel
theorem dX8_meet_7 : decode cX8_meet 7 = .ok (.aload_n 0, 1) := by decide +kernel
theorem dX8_meet_8 : decode cX8_meet 8 = .ok (.iload_n 3, 1) := by decide +kernel
theorem dX8_meet_9 : decode cX8_meet 9 = .ok (.iload 4, 2) := by decide +kernel
theorem dX8_meet_11 : decode cX8_meet 11 = .ok (.iconst 2, 1) := by decide +kernel
theorem dX8_meet_12 : decode cX8_meet 12 = .ok (.invokevirtual 96, 3) := by decide +kernel
theorem dX8_meet_15 : decode cX8_meet 15 = .ok (.if_icmp .gt 61, 3) := by decide +kernel
theorem dX8_meet_18 : decode cX8_meet 18 = .ok (.aload_n 0, 1) := by decide +kernel
theorem dX8_meet_19 : decode cX8_meet 19 = .ok (.iload_n 3, 1) := by decide +kernel
theorem dX8_meet_20 : decode cX8_meet 20 = .ok (.iload 4, 2) := by decide +kernel
theorem dX8_meet_22 : decode cX8_meet 22 = .ok (.iconst 0, 1) := by decide +kernel
theorem dX8_meet_23 : decode cX8_meet 23 = .ok (.invokevirtual 96, 3) := by decide +kernel
theorem dX8_meet_26 : decode cX8_meet 26 = .ok (.aload_n 0, 1) := by decide +kernel
theorem dX8_meet_27 : decode cX8_meet 27 = .ok (.iload_n 1, 1) := by decide +kernel
theorem dX8_meet_28 : decode cX8_meet 28 = .ok (.iload_n 2, 1) := by decide +kernel
theorem dX8_meet_29 : decode cX8_meet 29 = .ok (.iconst 2, 1) := by decide +kernel
theorem dX8_meet_30 : decode cX8_meet 30 = .ok (.invokevirtual 96, 3) := by decide +kernel
theorem dX8_meet_33 : decode cX8_meet 33 = .ok (.if_icmp .gt 43, 3) := by decide +kernel
theorem dX8_meet_36 : decode cX8_meet 36 = .ok (.aload_n 0, 1) := by decide +kernel
theorem dX8_meet_37 : decode cX8_meet 37 = .ok (.iload_n 1, 1) := by decide +kernel
theorem dX8_meet_38 : decode cX8_meet 38 = .ok (.iload_n 2, 1) := by decide +kernel
theorem dX8_meet_39 : decode cX8_meet 39 = .ok (.iconst 1, 1) := by decide +kernel
theorem dX8_meet_40 : decode cX8_meet 40 = .ok (.invokevirtual 96, 3) := by decide +kernel
theorem dX8_meet_43 : decode cX8_meet 43 = .ok (.aload_n 0, 1) := by decide +kernel
theorem dX8_meet_44 : decode cX8_meet 44 = .ok (.iload_n 3, 1) := by decide +kernel
theorem dX8_meet_45 : decode cX8_meet 45 = .ok (.iload 4, 2) := by decide +kernel
theorem dX8_meet_47 : decode cX8_meet 47 = .ok (.iconst 3, 1) := by decide +kernel
theorem dX8_meet_48 : decode cX8_meet 48 = .ok (.invokevirtual 96, 3) := by decide +kernel
theorem dX8_meet_51 : decode cX8_meet 51 = .ok (.if_icmp .gt 25, 3) := by decide +kernel
theorem dX8_meet_54 : decode cX8_meet 54 = .ok (.aload_n 0, 1) := by decide +kernel
theorem dX8_meet_55 : decode cX8_meet 55 = .ok (.iload_n 3, 1) := by decide +kernel
theorem dX8_meet_56 : decode cX8_meet 56 = .ok (.iload 4, 2) := by decide +kernel
theorem dX8_meet_58 : decode cX8_meet 58 = .ok (.iconst 1, 1) := by decide +kernel
theorem dX8_meet_59 : decode cX8_meet 59 = .ok (.invokevirtual 96, 3) := by decide +kernel
theorem dX8_meet_62 : decode cX8_meet 62 = .ok (.aload_n 0, 1) := by decide +kernel
theorem dX8_meet_63 : decode cX8_meet 63 = .ok (.iload_n 1, 1) := by decide +kernel
theorem dX8_meet_64 : decode cX8_meet 64 = .ok (.iload_n 2, 1) := by decide +kernel
theorem dX8_meet_65 : decode cX8_meet 65 = .ok (.iconst 3, 1) := by decide +kernel
theorem dX8_meet_66 : decode cX8_meet 66 = .ok (.invokevirtual 96, 3) := by decide +kernel
theorem dX8_meet_69 : decode cX8_meet 69 = .ok (.if_icmp .gt 7, 3) := by decide +kernel
theorem dX8_meet_72 : decode cX8_meet 72 = .ok (.iconst 1, 1) := by decide +kernel
theorem dX8_meet_73 : decode cX8_meet 73 = .ok (.goto 4, 3) := by decide +kernel
theorem dX8_meet_76 : decode cX8_meet 76 = .ok (.iconst 0, 1) := by decide +kernel
theorem dX8_meet_77 : decode cX8_meet 77 = .ok (.ireturn, 1) := by decide +kernel
theorem dX8_meets_0 : decode cX8_meets 0 = .ok (.aload_n 0, 1) := by decide +kernel
theorem dX8_meets_1 : decode cX8_meets 1 = .ok (.iload_n 1, 1) := by decide +kernel
theorem dX8_meets_2 : decode cX8_meets 2 = .ok (.iload_n 2, 1) := by decide +kernel
theorem dX8_meets_3 : decode cX8_meets 3 = .ok (.iconst 0, 1) := by decide +kernel
theorem dX8_meets_4 : decode cX8_meets 4 = .ok (.invokevirtual 96, 3) := by decide +kernel
theorem dX8_meets_7 : decode cX8_meets 7 = .ok (.iload 5, 2) := by decide +kernel
theorem dX8_meets_9 : decode cX8_meets 9 = .ok (.if_icmp .gt 42, 3) := by decide +kernel
theorem dX8_meets_12 : decode cX8_meets 12 = .ok (.iload_n 3, 1) := by decide +kernel
theorem dX8_meets_13 : decode cX8_meets 13 = .ok (.aload_n 0, 1) := by decide +kernel
theorem dX8_meets_14 : decode cX8_meets 14 = .ok (.iload_n 1, 1) := by decide +kernel
theorem dX8_meets_15 : decode cX8_meets 15 = .ok (.iload_n 2, 1) := by decide +kernel
theorem dX8_meets_16 : decode cX8_meets 16 = .ok (.iconst 2, 1) := by decide +kernel
theorem dX8_meets_17 : decode cX8_meets 17 = .ok (.invokevirtual 96, 3) := by decide +kernel
theorem dX8_meets_20 : decode cX8_meets 20 = .ok (.if_icmp .gt 31, 3) := by decide +kernel
theorem dX8_meets_23 : decode cX8_meets 23 = .ok (.aload_n 0, 1) := by decide +kernel
theorem dX8_meets_24 : decode cX8_meets 24 = .ok (.iload_n 1, 1) := by decide +kernel
theorem dX8_meets_25 : decode cX8_meets 25 = .ok (.iload_n 2, 1) := by decide +kernel
theorem dX8_meets_26 : decode cX8_meets 26 = .ok (.iconst 1, 1) := by decide +kernel
theorem dX8_meets_27 : decode cX8_meets 27 = .ok (.invokevirtual 96, 3) := by decide +kernel
theorem dX8_meets_30 : decode cX8_meets 30 = .ok (.iload 6, 2) := by decide +kernel
theorem dX8_meets_32 : decode cX8_meets 32 = .ok (.if_icmp .gt 19, 3) := by decide +kernel
theorem dX8_meets_35 : decode cX8_meets 35 = .ok (.iload 4, 2) := by decide +kernel
theorem dX8_meets_37 : decode cX8_meets 37 = .ok (.aload_n 0, 1) := by decide +kernel
theorem dX8_meets_38 : decode cX8_meets 38 = .ok (.iload_n 1, 1) := by decide +kernel
theorem dX8_meets_39 : decode cX8_meets 39 = .ok (.iload_n 2, 1) := by decide +kernel
theorem dX8_meets_40 : decode cX8_meets 40 = .ok (.iconst 3, 1) := by decide +kernel
theorem dX8_meets_41 : decode cX8_meets 41 = .ok (.invokevirtual 96, 3) := by decide +kernel
theorem dX8_meets_44 : decode cX8_meets 44 = .ok (.if_icmp .gt 7, 3) := by decide +kernel
theorem dX8_meets_47 : decode cX8_meets 47 = .ok (.iconst 1, 1) := by decide +kernel
theorem dX8_meets_48 : decode cX8_meets 48 = .ok (.goto 4, 3) := by decide +kernel
theorem dX8_meets_51 : decode cX8_meets 51 = .ok (.iconst 0, 1) := by decide +kernel
theorem dX8_meets_52 : decode cX8_meets 52 = .ok (.ireturn, 1) := by decide +kernel
theorem dX8_isPlace_0 : decode cX8_isPlace 0 = .ok (.iload_n 0, 1) := by decide +kernel
theorem dX8_isPlace_1 : decode cX8_isPlace 1 = .ok (.ifCond .lt 14, 3) := by decide +kernel
theorem dX8_isPlace_4 : decode cX8_isPlace 4 = .ok (.iload_n 0, 1) := by decide +kernel
theorem dX8_isPlace_5 : decode cX8_isPlace 5 = .ok (.sipush 32767, 3) := by decide +kernel
theorem dX8_isPlace_8 : decode cX8_isPlace 8 = .ok (.if_icmp .gt 7, 3) := by decide +kernel
theorem dX8_isPlace_11 : decode cX8_isPlace 11 = .ok (.iconst 1, 1) := by decide +kernel
theorem dX8_isPlace_12 : decode cX8_isPlace 12 = .ok (.goto 4, 3) := by decide +kernel
theorem dX8_isPlace_15 : decode cX8_isPlace 15 = .ok (.iconst 0, 1) := by decide +kernel
theorem dX8_isPlace_16 : decode cX8_isPlace 16 = .ok (.ireturn, 1) := by decide +kernel
theorem dX8_isRect_0 : decode cX8_isRect 0 = .ok (.iload_n 0, 1) := by decide +kernel
theorem dX8_isRect_1 : decode cX8_isRect 1 = .ok (.invokestatic 111, 3) := by decide +kernel
theorem dX8_isRect_4 : decode cX8_isRect 4 = .ok (.ifCond .eq 38, 3) := by decide +kernel
theorem dX8_isRect_7 : decode cX8_isRect 7 = .ok (.iload_n 1, 1) := by decide +kernel
theorem dX8_isRect_8 : decode cX8_isRect 8 = .ok (.invokestatic 111, 3) := by decide +kernel
theorem dX8_isRect_11 : decode cX8_isRect 11 = .ok (.ifCond .eq 31, 3) := by decide +kernel
theorem dX8_isRect_14 : decode cX8_isRect 14 = .ok (.iload_n 2, 1) := by decide +kernel
theorem dX8_isRect_15 : decode cX8_isRect 15 = .ok (.invokestatic 111, 3) := by decide +kernel
theorem dX8_isRect_18 : decode cX8_isRect 18 = .ok (.ifCond .eq 24, 3) := by decide +kernel
theorem dX8_isRect_21 : decode cX8_isRect 21 = .ok (.iload_n 3, 1) := by decide +kernel
theorem dX8_isRect_22 : decode cX8_isRect 22 = .ok (.invokestatic 111, 3) := by decide +kernel
theorem dX8_isRect_25 : decode cX8_isRect 25 = .ok (.ifCond .eq 17, 3) := by decide +kernel
theorem dX8_isRect_28 : decode cX8_isRect 28 = .ok (.iload_n 0, 1) := by decide +kernel
theorem dX8_isRect_29 : decode cX8_isRect 29 = .ok (.iload_n 2, 1) := by decide +kernel
theorem dX8_isRect_30 : decode cX8_isRect 30 = .ok (.if_icmp .gt 12, 3) := by decide +kernel
theorem dX8_isRect_33 : decode cX8_isRect 33 = .ok (.iload_n 1, 1) := by decide +kernel
theorem dX8_isRect_34 : decode cX8_isRect 34 = .ok (.iload_n 3, 1) := by decide +kernel
theorem dX8_isRect_35 : decode cX8_isRect 35 = .ok (.if_icmp .gt 7, 3) := by decide +kernel
theorem dX8_isRect_38 : decode cX8_isRect 38 = .ok (.iconst 1, 1) := by decide +kernel
theorem dX8_isRect_39 : decode cX8_isRect 39 = .ok (.goto 4, 3) := by decide +kernel
theorem dX8_isRect_42 : decode cX8_isRect 42 = .ok (.iconst 0, 1) := by decide +kernel
theorem dX8_isRect_43 : decode cX8_isRect 43 = .ok (.ireturn, 1) := by decide +kernel
theorem dX8_node_0 : decode cX8_node 0 = .ok (.iconst 0, 1) := by decide +kernel
theorem dX8_node_1 : decode cX8_node 1 = .ok (.istore_n 2, 1) := by decide +kernel
theorem dX8_node_2 : decode cX8_node 2 = .ok (.aload_n 0, 1) := by decide +kernel
theorem dX8_node_3 : decode cX8_node 3 = .ok (.getfield 20, 3) := by decide +kernel
theorem dX8_node_6 : decode cX8_node 6 = .ok (.iload_n 2, 1) := by decide +kernel
theorem dX8_node_7 : decode cX8_node 7 = .ok (.iaload, 1) := by decide +kernel
theorem dX8_node_8 : decode cX8_node 8 = .ok (.ifCond .lt 9, 3) := by decide +kernel
theorem dX8_node_11 : decode cX8_node 11 = .ok (.iinc 2 1, 3) := by decide +kernel
theorem dX8_node_14 : decode cX8_node 14 = .ok (.goto (-12), 3) := by decide +kernel
theorem dX8_node_17 : decode cX8_node 17 = .ok (.aload_n 0, 1) := by decide +kernel
theorem dX8_node_18 : decode cX8_node 18 = .ok (.getfield 20, 3) := by decide +kernel
theorem dX8_node_21 : decode cX8_node 21 = .ok (.iload_n 2, 1) := by decide +kernel
theorem dX8_node_22 : decode cX8_node 22 = .ok (.iload_n 1, 1) := by decide +kernel
theorem dX8_node_23 : decode cX8_node 23 = .ok (.iastore, 1) := by decide +kernel
theorem dX8_node_24 : decode cX8_node 24 = .ok (.aload_n 0, 1) := by decide +kernel
theorem dX8_node_25 : decode cX8_node 25 = .ok (.getfield 23, 3) := by decide +kernel
theorem dX8_node_28 : decode cX8_node 28 = .ok (.iload_n 2, 1) := by decide +kernel
theorem dX8_node_29 : decode cX8_node 29 = .ok (.iconst 0, 1) := by decide +kernel
theorem dX8_node_30 : decode cX8_node 30 = .ok (.iastore, 1) := by decide +kernel
theorem dX8_node_31 : decode cX8_node 31 = .ok (.aload_n 0, 1) := by decide +kernel
theorem dX8_node_32 : decode cX8_node 32 = .ok (.getfield 32, 3) := by decide +kernel
theorem dX8_node_35 : decode cX8_node 35 = .ok (.iload_n 2, 1) := by decide +kernel
theorem dX8_node_36 : decode cX8_node 36 = .ok (.bipush (-2), 2) := by decide +kernel
theorem dX8_node_38 : decode cX8_node 38 = .ok (.iastore, 1) := by decide +kernel
theorem dX8_node_39 : decode cX8_node 39 = .ok (.iload_n 2, 1) := by decide +kernel
theorem dX8_node_40 : decode cX8_node 40 = .ok (.ireturn, 1) := by decide +kernel
theorem dX8_heldBy_0 : decode cX8_heldBy 0 = .ok (.aload_n 0, 1) := by decide +kernel
theorem dX8_heldBy_1 : decode cX8_heldBy 1 = .ok (.getfield 26, 3) := by decide +kernel
theorem dX8_heldBy_4 : decode cX8_heldBy 4 = .ok (.bipush 11, 2) := by decide +kernel
theorem dX8_heldBy_6 : decode cX8_heldBy 6 = .ok (.iload_n 1, 1) := by decide +kernel
theorem dX8_heldBy_7 : decode cX8_heldBy 7 = .ok (.imul, 1) := by decide +kernel
theorem dX8_heldBy_8 : decode cX8_heldBy 8 = .ok (.iload_n 2, 1) := by decide +kernel
theorem dX8_heldBy_9 : decode cX8_heldBy 9 = .ok (.iadd, 1) := by decide +kernel
theorem dX8_heldBy_10 : decode cX8_heldBy 10 = .ok (.iaload, 1) := by decide +kernel
theorem dX8_heldBy_11 : decode cX8_heldBy 11 = .ok (.ireturn, 1) := by decide +kernel
theorem dX8_hold_0 : decode cX8_hold 0 = .ok (.aload_n 0, 1) := by decide +kernel
theorem dX8_hold_1 : decode cX8_hold 1 = .ok (.getfield 26, 3) := by decide +kernel
theorem dX8_hold_4 : decode cX8_hold 4 = .ok (.bipush 11, 2) := by decide +kernel
theorem dX8_hold_6 : decode cX8_hold 6 = .ok (.iload_n 1, 1) := by decide +kernel
theorem dX8_hold_7 : decode cX8_hold 7 = .ok (.imul, 1) := by decide +kernel
theorem dX8_hold_8 : decode cX8_hold 8 = .ok (.aload_n 0, 1) := by decide +kernel
theorem dX8_hold_9 : decode cX8_hold 9 = .ok (.getfield 23, 3) := by decide +kernel
theorem dX8_hold_12 : decode cX8_hold 12 = .ok (.iload_n 1, 1) := by decide +kernel
theorem dX8_hold_13 : decode cX8_hold 13 = .ok (.iaload, 1) := by decide +kernel
theorem dX8_hold_14 : decode cX8_hold 14 = .ok (.iadd, 1) := by decide +kernel
theorem dX8_hold_15 : decode cX8_hold 15 = .ok (.iload_n 2, 1) := by decide +kernel
theorem dX8_hold_16 : decode cX8_hold 16 = .ok (.iastore, 1) := by decide +kernel
theorem dX8_hold_17 : decode cX8_hold 17 = .ok (.aload_n 0, 1) := by decide +kernel
theorem dX8_hold_18 : decode cX8_hold 18 = .ok (.getfield 23, 3) := by decide +kernel
theorem dX8_hold_21 : decode cX8_hold 21 = .ok (.iload_n 1, 1) := by decide +kernel
theorem dX8_hold_22 : decode cX8_hold 22 = .ok (.dup2, 1) := by decide +kernel
theorem dX8_hold_23 : decode cX8_hold 23 = .ok (.iaload, 1) := by decide +kernel
theorem dX8_hold_24 : decode cX8_hold 24 = .ok (.iconst 1, 1) := by decide +kernel
theorem dX8_hold_25 : decode cX8_hold 25 = .ok (.iadd, 1) := by decide +kernel
theorem dX8_hold_26 : decode cX8_hold 26 = .ok (.iastore, 1) := by decide +kernel
theorem dX8_hold_27 : decode cX8_hold 27 = .ok (.aload_n 0, 1) := by decide +kernel
theorem dX8_hold_28 : decode cX8_hold 28 = .ok (.getfield 20, 3) := by decide +kernel
theorem dX8_hold_31 : decode cX8_hold 31 = .ok (.iload_n 1, 1) := by decide +kernel
theorem dX8_hold_32 : decode cX8_hold 32 = .ok (.iaload, 1) := by decide +kernel
theorem dX8_hold_33 : decode cX8_hold 33 = .ok (.ifCond .le 10, 3) := by decide +kernel
theorem dX8_hold_36 : decode cX8_hold 36 = .ok (.aload_n 0, 1) := by decide +kernel
theorem dX8_hold_37 : decode cX8_hold 37 = .ok (.getfield 32, 3) := by decide +kernel
theorem dX8_hold_40 : decode cX8_hold 40 = .ok (.iload_n 2, 1) := by decide +kernel
theorem dX8_hold_41 : decode cX8_hold 41 = .ok (.iload_n 1, 1) := by decide +kernel
theorem dX8_hold_42 : decode cX8_hold 42 = .ok (.iastore, 1) := by decide +kernel
theorem dX8_hold_43 : decode cX8_hold 43 = .ok (.return_, 1) := by decide +kernel
theorem dX8_measure_0 : decode cX8_measure 0 = .ok (.iconst 0, 1) := by decide +kernel
theorem dX8_measure_1 : decode cX8_measure 1 = .ok (.istore_n 2, 1) := by decide +kernel
theorem dX8_measure_2 : decode cX8_measure 2 = .ok (.iload_n 2, 1) := by decide +kernel
theorem dX8_measure_3 : decode cX8_measure 3 = .ok (.iconst 4, 1) := by decide +kernel
theorem dX8_measure_4 : decode cX8_measure 4 = .ok (.if_icmp .ge 101, 3) := by decide +kernel
theorem dX8_measure_7 : decode cX8_measure 7 = .ok (.iconst 0, 1) := by decide +kernel
theorem dX8_measure_8 : decode cX8_measure 8 = .ok (.istore_n 3, 1) := by decide +kernel
theorem dX8_measure_9 : decode cX8_measure 9 = .ok (.iload_n 3, 1) := by decide +kernel
theorem dX8_measure_10 : decode cX8_measure 10 = .ok (.aload_n 0, 1) := by decide +kernel
theorem dX8_measure_11 : decode cX8_measure 11 = .ok (.getfield 23, 3) := by decide +kernel
theorem dX8_measure_14 : decode cX8_measure 14 = .ok (.iload_n 1, 1) := by decide +kernel
theorem dX8_measure_15 : decode cX8_measure 15 = .ok (.iaload, 1) := by decide +kernel
theorem dX8_measure_16 : decode cX8_measure 16 = .ok (.if_icmp .ge 83, 3) := by decide +kernel
theorem dX8_measure_19 : decode cX8_measure 19 = .ok (.aload_n 0, 1) := by decide +kernel
theorem dX8_measure_20 : decode cX8_measure 20 = .ok (.aload_n 0, 1) := by decide +kernel
theorem dX8_measure_21 : decode cX8_measure 21 = .ok (.getfield 20, 3) := by decide +kernel
theorem dX8_measure_24 : decode cX8_measure 24 = .ok (.iload_n 1, 1) := by decide +kernel
theorem dX8_measure_25 : decode cX8_measure 25 = .ok (.iaload, 1) := by decide +kernel
theorem dX8_measure_26 : decode cX8_measure 26 = .ok (.iconst 1, 1) := by decide +kernel
theorem dX8_measure_27 : decode cX8_measure 27 = .ok (.isub, 1) := by decide +kernel
theorem dX8_measure_28 : decode cX8_measure 28 = .ok (.aload_n 0, 1) := by decide +kernel
theorem dX8_measure_29 : decode cX8_measure 29 = .ok (.iload_n 1, 1) := by decide +kernel
theorem dX8_measure_30 : decode cX8_measure 30 = .ok (.iload_n 3, 1) := by decide +kernel
theorem dX8_measure_31 : decode cX8_measure 31 = .ok (.invokevirtual 115, 3) := by decide +kernel
theorem dX8_measure_34 : decode cX8_measure 34 = .ok (.iload_n 2, 1) := by decide +kernel
theorem dX8_measure_35 : decode cX8_measure 35 = .ok (.invokevirtual 96, 3) := by decide +kernel
theorem dX8_measure_38 : decode cX8_measure 38 = .ok (.istore 4, 2) := by decide +kernel
theorem dX8_measure_40 : decode cX8_measure 40 = .ok (.aload_n 0, 1) := by decide +kernel
theorem dX8_measure_41 : decode cX8_measure 41 = .ok (.getfield 29, 3) := by decide +kernel
theorem dX8_measure_44 : decode cX8_measure 44 = .ok (.iconst 4, 1) := by decide +kernel
theorem dX8_measure_45 : decode cX8_measure 45 = .ok (.iload_n 1, 1) := by decide +kernel
theorem dX8_measure_46 : decode cX8_measure 46 = .ok (.imul, 1) := by decide +kernel
theorem dX8_measure_47 : decode cX8_measure 47 = .ok (.iload_n 2, 1) := by decide +kernel
theorem dX8_measure_48 : decode cX8_measure 48 = .ok (.iadd, 1) := by decide +kernel
theorem dX8_measure_49 : decode cX8_measure 49 = .ok (.iaload, 1) := by decide +kernel
theorem dX8_measure_50 : decode cX8_measure 50 = .ok (.istore 5, 2) := by decide +kernel
theorem dX8_measure_52 : decode cX8_measure 52 = .ok (.aload_n 0, 1) := by decide +kernel
theorem dX8_measure_53 : decode cX8_measure 53 = .ok (.getfield 29, 3) := by decide +kernel
theorem dX8_measure_56 : decode cX8_measure 56 = .ok (.iconst 4, 1) := by decide +kernel
theorem dX8_measure_57 : decode cX8_measure 57 = .ok (.iload_n 1, 1) := by decide +kernel
theorem dX8_measure_58 : decode cX8_measure 58 = .ok (.imul, 1) := by decide +kernel
theorem dX8_measure_59 : decode cX8_measure 59 = .ok (.iload_n 2, 1) := by decide +kernel
theorem dX8_measure_60 : decode cX8_measure 60 = .ok (.iadd, 1) := by decide +kernel
theorem dX8_measure_61 : decode cX8_measure 61 = .ok (.iload_n 3, 1) := by decide +kernel
theorem dX8_measure_62 : decode cX8_measure 62 = .ok (.ifCond .ne 8, 3) := by decide +kernel
theorem dX8_measure_65 : decode cX8_measure 65 = .ok (.iload 4, 2) := by decide +kernel
theorem dX8_measure_67 : decode cX8_measure 67 = .ok (.goto 25, 3) := by decide +kernel
theorem dX8_measure_70 : decode cX8_measure 70 = .ok (.iload_n 2, 1) := by decide +kernel
theorem dX8_measure_71 : decode cX8_measure 71 = .ok (.iconst 2, 1) := by decide +kernel
theorem dX8_measure_72 : decode cX8_measure 72 = .ok (.if_icmp .ge 13, 3) := by decide +kernel
theorem dX8_measure_75 : decode cX8_measure 75 = .ok (.iload 5, 2) := by decide +kernel
theorem dX8_measure_77 : decode cX8_measure 77 = .ok (.iload 4, 2) := by decide +kernel
theorem dX8_measure_79 : decode cX8_measure 79 = .ok (.invokestatic 104, 3) := by decide +kernel
theorem dX8_measure_82 : decode cX8_measure 82 = .ok (.goto 10, 3) := by decide +kernel
theorem dX8_measure_85 : decode cX8_measure 85 = .ok (.iload 5, 2) := by decide +kernel
theorem dX8_measure_87 : decode cX8_measure 87 = .ok (.iload 4, 2) := by decide +kernel
theorem dX8_measure_89 : decode cX8_measure 89 = .ok (.invokestatic 108, 3) := by decide +kernel
theorem dX8_measure_92 : decode cX8_measure 92 = .ok (.iastore, 1) := by decide +kernel
theorem dX8_measure_93 : decode cX8_measure 93 = .ok (.iinc 3 1, 3) := by decide +kernel
theorem dX8_measure_96 : decode cX8_measure 96 = .ok (.goto (-87), 3) := by decide +kernel
theorem dX8_measure_99 : decode cX8_measure 99 = .ok (.iinc 2 1, 3) := by decide +kernel
theorem dX8_measure_102 : decode cX8_measure 102 = .ok (.goto (-100), 3) := by decide +kernel
theorem dX8_measure_105 : decode cX8_measure 105 = .ok (.return_, 1) := by decide +kernel
theorem dX8_measureUp_0 : decode cX8_measureUp 0 = .ok (.iload_n 1, 1) := by decide +kernel
theorem dX8_measureUp_1 : decode cX8_measureUp 1 = .ok (.istore_n 2, 1) := by decide +kernel
theorem dX8_measureUp_2 : decode cX8_measureUp 2 = .ok (.iload_n 2, 1) := by decide +kernel
theorem dX8_measureUp_3 : decode cX8_measureUp 3 = .ok (.ifCond .lt 18, 3) := by decide +kernel
theorem dX8_measureUp_6 : decode cX8_measureUp 6 = .ok (.aload_n 0, 1) := by decide +kernel
theorem dX8_measureUp_7 : decode cX8_measureUp 7 = .ok (.iload_n 2, 1) := by decide +kernel
theorem dX8_measureUp_8 : decode cX8_measureUp 8 = .ok (.invokevirtual 118, 3) := by decide +kernel
theorem dX8_measureUp_11 : decode cX8_measureUp 11 = .ok (.aload_n 0, 1) := by decide +kernel
theorem dX8_measureUp_12 : decode cX8_measureUp 12 = .ok (.getfield 32, 3) := by decide +kernel
theorem dX8_measureUp_15 : decode cX8_measureUp 15 = .ok (.iload_n 2, 1) := by decide +kernel
theorem dX8_measureUp_16 : decode cX8_measureUp 16 = .ok (.iaload, 1) := by decide +kernel
theorem dX8_measureUp_17 : decode cX8_measureUp 17 = .ok (.istore_n 2, 1) := by decide +kernel
theorem dX8_measureUp_18 : decode cX8_measureUp 18 = .ok (.goto (-16), 3) := by decide +kernel
theorem dX8_measureUp_21 : decode cX8_measureUp 21 = .ok (.return_, 1) := by decide +kernel
theorem dX8_placeIn_0 : decode cX8_placeIn 0 = .ok (.iconst 0, 1) := by decide +kernel
theorem dX8_placeIn_1 : decode cX8_placeIn 1 = .ok (.istore_n 3, 1) := by decide +kernel
theorem dX8_placeIn_2 : decode cX8_placeIn 2 = .ok (.aload_n 0, 1) := by decide +kernel
theorem dX8_placeIn_3 : decode cX8_placeIn 3 = .ok (.iload_n 1, 1) := by decide +kernel
theorem dX8_placeIn_4 : decode cX8_placeIn 4 = .ok (.iload_n 3, 1) := by decide +kernel
theorem dX8_placeIn_5 : decode cX8_placeIn 5 = .ok (.invokevirtual 115, 3) := by decide +kernel
theorem dX8_placeIn_8 : decode cX8_placeIn 8 = .ok (.iload_n 2, 1) := by decide +kernel
theorem dX8_placeIn_9 : decode cX8_placeIn 9 = .ok (.if_icmp .eq 9, 3) := by decide +kernel
theorem dX8_placeIn_12 : decode cX8_placeIn 12 = .ok (.iinc 3 1, 3) := by decide +kernel
theorem dX8_placeIn_15 : decode cX8_placeIn 15 = .ok (.goto (-13), 3) := by decide +kernel
theorem dX8_placeIn_18 : decode cX8_placeIn 18 = .ok (.iload_n 3, 1) := by decide +kernel
theorem dX8_placeIn_19 : decode cX8_placeIn 19 = .ok (.ireturn, 1) := by decide +kernel
theorem dX8_takeFrom_0 : decode cX8_takeFrom 0 = .ok (.aload_n 0, 1) := by decide +kernel
theorem dX8_takeFrom_1 : decode cX8_takeFrom 1 = .ok (.iload_n 1, 1) := by decide +kernel
theorem dX8_takeFrom_2 : decode cX8_takeFrom 2 = .ok (.iload_n 2, 1) := by decide +kernel
theorem dX8_takeFrom_3 : decode cX8_takeFrom 3 = .ok (.invokevirtual 122, 3) := by decide +kernel
theorem dX8_takeFrom_6 : decode cX8_takeFrom 6 = .ok (.istore_n 3, 1) := by decide +kernel
theorem dX8_takeFrom_7 : decode cX8_takeFrom 7 = .ok (.iload_n 3, 1) := by decide +kernel
theorem dX8_takeFrom_8 : decode cX8_takeFrom 8 = .ok (.iconst 1, 1) := by decide +kernel
theorem dX8_takeFrom_9 : decode cX8_takeFrom 9 = .ok (.iadd, 1) := by decide +kernel
theorem dX8_takeFrom_10 : decode cX8_takeFrom 10 = .ok (.aload_n 0, 1) := by decide +kernel
theorem dX8_takeFrom_11 : decode cX8_takeFrom 11 = .ok (.getfield 23, 3) := by decide +kernel
theorem dX8_takeFrom_14 : decode cX8_takeFrom 14 = .ok (.iload_n 1, 1) := by decide +kernel
theorem dX8_takeFrom_15 : decode cX8_takeFrom 15 = .ok (.iaload, 1) := by decide +kernel
theorem dX8_takeFrom_16 : decode cX8_takeFrom 16 = .ok (.if_icmp .ge 33, 3) := by decide +kernel
theorem dX8_takeFrom_19 : decode cX8_takeFrom 19 = .ok (.aload_n 0, 1) := by decide +kernel
theorem dX8_takeFrom_20 : decode cX8_takeFrom 20 = .ok (.getfield 26, 3) := by decide +kernel
theorem dX8_takeFrom_23 : decode cX8_takeFrom 23 = .ok (.bipush 11, 2) := by decide +kernel
theorem dX8_takeFrom_25 : decode cX8_takeFrom 25 = .ok (.iload_n 1, 1) := by decide +kernel
theorem dX8_takeFrom_26 : decode cX8_takeFrom 26 = .ok (.imul, 1) := by decide +kernel
theorem dX8_takeFrom_27 : decode cX8_takeFrom 27 = .ok (.iload_n 3, 1) := by decide +kernel
theorem dX8_takeFrom_28 : decode cX8_takeFrom 28 = .ok (.iadd, 1) := by decide +kernel
theorem dX8_takeFrom_29 : decode cX8_takeFrom 29 = .ok (.aload_n 0, 1) := by decide +kernel
theorem dX8_takeFrom_30 : decode cX8_takeFrom 30 = .ok (.getfield 26, 3) := by decide +kernel
theorem dX8_takeFrom_33 : decode cX8_takeFrom 33 = .ok (.bipush 11, 2) := by decide +kernel
theorem dX8_takeFrom_35 : decode cX8_takeFrom 35 = .ok (.iload_n 1, 1) := by decide +kernel
theorem dX8_takeFrom_36 : decode cX8_takeFrom 36 = .ok (.imul, 1) := by decide +kernel
theorem dX8_takeFrom_37 : decode cX8_takeFrom 37 = .ok (.iload_n 3, 1) := by decide +kernel
theorem dX8_takeFrom_38 : decode cX8_takeFrom 38 = .ok (.iadd, 1) := by decide +kernel
theorem dX8_takeFrom_39 : decode cX8_takeFrom 39 = .ok (.iconst 1, 1) := by decide +kernel
theorem dX8_takeFrom_40 : decode cX8_takeFrom 40 = .ok (.iadd, 1) := by decide +kernel
theorem dX8_takeFrom_41 : decode cX8_takeFrom 41 = .ok (.iaload, 1) := by decide +kernel
theorem dX8_takeFrom_42 : decode cX8_takeFrom 42 = .ok (.iastore, 1) := by decide +kernel
theorem dX8_takeFrom_43 : decode cX8_takeFrom 43 = .ok (.iinc 3 1, 3) := by decide +kernel
theorem dX8_takeFrom_46 : decode cX8_takeFrom 46 = .ok (.goto (-39), 3) := by decide +kernel
theorem dX8_takeFrom_49 : decode cX8_takeFrom 49 = .ok (.aload_n 0, 1) := by decide +kernel
theorem dX8_takeFrom_50 : decode cX8_takeFrom 50 = .ok (.getfield 23, 3) := by decide +kernel
theorem dX8_takeFrom_53 : decode cX8_takeFrom 53 = .ok (.iload_n 1, 1) := by decide +kernel
theorem dX8_takeFrom_54 : decode cX8_takeFrom 54 = .ok (.dup2, 1) := by decide +kernel
theorem dX8_takeFrom_55 : decode cX8_takeFrom 55 = .ok (.iaload, 1) := by decide +kernel
theorem dX8_takeFrom_56 : decode cX8_takeFrom 56 = .ok (.iconst 1, 1) := by decide +kernel
theorem dX8_takeFrom_57 : decode cX8_takeFrom 57 = .ok (.isub, 1) := by decide +kernel
theorem dX8_takeFrom_58 : decode cX8_takeFrom 58 = .ok (.iastore, 1) := by decide +kernel
theorem dX8_takeFrom_59 : decode cX8_takeFrom 59 = .ok (.return_, 1) := by decide +kernel
theorem dX8_choose_0 : decode cX8_choose 0 = .ok (.bipush (-2), 2) := by decide +kernel
theorem dX8_choose_2 : decode cX8_choose 2 = .ok (.istore 4, 2) := by decide +kernel
theorem dX8_choose_4 : decode cX8_choose 4 = .ok (.lconst 0, 1) := by decide +kernel
theorem dX8_choose_5 : decode cX8_choose 5 = .ok (.lstore 5, 2) := by decide +kernel
theorem dX8_choose_7 : decode cX8_choose 7 = .ok (.lconst 0, 1) := by decide +kernel
theorem dX8_choose_8 : decode cX8_choose 8 = .ok (.lstore 7, 2) := by decide +kernel
theorem dX8_choose_10 : decode cX8_choose 10 = .ok (.iconst 0, 1) := by decide +kernel
theorem dX8_choose_11 : decode cX8_choose 11 = .ok (.istore 9, 2) := by decide +kernel
theorem dX8_choose_13 : decode cX8_choose 13 = .ok (.iload 9, 2) := by decide +kernel
theorem dX8_choose_15 : decode cX8_choose 15 = .ok (.aload_n 0, 1) := by decide +kernel
theorem dX8_choose_16 : decode cX8_choose 16 = .ok (.getfield 23, 3) := by decide +kernel
theorem dX8_choose_19 : decode cX8_choose 19 = .ok (.iload_n 1, 1) := by decide +kernel
theorem dX8_choose_20 : decode cX8_choose 20 = .ok (.iaload, 1) := by decide +kernel
theorem dX8_choose_21 : decode cX8_choose 21 = .ok (.if_icmp .ge 94, 3) := by decide +kernel
theorem dX8_choose_24 : decode cX8_choose 24 = .ok (.aload_n 0, 1) := by decide +kernel
theorem dX8_choose_25 : decode cX8_choose 25 = .ok (.iload_n 1, 1) := by decide +kernel
theorem dX8_choose_26 : decode cX8_choose 26 = .ok (.iload 9, 2) := by decide +kernel
theorem dX8_choose_28 : decode cX8_choose 28 = .ok (.invokevirtual 115, 3) := by decide +kernel
theorem dX8_choose_31 : decode cX8_choose 31 = .ok (.istore 10, 2) := by decide +kernel
theorem dX8_choose_33 : decode cX8_choose 33 = .ok (.aload_n 0, 1) := by decide +kernel
theorem dX8_choose_34 : decode cX8_choose 34 = .ok (.aload_n 0, 1) := by decide +kernel
theorem dX8_choose_35 : decode cX8_choose 35 = .ok (.getfield 20, 3) := by decide +kernel
theorem dX8_choose_38 : decode cX8_choose 38 = .ok (.iload 10, 2) := by decide +kernel
theorem dX8_choose_40 : decode cX8_choose 40 = .ok (.iaload, 1) := by decide +kernel
theorem dX8_choose_41 : decode cX8_choose 41 = .ok (.iload 10, 2) := by decide +kernel
theorem dX8_choose_43 : decode cX8_choose 43 = .ok (.invokevirtual 125, 3) := by decide +kernel
theorem dX8_choose_46 : decode cX8_choose 46 = .ok (.lstore 11, 2) := by decide +kernel
theorem dX8_choose_48 : decode cX8_choose 48 = .ok (.aload_n 0, 1) := by decide +kernel
theorem dX8_choose_49 : decode cX8_choose 49 = .ok (.aload_n 0, 1) := by decide +kernel
theorem dX8_choose_50 : decode cX8_choose 50 = .ok (.getfield 20, 3) := by decide +kernel
theorem dX8_choose_53 : decode cX8_choose 53 = .ok (.iload 10, 2) := by decide +kernel
theorem dX8_choose_55 : decode cX8_choose 55 = .ok (.iaload, 1) := by decide +kernel
theorem dX8_choose_56 : decode cX8_choose 56 = .ok (.iload 10, 2) := by decide +kernel
theorem dX8_choose_58 : decode cX8_choose 58 = .ok (.iload_n 2, 1) := by decide +kernel
theorem dX8_choose_59 : decode cX8_choose 59 = .ok (.iload_n 3, 1) := by decide +kernel
theorem dX8_choose_60 : decode cX8_choose 60 = .ok (.invokevirtual 129, 3) := by decide +kernel
theorem dX8_choose_63 : decode cX8_choose 63 = .ok (.lload 11, 2) := by decide +kernel
theorem dX8_choose_65 : decode cX8_choose 65 = .ok (.lsub, 1) := by decide +kernel
theorem dX8_choose_66 : decode cX8_choose 66 = .ok (.lstore 13, 2) := by decide +kernel
theorem dX8_choose_68 : decode cX8_choose 68 = .ok (.iload 4, 2) := by decide +kernel
theorem dX8_choose_70 : decode cX8_choose 70 = .ok (.ifCond .lt 27, 3) := by decide +kernel
theorem dX8_choose_73 : decode cX8_choose 73 = .ok (.lload 13, 2) := by decide +kernel
theorem dX8_choose_75 : decode cX8_choose 75 = .ok (.lload 5, 2) := by decide +kernel
theorem dX8_choose_77 : decode cX8_choose 77 = .ok (.lcmp, 1) := by decide +kernel
theorem dX8_choose_78 : decode cX8_choose 78 = .ok (.ifCond .lt 19, 3) := by decide +kernel
theorem dX8_choose_81 : decode cX8_choose 81 = .ok (.lload 13, 2) := by decide +kernel
theorem dX8_choose_83 : decode cX8_choose 83 = .ok (.lload 5, 2) := by decide +kernel
theorem dX8_choose_85 : decode cX8_choose 85 = .ok (.lcmp, 1) := by decide +kernel
theorem dX8_choose_86 : decode cX8_choose 86 = .ok (.ifCond .ne 23, 3) := by decide +kernel
theorem dX8_choose_89 : decode cX8_choose 89 = .ok (.lload 11, 2) := by decide +kernel
theorem dX8_choose_91 : decode cX8_choose 91 = .ok (.lload 7, 2) := by decide +kernel
theorem dX8_choose_93 : decode cX8_choose 93 = .ok (.lcmp, 1) := by decide +kernel
theorem dX8_choose_94 : decode cX8_choose 94 = .ok (.ifCond .ge 15, 3) := by decide +kernel
theorem dX8_choose_97 : decode cX8_choose 97 = .ok (.iload 10, 2) := by decide +kernel
theorem dX8_choose_99 : decode cX8_choose 99 = .ok (.istore 4, 2) := by decide +kernel
theorem dX8_choose_101 : decode cX8_choose 101 = .ok (.lload 13, 2) := by decide +kernel
theorem dX8_choose_103 : decode cX8_choose 103 = .ok (.lstore 5, 2) := by decide +kernel
theorem dX8_choose_105 : decode cX8_choose 105 = .ok (.lload 11, 2) := by decide +kernel
theorem dX8_choose_107 : decode cX8_choose 107 = .ok (.lstore 7, 2) := by decide +kernel
theorem dX8_choose_109 : decode cX8_choose 109 = .ok (.iinc 9 1, 3) := by decide +kernel
theorem dX8_choose_112 : decode cX8_choose 112 = .ok (.goto (-99), 3) := by decide +kernel
theorem dX8_choose_115 : decode cX8_choose 115 = .ok (.iload 4, 2) := by decide +kernel
theorem dX8_choose_117 : decode cX8_choose 117 = .ok (.ireturn, 1) := by decide +kernel
theorem dX8_put_0 : decode cX8_put 0 = .ok (.aload_n 0, 1) := by decide +kernel
theorem dX8_put_1 : decode cX8_put 1 = .ok (.getfield 93, 3) := by decide +kernel
theorem dX8_put_4 : decode cX8_put 4 = .ok (.istore_n 3, 1) := by decide +kernel
theorem dX8_put_5 : decode cX8_put 5 = .ok (.aload_n 0, 1) := by decide +kernel
theorem dX8_put_6 : decode cX8_put 6 = .ok (.getfield 20, 3) := by decide +kernel
theorem dX8_put_9 : decode cX8_put 9 = .ok (.iload_n 3, 1) := by decide +kernel
theorem dX8_put_10 : decode cX8_put 10 = .ok (.iaload, 1) := by decide +kernel
theorem dX8_put_11 : decode cX8_put 11 = .ok (.iload_n 1, 1) := by decide +kernel
theorem dX8_put_12 : decode cX8_put 12 = .ok (.iconst 1, 1) := by decide +kernel
theorem dX8_put_13 : decode cX8_put 13 = .ok (.iadd, 1) := by decide +kernel
theorem dX8_put_14 : decode cX8_put 14 = .ok (.if_icmp .le 14, 3) := by decide +kernel
theorem dX8_put_17 : decode cX8_put 17 = .ok (.aload_n 0, 1) := by decide +kernel
theorem dX8_put_18 : decode cX8_put 18 = .ok (.iload_n 3, 1) := by decide +kernel
theorem dX8_put_19 : decode cX8_put 19 = .ok (.iload_n 1, 1) := by decide +kernel
theorem dX8_put_20 : decode cX8_put 20 = .ok (.iload_n 2, 1) := by decide +kernel
theorem dX8_put_21 : decode cX8_put 21 = .ok (.invokevirtual 132, 3) := by decide +kernel
theorem dX8_put_24 : decode cX8_put 24 = .ok (.istore_n 3, 1) := by decide +kernel
theorem dX8_put_25 : decode cX8_put 25 = .ok (.goto (-20), 3) := by decide +kernel
theorem dX8_put_28 : decode cX8_put 28 = .ok (.aload_n 0, 1) := by decide +kernel
theorem dX8_put_29 : decode cX8_put 29 = .ok (.iload_n 3, 1) := by decide +kernel
theorem dX8_put_30 : decode cX8_put 30 = .ok (.iload_n 2, 1) := by decide +kernel
theorem dX8_put_31 : decode cX8_put 31 = .ok (.invokevirtual 135, 3) := by decide +kernel
theorem dX8_put_34 : decode cX8_put 34 = .ok (.aload_n 0, 1) := by decide +kernel
theorem dX8_put_35 : decode cX8_put 35 = .ok (.iload_n 3, 1) := by decide +kernel
theorem dX8_put_36 : decode cX8_put 36 = .ok (.invokevirtual 139, 3) := by decide +kernel
theorem dX8_put_39 : decode cX8_put 39 = .ok (.iload_n 3, 1) := by decide +kernel
theorem dX8_put_40 : decode cX8_put 40 = .ok (.ifCond .lt 35, 3) := by decide +kernel
theorem dX8_put_43 : decode cX8_put 43 = .ok (.aload_n 0, 1) := by decide +kernel
theorem dX8_put_44 : decode cX8_put 44 = .ok (.getfield 32, 3) := by decide +kernel
theorem dX8_put_47 : decode cX8_put 47 = .ok (.iload_n 3, 1) := by decide +kernel
theorem dX8_put_48 : decode cX8_put 48 = .ok (.iaload, 1) := by decide +kernel
theorem dX8_put_49 : decode cX8_put 49 = .ok (.istore 4, 2) := by decide +kernel
theorem dX8_put_51 : decode cX8_put 51 = .ok (.aload_n 0, 1) := by decide +kernel
theorem dX8_put_52 : decode cX8_put 52 = .ok (.getfield 23, 3) := by decide +kernel
theorem dX8_put_55 : decode cX8_put 55 = .ok (.iload_n 3, 1) := by decide +kernel
theorem dX8_put_56 : decode cX8_put 56 = .ok (.iaload, 1) := by decide +kernel
theorem dX8_put_57 : decode cX8_put 57 = .ok (.aload_n 0, 1) := by decide +kernel
theorem dX8_put_58 : decode cX8_put 58 = .ok (.getfield 83, 3) := by decide +kernel
theorem dX8_put_61 : decode cX8_put 61 = .ok (.if_icmp .le 8, 3) := by decide +kernel
theorem dX8_put_64 : decode cX8_put 64 = .ok (.aload_n 0, 1) := by decide +kernel
theorem dX8_put_65 : decode cX8_put 65 = .ok (.iload_n 3, 1) := by decide +kernel
theorem dX8_put_66 : decode cX8_put 66 = .ok (.invokevirtual 142, 3) := by decide +kernel
theorem dX8_put_69 : decode cX8_put 69 = .ok (.iload 4, 2) := by decide +kernel
theorem dX8_put_71 : decode cX8_put 71 = .ok (.istore_n 3, 1) := by decide +kernel
theorem dX8_put_72 : decode cX8_put 72 = .ok (.goto (-33), 3) := by decide +kernel
theorem dX8_put_75 : decode cX8_put 75 = .ok (.return_, 1) := by decide +kernel
theorem dX8_split_0 : decode cX8_split 0 = .ok (.aload_n 0, 1) := by decide +kernel
theorem dX8_split_1 : decode cX8_split 1 = .ok (.dup, 1) := by decide +kernel
theorem dX8_split_2 : decode cX8_split 2 = .ok (.getfield 145, 3) := by decide +kernel
theorem dX8_split_5 : decode cX8_split 5 = .ok (.iconst 1, 1) := by decide +kernel
theorem dX8_split_6 : decode cX8_split 6 = .ok (.iadd, 1) := by decide +kernel
theorem dX8_split_7 : decode cX8_split 7 = .ok (.putfield 145, 3) := by decide +kernel
theorem dX8_split_10 : decode cX8_split 10 = .ok (.aload_n 0, 1) := by decide +kernel
theorem dX8_split_11 : decode cX8_split 11 = .ok (.getfield 20, 3) := by decide +kernel
theorem dX8_split_14 : decode cX8_split 14 = .ok (.iload_n 1, 1) := by decide +kernel
theorem dX8_split_15 : decode cX8_split 15 = .ok (.iaload, 1) := by decide +kernel
theorem dX8_split_16 : decode cX8_split 16 = .ok (.iconst 1, 1) := by decide +kernel
theorem dX8_split_17 : decode cX8_split 17 = .ok (.isub, 1) := by decide +kernel
theorem dX8_split_18 : decode cX8_split 18 = .ok (.istore_n 2, 1) := by decide +kernel
theorem dX8_split_19 : decode cX8_split 19 = .ok (.aload_n 0, 1) := by decide +kernel
theorem dX8_split_20 : decode cX8_split 20 = .ok (.getfield 23, 3) := by decide +kernel
theorem dX8_split_23 : decode cX8_split 23 = .ok (.iload_n 1, 1) := by decide +kernel
theorem dX8_split_24 : decode cX8_split 24 = .ok (.iaload, 1) := by decide +kernel
theorem dX8_split_25 : decode cX8_split 25 = .ok (.istore_n 3, 1) := by decide +kernel
theorem dX8_split_26 : decode cX8_split 26 = .ok (.iconst 0, 1) := by decide +kernel
theorem dX8_split_27 : decode cX8_split 27 = .ok (.istore 4, 2) := by decide +kernel
theorem dX8_split_29 : decode cX8_split 29 = .ok (.iload 4, 2) := by decide +kernel
theorem dX8_split_31 : decode cX8_split 31 = .ok (.iload_n 3, 1) := by decide +kernel
theorem dX8_split_32 : decode cX8_split 32 = .ok (.if_icmp .ge 31, 3) := by decide +kernel
theorem dX8_split_35 : decode cX8_split 35 = .ok (.aload_n 0, 1) := by decide +kernel
theorem dX8_split_36 : decode cX8_split 36 = .ok (.getfield 53, 3) := by decide +kernel
theorem dX8_split_39 : decode cX8_split 39 = .ok (.iload 4, 2) := by decide +kernel
theorem dX8_split_41 : decode cX8_split 41 = .ok (.aload_n 0, 1) := by decide +kernel
theorem dX8_split_42 : decode cX8_split 42 = .ok (.iload_n 1, 1) := by decide +kernel
theorem dX8_split_43 : decode cX8_split 43 = .ok (.iload 4, 2) := by decide +kernel
theorem dX8_split_45 : decode cX8_split 45 = .ok (.invokevirtual 115, 3) := by decide +kernel
theorem dX8_split_48 : decode cX8_split 48 = .ok (.iastore, 1) := by decide +kernel
theorem dX8_split_49 : decode cX8_split 49 = .ok (.aload_n 0, 1) := by decide +kernel
theorem dX8_split_50 : decode cX8_split 50 = .ok (.getfield 56, 3) := by decide +kernel
theorem dX8_split_53 : decode cX8_split 53 = .ok (.iload 4, 2) := by decide +kernel
theorem dX8_split_55 : decode cX8_split 55 = .ok (.iconst 0, 1) := by decide +kernel
theorem dX8_split_56 : decode cX8_split 56 = .ok (.iastore, 1) := by decide +kernel
theorem dX8_split_57 : decode cX8_split 57 = .ok (.iinc 4 1, 3) := by decide +kernel
theorem dX8_split_60 : decode cX8_split 60 = .ok (.goto (-31), 3) := by decide +kernel
theorem dX8_split_63 : decode cX8_split 63 = .ok (.iconst 0, 1) := by decide +kernel
theorem dX8_split_64 : decode cX8_split 64 = .ok (.istore 4, 2) := by decide +kernel
theorem dX8_split_66 : decode cX8_split 66 = .ok (.iconst 1, 1) := by decide +kernel
theorem dX8_split_67 : decode cX8_split 67 = .ok (.istore 5, 2) := by decide +kernel
theorem dX8_split_69 : decode cX8_split 69 = .ok (.ldc2_w 150, 3) := by decide +kernel
theorem dX8_split_72 : decode cX8_split 72 = .ok (.lstore 6, 2) := by decide +kernel
theorem dX8_split_74 : decode cX8_split 74 = .ok (.iconst 0, 1) := by decide +kernel
theorem dX8_split_75 : decode cX8_split 75 = .ok (.istore 8, 2) := by decide +kernel
theorem dX8_split_77 : decode cX8_split 77 = .ok (.iload 8, 2) := by decide +kernel
theorem dX8_split_79 : decode cX8_split 79 = .ok (.iload_n 3, 1) := by decide +kernel
theorem dX8_split_80 : decode cX8_split 80 = .ok (.if_icmp .ge 95, 3) := by decide +kernel
theorem dX8_split_83 : decode cX8_split 83 = .ok (.iload 8, 2) := by decide +kernel
theorem dX8_split_85 : decode cX8_split 85 = .ok (.iconst 1, 1) := by decide +kernel
theorem dX8_split_86 : decode cX8_split 86 = .ok (.iadd, 1) := by decide +kernel
theorem dX8_split_87 : decode cX8_split 87 = .ok (.istore 9, 2) := by decide +kernel
theorem dX8_split_89 : decode cX8_split 89 = .ok (.iload 9, 2) := by decide +kernel
theorem dX8_split_91 : decode cX8_split 91 = .ok (.iload_n 3, 1) := by decide +kernel
theorem dX8_split_92 : decode cX8_split 92 = .ok (.if_icmp .ge 77, 3) := by decide +kernel
theorem dX8_split_95 : decode cX8_split 95 = .ok (.aload_n 0, 1) := by decide +kernel
theorem dX8_split_96 : decode cX8_split 96 = .ok (.iload_n 2, 1) := by decide +kernel
theorem dX8_split_97 : decode cX8_split 97 = .ok (.aload_n 0, 1) := by decide +kernel
theorem dX8_split_98 : decode cX8_split 98 = .ok (.getfield 53, 3) := by decide +kernel
theorem dX8_split_101 : decode cX8_split 101 = .ok (.iload 8, 2) := by decide +kernel
theorem dX8_split_103 : decode cX8_split 103 = .ok (.iaload, 1) := by decide +kernel
theorem dX8_split_104 : decode cX8_split 104 = .ok (.iload_n 2, 1) := by decide +kernel
theorem dX8_split_105 : decode cX8_split 105 = .ok (.aload_n 0, 1) := by decide +kernel
theorem dX8_split_106 : decode cX8_split 106 = .ok (.getfield 53, 3) := by decide +kernel
theorem dX8_split_109 : decode cX8_split 109 = .ok (.iload 9, 2) := by decide +kernel
theorem dX8_split_111 : decode cX8_split 111 = .ok (.iaload, 1) := by decide +kernel
theorem dX8_split_112 : decode cX8_split 112 = .ok (.invokevirtual 129, 3) := by decide +kernel
theorem dX8_split_115 : decode cX8_split 115 = .ok (.aload_n 0, 1) := by decide +kernel
theorem dX8_split_116 : decode cX8_split 116 = .ok (.iload_n 2, 1) := by decide +kernel
theorem dX8_split_117 : decode cX8_split 117 = .ok (.aload_n 0, 1) := by decide +kernel
theorem dX8_split_118 : decode cX8_split 118 = .ok (.getfield 53, 3) := by decide +kernel
theorem dX8_split_121 : decode cX8_split 121 = .ok (.iload 8, 2) := by decide +kernel
theorem dX8_split_123 : decode cX8_split 123 = .ok (.iaload, 1) := by decide +kernel
theorem dX8_split_124 : decode cX8_split 124 = .ok (.invokevirtual 125, 3) := by decide +kernel
theorem dX8_split_127 : decode cX8_split 127 = .ok (.lsub, 1) := by decide +kernel
theorem dX8_split_128 : decode cX8_split 128 = .ok (.aload_n 0, 1) := by decide +kernel
theorem dX8_split_129 : decode cX8_split 129 = .ok (.iload_n 2, 1) := by decide +kernel
theorem dX8_split_130 : decode cX8_split 130 = .ok (.aload_n 0, 1) := by decide +kernel
theorem dX8_split_131 : decode cX8_split 131 = .ok (.getfield 53, 3) := by decide +kernel
theorem dX8_split_134 : decode cX8_split 134 = .ok (.iload 9, 2) := by decide +kernel
theorem dX8_split_136 : decode cX8_split 136 = .ok (.iaload, 1) := by decide +kernel
theorem dX8_split_137 : decode cX8_split 137 = .ok (.invokevirtual 125, 3) := by decide +kernel
theorem dX8_split_140 : decode cX8_split 140 = .ok (.lsub, 1) := by decide +kernel
theorem dX8_split_141 : decode cX8_split 141 = .ok (.lstore 10, 2) := by decide +kernel
theorem dX8_split_143 : decode cX8_split 143 = .ok (.lload 10, 2) := by decide +kernel
theorem dX8_split_145 : decode cX8_split 145 = .ok (.lload 6, 2) := by decide +kernel
theorem dX8_split_147 : decode cX8_split 147 = .ok (.lcmp, 1) := by decide +kernel
theorem dX8_split_148 : decode cX8_split 148 = .ok (.ifCond .le 15, 3) := by decide +kernel
theorem dX8_split_151 : decode cX8_split 151 = .ok (.lload 10, 2) := by decide +kernel
theorem dX8_split_153 : decode cX8_split 153 = .ok (.lstore 6, 2) := by decide +kernel
theorem dX8_split_155 : decode cX8_split 155 = .ok (.iload 8, 2) := by decide +kernel
theorem dX8_split_157 : decode cX8_split 157 = .ok (.istore 4, 2) := by decide +kernel
theorem dX8_split_159 : decode cX8_split 159 = .ok (.iload 9, 2) := by decide +kernel
theorem dX8_split_161 : decode cX8_split 161 = .ok (.istore 5, 2) := by decide +kernel
theorem dX8_split_163 : decode cX8_split 163 = .ok (.iinc 9 1, 3) := by decide +kernel
theorem dX8_split_166 : decode cX8_split 166 = .ok (.goto (-77), 3) := by decide +kernel
theorem dX8_split_169 : decode cX8_split 169 = .ok (.iinc 8 1, 3) := by decide +kernel
theorem dX8_split_172 : decode cX8_split 172 = .ok (.goto (-95), 3) := by decide +kernel
theorem dX8_split_175 : decode cX8_split 175 = .ok (.aload_n 0, 1) := by decide +kernel
theorem dX8_split_176 : decode cX8_split 176 = .ok (.getfield 65, 3) := by decide +kernel
theorem dX8_split_179 : decode cX8_split 179 = .ok (.iconst 0, 1) := by decide +kernel
theorem dX8_split_180 : decode cX8_split 180 = .ok (.iconst 0, 1) := by decide +kernel
theorem dX8_split_181 : decode cX8_split 181 = .ok (.iastore, 1) := by decide +kernel
theorem dX8_split_182 : decode cX8_split 182 = .ok (.aload_n 0, 1) := by decide +kernel
theorem dX8_split_183 : decode cX8_split 183 = .ok (.getfield 65, 3) := by decide +kernel
theorem dX8_split_186 : decode cX8_split 186 = .ok (.iconst 1, 1) := by decide +kernel
theorem dX8_split_187 : decode cX8_split 187 = .ok (.iconst 0, 1) := by decide +kernel
theorem dX8_split_188 : decode cX8_split 188 = .ok (.iastore, 1) := by decide +kernel
theorem dX8_split_189 : decode cX8_split 189 = .ok (.iconst 0, 1) := by decide +kernel
theorem dX8_split_190 : decode cX8_split 190 = .ok (.istore 8, 2) := by decide +kernel
theorem dX8_split_192 : decode cX8_split 192 = .ok (.aload_n 0, 1) := by decide +kernel
theorem dX8_split_193 : decode cX8_split 193 = .ok (.iload 4, 2) := by decide +kernel
theorem dX8_split_195 : decode cX8_split 195 = .ok (.iconst 1, 1) := by decide +kernel
theorem dX8_split_196 : decode cX8_split 196 = .ok (.iload_n 2, 1) := by decide +kernel
theorem dX8_split_197 : decode cX8_split 197 = .ok (.iload 8, 2) := by decide +kernel
theorem dX8_split_199 : decode cX8_split 199 = .ok (.invokevirtual 152, 3) := by decide +kernel
theorem dX8_split_202 : decode cX8_split 202 = .ok (.istore 8, 2) := by decide +kernel
theorem dX8_split_204 : decode cX8_split 204 = .ok (.aload_n 0, 1) := by decide +kernel
theorem dX8_split_205 : decode cX8_split 205 = .ok (.iload 5, 2) := by decide +kernel
theorem dX8_split_207 : decode cX8_split 207 = .ok (.iconst 2, 1) := by decide +kernel
theorem dX8_split_208 : decode cX8_split 208 = .ok (.iload_n 2, 1) := by decide +kernel
theorem dX8_split_209 : decode cX8_split 209 = .ok (.iload 8, 2) := by decide +kernel
theorem dX8_split_211 : decode cX8_split 211 = .ok (.invokevirtual 152, 3) := by decide +kernel
theorem dX8_split_214 : decode cX8_split 214 = .ok (.istore 8, 2) := by decide +kernel
theorem dX8_split_216 : decode cX8_split 216 = .ok (.iload 8, 2) := by decide +kernel
theorem dX8_split_218 : decode cX8_split 218 = .ok (.iload_n 3, 1) := by decide +kernel
theorem dX8_split_219 : decode cX8_split 219 = .ok (.if_icmp .ge 123, 3) := by decide +kernel
theorem dX8_split_222 : decode cX8_split 222 = .ok (.aload_n 0, 1) := by decide +kernel
theorem dX8_split_223 : decode cX8_split 223 = .ok (.getfield 65, 3) := by decide +kernel
theorem dX8_split_226 : decode cX8_split 226 = .ok (.iconst 0, 1) := by decide +kernel
theorem dX8_split_227 : decode cX8_split 227 = .ok (.iaload, 1) := by decide +kernel
theorem dX8_split_228 : decode cX8_split 228 = .ok (.iload_n 3, 1) := by decide +kernel
theorem dX8_split_229 : decode cX8_split 229 = .ok (.iadd, 1) := by decide +kernel
theorem dX8_split_230 : decode cX8_split 230 = .ok (.iload 8, 2) := by decide +kernel
theorem dX8_split_232 : decode cX8_split 232 = .ok (.isub, 1) := by decide +kernel
theorem dX8_split_233 : decode cX8_split 233 = .ok (.aload_n 0, 1) := by decide +kernel
theorem dX8_split_234 : decode cX8_split 234 = .ok (.getfield 86, 3) := by decide +kernel
theorem dX8_split_237 : decode cX8_split 237 = .ok (.if_icmp .eq 21, 3) := by decide +kernel
theorem dX8_split_240 : decode cX8_split 240 = .ok (.aload_n 0, 1) := by decide +kernel
theorem dX8_split_241 : decode cX8_split 241 = .ok (.getfield 65, 3) := by decide +kernel
theorem dX8_split_244 : decode cX8_split 244 = .ok (.iconst 1, 1) := by decide +kernel
theorem dX8_split_245 : decode cX8_split 245 = .ok (.iaload, 1) := by decide +kernel
theorem dX8_split_246 : decode cX8_split 246 = .ok (.iload_n 3, 1) := by decide +kernel
theorem dX8_split_247 : decode cX8_split 247 = .ok (.iadd, 1) := by decide +kernel
theorem dX8_split_248 : decode cX8_split 248 = .ok (.iload 8, 2) := by decide +kernel
theorem dX8_split_250 : decode cX8_split 250 = .ok (.isub, 1) := by decide +kernel
theorem dX8_split_251 : decode cX8_split 251 = .ok (.aload_n 0, 1) := by decide +kernel
theorem dX8_split_252 : decode cX8_split 252 = .ok (.getfield 86, 3) := by decide +kernel
theorem dX8_split_255 : decode cX8_split 255 = .ok (.if_icmp .ne 74, 3) := by decide +kernel
theorem dX8_split_258 : decode cX8_split 258 = .ok (.aload_n 0, 1) := by decide +kernel
theorem dX8_split_259 : decode cX8_split 259 = .ok (.getfield 65, 3) := by decide +kernel
theorem dX8_split_262 : decode cX8_split 262 = .ok (.iconst 0, 1) := by decide +kernel
theorem dX8_split_263 : decode cX8_split 263 = .ok (.iaload, 1) := by decide +kernel
theorem dX8_split_264 : decode cX8_split 264 = .ok (.iload_n 3, 1) := by decide +kernel
theorem dX8_split_265 : decode cX8_split 265 = .ok (.iadd, 1) := by decide +kernel
theorem dX8_split_266 : decode cX8_split 266 = .ok (.iload 8, 2) := by decide +kernel
theorem dX8_split_268 : decode cX8_split 268 = .ok (.isub, 1) := by decide +kernel
theorem dX8_split_269 : decode cX8_split 269 = .ok (.aload_n 0, 1) := by decide +kernel
theorem dX8_split_270 : decode cX8_split 270 = .ok (.getfield 86, 3) := by decide +kernel
theorem dX8_split_273 : decode cX8_split 273 = .ok (.if_icmp .ne 7, 3) := by decide +kernel
theorem dX8_split_276 : decode cX8_split 276 = .ok (.iconst 1, 1) := by decide +kernel
theorem dX8_split_277 : decode cX8_split 277 = .ok (.goto 4, 3) := by decide +kernel
theorem dX8_split_280 : decode cX8_split 280 = .ok (.iconst 2, 1) := by decide +kernel
theorem dX8_split_281 : decode cX8_split 281 = .ok (.istore 9, 2) := by decide +kernel
theorem dX8_split_283 : decode cX8_split 283 = .ok (.iconst 0, 1) := by decide +kernel
theorem dX8_split_284 : decode cX8_split 284 = .ok (.istore 10, 2) := by decide +kernel
theorem dX8_split_286 : decode cX8_split 286 = .ok (.iload 10, 2) := by decide +kernel
theorem dX8_split_288 : decode cX8_split 288 = .ok (.iload_n 3, 1) := by decide +kernel
theorem dX8_split_289 : decode cX8_split 289 = .ok (.if_icmp .ge 37, 3) := by decide +kernel
theorem dX8_split_292 : decode cX8_split 292 = .ok (.aload_n 0, 1) := by decide +kernel
theorem dX8_split_293 : decode cX8_split 293 = .ok (.getfield 56, 3) := by decide +kernel
theorem dX8_split_296 : decode cX8_split 296 = .ok (.iload 10, 2) := by decide +kernel
theorem dX8_split_298 : decode cX8_split 298 = .ok (.iaload, 1) := by decide +kernel
theorem dX8_split_299 : decode cX8_split 299 = .ok (.ifCond .ne 17, 3) := by decide +kernel
theorem dX8_split_302 : decode cX8_split 302 = .ok (.aload_n 0, 1) := by decide +kernel
theorem dX8_split_303 : decode cX8_split 303 = .ok (.iload 10, 2) := by decide +kernel
theorem dX8_split_305 : decode cX8_split 305 = .ok (.iload 9, 2) := by decide +kernel
theorem dX8_split_307 : decode cX8_split 307 = .ok (.iload_n 2, 1) := by decide +kernel
theorem dX8_split_308 : decode cX8_split 308 = .ok (.iload 8, 2) := by decide +kernel
theorem dX8_split_310 : decode cX8_split 310 = .ok (.invokevirtual 152, 3) := by decide +kernel
theorem dX8_split_313 : decode cX8_split 313 = .ok (.goto 5, 3) := by decide +kernel
theorem dX8_split_316 : decode cX8_split 316 = .ok (.iload 8, 2) := by decide +kernel
theorem dX8_split_318 : decode cX8_split 318 = .ok (.istore 8, 2) := by decide +kernel
theorem dX8_split_320 : decode cX8_split 320 = .ok (.iinc 10 1, 3) := by decide +kernel
theorem dX8_split_323 : decode cX8_split 323 = .ok (.goto (-37), 3) := by decide +kernel
theorem dX8_split_326 : decode cX8_split 326 = .ok (.goto (-110), 3) := by decide +kernel
theorem dX8_split_329 : decode cX8_split 329 = .ok (.aload_n 0, 1) := by decide +kernel
theorem dX8_split_330 : decode cX8_split 330 = .ok (.iload_n 3, 1) := by decide +kernel
theorem dX8_split_331 : decode cX8_split 331 = .ok (.iload_n 2, 1) := by decide +kernel
theorem dX8_split_332 : decode cX8_split 332 = .ok (.iload 8, 2) := by decide +kernel
theorem dX8_split_334 : decode cX8_split 334 = .ok (.invokevirtual 156, 3) := by decide +kernel
theorem dX8_split_337 : decode cX8_split 337 = .ok (.istore 8, 2) := by decide +kernel
theorem dX8_split_339 : decode cX8_split 339 = .ok (.goto (-123), 3) := by decide +kernel
theorem dX8_split_342 : decode cX8_split 342 = .ok (.aload_n 0, 1) := by decide +kernel
theorem dX8_split_343 : decode cX8_split 343 = .ok (.aload_n 0, 1) := by decide +kernel
theorem dX8_split_344 : decode cX8_split 344 = .ok (.getfield 20, 3) := by decide +kernel
theorem dX8_split_347 : decode cX8_split 347 = .ok (.iload_n 1, 1) := by decide +kernel
theorem dX8_split_348 : decode cX8_split 348 = .ok (.iaload, 1) := by decide +kernel
theorem dX8_split_349 : decode cX8_split 349 = .ok (.invokevirtual 89, 3) := by decide +kernel
theorem dX8_split_352 : decode cX8_split 352 = .ok (.istore 9, 2) := by decide +kernel
theorem dX8_split_354 : decode cX8_split 354 = .ok (.aload_n 0, 1) := by decide +kernel
theorem dX8_split_355 : decode cX8_split 355 = .ok (.getfield 23, 3) := by decide +kernel
theorem dX8_split_358 : decode cX8_split 358 = .ok (.iload_n 1, 1) := by decide +kernel
theorem dX8_split_359 : decode cX8_split 359 = .ok (.iconst 0, 1) := by decide +kernel
theorem dX8_split_360 : decode cX8_split 360 = .ok (.iastore, 1) := by decide +kernel
theorem dX8_split_361 : decode cX8_split 361 = .ok (.iconst 0, 1) := by decide +kernel
theorem dX8_split_362 : decode cX8_split 362 = .ok (.istore 10, 2) := by decide +kernel
theorem dX8_split_364 : decode cX8_split 364 = .ok (.iload 10, 2) := by decide +kernel
theorem dX8_split_366 : decode cX8_split 366 = .ok (.iload_n 3, 1) := by decide +kernel
theorem dX8_split_367 : decode cX8_split 367 = .ok (.if_icmp .ge 47, 3) := by decide +kernel
theorem dX8_split_370 : decode cX8_split 370 = .ok (.aload_n 0, 1) := by decide +kernel
theorem dX8_split_371 : decode cX8_split 371 = .ok (.aload_n 0, 1) := by decide +kernel
theorem dX8_split_372 : decode cX8_split 372 = .ok (.getfield 56, 3) := by decide +kernel
theorem dX8_split_375 : decode cX8_split 375 = .ok (.aload_n 0, 1) := by decide +kernel
theorem dX8_split_376 : decode cX8_split 376 = .ok (.getfield 59, 3) := by decide +kernel
theorem dX8_split_379 : decode cX8_split 379 = .ok (.iload 10, 2) := by decide +kernel
theorem dX8_split_381 : decode cX8_split 381 = .ok (.iaload, 1) := by decide +kernel
theorem dX8_split_382 : decode cX8_split 382 = .ok (.iaload, 1) := by decide +kernel
theorem dX8_split_383 : decode cX8_split 383 = .ok (.iconst 1, 1) := by decide +kernel
