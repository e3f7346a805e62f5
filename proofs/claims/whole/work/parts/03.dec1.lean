theorem dX0_init_0 : decode cX0_init 0 = .ok (.aload_n 0, 1) := by decide +kernel
theorem dX0_init_1 : decode cX0_init 1 = .ok (.invokespecial 3, 3) := by decide +kernel
theorem dX0_init_4 : decode cX0_init 4 = .ok (.aload_n 0, 1) := by decide +kernel
theorem dX0_init_5 : decode cX0_init 5 = .ok (.aload_n 1, 1) := by decide +kernel
theorem dX0_init_6 : decode cX0_init 6 = .ok (.putfield 9, 3) := by decide +kernel
theorem dX0_init_9 : decode cX0_init 9 = .ok (.aload_n 0, 1) := by decide +kernel
theorem dX0_init_10 : decode cX0_init 10 = .ok (.aload_n 2, 1) := by decide +kernel
theorem dX0_init_11 : decode cX0_init 11 = .ok (.putfield 15, 3) := by decide +kernel
theorem dX0_init_14 : decode cX0_init 14 = .ok (.return_, 1) := by decide +kernel
theorem dX0_findsAllWell_0 : decode cX0_findsAllWell 0 = .ok (.iconst 0, 1) := by decide +kernel
theorem dX0_findsAllWell_1 : decode cX0_findsAllWell 1 = .ok (.istore_n 1, 1) := by decide +kernel
theorem dX0_findsAllWell_2 : decode cX0_findsAllWell 2 = .ok (.iconst 0, 1) := by decide +kernel
theorem dX0_findsAllWell_3 : decode cX0_findsAllWell 3 = .ok (.istore_n 2, 1) := by decide +kernel
theorem dX0_findsAllWell_4 : decode cX0_findsAllWell 4 = .ok (.iload_n 2, 1) := by decide +kernel
theorem dX0_findsAllWell_5 : decode cX0_findsAllWell 5 = .ok (.aload_n 0, 1) := by decide +kernel
theorem dX0_findsAllWell_6 : decode cX0_findsAllWell 6 = .ok (.getfield 15, 3) := by decide +kernel
theorem dX0_findsAllWell_9 : decode cX0_findsAllWell 9 = .ok (.getfield 19, 3) := by decide +kernel
theorem dX0_findsAllWell_12 : decode cX0_findsAllWell 12 = .ok (.if_icmp .ge 69, 3) := by decide +kernel
theorem dX0_findsAllWell_15 : decode cX0_findsAllWell 15 = .ok (.aload_n 0, 1) := by decide +kernel
theorem dX0_findsAllWell_16 : decode cX0_findsAllWell 16 = .ok (.getfield 15, 3) := by decide +kernel
theorem dX0_findsAllWell_19 : decode cX0_findsAllWell 19 = .ok (.getfield 25, 3) := by decide +kernel
theorem dX0_findsAllWell_22 : decode cX0_findsAllWell 22 = .ok (.iload_n 2, 1) := by decide +kernel
theorem dX0_findsAllWell_23 : decode cX0_findsAllWell 23 = .ok (.iaload, 1) := by decide +kernel
theorem dX0_findsAllWell_24 : decode cX0_findsAllWell 24 = .ok (.istore_n 3, 1) := by decide +kernel
theorem dX0_findsAllWell_25 : decode cX0_findsAllWell 25 = .ok (.aload_n 0, 1) := by decide +kernel
theorem dX0_findsAllWell_26 : decode cX0_findsAllWell 26 = .ok (.iload_n 3, 1) := by decide +kernel
theorem dX0_findsAllWell_27 : decode cX0_findsAllWell 27 = .ok (.invokevirtual 29, 3) := by decide +kernel
theorem dX0_findsAllWell_30 : decode cX0_findsAllWell 30 = .ok (.ifCond .eq 19, 3) := by decide +kernel
theorem dX0_findsAllWell_33 : decode cX0_findsAllWell 33 = .ok (.aload_n 0, 1) := by decide +kernel
theorem dX0_findsAllWell_34 : decode cX0_findsAllWell 34 = .ok (.iload_n 3, 1) := by decide +kernel
theorem dX0_findsAllWell_35 : decode cX0_findsAllWell 35 = .ok (.invokevirtual 33, 3) := by decide +kernel
theorem dX0_findsAllWell_38 : decode cX0_findsAllWell 38 = .ok (.ifCond .eq 11, 3) := by decide +kernel
theorem dX0_findsAllWell_41 : decode cX0_findsAllWell 41 = .ok (.aload_n 0, 1) := by decide +kernel
theorem dX0_findsAllWell_42 : decode cX0_findsAllWell 42 = .ok (.iload_n 3, 1) := by decide +kernel
theorem dX0_findsAllWell_43 : decode cX0_findsAllWell 43 = .ok (.invokevirtual 36, 3) := by decide +kernel
theorem dX0_findsAllWell_46 : decode cX0_findsAllWell 46 = .ok (.ifCond .ne 5, 3) := by decide +kernel
theorem dX0_findsAllWell_49 : decode cX0_findsAllWell 49 = .ok (.iconst 0, 1) := by decide +kernel
theorem dX0_findsAllWell_50 : decode cX0_findsAllWell 50 = .ok (.ireturn, 1) := by decide +kernel
theorem dX0_findsAllWell_51 : decode cX0_findsAllWell 51 = .ok (.aload_n 0, 1) := by decide +kernel
theorem dX0_findsAllWell_52 : decode cX0_findsAllWell 52 = .ok (.getfield 9, 3) := by decide +kernel
theorem dX0_findsAllWell_55 : decode cX0_findsAllWell 55 = .ok (.getfield 39, 3) := by decide +kernel
theorem dX0_findsAllWell_58 : decode cX0_findsAllWell 58 = .ok (.iload_n 3, 1) := by decide +kernel
theorem dX0_findsAllWell_59 : decode cX0_findsAllWell 59 = .ok (.iaload, 1) := by decide +kernel
theorem dX0_findsAllWell_60 : decode cX0_findsAllWell 60 = .ok (.ifCond .ne 15, 3) := by decide +kernel
theorem dX0_findsAllWell_63 : decode cX0_findsAllWell 63 = .ok (.iload_n 1, 1) := by decide +kernel
theorem dX0_findsAllWell_64 : decode cX0_findsAllWell 64 = .ok (.aload_n 0, 1) := by decide +kernel
theorem dX0_findsAllWell_65 : decode cX0_findsAllWell 65 = .ok (.getfield 9, 3) := by decide +kernel
theorem dX0_findsAllWell_68 : decode cX0_findsAllWell 68 = .ok (.getfield 44, 3) := by decide +kernel
theorem dX0_findsAllWell_71 : decode cX0_findsAllWell 71 = .ok (.iload_n 3, 1) := by decide +kernel
theorem dX0_findsAllWell_72 : decode cX0_findsAllWell 72 = .ok (.iaload, 1) := by decide +kernel
theorem dX0_findsAllWell_73 : decode cX0_findsAllWell 73 = .ok (.iadd, 1) := by decide +kernel
theorem dX0_findsAllWell_74 : decode cX0_findsAllWell 74 = .ok (.istore_n 1, 1) := by decide +kernel
theorem dX0_findsAllWell_75 : decode cX0_findsAllWell 75 = .ok (.iinc 2 1, 3) := by decide +kernel
theorem dX0_findsAllWell_78 : decode cX0_findsAllWell 78 = .ok (.goto (-74), 3) := by decide +kernel
theorem dX0_findsAllWell_81 : decode cX0_findsAllWell 81 = .ok (.iload_n 1, 1) := by decide +kernel
theorem dX0_findsAllWell_82 : decode cX0_findsAllWell 82 = .ok (.aload_n 0, 1) := by decide +kernel
theorem dX0_findsAllWell_83 : decode cX0_findsAllWell 83 = .ok (.getfield 9, 3) := by decide +kernel
theorem dX0_findsAllWell_86 : decode cX0_findsAllWell 86 = .ok (.getfield 47, 3) := by decide +kernel
theorem dX0_findsAllWell_89 : decode cX0_findsAllWell 89 = .ok (.if_icmp .ne 14, 3) := by decide +kernel
theorem dX0_findsAllWell_92 : decode cX0_findsAllWell 92 = .ok (.aload_n 0, 1) := by decide +kernel
theorem dX0_findsAllWell_93 : decode cX0_findsAllWell 93 = .ok (.invokevirtual 50, 3) := by decide +kernel
theorem dX0_findsAllWell_96 : decode cX0_findsAllWell 96 = .ok (.ifCond .eq 7, 3) := by decide +kernel
theorem dX0_findsAllWell_99 : decode cX0_findsAllWell 99 = .ok (.iconst 1, 1) := by decide +kernel
theorem dX0_findsAllWell_100 : decode cX0_findsAllWell 100 = .ok (.goto 4, 3) := by decide +kernel
theorem dX0_findsAllWell_103 : decode cX0_findsAllWell 103 = .ok (.iconst 0, 1) := by decide +kernel
theorem dX0_findsAllWell_104 : decode cX0_findsAllWell 104 = .ok (.ireturn, 1) := by decide +kernel
theorem dX0_holdsEnough_0 : decode cX0_holdsEnough 0 = .ok (.aload_n 0, 1) := by decide +kernel
theorem dX0_holdsEnough_1 : decode cX0_holdsEnough 1 = .ok (.getfield 9, 3) := by decide +kernel
theorem dX0_holdsEnough_4 : decode cX0_holdsEnough 4 = .ok (.getfield 54, 3) := by decide +kernel
theorem dX0_holdsEnough_7 : decode cX0_holdsEnough 7 = .ok (.istore_n 2, 1) := by decide +kernel
theorem dX0_holdsEnough_8 : decode cX0_holdsEnough 8 = .ok (.iload_n 1, 1) := by decide +kernel
theorem dX0_holdsEnough_9 : decode cX0_holdsEnough 9 = .ok (.aload_n 0, 1) := by decide +kernel
theorem dX0_holdsEnough_10 : decode cX0_holdsEnough 10 = .ok (.getfield 15, 3) := by decide +kernel
theorem dX0_holdsEnough_13 : decode cX0_holdsEnough 13 = .ok (.getfield 57, 3) := by decide +kernel
theorem dX0_holdsEnough_16 : decode cX0_holdsEnough 16 = .ok (.if_icmp .ne 21, 3) := by decide +kernel
theorem dX0_holdsEnough_19 : decode cX0_holdsEnough 19 = .ok (.aload_n 0, 1) := by decide +kernel
theorem dX0_holdsEnough_20 : decode cX0_holdsEnough 20 = .ok (.getfield 9, 3) := by decide +kernel
theorem dX0_holdsEnough_23 : decode cX0_holdsEnough 23 = .ok (.getfield 39, 3) := by decide +kernel
theorem dX0_holdsEnough_26 : decode cX0_holdsEnough 26 = .ok (.iload_n 1, 1) := by decide +kernel
theorem dX0_holdsEnough_27 : decode cX0_holdsEnough 27 = .ok (.iaload, 1) := by decide +kernel
theorem dX0_holdsEnough_28 : decode cX0_holdsEnough 28 = .ok (.ifCond .ne 7, 3) := by decide +kernel
theorem dX0_holdsEnough_31 : decode cX0_holdsEnough 31 = .ok (.iconst 0, 1) := by decide +kernel
theorem dX0_holdsEnough_32 : decode cX0_holdsEnough 32 = .ok (.goto 4, 3) := by decide +kernel
theorem dX0_holdsEnough_35 : decode cX0_holdsEnough 35 = .ok (.iconst 2, 1) := by decide +kernel
theorem dX0_holdsEnough_36 : decode cX0_holdsEnough 36 = .ok (.istore_n 2, 1) := by decide +kernel
theorem dX0_holdsEnough_37 : decode cX0_holdsEnough 37 = .ok (.aload_n 0, 1) := by decide +kernel
theorem dX0_holdsEnough_38 : decode cX0_holdsEnough 38 = .ok (.getfield 9, 3) := by decide +kernel
theorem dX0_holdsEnough_41 : decode cX0_holdsEnough 41 = .ok (.getfield 44, 3) := by decide +kernel
theorem dX0_holdsEnough_44 : decode cX0_holdsEnough 44 = .ok (.iload_n 1, 1) := by decide +kernel
theorem dX0_holdsEnough_45 : decode cX0_holdsEnough 45 = .ok (.iaload, 1) := by decide +kernel
theorem dX0_holdsEnough_46 : decode cX0_holdsEnough 46 = .ok (.iload_n 2, 1) := by decide +kernel
theorem dX0_holdsEnough_47 : decode cX0_holdsEnough 47 = .ok (.if_icmp .lt 26, 3) := by decide +kernel
theorem dX0_holdsEnough_50 : decode cX0_holdsEnough 50 = .ok (.aload_n 0, 1) := by decide +kernel
theorem dX0_holdsEnough_51 : decode cX0_holdsEnough 51 = .ok (.getfield 9, 3) := by decide +kernel
theorem dX0_holdsEnough_54 : decode cX0_holdsEnough 54 = .ok (.getfield 44, 3) := by decide +kernel
theorem dX0_holdsEnough_57 : decode cX0_holdsEnough 57 = .ok (.iload_n 1, 1) := by decide +kernel
theorem dX0_holdsEnough_58 : decode cX0_holdsEnough 58 = .ok (.iaload, 1) := by decide +kernel
theorem dX0_holdsEnough_59 : decode cX0_holdsEnough 59 = .ok (.aload_n 0, 1) := by decide +kernel
theorem dX0_holdsEnough_60 : decode cX0_holdsEnough 60 = .ok (.getfield 9, 3) := by decide +kernel
theorem dX0_holdsEnough_63 : decode cX0_holdsEnough 63 = .ok (.getfield 60, 3) := by decide +kernel
theorem dX0_holdsEnough_66 : decode cX0_holdsEnough 66 = .ok (.if_icmp .gt 7, 3) := by decide +kernel
theorem dX0_holdsEnough_69 : decode cX0_holdsEnough 69 = .ok (.iconst 1, 1) := by decide +kernel
theorem dX0_holdsEnough_70 : decode cX0_holdsEnough 70 = .ok (.goto 4, 3) := by decide +kernel
theorem dX0_holdsEnough_73 : decode cX0_holdsEnough 73 = .ok (.iconst 0, 1) := by decide +kernel
theorem dX0_holdsEnough_74 : decode cX0_holdsEnough 74 = .ok (.ireturn, 1) := by decide +kernel
theorem dX0_holdsRightly_0 : decode cX0_holdsRightly 0 = .ok (.iconst 0, 1) := by decide +kernel
theorem dX0_holdsRightly_1 : decode cX0_holdsRightly 1 = .ok (.istore_n 2, 1) := by decide +kernel
theorem dX0_holdsRightly_2 : decode cX0_holdsRightly 2 = .ok (.iload_n 2, 1) := by decide +kernel
theorem dX0_holdsRightly_3 : decode cX0_holdsRightly 3 = .ok (.aload_n 0, 1) := by decide +kernel
theorem dX0_holdsRightly_4 : decode cX0_holdsRightly 4 = .ok (.getfield 9, 3) := by decide +kernel
theorem dX0_holdsRightly_7 : decode cX0_holdsRightly 7 = .ok (.getfield 44, 3) := by decide +kernel
theorem dX0_holdsRightly_10 : decode cX0_holdsRightly 10 = .ok (.iload_n 1, 1) := by decide +kernel
theorem dX0_holdsRightly_11 : decode cX0_holdsRightly 11 = .ok (.iaload, 1) := by decide +kernel
theorem dX0_holdsRightly_12 : decode cX0_holdsRightly 12 = .ok (.if_icmp .ge 57, 3) := by decide +kernel
theorem dX0_holdsRightly_15 : decode cX0_holdsRightly 15 = .ok (.aload_n 0, 1) := by decide +kernel
theorem dX0_holdsRightly_16 : decode cX0_holdsRightly 16 = .ok (.getfield 9, 3) := by decide +kernel
theorem dX0_holdsRightly_19 : decode cX0_holdsRightly 19 = .ok (.iload_n 1, 1) := by decide +kernel
theorem dX0_holdsRightly_20 : decode cX0_holdsRightly 20 = .ok (.iload_n 2, 1) := by decide +kernel
theorem dX0_holdsRightly_21 : decode cX0_holdsRightly 21 = .ok (.invokevirtual 63, 3) := by decide +kernel
theorem dX0_holdsRightly_24 : decode cX0_holdsRightly 24 = .ok (.istore_n 3, 1) := by decide +kernel
theorem dX0_holdsRightly_25 : decode cX0_holdsRightly 25 = .ok (.aload_n 0, 1) := by decide +kernel
theorem dX0_holdsRightly_26 : decode cX0_holdsRightly 26 = .ok (.getfield 9, 3) := by decide +kernel
theorem dX0_holdsRightly_29 : decode cX0_holdsRightly 29 = .ok (.getfield 39, 3) := by decide +kernel
theorem dX0_holdsRightly_32 : decode cX0_holdsRightly 32 = .ok (.iload_n 3, 1) := by decide +kernel
theorem dX0_holdsRightly_33 : decode cX0_holdsRightly 33 = .ok (.iaload, 1) := by decide +kernel
theorem dX0_holdsRightly_34 : decode cX0_holdsRightly 34 = .ok (.aload_n 0, 1) := by decide +kernel
theorem dX0_holdsRightly_35 : decode cX0_holdsRightly 35 = .ok (.getfield 9, 3) := by decide +kernel
theorem dX0_holdsRightly_38 : decode cX0_holdsRightly 38 = .ok (.getfield 39, 3) := by decide +kernel
theorem dX0_holdsRightly_41 : decode cX0_holdsRightly 41 = .ok (.iload_n 1, 1) := by decide +kernel
theorem dX0_holdsRightly_42 : decode cX0_holdsRightly 42 = .ok (.iaload, 1) := by decide +kernel
theorem dX0_holdsRightly_43 : decode cX0_holdsRightly 43 = .ok (.iconst 1, 1) := by decide +kernel
theorem dX0_holdsRightly_44 : decode cX0_holdsRightly 44 = .ok (.isub, 1) := by decide +kernel
theorem dX0_holdsRightly_45 : decode cX0_holdsRightly 45 = .ok (.if_icmp .ne 16, 3) := by decide +kernel
theorem dX0_holdsRightly_48 : decode cX0_holdsRightly 48 = .ok (.aload_n 0, 1) := by decide +kernel
theorem dX0_holdsRightly_49 : decode cX0_holdsRightly 49 = .ok (.getfield 9, 3) := by decide +kernel
theorem dX0_holdsRightly_52 : decode cX0_holdsRightly 52 = .ok (.getfield 67, 3) := by decide +kernel
theorem dX0_holdsRightly_55 : decode cX0_holdsRightly 55 = .ok (.iload_n 3, 1) := by decide +kernel
theorem dX0_holdsRightly_56 : decode cX0_holdsRightly 56 = .ok (.iaload, 1) := by decide +kernel
theorem dX0_holdsRightly_57 : decode cX0_holdsRightly 57 = .ok (.iload_n 1, 1) := by decide +kernel
theorem dX0_holdsRightly_58 : decode cX0_holdsRightly 58 = .ok (.if_icmp .eq 5, 3) := by decide +kernel
theorem dX0_holdsRightly_61 : decode cX0_holdsRightly 61 = .ok (.iconst 0, 1) := by decide +kernel
theorem dX0_holdsRightly_62 : decode cX0_holdsRightly 62 = .ok (.ireturn, 1) := by decide +kernel
theorem dX0_holdsRightly_63 : decode cX0_holdsRightly 63 = .ok (.iinc 2 1, 3) := by decide +kernel
theorem dX0_holdsRightly_66 : decode cX0_holdsRightly 66 = .ok (.goto (-64), 3) := by decide +kernel
theorem dX0_holdsRightly_69 : decode cX0_holdsRightly 69 = .ok (.iconst 1, 1) := by decide +kernel
theorem dX0_holdsRightly_70 : decode cX0_holdsRightly 70 = .ok (.ireturn, 1) := by decide +kernel
theorem dX0_isTight_0 : decode cX0_isTight 0 = .ok (.aload_n 0, 1) := by decide +kernel
theorem dX0_isTight_1 : decode cX0_isTight 1 = .ok (.getfield 9, 3) := by decide +kernel
theorem dX0_isTight_4 : decode cX0_isTight 4 = .ok (.sipush 805, 3) := by decide +kernel
theorem dX0_isTight_7 : decode cX0_isTight 7 = .ok (.iload_n 1, 1) := by decide +kernel
theorem dX0_isTight_8 : decode cX0_isTight 8 = .ok (.invokevirtual 70, 3) := by decide +kernel
theorem dX0_isTight_11 : decode cX0_isTight 11 = .ok (.aload_n 0, 1) := by decide +kernel
theorem dX0_isTight_12 : decode cX0_isTight 12 = .ok (.getfield 9, 3) := by decide +kernel
theorem dX0_isTight_15 : decode cX0_isTight 15 = .ok (.getfield 44, 3) := by decide +kernel
theorem dX0_isTight_18 : decode cX0_isTight 18 = .ok (.iload_n 1, 1) := by decide +kernel
theorem dX0_isTight_19 : decode cX0_isTight 19 = .ok (.iaload, 1) := by decide +kernel
theorem dX0_isTight_20 : decode cX0_isTight 20 = .ok (.ifCond .eq 17, 3) := by decide +kernel
theorem dX0_isTight_23 : decode cX0_isTight 23 = .ok (.aload_n 0, 1) := by decide +kernel
theorem dX0_isTight_24 : decode cX0_isTight 24 = .ok (.getfield 9, 3) := by decide +kernel
theorem dX0_isTight_27 : decode cX0_isTight 27 = .ok (.sipush 805, 3) := by decide +kernel
theorem dX0_isTight_30 : decode cX0_isTight 30 = .ok (.iload_n 1, 1) := by decide +kernel
theorem dX0_isTight_31 : decode cX0_isTight 31 = .ok (.invokevirtual 74, 3) := by decide +kernel
theorem dX0_isTight_34 : decode cX0_isTight 34 = .ok (.ifCond .eq 7, 3) := by decide +kernel
theorem dX0_isTight_37 : decode cX0_isTight 37 = .ok (.iconst 1, 1) := by decide +kernel
theorem dX0_isTight_38 : decode cX0_isTight 38 = .ok (.goto 4, 3) := by decide +kernel
theorem dX0_isTight_41 : decode cX0_isTight 41 = .ok (.iconst 0, 1) := by decide +kernel
theorem dX0_isTight_42 : decode cX0_isTight 42 = .ok (.ireturn, 1) := by decide +kernel
theorem dX0_noneIsTwice_0 : decode cX0_noneIsTwice 0 = .ok (.iconst 0, 1) := by decide +kernel
theorem dX0_noneIsTwice_1 : decode cX0_noneIsTwice 1 = .ok (.istore_n 1, 1) := by decide +kernel
theorem dX0_noneIsTwice_2 : decode cX0_noneIsTwice 2 = .ok (.iload_n 1, 1) := by decide +kernel
theorem dX0_noneIsTwice_3 : decode cX0_noneIsTwice 3 = .ok (.aload_n 0, 1) := by decide +kernel
theorem dX0_noneIsTwice_4 : decode cX0_noneIsTwice 4 = .ok (.getfield 9, 3) := by decide +kernel
theorem dX0_noneIsTwice_7 : decode cX0_noneIsTwice 7 = .ok (.getfield 78, 3) := by decide +kernel
theorem dX0_noneIsTwice_10 : decode cX0_noneIsTwice 10 = .ok (.if_icmp .ge 66, 3) := by decide +kernel
theorem dX0_noneIsTwice_13 : decode cX0_noneIsTwice 13 = .ok (.iload_n 1, 1) := by decide +kernel
theorem dX0_noneIsTwice_14 : decode cX0_noneIsTwice 14 = .ok (.iconst 1, 1) := by decide +kernel
theorem dX0_noneIsTwice_15 : decode cX0_noneIsTwice 15 = .ok (.iadd, 1) := by decide +kernel
theorem dX0_noneIsTwice_16 : decode cX0_noneIsTwice 16 = .ok (.istore_n 2, 1) := by decide +kernel
theorem dX0_noneIsTwice_17 : decode cX0_noneIsTwice 17 = .ok (.iload_n 2, 1) := by decide +kernel
theorem dX0_noneIsTwice_18 : decode cX0_noneIsTwice 18 = .ok (.aload_n 0, 1) := by decide +kernel
theorem dX0_noneIsTwice_19 : decode cX0_noneIsTwice 19 = .ok (.getfield 9, 3) := by decide +kernel
theorem dX0_noneIsTwice_22 : decode cX0_noneIsTwice 22 = .ok (.getfield 78, 3) := by decide +kernel
theorem dX0_noneIsTwice_25 : decode cX0_noneIsTwice 25 = .ok (.if_icmp .ge 45, 3) := by decide +kernel
theorem dX0_noneIsTwice_28 : decode cX0_noneIsTwice 28 = .ok (.aload_n 0, 1) := by decide +kernel
theorem dX0_noneIsTwice_29 : decode cX0_noneIsTwice 29 = .ok (.getfield 9, 3) := by decide +kernel
theorem dX0_noneIsTwice_32 : decode cX0_noneIsTwice 32 = .ok (.iload_n 1, 1) := by decide +kernel
theorem dX0_noneIsTwice_33 : decode cX0_noneIsTwice 33 = .ok (.invokevirtual 81, 3) := by decide +kernel
theorem dX0_noneIsTwice_36 : decode cX0_noneIsTwice 36 = .ok (.ifCond .eq 28, 3) := by decide +kernel
theorem dX0_noneIsTwice_39 : decode cX0_noneIsTwice 39 = .ok (.aload_n 0, 1) := by decide +kernel
theorem dX0_noneIsTwice_40 : decode cX0_noneIsTwice 40 = .ok (.getfield 9, 3) := by decide +kernel
theorem dX0_noneIsTwice_43 : decode cX0_noneIsTwice 43 = .ok (.iload_n 2, 1) := by decide +kernel
theorem dX0_noneIsTwice_44 : decode cX0_noneIsTwice 44 = .ok (.invokevirtual 81, 3) := by decide +kernel
theorem dX0_noneIsTwice_47 : decode cX0_noneIsTwice 47 = .ok (.ifCond .eq 17, 3) := by decide +kernel
theorem dX0_noneIsTwice_50 : decode cX0_noneIsTwice 50 = .ok (.aload_n 0, 1) := by decide +kernel
theorem dX0_noneIsTwice_51 : decode cX0_noneIsTwice 51 = .ok (.getfield 9, 3) := by decide +kernel
theorem dX0_noneIsTwice_54 : decode cX0_noneIsTwice 54 = .ok (.iload_n 1, 1) := by decide +kernel
theorem dX0_noneIsTwice_55 : decode cX0_noneIsTwice 55 = .ok (.iload_n 2, 1) := by decide +kernel
theorem dX0_noneIsTwice_56 : decode cX0_noneIsTwice 56 = .ok (.invokevirtual 84, 3) := by decide +kernel
theorem dX0_noneIsTwice_59 : decode cX0_noneIsTwice 59 = .ok (.ifCond .eq 5, 3) := by decide +kernel
theorem dX0_noneIsTwice_62 : decode cX0_noneIsTwice 62 = .ok (.iconst 0, 1) := by decide +kernel
theorem dX0_noneIsTwice_63 : decode cX0_noneIsTwice 63 = .ok (.ireturn, 1) := by decide +kernel
theorem dX0_noneIsTwice_64 : decode cX0_noneIsTwice 64 = .ok (.iinc 2 1, 3) := by decide +kernel
theorem dX0_noneIsTwice_67 : decode cX0_noneIsTwice 67 = .ok (.goto (-50), 3) := by decide +kernel
theorem dX0_noneIsTwice_70 : decode cX0_noneIsTwice 70 = .ok (.iinc 1 1, 3) := by decide +kernel
theorem dX0_noneIsTwice_73 : decode cX0_noneIsTwice 73 = .ok (.goto (-71), 3) := by decide +kernel
theorem dX0_noneIsTwice_76 : decode cX0_noneIsTwice 76 = .ok (.iconst 1, 1) := by decide +kernel
theorem dX0_noneIsTwice_77 : decode cX0_noneIsTwice 77 = .ok (.ireturn, 1) := by decide +kernel
theorem dX1_init_0 : decode cX1_init 0 = .ok (.aload_n 0, 1) := by decide +kernel
theorem dX1_init_1 : decode cX1_init 1 = .ok (.invokespecial 3, 3) := by decide +kernel
theorem dX1_init_4 : decode cX1_init 4 = .ok (.aload_n 0, 1) := by decide +kernel
theorem dX1_init_5 : decode cX1_init 5 = .ok (.sipush 400, 3) := by decide +kernel
theorem dX1_init_8 : decode cX1_init 8 = .ok (.newarray .int, 2) := by decide +kernel
theorem dX1_init_10 : decode cX1_init 10 = .ok (.putfield 9, 3) := by decide +kernel
theorem dX1_init_13 : decode cX1_init 13 = .ok (.aload_n 0, 1) := by decide +kernel
theorem dX1_init_14 : decode cX1_init 14 = .ok (.aload_n 1, 1) := by decide +kernel
theorem dX1_init_15 : decode cX1_init 15 = .ok (.putfield 15, 3) := by decide +kernel
theorem dX1_init_18 : decode cX1_init 18 = .ok (.aload_n 0, 1) := by decide +kernel
theorem dX1_init_19 : decode cX1_init 19 = .ok (.aload_n 2, 1) := by decide +kernel
theorem dX1_init_20 : decode cX1_init 20 = .ok (.putfield 19, 3) := by decide +kernel
theorem dX1_init_23 : decode cX1_init 23 = .ok (.return_, 1) := by decide +kernel
theorem dX1_buildAnew_0 : decode cX1_buildAnew 0 = .ok (.aload_n 0, 1) := by decide +kernel
theorem dX1_buildAnew_1 : decode cX1_buildAnew 1 = .ok (.invokevirtual 23, 3) := by decide +kernel
theorem dX1_buildAnew_4 : decode cX1_buildAnew 4 = .ok (.aload_n 0, 1) := by decide +kernel
theorem dX1_buildAnew_5 : decode cX1_buildAnew 5 = .ok (.getfield 26, 3) := by decide +kernel
theorem dX1_buildAnew_8 : decode cX1_buildAnew 8 = .ok (.ifCond .ne 11, 3) := by decide +kernel
theorem dX1_buildAnew_11 : decode cX1_buildAnew 11 = .ok (.aload_n 0, 1) := by decide +kernel
theorem dX1_buildAnew_12 : decode cX1_buildAnew 12 = .ok (.getfield 19, 3) := by decide +kernel
theorem dX1_buildAnew_15 : decode cX1_buildAnew 15 = .ok (.invokevirtual 30, 3) := by decide +kernel
theorem dX1_buildAnew_18 : decode cX1_buildAnew 18 = .ok (.return_, 1) := by decide +kernel
theorem dX1_buildAnew_19 : decode cX1_buildAnew 19 = .ok (.aload_n 0, 1) := by decide +kernel
theorem dX1_buildAnew_20 : decode cX1_buildAnew 20 = .ok (.invokevirtual 35, 3) := by decide +kernel
theorem dX1_buildAnew_23 : decode cX1_buildAnew 23 = .ok (.aload_n 0, 1) := by decide +kernel
theorem dX1_buildAnew_24 : decode cX1_buildAnew 24 = .ok (.getfield 15, 3) := by decide +kernel
theorem dX1_buildAnew_27 : decode cX1_buildAnew 27 = .ok (.invokevirtual 38, 3) := by decide +kernel
theorem dX1_buildAnew_30 : decode cX1_buildAnew 30 = .ok (.iconst 0, 1) := by decide +kernel
theorem dX1_buildAnew_31 : decode cX1_buildAnew 31 = .ok (.istore_n 1, 1) := by decide +kernel
theorem dX1_buildAnew_32 : decode cX1_buildAnew 32 = .ok (.iload_n 1, 1) := by decide +kernel
theorem dX1_buildAnew_33 : decode cX1_buildAnew 33 = .ok (.ifCond .eq 17, 3) := by decide +kernel
theorem dX1_buildAnew_36 : decode cX1_buildAnew 36 = .ok (.aload_n 0, 1) := by decide +kernel
theorem dX1_buildAnew_37 : decode cX1_buildAnew 37 = .ok (.getfield 26, 3) := by decide +kernel
theorem dX1_buildAnew_40 : decode cX1_buildAnew 40 = .ok (.iconst 1, 1) := by decide +kernel
theorem dX1_buildAnew_41 : decode cX1_buildAnew 41 = .ok (.if_icmp .le 20, 3) := by decide +kernel
theorem dX1_buildAnew_44 : decode cX1_buildAnew 44 = .ok (.iload_n 1, 1) := by decide +kernel
theorem dX1_buildAnew_45 : decode cX1_buildAnew 45 = .ok (.bipush 40, 2) := by decide +kernel
theorem dX1_buildAnew_47 : decode cX1_buildAnew 47 = .ok (.if_icmp .ge 14, 3) := by decide +kernel
theorem dX1_buildAnew_50 : decode cX1_buildAnew 50 = .ok (.aload_n 0, 1) := by decide +kernel
theorem dX1_buildAnew_51 : decode cX1_buildAnew 51 = .ok (.iload_n 1, 1) := by decide +kernel
theorem dX1_buildAnew_52 : decode cX1_buildAnew 52 = .ok (.invokevirtual 43, 3) := by decide +kernel
theorem dX1_buildAnew_55 : decode cX1_buildAnew 55 = .ok (.iinc 1 1, 3) := by decide +kernel
theorem dX1_buildAnew_58 : decode cX1_buildAnew 58 = .ok (.goto (-26), 3) := by decide +kernel
theorem dX1_buildAnew_61 : decode cX1_buildAnew 61 = .ok (.aload_n 0, 1) := by decide +kernel
theorem dX1_buildAnew_62 : decode cX1_buildAnew 62 = .ok (.getfield 19, 3) := by decide +kernel
theorem dX1_buildAnew_65 : decode cX1_buildAnew 65 = .ok (.aload_n 0, 1) := by decide +kernel
theorem dX1_buildAnew_66 : decode cX1_buildAnew 66 = .ok (.getfield 9, 3) := by decide +kernel
theorem dX1_buildAnew_69 : decode cX1_buildAnew 69 = .ok (.iconst 0, 1) := by decide +kernel
theorem dX1_buildAnew_70 : decode cX1_buildAnew 70 = .ok (.iaload, 1) := by decide +kernel
theorem dX1_buildAnew_71 : decode cX1_buildAnew 71 = .ok (.putfield 47, 3) := by decide +kernel
theorem dX1_buildAnew_74 : decode cX1_buildAnew 74 = .ok (.return_, 1) := by decide +kernel
theorem dX1_gather_0 : decode cX1_gather 0 = .ok (.aload_n 0, 1) := by decide +kernel
theorem dX1_gather_1 : decode cX1_gather 1 = .ok (.iconst 0, 1) := by decide +kernel
theorem dX1_gather_2 : decode cX1_gather 2 = .ok (.putfield 26, 3) := by decide +kernel
theorem dX1_gather_5 : decode cX1_gather 5 = .ok (.iconst 0, 1) := by decide +kernel
theorem dX1_gather_6 : decode cX1_gather 6 = .ok (.istore_n 1, 1) := by decide +kernel
theorem dX1_gather_7 : decode cX1_gather 7 = .ok (.iload_n 1, 1) := by decide +kernel
theorem dX1_gather_8 : decode cX1_gather 8 = .ok (.aload_n 0, 1) := by decide +kernel
theorem dX1_gather_9 : decode cX1_gather 9 = .ok (.getfield 15, 3) := by decide +kernel
theorem dX1_gather_12 : decode cX1_gather 12 = .ok (.getfield 50, 3) := by decide +kernel
theorem dX1_gather_15 : decode cX1_gather 15 = .ok (.if_icmp .ge 37, 3) := by decide +kernel
theorem dX1_gather_18 : decode cX1_gather 18 = .ok (.aload_n 0, 1) := by decide +kernel
theorem dX1_gather_19 : decode cX1_gather 19 = .ok (.getfield 15, 3) := by decide +kernel
theorem dX1_gather_22 : decode cX1_gather 22 = .ok (.iload_n 1, 1) := by decide +kernel
theorem dX1_gather_23 : decode cX1_gather 23 = .ok (.invokevirtual 53, 3) := by decide +kernel
theorem dX1_gather_26 : decode cX1_gather 26 = .ok (.ifCond .eq 20, 3) := by decide +kernel
theorem dX1_gather_29 : decode cX1_gather 29 = .ok (.aload_n 0, 1) := by decide +kernel
theorem dX1_gather_30 : decode cX1_gather 30 = .ok (.getfield 9, 3) := by decide +kernel
theorem dX1_gather_33 : decode cX1_gather 33 = .ok (.aload_n 0, 1) := by decide +kernel
theorem dX1_gather_34 : decode cX1_gather 34 = .ok (.dup, 1) := by decide +kernel
theorem dX1_gather_35 : decode cX1_gather 35 = .ok (.getfield 26, 3) := by decide +kernel
theorem dX1_gather_38 : decode cX1_gather 38 = .ok (.dup_x1, 1) := by decide +kernel
theorem dX1_gather_39 : decode cX1_gather 39 = .ok (.iconst 1, 1) := by decide +kernel
theorem dX1_gather_40 : decode cX1_gather 40 = .ok (.iadd, 1) := by decide +kernel
theorem dX1_gather_41 : decode cX1_gather 41 = .ok (.putfield 26, 3) := by decide +kernel
theorem dX1_gather_44 : decode cX1_gather 44 = .ok (.iload_n 1, 1) := by decide +kernel
theorem dX1_gather_45 : decode cX1_gather 45 = .ok (.iastore, 1) := by decide +kernel
theorem dX1_gather_46 : decode cX1_gather 46 = .ok (.iinc 1 1, 3) := by decide +kernel
theorem dX1_gather_49 : decode cX1_gather 49 = .ok (.goto (-42), 3) := by decide +kernel
theorem dX1_gather_52 : decode cX1_gather 52 = .ok (.return_, 1) := by decide +kernel
theorem dX1_sortSlices_0 : decode cX1_sortSlices 0 = .ok (.aload_n 0, 1) := by decide +kernel
theorem dX1_sortSlices_1 : decode cX1_sortSlices 1 = .ok (.iconst 0, 1) := by decide +kernel
theorem dX1_sortSlices_2 : decode cX1_sortSlices 2 = .ok (.aload_n 0, 1) := by decide +kernel
theorem dX1_sortSlices_3 : decode cX1_sortSlices 3 = .ok (.getfield 26, 3) := by decide +kernel
theorem dX1_sortSlices_6 : decode cX1_sortSlices 6 = .ok (.iconst 0, 1) := by decide +kernel
theorem dX1_sortSlices_7 : decode cX1_sortSlices 7 = .ok (.invokevirtual 57, 3) := by decide +kernel
theorem dX1_sortSlices_10 : decode cX1_sortSlices 10 = .ok (.aload_n 0, 1) := by decide +kernel
theorem dX1_sortSlices_11 : decode cX1_sortSlices 11 = .ok (.aload_n 0, 1) := by decide +kernel
theorem dX1_sortSlices_12 : decode cX1_sortSlices 12 = .ok (.getfield 26, 3) := by decide +kernel
theorem dX1_sortSlices_15 : decode cX1_sortSlices 15 = .ok (.invokevirtual 61, 3) := by decide +kernel
theorem dX1_sortSlices_18 : decode cX1_sortSlices 18 = .ok (.istore_n 1, 1) := by decide +kernel
theorem dX1_sortSlices_19 : decode cX1_sortSlices 19 = .ok (.iconst 1, 1) := by decide +kernel
theorem dX1_sortSlices_20 : decode cX1_sortSlices 20 = .ok (.istore_n 2, 1) := by decide +kernel
theorem dX1_sortSlices_21 : decode cX1_sortSlices 21 = .ok (.iload_n 2, 1) := by decide +kernel
theorem dX1_sortSlices_22 : decode cX1_sortSlices 22 = .ok (.iload_n 2, 1) := by decide +kernel
theorem dX1_sortSlices_23 : decode cX1_sortSlices 23 = .ok (.imul, 1) := by decide +kernel
theorem dX1_sortSlices_24 : decode cX1_sortSlices 24 = .ok (.iload_n 1, 1) := by decide +kernel
theorem dX1_sortSlices_25 : decode cX1_sortSlices 25 = .ok (.if_icmp .ge 9, 3) := by decide +kernel
theorem dX1_sortSlices_28 : decode cX1_sortSlices 28 = .ok (.iinc 2 1, 3) := by decide +kernel
theorem dX1_sortSlices_31 : decode cX1_sortSlices 31 = .ok (.goto (-10), 3) := by decide +kernel
theorem dX1_sortSlices_34 : decode cX1_sortSlices 34 = .ok (.iload_n 2, 1) := by decide +kernel
theorem dX1_sortSlices_35 : decode cX1_sortSlices 35 = .ok (.aload_n 0, 1) := by decide +kernel
theorem dX1_sortSlices_36 : decode cX1_sortSlices 36 = .ok (.getfield 15, 3) := by decide +kernel
theorem dX1_sortSlices_39 : decode cX1_sortSlices 39 = .ok (.getfield 65, 3) := by decide +kernel
theorem dX1_sortSlices_42 : decode cX1_sortSlices 42 = .ok (.imul, 1) := by decide +kernel
theorem dX1_sortSlices_43 : decode cX1_sortSlices 43 = .ok (.istore_n 3, 1) := by decide +kernel
theorem dX1_sortSlices_44 : decode cX1_sortSlices 44 = .ok (.iconst 0, 1) := by decide +kernel
theorem dX1_sortSlices_45 : decode cX1_sortSlices 45 = .ok (.istore 4, 2) := by decide +kernel
theorem dX1_sortSlices_47 : decode cX1_sortSlices 47 = .ok (.iload 4, 2) := by decide +kernel
theorem dX1_sortSlices_49 : decode cX1_sortSlices 49 = .ok (.iload_n 2, 1) := by decide +kernel
theorem dX1_sortSlices_50 : decode cX1_sortSlices 50 = .ok (.if_icmp .ge 31, 3) := by decide +kernel
theorem dX1_sortSlices_53 : decode cX1_sortSlices 53 = .ok (.aload_n 0, 1) := by decide +kernel
theorem dX1_sortSlices_54 : decode cX1_sortSlices 54 = .ok (.iload 4, 2) := by decide +kernel
theorem dX1_sortSlices_56 : decode cX1_sortSlices 56 = .ok (.iload_n 3, 1) := by decide +kernel
theorem dX1_sortSlices_57 : decode cX1_sortSlices 57 = .ok (.imul, 1) := by decide +kernel
theorem dX1_sortSlices_58 : decode cX1_sortSlices 58 = .ok (.aload_n 0, 1) := by decide +kernel
theorem dX1_sortSlices_59 : decode cX1_sortSlices 59 = .ok (.getfield 26, 3) := by decide +kernel
theorem dX1_sortSlices_62 : decode cX1_sortSlices 62 = .ok (.iload 4, 2) := by decide +kernel
theorem dX1_sortSlices_64 : decode cX1_sortSlices 64 = .ok (.iconst 1, 1) := by decide +kernel
theorem dX1_sortSlices_65 : decode cX1_sortSlices 65 = .ok (.iadd, 1) := by decide +kernel
theorem dX1_sortSlices_66 : decode cX1_sortSlices 66 = .ok (.iload_n 3, 1) := by decide +kernel
theorem dX1_sortSlices_67 : decode cX1_sortSlices 67 = .ok (.imul, 1) := by decide +kernel
theorem dX1_sortSlices_68 : decode cX1_sortSlices 68 = .ok (.invokestatic 68, 3) := by decide +kernel
theorem dX1_sortSlices_71 : decode cX1_sortSlices 71 = .ok (.iconst 1, 1) := by decide +kernel
theorem dX1_sortSlices_72 : decode cX1_sortSlices 72 = .ok (.invokevirtual 57, 3) := by decide +kernel
theorem dX1_sortSlices_75 : decode cX1_sortSlices 75 = .ok (.iinc 4 1, 3) := by decide +kernel
theorem dX1_sortSlices_78 : decode cX1_sortSlices 78 = .ok (.goto (-31), 3) := by decide +kernel
theorem dX1_sortSlices_81 : decode cX1_sortSlices 81 = .ok (.return_, 1) := by decide +kernel
theorem dX1_groupsOf_0 : decode cX1_groupsOf 0 = .ok (.iload_n 1, 1) := by decide +kernel
theorem dX1_groupsOf_1 : decode cX1_groupsOf 1 = .ok (.aload_n 0, 1) := by decide +kernel
theorem dX1_groupsOf_2 : decode cX1_groupsOf 2 = .ok (.getfield 15, 3) := by decide +kernel
theorem dX1_groupsOf_5 : decode cX1_groupsOf 5 = .ok (.getfield 65, 3) := by decide +kernel
theorem dX1_groupsOf_8 : decode cX1_groupsOf 8 = .ok (.iadd, 1) := by decide +kernel
theorem dX1_groupsOf_9 : decode cX1_groupsOf 9 = .ok (.iconst 1, 1) := by decide +kernel
theorem dX1_groupsOf_10 : decode cX1_groupsOf 10 = .ok (.isub, 1) := by decide +kernel
theorem dX1_groupsOf_11 : decode cX1_groupsOf 11 = .ok (.aload_n 0, 1) := by decide +kernel
theorem dX1_groupsOf_12 : decode cX1_groupsOf 12 = .ok (.getfield 15, 3) := by decide +kernel
theorem dX1_groupsOf_15 : decode cX1_groupsOf 15 = .ok (.getfield 65, 3) := by decide +kernel
theorem dX1_groupsOf_18 : decode cX1_groupsOf 18 = .ok (.idiv, 1) := by decide +kernel
theorem dX1_groupsOf_19 : decode cX1_groupsOf 19 = .ok (.ireturn, 1) := by decide +kernel
theorem dX1_sort_0 : decode cX1_sort 0 = .ok (.getstatic 74, 3) := by decide +kernel
theorem dX1_sort_3 : decode cX1_sort 3 = .ok (.astore 4, 2) := by decide +kernel
theorem dX1_sort_5 : decode cX1_sort 5 = .ok (.aload 4, 2) := by decide +kernel
theorem dX1_sort_7 : decode cX1_sort 7 = .ok (.arraylength, 1) := by decide +kernel
theorem dX1_sort_8 : decode cX1_sort 8 = .ok (.istore 5, 2) := by decide +kernel
theorem dX1_sort_10 : decode cX1_sort 10 = .ok (.iconst 0, 1) := by decide +kernel
theorem dX1_sort_11 : decode cX1_sort 11 = .ok (.istore 6, 2) := by decide +kernel
theorem dX1_sort_13 : decode cX1_sort 13 = .ok (.iload 6, 2) := by decide +kernel
theorem dX1_sort_15 : decode cX1_sort 15 = .ok (.iload 5, 2) := by decide +kernel
theorem dX1_sort_17 : decode cX1_sort 17 = .ok (.if_icmp .ge 112, 3) := by decide +kernel
theorem dX1_sort_20 : decode cX1_sort 20 = .ok (.aload 4, 2) := by decide +kernel
theorem dX1_sort_22 : decode cX1_sort 22 = .ok (.iload 6, 2) := by decide +kernel
theorem dX1_sort_24 : decode cX1_sort 24 = .ok (.iaload, 1) := by decide +kernel
theorem dX1_sort_25 : decode cX1_sort 25 = .ok (.istore 7, 2) := by decide +kernel
theorem dX1_sort_27 : decode cX1_sort 27 = .ok (.iload_n 1, 1) := by decide +kernel
theorem dX1_sort_28 : decode cX1_sort 28 = .ok (.iload 7, 2) := by decide +kernel
theorem dX1_sort_30 : decode cX1_sort 30 = .ok (.iadd, 1) := by decide +kernel
theorem dX1_sort_31 : decode cX1_sort 31 = .ok (.istore 8, 2) := by decide +kernel
theorem dX1_sort_33 : decode cX1_sort 33 = .ok (.iload 8, 2) := by decide +kernel
theorem dX1_sort_35 : decode cX1_sort 35 = .ok (.iload_n 2, 1) := by decide +kernel
theorem dX1_sort_36 : decode cX1_sort 36 = .ok (.if_icmp .ge 87, 3) := by decide +kernel
theorem dX1_sort_39 : decode cX1_sort 39 = .ok (.aload_n 0, 1) := by decide +kernel
theorem dX1_sort_40 : decode cX1_sort 40 = .ok (.getfield 9, 3) := by decide +kernel
theorem dX1_sort_43 : decode cX1_sort 43 = .ok (.iload 8, 2) := by decide +kernel
theorem dX1_sort_45 : decode cX1_sort 45 = .ok (.iaload, 1) := by decide +kernel
theorem dX1_sort_46 : decode cX1_sort 46 = .ok (.istore 9, 2) := by decide +kernel
theorem dX1_sort_48 : decode cX1_sort 48 = .ok (.iload 8, 2) := by decide +kernel
theorem dX1_sort_50 : decode cX1_sort 50 = .ok (.istore 10, 2) := by decide +kernel
theorem dX1_sort_52 : decode cX1_sort 52 = .ok (.iload 10, 2) := by decide +kernel
theorem dX1_sort_54 : decode cX1_sort 54 = .ok (.iload 7, 2) := by decide +kernel
theorem dX1_sort_56 : decode cX1_sort 56 = .ok (.isub, 1) := by decide +kernel
theorem dX1_sort_57 : decode cX1_sort 57 = .ok (.iload_n 1, 1) := by decide +kernel
theorem dX1_sort_58 : decode cX1_sort 58 = .ok (.if_icmp .lt 50, 3) := by decide +kernel
theorem dX1_sort_61 : decode cX1_sort 61 = .ok (.aload_n 0, 1) := by decide +kernel
theorem dX1_sort_62 : decode cX1_sort 62 = .ok (.iload 9, 2) := by decide +kernel
theorem dX1_sort_64 : decode cX1_sort 64 = .ok (.aload_n 0, 1) := by decide +kernel
theorem dX1_sort_65 : decode cX1_sort 65 = .ok (.getfield 9, 3) := by decide +kernel
theorem dX1_sort_68 : decode cX1_sort 68 = .ok (.iload 10, 2) := by decide +kernel
theorem dX1_sort_70 : decode cX1_sort 70 = .ok (.iload 7, 2) := by decide +kernel
theorem dX1_sort_72 : decode cX1_sort 72 = .ok (.isub, 1) := by decide +kernel
theorem dX1_sort_73 : decode cX1_sort 73 = .ok (.iaload, 1) := by decide +kernel
theorem dX1_sort_74 : decode cX1_sort 74 = .ok (.iload_n 3, 1) := by decide +kernel
theorem dX1_sort_75 : decode cX1_sort 75 = .ok (.invokevirtual 77, 3) := by decide +kernel
theorem dX1_sort_78 : decode cX1_sort 78 = .ok (.ifCond .ge 30, 3) := by decide +kernel
theorem dX1_sort_81 : decode cX1_sort 81 = .ok (.aload_n 0, 1) := by decide +kernel
theorem dX1_sort_82 : decode cX1_sort 82 = .ok (.getfield 9, 3) := by decide +kernel
theorem dX1_sort_85 : decode cX1_sort 85 = .ok (.iload 10, 2) := by decide +kernel
theorem dX1_sort_87 : decode cX1_sort 87 = .ok (.aload_n 0, 1) := by decide +kernel
theorem dX1_sort_88 : decode cX1_sort 88 = .ok (.getfield 9, 3) := by decide +kernel
theorem dX1_sort_91 : decode cX1_sort 91 = .ok (.iload 10, 2) := by decide +kernel
theorem dX1_sort_93 : decode cX1_sort 93 = .ok (.iload 7, 2) := by decide +kernel
theorem dX1_sort_95 : decode cX1_sort 95 = .ok (.isub, 1) := by decide +kernel
theorem dX1_sort_96 : decode cX1_sort 96 = .ok (.iaload, 1) := by decide +kernel
theorem dX1_sort_97 : decode cX1_sort 97 = .ok (.iastore, 1) := by decide +kernel
theorem dX1_sort_98 : decode cX1_sort 98 = .ok (.iload 10, 2) := by decide +kernel
theorem dX1_sort_100 : decode cX1_sort 100 = .ok (.iload 7, 2) := by decide +kernel
theorem dX1_sort_102 : decode cX1_sort 102 = .ok (.isub, 1) := by decide +kernel
theorem dX1_sort_103 : decode cX1_sort 103 = .ok (.istore 10, 2) := by decide +kernel
theorem dX1_sort_105 : decode cX1_sort 105 = .ok (.goto (-53), 3) := by decide +kernel
theorem dX1_sort_108 : decode cX1_sort 108 = .ok (.aload_n 0, 1) := by decide +kernel
theorem dX1_sort_109 : decode cX1_sort 109 = .ok (.getfield 9, 3) := by decide +kernel
theorem dX1_sort_112 : decode cX1_sort 112 = .ok (.iload 10, 2) := by decide +kernel
theorem dX1_sort_114 : decode cX1_sort 114 = .ok (.iload 9, 2) := by decide +kernel
theorem dX1_sort_116 : decode cX1_sort 116 = .ok (.iastore, 1) := by decide +kernel
theorem dX1_sort_117 : decode cX1_sort 117 = .ok (.iinc 8 1, 3) := by decide +kernel
theorem dX1_sort_120 : decode cX1_sort 120 = .ok (.goto (-87), 3) := by decide +kernel
theorem dX1_sort_123 : decode cX1_sort 123 = .ok (.iinc 6 1, 3) := by decide +kernel
theorem dX1_sort_126 : decode cX1_sort 126 = .ok (.goto (-113), 3) := by decide +kernel
theorem dX1_sort_129 : decode cX1_sort 129 = .ok (.return_, 1) := by decide +kernel
theorem dX1_compare_0 : decode cX1_compare 0 = .ok (.aload_n 0, 1) := by decide +kernel
theorem dX1_compare_1 : decode cX1_compare 1 = .ok (.getfield 15, 3) := by decide +kernel
theorem dX1_compare_4 : decode cX1_compare 4 = .ok (.getfield 81, 3) := by decide +kernel
theorem dX1_compare_7 : decode cX1_compare 7 = .ok (.iload_n 1, 1) := by decide +kernel
theorem dX1_compare_8 : decode cX1_compare 8 = .ok (.iaload, 1) := by decide +kernel
theorem dX1_compare_9 : decode cX1_compare 9 = .ok (.aload_n 0, 1) := by decide +kernel
theorem dX1_compare_10 : decode cX1_compare 10 = .ok (.getfield 15, 3) := by decide +kernel
theorem dX1_compare_13 : decode cX1_compare 13 = .ok (.getfield 84, 3) := by decide +kernel
theorem dX1_compare_16 : decode cX1_compare 16 = .ok (.iload_n 1, 1) := by decide +kernel
theorem dX1_compare_17 : decode cX1_compare 17 = .ok (.iaload, 1) := by decide +kernel
theorem dX1_compare_18 : decode cX1_compare 18 = .ok (.iadd, 1) := by decide +kernel
theorem dX1_compare_19 : decode cX1_compare 19 = .ok (.aload_n 0, 1) := by decide +kernel
theorem dX1_compare_20 : decode cX1_compare 20 = .ok (.getfield 15, 3) := by decide +kernel
theorem dX1_compare_23 : decode cX1_compare 23 = .ok (.getfield 81, 3) := by decide +kernel
theorem dX1_compare_26 : decode cX1_compare 26 = .ok (.iload_n 2, 1) := by decide +kernel
theorem dX1_compare_27 : decode cX1_compare 27 = .ok (.iaload, 1) := by decide +kernel
theorem dX1_compare_28 : decode cX1_compare 28 = .ok (.aload_n 0, 1) := by decide +kernel
theorem dX1_compare_29 : decode cX1_compare 29 = .ok (.getfield 15, 3) := by decide +kernel
theorem dX1_compare_32 : decode cX1_compare 32 = .ok (.getfield 84, 3) := by decide +kernel
theorem dX1_compare_35 : decode cX1_compare 35 = .ok (.iload_n 2, 1) := by decide +kernel
theorem dX1_compare_36 : decode cX1_compare 36 = .ok (.iaload, 1) := by decide +kernel
theorem dX1_compare_37 : decode cX1_compare 37 = .ok (.iadd, 1) := by decide +kernel
theorem dX1_compare_38 : decode cX1_compare 38 = .ok (.invokestatic 87, 3) := by decide +kernel
theorem dX1_compare_41 : decode cX1_compare 41 = .ok (.istore 4, 2) := by decide +kernel
theorem dX1_compare_43 : decode cX1_compare 43 = .ok (.aload_n 0, 1) := by decide +kernel
theorem dX1_compare_44 : decode cX1_compare 44 = .ok (.getfield 15, 3) := by decide +kernel
theorem dX1_compare_47 : decode cX1_compare 47 = .ok (.getfield 91, 3) := by decide +kernel
theorem dX1_compare_50 : decode cX1_compare 50 = .ok (.iload_n 1, 1) := by decide +kernel
theorem dX1_compare_51 : decode cX1_compare 51 = .ok (.iaload, 1) := by decide +kernel
theorem dX1_compare_52 : decode cX1_compare 52 = .ok (.aload_n 0, 1) := by decide +kernel
theorem dX1_compare_53 : decode cX1_compare 53 = .ok (.getfield 15, 3) := by decide +kernel
theorem dX1_compare_56 : decode cX1_compare 56 = .ok (.getfield 94, 3) := by decide +kernel
theorem dX1_compare_59 : decode cX1_compare 59 = .ok (.iload_n 1, 1) := by decide +kernel
theorem dX1_compare_60 : decode cX1_compare 60 = .ok (.iaload, 1) := by decide +kernel
theorem dX1_compare_61 : decode cX1_compare 61 = .ok (.iadd, 1) := by decide +kernel
theorem dX1_compare_62 : decode cX1_compare 62 = .ok (.aload_n 0, 1) := by decide +kernel
theorem dX1_compare_63 : decode cX1_compare 63 = .ok (.getfield 15, 3) := by decide +kernel
theorem dX1_compare_66 : decode cX1_compare 66 = .ok (.getfield 91, 3) := by decide +kernel
theorem dX1_compare_69 : decode cX1_compare 69 = .ok (.iload_n 2, 1) := by decide +kernel
theorem dX1_compare_70 : decode cX1_compare 70 = .ok (.iaload, 1) := by decide +kernel
theorem dX1_compare_71 : decode cX1_compare 71 = .ok (.aload_n 0, 1) := by decide +kernel
theorem dX1_compare_72 : decode cX1_compare 72 = .ok (.getfield 15, 3) := by decide +kernel
theorem dX1_compare_75 : decode cX1_compare 75 = .ok (.getfield 94, 3) := by decide +kernel
theorem dX1_compare_78 : decode cX1_compare 78 = .ok (.iload_n 2, 1) := by decide +kernel
theorem dX1_compare_79 : decode cX1_compare 79 = .ok (.iaload, 1) := by decide +kernel
theorem dX1_compare_80 : decode cX1_compare 80 = .ok (.iadd, 1) := by decide +kernel
theorem dX1_compare_81 : decode cX1_compare 81 = .ok (.invokestatic 87, 3) := by decide +kernel
theorem dX1_compare_84 : decode cX1_compare 84 = .ok (.istore 5, 2) := by decide +kernel
theorem dX1_compare_86 : decode cX1_compare 86 = .ok (.iload_n 3, 1) := by decide +kernel
theorem dX1_compare_87 : decode cX1_compare 87 = .ok (.ifCond .eq 8, 3) := by decide +kernel
theorem dX1_compare_90 : decode cX1_compare 90 = .ok (.iload 5, 2) := by decide +kernel
theorem dX1_compare_92 : decode cX1_compare 92 = .ok (.goto 5, 3) := by decide +kernel
theorem dX1_compare_95 : decode cX1_compare 95 = .ok (.iload 4, 2) := by decide +kernel
theorem dX1_compare_97 : decode cX1_compare 97 = .ok (.istore 6, 2) := by decide +kernel
theorem dX1_compare_99 : decode cX1_compare 99 = .ok (.iload_n 3, 1) := by decide +kernel
theorem dX1_compare_100 : decode cX1_compare 100 = .ok (.ifCond .eq 8, 3) := by decide +kernel
theorem dX1_compare_103 : decode cX1_compare 103 = .ok (.iload 4, 2) := by decide +kernel
theorem dX1_compare_105 : decode cX1_compare 105 = .ok (.goto 5, 3) := by decide +kernel
theorem dX1_compare_108 : decode cX1_compare 108 = .ok (.iload 5, 2) := by decide +kernel
theorem dX1_compare_110 : decode cX1_compare 110 = .ok (.istore 7, 2) := by decide +kernel
theorem dX1_compare_112 : decode cX1_compare 112 = .ok (.iload 6, 2) := by decide +kernel
theorem dX1_compare_114 : decode cX1_compare 114 = .ok (.ifCond .eq 6, 3) := by decide +kernel
theorem dX1_compare_117 : decode cX1_compare 117 = .ok (.iload 6, 2) := by decide +kernel
theorem dX1_compare_119 : decode cX1_compare 119 = .ok (.ireturn, 1) := by decide +kernel
theorem dX1_compare_120 : decode cX1_compare 120 = .ok (.iload 7, 2) := by decide +kernel
theorem dX1_compare_122 : decode cX1_compare 122 = .ok (.ifCond .eq 8, 3) := by decide +kernel
theorem dX1_compare_125 : decode cX1_compare 125 = .ok (.iload 7, 2) := by decide +kernel
theorem dX1_compare_127 : decode cX1_compare 127 = .ok (.goto 12, 3) := by decide +kernel
theorem dX1_compare_130 : decode cX1_compare 130 = .ok (.aload_n 0, 1) := by decide +kernel
theorem dX1_compare_131 : decode cX1_compare 131 = .ok (.getfield 15, 3) := by decide +kernel
theorem dX1_compare_134 : decode cX1_compare 134 = .ok (.iload_n 1, 1) := by decide +kernel
theorem dX1_compare_135 : decode cX1_compare 135 = .ok (.iload_n 2, 1) := by decide +kernel
theorem dX1_compare_136 : decode cX1_compare 136 = .ok (.invokevirtual 97, 3) := by decide +kernel
theorem dX1_compare_139 : decode cX1_compare 139 = .ok (.ireturn, 1) := by decide +kernel
theorem dX1_groupInto_0 : decode cX1_groupInto 0 = .ok (.aload_n 0, 1) := by decide +kernel
theorem dX1_groupInto_1 : decode cX1_groupInto 1 = .ok (.aload_n 0, 1) := by decide +kernel
theorem dX1_groupInto_2 : decode cX1_groupInto 2 = .ok (.getfield 26, 3) := by decide +kernel
theorem dX1_groupInto_5 : decode cX1_groupInto 5 = .ok (.invokevirtual 61, 3) := by decide +kernel
theorem dX1_groupInto_8 : decode cX1_groupInto 8 = .ok (.istore_n 2, 1) := by decide +kernel
theorem dX1_groupInto_9 : decode cX1_groupInto 9 = .ok (.iconst 0, 1) := by decide +kernel
theorem dX1_groupInto_10 : decode cX1_groupInto 10 = .ok (.istore_n 3, 1) := by decide +kernel
theorem dX1_groupInto_11 : decode cX1_groupInto 11 = .ok (.iload_n 3, 1) := by decide +kernel
theorem dX1_groupInto_12 : decode cX1_groupInto 12 = .ok (.iload_n 2, 1) := by decide +kernel
theorem dX1_groupInto_13 : decode cX1_groupInto 13 = .ok (.if_icmp .ge 74, 3) := by decide +kernel
theorem dX1_groupInto_16 : decode cX1_groupInto 16 = .ok (.aload_n 0, 1) := by decide +kernel
theorem dX1_groupInto_17 : decode cX1_groupInto 17 = .ok (.getfield 15, 3) := by decide +kernel
theorem dX1_groupInto_20 : decode cX1_groupInto 20 = .ok (.iload_n 1, 1) := by decide +kernel
theorem dX1_groupInto_21 : decode cX1_groupInto 21 = .ok (.invokevirtual 100, 3) := by decide +kernel
theorem dX1_groupInto_24 : decode cX1_groupInto 24 = .ok (.istore 4, 2) := by decide +kernel
theorem dX1_groupInto_26 : decode cX1_groupInto 26 = .ok (.aload_n 0, 1) := by decide +kernel
theorem dX1_groupInto_27 : decode cX1_groupInto 27 = .ok (.iload_n 3, 1) := by decide +kernel
theorem dX1_groupInto_28 : decode cX1_groupInto 28 = .ok (.iconst 1, 1) := by decide +kernel
theorem dX1_groupInto_29 : decode cX1_groupInto 29 = .ok (.iadd, 1) := by decide +kernel
theorem dX1_groupInto_30 : decode cX1_groupInto 30 = .ok (.iload_n 2, 1) := by decide +kernel
theorem dX1_groupInto_31 : decode cX1_groupInto 31 = .ok (.invokevirtual 103, 3) := by decide +kernel
theorem dX1_groupInto_34 : decode cX1_groupInto 34 = .ok (.istore 5, 2) := by decide +kernel
theorem dX1_groupInto_36 : decode cX1_groupInto 36 = .ok (.aload_n 0, 1) := by decide +kernel
theorem dX1_groupInto_37 : decode cX1_groupInto 37 = .ok (.iload_n 3, 1) := by decide +kernel
theorem dX1_groupInto_38 : decode cX1_groupInto 38 = .ok (.iload_n 2, 1) := by decide +kernel
theorem dX1_groupInto_39 : decode cX1_groupInto 39 = .ok (.invokevirtual 103, 3) := by decide +kernel
theorem dX1_groupInto_42 : decode cX1_groupInto 42 = .ok (.istore 6, 2) := by decide +kernel
theorem dX1_groupInto_44 : decode cX1_groupInto 44 = .ok (.iload 6, 2) := by decide +kernel
theorem dX1_groupInto_46 : decode cX1_groupInto 46 = .ok (.iload 5, 2) := by decide +kernel
theorem dX1_groupInto_48 : decode cX1_groupInto 48 = .ok (.if_icmp .ge 25, 3) := by decide +kernel
theorem dX1_groupInto_51 : decode cX1_groupInto 51 = .ok (.aload_n 0, 1) := by decide +kernel
theorem dX1_groupInto_52 : decode cX1_groupInto 52 = .ok (.getfield 15, 3) := by decide +kernel
theorem dX1_groupInto_55 : decode cX1_groupInto 55 = .ok (.iload 4, 2) := by decide +kernel
theorem dX1_groupInto_57 : decode cX1_groupInto 57 = .ok (.aload_n 0, 1) := by decide +kernel
theorem dX1_groupInto_58 : decode cX1_groupInto 58 = .ok (.getfield 9, 3) := by decide +kernel
theorem dX1_groupInto_61 : decode cX1_groupInto 61 = .ok (.iload 6, 2) := by decide +kernel
theorem dX1_groupInto_63 : decode cX1_groupInto 63 = .ok (.iaload, 1) := by decide +kernel
theorem dX1_groupInto_64 : decode cX1_groupInto 64 = .ok (.invokevirtual 106, 3) := by decide +kernel
theorem dX1_groupInto_67 : decode cX1_groupInto 67 = .ok (.iinc 6 1, 3) := by decide +kernel
theorem dX1_groupInto_70 : decode cX1_groupInto 70 = .ok (.goto (-26), 3) := by decide +kernel
theorem dX1_groupInto_73 : decode cX1_groupInto 73 = .ok (.aload_n 0, 1) := by decide +kernel
theorem dX1_groupInto_74 : decode cX1_groupInto 74 = .ok (.getfield 9, 3) := by decide +kernel
theorem dX1_groupInto_77 : decode cX1_groupInto 77 = .ok (.iload_n 3, 1) := by decide +kernel
theorem dX1_groupInto_78 : decode cX1_groupInto 78 = .ok (.iload 4, 2) := by decide +kernel
theorem dX1_groupInto_80 : decode cX1_groupInto 80 = .ok (.iastore, 1) := by decide +kernel
theorem dX1_groupInto_81 : decode cX1_groupInto 81 = .ok (.iinc 3 1, 3) := by decide +kernel
theorem dX1_groupInto_84 : decode cX1_groupInto 84 = .ok (.goto (-73), 3) := by decide +kernel
theorem dX1_groupInto_87 : decode cX1_groupInto 87 = .ok (.aload_n 0, 1) := by decide +kernel
theorem dX1_groupInto_88 : decode cX1_groupInto 88 = .ok (.iload_n 2, 1) := by decide +kernel
theorem dX1_groupInto_89 : decode cX1_groupInto 89 = .ok (.putfield 26, 3) := by decide +kernel
theorem dX1_groupInto_92 : decode cX1_groupInto 92 = .ok (.return_, 1) := by decide +kernel
theorem dX1_startOf_0 : decode cX1_startOf 0 = .ok (.iload_n 1, 1) := by decide +kernel
theorem dX1_startOf_1 : decode cX1_startOf 1 = .ok (.iload_n 2, 1) := by decide +kernel
theorem dX1_startOf_2 : decode cX1_startOf 2 = .ok (.if_icmp .ne 8, 3) := by decide +kernel
theorem dX1_startOf_5 : decode cX1_startOf 5 = .ok (.aload_n 0, 1) := by decide +kernel
theorem dX1_startOf_6 : decode cX1_startOf 6 = .ok (.getfield 26, 3) := by decide +kernel
theorem dX1_startOf_9 : decode cX1_startOf 9 = .ok (.ireturn, 1) := by decide +kernel
theorem dX1_startOf_10 : decode cX1_startOf 10 = .ok (.iload_n 1, 1) := by decide +kernel
theorem dX1_startOf_11 : decode cX1_startOf 11 = .ok (.aload_n 0, 1) := by decide +kernel
theorem dX1_startOf_12 : decode cX1_startOf 12 = .ok (.getfield 15, 3) := by decide +kernel
theorem dX1_startOf_15 : decode cX1_startOf 15 = .ok (.getfield 65, 3) := by decide +kernel
theorem dX1_startOf_18 : decode cX1_startOf 18 = .ok (.imul, 1) := by decide +kernel
theorem dX1_startOf_19 : decode cX1_startOf 19 = .ok (.istore_n 3, 1) := by decide +kernel
theorem dX1_startOf_20 : decode cX1_startOf 20 = .ok (.iload_n 1, 1) := by decide +kernel
theorem dX1_startOf_21 : decode cX1_startOf 21 = .ok (.ifCond .le 14, 3) := by decide +kernel
theorem dX1_startOf_24 : decode cX1_startOf 24 = .ok (.iload_n 1, 1) := by decide +kernel
theorem dX1_startOf_25 : decode cX1_startOf 25 = .ok (.iload_n 2, 1) := by decide +kernel
theorem dX1_startOf_26 : decode cX1_startOf 26 = .ok (.iconst 1, 1) := by decide +kernel
theorem dX1_startOf_27 : decode cX1_startOf 27 = .ok (.isub, 1) := by decide +kernel
theorem dX1_startOf_28 : decode cX1_startOf 28 = .ok (.if_icmp .ne 7, 3) := by decide +kernel
theorem dX1_startOf_31 : decode cX1_startOf 31 = .ok (.iconst 1, 1) := by decide +kernel
theorem dX1_startOf_32 : decode cX1_startOf 32 = .ok (.goto 4, 3) := by decide +kernel
theorem dX1_startOf_35 : decode cX1_startOf 35 = .ok (.iconst 0, 1) := by decide +kernel
theorem dX1_startOf_36 : decode cX1_startOf 36 = .ok (.istore 4, 2) := by decide +kernel
theorem dX1_startOf_38 : decode cX1_startOf 38 = .ok (.iload 4, 2) := by decide +kernel
theorem dX1_startOf_40 : decode cX1_startOf 40 = .ok (.ifCond .eq 22, 3) := by decide +kernel
theorem dX1_startOf_43 : decode cX1_startOf 43 = .ok (.iload_n 3, 1) := by decide +kernel
theorem dX1_startOf_44 : decode cX1_startOf 44 = .ok (.aload_n 0, 1) := by decide +kernel
theorem dX1_startOf_45 : decode cX1_startOf 45 = .ok (.getfield 26, 3) := by decide +kernel
theorem dX1_startOf_48 : decode cX1_startOf 48 = .ok (.aload_n 0, 1) := by decide +kernel
theorem dX1_startOf_49 : decode cX1_startOf 49 = .ok (.getfield 15, 3) := by decide +kernel
theorem dX1_startOf_52 : decode cX1_startOf 52 = .ok (.getfield 110, 3) := by decide +kernel
theorem dX1_startOf_55 : decode cX1_startOf 55 = .ok (.isub, 1) := by decide +kernel
theorem dX1_startOf_56 : decode cX1_startOf 56 = .ok (.invokestatic 68, 3) := by decide +kernel
theorem dX1_startOf_59 : decode cX1_startOf 59 = .ok (.goto 4, 3) := by decide +kernel
theorem dX1_startOf_62 : decode cX1_startOf 62 = .ok (.iload_n 3, 1) := by decide +kernel
theorem dX1_startOf_63 : decode cX1_startOf 63 = .ok (.ireturn, 1) := by decide +kernel
theorem dX2_init_0 : decode cX2_init 0 = .ok (.aload_n 0, 1) := by decide +kernel
theorem dX2_init_1 : decode cX2_init 1 = .ok (.invokespecial 3, 3) := by decide +kernel
theorem dX2_init_4 : decode cX2_init 4 = .ok (.aload_n 0, 1) := by decide +kernel
theorem dX2_init_5 : decode cX2_init 5 = .ok (.sipush 807, 3) := by decide +kernel
theorem dX2_init_8 : decode cX2_init 8 = .ok (.newarray .int, 2) := by decide +kernel
theorem dX2_init_10 : decode cX2_init 10 = .ok (.putfield 9, 3) := by decide +kernel
theorem dX2_init_13 : decode cX2_init 13 = .ok (.aload_n 0, 1) := by decide +kernel
theorem dX2_init_14 : decode cX2_init 14 = .ok (.sipush 807, 3) := by decide +kernel
theorem dX2_init_17 : decode cX2_init 17 = .ok (.newarray .int, 2) := by decide +kernel
theorem dX2_init_19 : decode cX2_init 19 = .ok (.putfield 15, 3) := by decide +kernel
theorem dX2_init_22 : decode cX2_init 22 = .ok (.aload_n 0, 1) := by decide +kernel
theorem dX2_init_23 : decode cX2_init 23 = .ok (.iconst (-1), 1) := by decide +kernel
theorem dX2_init_24 : decode cX2_init 24 = .ok (.putfield 18, 3) := by decide +kernel
theorem dX2_init_27 : decode cX2_init 27 = .ok (.aload_n 0, 1) := by decide +kernel
theorem dX2_init_28 : decode cX2_init 28 = .ok (.aload_n 1, 1) := by decide +kernel
theorem dX2_init_29 : decode cX2_init 29 = .ok (.putfield 22, 3) := by decide +kernel
theorem dX2_init_32 : decode cX2_init 32 = .ok (.aload_n 0, 1) := by decide +kernel
theorem dX2_init_33 : decode cX2_init 33 = .ok (.aload_n 2, 1) := by decide +kernel
theorem dX2_init_34 : decode cX2_init 34 = .ok (.putfield 26, 3) := by decide +kernel
theorem dX2_init_37 : decode cX2_init 37 = .ok (.return_, 1) := by decide +kernel
theorem dX2_find_0 : decode cX2_find 0 = .ok (.aload_n 0, 1) := by decide +kernel
theorem dX2_find_1 : decode cX2_find 1 = .ok (.iconst 0, 1) := by decide +kernel
theorem dX2_find_2 : decode cX2_find 2 = .ok (.putfield 30, 3) := by decide +kernel
theorem dX2_find_5 : decode cX2_find 5 = .ok (.aload_n 0, 1) := by decide +kernel
theorem dX2_find_6 : decode cX2_find 6 = .ok (.iconst 0, 1) := by decide +kernel
theorem dX2_find_7 : decode cX2_find 7 = .ok (.putfield 33, 3) := by decide +kernel
theorem dX2_find_10 : decode cX2_find 10 = .ok (.aload_n 0, 1) := by decide +kernel
theorem dX2_find_11 : decode cX2_find 11 = .ok (.aload_n 0, 1) := by decide +kernel
theorem dX2_find_12 : decode cX2_find 12 = .ok (.getfield 26, 3) := by decide +kernel
theorem dX2_find_15 : decode cX2_find 15 = .ok (.getfield 36, 3) := by decide +kernel
theorem dX2_find_18 : decode cX2_find 18 = .ok (.iload_n 1, 1) := by decide +kernel
theorem dX2_find_19 : decode cX2_find 19 = .ok (.iload_n 2, 1) := by decide +kernel
theorem dX2_find_20 : decode cX2_find 20 = .ok (.invokevirtual 41, 3) := by decide +kernel
theorem dX2_find_23 : decode cX2_find 23 = .ok (.iconst 0, 1) := by decide +kernel
theorem dX2_find_24 : decode cX2_find 24 = .ok (.istore 4, 2) := by decide +kernel
theorem dX2_find_26 : decode cX2_find 26 = .ok (.iconst 0, 1) := by decide +kernel
theorem dX2_find_27 : decode cX2_find 27 = .ok (.istore 5, 2) := by decide +kernel
theorem dX2_find_29 : decode cX2_find 29 = .ok (.iload 5, 2) := by decide +kernel
theorem dX2_find_31 : decode cX2_find 31 = .ok (.sipush 807, 3) := by decide +kernel
theorem dX2_find_34 : decode cX2_find 34 = .ok (.if_icmp .ge 71, 3) := by decide +kernel
theorem dX2_find_37 : decode cX2_find 37 = .ok (.aload_n 0, 1) := by decide +kernel
theorem dX2_find_38 : decode cX2_find 38 = .ok (.getfield 33, 3) := by decide +kernel
theorem dX2_find_41 : decode cX2_find 41 = .ok (.ifCond .le 64, 3) := by decide +kernel
theorem dX2_find_44 : decode cX2_find 44 = .ok (.aload_n 0, 1) := by decide +kernel
theorem dX2_find_45 : decode cX2_find 45 = .ok (.invokevirtual 45, 3) := by decide +kernel
theorem dX2_find_48 : decode cX2_find 48 = .ok (.istore 6, 2) := by decide +kernel
theorem dX2_find_50 : decode cX2_find 50 = .ok (.aload_n 0, 1) := by decide +kernel
theorem dX2_find_51 : decode cX2_find 51 = .ok (.getfield 22, 3) := by decide +kernel
theorem dX2_find_54 : decode cX2_find 54 = .ok (.iload 6, 2) := by decide +kernel
theorem dX2_find_56 : decode cX2_find 56 = .ok (.invokevirtual 49, 3) := by decide +kernel
theorem dX2_find_59 : decode cX2_find 59 = .ok (.ifCond .ne 14, 3) := by decide +kernel
theorem dX2_find_62 : decode cX2_find 62 = .ok (.aload_n 0, 1) := by decide +kernel
theorem dX2_find_63 : decode cX2_find 63 = .ok (.iload 6, 2) := by decide +kernel
theorem dX2_find_65 : decode cX2_find 65 = .ok (.iload_n 1, 1) := by decide +kernel
theorem dX2_find_66 : decode cX2_find 66 = .ok (.iload_n 2, 1) := by decide +kernel
theorem dX2_find_67 : decode cX2_find 67 = .ok (.invokevirtual 55, 3) := by decide +kernel
theorem dX2_find_70 : decode cX2_find 70 = .ok (.goto 29, 3) := by decide +kernel
theorem dX2_find_73 : decode cX2_find 73 = .ok (.iload 4, 2) := by decide +kernel
theorem dX2_find_75 : decode cX2_find 75 = .ok (.iload_n 3, 1) := by decide +kernel
theorem dX2_find_76 : decode cX2_find 76 = .ok (.if_icmp .ge 9, 3) := by decide +kernel
theorem dX2_find_79 : decode cX2_find 79 = .ok (.iinc 4 1, 3) := by decide +kernel
theorem dX2_find_82 : decode cX2_find 82 = .ok (.goto 17, 3) := by decide +kernel
theorem dX2_find_85 : decode cX2_find 85 = .ok (.aload_n 0, 1) := by decide +kernel
theorem dX2_find_86 : decode cX2_find 86 = .ok (.aload_n 0, 1) := by decide +kernel
theorem dX2_find_87 : decode cX2_find 87 = .ok (.getfield 15, 3) := by decide +kernel
theorem dX2_find_90 : decode cX2_find 90 = .ok (.iload 6, 2) := by decide +kernel
theorem dX2_find_92 : decode cX2_find 92 = .ok (.iaload, 1) := by decide +kernel
theorem dX2_find_93 : decode cX2_find 93 = .ok (.putfield 18, 3) := by decide +kernel
theorem dX2_find_96 : decode cX2_find 96 = .ok (.iload 6, 2) := by decide +kernel
theorem dX2_find_98 : decode cX2_find 98 = .ok (.ireturn, 1) := by decide +kernel
theorem dX2_find_99 : decode cX2_find 99 = .ok (.iinc 5 1, 3) := by decide +kernel
theorem dX2_find_102 : decode cX2_find 102 = .ok (.goto (-73), 3) := by decide +kernel
theorem dX2_find_105 : decode cX2_find 105 = .ok (.iconst (-1), 1) := by decide +kernel
theorem dX2_find_106 : decode cX2_find 106 = .ok (.ireturn, 1) := by decide +kernel
theorem dX2_read_0 : decode cX2_read 0 = .ok (.aload_n 0, 1) := by decide +kernel
theorem dX2_read_1 : decode cX2_read 1 = .ok (.dup, 1) := by decide +kernel
theorem dX2_read_2 : decode cX2_read 2 = .ok (.getfield 30, 3) := by decide +kernel
theorem dX2_read_5 : decode cX2_read 5 = .ok (.iconst 1, 1) := by decide +kernel
theorem dX2_read_6 : decode cX2_read 6 = .ok (.iadd, 1) := by decide +kernel
theorem dX2_read_7 : decode cX2_read 7 = .ok (.putfield 30, 3) := by decide +kernel
theorem dX2_read_10 : decode cX2_read 10 = .ok (.iconst 0, 1) := by decide +kernel
theorem dX2_read_11 : decode cX2_read 11 = .ok (.istore 4, 2) := by decide +kernel
theorem dX2_read_13 : decode cX2_read 13 = .ok (.iload 4, 2) := by decide +kernel
theorem dX2_read_15 : decode cX2_read 15 = .ok (.aload_n 0, 1) := by decide +kernel
theorem dX2_read_16 : decode cX2_read 16 = .ok (.getfield 22, 3) := by decide +kernel
theorem dX2_read_19 : decode cX2_read 19 = .ok (.getfield 58, 3) := by decide +kernel
theorem dX2_read_22 : decode cX2_read 22 = .ok (.iload_n 1, 1) := by decide +kernel
theorem dX2_read_23 : decode cX2_read 23 = .ok (.iaload, 1) := by decide +kernel
theorem dX2_read_24 : decode cX2_read 24 = .ok (.if_icmp .ge 25, 3) := by decide +kernel
theorem dX2_read_27 : decode cX2_read 27 = .ok (.aload_n 0, 1) := by decide +kernel
theorem dX2_read_28 : decode cX2_read 28 = .ok (.aload_n 0, 1) := by decide +kernel
theorem dX2_read_29 : decode cX2_read 29 = .ok (.getfield 22, 3) := by decide +kernel
theorem dX2_read_32 : decode cX2_read 32 = .ok (.iload_n 1, 1) := by decide +kernel
theorem dX2_read_33 : decode cX2_read 33 = .ok (.iload 4, 2) := by decide +kernel
theorem dX2_read_35 : decode cX2_read 35 = .ok (.invokevirtual 61, 3) := by decide +kernel
theorem dX2_read_38 : decode cX2_read 38 = .ok (.iload_n 2, 1) := by decide +kernel
theorem dX2_read_39 : decode cX2_read 39 = .ok (.iload_n 3, 1) := by decide +kernel
theorem dX2_read_40 : decode cX2_read 40 = .ok (.invokevirtual 41, 3) := by decide +kernel
theorem dX2_read_43 : decode cX2_read 43 = .ok (.iinc 4 1, 3) := by decide +kernel
theorem dX2_read_46 : decode cX2_read 46 = .ok (.goto (-33), 3) := by decide +kernel
theorem dX2_read_49 : decode cX2_read 49 = .ok (.return_, 1) := by decide +kernel
theorem dX2_push_0 : decode cX2_push 0 = .ok (.aload_n 0, 1) := by decide +kernel
theorem dX2_push_1 : decode cX2_push 1 = .ok (.getfield 33, 3) := by decide +kernel
theorem dX2_push_4 : decode cX2_push 4 = .ok (.aload_n 0, 1) := by decide +kernel
theorem dX2_push_5 : decode cX2_push 5 = .ok (.getfield 9, 3) := by decide +kernel
theorem dX2_push_8 : decode cX2_push 8 = .ok (.arraylength, 1) := by decide +kernel
theorem dX2_push_9 : decode cX2_push 9 = .ok (.if_icmp .lt 4, 3) := by decide +kernel
theorem dX2_push_12 : decode cX2_push 12 = .ok (.return_, 1) := by decide +kernel
theorem dX2_push_13 : decode cX2_push 13 = .ok (.aload_n 0, 1) := by decide +kernel
theorem dX2_push_14 : decode cX2_push 14 = .ok (.getfield 15, 3) := by decide +kernel
theorem dX2_push_17 : decode cX2_push 17 = .ok (.iload_n 1, 1) := by decide +kernel
theorem dX2_push_18 : decode cX2_push 18 = .ok (.aload_n 0, 1) := by decide +kernel
theorem dX2_push_19 : decode cX2_push 19 = .ok (.getfield 22, 3) := by decide +kernel
theorem dX2_push_22 : decode cX2_push 22 = .ok (.iload_n 1, 1) := by decide +kernel
theorem dX2_push_23 : decode cX2_push 23 = .ok (.iload_n 2, 1) := by decide +kernel
theorem dX2_push_24 : decode cX2_push 24 = .ok (.iload_n 3, 1) := by decide +kernel
theorem dX2_push_25 : decode cX2_push 25 = .ok (.invokevirtual 65, 3) := by decide +kernel
theorem dX2_push_28 : decode cX2_push 28 = .ok (.iastore, 1) := by decide +kernel
theorem dX2_push_29 : decode cX2_push 29 = .ok (.aload_n 0, 1) := by decide +kernel
theorem dX2_push_30 : decode cX2_push 30 = .ok (.dup, 1) := by decide +kernel
theorem dX2_push_31 : decode cX2_push 31 = .ok (.getfield 33, 3) := by decide +kernel
theorem dX2_push_34 : decode cX2_push 34 = .ok (.dup_x1, 1) := by decide +kernel
theorem dX2_push_35 : decode cX2_push 35 = .ok (.iconst 1, 1) := by decide +kernel
theorem dX2_push_36 : decode cX2_push 36 = .ok (.iadd, 1) := by decide +kernel
theorem dX2_push_37 : decode cX2_push 37 = .ok (.putfield 33, 3) := by decide +kernel
theorem dX2_push_40 : decode cX2_push 40 = .ok (.istore 4, 2) := by decide +kernel
theorem dX2_push_42 : decode cX2_push 42 = .ok (.iload 4, 2) := by decide +kernel
theorem dX2_push_44 : decode cX2_push 44 = .ok (.ifCond .le 51, 3) := by decide +kernel
theorem dX2_push_47 : decode cX2_push 47 = .ok (.aload_n 0, 1) := by decide +kernel
theorem dX2_push_48 : decode cX2_push 48 = .ok (.iload_n 1, 1) := by decide +kernel
theorem dX2_push_49 : decode cX2_push 49 = .ok (.aload_n 0, 1) := by decide +kernel
theorem dX2_push_50 : decode cX2_push 50 = .ok (.getfield 9, 3) := by decide +kernel
theorem dX2_push_53 : decode cX2_push 53 = .ok (.iload 4, 2) := by decide +kernel
theorem dX2_push_55 : decode cX2_push 55 = .ok (.iconst 1, 1) := by decide +kernel
theorem dX2_push_56 : decode cX2_push 56 = .ok (.isub, 1) := by decide +kernel
theorem dX2_push_57 : decode cX2_push 57 = .ok (.iconst 2, 1) := by decide +kernel
theorem dX2_push_58 : decode cX2_push 58 = .ok (.idiv, 1) := by decide +kernel
theorem dX2_push_59 : decode cX2_push 59 = .ok (.iaload, 1) := by decide +kernel
theorem dX2_push_60 : decode cX2_push 60 = .ok (.invokevirtual 69, 3) := by decide +kernel
theorem dX2_push_63 : decode cX2_push 63 = .ok (.ifCond .eq 32, 3) := by decide +kernel
theorem dX2_push_66 : decode cX2_push 66 = .ok (.aload_n 0, 1) := by decide +kernel
theorem dX2_push_67 : decode cX2_push 67 = .ok (.getfield 9, 3) := by decide +kernel
theorem dX2_push_70 : decode cX2_push 70 = .ok (.iload 4, 2) := by decide +kernel
theorem dX2_push_72 : decode cX2_push 72 = .ok (.aload_n 0, 1) := by decide +kernel
theorem dX2_push_73 : decode cX2_push 73 = .ok (.getfield 9, 3) := by decide +kernel
theorem dX2_push_76 : decode cX2_push 76 = .ok (.iload 4, 2) := by decide +kernel
theorem dX2_push_78 : decode cX2_push 78 = .ok (.iconst 1, 1) := by decide +kernel
theorem dX2_push_79 : decode cX2_push 79 = .ok (.isub, 1) := by decide +kernel
theorem dX2_push_80 : decode cX2_push 80 = .ok (.iconst 2, 1) := by decide +kernel
theorem dX2_push_81 : decode cX2_push 81 = .ok (.idiv, 1) := by decide +kernel
theorem dX2_push_82 : decode cX2_push 82 = .ok (.iaload, 1) := by decide +kernel
theorem dX2_push_83 : decode cX2_push 83 = .ok (.iastore, 1) := by decide +kernel
theorem dX2_push_84 : decode cX2_push 84 = .ok (.iload 4, 2) := by decide +kernel
theorem dX2_push_86 : decode cX2_push 86 = .ok (.iconst 1, 1) := by decide +kernel
theorem dX2_push_87 : decode cX2_push 87 = .ok (.isub, 1) := by decide +kernel
theorem dX2_push_88 : decode cX2_push 88 = .ok (.iconst 2, 1) := by decide +kernel
theorem dX2_push_89 : decode cX2_push 89 = .ok (.idiv, 1) := by decide +kernel
theorem dX2_push_90 : decode cX2_push 90 = .ok (.istore 4, 2) := by decide +kernel
theorem dX2_push_92 : decode cX2_push 92 = .ok (.goto (-50), 3) := by decide +kernel
theorem dX2_push_95 : decode cX2_push 95 = .ok (.aload_n 0, 1) := by decide +kernel
theorem dX2_push_96 : decode cX2_push 96 = .ok (.getfield 9, 3) := by decide +kernel
theorem dX2_push_99 : decode cX2_push 99 = .ok (.iload 4, 2) := by decide +kernel
theorem dX2_push_101 : decode cX2_push 101 = .ok (.iload_n 1, 1) := by decide +kernel
theorem dX2_push_102 : decode cX2_push 102 = .ok (.iastore, 1) := by decide +kernel
theorem dX2_push_103 : decode cX2_push 103 = .ok (.return_, 1) := by decide +kernel
theorem dX2_pop_0 : decode cX2_pop 0 = .ok (.aload_n 0, 1) := by decide +kernel
theorem dX2_pop_1 : decode cX2_pop 1 = .ok (.getfield 9, 3) := by decide +kernel
theorem dX2_pop_4 : decode cX2_pop 4 = .ok (.iconst 0, 1) := by decide +kernel
theorem dX2_pop_5 : decode cX2_pop 5 = .ok (.iaload, 1) := by decide +kernel
theorem dX2_pop_6 : decode cX2_pop 6 = .ok (.istore_n 1, 1) := by decide +kernel
theorem dX2_pop_7 : decode cX2_pop 7 = .ok (.aload_n 0, 1) := by decide +kernel
theorem dX2_pop_8 : decode cX2_pop 8 = .ok (.dup, 1) := by decide +kernel
theorem dX2_pop_9 : decode cX2_pop 9 = .ok (.getfield 33, 3) := by decide +kernel
theorem dX2_pop_12 : decode cX2_pop 12 = .ok (.iconst 1, 1) := by decide +kernel
theorem dX2_pop_13 : decode cX2_pop 13 = .ok (.isub, 1) := by decide +kernel
theorem dX2_pop_14 : decode cX2_pop 14 = .ok (.putfield 33, 3) := by decide +kernel
theorem dX2_pop_17 : decode cX2_pop 17 = .ok (.aload_n 0, 1) := by decide +kernel
theorem dX2_pop_18 : decode cX2_pop 18 = .ok (.getfield 9, 3) := by decide +kernel
theorem dX2_pop_21 : decode cX2_pop 21 = .ok (.aload_n 0, 1) := by decide +kernel
theorem dX2_pop_22 : decode cX2_pop 22 = .ok (.getfield 33, 3) := by decide +kernel
theorem dX2_pop_25 : decode cX2_pop 25 = .ok (.iaload, 1) := by decide +kernel
theorem dX2_pop_26 : decode cX2_pop 26 = .ok (.istore_n 2, 1) := by decide +kernel
theorem dX2_pop_27 : decode cX2_pop 27 = .ok (.iconst 0, 1) := by decide +kernel
theorem dX2_pop_28 : decode cX2_pop 28 = .ok (.istore_n 3, 1) := by decide +kernel
theorem dX2_pop_29 : decode cX2_pop 29 = .ok (.aload_n 0, 1) := by decide +kernel
theorem dX2_pop_30 : decode cX2_pop 30 = .ok (.iload_n 3, 1) := by decide +kernel
theorem dX2_pop_31 : decode cX2_pop 31 = .ok (.invokevirtual 73, 3) := by decide +kernel
theorem dX2_pop_34 : decode cX2_pop 34 = .ok (.istore 4, 2) := by decide +kernel
theorem dX2_pop_36 : decode cX2_pop 36 = .ok (.iload 4, 2) := by decide +kernel
theorem dX2_pop_38 : decode cX2_pop 38 = .ok (.aload_n 0, 1) := by decide +kernel
theorem dX2_pop_39 : decode cX2_pop 39 = .ok (.getfield 33, 3) := by decide +kernel
theorem dX2_pop_42 : decode cX2_pop 42 = .ok (.if_icmp .ge 44, 3) := by decide +kernel
theorem dX2_pop_45 : decode cX2_pop 45 = .ok (.aload_n 0, 1) := by decide +kernel
theorem dX2_pop_46 : decode cX2_pop 46 = .ok (.aload_n 0, 1) := by decide +kernel
theorem dX2_pop_47 : decode cX2_pop 47 = .ok (.getfield 9, 3) := by decide +kernel
theorem dX2_pop_50 : decode cX2_pop 50 = .ok (.iload 4, 2) := by decide +kernel
theorem dX2_pop_52 : decode cX2_pop 52 = .ok (.iaload, 1) := by decide +kernel
theorem dX2_pop_53 : decode cX2_pop 53 = .ok (.iload_n 2, 1) := by decide +kernel
theorem dX2_pop_54 : decode cX2_pop 54 = .ok (.invokevirtual 69, 3) := by decide +kernel
theorem dX2_pop_57 : decode cX2_pop 57 = .ok (.ifCond .eq 29, 3) := by decide +kernel
theorem dX2_pop_60 : decode cX2_pop 60 = .ok (.aload_n 0, 1) := by decide +kernel
theorem dX2_pop_61 : decode cX2_pop 61 = .ok (.getfield 9, 3) := by decide +kernel
theorem dX2_pop_64 : decode cX2_pop 64 = .ok (.iload_n 3, 1) := by decide +kernel
theorem dX2_pop_65 : decode cX2_pop 65 = .ok (.aload_n 0, 1) := by decide +kernel
theorem dX2_pop_66 : decode cX2_pop 66 = .ok (.getfield 9, 3) := by decide +kernel
theorem dX2_pop_69 : decode cX2_pop 69 = .ok (.iload 4, 2) := by decide +kernel
theorem dX2_pop_71 : decode cX2_pop 71 = .ok (.iaload, 1) := by decide +kernel
theorem dX2_pop_72 : decode cX2_pop 72 = .ok (.iastore, 1) := by decide +kernel
theorem dX2_pop_73 : decode cX2_pop 73 = .ok (.iload 4, 2) := by decide +kernel
theorem dX2_pop_75 : decode cX2_pop 75 = .ok (.istore_n 3, 1) := by decide +kernel
theorem dX2_pop_76 : decode cX2_pop 76 = .ok (.aload_n 0, 1) := by decide +kernel
theorem dX2_pop_77 : decode cX2_pop 77 = .ok (.iload_n 3, 1) := by decide +kernel
theorem dX2_pop_78 : decode cX2_pop 78 = .ok (.invokevirtual 73, 3) := by decide +kernel
theorem dX2_pop_81 : decode cX2_pop 81 = .ok (.istore 4, 2) := by decide +kernel
theorem dX2_pop_83 : decode cX2_pop 83 = .ok (.goto (-47), 3) := by decide +kernel
theorem dX2_pop_86 : decode cX2_pop 86 = .ok (.aload_n 0, 1) := by decide +kernel
theorem dX2_pop_87 : decode cX2_pop 87 = .ok (.getfield 9, 3) := by decide +kernel
theorem dX2_pop_90 : decode cX2_pop 90 = .ok (.iload_n 3, 1) := by decide +kernel
theorem dX2_pop_91 : decode cX2_pop 91 = .ok (.iload_n 2, 1) := by decide +kernel
theorem dX2_pop_92 : decode cX2_pop 92 = .ok (.iastore, 1) := by decide +kernel
theorem dX2_pop_93 : decode cX2_pop 93 = .ok (.iload_n 1, 1) := by decide +kernel
theorem dX2_pop_94 : decode cX2_pop 94 = .ok (.ireturn, 1) := by decide +kernel
theorem dX2_lesserBelow_0 : decode cX2_lesserBelow 0 = .ok (.iconst 2, 1) := by decide +kernel
theorem dX2_lesserBelow_1 : decode cX2_lesserBelow 1 = .ok (.iload_n 1, 1) := by decide +kernel
theorem dX2_lesserBelow_2 : decode cX2_lesserBelow 2 = .ok (.imul, 1) := by decide +kernel
theorem dX2_lesserBelow_3 : decode cX2_lesserBelow 3 = .ok (.iconst 1, 1) := by decide +kernel
theorem dX2_lesserBelow_4 : decode cX2_lesserBelow 4 = .ok (.iadd, 1) := by decide +kernel
theorem dX2_lesserBelow_5 : decode cX2_lesserBelow 5 = .ok (.istore_n 2, 1) := by decide +kernel
theorem dX2_lesserBelow_6 : decode cX2_lesserBelow 6 = .ok (.iload_n 2, 1) := by decide +kernel
theorem dX2_lesserBelow_7 : decode cX2_lesserBelow 7 = .ok (.iconst 1, 1) := by decide +kernel
theorem dX2_lesserBelow_8 : decode cX2_lesserBelow 8 = .ok (.iadd, 1) := by decide +kernel
theorem dX2_lesserBelow_9 : decode cX2_lesserBelow 9 = .ok (.aload_n 0, 1) := by decide +kernel
theorem dX2_lesserBelow_10 : decode cX2_lesserBelow 10 = .ok (.getfield 33, 3) := by decide +kernel
theorem dX2_lesserBelow_13 : decode cX2_lesserBelow 13 = .ok (.if_icmp .ge 28, 3) := by decide +kernel
theorem dX2_lesserBelow_16 : decode cX2_lesserBelow 16 = .ok (.aload_n 0, 1) := by decide +kernel
theorem dX2_lesserBelow_17 : decode cX2_lesserBelow 17 = .ok (.aload_n 0, 1) := by decide +kernel
theorem dX2_lesserBelow_18 : decode cX2_lesserBelow 18 = .ok (.getfield 9, 3) := by decide +kernel
theorem dX2_lesserBelow_21 : decode cX2_lesserBelow 21 = .ok (.iload_n 2, 1) := by decide +kernel
theorem dX2_lesserBelow_22 : decode cX2_lesserBelow 22 = .ok (.iconst 1, 1) := by decide +kernel
theorem dX2_lesserBelow_23 : decode cX2_lesserBelow 23 = .ok (.iadd, 1) := by decide +kernel
theorem dX2_lesserBelow_24 : decode cX2_lesserBelow 24 = .ok (.iaload, 1) := by decide +kernel
theorem dX2_lesserBelow_25 : decode cX2_lesserBelow 25 = .ok (.aload_n 0, 1) := by decide +kernel
theorem dX2_lesserBelow_26 : decode cX2_lesserBelow 26 = .ok (.getfield 9, 3) := by decide +kernel
theorem dX2_lesserBelow_29 : decode cX2_lesserBelow 29 = .ok (.iload_n 2, 1) := by decide +kernel
theorem dX2_lesserBelow_30 : decode cX2_lesserBelow 30 = .ok (.iaload, 1) := by decide +kernel
theorem dX2_lesserBelow_31 : decode cX2_lesserBelow 31 = .ok (.invokevirtual 69, 3) := by decide +kernel
theorem dX2_lesserBelow_34 : decode cX2_lesserBelow 34 = .ok (.ifCond .eq 7, 3) := by decide +kernel
theorem dX2_lesserBelow_37 : decode cX2_lesserBelow 37 = .ok (.iload_n 2, 1) := by decide +kernel
theorem dX2_lesserBelow_38 : decode cX2_lesserBelow 38 = .ok (.iconst 1, 1) := by decide +kernel
theorem dX2_lesserBelow_39 : decode cX2_lesserBelow 39 = .ok (.iadd, 1) := by decide +kernel
theorem dX2_lesserBelow_40 : decode cX2_lesserBelow 40 = .ok (.ireturn, 1) := by decide +kernel
theorem dX2_lesserBelow_41 : decode cX2_lesserBelow 41 = .ok (.iload_n 2, 1) := by decide +kernel
theorem dX2_lesserBelow_42 : decode cX2_lesserBelow 42 = .ok (.ireturn, 1) := by decide +kernel
theorem dX2_isBefore_0 : decode cX2_isBefore 0 = .ok (.aload_n 0, 1) := by decide +kernel
theorem dX2_isBefore_1 : decode cX2_isBefore 1 = .ok (.getfield 15, 3) := by decide +kernel
theorem dX2_isBefore_4 : decode cX2_isBefore 4 = .ok (.iload_n 1, 1) := by decide +kernel
theorem dX2_isBefore_5 : decode cX2_isBefore 5 = .ok (.iaload, 1) := by decide +kernel
theorem dX2_isBefore_6 : decode cX2_isBefore 6 = .ok (.aload_n 0, 1) := by decide +kernel
theorem dX2_isBefore_7 : decode cX2_isBefore 7 = .ok (.getfield 15, 3) := by decide +kernel
theorem dX2_isBefore_10 : decode cX2_isBefore 10 = .ok (.iload_n 2, 1) := by decide +kernel
theorem dX2_isBefore_11 : decode cX2_isBefore 11 = .ok (.iaload, 1) := by decide +kernel
theorem dX2_isBefore_12 : decode cX2_isBefore 12 = .ok (.if_icmp .eq 24, 3) := by decide +kernel
theorem dX2_isBefore_15 : decode cX2_isBefore 15 = .ok (.aload_n 0, 1) := by decide +kernel
theorem dX2_isBefore_16 : decode cX2_isBefore 16 = .ok (.getfield 15, 3) := by decide +kernel
theorem dX2_isBefore_19 : decode cX2_isBefore 19 = .ok (.iload_n 1, 1) := by decide +kernel
theorem dX2_isBefore_20 : decode cX2_isBefore 20 = .ok (.iaload, 1) := by decide +kernel
theorem dX2_isBefore_21 : decode cX2_isBefore 21 = .ok (.aload_n 0, 1) := by decide +kernel
theorem dX2_isBefore_22 : decode cX2_isBefore 22 = .ok (.getfield 15, 3) := by decide +kernel
theorem dX2_isBefore_25 : decode cX2_isBefore 25 = .ok (.iload_n 2, 1) := by decide +kernel
theorem dX2_isBefore_26 : decode cX2_isBefore 26 = .ok (.iaload, 1) := by decide +kernel
theorem dX2_isBefore_27 : decode cX2_isBefore 27 = .ok (.if_icmp .ge 7, 3) := by decide +kernel
theorem dX2_isBefore_30 : decode cX2_isBefore 30 = .ok (.iconst 1, 1) := by decide +kernel
theorem dX2_isBefore_31 : decode cX2_isBefore 31 = .ok (.goto 4, 3) := by decide +kernel
theorem dX2_isBefore_34 : decode cX2_isBefore 34 = .ok (.iconst 0, 1) := by decide +kernel
theorem dX2_isBefore_35 : decode cX2_isBefore 35 = .ok (.ireturn, 1) := by decide +kernel
theorem dX2_isBefore_36 : decode cX2_isBefore 36 = .ok (.aload_n 0, 1) := by decide +kernel
theorem dX2_isBefore_37 : decode cX2_isBefore 37 = .ok (.getfield 22, 3) := by decide +kernel
theorem dX2_isBefore_40 : decode cX2_isBefore 40 = .ok (.iload_n 1, 1) := by decide +kernel
theorem dX2_isBefore_41 : decode cX2_isBefore 41 = .ok (.invokevirtual 49, 3) := by decide +kernel
theorem dX2_isBefore_44 : decode cX2_isBefore 44 = .ok (.aload_n 0, 1) := by decide +kernel
theorem dX2_isBefore_45 : decode cX2_isBefore 45 = .ok (.getfield 22, 3) := by decide +kernel
theorem dX2_isBefore_48 : decode cX2_isBefore 48 = .ok (.iload_n 2, 1) := by decide +kernel
theorem dX2_isBefore_49 : decode cX2_isBefore 49 = .ok (.invokevirtual 49, 3) := by decide +kernel
theorem dX2_isBefore_52 : decode cX2_isBefore 52 = .ok (.if_icmp .eq 12, 3) := by decide +kernel
theorem dX2_isBefore_55 : decode cX2_isBefore 55 = .ok (.aload_n 0, 1) := by decide +kernel
theorem dX2_isBefore_56 : decode cX2_isBefore 56 = .ok (.getfield 22, 3) := by decide +kernel
theorem dX2_isBefore_59 : decode cX2_isBefore 59 = .ok (.iload_n 1, 1) := by decide +kernel
theorem dX2_isBefore_60 : decode cX2_isBefore 60 = .ok (.invokevirtual 49, 3) := by decide +kernel
theorem dX2_isBefore_63 : decode cX2_isBefore 63 = .ok (.ireturn, 1) := by decide +kernel
theorem dX2_isBefore_64 : decode cX2_isBefore 64 = .ok (.aload_n 0, 1) := by decide +kernel
theorem dX2_isBefore_65 : decode cX2_isBefore 65 = .ok (.getfield 22, 3) := by decide +kernel
theorem dX2_isBefore_68 : decode cX2_isBefore 68 = .ok (.iload_n 1, 1) := by decide +kernel
theorem dX2_isBefore_69 : decode cX2_isBefore 69 = .ok (.iload_n 2, 1) := by decide +kernel
theorem dX2_isBefore_70 : decode cX2_isBefore 70 = .ok (.invokevirtual 77, 3) := by decide +kernel
theorem dX2_isBefore_73 : decode cX2_isBefore 73 = .ok (.ifCond .ge 7, 3) := by decide +kernel
theorem dX2_isBefore_76 : decode cX2_isBefore 76 = .ok (.iconst 1, 1) := by decide +kernel
theorem dX2_isBefore_77 : decode cX2_isBefore 77 = .ok (.goto 4, 3) := by decide +kernel
theorem dX2_isBefore_80 : decode cX2_isBefore 80 = .ok (.iconst 0, 1) := by decide +kernel
theorem dX2_isBefore_81 : decode cX2_isBefore 81 = .ok (.ireturn, 1) := by decide +kernel
theorem dX3_init_0 : decode cX3_init 0 = .ok (.aload_n 0, 1) := by decide +kernel
theorem dX3_init_1 : decode cX3_init 1 = .ok (.invokespecial 3, 3) := by decide +kernel
theorem dX3_init_4 : decode cX3_init 4 = .ok (.aload_n 0, 1) := by decide +kernel
theorem dX3_init_5 : decode cX3_init 5 = .ok (.aload_n 1, 1) := by decide +kernel
theorem dX3_init_6 : decode cX3_init 6 = .ok (.putfield 9, 3) := by decide +kernel
theorem dX3_init_9 : decode cX3_init 9 = .ok (.aload_n 0, 1) := by decide +kernel
theorem dX3_init_10 : decode cX3_init 10 = .ok (.aload_n 1, 1) := by decide +kernel
theorem dX3_init_11 : decode cX3_init 11 = .ok (.getfield 15, 3) := by decide +kernel
theorem dX3_init_14 : decode cX3_init 14 = .ok (.newarray .int, 2) := by decide +kernel
theorem dX3_init_16 : decode cX3_init 16 = .ok (.putfield 21, 3) := by decide +kernel
theorem dX3_init_19 : decode cX3_init 19 = .ok (.return_, 1) := by decide +kernel
theorem dX3_share_0 : decode cX3_share 0 = .ok (.aload_n 0, 1) := by decide +kernel
theorem dX3_share_1 : decode cX3_share 1 = .ok (.iload_n 1, 1) := by decide +kernel
theorem dX3_share_2 : decode cX3_share 2 = .ok (.invokevirtual 25, 3) := by decide +kernel
theorem dX3_share_5 : decode cX3_share 5 = .ok (.aload_n 0, 1) := by decide +kernel
theorem dX3_share_6 : decode cX3_share 6 = .ok (.invokevirtual 29, 3) := by decide +kernel
theorem dX3_share_9 : decode cX3_share 9 = .ok (.aload_n 0, 1) := by decide +kernel
theorem dX3_share_10 : decode cX3_share 10 = .ok (.aload_n 0, 1) := by decide +kernel
theorem dX3_share_11 : decode cX3_share 11 = .ok (.getfield 32, 3) := by decide +kernel
theorem dX3_share_14 : decode cX3_share 14 = .ok (.invokevirtual 35, 3) := by decide +kernel
theorem dX3_share_17 : decode cX3_share 17 = .ok (.istore_n 3, 1) := by decide +kernel
theorem dX3_share_18 : decode cX3_share 18 = .ok (.aload_n 0, 1) := by decide +kernel
theorem dX3_share_19 : decode cX3_share 19 = .ok (.getfield 9, 3) := by decide +kernel
theorem dX3_share_22 : decode cX3_share 22 = .ok (.iload_n 1, 1) := by decide +kernel
theorem dX3_share_23 : decode cX3_share 23 = .ok (.aload_n 0, 1) := by decide +kernel
theorem dX3_share_24 : decode cX3_share 24 = .ok (.aload_n 0, 1) := by decide +kernel
theorem dX3_share_25 : decode cX3_share 25 = .ok (.getfield 39, 3) := by decide +kernel
theorem dX3_share_28 : decode cX3_share 28 = .ok (.invokevirtual 35, 3) := by decide +kernel
theorem dX3_share_31 : decode cX3_share 31 = .ok (.invokevirtual 42, 3) := by decide +kernel
theorem dX3_share_34 : decode cX3_share 34 = .ok (.aload_n 0, 1) := by decide +kernel
theorem dX3_share_35 : decode cX3_share 35 = .ok (.getfield 9, 3) := by decide +kernel
theorem dX3_share_38 : decode cX3_share 38 = .ok (.iload_n 2, 1) := by decide +kernel
theorem dX3_share_39 : decode cX3_share 39 = .ok (.iload_n 3, 1) := by decide +kernel
theorem dX3_share_40 : decode cX3_share 40 = .ok (.invokevirtual 42, 3) := by decide +kernel
theorem dX3_share_43 : decode cX3_share 43 = .ok (.iconst 0, 1) := by decide +kernel
theorem dX3_share_44 : decode cX3_share 44 = .ok (.istore 4, 2) := by decide +kernel
theorem dX3_share_46 : decode cX3_share 46 = .ok (.iload 4, 2) := by decide +kernel
theorem dX3_share_48 : decode cX3_share 48 = .ok (.aload_n 0, 1) := by decide +kernel
theorem dX3_share_49 : decode cX3_share 49 = .ok (.getfield 21, 3) := by decide +kernel
theorem dX3_share_52 : decode cX3_share 52 = .ok (.arraylength, 1) := by decide +kernel
theorem dX3_share_53 : decode cX3_share 53 = .ok (.if_icmp .ge 93, 3) := by decide +kernel
theorem dX3_share_56 : decode cX3_share 56 = .ok (.aload_n 0, 1) := by decide +kernel
theorem dX3_share_57 : decode cX3_share 57 = .ok (.getfield 46, 3) := by decide +kernel
theorem dX3_share_60 : decode cX3_share 60 = .ok (.ifCond .le 86, 3) := by decide +kernel
theorem dX3_share_63 : decode cX3_share 63 = .ok (.aload_n 0, 1) := by decide +kernel
theorem dX3_share_64 : decode cX3_share 64 = .ok (.iload_n 1, 1) := by decide +kernel
theorem dX3_share_65 : decode cX3_share 65 = .ok (.invokevirtual 49, 3) := by decide +kernel
theorem dX3_share_68 : decode cX3_share 68 = .ok (.ifCond .eq 19, 3) := by decide +kernel
theorem dX3_share_71 : decode cX3_share 71 = .ok (.aload_n 0, 1) := by decide +kernel
theorem dX3_share_72 : decode cX3_share 72 = .ok (.getfield 9, 3) := by decide +kernel
theorem dX3_share_75 : decode cX3_share 75 = .ok (.iload_n 1, 1) := by decide +kernel
theorem dX3_share_76 : decode cX3_share 76 = .ok (.aload_n 0, 1) := by decide +kernel
theorem dX3_share_77 : decode cX3_share 77 = .ok (.iconst 0, 1) := by decide +kernel
theorem dX3_share_78 : decode cX3_share 78 = .ok (.invokevirtual 35, 3) := by decide +kernel
theorem dX3_share_81 : decode cX3_share 81 = .ok (.invokevirtual 42, 3) := by decide +kernel
theorem dX3_share_84 : decode cX3_share 84 = .ok (.goto 56, 3) := by decide +kernel
theorem dX3_share_87 : decode cX3_share 87 = .ok (.aload_n 0, 1) := by decide +kernel
theorem dX3_share_88 : decode cX3_share 88 = .ok (.iload_n 2, 1) := by decide +kernel
theorem dX3_share_89 : decode cX3_share 89 = .ok (.invokevirtual 49, 3) := by decide +kernel
theorem dX3_share_92 : decode cX3_share 92 = .ok (.ifCond .eq 19, 3) := by decide +kernel
theorem dX3_share_95 : decode cX3_share 95 = .ok (.aload_n 0, 1) := by decide +kernel
theorem dX3_share_96 : decode cX3_share 96 = .ok (.getfield 9, 3) := by decide +kernel
theorem dX3_share_99 : decode cX3_share 99 = .ok (.iload_n 2, 1) := by decide +kernel
theorem dX3_share_100 : decode cX3_share 100 = .ok (.aload_n 0, 1) := by decide +kernel
theorem dX3_share_101 : decode cX3_share 101 = .ok (.iconst 0, 1) := by decide +kernel
theorem dX3_share_102 : decode cX3_share 102 = .ok (.invokevirtual 35, 3) := by decide +kernel
theorem dX3_share_105 : decode cX3_share 105 = .ok (.invokevirtual 42, 3) := by decide +kernel
theorem dX3_share_108 : decode cX3_share 108 = .ok (.goto 32, 3) := by decide +kernel
theorem dX3_share_111 : decode cX3_share 111 = .ok (.aload_n 0, 1) := by decide +kernel
theorem dX3_share_112 : decode cX3_share 112 = .ok (.aload_n 0, 1) := by decide +kernel
theorem dX3_share_113 : decode cX3_share 113 = .ok (.iload_n 1, 1) := by decide +kernel
theorem dX3_share_114 : decode cX3_share 114 = .ok (.iload_n 2, 1) := by decide +kernel
theorem dX3_share_115 : decode cX3_share 115 = .ok (.invokevirtual 53, 3) := by decide +kernel
theorem dX3_share_118 : decode cX3_share 118 = .ok (.invokevirtual 35, 3) := by decide +kernel
theorem dX3_share_121 : decode cX3_share 121 = .ok (.istore 5, 2) := by decide +kernel
theorem dX3_share_123 : decode cX3_share 123 = .ok (.aload_n 0, 1) := by decide +kernel
theorem dX3_share_124 : decode cX3_share 124 = .ok (.getfield 9, 3) := by decide +kernel
theorem dX3_share_127 : decode cX3_share 127 = .ok (.aload_n 0, 1) := by decide +kernel
theorem dX3_share_128 : decode cX3_share 128 = .ok (.iload 5, 2) := by decide +kernel
theorem dX3_share_130 : decode cX3_share 130 = .ok (.iload_n 1, 1) := by decide +kernel
theorem dX3_share_131 : decode cX3_share 131 = .ok (.iload_n 2, 1) := by decide +kernel
theorem dX3_share_132 : decode cX3_share 132 = .ok (.invokevirtual 57, 3) := by decide +kernel
theorem dX3_share_135 : decode cX3_share 135 = .ok (.iload 5, 2) := by decide +kernel
theorem dX3_share_137 : decode cX3_share 137 = .ok (.invokevirtual 42, 3) := by decide +kernel
theorem dX3_share_140 : decode cX3_share 140 = .ok (.iinc 4 1, 3) := by decide +kernel
theorem dX3_share_143 : decode cX3_share 143 = .ok (.goto (-97), 3) := by decide +kernel
theorem dX3_share_146 : decode cX3_share 146 = .ok (.return_, 1) := by decide +kernel
theorem dX3_pourOut_0 : decode cX3_pourOut 0 = .ok (.aload_n 0, 1) := by decide +kernel
theorem dX3_pourOut_1 : decode cX3_pourOut 1 = .ok (.aload_n 0, 1) := by decide +kernel
theorem dX3_pourOut_2 : decode cX3_pourOut 2 = .ok (.getfield 9, 3) := by decide +kernel
theorem dX3_pourOut_5 : decode cX3_pourOut 5 = .ok (.getfield 61, 3) := by decide +kernel
theorem dX3_pourOut_8 : decode cX3_pourOut 8 = .ok (.iload_n 1, 1) := by decide +kernel
theorem dX3_pourOut_9 : decode cX3_pourOut 9 = .ok (.iaload, 1) := by decide +kernel
theorem dX3_pourOut_10 : decode cX3_pourOut 10 = .ok (.aload_n 0, 1) := by decide +kernel
theorem dX3_pourOut_11 : decode cX3_pourOut 11 = .ok (.getfield 21, 3) := by decide +kernel
theorem dX3_pourOut_14 : decode cX3_pourOut 14 = .ok (.arraylength, 1) := by decide +kernel
theorem dX3_pourOut_15 : decode cX3_pourOut 15 = .ok (.invokestatic 64, 3) := by decide +kernel
theorem dX3_pourOut_18 : decode cX3_pourOut 18 = .ok (.putfield 46, 3) := by decide +kernel
theorem dX3_pourOut_21 : decode cX3_pourOut 21 = .ok (.iconst 0, 1) := by decide +kernel
theorem dX3_pourOut_22 : decode cX3_pourOut 22 = .ok (.istore_n 2, 1) := by decide +kernel
theorem dX3_pourOut_23 : decode cX3_pourOut 23 = .ok (.iload_n 2, 1) := by decide +kernel
theorem dX3_pourOut_24 : decode cX3_pourOut 24 = .ok (.aload_n 0, 1) := by decide +kernel
theorem dX3_pourOut_25 : decode cX3_pourOut 25 = .ok (.getfield 46, 3) := by decide +kernel
theorem dX3_pourOut_28 : decode cX3_pourOut 28 = .ok (.if_icmp .ge 24, 3) := by decide +kernel
theorem dX3_pourOut_31 : decode cX3_pourOut 31 = .ok (.aload_n 0, 1) := by decide +kernel
theorem dX3_pourOut_32 : decode cX3_pourOut 32 = .ok (.getfield 21, 3) := by decide +kernel
theorem dX3_pourOut_35 : decode cX3_pourOut 35 = .ok (.iload_n 2, 1) := by decide +kernel
theorem dX3_pourOut_36 : decode cX3_pourOut 36 = .ok (.aload_n 0, 1) := by decide +kernel
theorem dX3_pourOut_37 : decode cX3_pourOut 37 = .ok (.getfield 9, 3) := by decide +kernel
theorem dX3_pourOut_40 : decode cX3_pourOut 40 = .ok (.iload_n 1, 1) := by decide +kernel
theorem dX3_pourOut_41 : decode cX3_pourOut 41 = .ok (.iload_n 2, 1) := by decide +kernel
theorem dX3_pourOut_42 : decode cX3_pourOut 42 = .ok (.invokevirtual 69, 3) := by decide +kernel
theorem dX3_pourOut_45 : decode cX3_pourOut 45 = .ok (.iastore, 1) := by decide +kernel
theorem dX3_pourOut_46 : decode cX3_pourOut 46 = .ok (.iinc 2 1, 3) := by decide +kernel
theorem dX3_pourOut_49 : decode cX3_pourOut 49 = .ok (.goto (-26), 3) := by decide +kernel
theorem dX3_pourOut_52 : decode cX3_pourOut 52 = .ok (.aload_n 0, 1) := by decide +kernel
theorem dX3_pourOut_53 : decode cX3_pourOut 53 = .ok (.getfield 9, 3) := by decide +kernel
theorem dX3_pourOut_56 : decode cX3_pourOut 56 = .ok (.getfield 61, 3) := by decide +kernel
theorem dX3_pourOut_59 : decode cX3_pourOut 59 = .ok (.iload_n 1, 1) := by decide +kernel
theorem dX3_pourOut_60 : decode cX3_pourOut 60 = .ok (.iconst 0, 1) := by decide +kernel
theorem dX3_pourOut_61 : decode cX3_pourOut 61 = .ok (.iastore, 1) := by decide +kernel
theorem dX3_pourOut_62 : decode cX3_pourOut 62 = .ok (.return_, 1) := by decide +kernel
theorem dX3_findSeeds_0 : decode cX3_findSeeds 0 = .ok (.ldc 74, 2) := by decide +kernel
theorem dX3_findSeeds_2 : decode cX3_findSeeds 2 = .ok (.istore_n 1, 1) := by decide +kernel
theorem dX3_findSeeds_3 : decode cX3_findSeeds 3 = .ok (.iconst 0, 1) := by decide +kernel
theorem dX3_findSeeds_4 : decode cX3_findSeeds 4 = .ok (.istore_n 2, 1) := by decide +kernel
theorem dX3_findSeeds_5 : decode cX3_findSeeds 5 = .ok (.iload_n 2, 1) := by decide +kernel
theorem dX3_findSeeds_6 : decode cX3_findSeeds 6 = .ok (.aload_n 0, 1) := by decide +kernel
theorem dX3_findSeeds_7 : decode cX3_findSeeds 7 = .ok (.getfield 46, 3) := by decide +kernel
theorem dX3_findSeeds_10 : decode cX3_findSeeds 10 = .ok (.if_icmp .ge 81, 3) := by decide +kernel
theorem dX3_findSeeds_13 : decode cX3_findSeeds 13 = .ok (.iload_n 2, 1) := by decide +kernel
theorem dX3_findSeeds_14 : decode cX3_findSeeds 14 = .ok (.iconst 1, 1) := by decide +kernel
theorem dX3_findSeeds_15 : decode cX3_findSeeds 15 = .ok (.iadd, 1) := by decide +kernel
theorem dX3_findSeeds_16 : decode cX3_findSeeds 16 = .ok (.istore_n 3, 1) := by decide +kernel
theorem dX3_findSeeds_17 : decode cX3_findSeeds 17 = .ok (.iload_n 3, 1) := by decide +kernel
theorem dX3_findSeeds_18 : decode cX3_findSeeds 18 = .ok (.aload_n 0, 1) := by decide +kernel
theorem dX3_findSeeds_19 : decode cX3_findSeeds 19 = .ok (.getfield 46, 3) := by decide +kernel
theorem dX3_findSeeds_22 : decode cX3_findSeeds 22 = .ok (.if_icmp .ge 63, 3) := by decide +kernel
theorem dX3_findSeeds_25 : decode cX3_findSeeds 25 = .ok (.aload_n 0, 1) := by decide +kernel
theorem dX3_findSeeds_26 : decode cX3_findSeeds 26 = .ok (.getfield 9, 3) := by decide +kernel
theorem dX3_findSeeds_29 : decode cX3_findSeeds 29 = .ok (.aload_n 0, 1) := by decide +kernel
theorem dX3_findSeeds_30 : decode cX3_findSeeds 30 = .ok (.getfield 21, 3) := by decide +kernel
theorem dX3_findSeeds_33 : decode cX3_findSeeds 33 = .ok (.iload_n 2, 1) := by decide +kernel
theorem dX3_findSeeds_34 : decode cX3_findSeeds 34 = .ok (.iaload, 1) := by decide +kernel
theorem dX3_findSeeds_35 : decode cX3_findSeeds 35 = .ok (.aload_n 0, 1) := by decide +kernel
theorem dX3_findSeeds_36 : decode cX3_findSeeds 36 = .ok (.getfield 21, 3) := by decide +kernel
theorem dX3_findSeeds_39 : decode cX3_findSeeds 39 = .ok (.iload_n 3, 1) := by decide +kernel
theorem dX3_findSeeds_40 : decode cX3_findSeeds 40 = .ok (.iaload, 1) := by decide +kernel
theorem dX3_findSeeds_41 : decode cX3_findSeeds 41 = .ok (.invokevirtual 75, 3) := by decide +kernel
theorem dX3_findSeeds_44 : decode cX3_findSeeds 44 = .ok (.aload_n 0, 1) := by decide +kernel
theorem dX3_findSeeds_45 : decode cX3_findSeeds 45 = .ok (.getfield 9, 3) := by decide +kernel
theorem dX3_findSeeds_48 : decode cX3_findSeeds 48 = .ok (.aload_n 0, 1) := by decide +kernel
theorem dX3_findSeeds_49 : decode cX3_findSeeds 49 = .ok (.getfield 21, 3) := by decide +kernel
theorem dX3_findSeeds_52 : decode cX3_findSeeds 52 = .ok (.iload_n 3, 1) := by decide +kernel
theorem dX3_findSeeds_53 : decode cX3_findSeeds 53 = .ok (.iaload, 1) := by decide +kernel
theorem dX3_findSeeds_54 : decode cX3_findSeeds 54 = .ok (.invokevirtual 78, 3) := by decide +kernel
theorem dX3_findSeeds_57 : decode cX3_findSeeds 57 = .ok (.isub, 1) := by decide +kernel
theorem dX3_findSeeds_58 : decode cX3_findSeeds 58 = .ok (.istore 4, 2) := by decide +kernel
theorem dX3_findSeeds_60 : decode cX3_findSeeds 60 = .ok (.iload 4, 2) := by decide +kernel
theorem dX3_findSeeds_62 : decode cX3_findSeeds 62 = .ok (.iload_n 1, 1) := by decide +kernel
theorem dX3_findSeeds_63 : decode cX3_findSeeds 63 = .ok (.if_icmp .le 16, 3) := by decide +kernel
theorem dX3_findSeeds_66 : decode cX3_findSeeds 66 = .ok (.iload 4, 2) := by decide +kernel
theorem dX3_findSeeds_68 : decode cX3_findSeeds 68 = .ok (.istore_n 1, 1) := by decide +kernel
theorem dX3_findSeeds_69 : decode cX3_findSeeds 69 = .ok (.aload_n 0, 1) := by decide +kernel
theorem dX3_findSeeds_70 : decode cX3_findSeeds 70 = .ok (.iload_n 2, 1) := by decide +kernel
theorem dX3_findSeeds_71 : decode cX3_findSeeds 71 = .ok (.putfield 39, 3) := by decide +kernel
theorem dX3_findSeeds_74 : decode cX3_findSeeds 74 = .ok (.aload_n 0, 1) := by decide +kernel
theorem dX3_findSeeds_75 : decode cX3_findSeeds 75 = .ok (.iload_n 3, 1) := by decide +kernel
theorem dX3_findSeeds_76 : decode cX3_findSeeds 76 = .ok (.putfield 32, 3) := by decide +kernel
theorem dX3_findSeeds_79 : decode cX3_findSeeds 79 = .ok (.iinc 3 1, 3) := by decide +kernel
theorem dX3_findSeeds_82 : decode cX3_findSeeds 82 = .ok (.goto (-65), 3) := by decide +kernel
theorem dX3_findSeeds_85 : decode cX3_findSeeds 85 = .ok (.iinc 2 1, 3) := by decide +kernel
theorem dX3_findSeeds_88 : decode cX3_findSeeds 88 = .ok (.goto (-83), 3) := by decide +kernel
theorem dX3_findSeeds_91 : decode cX3_findSeeds 91 = .ok (.return_, 1) := by decide +kernel
theorem dX3_takeLeft_0 : decode cX3_takeLeft 0 = .ok (.iload_n 1, 1) := by decide +kernel
theorem dX3_takeLeft_1 : decode cX3_takeLeft 1 = .ok (.ifCond .lt 11, 3) := by decide +kernel
theorem dX3_takeLeft_4 : decode cX3_takeLeft 4 = .ok (.iload_n 1, 1) := by decide +kernel
theorem dX3_takeLeft_5 : decode cX3_takeLeft 5 = .ok (.aload_n 0, 1) := by decide +kernel
theorem dX3_takeLeft_6 : decode cX3_takeLeft 6 = .ok (.getfield 46, 3) := by decide +kernel
theorem dX3_takeLeft_9 : decode cX3_takeLeft 9 = .ok (.if_icmp .lt 7, 3) := by decide +kernel
theorem dX3_takeLeft_12 : decode cX3_takeLeft 12 = .ok (.sipush 806, 3) := by decide +kernel
theorem dX3_takeLeft_15 : decode cX3_takeLeft 15 = .ok (.ireturn, 1) := by decide +kernel
theorem dX3_takeLeft_16 : decode cX3_takeLeft 16 = .ok (.aload_n 0, 1) := by decide +kernel
theorem dX3_takeLeft_17 : decode cX3_takeLeft 17 = .ok (.getfield 21, 3) := by decide +kernel
theorem dX3_takeLeft_20 : decode cX3_takeLeft 20 = .ok (.iload_n 1, 1) := by decide +kernel
theorem dX3_takeLeft_21 : decode cX3_takeLeft 21 = .ok (.iaload, 1) := by decide +kernel
theorem dX3_takeLeft_22 : decode cX3_takeLeft 22 = .ok (.istore_n 2, 1) := by decide +kernel
theorem dX3_takeLeft_23 : decode cX3_takeLeft 23 = .ok (.aload_n 0, 1) := by decide +kernel
theorem dX3_takeLeft_24 : decode cX3_takeLeft 24 = .ok (.dup, 1) := by decide +kernel
theorem dX3_takeLeft_25 : decode cX3_takeLeft 25 = .ok (.getfield 46, 3) := by decide +kernel
theorem dX3_takeLeft_28 : decode cX3_takeLeft 28 = .ok (.iconst 1, 1) := by decide +kernel
theorem dX3_takeLeft_29 : decode cX3_takeLeft 29 = .ok (.isub, 1) := by decide +kernel
theorem dX3_takeLeft_30 : decode cX3_takeLeft 30 = .ok (.putfield 46, 3) := by decide +kernel
theorem dX3_takeLeft_33 : decode cX3_takeLeft 33 = .ok (.iload_n 1, 1) := by decide +kernel
theorem dX3_takeLeft_34 : decode cX3_takeLeft 34 = .ok (.istore_n 3, 1) := by decide +kernel
theorem dX3_takeLeft_35 : decode cX3_takeLeft 35 = .ok (.iload_n 3, 1) := by decide +kernel
theorem dX3_takeLeft_36 : decode cX3_takeLeft 36 = .ok (.aload_n 0, 1) := by decide +kernel
theorem dX3_takeLeft_37 : decode cX3_takeLeft 37 = .ok (.getfield 46, 3) := by decide +kernel
theorem dX3_takeLeft_40 : decode cX3_takeLeft 40 = .ok (.if_icmp .ge 23, 3) := by decide +kernel
theorem dX3_takeLeft_43 : decode cX3_takeLeft 43 = .ok (.aload_n 0, 1) := by decide +kernel
theorem dX3_takeLeft_44 : decode cX3_takeLeft 44 = .ok (.getfield 21, 3) := by decide +kernel
theorem dX3_takeLeft_47 : decode cX3_takeLeft 47 = .ok (.iload_n 3, 1) := by decide +kernel
theorem dX3_takeLeft_48 : decode cX3_takeLeft 48 = .ok (.aload_n 0, 1) := by decide +kernel
theorem dX3_takeLeft_49 : decode cX3_takeLeft 49 = .ok (.getfield 21, 3) := by decide +kernel
theorem dX3_takeLeft_52 : decode cX3_takeLeft 52 = .ok (.iload_n 3, 1) := by decide +kernel
theorem dX3_takeLeft_53 : decode cX3_takeLeft 53 = .ok (.iconst 1, 1) := by decide +kernel
theorem dX3_takeLeft_54 : decode cX3_takeLeft 54 = .ok (.iadd, 1) := by decide +kernel
theorem dX3_takeLeft_55 : decode cX3_takeLeft 55 = .ok (.iaload, 1) := by decide +kernel
theorem dX3_takeLeft_56 : decode cX3_takeLeft 56 = .ok (.iastore, 1) := by decide +kernel
theorem dX3_takeLeft_57 : decode cX3_takeLeft 57 = .ok (.iinc 3 1, 3) := by decide +kernel
theorem dX3_takeLeft_60 : decode cX3_takeLeft 60 = .ok (.goto (-25), 3) := by decide +kernel
theorem dX3_takeLeft_63 : decode cX3_takeLeft 63 = .ok (.iload_n 2, 1) := by decide +kernel
theorem dX3_takeLeft_64 : decode cX3_takeLeft 64 = .ok (.ireturn, 1) := by decide +kernel
theorem dX3_needsAll_0 : decode cX3_needsAll 0 = .ok (.aload_n 0, 1) := by decide +kernel
theorem dX3_needsAll_1 : decode cX3_needsAll 1 = .ok (.getfield 9, 3) := by decide +kernel
theorem dX3_needsAll_4 : decode cX3_needsAll 4 = .ok (.getfield 61, 3) := by decide +kernel
theorem dX3_needsAll_7 : decode cX3_needsAll 7 = .ok (.iload_n 1, 1) := by decide +kernel
theorem dX3_needsAll_8 : decode cX3_needsAll 8 = .ok (.iaload, 1) := by decide +kernel
theorem dX3_needsAll_9 : decode cX3_needsAll 9 = .ok (.aload_n 0, 1) := by decide +kernel
theorem dX3_needsAll_10 : decode cX3_needsAll 10 = .ok (.getfield 46, 3) := by decide +kernel
theorem dX3_needsAll_13 : decode cX3_needsAll 13 = .ok (.iadd, 1) := by decide +kernel
theorem dX3_needsAll_14 : decode cX3_needsAll 14 = .ok (.aload_n 0, 1) := by decide +kernel
theorem dX3_needsAll_15 : decode cX3_needsAll 15 = .ok (.getfield 9, 3) := by decide +kernel
theorem dX3_needsAll_18 : decode cX3_needsAll 18 = .ok (.getfield 81, 3) := by decide +kernel
theorem dX3_needsAll_21 : decode cX3_needsAll 21 = .ok (.if_icmp .gt 7, 3) := by decide +kernel
theorem dX3_needsAll_24 : decode cX3_needsAll 24 = .ok (.iconst 1, 1) := by decide +kernel
theorem dX3_needsAll_25 : decode cX3_needsAll 25 = .ok (.goto 4, 3) := by decide +kernel
theorem dX3_needsAll_28 : decode cX3_needsAll 28 = .ok (.iconst 0, 1) := by decide +kernel
theorem dX3_needsAll_29 : decode cX3_needsAll 29 = .ok (.ireturn, 1) := by decide +kernel
theorem dX3_mostDecided_0 : decode cX3_mostDecided 0 = .ok (.iconst 0, 1) := by decide +kernel
theorem dX3_mostDecided_1 : decode cX3_mostDecided 1 = .ok (.istore_n 3, 1) := by decide +kernel
theorem dX3_mostDecided_2 : decode cX3_mostDecided 2 = .ok (.iconst (-1), 1) := by decide +kernel
theorem dX3_mostDecided_3 : decode cX3_mostDecided 3 = .ok (.istore 4, 2) := by decide +kernel
theorem dX3_mostDecided_5 : decode cX3_mostDecided 5 = .ok (.iconst 0, 1) := by decide +kernel
theorem dX3_mostDecided_6 : decode cX3_mostDecided 6 = .ok (.istore 5, 2) := by decide +kernel
theorem dX3_mostDecided_8 : decode cX3_mostDecided 8 = .ok (.iload 5, 2) := by decide +kernel
theorem dX3_mostDecided_10 : decode cX3_mostDecided 10 = .ok (.aload_n 0, 1) := by decide +kernel
theorem dX3_mostDecided_11 : decode cX3_mostDecided 11 = .ok (.getfield 46, 3) := by decide +kernel
theorem dX3_mostDecided_14 : decode cX3_mostDecided 14 = .ok (.if_icmp .ge 59, 3) := by decide +kernel
theorem dX3_mostDecided_17 : decode cX3_mostDecided 17 = .ok (.aload_n 0, 1) := by decide +kernel
theorem dX3_mostDecided_18 : decode cX3_mostDecided 18 = .ok (.getfield 9, 3) := by decide +kernel
theorem dX3_mostDecided_21 : decode cX3_mostDecided 21 = .ok (.iload_n 1, 1) := by decide +kernel
theorem dX3_mostDecided_22 : decode cX3_mostDecided 22 = .ok (.aload_n 0, 1) := by decide +kernel
theorem dX3_mostDecided_23 : decode cX3_mostDecided 23 = .ok (.getfield 21, 3) := by decide +kernel
theorem dX3_mostDecided_26 : decode cX3_mostDecided 26 = .ok (.iload 5, 2) := by decide +kernel
theorem dX3_mostDecided_28 : decode cX3_mostDecided 28 = .ok (.iaload, 1) := by decide +kernel
theorem dX3_mostDecided_29 : decode cX3_mostDecided 29 = .ok (.invokevirtual 75, 3) := by decide +kernel
theorem dX3_mostDecided_32 : decode cX3_mostDecided 32 = .ok (.aload_n 0, 1) := by decide +kernel
theorem dX3_mostDecided_33 : decode cX3_mostDecided 33 = .ok (.getfield 9, 3) := by decide +kernel
theorem dX3_mostDecided_36 : decode cX3_mostDecided 36 = .ok (.iload_n 2, 1) := by decide +kernel
theorem dX3_mostDecided_37 : decode cX3_mostDecided 37 = .ok (.aload_n 0, 1) := by decide +kernel
theorem dX3_mostDecided_38 : decode cX3_mostDecided 38 = .ok (.getfield 21, 3) := by decide +kernel
theorem dX3_mostDecided_41 : decode cX3_mostDecided 41 = .ok (.iload 5, 2) := by decide +kernel
theorem dX3_mostDecided_43 : decode cX3_mostDecided 43 = .ok (.iaload, 1) := by decide +kernel
theorem dX3_mostDecided_44 : decode cX3_mostDecided 44 = .ok (.invokevirtual 75, 3) := by decide +kernel
theorem dX3_mostDecided_47 : decode cX3_mostDecided 47 = .ok (.isub, 1) := by decide +kernel
theorem dX3_mostDecided_48 : decode cX3_mostDecided 48 = .ok (.invokestatic 84, 3) := by decide +kernel
theorem dX3_mostDecided_51 : decode cX3_mostDecided 51 = .ok (.istore 6, 2) := by decide +kernel
theorem dX3_mostDecided_53 : decode cX3_mostDecided 53 = .ok (.iload 6, 2) := by decide +kernel
theorem dX3_mostDecided_55 : decode cX3_mostDecided 55 = .ok (.iload 4, 2) := by decide +kernel
theorem dX3_mostDecided_57 : decode cX3_mostDecided 57 = .ok (.if_icmp .le 10, 3) := by decide +kernel
theorem dX3_mostDecided_60 : decode cX3_mostDecided 60 = .ok (.iload 5, 2) := by decide +kernel
theorem dX3_mostDecided_62 : decode cX3_mostDecided 62 = .ok (.istore_n 3, 1) := by decide +kernel
theorem dX3_mostDecided_63 : decode cX3_mostDecided 63 = .ok (.iload 6, 2) := by decide +kernel
theorem dX3_mostDecided_65 : decode cX3_mostDecided 65 = .ok (.istore 4, 2) := by decide +kernel
theorem dX3_mostDecided_67 : decode cX3_mostDecided 67 = .ok (.iinc 5 1, 3) := by decide +kernel
theorem dX3_mostDecided_70 : decode cX3_mostDecided 70 = .ok (.goto (-62), 3) := by decide +kernel
theorem dX3_mostDecided_73 : decode cX3_mostDecided 73 = .ok (.iload_n 3, 1) := by decide +kernel
theorem dX3_mostDecided_74 : decode cX3_mostDecided 74 = .ok (.ireturn, 1) := by decide +kernel
theorem dX3_fitting_0 : decode cX3_fitting 0 = .ok (.aload_n 0, 1) := by decide +kernel
theorem dX3_fitting_1 : decode cX3_fitting 1 = .ok (.getfield 9, 3) := by decide +kernel
theorem dX3_fitting_4 : decode cX3_fitting 4 = .ok (.iload_n 2, 1) := by decide +kernel
theorem dX3_fitting_5 : decode cX3_fitting 5 = .ok (.iload_n 1, 1) := by decide +kernel
theorem dX3_fitting_6 : decode cX3_fitting 6 = .ok (.invokevirtual 75, 3) := by decide +kernel
theorem dX3_fitting_9 : decode cX3_fitting 9 = .ok (.aload_n 0, 1) := by decide +kernel
theorem dX3_fitting_10 : decode cX3_fitting 10 = .ok (.getfield 9, 3) := by decide +kernel
theorem dX3_fitting_13 : decode cX3_fitting 13 = .ok (.iload_n 3, 1) := by decide +kernel
theorem dX3_fitting_14 : decode cX3_fitting 14 = .ok (.iload_n 1, 1) := by decide +kernel
theorem dX3_fitting_15 : decode cX3_fitting 15 = .ok (.invokevirtual 75, 3) := by decide +kernel
theorem dX3_fitting_18 : decode cX3_fitting 18 = .ok (.invokestatic 87, 3) := by decide +kernel
theorem dX3_fitting_21 : decode cX3_fitting 21 = .ok (.istore 4, 2) := by decide +kernel
theorem dX3_fitting_23 : decode cX3_fitting 23 = .ok (.iload 4, 2) := by decide +kernel
theorem dX3_fitting_25 : decode cX3_fitting 25 = .ok (.ifCond .ne 24, 3) := by decide +kernel
theorem dX3_fitting_28 : decode cX3_fitting 28 = .ok (.aload_n 0, 1) := by decide +kernel
theorem dX3_fitting_29 : decode cX3_fitting 29 = .ok (.getfield 9, 3) := by decide +kernel
theorem dX3_fitting_32 : decode cX3_fitting 32 = .ok (.iload_n 2, 1) := by decide +kernel
theorem dX3_fitting_33 : decode cX3_fitting 33 = .ok (.invokevirtual 78, 3) := by decide +kernel
theorem dX3_fitting_36 : decode cX3_fitting 36 = .ok (.aload_n 0, 1) := by decide +kernel
theorem dX3_fitting_37 : decode cX3_fitting 37 = .ok (.getfield 9, 3) := by decide +kernel
theorem dX3_fitting_40 : decode cX3_fitting 40 = .ok (.iload_n 3, 1) := by decide +kernel
theorem dX3_fitting_41 : decode cX3_fitting 41 = .ok (.invokevirtual 78, 3) := by decide +kernel
theorem dX3_fitting_44 : decode cX3_fitting 44 = .ok (.invokestatic 87, 3) := by decide +kernel
theorem dX3_fitting_47 : decode cX3_fitting 47 = .ok (.istore 4, 2) := by decide +kernel
theorem dX3_fitting_49 : decode cX3_fitting 49 = .ok (.iload 4, 2) := by decide +kernel
theorem dX3_fitting_51 : decode cX3_fitting 51 = .ok (.ifCond .ne 26, 3) := by decide +kernel
theorem dX3_fitting_54 : decode cX3_fitting 54 = .ok (.aload_n 0, 1) := by decide +kernel
theorem dX3_fitting_55 : decode cX3_fitting 55 = .ok (.getfield 9, 3) := by decide +kernel
theorem dX3_fitting_58 : decode cX3_fitting 58 = .ok (.getfield 61, 3) := by decide +kernel
theorem dX3_fitting_61 : decode cX3_fitting 61 = .ok (.iload_n 2, 1) := by decide +kernel
theorem dX3_fitting_62 : decode cX3_fitting 62 = .ok (.iaload, 1) := by decide +kernel
theorem dX3_fitting_63 : decode cX3_fitting 63 = .ok (.aload_n 0, 1) := by decide +kernel
theorem dX3_fitting_64 : decode cX3_fitting 64 = .ok (.getfield 9, 3) := by decide +kernel
theorem dX3_fitting_67 : decode cX3_fitting 67 = .ok (.getfield 61, 3) := by decide +kernel
theorem dX3_fitting_70 : decode cX3_fitting 70 = .ok (.iload_n 3, 1) := by decide +kernel
theorem dX3_fitting_71 : decode cX3_fitting 71 = .ok (.iaload, 1) := by decide +kernel
theorem dX3_fitting_72 : decode cX3_fitting 72 = .ok (.invokestatic 87, 3) := by decide +kernel
theorem dX3_fitting_75 : decode cX3_fitting 75 = .ok (.istore 4, 2) := by decide +kernel
theorem dX3_fitting_77 : decode cX3_fitting 77 = .ok (.iload 4, 2) := by decide +kernel
theorem dX3_fitting_79 : decode cX3_fitting 79 = .ok (.ifCond .gt 7, 3) := by decide +kernel
theorem dX3_fitting_82 : decode cX3_fitting 82 = .ok (.iload_n 2, 1) := by decide +kernel
theorem dX3_fitting_83 : decode cX3_fitting 83 = .ok (.goto 4, 3) := by decide +kernel
theorem dX3_fitting_86 : decode cX3_fitting 86 = .ok (.iload_n 3, 1) := by decide +kernel
theorem dX3_fitting_87 : decode cX3_fitting 87 = .ok (.ireturn, 1) := by decide +kernel
theorem dX4_init_0 : decode cX4_init 0 = .ok (.aload_n 0, 1) := by decide +kernel
theorem dX4_init_1 : decode cX4_init 1 = .ok (.invokespecial 3, 3) := by decide +kernel
theorem dX4_init_4 : decode cX4_init 4 = .ok (.aload_n 0, 1) := by decide +kernel
theorem dX4_init_5 : decode cX4_init 5 = .ok (.sipush 807, 3) := by decide +kernel
theorem dX4_init_8 : decode cX4_init 8 = .ok (.newarray .int, 2) := by decide +kernel
theorem dX4_init_10 : decode cX4_init 10 = .ok (.putfield 9, 3) := by decide +kernel
theorem dX4_init_13 : decode cX4_init 13 = .ok (.aload_n 0, 1) := by decide +kernel
theorem dX4_init_14 : decode cX4_init 14 = .ok (.sipush 807, 3) := by decide +kernel
theorem dX4_init_17 : decode cX4_init 17 = .ok (.newarray .int, 2) := by decide +kernel
theorem dX4_init_19 : decode cX4_init 19 = .ok (.putfield 15, 3) := by decide +kernel
theorem dX4_init_22 : decode cX4_init 22 = .ok (.aload_n 0, 1) := by decide +kernel
theorem dX4_init_23 : decode cX4_init 23 = .ok (.sipush 807, 3) := by decide +kernel
theorem dX4_init_26 : decode cX4_init 26 = .ok (.newarray .int, 2) := by decide +kernel
theorem dX4_init_28 : decode cX4_init 28 = .ok (.putfield 18, 3) := by decide +kernel
theorem dX4_init_31 : decode cX4_init 31 = .ok (.aload_n 0, 1) := by decide +kernel
theorem dX4_init_32 : decode cX4_init 32 = .ok (.sipush 807, 3) := by decide +kernel
theorem dX4_init_35 : decode cX4_init 35 = .ok (.newarray .int, 2) := by decide +kernel
theorem dX4_init_37 : decode cX4_init 37 = .ok (.putfield 21, 3) := by decide +kernel
theorem dX4_init_40 : decode cX4_init 40 = .ok (.aload_n 0, 1) := by decide +kernel
theorem dX4_init_41 : decode cX4_init 41 = .ok (.sipush 807, 3) := by decide +kernel
theorem dX4_init_44 : decode cX4_init 44 = .ok (.newarray .int, 2) := by decide +kernel
theorem dX4_init_46 : decode cX4_init 46 = .ok (.putfield 24, 3) := by decide +kernel
theorem dX4_init_49 : decode cX4_init 49 = .ok (.aload_n 0, 1) := by decide +kernel
theorem dX4_init_50 : decode cX4_init 50 = .ok (.sipush 807, 3) := by decide +kernel
theorem dX4_init_53 : decode cX4_init 53 = .ok (.newarray .int, 2) := by decide +kernel
theorem dX4_init_55 : decode cX4_init 55 = .ok (.putfield 27, 3) := by decide +kernel
theorem dX4_init_58 : decode cX4_init 58 = .ok (.aload_n 0, 1) := by decide +kernel
theorem dX4_init_59 : decode cX4_init 59 = .ok (.sipush 807, 3) := by decide +kernel
theorem dX4_init_62 : decode cX4_init 62 = .ok (.newarray .int, 2) := by decide +kernel
theorem dX4_init_64 : decode cX4_init 64 = .ok (.putfield 30, 3) := by decide +kernel
theorem dX4_init_67 : decode cX4_init 67 = .ok (.aload_n 0, 1) := by decide +kernel
theorem dX4_init_68 : decode cX4_init 68 = .ok (.sipush 807, 3) := by decide +kernel
theorem dX4_init_71 : decode cX4_init 71 = .ok (.newarray .int, 2) := by decide +kernel
theorem dX4_init_73 : decode cX4_init 73 = .ok (.putfield 33, 3) := by decide +kernel
theorem dX4_init_76 : decode cX4_init 76 = .ok (.aload_n 0, 1) := by decide +kernel
theorem dX4_init_77 : decode cX4_init 77 = .ok (.iload_n 1, 1) := by decide +kernel
theorem dX4_init_78 : decode cX4_init 78 = .ok (.putfield 36, 3) := by decide +kernel
theorem dX4_init_81 : decode cX4_init 81 = .ok (.aload_n 0, 1) := by decide +kernel
theorem dX4_init_82 : decode cX4_init 82 = .ok (.iload_n 2, 1) := by decide +kernel
theorem dX4_init_83 : decode cX4_init 83 = .ok (.putfield 40, 3) := by decide +kernel
theorem dX4_init_86 : decode cX4_init 86 = .ok (.aload_n 0, 1) := by decide +kernel
theorem dX4_init_87 : decode cX4_init 87 = .ok (.iload_n 1, 1) := by decide +kernel
theorem dX4_init_88 : decode cX4_init 88 = .ok (.iconst 1, 1) := by decide +kernel
theorem dX4_init_89 : decode cX4_init 89 = .ok (.iadd, 1) := by decide +kernel
theorem dX4_init_90 : decode cX4_init 90 = .ok (.putfield 43, 3) := by decide +kernel
theorem dX4_init_93 : decode cX4_init 93 = .ok (.aload_n 0, 1) := by decide +kernel
theorem dX4_init_94 : decode cX4_init 94 = .ok (.sipush 404, 3) := by decide +kernel
theorem dX4_init_97 : decode cX4_init 97 = .ok (.aload_n 0, 1) := by decide +kernel
theorem dX4_init_98 : decode cX4_init 98 = .ok (.getfield 43, 3) := by decide +kernel
theorem dX4_init_101 : decode cX4_init 101 = .ok (.imul, 1) := by decide +kernel
theorem dX4_init_102 : decode cX4_init 102 = .ok (.newarray .int, 2) := by decide +kernel
theorem dX4_init_104 : decode cX4_init 104 = .ok (.putfield 46, 3) := by decide +kernel
theorem dX4_init_107 : decode cX4_init 107 = .ok (.aload_n 0, 1) := by decide +kernel
theorem dX4_init_108 : decode cX4_init 108 = .ok (.invokevirtual 49, 3) := by decide +kernel
theorem dX4_init_111 : decode cX4_init 111 = .ok (.aload_n 0, 1) := by decide +kernel
theorem dX4_init_112 : decode cX4_init 112 = .ok (.invokevirtual 52, 3) := by decide +kernel
theorem dX4_init_115 : decode cX4_init 115 = .ok (.return_, 1) := by decide +kernel
theorem dX4_forgetEntries_0 : decode cX4_forgetEntries 0 = .ok (.aload_n 0, 1) := by decide +kernel
theorem dX4_forgetEntries_1 : decode cX4_forgetEntries 1 = .ok (.iconst 0, 1) := by decide +kernel
theorem dX4_forgetEntries_2 : decode cX4_forgetEntries 2 = .ok (.putfield 55, 3) := by decide +kernel
theorem dX4_forgetEntries_5 : decode cX4_forgetEntries 5 = .ok (.aload_n 0, 1) := by decide +kernel
theorem dX4_forgetEntries_6 : decode cX4_forgetEntries 6 = .ok (.iconst 0, 1) := by decide +kernel
theorem dX4_forgetEntries_7 : decode cX4_forgetEntries 7 = .ok (.putfield 58, 3) := by decide +kernel
theorem dX4_forgetEntries_10 : decode cX4_forgetEntries 10 = .ok (.aload_n 0, 1) := by decide +kernel
theorem dX4_forgetEntries_11 : decode cX4_forgetEntries 11 = .ok (.iconst (-1), 1) := by decide +kernel
theorem dX4_forgetEntries_12 : decode cX4_forgetEntries 12 = .ok (.putfield 61, 3) := by decide +kernel
theorem dX4_forgetEntries_15 : decode cX4_forgetEntries 15 = .ok (.return_, 1) := by decide +kernel
theorem dX4_forgetNodes_0 : decode cX4_forgetNodes 0 = .ok (.aload_n 0, 1) := by decide +kernel
theorem dX4_forgetNodes_1 : decode cX4_forgetNodes 1 = .ok (.sipush 400, 3) := by decide +kernel
theorem dX4_forgetNodes_4 : decode cX4_forgetNodes 4 = .ok (.putfield 64, 3) := by decide +kernel
theorem dX4_forgetNodes_7 : decode cX4_forgetNodes 7 = .ok (.aload_n 0, 1) := by decide +kernel
theorem dX4_forgetNodes_8 : decode cX4_forgetNodes 8 = .ok (.iconst (-1), 1) := by decide +kernel
theorem dX4_forgetNodes_9 : decode cX4_forgetNodes 9 = .ok (.putfield 67, 3) := by decide +kernel
theorem dX4_forgetNodes_12 : decode cX4_forgetNodes 12 = .ok (.return_, 1) := by decide +kernel
theorem dX4_newEntry_0 : decode cX4_newEntry 0 = .ok (.aload_n 0, 1) := by decide +kernel
theorem dX4_newEntry_1 : decode cX4_newEntry 1 = .ok (.getfield 61, 3) := by decide +kernel
theorem dX4_newEntry_4 : decode cX4_newEntry 4 = .ok (.istore_n 2, 1) := by decide +kernel
theorem dX4_newEntry_5 : decode cX4_newEntry 5 = .ok (.iload_n 2, 1) := by decide +kernel
theorem dX4_newEntry_6 : decode cX4_newEntry 6 = .ok (.iconst (-1), 1) := by decide +kernel
theorem dX4_newEntry_7 : decode cX4_newEntry 7 = .ok (.if_icmp .eq 16, 3) := by decide +kernel
theorem dX4_newEntry_10 : decode cX4_newEntry 10 = .ok (.aload_n 0, 1) := by decide +kernel
theorem dX4_newEntry_11 : decode cX4_newEntry 11 = .ok (.aload_n 0, 1) := by decide +kernel
theorem dX4_newEntry_12 : decode cX4_newEntry 12 = .ok (.getfield 30, 3) := by decide +kernel
theorem dX4_newEntry_15 : decode cX4_newEntry 15 = .ok (.iload_n 2, 1) := by decide +kernel
theorem dX4_newEntry_16 : decode cX4_newEntry 16 = .ok (.iaload, 1) := by decide +kernel
theorem dX4_newEntry_17 : decode cX4_newEntry 17 = .ok (.putfield 61, 3) := by decide +kernel
theorem dX4_newEntry_20 : decode cX4_newEntry 20 = .ok (.goto 32, 3) := by decide +kernel
theorem dX4_newEntry_23 : decode cX4_newEntry 23 = .ok (.aload_n 0, 1) := by decide +kernel
theorem dX4_newEntry_24 : decode cX4_newEntry 24 = .ok (.getfield 58, 3) := by decide +kernel
theorem dX4_newEntry_27 : decode cX4_newEntry 27 = .ok (.sipush 400, 3) := by decide +kernel
theorem dX4_newEntry_30 : decode cX4_newEntry 30 = .ok (.if_icmp .ge 18, 3) := by decide +kernel
theorem dX4_newEntry_33 : decode cX4_newEntry 33 = .ok (.aload_n 0, 1) := by decide +kernel
theorem dX4_newEntry_34 : decode cX4_newEntry 34 = .ok (.dup, 1) := by decide +kernel
theorem dX4_newEntry_35 : decode cX4_newEntry 35 = .ok (.getfield 58, 3) := by decide +kernel
theorem dX4_newEntry_38 : decode cX4_newEntry 38 = .ok (.dup_x1, 1) := by decide +kernel
theorem dX4_newEntry_39 : decode cX4_newEntry 39 = .ok (.iconst 1, 1) := by decide +kernel
theorem dX4_newEntry_40 : decode cX4_newEntry 40 = .ok (.iadd, 1) := by decide +kernel
theorem dX4_newEntry_41 : decode cX4_newEntry 41 = .ok (.putfield 58, 3) := by decide +kernel
theorem dX4_newEntry_44 : decode cX4_newEntry 44 = .ok (.istore_n 2, 1) := by decide +kernel
theorem dX4_newEntry_45 : decode cX4_newEntry 45 = .ok (.goto 7, 3) := by decide +kernel
theorem dX4_newEntry_48 : decode cX4_newEntry 48 = .ok (.sipush 806, 3) := by decide +kernel
theorem dX4_newEntry_51 : decode cX4_newEntry 51 = .ok (.ireturn, 1) := by decide +kernel
theorem dX4_newEntry_52 : decode cX4_newEntry 52 = .ok (.aload_n 0, 1) := by decide +kernel
theorem dX4_newEntry_53 : decode cX4_newEntry 53 = .ok (.dup, 1) := by decide +kernel
theorem dX4_newEntry_54 : decode cX4_newEntry 54 = .ok (.getfield 55, 3) := by decide +kernel
theorem dX4_newEntry_57 : decode cX4_newEntry 57 = .ok (.iconst 1, 1) := by decide +kernel
theorem dX4_newEntry_58 : decode cX4_newEntry 58 = .ok (.iadd, 1) := by decide +kernel
theorem dX4_newEntry_59 : decode cX4_newEntry 59 = .ok (.putfield 55, 3) := by decide +kernel
theorem dX4_newEntry_62 : decode cX4_newEntry 62 = .ok (.aload_n 0, 1) := by decide +kernel
theorem dX4_newEntry_63 : decode cX4_newEntry 63 = .ok (.getfield 9, 3) := by decide +kernel
theorem dX4_newEntry_66 : decode cX4_newEntry 66 = .ok (.iload_n 2, 1) := by decide +kernel
theorem dX4_newEntry_67 : decode cX4_newEntry 67 = .ok (.iconst (-1), 1) := by decide +kernel
theorem dX4_newEntry_68 : decode cX4_newEntry 68 = .ok (.iastore, 1) := by decide +kernel
theorem dX4_newEntry_69 : decode cX4_newEntry 69 = .ok (.aload_n 0, 1) := by decide +kernel
theorem dX4_newEntry_70 : decode cX4_newEntry 70 = .ok (.getfield 27, 3) := by decide +kernel
theorem dX4_newEntry_73 : decode cX4_newEntry 73 = .ok (.iload_n 2, 1) := by decide +kernel
theorem dX4_newEntry_74 : decode cX4_newEntry 74 = .ok (.aload_n 0, 1) := by decide +kernel
theorem dX4_newEntry_75 : decode cX4_newEntry 75 = .ok (.getfield 27, 3) := by decide +kernel
theorem dX4_newEntry_78 : decode cX4_newEntry 78 = .ok (.iload_n 1, 1) := by decide +kernel
theorem dX4_newEntry_79 : decode cX4_newEntry 79 = .ok (.iaload, 1) := by decide +kernel
theorem dX4_newEntry_80 : decode cX4_newEntry 80 = .ok (.iastore, 1) := by decide +kernel
theorem dX4_newEntry_81 : decode cX4_newEntry 81 = .ok (.aload_n 0, 1) := by decide +kernel
theorem dX4_newEntry_82 : decode cX4_newEntry 82 = .ok (.iload_n 1, 1) := by decide +kernel
theorem dX4_newEntry_83 : decode cX4_newEntry 83 = .ok (.iload_n 2, 1) := by decide +kernel
theorem dX4_newEntry_84 : decode cX4_newEntry 84 = .ok (.invokevirtual 70, 3) := by decide +kernel
theorem dX4_newEntry_87 : decode cX4_newEntry 87 = .ok (.iload_n 2, 1) := by decide +kernel
theorem dX4_newEntry_88 : decode cX4_newEntry 88 = .ok (.ireturn, 1) := by decide +kernel
theorem dX4_freeEntry_0 : decode cX4_freeEntry 0 = .ok (.aload_n 0, 1) := by decide +kernel
theorem dX4_freeEntry_1 : decode cX4_freeEntry 1 = .ok (.dup, 1) := by decide +kernel
theorem dX4_freeEntry_2 : decode cX4_freeEntry 2 = .ok (.getfield 55, 3) := by decide +kernel
theorem dX4_freeEntry_5 : decode cX4_freeEntry 5 = .ok (.iconst 1, 1) := by decide +kernel
theorem dX4_freeEntry_6 : decode cX4_freeEntry 6 = .ok (.isub, 1) := by decide +kernel
theorem dX4_freeEntry_7 : decode cX4_freeEntry 7 = .ok (.putfield 55, 3) := by decide +kernel
theorem dX4_freeEntry_10 : decode cX4_freeEntry 10 = .ok (.aload_n 0, 1) := by decide +kernel
theorem dX4_freeEntry_11 : decode cX4_freeEntry 11 = .ok (.getfield 9, 3) := by decide +kernel
theorem dX4_freeEntry_14 : decode cX4_freeEntry 14 = .ok (.iload_n 1, 1) := by decide +kernel
theorem dX4_freeEntry_15 : decode cX4_freeEntry 15 = .ok (.bipush (-2), 2) := by decide +kernel
theorem dX4_freeEntry_17 : decode cX4_freeEntry 17 = .ok (.iastore, 1) := by decide +kernel
theorem dX4_freeEntry_18 : decode cX4_freeEntry 18 = .ok (.aload_n 0, 1) := by decide +kernel
theorem dX4_freeEntry_19 : decode cX4_freeEntry 19 = .ok (.getfield 30, 3) := by decide +kernel
theorem dX4_freeEntry_22 : decode cX4_freeEntry 22 = .ok (.iload_n 1, 1) := by decide +kernel
theorem dX4_freeEntry_23 : decode cX4_freeEntry 23 = .ok (.aload_n 0, 1) := by decide +kernel
theorem dX4_freeEntry_24 : decode cX4_freeEntry 24 = .ok (.getfield 61, 3) := by decide +kernel
theorem dX4_freeEntry_27 : decode cX4_freeEntry 27 = .ok (.iastore, 1) := by decide +kernel
theorem dX4_freeEntry_28 : decode cX4_freeEntry 28 = .ok (.aload_n 0, 1) := by decide +kernel
theorem dX4_freeEntry_29 : decode cX4_freeEntry 29 = .ok (.iload_n 1, 1) := by decide +kernel
theorem dX4_freeEntry_30 : decode cX4_freeEntry 30 = .ok (.putfield 61, 3) := by decide +kernel
theorem dX4_freeEntry_33 : decode cX4_freeEntry 33 = .ok (.return_, 1) := by decide +kernel
theorem dX4_newNode_0 : decode cX4_newNode 0 = .ok (.aload_n 0, 1) := by decide +kernel
theorem dX4_newNode_1 : decode cX4_newNode 1 = .ok (.getfield 67, 3) := by decide +kernel
theorem dX4_newNode_4 : decode cX4_newNode 4 = .ok (.istore_n 2, 1) := by decide +kernel
theorem dX4_newNode_5 : decode cX4_newNode 5 = .ok (.iload_n 2, 1) := by decide +kernel
theorem dX4_newNode_6 : decode cX4_newNode 6 = .ok (.iconst (-1), 1) := by decide +kernel
theorem dX4_newNode_7 : decode cX4_newNode 7 = .ok (.if_icmp .eq 16, 3) := by decide +kernel
theorem dX4_newNode_10 : decode cX4_newNode 10 = .ok (.aload_n 0, 1) := by decide +kernel
theorem dX4_newNode_11 : decode cX4_newNode 11 = .ok (.aload_n 0, 1) := by decide +kernel
theorem dX4_newNode_12 : decode cX4_newNode 12 = .ok (.getfield 30, 3) := by decide +kernel
theorem dX4_newNode_15 : decode cX4_newNode 15 = .ok (.iload_n 2, 1) := by decide +kernel
theorem dX4_newNode_16 : decode cX4_newNode 16 = .ok (.iaload, 1) := by decide +kernel
theorem dX4_newNode_17 : decode cX4_newNode 17 = .ok (.putfield 67, 3) := by decide +kernel
theorem dX4_newNode_20 : decode cX4_newNode 20 = .ok (.goto 32, 3) := by decide +kernel
theorem dX4_newNode_23 : decode cX4_newNode 23 = .ok (.aload_n 0, 1) := by decide +kernel
theorem dX4_newNode_24 : decode cX4_newNode 24 = .ok (.getfield 64, 3) := by decide +kernel
theorem dX4_newNode_27 : decode cX4_newNode 27 = .ok (.sipush 804, 3) := by decide +kernel
theorem dX4_newNode_30 : decode cX4_newNode 30 = .ok (.if_icmp .ge 18, 3) := by decide +kernel
theorem dX4_newNode_33 : decode cX4_newNode 33 = .ok (.aload_n 0, 1) := by decide +kernel
theorem dX4_newNode_34 : decode cX4_newNode 34 = .ok (.dup, 1) := by decide +kernel
theorem dX4_newNode_35 : decode cX4_newNode 35 = .ok (.getfield 64, 3) := by decide +kernel
theorem dX4_newNode_38 : decode cX4_newNode 38 = .ok (.dup_x1, 1) := by decide +kernel
theorem dX4_newNode_39 : decode cX4_newNode 39 = .ok (.iconst 1, 1) := by decide +kernel
theorem dX4_newNode_40 : decode cX4_newNode 40 = .ok (.iadd, 1) := by decide +kernel
theorem dX4_newNode_41 : decode cX4_newNode 41 = .ok (.putfield 64, 3) := by decide +kernel
theorem dX4_newNode_44 : decode cX4_newNode 44 = .ok (.istore_n 2, 1) := by decide +kernel
theorem dX4_newNode_45 : decode cX4_newNode 45 = .ok (.goto 7, 3) := by decide +kernel
theorem dX4_newNode_48 : decode cX4_newNode 48 = .ok (.sipush 806, 3) := by decide +kernel
theorem dX4_newNode_51 : decode cX4_newNode 51 = .ok (.ireturn, 1) := by decide +kernel
theorem dX4_newNode_52 : decode cX4_newNode 52 = .ok (.aload_n 0, 1) := by decide +kernel
theorem dX4_newNode_53 : decode cX4_newNode 53 = .ok (.getfield 9, 3) := by decide +kernel
theorem dX4_newNode_56 : decode cX4_newNode 56 = .ok (.iload_n 2, 1) := by decide +kernel
theorem dX4_newNode_57 : decode cX4_newNode 57 = .ok (.iload_n 1, 1) := by decide +kernel
theorem dX4_newNode_58 : decode cX4_newNode 58 = .ok (.iastore, 1) := by decide +kernel
theorem dX4_newNode_59 : decode cX4_newNode 59 = .ok (.aload_n 0, 1) := by decide +kernel
theorem dX4_newNode_60 : decode cX4_newNode 60 = .ok (.getfield 33, 3) := by decide +kernel
theorem dX4_newNode_63 : decode cX4_newNode 63 = .ok (.iload_n 2, 1) := by decide +kernel
theorem dX4_newNode_64 : decode cX4_newNode 64 = .ok (.iconst 0, 1) := by decide +kernel
theorem dX4_newNode_65 : decode cX4_newNode 65 = .ok (.iastore, 1) := by decide +kernel
theorem dX4_newNode_66 : decode cX4_newNode 66 = .ok (.aload_n 0, 1) := by decide +kernel
theorem dX4_newNode_67 : decode cX4_newNode 67 = .ok (.getfield 30, 3) := by decide +kernel
theorem dX4_newNode_70 : decode cX4_newNode 70 = .ok (.iload_n 2, 1) := by decide +kernel
theorem dX4_newNode_71 : decode cX4_newNode 71 = .ok (.iconst (-1), 1) := by decide +kernel
theorem dX4_newNode_72 : decode cX4_newNode 72 = .ok (.iastore, 1) := by decide +kernel
theorem dX4_newNode_73 : decode cX4_newNode 73 = .ok (.iload_n 2, 1) := by decide +kernel
theorem dX4_newNode_74 : decode cX4_newNode 74 = .ok (.ireturn, 1) := by decide +kernel
theorem dX4_freeNode_0 : decode cX4_freeNode 0 = .ok (.aload_n 0, 1) := by decide +kernel
theorem dX4_freeNode_1 : decode cX4_freeNode 1 = .ok (.getfield 9, 3) := by decide +kernel
theorem dX4_freeNode_4 : decode cX4_freeNode 4 = .ok (.iload_n 1, 1) := by decide +kernel
theorem dX4_freeNode_5 : decode cX4_freeNode 5 = .ok (.bipush (-2), 2) := by decide +kernel
theorem dX4_freeNode_7 : decode cX4_freeNode 7 = .ok (.iastore, 1) := by decide +kernel
theorem dX4_freeNode_8 : decode cX4_freeNode 8 = .ok (.aload_n 0, 1) := by decide +kernel
theorem dX4_freeNode_9 : decode cX4_freeNode 9 = .ok (.getfield 30, 3) := by decide +kernel
theorem dX4_freeNode_12 : decode cX4_freeNode 12 = .ok (.iload_n 1, 1) := by decide +kernel
theorem dX4_freeNode_13 : decode cX4_freeNode 13 = .ok (.aload_n 0, 1) := by decide +kernel
theorem dX4_freeNode_14 : decode cX4_freeNode 14 = .ok (.getfield 67, 3) := by decide +kernel
theorem dX4_freeNode_17 : decode cX4_freeNode 17 = .ok (.iastore, 1) := by decide +kernel
theorem dX4_freeNode_18 : decode cX4_freeNode 18 = .ok (.aload_n 0, 1) := by decide +kernel
theorem dX4_freeNode_19 : decode cX4_freeNode 19 = .ok (.iload_n 1, 1) := by decide +kernel
theorem dX4_freeNode_20 : decode cX4_freeNode 20 = .ok (.putfield 67, 3) := by decide +kernel
theorem dX4_freeNode_23 : decode cX4_freeNode 23 = .ok (.return_, 1) := by decide +kernel
theorem dX4_isEntry_0 : decode cX4_isEntry 0 = .ok (.aload_n 0, 1) := by decide +kernel
theorem dX4_isEntry_1 : decode cX4_isEntry 1 = .ok (.getfield 9, 3) := by decide +kernel
theorem dX4_isEntry_4 : decode cX4_isEntry 4 = .ok (.iload_n 1, 1) := by decide +kernel
