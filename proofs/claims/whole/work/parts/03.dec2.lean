theorem dX4_isEntry_5 : decode cX4_isEntry 5 = .ok (.iaload, 1) := by decide +kernel
theorem dX4_isEntry_6 : decode cX4_isEntry 6 = .ok (.iconst (-1), 1) := by decide +kernel
theorem dX4_isEntry_7 : decode cX4_isEntry 7 = .ok (.if_icmp .ne 7, 3) := by decide +kernel
theorem dX4_isEntry_10 : decode cX4_isEntry 10 = .ok (.iconst 1, 1) := by decide +kernel
theorem dX4_isEntry_11 : decode cX4_isEntry 11 = .ok (.goto 4, 3) := by decide +kernel
theorem dX4_isEntry_14 : decode cX4_isEntry 14 = .ok (.iconst 0, 1) := by decide +kernel
theorem dX4_isEntry_15 : decode cX4_isEntry 15 = .ok (.ireturn, 1) := by decide +kernel
theorem dX4_describe_0 : decode cX4_describe 0 = .ok (.aload_n 0, 1) := by decide +kernel
theorem dX4_describe_1 : decode cX4_describe 1 = .ok (.getfield 27, 3) := by decide +kernel
theorem dX4_describe_4 : decode cX4_describe 4 = .ok (.iload_n 1, 1) := by decide +kernel
theorem dX4_describe_5 : decode cX4_describe 5 = .ok (.iload_n 2, 1) := by decide +kernel
theorem dX4_describe_6 : decode cX4_describe 6 = .ok (.iastore, 1) := by decide +kernel
theorem dX4_describe_7 : decode cX4_describe 7 = .ok (.aload_n 0, 1) := by decide +kernel
theorem dX4_describe_8 : decode cX4_describe 8 = .ok (.getfield 15, 3) := by decide +kernel
theorem dX4_describe_11 : decode cX4_describe 11 = .ok (.iload_n 1, 1) := by decide +kernel
theorem dX4_describe_12 : decode cX4_describe 12 = .ok (.iload_n 3, 1) := by decide +kernel
theorem dX4_describe_13 : decode cX4_describe 13 = .ok (.iastore, 1) := by decide +kernel
theorem dX4_describe_14 : decode cX4_describe 14 = .ok (.aload_n 0, 1) := by decide +kernel
theorem dX4_describe_15 : decode cX4_describe 15 = .ok (.getfield 18, 3) := by decide +kernel
theorem dX4_describe_18 : decode cX4_describe 18 = .ok (.iload_n 1, 1) := by decide +kernel
theorem dX4_describe_19 : decode cX4_describe 19 = .ok (.iload 4, 2) := by decide +kernel
theorem dX4_describe_21 : decode cX4_describe 21 = .ok (.iastore, 1) := by decide +kernel
theorem dX4_describe_22 : decode cX4_describe 22 = .ok (.aload_n 0, 1) := by decide +kernel
theorem dX4_describe_23 : decode cX4_describe 23 = .ok (.getfield 21, 3) := by decide +kernel
theorem dX4_describe_26 : decode cX4_describe 26 = .ok (.iload_n 1, 1) := by decide +kernel
theorem dX4_describe_27 : decode cX4_describe 27 = .ok (.iload 5, 2) := by decide +kernel
theorem dX4_describe_29 : decode cX4_describe 29 = .ok (.iastore, 1) := by decide +kernel
theorem dX4_describe_30 : decode cX4_describe 30 = .ok (.aload_n 0, 1) := by decide +kernel
theorem dX4_describe_31 : decode cX4_describe 31 = .ok (.getfield 24, 3) := by decide +kernel
theorem dX4_describe_34 : decode cX4_describe 34 = .ok (.iload_n 1, 1) := by decide +kernel
theorem dX4_describe_35 : decode cX4_describe 35 = .ok (.iload 6, 2) := by decide +kernel
theorem dX4_describe_37 : decode cX4_describe 37 = .ok (.iastore, 1) := by decide +kernel
theorem dX4_describe_38 : decode cX4_describe 38 = .ok (.return_, 1) := by decide +kernel
theorem dX4_side_0 : decode cX4_side 0 = .ok (.iload_n 2, 1) := by decide +kernel
theorem dX4_side_1 : decode cX4_side 1 = .ok (.tableswitch 59 0 3 #[31, 38, 45, 52], 31) := by decide +kernel
theorem dX4_side_32 : decode cX4_side 32 = .ok (.aload_n 0, 1) := by decide +kernel
theorem dX4_side_33 : decode cX4_side 33 = .ok (.getfield 15, 3) := by decide +kernel
theorem dX4_side_36 : decode cX4_side 36 = .ok (.iload_n 1, 1) := by decide +kernel
theorem dX4_side_37 : decode cX4_side 37 = .ok (.iaload, 1) := by decide +kernel
theorem dX4_side_38 : decode cX4_side 38 = .ok (.ireturn, 1) := by decide +kernel
theorem dX4_side_39 : decode cX4_side 39 = .ok (.aload_n 0, 1) := by decide +kernel
theorem dX4_side_40 : decode cX4_side 40 = .ok (.getfield 18, 3) := by decide +kernel
theorem dX4_side_43 : decode cX4_side 43 = .ok (.iload_n 1, 1) := by decide +kernel
theorem dX4_side_44 : decode cX4_side 44 = .ok (.iaload, 1) := by decide +kernel
theorem dX4_side_45 : decode cX4_side 45 = .ok (.ireturn, 1) := by decide +kernel
theorem dX4_side_46 : decode cX4_side 46 = .ok (.aload_n 0, 1) := by decide +kernel
theorem dX4_side_47 : decode cX4_side 47 = .ok (.getfield 21, 3) := by decide +kernel
theorem dX4_side_50 : decode cX4_side 50 = .ok (.iload_n 1, 1) := by decide +kernel
theorem dX4_side_51 : decode cX4_side 51 = .ok (.iaload, 1) := by decide +kernel
theorem dX4_side_52 : decode cX4_side 52 = .ok (.ireturn, 1) := by decide +kernel
theorem dX4_side_53 : decode cX4_side 53 = .ok (.aload_n 0, 1) := by decide +kernel
theorem dX4_side_54 : decode cX4_side 54 = .ok (.getfield 24, 3) := by decide +kernel
theorem dX4_side_57 : decode cX4_side 57 = .ok (.iload_n 1, 1) := by decide +kernel
theorem dX4_side_58 : decode cX4_side 58 = .ok (.iaload, 1) := by decide +kernel
theorem dX4_side_59 : decode cX4_side 59 = .ok (.ireturn, 1) := by decide +kernel
theorem dX4_side_60 : decode cX4_side 60 = .ok (.iconst (-1), 1) := by decide +kernel
theorem dX4_side_61 : decode cX4_side 61 = .ok (.ireturn, 1) := by decide +kernel
theorem dX4_area_0 : decode cX4_area 0 = .ok (.aload_n 0, 1) := by decide +kernel
theorem dX4_area_1 : decode cX4_area 1 = .ok (.getfield 21, 3) := by decide +kernel
theorem dX4_area_4 : decode cX4_area 4 = .ok (.iload_n 1, 1) := by decide +kernel
theorem dX4_area_5 : decode cX4_area 5 = .ok (.iaload, 1) := by decide +kernel
theorem dX4_area_6 : decode cX4_area 6 = .ok (.aload_n 0, 1) := by decide +kernel
theorem dX4_area_7 : decode cX4_area 7 = .ok (.getfield 15, 3) := by decide +kernel
theorem dX4_area_10 : decode cX4_area 10 = .ok (.iload_n 1, 1) := by decide +kernel
theorem dX4_area_11 : decode cX4_area 11 = .ok (.iaload, 1) := by decide +kernel
theorem dX4_area_12 : decode cX4_area 12 = .ok (.isub, 1) := by decide +kernel
theorem dX4_area_13 : decode cX4_area 13 = .ok (.iconst 1, 1) := by decide +kernel
theorem dX4_area_14 : decode cX4_area 14 = .ok (.iadd, 1) := by decide +kernel
theorem dX4_area_15 : decode cX4_area 15 = .ok (.aload_n 0, 1) := by decide +kernel
theorem dX4_area_16 : decode cX4_area 16 = .ok (.getfield 24, 3) := by decide +kernel
theorem dX4_area_19 : decode cX4_area 19 = .ok (.iload_n 1, 1) := by decide +kernel
theorem dX4_area_20 : decode cX4_area 20 = .ok (.iaload, 1) := by decide +kernel
theorem dX4_area_21 : decode cX4_area 21 = .ok (.aload_n 0, 1) := by decide +kernel
theorem dX4_area_22 : decode cX4_area 22 = .ok (.getfield 18, 3) := by decide +kernel
theorem dX4_area_25 : decode cX4_area 25 = .ok (.iload_n 1, 1) := by decide +kernel
theorem dX4_area_26 : decode cX4_area 26 = .ok (.iaload, 1) := by decide +kernel
theorem dX4_area_27 : decode cX4_area 27 = .ok (.isub, 1) := by decide +kernel
theorem dX4_area_28 : decode cX4_area 28 = .ok (.iconst 1, 1) := by decide +kernel
theorem dX4_area_29 : decode cX4_area 29 = .ok (.iadd, 1) := by decide +kernel
theorem dX4_area_30 : decode cX4_area 30 = .ok (.imul, 1) := by decide +kernel
theorem dX4_area_31 : decode cX4_area 31 = .ok (.ireturn, 1) := by decide +kernel
theorem dX4_growth_0 : decode cX4_growth 0 = .ok (.aload_n 0, 1) := by decide +kernel
theorem dX4_growth_1 : decode cX4_growth 1 = .ok (.getfield 21, 3) := by decide +kernel
theorem dX4_growth_4 : decode cX4_growth 4 = .ok (.iload_n 1, 1) := by decide +kernel
theorem dX4_growth_5 : decode cX4_growth 5 = .ok (.iaload, 1) := by decide +kernel
theorem dX4_growth_6 : decode cX4_growth 6 = .ok (.aload_n 0, 1) := by decide +kernel
theorem dX4_growth_7 : decode cX4_growth 7 = .ok (.getfield 21, 3) := by decide +kernel
theorem dX4_growth_10 : decode cX4_growth 10 = .ok (.iload_n 2, 1) := by decide +kernel
theorem dX4_growth_11 : decode cX4_growth 11 = .ok (.iaload, 1) := by decide +kernel
theorem dX4_growth_12 : decode cX4_growth 12 = .ok (.invokestatic 74, 3) := by decide +kernel
theorem dX4_growth_15 : decode cX4_growth 15 = .ok (.aload_n 0, 1) := by decide +kernel
theorem dX4_growth_16 : decode cX4_growth 16 = .ok (.getfield 15, 3) := by decide +kernel
theorem dX4_growth_19 : decode cX4_growth 19 = .ok (.iload_n 1, 1) := by decide +kernel
theorem dX4_growth_20 : decode cX4_growth 20 = .ok (.iaload, 1) := by decide +kernel
theorem dX4_growth_21 : decode cX4_growth 21 = .ok (.aload_n 0, 1) := by decide +kernel
theorem dX4_growth_22 : decode cX4_growth 22 = .ok (.getfield 15, 3) := by decide +kernel
theorem dX4_growth_25 : decode cX4_growth 25 = .ok (.iload_n 2, 1) := by decide +kernel
theorem dX4_growth_26 : decode cX4_growth 26 = .ok (.iaload, 1) := by decide +kernel
theorem dX4_growth_27 : decode cX4_growth 27 = .ok (.invokestatic 80, 3) := by decide +kernel
theorem dX4_growth_30 : decode cX4_growth 30 = .ok (.isub, 1) := by decide +kernel
theorem dX4_growth_31 : decode cX4_growth 31 = .ok (.iconst 1, 1) := by decide +kernel
theorem dX4_growth_32 : decode cX4_growth 32 = .ok (.iadd, 1) := by decide +kernel
theorem dX4_growth_33 : decode cX4_growth 33 = .ok (.istore_n 3, 1) := by decide +kernel
theorem dX4_growth_34 : decode cX4_growth 34 = .ok (.aload_n 0, 1) := by decide +kernel
theorem dX4_growth_35 : decode cX4_growth 35 = .ok (.getfield 24, 3) := by decide +kernel
theorem dX4_growth_38 : decode cX4_growth 38 = .ok (.iload_n 1, 1) := by decide +kernel
theorem dX4_growth_39 : decode cX4_growth 39 = .ok (.iaload, 1) := by decide +kernel
theorem dX4_growth_40 : decode cX4_growth 40 = .ok (.aload_n 0, 1) := by decide +kernel
theorem dX4_growth_41 : decode cX4_growth 41 = .ok (.getfield 24, 3) := by decide +kernel
theorem dX4_growth_44 : decode cX4_growth 44 = .ok (.iload_n 2, 1) := by decide +kernel
theorem dX4_growth_45 : decode cX4_growth 45 = .ok (.iaload, 1) := by decide +kernel
theorem dX4_growth_46 : decode cX4_growth 46 = .ok (.invokestatic 74, 3) := by decide +kernel
theorem dX4_growth_49 : decode cX4_growth 49 = .ok (.aload_n 0, 1) := by decide +kernel
theorem dX4_growth_50 : decode cX4_growth 50 = .ok (.getfield 18, 3) := by decide +kernel
theorem dX4_growth_53 : decode cX4_growth 53 = .ok (.iload_n 1, 1) := by decide +kernel
theorem dX4_growth_54 : decode cX4_growth 54 = .ok (.iaload, 1) := by decide +kernel
theorem dX4_growth_55 : decode cX4_growth 55 = .ok (.aload_n 0, 1) := by decide +kernel
theorem dX4_growth_56 : decode cX4_growth 56 = .ok (.getfield 18, 3) := by decide +kernel
theorem dX4_growth_59 : decode cX4_growth 59 = .ok (.iload_n 2, 1) := by decide +kernel
theorem dX4_growth_60 : decode cX4_growth 60 = .ok (.iaload, 1) := by decide +kernel
theorem dX4_growth_61 : decode cX4_growth 61 = .ok (.invokestatic 80, 3) := by decide +kernel
theorem dX4_growth_64 : decode cX4_growth 64 = .ok (.isub, 1) := by decide +kernel
theorem dX4_growth_65 : decode cX4_growth 65 = .ok (.iconst 1, 1) := by decide +kernel
theorem dX4_growth_66 : decode cX4_growth 66 = .ok (.iadd, 1) := by decide +kernel
theorem dX4_growth_67 : decode cX4_growth 67 = .ok (.istore 4, 2) := by decide +kernel
theorem dX4_growth_69 : decode cX4_growth 69 = .ok (.iload_n 3, 1) := by decide +kernel
theorem dX4_growth_70 : decode cX4_growth 70 = .ok (.iload 4, 2) := by decide +kernel
theorem dX4_growth_72 : decode cX4_growth 72 = .ok (.imul, 1) := by decide +kernel
theorem dX4_growth_73 : decode cX4_growth 73 = .ok (.aload_n 0, 1) := by decide +kernel
theorem dX4_growth_74 : decode cX4_growth 74 = .ok (.iload_n 1, 1) := by decide +kernel
theorem dX4_growth_75 : decode cX4_growth 75 = .ok (.invokevirtual 83, 3) := by decide +kernel
theorem dX4_growth_78 : decode cX4_growth 78 = .ok (.isub, 1) := by decide +kernel
theorem dX4_growth_79 : decode cX4_growth 79 = .ok (.ireturn, 1) := by decide +kernel
theorem dX4_meet_0 : decode cX4_meet 0 = .ok (.aload_n 0, 1) := by decide +kernel
theorem dX4_meet_1 : decode cX4_meet 1 = .ok (.getfield 15, 3) := by decide +kernel
theorem dX4_meet_4 : decode cX4_meet 4 = .ok (.iload_n 1, 1) := by decide +kernel
theorem dX4_meet_5 : decode cX4_meet 5 = .ok (.iaload, 1) := by decide +kernel
theorem dX4_meet_6 : decode cX4_meet 6 = .ok (.aload_n 0, 1) := by decide +kernel
theorem dX4_meet_7 : decode cX4_meet 7 = .ok (.getfield 21, 3) := by decide +kernel
theorem dX4_meet_10 : decode cX4_meet 10 = .ok (.iload_n 2, 1) := by decide +kernel
theorem dX4_meet_11 : decode cX4_meet 11 = .ok (.iaload, 1) := by decide +kernel
theorem dX4_meet_12 : decode cX4_meet 12 = .ok (.if_icmp .gt 52, 3) := by decide +kernel
theorem dX4_meet_15 : decode cX4_meet 15 = .ok (.aload_n 0, 1) := by decide +kernel
theorem dX4_meet_16 : decode cX4_meet 16 = .ok (.getfield 15, 3) := by decide +kernel
theorem dX4_meet_19 : decode cX4_meet 19 = .ok (.iload_n 2, 1) := by decide +kernel
theorem dX4_meet_20 : decode cX4_meet 20 = .ok (.iaload, 1) := by decide +kernel
theorem dX4_meet_21 : decode cX4_meet 21 = .ok (.aload_n 0, 1) := by decide +kernel
theorem dX4_meet_22 : decode cX4_meet 22 = .ok (.getfield 21, 3) := by decide +kernel
theorem dX4_meet_25 : decode cX4_meet 25 = .ok (.iload_n 1, 1) := by decide +kernel
theorem dX4_meet_26 : decode cX4_meet 26 = .ok (.iaload, 1) := by decide +kernel
theorem dX4_meet_27 : decode cX4_meet 27 = .ok (.if_icmp .gt 37, 3) := by decide +kernel
theorem dX4_meet_30 : decode cX4_meet 30 = .ok (.aload_n 0, 1) := by decide +kernel
theorem dX4_meet_31 : decode cX4_meet 31 = .ok (.getfield 18, 3) := by decide +kernel
theorem dX4_meet_34 : decode cX4_meet 34 = .ok (.iload_n 1, 1) := by decide +kernel
theorem dX4_meet_35 : decode cX4_meet 35 = .ok (.iaload, 1) := by decide +kernel
theorem dX4_meet_36 : decode cX4_meet 36 = .ok (.aload_n 0, 1) := by decide +kernel
theorem dX4_meet_37 : decode cX4_meet 37 = .ok (.getfield 24, 3) := by decide +kernel
theorem dX4_meet_40 : decode cX4_meet 40 = .ok (.iload_n 2, 1) := by decide +kernel
theorem dX4_meet_41 : decode cX4_meet 41 = .ok (.iaload, 1) := by decide +kernel
theorem dX4_meet_42 : decode cX4_meet 42 = .ok (.if_icmp .gt 22, 3) := by decide +kernel
theorem dX4_meet_45 : decode cX4_meet 45 = .ok (.aload_n 0, 1) := by decide +kernel
theorem dX4_meet_46 : decode cX4_meet 46 = .ok (.getfield 18, 3) := by decide +kernel
theorem dX4_meet_49 : decode cX4_meet 49 = .ok (.iload_n 2, 1) := by decide +kernel
theorem dX4_meet_50 : decode cX4_meet 50 = .ok (.iaload, 1) := by decide +kernel
theorem dX4_meet_51 : decode cX4_meet 51 = .ok (.aload_n 0, 1) := by decide +kernel
theorem dX4_meet_52 : decode cX4_meet 52 = .ok (.getfield 24, 3) := by decide +kernel
theorem dX4_meet_55 : decode cX4_meet 55 = .ok (.iload_n 1, 1) := by decide +kernel
theorem dX4_meet_56 : decode cX4_meet 56 = .ok (.iaload, 1) := by decide +kernel
theorem dX4_meet_57 : decode cX4_meet 57 = .ok (.if_icmp .gt 7, 3) := by decide +kernel
theorem dX4_meet_60 : decode cX4_meet 60 = .ok (.iconst 1, 1) := by decide +kernel
theorem dX4_meet_61 : decode cX4_meet 61 = .ok (.goto 4, 3) := by decide +kernel
theorem dX4_meet_64 : decode cX4_meet 64 = .ok (.iconst 0, 1) := by decide +kernel
theorem dX4_meet_65 : decode cX4_meet 65 = .ok (.ireturn, 1) := by decide +kernel
theorem dX4_sameRectangle_0 : decode cX4_sameRectangle 0 = .ok (.aload_n 0, 1) := by decide +kernel
theorem dX4_sameRectangle_1 : decode cX4_sameRectangle 1 = .ok (.getfield 15, 3) := by decide +kernel
theorem dX4_sameRectangle_4 : decode cX4_sameRectangle 4 = .ok (.iload_n 1, 1) := by decide +kernel
theorem dX4_sameRectangle_5 : decode cX4_sameRectangle 5 = .ok (.iaload, 1) := by decide +kernel
theorem dX4_sameRectangle_6 : decode cX4_sameRectangle 6 = .ok (.aload_n 0, 1) := by decide +kernel
theorem dX4_sameRectangle_7 : decode cX4_sameRectangle 7 = .ok (.getfield 15, 3) := by decide +kernel
theorem dX4_sameRectangle_10 : decode cX4_sameRectangle 10 = .ok (.iload_n 2, 1) := by decide +kernel
theorem dX4_sameRectangle_11 : decode cX4_sameRectangle 11 = .ok (.iaload, 1) := by decide +kernel
theorem dX4_sameRectangle_12 : decode cX4_sameRectangle 12 = .ok (.if_icmp .ne 52, 3) := by decide +kernel
theorem dX4_sameRectangle_15 : decode cX4_sameRectangle 15 = .ok (.aload_n 0, 1) := by decide +kernel
theorem dX4_sameRectangle_16 : decode cX4_sameRectangle 16 = .ok (.getfield 18, 3) := by decide +kernel
theorem dX4_sameRectangle_19 : decode cX4_sameRectangle 19 = .ok (.iload_n 1, 1) := by decide +kernel
theorem dX4_sameRectangle_20 : decode cX4_sameRectangle 20 = .ok (.iaload, 1) := by decide +kernel
theorem dX4_sameRectangle_21 : decode cX4_sameRectangle 21 = .ok (.aload_n 0, 1) := by decide +kernel
theorem dX4_sameRectangle_22 : decode cX4_sameRectangle 22 = .ok (.getfield 18, 3) := by decide +kernel
theorem dX4_sameRectangle_25 : decode cX4_sameRectangle 25 = .ok (.iload_n 2, 1) := by decide +kernel
theorem dX4_sameRectangle_26 : decode cX4_sameRectangle 26 = .ok (.iaload, 1) := by decide +kernel
theorem dX4_sameRectangle_27 : decode cX4_sameRectangle 27 = .ok (.if_icmp .ne 37, 3) := by decide +kernel
theorem dX4_sameRectangle_30 : decode cX4_sameRectangle 30 = .ok (.aload_n 0, 1) := by decide +kernel
theorem dX4_sameRectangle_31 : decode cX4_sameRectangle 31 = .ok (.getfield 21, 3) := by decide +kernel
theorem dX4_sameRectangle_34 : decode cX4_sameRectangle 34 = .ok (.iload_n 1, 1) := by decide +kernel
theorem dX4_sameRectangle_35 : decode cX4_sameRectangle 35 = .ok (.iaload, 1) := by decide +kernel
theorem dX4_sameRectangle_36 : decode cX4_sameRectangle 36 = .ok (.aload_n 0, 1) := by decide +kernel
theorem dX4_sameRectangle_37 : decode cX4_sameRectangle 37 = .ok (.getfield 21, 3) := by decide +kernel
theorem dX4_sameRectangle_40 : decode cX4_sameRectangle 40 = .ok (.iload_n 2, 1) := by decide +kernel
theorem dX4_sameRectangle_41 : decode cX4_sameRectangle 41 = .ok (.iaload, 1) := by decide +kernel
theorem dX4_sameRectangle_42 : decode cX4_sameRectangle 42 = .ok (.if_icmp .ne 22, 3) := by decide +kernel
theorem dX4_sameRectangle_45 : decode cX4_sameRectangle 45 = .ok (.aload_n 0, 1) := by decide +kernel
theorem dX4_sameRectangle_46 : decode cX4_sameRectangle 46 = .ok (.getfield 24, 3) := by decide +kernel
theorem dX4_sameRectangle_49 : decode cX4_sameRectangle 49 = .ok (.iload_n 1, 1) := by decide +kernel
theorem dX4_sameRectangle_50 : decode cX4_sameRectangle 50 = .ok (.iaload, 1) := by decide +kernel
theorem dX4_sameRectangle_51 : decode cX4_sameRectangle 51 = .ok (.aload_n 0, 1) := by decide +kernel
theorem dX4_sameRectangle_52 : decode cX4_sameRectangle 52 = .ok (.getfield 24, 3) := by decide +kernel
theorem dX4_sameRectangle_55 : decode cX4_sameRectangle 55 = .ok (.iload_n 2, 1) := by decide +kernel
theorem dX4_sameRectangle_56 : decode cX4_sameRectangle 56 = .ok (.iaload, 1) := by decide +kernel
theorem dX4_sameRectangle_57 : decode cX4_sameRectangle 57 = .ok (.if_icmp .ne 7, 3) := by decide +kernel
theorem dX4_sameRectangle_60 : decode cX4_sameRectangle 60 = .ok (.iconst 1, 1) := by decide +kernel
theorem dX4_sameRectangle_61 : decode cX4_sameRectangle 61 = .ok (.goto 4, 3) := by decide +kernel
theorem dX4_sameRectangle_64 : decode cX4_sameRectangle 64 = .ok (.iconst 0, 1) := by decide +kernel
theorem dX4_sameRectangle_65 : decode cX4_sameRectangle 65 = .ok (.ireturn, 1) := by decide +kernel
theorem dX4_alike_0 : decode cX4_alike 0 = .ok (.aload_n 0, 1) := by decide +kernel
theorem dX4_alike_1 : decode cX4_alike 1 = .ok (.getfield 27, 3) := by decide +kernel
theorem dX4_alike_4 : decode cX4_alike 4 = .ok (.iload_n 1, 1) := by decide +kernel
theorem dX4_alike_5 : decode cX4_alike 5 = .ok (.iaload, 1) := by decide +kernel
theorem dX4_alike_6 : decode cX4_alike 6 = .ok (.aload_n 0, 1) := by decide +kernel
theorem dX4_alike_7 : decode cX4_alike 7 = .ok (.getfield 27, 3) := by decide +kernel
theorem dX4_alike_10 : decode cX4_alike 10 = .ok (.iload_n 2, 1) := by decide +kernel
theorem dX4_alike_11 : decode cX4_alike 11 = .ok (.iaload, 1) := by decide +kernel
theorem dX4_alike_12 : decode cX4_alike 12 = .ok (.if_icmp .ne 16, 3) := by decide +kernel
theorem dX4_alike_15 : decode cX4_alike 15 = .ok (.aload_n 0, 1) := by decide +kernel
theorem dX4_alike_16 : decode cX4_alike 16 = .ok (.iload_n 1, 1) := by decide +kernel
theorem dX4_alike_17 : decode cX4_alike 17 = .ok (.iload_n 2, 1) := by decide +kernel
theorem dX4_alike_18 : decode cX4_alike 18 = .ok (.invokevirtual 87, 3) := by decide +kernel
theorem dX4_alike_21 : decode cX4_alike 21 = .ok (.ifCond .eq 7, 3) := by decide +kernel
theorem dX4_alike_24 : decode cX4_alike 24 = .ok (.iconst 1, 1) := by decide +kernel
theorem dX4_alike_25 : decode cX4_alike 25 = .ok (.goto 4, 3) := by decide +kernel
theorem dX4_alike_28 : decode cX4_alike 28 = .ok (.iconst 0, 1) := by decide +kernel
theorem dX4_alike_29 : decode cX4_alike 29 = .ok (.ireturn, 1) := by decide +kernel
theorem dX4_copyRectangle_0 : decode cX4_copyRectangle 0 = .ok (.aload_n 0, 1) := by decide +kernel
theorem dX4_copyRectangle_1 : decode cX4_copyRectangle 1 = .ok (.getfield 15, 3) := by decide +kernel
theorem dX4_copyRectangle_4 : decode cX4_copyRectangle 4 = .ok (.iload_n 2, 1) := by decide +kernel
theorem dX4_copyRectangle_5 : decode cX4_copyRectangle 5 = .ok (.aload_n 0, 1) := by decide +kernel
theorem dX4_copyRectangle_6 : decode cX4_copyRectangle 6 = .ok (.getfield 15, 3) := by decide +kernel
theorem dX4_copyRectangle_9 : decode cX4_copyRectangle 9 = .ok (.iload_n 1, 1) := by decide +kernel
theorem dX4_copyRectangle_10 : decode cX4_copyRectangle 10 = .ok (.iaload, 1) := by decide +kernel
theorem dX4_copyRectangle_11 : decode cX4_copyRectangle 11 = .ok (.iastore, 1) := by decide +kernel
theorem dX4_copyRectangle_12 : decode cX4_copyRectangle 12 = .ok (.aload_n 0, 1) := by decide +kernel
theorem dX4_copyRectangle_13 : decode cX4_copyRectangle 13 = .ok (.getfield 18, 3) := by decide +kernel
theorem dX4_copyRectangle_16 : decode cX4_copyRectangle 16 = .ok (.iload_n 2, 1) := by decide +kernel
theorem dX4_copyRectangle_17 : decode cX4_copyRectangle 17 = .ok (.aload_n 0, 1) := by decide +kernel
theorem dX4_copyRectangle_18 : decode cX4_copyRectangle 18 = .ok (.getfield 18, 3) := by decide +kernel
theorem dX4_copyRectangle_21 : decode cX4_copyRectangle 21 = .ok (.iload_n 1, 1) := by decide +kernel
theorem dX4_copyRectangle_22 : decode cX4_copyRectangle 22 = .ok (.iaload, 1) := by decide +kernel
theorem dX4_copyRectangle_23 : decode cX4_copyRectangle 23 = .ok (.iastore, 1) := by decide +kernel
theorem dX4_copyRectangle_24 : decode cX4_copyRectangle 24 = .ok (.aload_n 0, 1) := by decide +kernel
theorem dX4_copyRectangle_25 : decode cX4_copyRectangle 25 = .ok (.getfield 21, 3) := by decide +kernel
theorem dX4_copyRectangle_28 : decode cX4_copyRectangle 28 = .ok (.iload_n 2, 1) := by decide +kernel
theorem dX4_copyRectangle_29 : decode cX4_copyRectangle 29 = .ok (.aload_n 0, 1) := by decide +kernel
theorem dX4_copyRectangle_30 : decode cX4_copyRectangle 30 = .ok (.getfield 21, 3) := by decide +kernel
theorem dX4_copyRectangle_33 : decode cX4_copyRectangle 33 = .ok (.iload_n 1, 1) := by decide +kernel
theorem dX4_copyRectangle_34 : decode cX4_copyRectangle 34 = .ok (.iaload, 1) := by decide +kernel
theorem dX4_copyRectangle_35 : decode cX4_copyRectangle 35 = .ok (.iastore, 1) := by decide +kernel
theorem dX4_copyRectangle_36 : decode cX4_copyRectangle 36 = .ok (.aload_n 0, 1) := by decide +kernel
theorem dX4_copyRectangle_37 : decode cX4_copyRectangle 37 = .ok (.getfield 24, 3) := by decide +kernel
theorem dX4_copyRectangle_40 : decode cX4_copyRectangle 40 = .ok (.iload_n 2, 1) := by decide +kernel
theorem dX4_copyRectangle_41 : decode cX4_copyRectangle 41 = .ok (.aload_n 0, 1) := by decide +kernel
theorem dX4_copyRectangle_42 : decode cX4_copyRectangle 42 = .ok (.getfield 24, 3) := by decide +kernel
theorem dX4_copyRectangle_45 : decode cX4_copyRectangle 45 = .ok (.iload_n 1, 1) := by decide +kernel
theorem dX4_copyRectangle_46 : decode cX4_copyRectangle 46 = .ok (.iaload, 1) := by decide +kernel
theorem dX4_copyRectangle_47 : decode cX4_copyRectangle 47 = .ok (.iastore, 1) := by decide +kernel
theorem dX4_copyRectangle_48 : decode cX4_copyRectangle 48 = .ok (.return_, 1) := by decide +kernel
theorem dX4_cover_0 : decode cX4_cover 0 = .ok (.aload_n 0, 1) := by decide +kernel
theorem dX4_cover_1 : decode cX4_cover 1 = .ok (.getfield 15, 3) := by decide +kernel
theorem dX4_cover_4 : decode cX4_cover 4 = .ok (.iload_n 1, 1) := by decide +kernel
theorem dX4_cover_5 : decode cX4_cover 5 = .ok (.aload_n 0, 1) := by decide +kernel
theorem dX4_cover_6 : decode cX4_cover 6 = .ok (.getfield 15, 3) := by decide +kernel
theorem dX4_cover_9 : decode cX4_cover 9 = .ok (.iload_n 1, 1) := by decide +kernel
theorem dX4_cover_10 : decode cX4_cover 10 = .ok (.iaload, 1) := by decide +kernel
theorem dX4_cover_11 : decode cX4_cover 11 = .ok (.aload_n 0, 1) := by decide +kernel
theorem dX4_cover_12 : decode cX4_cover 12 = .ok (.getfield 15, 3) := by decide +kernel
theorem dX4_cover_15 : decode cX4_cover 15 = .ok (.iload_n 2, 1) := by decide +kernel
theorem dX4_cover_16 : decode cX4_cover 16 = .ok (.iaload, 1) := by decide +kernel
theorem dX4_cover_17 : decode cX4_cover 17 = .ok (.invokestatic 80, 3) := by decide +kernel
theorem dX4_cover_20 : decode cX4_cover 20 = .ok (.iastore, 1) := by decide +kernel
theorem dX4_cover_21 : decode cX4_cover 21 = .ok (.aload_n 0, 1) := by decide +kernel
theorem dX4_cover_22 : decode cX4_cover 22 = .ok (.getfield 18, 3) := by decide +kernel
theorem dX4_cover_25 : decode cX4_cover 25 = .ok (.iload_n 1, 1) := by decide +kernel
theorem dX4_cover_26 : decode cX4_cover 26 = .ok (.aload_n 0, 1) := by decide +kernel
theorem dX4_cover_27 : decode cX4_cover 27 = .ok (.getfield 18, 3) := by decide +kernel
theorem dX4_cover_30 : decode cX4_cover 30 = .ok (.iload_n 1, 1) := by decide +kernel
theorem dX4_cover_31 : decode cX4_cover 31 = .ok (.iaload, 1) := by decide +kernel
theorem dX4_cover_32 : decode cX4_cover 32 = .ok (.aload_n 0, 1) := by decide +kernel
theorem dX4_cover_33 : decode cX4_cover 33 = .ok (.getfield 18, 3) := by decide +kernel
theorem dX4_cover_36 : decode cX4_cover 36 = .ok (.iload_n 2, 1) := by decide +kernel
theorem dX4_cover_37 : decode cX4_cover 37 = .ok (.iaload, 1) := by decide +kernel
theorem dX4_cover_38 : decode cX4_cover 38 = .ok (.invokestatic 80, 3) := by decide +kernel
theorem dX4_cover_41 : decode cX4_cover 41 = .ok (.iastore, 1) := by decide +kernel
theorem dX4_cover_42 : decode cX4_cover 42 = .ok (.aload_n 0, 1) := by decide +kernel
theorem dX4_cover_43 : decode cX4_cover 43 = .ok (.getfield 21, 3) := by decide +kernel
theorem dX4_cover_46 : decode cX4_cover 46 = .ok (.iload_n 1, 1) := by decide +kernel
theorem dX4_cover_47 : decode cX4_cover 47 = .ok (.aload_n 0, 1) := by decide +kernel
theorem dX4_cover_48 : decode cX4_cover 48 = .ok (.getfield 21, 3) := by decide +kernel
theorem dX4_cover_51 : decode cX4_cover 51 = .ok (.iload_n 1, 1) := by decide +kernel
theorem dX4_cover_52 : decode cX4_cover 52 = .ok (.iaload, 1) := by decide +kernel
theorem dX4_cover_53 : decode cX4_cover 53 = .ok (.aload_n 0, 1) := by decide +kernel
theorem dX4_cover_54 : decode cX4_cover 54 = .ok (.getfield 21, 3) := by decide +kernel
theorem dX4_cover_57 : decode cX4_cover 57 = .ok (.iload_n 2, 1) := by decide +kernel
theorem dX4_cover_58 : decode cX4_cover 58 = .ok (.iaload, 1) := by decide +kernel
theorem dX4_cover_59 : decode cX4_cover 59 = .ok (.invokestatic 74, 3) := by decide +kernel
theorem dX4_cover_62 : decode cX4_cover 62 = .ok (.iastore, 1) := by decide +kernel
theorem dX4_cover_63 : decode cX4_cover 63 = .ok (.aload_n 0, 1) := by decide +kernel
theorem dX4_cover_64 : decode cX4_cover 64 = .ok (.getfield 24, 3) := by decide +kernel
theorem dX4_cover_67 : decode cX4_cover 67 = .ok (.iload_n 1, 1) := by decide +kernel
theorem dX4_cover_68 : decode cX4_cover 68 = .ok (.aload_n 0, 1) := by decide +kernel
theorem dX4_cover_69 : decode cX4_cover 69 = .ok (.getfield 24, 3) := by decide +kernel
theorem dX4_cover_72 : decode cX4_cover 72 = .ok (.iload_n 1, 1) := by decide +kernel
theorem dX4_cover_73 : decode cX4_cover 73 = .ok (.iaload, 1) := by decide +kernel
theorem dX4_cover_74 : decode cX4_cover 74 = .ok (.aload_n 0, 1) := by decide +kernel
theorem dX4_cover_75 : decode cX4_cover 75 = .ok (.getfield 24, 3) := by decide +kernel
theorem dX4_cover_78 : decode cX4_cover 78 = .ok (.iload_n 2, 1) := by decide +kernel
theorem dX4_cover_79 : decode cX4_cover 79 = .ok (.iaload, 1) := by decide +kernel
theorem dX4_cover_80 : decode cX4_cover 80 = .ok (.invokestatic 74, 3) := by decide +kernel
theorem dX4_cover_83 : decode cX4_cover 83 = .ok (.iastore, 1) := by decide +kernel
theorem dX4_cover_84 : decode cX4_cover 84 = .ok (.return_, 1) := by decide +kernel
theorem dX4_squareTo_0 : decode cX4_squareTo 0 = .ok (.iconst 0, 1) := by decide +kernel
theorem dX4_squareTo_1 : decode cX4_squareTo 1 = .ok (.aload_n 0, 1) := by decide +kernel
theorem dX4_squareTo_2 : decode cX4_squareTo 2 = .ok (.getfield 15, 3) := by decide +kernel
theorem dX4_squareTo_5 : decode cX4_squareTo 5 = .ok (.iload_n 1, 1) := by decide +kernel
theorem dX4_squareTo_6 : decode cX4_squareTo 6 = .ok (.iaload, 1) := by decide +kernel
theorem dX4_squareTo_7 : decode cX4_squareTo 7 = .ok (.iload_n 2, 1) := by decide +kernel
theorem dX4_squareTo_8 : decode cX4_squareTo 8 = .ok (.isub, 1) := by decide +kernel
theorem dX4_squareTo_9 : decode cX4_squareTo 9 = .ok (.iload_n 2, 1) := by decide +kernel
theorem dX4_squareTo_10 : decode cX4_squareTo 10 = .ok (.aload_n 0, 1) := by decide +kernel
theorem dX4_squareTo_11 : decode cX4_squareTo 11 = .ok (.getfield 21, 3) := by decide +kernel
theorem dX4_squareTo_14 : decode cX4_squareTo 14 = .ok (.iload_n 1, 1) := by decide +kernel
theorem dX4_squareTo_15 : decode cX4_squareTo 15 = .ok (.iaload, 1) := by decide +kernel
theorem dX4_squareTo_16 : decode cX4_squareTo 16 = .ok (.isub, 1) := by decide +kernel
theorem dX4_squareTo_17 : decode cX4_squareTo 17 = .ok (.invokestatic 74, 3) := by decide +kernel
theorem dX4_squareTo_20 : decode cX4_squareTo 20 = .ok (.invokestatic 74, 3) := by decide +kernel
theorem dX4_squareTo_23 : decode cX4_squareTo 23 = .ok (.istore 4, 2) := by decide +kernel
theorem dX4_squareTo_25 : decode cX4_squareTo 25 = .ok (.iconst 0, 1) := by decide +kernel
theorem dX4_squareTo_26 : decode cX4_squareTo 26 = .ok (.aload_n 0, 1) := by decide +kernel
theorem dX4_squareTo_27 : decode cX4_squareTo 27 = .ok (.getfield 18, 3) := by decide +kernel
theorem dX4_squareTo_30 : decode cX4_squareTo 30 = .ok (.iload_n 1, 1) := by decide +kernel
theorem dX4_squareTo_31 : decode cX4_squareTo 31 = .ok (.iaload, 1) := by decide +kernel
theorem dX4_squareTo_32 : decode cX4_squareTo 32 = .ok (.iload_n 3, 1) := by decide +kernel
theorem dX4_squareTo_33 : decode cX4_squareTo 33 = .ok (.isub, 1) := by decide +kernel
theorem dX4_squareTo_34 : decode cX4_squareTo 34 = .ok (.iload_n 3, 1) := by decide +kernel
theorem dX4_squareTo_35 : decode cX4_squareTo 35 = .ok (.aload_n 0, 1) := by decide +kernel
theorem dX4_squareTo_36 : decode cX4_squareTo 36 = .ok (.getfield 24, 3) := by decide +kernel
theorem dX4_squareTo_39 : decode cX4_squareTo 39 = .ok (.iload_n 1, 1) := by decide +kernel
theorem dX4_squareTo_40 : decode cX4_squareTo 40 = .ok (.iaload, 1) := by decide +kernel
theorem dX4_squareTo_41 : decode cX4_squareTo 41 = .ok (.isub, 1) := by decide +kernel
theorem dX4_squareTo_42 : decode cX4_squareTo 42 = .ok (.invokestatic 74, 3) := by decide +kernel
theorem dX4_squareTo_45 : decode cX4_squareTo 45 = .ok (.invokestatic 74, 3) := by decide +kernel
theorem dX4_squareTo_48 : decode cX4_squareTo 48 = .ok (.istore 5, 2) := by decide +kernel
theorem dX4_squareTo_50 : decode cX4_squareTo 50 = .ok (.iload 4, 2) := by decide +kernel
theorem dX4_squareTo_52 : decode cX4_squareTo 52 = .ok (.iload 4, 2) := by decide +kernel
theorem dX4_squareTo_54 : decode cX4_squareTo 54 = .ok (.imul, 1) := by decide +kernel
theorem dX4_squareTo_55 : decode cX4_squareTo 55 = .ok (.iload 5, 2) := by decide +kernel
theorem dX4_squareTo_57 : decode cX4_squareTo 57 = .ok (.iload 5, 2) := by decide +kernel
theorem dX4_squareTo_59 : decode cX4_squareTo 59 = .ok (.imul, 1) := by decide +kernel
theorem dX4_squareTo_60 : decode cX4_squareTo 60 = .ok (.iadd, 1) := by decide +kernel
theorem dX4_squareTo_61 : decode cX4_squareTo 61 = .ok (.ireturn, 1) := by decide +kernel
theorem dX4_compareNames_0 : decode cX4_compareNames 0 = .ok (.aload_n 0, 1) := by decide +kernel
theorem dX4_compareNames_1 : decode cX4_compareNames 1 = .ok (.getfield 27, 3) := by decide +kernel
theorem dX4_compareNames_4 : decode cX4_compareNames 4 = .ok (.iload_n 1, 1) := by decide +kernel
theorem dX4_compareNames_5 : decode cX4_compareNames 5 = .ok (.iaload, 1) := by decide +kernel
theorem dX4_compareNames_6 : decode cX4_compareNames 6 = .ok (.aload_n 0, 1) := by decide +kernel
theorem dX4_compareNames_7 : decode cX4_compareNames 7 = .ok (.getfield 27, 3) := by decide +kernel
theorem dX4_compareNames_10 : decode cX4_compareNames 10 = .ok (.iload_n 2, 1) := by decide +kernel
theorem dX4_compareNames_11 : decode cX4_compareNames 11 = .ok (.iaload, 1) := by decide +kernel
theorem dX4_compareNames_12 : decode cX4_compareNames 12 = .ok (.if_icmp .eq 19, 3) := by decide +kernel
theorem dX4_compareNames_15 : decode cX4_compareNames 15 = .ok (.aload_n 0, 1) := by decide +kernel
theorem dX4_compareNames_16 : decode cX4_compareNames 16 = .ok (.getfield 27, 3) := by decide +kernel
theorem dX4_compareNames_19 : decode cX4_compareNames 19 = .ok (.iload_n 1, 1) := by decide +kernel
theorem dX4_compareNames_20 : decode cX4_compareNames 20 = .ok (.iaload, 1) := by decide +kernel
theorem dX4_compareNames_21 : decode cX4_compareNames 21 = .ok (.aload_n 0, 1) := by decide +kernel
theorem dX4_compareNames_22 : decode cX4_compareNames 22 = .ok (.getfield 27, 3) := by decide +kernel
theorem dX4_compareNames_25 : decode cX4_compareNames 25 = .ok (.iload_n 2, 1) := by decide +kernel
theorem dX4_compareNames_26 : decode cX4_compareNames 26 = .ok (.iaload, 1) := by decide +kernel
theorem dX4_compareNames_27 : decode cX4_compareNames 27 = .ok (.invokestatic 91, 3) := by decide +kernel
theorem dX4_compareNames_30 : decode cX4_compareNames 30 = .ok (.ireturn, 1) := by decide +kernel
theorem dX4_compareNames_31 : decode cX4_compareNames 31 = .ok (.aload_n 0, 1) := by decide +kernel
theorem dX4_compareNames_32 : decode cX4_compareNames 32 = .ok (.getfield 15, 3) := by decide +kernel
theorem dX4_compareNames_35 : decode cX4_compareNames 35 = .ok (.iload_n 1, 1) := by decide +kernel
theorem dX4_compareNames_36 : decode cX4_compareNames 36 = .ok (.iaload, 1) := by decide +kernel
theorem dX4_compareNames_37 : decode cX4_compareNames 37 = .ok (.aload_n 0, 1) := by decide +kernel
theorem dX4_compareNames_38 : decode cX4_compareNames 38 = .ok (.getfield 15, 3) := by decide +kernel
theorem dX4_compareNames_41 : decode cX4_compareNames 41 = .ok (.iload_n 2, 1) := by decide +kernel
theorem dX4_compareNames_42 : decode cX4_compareNames 42 = .ok (.iaload, 1) := by decide +kernel
theorem dX4_compareNames_43 : decode cX4_compareNames 43 = .ok (.if_icmp .eq 19, 3) := by decide +kernel
theorem dX4_compareNames_46 : decode cX4_compareNames 46 = .ok (.aload_n 0, 1) := by decide +kernel
theorem dX4_compareNames_47 : decode cX4_compareNames 47 = .ok (.getfield 15, 3) := by decide +kernel
theorem dX4_compareNames_50 : decode cX4_compareNames 50 = .ok (.iload_n 1, 1) := by decide +kernel
theorem dX4_compareNames_51 : decode cX4_compareNames 51 = .ok (.iaload, 1) := by decide +kernel
theorem dX4_compareNames_52 : decode cX4_compareNames 52 = .ok (.aload_n 0, 1) := by decide +kernel
theorem dX4_compareNames_53 : decode cX4_compareNames 53 = .ok (.getfield 15, 3) := by decide +kernel
theorem dX4_compareNames_56 : decode cX4_compareNames 56 = .ok (.iload_n 2, 1) := by decide +kernel
theorem dX4_compareNames_57 : decode cX4_compareNames 57 = .ok (.iaload, 1) := by decide +kernel
theorem dX4_compareNames_58 : decode cX4_compareNames 58 = .ok (.invokestatic 91, 3) := by decide +kernel
theorem dX4_compareNames_61 : decode cX4_compareNames 61 = .ok (.ireturn, 1) := by decide +kernel
theorem dX4_compareNames_62 : decode cX4_compareNames 62 = .ok (.aload_n 0, 1) := by decide +kernel
theorem dX4_compareNames_63 : decode cX4_compareNames 63 = .ok (.getfield 18, 3) := by decide +kernel
theorem dX4_compareNames_66 : decode cX4_compareNames 66 = .ok (.iload_n 1, 1) := by decide +kernel
theorem dX4_compareNames_67 : decode cX4_compareNames 67 = .ok (.iaload, 1) := by decide +kernel
theorem dX4_compareNames_68 : decode cX4_compareNames 68 = .ok (.aload_n 0, 1) := by decide +kernel
theorem dX4_compareNames_69 : decode cX4_compareNames 69 = .ok (.getfield 18, 3) := by decide +kernel
theorem dX4_compareNames_72 : decode cX4_compareNames 72 = .ok (.iload_n 2, 1) := by decide +kernel
theorem dX4_compareNames_73 : decode cX4_compareNames 73 = .ok (.iaload, 1) := by decide +kernel
theorem dX4_compareNames_74 : decode cX4_compareNames 74 = .ok (.if_icmp .eq 19, 3) := by decide +kernel
theorem dX4_compareNames_77 : decode cX4_compareNames 77 = .ok (.aload_n 0, 1) := by decide +kernel
theorem dX4_compareNames_78 : decode cX4_compareNames 78 = .ok (.getfield 18, 3) := by decide +kernel
theorem dX4_compareNames_81 : decode cX4_compareNames 81 = .ok (.iload_n 1, 1) := by decide +kernel
theorem dX4_compareNames_82 : decode cX4_compareNames 82 = .ok (.iaload, 1) := by decide +kernel
theorem dX4_compareNames_83 : decode cX4_compareNames 83 = .ok (.aload_n 0, 1) := by decide +kernel
theorem dX4_compareNames_84 : decode cX4_compareNames 84 = .ok (.getfield 18, 3) := by decide +kernel
theorem dX4_compareNames_87 : decode cX4_compareNames 87 = .ok (.iload_n 2, 1) := by decide +kernel
theorem dX4_compareNames_88 : decode cX4_compareNames 88 = .ok (.iaload, 1) := by decide +kernel
theorem dX4_compareNames_89 : decode cX4_compareNames 89 = .ok (.invokestatic 91, 3) := by decide +kernel
theorem dX4_compareNames_92 : decode cX4_compareNames 92 = .ok (.ireturn, 1) := by decide +kernel
theorem dX4_compareNames_93 : decode cX4_compareNames 93 = .ok (.aload_n 0, 1) := by decide +kernel
theorem dX4_compareNames_94 : decode cX4_compareNames 94 = .ok (.getfield 21, 3) := by decide +kernel
theorem dX4_compareNames_97 : decode cX4_compareNames 97 = .ok (.iload_n 1, 1) := by decide +kernel
theorem dX4_compareNames_98 : decode cX4_compareNames 98 = .ok (.iaload, 1) := by decide +kernel
theorem dX4_compareNames_99 : decode cX4_compareNames 99 = .ok (.aload_n 0, 1) := by decide +kernel
theorem dX4_compareNames_100 : decode cX4_compareNames 100 = .ok (.getfield 21, 3) := by decide +kernel
theorem dX4_compareNames_103 : decode cX4_compareNames 103 = .ok (.iload_n 2, 1) := by decide +kernel
theorem dX4_compareNames_104 : decode cX4_compareNames 104 = .ok (.iaload, 1) := by decide +kernel
theorem dX4_compareNames_105 : decode cX4_compareNames 105 = .ok (.if_icmp .eq 19, 3) := by decide +kernel
theorem dX4_compareNames_108 : decode cX4_compareNames 108 = .ok (.aload_n 0, 1) := by decide +kernel
theorem dX4_compareNames_109 : decode cX4_compareNames 109 = .ok (.getfield 21, 3) := by decide +kernel
theorem dX4_compareNames_112 : decode cX4_compareNames 112 = .ok (.iload_n 1, 1) := by decide +kernel
theorem dX4_compareNames_113 : decode cX4_compareNames 113 = .ok (.iaload, 1) := by decide +kernel
theorem dX4_compareNames_114 : decode cX4_compareNames 114 = .ok (.aload_n 0, 1) := by decide +kernel
theorem dX4_compareNames_115 : decode cX4_compareNames 115 = .ok (.getfield 21, 3) := by decide +kernel
theorem dX4_compareNames_118 : decode cX4_compareNames 118 = .ok (.iload_n 2, 1) := by decide +kernel
theorem dX4_compareNames_119 : decode cX4_compareNames 119 = .ok (.iaload, 1) := by decide +kernel
theorem dX4_compareNames_120 : decode cX4_compareNames 120 = .ok (.invokestatic 91, 3) := by decide +kernel
theorem dX4_compareNames_123 : decode cX4_compareNames 123 = .ok (.ireturn, 1) := by decide +kernel
theorem dX4_compareNames_124 : decode cX4_compareNames 124 = .ok (.aload_n 0, 1) := by decide +kernel
theorem dX4_compareNames_125 : decode cX4_compareNames 125 = .ok (.getfield 24, 3) := by decide +kernel
theorem dX4_compareNames_128 : decode cX4_compareNames 128 = .ok (.iload_n 1, 1) := by decide +kernel
theorem dX4_compareNames_129 : decode cX4_compareNames 129 = .ok (.iaload, 1) := by decide +kernel
theorem dX4_compareNames_130 : decode cX4_compareNames 130 = .ok (.aload_n 0, 1) := by decide +kernel
theorem dX4_compareNames_131 : decode cX4_compareNames 131 = .ok (.getfield 24, 3) := by decide +kernel
theorem dX4_compareNames_134 : decode cX4_compareNames 134 = .ok (.iload_n 2, 1) := by decide +kernel
theorem dX4_compareNames_135 : decode cX4_compareNames 135 = .ok (.iaload, 1) := by decide +kernel
theorem dX4_compareNames_136 : decode cX4_compareNames 136 = .ok (.invokestatic 91, 3) := by decide +kernel
theorem dX4_compareNames_139 : decode cX4_compareNames 139 = .ok (.ireturn, 1) := by decide +kernel
theorem dX4_entryLike_0 : decode cX4_entryLike 0 = .ok (.iconst 0, 1) := by decide +kernel
theorem dX4_entryLike_1 : decode cX4_entryLike 1 = .ok (.istore_n 2, 1) := by decide +kernel
theorem dX4_entryLike_2 : decode cX4_entryLike 2 = .ok (.iload_n 2, 1) := by decide +kernel
theorem dX4_entryLike_3 : decode cX4_entryLike 3 = .ok (.aload_n 0, 1) := by decide +kernel
theorem dX4_entryLike_4 : decode cX4_entryLike 4 = .ok (.getfield 58, 3) := by decide +kernel
theorem dX4_entryLike_7 : decode cX4_entryLike 7 = .ok (.if_icmp .ge 28, 3) := by decide +kernel
theorem dX4_entryLike_10 : decode cX4_entryLike 10 = .ok (.aload_n 0, 1) := by decide +kernel
theorem dX4_entryLike_11 : decode cX4_entryLike 11 = .ok (.iload_n 2, 1) := by decide +kernel
theorem dX4_entryLike_12 : decode cX4_entryLike 12 = .ok (.invokevirtual 96, 3) := by decide +kernel
theorem dX4_entryLike_15 : decode cX4_entryLike 15 = .ok (.ifCond .eq 14, 3) := by decide +kernel
theorem dX4_entryLike_18 : decode cX4_entryLike 18 = .ok (.aload_n 0, 1) := by decide +kernel
theorem dX4_entryLike_19 : decode cX4_entryLike 19 = .ok (.iload_n 2, 1) := by decide +kernel
theorem dX4_entryLike_20 : decode cX4_entryLike 20 = .ok (.iload_n 1, 1) := by decide +kernel
theorem dX4_entryLike_21 : decode cX4_entryLike 21 = .ok (.invokevirtual 100, 3) := by decide +kernel
theorem dX4_entryLike_24 : decode cX4_entryLike 24 = .ok (.ifCond .eq 5, 3) := by decide +kernel
theorem dX4_entryLike_27 : decode cX4_entryLike 27 = .ok (.iload_n 2, 1) := by decide +kernel
theorem dX4_entryLike_28 : decode cX4_entryLike 28 = .ok (.ireturn, 1) := by decide +kernel
theorem dX4_entryLike_29 : decode cX4_entryLike 29 = .ok (.iinc 2 1, 3) := by decide +kernel
theorem dX4_entryLike_32 : decode cX4_entryLike 32 = .ok (.goto (-30), 3) := by decide +kernel
theorem dX4_entryLike_35 : decode cX4_entryLike 35 = .ok (.iconst (-1), 1) := by decide +kernel
theorem dX4_entryLike_36 : decode cX4_entryLike 36 = .ok (.ireturn, 1) := by decide +kernel
theorem dX4_entriesMeeting_0 : decode cX4_entriesMeeting 0 = .ok (.iconst 0, 1) := by decide +kernel
theorem dX4_entriesMeeting_1 : decode cX4_entriesMeeting 1 = .ok (.istore_n 3, 1) := by decide +kernel
theorem dX4_entriesMeeting_2 : decode cX4_entriesMeeting 2 = .ok (.iload_n 2, 1) := by decide +kernel
theorem dX4_entriesMeeting_3 : decode cX4_entriesMeeting 3 = .ok (.istore 4, 2) := by decide +kernel
theorem dX4_entriesMeeting_5 : decode cX4_entriesMeeting 5 = .ok (.iload 4, 2) := by decide +kernel
theorem dX4_entriesMeeting_7 : decode cX4_entriesMeeting 7 = .ok (.aload_n 0, 1) := by decide +kernel
theorem dX4_entriesMeeting_8 : decode cX4_entriesMeeting 8 = .ok (.getfield 58, 3) := by decide +kernel
theorem dX4_entriesMeeting_11 : decode cX4_entriesMeeting 11 = .ok (.if_icmp .ge 31, 3) := by decide +kernel
theorem dX4_entriesMeeting_14 : decode cX4_entriesMeeting 14 = .ok (.aload_n 0, 1) := by decide +kernel
theorem dX4_entriesMeeting_15 : decode cX4_entriesMeeting 15 = .ok (.iload 4, 2) := by decide +kernel
theorem dX4_entriesMeeting_17 : decode cX4_entriesMeeting 17 = .ok (.invokevirtual 96, 3) := by decide +kernel
theorem dX4_entriesMeeting_20 : decode cX4_entriesMeeting 20 = .ok (.ifCond .eq 16, 3) := by decide +kernel
theorem dX4_entriesMeeting_23 : decode cX4_entriesMeeting 23 = .ok (.aload_n 0, 1) := by decide +kernel
theorem dX4_entriesMeeting_24 : decode cX4_entriesMeeting 24 = .ok (.iload 4, 2) := by decide +kernel
theorem dX4_entriesMeeting_26 : decode cX4_entriesMeeting 26 = .ok (.iload_n 1, 1) := by decide +kernel
theorem dX4_entriesMeeting_27 : decode cX4_entriesMeeting 27 = .ok (.invokevirtual 103, 3) := by decide +kernel
theorem dX4_entriesMeeting_30 : decode cX4_entriesMeeting 30 = .ok (.ifCond .eq 6, 3) := by decide +kernel
theorem dX4_entriesMeeting_33 : decode cX4_entriesMeeting 33 = .ok (.iinc 3 1, 3) := by decide +kernel
theorem dX4_entriesMeeting_36 : decode cX4_entriesMeeting 36 = .ok (.iinc 4 1, 3) := by decide +kernel
theorem dX4_entriesMeeting_39 : decode cX4_entriesMeeting 39 = .ok (.goto (-34), 3) := by decide +kernel
theorem dX4_entriesMeeting_42 : decode cX4_entriesMeeting 42 = .ok (.iload_n 3, 1) := by decide +kernel
theorem dX4_entriesMeeting_43 : decode cX4_entriesMeeting 43 = .ok (.ireturn, 1) := by decide +kernel
theorem dX4_thingAt_0 : decode cX4_thingAt 0 = .ok (.iload_n 1, 1) := by decide +kernel
theorem dX4_thingAt_1 : decode cX4_thingAt 1 = .ok (.sipush 400, 3) := by decide +kernel
theorem dX4_thingAt_4 : decode cX4_thingAt 4 = .ok (.isub, 1) := by decide +kernel
theorem dX4_thingAt_5 : decode cX4_thingAt 5 = .ok (.aload_n 0, 1) := by decide +kernel
theorem dX4_thingAt_6 : decode cX4_thingAt 6 = .ok (.getfield 43, 3) := by decide +kernel
theorem dX4_thingAt_9 : decode cX4_thingAt 9 = .ok (.imul, 1) := by decide +kernel
theorem dX4_thingAt_10 : decode cX4_thingAt 10 = .ok (.iload_n 2, 1) := by decide +kernel
theorem dX4_thingAt_11 : decode cX4_thingAt 11 = .ok (.iadd, 1) := by decide +kernel
theorem dX4_thingAt_12 : decode cX4_thingAt 12 = .ok (.istore_n 3, 1) := by decide +kernel
theorem dX4_thingAt_13 : decode cX4_thingAt 13 = .ok (.iload_n 3, 1) := by decide +kernel
theorem dX4_thingAt_14 : decode cX4_thingAt 14 = .ok (.ifCond .lt 21, 3) := by decide +kernel
theorem dX4_thingAt_17 : decode cX4_thingAt 17 = .ok (.iload_n 3, 1) := by decide +kernel
theorem dX4_thingAt_18 : decode cX4_thingAt 18 = .ok (.aload_n 0, 1) := by decide +kernel
theorem dX4_thingAt_19 : decode cX4_thingAt 19 = .ok (.getfield 46, 3) := by decide +kernel
theorem dX4_thingAt_22 : decode cX4_thingAt 22 = .ok (.arraylength, 1) := by decide +kernel
theorem dX4_thingAt_23 : decode cX4_thingAt 23 = .ok (.if_icmp .ge 12, 3) := by decide +kernel
theorem dX4_thingAt_26 : decode cX4_thingAt 26 = .ok (.aload_n 0, 1) := by decide +kernel
theorem dX4_thingAt_27 : decode cX4_thingAt 27 = .ok (.getfield 46, 3) := by decide +kernel
theorem dX4_thingAt_30 : decode cX4_thingAt 30 = .ok (.iload_n 3, 1) := by decide +kernel
theorem dX4_thingAt_31 : decode cX4_thingAt 31 = .ok (.iaload, 1) := by decide +kernel
theorem dX4_thingAt_32 : decode cX4_thingAt 32 = .ok (.goto 6, 3) := by decide +kernel
theorem dX4_thingAt_35 : decode cX4_thingAt 35 = .ok (.sipush 806, 3) := by decide +kernel
theorem dX4_thingAt_38 : decode cX4_thingAt 38 = .ok (.ireturn, 1) := by decide +kernel
theorem dX4_placeAt_0 : decode cX4_placeAt 0 = .ok (.iload_n 1, 1) := by decide +kernel
theorem dX4_placeAt_1 : decode cX4_placeAt 1 = .ok (.sipush 400, 3) := by decide +kernel
theorem dX4_placeAt_4 : decode cX4_placeAt 4 = .ok (.isub, 1) := by decide +kernel
theorem dX4_placeAt_5 : decode cX4_placeAt 5 = .ok (.aload_n 0, 1) := by decide +kernel
theorem dX4_placeAt_6 : decode cX4_placeAt 6 = .ok (.getfield 43, 3) := by decide +kernel
theorem dX4_placeAt_9 : decode cX4_placeAt 9 = .ok (.imul, 1) := by decide +kernel
theorem dX4_placeAt_10 : decode cX4_placeAt 10 = .ok (.iload_n 2, 1) := by decide +kernel
theorem dX4_placeAt_11 : decode cX4_placeAt 11 = .ok (.iadd, 1) := by decide +kernel
theorem dX4_placeAt_12 : decode cX4_placeAt 12 = .ok (.istore 4, 2) := by decide +kernel
theorem dX4_placeAt_14 : decode cX4_placeAt 14 = .ok (.iload 4, 2) := by decide +kernel
theorem dX4_placeAt_16 : decode cX4_placeAt 16 = .ok (.ifCond .lt 21, 3) := by decide +kernel
theorem dX4_placeAt_19 : decode cX4_placeAt 19 = .ok (.iload 4, 2) := by decide +kernel
theorem dX4_placeAt_21 : decode cX4_placeAt 21 = .ok (.aload_n 0, 1) := by decide +kernel
theorem dX4_placeAt_22 : decode cX4_placeAt 22 = .ok (.getfield 46, 3) := by decide +kernel
theorem dX4_placeAt_25 : decode cX4_placeAt 25 = .ok (.arraylength, 1) := by decide +kernel
theorem dX4_placeAt_26 : decode cX4_placeAt 26 = .ok (.if_icmp .ge 11, 3) := by decide +kernel
theorem dX4_placeAt_29 : decode cX4_placeAt 29 = .ok (.aload_n 0, 1) := by decide +kernel
theorem dX4_placeAt_30 : decode cX4_placeAt 30 = .ok (.getfield 46, 3) := by decide +kernel
theorem dX4_placeAt_33 : decode cX4_placeAt 33 = .ok (.iload 4, 2) := by decide +kernel
theorem dX4_placeAt_35 : decode cX4_placeAt 35 = .ok (.iload_n 3, 1) := by decide +kernel
theorem dX4_placeAt_36 : decode cX4_placeAt 36 = .ok (.iastore, 1) := by decide +kernel
theorem dX4_placeAt_37 : decode cX4_placeAt 37 = .ok (.return_, 1) := by decide +kernel
theorem dX4_indexIn_0 : decode cX4_indexIn 0 = .ok (.iconst 0, 1) := by decide +kernel
theorem dX4_indexIn_1 : decode cX4_indexIn 1 = .ok (.istore_n 3, 1) := by decide +kernel
theorem dX4_indexIn_2 : decode cX4_indexIn 2 = .ok (.iload_n 3, 1) := by decide +kernel
theorem dX4_indexIn_3 : decode cX4_indexIn 3 = .ok (.aload_n 0, 1) := by decide +kernel
theorem dX4_indexIn_4 : decode cX4_indexIn 4 = .ok (.getfield 33, 3) := by decide +kernel
theorem dX4_indexIn_7 : decode cX4_indexIn 7 = .ok (.iload_n 1, 1) := by decide +kernel
theorem dX4_indexIn_8 : decode cX4_indexIn 8 = .ok (.iaload, 1) := by decide +kernel
theorem dX4_indexIn_9 : decode cX4_indexIn 9 = .ok (.if_icmp .ge 19, 3) := by decide +kernel
theorem dX4_indexIn_12 : decode cX4_indexIn 12 = .ok (.aload_n 0, 1) := by decide +kernel
theorem dX4_indexIn_13 : decode cX4_indexIn 13 = .ok (.iload_n 1, 1) := by decide +kernel
theorem dX4_indexIn_14 : decode cX4_indexIn 14 = .ok (.iload_n 3, 1) := by decide +kernel
theorem dX4_indexIn_15 : decode cX4_indexIn 15 = .ok (.invokevirtual 106, 3) := by decide +kernel
theorem dX4_indexIn_18 : decode cX4_indexIn 18 = .ok (.iload_n 2, 1) := by decide +kernel
theorem dX4_indexIn_19 : decode cX4_indexIn 19 = .ok (.if_icmp .eq 9, 3) := by decide +kernel
theorem dX4_indexIn_22 : decode cX4_indexIn 22 = .ok (.iinc 3 1, 3) := by decide +kernel
theorem dX4_indexIn_25 : decode cX4_indexIn 25 = .ok (.goto (-23), 3) := by decide +kernel
theorem dX4_indexIn_28 : decode cX4_indexIn 28 = .ok (.iload_n 3, 1) := by decide +kernel
theorem dX4_indexIn_29 : decode cX4_indexIn 29 = .ok (.ireturn, 1) := by decide +kernel
theorem dX4_attach_0 : decode cX4_attach 0 = .ok (.aload_n 0, 1) := by decide +kernel
theorem dX4_attach_1 : decode cX4_attach 1 = .ok (.getfield 33, 3) := by decide +kernel
theorem dX4_attach_4 : decode cX4_attach 4 = .ok (.iload_n 1, 1) := by decide +kernel
theorem dX4_attach_5 : decode cX4_attach 5 = .ok (.iaload, 1) := by decide +kernel
theorem dX4_attach_6 : decode cX4_attach 6 = .ok (.ifCond .ne 12, 3) := by decide +kernel
theorem dX4_attach_9 : decode cX4_attach 9 = .ok (.aload_n 0, 1) := by decide +kernel
theorem dX4_attach_10 : decode cX4_attach 10 = .ok (.iload_n 2, 1) := by decide +kernel
theorem dX4_attach_11 : decode cX4_attach 11 = .ok (.iload_n 1, 1) := by decide +kernel
theorem dX4_attach_12 : decode cX4_attach 12 = .ok (.invokevirtual 70, 3) := by decide +kernel
theorem dX4_attach_15 : decode cX4_attach 15 = .ok (.goto 9, 3) := by decide +kernel
theorem dX4_attach_18 : decode cX4_attach 18 = .ok (.aload_n 0, 1) := by decide +kernel
theorem dX4_attach_19 : decode cX4_attach 19 = .ok (.iload_n 1, 1) := by decide +kernel
theorem dX4_attach_20 : decode cX4_attach 20 = .ok (.iload_n 2, 1) := by decide +kernel
theorem dX4_attach_21 : decode cX4_attach 21 = .ok (.invokevirtual 109, 3) := by decide +kernel
theorem dX4_attach_24 : decode cX4_attach 24 = .ok (.aload_n 0, 1) := by decide +kernel
theorem dX4_attach_25 : decode cX4_attach 25 = .ok (.iload_n 1, 1) := by decide +kernel
theorem dX4_attach_26 : decode cX4_attach 26 = .ok (.aload_n 0, 1) := by decide +kernel
theorem dX4_attach_27 : decode cX4_attach 27 = .ok (.getfield 33, 3) := by decide +kernel
theorem dX4_attach_30 : decode cX4_attach 30 = .ok (.iload_n 1, 1) := by decide +kernel
theorem dX4_attach_31 : decode cX4_attach 31 = .ok (.iaload, 1) := by decide +kernel
theorem dX4_attach_32 : decode cX4_attach 32 = .ok (.iload_n 2, 1) := by decide +kernel
theorem dX4_attach_33 : decode cX4_attach 33 = .ok (.invokevirtual 112, 3) := by decide +kernel
theorem dX4_attach_36 : decode cX4_attach 36 = .ok (.return_, 1) := by decide +kernel
theorem dX4_attachBehind_0 : decode cX4_attachBehind 0 = .ok (.aload_n 0, 1) := by decide +kernel
theorem dX4_attachBehind_1 : decode cX4_attachBehind 1 = .ok (.getfield 30, 3) := by decide +kernel
theorem dX4_attachBehind_4 : decode cX4_attachBehind 4 = .ok (.iload_n 1, 1) := by decide +kernel
theorem dX4_attachBehind_5 : decode cX4_attachBehind 5 = .ok (.iaload, 1) := by decide +kernel
theorem dX4_attachBehind_6 : decode cX4_attachBehind 6 = .ok (.istore_n 3, 1) := by decide +kernel
theorem dX4_attachBehind_7 : decode cX4_attachBehind 7 = .ok (.iload_n 3, 1) := by decide +kernel
theorem dX4_attachBehind_8 : decode cX4_attachBehind 8 = .ok (.iconst (-1), 1) := by decide +kernel
theorem dX4_attachBehind_9 : decode cX4_attachBehind 9 = .ok (.if_icmp .eq 17, 3) := by decide +kernel
theorem dX4_attachBehind_12 : decode cX4_attachBehind 12 = .ok (.aload_n 0, 1) := by decide +kernel
theorem dX4_attachBehind_13 : decode cX4_attachBehind 13 = .ok (.iload_n 3, 1) := by decide +kernel
theorem dX4_attachBehind_14 : decode cX4_attachBehind 14 = .ok (.aload_n 0, 1) := by decide +kernel
theorem dX4_attachBehind_15 : decode cX4_attachBehind 15 = .ok (.iload_n 3, 1) := by decide +kernel
theorem dX4_attachBehind_16 : decode cX4_attachBehind 16 = .ok (.iload_n 1, 1) := by decide +kernel
theorem dX4_attachBehind_17 : decode cX4_attachBehind 17 = .ok (.invokevirtual 116, 3) := by decide +kernel
theorem dX4_attachBehind_20 : decode cX4_attachBehind 20 = .ok (.iconst 1, 1) := by decide +kernel
theorem dX4_attachBehind_21 : decode cX4_attachBehind 21 = .ok (.iadd, 1) := by decide +kernel
theorem dX4_attachBehind_22 : decode cX4_attachBehind 22 = .ok (.iload_n 2, 1) := by decide +kernel
theorem dX4_attachBehind_23 : decode cX4_attachBehind 23 = .ok (.invokevirtual 112, 3) := by decide +kernel
theorem dX4_attachBehind_26 : decode cX4_attachBehind 26 = .ok (.return_, 1) := by decide +kernel
theorem dX4_attachAt_0 : decode cX4_attachAt 0 = .ok (.aload_n 0, 1) := by decide +kernel
theorem dX4_attachAt_1 : decode cX4_attachAt 1 = .ok (.getfield 33, 3) := by decide +kernel
theorem dX4_attachAt_4 : decode cX4_attachAt 4 = .ok (.iload_n 1, 1) := by decide +kernel
theorem dX4_attachAt_5 : decode cX4_attachAt 5 = .ok (.iaload, 1) := by decide +kernel
theorem dX4_attachAt_6 : decode cX4_attachAt 6 = .ok (.istore 4, 2) := by decide +kernel
theorem dX4_attachAt_8 : decode cX4_attachAt 8 = .ok (.iload 4, 2) := by decide +kernel
theorem dX4_attachAt_10 : decode cX4_attachAt 10 = .ok (.iload_n 2, 1) := by decide +kernel
theorem dX4_attachAt_11 : decode cX4_attachAt 11 = .ok (.if_icmp .le 25, 3) := by decide +kernel
theorem dX4_attachAt_14 : decode cX4_attachAt 14 = .ok (.aload_n 0, 1) := by decide +kernel
theorem dX4_attachAt_15 : decode cX4_attachAt 15 = .ok (.iload_n 1, 1) := by decide +kernel
theorem dX4_attachAt_16 : decode cX4_attachAt 16 = .ok (.iload 4, 2) := by decide +kernel
theorem dX4_attachAt_18 : decode cX4_attachAt 18 = .ok (.aload_n 0, 1) := by decide +kernel
theorem dX4_attachAt_19 : decode cX4_attachAt 19 = .ok (.iload_n 1, 1) := by decide +kernel
theorem dX4_attachAt_20 : decode cX4_attachAt 20 = .ok (.iload 4, 2) := by decide +kernel
theorem dX4_attachAt_22 : decode cX4_attachAt 22 = .ok (.iconst 1, 1) := by decide +kernel
theorem dX4_attachAt_23 : decode cX4_attachAt 23 = .ok (.isub, 1) := by decide +kernel
theorem dX4_attachAt_24 : decode cX4_attachAt 24 = .ok (.invokevirtual 106, 3) := by decide +kernel
theorem dX4_attachAt_27 : decode cX4_attachAt 27 = .ok (.invokevirtual 119, 3) := by decide +kernel
theorem dX4_attachAt_30 : decode cX4_attachAt 30 = .ok (.iinc 4 (-1), 3) := by decide +kernel
theorem dX4_attachAt_33 : decode cX4_attachAt 33 = .ok (.goto (-25), 3) := by decide +kernel
theorem dX4_attachAt_36 : decode cX4_attachAt 36 = .ok (.aload_n 0, 1) := by decide +kernel
theorem dX4_attachAt_37 : decode cX4_attachAt 37 = .ok (.iload_n 1, 1) := by decide +kernel
theorem dX4_attachAt_38 : decode cX4_attachAt 38 = .ok (.iload_n 2, 1) := by decide +kernel
theorem dX4_attachAt_39 : decode cX4_attachAt 39 = .ok (.iload_n 3, 1) := by decide +kernel
theorem dX4_attachAt_40 : decode cX4_attachAt 40 = .ok (.invokevirtual 119, 3) := by decide +kernel
theorem dX4_attachAt_43 : decode cX4_attachAt 43 = .ok (.aload_n 0, 1) := by decide +kernel
theorem dX4_attachAt_44 : decode cX4_attachAt 44 = .ok (.getfield 33, 3) := by decide +kernel
theorem dX4_attachAt_47 : decode cX4_attachAt 47 = .ok (.iload_n 1, 1) := by decide +kernel
theorem dX4_attachAt_48 : decode cX4_attachAt 48 = .ok (.dup2, 1) := by decide +kernel
theorem dX4_attachAt_49 : decode cX4_attachAt 49 = .ok (.iaload, 1) := by decide +kernel
theorem dX4_attachAt_50 : decode cX4_attachAt 50 = .ok (.iconst 1, 1) := by decide +kernel
theorem dX4_attachAt_51 : decode cX4_attachAt 51 = .ok (.iadd, 1) := by decide +kernel
theorem dX4_attachAt_52 : decode cX4_attachAt 52 = .ok (.iastore, 1) := by decide +kernel
theorem dX4_attachAt_53 : decode cX4_attachAt 53 = .ok (.aload_n 0, 1) := by decide +kernel
theorem dX4_attachAt_54 : decode cX4_attachAt 54 = .ok (.getfield 30, 3) := by decide +kernel
theorem dX4_attachAt_57 : decode cX4_attachAt 57 = .ok (.iload_n 3, 1) := by decide +kernel
theorem dX4_attachAt_58 : decode cX4_attachAt 58 = .ok (.iload_n 1, 1) := by decide +kernel
theorem dX4_attachAt_59 : decode cX4_attachAt 59 = .ok (.iastore, 1) := by decide +kernel
theorem dX4_attachAt_60 : decode cX4_attachAt 60 = .ok (.return_, 1) := by decide +kernel
theorem dX4_detach_0 : decode cX4_detach 0 = .ok (.aload_n 0, 1) := by decide +kernel
theorem dX4_detach_1 : decode cX4_detach 1 = .ok (.getfield 30, 3) := by decide +kernel
theorem dX4_detach_4 : decode cX4_detach 4 = .ok (.iload_n 1, 1) := by decide +kernel
theorem dX4_detach_5 : decode cX4_detach 5 = .ok (.iaload, 1) := by decide +kernel
theorem dX4_detach_6 : decode cX4_detach 6 = .ok (.istore_n 2, 1) := by decide +kernel
theorem dX4_detach_7 : decode cX4_detach 7 = .ok (.iload_n 2, 1) := by decide +kernel
theorem dX4_detach_8 : decode cX4_detach 8 = .ok (.iconst (-1), 1) := by decide +kernel
theorem dX4_detach_9 : decode cX4_detach 9 = .ok (.if_icmp .eq 12, 3) := by decide +kernel
theorem dX4_detach_12 : decode cX4_detach 12 = .ok (.aload_n 0, 1) := by decide +kernel
theorem dX4_detach_13 : decode cX4_detach 13 = .ok (.getfield 33, 3) := by decide +kernel
theorem dX4_detach_16 : decode cX4_detach 16 = .ok (.iload_n 2, 1) := by decide +kernel
theorem dX4_detach_17 : decode cX4_detach 17 = .ok (.iaload, 1) := by decide +kernel
theorem dX4_detach_18 : decode cX4_detach 18 = .ok (.ifCond .ne 4, 3) := by decide +kernel
theorem dX4_detach_21 : decode cX4_detach 21 = .ok (.return_, 1) := by decide +kernel
theorem dX4_detach_22 : decode cX4_detach 22 = .ok (.aload_n 0, 1) := by decide +kernel
theorem dX4_detach_23 : decode cX4_detach 23 = .ok (.iload_n 2, 1) := by decide +kernel
theorem dX4_detach_24 : decode cX4_detach 24 = .ok (.iload_n 1, 1) := by decide +kernel
theorem dX4_detach_25 : decode cX4_detach 25 = .ok (.invokevirtual 116, 3) := by decide +kernel
theorem dX4_detach_28 : decode cX4_detach 28 = .ok (.iconst 1, 1) := by decide +kernel
theorem dX4_detach_29 : decode cX4_detach 29 = .ok (.iadd, 1) := by decide +kernel
theorem dX4_detach_30 : decode cX4_detach 30 = .ok (.istore_n 3, 1) := by decide +kernel
theorem dX4_detach_31 : decode cX4_detach 31 = .ok (.iload_n 3, 1) := by decide +kernel
theorem dX4_detach_32 : decode cX4_detach 32 = .ok (.aload_n 0, 1) := by decide +kernel
theorem dX4_detach_33 : decode cX4_detach 33 = .ok (.getfield 33, 3) := by decide +kernel
theorem dX4_detach_36 : decode cX4_detach 36 = .ok (.iload_n 2, 1) := by decide +kernel
theorem dX4_detach_37 : decode cX4_detach 37 = .ok (.iaload, 1) := by decide +kernel
theorem dX4_detach_38 : decode cX4_detach 38 = .ok (.if_icmp .ge 23, 3) := by decide +kernel
theorem dX4_detach_41 : decode cX4_detach 41 = .ok (.aload_n 0, 1) := by decide +kernel
theorem dX4_detach_42 : decode cX4_detach 42 = .ok (.iload_n 2, 1) := by decide +kernel
theorem dX4_detach_43 : decode cX4_detach 43 = .ok (.iload_n 3, 1) := by decide +kernel
theorem dX4_detach_44 : decode cX4_detach 44 = .ok (.iconst 1, 1) := by decide +kernel
theorem dX4_detach_45 : decode cX4_detach 45 = .ok (.isub, 1) := by decide +kernel
theorem dX4_detach_46 : decode cX4_detach 46 = .ok (.aload_n 0, 1) := by decide +kernel
theorem dX4_detach_47 : decode cX4_detach 47 = .ok (.iload_n 2, 1) := by decide +kernel
theorem dX4_detach_48 : decode cX4_detach 48 = .ok (.iload_n 3, 1) := by decide +kernel
theorem dX4_detach_49 : decode cX4_detach 49 = .ok (.invokevirtual 106, 3) := by decide +kernel
theorem dX4_detach_52 : decode cX4_detach 52 = .ok (.invokevirtual 119, 3) := by decide +kernel
theorem dX4_detach_55 : decode cX4_detach 55 = .ok (.iinc 3 1, 3) := by decide +kernel
theorem dX4_detach_58 : decode cX4_detach 58 = .ok (.goto (-27), 3) := by decide +kernel
theorem dX4_detach_61 : decode cX4_detach 61 = .ok (.aload_n 0, 1) := by decide +kernel
theorem dX4_detach_62 : decode cX4_detach 62 = .ok (.getfield 33, 3) := by decide +kernel
theorem dX4_detach_65 : decode cX4_detach 65 = .ok (.iload_n 2, 1) := by decide +kernel
theorem dX4_detach_66 : decode cX4_detach 66 = .ok (.dup2, 1) := by decide +kernel
theorem dX4_detach_67 : decode cX4_detach 67 = .ok (.iaload, 1) := by decide +kernel
theorem dX4_detach_68 : decode cX4_detach 68 = .ok (.iconst 1, 1) := by decide +kernel
theorem dX4_detach_69 : decode cX4_detach 69 = .ok (.isub, 1) := by decide +kernel
theorem dX4_detach_70 : decode cX4_detach 70 = .ok (.iastore, 1) := by decide +kernel
theorem dX4_detach_71 : decode cX4_detach 71 = .ok (.return_, 1) := by decide +kernel
theorem dX4_fitAround_0 : decode cX4_fitAround 0 = .ok (.iconst 0, 1) := by decide +kernel
theorem dX4_fitAround_1 : decode cX4_fitAround 1 = .ok (.istore_n 3, 1) := by decide +kernel
theorem dX4_fitAround_2 : decode cX4_fitAround 2 = .ok (.iload_n 3, 1) := by decide +kernel
theorem dX4_fitAround_3 : decode cX4_fitAround 3 = .ok (.aload_n 0, 1) := by decide +kernel
theorem dX4_fitAround_4 : decode cX4_fitAround 4 = .ok (.getfield 33, 3) := by decide +kernel
theorem dX4_fitAround_7 : decode cX4_fitAround 7 = .ok (.iload_n 2, 1) := by decide +kernel
theorem dX4_fitAround_8 : decode cX4_fitAround 8 = .ok (.iaload, 1) := by decide +kernel
theorem dX4_fitAround_9 : decode cX4_fitAround 9 = .ok (.if_icmp .ge 38, 3) := by decide +kernel
theorem dX4_fitAround_12 : decode cX4_fitAround 12 = .ok (.iload_n 3, 1) := by decide +kernel
theorem dX4_fitAround_13 : decode cX4_fitAround 13 = .ok (.ifCond .ne 17, 3) := by decide +kernel
theorem dX4_fitAround_16 : decode cX4_fitAround 16 = .ok (.aload_n 0, 1) := by decide +kernel
theorem dX4_fitAround_17 : decode cX4_fitAround 17 = .ok (.aload_n 0, 1) := by decide +kernel
theorem dX4_fitAround_18 : decode cX4_fitAround 18 = .ok (.iload_n 2, 1) := by decide +kernel
theorem dX4_fitAround_19 : decode cX4_fitAround 19 = .ok (.iconst 0, 1) := by decide +kernel
theorem dX4_fitAround_20 : decode cX4_fitAround 20 = .ok (.invokevirtual 106, 3) := by decide +kernel
theorem dX4_fitAround_23 : decode cX4_fitAround 23 = .ok (.iload_n 1, 1) := by decide +kernel
theorem dX4_fitAround_24 : decode cX4_fitAround 24 = .ok (.invokevirtual 70, 3) := by decide +kernel
theorem dX4_fitAround_27 : decode cX4_fitAround 27 = .ok (.goto 14, 3) := by decide +kernel
theorem dX4_fitAround_30 : decode cX4_fitAround 30 = .ok (.aload_n 0, 1) := by decide +kernel
theorem dX4_fitAround_31 : decode cX4_fitAround 31 = .ok (.iload_n 1, 1) := by decide +kernel
theorem dX4_fitAround_32 : decode cX4_fitAround 32 = .ok (.aload_n 0, 1) := by decide +kernel
theorem dX4_fitAround_33 : decode cX4_fitAround 33 = .ok (.iload_n 2, 1) := by decide +kernel
theorem dX4_fitAround_34 : decode cX4_fitAround 34 = .ok (.iload_n 3, 1) := by decide +kernel
theorem dX4_fitAround_35 : decode cX4_fitAround 35 = .ok (.invokevirtual 106, 3) := by decide +kernel
theorem dX4_fitAround_38 : decode cX4_fitAround 38 = .ok (.invokevirtual 109, 3) := by decide +kernel
theorem dX4_fitAround_41 : decode cX4_fitAround 41 = .ok (.iinc 3 1, 3) := by decide +kernel
theorem dX4_fitAround_44 : decode cX4_fitAround 44 = .ok (.goto (-42), 3) := by decide +kernel
theorem dX4_fitAround_47 : decode cX4_fitAround 47 = .ok (.return_, 1) := by decide +kernel
theorem dX5_init_0 : decode cX5_init 0 = .ok (.aload_n 0, 1) := by decide +kernel
theorem dX5_init_1 : decode cX5_init 1 = .ok (.invokespecial 3, 3) := by decide +kernel
theorem dX5_init_4 : decode cX5_init 4 = .ok (.aload_n 0, 1) := by decide +kernel
theorem dX5_init_5 : decode cX5_init 5 = .ok (.sipush 160, 3) := by decide +kernel
theorem dX5_init_8 : decode cX5_init 8 = .ok (.newarray .int, 2) := by decide +kernel
theorem dX5_init_10 : decode cX5_init 10 = .ok (.putfield 9, 3) := by decide +kernel
theorem dX5_init_13 : decode cX5_init 13 = .ok (.aload_n 0, 1) := by decide +kernel
theorem dX5_init_14 : decode cX5_init 14 = .ok (.sipush 404, 3) := by decide +kernel
theorem dX5_init_17 : decode cX5_init 17 = .ok (.newarray .int, 2) := by decide +kernel
theorem dX5_init_19 : decode cX5_init 19 = .ok (.putfield 15, 3) := by decide +kernel
theorem dX5_init_22 : decode cX5_init 22 = .ok (.aload_n 0, 1) := by decide +kernel
theorem dX5_init_23 : decode cX5_init 23 = .ok (.aload_n 1, 1) := by decide +kernel
theorem dX5_init_24 : decode cX5_init 24 = .ok (.putfield 18, 3) := by decide +kernel
theorem dX5_init_27 : decode cX5_init 27 = .ok (.aload_n 0, 1) := by decide +kernel
theorem dX5_init_28 : decode cX5_init 28 = .ok (.new 22, 3) := by decide +kernel
theorem dX5_init_31 : decode cX5_init 31 = .ok (.dup, 1) := by decide +kernel
theorem dX5_init_32 : decode cX5_init 32 = .ok (.aload_n 1, 1) := by decide +kernel
theorem dX5_init_33 : decode cX5_init 33 = .ok (.invokespecial 24, 3) := by decide +kernel
theorem dX5_init_36 : decode cX5_init 36 = .ok (.putfield 27, 3) := by decide +kernel
theorem dX5_init_39 : decode cX5_init 39 = .ok (.aload_n 0, 1) := by decide +kernel
theorem dX5_init_40 : decode cX5_init 40 = .ok (.invokevirtual 31, 3) := by decide +kernel
theorem dX5_init_43 : decode cX5_init 43 = .ok (.return_, 1) := by decide +kernel
theorem dX5_startEmpty_0 : decode cX5_startEmpty 0 = .ok (.aload_n 0, 1) := by decide +kernel
theorem dX5_startEmpty_1 : decode cX5_startEmpty 1 = .ok (.getfield 18, 3) := by decide +kernel
theorem dX5_startEmpty_4 : decode cX5_startEmpty 4 = .ok (.invokevirtual 34, 3) := by decide +kernel
theorem dX5_startEmpty_7 : decode cX5_startEmpty 7 = .ok (.aload_n 0, 1) := by decide +kernel
theorem dX5_startEmpty_8 : decode cX5_startEmpty 8 = .ok (.aload_n 0, 1) := by decide +kernel
theorem dX5_startEmpty_9 : decode cX5_startEmpty 9 = .ok (.getfield 18, 3) := by decide +kernel
theorem dX5_startEmpty_12 : decode cX5_startEmpty 12 = .ok (.iconst 0, 1) := by decide +kernel
theorem dX5_startEmpty_13 : decode cX5_startEmpty 13 = .ok (.invokevirtual 39, 3) := by decide +kernel
theorem dX5_startEmpty_16 : decode cX5_startEmpty 16 = .ok (.putfield 43, 3) := by decide +kernel
theorem dX5_startEmpty_19 : decode cX5_startEmpty 19 = .ok (.aload_n 0, 1) := by decide +kernel
theorem dX5_startEmpty_20 : decode cX5_startEmpty 20 = .ok (.invokevirtual 47, 3) := by decide +kernel
theorem dX5_startEmpty_23 : decode cX5_startEmpty 23 = .ok (.return_, 1) := by decide +kernel
theorem dX5_renumber_0 : decode cX5_renumber 0 = .ok (.aload_n 0, 1) := by decide +kernel
theorem dX5_renumber_1 : decode cX5_renumber 1 = .ok (.iconst 0, 1) := by decide +kernel
theorem dX5_renumber_2 : decode cX5_renumber 2 = .ok (.putfield 50, 3) := by decide +kernel
theorem dX5_renumber_5 : decode cX5_renumber 5 = .ok (.aload_n 0, 1) := by decide +kernel
theorem dX5_renumber_6 : decode cX5_renumber 6 = .ok (.aload_n 0, 1) := by decide +kernel
theorem dX5_renumber_7 : decode cX5_renumber 7 = .ok (.getfield 43, 3) := by decide +kernel
theorem dX5_renumber_10 : decode cX5_renumber 10 = .ok (.iconst 0, 1) := by decide +kernel
theorem dX5_renumber_11 : decode cX5_renumber 11 = .ok (.invokevirtual 53, 3) := by decide +kernel
theorem dX5_renumber_14 : decode cX5_renumber 14 = .ok (.return_, 1) := by decide +kernel
theorem dX5_numberFrom_0 : decode cX5_numberFrom 0 = .ok (.iload_n 2, 1) := by decide +kernel
theorem dX5_numberFrom_1 : decode cX5_numberFrom 1 = .ok (.bipush 40, 2) := by decide +kernel
theorem dX5_numberFrom_3 : decode cX5_numberFrom 3 = .ok (.if_icmp .ge 15, 3) := by decide +kernel
theorem dX5_numberFrom_6 : decode cX5_numberFrom 6 = .ok (.aload_n 0, 1) := by decide +kernel
theorem dX5_numberFrom_7 : decode cX5_numberFrom 7 = .ok (.getfield 50, 3) := by decide +kernel
theorem dX5_numberFrom_10 : decode cX5_numberFrom 10 = .ok (.aload_n 0, 1) := by decide +kernel
theorem dX5_numberFrom_11 : decode cX5_numberFrom 11 = .ok (.getfield 15, 3) := by decide +kernel
theorem dX5_numberFrom_14 : decode cX5_numberFrom 14 = .ok (.arraylength, 1) := by decide +kernel
theorem dX5_numberFrom_15 : decode cX5_numberFrom 15 = .ok (.if_icmp .lt 4, 3) := by decide +kernel
theorem dX5_numberFrom_18 : decode cX5_numberFrom 18 = .ok (.return_, 1) := by decide +kernel
theorem dX5_numberFrom_19 : decode cX5_numberFrom 19 = .ok (.aload_n 0, 1) := by decide +kernel
theorem dX5_numberFrom_20 : decode cX5_numberFrom 20 = .ok (.getfield 18, 3) := by decide +kernel
theorem dX5_numberFrom_23 : decode cX5_numberFrom 23 = .ok (.getfield 57, 3) := by decide +kernel
theorem dX5_numberFrom_26 : decode cX5_numberFrom 26 = .ok (.iload_n 1, 1) := by decide +kernel
theorem dX5_numberFrom_27 : decode cX5_numberFrom 27 = .ok (.aload_n 0, 1) := by decide +kernel
theorem dX5_numberFrom_28 : decode cX5_numberFrom 28 = .ok (.getfield 50, 3) := by decide +kernel
theorem dX5_numberFrom_31 : decode cX5_numberFrom 31 = .ok (.iastore, 1) := by decide +kernel
theorem dX5_numberFrom_32 : decode cX5_numberFrom 32 = .ok (.aload_n 0, 1) := by decide +kernel
theorem dX5_numberFrom_33 : decode cX5_numberFrom 33 = .ok (.getfield 15, 3) := by decide +kernel
theorem dX5_numberFrom_36 : decode cX5_numberFrom 36 = .ok (.aload_n 0, 1) := by decide +kernel
theorem dX5_numberFrom_37 : decode cX5_numberFrom 37 = .ok (.dup, 1) := by decide +kernel
theorem dX5_numberFrom_38 : decode cX5_numberFrom 38 = .ok (.getfield 50, 3) := by decide +kernel
theorem dX5_numberFrom_41 : decode cX5_numberFrom 41 = .ok (.dup_x1, 1) := by decide +kernel
theorem dX5_numberFrom_42 : decode cX5_numberFrom 42 = .ok (.iconst 1, 1) := by decide +kernel
theorem dX5_numberFrom_43 : decode cX5_numberFrom 43 = .ok (.iadd, 1) := by decide +kernel
theorem dX5_numberFrom_44 : decode cX5_numberFrom 44 = .ok (.putfield 50, 3) := by decide +kernel
theorem dX5_numberFrom_47 : decode cX5_numberFrom 47 = .ok (.iload_n 1, 1) := by decide +kernel
theorem dX5_numberFrom_48 : decode cX5_numberFrom 48 = .ok (.iastore, 1) := by decide +kernel
theorem dX5_numberFrom_49 : decode cX5_numberFrom 49 = .ok (.aload_n 0, 1) := by decide +kernel
theorem dX5_numberFrom_50 : decode cX5_numberFrom 50 = .ok (.getfield 18, 3) := by decide +kernel
theorem dX5_numberFrom_53 : decode cX5_numberFrom 53 = .ok (.getfield 60, 3) := by decide +kernel
theorem dX5_numberFrom_56 : decode cX5_numberFrom 56 = .ok (.iload_n 1, 1) := by decide +kernel
theorem dX5_numberFrom_57 : decode cX5_numberFrom 57 = .ok (.iaload, 1) := by decide +kernel
theorem dX5_numberFrom_58 : decode cX5_numberFrom 58 = .ok (.ifCond .ne 4, 3) := by decide +kernel
theorem dX5_numberFrom_61 : decode cX5_numberFrom 61 = .ok (.return_, 1) := by decide +kernel
theorem dX5_numberFrom_62 : decode cX5_numberFrom 62 = .ok (.iconst 0, 1) := by decide +kernel
theorem dX5_numberFrom_63 : decode cX5_numberFrom 63 = .ok (.istore_n 3, 1) := by decide +kernel
theorem dX5_numberFrom_64 : decode cX5_numberFrom 64 = .ok (.iload_n 3, 1) := by decide +kernel
theorem dX5_numberFrom_65 : decode cX5_numberFrom 65 = .ok (.aload_n 0, 1) := by decide +kernel
theorem dX5_numberFrom_66 : decode cX5_numberFrom 66 = .ok (.getfield 18, 3) := by decide +kernel
theorem dX5_numberFrom_69 : decode cX5_numberFrom 69 = .ok (.getfield 63, 3) := by decide +kernel
theorem dX5_numberFrom_72 : decode cX5_numberFrom 72 = .ok (.iload_n 1, 1) := by decide +kernel
theorem dX5_numberFrom_73 : decode cX5_numberFrom 73 = .ok (.iaload, 1) := by decide +kernel
theorem dX5_numberFrom_74 : decode cX5_numberFrom 74 = .ok (.if_icmp .ge 25, 3) := by decide +kernel
theorem dX5_numberFrom_77 : decode cX5_numberFrom 77 = .ok (.aload_n 0, 1) := by decide +kernel
theorem dX5_numberFrom_78 : decode cX5_numberFrom 78 = .ok (.aload_n 0, 1) := by decide +kernel
theorem dX5_numberFrom_79 : decode cX5_numberFrom 79 = .ok (.getfield 18, 3) := by decide +kernel
theorem dX5_numberFrom_82 : decode cX5_numberFrom 82 = .ok (.iload_n 1, 1) := by decide +kernel
theorem dX5_numberFrom_83 : decode cX5_numberFrom 83 = .ok (.iload_n 3, 1) := by decide +kernel
theorem dX5_numberFrom_84 : decode cX5_numberFrom 84 = .ok (.invokevirtual 66, 3) := by decide +kernel
theorem dX5_numberFrom_87 : decode cX5_numberFrom 87 = .ok (.iload_n 2, 1) := by decide +kernel
theorem dX5_numberFrom_88 : decode cX5_numberFrom 88 = .ok (.iconst 1, 1) := by decide +kernel
theorem dX5_numberFrom_89 : decode cX5_numberFrom 89 = .ok (.iadd, 1) := by decide +kernel
theorem dX5_numberFrom_90 : decode cX5_numberFrom 90 = .ok (.invokevirtual 53, 3) := by decide +kernel
theorem dX5_numberFrom_93 : decode cX5_numberFrom 93 = .ok (.iinc 3 1, 3) := by decide +kernel
theorem dX5_numberFrom_96 : decode cX5_numberFrom 96 = .ok (.goto (-32), 3) := by decide +kernel
theorem dX5_numberFrom_99 : decode cX5_numberFrom 99 = .ok (.return_, 1) := by decide +kernel
theorem dX5_put_0 : decode cX5_put 0 = .ok (.aload_n 0, 1) := by decide +kernel
theorem dX5_put_1 : decode cX5_put 1 = .ok (.getfield 43, 3) := by decide +kernel
theorem dX5_put_4 : decode cX5_put 4 = .ok (.istore_n 2, 1) := by decide +kernel
theorem dX5_put_5 : decode cX5_put 5 = .ok (.iconst 0, 1) := by decide +kernel
theorem dX5_put_6 : decode cX5_put 6 = .ok (.istore_n 3, 1) := by decide +kernel
theorem dX5_put_7 : decode cX5_put 7 = .ok (.iload_n 3, 1) := by decide +kernel
theorem dX5_put_8 : decode cX5_put 8 = .ok (.bipush 40, 2) := by decide +kernel
theorem dX5_put_10 : decode cX5_put 10 = .ok (.if_icmp .ge 48, 3) := by decide +kernel
theorem dX5_put_13 : decode cX5_put 13 = .ok (.aload_n 0, 1) := by decide +kernel
theorem dX5_put_14 : decode cX5_put 14 = .ok (.getfield 18, 3) := by decide +kernel
theorem dX5_put_17 : decode cX5_put 17 = .ok (.getfield 60, 3) := by decide +kernel
theorem dX5_put_20 : decode cX5_put 20 = .ok (.iload_n 2, 1) := by decide +kernel
theorem dX5_put_21 : decode cX5_put 21 = .ok (.iaload, 1) := by decide +kernel
theorem dX5_put_22 : decode cX5_put 22 = .ok (.aload_n 0, 1) := by decide +kernel
theorem dX5_put_23 : decode cX5_put 23 = .ok (.getfield 18, 3) := by decide +kernel
theorem dX5_put_26 : decode cX5_put 26 = .ok (.getfield 60, 3) := by decide +kernel
theorem dX5_put_29 : decode cX5_put 29 = .ok (.iload_n 1, 1) := by decide +kernel
theorem dX5_put_30 : decode cX5_put 30 = .ok (.iaload, 1) := by decide +kernel
theorem dX5_put_31 : decode cX5_put 31 = .ok (.iconst 1, 1) := by decide +kernel
theorem dX5_put_32 : decode cX5_put 32 = .ok (.iadd, 1) := by decide +kernel
theorem dX5_put_33 : decode cX5_put 33 = .ok (.if_icmp .le 25, 3) := by decide +kernel
theorem dX5_put_36 : decode cX5_put 36 = .ok (.aload_n 0, 1) := by decide +kernel
theorem dX5_put_37 : decode cX5_put 37 = .ok (.getfield 18, 3) := by decide +kernel
theorem dX5_put_40 : decode cX5_put 40 = .ok (.iload_n 2, 1) := by decide +kernel
theorem dX5_put_41 : decode cX5_put 41 = .ok (.iload_n 1, 1) := by decide +kernel
theorem dX5_put_42 : decode cX5_put 42 = .ok (.invokevirtual 70, 3) := by decide +kernel
theorem dX5_put_45 : decode cX5_put 45 = .ok (.aload_n 0, 1) := by decide +kernel
theorem dX5_put_46 : decode cX5_put 46 = .ok (.iload_n 2, 1) := by decide +kernel
theorem dX5_put_47 : decode cX5_put 47 = .ok (.iload_n 1, 1) := by decide +kernel
theorem dX5_put_48 : decode cX5_put 48 = .ok (.invokevirtual 73, 3) := by decide +kernel
theorem dX5_put_51 : decode cX5_put 51 = .ok (.istore_n 2, 1) := by decide +kernel
theorem dX5_put_52 : decode cX5_put 52 = .ok (.iinc 3 1, 3) := by decide +kernel
theorem dX5_put_55 : decode cX5_put 55 = .ok (.goto (-48), 3) := by decide +kernel
theorem dX5_put_58 : decode cX5_put 58 = .ok (.aload_n 0, 1) := by decide +kernel
theorem dX5_put_59 : decode cX5_put 59 = .ok (.getfield 18, 3) := by decide +kernel
theorem dX5_put_62 : decode cX5_put 62 = .ok (.iload_n 2, 1) := by decide +kernel
theorem dX5_put_63 : decode cX5_put 63 = .ok (.iload_n 1, 1) := by decide +kernel
theorem dX5_put_64 : decode cX5_put 64 = .ok (.invokevirtual 76, 3) := by decide +kernel
theorem dX5_put_67 : decode cX5_put 67 = .ok (.aload_n 0, 1) := by decide +kernel
theorem dX5_put_68 : decode cX5_put 68 = .ok (.iload_n 2, 1) := by decide +kernel
theorem dX5_put_69 : decode cX5_put 69 = .ok (.invokevirtual 79, 3) := by decide +kernel
theorem dX5_put_72 : decode cX5_put 72 = .ok (.return_, 1) := by decide +kernel
theorem dX5_leastGrowing_0 : decode cX5_leastGrowing 0 = .ok (.aload_n 0, 1) := by decide +kernel
theorem dX5_leastGrowing_1 : decode cX5_leastGrowing 1 = .ok (.getfield 18, 3) := by decide +kernel
theorem dX5_leastGrowing_4 : decode cX5_leastGrowing 4 = .ok (.iload_n 1, 1) := by decide +kernel
theorem dX5_leastGrowing_5 : decode cX5_leastGrowing 5 = .ok (.iconst 0, 1) := by decide +kernel
theorem dX5_leastGrowing_6 : decode cX5_leastGrowing 6 = .ok (.invokevirtual 66, 3) := by decide +kernel
theorem dX5_leastGrowing_9 : decode cX5_leastGrowing 9 = .ok (.istore_n 3, 1) := by decide +kernel
theorem dX5_leastGrowing_10 : decode cX5_leastGrowing 10 = .ok (.iconst 1, 1) := by decide +kernel
theorem dX5_leastGrowing_11 : decode cX5_leastGrowing 11 = .ok (.istore 4, 2) := by decide +kernel
theorem dX5_leastGrowing_13 : decode cX5_leastGrowing 13 = .ok (.iload 4, 2) := by decide +kernel
theorem dX5_leastGrowing_15 : decode cX5_leastGrowing 15 = .ok (.aload_n 0, 1) := by decide +kernel
theorem dX5_leastGrowing_16 : decode cX5_leastGrowing 16 = .ok (.getfield 18, 3) := by decide +kernel
theorem dX5_leastGrowing_19 : decode cX5_leastGrowing 19 = .ok (.getfield 63, 3) := by decide +kernel
theorem dX5_leastGrowing_22 : decode cX5_leastGrowing 22 = .ok (.iload_n 1, 1) := by decide +kernel
theorem dX5_leastGrowing_23 : decode cX5_leastGrowing 23 = .ok (.iaload, 1) := by decide +kernel
theorem dX5_leastGrowing_24 : decode cX5_leastGrowing 24 = .ok (.if_icmp .ge 78, 3) := by decide +kernel
theorem dX5_leastGrowing_27 : decode cX5_leastGrowing 27 = .ok (.aload_n 0, 1) := by decide +kernel
theorem dX5_leastGrowing_28 : decode cX5_leastGrowing 28 = .ok (.getfield 18, 3) := by decide +kernel
theorem dX5_leastGrowing_31 : decode cX5_leastGrowing 31 = .ok (.iload_n 1, 1) := by decide +kernel
theorem dX5_leastGrowing_32 : decode cX5_leastGrowing 32 = .ok (.iload 4, 2) := by decide +kernel
theorem dX5_leastGrowing_34 : decode cX5_leastGrowing 34 = .ok (.invokevirtual 66, 3) := by decide +kernel
theorem dX5_leastGrowing_37 : decode cX5_leastGrowing 37 = .ok (.istore 5, 2) := by decide +kernel
theorem dX5_leastGrowing_39 : decode cX5_leastGrowing 39 = .ok (.aload_n 0, 1) := by decide +kernel
theorem dX5_leastGrowing_40 : decode cX5_leastGrowing 40 = .ok (.getfield 18, 3) := by decide +kernel
theorem dX5_leastGrowing_43 : decode cX5_leastGrowing 43 = .ok (.iload 5, 2) := by decide +kernel
theorem dX5_leastGrowing_45 : decode cX5_leastGrowing 45 = .ok (.iload_n 2, 1) := by decide +kernel
theorem dX5_leastGrowing_46 : decode cX5_leastGrowing 46 = .ok (.invokevirtual 83, 3) := by decide +kernel
theorem dX5_leastGrowing_49 : decode cX5_leastGrowing 49 = .ok (.aload_n 0, 1) := by decide +kernel
theorem dX5_leastGrowing_50 : decode cX5_leastGrowing 50 = .ok (.getfield 18, 3) := by decide +kernel
theorem dX5_leastGrowing_53 : decode cX5_leastGrowing 53 = .ok (.iload_n 3, 1) := by decide +kernel
theorem dX5_leastGrowing_54 : decode cX5_leastGrowing 54 = .ok (.iload_n 2, 1) := by decide +kernel
theorem dX5_leastGrowing_55 : decode cX5_leastGrowing 55 = .ok (.invokevirtual 83, 3) := by decide +kernel
theorem dX5_leastGrowing_58 : decode cX5_leastGrowing 58 = .ok (.invokestatic 86, 3) := by decide +kernel
theorem dX5_leastGrowing_61 : decode cX5_leastGrowing 61 = .ok (.istore 6, 2) := by decide +kernel
theorem dX5_leastGrowing_63 : decode cX5_leastGrowing 63 = .ok (.iload 6, 2) := by decide +kernel
theorem dX5_leastGrowing_65 : decode cX5_leastGrowing 65 = .ok (.ifCond .lt 28, 3) := by decide +kernel
theorem dX5_leastGrowing_68 : decode cX5_leastGrowing 68 = .ok (.iload 6, 2) := by decide +kernel
theorem dX5_leastGrowing_70 : decode cX5_leastGrowing 70 = .ok (.ifCond .ne 26, 3) := by decide +kernel
theorem dX5_leastGrowing_73 : decode cX5_leastGrowing 73 = .ok (.aload_n 0, 1) := by decide +kernel
theorem dX5_leastGrowing_74 : decode cX5_leastGrowing 74 = .ok (.getfield 18, 3) := by decide +kernel
theorem dX5_leastGrowing_77 : decode cX5_leastGrowing 77 = .ok (.iload 5, 2) := by decide +kernel
theorem dX5_leastGrowing_79 : decode cX5_leastGrowing 79 = .ok (.invokevirtual 91, 3) := by decide +kernel
theorem dX5_leastGrowing_82 : decode cX5_leastGrowing 82 = .ok (.aload_n 0, 1) := by decide +kernel
theorem dX5_leastGrowing_83 : decode cX5_leastGrowing 83 = .ok (.getfield 18, 3) := by decide +kernel
theorem dX5_leastGrowing_86 : decode cX5_leastGrowing 86 = .ok (.iload_n 3, 1) := by decide +kernel
theorem dX5_leastGrowing_87 : decode cX5_leastGrowing 87 = .ok (.invokevirtual 91, 3) := by decide +kernel
theorem dX5_leastGrowing_90 : decode cX5_leastGrowing 90 = .ok (.if_icmp .ge 6, 3) := by decide +kernel
theorem dX5_leastGrowing_93 : decode cX5_leastGrowing 93 = .ok (.iload 5, 2) := by decide +kernel
theorem dX5_leastGrowing_95 : decode cX5_leastGrowing 95 = .ok (.istore_n 3, 1) := by decide +kernel
theorem dX5_leastGrowing_96 : decode cX5_leastGrowing 96 = .ok (.iinc 4 1, 3) := by decide +kernel
theorem dX5_leastGrowing_99 : decode cX5_leastGrowing 99 = .ok (.goto (-86), 3) := by decide +kernel
theorem dX5_leastGrowing_102 : decode cX5_leastGrowing 102 = .ok (.iload_n 3, 1) := by decide +kernel
theorem dX5_leastGrowing_103 : decode cX5_leastGrowing 103 = .ok (.ireturn, 1) := by decide +kernel
theorem dX5_splitUpwards_0 : decode cX5_splitUpwards 0 = .ok (.iload_n 1, 1) := by decide +kernel
theorem dX5_splitUpwards_1 : decode cX5_splitUpwards 1 = .ok (.istore_n 2, 1) := by decide +kernel
theorem dX5_splitUpwards_2 : decode cX5_splitUpwards 2 = .ok (.iconst 0, 1) := by decide +kernel
theorem dX5_splitUpwards_3 : decode cX5_splitUpwards 3 = .ok (.istore_n 3, 1) := by decide +kernel
theorem dX5_splitUpwards_4 : decode cX5_splitUpwards 4 = .ok (.iload_n 3, 1) := by decide +kernel
theorem dX5_splitUpwards_5 : decode cX5_splitUpwards 5 = .ok (.bipush 40, 2) := by decide +kernel
theorem dX5_splitUpwards_7 : decode cX5_splitUpwards 7 = .ok (.if_icmp .ge 108, 3) := by decide +kernel
theorem dX5_splitUpwards_10 : decode cX5_splitUpwards 10 = .ok (.iload_n 2, 1) := by decide +kernel
theorem dX5_splitUpwards_11 : decode cX5_splitUpwards 11 = .ok (.iconst (-1), 1) := by decide +kernel
theorem dX5_splitUpwards_12 : decode cX5_splitUpwards 12 = .ok (.if_icmp .eq 103, 3) := by decide +kernel
theorem dX5_splitUpwards_15 : decode cX5_splitUpwards 15 = .ok (.aload_n 0, 1) := by decide +kernel
theorem dX5_splitUpwards_16 : decode cX5_splitUpwards 16 = .ok (.getfield 18, 3) := by decide +kernel
theorem dX5_splitUpwards_19 : decode cX5_splitUpwards 19 = .ok (.getfield 63, 3) := by decide +kernel
theorem dX5_splitUpwards_22 : decode cX5_splitUpwards 22 = .ok (.iload_n 2, 1) := by decide +kernel
theorem dX5_splitUpwards_23 : decode cX5_splitUpwards 23 = .ok (.iaload, 1) := by decide +kernel
theorem dX5_splitUpwards_24 : decode cX5_splitUpwards 24 = .ok (.aload_n 0, 1) := by decide +kernel
theorem dX5_splitUpwards_25 : decode cX5_splitUpwards 25 = .ok (.getfield 18, 3) := by decide +kernel
theorem dX5_splitUpwards_28 : decode cX5_splitUpwards 28 = .ok (.getfield 94, 3) := by decide +kernel
theorem dX5_splitUpwards_31 : decode cX5_splitUpwards 31 = .ok (.if_icmp .le 84, 3) := by decide +kernel
theorem dX5_splitUpwards_34 : decode cX5_splitUpwards 34 = .ok (.aload_n 0, 1) := by decide +kernel
theorem dX5_splitUpwards_35 : decode cX5_splitUpwards 35 = .ok (.getfield 18, 3) := by decide +kernel
theorem dX5_splitUpwards_38 : decode cX5_splitUpwards 38 = .ok (.aload_n 0, 1) := by decide +kernel
theorem dX5_splitUpwards_39 : decode cX5_splitUpwards 39 = .ok (.getfield 18, 3) := by decide +kernel
theorem dX5_splitUpwards_42 : decode cX5_splitUpwards 42 = .ok (.getfield 60, 3) := by decide +kernel
theorem dX5_splitUpwards_45 : decode cX5_splitUpwards 45 = .ok (.iload_n 2, 1) := by decide +kernel
theorem dX5_splitUpwards_46 : decode cX5_splitUpwards 46 = .ok (.iaload, 1) := by decide +kernel
theorem dX5_splitUpwards_47 : decode cX5_splitUpwards 47 = .ok (.invokevirtual 39, 3) := by decide +kernel
theorem dX5_splitUpwards_50 : decode cX5_splitUpwards 50 = .ok (.istore 4, 2) := by decide +kernel
theorem dX5_splitUpwards_52 : decode cX5_splitUpwards 52 = .ok (.aload_n 0, 1) := by decide +kernel
theorem dX5_splitUpwards_53 : decode cX5_splitUpwards 53 = .ok (.dup, 1) := by decide +kernel
theorem dX5_splitUpwards_54 : decode cX5_splitUpwards 54 = .ok (.getfield 97, 3) := by decide +kernel
theorem dX5_splitUpwards_57 : decode cX5_splitUpwards 57 = .ok (.iconst 1, 1) := by decide +kernel
theorem dX5_splitUpwards_58 : decode cX5_splitUpwards 58 = .ok (.iadd, 1) := by decide +kernel
theorem dX5_splitUpwards_59 : decode cX5_splitUpwards 59 = .ok (.putfield 97, 3) := by decide +kernel
theorem dX5_splitUpwards_62 : decode cX5_splitUpwards 62 = .ok (.aload_n 0, 1) := by decide +kernel
theorem dX5_splitUpwards_63 : decode cX5_splitUpwards 63 = .ok (.getfield 27, 3) := by decide +kernel
theorem dX5_splitUpwards_66 : decode cX5_splitUpwards 66 = .ok (.iload_n 2, 1) := by decide +kernel
theorem dX5_splitUpwards_67 : decode cX5_splitUpwards 67 = .ok (.iload 4, 2) := by decide +kernel
theorem dX5_splitUpwards_69 : decode cX5_splitUpwards 69 = .ok (.invokevirtual 100, 3) := by decide +kernel
theorem dX5_splitUpwards_72 : decode cX5_splitUpwards 72 = .ok (.iload_n 2, 1) := by decide +kernel
theorem dX5_splitUpwards_73 : decode cX5_splitUpwards 73 = .ok (.aload_n 0, 1) := by decide +kernel
theorem dX5_splitUpwards_74 : decode cX5_splitUpwards 74 = .ok (.getfield 43, 3) := by decide +kernel
theorem dX5_splitUpwards_77 : decode cX5_splitUpwards 77 = .ok (.if_icmp .ne 12, 3) := by decide +kernel
theorem dX5_splitUpwards_80 : decode cX5_splitUpwards 80 = .ok (.aload_n 0, 1) := by decide +kernel
theorem dX5_splitUpwards_81 : decode cX5_splitUpwards 81 = .ok (.iload 4, 2) := by decide +kernel
theorem dX5_splitUpwards_83 : decode cX5_splitUpwards 83 = .ok (.invokevirtual 103, 3) := by decide +kernel
theorem dX5_splitUpwards_86 : decode cX5_splitUpwards 86 = .ok (.goto 13, 3) := by decide +kernel
theorem dX5_splitUpwards_89 : decode cX5_splitUpwards 89 = .ok (.aload_n 0, 1) := by decide +kernel
theorem dX5_splitUpwards_90 : decode cX5_splitUpwards 90 = .ok (.getfield 18, 3) := by decide +kernel
theorem dX5_splitUpwards_93 : decode cX5_splitUpwards 93 = .ok (.iload_n 2, 1) := by decide +kernel
theorem dX5_splitUpwards_94 : decode cX5_splitUpwards 94 = .ok (.iload 4, 2) := by decide +kernel
theorem dX5_splitUpwards_96 : decode cX5_splitUpwards 96 = .ok (.invokevirtual 106, 3) := by decide +kernel
theorem dX5_splitUpwards_99 : decode cX5_splitUpwards 99 = .ok (.aload_n 0, 1) := by decide +kernel
theorem dX5_splitUpwards_100 : decode cX5_splitUpwards 100 = .ok (.getfield 18, 3) := by decide +kernel
theorem dX5_splitUpwards_103 : decode cX5_splitUpwards 103 = .ok (.getfield 109, 3) := by decide +kernel
theorem dX5_splitUpwards_106 : decode cX5_splitUpwards 106 = .ok (.iload_n 2, 1) := by decide +kernel
theorem dX5_splitUpwards_107 : decode cX5_splitUpwards 107 = .ok (.iaload, 1) := by decide +kernel
theorem dX5_splitUpwards_108 : decode cX5_splitUpwards 108 = .ok (.istore_n 2, 1) := by decide +kernel
theorem dX5_splitUpwards_109 : decode cX5_splitUpwards 109 = .ok (.iinc 3 1, 3) := by decide +kernel
theorem dX5_splitUpwards_112 : decode cX5_splitUpwards 112 = .ok (.goto (-108), 3) := by decide +kernel
theorem dX5_splitUpwards_115 : decode cX5_splitUpwards 115 = .ok (.return_, 1) := by decide +kernel
theorem dX5_raiseRoot_0 : decode cX5_raiseRoot 0 = .ok (.aload_n 0, 1) := by decide +kernel
theorem dX5_raiseRoot_1 : decode cX5_raiseRoot 1 = .ok (.getfield 18, 3) := by decide +kernel
theorem dX5_raiseRoot_4 : decode cX5_raiseRoot 4 = .ok (.aload_n 0, 1) := by decide +kernel
theorem dX5_raiseRoot_5 : decode cX5_raiseRoot 5 = .ok (.getfield 18, 3) := by decide +kernel
theorem dX5_raiseRoot_8 : decode cX5_raiseRoot 8 = .ok (.getfield 60, 3) := by decide +kernel
theorem dX5_raiseRoot_11 : decode cX5_raiseRoot 11 = .ok (.aload_n 0, 1) := by decide +kernel
theorem dX5_raiseRoot_12 : decode cX5_raiseRoot 12 = .ok (.getfield 43, 3) := by decide +kernel
theorem dX5_raiseRoot_15 : decode cX5_raiseRoot 15 = .ok (.iaload, 1) := by decide +kernel
theorem dX5_raiseRoot_16 : decode cX5_raiseRoot 16 = .ok (.iconst 1, 1) := by decide +kernel
theorem dX5_raiseRoot_17 : decode cX5_raiseRoot 17 = .ok (.iadd, 1) := by decide +kernel
theorem dX5_raiseRoot_18 : decode cX5_raiseRoot 18 = .ok (.invokevirtual 39, 3) := by decide +kernel
theorem dX5_raiseRoot_21 : decode cX5_raiseRoot 21 = .ok (.istore_n 2, 1) := by decide +kernel
theorem dX5_raiseRoot_22 : decode cX5_raiseRoot 22 = .ok (.aload_n 0, 1) := by decide +kernel
theorem dX5_raiseRoot_23 : decode cX5_raiseRoot 23 = .ok (.getfield 18, 3) := by decide +kernel
theorem dX5_raiseRoot_26 : decode cX5_raiseRoot 26 = .ok (.iload_n 2, 1) := by decide +kernel
theorem dX5_raiseRoot_27 : decode cX5_raiseRoot 27 = .ok (.aload_n 0, 1) := by decide +kernel
theorem dX5_raiseRoot_28 : decode cX5_raiseRoot 28 = .ok (.getfield 43, 3) := by decide +kernel
theorem dX5_raiseRoot_31 : decode cX5_raiseRoot 31 = .ok (.invokevirtual 76, 3) := by decide +kernel
theorem dX5_raiseRoot_34 : decode cX5_raiseRoot 34 = .ok (.aload_n 0, 1) := by decide +kernel
theorem dX5_raiseRoot_35 : decode cX5_raiseRoot 35 = .ok (.getfield 18, 3) := by decide +kernel
theorem dX5_raiseRoot_38 : decode cX5_raiseRoot 38 = .ok (.iload_n 2, 1) := by decide +kernel
theorem dX5_raiseRoot_39 : decode cX5_raiseRoot 39 = .ok (.iload_n 1, 1) := by decide +kernel
theorem dX5_raiseRoot_40 : decode cX5_raiseRoot 40 = .ok (.invokevirtual 76, 3) := by decide +kernel
theorem dX5_raiseRoot_43 : decode cX5_raiseRoot 43 = .ok (.aload_n 0, 1) := by decide +kernel
theorem dX5_raiseRoot_44 : decode cX5_raiseRoot 44 = .ok (.iload_n 2, 1) := by decide +kernel
theorem dX5_raiseRoot_45 : decode cX5_raiseRoot 45 = .ok (.putfield 43, 3) := by decide +kernel
theorem dX5_raiseRoot_48 : decode cX5_raiseRoot 48 = .ok (.return_, 1) := by decide +kernel
theorem dX5_take_0 : decode cX5_take 0 = .ok (.aload_n 0, 1) := by decide +kernel
theorem dX5_take_1 : decode cX5_take 1 = .ok (.getfield 18, 3) := by decide +kernel
theorem dX5_take_4 : decode cX5_take 4 = .ok (.getfield 109, 3) := by decide +kernel
theorem dX5_take_7 : decode cX5_take 7 = .ok (.iload_n 1, 1) := by decide +kernel
theorem dX5_take_8 : decode cX5_take 8 = .ok (.iaload, 1) := by decide +kernel
theorem dX5_take_9 : decode cX5_take 9 = .ok (.istore_n 2, 1) := by decide +kernel
theorem dX5_take_10 : decode cX5_take 10 = .ok (.aload_n 0, 1) := by decide +kernel
theorem dX5_take_11 : decode cX5_take 11 = .ok (.getfield 18, 3) := by decide +kernel
theorem dX5_take_14 : decode cX5_take 14 = .ok (.iload_n 1, 1) := by decide +kernel
theorem dX5_take_15 : decode cX5_take 15 = .ok (.invokevirtual 112, 3) := by decide +kernel
theorem dX5_take_18 : decode cX5_take 18 = .ok (.aload_n 0, 1) := by decide +kernel
theorem dX5_take_19 : decode cX5_take 19 = .ok (.getfield 18, 3) := by decide +kernel
theorem dX5_take_22 : decode cX5_take 22 = .ok (.iload_n 1, 1) := by decide +kernel
theorem dX5_take_23 : decode cX5_take 23 = .ok (.invokevirtual 115, 3) := by decide +kernel
theorem dX5_take_26 : decode cX5_take 26 = .ok (.aload_n 0, 1) := by decide +kernel
theorem dX5_take_27 : decode cX5_take 27 = .ok (.iconst 0, 1) := by decide +kernel
theorem dX5_take_28 : decode cX5_take 28 = .ok (.putfield 118, 3) := by decide +kernel
theorem dX5_take_31 : decode cX5_take 31 = .ok (.aload_n 0, 1) := by decide +kernel
theorem dX5_take_32 : decode cX5_take 32 = .ok (.iload_n 2, 1) := by decide +kernel
theorem dX5_take_33 : decode cX5_take 33 = .ok (.invokevirtual 121, 3) := by decide +kernel
theorem dX5_take_36 : decode cX5_take 36 = .ok (.iconst 0, 1) := by decide +kernel
theorem dX5_take_37 : decode cX5_take 37 = .ok (.istore_n 3, 1) := by decide +kernel
theorem dX5_take_38 : decode cX5_take 38 = .ok (.iload_n 3, 1) := by decide +kernel
theorem dX5_take_39 : decode cX5_take 39 = .ok (.aload_n 0, 1) := by decide +kernel
theorem dX5_take_40 : decode cX5_take 40 = .ok (.getfield 118, 3) := by decide +kernel
theorem dX5_take_43 : decode cX5_take 43 = .ok (.if_icmp .ge 19, 3) := by decide +kernel
theorem dX5_take_46 : decode cX5_take 46 = .ok (.aload_n 0, 1) := by decide +kernel
theorem dX5_take_47 : decode cX5_take 47 = .ok (.aload_n 0, 1) := by decide +kernel
theorem dX5_take_48 : decode cX5_take 48 = .ok (.getfield 9, 3) := by decide +kernel
theorem dX5_take_51 : decode cX5_take 51 = .ok (.iload_n 3, 1) := by decide +kernel
theorem dX5_take_52 : decode cX5_take 52 = .ok (.iaload, 1) := by decide +kernel
theorem dX5_take_53 : decode cX5_take 53 = .ok (.invokevirtual 124, 3) := by decide +kernel
theorem dX5_take_56 : decode cX5_take 56 = .ok (.iinc 3 1, 3) := by decide +kernel
theorem dX5_take_59 : decode cX5_take 59 = .ok (.goto (-21), 3) := by decide +kernel
theorem dX5_take_62 : decode cX5_take 62 = .ok (.aload_n 0, 1) := by decide +kernel
theorem dX5_take_63 : decode cX5_take 63 = .ok (.invokevirtual 127, 3) := by decide +kernel
theorem dX5_take_66 : decode cX5_take 66 = .ok (.return_, 1) := by decide +kernel
theorem dX5_thinUpwards_0 : decode cX5_thinUpwards 0 = .ok (.iload_n 1, 1) := by decide +kernel
theorem dX5_thinUpwards_1 : decode cX5_thinUpwards 1 = .ok (.istore_n 2, 1) := by decide +kernel
theorem dX5_thinUpwards_2 : decode cX5_thinUpwards 2 = .ok (.iconst 0, 1) := by decide +kernel
theorem dX5_thinUpwards_3 : decode cX5_thinUpwards 3 = .ok (.istore_n 3, 1) := by decide +kernel
theorem dX5_thinUpwards_4 : decode cX5_thinUpwards 4 = .ok (.iload_n 3, 1) := by decide +kernel
theorem dX5_thinUpwards_5 : decode cX5_thinUpwards 5 = .ok (.bipush 40, 2) := by decide +kernel
theorem dX5_thinUpwards_7 : decode cX5_thinUpwards 7 = .ok (.if_icmp .ge 70, 3) := by decide +kernel
theorem dX5_thinUpwards_10 : decode cX5_thinUpwards 10 = .ok (.iload_n 2, 1) := by decide +kernel
theorem dX5_thinUpwards_11 : decode cX5_thinUpwards 11 = .ok (.iconst (-1), 1) := by decide +kernel
theorem dX5_thinUpwards_12 : decode cX5_thinUpwards 12 = .ok (.if_icmp .eq 65, 3) := by decide +kernel
theorem dX5_thinUpwards_15 : decode cX5_thinUpwards 15 = .ok (.aload_n 0, 1) := by decide +kernel
theorem dX5_thinUpwards_16 : decode cX5_thinUpwards 16 = .ok (.getfield 18, 3) := by decide +kernel
theorem dX5_thinUpwards_19 : decode cX5_thinUpwards 19 = .ok (.getfield 109, 3) := by decide +kernel
theorem dX5_thinUpwards_22 : decode cX5_thinUpwards 22 = .ok (.iload_n 2, 1) := by decide +kernel
theorem dX5_thinUpwards_23 : decode cX5_thinUpwards 23 = .ok (.iaload, 1) := by decide +kernel
theorem dX5_thinUpwards_24 : decode cX5_thinUpwards 24 = .ok (.istore 4, 2) := by decide +kernel
theorem dX5_thinUpwards_26 : decode cX5_thinUpwards 26 = .ok (.iload 4, 2) := by decide +kernel
theorem dX5_thinUpwards_28 : decode cX5_thinUpwards 28 = .ok (.iconst (-1), 1) := by decide +kernel
theorem dX5_thinUpwards_29 : decode cX5_thinUpwards 29 = .ok (.if_icmp .eq 30, 3) := by decide +kernel
theorem dX5_thinUpwards_32 : decode cX5_thinUpwards 32 = .ok (.aload_n 0, 1) := by decide +kernel
theorem dX5_thinUpwards_33 : decode cX5_thinUpwards 33 = .ok (.getfield 18, 3) := by decide +kernel
theorem dX5_thinUpwards_36 : decode cX5_thinUpwards 36 = .ok (.getfield 63, 3) := by decide +kernel
theorem dX5_thinUpwards_39 : decode cX5_thinUpwards 39 = .ok (.iload_n 2, 1) := by decide +kernel
theorem dX5_thinUpwards_40 : decode cX5_thinUpwards 40 = .ok (.iaload, 1) := by decide +kernel
theorem dX5_thinUpwards_41 : decode cX5_thinUpwards 41 = .ok (.aload_n 0, 1) := by decide +kernel
theorem dX5_thinUpwards_42 : decode cX5_thinUpwards 42 = .ok (.getfield 18, 3) := by decide +kernel
theorem dX5_thinUpwards_45 : decode cX5_thinUpwards 45 = .ok (.getfield 130, 3) := by decide +kernel
theorem dX5_thinUpwards_48 : decode cX5_thinUpwards 48 = .ok (.if_icmp .ge 11, 3) := by decide +kernel
theorem dX5_thinUpwards_51 : decode cX5_thinUpwards 51 = .ok (.aload_n 0, 1) := by decide +kernel
theorem dX5_thinUpwards_52 : decode cX5_thinUpwards 52 = .ok (.iload_n 2, 1) := by decide +kernel
theorem dX5_thinUpwards_53 : decode cX5_thinUpwards 53 = .ok (.invokevirtual 133, 3) := by decide +kernel
theorem dX5_thinUpwards_56 : decode cX5_thinUpwards 56 = .ok (.goto 12, 3) := by decide +kernel
theorem dX5_thinUpwards_59 : decode cX5_thinUpwards 59 = .ok (.aload_n 0, 1) := by decide +kernel
theorem dX5_thinUpwards_60 : decode cX5_thinUpwards 60 = .ok (.getfield 18, 3) := by decide +kernel
theorem dX5_thinUpwards_63 : decode cX5_thinUpwards 63 = .ok (.iload_n 2, 1) := by decide +kernel
theorem dX5_thinUpwards_64 : decode cX5_thinUpwards 64 = .ok (.iload_n 2, 1) := by decide +kernel
theorem dX5_thinUpwards_65 : decode cX5_thinUpwards 65 = .ok (.invokevirtual 136, 3) := by decide +kernel
theorem dX5_thinUpwards_68 : decode cX5_thinUpwards 68 = .ok (.iload 4, 2) := by decide +kernel
theorem dX5_thinUpwards_70 : decode cX5_thinUpwards 70 = .ok (.istore_n 2, 1) := by decide +kernel
theorem dX5_thinUpwards_71 : decode cX5_thinUpwards 71 = .ok (.iinc 3 1, 3) := by decide +kernel
theorem dX5_thinUpwards_74 : decode cX5_thinUpwards 74 = .ok (.goto (-70), 3) := by decide +kernel
theorem dX5_thinUpwards_77 : decode cX5_thinUpwards 77 = .ok (.return_, 1) := by decide +kernel
theorem dX5_dissolve_0 : decode cX5_dissolve 0 = .ok (.aload_n 0, 1) := by decide +kernel
theorem dX5_dissolve_1 : decode cX5_dissolve 1 = .ok (.getfield 18, 3) := by decide +kernel
theorem dX5_dissolve_4 : decode cX5_dissolve 4 = .ok (.iload_n 1, 1) := by decide +kernel
theorem dX5_dissolve_5 : decode cX5_dissolve 5 = .ok (.invokevirtual 112, 3) := by decide +kernel
theorem dX5_dissolve_8 : decode cX5_dissolve 8 = .ok (.iconst 0, 1) := by decide +kernel
theorem dX5_dissolve_9 : decode cX5_dissolve 9 = .ok (.istore_n 2, 1) := by decide +kernel
theorem dX5_dissolve_10 : decode cX5_dissolve 10 = .ok (.iload_n 2, 1) := by decide +kernel
theorem dX5_dissolve_11 : decode cX5_dissolve 11 = .ok (.aload_n 0, 1) := by decide +kernel
theorem dX5_dissolve_12 : decode cX5_dissolve 12 = .ok (.getfield 18, 3) := by decide +kernel
theorem dX5_dissolve_15 : decode cX5_dissolve 15 = .ok (.getfield 63, 3) := by decide +kernel
theorem dX5_dissolve_18 : decode cX5_dissolve 18 = .ok (.iload_n 1, 1) := by decide +kernel
theorem dX5_dissolve_19 : decode cX5_dissolve 19 = .ok (.iaload, 1) := by decide +kernel
theorem dX5_dissolve_20 : decode cX5_dissolve 20 = .ok (.if_icmp .ge 56, 3) := by decide +kernel
theorem dX5_dissolve_23 : decode cX5_dissolve 23 = .ok (.aload_n 0, 1) := by decide +kernel
theorem dX5_dissolve_24 : decode cX5_dissolve 24 = .ok (.getfield 118, 3) := by decide +kernel
theorem dX5_dissolve_27 : decode cX5_dissolve 27 = .ok (.aload_n 0, 1) := by decide +kernel
theorem dX5_dissolve_28 : decode cX5_dissolve 28 = .ok (.getfield 9, 3) := by decide +kernel
theorem dX5_dissolve_31 : decode cX5_dissolve 31 = .ok (.arraylength, 1) := by decide +kernel
theorem dX5_dissolve_32 : decode cX5_dissolve 32 = .ok (.if_icmp .ge 44, 3) := by decide +kernel
theorem dX5_dissolve_35 : decode cX5_dissolve 35 = .ok (.aload_n 0, 1) := by decide +kernel
theorem dX5_dissolve_36 : decode cX5_dissolve 36 = .ok (.getfield 9, 3) := by decide +kernel
theorem dX5_dissolve_39 : decode cX5_dissolve 39 = .ok (.aload_n 0, 1) := by decide +kernel
theorem dX5_dissolve_40 : decode cX5_dissolve 40 = .ok (.dup, 1) := by decide +kernel
theorem dX5_dissolve_41 : decode cX5_dissolve 41 = .ok (.getfield 118, 3) := by decide +kernel
theorem dX5_dissolve_44 : decode cX5_dissolve 44 = .ok (.dup_x1, 1) := by decide +kernel
theorem dX5_dissolve_45 : decode cX5_dissolve 45 = .ok (.iconst 1, 1) := by decide +kernel
theorem dX5_dissolve_46 : decode cX5_dissolve 46 = .ok (.iadd, 1) := by decide +kernel
theorem dX5_dissolve_47 : decode cX5_dissolve 47 = .ok (.putfield 118, 3) := by decide +kernel
theorem dX5_dissolve_50 : decode cX5_dissolve 50 = .ok (.aload_n 0, 1) := by decide +kernel
theorem dX5_dissolve_51 : decode cX5_dissolve 51 = .ok (.getfield 18, 3) := by decide +kernel
theorem dX5_dissolve_54 : decode cX5_dissolve 54 = .ok (.iload_n 1, 1) := by decide +kernel
theorem dX5_dissolve_55 : decode cX5_dissolve 55 = .ok (.iload_n 2, 1) := by decide +kernel
theorem dX5_dissolve_56 : decode cX5_dissolve 56 = .ok (.invokevirtual 66, 3) := by decide +kernel
theorem dX5_dissolve_59 : decode cX5_dissolve 59 = .ok (.iastore, 1) := by decide +kernel
theorem dX5_dissolve_60 : decode cX5_dissolve 60 = .ok (.aload_n 0, 1) := by decide +kernel
theorem dX5_dissolve_61 : decode cX5_dissolve 61 = .ok (.dup, 1) := by decide +kernel
theorem dX5_dissolve_62 : decode cX5_dissolve 62 = .ok (.getfield 139, 3) := by decide +kernel
theorem dX5_dissolve_65 : decode cX5_dissolve 65 = .ok (.iconst 1, 1) := by decide +kernel
theorem dX5_dissolve_66 : decode cX5_dissolve 66 = .ok (.iadd, 1) := by decide +kernel
theorem dX5_dissolve_67 : decode cX5_dissolve 67 = .ok (.putfield 139, 3) := by decide +kernel
theorem dX5_dissolve_70 : decode cX5_dissolve 70 = .ok (.iinc 2 1, 3) := by decide +kernel
theorem dX5_dissolve_73 : decode cX5_dissolve 73 = .ok (.goto (-63), 3) := by decide +kernel
theorem dX5_dissolve_76 : decode cX5_dissolve 76 = .ok (.aload_n 0, 1) := by decide +kernel
theorem dX5_dissolve_77 : decode cX5_dissolve 77 = .ok (.getfield 18, 3) := by decide +kernel
theorem dX5_dissolve_80 : decode cX5_dissolve 80 = .ok (.iload_n 1, 1) := by decide +kernel
theorem dX5_dissolve_81 : decode cX5_dissolve 81 = .ok (.invokevirtual 142, 3) := by decide +kernel
theorem dX5_dissolve_84 : decode cX5_dissolve 84 = .ok (.aload_n 0, 1) := by decide +kernel
theorem dX5_dissolve_85 : decode cX5_dissolve 85 = .ok (.dup, 1) := by decide +kernel
theorem dX5_dissolve_86 : decode cX5_dissolve 86 = .ok (.getfield 145, 3) := by decide +kernel
theorem dX5_dissolve_89 : decode cX5_dissolve 89 = .ok (.iconst 1, 1) := by decide +kernel
theorem dX5_dissolve_90 : decode cX5_dissolve 90 = .ok (.iadd, 1) := by decide +kernel
theorem dX5_dissolve_91 : decode cX5_dissolve 91 = .ok (.putfield 145, 3) := by decide +kernel
theorem dX5_dissolve_94 : decode cX5_dissolve 94 = .ok (.return_, 1) := by decide +kernel
theorem dX5_lowerRoot_0 : decode cX5_lowerRoot 0 = .ok (.iconst 0, 1) := by decide +kernel
theorem dX5_lowerRoot_1 : decode cX5_lowerRoot 1 = .ok (.istore_n 1, 1) := by decide +kernel
theorem dX5_lowerRoot_2 : decode cX5_lowerRoot 2 = .ok (.iload_n 1, 1) := by decide +kernel
theorem dX5_lowerRoot_3 : decode cX5_lowerRoot 3 = .ok (.bipush 40, 2) := by decide +kernel
theorem dX5_lowerRoot_5 : decode cX5_lowerRoot 5 = .ok (.if_icmp .ge 79, 3) := by decide +kernel
theorem dX5_lowerRoot_8 : decode cX5_lowerRoot 8 = .ok (.aload_n 0, 1) := by decide +kernel
theorem dX5_lowerRoot_9 : decode cX5_lowerRoot 9 = .ok (.getfield 18, 3) := by decide +kernel
theorem dX5_lowerRoot_12 : decode cX5_lowerRoot 12 = .ok (.getfield 60, 3) := by decide +kernel
theorem dX5_lowerRoot_15 : decode cX5_lowerRoot 15 = .ok (.aload_n 0, 1) := by decide +kernel
theorem dX5_lowerRoot_16 : decode cX5_lowerRoot 16 = .ok (.getfield 43, 3) := by decide +kernel
theorem dX5_lowerRoot_19 : decode cX5_lowerRoot 19 = .ok (.iaload, 1) := by decide +kernel
theorem dX5_lowerRoot_20 : decode cX5_lowerRoot 20 = .ok (.ifCond .le 64, 3) := by decide +kernel
theorem dX5_lowerRoot_23 : decode cX5_lowerRoot 23 = .ok (.aload_n 0, 1) := by decide +kernel
theorem dX5_lowerRoot_24 : decode cX5_lowerRoot 24 = .ok (.getfield 18, 3) := by decide +kernel
theorem dX5_lowerRoot_27 : decode cX5_lowerRoot 27 = .ok (.getfield 63, 3) := by decide +kernel
theorem dX5_lowerRoot_30 : decode cX5_lowerRoot 30 = .ok (.aload_n 0, 1) := by decide +kernel
theorem dX5_lowerRoot_31 : decode cX5_lowerRoot 31 = .ok (.getfield 43, 3) := by decide +kernel
theorem dX5_lowerRoot_34 : decode cX5_lowerRoot 34 = .ok (.iaload, 1) := by decide +kernel
theorem dX5_lowerRoot_35 : decode cX5_lowerRoot 35 = .ok (.iconst 1, 1) := by decide +kernel
theorem dX5_lowerRoot_36 : decode cX5_lowerRoot 36 = .ok (.if_icmp .ne 48, 3) := by decide +kernel
theorem dX5_lowerRoot_39 : decode cX5_lowerRoot 39 = .ok (.aload_n 0, 1) := by decide +kernel
theorem dX5_lowerRoot_40 : decode cX5_lowerRoot 40 = .ok (.getfield 18, 3) := by decide +kernel
theorem dX5_lowerRoot_43 : decode cX5_lowerRoot 43 = .ok (.aload_n 0, 1) := by decide +kernel
theorem dX5_lowerRoot_44 : decode cX5_lowerRoot 44 = .ok (.getfield 43, 3) := by decide +kernel
theorem dX5_lowerRoot_47 : decode cX5_lowerRoot 47 = .ok (.iconst 0, 1) := by decide +kernel
theorem dX5_lowerRoot_48 : decode cX5_lowerRoot 48 = .ok (.invokevirtual 66, 3) := by decide +kernel
theorem dX5_lowerRoot_51 : decode cX5_lowerRoot 51 = .ok (.istore_n 2, 1) := by decide +kernel
theorem dX5_lowerRoot_52 : decode cX5_lowerRoot 52 = .ok (.aload_n 0, 1) := by decide +kernel
theorem dX5_lowerRoot_53 : decode cX5_lowerRoot 53 = .ok (.getfield 18, 3) := by decide +kernel
theorem dX5_lowerRoot_56 : decode cX5_lowerRoot 56 = .ok (.aload_n 0, 1) := by decide +kernel
theorem dX5_lowerRoot_57 : decode cX5_lowerRoot 57 = .ok (.getfield 43, 3) := by decide +kernel
theorem dX5_lowerRoot_60 : decode cX5_lowerRoot 60 = .ok (.invokevirtual 142, 3) := by decide +kernel
theorem dX5_lowerRoot_63 : decode cX5_lowerRoot 63 = .ok (.aload_n 0, 1) := by decide +kernel
theorem dX5_lowerRoot_64 : decode cX5_lowerRoot 64 = .ok (.getfield 18, 3) := by decide +kernel
theorem dX5_lowerRoot_67 : decode cX5_lowerRoot 67 = .ok (.getfield 109, 3) := by decide +kernel
theorem dX5_lowerRoot_70 : decode cX5_lowerRoot 70 = .ok (.iload_n 2, 1) := by decide +kernel
theorem dX5_lowerRoot_71 : decode cX5_lowerRoot 71 = .ok (.iconst (-1), 1) := by decide +kernel
theorem dX5_lowerRoot_72 : decode cX5_lowerRoot 72 = .ok (.iastore, 1) := by decide +kernel
theorem dX5_lowerRoot_73 : decode cX5_lowerRoot 73 = .ok (.aload_n 0, 1) := by decide +kernel
theorem dX5_lowerRoot_74 : decode cX5_lowerRoot 74 = .ok (.iload_n 2, 1) := by decide +kernel
theorem dX5_lowerRoot_75 : decode cX5_lowerRoot 75 = .ok (.putfield 43, 3) := by decide +kernel
theorem dX5_lowerRoot_78 : decode cX5_lowerRoot 78 = .ok (.iinc 1 1, 3) := by decide +kernel
theorem dX5_lowerRoot_81 : decode cX5_lowerRoot 81 = .ok (.goto (-79), 3) := by decide +kernel
theorem dX5_lowerRoot_84 : decode cX5_lowerRoot 84 = .ok (.return_, 1) := by decide +kernel
theorem dX5_meetingNodes_0 : decode cX5_meetingNodes 0 = .ok (.aload_n 0, 1) := by decide +kernel
theorem dX5_meetingNodes_1 : decode cX5_meetingNodes 1 = .ok (.getfield 50, 3) := by decide +kernel
theorem dX5_meetingNodes_4 : decode cX5_meetingNodes 4 = .ok (.istore_n 1, 1) := by decide +kernel
theorem dX5_meetingNodes_5 : decode cX5_meetingNodes 5 = .ok (.iconst 0, 1) := by decide +kernel
theorem dX5_meetingNodes_6 : decode cX5_meetingNodes 6 = .ok (.istore_n 2, 1) := by decide +kernel
theorem dX5_meetingNodes_7 : decode cX5_meetingNodes 7 = .ok (.iload_n 2, 1) := by decide +kernel
theorem dX5_meetingNodes_8 : decode cX5_meetingNodes 8 = .ok (.aload_n 0, 1) := by decide +kernel
theorem dX5_meetingNodes_9 : decode cX5_meetingNodes 9 = .ok (.getfield 50, 3) := by decide +kernel
theorem dX5_meetingNodes_12 : decode cX5_meetingNodes 12 = .ok (.if_icmp .ge 83, 3) := by decide +kernel
theorem dX5_meetingNodes_15 : decode cX5_meetingNodes 15 = .ok (.iload_n 2, 1) := by decide +kernel
theorem dX5_meetingNodes_16 : decode cX5_meetingNodes 16 = .ok (.iconst 1, 1) := by decide +kernel
theorem dX5_meetingNodes_17 : decode cX5_meetingNodes 17 = .ok (.iadd, 1) := by decide +kernel
theorem dX5_meetingNodes_18 : decode cX5_meetingNodes 18 = .ok (.istore_n 3, 1) := by decide +kernel
theorem dX5_meetingNodes_19 : decode cX5_meetingNodes 19 = .ok (.iload_n 3, 1) := by decide +kernel
theorem dX5_meetingNodes_20 : decode cX5_meetingNodes 20 = .ok (.aload_n 0, 1) := by decide +kernel
theorem dX5_meetingNodes_21 : decode cX5_meetingNodes 21 = .ok (.getfield 50, 3) := by decide +kernel
theorem dX5_meetingNodes_24 : decode cX5_meetingNodes 24 = .ok (.if_icmp .ge 65, 3) := by decide +kernel
theorem dX5_meetingNodes_27 : decode cX5_meetingNodes 27 = .ok (.aload_n 0, 1) := by decide +kernel
theorem dX5_meetingNodes_28 : decode cX5_meetingNodes 28 = .ok (.getfield 18, 3) := by decide +kernel
theorem dX5_meetingNodes_31 : decode cX5_meetingNodes 31 = .ok (.getfield 60, 3) := by decide +kernel
theorem dX5_meetingNodes_34 : decode cX5_meetingNodes 34 = .ok (.aload_n 0, 1) := by decide +kernel
theorem dX5_meetingNodes_35 : decode cX5_meetingNodes 35 = .ok (.getfield 15, 3) := by decide +kernel
theorem dX5_meetingNodes_38 : decode cX5_meetingNodes 38 = .ok (.iload_n 2, 1) := by decide +kernel
theorem dX5_meetingNodes_39 : decode cX5_meetingNodes 39 = .ok (.iaload, 1) := by decide +kernel
theorem dX5_meetingNodes_40 : decode cX5_meetingNodes 40 = .ok (.iaload, 1) := by decide +kernel
theorem dX5_meetingNodes_41 : decode cX5_meetingNodes 41 = .ok (.aload_n 0, 1) := by decide +kernel
theorem dX5_meetingNodes_42 : decode cX5_meetingNodes 42 = .ok (.getfield 18, 3) := by decide +kernel
theorem dX5_meetingNodes_45 : decode cX5_meetingNodes 45 = .ok (.getfield 60, 3) := by decide +kernel
theorem dX5_meetingNodes_48 : decode cX5_meetingNodes 48 = .ok (.aload_n 0, 1) := by decide +kernel
theorem dX5_meetingNodes_49 : decode cX5_meetingNodes 49 = .ok (.getfield 15, 3) := by decide +kernel
theorem dX5_meetingNodes_52 : decode cX5_meetingNodes 52 = .ok (.iload_n 3, 1) := by decide +kernel
theorem dX5_meetingNodes_53 : decode cX5_meetingNodes 53 = .ok (.iaload, 1) := by decide +kernel
theorem dX5_meetingNodes_54 : decode cX5_meetingNodes 54 = .ok (.iaload, 1) := by decide +kernel
theorem dX5_meetingNodes_55 : decode cX5_meetingNodes 55 = .ok (.if_icmp .ne 28, 3) := by decide +kernel
theorem dX5_meetingNodes_58 : decode cX5_meetingNodes 58 = .ok (.aload_n 0, 1) := by decide +kernel
theorem dX5_meetingNodes_59 : decode cX5_meetingNodes 59 = .ok (.getfield 18, 3) := by decide +kernel
theorem dX5_meetingNodes_62 : decode cX5_meetingNodes 62 = .ok (.aload_n 0, 1) := by decide +kernel
theorem dX5_meetingNodes_63 : decode cX5_meetingNodes 63 = .ok (.getfield 15, 3) := by decide +kernel
theorem dX5_meetingNodes_66 : decode cX5_meetingNodes 66 = .ok (.iload_n 2, 1) := by decide +kernel
theorem dX5_meetingNodes_67 : decode cX5_meetingNodes 67 = .ok (.iaload, 1) := by decide +kernel
theorem dX5_meetingNodes_68 : decode cX5_meetingNodes 68 = .ok (.aload_n 0, 1) := by decide +kernel
theorem dX5_meetingNodes_69 : decode cX5_meetingNodes 69 = .ok (.getfield 15, 3) := by decide +kernel
theorem dX5_meetingNodes_72 : decode cX5_meetingNodes 72 = .ok (.iload_n 3, 1) := by decide +kernel
theorem dX5_meetingNodes_73 : decode cX5_meetingNodes 73 = .ok (.iaload, 1) := by decide +kernel
theorem dX5_meetingNodes_74 : decode cX5_meetingNodes 74 = .ok (.invokevirtual 148, 3) := by decide +kernel
theorem dX5_meetingNodes_77 : decode cX5_meetingNodes 77 = .ok (.ifCond .eq 6, 3) := by decide +kernel
theorem dX5_meetingNodes_80 : decode cX5_meetingNodes 80 = .ok (.iinc 1 1, 3) := by decide +kernel
theorem dX5_meetingNodes_83 : decode cX5_meetingNodes 83 = .ok (.iinc 3 1, 3) := by decide +kernel
theorem dX5_meetingNodes_86 : decode cX5_meetingNodes 86 = .ok (.goto (-67), 3) := by decide +kernel
theorem dX5_meetingNodes_89 : decode cX5_meetingNodes 89 = .ok (.iinc 2 1, 3) := by decide +kernel
theorem dX5_meetingNodes_92 : decode cX5_meetingNodes 92 = .ok (.goto (-85), 3) := by decide +kernel
theorem dX5_meetingNodes_95 : decode cX5_meetingNodes 95 = .ok (.iload_n 1, 1) := by decide +kernel
theorem dX5_meetingNodes_96 : decode cX5_meetingNodes 96 = .ok (.ireturn, 1) := by decide +kernel
theorem dX6_init_0 : decode cX6_init 0 = .ok (.aload_n 0, 1) := by decide +kernel
theorem dX6_init_1 : decode cX6_init 1 = .ok (.invokespecial 3, 3) := by decide +kernel
theorem dX6_init_4 : decode cX6_init 4 = .ok (.aload_n 0, 1) := by decide +kernel
theorem dX6_init_5 : decode cX6_init 5 = .ok (.aload_n 1, 1) := by decide +kernel
theorem dX6_init_6 : decode cX6_init 6 = .ok (.putfield 9, 3) := by decide +kernel
theorem dX6_init_9 : decode cX6_init 9 = .ok (.aload_n 0, 1) := by decide +kernel
theorem dX6_init_10 : decode cX6_init 10 = .ok (.aload_n 2, 1) := by decide +kernel
theorem dX6_init_11 : decode cX6_init 11 = .ok (.putfield 15, 3) := by decide +kernel
theorem dX6_init_14 : decode cX6_init 14 = .ok (.return_, 1) := by decide +kernel
theorem dX6_shut_0 : decode cX6_shut 0 = .ok (.aload_n 0, 1) := by decide +kernel
theorem dX6_shut_1 : decode cX6_shut 1 = .ok (.iconst 0, 1) := by decide +kernel
theorem dX6_shut_2 : decode cX6_shut 2 = .ok (.putfield 19, 3) := by decide +kernel
theorem dX6_shut_5 : decode cX6_shut 5 = .ok (.return_, 1) := by decide +kernel
theorem dX6_open_0 : decode cX6_open 0 = .ok (.aload_n 0, 1) := by decide +kernel
theorem dX6_open_1 : decode cX6_open 1 = .ok (.iconst 1, 1) := by decide +kernel
theorem dX6_open_2 : decode cX6_open 2 = .ok (.putfield 19, 3) := by decide +kernel
theorem dX6_open_5 : decode cX6_open 5 = .ok (.aload_n 0, 1) := by decide +kernel
theorem dX6_open_6 : decode cX6_open 6 = .ok (.iconst 0, 1) := by decide +kernel
theorem dX6_open_7 : decode cX6_open 7 = .ok (.putfield 23, 3) := by decide +kernel
theorem dX6_open_10 : decode cX6_open 10 = .ok (.aload_n 0, 1) := by decide +kernel
theorem dX6_open_11 : decode cX6_open 11 = .ok (.iconst 0, 1) := by decide +kernel
theorem dX6_open_12 : decode cX6_open 12 = .ok (.putfield 27, 3) := by decide +kernel
theorem dX6_open_15 : decode cX6_open 15 = .ok (.aload_n 0, 1) := by decide +kernel
theorem dX6_open_16 : decode cX6_open 16 = .ok (.iconst (-1), 1) := by decide +kernel
theorem dX6_open_17 : decode cX6_open 17 = .ok (.putfield 30, 3) := by decide +kernel
theorem dX6_open_20 : decode cX6_open 20 = .ok (.return_, 1) := by decide +kernel
theorem dX6_goOn_0 : decode cX6_goOn 0 = .ok (.aload_n 0, 1) := by decide +kernel
theorem dX6_goOn_1 : decode cX6_goOn 1 = .ok (.invokevirtual 33, 3) := by decide +kernel
theorem dX6_goOn_4 : decode cX6_goOn 4 = .ok (.istore_n 1, 1) := by decide +kernel
theorem dX6_goOn_5 : decode cX6_goOn 5 = .ok (.iload_n 1, 1) := by decide +kernel
theorem dX6_goOn_6 : decode cX6_goOn 6 = .ok (.iconst (-1), 1) := by decide +kernel
theorem dX6_goOn_7 : decode cX6_goOn 7 = .ok (.if_icmp .ne 51, 3) := by decide +kernel
theorem dX6_goOn_10 : decode cX6_goOn 10 = .ok (.aload_n 0, 1) := by decide +kernel
theorem dX6_goOn_11 : decode cX6_goOn 11 = .ok (.getfield 27, 3) := by decide +kernel
theorem dX6_goOn_14 : decode cX6_goOn 14 = .ok (.aload_n 0, 1) := by decide +kernel
theorem dX6_goOn_15 : decode cX6_goOn 15 = .ok (.getfield 15, 3) := by decide +kernel
theorem dX6_goOn_18 : decode cX6_goOn 18 = .ok (.getfield 37, 3) := by decide +kernel
theorem dX6_goOn_21 : decode cX6_goOn 21 = .ok (.if_icmp .ge 37, 3) := by decide +kernel
theorem dX6_goOn_24 : decode cX6_goOn 24 = .ok (.aload_n 0, 1) := by decide +kernel
theorem dX6_goOn_25 : decode cX6_goOn 25 = .ok (.aload_n 0, 1) := by decide +kernel
theorem dX6_goOn_26 : decode cX6_goOn 26 = .ok (.getfield 15, 3) := by decide +kernel
theorem dX6_goOn_29 : decode cX6_goOn 29 = .ok (.getfield 42, 3) := by decide +kernel
theorem dX6_goOn_32 : decode cX6_goOn 32 = .ok (.aload_n 0, 1) := by decide +kernel
theorem dX6_goOn_33 : decode cX6_goOn 33 = .ok (.getfield 27, 3) := by decide +kernel
theorem dX6_goOn_36 : decode cX6_goOn 36 = .ok (.iaload, 1) := by decide +kernel
theorem dX6_goOn_37 : decode cX6_goOn 37 = .ok (.invokevirtual 46, 3) := by decide +kernel
theorem dX6_goOn_40 : decode cX6_goOn 40 = .ok (.aload_n 0, 1) := by decide +kernel
theorem dX6_goOn_41 : decode cX6_goOn 41 = .ok (.dup, 1) := by decide +kernel
theorem dX6_goOn_42 : decode cX6_goOn 42 = .ok (.getfield 27, 3) := by decide +kernel
theorem dX6_goOn_45 : decode cX6_goOn 45 = .ok (.iconst 1, 1) := by decide +kernel
theorem dX6_goOn_46 : decode cX6_goOn 46 = .ok (.iadd, 1) := by decide +kernel
theorem dX6_goOn_47 : decode cX6_goOn 47 = .ok (.putfield 27, 3) := by decide +kernel
theorem dX6_goOn_50 : decode cX6_goOn 50 = .ok (.aload_n 0, 1) := by decide +kernel
theorem dX6_goOn_51 : decode cX6_goOn 51 = .ok (.invokevirtual 33, 3) := by decide +kernel
theorem dX6_goOn_54 : decode cX6_goOn 54 = .ok (.istore_n 1, 1) := by decide +kernel
theorem dX6_goOn_55 : decode cX6_goOn 55 = .ok (.goto (-50), 3) := by decide +kernel
theorem dX6_goOn_58 : decode cX6_goOn 58 = .ok (.iload_n 1, 1) := by decide +kernel
theorem dX6_goOn_59 : decode cX6_goOn 59 = .ok (.ireturn, 1) := by decide +kernel
theorem dX6_lookAt_0 : decode cX6_lookAt 0 = .ok (.iload_n 1, 1) := by decide +kernel
theorem dX6_lookAt_1 : decode cX6_lookAt 1 = .ok (.aload_n 0, 1) := by decide +kernel
theorem dX6_lookAt_2 : decode cX6_lookAt 2 = .ok (.getfield 15, 3) := by decide +kernel
theorem dX6_lookAt_5 : decode cX6_lookAt 5 = .ok (.getfield 50, 3) := by decide +kernel
theorem dX6_lookAt_8 : decode cX6_lookAt 8 = .ok (.if_icmp .eq 18, 3) := by decide +kernel
theorem dX6_lookAt_11 : decode cX6_lookAt 11 = .ok (.aload_n 0, 1) := by decide +kernel
theorem dX6_lookAt_12 : decode cX6_lookAt 12 = .ok (.getfield 9, 3) := by decide +kernel
theorem dX6_lookAt_15 : decode cX6_lookAt 15 = .ok (.iload_n 1, 1) := by decide +kernel
theorem dX6_lookAt_16 : decode cX6_lookAt 16 = .ok (.sipush 804, 3) := by decide +kernel
theorem dX6_lookAt_19 : decode cX6_lookAt 19 = .ok (.invokevirtual 53, 3) := by decide +kernel
theorem dX6_lookAt_22 : decode cX6_lookAt 22 = .ok (.ifCond .ne 4, 3) := by decide +kernel
theorem dX6_lookAt_25 : decode cX6_lookAt 25 = .ok (.return_, 1) := by decide +kernel
theorem dX6_lookAt_26 : decode cX6_lookAt 26 = .ok (.aload_n 0, 1) := by decide +kernel
theorem dX6_lookAt_27 : decode cX6_lookAt 27 = .ok (.dup, 1) := by decide +kernel
theorem dX6_lookAt_28 : decode cX6_lookAt 28 = .ok (.getfield 23, 3) := by decide +kernel
theorem dX6_lookAt_31 : decode cX6_lookAt 31 = .ok (.iconst 1, 1) := by decide +kernel
theorem dX6_lookAt_32 : decode cX6_lookAt 32 = .ok (.iadd, 1) := by decide +kernel
theorem dX6_lookAt_33 : decode cX6_lookAt 33 = .ok (.putfield 23, 3) := by decide +kernel
theorem dX6_lookAt_36 : decode cX6_lookAt 36 = .ok (.aload_n 0, 1) := by decide +kernel
theorem dX6_lookAt_37 : decode cX6_lookAt 37 = .ok (.getfield 9, 3) := by decide +kernel
theorem dX6_lookAt_40 : decode cX6_lookAt 40 = .ok (.getfield 59, 3) := by decide +kernel
theorem dX6_lookAt_43 : decode cX6_lookAt 43 = .ok (.iload_n 1, 1) := by decide +kernel
theorem dX6_lookAt_44 : decode cX6_lookAt 44 = .ok (.iaload, 1) := by decide +kernel
theorem dX6_lookAt_45 : decode cX6_lookAt 45 = .ok (.ifCond .ne 13, 3) := by decide +kernel
theorem dX6_lookAt_48 : decode cX6_lookAt 48 = .ok (.aload_n 0, 1) := by decide +kernel
theorem dX6_lookAt_49 : decode cX6_lookAt 49 = .ok (.iload_n 1, 1) := by decide +kernel
theorem dX6_lookAt_50 : decode cX6_lookAt 50 = .ok (.putfield 30, 3) := by decide +kernel
theorem dX6_lookAt_53 : decode cX6_lookAt 53 = .ok (.aload_n 0, 1) := by decide +kernel
theorem dX6_lookAt_54 : decode cX6_lookAt 54 = .ok (.iconst 0, 1) := by decide +kernel
theorem dX6_lookAt_55 : decode cX6_lookAt 55 = .ok (.putfield 62, 3) := by decide +kernel
theorem dX6_lookAt_58 : decode cX6_lookAt 58 = .ok (.return_, 1) := by decide +kernel
theorem dX6_nextInLeaf_0 : decode cX6_nextInLeaf 0 = .ok (.aload_n 0, 1) := by decide +kernel
theorem dX6_nextInLeaf_1 : decode cX6_nextInLeaf 1 = .ok (.getfield 30, 3) := by decide +kernel
theorem dX6_nextInLeaf_4 : decode cX6_nextInLeaf 4 = .ok (.iconst (-1), 1) := by decide +kernel
theorem dX6_nextInLeaf_5 : decode cX6_nextInLeaf 5 = .ok (.if_icmp .ne 5, 3) := by decide +kernel
theorem dX6_nextInLeaf_8 : decode cX6_nextInLeaf 8 = .ok (.iconst (-1), 1) := by decide +kernel
theorem dX6_nextInLeaf_9 : decode cX6_nextInLeaf 9 = .ok (.ireturn, 1) := by decide +kernel
theorem dX6_nextInLeaf_10 : decode cX6_nextInLeaf 10 = .ok (.aload_n 0, 1) := by decide +kernel
theorem dX6_nextInLeaf_11 : decode cX6_nextInLeaf 11 = .ok (.getfield 62, 3) := by decide +kernel
theorem dX6_nextInLeaf_14 : decode cX6_nextInLeaf 14 = .ok (.aload_n 0, 1) := by decide +kernel
theorem dX6_nextInLeaf_15 : decode cX6_nextInLeaf 15 = .ok (.getfield 9, 3) := by decide +kernel
theorem dX6_nextInLeaf_18 : decode cX6_nextInLeaf 18 = .ok (.getfield 65, 3) := by decide +kernel
theorem dX6_nextInLeaf_21 : decode cX6_nextInLeaf 21 = .ok (.aload_n 0, 1) := by decide +kernel
theorem dX6_nextInLeaf_22 : decode cX6_nextInLeaf 22 = .ok (.getfield 30, 3) := by decide +kernel
theorem dX6_nextInLeaf_25 : decode cX6_nextInLeaf 25 = .ok (.iaload, 1) := by decide +kernel
theorem dX6_nextInLeaf_26 : decode cX6_nextInLeaf 26 = .ok (.if_icmp .ge 48, 3) := by decide +kernel
theorem dX6_nextInLeaf_29 : decode cX6_nextInLeaf 29 = .ok (.aload_n 0, 1) := by decide +kernel
theorem dX6_nextInLeaf_30 : decode cX6_nextInLeaf 30 = .ok (.getfield 9, 3) := by decide +kernel
theorem dX6_nextInLeaf_33 : decode cX6_nextInLeaf 33 = .ok (.aload_n 0, 1) := by decide +kernel
theorem dX6_nextInLeaf_34 : decode cX6_nextInLeaf 34 = .ok (.getfield 30, 3) := by decide +kernel
theorem dX6_nextInLeaf_37 : decode cX6_nextInLeaf 37 = .ok (.aload_n 0, 1) := by decide +kernel
theorem dX6_nextInLeaf_38 : decode cX6_nextInLeaf 38 = .ok (.getfield 62, 3) := by decide +kernel
theorem dX6_nextInLeaf_41 : decode cX6_nextInLeaf 41 = .ok (.invokevirtual 68, 3) := by decide +kernel
theorem dX6_nextInLeaf_44 : decode cX6_nextInLeaf 44 = .ok (.istore_n 1, 1) := by decide +kernel
theorem dX6_nextInLeaf_45 : decode cX6_nextInLeaf 45 = .ok (.aload_n 0, 1) := by decide +kernel
theorem dX6_nextInLeaf_46 : decode cX6_nextInLeaf 46 = .ok (.dup, 1) := by decide +kernel
theorem dX6_nextInLeaf_47 : decode cX6_nextInLeaf 47 = .ok (.getfield 62, 3) := by decide +kernel
theorem dX6_nextInLeaf_50 : decode cX6_nextInLeaf 50 = .ok (.iconst 1, 1) := by decide +kernel
theorem dX6_nextInLeaf_51 : decode cX6_nextInLeaf 51 = .ok (.iadd, 1) := by decide +kernel
theorem dX6_nextInLeaf_52 : decode cX6_nextInLeaf 52 = .ok (.putfield 62, 3) := by decide +kernel
theorem dX6_nextInLeaf_55 : decode cX6_nextInLeaf 55 = .ok (.aload_n 0, 1) := by decide +kernel
theorem dX6_nextInLeaf_56 : decode cX6_nextInLeaf 56 = .ok (.getfield 9, 3) := by decide +kernel
theorem dX6_nextInLeaf_59 : decode cX6_nextInLeaf 59 = .ok (.iload_n 1, 1) := by decide +kernel
theorem dX6_nextInLeaf_60 : decode cX6_nextInLeaf 60 = .ok (.sipush 804, 3) := by decide +kernel
theorem dX6_nextInLeaf_63 : decode cX6_nextInLeaf 63 = .ok (.invokevirtual 53, 3) := by decide +kernel
theorem dX6_nextInLeaf_66 : decode cX6_nextInLeaf 66 = .ok (.ifCond .eq 5, 3) := by decide +kernel
theorem dX6_nextInLeaf_69 : decode cX6_nextInLeaf 69 = .ok (.iload_n 1, 1) := by decide +kernel
theorem dX6_nextInLeaf_70 : decode cX6_nextInLeaf 70 = .ok (.ireturn, 1) := by decide +kernel
theorem dX6_nextInLeaf_71 : decode cX6_nextInLeaf 71 = .ok (.goto (-61), 3) := by decide +kernel
theorem dX6_nextInLeaf_74 : decode cX6_nextInLeaf 74 = .ok (.aload_n 0, 1) := by decide +kernel
theorem dX6_nextInLeaf_75 : decode cX6_nextInLeaf 75 = .ok (.iconst (-1), 1) := by decide +kernel
theorem dX6_nextInLeaf_76 : decode cX6_nextInLeaf 76 = .ok (.putfield 30, 3) := by decide +kernel
theorem dX6_nextInLeaf_79 : decode cX6_nextInLeaf 79 = .ok (.iconst (-1), 1) := by decide +kernel
theorem dX6_nextInLeaf_80 : decode cX6_nextInLeaf 80 = .ok (.ireturn, 1) := by decide +kernel
theorem dX7_init_0 : decode cX7_init 0 = .ok (.aload_n 0, 1) := by decide +kernel
theorem dX7_init_1 : decode cX7_init 1 = .ok (.invokespecial 3, 3) := by decide +kernel
theorem dX7_init_4 : decode cX7_init 4 = .ok (.iconst 4, 1) := by decide +kernel
theorem dX7_init_5 : decode cX7_init 5 = .ok (.bipush 10, 2) := by decide +kernel
theorem dX7_init_7 : decode cX7_init 7 = .ok (.iload_n 1, 1) := by decide +kernel
theorem dX7_init_8 : decode cX7_init 8 = .ok (.invokestatic 9, 3) := by decide +kernel
theorem dX7_init_11 : decode cX7_init 11 = .ok (.invokestatic 15, 3) := by decide +kernel
theorem dX7_init_14 : decode cX7_init 14 = .ok (.istore_n 3, 1) := by decide +kernel
theorem dX7_init_15 : decode cX7_init 15 = .ok (.aload_n 0, 1) := by decide +kernel
theorem dX7_init_16 : decode cX7_init 16 = .ok (.new 18, 3) := by decide +kernel
theorem dX7_init_19 : decode cX7_init 19 = .ok (.dup, 1) := by decide +kernel
theorem dX7_init_20 : decode cX7_init 20 = .ok (.iload_n 3, 1) := by decide +kernel
theorem dX7_init_21 : decode cX7_init 21 = .ok (.iconst 2, 1) := by decide +kernel
theorem dX7_init_22 : decode cX7_init 22 = .ok (.iload_n 3, 1) := by decide +kernel
theorem dX7_init_23 : decode cX7_init 23 = .ok (.iconst 2, 1) := by decide +kernel
theorem dX7_init_24 : decode cX7_init 24 = .ok (.idiv, 1) := by decide +kernel
theorem dX7_init_25 : decode cX7_init 25 = .ok (.iload_n 2, 1) := by decide +kernel
theorem dX7_init_26 : decode cX7_init 26 = .ok (.invokestatic 9, 3) := by decide +kernel
theorem dX7_init_29 : decode cX7_init 29 = .ok (.invokestatic 15, 3) := by decide +kernel
theorem dX7_init_32 : decode cX7_init 32 = .ok (.invokespecial 20, 3) := by decide +kernel
theorem dX7_init_35 : decode cX7_init 35 = .ok (.putfield 23, 3) := by decide +kernel
theorem dX7_init_38 : decode cX7_init 38 = .ok (.aload_n 0, 1) := by decide +kernel
theorem dX7_init_39 : decode cX7_init 39 = .ok (.new 27, 3) := by decide +kernel
theorem dX7_init_42 : decode cX7_init 42 = .ok (.dup, 1) := by decide +kernel
theorem dX7_init_43 : decode cX7_init 43 = .ok (.aload_n 0, 1) := by decide +kernel
theorem dX7_init_44 : decode cX7_init 44 = .ok (.getfield 23, 3) := by decide +kernel
theorem dX7_init_47 : decode cX7_init 47 = .ok (.invokespecial 29, 3) := by decide +kernel
theorem dX7_init_50 : decode cX7_init 50 = .ok (.putfield 32, 3) := by decide +kernel
theorem dX7_init_53 : decode cX7_init 53 = .ok (.aload_n 0, 1) := by decide +kernel
theorem dX7_init_54 : decode cX7_init 54 = .ok (.new 36, 3) := by decide +kernel
theorem dX7_init_57 : decode cX7_init 57 = .ok (.dup, 1) := by decide +kernel
theorem dX7_init_58 : decode cX7_init 58 = .ok (.aload_n 0, 1) := by decide +kernel
theorem dX7_init_59 : decode cX7_init 59 = .ok (.getfield 23, 3) := by decide +kernel
theorem dX7_init_62 : decode cX7_init 62 = .ok (.aload_n 0, 1) := by decide +kernel
theorem dX7_init_63 : decode cX7_init 63 = .ok (.getfield 32, 3) := by decide +kernel
theorem dX7_init_66 : decode cX7_init 66 = .ok (.invokespecial 38, 3) := by decide +kernel
theorem dX7_init_69 : decode cX7_init 69 = .ok (.putfield 41, 3) := by decide +kernel
theorem dX7_init_72 : decode cX7_init 72 = .ok (.aload_n 0, 1) := by decide +kernel
theorem dX7_init_73 : decode cX7_init 73 = .ok (.new 45, 3) := by decide +kernel
theorem dX7_init_76 : decode cX7_init 76 = .ok (.dup, 1) := by decide +kernel
theorem dX7_init_77 : decode cX7_init 77 = .ok (.aload_n 0, 1) := by decide +kernel
theorem dX7_init_78 : decode cX7_init 78 = .ok (.getfield 23, 3) := by decide +kernel
theorem dX7_init_81 : decode cX7_init 81 = .ok (.aload_n 0, 1) := by decide +kernel
theorem dX7_init_82 : decode cX7_init 82 = .ok (.getfield 32, 3) := by decide +kernel
theorem dX7_init_85 : decode cX7_init 85 = .ok (.invokespecial 47, 3) := by decide +kernel
theorem dX7_init_88 : decode cX7_init 88 = .ok (.putfield 48, 3) := by decide +kernel
theorem dX7_init_91 : decode cX7_init 91 = .ok (.aload_n 0, 1) := by decide +kernel
theorem dX7_init_92 : decode cX7_init 92 = .ok (.new 52, 3) := by decide +kernel
theorem dX7_init_95 : decode cX7_init 95 = .ok (.dup, 1) := by decide +kernel
theorem dX7_init_96 : decode cX7_init 96 = .ok (.aload_n 0, 1) := by decide +kernel
theorem dX7_init_97 : decode cX7_init 97 = .ok (.getfield 23, 3) := by decide +kernel
