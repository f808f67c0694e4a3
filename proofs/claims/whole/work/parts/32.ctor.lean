/-! The constructors. Written by wip/gen/ctor.py. -/
theorem dX1_init_0 : decode cX1_init 0 = .ok (.aload_n 0, 1) := by decide +kernel
theorem dX1_init_1 : decode cX1_init 1 = .ok (.invokespecial 3, 3) := by decide +kernel
theorem dX1_init_4 : decode cX1_init 4 = .ok (.aload_n 0, 1) := by decide +kernel
theorem dX1_init_5 : decode cX1_init 5 = .ok (.bipush 13, 2) := by decide +kernel
theorem dX1_init_7 : decode cX1_init 7 = .ok (.newarray .int, 2) := by decide +kernel
theorem dX1_init_9 : decode cX1_init 9 = .ok (.putfield 9, 3) := by decide +kernel
theorem dX1_init_12 : decode cX1_init 12 = .ok (.aload_n 0, 1) := by decide +kernel
theorem dX1_init_13 : decode cX1_init 13 = .ok (.iconst 0, 1) := by decide +kernel
theorem dX1_init_14 : decode cX1_init 14 = .ok (.putfield 15, 3) := by decide +kernel
theorem dX1_init_17 : decode cX1_init 17 = .ok (.aload_n 0, 1) := by decide +kernel
theorem dX1_init_18 : decode cX1_init 18 = .ok (.iconst 3, 1) := by decide +kernel
theorem dX1_init_19 : decode cX1_init 19 = .ok (.newarray .int, 2) := by decide +kernel
theorem dX1_init_21 : decode cX1_init 21 = .ok (.putfield 19, 3) := by decide +kernel
theorem dX1_init_24 : decode cX1_init 24 = .ok (.aload_n 0, 1) := by decide +kernel
theorem dX1_init_25 : decode cX1_init 25 = .ok (.iconst 3, 1) := by decide +kernel
theorem dX1_init_26 : decode cX1_init 26 = .ok (.newarray .int, 2) := by decide +kernel
theorem dX1_init_28 : decode cX1_init 28 = .ok (.putfield 22, 3) := by decide +kernel
theorem dX1_init_31 : decode cX1_init 31 = .ok (.aload_n 0, 1) := by decide +kernel
theorem dX1_init_32 : decode cX1_init 32 = .ok (.iconst (-1), 1) := by decide +kernel
theorem dX1_init_33 : decode cX1_init 33 = .ok (.putfield 25, 3) := by decide +kernel
theorem dX1_init_36 : decode cX1_init 36 = .ok (.return_, 1) := by decide +kernel
theorem dX2_init_0 : decode cX2_init 0 = .ok (.aload_n 0, 1) := by decide +kernel
theorem dX2_init_1 : decode cX2_init 1 = .ok (.invokespecial 3, 3) := by decide +kernel
theorem dX2_init_4 : decode cX2_init 4 = .ok (.aload_n 0, 1) := by decide +kernel
theorem dX2_init_5 : decode cX2_init 5 = .ok (.sipush 701, 3) := by decide +kernel
theorem dX2_init_8 : decode cX2_init 8 = .ok (.newarray .int, 2) := by decide +kernel
theorem dX2_init_10 : decode cX2_init 10 = .ok (.putfield 9, 3) := by decide +kernel
theorem dX2_init_13 : decode cX2_init 13 = .ok (.aload_n 0, 1) := by decide +kernel
theorem dX2_init_14 : decode cX2_init 14 = .ok (.sipush 701, 3) := by decide +kernel
theorem dX2_init_17 : decode cX2_init 17 = .ok (.newarray .int, 2) := by decide +kernel
theorem dX2_init_19 : decode cX2_init 19 = .ok (.putfield 15, 3) := by decide +kernel
theorem dX2_init_22 : decode cX2_init 22 = .ok (.aload_n 0, 1) := by decide +kernel
theorem dX2_init_23 : decode cX2_init 23 = .ok (.sipush 701, 3) := by decide +kernel
theorem dX2_init_26 : decode cX2_init 26 = .ok (.newarray .int, 2) := by decide +kernel
theorem dX2_init_28 : decode cX2_init 28 = .ok (.putfield 18, 3) := by decide +kernel
theorem dX2_init_31 : decode cX2_init 31 = .ok (.aload_n 0, 1) := by decide +kernel
theorem dX2_init_32 : decode cX2_init 32 = .ok (.iconst 0, 1) := by decide +kernel
theorem dX2_init_33 : decode cX2_init 33 = .ok (.putfield 21, 3) := by decide +kernel
theorem dX2_init_36 : decode cX2_init 36 = .ok (.aload_n 0, 1) := by decide +kernel
theorem dX2_init_37 : decode cX2_init 37 = .ok (.iconst 0, 1) := by decide +kernel
theorem dX2_init_38 : decode cX2_init 38 = .ok (.putfield 25, 3) := by decide +kernel
theorem dX2_init_41 : decode cX2_init 41 = .ok (.aload_n 0, 1) := by decide +kernel
theorem dX2_init_42 : decode cX2_init 42 = .ok (.bipush 12, 2) := by decide +kernel
theorem dX2_init_44 : decode cX2_init 44 = .ok (.newarray .boolean, 2) := by decide +kernel
theorem dX2_init_46 : decode cX2_init 46 = .ok (.putfield 28, 3) := by decide +kernel
theorem dX2_init_49 : decode cX2_init 49 = .ok (.aload_n 0, 1) := by decide +kernel
theorem dX2_init_50 : decode cX2_init 50 = .ok (.iconst 0, 1) := by decide +kernel
theorem dX2_init_51 : decode cX2_init 51 = .ok (.putfield 32, 3) := by decide +kernel
theorem dX2_init_54 : decode cX2_init 54 = .ok (.aload_n 0, 1) := by decide +kernel
theorem dX2_init_55 : decode cX2_init 55 = .ok (.iconst (-1), 1) := by decide +kernel
theorem dX2_init_56 : decode cX2_init 56 = .ok (.putfield 35, 3) := by decide +kernel
theorem dX2_init_59 : decode cX2_init 59 = .ok (.return_, 1) := by decide +kernel
theorem dX3_init_0 : decode cX3_init 0 = .ok (.aload_n 0, 1) := by decide +kernel
theorem dX3_init_1 : decode cX3_init 1 = .ok (.invokespecial 3, 3) := by decide +kernel
theorem dX3_init_4 : decode cX3_init 4 = .ok (.aload_n 0, 1) := by decide +kernel
theorem dX3_init_5 : decode cX3_init 5 = .ok (.sipush 700, 3) := by decide +kernel
theorem dX3_init_8 : decode cX3_init 8 = .ok (.newarray .int, 2) := by decide +kernel
theorem dX3_init_10 : decode cX3_init 10 = .ok (.putfield 9, 3) := by decide +kernel
theorem dX3_init_13 : decode cX3_init 13 = .ok (.aload_n 0, 1) := by decide +kernel
theorem dX3_init_14 : decode cX3_init 14 = .ok (.iconst 0, 1) := by decide +kernel
theorem dX3_init_15 : decode cX3_init 15 = .ok (.putfield 15, 3) := by decide +kernel
theorem dX3_init_18 : decode cX3_init 18 = .ok (.aload_n 0, 1) := by decide +kernel
theorem dX3_init_19 : decode cX3_init 19 = .ok (.bipush 6, 2) := by decide +kernel
theorem dX3_init_21 : decode cX3_init 21 = .ok (.newarray .int, 2) := by decide +kernel
theorem dX3_init_23 : decode cX3_init 23 = .ok (.putfield 19, 3) := by decide +kernel
theorem dX3_init_26 : decode cX3_init 26 = .ok (.aload_n 0, 1) := by decide +kernel
theorem dX3_init_27 : decode cX3_init 27 = .ok (.bipush 6, 2) := by decide +kernel
theorem dX3_init_29 : decode cX3_init 29 = .ok (.newarray .int, 2) := by decide +kernel
theorem dX3_init_31 : decode cX3_init 31 = .ok (.putfield 22, 3) := by decide +kernel
theorem dX3_init_34 : decode cX3_init 34 = .ok (.aload_n 0, 1) := by decide +kernel
theorem dX3_init_35 : decode cX3_init 35 = .ok (.bipush 64, 2) := by decide +kernel
theorem dX3_init_37 : decode cX3_init 37 = .ok (.newarray .int, 2) := by decide +kernel
theorem dX3_init_39 : decode cX3_init 39 = .ok (.putfield 25, 3) := by decide +kernel
theorem dX3_init_42 : decode cX3_init 42 = .ok (.aload_n 0, 1) := by decide +kernel
theorem dX3_init_43 : decode cX3_init 43 = .ok (.bipush 8, 2) := by decide +kernel
theorem dX3_init_45 : decode cX3_init 45 = .ok (.newarray .int, 2) := by decide +kernel
theorem dX3_init_47 : decode cX3_init 47 = .ok (.putfield 28, 3) := by decide +kernel
theorem dX3_init_50 : decode cX3_init 50 = .ok (.return_, 1) := by decide +kernel
theorem dX4_init_0 : decode cX4_init 0 = .ok (.aload_n 0, 1) := by decide +kernel
theorem dX4_init_1 : decode cX4_init 1 = .ok (.invokespecial 3, 3) := by decide +kernel
theorem dX4_init_4 : decode cX4_init 4 = .ok (.aload_n 0, 1) := by decide +kernel
theorem dX4_init_5 : decode cX4_init 5 = .ok (.bipush 12, 2) := by decide +kernel
theorem dX4_init_7 : decode cX4_init 7 = .ok (.newarray .int, 2) := by decide +kernel
theorem dX4_init_9 : decode cX4_init 9 = .ok (.putfield 9, 3) := by decide +kernel
theorem dX4_init_12 : decode cX4_init 12 = .ok (.aload_n 0, 1) := by decide +kernel
theorem dX4_init_13 : decode cX4_init 13 = .ok (.bipush 12, 2) := by decide +kernel
theorem dX4_init_15 : decode cX4_init 15 = .ok (.newarray .int, 2) := by decide +kernel
theorem dX4_init_17 : decode cX4_init 17 = .ok (.putfield 15, 3) := by decide +kernel
theorem dX4_init_20 : decode cX4_init 20 = .ok (.aload_n 0, 1) := by decide +kernel
theorem dX4_init_21 : decode cX4_init 21 = .ok (.bipush 6, 2) := by decide +kernel
theorem dX4_init_23 : decode cX4_init 23 = .ok (.newarray .int, 2) := by decide +kernel
theorem dX4_init_25 : decode cX4_init 25 = .ok (.putfield 18, 3) := by decide +kernel
theorem dX4_init_28 : decode cX4_init 28 = .ok (.aload_n 0, 1) := by decide +kernel
theorem dX4_init_29 : decode cX4_init 29 = .ok (.bipush 6, 2) := by decide +kernel
theorem dX4_init_31 : decode cX4_init 31 = .ok (.newarray .int, 2) := by decide +kernel
theorem dX4_init_33 : decode cX4_init 33 = .ok (.putfield 21, 3) := by decide +kernel
theorem dX4_init_36 : decode cX4_init 36 = .ok (.aload_n 0, 1) := by decide +kernel
theorem dX4_init_37 : decode cX4_init 37 = .ok (.bipush 12, 2) := by decide +kernel
theorem dX4_init_39 : decode cX4_init 39 = .ok (.newarray .int, 2) := by decide +kernel
theorem dX4_init_41 : decode cX4_init 41 = .ok (.putfield 24, 3) := by decide +kernel
theorem dX4_init_44 : decode cX4_init 44 = .ok (.aload_n 0, 1) := by decide +kernel
theorem dX4_init_45 : decode cX4_init 45 = .ok (.new 27, 3) := by decide +kernel
theorem dX4_init_48 : decode cX4_init 48 = .ok (.dup, 1) := by decide +kernel
theorem dX4_init_49 : decode cX4_init 49 = .ok (.invokespecial 29, 3) := by decide +kernel
theorem dX4_init_52 : decode cX4_init 52 = .ok (.putfield 30, 3) := by decide +kernel
theorem dX4_init_55 : decode cX4_init 55 = .ok (.aload_n 0, 1) := by decide +kernel
theorem dX4_init_56 : decode cX4_init 56 = .ok (.sipush 601, 3) := by decide +kernel
theorem dX4_init_59 : decode cX4_init 59 = .ok (.newarray .int, 2) := by decide +kernel
theorem dX4_init_61 : decode cX4_init 61 = .ok (.putfield 34, 3) := by decide +kernel
theorem dX4_init_64 : decode cX4_init 64 = .ok (.aload_n 0, 1) := by decide +kernel
theorem dX4_init_65 : decode cX4_init 65 = .ok (.sipush 481, 3) := by decide +kernel
theorem dX4_init_68 : decode cX4_init 68 = .ok (.newarray .int, 2) := by decide +kernel
theorem dX4_init_70 : decode cX4_init 70 = .ok (.putfield 37, 3) := by decide +kernel
theorem dX4_init_73 : decode cX4_init 73 = .ok (.return_, 1) := by decide +kernel
theorem dX5_init_0 : decode cX5_init 0 = .ok (.aload_n 0, 1) := by decide +kernel
theorem dX5_init_1 : decode cX5_init 1 = .ok (.invokespecial 3, 3) := by decide +kernel
theorem dX5_init_4 : decode cX5_init 4 = .ok (.aload_n 0, 1) := by decide +kernel
theorem dX5_init_5 : decode cX5_init 5 = .ok (.bipush 12, 2) := by decide +kernel
theorem dX5_init_7 : decode cX5_init 7 = .ok (.newarray .int, 2) := by decide +kernel
theorem dX5_init_9 : decode cX5_init 9 = .ok (.putfield 9, 3) := by decide +kernel
theorem dX5_init_12 : decode cX5_init 12 = .ok (.aload_n 0, 1) := by decide +kernel
theorem dX5_init_13 : decode cX5_init 13 = .ok (.bipush 40, 2) := by decide +kernel
theorem dX5_init_15 : decode cX5_init 15 = .ok (.newarray .int, 2) := by decide +kernel
theorem dX5_init_17 : decode cX5_init 17 = .ok (.putfield 15, 3) := by decide +kernel
theorem dX5_init_20 : decode cX5_init 20 = .ok (.aload_n 0, 1) := by decide +kernel
theorem dX5_init_21 : decode cX5_init 21 = .ok (.bipush 40, 2) := by decide +kernel
theorem dX5_init_23 : decode cX5_init 23 = .ok (.newarray .int, 2) := by decide +kernel
theorem dX5_init_25 : decode cX5_init 25 = .ok (.putfield 18, 3) := by decide +kernel
theorem dX5_init_28 : decode cX5_init 28 = .ok (.aload_n 0, 1) := by decide +kernel
theorem dX5_init_29 : decode cX5_init 29 = .ok (.iconst 0, 1) := by decide +kernel
theorem dX5_init_30 : decode cX5_init 30 = .ok (.putfield 21, 3) := by decide +kernel
theorem dX5_init_33 : decode cX5_init 33 = .ok (.aload_n 0, 1) := by decide +kernel
theorem dX5_init_34 : decode cX5_init 34 = .ok (.bipush 8, 2) := by decide +kernel
theorem dX5_init_36 : decode cX5_init 36 = .ok (.newarray .int, 2) := by decide +kernel
theorem dX5_init_38 : decode cX5_init 38 = .ok (.putfield 25, 3) := by decide +kernel
theorem dX5_init_41 : decode cX5_init 41 = .ok (.aload_n 0, 1) := by decide +kernel
theorem dX5_init_42 : decode cX5_init 42 = .ok (.bipush 8, 2) := by decide +kernel
theorem dX5_init_44 : decode cX5_init 44 = .ok (.newarray .int, 2) := by decide +kernel
theorem dX5_init_46 : decode cX5_init 46 = .ok (.putfield 28, 3) := by decide +kernel
theorem dX5_init_49 : decode cX5_init 49 = .ok (.aload_n 0, 1) := by decide +kernel
theorem dX5_init_50 : decode cX5_init 50 = .ok (.iconst 0, 1) := by decide +kernel
theorem dX5_init_51 : decode cX5_init 51 = .ok (.putfield 31, 3) := by decide +kernel
theorem dX5_init_54 : decode cX5_init 54 = .ok (.aload_n 0, 1) := by decide +kernel
theorem dX5_init_55 : decode cX5_init 55 = .ok (.bipush 16, 2) := by decide +kernel
theorem dX5_init_57 : decode cX5_init 57 = .ok (.newarray .int, 2) := by decide +kernel
theorem dX5_init_59 : decode cX5_init 59 = .ok (.putfield 34, 3) := by decide +kernel
theorem dX5_init_62 : decode cX5_init 62 = .ok (.aload_n 0, 1) := by decide +kernel
theorem dX5_init_63 : decode cX5_init 63 = .ok (.iconst 0, 1) := by decide +kernel
theorem dX5_init_64 : decode cX5_init 64 = .ok (.putfield 37, 3) := by decide +kernel
theorem dX5_init_67 : decode cX5_init 67 = .ok (.return_, 1) := by decide +kernel
theorem dX6_init_0 : decode cX6_init 0 = .ok (.aload_n 0, 1) := by decide +kernel
theorem dX6_init_1 : decode cX6_init 1 = .ok (.invokespecial 3, 3) := by decide +kernel
theorem dX6_init_4 : decode cX6_init 4 = .ok (.aload_n 0, 1) := by decide +kernel
theorem dX6_init_5 : decode cX6_init 5 = .ok (.bipush 12, 2) := by decide +kernel
theorem dX6_init_7 : decode cX6_init 7 = .ok (.newarray .int, 2) := by decide +kernel
theorem dX6_init_9 : decode cX6_init 9 = .ok (.putfield 9, 3) := by decide +kernel
theorem dX6_init_12 : decode cX6_init 12 = .ok (.aload_n 0, 1) := by decide +kernel
theorem dX6_init_13 : decode cX6_init 13 = .ok (.iconst 0, 1) := by decide +kernel
theorem dX6_init_14 : decode cX6_init 14 = .ok (.putfield 15, 3) := by decide +kernel
theorem dX6_init_17 : decode cX6_init 17 = .ok (.aload_n 0, 1) := by decide +kernel
theorem dX6_init_18 : decode cX6_init 18 = .ok (.iconst 0, 1) := by decide +kernel
theorem dX6_init_19 : decode cX6_init 19 = .ok (.putfield 19, 3) := by decide +kernel
theorem dX6_init_22 : decode cX6_init 22 = .ok (.aload_n 0, 1) := by decide +kernel
theorem dX6_init_23 : decode cX6_init 23 = .ok (.iconst 0, 1) := by decide +kernel
theorem dX6_init_24 : decode cX6_init 24 = .ok (.putfield 22, 3) := by decide +kernel
theorem dX6_init_27 : decode cX6_init 27 = .ok (.aload_n 0, 1) := by decide +kernel
theorem dX6_init_28 : decode cX6_init 28 = .ok (.iconst 0, 1) := by decide +kernel
theorem dX6_init_29 : decode cX6_init 29 = .ok (.putfield 25, 3) := by decide +kernel
theorem dX6_init_32 : decode cX6_init 32 = .ok (.aload_n 0, 1) := by decide +kernel
theorem dX6_init_33 : decode cX6_init 33 = .ok (.iconst 0, 1) := by decide +kernel
theorem dX6_init_34 : decode cX6_init 34 = .ok (.putfield 28, 3) := by decide +kernel
theorem dX6_init_37 : decode cX6_init 37 = .ok (.aload_n 0, 1) := by decide +kernel
theorem dX6_init_38 : decode cX6_init 38 = .ok (.sipush 601, 3) := by decide +kernel
theorem dX6_init_41 : decode cX6_init 41 = .ok (.newarray .int, 2) := by decide +kernel
theorem dX6_init_43 : decode cX6_init 43 = .ok (.putfield 31, 3) := by decide +kernel
theorem dX6_init_46 : decode cX6_init 46 = .ok (.aload_n 0, 1) := by decide +kernel
theorem dX6_init_47 : decode cX6_init 47 = .ok (.sipush 601, 3) := by decide +kernel
theorem dX6_init_50 : decode cX6_init 50 = .ok (.newarray .boolean, 2) := by decide +kernel
theorem dX6_init_52 : decode cX6_init 52 = .ok (.putfield 34, 3) := by decide +kernel
theorem dX6_init_55 : decode cX6_init 55 = .ok (.aload_n 0, 1) := by decide +kernel
theorem dX6_init_56 : decode cX6_init 56 = .ok (.sipush 601, 3) := by decide +kernel
theorem dX6_init_59 : decode cX6_init 59 = .ok (.newarray .int, 2) := by decide +kernel
theorem dX6_init_61 : decode cX6_init 61 = .ok (.putfield 38, 3) := by decide +kernel
theorem dX6_init_64 : decode cX6_init 64 = .ok (.aload_n 0, 1) := by decide +kernel
theorem dX6_init_65 : decode cX6_init 65 = .ok (.sipush 601, 3) := by decide +kernel
theorem dX6_init_68 : decode cX6_init 68 = .ok (.newarray .int, 2) := by decide +kernel
theorem dX6_init_70 : decode cX6_init 70 = .ok (.putfield 41, 3) := by decide +kernel
theorem dX6_init_73 : decode cX6_init 73 = .ok (.return_, 1) := by decide +kernel
theorem dX9_init_0 : decode cX9_init 0 = .ok (.aload_n 0, 1) := by decide +kernel
theorem dX9_init_1 : decode cX9_init 1 = .ok (.invokespecial 1, 3) := by decide +kernel
theorem dX9_init_4 : decode cX9_init 4 = .ok (.aload_n 0, 1) := by decide +kernel
theorem dX9_init_5 : decode cX9_init 5 = .ok (.bipush 120, 2) := by decide +kernel
theorem dX9_init_7 : decode cX9_init 7 = .ok (.putfield 7, 3) := by decide +kernel
theorem dX9_init_10 : decode cX9_init 10 = .ok (.aload_n 0, 1) := by decide +kernel
theorem dX9_init_11 : decode cX9_init 11 = .ok (.iconst (-1), 1) := by decide +kernel
theorem dX9_init_12 : decode cX9_init 12 = .ok (.putfield 13, 3) := by decide +kernel
theorem dX9_init_15 : decode cX9_init 15 = .ok (.aload_n 0, 1) := by decide +kernel
theorem dX9_init_16 : decode cX9_init 16 = .ok (.iconst (-1), 1) := by decide +kernel
theorem dX9_init_17 : decode cX9_init 17 = .ok (.putfield 16, 3) := by decide +kernel
theorem dX9_init_20 : decode cX9_init 20 = .ok (.aload_n 0, 1) := by decide +kernel
theorem dX9_init_21 : decode cX9_init 21 = .ok (.bipush 12, 2) := by decide +kernel
theorem dX9_init_23 : decode cX9_init 23 = .ok (.newarray .int, 2) := by decide +kernel
theorem dX9_init_25 : decode cX9_init 25 = .ok (.putfield 19, 3) := by decide +kernel
theorem dX9_init_28 : decode cX9_init 28 = .ok (.aload_n 0, 1) := by decide +kernel
theorem dX9_init_29 : decode cX9_init 29 = .ok (.bipush 12, 2) := by decide +kernel
theorem dX9_init_31 : decode cX9_init 31 = .ok (.newarray .int, 2) := by decide +kernel
theorem dX9_init_33 : decode cX9_init 33 = .ok (.putfield 23, 3) := by decide +kernel
theorem dX9_init_36 : decode cX9_init 36 = .ok (.aload_n 0, 1) := by decide +kernel
theorem dX9_init_37 : decode cX9_init 37 = .ok (.bipush 6, 2) := by decide +kernel
theorem dX9_init_39 : decode cX9_init 39 = .ok (.newarray .int, 2) := by decide +kernel
theorem dX9_init_41 : decode cX9_init 41 = .ok (.putfield 26, 3) := by decide +kernel
theorem dX9_init_44 : decode cX9_init 44 = .ok (.aload_n 0, 1) := by decide +kernel
theorem dX9_init_45 : decode cX9_init 45 = .ok (.bipush 6, 2) := by decide +kernel
theorem dX9_init_47 : decode cX9_init 47 = .ok (.newarray .int, 2) := by decide +kernel
theorem dX9_init_49 : decode cX9_init 49 = .ok (.putfield 29, 3) := by decide +kernel
theorem dX9_init_52 : decode cX9_init 52 = .ok (.aload_n 0, 1) := by decide +kernel
theorem dX9_init_53 : decode cX9_init 53 = .ok (.iconst 4, 1) := by decide +kernel
theorem dX9_init_54 : decode cX9_init 54 = .ok (.newarray .int, 2) := by decide +kernel
theorem dX9_init_56 : decode cX9_init 56 = .ok (.putfield 32, 3) := by decide +kernel
theorem dX9_init_59 : decode cX9_init 59 = .ok (.aload_n 0, 1) := by decide +kernel
theorem dX9_init_60 : decode cX9_init 60 = .ok (.sipush 4200, 3) := by decide +kernel
theorem dX9_init_63 : decode cX9_init 63 = .ok (.newarray .int, 2) := by decide +kernel
theorem dX9_init_65 : decode cX9_init 65 = .ok (.putfield 35, 3) := by decide +kernel
theorem dX9_init_68 : decode cX9_init 68 = .ok (.aload_n 0, 1) := by decide +kernel
theorem dX9_init_69 : decode cX9_init 69 = .ok (.sipush 700, 3) := by decide +kernel
theorem dX9_init_72 : decode cX9_init 72 = .ok (.newarray .int, 2) := by decide +kernel
theorem dX9_init_74 : decode cX9_init 74 = .ok (.putfield 38, 3) := by decide +kernel
theorem dX9_init_77 : decode cX9_init 77 = .ok (.aload_n 0, 1) := by decide +kernel
theorem dX9_init_78 : decode cX9_init 78 = .ok (.iconst (-1), 1) := by decide +kernel
theorem dX9_init_79 : decode cX9_init 79 = .ok (.putfield 41, 3) := by decide +kernel
theorem dX9_init_82 : decode cX9_init 82 = .ok (.aload_n 0, 1) := by decide +kernel
theorem dX9_init_83 : decode cX9_init 83 = .ok (.iconst 3, 1) := by decide +kernel
theorem dX9_init_84 : decode cX9_init 84 = .ok (.newarray .int, 2) := by decide +kernel
theorem dX9_init_86 : decode cX9_init 86 = .ok (.putfield 44, 3) := by decide +kernel
theorem dX9_init_89 : decode cX9_init 89 = .ok (.aload_n 0, 1) := by decide +kernel
theorem dX9_init_90 : decode cX9_init 90 = .ok (.bipush 12, 2) := by decide +kernel
theorem dX9_init_92 : decode cX9_init 92 = .ok (.newarray .int, 2) := by decide +kernel
theorem dX9_init_94 : decode cX9_init 94 = .ok (.putfield 47, 3) := by decide +kernel
theorem dX9_init_97 : decode cX9_init 97 = .ok (.aload_n 0, 1) := by decide +kernel
theorem dX9_init_98 : decode cX9_init 98 = .ok (.bipush 12, 2) := by decide +kernel
theorem dX9_init_100 : decode cX9_init 100 = .ok (.newarray .int, 2) := by decide +kernel
theorem dX9_init_102 : decode cX9_init 102 = .ok (.putfield 50, 3) := by decide +kernel
theorem dX9_init_105 : decode cX9_init 105 = .ok (.aload_n 0, 1) := by decide +kernel
theorem dX9_init_106 : decode cX9_init 106 = .ok (.bipush 6, 2) := by decide +kernel
theorem dX9_init_108 : decode cX9_init 108 = .ok (.newarray .int, 2) := by decide +kernel
theorem dX9_init_110 : decode cX9_init 110 = .ok (.putfield 53, 3) := by decide +kernel
theorem dX9_init_113 : decode cX9_init 113 = .ok (.aload_n 0, 1) := by decide +kernel
theorem dX9_init_114 : decode cX9_init 114 = .ok (.bipush 6, 2) := by decide +kernel
theorem dX9_init_116 : decode cX9_init 116 = .ok (.newarray .int, 2) := by decide +kernel
theorem dX9_init_118 : decode cX9_init 118 = .ok (.putfield 56, 3) := by decide +kernel
theorem dX9_init_121 : decode cX9_init 121 = .ok (.aload_n 0, 1) := by decide +kernel
theorem dX9_init_122 : decode cX9_init 122 = .ok (.bipush 6, 2) := by decide +kernel
theorem dX9_init_124 : decode cX9_init 124 = .ok (.newarray .int, 2) := by decide +kernel
theorem dX9_init_126 : decode cX9_init 126 = .ok (.putfield 59, 3) := by decide +kernel
theorem dX9_init_129 : decode cX9_init 129 = .ok (.aload_n 0, 1) := by decide +kernel
theorem dX9_init_130 : decode cX9_init 130 = .ok (.bipush 6, 2) := by decide +kernel
theorem dX9_init_132 : decode cX9_init 132 = .ok (.newarray .int, 2) := by decide +kernel
theorem dX9_init_134 : decode cX9_init 134 = .ok (.putfield 62, 3) := by decide +kernel
theorem dX9_init_137 : decode cX9_init 137 = .ok (.aload_n 0, 1) := by decide +kernel
theorem dX9_init_138 : decode cX9_init 138 = .ok (.iconst 4, 1) := by decide +kernel
theorem dX9_init_139 : decode cX9_init 139 = .ok (.newarray .int, 2) := by decide +kernel
theorem dX9_init_141 : decode cX9_init 141 = .ok (.putfield 65, 3) := by decide +kernel
theorem dX9_init_144 : decode cX9_init 144 = .ok (.aload_n 0, 1) := by decide +kernel
theorem dX9_init_145 : decode cX9_init 145 = .ok (.sipush 4200, 3) := by decide +kernel
theorem dX9_init_148 : decode cX9_init 148 = .ok (.newarray .int, 2) := by decide +kernel
theorem dX9_init_150 : decode cX9_init 150 = .ok (.putfield 68, 3) := by decide +kernel
theorem dX9_init_153 : decode cX9_init 153 = .ok (.aload_n 0, 1) := by decide +kernel
theorem dX9_init_154 : decode cX9_init 154 = .ok (.sipush 950, 3) := by decide +kernel
theorem dX9_init_157 : decode cX9_init 157 = .ok (.newarray .int, 2) := by decide +kernel
theorem dX9_init_159 : decode cX9_init 159 = .ok (.putfield 71, 3) := by decide +kernel
theorem dX9_init_162 : decode cX9_init 162 = .ok (.aload_n 0, 1) := by decide +kernel
theorem dX9_init_163 : decode cX9_init 163 = .ok (.bipush 9, 2) := by decide +kernel
theorem dX9_init_165 : decode cX9_init 165 = .ok (.newarray .boolean, 2) := by decide +kernel
theorem dX9_init_167 : decode cX9_init 167 = .ok (.putfield 74, 3) := by decide +kernel
theorem dX9_init_170 : decode cX9_init 170 = .ok (.aload_n 0, 1) := by decide +kernel
theorem dX9_init_171 : decode cX9_init 171 = .ok (.bipush 12, 2) := by decide +kernel
theorem dX9_init_173 : decode cX9_init 173 = .ok (.newarray .int, 2) := by decide +kernel
theorem dX9_init_175 : decode cX9_init 175 = .ok (.dup, 1) := by decide +kernel
theorem dX9_init_176 : decode cX9_init 176 = .ok (.iconst 0, 1) := by decide +kernel
theorem dX9_init_177 : decode cX9_init 177 = .ok (.iconst 3, 1) := by decide +kernel
theorem dX9_init_178 : decode cX9_init 178 = .ok (.iastore, 1) := by decide +kernel
theorem dX9_init_179 : decode cX9_init 179 = .ok (.dup, 1) := by decide +kernel
theorem dX9_init_180 : decode cX9_init 180 = .ok (.iconst 1, 1) := by decide +kernel
theorem dX9_init_181 : decode cX9_init 181 = .ok (.iconst 2, 1) := by decide +kernel
theorem dX9_init_182 : decode cX9_init 182 = .ok (.iastore, 1) := by decide +kernel
theorem dX9_init_183 : decode cX9_init 183 = .ok (.dup, 1) := by decide +kernel
theorem dX9_init_184 : decode cX9_init 184 = .ok (.iconst 2, 1) := by decide +kernel
theorem dX9_init_185 : decode cX9_init 185 = .ok (.bipush 20, 2) := by decide +kernel
theorem dX9_init_187 : decode cX9_init 187 = .ok (.iastore, 1) := by decide +kernel
theorem dX9_init_188 : decode cX9_init 188 = .ok (.dup, 1) := by decide +kernel
theorem dX9_init_189 : decode cX9_init 189 = .ok (.iconst 3, 1) := by decide +kernel
theorem dX9_init_190 : decode cX9_init 190 = .ok (.iconst 0, 1) := by decide +kernel
theorem dX9_init_191 : decode cX9_init 191 = .ok (.iastore, 1) := by decide +kernel
theorem dX9_init_192 : decode cX9_init 192 = .ok (.dup, 1) := by decide +kernel
theorem dX9_init_193 : decode cX9_init 193 = .ok (.iconst 4, 1) := by decide +kernel
theorem dX9_init_194 : decode cX9_init 194 = .ok (.iconst 0, 1) := by decide +kernel
theorem dX9_init_195 : decode cX9_init 195 = .ok (.iastore, 1) := by decide +kernel
theorem dX9_init_196 : decode cX9_init 196 = .ok (.dup, 1) := by decide +kernel
theorem dX9_init_197 : decode cX9_init 197 = .ok (.iconst 5, 1) := by decide +kernel
theorem dX9_init_198 : decode cX9_init 198 = .ok (.iconst (-1), 1) := by decide +kernel
theorem dX9_init_199 : decode cX9_init 199 = .ok (.iastore, 1) := by decide +kernel
theorem dX9_init_200 : decode cX9_init 200 = .ok (.dup, 1) := by decide +kernel
theorem dX9_init_201 : decode cX9_init 201 = .ok (.bipush 6, 2) := by decide +kernel
theorem dX9_init_203 : decode cX9_init 203 = .ok (.iconst 0, 1) := by decide +kernel
theorem dX9_init_204 : decode cX9_init 204 = .ok (.iastore, 1) := by decide +kernel
theorem dX9_init_205 : decode cX9_init 205 = .ok (.dup, 1) := by decide +kernel
theorem dX9_init_206 : decode cX9_init 206 = .ok (.bipush 7, 2) := by decide +kernel
theorem dX9_init_208 : decode cX9_init 208 = .ok (.iconst 0, 1) := by decide +kernel
theorem dX9_init_209 : decode cX9_init 209 = .ok (.iastore, 1) := by decide +kernel
theorem dX9_init_210 : decode cX9_init 210 = .ok (.dup, 1) := by decide +kernel
theorem dX9_init_211 : decode cX9_init 211 = .ok (.bipush 8, 2) := by decide +kernel
theorem dX9_init_213 : decode cX9_init 213 = .ok (.iconst 0, 1) := by decide +kernel
theorem dX9_init_214 : decode cX9_init 214 = .ok (.iastore, 1) := by decide +kernel
theorem dX9_init_215 : decode cX9_init 215 = .ok (.dup, 1) := by decide +kernel
theorem dX9_init_216 : decode cX9_init 216 = .ok (.bipush 9, 2) := by decide +kernel
theorem dX9_init_218 : decode cX9_init 218 = .ok (.iconst 0, 1) := by decide +kernel
theorem dX9_init_219 : decode cX9_init 219 = .ok (.iastore, 1) := by decide +kernel
theorem dX9_init_220 : decode cX9_init 220 = .ok (.dup, 1) := by decide +kernel
theorem dX9_init_221 : decode cX9_init 221 = .ok (.bipush 10, 2) := by decide +kernel
theorem dX9_init_223 : decode cX9_init 223 = .ok (.iconst 0, 1) := by decide +kernel
theorem dX9_init_224 : decode cX9_init 224 = .ok (.iastore, 1) := by decide +kernel
theorem dX9_init_225 : decode cX9_init 225 = .ok (.dup, 1) := by decide +kernel
theorem dX9_init_226 : decode cX9_init 226 = .ok (.bipush 11, 2) := by decide +kernel
theorem dX9_init_228 : decode cX9_init 228 = .ok (.iconst 0, 1) := by decide +kernel
theorem dX9_init_229 : decode cX9_init 229 = .ok (.iastore, 1) := by decide +kernel
theorem dX9_init_230 : decode cX9_init 230 = .ok (.putfield 78, 3) := by decide +kernel
theorem dX9_init_233 : decode cX9_init 233 = .ok (.aload_n 0, 1) := by decide +kernel
theorem dX9_init_234 : decode cX9_init 234 = .ok (.bipush 12, 2) := by decide +kernel
theorem dX9_init_236 : decode cX9_init 236 = .ok (.newarray .int, 2) := by decide +kernel
theorem dX9_init_238 : decode cX9_init 238 = .ok (.putfield 81, 3) := by decide +kernel
theorem dX9_init_241 : decode cX9_init 241 = .ok (.aload_n 0, 1) := by decide +kernel
theorem dX9_init_242 : decode cX9_init 242 = .ok (.bipush 80, 2) := by decide +kernel
theorem dX9_init_244 : decode cX9_init 244 = .ok (.newarray .int, 2) := by decide +kernel
theorem dX9_init_246 : decode cX9_init 246 = .ok (.putfield 84, 3) := by decide +kernel
theorem dX9_init_249 : decode cX9_init 249 = .ok (.aload_n 0, 1) := by decide +kernel
theorem dX9_init_250 : decode cX9_init 250 = .ok (.bipush 8, 2) := by decide +kernel
theorem dX9_init_252 : decode cX9_init 252 = .ok (.newarray .int, 2) := by decide +kernel
theorem dX9_init_254 : decode cX9_init 254 = .ok (.putfield 87, 3) := by decide +kernel
theorem dX9_init_257 : decode cX9_init 257 = .ok (.aload_n 0, 1) := by decide +kernel
theorem dX9_init_258 : decode cX9_init 258 = .ok (.sipush 950, 3) := by decide +kernel
theorem dX9_init_261 : decode cX9_init 261 = .ok (.newarray .int, 2) := by decide +kernel
theorem dX9_init_263 : decode cX9_init 263 = .ok (.putfield 90, 3) := by decide +kernel
theorem dX9_init_266 : decode cX9_init 266 = .ok (.aload_n 0, 1) := by decide +kernel
theorem dX9_init_267 : decode cX9_init 267 = .ok (.sipush 601, 3) := by decide +kernel
theorem dX9_init_270 : decode cX9_init 270 = .ok (.newarray .int, 2) := by decide +kernel
theorem dX9_init_272 : decode cX9_init 272 = .ok (.putfield 93, 3) := by decide +kernel
theorem dX9_init_275 : decode cX9_init 275 = .ok (.aload_n 0, 1) := by decide +kernel
theorem dX9_init_276 : decode cX9_init 276 = .ok (.sipush 601, 3) := by decide +kernel
theorem dX9_init_279 : decode cX9_init 279 = .ok (.newarray .int, 2) := by decide +kernel
theorem dX9_init_281 : decode cX9_init 281 = .ok (.putfield 96, 3) := by decide +kernel
theorem dX9_init_284 : decode cX9_init 284 = .ok (.aload_n 0, 1) := by decide +kernel
theorem dX9_init_285 : decode cX9_init 285 = .ok (.sipush 601, 3) := by decide +kernel
theorem dX9_init_288 : decode cX9_init 288 = .ok (.newarray .int, 2) := by decide +kernel
theorem dX9_init_290 : decode cX9_init 290 = .ok (.putfield 99, 3) := by decide +kernel
theorem dX9_init_293 : decode cX9_init 293 = .ok (.aload_n 0, 1) := by decide +kernel
theorem dX9_init_294 : decode cX9_init 294 = .ok (.iconst (-1), 1) := by decide +kernel
theorem dX9_init_295 : decode cX9_init 295 = .ok (.putfield 102, 3) := by decide +kernel
theorem dX9_init_298 : decode cX9_init 298 = .ok (.aload_n 0, 1) := by decide +kernel
theorem dX9_init_299 : decode cX9_init 299 = .ok (.iconst 3, 1) := by decide +kernel
theorem dX9_init_300 : decode cX9_init 300 = .ok (.newarray .int, 2) := by decide +kernel
theorem dX9_init_302 : decode cX9_init 302 = .ok (.putfield 105, 3) := by decide +kernel
theorem dX9_init_305 : decode cX9_init 305 = .ok (.aload_n 0, 1) := by decide +kernel
theorem dX9_init_306 : decode cX9_init 306 = .ok (.bipush 13, 2) := by decide +kernel
theorem dX9_init_308 : decode cX9_init 308 = .ok (.newarray .int, 2) := by decide +kernel
theorem dX9_init_310 : decode cX9_init 310 = .ok (.putfield 108, 3) := by decide +kernel
theorem dX9_init_313 : decode cX9_init 313 = .ok (.aload_n 0, 1) := by decide +kernel
theorem dX9_init_314 : decode cX9_init 314 = .ok (.iconst 3, 1) := by decide +kernel
theorem dX9_init_315 : decode cX9_init 315 = .ok (.newarray .int, 2) := by decide +kernel
theorem dX9_init_317 : decode cX9_init 317 = .ok (.putfield 111, 3) := by decide +kernel
theorem dX9_init_320 : decode cX9_init 320 = .ok (.aload_n 0, 1) := by decide +kernel
theorem dX9_init_321 : decode cX9_init 321 = .ok (.bipush 16, 2) := by decide +kernel
theorem dX9_init_323 : decode cX9_init 323 = .ok (.newarray .int, 2) := by decide +kernel
theorem dX9_init_325 : decode cX9_init 325 = .ok (.putfield 114, 3) := by decide +kernel
theorem dX9_init_328 : decode cX9_init 328 = .ok (.aload_n 0, 1) := by decide +kernel
theorem dX9_init_329 : decode cX9_init 329 = .ok (.bipush 16, 2) := by decide +kernel
theorem dX9_init_331 : decode cX9_init 331 = .ok (.newarray .int, 2) := by decide +kernel
theorem dX9_init_333 : decode cX9_init 333 = .ok (.putfield 117, 3) := by decide +kernel
theorem dX9_init_336 : decode cX9_init 336 = .ok (.aload_n 0, 1) := by decide +kernel
theorem dX9_init_337 : decode cX9_init 337 = .ok (.bipush 12, 2) := by decide +kernel
theorem dX9_init_339 : decode cX9_init 339 = .ok (.newarray .int, 2) := by decide +kernel
theorem dX9_init_341 : decode cX9_init 341 = .ok (.putfield 120, 3) := by decide +kernel
theorem dX9_init_344 : decode cX9_init 344 = .ok (.aload_n 0, 1) := by decide +kernel
theorem dX9_init_345 : decode cX9_init 345 = .ok (.bipush 80, 2) := by decide +kernel
theorem dX9_init_347 : decode cX9_init 347 = .ok (.newarray .int, 2) := by decide +kernel
theorem dX9_init_349 : decode cX9_init 349 = .ok (.putfield 123, 3) := by decide +kernel
theorem dX9_init_352 : decode cX9_init 352 = .ok (.aload_n 0, 1) := by decide +kernel
theorem dX9_init_353 : decode cX9_init 353 = .ok (.bipush 16, 2) := by decide +kernel
theorem dX9_init_355 : decode cX9_init 355 = .ok (.newarray .int, 2) := by decide +kernel
theorem dX9_init_357 : decode cX9_init 357 = .ok (.putfield 126, 3) := by decide +kernel
theorem dX9_init_360 : decode cX9_init 360 = .ok (.aload_n 0, 1) := by decide +kernel
theorem dX9_init_361 : decode cX9_init 361 = .ok (.bipush 16, 2) := by decide +kernel
theorem dX9_init_363 : decode cX9_init 363 = .ok (.newarray .int, 2) := by decide +kernel
theorem dX9_init_365 : decode cX9_init 365 = .ok (.putfield 129, 3) := by decide +kernel
theorem dX9_init_368 : decode cX9_init 368 = .ok (.return_, 1) := by decide +kernel
theorem KA_50 : Cond.arrayClass .int ∈ lw_tbl := (List.mem_append_right _ (List.mem_of_getElem? (i := 64) (by decide +kernel)))
theorem KA_51 : Cond.arrayClass .boolean ∈ lw_tbl := (List.mem_append_right _ (List.mem_of_getElem? (i := 65) (by decide +kernel)))
theorem KA_52 : Cond.arrayClass .long ∈ lw_tbl := (List.mem_append_right _ (List.mem_of_getElem? (i := 1918) (by decide +kernel)))
theorem KOB1 : Cond.instanceMethod Lib.objectInit ∈ lw_tbl := (List.mem_append_right _ (List.mem_of_getElem? (i := 29) (by decide +kernel)))
theorem KOB2 : Cond.code Lib.objectInit ⟨#[0xb1]⟩ 1 none ∈ lw_tbl := (List.mem_append_right _ (List.mem_of_getElem? (i := 30) (by decide +kernel)))
def x_Ar (s0 : State) (cA : Nat → ClassId) : Prop := s0.vm.findClass ("[" ++ FieldType.int.toString) = some (cA 50) ∧ s0.vm.findClass ("[" ++ FieldType.boolean.toString) = some (cA 51) ∧ s0.vm.findClass ("[" ++ FieldType.long.toString) = some (cA 52)
abbrev M_Re_init : xM := (yX2_init, cX2_init, 1, none, [])
def rI_Re_init_2 (rf : xR) : xR := (x_pR (x_nR (x_pR (x_nR (x_pR (x_nR (x_pR (x_nR rf 3) 2 0 (some 3)) 4) 2 1 (some 4)) 5) 2 2 (some 5)) 6) 2 5 (some 6))
def sI_Re_init_2 (σ : xS) : xS := (x_pI (x_pI (x_n0 (x_pI (x_pI (x_n0 (x_n0 (x_n0 σ 3) 4) 5) 2 3 (0 : Int32)) 2 4 (0 : Int32)) 6) 2 6 (0 : Int32)) 2 7 (-1 : Int32))
set_option maxHeartbeats 4000000 in
set_option maxRecDepth 100000 in
theorem k_Re_init_2 {l : Launch} {s0 : State} {a0 : Array Value} {D : va_G} {cA : Nat → ClassId} {sp : Nat → Nat} (E : x_En CL l s0 a0 D cA sp) (A : x_Ar s0 cA) (rf : xR) (σ : xS) : x_C CL FK l s0 D cA sp 1 4 2115 true M_Re_init [.ref 2] (SH.take 3) rf σ none (SH.take 7) (rI_Re_init_2 rf) (sI_Re_init_2 σ) := by
  refine x_enter [some (.ref 2)] rfl (Nat.le_of_ble_eq_true rfl) (by decide +kernel) rfl ?_
  refine x_aload_n 1 rfl 0 dX2_init_0 rfl rfl ?_
  refine x_obj E dX2_init_1 (List.mem_append_right _ (List.mem_of_getElem? (i := 36) (by decide +kernel))) KOB1 KOB2 (Nat.le_of_ble_eq_true rfl) (Nat.le_of_ble_eq_true rfl) 4 rfl ?_
  refine x_aload_n 5 rfl 0 dX2_init_4 rfl rfl ?_
  refine x_sipush 8 rfl (v := 701) dX2_init_5 (by decide) ?_
  refine x_newA (bc := 3) (bs := 1414) E (q := 3) (t := 50) (N := 701) dX2_init_8 rfl (Or.inl ⟨rfl, rfl⟩) KA_50 A.1 (by decide) (by decide) (by decide) (by decide) (by decide) (SH.take 4) (by decide) 10 rfl ?_
  refine x_putR E (fun _ => rfl) (Or.inr ⟨_, rfl⟩) dX2_init_10 F_RX2_9 (by decide : (SH.take 4)[2]? = some (1, 0)) 13 rfl ?_
  refine x_aload_n 14 rfl 0 dX2_init_13 rfl rfl ?_
  refine x_sipush 17 rfl (v := 701) dX2_init_14 (by decide) ?_
  refine x_newA (bc := 2) (bs := 713) E (q := 4) (t := 50) (N := 701) dX2_init_17 rfl (Or.inl ⟨rfl, rfl⟩) KA_50 A.1 (by decide) (by decide) (by decide) (by decide) (by decide) (SH.take 5) (by decide) 19 rfl ?_
  refine x_putR E (fun _ => rfl) (Or.inr ⟨_, rfl⟩) dX2_init_19 F_RX2_15 (by decide : (SH.take 5)[2]? = some (1, 0)) 22 rfl ?_
  refine x_aload_n 23 rfl 0 dX2_init_22 rfl rfl ?_
  refine x_sipush 26 rfl (v := 701) dX2_init_23 (by decide) ?_
  refine x_newA (bc := 1) (bs := 12) E (q := 5) (t := 50) (N := 701) dX2_init_26 rfl (Or.inl ⟨rfl, rfl⟩) KA_50 A.1 (by decide) (by decide) (by decide) (by decide) (by decide) (SH.take 6) (by decide) 28 rfl ?_
  refine x_putR E (fun _ => rfl) (Or.inr ⟨_, rfl⟩) dX2_init_28 F_RX2_18 (by decide : (SH.take 6)[2]? = some (1, 0)) 31 rfl ?_
  refine x_aload_n 32 rfl 0 dX2_init_31 rfl rfl ?_
  refine x_iconst 33 rfl (v := 0) dX2_init_32 (by decide) ?_
  refine x_putI E dX2_init_33 F_RX2_21 (by decide : (SH.take 6)[2]? = some (1, 0)) 36 rfl ?_
  refine x_aload_n 37 rfl 0 dX2_init_36 rfl rfl ?_
  refine x_iconst 38 rfl (v := 0) dX2_init_37 (by decide) ?_
  refine x_putI E dX2_init_38 F_RX2_25 (by decide : (SH.take 6)[2]? = some (1, 0)) 41 rfl ?_
  refine x_aload_n 42 rfl 0 dX2_init_41 rfl rfl ?_
  refine x_bipush 44 rfl (v := 12) dX2_init_42 (by decide) ?_
  refine x_newA (bc := 0) (bs := 0) E (q := 6) (t := 51) (N := 12) dX2_init_44 rfl (Or.inr (Or.inl ⟨rfl, rfl⟩)) KA_51 A.2.1 (by decide) (by decide) (by decide) (by decide) (by decide) (SH.take 7) (by decide) 46 rfl ?_
  refine x_putR E (fun _ => rfl) (Or.inr ⟨_, rfl⟩) dX2_init_46 F_RX2_28 (by decide : (SH.take 7)[2]? = some (1, 0)) 49 rfl ?_
  refine x_aload_n 50 rfl 0 dX2_init_49 rfl rfl ?_
  refine x_iconst 51 rfl (v := 0) dX2_init_50 (by decide) ?_
  refine x_putI E dX2_init_51 F_RX2_32 (by decide : (SH.take 7)[2]? = some (1, 0)) 54 rfl ?_
  refine x_aload_n 55 rfl 0 dX2_init_54 rfl rfl ?_
  refine x_iconst 56 rfl (v := -1) dX2_init_55 (by decide) ?_
  refine x_putI E dX2_init_56 F_RX2_35 (by decide : (SH.take 7)[2]? = some (1, 0)) 59 rfl ?_
  exact x_vret dX2_init_59 rfl rfl rfl
abbrev M_Sc_init : xM := (yX4_init, cX4_init, 1, none, [])
theorem KW_RX4_27 : x_KW CL FK RX4 27 2 6 := ⟨RX3, TX3, tyX3, rfl, by decide, (List.mem_append_right _ (List.mem_of_getElem? (i := 72) (by decide +kernel))), (List.mem_append_right _ (List.mem_of_getElem? (i := 73) (by decide +kernel))), (List.mem_append_right _ (List.mem_of_getElem? (i := 4) (by decide +kernel))), inW3, tyX3_ok, by decide +kernel⟩
abbrev M_Ru_init : xM := (yX3_init, cX3_init, 1, none, [])
def rI_Ru_init_13 (rf : xR) : xR := (x_pR (x_nR (x_pR (x_nR (x_pR (x_nR (x_pR (x_nR (x_pR (x_nR rf 14) 13 0 (some 14)) 15) 13 2 (some 15)) 16) 13 3 (some 16)) 17) 13 4 (some 17)) 18) 13 5 (some 18))
def sI_Ru_init_13 (σ : xS) : xS := (x_n0 (x_n0 (x_n0 (x_n0 (x_pI (x_n0 σ 14) 13 1 (0 : Int32)) 15) 16) 17) 18)
set_option maxHeartbeats 4000000 in
set_option maxRecDepth 100000 in
theorem k_Ru_init_13 {l : Launch} {s0 : State} {a0 : Array Value} {D : va_G} {cA : Nat → ClassId} {sp : Nat → Nat} (E : x_En CL l s0 a0 D cA sp) (A : x_Ar s0 cA) (rf : xR) (σ : xS) : x_C CL FK l s0 D cA sp 1 5 784 true M_Ru_init [.ref 13] (SH.take 14) rf σ none (SH.take 19) (rI_Ru_init_13 rf) (sI_Ru_init_13 σ) := by
  refine x_enter [some (.ref 13)] rfl (Nat.le_of_ble_eq_true rfl) (by decide +kernel) rfl ?_
  refine x_aload_n 1 rfl 0 dX3_init_0 rfl rfl ?_
  refine x_obj E dX3_init_1 (List.mem_append_right _ (List.mem_of_getElem? (i := 77) (by decide +kernel))) KOB1 KOB2 (Nat.le_of_ble_eq_true rfl) (Nat.le_of_ble_eq_true rfl) 4 rfl ?_
  refine x_aload_n 5 rfl 0 dX3_init_4 rfl rfl ?_
  refine x_sipush 8 rfl (v := 700) dX3_init_5 (by decide) ?_
  refine x_newA (bc := 4) (bs := 84) E (q := 14) (t := 50) (N := 700) dX3_init_8 rfl (Or.inl ⟨rfl, rfl⟩) KA_50 A.1 (by decide) (by decide) (by decide) (by decide) (by decide) (SH.take 15) (by decide) 10 rfl ?_
  refine x_putR E (fun _ => rfl) (Or.inr ⟨_, rfl⟩) dX3_init_10 F_RX3_9 (by decide : (SH.take 15)[13]? = some (2, 0)) 13 rfl ?_
  refine x_aload_n 14 rfl 0 dX3_init_13 rfl rfl ?_
  refine x_iconst 15 rfl (v := 0) dX3_init_14 (by decide) ?_
  refine x_putI E dX3_init_15 F_RX3_15 (by decide : (SH.take 15)[13]? = some (2, 0)) 18 rfl ?_
  refine x_aload_n 19 rfl 0 dX3_init_18 rfl rfl ?_
  refine x_bipush 21 rfl (v := 6) dX3_init_19 (by decide) ?_
  refine x_newA (bc := 3) (bs := 78) E (q := 15) (t := 50) (N := 6) dX3_init_21 rfl (Or.inl ⟨rfl, rfl⟩) KA_50 A.1 (by decide) (by decide) (by decide) (by decide) (by decide) (SH.take 16) (by decide) 23 rfl ?_
  refine x_putR E (fun _ => rfl) (Or.inr ⟨_, rfl⟩) dX3_init_23 F_RX3_19 (by decide : (SH.take 16)[13]? = some (2, 0)) 26 rfl ?_
  refine x_aload_n 27 rfl 0 dX3_init_26 rfl rfl ?_
  refine x_bipush 29 rfl (v := 6) dX3_init_27 (by decide) ?_
  refine x_newA (bc := 2) (bs := 72) E (q := 16) (t := 50) (N := 6) dX3_init_29 rfl (Or.inl ⟨rfl, rfl⟩) KA_50 A.1 (by decide) (by decide) (by decide) (by decide) (by decide) (SH.take 17) (by decide) 31 rfl ?_
  refine x_putR E (fun _ => rfl) (Or.inr ⟨_, rfl⟩) dX3_init_31 F_RX3_22 (by decide : (SH.take 17)[13]? = some (2, 0)) 34 rfl ?_
  refine x_aload_n 35 rfl 0 dX3_init_34 rfl rfl ?_
  refine x_bipush 37 rfl (v := 64) dX3_init_35 (by decide) ?_
  refine x_newA (bc := 1) (bs := 8) E (q := 17) (t := 50) (N := 64) dX3_init_37 rfl (Or.inl ⟨rfl, rfl⟩) KA_50 A.1 (by decide) (by decide) (by decide) (by decide) (by decide) (SH.take 18) (by decide) 39 rfl ?_
  refine x_putR E (fun _ => rfl) (Or.inr ⟨_, rfl⟩) dX3_init_39 F_RX3_25 (by decide : (SH.take 18)[13]? = some (2, 0)) 42 rfl ?_
  refine x_aload_n 43 rfl 0 dX3_init_42 rfl rfl ?_
  refine x_bipush 45 rfl (v := 8) dX3_init_43 (by decide) ?_
  refine x_newA (bc := 0) (bs := 0) E (q := 18) (t := 50) (N := 8) dX3_init_45 rfl (Or.inl ⟨rfl, rfl⟩) KA_50 A.1 (by decide) (by decide) (by decide) (by decide) (by decide) (SH.take 19) (by decide) 47 rfl ?_
  refine x_putR E (fun _ => rfl) (Or.inr ⟨_, rfl⟩) dX3_init_47 F_RX3_28 (by decide : (SH.take 19)[13]? = some (2, 0)) 50 rfl ?_
  exact x_vret dX3_init_50 rfl rfl rfl
theorem KI_RX4_29 : x_KN RX4 29 M_Ru_init 0 RX8 := ⟨⟨(List.mem_append_right _ (List.mem_of_getElem? (i := 74) (by decide +kernel))), (List.mem_append_right _ (List.mem_of_getElem? (i := 76) (by decide +kernel))), (List.mem_append_right _ (List.mem_of_getElem? (i := 4) (by decide +kernel))), ⟨by decide +kernel, by decide +kernel⟩, by decide +kernel⟩, (List.mem_append_right _ (List.mem_of_getElem? (i := 75) (by decide +kernel))), rfl⟩
def rI_Sc_init_7 (rf : xR) : xR := (x_pR (x_nR (x_pR (x_nR (x_pR (rI_Ru_init_13 (x_nR (x_pR (x_nR (x_pR (x_nR (x_pR (x_nR (x_pR (x_nR (x_pR (x_nR rf 8) 7 2 (some 8)) 9) 7 3 (some 9)) 10) 7 6 (some 10)) 11) 7 7 (some 11)) 12) 7 10 (some 12)) 13)) 7 11 (some 13)) 19) 7 12 (some 19)) 20) 7 13 (some 20))
def sI_Sc_init_7 (σ : xS) : xS := (x_n0 (x_n0 (sI_Ru_init_13 (x_n0 (x_n0 (x_n0 (x_n0 (x_n0 (x_n0 σ 8) 9) 10) 11) 12) 13)) 19) 20)
set_option maxHeartbeats 4000000 in
set_option maxRecDepth 100000 in
theorem k_Sc_init_7 {l : Launch} {s0 : State} {a0 : Array Value} {D : va_G} {cA : Nat → ClassId} {sp : Nat → Nat} (E : x_En CL l s0 a0 D cA sp) (A : x_Ar s0 cA) (rf : xR) (σ : xS) : x_C CL FK l s0 D cA sp 2 13 1920 true M_Sc_init [.ref 7] (SH.take 8) rf σ none (SH.take 21) (rI_Sc_init_7 rf) (sI_Sc_init_7 σ) := by
  refine x_enter [some (.ref 7)] rfl (Nat.le_of_ble_eq_true rfl) (by decide +kernel) rfl ?_
  refine x_aload_n 1 rfl 0 dX4_init_0 rfl rfl ?_
  refine x_obj E dX4_init_1 (List.mem_append_right _ (List.mem_of_getElem? (i := 71) (by decide +kernel))) KOB1 KOB2 (Nat.le_of_ble_eq_true rfl) (Nat.le_of_ble_eq_true rfl) 4 rfl ?_
  refine x_aload_n 5 rfl 0 dX4_init_4 rfl rfl ?_
  refine x_bipush 7 rfl (v := 12) dX4_init_5 (by decide) ?_
  refine x_newA (bc := 12) (bs := 1908) E (q := 8) (t := 50) (N := 12) dX4_init_7 rfl (Or.inl ⟨rfl, rfl⟩) KA_50 A.1 (by decide) (by decide) (by decide) (by decide) (by decide) (SH.take 9) (by decide) 9 rfl ?_
  refine x_putR E (fun _ => rfl) (Or.inr ⟨_, rfl⟩) dX4_init_9 F_RX4_9 (by decide : (SH.take 9)[7]? = some (3, 0)) 12 rfl ?_
  refine x_aload_n 13 rfl 0 dX4_init_12 rfl rfl ?_
  refine x_bipush 15 rfl (v := 12) dX4_init_13 (by decide) ?_
  refine x_newA (bc := 11) (bs := 1896) E (q := 9) (t := 50) (N := 12) dX4_init_15 rfl (Or.inl ⟨rfl, rfl⟩) KA_50 A.1 (by decide) (by decide) (by decide) (by decide) (by decide) (SH.take 10) (by decide) 17 rfl ?_
  refine x_putR E (fun _ => rfl) (Or.inr ⟨_, rfl⟩) dX4_init_17 F_RX4_15 (by decide : (SH.take 10)[7]? = some (3, 0)) 20 rfl ?_
  refine x_aload_n 21 rfl 0 dX4_init_20 rfl rfl ?_
  refine x_bipush 23 rfl (v := 6) dX4_init_21 (by decide) ?_
  refine x_newA (bc := 10) (bs := 1890) E (q := 10) (t := 50) (N := 6) dX4_init_23 rfl (Or.inl ⟨rfl, rfl⟩) KA_50 A.1 (by decide) (by decide) (by decide) (by decide) (by decide) (SH.take 11) (by decide) 25 rfl ?_
  refine x_putR E (fun _ => rfl) (Or.inr ⟨_, rfl⟩) dX4_init_25 F_RX4_18 (by decide : (SH.take 11)[7]? = some (3, 0)) 28 rfl ?_
  refine x_aload_n 29 rfl 0 dX4_init_28 rfl rfl ?_
  refine x_bipush 31 rfl (v := 6) dX4_init_29 (by decide) ?_
  refine x_newA (bc := 9) (bs := 1884) E (q := 11) (t := 50) (N := 6) dX4_init_31 rfl (Or.inl ⟨rfl, rfl⟩) KA_50 A.1 (by decide) (by decide) (by decide) (by decide) (by decide) (SH.take 12) (by decide) 33 rfl ?_
  refine x_putR E (fun _ => rfl) (Or.inr ⟨_, rfl⟩) dX4_init_33 F_RX4_21 (by decide : (SH.take 12)[7]? = some (3, 0)) 36 rfl ?_
  refine x_aload_n 37 rfl 0 dX4_init_36 rfl rfl ?_
  refine x_bipush 39 rfl (v := 12) dX4_init_37 (by decide) ?_
  refine x_newA (bc := 8) (bs := 1872) E (q := 12) (t := 50) (N := 12) dX4_init_39 rfl (Or.inl ⟨rfl, rfl⟩) KA_50 A.1 (by decide) (by decide) (by decide) (by decide) (by decide) (SH.take 13) (by decide) 41 rfl ?_
  refine x_putR E (fun _ => rfl) (Or.inr ⟨_, rfl⟩) dX4_init_41 F_RX4_24 (by decide : (SH.take 13)[7]? = some (3, 0)) 44 rfl ?_
  refine x_aload_n 45 rfl 0 dX4_init_44 rfl rfl ?_
  refine x_new (bc := 7) (bs := 1866) (N := 6) E (q := 13) dX4_init_45 KW_RX4_27 (by decide) (by decide) (SH.take 14) (by decide) 48 rfl ?_
  refine x_dup 49 rfl dX4_init_48 rfl ?_
  refine x_callN (bc := 2) (bs := 1082) E (as := []) (rest := [.ref 13, .ref 7]) dX4_init_49 KI_RX4_29 rfl ⟨(Nat.le_of_ble_eq_true rfl), (Nat.le_of_ble_eq_true rfl)⟩ rfl rfl (Nat.le_of_ble_eq_true rfl) (k_Ru_init_13 E A _ _) 52 rfl ?_
  refine x_putR E (fun _ => rfl) (Or.inl ⟨_, rfl⟩) dX4_init_52 F_RX4_30 (by decide : (SH.take 19)[7]? = some (3, 0)) 55 rfl ?_
  refine x_aload_n 56 rfl 0 dX4_init_55 rfl rfl ?_
  refine x_sipush 59 rfl (v := 601) dX4_init_56 (by decide) ?_
  refine x_newA (bc := 1) (bs := 481) E (q := 19) (t := 50) (N := 601) dX4_init_59 rfl (Or.inl ⟨rfl, rfl⟩) KA_50 A.1 (by decide) (by decide) (by decide) (by decide) (by decide) (SH.take 20) (by decide) 61 rfl ?_
  refine x_putR E (fun _ => rfl) (Or.inr ⟨_, rfl⟩) dX4_init_61 F_RX4_34 (by decide : (SH.take 20)[7]? = some (3, 0)) 64 rfl ?_
  refine x_aload_n 65 rfl 0 dX4_init_64 rfl rfl ?_
  refine x_sipush 68 rfl (v := 481) dX4_init_65 (by decide) ?_
  refine x_newA (bc := 0) (bs := 0) E (q := 20) (t := 50) (N := 481) dX4_init_68 rfl (Or.inl ⟨rfl, rfl⟩) KA_50 A.1 (by decide) (by decide) (by decide) (by decide) (by decide) (SH.take 21) (by decide) 70 rfl ?_
  refine x_putR E (fun _ => rfl) (Or.inr ⟨_, rfl⟩) dX4_init_70 F_RX4_37 (by decide : (SH.take 21)[7]? = some (3, 0)) 73 rfl ?_
  exact x_vret dX4_init_73 rfl rfl rfl
def rI_Ru_init_27 (rf : xR) : xR := (x_pR (x_nR (x_pR (x_nR (x_pR (x_nR (x_pR (x_nR (x_pR (x_nR rf 28) 27 0 (some 28)) 29) 27 2 (some 29)) 30) 27 3 (some 30)) 31) 27 4 (some 31)) 32) 27 5 (some 32))
def sI_Ru_init_27 (σ : xS) : xS := (x_n0 (x_n0 (x_n0 (x_n0 (x_pI (x_n0 σ 28) 27 1 (0 : Int32)) 29) 30) 31) 32)
set_option maxHeartbeats 4000000 in
set_option maxRecDepth 100000 in
theorem k_Ru_init_27 {l : Launch} {s0 : State} {a0 : Array Value} {D : va_G} {cA : Nat → ClassId} {sp : Nat → Nat} (E : x_En CL l s0 a0 D cA sp) (A : x_Ar s0 cA) (rf : xR) (σ : xS) : x_C CL FK l s0 D cA sp 1 5 784 true M_Ru_init [.ref 27] (SH.take 28) rf σ none (SH.take 33) (rI_Ru_init_27 rf) (sI_Ru_init_27 σ) := by
  refine x_enter [some (.ref 27)] rfl (Nat.le_of_ble_eq_true rfl) (by decide +kernel) rfl ?_
  refine x_aload_n 1 rfl 0 dX3_init_0 rfl rfl ?_
  refine x_obj E dX3_init_1 (List.mem_append_right _ (List.mem_of_getElem? (i := 77) (by decide +kernel))) KOB1 KOB2 (Nat.le_of_ble_eq_true rfl) (Nat.le_of_ble_eq_true rfl) 4 rfl ?_
  refine x_aload_n 5 rfl 0 dX3_init_4 rfl rfl ?_
  refine x_sipush 8 rfl (v := 700) dX3_init_5 (by decide) ?_
  refine x_newA (bc := 4) (bs := 84) E (q := 28) (t := 50) (N := 700) dX3_init_8 rfl (Or.inl ⟨rfl, rfl⟩) KA_50 A.1 (by decide) (by decide) (by decide) (by decide) (by decide) (SH.take 29) (by decide) 10 rfl ?_
  refine x_putR E (fun _ => rfl) (Or.inr ⟨_, rfl⟩) dX3_init_10 F_RX3_9 (by decide : (SH.take 29)[27]? = some (2, 0)) 13 rfl ?_
  refine x_aload_n 14 rfl 0 dX3_init_13 rfl rfl ?_
  refine x_iconst 15 rfl (v := 0) dX3_init_14 (by decide) ?_
  refine x_putI E dX3_init_15 F_RX3_15 (by decide : (SH.take 29)[27]? = some (2, 0)) 18 rfl ?_
  refine x_aload_n 19 rfl 0 dX3_init_18 rfl rfl ?_
  refine x_bipush 21 rfl (v := 6) dX3_init_19 (by decide) ?_
  refine x_newA (bc := 3) (bs := 78) E (q := 29) (t := 50) (N := 6) dX3_init_21 rfl (Or.inl ⟨rfl, rfl⟩) KA_50 A.1 (by decide) (by decide) (by decide) (by decide) (by decide) (SH.take 30) (by decide) 23 rfl ?_
  refine x_putR E (fun _ => rfl) (Or.inr ⟨_, rfl⟩) dX3_init_23 F_RX3_19 (by decide : (SH.take 30)[27]? = some (2, 0)) 26 rfl ?_
  refine x_aload_n 27 rfl 0 dX3_init_26 rfl rfl ?_
  refine x_bipush 29 rfl (v := 6) dX3_init_27 (by decide) ?_
  refine x_newA (bc := 2) (bs := 72) E (q := 30) (t := 50) (N := 6) dX3_init_29 rfl (Or.inl ⟨rfl, rfl⟩) KA_50 A.1 (by decide) (by decide) (by decide) (by decide) (by decide) (SH.take 31) (by decide) 31 rfl ?_
  refine x_putR E (fun _ => rfl) (Or.inr ⟨_, rfl⟩) dX3_init_31 F_RX3_22 (by decide : (SH.take 31)[27]? = some (2, 0)) 34 rfl ?_
  refine x_aload_n 35 rfl 0 dX3_init_34 rfl rfl ?_
  refine x_bipush 37 rfl (v := 64) dX3_init_35 (by decide) ?_
  refine x_newA (bc := 1) (bs := 8) E (q := 31) (t := 50) (N := 64) dX3_init_37 rfl (Or.inl ⟨rfl, rfl⟩) KA_50 A.1 (by decide) (by decide) (by decide) (by decide) (by decide) (SH.take 32) (by decide) 39 rfl ?_
  refine x_putR E (fun _ => rfl) (Or.inr ⟨_, rfl⟩) dX3_init_39 F_RX3_25 (by decide : (SH.take 32)[27]? = some (2, 0)) 42 rfl ?_
  refine x_aload_n 43 rfl 0 dX3_init_42 rfl rfl ?_
  refine x_bipush 45 rfl (v := 8) dX3_init_43 (by decide) ?_
  refine x_newA (bc := 0) (bs := 0) E (q := 32) (t := 50) (N := 8) dX3_init_45 rfl (Or.inl ⟨rfl, rfl⟩) KA_50 A.1 (by decide) (by decide) (by decide) (by decide) (by decide) (SH.take 33) (by decide) 47 rfl ?_
  refine x_putR E (fun _ => rfl) (Or.inr ⟨_, rfl⟩) dX3_init_47 F_RX3_28 (by decide : (SH.take 33)[27]? = some (2, 0)) 50 rfl ?_
  exact x_vret dX3_init_50 rfl rfl rfl
def rI_Sc_init_21 (rf : xR) : xR := (x_pR (x_nR (x_pR (x_nR (x_pR (rI_Ru_init_27 (x_nR (x_pR (x_nR (x_pR (x_nR (x_pR (x_nR (x_pR (x_nR (x_pR (x_nR rf 22) 21 2 (some 22)) 23) 21 3 (some 23)) 24) 21 6 (some 24)) 25) 21 7 (some 25)) 26) 21 10 (some 26)) 27)) 21 11 (some 27)) 33) 21 12 (some 33)) 34) 21 13 (some 34))
def sI_Sc_init_21 (σ : xS) : xS := (x_n0 (x_n0 (sI_Ru_init_27 (x_n0 (x_n0 (x_n0 (x_n0 (x_n0 (x_n0 σ 22) 23) 24) 25) 26) 27)) 33) 34)
set_option maxHeartbeats 4000000 in
set_option maxRecDepth 100000 in
theorem k_Sc_init_21 {l : Launch} {s0 : State} {a0 : Array Value} {D : va_G} {cA : Nat → ClassId} {sp : Nat → Nat} (E : x_En CL l s0 a0 D cA sp) (A : x_Ar s0 cA) (rf : xR) (σ : xS) : x_C CL FK l s0 D cA sp 2 13 1920 true M_Sc_init [.ref 21] (SH.take 22) rf σ none (SH.take 35) (rI_Sc_init_21 rf) (sI_Sc_init_21 σ) := by
  refine x_enter [some (.ref 21)] rfl (Nat.le_of_ble_eq_true rfl) (by decide +kernel) rfl ?_
  refine x_aload_n 1 rfl 0 dX4_init_0 rfl rfl ?_
  refine x_obj E dX4_init_1 (List.mem_append_right _ (List.mem_of_getElem? (i := 71) (by decide +kernel))) KOB1 KOB2 (Nat.le_of_ble_eq_true rfl) (Nat.le_of_ble_eq_true rfl) 4 rfl ?_
  refine x_aload_n 5 rfl 0 dX4_init_4 rfl rfl ?_
  refine x_bipush 7 rfl (v := 12) dX4_init_5 (by decide) ?_
  refine x_newA (bc := 12) (bs := 1908) E (q := 22) (t := 50) (N := 12) dX4_init_7 rfl (Or.inl ⟨rfl, rfl⟩) KA_50 A.1 (by decide) (by decide) (by decide) (by decide) (by decide) (SH.take 23) (by decide) 9 rfl ?_
  refine x_putR E (fun _ => rfl) (Or.inr ⟨_, rfl⟩) dX4_init_9 F_RX4_9 (by decide : (SH.take 23)[21]? = some (3, 0)) 12 rfl ?_
  refine x_aload_n 13 rfl 0 dX4_init_12 rfl rfl ?_
  refine x_bipush 15 rfl (v := 12) dX4_init_13 (by decide) ?_
  refine x_newA (bc := 11) (bs := 1896) E (q := 23) (t := 50) (N := 12) dX4_init_15 rfl (Or.inl ⟨rfl, rfl⟩) KA_50 A.1 (by decide) (by decide) (by decide) (by decide) (by decide) (SH.take 24) (by decide) 17 rfl ?_
  refine x_putR E (fun _ => rfl) (Or.inr ⟨_, rfl⟩) dX4_init_17 F_RX4_15 (by decide : (SH.take 24)[21]? = some (3, 0)) 20 rfl ?_
  refine x_aload_n 21 rfl 0 dX4_init_20 rfl rfl ?_
  refine x_bipush 23 rfl (v := 6) dX4_init_21 (by decide) ?_
  refine x_newA (bc := 10) (bs := 1890) E (q := 24) (t := 50) (N := 6) dX4_init_23 rfl (Or.inl ⟨rfl, rfl⟩) KA_50 A.1 (by decide) (by decide) (by decide) (by decide) (by decide) (SH.take 25) (by decide) 25 rfl ?_
  refine x_putR E (fun _ => rfl) (Or.inr ⟨_, rfl⟩) dX4_init_25 F_RX4_18 (by decide : (SH.take 25)[21]? = some (3, 0)) 28 rfl ?_
  refine x_aload_n 29 rfl 0 dX4_init_28 rfl rfl ?_
  refine x_bipush 31 rfl (v := 6) dX4_init_29 (by decide) ?_
  refine x_newA (bc := 9) (bs := 1884) E (q := 25) (t := 50) (N := 6) dX4_init_31 rfl (Or.inl ⟨rfl, rfl⟩) KA_50 A.1 (by decide) (by decide) (by decide) (by decide) (by decide) (SH.take 26) (by decide) 33 rfl ?_
  refine x_putR E (fun _ => rfl) (Or.inr ⟨_, rfl⟩) dX4_init_33 F_RX4_21 (by decide : (SH.take 26)[21]? = some (3, 0)) 36 rfl ?_
  refine x_aload_n 37 rfl 0 dX4_init_36 rfl rfl ?_
  refine x_bipush 39 rfl (v := 12) dX4_init_37 (by decide) ?_
  refine x_newA (bc := 8) (bs := 1872) E (q := 26) (t := 50) (N := 12) dX4_init_39 rfl (Or.inl ⟨rfl, rfl⟩) KA_50 A.1 (by decide) (by decide) (by decide) (by decide) (by decide) (SH.take 27) (by decide) 41 rfl ?_
  refine x_putR E (fun _ => rfl) (Or.inr ⟨_, rfl⟩) dX4_init_41 F_RX4_24 (by decide : (SH.take 27)[21]? = some (3, 0)) 44 rfl ?_
  refine x_aload_n 45 rfl 0 dX4_init_44 rfl rfl ?_
  refine x_new (bc := 7) (bs := 1866) (N := 6) E (q := 27) dX4_init_45 KW_RX4_27 (by decide) (by decide) (SH.take 28) (by decide) 48 rfl ?_
  refine x_dup 49 rfl dX4_init_48 rfl ?_
  refine x_callN (bc := 2) (bs := 1082) E (as := []) (rest := [.ref 27, .ref 21]) dX4_init_49 KI_RX4_29 rfl ⟨(Nat.le_of_ble_eq_true rfl), (Nat.le_of_ble_eq_true rfl)⟩ rfl rfl (Nat.le_of_ble_eq_true rfl) (k_Ru_init_27 E A _ _) 52 rfl ?_
  refine x_putR E (fun _ => rfl) (Or.inl ⟨_, rfl⟩) dX4_init_52 F_RX4_30 (by decide : (SH.take 33)[21]? = some (3, 0)) 55 rfl ?_
  refine x_aload_n 56 rfl 0 dX4_init_55 rfl rfl ?_
  refine x_sipush 59 rfl (v := 601) dX4_init_56 (by decide) ?_
  refine x_newA (bc := 1) (bs := 481) E (q := 33) (t := 50) (N := 601) dX4_init_59 rfl (Or.inl ⟨rfl, rfl⟩) KA_50 A.1 (by decide) (by decide) (by decide) (by decide) (by decide) (SH.take 34) (by decide) 61 rfl ?_
  refine x_putR E (fun _ => rfl) (Or.inr ⟨_, rfl⟩) dX4_init_61 F_RX4_34 (by decide : (SH.take 34)[21]? = some (3, 0)) 64 rfl ?_
  refine x_aload_n 65 rfl 0 dX4_init_64 rfl rfl ?_
  refine x_sipush 68 rfl (v := 481) dX4_init_65 (by decide) ?_
  refine x_newA (bc := 0) (bs := 0) E (q := 34) (t := 50) (N := 481) dX4_init_68 rfl (Or.inl ⟨rfl, rfl⟩) KA_50 A.1 (by decide) (by decide) (by decide) (by decide) (by decide) (SH.take 35) (by decide) 70 rfl ?_
  refine x_putR E (fun _ => rfl) (Or.inr ⟨_, rfl⟩) dX4_init_70 F_RX4_37 (by decide : (SH.take 35)[21]? = some (3, 0)) 73 rfl ?_
  exact x_vret dX4_init_73 rfl rfl rfl
abbrev M_Se_init : xM := (yX5_init, cX5_init, 1, none, [])
def rI_Se_init_35 (rf : xR) : xR := (x_pR (x_nR (x_pR (x_nR (x_pR (x_nR (x_pR (x_nR (x_pR (x_nR (x_pR (x_nR rf 36) 35 0 (some 36)) 37) 35 1 (some 37)) 38) 35 2 (some 38)) 39) 35 4 (some 39)) 40) 35 5 (some 40)) 41) 35 7 (some 41))
def sI_Se_init_35 (σ : xS) : xS := (x_pI (x_n0 (x_pI (x_n0 (x_n0 (x_pI (x_n0 (x_n0 (x_n0 σ 36) 37) 38) 35 3 (0 : Int32)) 39) 40) 35 6 (0 : Int32)) 41) 35 8 (0 : Int32))
set_option maxHeartbeats 4000000 in
set_option maxRecDepth 100000 in
theorem k_Se_init_35 {l : Launch} {s0 : State} {a0 : Array Value} {D : va_G} {cA : Nat → ClassId} {sp : Nat → Nat} (E : x_En CL l s0 a0 D cA sp) (A : x_Ar s0 cA) (rf : xR) (σ : xS) : x_C CL FK l s0 D cA sp 1 6 124 true M_Se_init [.ref 35] (SH.take 36) rf σ none (SH.take 42) (rI_Se_init_35 rf) (sI_Se_init_35 σ) := by
  refine x_enter [some (.ref 35)] rfl (Nat.le_of_ble_eq_true rfl) (by decide +kernel) rfl ?_
  refine x_aload_n 1 rfl 0 dX5_init_0 rfl rfl ?_
  refine x_obj E dX5_init_1 (List.mem_append_right _ (List.mem_of_getElem? (i := 166) (by decide +kernel))) KOB1 KOB2 (Nat.le_of_ble_eq_true rfl) (Nat.le_of_ble_eq_true rfl) 4 rfl ?_
  refine x_aload_n 5 rfl 0 dX5_init_4 rfl rfl ?_
  refine x_bipush 7 rfl (v := 12) dX5_init_5 (by decide) ?_
  refine x_newA (bc := 5) (bs := 112) E (q := 36) (t := 50) (N := 12) dX5_init_7 rfl (Or.inl ⟨rfl, rfl⟩) KA_50 A.1 (by decide) (by decide) (by decide) (by decide) (by decide) (SH.take 37) (by decide) 9 rfl ?_
  refine x_putR E (fun _ => rfl) (Or.inr ⟨_, rfl⟩) dX5_init_9 F_RX5_9 (by decide : (SH.take 37)[35]? = some (4, 0)) 12 rfl ?_
  refine x_aload_n 13 rfl 0 dX5_init_12 rfl rfl ?_
  refine x_bipush 15 rfl (v := 40) dX5_init_13 (by decide) ?_
  refine x_newA (bc := 4) (bs := 72) E (q := 37) (t := 50) (N := 40) dX5_init_15 rfl (Or.inl ⟨rfl, rfl⟩) KA_50 A.1 (by decide) (by decide) (by decide) (by decide) (by decide) (SH.take 38) (by decide) 17 rfl ?_
  refine x_putR E (fun _ => rfl) (Or.inr ⟨_, rfl⟩) dX5_init_17 F_RX5_15 (by decide : (SH.take 38)[35]? = some (4, 0)) 20 rfl ?_
  refine x_aload_n 21 rfl 0 dX5_init_20 rfl rfl ?_
  refine x_bipush 23 rfl (v := 40) dX5_init_21 (by decide) ?_
  refine x_newA (bc := 3) (bs := 32) E (q := 38) (t := 50) (N := 40) dX5_init_23 rfl (Or.inl ⟨rfl, rfl⟩) KA_50 A.1 (by decide) (by decide) (by decide) (by decide) (by decide) (SH.take 39) (by decide) 25 rfl ?_
  refine x_putR E (fun _ => rfl) (Or.inr ⟨_, rfl⟩) dX5_init_25 F_RX5_18 (by decide : (SH.take 39)[35]? = some (4, 0)) 28 rfl ?_
  refine x_aload_n 29 rfl 0 dX5_init_28 rfl rfl ?_
  refine x_iconst 30 rfl (v := 0) dX5_init_29 (by decide) ?_
  refine x_putI E dX5_init_30 F_RX5_21 (by decide : (SH.take 39)[35]? = some (4, 0)) 33 rfl ?_
  refine x_aload_n 34 rfl 0 dX5_init_33 rfl rfl ?_
  refine x_bipush 36 rfl (v := 8) dX5_init_34 (by decide) ?_
  refine x_newA (bc := 2) (bs := 24) E (q := 39) (t := 50) (N := 8) dX5_init_36 rfl (Or.inl ⟨rfl, rfl⟩) KA_50 A.1 (by decide) (by decide) (by decide) (by decide) (by decide) (SH.take 40) (by decide) 38 rfl ?_
  refine x_putR E (fun _ => rfl) (Or.inr ⟨_, rfl⟩) dX5_init_38 F_RX5_25 (by decide : (SH.take 40)[35]? = some (4, 0)) 41 rfl ?_
  refine x_aload_n 42 rfl 0 dX5_init_41 rfl rfl ?_
  refine x_bipush 44 rfl (v := 8) dX5_init_42 (by decide) ?_
  refine x_newA (bc := 1) (bs := 16) E (q := 40) (t := 50) (N := 8) dX5_init_44 rfl (Or.inl ⟨rfl, rfl⟩) KA_50 A.1 (by decide) (by decide) (by decide) (by decide) (by decide) (SH.take 41) (by decide) 46 rfl ?_
  refine x_putR E (fun _ => rfl) (Or.inr ⟨_, rfl⟩) dX5_init_46 F_RX5_28 (by decide : (SH.take 41)[35]? = some (4, 0)) 49 rfl ?_
  refine x_aload_n 50 rfl 0 dX5_init_49 rfl rfl ?_
  refine x_iconst 51 rfl (v := 0) dX5_init_50 (by decide) ?_
  refine x_putI E dX5_init_51 F_RX5_31 (by decide : (SH.take 41)[35]? = some (4, 0)) 54 rfl ?_
  refine x_aload_n 55 rfl 0 dX5_init_54 rfl rfl ?_
  refine x_bipush 57 rfl (v := 16) dX5_init_55 (by decide) ?_
  refine x_newA (bc := 0) (bs := 0) E (q := 41) (t := 50) (N := 16) dX5_init_57 rfl (Or.inl ⟨rfl, rfl⟩) KA_50 A.1 (by decide) (by decide) (by decide) (by decide) (by decide) (SH.take 42) (by decide) 59 rfl ?_
  refine x_putR E (fun _ => rfl) (Or.inr ⟨_, rfl⟩) dX5_init_59 F_RX5_34 (by decide : (SH.take 42)[35]? = some (4, 0)) 62 rfl ?_
  refine x_aload_n 63 rfl 0 dX5_init_62 rfl rfl ?_
  refine x_iconst 64 rfl (v := 0) dX5_init_63 (by decide) ?_
  refine x_putI E dX5_init_64 F_RX5_37 (by decide : (SH.take 42)[35]? = some (4, 0)) 67 rfl ?_
  exact x_vret dX5_init_67 rfl rfl rfl
def rI_Se_init_42 (rf : xR) : xR := (x_pR (x_nR (x_pR (x_nR (x_pR (x_nR (x_pR (x_nR (x_pR (x_nR (x_pR (x_nR rf 43) 42 0 (some 43)) 44) 42 1 (some 44)) 45) 42 2 (some 45)) 46) 42 4 (some 46)) 47) 42 5 (some 47)) 48) 42 7 (some 48))
def sI_Se_init_42 (σ : xS) : xS := (x_pI (x_n0 (x_pI (x_n0 (x_n0 (x_pI (x_n0 (x_n0 (x_n0 σ 43) 44) 45) 42 3 (0 : Int32)) 46) 47) 42 6 (0 : Int32)) 48) 42 8 (0 : Int32))
set_option maxHeartbeats 4000000 in
set_option maxRecDepth 100000 in
theorem k_Se_init_42 {l : Launch} {s0 : State} {a0 : Array Value} {D : va_G} {cA : Nat → ClassId} {sp : Nat → Nat} (E : x_En CL l s0 a0 D cA sp) (A : x_Ar s0 cA) (rf : xR) (σ : xS) : x_C CL FK l s0 D cA sp 1 6 124 true M_Se_init [.ref 42] (SH.take 43) rf σ none (SH.take 49) (rI_Se_init_42 rf) (sI_Se_init_42 σ) := by
  refine x_enter [some (.ref 42)] rfl (Nat.le_of_ble_eq_true rfl) (by decide +kernel) rfl ?_
  refine x_aload_n 1 rfl 0 dX5_init_0 rfl rfl ?_
  refine x_obj E dX5_init_1 (List.mem_append_right _ (List.mem_of_getElem? (i := 166) (by decide +kernel))) KOB1 KOB2 (Nat.le_of_ble_eq_true rfl) (Nat.le_of_ble_eq_true rfl) 4 rfl ?_
  refine x_aload_n 5 rfl 0 dX5_init_4 rfl rfl ?_
  refine x_bipush 7 rfl (v := 12) dX5_init_5 (by decide) ?_
  refine x_newA (bc := 5) (bs := 112) E (q := 43) (t := 50) (N := 12) dX5_init_7 rfl (Or.inl ⟨rfl, rfl⟩) KA_50 A.1 (by decide) (by decide) (by decide) (by decide) (by decide) (SH.take 44) (by decide) 9 rfl ?_
  refine x_putR E (fun _ => rfl) (Or.inr ⟨_, rfl⟩) dX5_init_9 F_RX5_9 (by decide : (SH.take 44)[42]? = some (4, 0)) 12 rfl ?_
  refine x_aload_n 13 rfl 0 dX5_init_12 rfl rfl ?_
  refine x_bipush 15 rfl (v := 40) dX5_init_13 (by decide) ?_
  refine x_newA (bc := 4) (bs := 72) E (q := 44) (t := 50) (N := 40) dX5_init_15 rfl (Or.inl ⟨rfl, rfl⟩) KA_50 A.1 (by decide) (by decide) (by decide) (by decide) (by decide) (SH.take 45) (by decide) 17 rfl ?_
  refine x_putR E (fun _ => rfl) (Or.inr ⟨_, rfl⟩) dX5_init_17 F_RX5_15 (by decide : (SH.take 45)[42]? = some (4, 0)) 20 rfl ?_
  refine x_aload_n 21 rfl 0 dX5_init_20 rfl rfl ?_
  refine x_bipush 23 rfl (v := 40) dX5_init_21 (by decide) ?_
  refine x_newA (bc := 3) (bs := 32) E (q := 45) (t := 50) (N := 40) dX5_init_23 rfl (Or.inl ⟨rfl, rfl⟩) KA_50 A.1 (by decide) (by decide) (by decide) (by decide) (by decide) (SH.take 46) (by decide) 25 rfl ?_
  refine x_putR E (fun _ => rfl) (Or.inr ⟨_, rfl⟩) dX5_init_25 F_RX5_18 (by decide : (SH.take 46)[42]? = some (4, 0)) 28 rfl ?_
  refine x_aload_n 29 rfl 0 dX5_init_28 rfl rfl ?_
  refine x_iconst 30 rfl (v := 0) dX5_init_29 (by decide) ?_
  refine x_putI E dX5_init_30 F_RX5_21 (by decide : (SH.take 46)[42]? = some (4, 0)) 33 rfl ?_
  refine x_aload_n 34 rfl 0 dX5_init_33 rfl rfl ?_
  refine x_bipush 36 rfl (v := 8) dX5_init_34 (by decide) ?_
  refine x_newA (bc := 2) (bs := 24) E (q := 46) (t := 50) (N := 8) dX5_init_36 rfl (Or.inl ⟨rfl, rfl⟩) KA_50 A.1 (by decide) (by decide) (by decide) (by decide) (by decide) (SH.take 47) (by decide) 38 rfl ?_
  refine x_putR E (fun _ => rfl) (Or.inr ⟨_, rfl⟩) dX5_init_38 F_RX5_25 (by decide : (SH.take 47)[42]? = some (4, 0)) 41 rfl ?_
  refine x_aload_n 42 rfl 0 dX5_init_41 rfl rfl ?_
  refine x_bipush 44 rfl (v := 8) dX5_init_42 (by decide) ?_
  refine x_newA (bc := 1) (bs := 16) E (q := 47) (t := 50) (N := 8) dX5_init_44 rfl (Or.inl ⟨rfl, rfl⟩) KA_50 A.1 (by decide) (by decide) (by decide) (by decide) (by decide) (SH.take 48) (by decide) 46 rfl ?_
  refine x_putR E (fun _ => rfl) (Or.inr ⟨_, rfl⟩) dX5_init_46 F_RX5_28 (by decide : (SH.take 48)[42]? = some (4, 0)) 49 rfl ?_
  refine x_aload_n 50 rfl 0 dX5_init_49 rfl rfl ?_
  refine x_iconst 51 rfl (v := 0) dX5_init_50 (by decide) ?_
  refine x_putI E dX5_init_51 F_RX5_31 (by decide : (SH.take 48)[42]? = some (4, 0)) 54 rfl ?_
  refine x_aload_n 55 rfl 0 dX5_init_54 rfl rfl ?_
  refine x_bipush 57 rfl (v := 16) dX5_init_55 (by decide) ?_
  refine x_newA (bc := 0) (bs := 0) E (q := 48) (t := 50) (N := 16) dX5_init_57 rfl (Or.inl ⟨rfl, rfl⟩) KA_50 A.1 (by decide) (by decide) (by decide) (by decide) (by decide) (SH.take 49) (by decide) 59 rfl ?_
  refine x_putR E (fun _ => rfl) (Or.inr ⟨_, rfl⟩) dX5_init_59 F_RX5_34 (by decide : (SH.take 49)[42]? = some (4, 0)) 62 rfl ?_
  refine x_aload_n 63 rfl 0 dX5_init_62 rfl rfl ?_
  refine x_iconst 64 rfl (v := 0) dX5_init_63 (by decide) ?_
  refine x_putI E dX5_init_64 F_RX5_37 (by decide : (SH.take 49)[42]? = some (4, 0)) 67 rfl ?_
  exact x_vret dX5_init_67 rfl rfl rfl
abbrev M_Tr_init : xM := (yX6_init, cX6_init, 1, none, [])
def rI_Tr_init_49 (rf : xR) : xR := (x_pR (x_nR (x_pR (x_nR (x_pR (x_nR (x_pR (x_nR (x_pR (x_nR rf 50) 49 0 (some 50)) 51) 49 6 (some 51)) 52) 49 7 (some 52)) 53) 49 8 (some 53)) 54) 49 9 (some 54))
def sI_Tr_init_49 (σ : xS) : xS := (x_n0 (x_n0 (x_n0 (x_n0 (x_pI (x_pI (x_pI (x_pI (x_pI (x_n0 σ 50) 49 1 (0 : Int32)) 49 2 (0 : Int32)) 49 3 (0 : Int32)) 49 4 (0 : Int32)) 49 5 (0 : Int32)) 51) 52) 53) 54)
set_option maxHeartbeats 4000000 in
set_option maxRecDepth 100000 in
theorem k_Tr_init_49 {l : Launch} {s0 : State} {a0 : Array Value} {D : va_G} {cA : Nat → ClassId} {sp : Nat → Nat} (E : x_En CL l s0 a0 D cA sp) (A : x_Ar s0 cA) (rf : xR) (σ : xS) : x_C CL FK l s0 D cA sp 1 5 2416 true M_Tr_init [.ref 49] (SH.take 50) rf σ none (SH.take 55) (rI_Tr_init_49 rf) (sI_Tr_init_49 σ) := by
  refine x_enter [some (.ref 49)] rfl (Nat.le_of_ble_eq_true rfl) (by decide +kernel) rfl ?_
  refine x_aload_n 1 rfl 0 dX6_init_0 rfl rfl ?_
  refine x_obj E dX6_init_1 (List.mem_append_right _ (List.mem_of_getElem? (i := 204) (by decide +kernel))) KOB1 KOB2 (Nat.le_of_ble_eq_true rfl) (Nat.le_of_ble_eq_true rfl) 4 rfl ?_
  refine x_aload_n 5 rfl 0 dX6_init_4 rfl rfl ?_
  refine x_bipush 7 rfl (v := 12) dX6_init_5 (by decide) ?_
  refine x_newA (bc := 4) (bs := 2404) E (q := 50) (t := 50) (N := 12) dX6_init_7 rfl (Or.inl ⟨rfl, rfl⟩) KA_50 A.1 (by decide) (by decide) (by decide) (by decide) (by decide) (SH.take 51) (by decide) 9 rfl ?_
  refine x_putR E (fun _ => rfl) (Or.inr ⟨_, rfl⟩) dX6_init_9 F_RX6_9 (by decide : (SH.take 51)[49]? = some (5, 0)) 12 rfl ?_
  refine x_aload_n 13 rfl 0 dX6_init_12 rfl rfl ?_
  refine x_iconst 14 rfl (v := 0) dX6_init_13 (by decide) ?_
  refine x_putI E dX6_init_14 F_RX6_15 (by decide : (SH.take 51)[49]? = some (5, 0)) 17 rfl ?_
  refine x_aload_n 18 rfl 0 dX6_init_17 rfl rfl ?_
  refine x_iconst 19 rfl (v := 0) dX6_init_18 (by decide) ?_
  refine x_putI E dX6_init_19 F_RX6_19 (by decide : (SH.take 51)[49]? = some (5, 0)) 22 rfl ?_
  refine x_aload_n 23 rfl 0 dX6_init_22 rfl rfl ?_
  refine x_iconst 24 rfl (v := 0) dX6_init_23 (by decide) ?_
  refine x_putI E dX6_init_24 F_RX6_22 (by decide : (SH.take 51)[49]? = some (5, 0)) 27 rfl ?_
  refine x_aload_n 28 rfl 0 dX6_init_27 rfl rfl ?_
  refine x_iconst 29 rfl (v := 0) dX6_init_28 (by decide) ?_
  refine x_putI E dX6_init_29 F_RX6_25 (by decide : (SH.take 51)[49]? = some (5, 0)) 32 rfl ?_
  refine x_aload_n 33 rfl 0 dX6_init_32 rfl rfl ?_
  refine x_iconst 34 rfl (v := 0) dX6_init_33 (by decide) ?_
  refine x_putI E dX6_init_34 F_RX6_28 (by decide : (SH.take 51)[49]? = some (5, 0)) 37 rfl ?_
  refine x_aload_n 38 rfl 0 dX6_init_37 rfl rfl ?_
  refine x_sipush 41 rfl (v := 601) dX6_init_38 (by decide) ?_
  refine x_newA (bc := 3) (bs := 1803) E (q := 51) (t := 50) (N := 601) dX6_init_41 rfl (Or.inl ⟨rfl, rfl⟩) KA_50 A.1 (by decide) (by decide) (by decide) (by decide) (by decide) (SH.take 52) (by decide) 43 rfl ?_
  refine x_putR E (fun _ => rfl) (Or.inr ⟨_, rfl⟩) dX6_init_43 F_RX6_31 (by decide : (SH.take 52)[49]? = some (5, 0)) 46 rfl ?_
  refine x_aload_n 47 rfl 0 dX6_init_46 rfl rfl ?_
  refine x_sipush 50 rfl (v := 601) dX6_init_47 (by decide) ?_
  refine x_newA (bc := 2) (bs := 1202) E (q := 52) (t := 51) (N := 601) dX6_init_50 rfl (Or.inr (Or.inl ⟨rfl, rfl⟩)) KA_51 A.2.1 (by decide) (by decide) (by decide) (by decide) (by decide) (SH.take 53) (by decide) 52 rfl ?_
  refine x_putR E (fun _ => rfl) (Or.inr ⟨_, rfl⟩) dX6_init_52 F_RX6_34 (by decide : (SH.take 53)[49]? = some (5, 0)) 55 rfl ?_
  refine x_aload_n 56 rfl 0 dX6_init_55 rfl rfl ?_
  refine x_sipush 59 rfl (v := 601) dX6_init_56 (by decide) ?_
  refine x_newA (bc := 1) (bs := 601) E (q := 53) (t := 50) (N := 601) dX6_init_59 rfl (Or.inl ⟨rfl, rfl⟩) KA_50 A.1 (by decide) (by decide) (by decide) (by decide) (by decide) (SH.take 54) (by decide) 61 rfl ?_
  refine x_putR E (fun _ => rfl) (Or.inr ⟨_, rfl⟩) dX6_init_61 F_RX6_38 (by decide : (SH.take 54)[49]? = some (5, 0)) 64 rfl ?_
  refine x_aload_n 65 rfl 0 dX6_init_64 rfl rfl ?_
  refine x_sipush 68 rfl (v := 601) dX6_init_65 (by decide) ?_
  refine x_newA (bc := 0) (bs := 0) E (q := 54) (t := 50) (N := 601) dX6_init_68 rfl (Or.inl ⟨rfl, rfl⟩) KA_50 A.1 (by decide) (by decide) (by decide) (by decide) (by decide) (SH.take 55) (by decide) 70 rfl ?_
  refine x_putR E (fun _ => rfl) (Or.inr ⟨_, rfl⟩) dX6_init_70 F_RX6_41 (by decide : (SH.take 55)[49]? = some (5, 0)) 73 rfl ?_
  exact x_vret dX6_init_73 rfl rfl rfl
abbrev M_Ch_init : xM := (yX1_init, cX1_init, 1, none, [])
def rI_Ch_init_55 (rf : xR) : xR := (x_pR (x_nR (x_pR (x_nR (x_pR (x_nR rf 56) 55 0 (some 56)) 57) 55 2 (some 57)) 58) 55 3 (some 58))
def sI_Ch_init_55 (σ : xS) : xS := (x_pI (x_n0 (x_n0 (x_pI (x_n0 σ 56) 55 1 (0 : Int32)) 57) 58) 55 4 (-1 : Int32))
set_option maxHeartbeats 4000000 in
set_option maxRecDepth 100000 in
theorem k_Ch_init_55 {l : Launch} {s0 : State} {a0 : Array Value} {D : va_G} {cA : Nat → ClassId} {sp : Nat → Nat} (E : x_En CL l s0 a0 D cA sp) (A : x_Ar s0 cA) (rf : xR) (σ : xS) : x_C CL FK l s0 D cA sp 1 3 19 true M_Ch_init [.ref 55] (SH.take 56) rf σ none (SH.take 59) (rI_Ch_init_55 rf) (sI_Ch_init_55 σ) := by
  refine x_enter [some (.ref 55)] rfl (Nat.le_of_ble_eq_true rfl) (by decide +kernel) rfl ?_
  refine x_aload_n 1 rfl 0 dX1_init_0 rfl rfl ?_
  refine x_obj E dX1_init_1 (List.mem_append_right _ (List.mem_of_getElem? (i := 250) (by decide +kernel))) KOB1 KOB2 (Nat.le_of_ble_eq_true rfl) (Nat.le_of_ble_eq_true rfl) 4 rfl ?_
  refine x_aload_n 5 rfl 0 dX1_init_4 rfl rfl ?_
  refine x_bipush 7 rfl (v := 13) dX1_init_5 (by decide) ?_
  refine x_newA (bc := 2) (bs := 6) E (q := 56) (t := 50) (N := 13) dX1_init_7 rfl (Or.inl ⟨rfl, rfl⟩) KA_50 A.1 (by decide) (by decide) (by decide) (by decide) (by decide) (SH.take 57) (by decide) 9 rfl ?_
  refine x_putR E (fun _ => rfl) (Or.inr ⟨_, rfl⟩) dX1_init_9 F_RX1_9 (by decide : (SH.take 57)[55]? = some (0, 0)) 12 rfl ?_
  refine x_aload_n 13 rfl 0 dX1_init_12 rfl rfl ?_
  refine x_iconst 14 rfl (v := 0) dX1_init_13 (by decide) ?_
  refine x_putI E dX1_init_14 F_RX1_15 (by decide : (SH.take 57)[55]? = some (0, 0)) 17 rfl ?_
  refine x_aload_n 18 rfl 0 dX1_init_17 rfl rfl ?_
  refine x_iconst 19 rfl (v := 3) dX1_init_18 (by decide) ?_
  refine x_newA (bc := 1) (bs := 3) E (q := 57) (t := 50) (N := 3) dX1_init_19 rfl (Or.inl ⟨rfl, rfl⟩) KA_50 A.1 (by decide) (by decide) (by decide) (by decide) (by decide) (SH.take 58) (by decide) 21 rfl ?_
  refine x_putR E (fun _ => rfl) (Or.inr ⟨_, rfl⟩) dX1_init_21 F_RX1_19 (by decide : (SH.take 58)[55]? = some (0, 0)) 24 rfl ?_
  refine x_aload_n 25 rfl 0 dX1_init_24 rfl rfl ?_
  refine x_iconst 26 rfl (v := 3) dX1_init_25 (by decide) ?_
  refine x_newA (bc := 0) (bs := 0) E (q := 58) (t := 50) (N := 3) dX1_init_26 rfl (Or.inl ⟨rfl, rfl⟩) KA_50 A.1 (by decide) (by decide) (by decide) (by decide) (by decide) (SH.take 59) (by decide) 28 rfl ?_
  refine x_putR E (fun _ => rfl) (Or.inr ⟨_, rfl⟩) dX1_init_28 F_RX1_22 (by decide : (SH.take 59)[55]? = some (0, 0)) 31 rfl ?_
  refine x_aload_n 32 rfl 0 dX1_init_31 rfl rfl ?_
  refine x_iconst 33 rfl (v := -1) dX1_init_32 (by decide) ?_
  refine x_putI E dX1_init_33 F_RX1_25 (by decide : (SH.take 59)[55]? = some (0, 0)) 36 rfl ?_
  exact x_vret dX1_init_36 rfl rfl rfl
abbrev M_Mo_init : xM := (yX9_init, cX9_init, 1, none, [])
def rI_Mo_init_60 (rf : xR) : xR := (x_pR (x_nR (x_pR (x_nR (x_pR (x_nR (x_pR (x_nR (x_pR (x_nR (x_pR (x_nR (x_pR (x_nR (x_pR (x_nR (x_pR (x_nR (x_pR (x_nR (x_pR (x_nR (x_pR (x_nR (x_pR (x_nR (x_pR (x_nR (x_pR (x_nR (x_pR (x_nR (x_pR (x_nR (x_pR (x_nR (x_pR (x_nR (x_pR (x_nR (x_pR (x_nR (x_pR (x_nR (x_pR (x_nR (x_pR (x_nR (x_pR (x_nR (x_pR (x_nR (x_pR (x_nR (x_pR (x_nR (x_pR (x_nR (x_pR (x_nR (x_pR (x_nR (x_pR (x_nR (x_pR (x_nR (x_pR (x_nR (x_pR (x_nR rf 61) 60 8 (some 61)) 62) 60 9 (some 62)) 63) 60 10 (some 63)) 64) 60 11 (some 64)) 65) 60 12 (some 65)) 66) 60 13 (some 66)) 67) 60 14 (some 67)) 68) 60 18 (some 68)) 69) 60 43 (some 69)) 70) 60 44 (some 70)) 71) 60 45 (some 71)) 72) 60 46 (some 72)) 73) 60 47 (some 73)) 74) 60 48 (some 74)) 75) 60 49 (some 75)) 76) 60 50 (some 76)) 77) 60 51 (some 77)) 78) 60 52 (some 78)) 79) 60 53 (some 79)) 80) 60 54 (some 80)) 81) 60 55 (some 81)) 82) 60 57 (some 82)) 83) 60 58 (some 83)) 84) 60 61 (some 84)) 85) 60 62 (some 85)) 86) 60 63 (some 86)) 87) 60 70 (some 87)) 88) 60 71 (some 88)) 89) 60 72 (some 89)) 90) 60 75 (some 90)) 91) 60 77 (some 91)) 92) 60 82 (some 92)) 93) 60 83 (some 93)) 94) 60 84 (some 94)) 95) 60 85 (some 95))
def sI_Mo_init_60 (σ : xS) : xS := (x_n0 (x_n0 (x_n0 (x_n0 (x_n0 (x_n0 (x_n0 (x_n0 (x_n0 (x_pI (x_n0 (x_n0 (x_n0 (x_n0 (x_n0 (x_n0 (x_n0 (x_pI (x_pI (x_pI (x_pI (x_pI (x_pI (x_pI (x_pI (x_pI (x_pI (x_pI (x_pI (x_n0 (x_n0 (x_n0 (x_n0 (x_n0 (x_n0 (x_n0 (x_n0 (x_n0 (x_n0 (x_n0 (x_n0 (x_pI (x_n0 (x_n0 (x_n0 (x_n0 (x_n0 (x_n0 (x_n0 (x_pI (x_pI (x_pI σ 60 1 (120 : Int32)) 60 6 (-1 : Int32)) 60 7 (-1 : Int32)) 61) 62) 63) 64) 65) 66) 67) 60 17 (-1 : Int32)) 68) 69) 70) 71) 72) 73) 74) 75) 76) 77) 78) 79) 79 0 (3 : Int32)) 79 1 (2 : Int32)) 79 2 (20 : Int32)) 79 3 (0 : Int32)) 79 4 (0 : Int32)) 79 5 (-1 : Int32)) 79 6 (0 : Int32)) 79 7 (0 : Int32)) 79 8 (0 : Int32)) 79 9 (0 : Int32)) 79 10 (0 : Int32)) 79 11 (0 : Int32)) 80) 81) 82) 83) 84) 85) 86) 60 68 (-1 : Int32)) 87) 88) 89) 90) 91) 92) 93) 94) 95)
set_option maxHeartbeats 4000000 in
set_option maxRecDepth 100000 in
theorem k_Mo_init_60 {l : Launch} {s0 : State} {a0 : Array Value} {D : va_G} {cA : Nat → ClassId} {sp : Nat → Nat} (E : x_En CL l s0 a0 D cA sp) (A : x_Ar s0 cA) (rf : xR) (σ : xS) : x_C CL FK l s0 D cA sp 1 35 13194 true M_Mo_init [.ref 60] (SH.take 61) rf σ none (SH.take 96) (rI_Mo_init_60 rf) (sI_Mo_init_60 σ) := by
  refine x_enter [some (.ref 60)] rfl (Nat.le_of_ble_eq_true rfl) (by decide +kernel) rfl ?_
  refine x_aload_n 1 rfl 0 dX9_init_0 rfl rfl ?_
  refine x_obj E dX9_init_1 (List.mem_append_right _ (List.mem_of_getElem? (i := 1216) (by decide +kernel))) KOB1 KOB2 (Nat.le_of_ble_eq_true rfl) (Nat.le_of_ble_eq_true rfl) 4 rfl ?_
  refine x_aload_n 5 rfl 0 dX9_init_4 rfl rfl ?_
  refine x_bipush 7 rfl (v := 120) dX9_init_5 (by decide) ?_
  refine x_putI E dX9_init_7 F_RX9_7 (by decide : (SH.take 61)[60]? = some (7, 0)) 10 rfl ?_
  refine x_aload_n 11 rfl 0 dX9_init_10 rfl rfl ?_
  refine x_iconst 12 rfl (v := -1) dX9_init_11 (by decide) ?_
  refine x_putI E dX9_init_12 F_RX9_13 (by decide : (SH.take 61)[60]? = some (7, 0)) 15 rfl ?_
  refine x_aload_n 16 rfl 0 dX9_init_15 rfl rfl ?_
  refine x_iconst 17 rfl (v := -1) dX9_init_16 (by decide) ?_
  refine x_putI E dX9_init_17 F_RX9_16 (by decide : (SH.take 61)[60]? = some (7, 0)) 20 rfl ?_
  refine x_aload_n 21 rfl 0 dX9_init_20 rfl rfl ?_
  refine x_bipush 23 rfl (v := 12) dX9_init_21 (by decide) ?_
  refine x_newA (bc := 34) (bs := 13182) E (q := 61) (t := 50) (N := 12) dX9_init_23 rfl (Or.inl ⟨rfl, rfl⟩) KA_50 A.1 (by decide) (by decide) (by decide) (by decide) (by decide) (SH.take 62) (by decide) 25 rfl ?_
  refine x_putR E (fun _ => rfl) (Or.inr ⟨_, rfl⟩) dX9_init_25 F_RX9_19 (by decide : (SH.take 62)[60]? = some (7, 0)) 28 rfl ?_
  refine x_aload_n 29 rfl 0 dX9_init_28 rfl rfl ?_
  refine x_bipush 31 rfl (v := 12) dX9_init_29 (by decide) ?_
  refine x_newA (bc := 33) (bs := 13170) E (q := 62) (t := 50) (N := 12) dX9_init_31 rfl (Or.inl ⟨rfl, rfl⟩) KA_50 A.1 (by decide) (by decide) (by decide) (by decide) (by decide) (SH.take 63) (by decide) 33 rfl ?_
  refine x_putR E (fun _ => rfl) (Or.inr ⟨_, rfl⟩) dX9_init_33 F_RX9_23 (by decide : (SH.take 63)[60]? = some (7, 0)) 36 rfl ?_
  refine x_aload_n 37 rfl 0 dX9_init_36 rfl rfl ?_
  refine x_bipush 39 rfl (v := 6) dX9_init_37 (by decide) ?_
  refine x_newA (bc := 32) (bs := 13164) E (q := 63) (t := 50) (N := 6) dX9_init_39 rfl (Or.inl ⟨rfl, rfl⟩) KA_50 A.1 (by decide) (by decide) (by decide) (by decide) (by decide) (SH.take 64) (by decide) 41 rfl ?_
  refine x_putR E (fun _ => rfl) (Or.inr ⟨_, rfl⟩) dX9_init_41 F_RX9_26 (by decide : (SH.take 64)[60]? = some (7, 0)) 44 rfl ?_
  refine x_aload_n 45 rfl 0 dX9_init_44 rfl rfl ?_
  refine x_bipush 47 rfl (v := 6) dX9_init_45 (by decide) ?_
  refine x_newA (bc := 31) (bs := 13158) E (q := 64) (t := 50) (N := 6) dX9_init_47 rfl (Or.inl ⟨rfl, rfl⟩) KA_50 A.1 (by decide) (by decide) (by decide) (by decide) (by decide) (SH.take 65) (by decide) 49 rfl ?_
  refine x_putR E (fun _ => rfl) (Or.inr ⟨_, rfl⟩) dX9_init_49 F_RX9_29 (by decide : (SH.take 65)[60]? = some (7, 0)) 52 rfl ?_
  refine x_aload_n 53 rfl 0 dX9_init_52 rfl rfl ?_
  refine x_iconst 54 rfl (v := 4) dX9_init_53 (by decide) ?_
  refine x_newA (bc := 30) (bs := 13154) E (q := 65) (t := 50) (N := 4) dX9_init_54 rfl (Or.inl ⟨rfl, rfl⟩) KA_50 A.1 (by decide) (by decide) (by decide) (by decide) (by decide) (SH.take 66) (by decide) 56 rfl ?_
  refine x_putR E (fun _ => rfl) (Or.inr ⟨_, rfl⟩) dX9_init_56 F_RX9_32 (by decide : (SH.take 66)[60]? = some (7, 0)) 59 rfl ?_
  refine x_aload_n 60 rfl 0 dX9_init_59 rfl rfl ?_
  refine x_sipush 63 rfl (v := 4200) dX9_init_60 (by decide) ?_
  refine x_newA (bc := 29) (bs := 8954) E (q := 66) (t := 50) (N := 4200) dX9_init_63 rfl (Or.inl ⟨rfl, rfl⟩) KA_50 A.1 (by decide) (by decide) (by decide) (by decide) (by decide) (SH.take 67) (by decide) 65 rfl ?_
  refine x_putR E (fun _ => rfl) (Or.inr ⟨_, rfl⟩) dX9_init_65 F_RX9_35 (by decide : (SH.take 67)[60]? = some (7, 0)) 68 rfl ?_
  refine x_aload_n 69 rfl 0 dX9_init_68 rfl rfl ?_
  refine x_sipush 72 rfl (v := 700) dX9_init_69 (by decide) ?_
  refine x_newA (bc := 28) (bs := 8254) E (q := 67) (t := 50) (N := 700) dX9_init_72 rfl (Or.inl ⟨rfl, rfl⟩) KA_50 A.1 (by decide) (by decide) (by decide) (by decide) (by decide) (SH.take 68) (by decide) 74 rfl ?_
  refine x_putR E (fun _ => rfl) (Or.inr ⟨_, rfl⟩) dX9_init_74 F_RX9_38 (by decide : (SH.take 68)[60]? = some (7, 0)) 77 rfl ?_
  refine x_aload_n 78 rfl 0 dX9_init_77 rfl rfl ?_
  refine x_iconst 79 rfl (v := -1) dX9_init_78 (by decide) ?_
  refine x_putI E dX9_init_79 F_RX9_41 (by decide : (SH.take 68)[60]? = some (7, 0)) 82 rfl ?_
  refine x_aload_n 83 rfl 0 dX9_init_82 rfl rfl ?_
  refine x_iconst 84 rfl (v := 3) dX9_init_83 (by decide) ?_
  refine x_newA (bc := 27) (bs := 8251) E (q := 68) (t := 50) (N := 3) dX9_init_84 rfl (Or.inl ⟨rfl, rfl⟩) KA_50 A.1 (by decide) (by decide) (by decide) (by decide) (by decide) (SH.take 69) (by decide) 86 rfl ?_
  refine x_putR E (fun _ => rfl) (Or.inr ⟨_, rfl⟩) dX9_init_86 F_RX9_44 (by decide : (SH.take 69)[60]? = some (7, 0)) 89 rfl ?_
  refine x_aload_n 90 rfl 0 dX9_init_89 rfl rfl ?_
  refine x_bipush 92 rfl (v := 12) dX9_init_90 (by decide) ?_
  refine x_newA (bc := 26) (bs := 8239) E (q := 69) (t := 50) (N := 12) dX9_init_92 rfl (Or.inl ⟨rfl, rfl⟩) KA_50 A.1 (by decide) (by decide) (by decide) (by decide) (by decide) (SH.take 70) (by decide) 94 rfl ?_
  refine x_putR E (fun _ => rfl) (Or.inr ⟨_, rfl⟩) dX9_init_94 F_RX9_47 (by decide : (SH.take 70)[60]? = some (7, 0)) 97 rfl ?_
  refine x_aload_n 98 rfl 0 dX9_init_97 rfl rfl ?_
  refine x_bipush 100 rfl (v := 12) dX9_init_98 (by decide) ?_
  refine x_newA (bc := 25) (bs := 8227) E (q := 70) (t := 50) (N := 12) dX9_init_100 rfl (Or.inl ⟨rfl, rfl⟩) KA_50 A.1 (by decide) (by decide) (by decide) (by decide) (by decide) (SH.take 71) (by decide) 102 rfl ?_
  refine x_putR E (fun _ => rfl) (Or.inr ⟨_, rfl⟩) dX9_init_102 F_RX9_50 (by decide : (SH.take 71)[60]? = some (7, 0)) 105 rfl ?_
  refine x_aload_n 106 rfl 0 dX9_init_105 rfl rfl ?_
  refine x_bipush 108 rfl (v := 6) dX9_init_106 (by decide) ?_
  refine x_newA (bc := 24) (bs := 8221) E (q := 71) (t := 50) (N := 6) dX9_init_108 rfl (Or.inl ⟨rfl, rfl⟩) KA_50 A.1 (by decide) (by decide) (by decide) (by decide) (by decide) (SH.take 72) (by decide) 110 rfl ?_
  refine x_putR E (fun _ => rfl) (Or.inr ⟨_, rfl⟩) dX9_init_110 F_RX9_53 (by decide : (SH.take 72)[60]? = some (7, 0)) 113 rfl ?_
  refine x_aload_n 114 rfl 0 dX9_init_113 rfl rfl ?_
  refine x_bipush 116 rfl (v := 6) dX9_init_114 (by decide) ?_
  refine x_newA (bc := 23) (bs := 8215) E (q := 72) (t := 50) (N := 6) dX9_init_116 rfl (Or.inl ⟨rfl, rfl⟩) KA_50 A.1 (by decide) (by decide) (by decide) (by decide) (by decide) (SH.take 73) (by decide) 118 rfl ?_
  refine x_putR E (fun _ => rfl) (Or.inr ⟨_, rfl⟩) dX9_init_118 F_RX9_56 (by decide : (SH.take 73)[60]? = some (7, 0)) 121 rfl ?_
  refine x_aload_n 122 rfl 0 dX9_init_121 rfl rfl ?_
  refine x_bipush 124 rfl (v := 6) dX9_init_122 (by decide) ?_
  refine x_newA (bc := 22) (bs := 8209) E (q := 73) (t := 50) (N := 6) dX9_init_124 rfl (Or.inl ⟨rfl, rfl⟩) KA_50 A.1 (by decide) (by decide) (by decide) (by decide) (by decide) (SH.take 74) (by decide) 126 rfl ?_
  refine x_putR E (fun _ => rfl) (Or.inr ⟨_, rfl⟩) dX9_init_126 F_RX9_59 (by decide : (SH.take 74)[60]? = some (7, 0)) 129 rfl ?_
  refine x_aload_n 130 rfl 0 dX9_init_129 rfl rfl ?_
  refine x_bipush 132 rfl (v := 6) dX9_init_130 (by decide) ?_
  refine x_newA (bc := 21) (bs := 8203) E (q := 74) (t := 50) (N := 6) dX9_init_132 rfl (Or.inl ⟨rfl, rfl⟩) KA_50 A.1 (by decide) (by decide) (by decide) (by decide) (by decide) (SH.take 75) (by decide) 134 rfl ?_
  refine x_putR E (fun _ => rfl) (Or.inr ⟨_, rfl⟩) dX9_init_134 F_RX9_62 (by decide : (SH.take 75)[60]? = some (7, 0)) 137 rfl ?_
  refine x_aload_n 138 rfl 0 dX9_init_137 rfl rfl ?_
  refine x_iconst 139 rfl (v := 4) dX9_init_138 (by decide) ?_
  refine x_newA (bc := 20) (bs := 8199) E (q := 75) (t := 50) (N := 4) dX9_init_139 rfl (Or.inl ⟨rfl, rfl⟩) KA_50 A.1 (by decide) (by decide) (by decide) (by decide) (by decide) (SH.take 76) (by decide) 141 rfl ?_
  refine x_putR E (fun _ => rfl) (Or.inr ⟨_, rfl⟩) dX9_init_141 F_RX9_65 (by decide : (SH.take 76)[60]? = some (7, 0)) 144 rfl ?_
  refine x_aload_n 145 rfl 0 dX9_init_144 rfl rfl ?_
  refine x_sipush 148 rfl (v := 4200) dX9_init_145 (by decide) ?_
  refine x_newA (bc := 19) (bs := 3999) E (q := 76) (t := 50) (N := 4200) dX9_init_148 rfl (Or.inl ⟨rfl, rfl⟩) KA_50 A.1 (by decide) (by decide) (by decide) (by decide) (by decide) (SH.take 77) (by decide) 150 rfl ?_
  refine x_putR E (fun _ => rfl) (Or.inr ⟨_, rfl⟩) dX9_init_150 F_RX9_68 (by decide : (SH.take 77)[60]? = some (7, 0)) 153 rfl ?_
  refine x_aload_n 154 rfl 0 dX9_init_153 rfl rfl ?_
  refine x_sipush 157 rfl (v := 950) dX9_init_154 (by decide) ?_
  refine x_newA (bc := 18) (bs := 3049) E (q := 77) (t := 50) (N := 950) dX9_init_157 rfl (Or.inl ⟨rfl, rfl⟩) KA_50 A.1 (by decide) (by decide) (by decide) (by decide) (by decide) (SH.take 78) (by decide) 159 rfl ?_
  refine x_putR E (fun _ => rfl) (Or.inr ⟨_, rfl⟩) dX9_init_159 F_RX9_71 (by decide : (SH.take 78)[60]? = some (7, 0)) 162 rfl ?_
  refine x_aload_n 163 rfl 0 dX9_init_162 rfl rfl ?_
  refine x_bipush 165 rfl (v := 9) dX9_init_163 (by decide) ?_
  refine x_newA (bc := 17) (bs := 3040) E (q := 78) (t := 51) (N := 9) dX9_init_165 rfl (Or.inr (Or.inl ⟨rfl, rfl⟩)) KA_51 A.2.1 (by decide) (by decide) (by decide) (by decide) (by decide) (SH.take 79) (by decide) 167 rfl ?_
  refine x_putR E (fun _ => rfl) (Or.inr ⟨_, rfl⟩) dX9_init_167 F_RX9_74 (by decide : (SH.take 79)[60]? = some (7, 0)) 170 rfl ?_
  refine x_aload_n 171 rfl 0 dX9_init_170 rfl rfl ?_
  refine x_bipush 173 rfl (v := 12) dX9_init_171 (by decide) ?_
  refine x_newA (bc := 16) (bs := 3028) E (q := 79) (t := 50) (N := 12) dX9_init_173 rfl (Or.inl ⟨rfl, rfl⟩) KA_50 A.1 (by decide) (by decide) (by decide) (by decide) (by decide) (SH.take 80) (by decide) 175 rfl ?_
  refine x_dup 176 rfl dX9_init_175 rfl ?_
  refine x_iconst 177 rfl (v := 0) dX9_init_176 (by decide) ?_
  refine x_iconst 178 rfl (v := 3) dX9_init_177 (by decide) ?_
  refine x_iast E dX9_init_178 (by decide : (SH.take 80)[79]? = some (50, 12)) 0 (by decide) (by decide) 179 rfl ?_
  refine x_dup 180 rfl dX9_init_179 rfl ?_
  refine x_iconst 181 rfl (v := 1) dX9_init_180 (by decide) ?_
  refine x_iconst 182 rfl (v := 2) dX9_init_181 (by decide) ?_
  refine x_iast E dX9_init_182 (by decide : (SH.take 80)[79]? = some (50, 12)) 1 (by decide) (by decide) 183 rfl ?_
  refine x_dup 184 rfl dX9_init_183 rfl ?_
  refine x_iconst 185 rfl (v := 2) dX9_init_184 (by decide) ?_
  refine x_bipush 187 rfl (v := 20) dX9_init_185 (by decide) ?_
  refine x_iast E dX9_init_187 (by decide : (SH.take 80)[79]? = some (50, 12)) 2 (by decide) (by decide) 188 rfl ?_
  refine x_dup 189 rfl dX9_init_188 rfl ?_
  refine x_iconst 190 rfl (v := 3) dX9_init_189 (by decide) ?_
  refine x_iconst 191 rfl (v := 0) dX9_init_190 (by decide) ?_
  refine x_iast E dX9_init_191 (by decide : (SH.take 80)[79]? = some (50, 12)) 3 (by decide) (by decide) 192 rfl ?_
  refine x_dup 193 rfl dX9_init_192 rfl ?_
  refine x_iconst 194 rfl (v := 4) dX9_init_193 (by decide) ?_
  refine x_iconst 195 rfl (v := 0) dX9_init_194 (by decide) ?_
  refine x_iast E dX9_init_195 (by decide : (SH.take 80)[79]? = some (50, 12)) 4 (by decide) (by decide) 196 rfl ?_
  refine x_dup 197 rfl dX9_init_196 rfl ?_
  refine x_iconst 198 rfl (v := 5) dX9_init_197 (by decide) ?_
  refine x_iconst 199 rfl (v := -1) dX9_init_198 (by decide) ?_
  refine x_iast E dX9_init_199 (by decide : (SH.take 80)[79]? = some (50, 12)) 5 (by decide) (by decide) 200 rfl ?_
  refine x_dup 201 rfl dX9_init_200 rfl ?_
  refine x_bipush 203 rfl (v := 6) dX9_init_201 (by decide) ?_
  refine x_iconst 204 rfl (v := 0) dX9_init_203 (by decide) ?_
  refine x_iast E dX9_init_204 (by decide : (SH.take 80)[79]? = some (50, 12)) 6 (by decide) (by decide) 205 rfl ?_
  refine x_dup 206 rfl dX9_init_205 rfl ?_
  refine x_bipush 208 rfl (v := 7) dX9_init_206 (by decide) ?_
  refine x_iconst 209 rfl (v := 0) dX9_init_208 (by decide) ?_
  refine x_iast E dX9_init_209 (by decide : (SH.take 80)[79]? = some (50, 12)) 7 (by decide) (by decide) 210 rfl ?_
  refine x_dup 211 rfl dX9_init_210 rfl ?_
  refine x_bipush 213 rfl (v := 8) dX9_init_211 (by decide) ?_
  refine x_iconst 214 rfl (v := 0) dX9_init_213 (by decide) ?_
  refine x_iast E dX9_init_214 (by decide : (SH.take 80)[79]? = some (50, 12)) 8 (by decide) (by decide) 215 rfl ?_
  refine x_dup 216 rfl dX9_init_215 rfl ?_
  refine x_bipush 218 rfl (v := 9) dX9_init_216 (by decide) ?_
  refine x_iconst 219 rfl (v := 0) dX9_init_218 (by decide) ?_
  refine x_iast E dX9_init_219 (by decide : (SH.take 80)[79]? = some (50, 12)) 9 (by decide) (by decide) 220 rfl ?_
  refine x_dup 221 rfl dX9_init_220 rfl ?_
  refine x_bipush 223 rfl (v := 10) dX9_init_221 (by decide) ?_
  refine x_iconst 224 rfl (v := 0) dX9_init_223 (by decide) ?_
  refine x_iast E dX9_init_224 (by decide : (SH.take 80)[79]? = some (50, 12)) 10 (by decide) (by decide) 225 rfl ?_
  refine x_dup 226 rfl dX9_init_225 rfl ?_
  refine x_bipush 228 rfl (v := 11) dX9_init_226 (by decide) ?_
  refine x_iconst 229 rfl (v := 0) dX9_init_228 (by decide) ?_
  refine x_iast E dX9_init_229 (by decide : (SH.take 80)[79]? = some (50, 12)) 11 (by decide) (by decide) 230 rfl ?_
  refine x_putR E (fun _ => rfl) (Or.inr ⟨_, rfl⟩) dX9_init_230 F_RX9_78 (by decide : (SH.take 80)[60]? = some (7, 0)) 233 rfl ?_
  refine x_aload_n 234 rfl 0 dX9_init_233 rfl rfl ?_
  refine x_bipush 236 rfl (v := 12) dX9_init_234 (by decide) ?_
  refine x_newA (bc := 15) (bs := 3016) E (q := 80) (t := 50) (N := 12) dX9_init_236 rfl (Or.inl ⟨rfl, rfl⟩) KA_50 A.1 (by decide) (by decide) (by decide) (by decide) (by decide) (SH.take 81) (by decide) 238 rfl ?_
  refine x_putR E (fun _ => rfl) (Or.inr ⟨_, rfl⟩) dX9_init_238 F_RX9_81 (by decide : (SH.take 81)[60]? = some (7, 0)) 241 rfl ?_
  refine x_aload_n 242 rfl 0 dX9_init_241 rfl rfl ?_
  refine x_bipush 244 rfl (v := 80) dX9_init_242 (by decide) ?_
  refine x_newA (bc := 14) (bs := 2936) E (q := 81) (t := 50) (N := 80) dX9_init_244 rfl (Or.inl ⟨rfl, rfl⟩) KA_50 A.1 (by decide) (by decide) (by decide) (by decide) (by decide) (SH.take 82) (by decide) 246 rfl ?_
  refine x_putR E (fun _ => rfl) (Or.inr ⟨_, rfl⟩) dX9_init_246 F_RX9_84 (by decide : (SH.take 82)[60]? = some (7, 0)) 249 rfl ?_
  refine x_aload_n 250 rfl 0 dX9_init_249 rfl rfl ?_
  refine x_bipush 252 rfl (v := 8) dX9_init_250 (by decide) ?_
  refine x_newA (bc := 13) (bs := 2928) E (q := 82) (t := 50) (N := 8) dX9_init_252 rfl (Or.inl ⟨rfl, rfl⟩) KA_50 A.1 (by decide) (by decide) (by decide) (by decide) (by decide) (SH.take 83) (by decide) 254 rfl ?_
  refine x_putR E (fun _ => rfl) (Or.inr ⟨_, rfl⟩) dX9_init_254 F_RX9_87 (by decide : (SH.take 83)[60]? = some (7, 0)) 257 rfl ?_
  refine x_aload_n 258 rfl 0 dX9_init_257 rfl rfl ?_
  refine x_sipush 261 rfl (v := 950) dX9_init_258 (by decide) ?_
  refine x_newA (bc := 12) (bs := 1978) E (q := 83) (t := 50) (N := 950) dX9_init_261 rfl (Or.inl ⟨rfl, rfl⟩) KA_50 A.1 (by decide) (by decide) (by decide) (by decide) (by decide) (SH.take 84) (by decide) 263 rfl ?_
  refine x_putR E (fun _ => rfl) (Or.inr ⟨_, rfl⟩) dX9_init_263 F_RX9_90 (by decide : (SH.take 84)[60]? = some (7, 0)) 266 rfl ?_
  refine x_aload_n 267 rfl 0 dX9_init_266 rfl rfl ?_
  refine x_sipush 270 rfl (v := 601) dX9_init_267 (by decide) ?_
  refine x_newA (bc := 11) (bs := 1377) E (q := 84) (t := 50) (N := 601) dX9_init_270 rfl (Or.inl ⟨rfl, rfl⟩) KA_50 A.1 (by decide) (by decide) (by decide) (by decide) (by decide) (SH.take 85) (by decide) 272 rfl ?_
  refine x_putR E (fun _ => rfl) (Or.inr ⟨_, rfl⟩) dX9_init_272 F_RX9_93 (by decide : (SH.take 85)[60]? = some (7, 0)) 275 rfl ?_
  refine x_aload_n 276 rfl 0 dX9_init_275 rfl rfl ?_
  refine x_sipush 279 rfl (v := 601) dX9_init_276 (by decide) ?_
  refine x_newA (bc := 10) (bs := 776) E (q := 85) (t := 50) (N := 601) dX9_init_279 rfl (Or.inl ⟨rfl, rfl⟩) KA_50 A.1 (by decide) (by decide) (by decide) (by decide) (by decide) (SH.take 86) (by decide) 281 rfl ?_
  refine x_putR E (fun _ => rfl) (Or.inr ⟨_, rfl⟩) dX9_init_281 F_RX9_96 (by decide : (SH.take 86)[60]? = some (7, 0)) 284 rfl ?_
  refine x_aload_n 285 rfl 0 dX9_init_284 rfl rfl ?_
  refine x_sipush 288 rfl (v := 601) dX9_init_285 (by decide) ?_
  refine x_newA (bc := 9) (bs := 175) E (q := 86) (t := 50) (N := 601) dX9_init_288 rfl (Or.inl ⟨rfl, rfl⟩) KA_50 A.1 (by decide) (by decide) (by decide) (by decide) (by decide) (SH.take 87) (by decide) 290 rfl ?_
  refine x_putR E (fun _ => rfl) (Or.inr ⟨_, rfl⟩) dX9_init_290 F_RX9_99 (by decide : (SH.take 87)[60]? = some (7, 0)) 293 rfl ?_
  refine x_aload_n 294 rfl 0 dX9_init_293 rfl rfl ?_
  refine x_iconst 295 rfl (v := -1) dX9_init_294 (by decide) ?_
  refine x_putI E dX9_init_295 F_RX9_102 (by decide : (SH.take 87)[60]? = some (7, 0)) 298 rfl ?_
  refine x_aload_n 299 rfl 0 dX9_init_298 rfl rfl ?_
  refine x_iconst 300 rfl (v := 3) dX9_init_299 (by decide) ?_
  refine x_newA (bc := 8) (bs := 172) E (q := 87) (t := 50) (N := 3) dX9_init_300 rfl (Or.inl ⟨rfl, rfl⟩) KA_50 A.1 (by decide) (by decide) (by decide) (by decide) (by decide) (SH.take 88) (by decide) 302 rfl ?_
  refine x_putR E (fun _ => rfl) (Or.inr ⟨_, rfl⟩) dX9_init_302 F_RX9_105 (by decide : (SH.take 88)[60]? = some (7, 0)) 305 rfl ?_
  refine x_aload_n 306 rfl 0 dX9_init_305 rfl rfl ?_
  refine x_bipush 308 rfl (v := 13) dX9_init_306 (by decide) ?_
  refine x_newA (bc := 7) (bs := 159) E (q := 88) (t := 50) (N := 13) dX9_init_308 rfl (Or.inl ⟨rfl, rfl⟩) KA_50 A.1 (by decide) (by decide) (by decide) (by decide) (by decide) (SH.take 89) (by decide) 310 rfl ?_
  refine x_putR E (fun _ => rfl) (Or.inr ⟨_, rfl⟩) dX9_init_310 F_RX9_108 (by decide : (SH.take 89)[60]? = some (7, 0)) 313 rfl ?_
  refine x_aload_n 314 rfl 0 dX9_init_313 rfl rfl ?_
  refine x_iconst 315 rfl (v := 3) dX9_init_314 (by decide) ?_
  refine x_newA (bc := 6) (bs := 156) E (q := 89) (t := 50) (N := 3) dX9_init_315 rfl (Or.inl ⟨rfl, rfl⟩) KA_50 A.1 (by decide) (by decide) (by decide) (by decide) (by decide) (SH.take 90) (by decide) 317 rfl ?_
  refine x_putR E (fun _ => rfl) (Or.inr ⟨_, rfl⟩) dX9_init_317 F_RX9_111 (by decide : (SH.take 90)[60]? = some (7, 0)) 320 rfl ?_
  refine x_aload_n 321 rfl 0 dX9_init_320 rfl rfl ?_
  refine x_bipush 323 rfl (v := 16) dX9_init_321 (by decide) ?_
  refine x_newA (bc := 5) (bs := 140) E (q := 90) (t := 50) (N := 16) dX9_init_323 rfl (Or.inl ⟨rfl, rfl⟩) KA_50 A.1 (by decide) (by decide) (by decide) (by decide) (by decide) (SH.take 91) (by decide) 325 rfl ?_
  refine x_putR E (fun _ => rfl) (Or.inr ⟨_, rfl⟩) dX9_init_325 F_RX9_114 (by decide : (SH.take 91)[60]? = some (7, 0)) 328 rfl ?_
  refine x_aload_n 329 rfl 0 dX9_init_328 rfl rfl ?_
  refine x_bipush 331 rfl (v := 16) dX9_init_329 (by decide) ?_
  refine x_newA (bc := 4) (bs := 124) E (q := 91) (t := 50) (N := 16) dX9_init_331 rfl (Or.inl ⟨rfl, rfl⟩) KA_50 A.1 (by decide) (by decide) (by decide) (by decide) (by decide) (SH.take 92) (by decide) 333 rfl ?_
  refine x_putR E (fun _ => rfl) (Or.inr ⟨_, rfl⟩) dX9_init_333 F_RX9_117 (by decide : (SH.take 92)[60]? = some (7, 0)) 336 rfl ?_
  refine x_aload_n 337 rfl 0 dX9_init_336 rfl rfl ?_
  refine x_bipush 339 rfl (v := 12) dX9_init_337 (by decide) ?_
  refine x_newA (bc := 3) (bs := 112) E (q := 92) (t := 50) (N := 12) dX9_init_339 rfl (Or.inl ⟨rfl, rfl⟩) KA_50 A.1 (by decide) (by decide) (by decide) (by decide) (by decide) (SH.take 93) (by decide) 341 rfl ?_
  refine x_putR E (fun _ => rfl) (Or.inr ⟨_, rfl⟩) dX9_init_341 F_RX9_120 (by decide : (SH.take 93)[60]? = some (7, 0)) 344 rfl ?_
  refine x_aload_n 345 rfl 0 dX9_init_344 rfl rfl ?_
  refine x_bipush 347 rfl (v := 80) dX9_init_345 (by decide) ?_
  refine x_newA (bc := 2) (bs := 32) E (q := 93) (t := 50) (N := 80) dX9_init_347 rfl (Or.inl ⟨rfl, rfl⟩) KA_50 A.1 (by decide) (by decide) (by decide) (by decide) (by decide) (SH.take 94) (by decide) 349 rfl ?_
  refine x_putR E (fun _ => rfl) (Or.inr ⟨_, rfl⟩) dX9_init_349 F_RX9_123 (by decide : (SH.take 94)[60]? = some (7, 0)) 352 rfl ?_
  refine x_aload_n 353 rfl 0 dX9_init_352 rfl rfl ?_
  refine x_bipush 355 rfl (v := 16) dX9_init_353 (by decide) ?_
  refine x_newA (bc := 1) (bs := 16) E (q := 94) (t := 50) (N := 16) dX9_init_355 rfl (Or.inl ⟨rfl, rfl⟩) KA_50 A.1 (by decide) (by decide) (by decide) (by decide) (by decide) (SH.take 95) (by decide) 357 rfl ?_
  refine x_putR E (fun _ => rfl) (Or.inr ⟨_, rfl⟩) dX9_init_357 F_RX9_126 (by decide : (SH.take 95)[60]? = some (7, 0)) 360 rfl ?_
  refine x_aload_n 361 rfl 0 dX9_init_360 rfl rfl ?_
  refine x_bipush 363 rfl (v := 16) dX9_init_361 (by decide) ?_
  refine x_newA (bc := 0) (bs := 0) E (q := 95) (t := 50) (N := 16) dX9_init_363 rfl (Or.inl ⟨rfl, rfl⟩) KA_50 A.1 (by decide) (by decide) (by decide) (by decide) (by decide) (SH.take 96) (by decide) 365 rfl ?_
  refine x_putR E (fun _ => rfl) (Or.inr ⟨_, rfl⟩) dX9_init_365 F_RX9_129 (by decide : (SH.take 96)[60]? = some (7, 0)) 368 rfl ?_
  exact x_vret dX9_init_368 rfl rfl rfl
