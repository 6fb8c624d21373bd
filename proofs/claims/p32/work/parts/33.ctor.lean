theorem dX0_init_0 : decode cX0_init 0 = .ok (.aload_n 0, 1) := by decide +kernel
theorem dX0_init_1 : decode cX0_init 1 = .ok (.invokespecial 3, 3) := by decide +kernel
theorem dX0_init_4 : decode cX0_init 4 = .ok (.aload_n 0, 1) := by decide +kernel
theorem dX0_init_5 : decode cX0_init 5 = .ok (.bipush 101, 2) := by decide +kernel
theorem dX0_init_7 : decode cX0_init 7 = .ok (.bipush 101, 2) := by decide +kernel
theorem dX0_init_9 : decode cX0_init 9 = .ok (.multianewarray 9 2, 4) := by decide +kernel
theorem dX0_init_13 : decode cX0_init 13 = .ok (.putfield 11, 3) := by decide +kernel
theorem dX0_init_16 : decode cX0_init 16 = .ok (.aload_n 0, 1) := by decide +kernel
theorem dX0_init_17 : decode cX0_init 17 = .ok (.bipush 100, 2) := by decide +kernel
theorem dX0_init_19 : decode cX0_init 19 = .ok (.newarray .int, 2) := by decide +kernel
theorem dX0_init_21 : decode cX0_init 21 = .ok (.putfield 16, 3) := by decide +kernel
theorem dX0_init_24 : decode cX0_init 24 = .ok (.aload_n 0, 1) := by decide +kernel
theorem dX0_init_25 : decode cX0_init 25 = .ok (.bipush 100, 2) := by decide +kernel
theorem dX0_init_27 : decode cX0_init 27 = .ok (.newarray .int, 2) := by decide +kernel
theorem dX0_init_29 : decode cX0_init 29 = .ok (.putfield 20, 3) := by decide +kernel
theorem dX0_init_32 : decode cX0_init 32 = .ok (.aload_n 0, 1) := by decide +kernel
theorem dX0_init_33 : decode cX0_init 33 = .ok (.iconst 0, 1) := by decide +kernel
theorem dX0_init_34 : decode cX0_init 34 = .ok (.putfield 23, 3) := by decide +kernel
theorem dX0_init_37 : decode cX0_init 37 = .ok (.aload_n 0, 1) := by decide +kernel
theorem dX0_init_38 : decode cX0_init 38 = .ok (.bipush 40, 2) := by decide +kernel
theorem dX0_init_40 : decode cX0_init 40 = .ok (.newarray .int, 2) := by decide +kernel
theorem dX0_init_42 : decode cX0_init 42 = .ok (.putfield 27, 3) := by decide +kernel
theorem dX0_init_45 : decode cX0_init 45 = .ok (.aload_n 0, 1) := by decide +kernel
theorem dX0_init_46 : decode cX0_init 46 = .ok (.bipush 40, 2) := by decide +kernel
theorem dX0_init_48 : decode cX0_init 48 = .ok (.newarray .int, 2) := by decide +kernel
theorem dX0_init_50 : decode cX0_init 50 = .ok (.putfield 30, 3) := by decide +kernel
theorem dX0_init_53 : decode cX0_init 53 = .ok (.return_, 1) := by decide +kernel
theorem dX1_init_0 : decode cX1_init 0 = .ok (.aload_n 0, 1) := by decide +kernel
theorem dX1_init_1 : decode cX1_init 1 = .ok (.invokespecial 3, 3) := by decide +kernel
theorem dX1_init_4 : decode cX1_init 4 = .ok (.aload_n 0, 1) := by decide +kernel
theorem dX1_init_5 : decode cX1_init 5 = .ok (.bipush 100, 2) := by decide +kernel
theorem dX1_init_7 : decode cX1_init 7 = .ok (.newarray .int, 2) := by decide +kernel
theorem dX1_init_9 : decode cX1_init 9 = .ok (.putfield 9, 3) := by decide +kernel
theorem dX1_init_12 : decode cX1_init 12 = .ok (.aload_n 0, 1) := by decide +kernel
theorem dX1_init_13 : decode cX1_init 13 = .ok (.bipush 100, 2) := by decide +kernel
theorem dX1_init_15 : decode cX1_init 15 = .ok (.newarray .int, 2) := by decide +kernel
theorem dX1_init_17 : decode cX1_init 17 = .ok (.putfield 15, 3) := by decide +kernel
theorem dX1_init_20 : decode cX1_init 20 = .ok (.aload_n 0, 1) := by decide +kernel
theorem dX1_init_21 : decode cX1_init 21 = .ok (.bipush 100, 2) := by decide +kernel
theorem dX1_init_23 : decode cX1_init 23 = .ok (.newarray .int, 2) := by decide +kernel
theorem dX1_init_25 : decode cX1_init 25 = .ok (.putfield 18, 3) := by decide +kernel
theorem dX1_init_28 : decode cX1_init 28 = .ok (.aload_n 0, 1) := by decide +kernel
theorem dX1_init_29 : decode cX1_init 29 = .ok (.iconst 0, 1) := by decide +kernel
theorem dX1_init_30 : decode cX1_init 30 = .ok (.putfield 21, 3) := by decide +kernel
theorem dX1_init_33 : decode cX1_init 33 = .ok (.return_, 1) := by decide +kernel
theorem dX2_init_0 : decode cX2_init 0 = .ok (.aload_n 0, 1) := by decide +kernel
theorem dX2_init_1 : decode cX2_init 1 = .ok (.invokespecial 3, 3) := by decide +kernel
theorem dX2_init_4 : decode cX2_init 4 = .ok (.aload_n 0, 1) := by decide +kernel
theorem dX2_init_5 : decode cX2_init 5 = .ok (.bipush 64, 2) := by decide +kernel
theorem dX2_init_7 : decode cX2_init 7 = .ok (.newarray .int, 2) := by decide +kernel
theorem dX2_init_9 : decode cX2_init 9 = .ok (.putfield 9, 3) := by decide +kernel
theorem dX2_init_12 : decode cX2_init 12 = .ok (.aload_n 0, 1) := by decide +kernel
theorem dX2_init_13 : decode cX2_init 13 = .ok (.iconst 0, 1) := by decide +kernel
theorem dX2_init_14 : decode cX2_init 14 = .ok (.putfield 15, 3) := by decide +kernel
theorem dX2_init_17 : decode cX2_init 17 = .ok (.aload_n 0, 1) := by decide +kernel
theorem dX2_init_18 : decode cX2_init 18 = .ok (.iconst 0, 1) := by decide +kernel
theorem dX2_init_19 : decode cX2_init 19 = .ok (.putfield 19, 3) := by decide +kernel
theorem dX2_init_22 : decode cX2_init 22 = .ok (.aload_n 0, 1) := by decide +kernel
theorem dX2_init_23 : decode cX2_init 23 = .ok (.iconst 1, 1) := by decide +kernel
theorem dX2_init_24 : decode cX2_init 24 = .ok (.putfield 22, 3) := by decide +kernel
theorem dX2_init_27 : decode cX2_init 27 = .ok (.aload_n 0, 1) := by decide +kernel
theorem dX2_init_28 : decode cX2_init 28 = .ok (.iconst 1, 1) := by decide +kernel
theorem dX2_init_29 : decode cX2_init 29 = .ok (.putfield 25, 3) := by decide +kernel
theorem dX2_init_32 : decode cX2_init 32 = .ok (.return_, 1) := by decide +kernel
theorem dX3_init_0 : decode cX3_init 0 = .ok (.aload_n 0, 1) := by decide +kernel
theorem dX3_init_1 : decode cX3_init 1 = .ok (.invokespecial 3, 3) := by decide +kernel
theorem dX3_init_4 : decode cX3_init 4 = .ok (.aload_n 0, 1) := by decide +kernel
theorem dX3_init_5 : decode cX3_init 5 = .ok (.sipush 800, 3) := by decide +kernel
theorem dX3_init_8 : decode cX3_init 8 = .ok (.newarray .int, 2) := by decide +kernel
theorem dX3_init_10 : decode cX3_init 10 = .ok (.putfield 9, 3) := by decide +kernel
theorem dX3_init_13 : decode cX3_init 13 = .ok (.aload_n 0, 1) := by decide +kernel
theorem dX3_init_14 : decode cX3_init 14 = .ok (.sipush 800, 3) := by decide +kernel
theorem dX3_init_17 : decode cX3_init 17 = .ok (.newarray .int, 2) := by decide +kernel
theorem dX3_init_19 : decode cX3_init 19 = .ok (.putfield 15, 3) := by decide +kernel
theorem dX3_init_22 : decode cX3_init 22 = .ok (.aload_n 0, 1) := by decide +kernel
theorem dX3_init_23 : decode cX3_init 23 = .ok (.sipush 800, 3) := by decide +kernel
theorem dX3_init_26 : decode cX3_init 26 = .ok (.newarray .int, 2) := by decide +kernel
theorem dX3_init_28 : decode cX3_init 28 = .ok (.putfield 18, 3) := by decide +kernel
theorem dX3_init_31 : decode cX3_init 31 = .ok (.aload_n 0, 1) := by decide +kernel
theorem dX3_init_32 : decode cX3_init 32 = .ok (.sipush 800, 3) := by decide +kernel
theorem dX3_init_35 : decode cX3_init 35 = .ok (.newarray .int, 2) := by decide +kernel
theorem dX3_init_37 : decode cX3_init 37 = .ok (.putfield 21, 3) := by decide +kernel
theorem dX3_init_40 : decode cX3_init 40 = .ok (.aload_n 0, 1) := by decide +kernel
theorem dX3_init_41 : decode cX3_init 41 = .ok (.sipush 800, 3) := by decide +kernel
theorem dX3_init_44 : decode cX3_init 44 = .ok (.newarray .int, 2) := by decide +kernel
theorem dX3_init_46 : decode cX3_init 46 = .ok (.putfield 24, 3) := by decide +kernel
theorem dX3_init_49 : decode cX3_init 49 = .ok (.aload_n 0, 1) := by decide +kernel
theorem dX3_init_50 : decode cX3_init 50 = .ok (.iconst 0, 1) := by decide +kernel
theorem dX3_init_51 : decode cX3_init 51 = .ok (.putfield 27, 3) := by decide +kernel
theorem dX3_init_54 : decode cX3_init 54 = .ok (.return_, 1) := by decide +kernel
theorem dX4_init_0 : decode cX4_init 0 = .ok (.aload_n 0, 1) := by decide +kernel
theorem dX4_init_1 : decode cX4_init 1 = .ok (.invokespecial 3, 3) := by decide +kernel
theorem dX4_init_4 : decode cX4_init 4 = .ok (.aload_n 0, 1) := by decide +kernel
theorem dX4_init_5 : decode cX4_init 5 = .ok (.sipush 900, 3) := by decide +kernel
theorem dX4_init_8 : decode cX4_init 8 = .ok (.newarray .int, 2) := by decide +kernel
theorem dX4_init_10 : decode cX4_init 10 = .ok (.putfield 9, 3) := by decide +kernel
theorem dX4_init_13 : decode cX4_init 13 = .ok (.aload_n 0, 1) := by decide +kernel
theorem dX4_init_14 : decode cX4_init 14 = .ok (.iconst 0, 1) := by decide +kernel
theorem dX4_init_15 : decode cX4_init 15 = .ok (.putfield 15, 3) := by decide +kernel
theorem dX4_init_18 : decode cX4_init 18 = .ok (.aload_n 0, 1) := by decide +kernel
theorem dX4_init_19 : decode cX4_init 19 = .ok (.iconst 0, 1) := by decide +kernel
theorem dX4_init_20 : decode cX4_init 20 = .ok (.putfield 19, 3) := by decide +kernel
theorem dX4_init_23 : decode cX4_init 23 = .ok (.aload_n 0, 1) := by decide +kernel
theorem dX4_init_24 : decode cX4_init 24 = .ok (.iconst 1, 1) := by decide +kernel
theorem dX4_init_25 : decode cX4_init 25 = .ok (.putfield 22, 3) := by decide +kernel
theorem dX4_init_28 : decode cX4_init 28 = .ok (.return_, 1) := by decide +kernel
theorem dX5_init_0 : decode cX5_init 0 = .ok (.aload_n 0, 1) := by decide +kernel
theorem dX5_init_1 : decode cX5_init 1 = .ok (.invokespecial 3, 3) := by decide +kernel
theorem dX5_init_4 : decode cX5_init 4 = .ok (.aload_n 0, 1) := by decide +kernel
theorem dX5_init_5 : decode cX5_init 5 = .ok (.bipush 64, 2) := by decide +kernel
theorem dX5_init_7 : decode cX5_init 7 = .ok (.newarray .int, 2) := by decide +kernel
theorem dX5_init_9 : decode cX5_init 9 = .ok (.putfield 9, 3) := by decide +kernel
theorem dX5_init_12 : decode cX5_init 12 = .ok (.aload_n 0, 1) := by decide +kernel
theorem dX5_init_13 : decode cX5_init 13 = .ok (.bipush 64, 2) := by decide +kernel
theorem dX5_init_15 : decode cX5_init 15 = .ok (.newarray .int, 2) := by decide +kernel
theorem dX5_init_17 : decode cX5_init 17 = .ok (.putfield 15, 3) := by decide +kernel
theorem dX5_init_20 : decode cX5_init 20 = .ok (.aload_n 0, 1) := by decide +kernel
theorem dX5_init_21 : decode cX5_init 21 = .ok (.bipush 64, 2) := by decide +kernel
theorem dX5_init_23 : decode cX5_init 23 = .ok (.newarray .int, 2) := by decide +kernel
theorem dX5_init_25 : decode cX5_init 25 = .ok (.putfield 18, 3) := by decide +kernel
theorem dX5_init_28 : decode cX5_init 28 = .ok (.aload_n 0, 1) := by decide +kernel
theorem dX5_init_29 : decode cX5_init 29 = .ok (.bipush 64, 2) := by decide +kernel
theorem dX5_init_31 : decode cX5_init 31 = .ok (.newarray .int, 2) := by decide +kernel
theorem dX5_init_33 : decode cX5_init 33 = .ok (.putfield 21, 3) := by decide +kernel
theorem dX5_init_36 : decode cX5_init 36 = .ok (.aload_n 0, 1) := by decide +kernel
theorem dX5_init_37 : decode cX5_init 37 = .ok (.getfield 9, 3) := by decide +kernel
theorem dX5_init_40 : decode cX5_init 40 = .ok (.iconst (-1), 1) := by decide +kernel
theorem dX5_init_41 : decode cX5_init 41 = .ok (.invokestatic 24, 3) := by decide +kernel
theorem dX5_init_44 : decode cX5_init 44 = .ok (.return_, 1) := by decide +kernel
theorem dX6_init_0 : decode cX6_init 0 = .ok (.aload_n 0, 1) := by decide +kernel
theorem dX6_init_1 : decode cX6_init 1 = .ok (.invokespecial 3, 3) := by decide +kernel
theorem dX6_init_4 : decode cX6_init 4 = .ok (.aload_n 0, 1) := by decide +kernel
theorem dX6_init_5 : decode cX6_init 5 = .ok (.sipush 3800, 3) := by decide +kernel
theorem dX6_init_8 : decode cX6_init 8 = .ok (.newarray .int, 2) := by decide +kernel
theorem dX6_init_10 : decode cX6_init 10 = .ok (.putfield 9, 3) := by decide +kernel
theorem dX6_init_13 : decode cX6_init 13 = .ok (.aload_n 0, 1) := by decide +kernel
theorem dX6_init_14 : decode cX6_init 14 = .ok (.sipush 3800, 3) := by decide +kernel
theorem dX6_init_17 : decode cX6_init 17 = .ok (.newarray .int, 2) := by decide +kernel
theorem dX6_init_19 : decode cX6_init 19 = .ok (.putfield 15, 3) := by decide +kernel
theorem dX6_init_22 : decode cX6_init 22 = .ok (.aload_n 0, 1) := by decide +kernel
theorem dX6_init_23 : decode cX6_init 23 = .ok (.sipush 3800, 3) := by decide +kernel
theorem dX6_init_26 : decode cX6_init 26 = .ok (.newarray .int, 2) := by decide +kernel
theorem dX6_init_28 : decode cX6_init 28 = .ok (.putfield 18, 3) := by decide +kernel
theorem dX6_init_31 : decode cX6_init 31 = .ok (.aload_n 0, 1) := by decide +kernel
theorem dX6_init_32 : decode cX6_init 32 = .ok (.sipush 3800, 3) := by decide +kernel
theorem dX6_init_35 : decode cX6_init 35 = .ok (.newarray .int, 2) := by decide +kernel
theorem dX6_init_37 : decode cX6_init 37 = .ok (.putfield 21, 3) := by decide +kernel
theorem dX6_init_40 : decode cX6_init 40 = .ok (.aload_n 0, 1) := by decide +kernel
theorem dX6_init_41 : decode cX6_init 41 = .ok (.sipush 3800, 3) := by decide +kernel
theorem dX6_init_44 : decode cX6_init 44 = .ok (.newarray .int, 2) := by decide +kernel
theorem dX6_init_46 : decode cX6_init 46 = .ok (.putfield 24, 3) := by decide +kernel
theorem dX6_init_49 : decode cX6_init 49 = .ok (.aload_n 0, 1) := by decide +kernel
theorem dX6_init_50 : decode cX6_init 50 = .ok (.sipush 3800, 3) := by decide +kernel
theorem dX6_init_53 : decode cX6_init 53 = .ok (.newarray .int, 2) := by decide +kernel
theorem dX6_init_55 : decode cX6_init 55 = .ok (.putfield 27, 3) := by decide +kernel
theorem dX6_init_58 : decode cX6_init 58 = .ok (.aload_n 0, 1) := by decide +kernel
theorem dX6_init_59 : decode cX6_init 59 = .ok (.sipush 3800, 3) := by decide +kernel
theorem dX6_init_62 : decode cX6_init 62 = .ok (.newarray .int, 2) := by decide +kernel
theorem dX6_init_64 : decode cX6_init 64 = .ok (.putfield 30, 3) := by decide +kernel
theorem dX6_init_67 : decode cX6_init 67 = .ok (.aload_n 0, 1) := by decide +kernel
theorem dX6_init_68 : decode cX6_init 68 = .ok (.sipush 3800, 3) := by decide +kernel
theorem dX6_init_71 : decode cX6_init 71 = .ok (.newarray .int, 2) := by decide +kernel
theorem dX6_init_73 : decode cX6_init 73 = .ok (.putfield 33, 3) := by decide +kernel
theorem dX6_init_76 : decode cX6_init 76 = .ok (.aload_n 0, 1) := by decide +kernel
theorem dX6_init_77 : decode cX6_init 77 = .ok (.sipush 3800, 3) := by decide +kernel
theorem dX6_init_80 : decode cX6_init 80 = .ok (.newarray .int, 2) := by decide +kernel
theorem dX6_init_82 : decode cX6_init 82 = .ok (.putfield 36, 3) := by decide +kernel
theorem dX6_init_85 : decode cX6_init 85 = .ok (.aload_n 0, 1) := by decide +kernel
theorem dX6_init_86 : decode cX6_init 86 = .ok (.sipush 3800, 3) := by decide +kernel
theorem dX6_init_89 : decode cX6_init 89 = .ok (.newarray .int, 2) := by decide +kernel
theorem dX6_init_91 : decode cX6_init 91 = .ok (.putfield 39, 3) := by decide +kernel
theorem dX6_init_94 : decode cX6_init 94 = .ok (.aload_n 0, 1) := by decide +kernel
theorem dX6_init_95 : decode cX6_init 95 = .ok (.bipush 40, 2) := by decide +kernel
theorem dX6_init_97 : decode cX6_init 97 = .ok (.newarray .int, 2) := by decide +kernel
theorem dX6_init_99 : decode cX6_init 99 = .ok (.putfield 42, 3) := by decide +kernel
theorem dX6_init_102 : decode cX6_init 102 = .ok (.aload_n 0, 1) := by decide +kernel
theorem dX6_init_103 : decode cX6_init 103 = .ok (.iconst 0, 1) := by decide +kernel
theorem dX6_init_104 : decode cX6_init 104 = .ok (.putfield 45, 3) := by decide +kernel
theorem dX6_init_107 : decode cX6_init 107 = .ok (.aload_n 0, 1) := by decide +kernel
theorem dX6_init_108 : decode cX6_init 108 = .ok (.getfield 42, 3) := by decide +kernel
theorem dX6_init_111 : decode cX6_init 111 = .ok (.iconst (-1), 1) := by decide +kernel
theorem dX6_init_112 : decode cX6_init 112 = .ok (.invokestatic 49, 3) := by decide +kernel
theorem dX6_init_115 : decode cX6_init 115 = .ok (.return_, 1) := by decide +kernel
theorem dX7_init_0 : decode cX7_init 0 = .ok (.aload_n 0, 1) := by decide +kernel
theorem dX7_init_1 : decode cX7_init 1 = .ok (.invokespecial 3, 3) := by decide +kernel
theorem dX7_init_4 : decode cX7_init 4 = .ok (.aload_n 0, 1) := by decide +kernel
theorem dX7_init_5 : decode cX7_init 5 = .ok (.new 9, 3) := by decide +kernel
theorem dX7_init_8 : decode cX7_init 8 = .ok (.dup, 1) := by decide +kernel
theorem dX7_init_9 : decode cX7_init 9 = .ok (.invokespecial 11, 3) := by decide +kernel
theorem dX7_init_12 : decode cX7_init 12 = .ok (.putfield 12, 3) := by decide +kernel
theorem dX7_init_15 : decode cX7_init 15 = .ok (.aload_n 0, 1) := by decide +kernel
theorem dX7_init_16 : decode cX7_init 16 = .ok (.new 18, 3) := by decide +kernel
theorem dX7_init_19 : decode cX7_init 19 = .ok (.dup, 1) := by decide +kernel
theorem dX7_init_20 : decode cX7_init 20 = .ok (.invokespecial 20, 3) := by decide +kernel
theorem dX7_init_23 : decode cX7_init 23 = .ok (.putfield 21, 3) := by decide +kernel
theorem dX7_init_26 : decode cX7_init 26 = .ok (.aload_n 0, 1) := by decide +kernel
theorem dX7_init_27 : decode cX7_init 27 = .ok (.new 25, 3) := by decide +kernel
theorem dX7_init_30 : decode cX7_init 30 = .ok (.dup, 1) := by decide +kernel
theorem dX7_init_31 : decode cX7_init 31 = .ok (.invokespecial 27, 3) := by decide +kernel
theorem dX7_init_34 : decode cX7_init 34 = .ok (.putfield 28, 3) := by decide +kernel
theorem dX7_init_37 : decode cX7_init 37 = .ok (.aload_n 0, 1) := by decide +kernel
theorem dX7_init_38 : decode cX7_init 38 = .ok (.new 32, 3) := by decide +kernel
theorem dX7_init_41 : decode cX7_init 41 = .ok (.dup, 1) := by decide +kernel
theorem dX7_init_42 : decode cX7_init 42 = .ok (.invokespecial 34, 3) := by decide +kernel
theorem dX7_init_45 : decode cX7_init 45 = .ok (.putfield 35, 3) := by decide +kernel
theorem dX7_init_48 : decode cX7_init 48 = .ok (.aload_n 0, 1) := by decide +kernel
theorem dX7_init_49 : decode cX7_init 49 = .ok (.new 39, 3) := by decide +kernel
theorem dX7_init_52 : decode cX7_init 52 = .ok (.dup, 1) := by decide +kernel
theorem dX7_init_53 : decode cX7_init 53 = .ok (.invokespecial 41, 3) := by decide +kernel
theorem dX7_init_56 : decode cX7_init 56 = .ok (.putfield 42, 3) := by decide +kernel
theorem dX7_init_59 : decode cX7_init 59 = .ok (.aload_n 0, 1) := by decide +kernel
theorem dX7_init_60 : decode cX7_init 60 = .ok (.sipush 3001, 3) := by decide +kernel
theorem dX7_init_63 : decode cX7_init 63 = .ok (.newarray .int, 2) := by decide +kernel
theorem dX7_init_65 : decode cX7_init 65 = .ok (.putfield 46, 3) := by decide +kernel
theorem dX7_init_68 : decode cX7_init 68 = .ok (.aload_n 0, 1) := by decide +kernel
theorem dX7_init_69 : decode cX7_init 69 = .ok (.sipush 3001, 3) := by decide +kernel
theorem dX7_init_72 : decode cX7_init 72 = .ok (.newarray .int, 2) := by decide +kernel
theorem dX7_init_74 : decode cX7_init 74 = .ok (.putfield 50, 3) := by decide +kernel
theorem dX7_init_77 : decode cX7_init 77 = .ok (.aload_n 0, 1) := by decide +kernel
theorem dX7_init_78 : decode cX7_init 78 = .ok (.sipush 3001, 3) := by decide +kernel
theorem dX7_init_81 : decode cX7_init 81 = .ok (.newarray .int, 2) := by decide +kernel
theorem dX7_init_83 : decode cX7_init 83 = .ok (.putfield 53, 3) := by decide +kernel
theorem dX7_init_86 : decode cX7_init 86 = .ok (.aload_n 0, 1) := by decide +kernel
theorem dX7_init_87 : decode cX7_init 87 = .ok (.sipush 3001, 3) := by decide +kernel
theorem dX7_init_90 : decode cX7_init 90 = .ok (.newarray .int, 2) := by decide +kernel
theorem dX7_init_92 : decode cX7_init 92 = .ok (.putfield 56, 3) := by decide +kernel
theorem dX7_init_95 : decode cX7_init 95 = .ok (.aload_n 0, 1) := by decide +kernel
theorem dX7_init_96 : decode cX7_init 96 = .ok (.iconst 0, 1) := by decide +kernel
theorem dX7_init_97 : decode cX7_init 97 = .ok (.putfield 59, 3) := by decide +kernel
theorem dX7_init_100 : decode cX7_init 100 = .ok (.aload_n 0, 1) := by decide +kernel
theorem dX7_init_101 : decode cX7_init 101 = .ok (.iconst 0, 1) := by decide +kernel
theorem dX7_init_102 : decode cX7_init 102 = .ok (.putfield 63, 3) := by decide +kernel
theorem dX7_init_105 : decode cX7_init 105 = .ok (.aload_n 0, 1) := by decide +kernel
theorem dX7_init_106 : decode cX7_init 106 = .ok (.iconst (-1), 1) := by decide +kernel
theorem dX7_init_107 : decode cX7_init 107 = .ok (.putfield 66, 3) := by decide +kernel
theorem dX7_init_110 : decode cX7_init 110 = .ok (.aload_n 0, 1) := by decide +kernel
theorem dX7_init_111 : decode cX7_init 111 = .ok (.iconst 0, 1) := by decide +kernel
theorem dX7_init_112 : decode cX7_init 112 = .ok (.putfield 69, 3) := by decide +kernel
theorem dX7_init_115 : decode cX7_init 115 = .ok (.aload_n 0, 1) := by decide +kernel
theorem dX7_init_116 : decode cX7_init 116 = .ok (.iconst 0, 1) := by decide +kernel
theorem dX7_init_117 : decode cX7_init 117 = .ok (.putfield 72, 3) := by decide +kernel
theorem dX7_init_120 : decode cX7_init 120 = .ok (.aload_n 0, 1) := by decide +kernel
theorem dX7_init_121 : decode cX7_init 121 = .ok (.iconst 0, 1) := by decide +kernel
theorem dX7_init_122 : decode cX7_init 122 = .ok (.putfield 75, 3) := by decide +kernel
theorem dX7_init_125 : decode cX7_init 125 = .ok (.return_, 1) := by decide +kernel
def shL_Program : List rg_S := [.inl (5, [3, 4, 5, 6]), .inr (.inl (0, 64)), .inr (.inl (0, 64)), .inr (.inl (0, 64)), .inr (.inl (0, 64))]
def uL_Program : rg_U := (sFill rg_Z 1 64 (-1))
set_option maxHeartbeats 4000000 in
set_option maxRecDepth 100000 in
theorem ki_X5_init {gs : List String} {ro : pm_RO} {w : Nat → va_E} {b : Nat} (hb6 : b + 10 < 1000000) (hR : rg [.inl (5, [1, 1, 1, 1])] b rg_Z (b + 1) w) : pm_Met gs ro M_X5_init 1 4 256 [.ref (b + 0)] (b + 1) w (fun rr n1 w1 => rr = none ∧ n1 = b + 5 ∧ rg shL_Program b uL_Program (b + 5) w1 ∧ ∀ k, k < b → w1 k = w k) := by
  refine pm_ofX in_X5_init (Nat.le_of_ble_eq_true rfl) rfl (L := [some (.ref (b + 0))]) rfl ?_
  refine pm_aload_n dX5_init_0 rfl ?_
  refine pm_obj (M := M_X5_init) dX5_init_1 oi_X5 oi_2 oi_3 (by decide) (Nat.le_of_ble_eq_true rfl) ?_
  refine pm_aload_n dX5_init_4 rfl ?_
  refine pm_bipush (v := 64) dX5_init_5 (by decide) ?_
  refine rg_newi (M := M_X5_init) (len := 1) (sh' := [.inl (5, [1, 1, 1, 1]), .inr (.inl (0, 64))]) hR dX5_init_7 ac_int (by decide) (N := 64) (by decide) (Nat.le_of_ble_eq_true rfl) (Nat.le_of_ble_eq_true rfl) (Nat.le_of_ble_eq_true rfl) rfl rfl (by omega) rfl rfl (fun w1 hR2 hq3 => ?_)
  have hb4 : ∀ k, k < b → w1 k = w k := fun k hk => (hq3 k hk).trans ((fun _ _ => rfl) k hk)
  refine rg_pr (M := M_X5_init) (j := 0) (o := 1) (sh' := [.inl (5, [3, 1, 1, 1]), .inr (.inl (0, 64))]) hR2 dX5_init_9 fl_X5_9 rfl (fun r q => by cases q; rfl) rfl (by decide) (fun _ => rfl) (fun _ => rfl) rfl (fun w5 hR6 hq7 => ?_)
  have hb8 : ∀ k, k < b → w5 k = w k := fun k hk => (hq7 k hk).trans (hb4 k hk)
  refine pm_aload_n dX5_init_12 rfl ?_
  refine pm_bipush (v := 64) dX5_init_13 (by decide) ?_
  refine rg_newi (M := M_X5_init) (len := 2) (sh' := [.inl (5, [3, 1, 1, 1]), .inr (.inl (0, 64)), .inr (.inl (0, 64))]) hR6 dX5_init_15 ac_int (by decide) (N := 64) (by decide) (Nat.le_of_ble_eq_true rfl) (Nat.le_of_ble_eq_true rfl) (Nat.le_of_ble_eq_true rfl) rfl rfl (by omega) rfl rfl (fun w9 hR10 hq11 => ?_)
  have hb12 : ∀ k, k < b → w9 k = w k := fun k hk => (hq11 k hk).trans (hb8 k hk)
  refine rg_pr (M := M_X5_init) (j := 0) (o := 2) (sh' := [.inl (5, [3, 4, 1, 1]), .inr (.inl (0, 64)), .inr (.inl (0, 64))]) hR10 dX5_init_17 fl_X5_15 rfl (fun r q => by cases q; rfl) rfl (by decide) (fun _ => rfl) (fun _ => rfl) rfl (fun w13 hR14 hq15 => ?_)
  have hb16 : ∀ k, k < b → w13 k = w k := fun k hk => (hq15 k hk).trans (hb12 k hk)
  refine pm_aload_n dX5_init_20 rfl ?_
  refine pm_bipush (v := 64) dX5_init_21 (by decide) ?_
  refine rg_newi (M := M_X5_init) (len := 3) (sh' := [.inl (5, [3, 4, 1, 1]), .inr (.inl (0, 64)), .inr (.inl (0, 64)), .inr (.inl (0, 64))]) hR14 dX5_init_23 ac_int (by decide) (N := 64) (by decide) (Nat.le_of_ble_eq_true rfl) (Nat.le_of_ble_eq_true rfl) (Nat.le_of_ble_eq_true rfl) rfl rfl (by omega) rfl rfl (fun w17 hR18 hq19 => ?_)
  have hb20 : ∀ k, k < b → w17 k = w k := fun k hk => (hq19 k hk).trans (hb16 k hk)
  refine rg_pr (M := M_X5_init) (j := 0) (o := 3) (sh' := [.inl (5, [3, 4, 5, 1]), .inr (.inl (0, 64)), .inr (.inl (0, 64)), .inr (.inl (0, 64))]) hR18 dX5_init_25 fl_X5_18 rfl (fun r q => by cases q; rfl) rfl (by decide) (fun _ => rfl) (fun _ => rfl) rfl (fun w21 hR22 hq23 => ?_)
  have hb24 : ∀ k, k < b → w21 k = w k := fun k hk => (hq23 k hk).trans (hb20 k hk)
  refine pm_aload_n dX5_init_28 rfl ?_
  refine pm_bipush (v := 64) dX5_init_29 (by decide) ?_
  refine rg_newi (M := M_X5_init) (len := 4) (sh' := [.inl (5, [3, 4, 5, 1]), .inr (.inl (0, 64)), .inr (.inl (0, 64)), .inr (.inl (0, 64)), .inr (.inl (0, 64))]) hR22 dX5_init_31 ac_int (by decide) (N := 64) (by decide) (Nat.le_of_ble_eq_true rfl) (Nat.le_of_ble_eq_true rfl) (Nat.le_of_ble_eq_true rfl) rfl rfl (by omega) rfl rfl (fun w25 hR26 hq27 => ?_)
  have hb28 : ∀ k, k < b → w25 k = w k := fun k hk => (hq27 k hk).trans (hb24 k hk)
  refine rg_pr (M := M_X5_init) (j := 0) (o := 4) (sh' := [.inl (5, [3, 4, 5, 6]), .inr (.inl (0, 64)), .inr (.inl (0, 64)), .inr (.inl (0, 64)), .inr (.inl (0, 64))]) hR26 dX5_init_33 fl_X5_21 rfl (fun r q => by cases q; rfl) rfl (by decide) (fun _ => rfl) (fun _ => rfl) rfl (fun w29 hR30 hq31 => ?_)
  have hb32 : ∀ k, k < b → w29 k = w k := fun k hk => (hq31 k hk).trans (hb28 k hk)
  refine pm_aload_n dX5_init_36 rfl ?_
  refine rg_gr (M := M_X5_init) (j := 0) (o := 1) hR30 dX5_init_37 fl_X5_9 rfl rfl ?_
  refine pm_iconst (v := (-1)) dX5_init_40 (by decide) ?_
  refine pm_callS (M := M_X5_init) (Mc := M_J7_fill_53178) (dc := 0) (mcc := 0) (msc := 0) (As := [.ref (b + 1), .int (-1)]) (st := []) dX5_init_41 ml_X5_24 (fun _ _ q => q) (by decide) (Nat.le_of_ble_eq_true rfl) (Nat.le_of_ble_eq_true rfl) (Nat.le_of_ble_eq_true rfl) rfl (k_J7_fill_53178 (F := 10000) (N0 := 64) hR30 rfl (g_fill_eq (Nat.le_of_ble_eq_true rfl) (Nat.le_of_ble_eq_true rfl))) (fun r n1 w33 hq _ => ?_)
  obtain ⟨rfl, rfl, hR34, hq35⟩ := hq
  simp only [Option.toList, List.nil_append]
  have hb36 : ∀ k, k < b → w33 k = w k := fun k hk => (hq35 k (Or.inl hk)).trans (hb32 k hk)
  exact pm_vret dX5_init_44 rfl (Nat.le_of_ble_eq_true rfl) (Nat.le_of_ble_eq_true rfl) ⟨rfl, rfl, hR34, hb36⟩
def shL_Outside : List rg_S := [.inl (4, [3, 0, 0, 0]), .inr (.inl (0, 900))]
def uL_Outside : rg_U := (rg_F (rg_F (rg_F rg_Z 1 0) 2 0) 3 1)
set_option maxHeartbeats 4000000 in
set_option maxRecDepth 100000 in
theorem ki_X4_init {gs : List String} {ro : pm_RO} {w : Nat → va_E} {b : Nat} (hb6 : b + 7 < 1000000) (hR : rg [.inl (4, [1, 0, 0, 0])] b rg_Z (b + 1) w) : pm_Met gs ro M_X4_init 1 1 900 [.ref (b + 0)] (b + 1) w (fun rr n1 w1 => rr = none ∧ n1 = b + 2 ∧ rg shL_Outside b uL_Outside (b + 2) w1 ∧ ∀ k, k < b → w1 k = w k) := by
  refine pm_ofX in_X4_init (Nat.le_of_ble_eq_true rfl) rfl (L := [some (.ref (b + 0))]) rfl ?_
  refine pm_aload_n dX4_init_0 rfl ?_
  refine pm_obj (M := M_X4_init) dX4_init_1 oi_X4 oi_2 oi_3 (by decide) (Nat.le_of_ble_eq_true rfl) ?_
  refine pm_aload_n dX4_init_4 rfl ?_
  refine pm_sipush (v := 900) dX4_init_5 (by decide) ?_
  refine rg_newi (M := M_X4_init) (len := 1) (sh' := [.inl (4, [1, 0, 0, 0]), .inr (.inl (0, 900))]) hR dX4_init_8 ac_int (by decide) (N := 900) (by decide) (Nat.le_of_ble_eq_true rfl) (Nat.le_of_ble_eq_true rfl) (Nat.le_of_ble_eq_true rfl) rfl rfl (by omega) rfl rfl (fun w1 hR2 hq3 => ?_)
  have hb4 : ∀ k, k < b → w1 k = w k := fun k hk => (hq3 k hk).trans ((fun _ _ => rfl) k hk)
  refine rg_pr (M := M_X4_init) (j := 0) (o := 1) (sh' := [.inl (4, [3, 0, 0, 0]), .inr (.inl (0, 900))]) hR2 dX4_init_10 fl_X4_9 rfl (fun r q => by cases q; rfl) rfl (by decide) (fun _ => rfl) (fun _ => rfl) rfl (fun w5 hR6 hq7 => ?_)
  have hb8 : ∀ k, k < b → w5 k = w k := fun k hk => (hq7 k hk).trans (hb4 k hk)
  refine pm_aload_n dX4_init_13 rfl ?_
  refine pm_iconst (v := 0) dX4_init_14 (by decide) ?_
  refine rg_pi (M := M_X4_init) (j := 0) hR6 dX4_init_15 fl_X4_15 rfl rfl (fun w9 hR10 hq11 => ?_)
  have hb12 : ∀ k, k < b → w9 k = w k := fun k hk => (hq11 k (Or.inl hk)).trans (hb8 k hk)
  refine pm_aload_n dX4_init_18 rfl ?_
  refine pm_iconst (v := 0) dX4_init_19 (by decide) ?_
  refine rg_pi (M := M_X4_init) (j := 0) hR10 dX4_init_20 fl_X4_19 rfl rfl (fun w13 hR14 hq15 => ?_)
  have hb16 : ∀ k, k < b → w13 k = w k := fun k hk => (hq15 k (Or.inl hk)).trans (hb12 k hk)
  refine pm_aload_n dX4_init_23 rfl ?_
  refine pm_iconst (v := 1) dX4_init_24 (by decide) ?_
  refine rg_pi (M := M_X4_init) (j := 0) hR14 dX4_init_25 fl_X4_22 rfl rfl (fun w17 hR18 hq19 => ?_)
  have hb20 : ∀ k, k < b → w17 k = w k := fun k hk => (hq19 k (Or.inl hk)).trans (hb16 k hk)
  exact pm_vret dX4_init_28 rfl (Nat.le_of_ble_eq_true rfl) (Nat.le_of_ble_eq_true rfl) ⟨rfl, rfl, hR18, hb20⟩
def shL_Log : List rg_S := [.inl (3, [3, 4, 5, 6, 7, 0]), .inr (.inl (0, 800)), .inr (.inl (0, 800)), .inr (.inl (0, 800)), .inr (.inl (0, 800)), .inr (.inl (0, 800))]
def uL_Log : rg_U := (rg_F rg_Z 5 0)
set_option maxHeartbeats 4000000 in
set_option maxRecDepth 100000 in
theorem ki_X3_init {gs : List String} {ro : pm_RO} {w : Nat → va_E} {b : Nat} (hb6 : b + 11 < 1000000) (hR : rg [.inl (3, [1, 1, 1, 1, 1, 0])] b rg_Z (b + 1) w) : pm_Met gs ro M_X3_init 1 5 4000 [.ref (b + 0)] (b + 1) w (fun rr n1 w1 => rr = none ∧ n1 = b + 6 ∧ rg shL_Log b uL_Log (b + 6) w1 ∧ ∀ k, k < b → w1 k = w k) := by
  refine pm_ofX in_X3_init (Nat.le_of_ble_eq_true rfl) rfl (L := [some (.ref (b + 0))]) rfl ?_
  refine pm_aload_n dX3_init_0 rfl ?_
  refine pm_obj (M := M_X3_init) dX3_init_1 oi_X3 oi_2 oi_3 (by decide) (Nat.le_of_ble_eq_true rfl) ?_
  refine pm_aload_n dX3_init_4 rfl ?_
  refine pm_sipush (v := 800) dX3_init_5 (by decide) ?_
  refine rg_newi (M := M_X3_init) (len := 1) (sh' := [.inl (3, [1, 1, 1, 1, 1, 0]), .inr (.inl (0, 800))]) hR dX3_init_8 ac_int (by decide) (N := 800) (by decide) (Nat.le_of_ble_eq_true rfl) (Nat.le_of_ble_eq_true rfl) (Nat.le_of_ble_eq_true rfl) rfl rfl (by omega) rfl rfl (fun w1 hR2 hq3 => ?_)
  have hb4 : ∀ k, k < b → w1 k = w k := fun k hk => (hq3 k hk).trans ((fun _ _ => rfl) k hk)
  refine rg_pr (M := M_X3_init) (j := 0) (o := 1) (sh' := [.inl (3, [3, 1, 1, 1, 1, 0]), .inr (.inl (0, 800))]) hR2 dX3_init_10 fl_X3_9 rfl (fun r q => by cases q; rfl) rfl (by decide) (fun _ => rfl) (fun _ => rfl) rfl (fun w5 hR6 hq7 => ?_)
  have hb8 : ∀ k, k < b → w5 k = w k := fun k hk => (hq7 k hk).trans (hb4 k hk)
  refine pm_aload_n dX3_init_13 rfl ?_
  refine pm_sipush (v := 800) dX3_init_14 (by decide) ?_
  refine rg_newi (M := M_X3_init) (len := 2) (sh' := [.inl (3, [3, 1, 1, 1, 1, 0]), .inr (.inl (0, 800)), .inr (.inl (0, 800))]) hR6 dX3_init_17 ac_int (by decide) (N := 800) (by decide) (Nat.le_of_ble_eq_true rfl) (Nat.le_of_ble_eq_true rfl) (Nat.le_of_ble_eq_true rfl) rfl rfl (by omega) rfl rfl (fun w9 hR10 hq11 => ?_)
  have hb12 : ∀ k, k < b → w9 k = w k := fun k hk => (hq11 k hk).trans (hb8 k hk)
  refine rg_pr (M := M_X3_init) (j := 0) (o := 2) (sh' := [.inl (3, [3, 4, 1, 1, 1, 0]), .inr (.inl (0, 800)), .inr (.inl (0, 800))]) hR10 dX3_init_19 fl_X3_15 rfl (fun r q => by cases q; rfl) rfl (by decide) (fun _ => rfl) (fun _ => rfl) rfl (fun w13 hR14 hq15 => ?_)
  have hb16 : ∀ k, k < b → w13 k = w k := fun k hk => (hq15 k hk).trans (hb12 k hk)
  refine pm_aload_n dX3_init_22 rfl ?_
  refine pm_sipush (v := 800) dX3_init_23 (by decide) ?_
  refine rg_newi (M := M_X3_init) (len := 3) (sh' := [.inl (3, [3, 4, 1, 1, 1, 0]), .inr (.inl (0, 800)), .inr (.inl (0, 800)), .inr (.inl (0, 800))]) hR14 dX3_init_26 ac_int (by decide) (N := 800) (by decide) (Nat.le_of_ble_eq_true rfl) (Nat.le_of_ble_eq_true rfl) (Nat.le_of_ble_eq_true rfl) rfl rfl (by omega) rfl rfl (fun w17 hR18 hq19 => ?_)
  have hb20 : ∀ k, k < b → w17 k = w k := fun k hk => (hq19 k hk).trans (hb16 k hk)
  refine rg_pr (M := M_X3_init) (j := 0) (o := 3) (sh' := [.inl (3, [3, 4, 5, 1, 1, 0]), .inr (.inl (0, 800)), .inr (.inl (0, 800)), .inr (.inl (0, 800))]) hR18 dX3_init_28 fl_X3_18 rfl (fun r q => by cases q; rfl) rfl (by decide) (fun _ => rfl) (fun _ => rfl) rfl (fun w21 hR22 hq23 => ?_)
  have hb24 : ∀ k, k < b → w21 k = w k := fun k hk => (hq23 k hk).trans (hb20 k hk)
  refine pm_aload_n dX3_init_31 rfl ?_
  refine pm_sipush (v := 800) dX3_init_32 (by decide) ?_
  refine rg_newi (M := M_X3_init) (len := 4) (sh' := [.inl (3, [3, 4, 5, 1, 1, 0]), .inr (.inl (0, 800)), .inr (.inl (0, 800)), .inr (.inl (0, 800)), .inr (.inl (0, 800))]) hR22 dX3_init_35 ac_int (by decide) (N := 800) (by decide) (Nat.le_of_ble_eq_true rfl) (Nat.le_of_ble_eq_true rfl) (Nat.le_of_ble_eq_true rfl) rfl rfl (by omega) rfl rfl (fun w25 hR26 hq27 => ?_)
  have hb28 : ∀ k, k < b → w25 k = w k := fun k hk => (hq27 k hk).trans (hb24 k hk)
  refine rg_pr (M := M_X3_init) (j := 0) (o := 4) (sh' := [.inl (3, [3, 4, 5, 6, 1, 0]), .inr (.inl (0, 800)), .inr (.inl (0, 800)), .inr (.inl (0, 800)), .inr (.inl (0, 800))]) hR26 dX3_init_37 fl_X3_21 rfl (fun r q => by cases q; rfl) rfl (by decide) (fun _ => rfl) (fun _ => rfl) rfl (fun w29 hR30 hq31 => ?_)
  have hb32 : ∀ k, k < b → w29 k = w k := fun k hk => (hq31 k hk).trans (hb28 k hk)
  refine pm_aload_n dX3_init_40 rfl ?_
  refine pm_sipush (v := 800) dX3_init_41 (by decide) ?_
  refine rg_newi (M := M_X3_init) (len := 5) (sh' := [.inl (3, [3, 4, 5, 6, 1, 0]), .inr (.inl (0, 800)), .inr (.inl (0, 800)), .inr (.inl (0, 800)), .inr (.inl (0, 800)), .inr (.inl (0, 800))]) hR30 dX3_init_44 ac_int (by decide) (N := 800) (by decide) (Nat.le_of_ble_eq_true rfl) (Nat.le_of_ble_eq_true rfl) (Nat.le_of_ble_eq_true rfl) rfl rfl (by omega) rfl rfl (fun w33 hR34 hq35 => ?_)
  have hb36 : ∀ k, k < b → w33 k = w k := fun k hk => (hq35 k hk).trans (hb32 k hk)
  refine rg_pr (M := M_X3_init) (j := 0) (o := 5) (sh' := [.inl (3, [3, 4, 5, 6, 7, 0]), .inr (.inl (0, 800)), .inr (.inl (0, 800)), .inr (.inl (0, 800)), .inr (.inl (0, 800)), .inr (.inl (0, 800))]) hR34 dX3_init_46 fl_X3_24 rfl (fun r q => by cases q; rfl) rfl (by decide) (fun _ => rfl) (fun _ => rfl) rfl (fun w37 hR38 hq39 => ?_)
  have hb40 : ∀ k, k < b → w37 k = w k := fun k hk => (hq39 k hk).trans (hb36 k hk)
  refine pm_aload_n dX3_init_49 rfl ?_
  refine pm_iconst (v := 0) dX3_init_50 (by decide) ?_
  refine rg_pi (M := M_X3_init) (j := 0) hR38 dX3_init_51 fl_X3_27 rfl rfl (fun w41 hR42 hq43 => ?_)
  have hb44 : ∀ k, k < b → w41 k = w k := fun k hk => (hq43 k (Or.inl hk)).trans (hb40 k hk)
  exact pm_vret dX3_init_54 rfl (Nat.le_of_ble_eq_true rfl) (Nat.le_of_ble_eq_true rfl) ⟨rfl, rfl, hR42, hb44⟩
def shL_Puts : List rg_S := [.inl (6, [3, 4, 5, 6, 7, 8, 9, 10, 11, 12, 13, 0]), .inr (.inl (0, 3800)), .inr (.inl (0, 3800)), .inr (.inl (0, 3800)), .inr (.inl (0, 3800)), .inr (.inl (0, 3800)), .inr (.inl (0, 3800)), .inr (.inl (0, 3800)), .inr (.inl (0, 3800)), .inr (.inl (0, 3800)), .inr (.inl (0, 3800)), .inr (.inl (0, 40))]
def uL_Puts : rg_U := (sFill (rg_F rg_Z 11 0) 11 40 (-1))
set_option maxHeartbeats 4000000 in
set_option maxRecDepth 100000 in
theorem ki_X6_init {gs : List String} {ro : pm_RO} {w : Nat → va_E} {b : Nat} (hb6 : b + 17 < 1000000) (hR : rg [.inl (6, [1, 1, 1, 1, 1, 1, 1, 1, 1, 1, 1, 0])] b rg_Z (b + 1) w) : pm_Met gs ro M_X6_init 1 11 38040 [.ref (b + 0)] (b + 1) w (fun rr n1 w1 => rr = none ∧ n1 = b + 12 ∧ rg shL_Puts b uL_Puts (b + 12) w1 ∧ ∀ k, k < b → w1 k = w k) := by
  refine pm_ofX in_X6_init (Nat.le_of_ble_eq_true rfl) rfl (L := [some (.ref (b + 0))]) rfl ?_
  refine pm_aload_n dX6_init_0 rfl ?_
  refine pm_obj (M := M_X6_init) dX6_init_1 oi_X6 oi_2 oi_3 (by decide) (Nat.le_of_ble_eq_true rfl) ?_
  refine pm_aload_n dX6_init_4 rfl ?_
  refine pm_sipush (v := 3800) dX6_init_5 (by decide) ?_
  refine rg_newi (M := M_X6_init) (len := 1) (sh' := [.inl (6, [1, 1, 1, 1, 1, 1, 1, 1, 1, 1, 1, 0]), .inr (.inl (0, 3800))]) hR dX6_init_8 ac_int (by decide) (N := 3800) (by decide) (Nat.le_of_ble_eq_true rfl) (Nat.le_of_ble_eq_true rfl) (Nat.le_of_ble_eq_true rfl) rfl rfl (by omega) rfl rfl (fun w1 hR2 hq3 => ?_)
  have hb4 : ∀ k, k < b → w1 k = w k := fun k hk => (hq3 k hk).trans ((fun _ _ => rfl) k hk)
  refine rg_pr (M := M_X6_init) (j := 0) (o := 1) (sh' := [.inl (6, [3, 1, 1, 1, 1, 1, 1, 1, 1, 1, 1, 0]), .inr (.inl (0, 3800))]) hR2 dX6_init_10 fl_X6_9 rfl (fun r q => by cases q; rfl) rfl (by decide) (fun _ => rfl) (fun _ => rfl) rfl (fun w5 hR6 hq7 => ?_)
  have hb8 : ∀ k, k < b → w5 k = w k := fun k hk => (hq7 k hk).trans (hb4 k hk)
  refine pm_aload_n dX6_init_13 rfl ?_
  refine pm_sipush (v := 3800) dX6_init_14 (by decide) ?_
  refine rg_newi (M := M_X6_init) (len := 2) (sh' := [.inl (6, [3, 1, 1, 1, 1, 1, 1, 1, 1, 1, 1, 0]), .inr (.inl (0, 3800)), .inr (.inl (0, 3800))]) hR6 dX6_init_17 ac_int (by decide) (N := 3800) (by decide) (Nat.le_of_ble_eq_true rfl) (Nat.le_of_ble_eq_true rfl) (Nat.le_of_ble_eq_true rfl) rfl rfl (by omega) rfl rfl (fun w9 hR10 hq11 => ?_)
  have hb12 : ∀ k, k < b → w9 k = w k := fun k hk => (hq11 k hk).trans (hb8 k hk)
  refine rg_pr (M := M_X6_init) (j := 0) (o := 2) (sh' := [.inl (6, [3, 4, 1, 1, 1, 1, 1, 1, 1, 1, 1, 0]), .inr (.inl (0, 3800)), .inr (.inl (0, 3800))]) hR10 dX6_init_19 fl_X6_15 rfl (fun r q => by cases q; rfl) rfl (by decide) (fun _ => rfl) (fun _ => rfl) rfl (fun w13 hR14 hq15 => ?_)
  have hb16 : ∀ k, k < b → w13 k = w k := fun k hk => (hq15 k hk).trans (hb12 k hk)
  refine pm_aload_n dX6_init_22 rfl ?_
  refine pm_sipush (v := 3800) dX6_init_23 (by decide) ?_
  refine rg_newi (M := M_X6_init) (len := 3) (sh' := [.inl (6, [3, 4, 1, 1, 1, 1, 1, 1, 1, 1, 1, 0]), .inr (.inl (0, 3800)), .inr (.inl (0, 3800)), .inr (.inl (0, 3800))]) hR14 dX6_init_26 ac_int (by decide) (N := 3800) (by decide) (Nat.le_of_ble_eq_true rfl) (Nat.le_of_ble_eq_true rfl) (Nat.le_of_ble_eq_true rfl) rfl rfl (by omega) rfl rfl (fun w17 hR18 hq19 => ?_)
  have hb20 : ∀ k, k < b → w17 k = w k := fun k hk => (hq19 k hk).trans (hb16 k hk)
  refine rg_pr (M := M_X6_init) (j := 0) (o := 3) (sh' := [.inl (6, [3, 4, 5, 1, 1, 1, 1, 1, 1, 1, 1, 0]), .inr (.inl (0, 3800)), .inr (.inl (0, 3800)), .inr (.inl (0, 3800))]) hR18 dX6_init_28 fl_X6_18 rfl (fun r q => by cases q; rfl) rfl (by decide) (fun _ => rfl) (fun _ => rfl) rfl (fun w21 hR22 hq23 => ?_)
  have hb24 : ∀ k, k < b → w21 k = w k := fun k hk => (hq23 k hk).trans (hb20 k hk)
  refine pm_aload_n dX6_init_31 rfl ?_
  refine pm_sipush (v := 3800) dX6_init_32 (by decide) ?_
  refine rg_newi (M := M_X6_init) (len := 4) (sh' := [.inl (6, [3, 4, 5, 1, 1, 1, 1, 1, 1, 1, 1, 0]), .inr (.inl (0, 3800)), .inr (.inl (0, 3800)), .inr (.inl (0, 3800)), .inr (.inl (0, 3800))]) hR22 dX6_init_35 ac_int (by decide) (N := 3800) (by decide) (Nat.le_of_ble_eq_true rfl) (Nat.le_of_ble_eq_true rfl) (Nat.le_of_ble_eq_true rfl) rfl rfl (by omega) rfl rfl (fun w25 hR26 hq27 => ?_)
  have hb28 : ∀ k, k < b → w25 k = w k := fun k hk => (hq27 k hk).trans (hb24 k hk)
  refine rg_pr (M := M_X6_init) (j := 0) (o := 4) (sh' := [.inl (6, [3, 4, 5, 6, 1, 1, 1, 1, 1, 1, 1, 0]), .inr (.inl (0, 3800)), .inr (.inl (0, 3800)), .inr (.inl (0, 3800)), .inr (.inl (0, 3800))]) hR26 dX6_init_37 fl_X6_21 rfl (fun r q => by cases q; rfl) rfl (by decide) (fun _ => rfl) (fun _ => rfl) rfl (fun w29 hR30 hq31 => ?_)
  have hb32 : ∀ k, k < b → w29 k = w k := fun k hk => (hq31 k hk).trans (hb28 k hk)
  refine pm_aload_n dX6_init_40 rfl ?_
  refine pm_sipush (v := 3800) dX6_init_41 (by decide) ?_
  refine rg_newi (M := M_X6_init) (len := 5) (sh' := [.inl (6, [3, 4, 5, 6, 1, 1, 1, 1, 1, 1, 1, 0]), .inr (.inl (0, 3800)), .inr (.inl (0, 3800)), .inr (.inl (0, 3800)), .inr (.inl (0, 3800)), .inr (.inl (0, 3800))]) hR30 dX6_init_44 ac_int (by decide) (N := 3800) (by decide) (Nat.le_of_ble_eq_true rfl) (Nat.le_of_ble_eq_true rfl) (Nat.le_of_ble_eq_true rfl) rfl rfl (by omega) rfl rfl (fun w33 hR34 hq35 => ?_)
  have hb36 : ∀ k, k < b → w33 k = w k := fun k hk => (hq35 k hk).trans (hb32 k hk)
  refine rg_pr (M := M_X6_init) (j := 0) (o := 5) (sh' := [.inl (6, [3, 4, 5, 6, 7, 1, 1, 1, 1, 1, 1, 0]), .inr (.inl (0, 3800)), .inr (.inl (0, 3800)), .inr (.inl (0, 3800)), .inr (.inl (0, 3800)), .inr (.inl (0, 3800))]) hR34 dX6_init_46 fl_X6_24 rfl (fun r q => by cases q; rfl) rfl (by decide) (fun _ => rfl) (fun _ => rfl) rfl (fun w37 hR38 hq39 => ?_)
  have hb40 : ∀ k, k < b → w37 k = w k := fun k hk => (hq39 k hk).trans (hb36 k hk)
  refine pm_aload_n dX6_init_49 rfl ?_
  refine pm_sipush (v := 3800) dX6_init_50 (by decide) ?_
  refine rg_newi (M := M_X6_init) (len := 6) (sh' := [.inl (6, [3, 4, 5, 6, 7, 1, 1, 1, 1, 1, 1, 0]), .inr (.inl (0, 3800)), .inr (.inl (0, 3800)), .inr (.inl (0, 3800)), .inr (.inl (0, 3800)), .inr (.inl (0, 3800)), .inr (.inl (0, 3800))]) hR38 dX6_init_53 ac_int (by decide) (N := 3800) (by decide) (Nat.le_of_ble_eq_true rfl) (Nat.le_of_ble_eq_true rfl) (Nat.le_of_ble_eq_true rfl) rfl rfl (by omega) rfl rfl (fun w41 hR42 hq43 => ?_)
  have hb44 : ∀ k, k < b → w41 k = w k := fun k hk => (hq43 k hk).trans (hb40 k hk)
  refine rg_pr (M := M_X6_init) (j := 0) (o := 6) (sh' := [.inl (6, [3, 4, 5, 6, 7, 8, 1, 1, 1, 1, 1, 0]), .inr (.inl (0, 3800)), .inr (.inl (0, 3800)), .inr (.inl (0, 3800)), .inr (.inl (0, 3800)), .inr (.inl (0, 3800)), .inr (.inl (0, 3800))]) hR42 dX6_init_55 fl_X6_27 rfl (fun r q => by cases q; rfl) rfl (by decide) (fun _ => rfl) (fun _ => rfl) rfl (fun w45 hR46 hq47 => ?_)
  have hb48 : ∀ k, k < b → w45 k = w k := fun k hk => (hq47 k hk).trans (hb44 k hk)
  refine pm_aload_n dX6_init_58 rfl ?_
  refine pm_sipush (v := 3800) dX6_init_59 (by decide) ?_
  refine rg_newi (M := M_X6_init) (len := 7) (sh' := [.inl (6, [3, 4, 5, 6, 7, 8, 1, 1, 1, 1, 1, 0]), .inr (.inl (0, 3800)), .inr (.inl (0, 3800)), .inr (.inl (0, 3800)), .inr (.inl (0, 3800)), .inr (.inl (0, 3800)), .inr (.inl (0, 3800)), .inr (.inl (0, 3800))]) hR46 dX6_init_62 ac_int (by decide) (N := 3800) (by decide) (Nat.le_of_ble_eq_true rfl) (Nat.le_of_ble_eq_true rfl) (Nat.le_of_ble_eq_true rfl) rfl rfl (by omega) rfl rfl (fun w49 hR50 hq51 => ?_)
  have hb52 : ∀ k, k < b → w49 k = w k := fun k hk => (hq51 k hk).trans (hb48 k hk)
  refine rg_pr (M := M_X6_init) (j := 0) (o := 7) (sh' := [.inl (6, [3, 4, 5, 6, 7, 8, 9, 1, 1, 1, 1, 0]), .inr (.inl (0, 3800)), .inr (.inl (0, 3800)), .inr (.inl (0, 3800)), .inr (.inl (0, 3800)), .inr (.inl (0, 3800)), .inr (.inl (0, 3800)), .inr (.inl (0, 3800))]) hR50 dX6_init_64 fl_X6_30 rfl (fun r q => by cases q; rfl) rfl (by decide) (fun _ => rfl) (fun _ => rfl) rfl (fun w53 hR54 hq55 => ?_)
  have hb56 : ∀ k, k < b → w53 k = w k := fun k hk => (hq55 k hk).trans (hb52 k hk)
  refine pm_aload_n dX6_init_67 rfl ?_
  refine pm_sipush (v := 3800) dX6_init_68 (by decide) ?_
  refine rg_newi (M := M_X6_init) (len := 8) (sh' := [.inl (6, [3, 4, 5, 6, 7, 8, 9, 1, 1, 1, 1, 0]), .inr (.inl (0, 3800)), .inr (.inl (0, 3800)), .inr (.inl (0, 3800)), .inr (.inl (0, 3800)), .inr (.inl (0, 3800)), .inr (.inl (0, 3800)), .inr (.inl (0, 3800)), .inr (.inl (0, 3800))]) hR54 dX6_init_71 ac_int (by decide) (N := 3800) (by decide) (Nat.le_of_ble_eq_true rfl) (Nat.le_of_ble_eq_true rfl) (Nat.le_of_ble_eq_true rfl) rfl rfl (by omega) rfl rfl (fun w57 hR58 hq59 => ?_)
  have hb60 : ∀ k, k < b → w57 k = w k := fun k hk => (hq59 k hk).trans (hb56 k hk)
  refine rg_pr (M := M_X6_init) (j := 0) (o := 8) (sh' := [.inl (6, [3, 4, 5, 6, 7, 8, 9, 10, 1, 1, 1, 0]), .inr (.inl (0, 3800)), .inr (.inl (0, 3800)), .inr (.inl (0, 3800)), .inr (.inl (0, 3800)), .inr (.inl (0, 3800)), .inr (.inl (0, 3800)), .inr (.inl (0, 3800)), .inr (.inl (0, 3800))]) hR58 dX6_init_73 fl_X6_33 rfl (fun r q => by cases q; rfl) rfl (by decide) (fun _ => rfl) (fun _ => rfl) rfl (fun w61 hR62 hq63 => ?_)
  have hb64 : ∀ k, k < b → w61 k = w k := fun k hk => (hq63 k hk).trans (hb60 k hk)
  refine pm_aload_n dX6_init_76 rfl ?_
  refine pm_sipush (v := 3800) dX6_init_77 (by decide) ?_
  refine rg_newi (M := M_X6_init) (len := 9) (sh' := [.inl (6, [3, 4, 5, 6, 7, 8, 9, 10, 1, 1, 1, 0]), .inr (.inl (0, 3800)), .inr (.inl (0, 3800)), .inr (.inl (0, 3800)), .inr (.inl (0, 3800)), .inr (.inl (0, 3800)), .inr (.inl (0, 3800)), .inr (.inl (0, 3800)), .inr (.inl (0, 3800)), .inr (.inl (0, 3800))]) hR62 dX6_init_80 ac_int (by decide) (N := 3800) (by decide) (Nat.le_of_ble_eq_true rfl) (Nat.le_of_ble_eq_true rfl) (Nat.le_of_ble_eq_true rfl) rfl rfl (by omega) rfl rfl (fun w65 hR66 hq67 => ?_)
  have hb68 : ∀ k, k < b → w65 k = w k := fun k hk => (hq67 k hk).trans (hb64 k hk)
  refine rg_pr (M := M_X6_init) (j := 0) (o := 9) (sh' := [.inl (6, [3, 4, 5, 6, 7, 8, 9, 10, 11, 1, 1, 0]), .inr (.inl (0, 3800)), .inr (.inl (0, 3800)), .inr (.inl (0, 3800)), .inr (.inl (0, 3800)), .inr (.inl (0, 3800)), .inr (.inl (0, 3800)), .inr (.inl (0, 3800)), .inr (.inl (0, 3800)), .inr (.inl (0, 3800))]) hR66 dX6_init_82 fl_X6_36 rfl (fun r q => by cases q; rfl) rfl (by decide) (fun _ => rfl) (fun _ => rfl) rfl (fun w69 hR70 hq71 => ?_)
  have hb72 : ∀ k, k < b → w69 k = w k := fun k hk => (hq71 k hk).trans (hb68 k hk)
  refine pm_aload_n dX6_init_85 rfl ?_
  refine pm_sipush (v := 3800) dX6_init_86 (by decide) ?_
  refine rg_newi (M := M_X6_init) (len := 10) (sh' := [.inl (6, [3, 4, 5, 6, 7, 8, 9, 10, 11, 1, 1, 0]), .inr (.inl (0, 3800)), .inr (.inl (0, 3800)), .inr (.inl (0, 3800)), .inr (.inl (0, 3800)), .inr (.inl (0, 3800)), .inr (.inl (0, 3800)), .inr (.inl (0, 3800)), .inr (.inl (0, 3800)), .inr (.inl (0, 3800)), .inr (.inl (0, 3800))]) hR70 dX6_init_89 ac_int (by decide) (N := 3800) (by decide) (Nat.le_of_ble_eq_true rfl) (Nat.le_of_ble_eq_true rfl) (Nat.le_of_ble_eq_true rfl) rfl rfl (by omega) rfl rfl (fun w73 hR74 hq75 => ?_)
  have hb76 : ∀ k, k < b → w73 k = w k := fun k hk => (hq75 k hk).trans (hb72 k hk)
  refine rg_pr (M := M_X6_init) (j := 0) (o := 10) (sh' := [.inl (6, [3, 4, 5, 6, 7, 8, 9, 10, 11, 12, 1, 0]), .inr (.inl (0, 3800)), .inr (.inl (0, 3800)), .inr (.inl (0, 3800)), .inr (.inl (0, 3800)), .inr (.inl (0, 3800)), .inr (.inl (0, 3800)), .inr (.inl (0, 3800)), .inr (.inl (0, 3800)), .inr (.inl (0, 3800)), .inr (.inl (0, 3800))]) hR74 dX6_init_91 fl_X6_39 rfl (fun r q => by cases q; rfl) rfl (by decide) (fun _ => rfl) (fun _ => rfl) rfl (fun w77 hR78 hq79 => ?_)
  have hb80 : ∀ k, k < b → w77 k = w k := fun k hk => (hq79 k hk).trans (hb76 k hk)
  refine pm_aload_n dX6_init_94 rfl ?_
  refine pm_bipush (v := 40) dX6_init_95 (by decide) ?_
  refine rg_newi (M := M_X6_init) (len := 11) (sh' := [.inl (6, [3, 4, 5, 6, 7, 8, 9, 10, 11, 12, 1, 0]), .inr (.inl (0, 3800)), .inr (.inl (0, 3800)), .inr (.inl (0, 3800)), .inr (.inl (0, 3800)), .inr (.inl (0, 3800)), .inr (.inl (0, 3800)), .inr (.inl (0, 3800)), .inr (.inl (0, 3800)), .inr (.inl (0, 3800)), .inr (.inl (0, 3800)), .inr (.inl (0, 40))]) hR78 dX6_init_97 ac_int (by decide) (N := 40) (by decide) (Nat.le_of_ble_eq_true rfl) (Nat.le_of_ble_eq_true rfl) (Nat.le_of_ble_eq_true rfl) rfl rfl (by omega) rfl rfl (fun w81 hR82 hq83 => ?_)
  have hb84 : ∀ k, k < b → w81 k = w k := fun k hk => (hq83 k hk).trans (hb80 k hk)
  refine rg_pr (M := M_X6_init) (j := 0) (o := 11) (sh' := [.inl (6, [3, 4, 5, 6, 7, 8, 9, 10, 11, 12, 13, 0]), .inr (.inl (0, 3800)), .inr (.inl (0, 3800)), .inr (.inl (0, 3800)), .inr (.inl (0, 3800)), .inr (.inl (0, 3800)), .inr (.inl (0, 3800)), .inr (.inl (0, 3800)), .inr (.inl (0, 3800)), .inr (.inl (0, 3800)), .inr (.inl (0, 3800)), .inr (.inl (0, 40))]) hR82 dX6_init_99 fl_X6_42 rfl (fun r q => by cases q; rfl) rfl (by decide) (fun _ => rfl) (fun _ => rfl) rfl (fun w85 hR86 hq87 => ?_)
  have hb88 : ∀ k, k < b → w85 k = w k := fun k hk => (hq87 k hk).trans (hb84 k hk)
  refine pm_aload_n dX6_init_102 rfl ?_
  refine pm_iconst (v := 0) dX6_init_103 (by decide) ?_
  refine rg_pi (M := M_X6_init) (j := 0) hR86 dX6_init_104 fl_X6_45 rfl rfl (fun w89 hR90 hq91 => ?_)
  have hb92 : ∀ k, k < b → w89 k = w k := fun k hk => (hq91 k (Or.inl hk)).trans (hb88 k hk)
  refine pm_aload_n dX6_init_107 rfl ?_
  refine rg_gr (M := M_X6_init) (j := 0) (o := 11) hR90 dX6_init_108 fl_X6_42 rfl rfl ?_
  refine pm_iconst (v := (-1)) dX6_init_111 (by decide) ?_
  refine pm_callS (M := M_X6_init) (Mc := M_J7_fill_53178) (dc := 0) (mcc := 0) (msc := 0) (As := [.ref (b + 11), .int (-1)]) (st := []) dX6_init_112 ml_X6_49 (fun _ _ q => q) (by decide) (Nat.le_of_ble_eq_true rfl) (Nat.le_of_ble_eq_true rfl) (Nat.le_of_ble_eq_true rfl) rfl (k_J7_fill_53178 (F := 10000) (N0 := 40) hR90 rfl (g_fill_eq (Nat.le_of_ble_eq_true rfl) (Nat.le_of_ble_eq_true rfl))) (fun r n1 w93 hq _ => ?_)
  obtain ⟨rfl, rfl, hR94, hq95⟩ := hq
  simp only [Option.toList, List.nil_append]
  have hb96 : ∀ k, k < b → w93 k = w k := fun k hk => (hq95 k (Or.inl hk)).trans (hb92 k hk)
  exact pm_vret dX6_init_115 rfl (Nat.le_of_ble_eq_true rfl) (Nat.le_of_ble_eq_true rfl) ⟨rfl, rfl, hR94, hb96⟩
def shL_Calls : List rg_S := [.inl (1, [3, 4, 5, 0]), .inr (.inl (0, 100)), .inr (.inl (0, 100)), .inr (.inl (0, 100))]
def uL_Calls : rg_U := (rg_F rg_Z 3 0)
set_option maxHeartbeats 4000000 in
set_option maxRecDepth 100000 in
theorem ki_X1_init {gs : List String} {ro : pm_RO} {w : Nat → va_E} {b : Nat} (hb6 : b + 9 < 1000000) (hR : rg [.inl (1, [1, 1, 1, 0])] b rg_Z (b + 1) w) : pm_Met gs ro M_X1_init 1 3 300 [.ref (b + 0)] (b + 1) w (fun rr n1 w1 => rr = none ∧ n1 = b + 4 ∧ rg shL_Calls b uL_Calls (b + 4) w1 ∧ ∀ k, k < b → w1 k = w k) := by
  refine pm_ofX in_X1_init (Nat.le_of_ble_eq_true rfl) rfl (L := [some (.ref (b + 0))]) rfl ?_
  refine pm_aload_n dX1_init_0 rfl ?_
  refine pm_obj (M := M_X1_init) dX1_init_1 oi_X1 oi_2 oi_3 (by decide) (Nat.le_of_ble_eq_true rfl) ?_
  refine pm_aload_n dX1_init_4 rfl ?_
  refine pm_bipush (v := 100) dX1_init_5 (by decide) ?_
  refine rg_newi (M := M_X1_init) (len := 1) (sh' := [.inl (1, [1, 1, 1, 0]), .inr (.inl (0, 100))]) hR dX1_init_7 ac_int (by decide) (N := 100) (by decide) (Nat.le_of_ble_eq_true rfl) (Nat.le_of_ble_eq_true rfl) (Nat.le_of_ble_eq_true rfl) rfl rfl (by omega) rfl rfl (fun w1 hR2 hq3 => ?_)
  have hb4 : ∀ k, k < b → w1 k = w k := fun k hk => (hq3 k hk).trans ((fun _ _ => rfl) k hk)
  refine rg_pr (M := M_X1_init) (j := 0) (o := 1) (sh' := [.inl (1, [3, 1, 1, 0]), .inr (.inl (0, 100))]) hR2 dX1_init_9 fl_X1_9 rfl (fun r q => by cases q; rfl) rfl (by decide) (fun _ => rfl) (fun _ => rfl) rfl (fun w5 hR6 hq7 => ?_)
  have hb8 : ∀ k, k < b → w5 k = w k := fun k hk => (hq7 k hk).trans (hb4 k hk)
  refine pm_aload_n dX1_init_12 rfl ?_
  refine pm_bipush (v := 100) dX1_init_13 (by decide) ?_
  refine rg_newi (M := M_X1_init) (len := 2) (sh' := [.inl (1, [3, 1, 1, 0]), .inr (.inl (0, 100)), .inr (.inl (0, 100))]) hR6 dX1_init_15 ac_int (by decide) (N := 100) (by decide) (Nat.le_of_ble_eq_true rfl) (Nat.le_of_ble_eq_true rfl) (Nat.le_of_ble_eq_true rfl) rfl rfl (by omega) rfl rfl (fun w9 hR10 hq11 => ?_)
  have hb12 : ∀ k, k < b → w9 k = w k := fun k hk => (hq11 k hk).trans (hb8 k hk)
  refine rg_pr (M := M_X1_init) (j := 0) (o := 2) (sh' := [.inl (1, [3, 4, 1, 0]), .inr (.inl (0, 100)), .inr (.inl (0, 100))]) hR10 dX1_init_17 fl_X1_15 rfl (fun r q => by cases q; rfl) rfl (by decide) (fun _ => rfl) (fun _ => rfl) rfl (fun w13 hR14 hq15 => ?_)
  have hb16 : ∀ k, k < b → w13 k = w k := fun k hk => (hq15 k hk).trans (hb12 k hk)
  refine pm_aload_n dX1_init_20 rfl ?_
  refine pm_bipush (v := 100) dX1_init_21 (by decide) ?_
  refine rg_newi (M := M_X1_init) (len := 3) (sh' := [.inl (1, [3, 4, 1, 0]), .inr (.inl (0, 100)), .inr (.inl (0, 100)), .inr (.inl (0, 100))]) hR14 dX1_init_23 ac_int (by decide) (N := 100) (by decide) (Nat.le_of_ble_eq_true rfl) (Nat.le_of_ble_eq_true rfl) (Nat.le_of_ble_eq_true rfl) rfl rfl (by omega) rfl rfl (fun w17 hR18 hq19 => ?_)
  have hb20 : ∀ k, k < b → w17 k = w k := fun k hk => (hq19 k hk).trans (hb16 k hk)
  refine rg_pr (M := M_X1_init) (j := 0) (o := 3) (sh' := [.inl (1, [3, 4, 5, 0]), .inr (.inl (0, 100)), .inr (.inl (0, 100)), .inr (.inl (0, 100))]) hR18 dX1_init_25 fl_X1_18 rfl (fun r q => by cases q; rfl) rfl (by decide) (fun _ => rfl) (fun _ => rfl) rfl (fun w21 hR22 hq23 => ?_)
  have hb24 : ∀ k, k < b → w21 k = w k := fun k hk => (hq23 k hk).trans (hb20 k hk)
  refine pm_aload_n dX1_init_28 rfl ?_
  refine pm_iconst (v := 0) dX1_init_29 (by decide) ?_
  refine rg_pi (M := M_X1_init) (j := 0) hR22 dX1_init_30 fl_X1_21 rfl rfl (fun w25 hR26 hq27 => ?_)
  have hb28 : ∀ k, k < b → w25 k = w k := fun k hk => (hq27 k (Or.inl hk)).trans (hb24 k hk)
  exact pm_vret dX1_init_33 rfl (Nat.le_of_ble_eq_true rfl) (Nat.le_of_ble_eq_true rfl) ⟨rfl, rfl, hR26, hb28⟩
def shL_Holding : List rg_S := [.inl (2, [3, 0, 0, 0, 0]), .inr (.inl (0, 64))]
def uL_Holding : rg_U := (rg_F (rg_F (rg_F (rg_F rg_Z 1 0) 2 0) 3 1) 4 1)
set_option maxHeartbeats 4000000 in
set_option maxRecDepth 100000 in
theorem ki_X2_init {gs : List String} {ro : pm_RO} {w : Nat → va_E} {b : Nat} (hb6 : b + 7 < 1000000) (hR : rg [.inl (2, [1, 0, 0, 0, 0])] b rg_Z (b + 1) w) : pm_Met gs ro M_X2_init 1 1 64 [.ref (b + 0)] (b + 1) w (fun rr n1 w1 => rr = none ∧ n1 = b + 2 ∧ rg shL_Holding b uL_Holding (b + 2) w1 ∧ ∀ k, k < b → w1 k = w k) := by
  refine pm_ofX in_X2_init (Nat.le_of_ble_eq_true rfl) rfl (L := [some (.ref (b + 0))]) rfl ?_
  refine pm_aload_n dX2_init_0 rfl ?_
  refine pm_obj (M := M_X2_init) dX2_init_1 oi_X2 oi_2 oi_3 (by decide) (Nat.le_of_ble_eq_true rfl) ?_
  refine pm_aload_n dX2_init_4 rfl ?_
  refine pm_bipush (v := 64) dX2_init_5 (by decide) ?_
  refine rg_newi (M := M_X2_init) (len := 1) (sh' := [.inl (2, [1, 0, 0, 0, 0]), .inr (.inl (0, 64))]) hR dX2_init_7 ac_int (by decide) (N := 64) (by decide) (Nat.le_of_ble_eq_true rfl) (Nat.le_of_ble_eq_true rfl) (Nat.le_of_ble_eq_true rfl) rfl rfl (by omega) rfl rfl (fun w1 hR2 hq3 => ?_)
  have hb4 : ∀ k, k < b → w1 k = w k := fun k hk => (hq3 k hk).trans ((fun _ _ => rfl) k hk)
  refine rg_pr (M := M_X2_init) (j := 0) (o := 1) (sh' := [.inl (2, [3, 0, 0, 0, 0]), .inr (.inl (0, 64))]) hR2 dX2_init_9 fl_X2_9 rfl (fun r q => by cases q; rfl) rfl (by decide) (fun _ => rfl) (fun _ => rfl) rfl (fun w5 hR6 hq7 => ?_)
  have hb8 : ∀ k, k < b → w5 k = w k := fun k hk => (hq7 k hk).trans (hb4 k hk)
  refine pm_aload_n dX2_init_12 rfl ?_
  refine pm_iconst (v := 0) dX2_init_13 (by decide) ?_
  refine rg_pi (M := M_X2_init) (j := 0) hR6 dX2_init_14 fl_X2_15 rfl rfl (fun w9 hR10 hq11 => ?_)
  have hb12 : ∀ k, k < b → w9 k = w k := fun k hk => (hq11 k (Or.inl hk)).trans (hb8 k hk)
  refine pm_aload_n dX2_init_17 rfl ?_
  refine pm_iconst (v := 0) dX2_init_18 (by decide) ?_
  refine rg_pi (M := M_X2_init) (j := 0) hR10 dX2_init_19 fl_X2_19 rfl rfl (fun w13 hR14 hq15 => ?_)
  have hb16 : ∀ k, k < b → w13 k = w k := fun k hk => (hq15 k (Or.inl hk)).trans (hb12 k hk)
  refine pm_aload_n dX2_init_22 rfl ?_
  refine pm_iconst (v := 1) dX2_init_23 (by decide) ?_
  refine rg_pi (M := M_X2_init) (j := 0) hR14 dX2_init_24 fl_X2_22 rfl rfl (fun w17 hR18 hq19 => ?_)
  have hb20 : ∀ k, k < b → w17 k = w k := fun k hk => (hq19 k (Or.inl hk)).trans (hb16 k hk)
  refine pm_aload_n dX2_init_27 rfl ?_
  refine pm_iconst (v := 1) dX2_init_28 (by decide) ?_
  refine rg_pi (M := M_X2_init) (j := 0) hR18 dX2_init_29 fl_X2_25 rfl rfl (fun w21 hR22 hq23 => ?_)
  have hb24 : ∀ k, k < b → w21 k = w k := fun k hk => (hq23 k (Or.inl hk)).trans (hb20 k hk)
  exact pm_vret dX2_init_32 rfl (Nat.le_of_ble_eq_true rfl) (Nat.le_of_ble_eq_true rfl) ⟨rfl, rfl, hR22, hb24⟩
def shL_Beside : List rg_S := [.inl (0, [3, 105, 106, 0, 107, 108]), .inr (.inr (3, 101)), .inr (.inl (0, 101)), .inr (.inl (0, 101)), .inr (.inl (0, 101)), .inr (.inl (0, 101)), .inr (.inl (0, 101)), .inr (.inl (0, 101)), .inr (.inl (0, 101)), .inr (.inl (0, 101)), .inr (.inl (0, 101)), .inr (.inl (0, 101)), .inr (.inl (0, 101)), .inr (.inl (0, 101)), .inr (.inl (0, 101)), .inr (.inl (0, 101)), .inr (.inl (0, 101)), .inr (.inl (0, 101)), .inr (.inl (0, 101)), .inr (.inl (0, 101)), .inr (.inl (0, 101)), .inr (.inl (0, 101)), .inr (.inl (0, 101)), .inr (.inl (0, 101)), .inr (.inl (0, 101)), .inr (.inl (0, 101)), .inr (.inl (0, 101)), .inr (.inl (0, 101)), .inr (.inl (0, 101)), .inr (.inl (0, 101)), .inr (.inl (0, 101)), .inr (.inl (0, 101)), .inr (.inl (0, 101)), .inr (.inl (0, 101)), .inr (.inl (0, 101)), .inr (.inl (0, 101)), .inr (.inl (0, 101)), .inr (.inl (0, 101)), .inr (.inl (0, 101)), .inr (.inl (0, 101)), .inr (.inl (0, 101)), .inr (.inl (0, 101)), .inr (.inl (0, 101)), .inr (.inl (0, 101)), .inr (.inl (0, 101)), .inr (.inl (0, 101)), .inr (.inl (0, 101)), .inr (.inl (0, 101)), .inr (.inl (0, 101)), .inr (.inl (0, 101)), .inr (.inl (0, 101)), .inr (.inl (0, 101)), .inr (.inl (0, 101)), .inr (.inl (0, 101)), .inr (.inl (0, 101)), .inr (.inl (0, 101)), .inr (.inl (0, 101)), .inr (.inl (0, 101)), .inr (.inl (0, 101)), .inr (.inl (0, 101)), .inr (.inl (0, 101)), .inr (.inl (0, 101)), .inr (.inl (0, 101)), .inr (.inl (0, 101)), .inr (.inl (0, 101)), .inr (.inl (0, 101)), .inr (.inl (0, 101)), .inr (.inl (0, 101)), .inr (.inl (0, 101)), .inr (.inl (0, 101)), .inr (.inl (0, 101)), .inr (.inl (0, 101)), .inr (.inl (0, 101)), .inr (.inl (0, 101)), .inr (.inl (0, 101)), .inr (.inl (0, 101)), .inr (.inl (0, 101)), .inr (.inl (0, 101)), .inr (.inl (0, 101)), .inr (.inl (0, 101)), .inr (.inl (0, 101)), .inr (.inl (0, 101)), .inr (.inl (0, 101)), .inr (.inl (0, 101)), .inr (.inl (0, 101)), .inr (.inl (0, 101)), .inr (.inl (0, 101)), .inr (.inl (0, 101)), .inr (.inl (0, 101)), .inr (.inl (0, 101)), .inr (.inl (0, 101)), .inr (.inl (0, 101)), .inr (.inl (0, 101)), .inr (.inl (0, 101)), .inr (.inl (0, 101)), .inr (.inl (0, 101)), .inr (.inl (0, 101)), .inr (.inl (0, 101)), .inr (.inl (0, 101)), .inr (.inl (0, 101)), .inr (.inl (0, 101)), .inr (.inl (0, 101)), .inr (.inl (0, 101)), .inr (.inl (0, 100)), .inr (.inl (0, 100)), .inr (.inl (0, 40)), .inr (.inl (0, 40))]
def uL_Beside : rg_U := (rg_F (rg_mer 1 rg_Z (mk_u 101)) 3 0)
set_option maxHeartbeats 4000000 in
set_option maxRecDepth 100000 in
theorem ki_X0_init {gs : List String} {ro : pm_RO} {w : Nat → va_E} {b : Nat} (hb6 : b + 112 < 1000000) (hR : rg [.inl (0, [1, 1, 1, 0, 1, 1])] b rg_Z (b + 1) w) : pm_Met gs ro M_X0_init 1 106 10582 [.ref (b + 0)] (b + 1) w (fun rr n1 w1 => rr = none ∧ n1 = b + 107 ∧ rg shL_Beside b uL_Beside (b + 107) w1 ∧ ∀ k, k < b → w1 k = w k) := by
  refine pm_ofX in_X0_init (Nat.le_of_ble_eq_true rfl) rfl (L := [some (.ref (b + 0))]) rfl ?_
  refine pm_aload_n dX0_init_0 rfl ?_
  refine pm_obj (M := M_X0_init) dX0_init_1 oi_X0 oi_2 oi_3 (by decide) (Nat.le_of_ble_eq_true rfl) ?_
  refine pm_aload_n dX0_init_4 rfl ?_
  refine pm_bipush (v := 101) dX0_init_5 (by decide) ?_
  refine pm_bipush (v := 101) dX0_init_7 (by decide) ?_
  refine rg_mna (M := M_X0_init) (N := 101) (K := 101) (len := 1) (sh' := [.inl (0, [1, 1, 1, 0, 1, 1]), .inr (.inr (3, 101)), .inr (.inl (0, 101)), .inr (.inl (0, 101)), .inr (.inl (0, 101)), .inr (.inl (0, 101)), .inr (.inl (0, 101)), .inr (.inl (0, 101)), .inr (.inl (0, 101)), .inr (.inl (0, 101)), .inr (.inl (0, 101)), .inr (.inl (0, 101)), .inr (.inl (0, 101)), .inr (.inl (0, 101)), .inr (.inl (0, 101)), .inr (.inl (0, 101)), .inr (.inl (0, 101)), .inr (.inl (0, 101)), .inr (.inl (0, 101)), .inr (.inl (0, 101)), .inr (.inl (0, 101)), .inr (.inl (0, 101)), .inr (.inl (0, 101)), .inr (.inl (0, 101)), .inr (.inl (0, 101)), .inr (.inl (0, 101)), .inr (.inl (0, 101)), .inr (.inl (0, 101)), .inr (.inl (0, 101)), .inr (.inl (0, 101)), .inr (.inl (0, 101)), .inr (.inl (0, 101)), .inr (.inl (0, 101)), .inr (.inl (0, 101)), .inr (.inl (0, 101)), .inr (.inl (0, 101)), .inr (.inl (0, 101)), .inr (.inl (0, 101)), .inr (.inl (0, 101)), .inr (.inl (0, 101)), .inr (.inl (0, 101)), .inr (.inl (0, 101)), .inr (.inl (0, 101)), .inr (.inl (0, 101)), .inr (.inl (0, 101)), .inr (.inl (0, 101)), .inr (.inl (0, 101)), .inr (.inl (0, 101)), .inr (.inl (0, 101)), .inr (.inl (0, 101)), .inr (.inl (0, 101)), .inr (.inl (0, 101)), .inr (.inl (0, 101)), .inr (.inl (0, 101)), .inr (.inl (0, 101)), .inr (.inl (0, 101)), .inr (.inl (0, 101)), .inr (.inl (0, 101)), .inr (.inl (0, 101)), .inr (.inl (0, 101)), .inr (.inl (0, 101)), .inr (.inl (0, 101)), .inr (.inl (0, 101)), .inr (.inl (0, 101)), .inr (.inl (0, 101)), .inr (.inl (0, 101)), .inr (.inl (0, 101)), .inr (.inl (0, 101)), .inr (.inl (0, 101)), .inr (.inl (0, 101)), .inr (.inl (0, 101)), .inr (.inl (0, 101)), .inr (.inl (0, 101)), .inr (.inl (0, 101)), .inr (.inl (0, 101)), .inr (.inl (0, 101)), .inr (.inl (0, 101)), .inr (.inl (0, 101)), .inr (.inl (0, 101)), .inr (.inl (0, 101)), .inr (.inl (0, 101)), .inr (.inl (0, 101)), .inr (.inl (0, 101)), .inr (.inl (0, 101)), .inr (.inl (0, 101)), .inr (.inl (0, 101)), .inr (.inl (0, 101)), .inr (.inl (0, 101)), .inr (.inl (0, 101)), .inr (.inl (0, 101)), .inr (.inl (0, 101)), .inr (.inl (0, 101)), .inr (.inl (0, 101)), .inr (.inl (0, 101)), .inr (.inl (0, 101)), .inr (.inl (0, 101)), .inr (.inl (0, 101)), .inr (.inl (0, 101)), .inr (.inl (0, 101)), .inr (.inl (0, 101)), .inr (.inl (0, 101)), .inr (.inl (0, 101)), .inr (.inl (0, 101))]) hR dX0_init_9 nw_X0_9 ao_ii ac_int (by decide) (by decide) (by decide) (by decide) (Nat.le_of_ble_eq_true rfl) (Nat.le_of_ble_eq_true rfl) (Nat.le_of_ble_eq_true rfl) (Nat.le_of_ble_eq_true rfl) rfl rfl (by omega) (by decide +kernel) (fun w1 hR2 hq3 => ?_)
  have hb4 : ∀ k, k < b → w1 k = w k := fun k hk => (hq3 k hk).trans ((fun _ _ => rfl) k hk)
  refine rg_pr (M := M_X0_init) (j := 0) (o := 1) (sh' := [.inl (0, [3, 1, 1, 0, 1, 1]), .inr (.inr (3, 101)), .inr (.inl (0, 101)), .inr (.inl (0, 101)), .inr (.inl (0, 101)), .inr (.inl (0, 101)), .inr (.inl (0, 101)), .inr (.inl (0, 101)), .inr (.inl (0, 101)), .inr (.inl (0, 101)), .inr (.inl (0, 101)), .inr (.inl (0, 101)), .inr (.inl (0, 101)), .inr (.inl (0, 101)), .inr (.inl (0, 101)), .inr (.inl (0, 101)), .inr (.inl (0, 101)), .inr (.inl (0, 101)), .inr (.inl (0, 101)), .inr (.inl (0, 101)), .inr (.inl (0, 101)), .inr (.inl (0, 101)), .inr (.inl (0, 101)), .inr (.inl (0, 101)), .inr (.inl (0, 101)), .inr (.inl (0, 101)), .inr (.inl (0, 101)), .inr (.inl (0, 101)), .inr (.inl (0, 101)), .inr (.inl (0, 101)), .inr (.inl (0, 101)), .inr (.inl (0, 101)), .inr (.inl (0, 101)), .inr (.inl (0, 101)), .inr (.inl (0, 101)), .inr (.inl (0, 101)), .inr (.inl (0, 101)), .inr (.inl (0, 101)), .inr (.inl (0, 101)), .inr (.inl (0, 101)), .inr (.inl (0, 101)), .inr (.inl (0, 101)), .inr (.inl (0, 101)), .inr (.inl (0, 101)), .inr (.inl (0, 101)), .inr (.inl (0, 101)), .inr (.inl (0, 101)), .inr (.inl (0, 101)), .inr (.inl (0, 101)), .inr (.inl (0, 101)), .inr (.inl (0, 101)), .inr (.inl (0, 101)), .inr (.inl (0, 101)), .inr (.inl (0, 101)), .inr (.inl (0, 101)), .inr (.inl (0, 101)), .inr (.inl (0, 101)), .inr (.inl (0, 101)), .inr (.inl (0, 101)), .inr (.inl (0, 101)), .inr (.inl (0, 101)), .inr (.inl (0, 101)), .inr (.inl (0, 101)), .inr (.inl (0, 101)), .inr (.inl (0, 101)), .inr (.inl (0, 101)), .inr (.inl (0, 101)), .inr (.inl (0, 101)), .inr (.inl (0, 101)), .inr (.inl (0, 101)), .inr (.inl (0, 101)), .inr (.inl (0, 101)), .inr (.inl (0, 101)), .inr (.inl (0, 101)), .inr (.inl (0, 101)), .inr (.inl (0, 101)), .inr (.inl (0, 101)), .inr (.inl (0, 101)), .inr (.inl (0, 101)), .inr (.inl (0, 101)), .inr (.inl (0, 101)), .inr (.inl (0, 101)), .inr (.inl (0, 101)), .inr (.inl (0, 101)), .inr (.inl (0, 101)), .inr (.inl (0, 101)), .inr (.inl (0, 101)), .inr (.inl (0, 101)), .inr (.inl (0, 101)), .inr (.inl (0, 101)), .inr (.inl (0, 101)), .inr (.inl (0, 101)), .inr (.inl (0, 101)), .inr (.inl (0, 101)), .inr (.inl (0, 101)), .inr (.inl (0, 101)), .inr (.inl (0, 101)), .inr (.inl (0, 101)), .inr (.inl (0, 101)), .inr (.inl (0, 101)), .inr (.inl (0, 101)), .inr (.inl (0, 101)), .inr (.inl (0, 101))]) hR2 dX0_init_13 fl_X0_11 rfl (fun r q => by cases q; rfl) rfl (by decide) (fun _ => rfl) (fun _ => rfl) rfl (fun w5 hR6 hq7 => ?_)
  have hb8 : ∀ k, k < b → w5 k = w k := fun k hk => (hq7 k hk).trans (hb4 k hk)
  refine pm_aload_n dX0_init_16 rfl ?_
  refine pm_bipush (v := 100) dX0_init_17 (by decide) ?_
  refine rg_newi (M := M_X0_init) (len := 103) (sh' := [.inl (0, [3, 1, 1, 0, 1, 1]), .inr (.inr (3, 101)), .inr (.inl (0, 101)), .inr (.inl (0, 101)), .inr (.inl (0, 101)), .inr (.inl (0, 101)), .inr (.inl (0, 101)), .inr (.inl (0, 101)), .inr (.inl (0, 101)), .inr (.inl (0, 101)), .inr (.inl (0, 101)), .inr (.inl (0, 101)), .inr (.inl (0, 101)), .inr (.inl (0, 101)), .inr (.inl (0, 101)), .inr (.inl (0, 101)), .inr (.inl (0, 101)), .inr (.inl (0, 101)), .inr (.inl (0, 101)), .inr (.inl (0, 101)), .inr (.inl (0, 101)), .inr (.inl (0, 101)), .inr (.inl (0, 101)), .inr (.inl (0, 101)), .inr (.inl (0, 101)), .inr (.inl (0, 101)), .inr (.inl (0, 101)), .inr (.inl (0, 101)), .inr (.inl (0, 101)), .inr (.inl (0, 101)), .inr (.inl (0, 101)), .inr (.inl (0, 101)), .inr (.inl (0, 101)), .inr (.inl (0, 101)), .inr (.inl (0, 101)), .inr (.inl (0, 101)), .inr (.inl (0, 101)), .inr (.inl (0, 101)), .inr (.inl (0, 101)), .inr (.inl (0, 101)), .inr (.inl (0, 101)), .inr (.inl (0, 101)), .inr (.inl (0, 101)), .inr (.inl (0, 101)), .inr (.inl (0, 101)), .inr (.inl (0, 101)), .inr (.inl (0, 101)), .inr (.inl (0, 101)), .inr (.inl (0, 101)), .inr (.inl (0, 101)), .inr (.inl (0, 101)), .inr (.inl (0, 101)), .inr (.inl (0, 101)), .inr (.inl (0, 101)), .inr (.inl (0, 101)), .inr (.inl (0, 101)), .inr (.inl (0, 101)), .inr (.inl (0, 101)), .inr (.inl (0, 101)), .inr (.inl (0, 101)), .inr (.inl (0, 101)), .inr (.inl (0, 101)), .inr (.inl (0, 101)), .inr (.inl (0, 101)), .inr (.inl (0, 101)), .inr (.inl (0, 101)), .inr (.inl (0, 101)), .inr (.inl (0, 101)), .inr (.inl (0, 101)), .inr (.inl (0, 101)), .inr (.inl (0, 101)), .inr (.inl (0, 101)), .inr (.inl (0, 101)), .inr (.inl (0, 101)), .inr (.inl (0, 101)), .inr (.inl (0, 101)), .inr (.inl (0, 101)), .inr (.inl (0, 101)), .inr (.inl (0, 101)), .inr (.inl (0, 101)), .inr (.inl (0, 101)), .inr (.inl (0, 101)), .inr (.inl (0, 101)), .inr (.inl (0, 101)), .inr (.inl (0, 101)), .inr (.inl (0, 101)), .inr (.inl (0, 101)), .inr (.inl (0, 101)), .inr (.inl (0, 101)), .inr (.inl (0, 101)), .inr (.inl (0, 101)), .inr (.inl (0, 101)), .inr (.inl (0, 101)), .inr (.inl (0, 101)), .inr (.inl (0, 101)), .inr (.inl (0, 101)), .inr (.inl (0, 101)), .inr (.inl (0, 101)), .inr (.inl (0, 101)), .inr (.inl (0, 101)), .inr (.inl (0, 101)), .inr (.inl (0, 101)), .inr (.inl (0, 101)), .inr (.inl (0, 100))]) hR6 dX0_init_19 ac_int (by decide) (N := 100) (by decide) (Nat.le_of_ble_eq_true rfl) (Nat.le_of_ble_eq_true rfl) (Nat.le_of_ble_eq_true rfl) rfl rfl (by omega) rfl rfl (fun w9 hR10 hq11 => ?_)
  have hb12 : ∀ k, k < b → w9 k = w k := fun k hk => (hq11 k hk).trans (hb8 k hk)
  refine rg_pr (M := M_X0_init) (j := 0) (o := 103) (sh' := [.inl (0, [3, 105, 1, 0, 1, 1]), .inr (.inr (3, 101)), .inr (.inl (0, 101)), .inr (.inl (0, 101)), .inr (.inl (0, 101)), .inr (.inl (0, 101)), .inr (.inl (0, 101)), .inr (.inl (0, 101)), .inr (.inl (0, 101)), .inr (.inl (0, 101)), .inr (.inl (0, 101)), .inr (.inl (0, 101)), .inr (.inl (0, 101)), .inr (.inl (0, 101)), .inr (.inl (0, 101)), .inr (.inl (0, 101)), .inr (.inl (0, 101)), .inr (.inl (0, 101)), .inr (.inl (0, 101)), .inr (.inl (0, 101)), .inr (.inl (0, 101)), .inr (.inl (0, 101)), .inr (.inl (0, 101)), .inr (.inl (0, 101)), .inr (.inl (0, 101)), .inr (.inl (0, 101)), .inr (.inl (0, 101)), .inr (.inl (0, 101)), .inr (.inl (0, 101)), .inr (.inl (0, 101)), .inr (.inl (0, 101)), .inr (.inl (0, 101)), .inr (.inl (0, 101)), .inr (.inl (0, 101)), .inr (.inl (0, 101)), .inr (.inl (0, 101)), .inr (.inl (0, 101)), .inr (.inl (0, 101)), .inr (.inl (0, 101)), .inr (.inl (0, 101)), .inr (.inl (0, 101)), .inr (.inl (0, 101)), .inr (.inl (0, 101)), .inr (.inl (0, 101)), .inr (.inl (0, 101)), .inr (.inl (0, 101)), .inr (.inl (0, 101)), .inr (.inl (0, 101)), .inr (.inl (0, 101)), .inr (.inl (0, 101)), .inr (.inl (0, 101)), .inr (.inl (0, 101)), .inr (.inl (0, 101)), .inr (.inl (0, 101)), .inr (.inl (0, 101)), .inr (.inl (0, 101)), .inr (.inl (0, 101)), .inr (.inl (0, 101)), .inr (.inl (0, 101)), .inr (.inl (0, 101)), .inr (.inl (0, 101)), .inr (.inl (0, 101)), .inr (.inl (0, 101)), .inr (.inl (0, 101)), .inr (.inl (0, 101)), .inr (.inl (0, 101)), .inr (.inl (0, 101)), .inr (.inl (0, 101)), .inr (.inl (0, 101)), .inr (.inl (0, 101)), .inr (.inl (0, 101)), .inr (.inl (0, 101)), .inr (.inl (0, 101)), .inr (.inl (0, 101)), .inr (.inl (0, 101)), .inr (.inl (0, 101)), .inr (.inl (0, 101)), .inr (.inl (0, 101)), .inr (.inl (0, 101)), .inr (.inl (0, 101)), .inr (.inl (0, 101)), .inr (.inl (0, 101)), .inr (.inl (0, 101)), .inr (.inl (0, 101)), .inr (.inl (0, 101)), .inr (.inl (0, 101)), .inr (.inl (0, 101)), .inr (.inl (0, 101)), .inr (.inl (0, 101)), .inr (.inl (0, 101)), .inr (.inl (0, 101)), .inr (.inl (0, 101)), .inr (.inl (0, 101)), .inr (.inl (0, 101)), .inr (.inl (0, 101)), .inr (.inl (0, 101)), .inr (.inl (0, 101)), .inr (.inl (0, 101)), .inr (.inl (0, 101)), .inr (.inl (0, 101)), .inr (.inl (0, 101)), .inr (.inl (0, 101)), .inr (.inl (0, 101)), .inr (.inl (0, 100))]) hR10 dX0_init_21 fl_X0_16 rfl (fun r q => by cases q; rfl) rfl (by decide) (fun _ => rfl) (fun _ => rfl) rfl (fun w13 hR14 hq15 => ?_)
  have hb16 : ∀ k, k < b → w13 k = w k := fun k hk => (hq15 k hk).trans (hb12 k hk)
  refine pm_aload_n dX0_init_24 rfl ?_
  refine pm_bipush (v := 100) dX0_init_25 (by decide) ?_
  refine rg_newi (M := M_X0_init) (len := 104) (sh' := [.inl (0, [3, 105, 1, 0, 1, 1]), .inr (.inr (3, 101)), .inr (.inl (0, 101)), .inr (.inl (0, 101)), .inr (.inl (0, 101)), .inr (.inl (0, 101)), .inr (.inl (0, 101)), .inr (.inl (0, 101)), .inr (.inl (0, 101)), .inr (.inl (0, 101)), .inr (.inl (0, 101)), .inr (.inl (0, 101)), .inr (.inl (0, 101)), .inr (.inl (0, 101)), .inr (.inl (0, 101)), .inr (.inl (0, 101)), .inr (.inl (0, 101)), .inr (.inl (0, 101)), .inr (.inl (0, 101)), .inr (.inl (0, 101)), .inr (.inl (0, 101)), .inr (.inl (0, 101)), .inr (.inl (0, 101)), .inr (.inl (0, 101)), .inr (.inl (0, 101)), .inr (.inl (0, 101)), .inr (.inl (0, 101)), .inr (.inl (0, 101)), .inr (.inl (0, 101)), .inr (.inl (0, 101)), .inr (.inl (0, 101)), .inr (.inl (0, 101)), .inr (.inl (0, 101)), .inr (.inl (0, 101)), .inr (.inl (0, 101)), .inr (.inl (0, 101)), .inr (.inl (0, 101)), .inr (.inl (0, 101)), .inr (.inl (0, 101)), .inr (.inl (0, 101)), .inr (.inl (0, 101)), .inr (.inl (0, 101)), .inr (.inl (0, 101)), .inr (.inl (0, 101)), .inr (.inl (0, 101)), .inr (.inl (0, 101)), .inr (.inl (0, 101)), .inr (.inl (0, 101)), .inr (.inl (0, 101)), .inr (.inl (0, 101)), .inr (.inl (0, 101)), .inr (.inl (0, 101)), .inr (.inl (0, 101)), .inr (.inl (0, 101)), .inr (.inl (0, 101)), .inr (.inl (0, 101)), .inr (.inl (0, 101)), .inr (.inl (0, 101)), .inr (.inl (0, 101)), .inr (.inl (0, 101)), .inr (.inl (0, 101)), .inr (.inl (0, 101)), .inr (.inl (0, 101)), .inr (.inl (0, 101)), .inr (.inl (0, 101)), .inr (.inl (0, 101)), .inr (.inl (0, 101)), .inr (.inl (0, 101)), .inr (.inl (0, 101)), .inr (.inl (0, 101)), .inr (.inl (0, 101)), .inr (.inl (0, 101)), .inr (.inl (0, 101)), .inr (.inl (0, 101)), .inr (.inl (0, 101)), .inr (.inl (0, 101)), .inr (.inl (0, 101)), .inr (.inl (0, 101)), .inr (.inl (0, 101)), .inr (.inl (0, 101)), .inr (.inl (0, 101)), .inr (.inl (0, 101)), .inr (.inl (0, 101)), .inr (.inl (0, 101)), .inr (.inl (0, 101)), .inr (.inl (0, 101)), .inr (.inl (0, 101)), .inr (.inl (0, 101)), .inr (.inl (0, 101)), .inr (.inl (0, 101)), .inr (.inl (0, 101)), .inr (.inl (0, 101)), .inr (.inl (0, 101)), .inr (.inl (0, 101)), .inr (.inl (0, 101)), .inr (.inl (0, 101)), .inr (.inl (0, 101)), .inr (.inl (0, 101)), .inr (.inl (0, 101)), .inr (.inl (0, 101)), .inr (.inl (0, 101)), .inr (.inl (0, 101)), .inr (.inl (0, 101)), .inr (.inl (0, 100)), .inr (.inl (0, 100))]) hR14 dX0_init_27 ac_int (by decide) (N := 100) (by decide) (Nat.le_of_ble_eq_true rfl) (Nat.le_of_ble_eq_true rfl) (Nat.le_of_ble_eq_true rfl) rfl rfl (by omega) rfl rfl (fun w17 hR18 hq19 => ?_)
  have hb20 : ∀ k, k < b → w17 k = w k := fun k hk => (hq19 k hk).trans (hb16 k hk)
  refine rg_pr (M := M_X0_init) (j := 0) (o := 104) (sh' := [.inl (0, [3, 105, 106, 0, 1, 1]), .inr (.inr (3, 101)), .inr (.inl (0, 101)), .inr (.inl (0, 101)), .inr (.inl (0, 101)), .inr (.inl (0, 101)), .inr (.inl (0, 101)), .inr (.inl (0, 101)), .inr (.inl (0, 101)), .inr (.inl (0, 101)), .inr (.inl (0, 101)), .inr (.inl (0, 101)), .inr (.inl (0, 101)), .inr (.inl (0, 101)), .inr (.inl (0, 101)), .inr (.inl (0, 101)), .inr (.inl (0, 101)), .inr (.inl (0, 101)), .inr (.inl (0, 101)), .inr (.inl (0, 101)), .inr (.inl (0, 101)), .inr (.inl (0, 101)), .inr (.inl (0, 101)), .inr (.inl (0, 101)), .inr (.inl (0, 101)), .inr (.inl (0, 101)), .inr (.inl (0, 101)), .inr (.inl (0, 101)), .inr (.inl (0, 101)), .inr (.inl (0, 101)), .inr (.inl (0, 101)), .inr (.inl (0, 101)), .inr (.inl (0, 101)), .inr (.inl (0, 101)), .inr (.inl (0, 101)), .inr (.inl (0, 101)), .inr (.inl (0, 101)), .inr (.inl (0, 101)), .inr (.inl (0, 101)), .inr (.inl (0, 101)), .inr (.inl (0, 101)), .inr (.inl (0, 101)), .inr (.inl (0, 101)), .inr (.inl (0, 101)), .inr (.inl (0, 101)), .inr (.inl (0, 101)), .inr (.inl (0, 101)), .inr (.inl (0, 101)), .inr (.inl (0, 101)), .inr (.inl (0, 101)), .inr (.inl (0, 101)), .inr (.inl (0, 101)), .inr (.inl (0, 101)), .inr (.inl (0, 101)), .inr (.inl (0, 101)), .inr (.inl (0, 101)), .inr (.inl (0, 101)), .inr (.inl (0, 101)), .inr (.inl (0, 101)), .inr (.inl (0, 101)), .inr (.inl (0, 101)), .inr (.inl (0, 101)), .inr (.inl (0, 101)), .inr (.inl (0, 101)), .inr (.inl (0, 101)), .inr (.inl (0, 101)), .inr (.inl (0, 101)), .inr (.inl (0, 101)), .inr (.inl (0, 101)), .inr (.inl (0, 101)), .inr (.inl (0, 101)), .inr (.inl (0, 101)), .inr (.inl (0, 101)), .inr (.inl (0, 101)), .inr (.inl (0, 101)), .inr (.inl (0, 101)), .inr (.inl (0, 101)), .inr (.inl (0, 101)), .inr (.inl (0, 101)), .inr (.inl (0, 101)), .inr (.inl (0, 101)), .inr (.inl (0, 101)), .inr (.inl (0, 101)), .inr (.inl (0, 101)), .inr (.inl (0, 101)), .inr (.inl (0, 101)), .inr (.inl (0, 101)), .inr (.inl (0, 101)), .inr (.inl (0, 101)), .inr (.inl (0, 101)), .inr (.inl (0, 101)), .inr (.inl (0, 101)), .inr (.inl (0, 101)), .inr (.inl (0, 101)), .inr (.inl (0, 101)), .inr (.inl (0, 101)), .inr (.inl (0, 101)), .inr (.inl (0, 101)), .inr (.inl (0, 101)), .inr (.inl (0, 101)), .inr (.inl (0, 101)), .inr (.inl (0, 101)), .inr (.inl (0, 101)), .inr (.inl (0, 100)), .inr (.inl (0, 100))]) hR18 dX0_init_29 fl_X0_20 rfl (fun r q => by cases q; rfl) rfl (by decide) (fun _ => rfl) (fun _ => rfl) rfl (fun w21 hR22 hq23 => ?_)
  have hb24 : ∀ k, k < b → w21 k = w k := fun k hk => (hq23 k hk).trans (hb20 k hk)
  refine pm_aload_n dX0_init_32 rfl ?_
  refine pm_iconst (v := 0) dX0_init_33 (by decide) ?_
  refine rg_pi (M := M_X0_init) (j := 0) hR22 dX0_init_34 fl_X0_23 rfl rfl (fun w25 hR26 hq27 => ?_)
  have hb28 : ∀ k, k < b → w25 k = w k := fun k hk => (hq27 k (Or.inl hk)).trans (hb24 k hk)
  refine pm_aload_n dX0_init_37 rfl ?_
  refine pm_bipush (v := 40) dX0_init_38 (by decide) ?_
  refine rg_newi (M := M_X0_init) (len := 105) (sh' := [.inl (0, [3, 105, 106, 0, 1, 1]), .inr (.inr (3, 101)), .inr (.inl (0, 101)), .inr (.inl (0, 101)), .inr (.inl (0, 101)), .inr (.inl (0, 101)), .inr (.inl (0, 101)), .inr (.inl (0, 101)), .inr (.inl (0, 101)), .inr (.inl (0, 101)), .inr (.inl (0, 101)), .inr (.inl (0, 101)), .inr (.inl (0, 101)), .inr (.inl (0, 101)), .inr (.inl (0, 101)), .inr (.inl (0, 101)), .inr (.inl (0, 101)), .inr (.inl (0, 101)), .inr (.inl (0, 101)), .inr (.inl (0, 101)), .inr (.inl (0, 101)), .inr (.inl (0, 101)), .inr (.inl (0, 101)), .inr (.inl (0, 101)), .inr (.inl (0, 101)), .inr (.inl (0, 101)), .inr (.inl (0, 101)), .inr (.inl (0, 101)), .inr (.inl (0, 101)), .inr (.inl (0, 101)), .inr (.inl (0, 101)), .inr (.inl (0, 101)), .inr (.inl (0, 101)), .inr (.inl (0, 101)), .inr (.inl (0, 101)), .inr (.inl (0, 101)), .inr (.inl (0, 101)), .inr (.inl (0, 101)), .inr (.inl (0, 101)), .inr (.inl (0, 101)), .inr (.inl (0, 101)), .inr (.inl (0, 101)), .inr (.inl (0, 101)), .inr (.inl (0, 101)), .inr (.inl (0, 101)), .inr (.inl (0, 101)), .inr (.inl (0, 101)), .inr (.inl (0, 101)), .inr (.inl (0, 101)), .inr (.inl (0, 101)), .inr (.inl (0, 101)), .inr (.inl (0, 101)), .inr (.inl (0, 101)), .inr (.inl (0, 101)), .inr (.inl (0, 101)), .inr (.inl (0, 101)), .inr (.inl (0, 101)), .inr (.inl (0, 101)), .inr (.inl (0, 101)), .inr (.inl (0, 101)), .inr (.inl (0, 101)), .inr (.inl (0, 101)), .inr (.inl (0, 101)), .inr (.inl (0, 101)), .inr (.inl (0, 101)), .inr (.inl (0, 101)), .inr (.inl (0, 101)), .inr (.inl (0, 101)), .inr (.inl (0, 101)), .inr (.inl (0, 101)), .inr (.inl (0, 101)), .inr (.inl (0, 101)), .inr (.inl (0, 101)), .inr (.inl (0, 101)), .inr (.inl (0, 101)), .inr (.inl (0, 101)), .inr (.inl (0, 101)), .inr (.inl (0, 101)), .inr (.inl (0, 101)), .inr (.inl (0, 101)), .inr (.inl (0, 101)), .inr (.inl (0, 101)), .inr (.inl (0, 101)), .inr (.inl (0, 101)), .inr (.inl (0, 101)), .inr (.inl (0, 101)), .inr (.inl (0, 101)), .inr (.inl (0, 101)), .inr (.inl (0, 101)), .inr (.inl (0, 101)), .inr (.inl (0, 101)), .inr (.inl (0, 101)), .inr (.inl (0, 101)), .inr (.inl (0, 101)), .inr (.inl (0, 101)), .inr (.inl (0, 101)), .inr (.inl (0, 101)), .inr (.inl (0, 101)), .inr (.inl (0, 101)), .inr (.inl (0, 101)), .inr (.inl (0, 101)), .inr (.inl (0, 101)), .inr (.inl (0, 101)), .inr (.inl (0, 100)), .inr (.inl (0, 100)), .inr (.inl (0, 40))]) hR26 dX0_init_40 ac_int (by decide) (N := 40) (by decide) (Nat.le_of_ble_eq_true rfl) (Nat.le_of_ble_eq_true rfl) (Nat.le_of_ble_eq_true rfl) rfl rfl (by omega) rfl rfl (fun w29 hR30 hq31 => ?_)
  have hb32 : ∀ k, k < b → w29 k = w k := fun k hk => (hq31 k hk).trans (hb28 k hk)
  refine rg_pr (M := M_X0_init) (j := 0) (o := 105) (sh' := [.inl (0, [3, 105, 106, 0, 107, 1]), .inr (.inr (3, 101)), .inr (.inl (0, 101)), .inr (.inl (0, 101)), .inr (.inl (0, 101)), .inr (.inl (0, 101)), .inr (.inl (0, 101)), .inr (.inl (0, 101)), .inr (.inl (0, 101)), .inr (.inl (0, 101)), .inr (.inl (0, 101)), .inr (.inl (0, 101)), .inr (.inl (0, 101)), .inr (.inl (0, 101)), .inr (.inl (0, 101)), .inr (.inl (0, 101)), .inr (.inl (0, 101)), .inr (.inl (0, 101)), .inr (.inl (0, 101)), .inr (.inl (0, 101)), .inr (.inl (0, 101)), .inr (.inl (0, 101)), .inr (.inl (0, 101)), .inr (.inl (0, 101)), .inr (.inl (0, 101)), .inr (.inl (0, 101)), .inr (.inl (0, 101)), .inr (.inl (0, 101)), .inr (.inl (0, 101)), .inr (.inl (0, 101)), .inr (.inl (0, 101)), .inr (.inl (0, 101)), .inr (.inl (0, 101)), .inr (.inl (0, 101)), .inr (.inl (0, 101)), .inr (.inl (0, 101)), .inr (.inl (0, 101)), .inr (.inl (0, 101)), .inr (.inl (0, 101)), .inr (.inl (0, 101)), .inr (.inl (0, 101)), .inr (.inl (0, 101)), .inr (.inl (0, 101)), .inr (.inl (0, 101)), .inr (.inl (0, 101)), .inr (.inl (0, 101)), .inr (.inl (0, 101)), .inr (.inl (0, 101)), .inr (.inl (0, 101)), .inr (.inl (0, 101)), .inr (.inl (0, 101)), .inr (.inl (0, 101)), .inr (.inl (0, 101)), .inr (.inl (0, 101)), .inr (.inl (0, 101)), .inr (.inl (0, 101)), .inr (.inl (0, 101)), .inr (.inl (0, 101)), .inr (.inl (0, 101)), .inr (.inl (0, 101)), .inr (.inl (0, 101)), .inr (.inl (0, 101)), .inr (.inl (0, 101)), .inr (.inl (0, 101)), .inr (.inl (0, 101)), .inr (.inl (0, 101)), .inr (.inl (0, 101)), .inr (.inl (0, 101)), .inr (.inl (0, 101)), .inr (.inl (0, 101)), .inr (.inl (0, 101)), .inr (.inl (0, 101)), .inr (.inl (0, 101)), .inr (.inl (0, 101)), .inr (.inl (0, 101)), .inr (.inl (0, 101)), .inr (.inl (0, 101)), .inr (.inl (0, 101)), .inr (.inl (0, 101)), .inr (.inl (0, 101)), .inr (.inl (0, 101)), .inr (.inl (0, 101)), .inr (.inl (0, 101)), .inr (.inl (0, 101)), .inr (.inl (0, 101)), .inr (.inl (0, 101)), .inr (.inl (0, 101)), .inr (.inl (0, 101)), .inr (.inl (0, 101)), .inr (.inl (0, 101)), .inr (.inl (0, 101)), .inr (.inl (0, 101)), .inr (.inl (0, 101)), .inr (.inl (0, 101)), .inr (.inl (0, 101)), .inr (.inl (0, 101)), .inr (.inl (0, 101)), .inr (.inl (0, 101)), .inr (.inl (0, 101)), .inr (.inl (0, 101)), .inr (.inl (0, 101)), .inr (.inl (0, 101)), .inr (.inl (0, 101)), .inr (.inl (0, 100)), .inr (.inl (0, 100)), .inr (.inl (0, 40))]) hR30 dX0_init_42 fl_X0_27 rfl (fun r q => by cases q; rfl) rfl (by decide) (fun _ => rfl) (fun _ => rfl) rfl (fun w33 hR34 hq35 => ?_)
  have hb36 : ∀ k, k < b → w33 k = w k := fun k hk => (hq35 k hk).trans (hb32 k hk)
  refine pm_aload_n dX0_init_45 rfl ?_
  refine pm_bipush (v := 40) dX0_init_46 (by decide) ?_
  refine rg_newi (M := M_X0_init) (len := 106) (sh' := [.inl (0, [3, 105, 106, 0, 107, 1]), .inr (.inr (3, 101)), .inr (.inl (0, 101)), .inr (.inl (0, 101)), .inr (.inl (0, 101)), .inr (.inl (0, 101)), .inr (.inl (0, 101)), .inr (.inl (0, 101)), .inr (.inl (0, 101)), .inr (.inl (0, 101)), .inr (.inl (0, 101)), .inr (.inl (0, 101)), .inr (.inl (0, 101)), .inr (.inl (0, 101)), .inr (.inl (0, 101)), .inr (.inl (0, 101)), .inr (.inl (0, 101)), .inr (.inl (0, 101)), .inr (.inl (0, 101)), .inr (.inl (0, 101)), .inr (.inl (0, 101)), .inr (.inl (0, 101)), .inr (.inl (0, 101)), .inr (.inl (0, 101)), .inr (.inl (0, 101)), .inr (.inl (0, 101)), .inr (.inl (0, 101)), .inr (.inl (0, 101)), .inr (.inl (0, 101)), .inr (.inl (0, 101)), .inr (.inl (0, 101)), .inr (.inl (0, 101)), .inr (.inl (0, 101)), .inr (.inl (0, 101)), .inr (.inl (0, 101)), .inr (.inl (0, 101)), .inr (.inl (0, 101)), .inr (.inl (0, 101)), .inr (.inl (0, 101)), .inr (.inl (0, 101)), .inr (.inl (0, 101)), .inr (.inl (0, 101)), .inr (.inl (0, 101)), .inr (.inl (0, 101)), .inr (.inl (0, 101)), .inr (.inl (0, 101)), .inr (.inl (0, 101)), .inr (.inl (0, 101)), .inr (.inl (0, 101)), .inr (.inl (0, 101)), .inr (.inl (0, 101)), .inr (.inl (0, 101)), .inr (.inl (0, 101)), .inr (.inl (0, 101)), .inr (.inl (0, 101)), .inr (.inl (0, 101)), .inr (.inl (0, 101)), .inr (.inl (0, 101)), .inr (.inl (0, 101)), .inr (.inl (0, 101)), .inr (.inl (0, 101)), .inr (.inl (0, 101)), .inr (.inl (0, 101)), .inr (.inl (0, 101)), .inr (.inl (0, 101)), .inr (.inl (0, 101)), .inr (.inl (0, 101)), .inr (.inl (0, 101)), .inr (.inl (0, 101)), .inr (.inl (0, 101)), .inr (.inl (0, 101)), .inr (.inl (0, 101)), .inr (.inl (0, 101)), .inr (.inl (0, 101)), .inr (.inl (0, 101)), .inr (.inl (0, 101)), .inr (.inl (0, 101)), .inr (.inl (0, 101)), .inr (.inl (0, 101)), .inr (.inl (0, 101)), .inr (.inl (0, 101)), .inr (.inl (0, 101)), .inr (.inl (0, 101)), .inr (.inl (0, 101)), .inr (.inl (0, 101)), .inr (.inl (0, 101)), .inr (.inl (0, 101)), .inr (.inl (0, 101)), .inr (.inl (0, 101)), .inr (.inl (0, 101)), .inr (.inl (0, 101)), .inr (.inl (0, 101)), .inr (.inl (0, 101)), .inr (.inl (0, 101)), .inr (.inl (0, 101)), .inr (.inl (0, 101)), .inr (.inl (0, 101)), .inr (.inl (0, 101)), .inr (.inl (0, 101)), .inr (.inl (0, 101)), .inr (.inl (0, 101)), .inr (.inl (0, 101)), .inr (.inl (0, 101)), .inr (.inl (0, 100)), .inr (.inl (0, 100)), .inr (.inl (0, 40)), .inr (.inl (0, 40))]) hR34 dX0_init_48 ac_int (by decide) (N := 40) (by decide) (Nat.le_of_ble_eq_true rfl) (Nat.le_of_ble_eq_true rfl) (Nat.le_of_ble_eq_true rfl) rfl rfl (by omega) rfl rfl (fun w37 hR38 hq39 => ?_)
  have hb40 : ∀ k, k < b → w37 k = w k := fun k hk => (hq39 k hk).trans (hb36 k hk)
  refine rg_pr (M := M_X0_init) (j := 0) (o := 106) (sh' := [.inl (0, [3, 105, 106, 0, 107, 108]), .inr (.inr (3, 101)), .inr (.inl (0, 101)), .inr (.inl (0, 101)), .inr (.inl (0, 101)), .inr (.inl (0, 101)), .inr (.inl (0, 101)), .inr (.inl (0, 101)), .inr (.inl (0, 101)), .inr (.inl (0, 101)), .inr (.inl (0, 101)), .inr (.inl (0, 101)), .inr (.inl (0, 101)), .inr (.inl (0, 101)), .inr (.inl (0, 101)), .inr (.inl (0, 101)), .inr (.inl (0, 101)), .inr (.inl (0, 101)), .inr (.inl (0, 101)), .inr (.inl (0, 101)), .inr (.inl (0, 101)), .inr (.inl (0, 101)), .inr (.inl (0, 101)), .inr (.inl (0, 101)), .inr (.inl (0, 101)), .inr (.inl (0, 101)), .inr (.inl (0, 101)), .inr (.inl (0, 101)), .inr (.inl (0, 101)), .inr (.inl (0, 101)), .inr (.inl (0, 101)), .inr (.inl (0, 101)), .inr (.inl (0, 101)), .inr (.inl (0, 101)), .inr (.inl (0, 101)), .inr (.inl (0, 101)), .inr (.inl (0, 101)), .inr (.inl (0, 101)), .inr (.inl (0, 101)), .inr (.inl (0, 101)), .inr (.inl (0, 101)), .inr (.inl (0, 101)), .inr (.inl (0, 101)), .inr (.inl (0, 101)), .inr (.inl (0, 101)), .inr (.inl (0, 101)), .inr (.inl (0, 101)), .inr (.inl (0, 101)), .inr (.inl (0, 101)), .inr (.inl (0, 101)), .inr (.inl (0, 101)), .inr (.inl (0, 101)), .inr (.inl (0, 101)), .inr (.inl (0, 101)), .inr (.inl (0, 101)), .inr (.inl (0, 101)), .inr (.inl (0, 101)), .inr (.inl (0, 101)), .inr (.inl (0, 101)), .inr (.inl (0, 101)), .inr (.inl (0, 101)), .inr (.inl (0, 101)), .inr (.inl (0, 101)), .inr (.inl (0, 101)), .inr (.inl (0, 101)), .inr (.inl (0, 101)), .inr (.inl (0, 101)), .inr (.inl (0, 101)), .inr (.inl (0, 101)), .inr (.inl (0, 101)), .inr (.inl (0, 101)), .inr (.inl (0, 101)), .inr (.inl (0, 101)), .inr (.inl (0, 101)), .inr (.inl (0, 101)), .inr (.inl (0, 101)), .inr (.inl (0, 101)), .inr (.inl (0, 101)), .inr (.inl (0, 101)), .inr (.inl (0, 101)), .inr (.inl (0, 101)), .inr (.inl (0, 101)), .inr (.inl (0, 101)), .inr (.inl (0, 101)), .inr (.inl (0, 101)), .inr (.inl (0, 101)), .inr (.inl (0, 101)), .inr (.inl (0, 101)), .inr (.inl (0, 101)), .inr (.inl (0, 101)), .inr (.inl (0, 101)), .inr (.inl (0, 101)), .inr (.inl (0, 101)), .inr (.inl (0, 101)), .inr (.inl (0, 101)), .inr (.inl (0, 101)), .inr (.inl (0, 101)), .inr (.inl (0, 101)), .inr (.inl (0, 101)), .inr (.inl (0, 101)), .inr (.inl (0, 101)), .inr (.inl (0, 101)), .inr (.inl (0, 101)), .inr (.inl (0, 100)), .inr (.inl (0, 100)), .inr (.inl (0, 40)), .inr (.inl (0, 40))]) hR38 dX0_init_50 fl_X0_30 rfl (fun r q => by cases q; rfl) rfl (by decide) (fun _ => rfl) (fun _ => rfl) rfl (fun w41 hR42 hq43 => ?_)
  have hb44 : ∀ k, k < b → w41 k = w k := fun k hk => (hq43 k hk).trans (hb40 k hk)
  exact pm_vret dX0_init_53 rfl (Nat.le_of_ble_eq_true rfl) (Nat.le_of_ble_eq_true rfl) ⟨rfl, rfl, hR42, hb44⟩
def shL_Run : List rg_S := [.inl (7, [3, 8, 14, 26, 30, 32, 33, 34, 35, 0, 0, 0, 0, 0, 0]), .inl (5, [4, 5, 6, 7]), .inr (.inl (0, 64)), .inr (.inl (0, 64)), .inr (.inl (0, 64)), .inr (.inl (0, 64)), .inl (3, [9, 10, 11, 12, 13, 0]), .inr (.inl (0, 800)), .inr (.inl (0, 800)), .inr (.inl (0, 800)), .inr (.inl (0, 800)), .inr (.inl (0, 800)), .inl (6, [15, 16, 17, 18, 19, 20, 21, 22, 23, 24, 25, 0]), .inr (.inl (0, 3800)), .inr (.inl (0, 3800)), .inr (.inl (0, 3800)), .inr (.inl (0, 3800)), .inr (.inl (0, 3800)), .inr (.inl (0, 3800)), .inr (.inl (0, 3800)), .inr (.inl (0, 3800)), .inr (.inl (0, 3800)), .inr (.inl (0, 3800)), .inr (.inl (0, 40)), .inl (1, [27, 28, 29, 0]), .inr (.inl (0, 100)), .inr (.inl (0, 100)), .inr (.inl (0, 100)), .inl (2, [31, 0, 0, 0, 0]), .inr (.inl (0, 64)), .inr (.inl (0, 3001)), .inr (.inl (0, 3001)), .inr (.inl (0, 3001)), .inr (.inl (0, 3001))]
def uL_Run : rg_U := (rg_F (rg_F (rg_F (rg_F (rg_F (rg_F (rg_mer 28 (rg_mer 24 (rg_mer 12 (rg_mer 6 (rg_mer 1 rg_Z uL_Program) uL_Log) uL_Puts) uL_Calls) uL_Holding) 9 0) 10 0) 11 (-1)) 12 0) 13 0) 14 0)
set_option maxHeartbeats 4000000 in
set_option maxRecDepth 100000 in
theorem ki_X7_init {gs : List String} {ro : pm_RO} {w : Nat → va_E} {b : Nat} (hb6 : b + 39 < 1000000) (hR : rg [.inl (7, [1, 1, 1, 1, 1, 1, 1, 1, 1, 0, 0, 0, 0, 0, 0])] b rg_Z (b + 1) w) : pm_Met gs ro M_X7_init 2 33 54695 [.ref (b + 0)] (b + 1) w (fun rr n1 w1 => rr = none ∧ n1 = b + 34 ∧ rg shL_Run b uL_Run (b + 34) w1 ∧ ∀ k, k < b → w1 k = w k) := by
  refine pm_ofX in_X7_init (Nat.le_of_ble_eq_true rfl) rfl (L := [some (.ref (b + 0))]) rfl ?_
  refine pm_aload_n dX7_init_0 rfl ?_
  refine pm_obj (M := M_X7_init) dX7_init_1 oi_X7 oi_2 oi_3 (by decide) (Nat.le_of_ble_eq_true rfl) ?_
  refine pm_aload_n dX7_init_4 rfl ?_
  refine rg_mkI (M := M_X7_init) (Mc := M_X5_init) (dc := 1) (mcc := 4) (msc := 256) (st := [.ref (b + 0)]) (len := 1) (size := 5) (fs := [.null, .null, .null, .null]) (t0 := [1, 1, 1, 1]) (shL := shL_Program) (uL := uL_Program) (sh' := [.inl (7, [1, 1, 1, 1, 1, 1, 1, 1, 1, 0, 0, 0, 0, 0, 0]), .inl (5, [4, 5, 6, 7]), .inr (.inl (0, 64)), .inr (.inl (0, 64)), .inr (.inl (0, 64)), .inr (.inl (0, 64))]) hR dX7_init_5 dX7_init_8 dX7_init_9 cl_X5 nw_X7_9.1 nw_X7_9.2.1 nw_X7_9.2.2 (fun j hj => by match j, hj with | 0, _ => rfl | 1, _ => rfl | 2, _ => rfl | 3, _ => rfl) rfl ml_X7_11 (by decide) (Nat.le_of_ble_eq_true rfl) (Nat.le_of_ble_eq_true rfl) (Nat.le_of_ble_eq_true rfl) rfl rfl (by omega) rfl rfl (fun w1 h1 => ki_X5_init (by omega) h1) (by decide +kernel) (fun w1 hR2 hq3 => ?_)
  have hb4 : ∀ k, k < b → w1 k = w k := fun k hk => (hq3 k hk).trans ((fun _ _ => rfl) k hk)
  refine rg_pr (M := M_X7_init) (j := 0) (o := 1) (sh' := [.inl (7, [3, 1, 1, 1, 1, 1, 1, 1, 1, 0, 0, 0, 0, 0, 0]), .inl (5, [4, 5, 6, 7]), .inr (.inl (0, 64)), .inr (.inl (0, 64)), .inr (.inl (0, 64)), .inr (.inl (0, 64))]) hR2 dX7_init_12 fl_X7_12 rfl (fun r q => by cases q; rfl) rfl (by decide) (fun _ => rfl) (fun _ => rfl) rfl (fun w5 hR6 hq7 => ?_)
  have hb8 : ∀ k, k < b → w5 k = w k := fun k hk => (hq7 k hk).trans (hb4 k hk)
  refine pm_aload_n dX7_init_15 rfl ?_
  refine rg_mkIN (M := M_X7_init) (Mc := M_X3_init) (dc := 1) (mcc := 5) (msc := 4000) (st := [.ref (b + 0)]) (len := 6) (size := 6) (fs := [.null, .null, .null, .null, .null, .int 0]) (t0 := [1, 1, 1, 1, 1, 0]) (shL := shL_Log) (uL := uL_Log) (sh' := [.inl (7, [3, 1, 1, 1, 1, 1, 1, 1, 1, 0, 0, 0, 0, 0, 0]), .inl (5, [4, 5, 6, 7]), .inr (.inl (0, 64)), .inr (.inl (0, 64)), .inr (.inl (0, 64)), .inr (.inl (0, 64)), .inl (3, [9, 10, 11, 12, 13, 0]), .inr (.inl (0, 800)), .inr (.inl (0, 800)), .inr (.inl (0, 800)), .inr (.inl (0, 800)), .inr (.inl (0, 800))]) hR6 dX7_init_16 dX7_init_19 dX7_init_20 cl_X3 nw_X7_18.1 nw_X7_18.2.1 nw_X7_18.2.2 (fun j hj => by match j, hj with | 0, _ => rfl | 1, _ => rfl | 2, _ => rfl | 3, _ => rfl | 4, _ => rfl | 5, _ => rfl) rfl ml_X7_20 (by decide) (Nat.le_of_ble_eq_true rfl) (Nat.le_of_ble_eq_true rfl) (Nat.le_of_ble_eq_true rfl) rfl rfl (by omega) rfl rfl (fun w1 h1 => ki_X3_init (by omega) h1) (by decide +kernel) (fun w9 hR10 hq11 => ?_)
  have hb12 : ∀ k, k < b → w9 k = w k := fun k hk => (hq11 k hk).trans (hb8 k hk)
  refine rg_pr (M := M_X7_init) (j := 0) (o := 6) (sh' := [.inl (7, [3, 8, 1, 1, 1, 1, 1, 1, 1, 0, 0, 0, 0, 0, 0]), .inl (5, [4, 5, 6, 7]), .inr (.inl (0, 64)), .inr (.inl (0, 64)), .inr (.inl (0, 64)), .inr (.inl (0, 64)), .inl (3, [9, 10, 11, 12, 13, 0]), .inr (.inl (0, 800)), .inr (.inl (0, 800)), .inr (.inl (0, 800)), .inr (.inl (0, 800)), .inr (.inl (0, 800))]) hR10 dX7_init_23 fl_X7_21 rfl (fun r q => by cases q; rfl) rfl (by decide) (fun _ => rfl) (fun _ => rfl) rfl (fun w13 hR14 hq15 => ?_)
  have hb16 : ∀ k, k < b → w13 k = w k := fun k hk => (hq15 k hk).trans (hb12 k hk)
  refine pm_aload_n dX7_init_26 rfl ?_
  refine rg_mkI (M := M_X7_init) (Mc := M_X6_init) (dc := 1) (mcc := 11) (msc := 38040) (st := [.ref (b + 0)]) (len := 12) (size := 12) (fs := [.null, .null, .null, .null, .null, .null, .null, .null, .null, .null, .null, .int 0]) (t0 := [1, 1, 1, 1, 1, 1, 1, 1, 1, 1, 1, 0]) (shL := shL_Puts) (uL := uL_Puts) (sh' := [.inl (7, [3, 8, 1, 1, 1, 1, 1, 1, 1, 0, 0, 0, 0, 0, 0]), .inl (5, [4, 5, 6, 7]), .inr (.inl (0, 64)), .inr (.inl (0, 64)), .inr (.inl (0, 64)), .inr (.inl (0, 64)), .inl (3, [9, 10, 11, 12, 13, 0]), .inr (.inl (0, 800)), .inr (.inl (0, 800)), .inr (.inl (0, 800)), .inr (.inl (0, 800)), .inr (.inl (0, 800)), .inl (6, [15, 16, 17, 18, 19, 20, 21, 22, 23, 24, 25, 0]), .inr (.inl (0, 3800)), .inr (.inl (0, 3800)), .inr (.inl (0, 3800)), .inr (.inl (0, 3800)), .inr (.inl (0, 3800)), .inr (.inl (0, 3800)), .inr (.inl (0, 3800)), .inr (.inl (0, 3800)), .inr (.inl (0, 3800)), .inr (.inl (0, 3800)), .inr (.inl (0, 40))]) hR14 dX7_init_27 dX7_init_30 dX7_init_31 cl_X6 nw_X7_25.1 nw_X7_25.2.1 nw_X7_25.2.2 (fun j hj => by match j, hj with | 0, _ => rfl | 1, _ => rfl | 2, _ => rfl | 3, _ => rfl | 4, _ => rfl | 5, _ => rfl | 6, _ => rfl | 7, _ => rfl | 8, _ => rfl | 9, _ => rfl | 10, _ => rfl | 11, _ => rfl) rfl ml_X7_27 (by decide) (Nat.le_of_ble_eq_true rfl) (Nat.le_of_ble_eq_true rfl) (Nat.le_of_ble_eq_true rfl) rfl rfl (by omega) rfl rfl (fun w1 h1 => ki_X6_init (by omega) h1) (by decide +kernel) (fun w17 hR18 hq19 => ?_)
  have hb20 : ∀ k, k < b → w17 k = w k := fun k hk => (hq19 k hk).trans (hb16 k hk)
  refine rg_pr (M := M_X7_init) (j := 0) (o := 12) (sh' := [.inl (7, [3, 8, 14, 1, 1, 1, 1, 1, 1, 0, 0, 0, 0, 0, 0]), .inl (5, [4, 5, 6, 7]), .inr (.inl (0, 64)), .inr (.inl (0, 64)), .inr (.inl (0, 64)), .inr (.inl (0, 64)), .inl (3, [9, 10, 11, 12, 13, 0]), .inr (.inl (0, 800)), .inr (.inl (0, 800)), .inr (.inl (0, 800)), .inr (.inl (0, 800)), .inr (.inl (0, 800)), .inl (6, [15, 16, 17, 18, 19, 20, 21, 22, 23, 24, 25, 0]), .inr (.inl (0, 3800)), .inr (.inl (0, 3800)), .inr (.inl (0, 3800)), .inr (.inl (0, 3800)), .inr (.inl (0, 3800)), .inr (.inl (0, 3800)), .inr (.inl (0, 3800)), .inr (.inl (0, 3800)), .inr (.inl (0, 3800)), .inr (.inl (0, 3800)), .inr (.inl (0, 40))]) hR18 dX7_init_34 fl_X7_28 rfl (fun r q => by cases q; rfl) rfl (by decide) (fun _ => rfl) (fun _ => rfl) rfl (fun w21 hR22 hq23 => ?_)
  have hb24 : ∀ k, k < b → w21 k = w k := fun k hk => (hq23 k hk).trans (hb20 k hk)
  refine pm_aload_n dX7_init_37 rfl ?_
  refine rg_mkIN (M := M_X7_init) (Mc := M_X1_init) (dc := 1) (mcc := 3) (msc := 300) (st := [.ref (b + 0)]) (len := 24) (size := 4) (fs := [.null, .null, .null, .int 0]) (t0 := [1, 1, 1, 0]) (shL := shL_Calls) (uL := uL_Calls) (sh' := [.inl (7, [3, 8, 14, 1, 1, 1, 1, 1, 1, 0, 0, 0, 0, 0, 0]), .inl (5, [4, 5, 6, 7]), .inr (.inl (0, 64)), .inr (.inl (0, 64)), .inr (.inl (0, 64)), .inr (.inl (0, 64)), .inl (3, [9, 10, 11, 12, 13, 0]), .inr (.inl (0, 800)), .inr (.inl (0, 800)), .inr (.inl (0, 800)), .inr (.inl (0, 800)), .inr (.inl (0, 800)), .inl (6, [15, 16, 17, 18, 19, 20, 21, 22, 23, 24, 25, 0]), .inr (.inl (0, 3800)), .inr (.inl (0, 3800)), .inr (.inl (0, 3800)), .inr (.inl (0, 3800)), .inr (.inl (0, 3800)), .inr (.inl (0, 3800)), .inr (.inl (0, 3800)), .inr (.inl (0, 3800)), .inr (.inl (0, 3800)), .inr (.inl (0, 3800)), .inr (.inl (0, 40)), .inl (1, [27, 28, 29, 0]), .inr (.inl (0, 100)), .inr (.inl (0, 100)), .inr (.inl (0, 100))]) hR22 dX7_init_38 dX7_init_41 dX7_init_42 cl_X1 nw_X7_32.1 nw_X7_32.2.1 nw_X7_32.2.2 (fun j hj => by match j, hj with | 0, _ => rfl | 1, _ => rfl | 2, _ => rfl | 3, _ => rfl) rfl ml_X7_34 (by decide) (Nat.le_of_ble_eq_true rfl) (Nat.le_of_ble_eq_true rfl) (Nat.le_of_ble_eq_true rfl) rfl rfl (by omega) rfl rfl (fun w1 h1 => ki_X1_init (by omega) h1) (by decide +kernel) (fun w25 hR26 hq27 => ?_)
  have hb28 : ∀ k, k < b → w25 k = w k := fun k hk => (hq27 k hk).trans (hb24 k hk)
  refine rg_pr (M := M_X7_init) (j := 0) (o := 24) (sh' := [.inl (7, [3, 8, 14, 26, 1, 1, 1, 1, 1, 0, 0, 0, 0, 0, 0]), .inl (5, [4, 5, 6, 7]), .inr (.inl (0, 64)), .inr (.inl (0, 64)), .inr (.inl (0, 64)), .inr (.inl (0, 64)), .inl (3, [9, 10, 11, 12, 13, 0]), .inr (.inl (0, 800)), .inr (.inl (0, 800)), .inr (.inl (0, 800)), .inr (.inl (0, 800)), .inr (.inl (0, 800)), .inl (6, [15, 16, 17, 18, 19, 20, 21, 22, 23, 24, 25, 0]), .inr (.inl (0, 3800)), .inr (.inl (0, 3800)), .inr (.inl (0, 3800)), .inr (.inl (0, 3800)), .inr (.inl (0, 3800)), .inr (.inl (0, 3800)), .inr (.inl (0, 3800)), .inr (.inl (0, 3800)), .inr (.inl (0, 3800)), .inr (.inl (0, 3800)), .inr (.inl (0, 40)), .inl (1, [27, 28, 29, 0]), .inr (.inl (0, 100)), .inr (.inl (0, 100)), .inr (.inl (0, 100))]) hR26 dX7_init_45 fl_X7_35 rfl (fun r q => by cases q; rfl) rfl (by decide) (fun _ => rfl) (fun _ => rfl) rfl (fun w29 hR30 hq31 => ?_)
  have hb32 : ∀ k, k < b → w29 k = w k := fun k hk => (hq31 k hk).trans (hb28 k hk)
  refine pm_aload_n dX7_init_48 rfl ?_
  refine rg_mkIN (M := M_X7_init) (Mc := M_X2_init) (dc := 1) (mcc := 1) (msc := 64) (st := [.ref (b + 0)]) (len := 28) (size := 2) (fs := [.null, .int 0, .int 0, .int 0, .int 0]) (t0 := [1, 0, 0, 0, 0]) (shL := shL_Holding) (uL := uL_Holding) (sh' := [.inl (7, [3, 8, 14, 26, 1, 1, 1, 1, 1, 0, 0, 0, 0, 0, 0]), .inl (5, [4, 5, 6, 7]), .inr (.inl (0, 64)), .inr (.inl (0, 64)), .inr (.inl (0, 64)), .inr (.inl (0, 64)), .inl (3, [9, 10, 11, 12, 13, 0]), .inr (.inl (0, 800)), .inr (.inl (0, 800)), .inr (.inl (0, 800)), .inr (.inl (0, 800)), .inr (.inl (0, 800)), .inl (6, [15, 16, 17, 18, 19, 20, 21, 22, 23, 24, 25, 0]), .inr (.inl (0, 3800)), .inr (.inl (0, 3800)), .inr (.inl (0, 3800)), .inr (.inl (0, 3800)), .inr (.inl (0, 3800)), .inr (.inl (0, 3800)), .inr (.inl (0, 3800)), .inr (.inl (0, 3800)), .inr (.inl (0, 3800)), .inr (.inl (0, 3800)), .inr (.inl (0, 40)), .inl (1, [27, 28, 29, 0]), .inr (.inl (0, 100)), .inr (.inl (0, 100)), .inr (.inl (0, 100)), .inl (2, [31, 0, 0, 0, 0]), .inr (.inl (0, 64))]) hR30 dX7_init_49 dX7_init_52 dX7_init_53 cl_X2 nw_X7_39.1 nw_X7_39.2.1 nw_X7_39.2.2 (fun j hj => by match j, hj with | 0, _ => rfl | 1, _ => rfl | 2, _ => rfl | 3, _ => rfl | 4, _ => rfl) rfl ml_X7_41 (by decide) (Nat.le_of_ble_eq_true rfl) (Nat.le_of_ble_eq_true rfl) (Nat.le_of_ble_eq_true rfl) rfl rfl (by omega) rfl rfl (fun w1 h1 => ki_X2_init (by omega) h1) (by decide +kernel) (fun w33 hR34 hq35 => ?_)
  have hb36 : ∀ k, k < b → w33 k = w k := fun k hk => (hq35 k hk).trans (hb32 k hk)
  refine rg_pr (M := M_X7_init) (j := 0) (o := 28) (sh' := [.inl (7, [3, 8, 14, 26, 30, 1, 1, 1, 1, 0, 0, 0, 0, 0, 0]), .inl (5, [4, 5, 6, 7]), .inr (.inl (0, 64)), .inr (.inl (0, 64)), .inr (.inl (0, 64)), .inr (.inl (0, 64)), .inl (3, [9, 10, 11, 12, 13, 0]), .inr (.inl (0, 800)), .inr (.inl (0, 800)), .inr (.inl (0, 800)), .inr (.inl (0, 800)), .inr (.inl (0, 800)), .inl (6, [15, 16, 17, 18, 19, 20, 21, 22, 23, 24, 25, 0]), .inr (.inl (0, 3800)), .inr (.inl (0, 3800)), .inr (.inl (0, 3800)), .inr (.inl (0, 3800)), .inr (.inl (0, 3800)), .inr (.inl (0, 3800)), .inr (.inl (0, 3800)), .inr (.inl (0, 3800)), .inr (.inl (0, 3800)), .inr (.inl (0, 3800)), .inr (.inl (0, 40)), .inl (1, [27, 28, 29, 0]), .inr (.inl (0, 100)), .inr (.inl (0, 100)), .inr (.inl (0, 100)), .inl (2, [31, 0, 0, 0, 0]), .inr (.inl (0, 64))]) hR34 dX7_init_56 fl_X7_42 rfl (fun r q => by cases q; rfl) rfl (by decide) (fun _ => rfl) (fun _ => rfl) rfl (fun w37 hR38 hq39 => ?_)
  have hb40 : ∀ k, k < b → w37 k = w k := fun k hk => (hq39 k hk).trans (hb36 k hk)
  refine pm_aload_n dX7_init_59 rfl ?_
  refine pm_sipush (v := 3001) dX7_init_60 (by decide) ?_
  refine rg_newi (M := M_X7_init) (len := 30) (sh' := [.inl (7, [3, 8, 14, 26, 30, 1, 1, 1, 1, 0, 0, 0, 0, 0, 0]), .inl (5, [4, 5, 6, 7]), .inr (.inl (0, 64)), .inr (.inl (0, 64)), .inr (.inl (0, 64)), .inr (.inl (0, 64)), .inl (3, [9, 10, 11, 12, 13, 0]), .inr (.inl (0, 800)), .inr (.inl (0, 800)), .inr (.inl (0, 800)), .inr (.inl (0, 800)), .inr (.inl (0, 800)), .inl (6, [15, 16, 17, 18, 19, 20, 21, 22, 23, 24, 25, 0]), .inr (.inl (0, 3800)), .inr (.inl (0, 3800)), .inr (.inl (0, 3800)), .inr (.inl (0, 3800)), .inr (.inl (0, 3800)), .inr (.inl (0, 3800)), .inr (.inl (0, 3800)), .inr (.inl (0, 3800)), .inr (.inl (0, 3800)), .inr (.inl (0, 3800)), .inr (.inl (0, 40)), .inl (1, [27, 28, 29, 0]), .inr (.inl (0, 100)), .inr (.inl (0, 100)), .inr (.inl (0, 100)), .inl (2, [31, 0, 0, 0, 0]), .inr (.inl (0, 64)), .inr (.inl (0, 3001))]) hR38 dX7_init_63 ac_int (by decide) (N := 3001) (by decide) (Nat.le_of_ble_eq_true rfl) (Nat.le_of_ble_eq_true rfl) (Nat.le_of_ble_eq_true rfl) rfl rfl (by omega) rfl rfl (fun w41 hR42 hq43 => ?_)
  have hb44 : ∀ k, k < b → w41 k = w k := fun k hk => (hq43 k hk).trans (hb40 k hk)
  refine rg_pr (M := M_X7_init) (j := 0) (o := 30) (sh' := [.inl (7, [3, 8, 14, 26, 30, 32, 1, 1, 1, 0, 0, 0, 0, 0, 0]), .inl (5, [4, 5, 6, 7]), .inr (.inl (0, 64)), .inr (.inl (0, 64)), .inr (.inl (0, 64)), .inr (.inl (0, 64)), .inl (3, [9, 10, 11, 12, 13, 0]), .inr (.inl (0, 800)), .inr (.inl (0, 800)), .inr (.inl (0, 800)), .inr (.inl (0, 800)), .inr (.inl (0, 800)), .inl (6, [15, 16, 17, 18, 19, 20, 21, 22, 23, 24, 25, 0]), .inr (.inl (0, 3800)), .inr (.inl (0, 3800)), .inr (.inl (0, 3800)), .inr (.inl (0, 3800)), .inr (.inl (0, 3800)), .inr (.inl (0, 3800)), .inr (.inl (0, 3800)), .inr (.inl (0, 3800)), .inr (.inl (0, 3800)), .inr (.inl (0, 3800)), .inr (.inl (0, 40)), .inl (1, [27, 28, 29, 0]), .inr (.inl (0, 100)), .inr (.inl (0, 100)), .inr (.inl (0, 100)), .inl (2, [31, 0, 0, 0, 0]), .inr (.inl (0, 64)), .inr (.inl (0, 3001))]) hR42 dX7_init_65 fl_X7_46 rfl (fun r q => by cases q; rfl) rfl (by decide) (fun _ => rfl) (fun _ => rfl) rfl (fun w45 hR46 hq47 => ?_)
  have hb48 : ∀ k, k < b → w45 k = w k := fun k hk => (hq47 k hk).trans (hb44 k hk)
  refine pm_aload_n dX7_init_68 rfl ?_
  refine pm_sipush (v := 3001) dX7_init_69 (by decide) ?_
  refine rg_newi (M := M_X7_init) (len := 31) (sh' := [.inl (7, [3, 8, 14, 26, 30, 32, 1, 1, 1, 0, 0, 0, 0, 0, 0]), .inl (5, [4, 5, 6, 7]), .inr (.inl (0, 64)), .inr (.inl (0, 64)), .inr (.inl (0, 64)), .inr (.inl (0, 64)), .inl (3, [9, 10, 11, 12, 13, 0]), .inr (.inl (0, 800)), .inr (.inl (0, 800)), .inr (.inl (0, 800)), .inr (.inl (0, 800)), .inr (.inl (0, 800)), .inl (6, [15, 16, 17, 18, 19, 20, 21, 22, 23, 24, 25, 0]), .inr (.inl (0, 3800)), .inr (.inl (0, 3800)), .inr (.inl (0, 3800)), .inr (.inl (0, 3800)), .inr (.inl (0, 3800)), .inr (.inl (0, 3800)), .inr (.inl (0, 3800)), .inr (.inl (0, 3800)), .inr (.inl (0, 3800)), .inr (.inl (0, 3800)), .inr (.inl (0, 40)), .inl (1, [27, 28, 29, 0]), .inr (.inl (0, 100)), .inr (.inl (0, 100)), .inr (.inl (0, 100)), .inl (2, [31, 0, 0, 0, 0]), .inr (.inl (0, 64)), .inr (.inl (0, 3001)), .inr (.inl (0, 3001))]) hR46 dX7_init_72 ac_int (by decide) (N := 3001) (by decide) (Nat.le_of_ble_eq_true rfl) (Nat.le_of_ble_eq_true rfl) (Nat.le_of_ble_eq_true rfl) rfl rfl (by omega) rfl rfl (fun w49 hR50 hq51 => ?_)
  have hb52 : ∀ k, k < b → w49 k = w k := fun k hk => (hq51 k hk).trans (hb48 k hk)
  refine rg_pr (M := M_X7_init) (j := 0) (o := 31) (sh' := [.inl (7, [3, 8, 14, 26, 30, 32, 33, 1, 1, 0, 0, 0, 0, 0, 0]), .inl (5, [4, 5, 6, 7]), .inr (.inl (0, 64)), .inr (.inl (0, 64)), .inr (.inl (0, 64)), .inr (.inl (0, 64)), .inl (3, [9, 10, 11, 12, 13, 0]), .inr (.inl (0, 800)), .inr (.inl (0, 800)), .inr (.inl (0, 800)), .inr (.inl (0, 800)), .inr (.inl (0, 800)), .inl (6, [15, 16, 17, 18, 19, 20, 21, 22, 23, 24, 25, 0]), .inr (.inl (0, 3800)), .inr (.inl (0, 3800)), .inr (.inl (0, 3800)), .inr (.inl (0, 3800)), .inr (.inl (0, 3800)), .inr (.inl (0, 3800)), .inr (.inl (0, 3800)), .inr (.inl (0, 3800)), .inr (.inl (0, 3800)), .inr (.inl (0, 3800)), .inr (.inl (0, 40)), .inl (1, [27, 28, 29, 0]), .inr (.inl (0, 100)), .inr (.inl (0, 100)), .inr (.inl (0, 100)), .inl (2, [31, 0, 0, 0, 0]), .inr (.inl (0, 64)), .inr (.inl (0, 3001)), .inr (.inl (0, 3001))]) hR50 dX7_init_74 fl_X7_50 rfl (fun r q => by cases q; rfl) rfl (by decide) (fun _ => rfl) (fun _ => rfl) rfl (fun w53 hR54 hq55 => ?_)
  have hb56 : ∀ k, k < b → w53 k = w k := fun k hk => (hq55 k hk).trans (hb52 k hk)
  refine pm_aload_n dX7_init_77 rfl ?_
  refine pm_sipush (v := 3001) dX7_init_78 (by decide) ?_
  refine rg_newi (M := M_X7_init) (len := 32) (sh' := [.inl (7, [3, 8, 14, 26, 30, 32, 33, 1, 1, 0, 0, 0, 0, 0, 0]), .inl (5, [4, 5, 6, 7]), .inr (.inl (0, 64)), .inr (.inl (0, 64)), .inr (.inl (0, 64)), .inr (.inl (0, 64)), .inl (3, [9, 10, 11, 12, 13, 0]), .inr (.inl (0, 800)), .inr (.inl (0, 800)), .inr (.inl (0, 800)), .inr (.inl (0, 800)), .inr (.inl (0, 800)), .inl (6, [15, 16, 17, 18, 19, 20, 21, 22, 23, 24, 25, 0]), .inr (.inl (0, 3800)), .inr (.inl (0, 3800)), .inr (.inl (0, 3800)), .inr (.inl (0, 3800)), .inr (.inl (0, 3800)), .inr (.inl (0, 3800)), .inr (.inl (0, 3800)), .inr (.inl (0, 3800)), .inr (.inl (0, 3800)), .inr (.inl (0, 3800)), .inr (.inl (0, 40)), .inl (1, [27, 28, 29, 0]), .inr (.inl (0, 100)), .inr (.inl (0, 100)), .inr (.inl (0, 100)), .inl (2, [31, 0, 0, 0, 0]), .inr (.inl (0, 64)), .inr (.inl (0, 3001)), .inr (.inl (0, 3001)), .inr (.inl (0, 3001))]) hR54 dX7_init_81 ac_int (by decide) (N := 3001) (by decide) (Nat.le_of_ble_eq_true rfl) (Nat.le_of_ble_eq_true rfl) (Nat.le_of_ble_eq_true rfl) rfl rfl (by omega) rfl rfl (fun w57 hR58 hq59 => ?_)
  have hb60 : ∀ k, k < b → w57 k = w k := fun k hk => (hq59 k hk).trans (hb56 k hk)
  refine rg_pr (M := M_X7_init) (j := 0) (o := 32) (sh' := [.inl (7, [3, 8, 14, 26, 30, 32, 33, 34, 1, 0, 0, 0, 0, 0, 0]), .inl (5, [4, 5, 6, 7]), .inr (.inl (0, 64)), .inr (.inl (0, 64)), .inr (.inl (0, 64)), .inr (.inl (0, 64)), .inl (3, [9, 10, 11, 12, 13, 0]), .inr (.inl (0, 800)), .inr (.inl (0, 800)), .inr (.inl (0, 800)), .inr (.inl (0, 800)), .inr (.inl (0, 800)), .inl (6, [15, 16, 17, 18, 19, 20, 21, 22, 23, 24, 25, 0]), .inr (.inl (0, 3800)), .inr (.inl (0, 3800)), .inr (.inl (0, 3800)), .inr (.inl (0, 3800)), .inr (.inl (0, 3800)), .inr (.inl (0, 3800)), .inr (.inl (0, 3800)), .inr (.inl (0, 3800)), .inr (.inl (0, 3800)), .inr (.inl (0, 3800)), .inr (.inl (0, 40)), .inl (1, [27, 28, 29, 0]), .inr (.inl (0, 100)), .inr (.inl (0, 100)), .inr (.inl (0, 100)), .inl (2, [31, 0, 0, 0, 0]), .inr (.inl (0, 64)), .inr (.inl (0, 3001)), .inr (.inl (0, 3001)), .inr (.inl (0, 3001))]) hR58 dX7_init_83 fl_X7_53 rfl (fun r q => by cases q; rfl) rfl (by decide) (fun _ => rfl) (fun _ => rfl) rfl (fun w61 hR62 hq63 => ?_)
  have hb64 : ∀ k, k < b → w61 k = w k := fun k hk => (hq63 k hk).trans (hb60 k hk)
  refine pm_aload_n dX7_init_86 rfl ?_
  refine pm_sipush (v := 3001) dX7_init_87 (by decide) ?_
  refine rg_newi (M := M_X7_init) (len := 33) (sh' := [.inl (7, [3, 8, 14, 26, 30, 32, 33, 34, 1, 0, 0, 0, 0, 0, 0]), .inl (5, [4, 5, 6, 7]), .inr (.inl (0, 64)), .inr (.inl (0, 64)), .inr (.inl (0, 64)), .inr (.inl (0, 64)), .inl (3, [9, 10, 11, 12, 13, 0]), .inr (.inl (0, 800)), .inr (.inl (0, 800)), .inr (.inl (0, 800)), .inr (.inl (0, 800)), .inr (.inl (0, 800)), .inl (6, [15, 16, 17, 18, 19, 20, 21, 22, 23, 24, 25, 0]), .inr (.inl (0, 3800)), .inr (.inl (0, 3800)), .inr (.inl (0, 3800)), .inr (.inl (0, 3800)), .inr (.inl (0, 3800)), .inr (.inl (0, 3800)), .inr (.inl (0, 3800)), .inr (.inl (0, 3800)), .inr (.inl (0, 3800)), .inr (.inl (0, 3800)), .inr (.inl (0, 40)), .inl (1, [27, 28, 29, 0]), .inr (.inl (0, 100)), .inr (.inl (0, 100)), .inr (.inl (0, 100)), .inl (2, [31, 0, 0, 0, 0]), .inr (.inl (0, 64)), .inr (.inl (0, 3001)), .inr (.inl (0, 3001)), .inr (.inl (0, 3001)), .inr (.inl (0, 3001))]) hR62 dX7_init_90 ac_int (by decide) (N := 3001) (by decide) (Nat.le_of_ble_eq_true rfl) (Nat.le_of_ble_eq_true rfl) (Nat.le_of_ble_eq_true rfl) rfl rfl (by omega) rfl rfl (fun w65 hR66 hq67 => ?_)
  have hb68 : ∀ k, k < b → w65 k = w k := fun k hk => (hq67 k hk).trans (hb64 k hk)
  refine rg_pr (M := M_X7_init) (j := 0) (o := 33) (sh' := [.inl (7, [3, 8, 14, 26, 30, 32, 33, 34, 35, 0, 0, 0, 0, 0, 0]), .inl (5, [4, 5, 6, 7]), .inr (.inl (0, 64)), .inr (.inl (0, 64)), .inr (.inl (0, 64)), .inr (.inl (0, 64)), .inl (3, [9, 10, 11, 12, 13, 0]), .inr (.inl (0, 800)), .inr (.inl (0, 800)), .inr (.inl (0, 800)), .inr (.inl (0, 800)), .inr (.inl (0, 800)), .inl (6, [15, 16, 17, 18, 19, 20, 21, 22, 23, 24, 25, 0]), .inr (.inl (0, 3800)), .inr (.inl (0, 3800)), .inr (.inl (0, 3800)), .inr (.inl (0, 3800)), .inr (.inl (0, 3800)), .inr (.inl (0, 3800)), .inr (.inl (0, 3800)), .inr (.inl (0, 3800)), .inr (.inl (0, 3800)), .inr (.inl (0, 3800)), .inr (.inl (0, 40)), .inl (1, [27, 28, 29, 0]), .inr (.inl (0, 100)), .inr (.inl (0, 100)), .inr (.inl (0, 100)), .inl (2, [31, 0, 0, 0, 0]), .inr (.inl (0, 64)), .inr (.inl (0, 3001)), .inr (.inl (0, 3001)), .inr (.inl (0, 3001)), .inr (.inl (0, 3001))]) hR66 dX7_init_92 fl_X7_56 rfl (fun r q => by cases q; rfl) rfl (by decide) (fun _ => rfl) (fun _ => rfl) rfl (fun w69 hR70 hq71 => ?_)
  have hb72 : ∀ k, k < b → w69 k = w k := fun k hk => (hq71 k hk).trans (hb68 k hk)
  refine pm_aload_n dX7_init_95 rfl ?_
  refine pm_iconst (v := 0) dX7_init_96 (by decide) ?_
  refine rg_pi (M := M_X7_init) (j := 0) hR70 dX7_init_97 fl_X7_59 rfl rfl (fun w73 hR74 hq75 => ?_)
  have hb76 : ∀ k, k < b → w73 k = w k := fun k hk => (hq75 k (Or.inl hk)).trans (hb72 k hk)
  refine pm_aload_n dX7_init_100 rfl ?_
  refine pm_iconst (v := 0) dX7_init_101 (by decide) ?_
  refine rg_pi (M := M_X7_init) (j := 0) hR74 dX7_init_102 fl_X7_63 rfl rfl (fun w77 hR78 hq79 => ?_)
  have hb80 : ∀ k, k < b → w77 k = w k := fun k hk => (hq79 k (Or.inl hk)).trans (hb76 k hk)
  refine pm_aload_n dX7_init_105 rfl ?_
  refine pm_iconst (v := (-1)) dX7_init_106 (by decide) ?_
  refine rg_pi (M := M_X7_init) (j := 0) hR78 dX7_init_107 fl_X7_66 rfl rfl (fun w81 hR82 hq83 => ?_)
  have hb84 : ∀ k, k < b → w81 k = w k := fun k hk => (hq83 k (Or.inl hk)).trans (hb80 k hk)
  refine pm_aload_n dX7_init_110 rfl ?_
  refine pm_iconst (v := 0) dX7_init_111 (by decide) ?_
  refine rg_pi (M := M_X7_init) (j := 0) hR82 dX7_init_112 fl_X7_69 rfl rfl (fun w85 hR86 hq87 => ?_)
  have hb88 : ∀ k, k < b → w85 k = w k := fun k hk => (hq87 k (Or.inl hk)).trans (hb84 k hk)
  refine pm_aload_n dX7_init_115 rfl ?_
  refine pm_iconst (v := 0) dX7_init_116 (by decide) ?_
  refine rg_pi (M := M_X7_init) (j := 0) hR86 dX7_init_117 fl_X7_72 rfl rfl (fun w89 hR90 hq91 => ?_)
  have hb92 : ∀ k, k < b → w89 k = w k := fun k hk => (hq91 k (Or.inl hk)).trans (hb88 k hk)
  refine pm_aload_n dX7_init_120 rfl ?_
  refine pm_iconst (v := 0) dX7_init_121 (by decide) ?_
  refine rg_pi (M := M_X7_init) (j := 0) hR90 dX7_init_122 fl_X7_75 rfl rfl (fun w93 hR94 hq95 => ?_)
  have hb96 : ∀ k, k < b → w93 k = w k := fun k hk => (hq95 k (Or.inl hk)).trans (hb92 k hk)
  exact pm_vret dX7_init_125 rfl (Nat.le_of_ble_eq_true rfl) (Nat.le_of_ble_eq_true rfl) ⟨rfl, rfl, hR94, hb96⟩
