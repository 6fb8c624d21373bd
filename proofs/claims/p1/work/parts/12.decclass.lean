theorem dX0_init_0 : decode cX0_init 0 = .ok (.aload_n 0, 1) := by decide +kernel
theorem dX0_init_1 : decode cX0_init 1 = .ok (.invokespecial 3, 3) := by decide +kernel
theorem dX0_init_4 : decode cX0_init 4 = .ok (.aload_n 0, 1) := by decide +kernel
theorem dX0_init_5 : decode cX0_init 5 = .ok (.bipush 101, 2) := by decide +kernel
theorem dX0_init_7 : decode cX0_init 7 = .ok (.bipush 101, 2) := by decide +kernel
theorem dX0_init_9 : decode cX0_init 9 = .ok (.multianewarray 9 2, 4) := by decide +kernel
theorem dX0_init_13 : decode cX0_init 13 = .ok (.putfield 11, 3) := by decide +kernel
theorem dX0_init_16 : decode cX0_init 16 = .ok (.aload_n 0, 1) := by decide +kernel
theorem dX0_init_17 : decode cX0_init 17 = .ok (.bipush 100, 2) := by decide +kernel
theorem dX0_init_19 : decode cX0_init 19 = .ok (.newarray .int, 2) := by decide +kernel
theorem dX0_init_21 : decode cX0_init 21 = .ok (.putfield 16, 3) := by decide +kernel
theorem dX0_init_24 : decode cX0_init 24 = .ok (.aload_n 0, 1) := by decide +kernel
theorem dX0_init_25 : decode cX0_init 25 = .ok (.bipush 100, 2) := by decide +kernel
theorem dX0_init_27 : decode cX0_init 27 = .ok (.newarray .int, 2) := by decide +kernel
theorem dX0_init_29 : decode cX0_init 29 = .ok (.putfield 20, 3) := by decide +kernel
theorem dX0_init_32 : decode cX0_init 32 = .ok (.aload_n 0, 1) := by decide +kernel
theorem dX0_init_33 : decode cX0_init 33 = .ok (.iconst 0, 1) := by decide +kernel
theorem dX0_init_34 : decode cX0_init 34 = .ok (.putfield 23, 3) := by decide +kernel
theorem dX0_init_37 : decode cX0_init 37 = .ok (.aload_n 0, 1) := by decide +kernel
theorem dX0_init_38 : decode cX0_init 38 = .ok (.bipush 40, 2) := by decide +kernel
theorem dX0_init_40 : decode cX0_init 40 = .ok (.newarray .int, 2) := by decide +kernel
theorem dX0_init_42 : decode cX0_init 42 = .ok (.putfield 27, 3) := by decide +kernel
theorem dX0_init_45 : decode cX0_init 45 = .ok (.aload_n 0, 1) := by decide +kernel
theorem dX0_init_46 : decode cX0_init 46 = .ok (.bipush 40, 2) := by decide +kernel
theorem dX0_init_48 : decode cX0_init 48 = .ok (.newarray .int, 2) := by decide +kernel
theorem dX0_init_50 : decode cX0_init 50 = .ok (.putfield 30, 3) := by decide +kernel
theorem dX0_init_53 : decode cX0_init 53 = .ok (.return_, 1) := by decide +kernel
theorem dX0_has_0 : decode cX0_has 0 = .ok (.iload_n 1, 1) := by decide +kernel
theorem dX0_has_1 : decode cX0_has 1 = .ok (.ifCond .lt 21, 3) := by decide +kernel
theorem dX0_has_4 : decode cX0_has 4 = .ok (.iload_n 1, 1) := by decide +kernel
theorem dX0_has_5 : decode cX0_has 5 = .ok (.aload_n 0, 1) := by decide +kernel
theorem dX0_has_6 : decode cX0_has 6 = .ok (.getfield 23, 3) := by decide +kernel
theorem dX0_has_9 : decode cX0_has 9 = .ok (.if_icmp .ge 13, 3) := by decide +kernel
theorem dX0_has_12 : decode cX0_has 12 = .ok (.iload_n 1, 1) := by decide +kernel
theorem dX0_has_13 : decode cX0_has 13 = .ok (.bipush 100, 2) := by decide +kernel
theorem dX0_has_15 : decode cX0_has 15 = .ok (.if_icmp .ge 7, 3) := by decide +kernel
theorem dX0_has_18 : decode cX0_has 18 = .ok (.iconst 1, 1) := by decide +kernel
theorem dX0_has_19 : decode cX0_has 19 = .ok (.goto 4, 3) := by decide +kernel
theorem dX0_has_22 : decode cX0_has 22 = .ok (.iconst 0, 1) := by decide +kernel
theorem dX0_has_23 : decode cX0_has 23 = .ok (.ireturn, 1) := by decide +kernel
theorem dX0_callOfOne_0 : decode cX0_callOfOne 0 = .ok (.aload_n 0, 1) := by decide +kernel
theorem dX0_callOfOne_1 : decode cX0_callOfOne 1 = .ok (.iload_n 1, 1) := by decide +kernel
theorem dX0_callOfOne_2 : decode cX0_callOfOne 2 = .ok (.invokevirtual 33, 3) := by decide +kernel
theorem dX0_callOfOne_5 : decode cX0_callOfOne 5 = .ok (.ifCond .eq 12, 3) := by decide +kernel
theorem dX0_callOfOne_8 : decode cX0_callOfOne 8 = .ok (.aload_n 0, 1) := by decide +kernel
theorem dX0_callOfOne_9 : decode cX0_callOfOne 9 = .ok (.getfield 16, 3) := by decide +kernel
theorem dX0_callOfOne_12 : decode cX0_callOfOne 12 = .ok (.iload_n 1, 1) := by decide +kernel
theorem dX0_callOfOne_13 : decode cX0_callOfOne 13 = .ok (.iaload, 1) := by decide +kernel
theorem dX0_callOfOne_14 : decode cX0_callOfOne 14 = .ok (.goto 4, 3) := by decide +kernel
theorem dX0_callOfOne_17 : decode cX0_callOfOne 17 = .ok (.iconst (-1), 1) := by decide +kernel
theorem dX0_callOfOne_18 : decode cX0_callOfOne 18 = .ok (.ireturn, 1) := by decide +kernel
theorem dX0_callOfOther_0 : decode cX0_callOfOther 0 = .ok (.aload_n 0, 1) := by decide +kernel
theorem dX0_callOfOther_1 : decode cX0_callOfOther 1 = .ok (.iload_n 1, 1) := by decide +kernel
theorem dX0_callOfOther_2 : decode cX0_callOfOther 2 = .ok (.invokevirtual 33, 3) := by decide +kernel
theorem dX0_callOfOther_5 : decode cX0_callOfOther 5 = .ok (.ifCond .eq 12, 3) := by decide +kernel
theorem dX0_callOfOther_8 : decode cX0_callOfOther 8 = .ok (.aload_n 0, 1) := by decide +kernel
theorem dX0_callOfOther_9 : decode cX0_callOfOther 9 = .ok (.getfield 20, 3) := by decide +kernel
theorem dX0_callOfOther_12 : decode cX0_callOfOther 12 = .ok (.iload_n 1, 1) := by decide +kernel
theorem dX0_callOfOther_13 : decode cX0_callOfOther 13 = .ok (.iaload, 1) := by decide +kernel
theorem dX0_callOfOther_14 : decode cX0_callOfOther 14 = .ok (.goto 4, 3) := by decide +kernel
theorem dX0_callOfOther_17 : decode cX0_callOfOther 17 = .ok (.iconst (-1), 1) := by decide +kernel
theorem dX0_callOfOther_18 : decode cX0_callOfOther 18 = .ok (.ireturn, 1) := by decide +kernel
theorem dX0_lay_0 : decode cX0_lay 0 = .ok (.aload_n 1, 1) := by decide +kernel
theorem dX0_lay_1 : decode cX0_lay 1 = .ok (.getfield 37, 3) := by decide +kernel
theorem dX0_lay_4 : decode cX0_lay 4 = .ok (.bipush 100, 2) := by decide +kernel
theorem dX0_lay_6 : decode cX0_lay 6 = .ok (.invokestatic 42, 3) := by decide +kernel
theorem dX0_lay_9 : decode cX0_lay 9 = .ok (.istore_n 3, 1) := by decide +kernel
theorem dX0_lay_10 : decode cX0_lay 10 = .ok (.aload_n 2, 1) := by decide +kernel
theorem dX0_lay_11 : decode cX0_lay 11 = .ok (.getfield 37, 3) := by decide +kernel
theorem dX0_lay_14 : decode cX0_lay 14 = .ok (.bipush 100, 2) := by decide +kernel
theorem dX0_lay_16 : decode cX0_lay 16 = .ok (.invokestatic 42, 3) := by decide +kernel
theorem dX0_lay_19 : decode cX0_lay 19 = .ok (.istore 4, 2) := by decide +kernel
theorem dX0_lay_21 : decode cX0_lay 21 = .ok (.aload_n 0, 1) := by decide +kernel
theorem dX0_lay_22 : decode cX0_lay 22 = .ok (.aload_n 1, 1) := by decide +kernel
theorem dX0_lay_23 : decode cX0_lay 23 = .ok (.iload_n 3, 1) := by decide +kernel
theorem dX0_lay_24 : decode cX0_lay 24 = .ok (.aload_n 2, 1) := by decide +kernel
theorem dX0_lay_25 : decode cX0_lay 25 = .ok (.iload 4, 2) := by decide +kernel
theorem dX0_lay_27 : decode cX0_lay 27 = .ok (.invokevirtual 48, 3) := by decide +kernel
theorem dX0_lay_30 : decode cX0_lay 30 = .ok (.aload_n 0, 1) := by decide +kernel
theorem dX0_lay_31 : decode cX0_lay 31 = .ok (.aload_n 1, 1) := by decide +kernel
theorem dX0_lay_32 : decode cX0_lay 32 = .ok (.iload_n 3, 1) := by decide +kernel
theorem dX0_lay_33 : decode cX0_lay 33 = .ok (.aload_n 2, 1) := by decide +kernel
theorem dX0_lay_34 : decode cX0_lay 34 = .ok (.iload 4, 2) := by decide +kernel
theorem dX0_lay_36 : decode cX0_lay 36 = .ok (.invokevirtual 52, 3) := by decide +kernel
theorem dX0_lay_39 : decode cX0_lay 39 = .ok (.return_, 1) := by decide +kernel
theorem dX0_countPairs_0 : decode cX0_countPairs 0 = .ok (.aload_n 0, 1) := by decide +kernel
theorem dX0_countPairs_1 : decode cX0_countPairs 1 = .ok (.getfield 11, 3) := by decide +kernel
theorem dX0_countPairs_4 : decode cX0_countPairs 4 = .ok (.iload_n 2, 1) := by decide +kernel
theorem dX0_countPairs_5 : decode cX0_countPairs 5 = .ok (.aaload, 1) := by decide +kernel
theorem dX0_countPairs_6 : decode cX0_countPairs 6 = .ok (.iconst 0, 1) := by decide +kernel
theorem dX0_countPairs_7 : decode cX0_countPairs 7 = .ok (.invokestatic 55, 3) := by decide +kernel
theorem dX0_countPairs_10 : decode cX0_countPairs 10 = .ok (.iload_n 2, 1) := by decide +kernel
theorem dX0_countPairs_11 : decode cX0_countPairs 11 = .ok (.iconst 1, 1) := by decide +kernel
theorem dX0_countPairs_12 : decode cX0_countPairs 12 = .ok (.isub, 1) := by decide +kernel
theorem dX0_countPairs_13 : decode cX0_countPairs 13 = .ok (.istore 5, 2) := by decide +kernel
theorem dX0_countPairs_15 : decode cX0_countPairs 15 = .ok (.iload 5, 2) := by decide +kernel
theorem dX0_countPairs_17 : decode cX0_countPairs 17 = .ok (.ifCond .lt 117, 3) := by decide +kernel
theorem dX0_countPairs_20 : decode cX0_countPairs 20 = .ok (.aload_n 0, 1) := by decide +kernel
theorem dX0_countPairs_21 : decode cX0_countPairs 21 = .ok (.getfield 11, 3) := by decide +kernel
theorem dX0_countPairs_24 : decode cX0_countPairs 24 = .ok (.iload 5, 2) := by decide +kernel
theorem dX0_countPairs_26 : decode cX0_countPairs 26 = .ok (.aaload, 1) := by decide +kernel
theorem dX0_countPairs_27 : decode cX0_countPairs 27 = .ok (.iload 4, 2) := by decide +kernel
theorem dX0_countPairs_29 : decode cX0_countPairs 29 = .ok (.iconst 0, 1) := by decide +kernel
theorem dX0_countPairs_30 : decode cX0_countPairs 30 = .ok (.iastore, 1) := by decide +kernel
theorem dX0_countPairs_31 : decode cX0_countPairs 31 = .ok (.iload 4, 2) := by decide +kernel
theorem dX0_countPairs_33 : decode cX0_countPairs 33 = .ok (.iconst 1, 1) := by decide +kernel
theorem dX0_countPairs_34 : decode cX0_countPairs 34 = .ok (.isub, 1) := by decide +kernel
theorem dX0_countPairs_35 : decode cX0_countPairs 35 = .ok (.istore 6, 2) := by decide +kernel
theorem dX0_countPairs_37 : decode cX0_countPairs 37 = .ok (.iload 6, 2) := by decide +kernel
theorem dX0_countPairs_39 : decode cX0_countPairs 39 = .ok (.ifCond .lt 89, 3) := by decide +kernel
theorem dX0_countPairs_42 : decode cX0_countPairs 42 = .ok (.aload_n 0, 1) := by decide +kernel
theorem dX0_countPairs_43 : decode cX0_countPairs 43 = .ok (.getfield 11, 3) := by decide +kernel
theorem dX0_countPairs_46 : decode cX0_countPairs 46 = .ok (.iload 5, 2) := by decide +kernel
theorem dX0_countPairs_48 : decode cX0_countPairs 48 = .ok (.iconst 1, 1) := by decide +kernel
theorem dX0_countPairs_49 : decode cX0_countPairs 49 = .ok (.iadd, 1) := by decide +kernel
theorem dX0_countPairs_50 : decode cX0_countPairs 50 = .ok (.aaload, 1) := by decide +kernel
theorem dX0_countPairs_51 : decode cX0_countPairs 51 = .ok (.iload 6, 2) := by decide +kernel
theorem dX0_countPairs_53 : decode cX0_countPairs 53 = .ok (.iaload, 1) := by decide +kernel
theorem dX0_countPairs_54 : decode cX0_countPairs 54 = .ok (.aload_n 0, 1) := by decide +kernel
theorem dX0_countPairs_55 : decode cX0_countPairs 55 = .ok (.getfield 11, 3) := by decide +kernel
theorem dX0_countPairs_58 : decode cX0_countPairs 58 = .ok (.iload 5, 2) := by decide +kernel
theorem dX0_countPairs_60 : decode cX0_countPairs 60 = .ok (.aaload, 1) := by decide +kernel
theorem dX0_countPairs_61 : decode cX0_countPairs 61 = .ok (.iload 6, 2) := by decide +kernel
theorem dX0_countPairs_63 : decode cX0_countPairs 63 = .ok (.iconst 1, 1) := by decide +kernel
theorem dX0_countPairs_64 : decode cX0_countPairs 64 = .ok (.iadd, 1) := by decide +kernel
theorem dX0_countPairs_65 : decode cX0_countPairs 65 = .ok (.iaload, 1) := by decide +kernel
theorem dX0_countPairs_66 : decode cX0_countPairs 66 = .ok (.invokestatic 61, 3) := by decide +kernel
theorem dX0_countPairs_69 : decode cX0_countPairs 69 = .ok (.istore 7, 2) := by decide +kernel
theorem dX0_countPairs_71 : decode cX0_countPairs 71 = .ok (.aload_n 1, 1) := by decide +kernel
theorem dX0_countPairs_72 : decode cX0_countPairs 72 = .ok (.iload 5, 2) := by decide +kernel
theorem dX0_countPairs_74 : decode cX0_countPairs 74 = .ok (.aload_n 3, 1) := by decide +kernel
theorem dX0_countPairs_75 : decode cX0_countPairs 75 = .ok (.iload 6, 2) := by decide +kernel
theorem dX0_countPairs_77 : decode cX0_countPairs 77 = .ok (.invokevirtual 64, 3) := by decide +kernel
theorem dX0_countPairs_80 : decode cX0_countPairs 80 = .ok (.ifCond .eq 22, 3) := by decide +kernel
theorem dX0_countPairs_83 : decode cX0_countPairs 83 = .ok (.iconst 1, 1) := by decide +kernel
theorem dX0_countPairs_84 : decode cX0_countPairs 84 = .ok (.aload_n 0, 1) := by decide +kernel
theorem dX0_countPairs_85 : decode cX0_countPairs 85 = .ok (.getfield 11, 3) := by decide +kernel
theorem dX0_countPairs_88 : decode cX0_countPairs 88 = .ok (.iload 5, 2) := by decide +kernel
theorem dX0_countPairs_90 : decode cX0_countPairs 90 = .ok (.iconst 1, 1) := by decide +kernel
theorem dX0_countPairs_91 : decode cX0_countPairs 91 = .ok (.iadd, 1) := by decide +kernel
theorem dX0_countPairs_92 : decode cX0_countPairs 92 = .ok (.aaload, 1) := by decide +kernel
theorem dX0_countPairs_93 : decode cX0_countPairs 93 = .ok (.iload 6, 2) := by decide +kernel
theorem dX0_countPairs_95 : decode cX0_countPairs 95 = .ok (.iconst 1, 1) := by decide +kernel
theorem dX0_countPairs_96 : decode cX0_countPairs 96 = .ok (.iadd, 1) := by decide +kernel
theorem dX0_countPairs_97 : decode cX0_countPairs 97 = .ok (.iaload, 1) := by decide +kernel
theorem dX0_countPairs_98 : decode cX0_countPairs 98 = .ok (.iadd, 1) := by decide +kernel
theorem dX0_countPairs_99 : decode cX0_countPairs 99 = .ok (.goto 4, 3) := by decide +kernel
theorem dX0_countPairs_102 : decode cX0_countPairs 102 = .ok (.iconst 0, 1) := by decide +kernel
theorem dX0_countPairs_103 : decode cX0_countPairs 103 = .ok (.istore 8, 2) := by decide +kernel
theorem dX0_countPairs_105 : decode cX0_countPairs 105 = .ok (.aload_n 0, 1) := by decide +kernel
theorem dX0_countPairs_106 : decode cX0_countPairs 106 = .ok (.getfield 11, 3) := by decide +kernel
theorem dX0_countPairs_109 : decode cX0_countPairs 109 = .ok (.iload 5, 2) := by decide +kernel
theorem dX0_countPairs_111 : decode cX0_countPairs 111 = .ok (.aaload, 1) := by decide +kernel
theorem dX0_countPairs_112 : decode cX0_countPairs 112 = .ok (.iload 6, 2) := by decide +kernel
theorem dX0_countPairs_114 : decode cX0_countPairs 114 = .ok (.iload 7, 2) := by decide +kernel
theorem dX0_countPairs_116 : decode cX0_countPairs 116 = .ok (.iload 8, 2) := by decide +kernel
theorem dX0_countPairs_118 : decode cX0_countPairs 118 = .ok (.invokestatic 61, 3) := by decide +kernel
theorem dX0_countPairs_121 : decode cX0_countPairs 121 = .ok (.iastore, 1) := by decide +kernel
theorem dX0_countPairs_122 : decode cX0_countPairs 122 = .ok (.iinc 6 (-1), 3) := by decide +kernel
theorem dX0_countPairs_125 : decode cX0_countPairs 125 = .ok (.goto (-88), 3) := by decide +kernel
theorem dX0_countPairs_128 : decode cX0_countPairs 128 = .ok (.iinc 5 (-1), 3) := by decide +kernel
theorem dX0_countPairs_131 : decode cX0_countPairs 131 = .ok (.goto (-116), 3) := by decide +kernel
theorem dX0_countPairs_134 : decode cX0_countPairs 134 = .ok (.return_, 1) := by decide +kernel
theorem dX0_choosePairs_0 : decode cX0_choosePairs 0 = .ok (.aload_n 0, 1) := by decide +kernel
theorem dX0_choosePairs_1 : decode cX0_choosePairs 1 = .ok (.iconst 0, 1) := by decide +kernel
theorem dX0_choosePairs_2 : decode cX0_choosePairs 2 = .ok (.putfield 23, 3) := by decide +kernel
theorem dX0_choosePairs_5 : decode cX0_choosePairs 5 = .ok (.iconst 0, 1) := by decide +kernel
theorem dX0_choosePairs_6 : decode cX0_choosePairs 6 = .ok (.istore 5, 2) := by decide +kernel
theorem dX0_choosePairs_8 : decode cX0_choosePairs 8 = .ok (.iconst 0, 1) := by decide +kernel
theorem dX0_choosePairs_9 : decode cX0_choosePairs 9 = .ok (.istore 6, 2) := by decide +kernel
theorem dX0_choosePairs_11 : decode cX0_choosePairs 11 = .ok (.iload 6, 2) := by decide +kernel
theorem dX0_choosePairs_13 : decode cX0_choosePairs 13 = .ok (.iload_n 2, 1) := by decide +kernel
theorem dX0_choosePairs_14 : decode cX0_choosePairs 14 = .ok (.if_icmp .ge 121, 3) := by decide +kernel
theorem dX0_choosePairs_17 : decode cX0_choosePairs 17 = .ok (.aload_n 0, 1) := by decide +kernel
theorem dX0_choosePairs_18 : decode cX0_choosePairs 18 = .ok (.getfield 23, 3) := by decide +kernel
theorem dX0_choosePairs_21 : decode cX0_choosePairs 21 = .ok (.bipush 100, 2) := by decide +kernel
theorem dX0_choosePairs_23 : decode cX0_choosePairs 23 = .ok (.if_icmp .ge 112, 3) := by decide +kernel
theorem dX0_choosePairs_26 : decode cX0_choosePairs 26 = .ok (.iload 5, 2) := by decide +kernel
theorem dX0_choosePairs_28 : decode cX0_choosePairs 28 = .ok (.istore 7, 2) := by decide +kernel
theorem dX0_choosePairs_30 : decode cX0_choosePairs 30 = .ok (.iload 7, 2) := by decide +kernel
theorem dX0_choosePairs_32 : decode cX0_choosePairs 32 = .ok (.iload 4, 2) := by decide +kernel
theorem dX0_choosePairs_34 : decode cX0_choosePairs 34 = .ok (.if_icmp .ge 50, 3) := by decide +kernel
theorem dX0_choosePairs_37 : decode cX0_choosePairs 37 = .ok (.aload_n 1, 1) := by decide +kernel
theorem dX0_choosePairs_38 : decode cX0_choosePairs 38 = .ok (.iload 6, 2) := by decide +kernel
theorem dX0_choosePairs_40 : decode cX0_choosePairs 40 = .ok (.aload_n 3, 1) := by decide +kernel
theorem dX0_choosePairs_41 : decode cX0_choosePairs 41 = .ok (.iload 7, 2) := by decide +kernel
theorem dX0_choosePairs_43 : decode cX0_choosePairs 43 = .ok (.invokevirtual 64, 3) := by decide +kernel
theorem dX0_choosePairs_46 : decode cX0_choosePairs 46 = .ok (.ifCond .eq 32, 3) := by decide +kernel
theorem dX0_choosePairs_49 : decode cX0_choosePairs 49 = .ok (.iconst 1, 1) := by decide +kernel
theorem dX0_choosePairs_50 : decode cX0_choosePairs 50 = .ok (.aload_n 0, 1) := by decide +kernel
theorem dX0_choosePairs_51 : decode cX0_choosePairs 51 = .ok (.getfield 11, 3) := by decide +kernel
theorem dX0_choosePairs_54 : decode cX0_choosePairs 54 = .ok (.iload 6, 2) := by decide +kernel
theorem dX0_choosePairs_56 : decode cX0_choosePairs 56 = .ok (.iconst 1, 1) := by decide +kernel
theorem dX0_choosePairs_57 : decode cX0_choosePairs 57 = .ok (.iadd, 1) := by decide +kernel
theorem dX0_choosePairs_58 : decode cX0_choosePairs 58 = .ok (.aaload, 1) := by decide +kernel
theorem dX0_choosePairs_59 : decode cX0_choosePairs 59 = .ok (.iload 7, 2) := by decide +kernel
theorem dX0_choosePairs_61 : decode cX0_choosePairs 61 = .ok (.iconst 1, 1) := by decide +kernel
theorem dX0_choosePairs_62 : decode cX0_choosePairs 62 = .ok (.iadd, 1) := by decide +kernel
theorem dX0_choosePairs_63 : decode cX0_choosePairs 63 = .ok (.iaload, 1) := by decide +kernel
theorem dX0_choosePairs_64 : decode cX0_choosePairs 64 = .ok (.iadd, 1) := by decide +kernel
theorem dX0_choosePairs_65 : decode cX0_choosePairs 65 = .ok (.aload_n 0, 1) := by decide +kernel
theorem dX0_choosePairs_66 : decode cX0_choosePairs 66 = .ok (.getfield 11, 3) := by decide +kernel
theorem dX0_choosePairs_69 : decode cX0_choosePairs 69 = .ok (.iload 6, 2) := by decide +kernel
theorem dX0_choosePairs_71 : decode cX0_choosePairs 71 = .ok (.aaload, 1) := by decide +kernel
theorem dX0_choosePairs_72 : decode cX0_choosePairs 72 = .ok (.iload 5, 2) := by decide +kernel
theorem dX0_choosePairs_74 : decode cX0_choosePairs 74 = .ok (.iaload, 1) := by decide +kernel
theorem dX0_choosePairs_75 : decode cX0_choosePairs 75 = .ok (.if_icmp .eq 9, 3) := by decide +kernel
theorem dX0_choosePairs_78 : decode cX0_choosePairs 78 = .ok (.iinc 7 1, 3) := by decide +kernel
theorem dX0_choosePairs_81 : decode cX0_choosePairs 81 = .ok (.goto (-51), 3) := by decide +kernel
theorem dX0_choosePairs_84 : decode cX0_choosePairs 84 = .ok (.iload 7, 2) := by decide +kernel
theorem dX0_choosePairs_86 : decode cX0_choosePairs 86 = .ok (.iload 4, 2) := by decide +kernel
theorem dX0_choosePairs_88 : decode cX0_choosePairs 88 = .ok (.if_icmp .ge 41, 3) := by decide +kernel
theorem dX0_choosePairs_91 : decode cX0_choosePairs 91 = .ok (.aload_n 0, 1) := by decide +kernel
theorem dX0_choosePairs_92 : decode cX0_choosePairs 92 = .ok (.getfield 16, 3) := by decide +kernel
theorem dX0_choosePairs_95 : decode cX0_choosePairs 95 = .ok (.aload_n 0, 1) := by decide +kernel
theorem dX0_choosePairs_96 : decode cX0_choosePairs 96 = .ok (.getfield 23, 3) := by decide +kernel
theorem dX0_choosePairs_99 : decode cX0_choosePairs 99 = .ok (.iload 6, 2) := by decide +kernel
theorem dX0_choosePairs_101 : decode cX0_choosePairs 101 = .ok (.iastore, 1) := by decide +kernel
theorem dX0_choosePairs_102 : decode cX0_choosePairs 102 = .ok (.aload_n 0, 1) := by decide +kernel
theorem dX0_choosePairs_103 : decode cX0_choosePairs 103 = .ok (.getfield 20, 3) := by decide +kernel
theorem dX0_choosePairs_106 : decode cX0_choosePairs 106 = .ok (.aload_n 0, 1) := by decide +kernel
theorem dX0_choosePairs_107 : decode cX0_choosePairs 107 = .ok (.getfield 23, 3) := by decide +kernel
theorem dX0_choosePairs_110 : decode cX0_choosePairs 110 = .ok (.iload 7, 2) := by decide +kernel
theorem dX0_choosePairs_112 : decode cX0_choosePairs 112 = .ok (.iastore, 1) := by decide +kernel
theorem dX0_choosePairs_113 : decode cX0_choosePairs 113 = .ok (.aload_n 0, 1) := by decide +kernel
theorem dX0_choosePairs_114 : decode cX0_choosePairs 114 = .ok (.dup, 1) := by decide +kernel
theorem dX0_choosePairs_115 : decode cX0_choosePairs 115 = .ok (.getfield 23, 3) := by decide +kernel
theorem dX0_choosePairs_118 : decode cX0_choosePairs 118 = .ok (.iconst 1, 1) := by decide +kernel
theorem dX0_choosePairs_119 : decode cX0_choosePairs 119 = .ok (.iadd, 1) := by decide +kernel
theorem dX0_choosePairs_120 : decode cX0_choosePairs 120 = .ok (.putfield 23, 3) := by decide +kernel
theorem dX0_choosePairs_123 : decode cX0_choosePairs 123 = .ok (.iload 7, 2) := by decide +kernel
theorem dX0_choosePairs_125 : decode cX0_choosePairs 125 = .ok (.iconst 1, 1) := by decide +kernel
theorem dX0_choosePairs_126 : decode cX0_choosePairs 126 = .ok (.iadd, 1) := by decide +kernel
theorem dX0_choosePairs_127 : decode cX0_choosePairs 127 = .ok (.istore 5, 2) := by decide +kernel
theorem dX0_choosePairs_129 : decode cX0_choosePairs 129 = .ok (.iinc 6 1, 3) := by decide +kernel
theorem dX0_choosePairs_132 : decode cX0_choosePairs 132 = .ok (.goto (-121), 3) := by decide +kernel
theorem dX0_choosePairs_135 : decode cX0_choosePairs 135 = .ok (.return_, 1) := by decide +kernel
theorem dX0_firstUnlike_0 : decode cX0_firstUnlike 0 = .ok (.aload_n 0, 1) := by decide +kernel
theorem dX0_firstUnlike_1 : decode cX0_firstUnlike 1 = .ok (.getfield 27, 3) := by decide +kernel
theorem dX0_firstUnlike_4 : decode cX0_firstUnlike 4 = .ok (.iconst (-1), 1) := by decide +kernel
theorem dX0_firstUnlike_5 : decode cX0_firstUnlike 5 = .ok (.invokestatic 55, 3) := by decide +kernel
theorem dX0_firstUnlike_8 : decode cX0_firstUnlike 8 = .ok (.aload_n 0, 1) := by decide +kernel
theorem dX0_firstUnlike_9 : decode cX0_firstUnlike 9 = .ok (.getfield 30, 3) := by decide +kernel
theorem dX0_firstUnlike_12 : decode cX0_firstUnlike 12 = .ok (.iconst (-1), 1) := by decide +kernel
theorem dX0_firstUnlike_13 : decode cX0_firstUnlike 13 = .ok (.invokestatic 55, 3) := by decide +kernel
theorem dX0_firstUnlike_16 : decode cX0_firstUnlike 16 = .ok (.iconst 0, 1) := by decide +kernel
theorem dX0_firstUnlike_17 : decode cX0_firstUnlike 17 = .ok (.istore_n 3, 1) := by decide +kernel
theorem dX0_firstUnlike_18 : decode cX0_firstUnlike 18 = .ok (.iconst 0, 1) := by decide +kernel
theorem dX0_firstUnlike_19 : decode cX0_firstUnlike 19 = .ok (.istore 4, 2) := by decide +kernel
theorem dX0_firstUnlike_21 : decode cX0_firstUnlike 21 = .ok (.aload_n 1, 1) := by decide +kernel
theorem dX0_firstUnlike_22 : decode cX0_firstUnlike 22 = .ok (.getfield 68, 3) := by decide +kernel
theorem dX0_firstUnlike_25 : decode cX0_firstUnlike 25 = .ok (.aload_n 2, 1) := by decide +kernel
theorem dX0_firstUnlike_26 : decode cX0_firstUnlike 26 = .ok (.getfield 68, 3) := by decide +kernel
theorem dX0_firstUnlike_29 : decode cX0_firstUnlike 29 = .ok (.invokestatic 42, 3) := by decide +kernel
theorem dX0_firstUnlike_32 : decode cX0_firstUnlike 32 = .ok (.istore 5, 2) := by decide +kernel
theorem dX0_firstUnlike_34 : decode cX0_firstUnlike 34 = .ok (.iconst 0, 1) := by decide +kernel
theorem dX0_firstUnlike_35 : decode cX0_firstUnlike 35 = .ok (.istore 6, 2) := by decide +kernel
theorem dX0_firstUnlike_37 : decode cX0_firstUnlike 37 = .ok (.iload 6, 2) := by decide +kernel
theorem dX0_firstUnlike_39 : decode cX0_firstUnlike 39 = .ok (.iload 5, 2) := by decide +kernel
theorem dX0_firstUnlike_41 : decode cX0_firstUnlike 41 = .ok (.if_icmp .gt 122, 3) := by decide +kernel
theorem dX0_firstUnlike_44 : decode cX0_firstUnlike 44 = .ok (.aload_n 1, 1) := by decide +kernel
theorem dX0_firstUnlike_45 : decode cX0_firstUnlike 45 = .ok (.getfield 73, 3) := by decide +kernel
theorem dX0_firstUnlike_48 : decode cX0_firstUnlike 48 = .ok (.iload_n 3, 1) := by decide +kernel
theorem dX0_firstUnlike_49 : decode cX0_firstUnlike 49 = .ok (.iload 6, 2) := by decide +kernel
theorem dX0_firstUnlike_51 : decode cX0_firstUnlike 51 = .ok (.aload_n 0, 1) := by decide +kernel
theorem dX0_firstUnlike_52 : decode cX0_firstUnlike 52 = .ok (.getfield 27, 3) := by decide +kernel
theorem dX0_firstUnlike_55 : decode cX0_firstUnlike 55 = .ok (.invokestatic 77, 3) := by decide +kernel
theorem dX0_firstUnlike_58 : decode cX0_firstUnlike 58 = .ok (.istore 7, 2) := by decide +kernel
theorem dX0_firstUnlike_60 : decode cX0_firstUnlike 60 = .ok (.aload_n 2, 1) := by decide +kernel
theorem dX0_firstUnlike_61 : decode cX0_firstUnlike 61 = .ok (.getfield 73, 3) := by decide +kernel
theorem dX0_firstUnlike_64 : decode cX0_firstUnlike 64 = .ok (.iload 4, 2) := by decide +kernel
theorem dX0_firstUnlike_66 : decode cX0_firstUnlike 66 = .ok (.iload 6, 2) := by decide +kernel
theorem dX0_firstUnlike_68 : decode cX0_firstUnlike 68 = .ok (.aload_n 0, 1) := by decide +kernel
theorem dX0_firstUnlike_69 : decode cX0_firstUnlike 69 = .ok (.getfield 30, 3) := by decide +kernel
theorem dX0_firstUnlike_72 : decode cX0_firstUnlike 72 = .ok (.invokestatic 77, 3) := by decide +kernel
theorem dX0_firstUnlike_75 : decode cX0_firstUnlike 75 = .ok (.istore 8, 2) := by decide +kernel
theorem dX0_firstUnlike_77 : decode cX0_firstUnlike 77 = .ok (.aload_n 1, 1) := by decide +kernel
theorem dX0_firstUnlike_78 : decode cX0_firstUnlike 78 = .ok (.iload 6, 2) := by decide +kernel
theorem dX0_firstUnlike_80 : decode cX0_firstUnlike 80 = .ok (.invokevirtual 81, 3) := by decide +kernel
theorem dX0_firstUnlike_83 : decode cX0_firstUnlike 83 = .ok (.aload_n 2, 1) := by decide +kernel
theorem dX0_firstUnlike_84 : decode cX0_firstUnlike 84 = .ok (.iload 6, 2) := by decide +kernel
theorem dX0_firstUnlike_86 : decode cX0_firstUnlike 86 = .ok (.invokevirtual 81, 3) := by decide +kernel
theorem dX0_firstUnlike_89 : decode cX0_firstUnlike 89 = .ok (.if_icmp .ne 58, 3) := by decide +kernel
theorem dX0_firstUnlike_92 : decode cX0_firstUnlike 92 = .ok (.aload_n 1, 1) := by decide +kernel
theorem dX0_firstUnlike_93 : decode cX0_firstUnlike 93 = .ok (.iload 6, 2) := by decide +kernel
theorem dX0_firstUnlike_95 : decode cX0_firstUnlike 95 = .ok (.aload_n 2, 1) := by decide +kernel
theorem dX0_firstUnlike_96 : decode cX0_firstUnlike 96 = .ok (.invokevirtual 85, 3) := by decide +kernel
theorem dX0_firstUnlike_99 : decode cX0_firstUnlike 99 = .ok (.ifCond .eq 48, 3) := by decide +kernel
theorem dX0_firstUnlike_102 : decode cX0_firstUnlike 102 = .ok (.aload_n 0, 1) := by decide +kernel
theorem dX0_firstUnlike_103 : decode cX0_firstUnlike 103 = .ok (.aload_n 1, 1) := by decide +kernel
theorem dX0_firstUnlike_104 : decode cX0_firstUnlike 104 = .ok (.getfield 73, 3) := by decide +kernel
theorem dX0_firstUnlike_107 : decode cX0_firstUnlike 107 = .ok (.iload_n 3, 1) := by decide +kernel
theorem dX0_firstUnlike_108 : decode cX0_firstUnlike 108 = .ok (.iload 7, 2) := by decide +kernel
theorem dX0_firstUnlike_110 : decode cX0_firstUnlike 110 = .ok (.aload_n 1, 1) := by decide +kernel
theorem dX0_firstUnlike_111 : decode cX0_firstUnlike 111 = .ok (.getfield 73, 3) := by decide +kernel
theorem dX0_firstUnlike_114 : decode cX0_firstUnlike 114 = .ok (.aload_n 2, 1) := by decide +kernel
theorem dX0_firstUnlike_115 : decode cX0_firstUnlike 115 = .ok (.getfield 73, 3) := by decide +kernel
theorem dX0_firstUnlike_118 : decode cX0_firstUnlike 118 = .ok (.invokevirtual 89, 3) := by decide +kernel
theorem dX0_firstUnlike_121 : decode cX0_firstUnlike 121 = .ok (.ifCond .ne 26, 3) := by decide +kernel
theorem dX0_firstUnlike_124 : decode cX0_firstUnlike 124 = .ok (.aload_n 0, 1) := by decide +kernel
theorem dX0_firstUnlike_125 : decode cX0_firstUnlike 125 = .ok (.aload_n 2, 1) := by decide +kernel
theorem dX0_firstUnlike_126 : decode cX0_firstUnlike 126 = .ok (.getfield 73, 3) := by decide +kernel
theorem dX0_firstUnlike_129 : decode cX0_firstUnlike 129 = .ok (.iload 4, 2) := by decide +kernel
theorem dX0_firstUnlike_131 : decode cX0_firstUnlike 131 = .ok (.iload 8, 2) := by decide +kernel
theorem dX0_firstUnlike_133 : decode cX0_firstUnlike 133 = .ok (.aload_n 1, 1) := by decide +kernel
theorem dX0_firstUnlike_134 : decode cX0_firstUnlike 134 = .ok (.getfield 73, 3) := by decide +kernel
theorem dX0_firstUnlike_137 : decode cX0_firstUnlike 137 = .ok (.aload_n 2, 1) := by decide +kernel
theorem dX0_firstUnlike_138 : decode cX0_firstUnlike 138 = .ok (.getfield 73, 3) := by decide +kernel
theorem dX0_firstUnlike_141 : decode cX0_firstUnlike 141 = .ok (.invokevirtual 89, 3) := by decide +kernel
theorem dX0_firstUnlike_144 : decode cX0_firstUnlike 144 = .ok (.ifCond .eq 6, 3) := by decide +kernel
theorem dX0_firstUnlike_147 : decode cX0_firstUnlike 147 = .ok (.iload 6, 2) := by decide +kernel
theorem dX0_firstUnlike_149 : decode cX0_firstUnlike 149 = .ok (.ireturn, 1) := by decide +kernel
theorem dX0_firstUnlike_150 : decode cX0_firstUnlike 150 = .ok (.iload 7, 2) := by decide +kernel
theorem dX0_firstUnlike_152 : decode cX0_firstUnlike 152 = .ok (.istore_n 3, 1) := by decide +kernel
theorem dX0_firstUnlike_153 : decode cX0_firstUnlike 153 = .ok (.iload 8, 2) := by decide +kernel
theorem dX0_firstUnlike_155 : decode cX0_firstUnlike 155 = .ok (.istore 4, 2) := by decide +kernel
theorem dX0_firstUnlike_157 : decode cX0_firstUnlike 157 = .ok (.iinc 6 1, 3) := by decide +kernel
theorem dX0_firstUnlike_160 : decode cX0_firstUnlike 160 = .ok (.goto (-123), 3) := by decide +kernel
theorem dX0_firstUnlike_163 : decode cX0_firstUnlike 163 = .ok (.iconst (-1), 1) := by decide +kernel
theorem dX0_firstUnlike_164 : decode cX0_firstUnlike 164 = .ok (.ireturn, 1) := by decide +kernel
theorem dX0_goThrough_0 : decode cX0_goThrough 0 = .ok (.iload_n 1, 1) := by decide +kernel
theorem dX0_goThrough_1 : decode cX0_goThrough 1 = .ok (.istore 4, 2) := by decide +kernel
theorem dX0_goThrough_3 : decode cX0_goThrough 3 = .ok (.iload 4, 2) := by decide +kernel
theorem dX0_goThrough_5 : decode cX0_goThrough 5 = .ok (.aload_n 0, 1) := by decide +kernel
theorem dX0_goThrough_6 : decode cX0_goThrough 6 = .ok (.getfield 93, 3) := by decide +kernel
theorem dX0_goThrough_9 : decode cX0_goThrough 9 = .ok (.if_icmp .ge 45, 3) := by decide +kernel
theorem dX0_goThrough_12 : decode cX0_goThrough 12 = .ok (.aload_n 0, 1) := by decide +kernel
theorem dX0_goThrough_13 : decode cX0_goThrough 13 = .ok (.iload 4, 2) := by decide +kernel
theorem dX0_goThrough_15 : decode cX0_goThrough 15 = .ok (.invokevirtual 96, 3) := by decide +kernel
theorem dX0_goThrough_18 : decode cX0_goThrough 18 = .ok (.iload_n 2, 1) := by decide +kernel
theorem dX0_goThrough_19 : decode cX0_goThrough 19 = .ok (.if_icmp .gt 35, 3) := by decide +kernel
theorem dX0_goThrough_22 : decode cX0_goThrough 22 = .ok (.aload_n 0, 1) := by decide +kernel
theorem dX0_goThrough_23 : decode cX0_goThrough 23 = .ok (.iload 4, 2) := by decide +kernel
theorem dX0_goThrough_25 : decode cX0_goThrough 25 = .ok (.invokevirtual 99, 3) := by decide +kernel
theorem dX0_goThrough_28 : decode cX0_goThrough 28 = .ok (.istore 5, 2) := by decide +kernel
theorem dX0_goThrough_30 : decode cX0_goThrough 30 = .ok (.iload 5, 2) := by decide +kernel
theorem dX0_goThrough_32 : decode cX0_goThrough 32 = .ok (.ifCond .lt 16, 3) := by decide +kernel
theorem dX0_goThrough_35 : decode cX0_goThrough 35 = .ok (.iload 5, 2) := by decide +kernel
theorem dX0_goThrough_37 : decode cX0_goThrough 37 = .ok (.aload_n 3, 1) := by decide +kernel
theorem dX0_goThrough_38 : decode cX0_goThrough 38 = .ok (.arraylength, 1) := by decide +kernel
theorem dX0_goThrough_39 : decode cX0_goThrough 39 = .ok (.if_icmp .ge 9, 3) := by decide +kernel
theorem dX0_goThrough_42 : decode cX0_goThrough 42 = .ok (.aload_n 3, 1) := by decide +kernel
theorem dX0_goThrough_43 : decode cX0_goThrough 43 = .ok (.iload 5, 2) := by decide +kernel
theorem dX0_goThrough_45 : decode cX0_goThrough 45 = .ok (.iload 4, 2) := by decide +kernel
theorem dX0_goThrough_47 : decode cX0_goThrough 47 = .ok (.iastore, 1) := by decide +kernel
theorem dX0_goThrough_48 : decode cX0_goThrough 48 = .ok (.iinc 4 1, 3) := by decide +kernel
theorem dX0_goThrough_51 : decode cX0_goThrough 51 = .ok (.goto (-48), 3) := by decide +kernel
theorem dX0_goThrough_54 : decode cX0_goThrough 54 = .ok (.iload 4, 2) := by decide +kernel
theorem dX0_goThrough_56 : decode cX0_goThrough 56 = .ok (.ireturn, 1) := by decide +kernel
theorem dX0_areUnlike_0 : decode cX0_areUnlike 0 = .ok (.iload_n 2, 1) := by decide +kernel
theorem dX0_areUnlike_1 : decode cX0_areUnlike 1 = .ok (.istore 6, 2) := by decide +kernel
theorem dX0_areUnlike_3 : decode cX0_areUnlike 3 = .ok (.iload 6, 2) := by decide +kernel
theorem dX0_areUnlike_5 : decode cX0_areUnlike 5 = .ok (.iload_n 3, 1) := by decide +kernel
theorem dX0_areUnlike_6 : decode cX0_areUnlike 6 = .ok (.if_icmp .ge 65, 3) := by decide +kernel
theorem dX0_areUnlike_9 : decode cX0_areUnlike 9 = .ok (.aload_n 1, 1) := by decide +kernel
theorem dX0_areUnlike_10 : decode cX0_areUnlike 10 = .ok (.iload 6, 2) := by decide +kernel
theorem dX0_areUnlike_12 : decode cX0_areUnlike 12 = .ok (.invokevirtual 99, 3) := by decide +kernel
theorem dX0_areUnlike_15 : decode cX0_areUnlike 15 = .ok (.istore 7, 2) := by decide +kernel
theorem dX0_areUnlike_17 : decode cX0_areUnlike 17 = .ok (.iload 7, 2) := by decide +kernel
theorem dX0_areUnlike_19 : decode cX0_areUnlike 19 = .ok (.invokestatic 102, 3) := by decide +kernel
theorem dX0_areUnlike_22 : decode cX0_areUnlike 22 = .ok (.ifCond .eq 43, 3) := by decide +kernel
theorem dX0_areUnlike_25 : decode cX0_areUnlike 25 = .ok (.aload_n 0, 1) := by decide +kernel
theorem dX0_areUnlike_26 : decode cX0_areUnlike 26 = .ok (.getfield 30, 3) := by decide +kernel
theorem dX0_areUnlike_29 : decode cX0_areUnlike 29 = .ok (.iload 7, 2) := by decide +kernel
theorem dX0_areUnlike_31 : decode cX0_areUnlike 31 = .ok (.iaload, 1) := by decide +kernel
theorem dX0_areUnlike_32 : decode cX0_areUnlike 32 = .ok (.istore 8, 2) := by decide +kernel
theorem dX0_areUnlike_34 : decode cX0_areUnlike 34 = .ok (.aload 4, 2) := by decide +kernel
theorem dX0_areUnlike_36 : decode cX0_areUnlike 36 = .ok (.aload_n 0, 1) := by decide +kernel
theorem dX0_areUnlike_37 : decode cX0_areUnlike 37 = .ok (.getfield 27, 3) := by decide +kernel
theorem dX0_areUnlike_40 : decode cX0_areUnlike 40 = .ok (.iload 7, 2) := by decide +kernel
theorem dX0_areUnlike_42 : decode cX0_areUnlike 42 = .ok (.iaload, 1) := by decide +kernel
theorem dX0_areUnlike_43 : decode cX0_areUnlike 43 = .ok (.aload 5, 2) := by decide +kernel
theorem dX0_areUnlike_45 : decode cX0_areUnlike 45 = .ok (.iload 8, 2) := by decide +kernel
theorem dX0_areUnlike_47 : decode cX0_areUnlike 47 = .ok (.invokevirtual 105, 3) := by decide +kernel
theorem dX0_areUnlike_50 : decode cX0_areUnlike 50 = .ok (.aload 5, 2) := by decide +kernel
theorem dX0_areUnlike_52 : decode cX0_areUnlike 52 = .ok (.iload 8, 2) := by decide +kernel
theorem dX0_areUnlike_54 : decode cX0_areUnlike 54 = .ok (.invokevirtual 108, 3) := by decide +kernel
theorem dX0_areUnlike_57 : decode cX0_areUnlike 57 = .ok (.invokevirtual 111, 3) := by decide +kernel
theorem dX0_areUnlike_60 : decode cX0_areUnlike 60 = .ok (.ifCond .ne 5, 3) := by decide +kernel
theorem dX0_areUnlike_63 : decode cX0_areUnlike 63 = .ok (.iconst 1, 1) := by decide +kernel
theorem dX0_areUnlike_64 : decode cX0_areUnlike 64 = .ok (.ireturn, 1) := by decide +kernel
theorem dX0_areUnlike_65 : decode cX0_areUnlike 65 = .ok (.iinc 6 1, 3) := by decide +kernel
theorem dX0_areUnlike_68 : decode cX0_areUnlike 68 = .ok (.goto (-65), 3) := by decide +kernel
theorem dX0_areUnlike_71 : decode cX0_areUnlike 71 = .ok (.iconst 0, 1) := by decide +kernel
theorem dX0_areUnlike_72 : decode cX0_areUnlike 72 = .ok (.ireturn, 1) := by decide +kernel
theorem dX1_init_0 : decode cX1_init 0 = .ok (.aload_n 0, 1) := by decide +kernel
theorem dX1_init_1 : decode cX1_init 1 = .ok (.invokespecial 3, 3) := by decide +kernel
theorem dX1_init_4 : decode cX1_init 4 = .ok (.aload_n 0, 1) := by decide +kernel
theorem dX1_init_5 : decode cX1_init 5 = .ok (.iconst 0, 1) := by decide +kernel
theorem dX1_init_6 : decode cX1_init 6 = .ok (.putfield 9, 3) := by decide +kernel
theorem dX1_init_9 : decode cX1_init 9 = .ok (.aload_n 0, 1) := by decide +kernel
theorem dX1_init_10 : decode cX1_init 10 = .ok (.bipush 100, 2) := by decide +kernel
theorem dX1_init_12 : decode cX1_init 12 = .ok (.newarray .int, 2) := by decide +kernel
theorem dX1_init_14 : decode cX1_init 14 = .ok (.putfield 15, 3) := by decide +kernel
theorem dX1_init_17 : decode cX1_init 17 = .ok (.aload_n 0, 1) := by decide +kernel
theorem dX1_init_18 : decode cX1_init 18 = .ok (.bipush 100, 2) := by decide +kernel
theorem dX1_init_20 : decode cX1_init 20 = .ok (.newarray .int, 2) := by decide +kernel
theorem dX1_init_22 : decode cX1_init 22 = .ok (.putfield 19, 3) := by decide +kernel
theorem dX1_init_25 : decode cX1_init 25 = .ok (.aload_n 0, 1) := by decide +kernel
theorem dX1_init_26 : decode cX1_init 26 = .ok (.bipush 100, 2) := by decide +kernel
theorem dX1_init_28 : decode cX1_init 28 = .ok (.newarray .int, 2) := by decide +kernel
theorem dX1_init_30 : decode cX1_init 30 = .ok (.putfield 22, 3) := by decide +kernel
theorem dX1_init_33 : decode cX1_init 33 = .ok (.return_, 1) := by decide +kernel
theorem dX1_init__0 : decode cX1_init_ 0 = .ok (.aload_n 0, 1) := by decide +kernel
theorem dX1_init__1 : decode cX1_init_ 1 = .ok (.invokespecial 3, 3) := by decide +kernel
theorem dX1_init__4 : decode cX1_init_ 4 = .ok (.aload_n 0, 1) := by decide +kernel
theorem dX1_init__5 : decode cX1_init_ 5 = .ok (.iconst 0, 1) := by decide +kernel
theorem dX1_init__6 : decode cX1_init_ 6 = .ok (.putfield 9, 3) := by decide +kernel
theorem dX1_init__9 : decode cX1_init_ 9 = .ok (.aload_n 0, 1) := by decide +kernel
theorem dX1_init__10 : decode cX1_init_ 10 = .ok (.aload_n 1, 1) := by decide +kernel
theorem dX1_init__11 : decode cX1_init_ 11 = .ok (.getfield 15, 3) := by decide +kernel
theorem dX1_init__14 : decode cX1_init_ 14 = .ok (.invokevirtual 25, 3) := by decide +kernel
theorem dX1_init__17 : decode cX1_init_ 17 = .ok (.checkcast 26, 3) := by decide +kernel
theorem dX1_init__20 : decode cX1_init_ 20 = .ok (.putfield 15, 3) := by decide +kernel
theorem dX1_init__23 : decode cX1_init_ 23 = .ok (.aload_n 0, 1) := by decide +kernel
theorem dX1_init__24 : decode cX1_init_ 24 = .ok (.aload_n 1, 1) := by decide +kernel
theorem dX1_init__25 : decode cX1_init_ 25 = .ok (.getfield 19, 3) := by decide +kernel
theorem dX1_init__28 : decode cX1_init_ 28 = .ok (.invokevirtual 25, 3) := by decide +kernel
theorem dX1_init__31 : decode cX1_init_ 31 = .ok (.checkcast 26, 3) := by decide +kernel
theorem dX1_init__34 : decode cX1_init_ 34 = .ok (.putfield 19, 3) := by decide +kernel
theorem dX1_init__37 : decode cX1_init_ 37 = .ok (.aload_n 0, 1) := by decide +kernel
theorem dX1_init__38 : decode cX1_init_ 38 = .ok (.aload_n 1, 1) := by decide +kernel
theorem dX1_init__39 : decode cX1_init_ 39 = .ok (.getfield 22, 3) := by decide +kernel
theorem dX1_init__42 : decode cX1_init_ 42 = .ok (.invokevirtual 25, 3) := by decide +kernel
theorem dX1_init__45 : decode cX1_init_ 45 = .ok (.checkcast 26, 3) := by decide +kernel
theorem dX1_init__48 : decode cX1_init_ 48 = .ok (.putfield 22, 3) := by decide +kernel
theorem dX1_init__51 : decode cX1_init_ 51 = .ok (.aload_n 0, 1) := by decide +kernel
theorem dX1_init__52 : decode cX1_init_ 52 = .ok (.aload_n 1, 1) := by decide +kernel
theorem dX1_init__53 : decode cX1_init_ 53 = .ok (.getfield 9, 3) := by decide +kernel
theorem dX1_init__56 : decode cX1_init_ 56 = .ok (.putfield 9, 3) := by decide +kernel
theorem dX1_init__59 : decode cX1_init_ 59 = .ok (.return_, 1) := by decide +kernel
theorem dX1_has_0 : decode cX1_has 0 = .ok (.iload_n 1, 1) := by decide +kernel
theorem dX1_has_1 : decode cX1_has 1 = .ok (.ifCond .lt 21, 3) := by decide +kernel
theorem dX1_has_4 : decode cX1_has 4 = .ok (.iload_n 1, 1) := by decide +kernel
theorem dX1_has_5 : decode cX1_has 5 = .ok (.aload_n 0, 1) := by decide +kernel
theorem dX1_has_6 : decode cX1_has 6 = .ok (.getfield 9, 3) := by decide +kernel
theorem dX1_has_9 : decode cX1_has 9 = .ok (.if_icmp .ge 13, 3) := by decide +kernel
theorem dX1_has_12 : decode cX1_has 12 = .ok (.iload_n 1, 1) := by decide +kernel
theorem dX1_has_13 : decode cX1_has 13 = .ok (.bipush 100, 2) := by decide +kernel
theorem dX1_has_15 : decode cX1_has 15 = .ok (.if_icmp .ge 7, 3) := by decide +kernel
theorem dX1_has_18 : decode cX1_has 18 = .ok (.iconst 1, 1) := by decide +kernel
theorem dX1_has_19 : decode cX1_has 19 = .ok (.goto 4, 3) := by decide +kernel
theorem dX1_has_22 : decode cX1_has 22 = .ok (.iconst 0, 1) := by decide +kernel
theorem dX1_has_23 : decode cX1_has 23 = .ok (.ireturn, 1) := by decide +kernel
theorem dX1_add_0 : decode cX1_add 0 = .ok (.aload_n 0, 1) := by decide +kernel
theorem dX1_add_1 : decode cX1_add 1 = .ok (.getfield 9, 3) := by decide +kernel
theorem dX1_add_4 : decode cX1_add 4 = .ok (.ifCond .lt 52, 3) := by decide +kernel
theorem dX1_add_7 : decode cX1_add 7 = .ok (.aload_n 0, 1) := by decide +kernel
theorem dX1_add_8 : decode cX1_add 8 = .ok (.getfield 9, 3) := by decide +kernel
theorem dX1_add_11 : decode cX1_add 11 = .ok (.bipush 100, 2) := by decide +kernel
theorem dX1_add_13 : decode cX1_add 13 = .ok (.if_icmp .ge 43, 3) := by decide +kernel
theorem dX1_add_16 : decode cX1_add 16 = .ok (.aload_n 0, 1) := by decide +kernel
theorem dX1_add_17 : decode cX1_add 17 = .ok (.getfield 15, 3) := by decide +kernel
theorem dX1_add_20 : decode cX1_add 20 = .ok (.aload_n 0, 1) := by decide +kernel
theorem dX1_add_21 : decode cX1_add 21 = .ok (.getfield 9, 3) := by decide +kernel
theorem dX1_add_24 : decode cX1_add 24 = .ok (.iload_n 1, 1) := by decide +kernel
theorem dX1_add_25 : decode cX1_add 25 = .ok (.iastore, 1) := by decide +kernel
theorem dX1_add_26 : decode cX1_add 26 = .ok (.aload_n 0, 1) := by decide +kernel
theorem dX1_add_27 : decode cX1_add 27 = .ok (.getfield 19, 3) := by decide +kernel
theorem dX1_add_30 : decode cX1_add 30 = .ok (.aload_n 0, 1) := by decide +kernel
theorem dX1_add_31 : decode cX1_add 31 = .ok (.getfield 9, 3) := by decide +kernel
theorem dX1_add_34 : decode cX1_add 34 = .ok (.iload_n 2, 1) := by decide +kernel
theorem dX1_add_35 : decode cX1_add 35 = .ok (.iastore, 1) := by decide +kernel
theorem dX1_add_36 : decode cX1_add 36 = .ok (.aload_n 0, 1) := by decide +kernel
theorem dX1_add_37 : decode cX1_add 37 = .ok (.getfield 22, 3) := by decide +kernel
theorem dX1_add_40 : decode cX1_add 40 = .ok (.aload_n 0, 1) := by decide +kernel
theorem dX1_add_41 : decode cX1_add 41 = .ok (.getfield 9, 3) := by decide +kernel
theorem dX1_add_44 : decode cX1_add 44 = .ok (.iload_n 3, 1) := by decide +kernel
theorem dX1_add_45 : decode cX1_add 45 = .ok (.iastore, 1) := by decide +kernel
theorem dX1_add_46 : decode cX1_add 46 = .ok (.aload_n 0, 1) := by decide +kernel
theorem dX1_add_47 : decode cX1_add 47 = .ok (.dup, 1) := by decide +kernel
theorem dX1_add_48 : decode cX1_add 48 = .ok (.getfield 9, 3) := by decide +kernel
theorem dX1_add_51 : decode cX1_add 51 = .ok (.iconst 1, 1) := by decide +kernel
theorem dX1_add_52 : decode cX1_add 52 = .ok (.iadd, 1) := by decide +kernel
theorem dX1_add_53 : decode cX1_add 53 = .ok (.putfield 9, 3) := by decide +kernel
theorem dX1_add_56 : decode cX1_add 56 = .ok (.return_, 1) := by decide +kernel
theorem dX1_read_0 : decode cX1_read 0 = .ok (.aload_n 0, 1) := by decide +kernel
theorem dX1_read_1 : decode cX1_read 1 = .ok (.iload_n 1, 1) := by decide +kernel
theorem dX1_read_2 : decode cX1_read 2 = .ok (.invokevirtual 30, 3) := by decide +kernel
theorem dX1_read_5 : decode cX1_read 5 = .ok (.ifCond .ne 5, 3) := by decide +kernel
theorem dX1_read_8 : decode cX1_read 8 = .ok (.iconst (-1), 1) := by decide +kernel
theorem dX1_read_9 : decode cX1_read 9 = .ok (.ireturn, 1) := by decide +kernel
theorem dX1_read_10 : decode cX1_read 10 = .ok (.iload_n 2, 1) := by decide +kernel
theorem dX1_read_11 : decode cX1_read 11 = .ok (.tableswitch 46 0 2 #[25, 32, 39], 25) := by decide +kernel
theorem dX1_read_36 : decode cX1_read 36 = .ok (.aload_n 0, 1) := by decide +kernel
theorem dX1_read_37 : decode cX1_read 37 = .ok (.getfield 15, 3) := by decide +kernel
theorem dX1_read_40 : decode cX1_read 40 = .ok (.iload_n 1, 1) := by decide +kernel
theorem dX1_read_41 : decode cX1_read 41 = .ok (.iaload, 1) := by decide +kernel
theorem dX1_read_42 : decode cX1_read 42 = .ok (.ireturn, 1) := by decide +kernel
theorem dX1_read_43 : decode cX1_read 43 = .ok (.aload_n 0, 1) := by decide +kernel
theorem dX1_read_44 : decode cX1_read 44 = .ok (.getfield 19, 3) := by decide +kernel
theorem dX1_read_47 : decode cX1_read 47 = .ok (.iload_n 1, 1) := by decide +kernel
theorem dX1_read_48 : decode cX1_read 48 = .ok (.iaload, 1) := by decide +kernel
theorem dX1_read_49 : decode cX1_read 49 = .ok (.ireturn, 1) := by decide +kernel
theorem dX1_read_50 : decode cX1_read 50 = .ok (.aload_n 0, 1) := by decide +kernel
theorem dX1_read_51 : decode cX1_read 51 = .ok (.getfield 22, 3) := by decide +kernel
theorem dX1_read_54 : decode cX1_read 54 = .ok (.iload_n 1, 1) := by decide +kernel
theorem dX1_read_55 : decode cX1_read 55 = .ok (.iaload, 1) := by decide +kernel
theorem dX1_read_56 : decode cX1_read 56 = .ok (.ireturn, 1) := by decide +kernel
theorem dX1_read_57 : decode cX1_read 57 = .ok (.iconst (-1), 1) := by decide +kernel
theorem dX1_read_58 : decode cX1_read 58 = .ok (.ireturn, 1) := by decide +kernel
theorem dX1_dropFrom_0 : decode cX1_dropFrom 0 = .ok (.aload_n 0, 1) := by decide +kernel
theorem dX1_dropFrom_1 : decode cX1_dropFrom 1 = .ok (.getfield 9, 3) := by decide +kernel
theorem dX1_dropFrom_4 : decode cX1_dropFrom 4 = .ok (.iconst 1, 1) := by decide +kernel
theorem dX1_dropFrom_5 : decode cX1_dropFrom 5 = .ok (.isub, 1) := by decide +kernel
theorem dX1_dropFrom_6 : decode cX1_dropFrom 6 = .ok (.istore_n 2, 1) := by decide +kernel
theorem dX1_dropFrom_7 : decode cX1_dropFrom 7 = .ok (.iload_n 2, 1) := by decide +kernel
theorem dX1_dropFrom_8 : decode cX1_dropFrom 8 = .ok (.ifCond .lt 32, 3) := by decide +kernel
theorem dX1_dropFrom_11 : decode cX1_dropFrom 11 = .ok (.aload_n 0, 1) := by decide +kernel
theorem dX1_dropFrom_12 : decode cX1_dropFrom 12 = .ok (.iload_n 2, 1) := by decide +kernel
theorem dX1_dropFrom_13 : decode cX1_dropFrom 13 = .ok (.invokevirtual 30, 3) := by decide +kernel
theorem dX1_dropFrom_16 : decode cX1_dropFrom 16 = .ok (.ifCond .eq 24, 3) := by decide +kernel
theorem dX1_dropFrom_19 : decode cX1_dropFrom 19 = .ok (.aload_n 0, 1) := by decide +kernel
theorem dX1_dropFrom_20 : decode cX1_dropFrom 20 = .ok (.getfield 15, 3) := by decide +kernel
theorem dX1_dropFrom_23 : decode cX1_dropFrom 23 = .ok (.iload_n 2, 1) := by decide +kernel
theorem dX1_dropFrom_24 : decode cX1_dropFrom 24 = .ok (.iaload, 1) := by decide +kernel
theorem dX1_dropFrom_25 : decode cX1_dropFrom 25 = .ok (.iload_n 1, 1) := by decide +kernel
theorem dX1_dropFrom_26 : decode cX1_dropFrom 26 = .ok (.if_icmp .lt 14, 3) := by decide +kernel
theorem dX1_dropFrom_29 : decode cX1_dropFrom 29 = .ok (.aload_n 0, 1) := by decide +kernel
theorem dX1_dropFrom_30 : decode cX1_dropFrom 30 = .ok (.iload_n 2, 1) := by decide +kernel
theorem dX1_dropFrom_31 : decode cX1_dropFrom 31 = .ok (.putfield 9, 3) := by decide +kernel
theorem dX1_dropFrom_34 : decode cX1_dropFrom 34 = .ok (.iinc 2 (-1), 3) := by decide +kernel
theorem dX1_dropFrom_37 : decode cX1_dropFrom 37 = .ok (.goto (-30), 3) := by decide +kernel
theorem dX1_dropFrom_40 : decode cX1_dropFrom 40 = .ok (.return_, 1) := by decide +kernel
theorem dX1_isLike_0 : decode cX1_isLike 0 = .ok (.aload_n 0, 1) := by decide +kernel
theorem dX1_isLike_1 : decode cX1_isLike 1 = .ok (.iload_n 1, 1) := by decide +kernel
theorem dX1_isLike_2 : decode cX1_isLike 2 = .ok (.invokevirtual 30, 3) := by decide +kernel
theorem dX1_isLike_5 : decode cX1_isLike 5 = .ok (.ifCond .eq 45, 3) := by decide +kernel
theorem dX1_isLike_8 : decode cX1_isLike 8 = .ok (.aload_n 2, 1) := by decide +kernel
theorem dX1_isLike_9 : decode cX1_isLike 9 = .ok (.iload_n 3, 1) := by decide +kernel
theorem dX1_isLike_10 : decode cX1_isLike 10 = .ok (.invokevirtual 30, 3) := by decide +kernel
theorem dX1_isLike_13 : decode cX1_isLike 13 = .ok (.ifCond .eq 37, 3) := by decide +kernel
theorem dX1_isLike_16 : decode cX1_isLike 16 = .ok (.aload_n 0, 1) := by decide +kernel
theorem dX1_isLike_17 : decode cX1_isLike 17 = .ok (.getfield 19, 3) := by decide +kernel
theorem dX1_isLike_20 : decode cX1_isLike 20 = .ok (.iload_n 1, 1) := by decide +kernel
theorem dX1_isLike_21 : decode cX1_isLike 21 = .ok (.iaload, 1) := by decide +kernel
theorem dX1_isLike_22 : decode cX1_isLike 22 = .ok (.aload_n 2, 1) := by decide +kernel
theorem dX1_isLike_23 : decode cX1_isLike 23 = .ok (.getfield 19, 3) := by decide +kernel
theorem dX1_isLike_26 : decode cX1_isLike 26 = .ok (.iload_n 3, 1) := by decide +kernel
theorem dX1_isLike_27 : decode cX1_isLike 27 = .ok (.iaload, 1) := by decide +kernel
theorem dX1_isLike_28 : decode cX1_isLike 28 = .ok (.if_icmp .ne 22, 3) := by decide +kernel
theorem dX1_isLike_31 : decode cX1_isLike 31 = .ok (.aload_n 0, 1) := by decide +kernel
theorem dX1_isLike_32 : decode cX1_isLike 32 = .ok (.getfield 22, 3) := by decide +kernel
theorem dX1_isLike_35 : decode cX1_isLike 35 = .ok (.iload_n 1, 1) := by decide +kernel
theorem dX1_isLike_36 : decode cX1_isLike 36 = .ok (.iaload, 1) := by decide +kernel
theorem dX1_isLike_37 : decode cX1_isLike 37 = .ok (.aload_n 2, 1) := by decide +kernel
theorem dX1_isLike_38 : decode cX1_isLike 38 = .ok (.getfield 22, 3) := by decide +kernel
theorem dX1_isLike_41 : decode cX1_isLike 41 = .ok (.iload_n 3, 1) := by decide +kernel
theorem dX1_isLike_42 : decode cX1_isLike 42 = .ok (.iaload, 1) := by decide +kernel
theorem dX1_isLike_43 : decode cX1_isLike 43 = .ok (.if_icmp .ne 7, 3) := by decide +kernel
theorem dX1_isLike_46 : decode cX1_isLike 46 = .ok (.iconst 1, 1) := by decide +kernel
theorem dX1_isLike_47 : decode cX1_isLike 47 = .ok (.goto 4, 3) := by decide +kernel
theorem dX1_isLike_50 : decode cX1_isLike 50 = .ok (.iconst 0, 1) := by decide +kernel
theorem dX1_isLike_51 : decode cX1_isLike 51 = .ok (.ireturn, 1) := by decide +kernel
theorem dX2_init_0 : decode cX2_init 0 = .ok (.aload_n 0, 1) := by decide +kernel
theorem dX2_init_1 : decode cX2_init 1 = .ok (.invokespecial 3, 3) := by decide +kernel
theorem dX2_init_4 : decode cX2_init 4 = .ok (.aload_n 0, 1) := by decide +kernel
theorem dX2_init_5 : decode cX2_init 5 = .ok (.iconst 0, 1) := by decide +kernel
theorem dX2_init_6 : decode cX2_init 6 = .ok (.putfield 9, 3) := by decide +kernel
theorem dX2_init_9 : decode cX2_init 9 = .ok (.aload_n 0, 1) := by decide +kernel
theorem dX2_init_10 : decode cX2_init 10 = .ok (.iconst 0, 1) := by decide +kernel
theorem dX2_init_11 : decode cX2_init 11 = .ok (.putfield 15, 3) := by decide +kernel
theorem dX2_init_14 : decode cX2_init 14 = .ok (.aload_n 0, 1) := by decide +kernel
theorem dX2_init_15 : decode cX2_init 15 = .ok (.iconst 1, 1) := by decide +kernel
theorem dX2_init_16 : decode cX2_init 16 = .ok (.putfield 18, 3) := by decide +kernel
theorem dX2_init_19 : decode cX2_init 19 = .ok (.aload_n 0, 1) := by decide +kernel
theorem dX2_init_20 : decode cX2_init 20 = .ok (.iconst 1, 1) := by decide +kernel
theorem dX2_init_21 : decode cX2_init 21 = .ok (.putfield 21, 3) := by decide +kernel
theorem dX2_init_24 : decode cX2_init 24 = .ok (.aload_n 0, 1) := by decide +kernel
theorem dX2_init_25 : decode cX2_init 25 = .ok (.bipush 64, 2) := by decide +kernel
theorem dX2_init_27 : decode cX2_init 27 = .ok (.newarray .int, 2) := by decide +kernel
theorem dX2_init_29 : decode cX2_init 29 = .ok (.putfield 24, 3) := by decide +kernel
theorem dX2_init_32 : decode cX2_init 32 = .ok (.return_, 1) := by decide +kernel
theorem dX2_init__0 : decode cX2_init_ 0 = .ok (.aload_n 0, 1) := by decide +kernel
theorem dX2_init__1 : decode cX2_init_ 1 = .ok (.invokespecial 3, 3) := by decide +kernel
theorem dX2_init__4 : decode cX2_init_ 4 = .ok (.aload_n 0, 1) := by decide +kernel
theorem dX2_init__5 : decode cX2_init_ 5 = .ok (.iconst 0, 1) := by decide +kernel
theorem dX2_init__6 : decode cX2_init_ 6 = .ok (.putfield 9, 3) := by decide +kernel
theorem dX2_init__9 : decode cX2_init_ 9 = .ok (.aload_n 0, 1) := by decide +kernel
theorem dX2_init__10 : decode cX2_init_ 10 = .ok (.iconst 0, 1) := by decide +kernel
theorem dX2_init__11 : decode cX2_init_ 11 = .ok (.putfield 15, 3) := by decide +kernel
theorem dX2_init__14 : decode cX2_init_ 14 = .ok (.aload_n 0, 1) := by decide +kernel
theorem dX2_init__15 : decode cX2_init_ 15 = .ok (.iconst 1, 1) := by decide +kernel
theorem dX2_init__16 : decode cX2_init_ 16 = .ok (.putfield 18, 3) := by decide +kernel
theorem dX2_init__19 : decode cX2_init_ 19 = .ok (.aload_n 0, 1) := by decide +kernel
theorem dX2_init__20 : decode cX2_init_ 20 = .ok (.iconst 1, 1) := by decide +kernel
theorem dX2_init__21 : decode cX2_init_ 21 = .ok (.putfield 21, 3) := by decide +kernel
theorem dX2_init__24 : decode cX2_init_ 24 = .ok (.aload_n 0, 1) := by decide +kernel
theorem dX2_init__25 : decode cX2_init_ 25 = .ok (.aload_n 1, 1) := by decide +kernel
theorem dX2_init__26 : decode cX2_init_ 26 = .ok (.getfield 24, 3) := by decide +kernel
theorem dX2_init__29 : decode cX2_init_ 29 = .ok (.invokevirtual 28, 3) := by decide +kernel
theorem dX2_init__32 : decode cX2_init_ 32 = .ok (.checkcast 29, 3) := by decide +kernel
theorem dX2_init__35 : decode cX2_init_ 35 = .ok (.putfield 24, 3) := by decide +kernel
theorem dX2_init__38 : decode cX2_init_ 38 = .ok (.aload_n 0, 1) := by decide +kernel
theorem dX2_init__39 : decode cX2_init_ 39 = .ok (.aload_n 1, 1) := by decide +kernel
theorem dX2_init__40 : decode cX2_init_ 40 = .ok (.getfield 9, 3) := by decide +kernel
theorem dX2_init__43 : decode cX2_init_ 43 = .ok (.putfield 9, 3) := by decide +kernel
theorem dX2_init__46 : decode cX2_init_ 46 = .ok (.aload_n 0, 1) := by decide +kernel
theorem dX2_init__47 : decode cX2_init_ 47 = .ok (.aload_n 1, 1) := by decide +kernel
theorem dX2_init__48 : decode cX2_init_ 48 = .ok (.getfield 15, 3) := by decide +kernel
theorem dX2_init__51 : decode cX2_init_ 51 = .ok (.putfield 15, 3) := by decide +kernel
theorem dX2_init__54 : decode cX2_init_ 54 = .ok (.aload_n 0, 1) := by decide +kernel
theorem dX2_init__55 : decode cX2_init_ 55 = .ok (.aload_n 1, 1) := by decide +kernel
theorem dX2_init__56 : decode cX2_init_ 56 = .ok (.getfield 18, 3) := by decide +kernel
theorem dX2_init__59 : decode cX2_init_ 59 = .ok (.putfield 18, 3) := by decide +kernel
theorem dX2_init__62 : decode cX2_init_ 62 = .ok (.aload_n 0, 1) := by decide +kernel
theorem dX2_init__63 : decode cX2_init_ 63 = .ok (.aload_n 1, 1) := by decide +kernel
theorem dX2_init__64 : decode cX2_init_ 64 = .ok (.getfield 21, 3) := by decide +kernel
theorem dX2_init__67 : decode cX2_init_ 67 = .ok (.putfield 21, 3) := by decide +kernel
theorem dX2_init__70 : decode cX2_init_ 70 = .ok (.return_, 1) := by decide +kernel
theorem dX2_start_0 : decode cX2_start 0 = .ok (.aload_n 0, 1) := by decide +kernel
theorem dX2_start_1 : decode cX2_start 1 = .ok (.iload_n 1, 1) := by decide +kernel
theorem dX2_start_2 : decode cX2_start 2 = .ok (.putfield 18, 3) := by decide +kernel
theorem dX2_start_5 : decode cX2_start 5 = .ok (.aload_n 0, 1) := by decide +kernel
theorem dX2_start_6 : decode cX2_start 6 = .ok (.iload_n 2, 1) := by decide +kernel
theorem dX2_start_7 : decode cX2_start 7 = .ok (.putfield 21, 3) := by decide +kernel
theorem dX2_start_10 : decode cX2_start 10 = .ok (.aload_n 0, 1) := by decide +kernel
theorem dX2_start_11 : decode cX2_start 11 = .ok (.getfield 24, 3) := by decide +kernel
theorem dX2_start_14 : decode cX2_start 14 = .ok (.iconst 0, 1) := by decide +kernel
theorem dX2_start_15 : decode cX2_start 15 = .ok (.iconst 0, 1) := by decide +kernel
theorem dX2_start_16 : decode cX2_start 16 = .ok (.iastore, 1) := by decide +kernel
theorem dX2_start_17 : decode cX2_start 17 = .ok (.aload_n 0, 1) := by decide +kernel
theorem dX2_start_18 : decode cX2_start 18 = .ok (.iconst 1, 1) := by decide +kernel
theorem dX2_start_19 : decode cX2_start 19 = .ok (.putfield 9, 3) := by decide +kernel
theorem dX2_start_22 : decode cX2_start 22 = .ok (.aload_n 0, 1) := by decide +kernel
theorem dX2_start_23 : decode cX2_start 23 = .ok (.iconst 1, 1) := by decide +kernel
theorem dX2_start_24 : decode cX2_start 24 = .ok (.putfield 15, 3) := by decide +kernel
theorem dX2_start_27 : decode cX2_start 27 = .ok (.return_, 1) := by decide +kernel
theorem dX2_goesWith_0 : decode cX2_goesWith 0 = .ok (.iload_n 0, 1) := by decide +kernel
theorem dX2_goesWith_1 : decode cX2_goesWith 1 = .ok (.iload_n 1, 1) := by decide +kernel
theorem dX2_goesWith_2 : decode cX2_goesWith 2 = .ok (.iload_n 0, 1) := by decide +kernel
theorem dX2_goesWith_3 : decode cX2_goesWith 3 = .ok (.iload_n 0, 1) := by decide +kernel
theorem dX2_goesWith_4 : decode cX2_goesWith 4 = .ok (.ineg, 1) := by decide +kernel
theorem dX2_goesWith_5 : decode cX2_goesWith 5 = .ok (.iand, 1) := by decide +kernel
theorem dX2_goesWith_6 : decode cX2_goesWith 6 = .ok (.imul, 1) := by decide +kernel
theorem dX2_goesWith_7 : decode cX2_goesWith 7 = .ok (.iadd, 1) := by decide +kernel
theorem dX2_goesWith_8 : decode cX2_goesWith 8 = .ok (.ireturn, 1) := by decide +kernel
theorem dX2_isHeldStill_0 : decode cX2_isHeldStill 0 = .ok (.iload_n 0, 1) := by decide +kernel
theorem dX2_isHeldStill_1 : decode cX2_isHeldStill 1 = .ok (.iload_n 1, 1) := by decide +kernel
theorem dX2_isHeldStill_2 : decode cX2_isHeldStill 2 = .ok (.invokestatic 33, 3) := by decide +kernel
theorem dX2_isHeldStill_5 : decode cX2_isHeldStill 5 = .ok (.iload_n 2, 1) := by decide +kernel
theorem dX2_isHeldStill_6 : decode cX2_isHeldStill 6 = .ok (.if_icmp .le 7, 3) := by decide +kernel
theorem dX2_isHeldStill_9 : decode cX2_isHeldStill 9 = .ok (.iconst 1, 1) := by decide +kernel
theorem dX2_isHeldStill_10 : decode cX2_isHeldStill 10 = .ok (.goto 4, 3) := by decide +kernel
theorem dX2_isHeldStill_13 : decode cX2_isHeldStill 13 = .ok (.iconst 0, 1) := by decide +kernel
theorem dX2_isHeldStill_14 : decode cX2_isHeldStill 14 = .ok (.ireturn, 1) := by decide +kernel
theorem dX2_has_0 : decode cX2_has 0 = .ok (.iload_n 1, 1) := by decide +kernel
theorem dX2_has_1 : decode cX2_has 1 = .ok (.ifCond .lt 21, 3) := by decide +kernel
theorem dX2_has_4 : decode cX2_has 4 = .ok (.iload_n 1, 1) := by decide +kernel
theorem dX2_has_5 : decode cX2_has 5 = .ok (.aload_n 0, 1) := by decide +kernel
theorem dX2_has_6 : decode cX2_has 6 = .ok (.getfield 9, 3) := by decide +kernel
theorem dX2_has_9 : decode cX2_has 9 = .ok (.if_icmp .ge 13, 3) := by decide +kernel
theorem dX2_has_12 : decode cX2_has 12 = .ok (.iload_n 1, 1) := by decide +kernel
theorem dX2_has_13 : decode cX2_has 13 = .ok (.bipush 64, 2) := by decide +kernel
theorem dX2_has_15 : decode cX2_has 15 = .ok (.if_icmp .ge 7, 3) := by decide +kernel
theorem dX2_has_18 : decode cX2_has 18 = .ok (.iconst 1, 1) := by decide +kernel
theorem dX2_has_19 : decode cX2_has 19 = .ok (.goto 4, 3) := by decide +kernel
theorem dX2_has_22 : decode cX2_has 22 = .ok (.iconst 0, 1) := by decide +kernel
theorem dX2_has_23 : decode cX2_has 23 = .ok (.ireturn, 1) := by decide +kernel
theorem dX2_timeOf_0 : decode cX2_timeOf 0 = .ok (.aload_n 0, 1) := by decide +kernel
theorem dX2_timeOf_1 : decode cX2_timeOf 1 = .ok (.iload_n 1, 1) := by decide +kernel
theorem dX2_timeOf_2 : decode cX2_timeOf 2 = .ok (.invokevirtual 37, 3) := by decide +kernel
theorem dX2_timeOf_5 : decode cX2_timeOf 5 = .ok (.ifCond .eq 12, 3) := by decide +kernel
theorem dX2_timeOf_8 : decode cX2_timeOf 8 = .ok (.aload_n 0, 1) := by decide +kernel
theorem dX2_timeOf_9 : decode cX2_timeOf 9 = .ok (.getfield 24, 3) := by decide +kernel
theorem dX2_timeOf_12 : decode cX2_timeOf 12 = .ok (.iload_n 1, 1) := by decide +kernel
theorem dX2_timeOf_13 : decode cX2_timeOf 13 = .ok (.iaload, 1) := by decide +kernel
theorem dX2_timeOf_14 : decode cX2_timeOf 14 = .ok (.goto 4, 3) := by decide +kernel
theorem dX2_timeOf_17 : decode cX2_timeOf 17 = .ok (.iconst (-1), 1) := by decide +kernel
theorem dX2_timeOf_18 : decode cX2_timeOf 18 = .ok (.ireturn, 1) := by decide +kernel
theorem dX2_goesAt_0 : decode cX2_goesAt 0 = .ok (.aload_n 0, 1) := by decide +kernel
theorem dX2_goesAt_1 : decode cX2_goesAt 1 = .ok (.iload_n 1, 1) := by decide +kernel
theorem dX2_goesAt_2 : decode cX2_goesAt 2 = .ok (.invokevirtual 37, 3) := by decide +kernel
theorem dX2_goesAt_5 : decode cX2_goesAt 5 = .ok (.ifCond .eq 20, 3) := by decide +kernel
theorem dX2_goesAt_8 : decode cX2_goesAt 8 = .ok (.aload_n 0, 1) := by decide +kernel
theorem dX2_goesAt_9 : decode cX2_goesAt 9 = .ok (.getfield 24, 3) := by decide +kernel
theorem dX2_goesAt_12 : decode cX2_goesAt 12 = .ok (.iload_n 1, 1) := by decide +kernel
theorem dX2_goesAt_13 : decode cX2_goesAt 13 = .ok (.iaload, 1) := by decide +kernel
theorem dX2_goesAt_14 : decode cX2_goesAt 14 = .ok (.ifCond .eq 11, 3) := by decide +kernel
theorem dX2_goesAt_17 : decode cX2_goesAt 17 = .ok (.aload_n 0, 1) := by decide +kernel
theorem dX2_goesAt_18 : decode cX2_goesAt 18 = .ok (.getfield 18, 3) := by decide +kernel
theorem dX2_goesAt_21 : decode cX2_goesAt 21 = .ok (.iconst 1, 1) := by decide +kernel
theorem dX2_goesAt_22 : decode cX2_goesAt 22 = .ok (.if_icmp .ge 5, 3) := by decide +kernel
theorem dX2_goesAt_25 : decode cX2_goesAt 25 = .ok (.iconst (-1), 1) := by decide +kernel
theorem dX2_goesAt_26 : decode cX2_goesAt 26 = .ok (.ireturn, 1) := by decide +kernel
theorem dX2_goesAt_27 : decode cX2_goesAt 27 = .ok (.aload_n 0, 1) := by decide +kernel
theorem dX2_goesAt_28 : decode cX2_goesAt 28 = .ok (.getfield 24, 3) := by decide +kernel
theorem dX2_goesAt_31 : decode cX2_goesAt 31 = .ok (.iload_n 1, 1) := by decide +kernel
theorem dX2_goesAt_32 : decode cX2_goesAt 32 = .ok (.iaload, 1) := by decide +kernel
theorem dX2_goesAt_33 : decode cX2_goesAt 33 = .ok (.aload_n 0, 1) := by decide +kernel
theorem dX2_goesAt_34 : decode cX2_goesAt 34 = .ok (.getfield 18, 3) := by decide +kernel
theorem dX2_goesAt_37 : decode cX2_goesAt 37 = .ok (.idiv, 1) := by decide +kernel
theorem dX2_goesAt_38 : decode cX2_goesAt 38 = .ok (.aload_n 0, 1) := by decide +kernel
theorem dX2_goesAt_39 : decode cX2_goesAt 39 = .ok (.getfield 21, 3) := by decide +kernel
theorem dX2_goesAt_42 : decode cX2_goesAt 42 = .ok (.invokestatic 33, 3) := by decide +kernel
theorem dX2_goesAt_45 : decode cX2_goesAt 45 = .ok (.aload_n 0, 1) := by decide +kernel
theorem dX2_goesAt_46 : decode cX2_goesAt 46 = .ok (.getfield 18, 3) := by decide +kernel
theorem dX2_goesAt_49 : decode cX2_goesAt 49 = .ok (.imul, 1) := by decide +kernel
theorem dX2_goesAt_50 : decode cX2_goesAt 50 = .ok (.ireturn, 1) := by decide +kernel
theorem dX2_timeComes_0 : decode cX2_timeComes 0 = .ok (.aload_n 0, 1) := by decide +kernel
theorem dX2_timeComes_1 : decode cX2_timeComes 1 = .ok (.getfield 18, 3) := by decide +kernel
theorem dX2_timeComes_4 : decode cX2_timeComes 4 = .ok (.iconst 1, 1) := by decide +kernel
theorem dX2_timeComes_5 : decode cX2_timeComes 5 = .ok (.if_icmp .lt 12, 3) := by decide +kernel
theorem dX2_timeComes_8 : decode cX2_timeComes 8 = .ok (.iload_n 1, 1) := by decide +kernel
theorem dX2_timeComes_9 : decode cX2_timeComes 9 = .ok (.aload_n 0, 1) := by decide +kernel
theorem dX2_timeComes_10 : decode cX2_timeComes 10 = .ok (.getfield 18, 3) := by decide +kernel
theorem dX2_timeComes_13 : decode cX2_timeComes 13 = .ok (.irem, 1) := by decide +kernel
theorem dX2_timeComes_14 : decode cX2_timeComes 14 = .ok (.ifCond .eq 4, 3) := by decide +kernel
theorem dX2_timeComes_17 : decode cX2_timeComes 17 = .ok (.return_, 1) := by decide +kernel
theorem dX2_timeComes_18 : decode cX2_timeComes 18 = .ok (.aload_n 0, 1) := by decide +kernel
theorem dX2_timeComes_19 : decode cX2_timeComes 19 = .ok (.iload_n 1, 1) := by decide +kernel
theorem dX2_timeComes_20 : decode cX2_timeComes 20 = .ok (.invokevirtual 41, 3) := by decide +kernel
theorem dX2_timeComes_23 : decode cX2_timeComes 23 = .ok (.aload_n 0, 1) := by decide +kernel
theorem dX2_timeComes_24 : decode cX2_timeComes 24 = .ok (.getfield 9, 3) := by decide +kernel
theorem dX2_timeComes_27 : decode cX2_timeComes 27 = .ok (.ifCond .lt 32, 3) := by decide +kernel
theorem dX2_timeComes_30 : decode cX2_timeComes 30 = .ok (.aload_n 0, 1) := by decide +kernel
theorem dX2_timeComes_31 : decode cX2_timeComes 31 = .ok (.getfield 9, 3) := by decide +kernel
theorem dX2_timeComes_34 : decode cX2_timeComes 34 = .ok (.bipush 64, 2) := by decide +kernel
theorem dX2_timeComes_36 : decode cX2_timeComes 36 = .ok (.if_icmp .ge 23, 3) := by decide +kernel
theorem dX2_timeComes_39 : decode cX2_timeComes 39 = .ok (.aload_n 0, 1) := by decide +kernel
theorem dX2_timeComes_40 : decode cX2_timeComes 40 = .ok (.getfield 24, 3) := by decide +kernel
theorem dX2_timeComes_43 : decode cX2_timeComes 43 = .ok (.aload_n 0, 1) := by decide +kernel
theorem dX2_timeComes_44 : decode cX2_timeComes 44 = .ok (.getfield 9, 3) := by decide +kernel
theorem dX2_timeComes_47 : decode cX2_timeComes 47 = .ok (.iload_n 1, 1) := by decide +kernel
theorem dX2_timeComes_48 : decode cX2_timeComes 48 = .ok (.iastore, 1) := by decide +kernel
theorem dX2_timeComes_49 : decode cX2_timeComes 49 = .ok (.aload_n 0, 1) := by decide +kernel
theorem dX2_timeComes_50 : decode cX2_timeComes 50 = .ok (.dup, 1) := by decide +kernel
theorem dX2_timeComes_51 : decode cX2_timeComes 51 = .ok (.getfield 9, 3) := by decide +kernel
theorem dX2_timeComes_54 : decode cX2_timeComes 54 = .ok (.iconst 1, 1) := by decide +kernel
theorem dX2_timeComes_55 : decode cX2_timeComes 55 = .ok (.iadd, 1) := by decide +kernel
theorem dX2_timeComes_56 : decode cX2_timeComes 56 = .ok (.putfield 9, 3) := by decide +kernel
theorem dX2_timeComes_59 : decode cX2_timeComes 59 = .ok (.aload_n 0, 1) := by decide +kernel
theorem dX2_timeComes_60 : decode cX2_timeComes 60 = .ok (.aload_n 0, 1) := by decide +kernel
theorem dX2_timeComes_61 : decode cX2_timeComes 61 = .ok (.getfield 15, 3) := by decide +kernel
theorem dX2_timeComes_64 : decode cX2_timeComes 64 = .ok (.aload_n 0, 1) := by decide +kernel
theorem dX2_timeComes_65 : decode cX2_timeComes 65 = .ok (.getfield 9, 3) := by decide +kernel
theorem dX2_timeComes_68 : decode cX2_timeComes 68 = .ok (.invokestatic 45, 3) := by decide +kernel
theorem dX2_timeComes_71 : decode cX2_timeComes 71 = .ok (.putfield 15, 3) := by decide +kernel
theorem dX2_timeComes_74 : decode cX2_timeComes 74 = .ok (.return_, 1) := by decide +kernel
theorem dX2_dropWhatGoesBy_0 : decode cX2_dropWhatGoesBy 0 = .ok (.iconst 0, 1) := by decide +kernel
theorem dX2_dropWhatGoesBy_1 : decode cX2_dropWhatGoesBy 1 = .ok (.istore_n 2, 1) := by decide +kernel
theorem dX2_dropWhatGoesBy_2 : decode cX2_dropWhatGoesBy 2 = .ok (.iconst 0, 1) := by decide +kernel
theorem dX2_dropWhatGoesBy_3 : decode cX2_dropWhatGoesBy 3 = .ok (.istore_n 3, 1) := by decide +kernel
theorem dX2_dropWhatGoesBy_4 : decode cX2_dropWhatGoesBy 4 = .ok (.iload_n 3, 1) := by decide +kernel
theorem dX2_dropWhatGoesBy_5 : decode cX2_dropWhatGoesBy 5 = .ok (.aload_n 0, 1) := by decide +kernel
theorem dX2_dropWhatGoesBy_6 : decode cX2_dropWhatGoesBy 6 = .ok (.getfield 9, 3) := by decide +kernel
theorem dX2_dropWhatGoesBy_9 : decode cX2_dropWhatGoesBy 9 = .ok (.if_icmp .ge 49, 3) := by decide +kernel
theorem dX2_dropWhatGoesBy_12 : decode cX2_dropWhatGoesBy 12 = .ok (.iload_n 3, 1) := by decide +kernel
theorem dX2_dropWhatGoesBy_13 : decode cX2_dropWhatGoesBy 13 = .ok (.bipush 64, 2) := by decide +kernel
theorem dX2_dropWhatGoesBy_15 : decode cX2_dropWhatGoesBy 15 = .ok (.if_icmp .ge 43, 3) := by decide +kernel
theorem dX2_dropWhatGoesBy_18 : decode cX2_dropWhatGoesBy 18 = .ok (.aload_n 0, 1) := by decide +kernel
theorem dX2_dropWhatGoesBy_19 : decode cX2_dropWhatGoesBy 19 = .ok (.iload_n 3, 1) := by decide +kernel
theorem dX2_dropWhatGoesBy_20 : decode cX2_dropWhatGoesBy 20 = .ok (.invokevirtual 50, 3) := by decide +kernel
theorem dX2_dropWhatGoesBy_23 : decode cX2_dropWhatGoesBy 23 = .ok (.istore 4, 2) := by decide +kernel
theorem dX2_dropWhatGoesBy_25 : decode cX2_dropWhatGoesBy 25 = .ok (.iload 4, 2) := by decide +kernel
theorem dX2_dropWhatGoesBy_27 : decode cX2_dropWhatGoesBy 27 = .ok (.iconst (-1), 1) := by decide +kernel
theorem dX2_dropWhatGoesBy_28 : decode cX2_dropWhatGoesBy 28 = .ok (.if_icmp .eq 9, 3) := by decide +kernel
theorem dX2_dropWhatGoesBy_31 : decode cX2_dropWhatGoesBy 31 = .ok (.iload 4, 2) := by decide +kernel
theorem dX2_dropWhatGoesBy_33 : decode cX2_dropWhatGoesBy 33 = .ok (.iload_n 1, 1) := by decide +kernel
theorem dX2_dropWhatGoesBy_34 : decode cX2_dropWhatGoesBy 34 = .ok (.if_icmp .le 18, 3) := by decide +kernel
theorem dX2_dropWhatGoesBy_37 : decode cX2_dropWhatGoesBy 37 = .ok (.aload_n 0, 1) := by decide +kernel
theorem dX2_dropWhatGoesBy_38 : decode cX2_dropWhatGoesBy 38 = .ok (.getfield 24, 3) := by decide +kernel
theorem dX2_dropWhatGoesBy_41 : decode cX2_dropWhatGoesBy 41 = .ok (.iload_n 2, 1) := by decide +kernel
theorem dX2_dropWhatGoesBy_42 : decode cX2_dropWhatGoesBy 42 = .ok (.aload_n 0, 1) := by decide +kernel
theorem dX2_dropWhatGoesBy_43 : decode cX2_dropWhatGoesBy 43 = .ok (.getfield 24, 3) := by decide +kernel
theorem dX2_dropWhatGoesBy_46 : decode cX2_dropWhatGoesBy 46 = .ok (.iload_n 3, 1) := by decide +kernel
theorem dX2_dropWhatGoesBy_47 : decode cX2_dropWhatGoesBy 47 = .ok (.iaload, 1) := by decide +kernel
theorem dX2_dropWhatGoesBy_48 : decode cX2_dropWhatGoesBy 48 = .ok (.iastore, 1) := by decide +kernel
theorem dX2_dropWhatGoesBy_49 : decode cX2_dropWhatGoesBy 49 = .ok (.iinc 2 1, 3) := by decide +kernel
theorem dX2_dropWhatGoesBy_52 : decode cX2_dropWhatGoesBy 52 = .ok (.iinc 3 1, 3) := by decide +kernel
theorem dX2_dropWhatGoesBy_55 : decode cX2_dropWhatGoesBy 55 = .ok (.goto (-51), 3) := by decide +kernel
theorem dX2_dropWhatGoesBy_58 : decode cX2_dropWhatGoesBy 58 = .ok (.aload_n 0, 1) := by decide +kernel
theorem dX2_dropWhatGoesBy_59 : decode cX2_dropWhatGoesBy 59 = .ok (.iload_n 2, 1) := by decide +kernel
theorem dX2_dropWhatGoesBy_60 : decode cX2_dropWhatGoesBy 60 = .ok (.putfield 9, 3) := by decide +kernel
theorem dX2_dropWhatGoesBy_63 : decode cX2_dropWhatGoesBy 63 = .ok (.return_, 1) := by decide +kernel
theorem dX2_dropAbove_0 : decode cX2_dropAbove 0 = .ok (.aload_n 0, 1) := by decide +kernel
theorem dX2_dropAbove_1 : decode cX2_dropAbove 1 = .ok (.getfield 9, 3) := by decide +kernel
theorem dX2_dropAbove_4 : decode cX2_dropAbove 4 = .ok (.iconst 1, 1) := by decide +kernel
theorem dX2_dropAbove_5 : decode cX2_dropAbove 5 = .ok (.isub, 1) := by decide +kernel
theorem dX2_dropAbove_6 : decode cX2_dropAbove 6 = .ok (.istore_n 2, 1) := by decide +kernel
theorem dX2_dropAbove_7 : decode cX2_dropAbove 7 = .ok (.iload_n 2, 1) := by decide +kernel
theorem dX2_dropAbove_8 : decode cX2_dropAbove 8 = .ok (.ifCond .lt 23, 3) := by decide +kernel
theorem dX2_dropAbove_11 : decode cX2_dropAbove 11 = .ok (.aload_n 0, 1) := by decide +kernel
theorem dX2_dropAbove_12 : decode cX2_dropAbove 12 = .ok (.iload_n 2, 1) := by decide +kernel
theorem dX2_dropAbove_13 : decode cX2_dropAbove 13 = .ok (.invokevirtual 54, 3) := by decide +kernel
theorem dX2_dropAbove_16 : decode cX2_dropAbove 16 = .ok (.iload_n 1, 1) := by decide +kernel
theorem dX2_dropAbove_17 : decode cX2_dropAbove 17 = .ok (.if_icmp .le 14, 3) := by decide +kernel
theorem dX2_dropAbove_20 : decode cX2_dropAbove 20 = .ok (.aload_n 0, 1) := by decide +kernel
theorem dX2_dropAbove_21 : decode cX2_dropAbove 21 = .ok (.iload_n 2, 1) := by decide +kernel
theorem dX2_dropAbove_22 : decode cX2_dropAbove 22 = .ok (.putfield 9, 3) := by decide +kernel
theorem dX2_dropAbove_25 : decode cX2_dropAbove 25 = .ok (.iinc 2 (-1), 3) := by decide +kernel
theorem dX2_dropAbove_28 : decode cX2_dropAbove 28 = .ok (.goto (-21), 3) := by decide +kernel
theorem dX2_dropAbove_31 : decode cX2_dropAbove 31 = .ok (.return_, 1) := by decide +kernel
theorem dX2_latestBy_0 : decode cX2_latestBy 0 = .ok (.iconst 0, 1) := by decide +kernel
theorem dX2_latestBy_1 : decode cX2_latestBy 1 = .ok (.istore_n 2, 1) := by decide +kernel
theorem dX2_latestBy_2 : decode cX2_latestBy 2 = .ok (.iconst 0, 1) := by decide +kernel
theorem dX2_latestBy_3 : decode cX2_latestBy 3 = .ok (.istore_n 3, 1) := by decide +kernel
theorem dX2_latestBy_4 : decode cX2_latestBy 4 = .ok (.iload_n 3, 1) := by decide +kernel
theorem dX2_latestBy_5 : decode cX2_latestBy 5 = .ok (.aload_n 0, 1) := by decide +kernel
theorem dX2_latestBy_6 : decode cX2_latestBy 6 = .ok (.getfield 9, 3) := by decide +kernel
theorem dX2_latestBy_9 : decode cX2_latestBy 9 = .ok (.if_icmp .ge 24, 3) := by decide +kernel
theorem dX2_latestBy_12 : decode cX2_latestBy 12 = .ok (.aload_n 0, 1) := by decide +kernel
theorem dX2_latestBy_13 : decode cX2_latestBy 13 = .ok (.iload_n 3, 1) := by decide +kernel
theorem dX2_latestBy_14 : decode cX2_latestBy 14 = .ok (.invokevirtual 54, 3) := by decide +kernel
theorem dX2_latestBy_17 : decode cX2_latestBy 17 = .ok (.iload_n 1, 1) := by decide +kernel
theorem dX2_latestBy_18 : decode cX2_latestBy 18 = .ok (.if_icmp .gt 15, 3) := by decide +kernel
theorem dX2_latestBy_21 : decode cX2_latestBy 21 = .ok (.aload_n 0, 1) := by decide +kernel
theorem dX2_latestBy_22 : decode cX2_latestBy 22 = .ok (.iload_n 3, 1) := by decide +kernel
theorem dX2_latestBy_23 : decode cX2_latestBy 23 = .ok (.invokevirtual 54, 3) := by decide +kernel
theorem dX2_latestBy_26 : decode cX2_latestBy 26 = .ok (.istore_n 2, 1) := by decide +kernel
theorem dX2_latestBy_27 : decode cX2_latestBy 27 = .ok (.iinc 3 1, 3) := by decide +kernel
theorem dX2_latestBy_30 : decode cX2_latestBy 30 = .ok (.goto (-26), 3) := by decide +kernel
theorem dX2_latestBy_33 : decode cX2_latestBy 33 = .ok (.iload_n 2, 1) := by decide +kernel
theorem dX2_latestBy_34 : decode cX2_latestBy 34 = .ok (.ireturn, 1) := by decide +kernel
theorem dX2_stepsToFind_0 : decode cX2_stepsToFind 0 = .ok (.iconst 0, 1) := by decide +kernel
theorem dX2_stepsToFind_1 : decode cX2_stepsToFind 1 = .ok (.istore_n 3, 1) := by decide +kernel
theorem dX2_stepsToFind_2 : decode cX2_stepsToFind 2 = .ok (.iload_n 2, 1) := by decide +kernel
theorem dX2_stepsToFind_3 : decode cX2_stepsToFind 3 = .ok (.istore 4, 2) := by decide +kernel
theorem dX2_stepsToFind_5 : decode cX2_stepsToFind 5 = .ok (.aload_n 0, 1) := by decide +kernel
theorem dX2_stepsToFind_6 : decode cX2_stepsToFind 6 = .ok (.getfield 9, 3) := by decide +kernel
theorem dX2_stepsToFind_9 : decode cX2_stepsToFind 9 = .ok (.iconst 1, 1) := by decide +kernel
theorem dX2_stepsToFind_10 : decode cX2_stepsToFind 10 = .ok (.isub, 1) := by decide +kernel
theorem dX2_stepsToFind_11 : decode cX2_stepsToFind 11 = .ok (.istore 5, 2) := by decide +kernel
theorem dX2_stepsToFind_13 : decode cX2_stepsToFind 13 = .ok (.iload 5, 2) := by decide +kernel
theorem dX2_stepsToFind_15 : decode cX2_stepsToFind 15 = .ok (.ifCond .lt 48, 3) := by decide +kernel
theorem dX2_stepsToFind_18 : decode cX2_stepsToFind 18 = .ok (.iload 4, 2) := by decide +kernel
theorem dX2_stepsToFind_20 : decode cX2_stepsToFind 20 = .ok (.iload_n 1, 1) := by decide +kernel
theorem dX2_stepsToFind_21 : decode cX2_stepsToFind 21 = .ok (.if_icmp .lt 42, 3) := by decide +kernel
theorem dX2_stepsToFind_24 : decode cX2_stepsToFind 24 = .ok (.aload_n 0, 1) := by decide +kernel
theorem dX2_stepsToFind_25 : decode cX2_stepsToFind 25 = .ok (.iload 5, 2) := by decide +kernel
theorem dX2_stepsToFind_27 : decode cX2_stepsToFind 27 = .ok (.invokevirtual 54, 3) := by decide +kernel
theorem dX2_stepsToFind_30 : decode cX2_stepsToFind 30 = .ok (.iload 4, 2) := by decide +kernel
theorem dX2_stepsToFind_32 : decode cX2_stepsToFind 32 = .ok (.if_icmp .gt 25, 3) := by decide +kernel
theorem dX2_stepsToFind_35 : decode cX2_stepsToFind 35 = .ok (.iload_n 3, 1) := by decide +kernel
theorem dX2_stepsToFind_36 : decode cX2_stepsToFind 36 = .ok (.iload 4, 2) := by decide +kernel
theorem dX2_stepsToFind_38 : decode cX2_stepsToFind 38 = .ok (.aload_n 0, 1) := by decide +kernel
theorem dX2_stepsToFind_39 : decode cX2_stepsToFind 39 = .ok (.iload 5, 2) := by decide +kernel
theorem dX2_stepsToFind_41 : decode cX2_stepsToFind 41 = .ok (.invokevirtual 54, 3) := by decide +kernel
theorem dX2_stepsToFind_44 : decode cX2_stepsToFind 44 = .ok (.isub, 1) := by decide +kernel
theorem dX2_stepsToFind_45 : decode cX2_stepsToFind 45 = .ok (.iadd, 1) := by decide +kernel
theorem dX2_stepsToFind_46 : decode cX2_stepsToFind 46 = .ok (.istore_n 3, 1) := by decide +kernel
theorem dX2_stepsToFind_47 : decode cX2_stepsToFind 47 = .ok (.aload_n 0, 1) := by decide +kernel
theorem dX2_stepsToFind_48 : decode cX2_stepsToFind 48 = .ok (.iload 5, 2) := by decide +kernel
theorem dX2_stepsToFind_50 : decode cX2_stepsToFind 50 = .ok (.invokevirtual 54, 3) := by decide +kernel
theorem dX2_stepsToFind_53 : decode cX2_stepsToFind 53 = .ok (.iconst 1, 1) := by decide +kernel
theorem dX2_stepsToFind_54 : decode cX2_stepsToFind 54 = .ok (.isub, 1) := by decide +kernel
theorem dX2_stepsToFind_55 : decode cX2_stepsToFind 55 = .ok (.istore 4, 2) := by decide +kernel
theorem dX2_stepsToFind_57 : decode cX2_stepsToFind 57 = .ok (.iinc 5 (-1), 3) := by decide +kernel
theorem dX2_stepsToFind_60 : decode cX2_stepsToFind 60 = .ok (.goto (-47), 3) := by decide +kernel
theorem dX2_stepsToFind_63 : decode cX2_stepsToFind 63 = .ok (.iload_n 3, 1) := by decide +kernel
theorem dX2_stepsToFind_64 : decode cX2_stepsToFind 64 = .ok (.ireturn, 1) := by decide +kernel
theorem dX3_init_0 : decode cX3_init 0 = .ok (.aload_n 0, 1) := by decide +kernel
theorem dX3_init_1 : decode cX3_init 1 = .ok (.invokespecial 3, 3) := by decide +kernel
theorem dX3_init_4 : decode cX3_init 4 = .ok (.aload_n 0, 1) := by decide +kernel
theorem dX3_init_5 : decode cX3_init 5 = .ok (.iconst 0, 1) := by decide +kernel
theorem dX3_init_6 : decode cX3_init 6 = .ok (.putfield 9, 3) := by decide +kernel
theorem dX3_init_9 : decode cX3_init 9 = .ok (.aload_n 0, 1) := by decide +kernel
theorem dX3_init_10 : decode cX3_init 10 = .ok (.sipush 800, 3) := by decide +kernel
theorem dX3_init_13 : decode cX3_init 13 = .ok (.newarray .int, 2) := by decide +kernel
theorem dX3_init_15 : decode cX3_init 15 = .ok (.putfield 15, 3) := by decide +kernel
theorem dX3_init_18 : decode cX3_init 18 = .ok (.aload_n 0, 1) := by decide +kernel
theorem dX3_init_19 : decode cX3_init 19 = .ok (.sipush 800, 3) := by decide +kernel
theorem dX3_init_22 : decode cX3_init 22 = .ok (.newarray .int, 2) := by decide +kernel
theorem dX3_init_24 : decode cX3_init 24 = .ok (.putfield 19, 3) := by decide +kernel
theorem dX3_init_27 : decode cX3_init 27 = .ok (.aload_n 0, 1) := by decide +kernel
theorem dX3_init_28 : decode cX3_init 28 = .ok (.sipush 800, 3) := by decide +kernel
theorem dX3_init_31 : decode cX3_init 31 = .ok (.newarray .int, 2) := by decide +kernel
theorem dX3_init_33 : decode cX3_init 33 = .ok (.putfield 22, 3) := by decide +kernel
theorem dX3_init_36 : decode cX3_init 36 = .ok (.aload_n 0, 1) := by decide +kernel
theorem dX3_init_37 : decode cX3_init 37 = .ok (.sipush 800, 3) := by decide +kernel
theorem dX3_init_40 : decode cX3_init 40 = .ok (.newarray .int, 2) := by decide +kernel
theorem dX3_init_42 : decode cX3_init 42 = .ok (.putfield 25, 3) := by decide +kernel
theorem dX3_init_45 : decode cX3_init 45 = .ok (.aload_n 0, 1) := by decide +kernel
theorem dX3_init_46 : decode cX3_init 46 = .ok (.sipush 800, 3) := by decide +kernel
theorem dX3_init_49 : decode cX3_init 49 = .ok (.newarray .int, 2) := by decide +kernel
theorem dX3_init_51 : decode cX3_init 51 = .ok (.putfield 28, 3) := by decide +kernel
theorem dX3_init_54 : decode cX3_init 54 = .ok (.return_, 1) := by decide +kernel
theorem dX3_init__0 : decode cX3_init_ 0 = .ok (.aload_n 0, 1) := by decide +kernel
theorem dX3_init__1 : decode cX3_init_ 1 = .ok (.invokespecial 3, 3) := by decide +kernel
theorem dX3_init__4 : decode cX3_init_ 4 = .ok (.aload_n 0, 1) := by decide +kernel
theorem dX3_init__5 : decode cX3_init_ 5 = .ok (.iconst 0, 1) := by decide +kernel
theorem dX3_init__6 : decode cX3_init_ 6 = .ok (.putfield 9, 3) := by decide +kernel
theorem dX3_init__9 : decode cX3_init_ 9 = .ok (.aload_n 0, 1) := by decide +kernel
theorem dX3_init__10 : decode cX3_init_ 10 = .ok (.aload_n 1, 1) := by decide +kernel
theorem dX3_init__11 : decode cX3_init_ 11 = .ok (.getfield 15, 3) := by decide +kernel
theorem dX3_init__14 : decode cX3_init_ 14 = .ok (.invokevirtual 31, 3) := by decide +kernel
theorem dX3_init__17 : decode cX3_init_ 17 = .ok (.checkcast 32, 3) := by decide +kernel
theorem dX3_init__20 : decode cX3_init_ 20 = .ok (.putfield 15, 3) := by decide +kernel
theorem dX3_init__23 : decode cX3_init_ 23 = .ok (.aload_n 0, 1) := by decide +kernel
theorem dX3_init__24 : decode cX3_init_ 24 = .ok (.aload_n 1, 1) := by decide +kernel
theorem dX3_init__25 : decode cX3_init_ 25 = .ok (.getfield 19, 3) := by decide +kernel
theorem dX3_init__28 : decode cX3_init_ 28 = .ok (.invokevirtual 31, 3) := by decide +kernel
theorem dX3_init__31 : decode cX3_init_ 31 = .ok (.checkcast 32, 3) := by decide +kernel
theorem dX3_init__34 : decode cX3_init_ 34 = .ok (.putfield 19, 3) := by decide +kernel
theorem dX3_init__37 : decode cX3_init_ 37 = .ok (.aload_n 0, 1) := by decide +kernel
theorem dX3_init__38 : decode cX3_init_ 38 = .ok (.aload_n 1, 1) := by decide +kernel
theorem dX3_init__39 : decode cX3_init_ 39 = .ok (.getfield 22, 3) := by decide +kernel
theorem dX3_init__42 : decode cX3_init_ 42 = .ok (.invokevirtual 31, 3) := by decide +kernel
theorem dX3_init__45 : decode cX3_init_ 45 = .ok (.checkcast 32, 3) := by decide +kernel
theorem dX3_init__48 : decode cX3_init_ 48 = .ok (.putfield 22, 3) := by decide +kernel
theorem dX3_init__51 : decode cX3_init_ 51 = .ok (.aload_n 0, 1) := by decide +kernel
theorem dX3_init__52 : decode cX3_init_ 52 = .ok (.aload_n 1, 1) := by decide +kernel
theorem dX3_init__53 : decode cX3_init_ 53 = .ok (.getfield 25, 3) := by decide +kernel
theorem dX3_init__56 : decode cX3_init_ 56 = .ok (.invokevirtual 31, 3) := by decide +kernel
theorem dX3_init__59 : decode cX3_init_ 59 = .ok (.checkcast 32, 3) := by decide +kernel
theorem dX3_init__62 : decode cX3_init_ 62 = .ok (.putfield 25, 3) := by decide +kernel
theorem dX3_init__65 : decode cX3_init_ 65 = .ok (.aload_n 0, 1) := by decide +kernel
theorem dX3_init__66 : decode cX3_init_ 66 = .ok (.aload_n 1, 1) := by decide +kernel
theorem dX3_init__67 : decode cX3_init_ 67 = .ok (.getfield 28, 3) := by decide +kernel
theorem dX3_init__70 : decode cX3_init_ 70 = .ok (.invokevirtual 31, 3) := by decide +kernel
theorem dX3_init__73 : decode cX3_init_ 73 = .ok (.checkcast 32, 3) := by decide +kernel
theorem dX3_init__76 : decode cX3_init_ 76 = .ok (.putfield 28, 3) := by decide +kernel
theorem dX3_init__79 : decode cX3_init_ 79 = .ok (.aload_n 0, 1) := by decide +kernel
theorem dX3_init__80 : decode cX3_init_ 80 = .ok (.aload_n 1, 1) := by decide +kernel
theorem dX3_init__81 : decode cX3_init_ 81 = .ok (.getfield 9, 3) := by decide +kernel
theorem dX3_init__84 : decode cX3_init_ 84 = .ok (.putfield 9, 3) := by decide +kernel
theorem dX3_init__87 : decode cX3_init_ 87 = .ok (.return_, 1) := by decide +kernel
theorem dX3_has_0 : decode cX3_has 0 = .ok (.iload_n 1, 1) := by decide +kernel
theorem dX3_has_1 : decode cX3_has 1 = .ok (.ifCond .lt 22, 3) := by decide +kernel
theorem dX3_has_4 : decode cX3_has 4 = .ok (.iload_n 1, 1) := by decide +kernel
theorem dX3_has_5 : decode cX3_has 5 = .ok (.aload_n 0, 1) := by decide +kernel
theorem dX3_has_6 : decode cX3_has 6 = .ok (.getfield 9, 3) := by decide +kernel
theorem dX3_has_9 : decode cX3_has 9 = .ok (.if_icmp .ge 14, 3) := by decide +kernel
theorem dX3_has_12 : decode cX3_has 12 = .ok (.iload_n 1, 1) := by decide +kernel
theorem dX3_has_13 : decode cX3_has 13 = .ok (.sipush 800, 3) := by decide +kernel
theorem dX3_has_16 : decode cX3_has 16 = .ok (.if_icmp .ge 7, 3) := by decide +kernel
theorem dX3_has_19 : decode cX3_has 19 = .ok (.iconst 1, 1) := by decide +kernel
theorem dX3_has_20 : decode cX3_has 20 = .ok (.goto 4, 3) := by decide +kernel
theorem dX3_has_23 : decode cX3_has 23 = .ok (.iconst 0, 1) := by decide +kernel
theorem dX3_has_24 : decode cX3_has 24 = .ok (.ireturn, 1) := by decide +kernel
theorem dX3_isFull_0 : decode cX3_isFull 0 = .ok (.aload_n 0, 1) := by decide +kernel
theorem dX3_isFull_1 : decode cX3_isFull 1 = .ok (.getfield 9, 3) := by decide +kernel
theorem dX3_isFull_4 : decode cX3_isFull 4 = .ok (.sipush 800, 3) := by decide +kernel
theorem dX3_isFull_7 : decode cX3_isFull 7 = .ok (.if_icmp .lt 7, 3) := by decide +kernel
theorem dX3_isFull_10 : decode cX3_isFull 10 = .ok (.iconst 1, 1) := by decide +kernel
theorem dX3_isFull_11 : decode cX3_isFull 11 = .ok (.goto 4, 3) := by decide +kernel
theorem dX3_isFull_14 : decode cX3_isFull 14 = .ok (.iconst 0, 1) := by decide +kernel
theorem dX3_isFull_15 : decode cX3_isFull 15 = .ok (.ireturn, 1) := by decide +kernel
theorem dX3_addWhole_0 : decode cX3_addWhole 0 = .ok (.aload_n 0, 1) := by decide +kernel
theorem dX3_addWhole_1 : decode cX3_addWhole 1 = .ok (.iload_n 1, 1) := by decide +kernel
theorem dX3_addWhole_2 : decode cX3_addWhole 2 = .ok (.iload_n 2, 1) := by decide +kernel
theorem dX3_addWhole_3 : decode cX3_addWhole 3 = .ok (.iconst (-1), 1) := by decide +kernel
theorem dX3_addWhole_4 : decode cX3_addWhole 4 = .ok (.iconst 2, 1) := by decide +kernel
theorem dX3_addWhole_5 : decode cX3_addWhole 5 = .ok (.iload_n 3, 1) := by decide +kernel
theorem dX3_addWhole_6 : decode cX3_addWhole 6 = .ok (.invokevirtual 36, 3) := by decide +kernel
theorem dX3_addWhole_9 : decode cX3_addWhole 9 = .ok (.return_, 1) := by decide +kernel
theorem dX3_addPoke_0 : decode cX3_addPoke 0 = .ok (.aload_n 0, 1) := by decide +kernel
theorem dX3_addPoke_1 : decode cX3_addPoke 1 = .ok (.iload_n 1, 1) := by decide +kernel
theorem dX3_addPoke_2 : decode cX3_addPoke 2 = .ok (.iconst 2, 1) := by decide +kernel
theorem dX3_addPoke_3 : decode cX3_addPoke 3 = .ok (.iload_n 2, 1) := by decide +kernel
theorem dX3_addPoke_4 : decode cX3_addPoke 4 = .ok (.iload_n 3, 1) := by decide +kernel
theorem dX3_addPoke_5 : decode cX3_addPoke 5 = .ok (.iload 4, 2) := by decide +kernel
theorem dX3_addPoke_7 : decode cX3_addPoke 7 = .ok (.invokevirtual 36, 3) := by decide +kernel
theorem dX3_addPoke_10 : decode cX3_addPoke 10 = .ok (.return_, 1) := by decide +kernel
theorem dX3_add_0 : decode cX3_add 0 = .ok (.aload_n 0, 1) := by decide +kernel
theorem dX3_add_1 : decode cX3_add 1 = .ok (.getfield 9, 3) := by decide +kernel
theorem dX3_add_4 : decode cX3_add 4 = .ok (.ifCond .lt 75, 3) := by decide +kernel
theorem dX3_add_7 : decode cX3_add 7 = .ok (.aload_n 0, 1) := by decide +kernel
theorem dX3_add_8 : decode cX3_add 8 = .ok (.getfield 9, 3) := by decide +kernel
theorem dX3_add_11 : decode cX3_add 11 = .ok (.sipush 800, 3) := by decide +kernel
theorem dX3_add_14 : decode cX3_add 14 = .ok (.if_icmp .ge 65, 3) := by decide +kernel
theorem dX3_add_17 : decode cX3_add 17 = .ok (.aload_n 0, 1) := by decide +kernel
theorem dX3_add_18 : decode cX3_add 18 = .ok (.getfield 15, 3) := by decide +kernel
theorem dX3_add_21 : decode cX3_add 21 = .ok (.aload_n 0, 1) := by decide +kernel
theorem dX3_add_22 : decode cX3_add 22 = .ok (.getfield 9, 3) := by decide +kernel
theorem dX3_add_25 : decode cX3_add 25 = .ok (.iload_n 1, 1) := by decide +kernel
theorem dX3_add_26 : decode cX3_add 26 = .ok (.iastore, 1) := by decide +kernel
theorem dX3_add_27 : decode cX3_add 27 = .ok (.aload_n 0, 1) := by decide +kernel
theorem dX3_add_28 : decode cX3_add 28 = .ok (.getfield 19, 3) := by decide +kernel
theorem dX3_add_31 : decode cX3_add 31 = .ok (.aload_n 0, 1) := by decide +kernel
theorem dX3_add_32 : decode cX3_add 32 = .ok (.getfield 9, 3) := by decide +kernel
theorem dX3_add_35 : decode cX3_add 35 = .ok (.iload_n 2, 1) := by decide +kernel
theorem dX3_add_36 : decode cX3_add 36 = .ok (.iastore, 1) := by decide +kernel
theorem dX3_add_37 : decode cX3_add 37 = .ok (.aload_n 0, 1) := by decide +kernel
theorem dX3_add_38 : decode cX3_add 38 = .ok (.getfield 25, 3) := by decide +kernel
theorem dX3_add_41 : decode cX3_add 41 = .ok (.aload_n 0, 1) := by decide +kernel
theorem dX3_add_42 : decode cX3_add 42 = .ok (.getfield 9, 3) := by decide +kernel
theorem dX3_add_45 : decode cX3_add 45 = .ok (.iload_n 3, 1) := by decide +kernel
theorem dX3_add_46 : decode cX3_add 46 = .ok (.iastore, 1) := by decide +kernel
theorem dX3_add_47 : decode cX3_add 47 = .ok (.aload_n 0, 1) := by decide +kernel
theorem dX3_add_48 : decode cX3_add 48 = .ok (.getfield 28, 3) := by decide +kernel
theorem dX3_add_51 : decode cX3_add 51 = .ok (.aload_n 0, 1) := by decide +kernel
theorem dX3_add_52 : decode cX3_add 52 = .ok (.getfield 9, 3) := by decide +kernel
theorem dX3_add_55 : decode cX3_add 55 = .ok (.iload 4, 2) := by decide +kernel
theorem dX3_add_57 : decode cX3_add 57 = .ok (.iastore, 1) := by decide +kernel
theorem dX3_add_58 : decode cX3_add 58 = .ok (.aload_n 0, 1) := by decide +kernel
theorem dX3_add_59 : decode cX3_add 59 = .ok (.getfield 22, 3) := by decide +kernel
theorem dX3_add_62 : decode cX3_add 62 = .ok (.aload_n 0, 1) := by decide +kernel
theorem dX3_add_63 : decode cX3_add 63 = .ok (.getfield 9, 3) := by decide +kernel
theorem dX3_add_66 : decode cX3_add 66 = .ok (.iload 5, 2) := by decide +kernel
theorem dX3_add_68 : decode cX3_add 68 = .ok (.iastore, 1) := by decide +kernel
theorem dX3_add_69 : decode cX3_add 69 = .ok (.aload_n 0, 1) := by decide +kernel
theorem dX3_add_70 : decode cX3_add 70 = .ok (.dup, 1) := by decide +kernel
theorem dX3_add_71 : decode cX3_add 71 = .ok (.getfield 9, 3) := by decide +kernel
theorem dX3_add_74 : decode cX3_add 74 = .ok (.iconst 1, 1) := by decide +kernel
theorem dX3_add_75 : decode cX3_add 75 = .ok (.iadd, 1) := by decide +kernel
theorem dX3_add_76 : decode cX3_add 76 = .ok (.putfield 9, 3) := by decide +kernel
theorem dX3_add_79 : decode cX3_add 79 = .ok (.return_, 1) := by decide +kernel
theorem dX3_read_0 : decode cX3_read 0 = .ok (.aload_n 0, 1) := by decide +kernel
theorem dX3_read_1 : decode cX3_read 1 = .ok (.iload_n 1, 1) := by decide +kernel
theorem dX3_read_2 : decode cX3_read 2 = .ok (.invokevirtual 40, 3) := by decide +kernel
theorem dX3_read_5 : decode cX3_read 5 = .ok (.ifCond .ne 6, 3) := by decide +kernel
theorem dX3_read_8 : decode cX3_read 8 = .ok (.ldc 44, 2) := by decide +kernel
theorem dX3_read_10 : decode cX3_read 10 = .ok (.ireturn, 1) := by decide +kernel
theorem dX3_read_11 : decode cX3_read 11 = .ok (.iload_n 2, 1) := by decide +kernel
theorem dX3_read_12 : decode cX3_read 12 = .ok (.tableswitch 71 0 4 #[36, 43, 50, 57, 64], 36) := by decide +kernel
theorem dX3_read_48 : decode cX3_read 48 = .ok (.aload_n 0, 1) := by decide +kernel
theorem dX3_read_49 : decode cX3_read 49 = .ok (.getfield 15, 3) := by decide +kernel
theorem dX3_read_52 : decode cX3_read 52 = .ok (.iload_n 1, 1) := by decide +kernel
theorem dX3_read_53 : decode cX3_read 53 = .ok (.iaload, 1) := by decide +kernel
theorem dX3_read_54 : decode cX3_read 54 = .ok (.ireturn, 1) := by decide +kernel
theorem dX3_read_55 : decode cX3_read 55 = .ok (.aload_n 0, 1) := by decide +kernel
theorem dX3_read_56 : decode cX3_read 56 = .ok (.getfield 19, 3) := by decide +kernel
theorem dX3_read_59 : decode cX3_read 59 = .ok (.iload_n 1, 1) := by decide +kernel
theorem dX3_read_60 : decode cX3_read 60 = .ok (.iaload, 1) := by decide +kernel
theorem dX3_read_61 : decode cX3_read 61 = .ok (.ireturn, 1) := by decide +kernel
theorem dX3_read_62 : decode cX3_read 62 = .ok (.aload_n 0, 1) := by decide +kernel
theorem dX3_read_63 : decode cX3_read 63 = .ok (.getfield 22, 3) := by decide +kernel
theorem dX3_read_66 : decode cX3_read 66 = .ok (.iload_n 1, 1) := by decide +kernel
theorem dX3_read_67 : decode cX3_read 67 = .ok (.iaload, 1) := by decide +kernel
theorem dX3_read_68 : decode cX3_read 68 = .ok (.ireturn, 1) := by decide +kernel
theorem dX3_read_69 : decode cX3_read 69 = .ok (.aload_n 0, 1) := by decide +kernel
theorem dX3_read_70 : decode cX3_read 70 = .ok (.getfield 25, 3) := by decide +kernel
theorem dX3_read_73 : decode cX3_read 73 = .ok (.iload_n 1, 1) := by decide +kernel
theorem dX3_read_74 : decode cX3_read 74 = .ok (.iaload, 1) := by decide +kernel
theorem dX3_read_75 : decode cX3_read 75 = .ok (.ireturn, 1) := by decide +kernel
theorem dX3_read_76 : decode cX3_read 76 = .ok (.aload_n 0, 1) := by decide +kernel
theorem dX3_read_77 : decode cX3_read 77 = .ok (.getfield 28, 3) := by decide +kernel
theorem dX3_read_80 : decode cX3_read 80 = .ok (.iload_n 1, 1) := by decide +kernel
theorem dX3_read_81 : decode cX3_read 81 = .ok (.iaload, 1) := by decide +kernel
theorem dX3_read_82 : decode cX3_read 82 = .ok (.ireturn, 1) := by decide +kernel
theorem dX3_read_83 : decode cX3_read 83 = .ok (.ldc 44, 2) := by decide +kernel
theorem dX3_read_85 : decode cX3_read 85 = .ok (.ireturn, 1) := by decide +kernel
theorem dX3_dropBehind_0 : decode cX3_dropBehind 0 = .ok (.aload_n 0, 1) := by decide +kernel
theorem dX3_dropBehind_1 : decode cX3_dropBehind 1 = .ok (.getfield 9, 3) := by decide +kernel
theorem dX3_dropBehind_4 : decode cX3_dropBehind 4 = .ok (.iconst 1, 1) := by decide +kernel
theorem dX3_dropBehind_5 : decode cX3_dropBehind 5 = .ok (.isub, 1) := by decide +kernel
theorem dX3_dropBehind_6 : decode cX3_dropBehind 6 = .ok (.istore_n 3, 1) := by decide +kernel
theorem dX3_dropBehind_7 : decode cX3_dropBehind 7 = .ok (.iload_n 3, 1) := by decide +kernel
theorem dX3_dropBehind_8 : decode cX3_dropBehind 8 = .ok (.ifCond .lt 42, 3) := by decide +kernel
theorem dX3_dropBehind_11 : decode cX3_dropBehind 11 = .ok (.aload_n 0, 1) := by decide +kernel
theorem dX3_dropBehind_12 : decode cX3_dropBehind 12 = .ok (.iload_n 3, 1) := by decide +kernel
theorem dX3_dropBehind_13 : decode cX3_dropBehind 13 = .ok (.iload_n 1, 1) := by decide +kernel
theorem dX3_dropBehind_14 : decode cX3_dropBehind 14 = .ok (.invokevirtual 45, 3) := by decide +kernel
theorem dX3_dropBehind_17 : decode cX3_dropBehind 17 = .ok (.ifCond .eq 33, 3) := by decide +kernel
theorem dX3_dropBehind_20 : decode cX3_dropBehind 20 = .ok (.aload_n 0, 1) := by decide +kernel
theorem dX3_dropBehind_21 : decode cX3_dropBehind 21 = .ok (.getfield 19, 3) := by decide +kernel
theorem dX3_dropBehind_24 : decode cX3_dropBehind 24 = .ok (.iload_n 3, 1) := by decide +kernel
theorem dX3_dropBehind_25 : decode cX3_dropBehind 25 = .ok (.iaload, 1) := by decide +kernel
theorem dX3_dropBehind_26 : decode cX3_dropBehind 26 = .ok (.ifCond .ne 13, 3) := by decide +kernel
theorem dX3_dropBehind_29 : decode cX3_dropBehind 29 = .ok (.aload_n 2, 1) := by decide +kernel
theorem dX3_dropBehind_30 : decode cX3_dropBehind 30 = .ok (.aload_n 0, 1) := by decide +kernel
theorem dX3_dropBehind_31 : decode cX3_dropBehind 31 = .ok (.getfield 22, 3) := by decide +kernel
theorem dX3_dropBehind_34 : decode cX3_dropBehind 34 = .ok (.iload_n 3, 1) := by decide +kernel
theorem dX3_dropBehind_35 : decode cX3_dropBehind 35 = .ok (.iaload, 1) := by decide +kernel
theorem dX3_dropBehind_36 : decode cX3_dropBehind 36 = .ok (.invokevirtual 49, 3) := by decide +kernel
theorem dX3_dropBehind_39 : decode cX3_dropBehind 39 = .ok (.aload_n 0, 1) := by decide +kernel
theorem dX3_dropBehind_40 : decode cX3_dropBehind 40 = .ok (.iload_n 3, 1) := by decide +kernel
theorem dX3_dropBehind_41 : decode cX3_dropBehind 41 = .ok (.putfield 9, 3) := by decide +kernel
theorem dX3_dropBehind_44 : decode cX3_dropBehind 44 = .ok (.iinc 3 (-1), 3) := by decide +kernel
theorem dX3_dropBehind_47 : decode cX3_dropBehind 47 = .ok (.goto (-40), 3) := by decide +kernel
theorem dX3_dropBehind_50 : decode cX3_dropBehind 50 = .ok (.return_, 1) := by decide +kernel
theorem dX3_isBehind_0 : decode cX3_isBehind 0 = .ok (.aload_n 0, 1) := by decide +kernel
theorem dX3_isBehind_1 : decode cX3_isBehind 1 = .ok (.iload_n 1, 1) := by decide +kernel
theorem dX3_isBehind_2 : decode cX3_isBehind 2 = .ok (.invokevirtual 40, 3) := by decide +kernel
theorem dX3_isBehind_5 : decode cX3_isBehind 5 = .ok (.ifCond .eq 40, 3) := by decide +kernel
theorem dX3_isBehind_8 : decode cX3_isBehind 8 = .ok (.aload_n 0, 1) := by decide +kernel
theorem dX3_isBehind_9 : decode cX3_isBehind 9 = .ok (.getfield 19, 3) := by decide +kernel
theorem dX3_isBehind_12 : decode cX3_isBehind 12 = .ok (.iload_n 1, 1) := by decide +kernel
theorem dX3_isBehind_13 : decode cX3_isBehind 13 = .ok (.iaload, 1) := by decide +kernel
theorem dX3_isBehind_14 : decode cX3_isBehind 14 = .ok (.iconst 2, 1) := by decide +kernel
theorem dX3_isBehind_15 : decode cX3_isBehind 15 = .ok (.if_icmp .ne 16, 3) := by decide +kernel
theorem dX3_isBehind_18 : decode cX3_isBehind 18 = .ok (.aload_n 0, 1) := by decide +kernel
theorem dX3_isBehind_19 : decode cX3_isBehind 19 = .ok (.getfield 15, 3) := by decide +kernel
theorem dX3_isBehind_22 : decode cX3_isBehind 22 = .ok (.iload_n 1, 1) := by decide +kernel
theorem dX3_isBehind_23 : decode cX3_isBehind 23 = .ok (.iaload, 1) := by decide +kernel
theorem dX3_isBehind_24 : decode cX3_isBehind 24 = .ok (.iload_n 2, 1) := by decide +kernel
theorem dX3_isBehind_25 : decode cX3_isBehind 25 = .ok (.if_icmp .le 20, 3) := by decide +kernel
theorem dX3_isBehind_28 : decode cX3_isBehind 28 = .ok (.goto 13, 3) := by decide +kernel
theorem dX3_isBehind_31 : decode cX3_isBehind 31 = .ok (.aload_n 0, 1) := by decide +kernel
theorem dX3_isBehind_32 : decode cX3_isBehind 32 = .ok (.getfield 15, 3) := by decide +kernel
theorem dX3_isBehind_35 : decode cX3_isBehind 35 = .ok (.iload_n 1, 1) := by decide +kernel
theorem dX3_isBehind_36 : decode cX3_isBehind 36 = .ok (.iaload, 1) := by decide +kernel
theorem dX3_isBehind_37 : decode cX3_isBehind 37 = .ok (.iload_n 2, 1) := by decide +kernel
theorem dX3_isBehind_38 : decode cX3_isBehind 38 = .ok (.if_icmp .lt 7, 3) := by decide +kernel
theorem dX3_isBehind_41 : decode cX3_isBehind 41 = .ok (.iconst 1, 1) := by decide +kernel
theorem dX3_isBehind_42 : decode cX3_isBehind 42 = .ok (.goto 4, 3) := by decide +kernel
theorem dX3_isBehind_45 : decode cX3_isBehind 45 = .ok (.iconst 0, 1) := by decide +kernel
theorem dX3_isBehind_46 : decode cX3_isBehind 46 = .ok (.ireturn, 1) := by decide +kernel
theorem dX4_init_0 : decode cX4_init 0 = .ok (.aload_n 0, 1) := by decide +kernel
theorem dX4_init_1 : decode cX4_init 1 = .ok (.invokespecial 3, 3) := by decide +kernel
theorem dX4_init_4 : decode cX4_init 4 = .ok (.aload_n 0, 1) := by decide +kernel
theorem dX4_init_5 : decode cX4_init 5 = .ok (.sipush 900, 3) := by decide +kernel
theorem dX4_init_8 : decode cX4_init 8 = .ok (.newarray .int, 2) := by decide +kernel
theorem dX4_init_10 : decode cX4_init 10 = .ok (.putfield 9, 3) := by decide +kernel
theorem dX4_init_13 : decode cX4_init 13 = .ok (.aload_n 0, 1) := by decide +kernel
theorem dX4_init_14 : decode cX4_init 14 = .ok (.iconst 0, 1) := by decide +kernel
theorem dX4_init_15 : decode cX4_init 15 = .ok (.putfield 15, 3) := by decide +kernel
theorem dX4_init_18 : decode cX4_init 18 = .ok (.aload_n 0, 1) := by decide +kernel
theorem dX4_init_19 : decode cX4_init 19 = .ok (.iconst 0, 1) := by decide +kernel
theorem dX4_init_20 : decode cX4_init 20 = .ok (.putfield 19, 3) := by decide +kernel
theorem dX4_init_23 : decode cX4_init 23 = .ok (.aload_n 0, 1) := by decide +kernel
theorem dX4_init_24 : decode cX4_init 24 = .ok (.iconst 1, 1) := by decide +kernel
theorem dX4_init_25 : decode cX4_init 25 = .ok (.putfield 22, 3) := by decide +kernel
theorem dX4_init_28 : decode cX4_init 28 = .ok (.return_, 1) := by decide +kernel
theorem dX4_clearInputs_0 : decode cX4_clearInputs 0 = .ok (.aload_n 0, 1) := by decide +kernel
theorem dX4_clearInputs_1 : decode cX4_clearInputs 1 = .ok (.iconst 0, 1) := by decide +kernel
theorem dX4_clearInputs_2 : decode cX4_clearInputs 2 = .ok (.putfield 15, 3) := by decide +kernel
theorem dX4_clearInputs_5 : decode cX4_clearInputs 5 = .ok (.aload_n 0, 1) := by decide +kernel
theorem dX4_clearInputs_6 : decode cX4_clearInputs 6 = .ok (.iconst 0, 1) := by decide +kernel
theorem dX4_clearInputs_7 : decode cX4_clearInputs 7 = .ok (.putfield 19, 3) := by decide +kernel
theorem dX4_clearInputs_10 : decode cX4_clearInputs 10 = .ok (.return_, 1) := by decide +kernel
theorem dX4_addLast_0 : decode cX4_addLast 0 = .ok (.aload_n 0, 1) := by decide +kernel
theorem dX4_addLast_1 : decode cX4_addLast 1 = .ok (.getfield 19, 3) := by decide +kernel
theorem dX4_addLast_4 : decode cX4_addLast 4 = .ok (.sipush 900, 3) := by decide +kernel
theorem dX4_addLast_7 : decode cX4_addLast 7 = .ok (.if_icmp .ge 32, 3) := by decide +kernel
theorem dX4_addLast_10 : decode cX4_addLast 10 = .ok (.aload_n 0, 1) := by decide +kernel
theorem dX4_addLast_11 : decode cX4_addLast 11 = .ok (.getfield 9, 3) := by decide +kernel
theorem dX4_addLast_14 : decode cX4_addLast 14 = .ok (.aload_n 0, 1) := by decide +kernel
theorem dX4_addLast_15 : decode cX4_addLast 15 = .ok (.getfield 15, 3) := by decide +kernel
theorem dX4_addLast_18 : decode cX4_addLast 18 = .ok (.aload_n 0, 1) := by decide +kernel
theorem dX4_addLast_19 : decode cX4_addLast 19 = .ok (.getfield 19, 3) := by decide +kernel
theorem dX4_addLast_22 : decode cX4_addLast 22 = .ok (.iadd, 1) := by decide +kernel
theorem dX4_addLast_23 : decode cX4_addLast 23 = .ok (.sipush 900, 3) := by decide +kernel
theorem dX4_addLast_26 : decode cX4_addLast 26 = .ok (.irem, 1) := by decide +kernel
theorem dX4_addLast_27 : decode cX4_addLast 27 = .ok (.iload_n 1, 1) := by decide +kernel
theorem dX4_addLast_28 : decode cX4_addLast 28 = .ok (.iastore, 1) := by decide +kernel
theorem dX4_addLast_29 : decode cX4_addLast 29 = .ok (.aload_n 0, 1) := by decide +kernel
theorem dX4_addLast_30 : decode cX4_addLast 30 = .ok (.dup, 1) := by decide +kernel
theorem dX4_addLast_31 : decode cX4_addLast 31 = .ok (.getfield 19, 3) := by decide +kernel
theorem dX4_addLast_34 : decode cX4_addLast 34 = .ok (.iconst 1, 1) := by decide +kernel
theorem dX4_addLast_35 : decode cX4_addLast 35 = .ok (.iadd, 1) := by decide +kernel
theorem dX4_addLast_36 : decode cX4_addLast 36 = .ok (.putfield 19, 3) := by decide +kernel
theorem dX4_addLast_39 : decode cX4_addLast 39 = .ok (.return_, 1) := by decide +kernel
theorem dX4_addFirst_0 : decode cX4_addFirst 0 = .ok (.aload_n 0, 1) := by decide +kernel
theorem dX4_addFirst_1 : decode cX4_addFirst 1 = .ok (.getfield 19, 3) := by decide +kernel
theorem dX4_addFirst_4 : decode cX4_addFirst 4 = .ok (.sipush 900, 3) := by decide +kernel
theorem dX4_addFirst_7 : decode cX4_addFirst 7 = .ok (.if_icmp .ge 41, 3) := by decide +kernel
theorem dX4_addFirst_10 : decode cX4_addFirst 10 = .ok (.aload_n 0, 1) := by decide +kernel
theorem dX4_addFirst_11 : decode cX4_addFirst 11 = .ok (.aload_n 0, 1) := by decide +kernel
theorem dX4_addFirst_12 : decode cX4_addFirst 12 = .ok (.getfield 15, 3) := by decide +kernel
theorem dX4_addFirst_15 : decode cX4_addFirst 15 = .ok (.sipush 900, 3) := by decide +kernel
theorem dX4_addFirst_18 : decode cX4_addFirst 18 = .ok (.iadd, 1) := by decide +kernel
theorem dX4_addFirst_19 : decode cX4_addFirst 19 = .ok (.iconst 1, 1) := by decide +kernel
theorem dX4_addFirst_20 : decode cX4_addFirst 20 = .ok (.isub, 1) := by decide +kernel
theorem dX4_addFirst_21 : decode cX4_addFirst 21 = .ok (.sipush 900, 3) := by decide +kernel
theorem dX4_addFirst_24 : decode cX4_addFirst 24 = .ok (.irem, 1) := by decide +kernel
theorem dX4_addFirst_25 : decode cX4_addFirst 25 = .ok (.putfield 15, 3) := by decide +kernel
theorem dX4_addFirst_28 : decode cX4_addFirst 28 = .ok (.aload_n 0, 1) := by decide +kernel
theorem dX4_addFirst_29 : decode cX4_addFirst 29 = .ok (.getfield 9, 3) := by decide +kernel
theorem dX4_addFirst_32 : decode cX4_addFirst 32 = .ok (.aload_n 0, 1) := by decide +kernel
theorem dX4_addFirst_33 : decode cX4_addFirst 33 = .ok (.getfield 15, 3) := by decide +kernel
theorem dX4_addFirst_36 : decode cX4_addFirst 36 = .ok (.iload_n 1, 1) := by decide +kernel
theorem dX4_addFirst_37 : decode cX4_addFirst 37 = .ok (.iastore, 1) := by decide +kernel
theorem dX4_addFirst_38 : decode cX4_addFirst 38 = .ok (.aload_n 0, 1) := by decide +kernel
theorem dX4_addFirst_39 : decode cX4_addFirst 39 = .ok (.dup, 1) := by decide +kernel
theorem dX4_addFirst_40 : decode cX4_addFirst 40 = .ok (.getfield 19, 3) := by decide +kernel
theorem dX4_addFirst_43 : decode cX4_addFirst 43 = .ok (.iconst 1, 1) := by decide +kernel
theorem dX4_addFirst_44 : decode cX4_addFirst 44 = .ok (.iadd, 1) := by decide +kernel
theorem dX4_addFirst_45 : decode cX4_addFirst 45 = .ok (.putfield 19, 3) := by decide +kernel
theorem dX4_addFirst_48 : decode cX4_addFirst 48 = .ok (.return_, 1) := by decide +kernel
theorem dX4_takeFirst_0 : decode cX4_takeFirst 0 = .ok (.aload_n 0, 1) := by decide +kernel
theorem dX4_takeFirst_1 : decode cX4_takeFirst 1 = .ok (.getfield 19, 3) := by decide +kernel
theorem dX4_takeFirst_4 : decode cX4_takeFirst 4 = .ok (.ifCond .gt 5, 3) := by decide +kernel
theorem dX4_takeFirst_7 : decode cX4_takeFirst 7 = .ok (.iconst 0, 1) := by decide +kernel
theorem dX4_takeFirst_8 : decode cX4_takeFirst 8 = .ok (.ireturn, 1) := by decide +kernel
theorem dX4_takeFirst_9 : decode cX4_takeFirst 9 = .ok (.aload_n 0, 1) := by decide +kernel
theorem dX4_takeFirst_10 : decode cX4_takeFirst 10 = .ok (.getfield 9, 3) := by decide +kernel
theorem dX4_takeFirst_13 : decode cX4_takeFirst 13 = .ok (.aload_n 0, 1) := by decide +kernel
theorem dX4_takeFirst_14 : decode cX4_takeFirst 14 = .ok (.getfield 15, 3) := by decide +kernel
theorem dX4_takeFirst_17 : decode cX4_takeFirst 17 = .ok (.iaload, 1) := by decide +kernel
theorem dX4_takeFirst_18 : decode cX4_takeFirst 18 = .ok (.istore_n 1, 1) := by decide +kernel
theorem dX4_takeFirst_19 : decode cX4_takeFirst 19 = .ok (.aload_n 0, 1) := by decide +kernel
theorem dX4_takeFirst_20 : decode cX4_takeFirst 20 = .ok (.aload_n 0, 1) := by decide +kernel
theorem dX4_takeFirst_21 : decode cX4_takeFirst 21 = .ok (.getfield 15, 3) := by decide +kernel
theorem dX4_takeFirst_24 : decode cX4_takeFirst 24 = .ok (.iconst 1, 1) := by decide +kernel
theorem dX4_takeFirst_25 : decode cX4_takeFirst 25 = .ok (.iadd, 1) := by decide +kernel
theorem dX4_takeFirst_26 : decode cX4_takeFirst 26 = .ok (.sipush 900, 3) := by decide +kernel
theorem dX4_takeFirst_29 : decode cX4_takeFirst 29 = .ok (.irem, 1) := by decide +kernel
theorem dX4_takeFirst_30 : decode cX4_takeFirst 30 = .ok (.putfield 15, 3) := by decide +kernel
theorem dX4_takeFirst_33 : decode cX4_takeFirst 33 = .ok (.aload_n 0, 1) := by decide +kernel
theorem dX4_takeFirst_34 : decode cX4_takeFirst 34 = .ok (.dup, 1) := by decide +kernel
theorem dX4_takeFirst_35 : decode cX4_takeFirst 35 = .ok (.getfield 19, 3) := by decide +kernel
theorem dX4_takeFirst_38 : decode cX4_takeFirst 38 = .ok (.iconst 1, 1) := by decide +kernel
theorem dX4_takeFirst_39 : decode cX4_takeFirst 39 = .ok (.isub, 1) := by decide +kernel
theorem dX4_takeFirst_40 : decode cX4_takeFirst 40 = .ok (.putfield 19, 3) := by decide +kernel
theorem dX4_takeFirst_43 : decode cX4_takeFirst 43 = .ok (.iload_n 1, 1) := by decide +kernel
theorem dX4_takeFirst_44 : decode cX4_takeFirst 44 = .ok (.ireturn, 1) := by decide +kernel
theorem dX4_draw_0 : decode cX4_draw 0 = .ok (.aload_n 0, 1) := by decide +kernel
theorem dX4_draw_1 : decode cX4_draw 1 = .ok (.ldc 25, 2) := by decide +kernel
theorem dX4_draw_3 : decode cX4_draw 3 = .ok (.aload_n 0, 1) := by decide +kernel
theorem dX4_draw_4 : decode cX4_draw 4 = .ok (.getfield 22, 3) := by decide +kernel
theorem dX4_draw_7 : decode cX4_draw 7 = .ok (.imul, 1) := by decide +kernel
theorem dX4_draw_8 : decode cX4_draw 8 = .ok (.ldc 26, 2) := by decide +kernel
theorem dX4_draw_10 : decode cX4_draw 10 = .ok (.iadd, 1) := by decide +kernel
theorem dX4_draw_11 : decode cX4_draw 11 = .ok (.putfield 22, 3) := by decide +kernel
theorem dX4_draw_14 : decode cX4_draw 14 = .ok (.iload_n 1, 1) := by decide +kernel
theorem dX4_draw_15 : decode cX4_draw 15 = .ok (.iconst 1, 1) := by decide +kernel
theorem dX4_draw_16 : decode cX4_draw 16 = .ok (.if_icmp .ge 7, 3) := by decide +kernel
theorem dX4_draw_19 : decode cX4_draw 19 = .ok (.iconst 0, 1) := by decide +kernel
theorem dX4_draw_20 : decode cX4_draw 20 = .ok (.goto 12, 3) := by decide +kernel
theorem dX4_draw_23 : decode cX4_draw 23 = .ok (.aload_n 0, 1) := by decide +kernel
theorem dX4_draw_24 : decode cX4_draw 24 = .ok (.getfield 22, 3) := by decide +kernel
theorem dX4_draw_27 : decode cX4_draw 27 = .ok (.bipush 8, 2) := by decide +kernel
theorem dX4_draw_29 : decode cX4_draw 29 = .ok (.iushr, 1) := by decide +kernel
theorem dX4_draw_30 : decode cX4_draw 30 = .ok (.iload_n 1, 1) := by decide +kernel
theorem dX4_draw_31 : decode cX4_draw 31 = .ok (.irem, 1) := by decide +kernel
theorem dX4_draw_32 : decode cX4_draw 32 = .ok (.ireturn, 1) := by decide +kernel
theorem dX5_init_0 : decode cX5_init 0 = .ok (.aload_n 0, 1) := by decide +kernel
theorem dX5_init_1 : decode cX5_init 1 = .ok (.invokespecial 3, 3) := by decide +kernel
theorem dX5_init_4 : decode cX5_init 4 = .ok (.aload_n 0, 1) := by decide +kernel
theorem dX5_init_5 : decode cX5_init 5 = .ok (.bipush 64, 2) := by decide +kernel
theorem dX5_init_7 : decode cX5_init 7 = .ok (.newarray .int, 2) := by decide +kernel
theorem dX5_init_9 : decode cX5_init 9 = .ok (.putfield 9, 3) := by decide +kernel
theorem dX5_init_12 : decode cX5_init 12 = .ok (.aload_n 0, 1) := by decide +kernel
theorem dX5_init_13 : decode cX5_init 13 = .ok (.bipush 64, 2) := by decide +kernel
theorem dX5_init_15 : decode cX5_init 15 = .ok (.newarray .int, 2) := by decide +kernel
theorem dX5_init_17 : decode cX5_init 17 = .ok (.putfield 15, 3) := by decide +kernel
theorem dX5_init_20 : decode cX5_init 20 = .ok (.aload_n 0, 1) := by decide +kernel
theorem dX5_init_21 : decode cX5_init 21 = .ok (.bipush 64, 2) := by decide +kernel
theorem dX5_init_23 : decode cX5_init 23 = .ok (.newarray .int, 2) := by decide +kernel
theorem dX5_init_25 : decode cX5_init 25 = .ok (.putfield 18, 3) := by decide +kernel
theorem dX5_init_28 : decode cX5_init 28 = .ok (.aload_n 0, 1) := by decide +kernel
theorem dX5_init_29 : decode cX5_init 29 = .ok (.bipush 64, 2) := by decide +kernel
theorem dX5_init_31 : decode cX5_init 31 = .ok (.newarray .int, 2) := by decide +kernel
theorem dX5_init_33 : decode cX5_init 33 = .ok (.putfield 21, 3) := by decide +kernel
theorem dX5_init_36 : decode cX5_init 36 = .ok (.aload_n 0, 1) := by decide +kernel
theorem dX5_init_37 : decode cX5_init 37 = .ok (.getfield 9, 3) := by decide +kernel
theorem dX5_init_40 : decode cX5_init 40 = .ok (.iconst (-1), 1) := by decide +kernel
theorem dX5_init_41 : decode cX5_init 41 = .ok (.invokestatic 24, 3) := by decide +kernel
theorem dX5_init_44 : decode cX5_init 44 = .ok (.return_, 1) := by decide +kernel
theorem dX5_write_0 : decode cX5_write 0 = .ok (.iload_n 1, 1) := by decide +kernel
theorem dX5_write_1 : decode cX5_write 1 = .ok (.invokestatic 30, 3) := by decide +kernel
theorem dX5_write_4 : decode cX5_write 4 = .ok (.ifCond .eq 33, 3) := by decide +kernel
theorem dX5_write_7 : decode cX5_write 7 = .ok (.aload_n 0, 1) := by decide +kernel
theorem dX5_write_8 : decode cX5_write 8 = .ok (.getfield 9, 3) := by decide +kernel
theorem dX5_write_11 : decode cX5_write 11 = .ok (.iload_n 1, 1) := by decide +kernel
theorem dX5_write_12 : decode cX5_write 12 = .ok (.iload_n 2, 1) := by decide +kernel
theorem dX5_write_13 : decode cX5_write 13 = .ok (.iastore, 1) := by decide +kernel
theorem dX5_write_14 : decode cX5_write 14 = .ok (.aload_n 0, 1) := by decide +kernel
theorem dX5_write_15 : decode cX5_write 15 = .ok (.getfield 15, 3) := by decide +kernel
theorem dX5_write_18 : decode cX5_write 18 = .ok (.iload_n 1, 1) := by decide +kernel
theorem dX5_write_19 : decode cX5_write 19 = .ok (.iload_n 3, 1) := by decide +kernel
theorem dX5_write_20 : decode cX5_write 20 = .ok (.iastore, 1) := by decide +kernel
theorem dX5_write_21 : decode cX5_write 21 = .ok (.aload_n 0, 1) := by decide +kernel
theorem dX5_write_22 : decode cX5_write 22 = .ok (.getfield 18, 3) := by decide +kernel
theorem dX5_write_25 : decode cX5_write 25 = .ok (.iload_n 1, 1) := by decide +kernel
theorem dX5_write_26 : decode cX5_write 26 = .ok (.iload 4, 2) := by decide +kernel
theorem dX5_write_28 : decode cX5_write 28 = .ok (.iastore, 1) := by decide +kernel
theorem dX5_write_29 : decode cX5_write 29 = .ok (.aload_n 0, 1) := by decide +kernel
theorem dX5_write_30 : decode cX5_write 30 = .ok (.getfield 21, 3) := by decide +kernel
theorem dX5_write_33 : decode cX5_write 33 = .ok (.iload_n 1, 1) := by decide +kernel
theorem dX5_write_34 : decode cX5_write 34 = .ok (.iload 5, 2) := by decide +kernel
theorem dX5_write_36 : decode cX5_write 36 = .ok (.iastore, 1) := by decide +kernel
theorem dX5_write_37 : decode cX5_write 37 = .ok (.return_, 1) := by decide +kernel
theorem dX5_takeFrom_0 : decode cX5_takeFrom 0 = .ok (.iconst 0, 1) := by decide +kernel
theorem dX5_takeFrom_1 : decode cX5_takeFrom 1 = .ok (.istore_n 2, 1) := by decide +kernel
theorem dX5_takeFrom_2 : decode cX5_takeFrom 2 = .ok (.iload_n 2, 1) := by decide +kernel
theorem dX5_takeFrom_3 : decode cX5_takeFrom 3 = .ok (.bipush 64, 2) := by decide +kernel
theorem dX5_takeFrom_5 : decode cX5_takeFrom 5 = .ok (.if_icmp .ge 38, 3) := by decide +kernel
theorem dX5_takeFrom_8 : decode cX5_takeFrom 8 = .ok (.aload_n 0, 1) := by decide +kernel
theorem dX5_takeFrom_9 : decode cX5_takeFrom 9 = .ok (.iload_n 2, 1) := by decide +kernel
theorem dX5_takeFrom_10 : decode cX5_takeFrom 10 = .ok (.aload_n 1, 1) := by decide +kernel
theorem dX5_takeFrom_11 : decode cX5_takeFrom 11 = .ok (.getfield 9, 3) := by decide +kernel
theorem dX5_takeFrom_14 : decode cX5_takeFrom 14 = .ok (.iload_n 2, 1) := by decide +kernel
theorem dX5_takeFrom_15 : decode cX5_takeFrom 15 = .ok (.iaload, 1) := by decide +kernel
theorem dX5_takeFrom_16 : decode cX5_takeFrom 16 = .ok (.aload_n 1, 1) := by decide +kernel
theorem dX5_takeFrom_17 : decode cX5_takeFrom 17 = .ok (.getfield 15, 3) := by decide +kernel
theorem dX5_takeFrom_20 : decode cX5_takeFrom 20 = .ok (.iload_n 2, 1) := by decide +kernel
theorem dX5_takeFrom_21 : decode cX5_takeFrom 21 = .ok (.iaload, 1) := by decide +kernel
theorem dX5_takeFrom_22 : decode cX5_takeFrom 22 = .ok (.aload_n 1, 1) := by decide +kernel
theorem dX5_takeFrom_23 : decode cX5_takeFrom 23 = .ok (.getfield 18, 3) := by decide +kernel
theorem dX5_takeFrom_26 : decode cX5_takeFrom 26 = .ok (.iload_n 2, 1) := by decide +kernel
theorem dX5_takeFrom_27 : decode cX5_takeFrom 27 = .ok (.iaload, 1) := by decide +kernel
theorem dX5_takeFrom_28 : decode cX5_takeFrom 28 = .ok (.aload_n 1, 1) := by decide +kernel
theorem dX5_takeFrom_29 : decode cX5_takeFrom 29 = .ok (.getfield 21, 3) := by decide +kernel
theorem dX5_takeFrom_32 : decode cX5_takeFrom 32 = .ok (.iload_n 2, 1) := by decide +kernel
theorem dX5_takeFrom_33 : decode cX5_takeFrom 33 = .ok (.iaload, 1) := by decide +kernel
theorem dX5_takeFrom_34 : decode cX5_takeFrom 34 = .ok (.invokevirtual 34, 3) := by decide +kernel
theorem dX5_takeFrom_37 : decode cX5_takeFrom 37 = .ok (.iinc 2 1, 3) := by decide +kernel
theorem dX5_takeFrom_40 : decode cX5_takeFrom 40 = .ok (.goto (-38), 3) := by decide +kernel
theorem dX5_takeFrom_43 : decode cX5_takeFrom 43 = .ok (.return_, 1) := by decide +kernel
theorem dX5_size_0 : decode cX5_size 0 = .ok (.iconst 0, 1) := by decide +kernel
theorem dX5_size_1 : decode cX5_size 1 = .ok (.istore_n 1, 1) := by decide +kernel
theorem dX5_size_2 : decode cX5_size 2 = .ok (.iconst 0, 1) := by decide +kernel
theorem dX5_size_3 : decode cX5_size 3 = .ok (.istore_n 2, 1) := by decide +kernel
theorem dX5_size_4 : decode cX5_size 4 = .ok (.iload_n 2, 1) := by decide +kernel
theorem dX5_size_5 : decode cX5_size 5 = .ok (.bipush 64, 2) := by decide +kernel
theorem dX5_size_7 : decode cX5_size 7 = .ok (.if_icmp .ge 22, 3) := by decide +kernel
theorem dX5_size_10 : decode cX5_size 10 = .ok (.aload_n 0, 1) := by decide +kernel
theorem dX5_size_11 : decode cX5_size 11 = .ok (.getfield 9, 3) := by decide +kernel
theorem dX5_size_14 : decode cX5_size 14 = .ok (.iload_n 2, 1) := by decide +kernel
theorem dX5_size_15 : decode cX5_size 15 = .ok (.iaload, 1) := by decide +kernel
theorem dX5_size_16 : decode cX5_size 16 = .ok (.iconst (-1), 1) := by decide +kernel
theorem dX5_size_17 : decode cX5_size 17 = .ok (.if_icmp .eq 6, 3) := by decide +kernel
theorem dX5_size_20 : decode cX5_size 20 = .ok (.iinc 1 1, 3) := by decide +kernel
theorem dX5_size_23 : decode cX5_size 23 = .ok (.iinc 2 1, 3) := by decide +kernel
theorem dX5_size_26 : decode cX5_size 26 = .ok (.goto (-22), 3) := by decide +kernel
theorem dX5_size_29 : decode cX5_size 29 = .ok (.iload_n 1, 1) := by decide +kernel
theorem dX5_size_30 : decode cX5_size 30 = .ok (.ireturn, 1) := by decide +kernel
theorem dX5_kindAt_0 : decode cX5_kindAt 0 = .ok (.iload_n 1, 1) := by decide +kernel
theorem dX5_kindAt_1 : decode cX5_kindAt 1 = .ok (.invokestatic 30, 3) := by decide +kernel
theorem dX5_kindAt_4 : decode cX5_kindAt 4 = .ok (.ifCond .eq 12, 3) := by decide +kernel
theorem dX5_kindAt_7 : decode cX5_kindAt 7 = .ok (.aload_n 0, 1) := by decide +kernel
theorem dX5_kindAt_8 : decode cX5_kindAt 8 = .ok (.getfield 9, 3) := by decide +kernel
theorem dX5_kindAt_11 : decode cX5_kindAt 11 = .ok (.iload_n 1, 1) := by decide +kernel
theorem dX5_kindAt_12 : decode cX5_kindAt 12 = .ok (.iaload, 1) := by decide +kernel
theorem dX5_kindAt_13 : decode cX5_kindAt 13 = .ok (.goto 4, 3) := by decide +kernel
theorem dX5_kindAt_16 : decode cX5_kindAt 16 = .ok (.iconst (-1), 1) := by decide +kernel
theorem dX5_kindAt_17 : decode cX5_kindAt 17 = .ok (.ireturn, 1) := by decide +kernel
theorem dX5_firstAt_0 : decode cX5_firstAt 0 = .ok (.iload_n 1, 1) := by decide +kernel
theorem dX5_firstAt_1 : decode cX5_firstAt 1 = .ok (.invokestatic 30, 3) := by decide +kernel
theorem dX5_firstAt_4 : decode cX5_firstAt 4 = .ok (.ifCond .eq 12, 3) := by decide +kernel
theorem dX5_firstAt_7 : decode cX5_firstAt 7 = .ok (.aload_n 0, 1) := by decide +kernel
theorem dX5_firstAt_8 : decode cX5_firstAt 8 = .ok (.getfield 15, 3) := by decide +kernel
theorem dX5_firstAt_11 : decode cX5_firstAt 11 = .ok (.iload_n 1, 1) := by decide +kernel
theorem dX5_firstAt_12 : decode cX5_firstAt 12 = .ok (.iaload, 1) := by decide +kernel
theorem dX5_firstAt_13 : decode cX5_firstAt 13 = .ok (.goto 4, 3) := by decide +kernel
theorem dX5_firstAt_16 : decode cX5_firstAt 16 = .ok (.iconst 0, 1) := by decide +kernel
theorem dX5_firstAt_17 : decode cX5_firstAt 17 = .ok (.ireturn, 1) := by decide +kernel
theorem dX5_secondAt_0 : decode cX5_secondAt 0 = .ok (.iload_n 1, 1) := by decide +kernel
theorem dX5_secondAt_1 : decode cX5_secondAt 1 = .ok (.invokestatic 30, 3) := by decide +kernel
theorem dX5_secondAt_4 : decode cX5_secondAt 4 = .ok (.ifCond .eq 12, 3) := by decide +kernel
theorem dX5_secondAt_7 : decode cX5_secondAt 7 = .ok (.aload_n 0, 1) := by decide +kernel
theorem dX5_secondAt_8 : decode cX5_secondAt 8 = .ok (.getfield 18, 3) := by decide +kernel
theorem dX5_secondAt_11 : decode cX5_secondAt 11 = .ok (.iload_n 1, 1) := by decide +kernel
theorem dX5_secondAt_12 : decode cX5_secondAt 12 = .ok (.iaload, 1) := by decide +kernel
theorem dX5_secondAt_13 : decode cX5_secondAt 13 = .ok (.goto 4, 3) := by decide +kernel
theorem dX5_secondAt_16 : decode cX5_secondAt 16 = .ok (.iconst 0, 1) := by decide +kernel
theorem dX5_secondAt_17 : decode cX5_secondAt 17 = .ok (.ireturn, 1) := by decide +kernel
theorem dX5_thirdAt_0 : decode cX5_thirdAt 0 = .ok (.iload_n 1, 1) := by decide +kernel
theorem dX5_thirdAt_1 : decode cX5_thirdAt 1 = .ok (.invokestatic 30, 3) := by decide +kernel
theorem dX5_thirdAt_4 : decode cX5_thirdAt 4 = .ok (.ifCond .eq 12, 3) := by decide +kernel
theorem dX5_thirdAt_7 : decode cX5_thirdAt 7 = .ok (.aload_n 0, 1) := by decide +kernel
theorem dX5_thirdAt_8 : decode cX5_thirdAt 8 = .ok (.getfield 21, 3) := by decide +kernel
theorem dX5_thirdAt_11 : decode cX5_thirdAt 11 = .ok (.iload_n 1, 1) := by decide +kernel
theorem dX5_thirdAt_12 : decode cX5_thirdAt 12 = .ok (.iaload, 1) := by decide +kernel
theorem dX5_thirdAt_13 : decode cX5_thirdAt 13 = .ok (.goto 4, 3) := by decide +kernel
theorem dX5_thirdAt_16 : decode cX5_thirdAt 16 = .ok (.iconst 0, 1) := by decide +kernel
theorem dX5_thirdAt_17 : decode cX5_thirdAt 17 = .ok (.ireturn, 1) := by decide +kernel
theorem dX6_init_0 : decode cX6_init 0 = .ok (.aload_n 0, 1) := by decide +kernel
theorem dX6_init_1 : decode cX6_init 1 = .ok (.invokespecial 3, 3) := by decide +kernel
theorem dX6_init_4 : decode cX6_init 4 = .ok (.aload_n 0, 1) := by decide +kernel
theorem dX6_init_5 : decode cX6_init 5 = .ok (.iconst 0, 1) := by decide +kernel
theorem dX6_init_6 : decode cX6_init 6 = .ok (.putfield 9, 3) := by decide +kernel
theorem dX6_init_9 : decode cX6_init 9 = .ok (.aload_n 0, 1) := by decide +kernel
theorem dX6_init_10 : decode cX6_init 10 = .ok (.sipush 3800, 3) := by decide +kernel
theorem dX6_init_13 : decode cX6_init 13 = .ok (.newarray .int, 2) := by decide +kernel
theorem dX6_init_15 : decode cX6_init 15 = .ok (.putfield 15, 3) := by decide +kernel
theorem dX6_init_18 : decode cX6_init 18 = .ok (.aload_n 0, 1) := by decide +kernel
theorem dX6_init_19 : decode cX6_init 19 = .ok (.sipush 3800, 3) := by decide +kernel
theorem dX6_init_22 : decode cX6_init 22 = .ok (.newarray .int, 2) := by decide +kernel
theorem dX6_init_24 : decode cX6_init 24 = .ok (.putfield 19, 3) := by decide +kernel
theorem dX6_init_27 : decode cX6_init 27 = .ok (.aload_n 0, 1) := by decide +kernel
theorem dX6_init_28 : decode cX6_init 28 = .ok (.sipush 3800, 3) := by decide +kernel
theorem dX6_init_31 : decode cX6_init 31 = .ok (.newarray .int, 2) := by decide +kernel
theorem dX6_init_33 : decode cX6_init 33 = .ok (.putfield 22, 3) := by decide +kernel
theorem dX6_init_36 : decode cX6_init 36 = .ok (.aload_n 0, 1) := by decide +kernel
theorem dX6_init_37 : decode cX6_init 37 = .ok (.sipush 3800, 3) := by decide +kernel
theorem dX6_init_40 : decode cX6_init 40 = .ok (.newarray .int, 2) := by decide +kernel
theorem dX6_init_42 : decode cX6_init 42 = .ok (.putfield 25, 3) := by decide +kernel
theorem dX6_init_45 : decode cX6_init 45 = .ok (.aload_n 0, 1) := by decide +kernel
theorem dX6_init_46 : decode cX6_init 46 = .ok (.sipush 3800, 3) := by decide +kernel
theorem dX6_init_49 : decode cX6_init 49 = .ok (.newarray .int, 2) := by decide +kernel
theorem dX6_init_51 : decode cX6_init 51 = .ok (.putfield 28, 3) := by decide +kernel
theorem dX6_init_54 : decode cX6_init 54 = .ok (.aload_n 0, 1) := by decide +kernel
theorem dX6_init_55 : decode cX6_init 55 = .ok (.sipush 3800, 3) := by decide +kernel
theorem dX6_init_58 : decode cX6_init 58 = .ok (.newarray .int, 2) := by decide +kernel
theorem dX6_init_60 : decode cX6_init 60 = .ok (.putfield 31, 3) := by decide +kernel
theorem dX6_init_63 : decode cX6_init 63 = .ok (.aload_n 0, 1) := by decide +kernel
theorem dX6_init_64 : decode cX6_init 64 = .ok (.sipush 3800, 3) := by decide +kernel
theorem dX6_init_67 : decode cX6_init 67 = .ok (.newarray .int, 2) := by decide +kernel
theorem dX6_init_69 : decode cX6_init 69 = .ok (.putfield 34, 3) := by decide +kernel
theorem dX6_init_72 : decode cX6_init 72 = .ok (.aload_n 0, 1) := by decide +kernel
theorem dX6_init_73 : decode cX6_init 73 = .ok (.sipush 3800, 3) := by decide +kernel
theorem dX6_init_76 : decode cX6_init 76 = .ok (.newarray .int, 2) := by decide +kernel
theorem dX6_init_78 : decode cX6_init 78 = .ok (.putfield 37, 3) := by decide +kernel
theorem dX6_init_81 : decode cX6_init 81 = .ok (.aload_n 0, 1) := by decide +kernel
theorem dX6_init_82 : decode cX6_init 82 = .ok (.sipush 3800, 3) := by decide +kernel
theorem dX6_init_85 : decode cX6_init 85 = .ok (.newarray .int, 2) := by decide +kernel
theorem dX6_init_87 : decode cX6_init 87 = .ok (.putfield 40, 3) := by decide +kernel
theorem dX6_init_90 : decode cX6_init 90 = .ok (.aload_n 0, 1) := by decide +kernel
theorem dX6_init_91 : decode cX6_init 91 = .ok (.sipush 3800, 3) := by decide +kernel
theorem dX6_init_94 : decode cX6_init 94 = .ok (.newarray .int, 2) := by decide +kernel
theorem dX6_init_96 : decode cX6_init 96 = .ok (.putfield 43, 3) := by decide +kernel
theorem dX6_init_99 : decode cX6_init 99 = .ok (.aload_n 0, 1) := by decide +kernel
theorem dX6_init_100 : decode cX6_init 100 = .ok (.bipush 40, 2) := by decide +kernel
theorem dX6_init_102 : decode cX6_init 102 = .ok (.newarray .int, 2) := by decide +kernel
theorem dX6_init_104 : decode cX6_init 104 = .ok (.putfield 46, 3) := by decide +kernel
theorem dX6_init_107 : decode cX6_init 107 = .ok (.aload_n 0, 1) := by decide +kernel
theorem dX6_init_108 : decode cX6_init 108 = .ok (.getfield 46, 3) := by decide +kernel
theorem dX6_init_111 : decode cX6_init 111 = .ok (.iconst (-1), 1) := by decide +kernel
theorem dX6_init_112 : decode cX6_init 112 = .ok (.invokestatic 49, 3) := by decide +kernel
theorem dX6_init_115 : decode cX6_init 115 = .ok (.return_, 1) := by decide +kernel
theorem dX6_init__0 : decode cX6_init_ 0 = .ok (.aload_n 0, 1) := by decide +kernel
theorem dX6_init__1 : decode cX6_init_ 1 = .ok (.invokespecial 3, 3) := by decide +kernel
theorem dX6_init__4 : decode cX6_init_ 4 = .ok (.aload_n 0, 1) := by decide +kernel
theorem dX6_init__5 : decode cX6_init_ 5 = .ok (.iconst 0, 1) := by decide +kernel
theorem dX6_init__6 : decode cX6_init_ 6 = .ok (.putfield 9, 3) := by decide +kernel
theorem dX6_init__9 : decode cX6_init_ 9 = .ok (.aload_n 0, 1) := by decide +kernel
theorem dX6_init__10 : decode cX6_init_ 10 = .ok (.aload_n 1, 1) := by decide +kernel
theorem dX6_init__11 : decode cX6_init_ 11 = .ok (.getfield 15, 3) := by decide +kernel
theorem dX6_init__14 : decode cX6_init_ 14 = .ok (.invokevirtual 55, 3) := by decide +kernel
theorem dX6_init__17 : decode cX6_init_ 17 = .ok (.checkcast 56, 3) := by decide +kernel
theorem dX6_init__20 : decode cX6_init_ 20 = .ok (.putfield 15, 3) := by decide +kernel
theorem dX6_init__23 : decode cX6_init_ 23 = .ok (.aload_n 0, 1) := by decide +kernel
theorem dX6_init__24 : decode cX6_init_ 24 = .ok (.aload_n 1, 1) := by decide +kernel
theorem dX6_init__25 : decode cX6_init_ 25 = .ok (.getfield 19, 3) := by decide +kernel
theorem dX6_init__28 : decode cX6_init_ 28 = .ok (.invokevirtual 55, 3) := by decide +kernel
theorem dX6_init__31 : decode cX6_init_ 31 = .ok (.checkcast 56, 3) := by decide +kernel
theorem dX6_init__34 : decode cX6_init_ 34 = .ok (.putfield 19, 3) := by decide +kernel
theorem dX6_init__37 : decode cX6_init_ 37 = .ok (.aload_n 0, 1) := by decide +kernel
theorem dX6_init__38 : decode cX6_init_ 38 = .ok (.aload_n 1, 1) := by decide +kernel
theorem dX6_init__39 : decode cX6_init_ 39 = .ok (.getfield 22, 3) := by decide +kernel
theorem dX6_init__42 : decode cX6_init_ 42 = .ok (.invokevirtual 55, 3) := by decide +kernel
theorem dX6_init__45 : decode cX6_init_ 45 = .ok (.checkcast 56, 3) := by decide +kernel
theorem dX6_init__48 : decode cX6_init_ 48 = .ok (.putfield 22, 3) := by decide +kernel
theorem dX6_init__51 : decode cX6_init_ 51 = .ok (.aload_n 0, 1) := by decide +kernel
theorem dX6_init__52 : decode cX6_init_ 52 = .ok (.aload_n 1, 1) := by decide +kernel
theorem dX6_init__53 : decode cX6_init_ 53 = .ok (.getfield 25, 3) := by decide +kernel
theorem dX6_init__56 : decode cX6_init_ 56 = .ok (.invokevirtual 55, 3) := by decide +kernel
theorem dX6_init__59 : decode cX6_init_ 59 = .ok (.checkcast 56, 3) := by decide +kernel
theorem dX6_init__62 : decode cX6_init_ 62 = .ok (.putfield 25, 3) := by decide +kernel
theorem dX6_init__65 : decode cX6_init_ 65 = .ok (.aload_n 0, 1) := by decide +kernel
theorem dX6_init__66 : decode cX6_init_ 66 = .ok (.aload_n 1, 1) := by decide +kernel
theorem dX6_init__67 : decode cX6_init_ 67 = .ok (.getfield 28, 3) := by decide +kernel
theorem dX6_init__70 : decode cX6_init_ 70 = .ok (.invokevirtual 55, 3) := by decide +kernel
theorem dX6_init__73 : decode cX6_init_ 73 = .ok (.checkcast 56, 3) := by decide +kernel
theorem dX6_init__76 : decode cX6_init_ 76 = .ok (.putfield 28, 3) := by decide +kernel
theorem dX6_init__79 : decode cX6_init_ 79 = .ok (.aload_n 0, 1) := by decide +kernel
theorem dX6_init__80 : decode cX6_init_ 80 = .ok (.aload_n 1, 1) := by decide +kernel
theorem dX6_init__81 : decode cX6_init_ 81 = .ok (.getfield 31, 3) := by decide +kernel
theorem dX6_init__84 : decode cX6_init_ 84 = .ok (.invokevirtual 55, 3) := by decide +kernel
theorem dX6_init__87 : decode cX6_init_ 87 = .ok (.checkcast 56, 3) := by decide +kernel
theorem dX6_init__90 : decode cX6_init_ 90 = .ok (.putfield 31, 3) := by decide +kernel
theorem dX6_init__93 : decode cX6_init_ 93 = .ok (.aload_n 0, 1) := by decide +kernel
theorem dX6_init__94 : decode cX6_init_ 94 = .ok (.aload_n 1, 1) := by decide +kernel
theorem dX6_init__95 : decode cX6_init_ 95 = .ok (.getfield 34, 3) := by decide +kernel
theorem dX6_init__98 : decode cX6_init_ 98 = .ok (.invokevirtual 55, 3) := by decide +kernel
theorem dX6_init__101 : decode cX6_init_ 101 = .ok (.checkcast 56, 3) := by decide +kernel
theorem dX6_init__104 : decode cX6_init_ 104 = .ok (.putfield 34, 3) := by decide +kernel
theorem dX6_init__107 : decode cX6_init_ 107 = .ok (.aload_n 0, 1) := by decide +kernel
theorem dX6_init__108 : decode cX6_init_ 108 = .ok (.aload_n 1, 1) := by decide +kernel
theorem dX6_init__109 : decode cX6_init_ 109 = .ok (.getfield 37, 3) := by decide +kernel
theorem dX6_init__112 : decode cX6_init_ 112 = .ok (.invokevirtual 55, 3) := by decide +kernel
theorem dX6_init__115 : decode cX6_init_ 115 = .ok (.checkcast 56, 3) := by decide +kernel
theorem dX6_init__118 : decode cX6_init_ 118 = .ok (.putfield 37, 3) := by decide +kernel
theorem dX6_init__121 : decode cX6_init_ 121 = .ok (.aload_n 0, 1) := by decide +kernel
theorem dX6_init__122 : decode cX6_init_ 122 = .ok (.aload_n 1, 1) := by decide +kernel
theorem dX6_init__123 : decode cX6_init_ 123 = .ok (.getfield 40, 3) := by decide +kernel
theorem dX6_init__126 : decode cX6_init_ 126 = .ok (.invokevirtual 55, 3) := by decide +kernel
theorem dX6_init__129 : decode cX6_init_ 129 = .ok (.checkcast 56, 3) := by decide +kernel
theorem dX6_init__132 : decode cX6_init_ 132 = .ok (.putfield 40, 3) := by decide +kernel
theorem dX6_init__135 : decode cX6_init_ 135 = .ok (.aload_n 0, 1) := by decide +kernel
theorem dX6_init__136 : decode cX6_init_ 136 = .ok (.aload_n 1, 1) := by decide +kernel
theorem dX6_init__137 : decode cX6_init_ 137 = .ok (.getfield 43, 3) := by decide +kernel
theorem dX6_init__140 : decode cX6_init_ 140 = .ok (.invokevirtual 55, 3) := by decide +kernel
theorem dX6_init__143 : decode cX6_init_ 143 = .ok (.checkcast 56, 3) := by decide +kernel
theorem dX6_init__146 : decode cX6_init_ 146 = .ok (.putfield 43, 3) := by decide +kernel
theorem dX6_init__149 : decode cX6_init_ 149 = .ok (.aload_n 0, 1) := by decide +kernel
theorem dX6_init__150 : decode cX6_init_ 150 = .ok (.aload_n 1, 1) := by decide +kernel
theorem dX6_init__151 : decode cX6_init_ 151 = .ok (.getfield 46, 3) := by decide +kernel
theorem dX6_init__154 : decode cX6_init_ 154 = .ok (.invokevirtual 55, 3) := by decide +kernel
theorem dX6_init__157 : decode cX6_init_ 157 = .ok (.checkcast 56, 3) := by decide +kernel
theorem dX6_init__160 : decode cX6_init_ 160 = .ok (.putfield 46, 3) := by decide +kernel
theorem dX6_init__163 : decode cX6_init_ 163 = .ok (.aload_n 0, 1) := by decide +kernel
theorem dX6_init__164 : decode cX6_init_ 164 = .ok (.aload_n 1, 1) := by decide +kernel
theorem dX6_init__165 : decode cX6_init_ 165 = .ok (.getfield 9, 3) := by decide +kernel
theorem dX6_init__168 : decode cX6_init_ 168 = .ok (.putfield 9, 3) := by decide +kernel
theorem dX6_init__171 : decode cX6_init_ 171 = .ok (.return_, 1) := by decide +kernel
theorem dX6_clear_0 : decode cX6_clear 0 = .ok (.aload_n 0, 1) := by decide +kernel
theorem dX6_clear_1 : decode cX6_clear 1 = .ok (.iconst 0, 1) := by decide +kernel
theorem dX6_clear_2 : decode cX6_clear 2 = .ok (.putfield 9, 3) := by decide +kernel
theorem dX6_clear_5 : decode cX6_clear 5 = .ok (.aload_n 0, 1) := by decide +kernel
theorem dX6_clear_6 : decode cX6_clear 6 = .ok (.getfield 46, 3) := by decide +kernel
theorem dX6_clear_9 : decode cX6_clear 9 = .ok (.iconst (-1), 1) := by decide +kernel
theorem dX6_clear_10 : decode cX6_clear 10 = .ok (.invokestatic 49, 3) := by decide +kernel
theorem dX6_clear_13 : decode cX6_clear 13 = .ok (.return_, 1) := by decide +kernel
theorem dX6_has_0 : decode cX6_has 0 = .ok (.iload_n 1, 1) := by decide +kernel
theorem dX6_has_1 : decode cX6_has 1 = .ok (.ifCond .lt 22, 3) := by decide +kernel
theorem dX6_has_4 : decode cX6_has 4 = .ok (.iload_n 1, 1) := by decide +kernel
theorem dX6_has_5 : decode cX6_has 5 = .ok (.aload_n 0, 1) := by decide +kernel
theorem dX6_has_6 : decode cX6_has 6 = .ok (.getfield 9, 3) := by decide +kernel
theorem dX6_has_9 : decode cX6_has 9 = .ok (.if_icmp .ge 14, 3) := by decide +kernel
theorem dX6_has_12 : decode cX6_has 12 = .ok (.iload_n 1, 1) := by decide +kernel
theorem dX6_has_13 : decode cX6_has 13 = .ok (.sipush 3800, 3) := by decide +kernel
theorem dX6_has_16 : decode cX6_has 16 = .ok (.if_icmp .ge 7, 3) := by decide +kernel
theorem dX6_has_19 : decode cX6_has 19 = .ok (.iconst 1, 1) := by decide +kernel
theorem dX6_has_20 : decode cX6_has 20 = .ok (.goto 4, 3) := by decide +kernel
theorem dX6_has_23 : decode cX6_has 23 = .ok (.iconst 0, 1) := by decide +kernel
theorem dX6_has_24 : decode cX6_has 24 = .ok (.ireturn, 1) := by decide +kernel
theorem dX6_timeOf_0 : decode cX6_timeOf 0 = .ok (.aload_n 0, 1) := by decide +kernel
theorem dX6_timeOf_1 : decode cX6_timeOf 1 = .ok (.iload_n 1, 1) := by decide +kernel
theorem dX6_timeOf_2 : decode cX6_timeOf 2 = .ok (.invokevirtual 60, 3) := by decide +kernel
theorem dX6_timeOf_5 : decode cX6_timeOf 5 = .ok (.ifCond .eq 12, 3) := by decide +kernel
theorem dX6_timeOf_8 : decode cX6_timeOf 8 = .ok (.aload_n 0, 1) := by decide +kernel
theorem dX6_timeOf_9 : decode cX6_timeOf 9 = .ok (.getfield 15, 3) := by decide +kernel
theorem dX6_timeOf_12 : decode cX6_timeOf 12 = .ok (.iload_n 1, 1) := by decide +kernel
theorem dX6_timeOf_13 : decode cX6_timeOf 13 = .ok (.iaload, 1) := by decide +kernel
theorem dX6_timeOf_14 : decode cX6_timeOf 14 = .ok (.goto 4, 3) := by decide +kernel
theorem dX6_timeOf_17 : decode cX6_timeOf 17 = .ok (.iconst 0, 1) := by decide +kernel
theorem dX6_timeOf_18 : decode cX6_timeOf 18 = .ok (.ireturn, 1) := by decide +kernel
theorem dX6_placeOf_0 : decode cX6_placeOf 0 = .ok (.aload_n 0, 1) := by decide +kernel
theorem dX6_placeOf_1 : decode cX6_placeOf 1 = .ok (.iload_n 1, 1) := by decide +kernel
theorem dX6_placeOf_2 : decode cX6_placeOf 2 = .ok (.invokevirtual 60, 3) := by decide +kernel
theorem dX6_placeOf_5 : decode cX6_placeOf 5 = .ok (.ifCond .eq 12, 3) := by decide +kernel
theorem dX6_placeOf_8 : decode cX6_placeOf 8 = .ok (.aload_n 0, 1) := by decide +kernel
theorem dX6_placeOf_9 : decode cX6_placeOf 9 = .ok (.getfield 19, 3) := by decide +kernel
theorem dX6_placeOf_12 : decode cX6_placeOf 12 = .ok (.iload_n 1, 1) := by decide +kernel
theorem dX6_placeOf_13 : decode cX6_placeOf 13 = .ok (.iaload, 1) := by decide +kernel
theorem dX6_placeOf_14 : decode cX6_placeOf 14 = .ok (.goto 4, 3) := by decide +kernel
theorem dX6_placeOf_17 : decode cX6_placeOf 17 = .ok (.iconst (-1), 1) := by decide +kernel
theorem dX6_placeOf_18 : decode cX6_placeOf 18 = .ok (.ireturn, 1) := by decide +kernel
theorem dX6_sortOf_0 : decode cX6_sortOf 0 = .ok (.iload_n 1, 1) := by decide +kernel
theorem dX6_sortOf_1 : decode cX6_sortOf 1 = .ok (.ifCond .lt 27, 3) := by decide +kernel
theorem dX6_sortOf_4 : decode cX6_sortOf 4 = .ok (.iload_n 1, 1) := by decide +kernel
theorem dX6_sortOf_5 : decode cX6_sortOf 5 = .ok (.aload_n 0, 1) := by decide +kernel
theorem dX6_sortOf_6 : decode cX6_sortOf 6 = .ok (.getfield 9, 3) := by decide +kernel
theorem dX6_sortOf_9 : decode cX6_sortOf 9 = .ok (.if_icmp .ge 19, 3) := by decide +kernel
theorem dX6_sortOf_12 : decode cX6_sortOf 12 = .ok (.iload_n 1, 1) := by decide +kernel
theorem dX6_sortOf_13 : decode cX6_sortOf 13 = .ok (.sipush 3800, 3) := by decide +kernel
theorem dX6_sortOf_16 : decode cX6_sortOf 16 = .ok (.if_icmp .ge 12, 3) := by decide +kernel
theorem dX6_sortOf_19 : decode cX6_sortOf 19 = .ok (.aload_n 0, 1) := by decide +kernel
theorem dX6_sortOf_20 : decode cX6_sortOf 20 = .ok (.getfield 22, 3) := by decide +kernel
theorem dX6_sortOf_23 : decode cX6_sortOf 23 = .ok (.iload_n 1, 1) := by decide +kernel
theorem dX6_sortOf_24 : decode cX6_sortOf 24 = .ok (.iaload, 1) := by decide +kernel
theorem dX6_sortOf_25 : decode cX6_sortOf 25 = .ok (.goto 4, 3) := by decide +kernel
theorem dX6_sortOf_28 : decode cX6_sortOf 28 = .ok (.iconst 0, 1) := by decide +kernel
theorem dX6_sortOf_29 : decode cX6_sortOf 29 = .ok (.ireturn, 1) := by decide +kernel
theorem dX6_numberOf_0 : decode cX6_numberOf 0 = .ok (.iload_n 1, 1) := by decide +kernel
theorem dX6_numberOf_1 : decode cX6_numberOf 1 = .ok (.ifCond .lt 27, 3) := by decide +kernel
theorem dX6_numberOf_4 : decode cX6_numberOf 4 = .ok (.iload_n 1, 1) := by decide +kernel
theorem dX6_numberOf_5 : decode cX6_numberOf 5 = .ok (.aload_n 0, 1) := by decide +kernel
theorem dX6_numberOf_6 : decode cX6_numberOf 6 = .ok (.getfield 9, 3) := by decide +kernel
theorem dX6_numberOf_9 : decode cX6_numberOf 9 = .ok (.if_icmp .ge 19, 3) := by decide +kernel
theorem dX6_numberOf_12 : decode cX6_numberOf 12 = .ok (.iload_n 1, 1) := by decide +kernel
theorem dX6_numberOf_13 : decode cX6_numberOf 13 = .ok (.sipush 3800, 3) := by decide +kernel
theorem dX6_numberOf_16 : decode cX6_numberOf 16 = .ok (.if_icmp .ge 12, 3) := by decide +kernel
theorem dX6_numberOf_19 : decode cX6_numberOf 19 = .ok (.aload_n 0, 1) := by decide +kernel
theorem dX6_numberOf_20 : decode cX6_numberOf 20 = .ok (.getfield 25, 3) := by decide +kernel
theorem dX6_numberOf_23 : decode cX6_numberOf 23 = .ok (.iload_n 1, 1) := by decide +kernel
theorem dX6_numberOf_24 : decode cX6_numberOf 24 = .ok (.iaload, 1) := by decide +kernel
theorem dX6_numberOf_25 : decode cX6_numberOf 25 = .ok (.goto 4, 3) := by decide +kernel
theorem dX6_numberOf_28 : decode cX6_numberOf 28 = .ok (.iconst 0, 1) := by decide +kernel
theorem dX6_numberOf_29 : decode cX6_numberOf 29 = .ok (.ireturn, 1) := by decide +kernel
theorem dX6_changesOf_0 : decode cX6_changesOf 0 = .ok (.aload_n 0, 1) := by decide +kernel
theorem dX6_changesOf_1 : decode cX6_changesOf 1 = .ok (.iload_n 1, 1) := by decide +kernel
theorem dX6_changesOf_2 : decode cX6_changesOf 2 = .ok (.invokevirtual 60, 3) := by decide +kernel
theorem dX6_changesOf_5 : decode cX6_changesOf 5 = .ok (.ifCond .eq 12, 3) := by decide +kernel
theorem dX6_changesOf_8 : decode cX6_changesOf 8 = .ok (.aload_n 0, 1) := by decide +kernel
theorem dX6_changesOf_9 : decode cX6_changesOf 9 = .ok (.getfield 28, 3) := by decide +kernel
theorem dX6_changesOf_12 : decode cX6_changesOf 12 = .ok (.iload_n 1, 1) := by decide +kernel
theorem dX6_changesOf_13 : decode cX6_changesOf 13 = .ok (.iaload, 1) := by decide +kernel
theorem dX6_changesOf_14 : decode cX6_changesOf 14 = .ok (.goto 4, 3) := by decide +kernel
theorem dX6_changesOf_17 : decode cX6_changesOf 17 = .ok (.iconst 0, 1) := by decide +kernel
theorem dX6_changesOf_18 : decode cX6_changesOf 18 = .ok (.ireturn, 1) := by decide +kernel
theorem dX6_aheadOf_0 : decode cX6_aheadOf 0 = .ok (.aload_n 0, 1) := by decide +kernel
theorem dX6_aheadOf_1 : decode cX6_aheadOf 1 = .ok (.iload_n 1, 1) := by decide +kernel
theorem dX6_aheadOf_2 : decode cX6_aheadOf 2 = .ok (.invokevirtual 60, 3) := by decide +kernel
theorem dX6_aheadOf_5 : decode cX6_aheadOf 5 = .ok (.ifCond .eq 12, 3) := by decide +kernel
theorem dX6_aheadOf_8 : decode cX6_aheadOf 8 = .ok (.aload_n 0, 1) := by decide +kernel
theorem dX6_aheadOf_9 : decode cX6_aheadOf 9 = .ok (.getfield 31, 3) := by decide +kernel
theorem dX6_aheadOf_12 : decode cX6_aheadOf 12 = .ok (.iload_n 1, 1) := by decide +kernel
theorem dX6_aheadOf_13 : decode cX6_aheadOf 13 = .ok (.iaload, 1) := by decide +kernel
theorem dX6_aheadOf_14 : decode cX6_aheadOf 14 = .ok (.goto 4, 3) := by decide +kernel
theorem dX6_aheadOf_17 : decode cX6_aheadOf 17 = .ok (.iconst (-1), 1) := by decide +kernel
theorem dX6_aheadOf_18 : decode cX6_aheadOf 18 = .ok (.ireturn, 1) := by decide +kernel
theorem dX6_latestOf_0 : decode cX6_latestOf 0 = .ok (.iload_n 1, 1) := by decide +kernel
theorem dX6_latestOf_1 : decode cX6_latestOf 1 = .ok (.invokestatic 64, 3) := by decide +kernel
theorem dX6_latestOf_4 : decode cX6_latestOf 4 = .ok (.ifCond .eq 12, 3) := by decide +kernel
theorem dX6_latestOf_7 : decode cX6_latestOf 7 = .ok (.aload_n 0, 1) := by decide +kernel
theorem dX6_latestOf_8 : decode cX6_latestOf 8 = .ok (.getfield 46, 3) := by decide +kernel
theorem dX6_latestOf_11 : decode cX6_latestOf 11 = .ok (.iload_n 1, 1) := by decide +kernel
theorem dX6_latestOf_12 : decode cX6_latestOf 12 = .ok (.iaload, 1) := by decide +kernel
theorem dX6_latestOf_13 : decode cX6_latestOf 13 = .ok (.goto 4, 3) := by decide +kernel
theorem dX6_latestOf_16 : decode cX6_latestOf 16 = .ok (.iconst (-1), 1) := by decide +kernel
theorem dX6_latestOf_17 : decode cX6_latestOf 17 = .ok (.ireturn, 1) := by decide +kernel
theorem dX6_hasValue_0 : decode cX6_hasValue 0 = .ok (.aload_n 0, 1) := by decide +kernel
theorem dX6_hasValue_1 : decode cX6_hasValue 1 = .ok (.iload_n 1, 1) := by decide +kernel
theorem dX6_hasValue_2 : decode cX6_hasValue 2 = .ok (.invokevirtual 67, 3) := by decide +kernel
theorem dX6_hasValue_5 : decode cX6_hasValue 5 = .ok (.iload_n 2, 1) := by decide +kernel
theorem dX6_hasValue_6 : decode cX6_hasValue 6 = .ok (.if_icmp .ne 16, 3) := by decide +kernel
theorem dX6_hasValue_9 : decode cX6_hasValue 9 = .ok (.aload_n 0, 1) := by decide +kernel
theorem dX6_hasValue_10 : decode cX6_hasValue 10 = .ok (.iload_n 1, 1) := by decide +kernel
theorem dX6_hasValue_11 : decode cX6_hasValue 11 = .ok (.invokevirtual 71, 3) := by decide +kernel
theorem dX6_hasValue_14 : decode cX6_hasValue 14 = .ok (.iload_n 3, 1) := by decide +kernel
theorem dX6_hasValue_15 : decode cX6_hasValue 15 = .ok (.if_icmp .ne 7, 3) := by decide +kernel
theorem dX6_hasValue_18 : decode cX6_hasValue 18 = .ok (.iconst 1, 1) := by decide +kernel
theorem dX6_hasValue_19 : decode cX6_hasValue 19 = .ok (.goto 4, 3) := by decide +kernel
theorem dX6_hasValue_22 : decode cX6_hasValue 22 = .ok (.iconst 0, 1) := by decide +kernel
theorem dX6_hasValue_23 : decode cX6_hasValue 23 = .ok (.ireturn, 1) := by decide +kernel
theorem dX6_add_0 : decode cX6_add 0 = .ok (.iload_n 2, 1) := by decide +kernel
theorem dX6_add_1 : decode cX6_add 1 = .ok (.invokestatic 64, 3) := by decide +kernel
theorem dX6_add_4 : decode cX6_add 4 = .ok (.ifCond .eq 20, 3) := by decide +kernel
theorem dX6_add_7 : decode cX6_add 7 = .ok (.aload_n 0, 1) := by decide +kernel
theorem dX6_add_8 : decode cX6_add 8 = .ok (.getfield 9, 3) := by decide +kernel
theorem dX6_add_11 : decode cX6_add 11 = .ok (.ifCond .lt 13, 3) := by decide +kernel
theorem dX6_add_14 : decode cX6_add 14 = .ok (.aload_n 0, 1) := by decide +kernel
theorem dX6_add_15 : decode cX6_add 15 = .ok (.getfield 9, 3) := by decide +kernel
theorem dX6_add_18 : decode cX6_add 18 = .ok (.sipush 3800, 3) := by decide +kernel
theorem dX6_add_21 : decode cX6_add 21 = .ok (.if_icmp .lt 5, 3) := by decide +kernel
theorem dX6_add_24 : decode cX6_add 24 = .ok (.iconst 0, 1) := by decide +kernel
theorem dX6_add_25 : decode cX6_add 25 = .ok (.ireturn, 1) := by decide +kernel
theorem dX6_add_26 : decode cX6_add 26 = .ok (.aload_n 0, 1) := by decide +kernel
theorem dX6_add_27 : decode cX6_add 27 = .ok (.getfield 46, 3) := by decide +kernel
theorem dX6_add_30 : decode cX6_add 30 = .ok (.iload_n 2, 1) := by decide +kernel
theorem dX6_add_31 : decode cX6_add 31 = .ok (.iaload, 1) := by decide +kernel
theorem dX6_add_32 : decode cX6_add 32 = .ok (.istore 5, 2) := by decide +kernel
theorem dX6_add_34 : decode cX6_add 34 = .ok (.aload_n 0, 1) := by decide +kernel
theorem dX6_add_35 : decode cX6_add 35 = .ok (.iload 5, 2) := by decide +kernel
theorem dX6_add_37 : decode cX6_add 37 = .ok (.iload_n 3, 1) := by decide +kernel
theorem dX6_add_38 : decode cX6_add 38 = .ok (.iload 4, 2) := by decide +kernel
theorem dX6_add_40 : decode cX6_add 40 = .ok (.invokevirtual 74, 3) := by decide +kernel
theorem dX6_add_43 : decode cX6_add 43 = .ok (.ifCond .ne 7, 3) := by decide +kernel
theorem dX6_add_46 : decode cX6_add 46 = .ok (.iconst 1, 1) := by decide +kernel
theorem dX6_add_47 : decode cX6_add 47 = .ok (.goto 4, 3) := by decide +kernel
theorem dX6_add_50 : decode cX6_add 50 = .ok (.iconst 0, 1) := by decide +kernel
theorem dX6_add_51 : decode cX6_add 51 = .ok (.istore 6, 2) := by decide +kernel
theorem dX6_add_53 : decode cX6_add 53 = .ok (.aload_n 0, 1) := by decide +kernel
theorem dX6_add_54 : decode cX6_add 54 = .ok (.getfield 15, 3) := by decide +kernel
theorem dX6_add_57 : decode cX6_add 57 = .ok (.aload_n 0, 1) := by decide +kernel
theorem dX6_add_58 : decode cX6_add 58 = .ok (.getfield 9, 3) := by decide +kernel
theorem dX6_add_61 : decode cX6_add 61 = .ok (.iload_n 1, 1) := by decide +kernel
theorem dX6_add_62 : decode cX6_add 62 = .ok (.iastore, 1) := by decide +kernel
theorem dX6_add_63 : decode cX6_add 63 = .ok (.aload_n 0, 1) := by decide +kernel
theorem dX6_add_64 : decode cX6_add 64 = .ok (.getfield 19, 3) := by decide +kernel
theorem dX6_add_67 : decode cX6_add 67 = .ok (.aload_n 0, 1) := by decide +kernel
theorem dX6_add_68 : decode cX6_add 68 = .ok (.getfield 9, 3) := by decide +kernel
theorem dX6_add_71 : decode cX6_add 71 = .ok (.iload_n 2, 1) := by decide +kernel
theorem dX6_add_72 : decode cX6_add 72 = .ok (.iastore, 1) := by decide +kernel
theorem dX6_add_73 : decode cX6_add 73 = .ok (.aload_n 0, 1) := by decide +kernel
theorem dX6_add_74 : decode cX6_add 74 = .ok (.getfield 22, 3) := by decide +kernel
theorem dX6_add_77 : decode cX6_add 77 = .ok (.aload_n 0, 1) := by decide +kernel
theorem dX6_add_78 : decode cX6_add 78 = .ok (.getfield 9, 3) := by decide +kernel
theorem dX6_add_81 : decode cX6_add 81 = .ok (.iload_n 3, 1) := by decide +kernel
theorem dX6_add_82 : decode cX6_add 82 = .ok (.iastore, 1) := by decide +kernel
theorem dX6_add_83 : decode cX6_add 83 = .ok (.aload_n 0, 1) := by decide +kernel
theorem dX6_add_84 : decode cX6_add 84 = .ok (.getfield 25, 3) := by decide +kernel
theorem dX6_add_87 : decode cX6_add 87 = .ok (.aload_n 0, 1) := by decide +kernel
theorem dX6_add_88 : decode cX6_add 88 = .ok (.getfield 9, 3) := by decide +kernel
theorem dX6_add_91 : decode cX6_add 91 = .ok (.iload 4, 2) := by decide +kernel
theorem dX6_add_93 : decode cX6_add 93 = .ok (.iastore, 1) := by decide +kernel
theorem dX6_add_94 : decode cX6_add 94 = .ok (.aload_n 0, 1) := by decide +kernel
theorem dX6_add_95 : decode cX6_add 95 = .ok (.getfield 28, 3) := by decide +kernel
theorem dX6_add_98 : decode cX6_add 98 = .ok (.aload_n 0, 1) := by decide +kernel
theorem dX6_add_99 : decode cX6_add 99 = .ok (.getfield 9, 3) := by decide +kernel
theorem dX6_add_102 : decode cX6_add 102 = .ok (.aload_n 0, 1) := by decide +kernel
theorem dX6_add_103 : decode cX6_add 103 = .ok (.iload 5, 2) := by decide +kernel
theorem dX6_add_105 : decode cX6_add 105 = .ok (.invokevirtual 78, 3) := by decide +kernel
theorem dX6_add_108 : decode cX6_add 108 = .ok (.iload 6, 2) := by decide +kernel
theorem dX6_add_110 : decode cX6_add 110 = .ok (.ifCond .eq 7, 3) := by decide +kernel
theorem dX6_add_113 : decode cX6_add 113 = .ok (.iconst 1, 1) := by decide +kernel
theorem dX6_add_114 : decode cX6_add 114 = .ok (.goto 4, 3) := by decide +kernel
theorem dX6_add_117 : decode cX6_add 117 = .ok (.iconst 0, 1) := by decide +kernel
theorem dX6_add_118 : decode cX6_add 118 = .ok (.iadd, 1) := by decide +kernel
theorem dX6_add_119 : decode cX6_add 119 = .ok (.iastore, 1) := by decide +kernel
theorem dX6_add_120 : decode cX6_add 120 = .ok (.aload_n 0, 1) := by decide +kernel
theorem dX6_add_121 : decode cX6_add 121 = .ok (.getfield 31, 3) := by decide +kernel
theorem dX6_add_124 : decode cX6_add 124 = .ok (.aload_n 0, 1) := by decide +kernel
theorem dX6_add_125 : decode cX6_add 125 = .ok (.getfield 9, 3) := by decide +kernel
theorem dX6_add_128 : decode cX6_add 128 = .ok (.iload 5, 2) := by decide +kernel
theorem dX6_add_130 : decode cX6_add 130 = .ok (.iastore, 1) := by decide +kernel
theorem dX6_add_131 : decode cX6_add 131 = .ok (.aload_n 0, 1) := by decide +kernel
theorem dX6_add_132 : decode cX6_add 132 = .ok (.getfield 46, 3) := by decide +kernel
theorem dX6_add_135 : decode cX6_add 135 = .ok (.iload_n 2, 1) := by decide +kernel
theorem dX6_add_136 : decode cX6_add 136 = .ok (.aload_n 0, 1) := by decide +kernel
theorem dX6_add_137 : decode cX6_add 137 = .ok (.getfield 9, 3) := by decide +kernel
theorem dX6_add_140 : decode cX6_add 140 = .ok (.iastore, 1) := by decide +kernel
theorem dX6_add_141 : decode cX6_add 141 = .ok (.aload_n 0, 1) := by decide +kernel
theorem dX6_add_142 : decode cX6_add 142 = .ok (.dup, 1) := by decide +kernel
theorem dX6_add_143 : decode cX6_add 143 = .ok (.getfield 9, 3) := by decide +kernel
theorem dX6_add_146 : decode cX6_add 146 = .ok (.iconst 1, 1) := by decide +kernel
theorem dX6_add_147 : decode cX6_add 147 = .ok (.iadd, 1) := by decide +kernel
theorem dX6_add_148 : decode cX6_add 148 = .ok (.putfield 9, 3) := by decide +kernel
theorem dX6_add_151 : decode cX6_add 151 = .ok (.iload 6, 2) := by decide +kernel
theorem dX6_add_153 : decode cX6_add 153 = .ok (.ireturn, 1) := by decide +kernel
theorem dX6_restLatestOn_0 : decode cX6_restLatestOn 0 = .ok (.aload_n 0, 1) := by decide +kernel
theorem dX6_restLatestOn_1 : decode cX6_restLatestOn 1 = .ok (.getfield 9, 3) := by decide +kernel
theorem dX6_restLatestOn_4 : decode cX6_restLatestOn 4 = .ok (.iconst 1, 1) := by decide +kernel
theorem dX6_restLatestOn_5 : decode cX6_restLatestOn 5 = .ok (.isub, 1) := by decide +kernel
theorem dX6_restLatestOn_6 : decode cX6_restLatestOn 6 = .ok (.istore 5, 2) := by decide +kernel
theorem dX6_restLatestOn_8 : decode cX6_restLatestOn 8 = .ok (.aload_n 0, 1) := by decide +kernel
theorem dX6_restLatestOn_9 : decode cX6_restLatestOn 9 = .ok (.iload 5, 2) := by decide +kernel
theorem dX6_restLatestOn_11 : decode cX6_restLatestOn 11 = .ok (.invokevirtual 60, 3) := by decide +kernel
theorem dX6_restLatestOn_14 : decode cX6_restLatestOn 14 = .ok (.ifCond .eq 36, 3) := by decide +kernel
theorem dX6_restLatestOn_17 : decode cX6_restLatestOn 17 = .ok (.aload_n 0, 1) := by decide +kernel
theorem dX6_restLatestOn_18 : decode cX6_restLatestOn 18 = .ok (.getfield 34, 3) := by decide +kernel
theorem dX6_restLatestOn_21 : decode cX6_restLatestOn 21 = .ok (.iload 5, 2) := by decide +kernel
theorem dX6_restLatestOn_23 : decode cX6_restLatestOn 23 = .ok (.iload_n 1, 1) := by decide +kernel
theorem dX6_restLatestOn_24 : decode cX6_restLatestOn 24 = .ok (.iastore, 1) := by decide +kernel
theorem dX6_restLatestOn_25 : decode cX6_restLatestOn 25 = .ok (.aload_n 0, 1) := by decide +kernel
theorem dX6_restLatestOn_26 : decode cX6_restLatestOn 26 = .ok (.getfield 37, 3) := by decide +kernel
theorem dX6_restLatestOn_29 : decode cX6_restLatestOn 29 = .ok (.iload 5, 2) := by decide +kernel
theorem dX6_restLatestOn_31 : decode cX6_restLatestOn 31 = .ok (.iload_n 2, 1) := by decide +kernel
theorem dX6_restLatestOn_32 : decode cX6_restLatestOn 32 = .ok (.iastore, 1) := by decide +kernel
theorem dX6_restLatestOn_33 : decode cX6_restLatestOn 33 = .ok (.aload_n 0, 1) := by decide +kernel
theorem dX6_restLatestOn_34 : decode cX6_restLatestOn 34 = .ok (.getfield 40, 3) := by decide +kernel
theorem dX6_restLatestOn_37 : decode cX6_restLatestOn 37 = .ok (.iload 5, 2) := by decide +kernel
theorem dX6_restLatestOn_39 : decode cX6_restLatestOn 39 = .ok (.iload_n 3, 1) := by decide +kernel
theorem dX6_restLatestOn_40 : decode cX6_restLatestOn 40 = .ok (.iastore, 1) := by decide +kernel
theorem dX6_restLatestOn_41 : decode cX6_restLatestOn 41 = .ok (.aload_n 0, 1) := by decide +kernel
theorem dX6_restLatestOn_42 : decode cX6_restLatestOn 42 = .ok (.getfield 43, 3) := by decide +kernel
theorem dX6_restLatestOn_45 : decode cX6_restLatestOn 45 = .ok (.iload 5, 2) := by decide +kernel
theorem dX6_restLatestOn_47 : decode cX6_restLatestOn 47 = .ok (.iload 4, 2) := by decide +kernel
theorem dX6_restLatestOn_49 : decode cX6_restLatestOn 49 = .ok (.iastore, 1) := by decide +kernel
theorem dX6_restLatestOn_50 : decode cX6_restLatestOn 50 = .ok (.return_, 1) := by decide +kernel
theorem dX6_dropBehind_0 : decode cX6_dropBehind 0 = .ok (.aload_n 0, 1) := by decide +kernel
theorem dX6_dropBehind_1 : decode cX6_dropBehind 1 = .ok (.getfield 9, 3) := by decide +kernel
theorem dX6_dropBehind_4 : decode cX6_dropBehind 4 = .ok (.iconst 1, 1) := by decide +kernel
theorem dX6_dropBehind_5 : decode cX6_dropBehind 5 = .ok (.isub, 1) := by decide +kernel
theorem dX6_dropBehind_6 : decode cX6_dropBehind 6 = .ok (.istore_n 2, 1) := by decide +kernel
theorem dX6_dropBehind_7 : decode cX6_dropBehind 7 = .ok (.iload_n 2, 1) := by decide +kernel
theorem dX6_dropBehind_8 : decode cX6_dropBehind 8 = .ok (.ifCond .lt 52, 3) := by decide +kernel
theorem dX6_dropBehind_11 : decode cX6_dropBehind 11 = .ok (.aload_n 0, 1) := by decide +kernel
theorem dX6_dropBehind_12 : decode cX6_dropBehind 12 = .ok (.iload_n 2, 1) := by decide +kernel
theorem dX6_dropBehind_13 : decode cX6_dropBehind 13 = .ok (.invokevirtual 81, 3) := by decide +kernel
theorem dX6_dropBehind_16 : decode cX6_dropBehind 16 = .ok (.iload_n 1, 1) := by decide +kernel
theorem dX6_dropBehind_17 : decode cX6_dropBehind 17 = .ok (.if_icmp .le 43, 3) := by decide +kernel
theorem dX6_dropBehind_20 : decode cX6_dropBehind 20 = .ok (.aload_n 0, 1) := by decide +kernel
theorem dX6_dropBehind_21 : decode cX6_dropBehind 21 = .ok (.getfield 19, 3) := by decide +kernel
theorem dX6_dropBehind_24 : decode cX6_dropBehind 24 = .ok (.iload_n 2, 1) := by decide +kernel
theorem dX6_dropBehind_25 : decode cX6_dropBehind 25 = .ok (.iaload, 1) := by decide +kernel
theorem dX6_dropBehind_26 : decode cX6_dropBehind 26 = .ok (.invokestatic 64, 3) := by decide +kernel
theorem dX6_dropBehind_29 : decode cX6_dropBehind 29 = .ok (.ifCond .eq 20, 3) := by decide +kernel
theorem dX6_dropBehind_32 : decode cX6_dropBehind 32 = .ok (.aload_n 0, 1) := by decide +kernel
theorem dX6_dropBehind_33 : decode cX6_dropBehind 33 = .ok (.getfield 46, 3) := by decide +kernel
theorem dX6_dropBehind_36 : decode cX6_dropBehind 36 = .ok (.aload_n 0, 1) := by decide +kernel
theorem dX6_dropBehind_37 : decode cX6_dropBehind 37 = .ok (.getfield 19, 3) := by decide +kernel
theorem dX6_dropBehind_40 : decode cX6_dropBehind 40 = .ok (.iload_n 2, 1) := by decide +kernel
theorem dX6_dropBehind_41 : decode cX6_dropBehind 41 = .ok (.iaload, 1) := by decide +kernel
theorem dX6_dropBehind_42 : decode cX6_dropBehind 42 = .ok (.aload_n 0, 1) := by decide +kernel
theorem dX6_dropBehind_43 : decode cX6_dropBehind 43 = .ok (.getfield 31, 3) := by decide +kernel
theorem dX6_dropBehind_46 : decode cX6_dropBehind 46 = .ok (.iload_n 2, 1) := by decide +kernel
theorem dX6_dropBehind_47 : decode cX6_dropBehind 47 = .ok (.iaload, 1) := by decide +kernel
theorem dX6_dropBehind_48 : decode cX6_dropBehind 48 = .ok (.iastore, 1) := by decide +kernel
theorem dX6_dropBehind_49 : decode cX6_dropBehind 49 = .ok (.aload_n 0, 1) := by decide +kernel
theorem dX6_dropBehind_50 : decode cX6_dropBehind 50 = .ok (.iload_n 2, 1) := by decide +kernel
theorem dX6_dropBehind_51 : decode cX6_dropBehind 51 = .ok (.putfield 9, 3) := by decide +kernel
theorem dX6_dropBehind_54 : decode cX6_dropBehind 54 = .ok (.iinc 2 (-1), 3) := by decide +kernel
theorem dX6_dropBehind_57 : decode cX6_dropBehind 57 = .ok (.goto (-50), 3) := by decide +kernel
theorem dX6_dropBehind_60 : decode cX6_dropBehind 60 = .ok (.return_, 1) := by decide +kernel
theorem dX6_putBy_0 : decode cX6_putBy 0 = .ok (.aload_n 0, 1) := by decide +kernel
theorem dX6_putBy_1 : decode cX6_putBy 1 = .ok (.iload_n 2, 1) := by decide +kernel
theorem dX6_putBy_2 : decode cX6_putBy 2 = .ok (.invokevirtual 84, 3) := by decide +kernel
theorem dX6_putBy_5 : decode cX6_putBy 5 = .ok (.istore_n 3, 1) := by decide +kernel
theorem dX6_putBy_6 : decode cX6_putBy 6 = .ok (.aload_n 0, 1) := by decide +kernel
theorem dX6_putBy_7 : decode cX6_putBy 7 = .ok (.getfield 9, 3) := by decide +kernel
theorem dX6_putBy_10 : decode cX6_putBy 10 = .ok (.istore 4, 2) := by decide +kernel
theorem dX6_putBy_12 : decode cX6_putBy 12 = .ok (.iload 4, 2) := by decide +kernel
theorem dX6_putBy_14 : decode cX6_putBy 14 = .ok (.ifCond .le 24, 3) := by decide +kernel
theorem dX6_putBy_17 : decode cX6_putBy 17 = .ok (.aload_n 0, 1) := by decide +kernel
theorem dX6_putBy_18 : decode cX6_putBy 18 = .ok (.iload_n 3, 1) := by decide +kernel
theorem dX6_putBy_19 : decode cX6_putBy 19 = .ok (.invokevirtual 81, 3) := by decide +kernel
theorem dX6_putBy_22 : decode cX6_putBy 22 = .ok (.iload_n 1, 1) := by decide +kernel
theorem dX6_putBy_23 : decode cX6_putBy 23 = .ok (.if_icmp .le 15, 3) := by decide +kernel
theorem dX6_putBy_26 : decode cX6_putBy 26 = .ok (.aload_n 0, 1) := by decide +kernel
theorem dX6_putBy_27 : decode cX6_putBy 27 = .ok (.iload_n 3, 1) := by decide +kernel
theorem dX6_putBy_28 : decode cX6_putBy 28 = .ok (.invokevirtual 87, 3) := by decide +kernel
theorem dX6_putBy_31 : decode cX6_putBy 31 = .ok (.istore_n 3, 1) := by decide +kernel
theorem dX6_putBy_32 : decode cX6_putBy 32 = .ok (.iinc 4 (-1), 3) := by decide +kernel
theorem dX6_putBy_35 : decode cX6_putBy 35 = .ok (.goto (-23), 3) := by decide +kernel
theorem dX6_putBy_38 : decode cX6_putBy 38 = .ok (.iload_n 3, 1) := by decide +kernel
theorem dX6_putBy_39 : decode cX6_putBy 39 = .ok (.ireturn, 1) := by decide +kernel
theorem dX6_changedSince_0 : decode cX6_changedSince 0 = .ok (.iload_n 1, 1) := by decide +kernel
theorem dX6_changedSince_1 : decode cX6_changedSince 1 = .ok (.istore_n 2, 1) := by decide +kernel
theorem dX6_changedSince_2 : decode cX6_changedSince 2 = .ok (.aload_n 0, 1) := by decide +kernel
theorem dX6_changedSince_3 : decode cX6_changedSince 3 = .ok (.getfield 9, 3) := by decide +kernel
theorem dX6_changedSince_6 : decode cX6_changedSince 6 = .ok (.istore_n 3, 1) := by decide +kernel
theorem dX6_changedSince_7 : decode cX6_changedSince 7 = .ok (.iload_n 3, 1) := by decide +kernel
theorem dX6_changedSince_8 : decode cX6_changedSince 8 = .ok (.ifCond .le 47, 3) := by decide +kernel
theorem dX6_changedSince_11 : decode cX6_changedSince 11 = .ok (.aload_n 0, 1) := by decide +kernel
theorem dX6_changedSince_12 : decode cX6_changedSince 12 = .ok (.aload_n 0, 1) := by decide +kernel
theorem dX6_changedSince_13 : decode cX6_changedSince 13 = .ok (.iload_n 2, 1) := by decide +kernel
theorem dX6_changedSince_14 : decode cX6_changedSince 14 = .ok (.invokevirtual 87, 3) := by decide +kernel
theorem dX6_changedSince_17 : decode cX6_changedSince 17 = .ok (.invokevirtual 60, 3) := by decide +kernel
theorem dX6_changedSince_20 : decode cX6_changedSince 20 = .ok (.ifCond .eq 35, 3) := by decide +kernel
theorem dX6_changedSince_23 : decode cX6_changedSince 23 = .ok (.aload_n 0, 1) := by decide +kernel
theorem dX6_changedSince_24 : decode cX6_changedSince 24 = .ok (.aload_n 0, 1) := by decide +kernel
theorem dX6_changedSince_25 : decode cX6_changedSince 25 = .ok (.iload_n 2, 1) := by decide +kernel
theorem dX6_changedSince_26 : decode cX6_changedSince 26 = .ok (.invokevirtual 87, 3) := by decide +kernel
theorem dX6_changedSince_29 : decode cX6_changedSince 29 = .ok (.invokevirtual 78, 3) := by decide +kernel
theorem dX6_changedSince_32 : decode cX6_changedSince 32 = .ok (.aload_n 0, 1) := by decide +kernel
theorem dX6_changedSince_33 : decode cX6_changedSince 33 = .ok (.iload_n 1, 1) := by decide +kernel
theorem dX6_changedSince_34 : decode cX6_changedSince 34 = .ok (.invokevirtual 78, 3) := by decide +kernel
theorem dX6_changedSince_37 : decode cX6_changedSince 37 = .ok (.if_icmp .eq 6, 3) := by decide +kernel
theorem dX6_changedSince_40 : decode cX6_changedSince 40 = .ok (.goto 15, 3) := by decide +kernel
theorem dX6_changedSince_43 : decode cX6_changedSince 43 = .ok (.aload_n 0, 1) := by decide +kernel
theorem dX6_changedSince_44 : decode cX6_changedSince 44 = .ok (.iload_n 2, 1) := by decide +kernel
theorem dX6_changedSince_45 : decode cX6_changedSince 45 = .ok (.invokevirtual 87, 3) := by decide +kernel
theorem dX6_changedSince_48 : decode cX6_changedSince 48 = .ok (.istore_n 2, 1) := by decide +kernel
theorem dX6_changedSince_49 : decode cX6_changedSince 49 = .ok (.iinc 3 (-1), 3) := by decide +kernel
theorem dX6_changedSince_52 : decode cX6_changedSince 52 = .ok (.goto (-45), 3) := by decide +kernel
theorem dX6_changedSince_55 : decode cX6_changedSince 55 = .ok (.aload_n 0, 1) := by decide +kernel
theorem dX6_changedSince_56 : decode cX6_changedSince 56 = .ok (.iload_n 2, 1) := by decide +kernel
theorem dX6_changedSince_57 : decode cX6_changedSince 57 = .ok (.invokevirtual 81, 3) := by decide +kernel
theorem dX6_changedSince_60 : decode cX6_changedSince 60 = .ok (.ireturn, 1) := by decide +kernel
theorem dX6_hadBy_0 : decode cX6_hadBy 0 = .ok (.iload_n 1, 1) := by decide +kernel
theorem dX6_hadBy_1 : decode cX6_hadBy 1 = .ok (.istore 5, 2) := by decide +kernel
theorem dX6_hadBy_3 : decode cX6_hadBy 3 = .ok (.aload_n 0, 1) := by decide +kernel
theorem dX6_hadBy_4 : decode cX6_hadBy 4 = .ok (.iload_n 2, 1) := by decide +kernel
theorem dX6_hadBy_5 : decode cX6_hadBy 5 = .ok (.invokevirtual 84, 3) := by decide +kernel
theorem dX6_hadBy_8 : decode cX6_hadBy 8 = .ok (.istore 6, 2) := by decide +kernel
theorem dX6_hadBy_10 : decode cX6_hadBy 10 = .ok (.aload_n 0, 1) := by decide +kernel
theorem dX6_hadBy_11 : decode cX6_hadBy 11 = .ok (.getfield 9, 3) := by decide +kernel
theorem dX6_hadBy_14 : decode cX6_hadBy 14 = .ok (.istore 7, 2) := by decide +kernel
theorem dX6_hadBy_16 : decode cX6_hadBy 16 = .ok (.iload 7, 2) := by decide +kernel
theorem dX6_hadBy_18 : decode cX6_hadBy 18 = .ok (.ifCond .lt 58, 3) := by decide +kernel
theorem dX6_hadBy_21 : decode cX6_hadBy 21 = .ok (.iload 5, 2) := by decide +kernel
theorem dX6_hadBy_23 : decode cX6_hadBy 23 = .ok (.ifCond .lt 53, 3) := by decide +kernel
theorem dX6_hadBy_26 : decode cX6_hadBy 26 = .ok (.aload_n 0, 1) := by decide +kernel
theorem dX6_hadBy_27 : decode cX6_hadBy 27 = .ok (.iload 6, 2) := by decide +kernel
theorem dX6_hadBy_29 : decode cX6_hadBy 29 = .ok (.invokevirtual 81, 3) := by decide +kernel
theorem dX6_hadBy_32 : decode cX6_hadBy 32 = .ok (.iload 5, 2) := by decide +kernel
theorem dX6_hadBy_34 : decode cX6_hadBy 34 = .ok (.if_icmp .gt 28, 3) := by decide +kernel
theorem dX6_hadBy_37 : decode cX6_hadBy 37 = .ok (.aload_n 0, 1) := by decide +kernel
theorem dX6_hadBy_38 : decode cX6_hadBy 38 = .ok (.iload 6, 2) := by decide +kernel
theorem dX6_hadBy_40 : decode cX6_hadBy 40 = .ok (.iload_n 3, 1) := by decide +kernel
theorem dX6_hadBy_41 : decode cX6_hadBy 41 = .ok (.iload 4, 2) := by decide +kernel
theorem dX6_hadBy_43 : decode cX6_hadBy 43 = .ok (.invokevirtual 74, 3) := by decide +kernel
theorem dX6_hadBy_46 : decode cX6_hadBy 46 = .ok (.ifCond .eq 6, 3) := by decide +kernel
theorem dX6_hadBy_49 : decode cX6_hadBy 49 = .ok (.iload 5, 2) := by decide +kernel
theorem dX6_hadBy_51 : decode cX6_hadBy 51 = .ok (.ireturn, 1) := by decide +kernel
theorem dX6_hadBy_52 : decode cX6_hadBy 52 = .ok (.aload_n 0, 1) := by decide +kernel
theorem dX6_hadBy_53 : decode cX6_hadBy 53 = .ok (.iload 6, 2) := by decide +kernel
theorem dX6_hadBy_55 : decode cX6_hadBy 55 = .ok (.invokevirtual 81, 3) := by decide +kernel
theorem dX6_hadBy_58 : decode cX6_hadBy 58 = .ok (.iconst 1, 1) := by decide +kernel
theorem dX6_hadBy_59 : decode cX6_hadBy 59 = .ok (.isub, 1) := by decide +kernel
theorem dX6_hadBy_60 : decode cX6_hadBy 60 = .ok (.istore 5, 2) := by decide +kernel
theorem dX6_hadBy_62 : decode cX6_hadBy 62 = .ok (.aload_n 0, 1) := by decide +kernel
theorem dX6_hadBy_63 : decode cX6_hadBy 63 = .ok (.iload 6, 2) := by decide +kernel
theorem dX6_hadBy_65 : decode cX6_hadBy 65 = .ok (.invokevirtual 87, 3) := by decide +kernel
theorem dX6_hadBy_68 : decode cX6_hadBy 68 = .ok (.istore 6, 2) := by decide +kernel
theorem dX6_hadBy_70 : decode cX6_hadBy 70 = .ok (.iinc 7 (-1), 3) := by decide +kernel
theorem dX6_hadBy_73 : decode cX6_hadBy 73 = .ok (.goto (-57), 3) := by decide +kernel
theorem dX6_hadBy_76 : decode cX6_hadBy 76 = .ok (.iconst (-1), 1) := by decide +kernel
theorem dX6_hadBy_77 : decode cX6_hadBy 77 = .ok (.ireturn, 1) := by decide +kernel
theorem dX6_changeTimes_0 : decode cX6_changeTimes 0 = .ok (.iconst 0, 1) := by decide +kernel
theorem dX6_changeTimes_1 : decode cX6_changeTimes 1 = .ok (.istore_n 3, 1) := by decide +kernel
theorem dX6_changeTimes_2 : decode cX6_changeTimes 2 = .ok (.iconst (-1), 1) := by decide +kernel
theorem dX6_changeTimes_3 : decode cX6_changeTimes 3 = .ok (.istore 4, 2) := by decide +kernel
theorem dX6_changeTimes_5 : decode cX6_changeTimes 5 = .ok (.iconst 0, 1) := by decide +kernel
theorem dX6_changeTimes_6 : decode cX6_changeTimes 6 = .ok (.istore 5, 2) := by decide +kernel
theorem dX6_changeTimes_8 : decode cX6_changeTimes 8 = .ok (.iload 5, 2) := by decide +kernel
theorem dX6_changeTimes_10 : decode cX6_changeTimes 10 = .ok (.aload_n 0, 1) := by decide +kernel
theorem dX6_changeTimes_11 : decode cX6_changeTimes 11 = .ok (.getfield 9, 3) := by decide +kernel
theorem dX6_changeTimes_14 : decode cX6_changeTimes 14 = .ok (.if_icmp .ge 86, 3) := by decide +kernel
theorem dX6_changeTimes_17 : decode cX6_changeTimes 17 = .ok (.iload 5, 2) := by decide +kernel
theorem dX6_changeTimes_19 : decode cX6_changeTimes 19 = .ok (.sipush 3800, 3) := by decide +kernel
theorem dX6_changeTimes_22 : decode cX6_changeTimes 22 = .ok (.if_icmp .ge 78, 3) := by decide +kernel
theorem dX6_changeTimes_25 : decode cX6_changeTimes 25 = .ok (.aload_n 0, 1) := by decide +kernel
theorem dX6_changeTimes_26 : decode cX6_changeTimes 26 = .ok (.getfield 19, 3) := by decide +kernel
theorem dX6_changeTimes_29 : decode cX6_changeTimes 29 = .ok (.iload 5, 2) := by decide +kernel
theorem dX6_changeTimes_31 : decode cX6_changeTimes 31 = .ok (.iaload, 1) := by decide +kernel
theorem dX6_changeTimes_32 : decode cX6_changeTimes 32 = .ok (.iload_n 1, 1) := by decide +kernel
theorem dX6_changeTimes_33 : decode cX6_changeTimes 33 = .ok (.if_icmp .ne 61, 3) := by decide +kernel
theorem dX6_changeTimes_36 : decode cX6_changeTimes 36 = .ok (.aload_n 0, 1) := by decide +kernel
theorem dX6_changeTimes_37 : decode cX6_changeTimes 37 = .ok (.getfield 15, 3) := by decide +kernel
theorem dX6_changeTimes_40 : decode cX6_changeTimes 40 = .ok (.iload 5, 2) := by decide +kernel
theorem dX6_changeTimes_42 : decode cX6_changeTimes 42 = .ok (.iaload, 1) := by decide +kernel
theorem dX6_changeTimes_43 : decode cX6_changeTimes 43 = .ok (.iload 4, 2) := by decide +kernel
theorem dX6_changeTimes_45 : decode cX6_changeTimes 45 = .ok (.if_icmp .eq 49, 3) := by decide +kernel
theorem dX6_changeTimes_48 : decode cX6_changeTimes 48 = .ok (.aload_n 0, 1) := by decide +kernel
theorem dX6_changeTimes_49 : decode cX6_changeTimes 49 = .ok (.getfield 28, 3) := by decide +kernel
theorem dX6_changeTimes_52 : decode cX6_changeTimes 52 = .ok (.iload 5, 2) := by decide +kernel
theorem dX6_changeTimes_54 : decode cX6_changeTimes 54 = .ok (.iaload, 1) := by decide +kernel
theorem dX6_changeTimes_55 : decode cX6_changeTimes 55 = .ok (.aload_n 0, 1) := by decide +kernel
theorem dX6_changeTimes_56 : decode cX6_changeTimes 56 = .ok (.aload_n 0, 1) := by decide +kernel
theorem dX6_changeTimes_57 : decode cX6_changeTimes 57 = .ok (.getfield 31, 3) := by decide +kernel
theorem dX6_changeTimes_60 : decode cX6_changeTimes 60 = .ok (.iload 5, 2) := by decide +kernel
theorem dX6_changeTimes_62 : decode cX6_changeTimes 62 = .ok (.iaload, 1) := by decide +kernel
theorem dX6_changeTimes_63 : decode cX6_changeTimes 63 = .ok (.invokevirtual 78, 3) := by decide +kernel
theorem dX6_changeTimes_66 : decode cX6_changeTimes 66 = .ok (.if_icmp .eq 28, 3) := by decide +kernel
theorem dX6_changeTimes_69 : decode cX6_changeTimes 69 = .ok (.iload_n 3, 1) := by decide +kernel
theorem dX6_changeTimes_70 : decode cX6_changeTimes 70 = .ok (.iload_n 2, 1) := by decide +kernel
theorem dX6_changeTimes_71 : decode cX6_changeTimes 71 = .ok (.if_icmp .ne 11, 3) := by decide +kernel
theorem dX6_changeTimes_74 : decode cX6_changeTimes 74 = .ok (.aload_n 0, 1) := by decide +kernel
theorem dX6_changeTimes_75 : decode cX6_changeTimes 75 = .ok (.getfield 15, 3) := by decide +kernel
theorem dX6_changeTimes_78 : decode cX6_changeTimes 78 = .ok (.iload 5, 2) := by decide +kernel
theorem dX6_changeTimes_80 : decode cX6_changeTimes 80 = .ok (.iaload, 1) := by decide +kernel
theorem dX6_changeTimes_81 : decode cX6_changeTimes 81 = .ok (.ireturn, 1) := by decide +kernel
theorem dX6_changeTimes_82 : decode cX6_changeTimes 82 = .ok (.aload_n 0, 1) := by decide +kernel
theorem dX6_changeTimes_83 : decode cX6_changeTimes 83 = .ok (.getfield 15, 3) := by decide +kernel
theorem dX6_changeTimes_86 : decode cX6_changeTimes 86 = .ok (.iload 5, 2) := by decide +kernel
theorem dX6_changeTimes_88 : decode cX6_changeTimes 88 = .ok (.iaload, 1) := by decide +kernel
theorem dX6_changeTimes_89 : decode cX6_changeTimes 89 = .ok (.istore 4, 2) := by decide +kernel
theorem dX6_changeTimes_91 : decode cX6_changeTimes 91 = .ok (.iinc 3 1, 3) := by decide +kernel
theorem dX6_changeTimes_94 : decode cX6_changeTimes 94 = .ok (.iinc 5 1, 3) := by decide +kernel
theorem dX6_changeTimes_97 : decode cX6_changeTimes 97 = .ok (.goto (-89), 3) := by decide +kernel
theorem dX6_changeTimes_100 : decode cX6_changeTimes 100 = .ok (.iload_n 2, 1) := by decide +kernel
theorem dX6_changeTimes_101 : decode cX6_changeTimes 101 = .ok (.iconst (-1), 1) := by decide +kernel
theorem dX6_changeTimes_102 : decode cX6_changeTimes 102 = .ok (.if_icmp .ne 7, 3) := by decide +kernel
theorem dX6_changeTimes_105 : decode cX6_changeTimes 105 = .ok (.iload_n 3, 1) := by decide +kernel
theorem dX6_changeTimes_106 : decode cX6_changeTimes 106 = .ok (.goto 4, 3) := by decide +kernel
theorem dX6_changeTimes_109 : decode cX6_changeTimes 109 = .ok (.iconst (-1), 1) := by decide +kernel
theorem dX6_changeTimes_110 : decode cX6_changeTimes 110 = .ok (.ireturn, 1) := by decide +kernel
theorem dX6_markAllBelow_0 : decode cX6_markAllBelow 0 = .ok (.aload_n 2, 1) := by decide +kernel
theorem dX6_markAllBelow_1 : decode cX6_markAllBelow 1 = .ok (.iconst 0, 1) := by decide +kernel
theorem dX6_markAllBelow_2 : decode cX6_markAllBelow 2 = .ok (.invokestatic 90, 3) := by decide +kernel
theorem dX6_markAllBelow_5 : decode cX6_markAllBelow 5 = .ok (.aload_n 0, 1) := by decide +kernel
theorem dX6_markAllBelow_6 : decode cX6_markAllBelow 6 = .ok (.aload_n 2, 1) := by decide +kernel
theorem dX6_markAllBelow_7 : decode cX6_markAllBelow 7 = .ok (.iload_n 1, 1) := by decide +kernel
theorem dX6_markAllBelow_8 : decode cX6_markAllBelow 8 = .ok (.invokevirtual 93, 3) := by decide +kernel
theorem dX6_markAllBelow_11 : decode cX6_markAllBelow 11 = .ok (.iload_n 1, 1) := by decide +kernel
theorem dX6_markAllBelow_12 : decode cX6_markAllBelow 12 = .ok (.aload_n 0, 1) := by decide +kernel
theorem dX6_markAllBelow_13 : decode cX6_markAllBelow 13 = .ok (.getfield 9, 3) := by decide +kernel
theorem dX6_markAllBelow_16 : decode cX6_markAllBelow 16 = .ok (.iconst 1, 1) := by decide +kernel
theorem dX6_markAllBelow_17 : decode cX6_markAllBelow 17 = .ok (.isub, 1) := by decide +kernel
theorem dX6_markAllBelow_18 : decode cX6_markAllBelow 18 = .ok (.invokestatic 97, 3) := by decide +kernel
theorem dX6_markAllBelow_21 : decode cX6_markAllBelow 21 = .ok (.istore_n 3, 1) := by decide +kernel
theorem dX6_markAllBelow_22 : decode cX6_markAllBelow 22 = .ok (.iload_n 3, 1) := by decide +kernel
theorem dX6_markAllBelow_23 : decode cX6_markAllBelow 23 = .ok (.ifCond .lt 39, 3) := by decide +kernel
theorem dX6_markAllBelow_26 : decode cX6_markAllBelow 26 = .ok (.aload_n 2, 1) := by decide +kernel
theorem dX6_markAllBelow_27 : decode cX6_markAllBelow 27 = .ok (.iload_n 3, 1) := by decide +kernel
theorem dX6_markAllBelow_28 : decode cX6_markAllBelow 28 = .ok (.invokestatic 103, 3) := by decide +kernel
theorem dX6_markAllBelow_31 : decode cX6_markAllBelow 31 = .ok (.ifCond .eq 25, 3) := by decide +kernel
theorem dX6_markAllBelow_34 : decode cX6_markAllBelow 34 = .ok (.aload_n 0, 1) := by decide +kernel
theorem dX6_markAllBelow_35 : decode cX6_markAllBelow 35 = .ok (.aload_n 2, 1) := by decide +kernel
theorem dX6_markAllBelow_36 : decode cX6_markAllBelow 36 = .ok (.aload_n 0, 1) := by decide +kernel
theorem dX6_markAllBelow_37 : decode cX6_markAllBelow 37 = .ok (.getfield 40, 3) := by decide +kernel
theorem dX6_markAllBelow_40 : decode cX6_markAllBelow 40 = .ok (.iload_n 3, 1) := by decide +kernel
theorem dX6_markAllBelow_41 : decode cX6_markAllBelow 41 = .ok (.iaload, 1) := by decide +kernel
theorem dX6_markAllBelow_42 : decode cX6_markAllBelow 42 = .ok (.invokevirtual 93, 3) := by decide +kernel
theorem dX6_markAllBelow_45 : decode cX6_markAllBelow 45 = .ok (.aload_n 0, 1) := by decide +kernel
theorem dX6_markAllBelow_46 : decode cX6_markAllBelow 46 = .ok (.aload_n 2, 1) := by decide +kernel
theorem dX6_markAllBelow_47 : decode cX6_markAllBelow 47 = .ok (.aload_n 0, 1) := by decide +kernel
theorem dX6_markAllBelow_48 : decode cX6_markAllBelow 48 = .ok (.getfield 43, 3) := by decide +kernel
theorem dX6_markAllBelow_51 : decode cX6_markAllBelow 51 = .ok (.iload_n 3, 1) := by decide +kernel
theorem dX6_markAllBelow_52 : decode cX6_markAllBelow 52 = .ok (.iaload, 1) := by decide +kernel
theorem dX6_markAllBelow_53 : decode cX6_markAllBelow 53 = .ok (.invokevirtual 93, 3) := by decide +kernel
theorem dX6_markAllBelow_56 : decode cX6_markAllBelow 56 = .ok (.iinc 3 (-1), 3) := by decide +kernel
theorem dX6_markAllBelow_59 : decode cX6_markAllBelow 59 = .ok (.goto (-37), 3) := by decide +kernel
theorem dX6_markAllBelow_62 : decode cX6_markAllBelow 62 = .ok (.return_, 1) := by decide +kernel
theorem dX6_mark_0 : decode cX6_mark 0 = .ok (.aload_n 0, 1) := by decide +kernel
theorem dX6_mark_1 : decode cX6_mark 1 = .ok (.iload_n 2, 1) := by decide +kernel
theorem dX6_mark_2 : decode cX6_mark 2 = .ok (.invokevirtual 60, 3) := by decide +kernel
theorem dX6_mark_5 : decode cX6_mark 5 = .ok (.ifCond .eq 13, 3) := by decide +kernel
theorem dX6_mark_8 : decode cX6_mark 8 = .ok (.iload_n 2, 1) := by decide +kernel
theorem dX6_mark_9 : decode cX6_mark 9 = .ok (.aload_n 1, 1) := by decide +kernel
theorem dX6_mark_10 : decode cX6_mark 10 = .ok (.arraylength, 1) := by decide +kernel
theorem dX6_mark_11 : decode cX6_mark 11 = .ok (.if_icmp .ge 7, 3) := by decide +kernel
theorem dX6_mark_14 : decode cX6_mark 14 = .ok (.aload_n 1, 1) := by decide +kernel
theorem dX6_mark_15 : decode cX6_mark 15 = .ok (.iload_n 2, 1) := by decide +kernel
theorem dX6_mark_16 : decode cX6_mark 16 = .ok (.iconst 1, 1) := by decide +kernel
theorem dX6_mark_17 : decode cX6_mark 17 = .ok (.bastore, 1) := by decide +kernel
theorem dX6_mark_18 : decode cX6_mark 18 = .ok (.return_, 1) := by decide +kernel
theorem dX6_markedStep_0 : decode cX6_markedStep 0 = .ok (.iconst 0, 1) := by decide +kernel
theorem dX6_markedStep_1 : decode cX6_markedStep 1 = .ok (.istore_n 3, 1) := by decide +kernel
theorem dX6_markedStep_2 : decode cX6_markedStep 2 = .ok (.iconst 0, 1) := by decide +kernel
theorem dX6_markedStep_3 : decode cX6_markedStep 3 = .ok (.istore 4, 2) := by decide +kernel
theorem dX6_markedStep_5 : decode cX6_markedStep 5 = .ok (.iload 4, 2) := by decide +kernel
theorem dX6_markedStep_7 : decode cX6_markedStep 7 = .ok (.aload_n 0, 1) := by decide +kernel
theorem dX6_markedStep_8 : decode cX6_markedStep 8 = .ok (.getfield 9, 3) := by decide +kernel
theorem dX6_markedStep_11 : decode cX6_markedStep 11 = .ok (.if_icmp .ge 53, 3) := by decide +kernel
theorem dX6_markedStep_14 : decode cX6_markedStep 14 = .ok (.iload 4, 2) := by decide +kernel
theorem dX6_markedStep_16 : decode cX6_markedStep 16 = .ok (.sipush 3800, 3) := by decide +kernel
theorem dX6_markedStep_19 : decode cX6_markedStep 19 = .ok (.if_icmp .ge 45, 3) := by decide +kernel
theorem dX6_markedStep_22 : decode cX6_markedStep 22 = .ok (.aload_n 2, 1) := by decide +kernel
theorem dX6_markedStep_23 : decode cX6_markedStep 23 = .ok (.iload 4, 2) := by decide +kernel
theorem dX6_markedStep_25 : decode cX6_markedStep 25 = .ok (.invokestatic 103, 3) := by decide +kernel
theorem dX6_markedStep_28 : decode cX6_markedStep 28 = .ok (.ifCond .eq 30, 3) := by decide +kernel
theorem dX6_markedStep_31 : decode cX6_markedStep 31 = .ok (.aload_n 0, 1) := by decide +kernel
theorem dX6_markedStep_32 : decode cX6_markedStep 32 = .ok (.getfield 34, 3) := by decide +kernel
theorem dX6_markedStep_35 : decode cX6_markedStep 35 = .ok (.iload 4, 2) := by decide +kernel
theorem dX6_markedStep_37 : decode cX6_markedStep 37 = .ok (.iaload, 1) := by decide +kernel
theorem dX6_markedStep_38 : decode cX6_markedStep 38 = .ok (.iconst (-1), 1) := by decide +kernel
theorem dX6_markedStep_39 : decode cX6_markedStep 39 = .ok (.if_icmp .eq 19, 3) := by decide +kernel
theorem dX6_markedStep_42 : decode cX6_markedStep 42 = .ok (.iload_n 3, 1) := by decide +kernel
theorem dX6_markedStep_43 : decode cX6_markedStep 43 = .ok (.iload_n 1, 1) := by decide +kernel
theorem dX6_markedStep_44 : decode cX6_markedStep 44 = .ok (.if_icmp .ne 11, 3) := by decide +kernel
theorem dX6_markedStep_47 : decode cX6_markedStep 47 = .ok (.aload_n 0, 1) := by decide +kernel
theorem dX6_markedStep_48 : decode cX6_markedStep 48 = .ok (.getfield 34, 3) := by decide +kernel
theorem dX6_markedStep_51 : decode cX6_markedStep 51 = .ok (.iload 4, 2) := by decide +kernel
theorem dX6_markedStep_53 : decode cX6_markedStep 53 = .ok (.iaload, 1) := by decide +kernel
theorem dX6_markedStep_54 : decode cX6_markedStep 54 = .ok (.ireturn, 1) := by decide +kernel
theorem dX6_markedStep_55 : decode cX6_markedStep 55 = .ok (.iinc 3 1, 3) := by decide +kernel
theorem dX6_markedStep_58 : decode cX6_markedStep 58 = .ok (.iinc 4 1, 3) := by decide +kernel
theorem dX6_markedStep_61 : decode cX6_markedStep 61 = .ok (.goto (-56), 3) := by decide +kernel
theorem dX6_markedStep_64 : decode cX6_markedStep 64 = .ok (.iload_n 1, 1) := by decide +kernel
theorem dX6_markedStep_65 : decode cX6_markedStep 65 = .ok (.iconst (-1), 1) := by decide +kernel
theorem dX6_markedStep_66 : decode cX6_markedStep 66 = .ok (.if_icmp .ne 7, 3) := by decide +kernel
theorem dX6_markedStep_69 : decode cX6_markedStep 69 = .ok (.iload_n 3, 1) := by decide +kernel
theorem dX6_markedStep_70 : decode cX6_markedStep 70 = .ok (.goto 4, 3) := by decide +kernel
theorem dX6_markedStep_73 : decode cX6_markedStep 73 = .ok (.iconst (-1), 1) := by decide +kernel
theorem dX6_markedStep_74 : decode cX6_markedStep 74 = .ok (.ireturn, 1) := by decide +kernel
theorem dX6_markAllAbove_0 : decode cX6_markAllAbove 0 = .ok (.aload_n 2, 1) := by decide +kernel
theorem dX6_markAllAbove_1 : decode cX6_markAllAbove 1 = .ok (.iconst 0, 1) := by decide +kernel
theorem dX6_markAllAbove_2 : decode cX6_markAllAbove 2 = .ok (.invokestatic 90, 3) := by decide +kernel
theorem dX6_markAllAbove_5 : decode cX6_markAllAbove 5 = .ok (.iconst 0, 1) := by decide +kernel
theorem dX6_markAllAbove_6 : decode cX6_markAllAbove 6 = .ok (.istore_n 3, 1) := by decide +kernel
theorem dX6_markAllAbove_7 : decode cX6_markAllAbove 7 = .ok (.iload_n 3, 1) := by decide +kernel
theorem dX6_markAllAbove_8 : decode cX6_markAllAbove 8 = .ok (.aload_n 0, 1) := by decide +kernel
theorem dX6_markAllAbove_9 : decode cX6_markAllAbove 9 = .ok (.getfield 9, 3) := by decide +kernel
theorem dX6_markAllAbove_12 : decode cX6_markAllAbove 12 = .ok (.if_icmp .ge 58, 3) := by decide +kernel
theorem dX6_markAllAbove_15 : decode cX6_markAllAbove 15 = .ok (.iload_n 3, 1) := by decide +kernel
theorem dX6_markAllAbove_16 : decode cX6_markAllAbove 16 = .ok (.sipush 3800, 3) := by decide +kernel
theorem dX6_markAllAbove_19 : decode cX6_markAllAbove 19 = .ok (.if_icmp .ge 51, 3) := by decide +kernel
theorem dX6_markAllAbove_22 : decode cX6_markAllAbove 22 = .ok (.aload_n 0, 1) := by decide +kernel
theorem dX6_markAllAbove_23 : decode cX6_markAllAbove 23 = .ok (.getfield 37, 3) := by decide +kernel
theorem dX6_markAllAbove_26 : decode cX6_markAllAbove 26 = .ok (.iload_n 3, 1) := by decide +kernel
theorem dX6_markAllAbove_27 : decode cX6_markAllAbove 27 = .ok (.iaload, 1) := by decide +kernel
theorem dX6_markAllAbove_28 : decode cX6_markAllAbove 28 = .ok (.iload_n 1, 1) := by decide +kernel
theorem dX6_markAllAbove_29 : decode cX6_markAllAbove 29 = .ok (.if_icmp .eq 29, 3) := by decide +kernel
theorem dX6_markAllAbove_32 : decode cX6_markAllAbove 32 = .ok (.aload_n 2, 1) := by decide +kernel
theorem dX6_markAllAbove_33 : decode cX6_markAllAbove 33 = .ok (.aload_n 0, 1) := by decide +kernel
theorem dX6_markAllAbove_34 : decode cX6_markAllAbove 34 = .ok (.getfield 40, 3) := by decide +kernel
theorem dX6_markAllAbove_37 : decode cX6_markAllAbove 37 = .ok (.iload_n 3, 1) := by decide +kernel
theorem dX6_markAllAbove_38 : decode cX6_markAllAbove 38 = .ok (.iaload, 1) := by decide +kernel
theorem dX6_markAllAbove_39 : decode cX6_markAllAbove 39 = .ok (.invokestatic 103, 3) := by decide +kernel
theorem dX6_markAllAbove_42 : decode cX6_markAllAbove 42 = .ok (.ifCond .ne 16, 3) := by decide +kernel
theorem dX6_markAllAbove_45 : decode cX6_markAllAbove 45 = .ok (.aload_n 2, 1) := by decide +kernel
theorem dX6_markAllAbove_46 : decode cX6_markAllAbove 46 = .ok (.aload_n 0, 1) := by decide +kernel
theorem dX6_markAllAbove_47 : decode cX6_markAllAbove 47 = .ok (.getfield 43, 3) := by decide +kernel
theorem dX6_markAllAbove_50 : decode cX6_markAllAbove 50 = .ok (.iload_n 3, 1) := by decide +kernel
theorem dX6_markAllAbove_51 : decode cX6_markAllAbove 51 = .ok (.iaload, 1) := by decide +kernel
theorem dX6_markAllAbove_52 : decode cX6_markAllAbove 52 = .ok (.invokestatic 103, 3) := by decide +kernel
theorem dX6_markAllAbove_55 : decode cX6_markAllAbove 55 = .ok (.ifCond .eq 9, 3) := by decide +kernel
theorem dX6_markAllAbove_58 : decode cX6_markAllAbove 58 = .ok (.aload_n 0, 1) := by decide +kernel
theorem dX6_markAllAbove_59 : decode cX6_markAllAbove 59 = .ok (.aload_n 2, 1) := by decide +kernel
theorem dX6_markAllAbove_60 : decode cX6_markAllAbove 60 = .ok (.iload_n 3, 1) := by decide +kernel
theorem dX6_markAllAbove_61 : decode cX6_markAllAbove 61 = .ok (.invokevirtual 93, 3) := by decide +kernel
theorem dX6_markAllAbove_64 : decode cX6_markAllAbove 64 = .ok (.iinc 3 1, 3) := by decide +kernel
theorem dX6_markAllAbove_67 : decode cX6_markAllAbove 67 = .ok (.goto (-60), 3) := by decide +kernel
theorem dX6_markAllAbove_70 : decode cX6_markAllAbove 70 = .ok (.return_, 1) := by decide +kernel
theorem dX7_init_0 : decode cX7_init 0 = .ok (.aload_n 0, 1) := by decide +kernel
theorem dX7_init_1 : decode cX7_init 1 = .ok (.invokespecial 3, 3) := by decide +kernel
theorem dX7_init_4 : decode cX7_init 4 = .ok (.aload_n 0, 1) := by decide +kernel
theorem dX7_init_5 : decode cX7_init 5 = .ok (.new 9, 3) := by decide +kernel
theorem dX7_init_8 : decode cX7_init 8 = .ok (.dup, 1) := by decide +kernel
theorem dX7_init_9 : decode cX7_init 9 = .ok (.invokespecial 11, 3) := by decide +kernel
theorem dX7_init_12 : decode cX7_init 12 = .ok (.putfield 12, 3) := by decide +kernel
theorem dX7_init_15 : decode cX7_init 15 = .ok (.aload_n 0, 1) := by decide +kernel
theorem dX7_init_16 : decode cX7_init 16 = .ok (.iconst 0, 1) := by decide +kernel
theorem dX7_init_17 : decode cX7_init 17 = .ok (.putfield 18, 3) := by decide +kernel
theorem dX7_init_20 : decode cX7_init 20 = .ok (.aload_n 0, 1) := by decide +kernel
theorem dX7_init_21 : decode cX7_init 21 = .ok (.iconst 0, 1) := by decide +kernel
theorem dX7_init_22 : decode cX7_init 22 = .ok (.putfield 22, 3) := by decide +kernel
theorem dX7_init_25 : decode cX7_init 25 = .ok (.aload_n 0, 1) := by decide +kernel
theorem dX7_init_26 : decode cX7_init 26 = .ok (.iconst (-1), 1) := by decide +kernel
theorem dX7_init_27 : decode cX7_init 27 = .ok (.putfield 25, 3) := by decide +kernel
theorem dX7_init_30 : decode cX7_init 30 = .ok (.aload_n 0, 1) := by decide +kernel
theorem dX7_init_31 : decode cX7_init 31 = .ok (.iconst 0, 1) := by decide +kernel
theorem dX7_init_32 : decode cX7_init 32 = .ok (.putfield 28, 3) := by decide +kernel
theorem dX7_init_35 : decode cX7_init 35 = .ok (.aload_n 0, 1) := by decide +kernel
theorem dX7_init_36 : decode cX7_init 36 = .ok (.iconst 0, 1) := by decide +kernel
theorem dX7_init_37 : decode cX7_init 37 = .ok (.putfield 31, 3) := by decide +kernel
theorem dX7_init_40 : decode cX7_init 40 = .ok (.aload_n 0, 1) := by decide +kernel
theorem dX7_init_41 : decode cX7_init 41 = .ok (.iconst 0, 1) := by decide +kernel
theorem dX7_init_42 : decode cX7_init 42 = .ok (.putfield 34, 3) := by decide +kernel
theorem dX7_init_45 : decode cX7_init 45 = .ok (.aload_n 0, 1) := by decide +kernel
theorem dX7_init_46 : decode cX7_init 46 = .ok (.new 37, 3) := by decide +kernel
theorem dX7_init_49 : decode cX7_init 49 = .ok (.dup, 1) := by decide +kernel
theorem dX7_init_50 : decode cX7_init 50 = .ok (.invokespecial 39, 3) := by decide +kernel
theorem dX7_init_53 : decode cX7_init 53 = .ok (.putfield 40, 3) := by decide +kernel
theorem dX7_init_56 : decode cX7_init 56 = .ok (.aload_n 0, 1) := by decide +kernel
theorem dX7_init_57 : decode cX7_init 57 = .ok (.new 44, 3) := by decide +kernel
theorem dX7_init_60 : decode cX7_init 60 = .ok (.dup, 1) := by decide +kernel
theorem dX7_init_61 : decode cX7_init 61 = .ok (.invokespecial 46, 3) := by decide +kernel
theorem dX7_init_64 : decode cX7_init 64 = .ok (.putfield 47, 3) := by decide +kernel
theorem dX7_init_67 : decode cX7_init 67 = .ok (.aload_n 0, 1) := by decide +kernel
theorem dX7_init_68 : decode cX7_init 68 = .ok (.new 51, 3) := by decide +kernel
theorem dX7_init_71 : decode cX7_init 71 = .ok (.dup, 1) := by decide +kernel
theorem dX7_init_72 : decode cX7_init 72 = .ok (.invokespecial 53, 3) := by decide +kernel
theorem dX7_init_75 : decode cX7_init 75 = .ok (.putfield 54, 3) := by decide +kernel
theorem dX7_init_78 : decode cX7_init 78 = .ok (.aload_n 0, 1) := by decide +kernel
theorem dX7_init_79 : decode cX7_init 79 = .ok (.new 58, 3) := by decide +kernel
theorem dX7_init_82 : decode cX7_init 82 = .ok (.dup, 1) := by decide +kernel
theorem dX7_init_83 : decode cX7_init 83 = .ok (.invokespecial 60, 3) := by decide +kernel
theorem dX7_init_86 : decode cX7_init 86 = .ok (.putfield 61, 3) := by decide +kernel
theorem dX7_init_89 : decode cX7_init 89 = .ok (.aload_n 0, 1) := by decide +kernel
theorem dX7_init_90 : decode cX7_init 90 = .ok (.sipush 3001, 3) := by decide +kernel
theorem dX7_init_93 : decode cX7_init 93 = .ok (.newarray .int, 2) := by decide +kernel
theorem dX7_init_95 : decode cX7_init 95 = .ok (.putfield 65, 3) := by decide +kernel
theorem dX7_init_98 : decode cX7_init 98 = .ok (.aload_n 0, 1) := by decide +kernel
theorem dX7_init_99 : decode cX7_init 99 = .ok (.sipush 3001, 3) := by decide +kernel
theorem dX7_init_102 : decode cX7_init 102 = .ok (.newarray .int, 2) := by decide +kernel
theorem dX7_init_104 : decode cX7_init 104 = .ok (.putfield 69, 3) := by decide +kernel
theorem dX7_init_107 : decode cX7_init 107 = .ok (.aload_n 0, 1) := by decide +kernel
theorem dX7_init_108 : decode cX7_init 108 = .ok (.sipush 3001, 3) := by decide +kernel
theorem dX7_init_111 : decode cX7_init 111 = .ok (.newarray .int, 2) := by decide +kernel
theorem dX7_init_113 : decode cX7_init 113 = .ok (.putfield 72, 3) := by decide +kernel
theorem dX7_init_116 : decode cX7_init 116 = .ok (.aload_n 0, 1) := by decide +kernel
theorem dX7_init_117 : decode cX7_init 117 = .ok (.sipush 3001, 3) := by decide +kernel
theorem dX7_init_120 : decode cX7_init 120 = .ok (.newarray .int, 2) := by decide +kernel
theorem dX7_init_122 : decode cX7_init 122 = .ok (.putfield 75, 3) := by decide +kernel
theorem dX7_init_125 : decode cX7_init 125 = .ok (.return_, 1) := by decide +kernel
theorem dX7_init__0 : decode cX7_init_ 0 = .ok (.aload_n 0, 1) := by decide +kernel
theorem dX7_init__1 : decode cX7_init_ 1 = .ok (.invokespecial 3, 3) := by decide +kernel
theorem dX7_init__4 : decode cX7_init_ 4 = .ok (.aload_n 0, 1) := by decide +kernel
theorem dX7_init__5 : decode cX7_init_ 5 = .ok (.new 9, 3) := by decide +kernel
theorem dX7_init__8 : decode cX7_init_ 8 = .ok (.dup, 1) := by decide +kernel
theorem dX7_init__9 : decode cX7_init_ 9 = .ok (.invokespecial 11, 3) := by decide +kernel
theorem dX7_init__12 : decode cX7_init_ 12 = .ok (.putfield 12, 3) := by decide +kernel
theorem dX7_init__15 : decode cX7_init_ 15 = .ok (.aload_n 0, 1) := by decide +kernel
theorem dX7_init__16 : decode cX7_init_ 16 = .ok (.iconst 0, 1) := by decide +kernel
theorem dX7_init__17 : decode cX7_init_ 17 = .ok (.putfield 18, 3) := by decide +kernel
theorem dX7_init__20 : decode cX7_init_ 20 = .ok (.aload_n 0, 1) := by decide +kernel
theorem dX7_init__21 : decode cX7_init_ 21 = .ok (.iconst 0, 1) := by decide +kernel
theorem dX7_init__22 : decode cX7_init_ 22 = .ok (.putfield 22, 3) := by decide +kernel
theorem dX7_init__25 : decode cX7_init_ 25 = .ok (.aload_n 0, 1) := by decide +kernel
theorem dX7_init__26 : decode cX7_init_ 26 = .ok (.iconst (-1), 1) := by decide +kernel
theorem dX7_init__27 : decode cX7_init_ 27 = .ok (.putfield 25, 3) := by decide +kernel
theorem dX7_init__30 : decode cX7_init_ 30 = .ok (.aload_n 0, 1) := by decide +kernel
theorem dX7_init__31 : decode cX7_init_ 31 = .ok (.iconst 0, 1) := by decide +kernel
theorem dX7_init__32 : decode cX7_init_ 32 = .ok (.putfield 28, 3) := by decide +kernel
theorem dX7_init__35 : decode cX7_init_ 35 = .ok (.aload_n 0, 1) := by decide +kernel
theorem dX7_init__36 : decode cX7_init_ 36 = .ok (.iconst 0, 1) := by decide +kernel
theorem dX7_init__37 : decode cX7_init_ 37 = .ok (.putfield 31, 3) := by decide +kernel
theorem dX7_init__40 : decode cX7_init_ 40 = .ok (.aload_n 0, 1) := by decide +kernel
theorem dX7_init__41 : decode cX7_init_ 41 = .ok (.iconst 0, 1) := by decide +kernel
theorem dX7_init__42 : decode cX7_init_ 42 = .ok (.putfield 34, 3) := by decide +kernel
theorem dX7_init__45 : decode cX7_init_ 45 = .ok (.aload_n 0, 1) := by decide +kernel
theorem dX7_init__46 : decode cX7_init_ 46 = .ok (.getfield 12, 3) := by decide +kernel
theorem dX7_init__49 : decode cX7_init_ 49 = .ok (.aload_n 1, 1) := by decide +kernel
theorem dX7_init__50 : decode cX7_init_ 50 = .ok (.getfield 12, 3) := by decide +kernel
theorem dX7_init__53 : decode cX7_init_ 53 = .ok (.invokevirtual 78, 3) := by decide +kernel
theorem dX7_init__56 : decode cX7_init_ 56 = .ok (.aload_n 0, 1) := by decide +kernel
theorem dX7_init__57 : decode cX7_init_ 57 = .ok (.new 37, 3) := by decide +kernel
theorem dX7_init__60 : decode cX7_init_ 60 = .ok (.dup, 1) := by decide +kernel
theorem dX7_init__61 : decode cX7_init_ 61 = .ok (.aload_n 1, 1) := by decide +kernel
theorem dX7_init__62 : decode cX7_init_ 62 = .ok (.getfield 40, 3) := by decide +kernel
theorem dX7_init__65 : decode cX7_init_ 65 = .ok (.invokespecial 82, 3) := by decide +kernel
theorem dX7_init__68 : decode cX7_init_ 68 = .ok (.putfield 40, 3) := by decide +kernel
theorem dX7_init__71 : decode cX7_init_ 71 = .ok (.aload_n 0, 1) := by decide +kernel
theorem dX7_init__72 : decode cX7_init_ 72 = .ok (.new 44, 3) := by decide +kernel
theorem dX7_init__75 : decode cX7_init_ 75 = .ok (.dup, 1) := by decide +kernel
theorem dX7_init__76 : decode cX7_init_ 76 = .ok (.aload_n 1, 1) := by decide +kernel
theorem dX7_init__77 : decode cX7_init_ 77 = .ok (.getfield 47, 3) := by decide +kernel
theorem dX7_init__80 : decode cX7_init_ 80 = .ok (.invokespecial 85, 3) := by decide +kernel
theorem dX7_init__83 : decode cX7_init_ 83 = .ok (.putfield 47, 3) := by decide +kernel
theorem dX7_init__86 : decode cX7_init_ 86 = .ok (.aload_n 0, 1) := by decide +kernel
theorem dX7_init__87 : decode cX7_init_ 87 = .ok (.new 51, 3) := by decide +kernel
theorem dX7_init__90 : decode cX7_init_ 90 = .ok (.dup, 1) := by decide +kernel
theorem dX7_init__91 : decode cX7_init_ 91 = .ok (.aload_n 1, 1) := by decide +kernel
theorem dX7_init__92 : decode cX7_init_ 92 = .ok (.getfield 54, 3) := by decide +kernel
theorem dX7_init__95 : decode cX7_init_ 95 = .ok (.invokespecial 88, 3) := by decide +kernel
theorem dX7_init__98 : decode cX7_init_ 98 = .ok (.putfield 54, 3) := by decide +kernel
theorem dX7_init__101 : decode cX7_init_ 101 = .ok (.aload_n 0, 1) := by decide +kernel
theorem dX7_init__102 : decode cX7_init_ 102 = .ok (.new 58, 3) := by decide +kernel
theorem dX7_init__105 : decode cX7_init_ 105 = .ok (.dup, 1) := by decide +kernel
theorem dX7_init__106 : decode cX7_init_ 106 = .ok (.aload_n 1, 1) := by decide +kernel
theorem dX7_init__107 : decode cX7_init_ 107 = .ok (.getfield 61, 3) := by decide +kernel
theorem dX7_init__110 : decode cX7_init_ 110 = .ok (.invokespecial 91, 3) := by decide +kernel
theorem dX7_init__113 : decode cX7_init_ 113 = .ok (.putfield 61, 3) := by decide +kernel
theorem dX7_init__116 : decode cX7_init_ 116 = .ok (.aload_n 0, 1) := by decide +kernel
theorem dX7_init__117 : decode cX7_init_ 117 = .ok (.aload_n 1, 1) := by decide +kernel
theorem dX7_init__118 : decode cX7_init_ 118 = .ok (.getfield 65, 3) := by decide +kernel
theorem dX7_init__121 : decode cX7_init_ 121 = .ok (.invokevirtual 94, 3) := by decide +kernel
theorem dX7_init__124 : decode cX7_init_ 124 = .ok (.checkcast 95, 3) := by decide +kernel
theorem dX7_init__127 : decode cX7_init_ 127 = .ok (.putfield 65, 3) := by decide +kernel
theorem dX7_init__130 : decode cX7_init_ 130 = .ok (.aload_n 0, 1) := by decide +kernel
theorem dX7_init__131 : decode cX7_init_ 131 = .ok (.aload_n 1, 1) := by decide +kernel
theorem dX7_init__132 : decode cX7_init_ 132 = .ok (.getfield 69, 3) := by decide +kernel
theorem dX7_init__135 : decode cX7_init_ 135 = .ok (.invokevirtual 94, 3) := by decide +kernel
theorem dX7_init__138 : decode cX7_init_ 138 = .ok (.checkcast 95, 3) := by decide +kernel
theorem dX7_init__141 : decode cX7_init_ 141 = .ok (.putfield 69, 3) := by decide +kernel
theorem dX7_init__144 : decode cX7_init_ 144 = .ok (.aload_n 0, 1) := by decide +kernel
theorem dX7_init__145 : decode cX7_init_ 145 = .ok (.aload_n 1, 1) := by decide +kernel
theorem dX7_init__146 : decode cX7_init_ 146 = .ok (.getfield 72, 3) := by decide +kernel
theorem dX7_init__149 : decode cX7_init_ 149 = .ok (.invokevirtual 94, 3) := by decide +kernel
theorem dX7_init__152 : decode cX7_init_ 152 = .ok (.checkcast 95, 3) := by decide +kernel
theorem dX7_init__155 : decode cX7_init_ 155 = .ok (.putfield 72, 3) := by decide +kernel
theorem dX7_init__158 : decode cX7_init_ 158 = .ok (.aload_n 0, 1) := by decide +kernel
theorem dX7_init__159 : decode cX7_init_ 159 = .ok (.aload_n 1, 1) := by decide +kernel
theorem dX7_init__160 : decode cX7_init_ 160 = .ok (.getfield 75, 3) := by decide +kernel
theorem dX7_init__163 : decode cX7_init_ 163 = .ok (.invokevirtual 94, 3) := by decide +kernel
theorem dX7_init__166 : decode cX7_init_ 166 = .ok (.checkcast 95, 3) := by decide +kernel
theorem dX7_init__169 : decode cX7_init_ 169 = .ok (.putfield 75, 3) := by decide +kernel
theorem dX7_init__172 : decode cX7_init_ 172 = .ok (.aload_n 0, 1) := by decide +kernel
theorem dX7_init__173 : decode cX7_init_ 173 = .ok (.aload_n 1, 1) := by decide +kernel
theorem dX7_init__174 : decode cX7_init_ 174 = .ok (.getfield 18, 3) := by decide +kernel
theorem dX7_init__177 : decode cX7_init_ 177 = .ok (.putfield 18, 3) := by decide +kernel
theorem dX7_init__180 : decode cX7_init_ 180 = .ok (.aload_n 0, 1) := by decide +kernel
theorem dX7_init__181 : decode cX7_init_ 181 = .ok (.aload_n 1, 1) := by decide +kernel
theorem dX7_init__182 : decode cX7_init_ 182 = .ok (.getfield 22, 3) := by decide +kernel
theorem dX7_init__185 : decode cX7_init_ 185 = .ok (.putfield 22, 3) := by decide +kernel
theorem dX7_init__188 : decode cX7_init_ 188 = .ok (.aload_n 0, 1) := by decide +kernel
theorem dX7_init__189 : decode cX7_init_ 189 = .ok (.aload_n 1, 1) := by decide +kernel
theorem dX7_init__190 : decode cX7_init_ 190 = .ok (.getfield 28, 3) := by decide +kernel
theorem dX7_init__193 : decode cX7_init_ 193 = .ok (.putfield 28, 3) := by decide +kernel
theorem dX7_init__196 : decode cX7_init_ 196 = .ok (.aload_n 0, 1) := by decide +kernel
theorem dX7_init__197 : decode cX7_init_ 197 = .ok (.aload_n 1, 1) := by decide +kernel
theorem dX7_init__198 : decode cX7_init_ 198 = .ok (.getfield 31, 3) := by decide +kernel
theorem dX7_init__201 : decode cX7_init_ 201 = .ok (.putfield 31, 3) := by decide +kernel
theorem dX7_init__204 : decode cX7_init_ 204 = .ok (.aload_n 0, 1) := by decide +kernel
theorem dX7_init__205 : decode cX7_init_ 205 = .ok (.iload_n 2, 1) := by decide +kernel
theorem dX7_init__206 : decode cX7_init_ 206 = .ok (.putfield 34, 3) := by decide +kernel
theorem dX7_init__209 : decode cX7_init_ 209 = .ok (.return_, 1) := by decide +kernel
theorem dX7_start_0 : decode cX7_start 0 = .ok (.aload_n 0, 1) := by decide +kernel
theorem dX7_start_1 : decode cX7_start 1 = .ok (.getfield 12, 3) := by decide +kernel
theorem dX7_start_4 : decode cX7_start 4 = .ok (.aload_n 1, 1) := by decide +kernel
theorem dX7_start_5 : decode cX7_start 5 = .ok (.invokevirtual 78, 3) := by decide +kernel
theorem dX7_start_8 : decode cX7_start 8 = .ok (.aload_n 0, 1) := by decide +kernel
theorem dX7_start_9 : decode cX7_start 9 = .ok (.getfield 40, 3) := by decide +kernel
theorem dX7_start_12 : decode cX7_start 12 = .ok (.iconst 0, 1) := by decide +kernel
theorem dX7_start_13 : decode cX7_start 13 = .ok (.putfield 99, 3) := by decide +kernel
theorem dX7_start_16 : decode cX7_start 16 = .ok (.aload_n 0, 1) := by decide +kernel
theorem dX7_start_17 : decode cX7_start 17 = .ok (.getfield 47, 3) := by decide +kernel
theorem dX7_start_20 : decode cX7_start 20 = .ok (.invokevirtual 102, 3) := by decide +kernel
theorem dX7_start_23 : decode cX7_start 23 = .ok (.aload_n 0, 1) := by decide +kernel
theorem dX7_start_24 : decode cX7_start 24 = .ok (.getfield 54, 3) := by decide +kernel
theorem dX7_start_27 : decode cX7_start 27 = .ok (.iconst 0, 1) := by decide +kernel
theorem dX7_start_28 : decode cX7_start 28 = .ok (.putfield 105, 3) := by decide +kernel
theorem dX7_start_31 : decode cX7_start 31 = .ok (.aload_n 0, 1) := by decide +kernel
theorem dX7_start_32 : decode cX7_start 32 = .ok (.getfield 61, 3) := by decide +kernel
theorem dX7_start_35 : decode cX7_start 35 = .ok (.iload_n 2, 1) := by decide +kernel
theorem dX7_start_36 : decode cX7_start 36 = .ok (.iload_n 3, 1) := by decide +kernel
theorem dX7_start_37 : decode cX7_start 37 = .ok (.invokevirtual 106, 3) := by decide +kernel
theorem dX7_start_40 : decode cX7_start 40 = .ok (.aload_n 0, 1) := by decide +kernel
theorem dX7_start_41 : decode cX7_start 41 = .ok (.getfield 65, 3) := by decide +kernel
theorem dX7_start_44 : decode cX7_start 44 = .ok (.iconst 0, 1) := by decide +kernel
theorem dX7_start_45 : decode cX7_start 45 = .ok (.iconst 0, 1) := by decide +kernel
theorem dX7_start_46 : decode cX7_start 46 = .ok (.iastore, 1) := by decide +kernel
theorem dX7_start_47 : decode cX7_start 47 = .ok (.aload_n 0, 1) := by decide +kernel
theorem dX7_start_48 : decode cX7_start 48 = .ok (.getfield 69, 3) := by decide +kernel
theorem dX7_start_51 : decode cX7_start 51 = .ok (.iconst 0, 1) := by decide +kernel
theorem dX7_start_52 : decode cX7_start 52 = .ok (.iconst 0, 1) := by decide +kernel
theorem dX7_start_53 : decode cX7_start 53 = .ok (.iastore, 1) := by decide +kernel
theorem dX7_start_54 : decode cX7_start 54 = .ok (.aload_n 0, 1) := by decide +kernel
theorem dX7_start_55 : decode cX7_start 55 = .ok (.getfield 72, 3) := by decide +kernel
theorem dX7_start_58 : decode cX7_start 58 = .ok (.iconst 0, 1) := by decide +kernel
theorem dX7_start_59 : decode cX7_start 59 = .ok (.iconst 0, 1) := by decide +kernel
theorem dX7_start_60 : decode cX7_start 60 = .ok (.iastore, 1) := by decide +kernel
theorem dX7_start_61 : decode cX7_start 61 = .ok (.aload_n 0, 1) := by decide +kernel
theorem dX7_start_62 : decode cX7_start 62 = .ok (.getfield 75, 3) := by decide +kernel
theorem dX7_start_65 : decode cX7_start 65 = .ok (.iconst 0, 1) := by decide +kernel
theorem dX7_start_66 : decode cX7_start 66 = .ok (.iconst (-1), 1) := by decide +kernel
theorem dX7_start_67 : decode cX7_start 67 = .ok (.iastore, 1) := by decide +kernel
theorem dX7_start_68 : decode cX7_start 68 = .ok (.aload_n 0, 1) := by decide +kernel
theorem dX7_start_69 : decode cX7_start 69 = .ok (.iconst 0, 1) := by decide +kernel
theorem dX7_start_70 : decode cX7_start 70 = .ok (.putfield 18, 3) := by decide +kernel
theorem dX7_start_73 : decode cX7_start 73 = .ok (.aload_n 0, 1) := by decide +kernel
theorem dX7_start_74 : decode cX7_start 74 = .ok (.iconst 0, 1) := by decide +kernel
theorem dX7_start_75 : decode cX7_start 75 = .ok (.putfield 22, 3) := by decide +kernel
theorem dX7_start_78 : decode cX7_start 78 = .ok (.aload_n 0, 1) := by decide +kernel
theorem dX7_start_79 : decode cX7_start 79 = .ok (.iconst (-1), 1) := by decide +kernel
theorem dX7_start_80 : decode cX7_start 80 = .ok (.putfield 25, 3) := by decide +kernel
theorem dX7_start_83 : decode cX7_start 83 = .ok (.aload_n 0, 1) := by decide +kernel
theorem dX7_start_84 : decode cX7_start 84 = .ok (.iconst 0, 1) := by decide +kernel
theorem dX7_start_85 : decode cX7_start 85 = .ok (.putfield 28, 3) := by decide +kernel
theorem dX7_start_88 : decode cX7_start 88 = .ok (.aload_n 0, 1) := by decide +kernel
theorem dX7_start_89 : decode cX7_start 89 = .ok (.iconst 0, 1) := by decide +kernel
theorem dX7_start_90 : decode cX7_start 90 = .ok (.putfield 31, 3) := by decide +kernel
theorem dX7_start_93 : decode cX7_start 93 = .ok (.return_, 1) := by decide +kernel
theorem dX7_hasTime_0 : decode cX7_hasTime 0 = .ok (.iload_n 1, 1) := by decide +kernel
theorem dX7_hasTime_1 : decode cX7_hasTime 1 = .ok (.ifCond .lt 22, 3) := by decide +kernel
theorem dX7_hasTime_4 : decode cX7_hasTime 4 = .ok (.iload_n 1, 1) := by decide +kernel
theorem dX7_hasTime_5 : decode cX7_hasTime 5 = .ok (.aload_n 0, 1) := by decide +kernel
theorem dX7_hasTime_6 : decode cX7_hasTime 6 = .ok (.getfield 18, 3) := by decide +kernel
theorem dX7_hasTime_9 : decode cX7_hasTime 9 = .ok (.if_icmp .gt 14, 3) := by decide +kernel
theorem dX7_hasTime_12 : decode cX7_hasTime 12 = .ok (.iload_n 1, 1) := by decide +kernel
theorem dX7_hasTime_13 : decode cX7_hasTime 13 = .ok (.sipush 3000, 3) := by decide +kernel
theorem dX7_hasTime_16 : decode cX7_hasTime 16 = .ok (.if_icmp .gt 7, 3) := by decide +kernel
theorem dX7_hasTime_19 : decode cX7_hasTime 19 = .ok (.iconst 1, 1) := by decide +kernel
theorem dX7_hasTime_20 : decode cX7_hasTime 20 = .ok (.goto 4, 3) := by decide +kernel
theorem dX7_hasTime_23 : decode cX7_hasTime 23 = .ok (.iconst 0, 1) := by decide +kernel
theorem dX7_hasTime_24 : decode cX7_hasTime 24 = .ok (.ireturn, 1) := by decide +kernel
theorem dX7_counterAt_0 : decode cX7_counterAt 0 = .ok (.aload_n 0, 1) := by decide +kernel
theorem dX7_counterAt_1 : decode cX7_counterAt 1 = .ok (.iload_n 1, 1) := by decide +kernel
theorem dX7_counterAt_2 : decode cX7_counterAt 2 = .ok (.invokevirtual 110, 3) := by decide +kernel
theorem dX7_counterAt_5 : decode cX7_counterAt 5 = .ok (.ifCond .eq 12, 3) := by decide +kernel
theorem dX7_counterAt_8 : decode cX7_counterAt 8 = .ok (.aload_n 0, 1) := by decide +kernel
theorem dX7_counterAt_9 : decode cX7_counterAt 9 = .ok (.getfield 65, 3) := by decide +kernel
theorem dX7_counterAt_12 : decode cX7_counterAt 12 = .ok (.iload_n 1, 1) := by decide +kernel
theorem dX7_counterAt_13 : decode cX7_counterAt 13 = .ok (.iaload, 1) := by decide +kernel
theorem dX7_counterAt_14 : decode cX7_counterAt 14 = .ok (.goto 4, 3) := by decide +kernel
theorem dX7_counterAt_17 : decode cX7_counterAt 17 = .ok (.iconst 0, 1) := by decide +kernel
theorem dX7_counterAt_18 : decode cX7_counterAt 18 = .ok (.ireturn, 1) := by decide +kernel
theorem dX7_outsAt_0 : decode cX7_outsAt 0 = .ok (.aload_n 0, 1) := by decide +kernel
theorem dX7_outsAt_1 : decode cX7_outsAt 1 = .ok (.iload_n 1, 1) := by decide +kernel
theorem dX7_outsAt_2 : decode cX7_outsAt 2 = .ok (.invokevirtual 110, 3) := by decide +kernel
theorem dX7_outsAt_5 : decode cX7_outsAt 5 = .ok (.ifCond .eq 12, 3) := by decide +kernel
theorem dX7_outsAt_8 : decode cX7_outsAt 8 = .ok (.aload_n 0, 1) := by decide +kernel
theorem dX7_outsAt_9 : decode cX7_outsAt 9 = .ok (.getfield 69, 3) := by decide +kernel
theorem dX7_outsAt_12 : decode cX7_outsAt 12 = .ok (.iload_n 1, 1) := by decide +kernel
theorem dX7_outsAt_13 : decode cX7_outsAt 13 = .ok (.iaload, 1) := by decide +kernel
theorem dX7_outsAt_14 : decode cX7_outsAt 14 = .ok (.goto 4, 3) := by decide +kernel
theorem dX7_outsAt_17 : decode cX7_outsAt 17 = .ok (.iconst 0, 1) := by decide +kernel
theorem dX7_outsAt_18 : decode cX7_outsAt 18 = .ok (.ireturn, 1) := by decide +kernel
theorem dX7_checkAt_0 : decode cX7_checkAt 0 = .ok (.aload_n 0, 1) := by decide +kernel
theorem dX7_checkAt_1 : decode cX7_checkAt 1 = .ok (.iload_n 1, 1) := by decide +kernel
theorem dX7_checkAt_2 : decode cX7_checkAt 2 = .ok (.invokevirtual 110, 3) := by decide +kernel
theorem dX7_checkAt_5 : decode cX7_checkAt 5 = .ok (.ifCond .eq 12, 3) := by decide +kernel
theorem dX7_checkAt_8 : decode cX7_checkAt 8 = .ok (.aload_n 0, 1) := by decide +kernel
theorem dX7_checkAt_9 : decode cX7_checkAt 9 = .ok (.getfield 72, 3) := by decide +kernel
theorem dX7_checkAt_12 : decode cX7_checkAt 12 = .ok (.iload_n 1, 1) := by decide +kernel
theorem dX7_checkAt_13 : decode cX7_checkAt 13 = .ok (.iaload, 1) := by decide +kernel
theorem dX7_checkAt_14 : decode cX7_checkAt 14 = .ok (.goto 4, 3) := by decide +kernel
theorem dX7_checkAt_17 : decode cX7_checkAt 17 = .ok (.iconst 0, 1) := by decide +kernel
theorem dX7_checkAt_18 : decode cX7_checkAt 18 = .ok (.ireturn, 1) := by decide +kernel
theorem dX7_topAt_0 : decode cX7_topAt 0 = .ok (.aload_n 0, 1) := by decide +kernel
theorem dX7_topAt_1 : decode cX7_topAt 1 = .ok (.iload_n 1, 1) := by decide +kernel
theorem dX7_topAt_2 : decode cX7_topAt 2 = .ok (.invokevirtual 110, 3) := by decide +kernel
theorem dX7_topAt_5 : decode cX7_topAt 5 = .ok (.ifCond .eq 12, 3) := by decide +kernel
theorem dX7_topAt_8 : decode cX7_topAt 8 = .ok (.aload_n 0, 1) := by decide +kernel
theorem dX7_topAt_9 : decode cX7_topAt 9 = .ok (.getfield 75, 3) := by decide +kernel
theorem dX7_topAt_12 : decode cX7_topAt 12 = .ok (.iload_n 1, 1) := by decide +kernel
theorem dX7_topAt_13 : decode cX7_topAt 13 = .ok (.iaload, 1) := by decide +kernel
theorem dX7_topAt_14 : decode cX7_topAt 14 = .ok (.goto 4, 3) := by decide +kernel
theorem dX7_topAt_17 : decode cX7_topAt 17 = .ok (.iconst (-1), 1) := by decide +kernel
theorem dX7_topAt_18 : decode cX7_topAt 18 = .ok (.ireturn, 1) := by decide +kernel
theorem dX7_stackSizeAt_0 : decode cX7_stackSizeAt 0 = .ok (.iconst 0, 1) := by decide +kernel
theorem dX7_stackSizeAt_1 : decode cX7_stackSizeAt 1 = .ok (.istore_n 2, 1) := by decide +kernel
theorem dX7_stackSizeAt_2 : decode cX7_stackSizeAt 2 = .ok (.aload_n 0, 1) := by decide +kernel
theorem dX7_stackSizeAt_3 : decode cX7_stackSizeAt 3 = .ok (.iload_n 1, 1) := by decide +kernel
theorem dX7_stackSizeAt_4 : decode cX7_stackSizeAt 4 = .ok (.invokevirtual 114, 3) := by decide +kernel
theorem dX7_stackSizeAt_7 : decode cX7_stackSizeAt 7 = .ok (.istore_n 3, 1) := by decide +kernel
theorem dX7_stackSizeAt_8 : decode cX7_stackSizeAt 8 = .ok (.iload_n 3, 1) := by decide +kernel
theorem dX7_stackSizeAt_9 : decode cX7_stackSizeAt 9 = .ok (.iconst (-1), 1) := by decide +kernel
theorem dX7_stackSizeAt_10 : decode cX7_stackSizeAt 10 = .ok (.if_icmp .eq 21, 3) := by decide +kernel
theorem dX7_stackSizeAt_13 : decode cX7_stackSizeAt 13 = .ok (.iload_n 2, 1) := by decide +kernel
theorem dX7_stackSizeAt_14 : decode cX7_stackSizeAt 14 = .ok (.bipush 8, 2) := by decide +kernel
theorem dX7_stackSizeAt_16 : decode cX7_stackSizeAt 16 = .ok (.if_icmp .ge 15, 3) := by decide +kernel
theorem dX7_stackSizeAt_19 : decode cX7_stackSizeAt 19 = .ok (.iinc 2 1, 3) := by decide +kernel
theorem dX7_stackSizeAt_22 : decode cX7_stackSizeAt 22 = .ok (.aload_n 0, 1) := by decide +kernel
theorem dX7_stackSizeAt_23 : decode cX7_stackSizeAt 23 = .ok (.iload_n 3, 1) := by decide +kernel
theorem dX7_stackSizeAt_24 : decode cX7_stackSizeAt 24 = .ok (.invokevirtual 114, 3) := by decide +kernel
theorem dX7_stackSizeAt_27 : decode cX7_stackSizeAt 27 = .ok (.istore_n 3, 1) := by decide +kernel
theorem dX7_stackSizeAt_28 : decode cX7_stackSizeAt 28 = .ok (.goto (-20), 3) := by decide +kernel
theorem dX7_stackSizeAt_31 : decode cX7_stackSizeAt 31 = .ok (.iload_n 2, 1) := by decide +kernel
theorem dX7_stackSizeAt_32 : decode cX7_stackSizeAt 32 = .ok (.ireturn, 1) := by decide +kernel
theorem dX7_stackedAt_0 : decode cX7_stackedAt 0 = .ok (.aload_n 0, 1) := by decide +kernel
theorem dX7_stackedAt_1 : decode cX7_stackedAt 1 = .ok (.iload_n 1, 1) := by decide +kernel
theorem dX7_stackedAt_2 : decode cX7_stackedAt 2 = .ok (.invokevirtual 118, 3) := by decide +kernel
theorem dX7_stackedAt_5 : decode cX7_stackedAt 5 = .ok (.istore_n 3, 1) := by decide +kernel
theorem dX7_stackedAt_6 : decode cX7_stackedAt 6 = .ok (.iload_n 2, 1) := by decide +kernel
theorem dX7_stackedAt_7 : decode cX7_stackedAt 7 = .ok (.ifCond .lt 8, 3) := by decide +kernel
theorem dX7_stackedAt_10 : decode cX7_stackedAt 10 = .ok (.iload_n 2, 1) := by decide +kernel
theorem dX7_stackedAt_11 : decode cX7_stackedAt 11 = .ok (.iload_n 3, 1) := by decide +kernel
theorem dX7_stackedAt_12 : decode cX7_stackedAt 12 = .ok (.if_icmp .lt 6, 3) := by decide +kernel
theorem dX7_stackedAt_15 : decode cX7_stackedAt 15 = .ok (.ldc 121, 2) := by decide +kernel
theorem dX7_stackedAt_17 : decode cX7_stackedAt 17 = .ok (.ireturn, 1) := by decide +kernel
theorem dX7_stackedAt_18 : decode cX7_stackedAt 18 = .ok (.aload_n 0, 1) := by decide +kernel
theorem dX7_stackedAt_19 : decode cX7_stackedAt 19 = .ok (.iload_n 1, 1) := by decide +kernel
theorem dX7_stackedAt_20 : decode cX7_stackedAt 20 = .ok (.invokevirtual 114, 3) := by decide +kernel
theorem dX7_stackedAt_23 : decode cX7_stackedAt 23 = .ok (.istore 4, 2) := by decide +kernel
theorem dX7_stackedAt_25 : decode cX7_stackedAt 25 = .ok (.iload_n 3, 1) := by decide +kernel
theorem dX7_stackedAt_26 : decode cX7_stackedAt 26 = .ok (.iconst 1, 1) := by decide +kernel
theorem dX7_stackedAt_27 : decode cX7_stackedAt 27 = .ok (.isub, 1) := by decide +kernel
theorem dX7_stackedAt_28 : decode cX7_stackedAt 28 = .ok (.istore 5, 2) := by decide +kernel
theorem dX7_stackedAt_30 : decode cX7_stackedAt 30 = .ok (.iload 5, 2) := by decide +kernel
theorem dX7_stackedAt_32 : decode cX7_stackedAt 32 = .ok (.iload_n 2, 1) := by decide +kernel
theorem dX7_stackedAt_33 : decode cX7_stackedAt 33 = .ok (.if_icmp .le 17, 3) := by decide +kernel
theorem dX7_stackedAt_36 : decode cX7_stackedAt 36 = .ok (.aload_n 0, 1) := by decide +kernel
theorem dX7_stackedAt_37 : decode cX7_stackedAt 37 = .ok (.iload 4, 2) := by decide +kernel
theorem dX7_stackedAt_39 : decode cX7_stackedAt 39 = .ok (.invokevirtual 114, 3) := by decide +kernel
theorem dX7_stackedAt_42 : decode cX7_stackedAt 42 = .ok (.istore 4, 2) := by decide +kernel
theorem dX7_stackedAt_44 : decode cX7_stackedAt 44 = .ok (.iinc 5 (-1), 3) := by decide +kernel
theorem dX7_stackedAt_47 : decode cX7_stackedAt 47 = .ok (.goto (-17), 3) := by decide +kernel
theorem dX7_stackedAt_50 : decode cX7_stackedAt 50 = .ok (.aload_n 0, 1) := by decide +kernel
theorem dX7_stackedAt_51 : decode cX7_stackedAt 51 = .ok (.iload 4, 2) := by decide +kernel
theorem dX7_stackedAt_53 : decode cX7_stackedAt 53 = .ok (.invokevirtual 122, 3) := by decide +kernel
theorem dX7_stackedAt_56 : decode cX7_stackedAt 56 = .ok (.iconst 1, 1) := by decide +kernel
theorem dX7_stackedAt_57 : decode cX7_stackedAt 57 = .ok (.iadd, 1) := by decide +kernel
theorem dX7_stackedAt_58 : decode cX7_stackedAt 58 = .ok (.ireturn, 1) := by decide +kernel
theorem dX7_hasStackLike_0 : decode cX7_hasStackLike 0 = .ok (.aload_n 0, 1) := by decide +kernel
theorem dX7_hasStackLike_1 : decode cX7_hasStackLike 1 = .ok (.iload_n 1, 1) := by decide +kernel
theorem dX7_hasStackLike_2 : decode cX7_hasStackLike 2 = .ok (.invokevirtual 118, 3) := by decide +kernel
theorem dX7_hasStackLike_5 : decode cX7_hasStackLike 5 = .ok (.istore_n 3, 1) := by decide +kernel
theorem dX7_hasStackLike_6 : decode cX7_hasStackLike 6 = .ok (.aload_n 2, 1) := by decide +kernel
theorem dX7_hasStackLike_7 : decode cX7_hasStackLike 7 = .ok (.iload_n 1, 1) := by decide +kernel
theorem dX7_hasStackLike_8 : decode cX7_hasStackLike 8 = .ok (.invokevirtual 118, 3) := by decide +kernel
theorem dX7_hasStackLike_11 : decode cX7_hasStackLike 11 = .ok (.iload_n 3, 1) := by decide +kernel
theorem dX7_hasStackLike_12 : decode cX7_hasStackLike 12 = .ok (.if_icmp .eq 5, 3) := by decide +kernel
theorem dX7_hasStackLike_15 : decode cX7_hasStackLike 15 = .ok (.iconst 0, 1) := by decide +kernel
theorem dX7_hasStackLike_16 : decode cX7_hasStackLike 16 = .ok (.ireturn, 1) := by decide +kernel
theorem dX7_hasStackLike_17 : decode cX7_hasStackLike 17 = .ok (.iconst 0, 1) := by decide +kernel
theorem dX7_hasStackLike_18 : decode cX7_hasStackLike 18 = .ok (.istore 4, 2) := by decide +kernel
theorem dX7_hasStackLike_20 : decode cX7_hasStackLike 20 = .ok (.iload 4, 2) := by decide +kernel
theorem dX7_hasStackLike_22 : decode cX7_hasStackLike 22 = .ok (.iload_n 3, 1) := by decide +kernel
theorem dX7_hasStackLike_23 : decode cX7_hasStackLike 23 = .ok (.if_icmp .ge 28, 3) := by decide +kernel
theorem dX7_hasStackLike_26 : decode cX7_hasStackLike 26 = .ok (.aload_n 0, 1) := by decide +kernel
theorem dX7_hasStackLike_27 : decode cX7_hasStackLike 27 = .ok (.iload_n 1, 1) := by decide +kernel
theorem dX7_hasStackLike_28 : decode cX7_hasStackLike 28 = .ok (.iload 4, 2) := by decide +kernel
theorem dX7_hasStackLike_30 : decode cX7_hasStackLike 30 = .ok (.invokevirtual 125, 3) := by decide +kernel
theorem dX7_hasStackLike_33 : decode cX7_hasStackLike 33 = .ok (.aload_n 2, 1) := by decide +kernel
theorem dX7_hasStackLike_34 : decode cX7_hasStackLike 34 = .ok (.iload_n 1, 1) := by decide +kernel
theorem dX7_hasStackLike_35 : decode cX7_hasStackLike 35 = .ok (.iload 4, 2) := by decide +kernel
theorem dX7_hasStackLike_37 : decode cX7_hasStackLike 37 = .ok (.invokevirtual 125, 3) := by decide +kernel
theorem dX7_hasStackLike_40 : decode cX7_hasStackLike 40 = .ok (.if_icmp .eq 5, 3) := by decide +kernel
theorem dX7_hasStackLike_43 : decode cX7_hasStackLike 43 = .ok (.iconst 0, 1) := by decide +kernel
theorem dX7_hasStackLike_44 : decode cX7_hasStackLike 44 = .ok (.ireturn, 1) := by decide +kernel
theorem dX7_hasStackLike_45 : decode cX7_hasStackLike 45 = .ok (.iinc 4 1, 3) := by decide +kernel
theorem dX7_hasStackLike_48 : decode cX7_hasStackLike 48 = .ok (.goto (-28), 3) := by decide +kernel
theorem dX7_hasStackLike_51 : decode cX7_hasStackLike 51 = .ok (.iconst 1, 1) := by decide +kernel
theorem dX7_hasStackLike_52 : decode cX7_hasStackLike 52 = .ok (.ireturn, 1) := by decide +kernel
theorem dX7_statusWith_0 : decode cX7_statusWith 0 = .ok (.aload_n 0, 1) := by decide +kernel
theorem dX7_statusWith_1 : decode cX7_statusWith 1 = .ok (.getfield 22, 3) := by decide +kernel
theorem dX7_statusWith_4 : decode cX7_statusWith 4 = .ok (.ifCond .eq 8, 3) := by decide +kernel
theorem dX7_statusWith_7 : decode cX7_statusWith 7 = .ok (.aload_n 0, 1) := by decide +kernel
theorem dX7_statusWith_8 : decode cX7_statusWith 8 = .ok (.getfield 22, 3) := by decide +kernel
theorem dX7_statusWith_11 : decode cX7_statusWith 11 = .ok (.ireturn, 1) := by decide +kernel
theorem dX7_statusWith_12 : decode cX7_statusWith 12 = .ok (.aload_n 0, 1) := by decide +kernel
theorem dX7_statusWith_13 : decode cX7_statusWith 13 = .ok (.getfield 12, 3) := by decide +kernel
theorem dX7_statusWith_16 : decode cX7_statusWith 16 = .ok (.aload_n 0, 1) := by decide +kernel
theorem dX7_statusWith_17 : decode cX7_statusWith 17 = .ok (.aload_n 0, 1) := by decide +kernel
theorem dX7_statusWith_18 : decode cX7_statusWith 18 = .ok (.getfield 18, 3) := by decide +kernel
theorem dX7_statusWith_21 : decode cX7_statusWith 21 = .ok (.invokevirtual 122, 3) := by decide +kernel
theorem dX7_statusWith_24 : decode cX7_statusWith 24 = .ok (.invokevirtual 129, 3) := by decide +kernel
theorem dX7_statusWith_27 : decode cX7_statusWith 27 = .ok (.istore_n 2, 1) := by decide +kernel
theorem dX7_statusWith_28 : decode cX7_statusWith 28 = .ok (.iload_n 2, 1) := by decide +kernel
theorem dX7_statusWith_29 : decode cX7_statusWith 29 = .ok (.bipush 19, 2) := by decide +kernel
theorem dX7_statusWith_31 : decode cX7_statusWith 31 = .ok (.if_icmp .ne 12, 3) := by decide +kernel
theorem dX7_statusWith_34 : decode cX7_statusWith 34 = .ok (.aload_n 1, 1) := by decide +kernel
theorem dX7_statusWith_35 : decode cX7_statusWith 35 = .ok (.getfield 132, 3) := by decide +kernel
theorem dX7_statusWith_38 : decode cX7_statusWith 38 = .ok (.ifCond .ne 5, 3) := by decide +kernel
theorem dX7_statusWith_41 : decode cX7_statusWith 41 = .ok (.iconst 1, 1) := by decide +kernel
theorem dX7_statusWith_42 : decode cX7_statusWith 42 = .ok (.ireturn, 1) := by decide +kernel
theorem dX7_statusWith_43 : decode cX7_statusWith 43 = .ok (.iload_n 2, 1) := by decide +kernel
theorem dX7_statusWith_44 : decode cX7_statusWith 44 = .ok (.bipush 19, 2) := by decide +kernel
theorem dX7_statusWith_46 : decode cX7_statusWith 46 = .ok (.if_icmp .eq 9, 3) := by decide +kernel
theorem dX7_statusWith_49 : decode cX7_statusWith 49 = .ok (.iload_n 2, 1) := by decide +kernel
theorem dX7_statusWith_50 : decode cX7_statusWith 50 = .ok (.bipush 20, 2) := by decide +kernel
theorem dX7_statusWith_52 : decode cX7_statusWith 52 = .ok (.if_icmp .ne 15, 3) := by decide +kernel
theorem dX7_statusWith_55 : decode cX7_statusWith 55 = .ok (.aload_n 0, 1) := by decide +kernel
theorem dX7_statusWith_56 : decode cX7_statusWith 56 = .ok (.getfield 40, 3) := by decide +kernel
theorem dX7_statusWith_59 : decode cX7_statusWith 59 = .ok (.invokevirtual 137, 3) := by decide +kernel
theorem dX7_statusWith_62 : decode cX7_statusWith 62 = .ok (.ifCond .eq 5, 3) := by decide +kernel
theorem dX7_statusWith_65 : decode cX7_statusWith 65 = .ok (.iconst 3, 1) := by decide +kernel
theorem dX7_statusWith_66 : decode cX7_statusWith 66 = .ok (.ireturn, 1) := by decide +kernel
theorem dX7_statusWith_67 : decode cX7_statusWith 67 = .ok (.iconst 0, 1) := by decide +kernel
theorem dX7_statusWith_68 : decode cX7_statusWith 68 = .ok (.ireturn, 1) := by decide +kernel
theorem dX7_canStep_0 : decode cX7_canStep 0 = .ok (.aload_n 0, 1) := by decide +kernel
theorem dX7_canStep_1 : decode cX7_canStep 1 = .ok (.getfield 18, 3) := by decide +kernel
theorem dX7_canStep_4 : decode cX7_canStep 4 = .ok (.sipush 3000, 3) := by decide +kernel
theorem dX7_canStep_7 : decode cX7_canStep 7 = .ok (.if_icmp .ge 15, 3) := by decide +kernel
theorem dX7_canStep_10 : decode cX7_canStep 10 = .ok (.aload_n 0, 1) := by decide +kernel
theorem dX7_canStep_11 : decode cX7_canStep 11 = .ok (.aload_n 1, 1) := by decide +kernel
theorem dX7_canStep_12 : decode cX7_canStep 12 = .ok (.invokevirtual 141, 3) := by decide +kernel
theorem dX7_canStep_15 : decode cX7_canStep 15 = .ok (.ifCond .ne 7, 3) := by decide +kernel
theorem dX7_canStep_18 : decode cX7_canStep 18 = .ok (.iconst 1, 1) := by decide +kernel
theorem dX7_canStep_19 : decode cX7_canStep 19 = .ok (.goto 4, 3) := by decide +kernel
theorem dX7_canStep_22 : decode cX7_canStep 22 = .ok (.iconst 0, 1) := by decide +kernel
theorem dX7_canStep_23 : decode cX7_canStep 23 = .ok (.ireturn, 1) := by decide +kernel
theorem dX7_step_0 : decode cX7_step 0 = .ok (.aload_n 0, 1) := by decide +kernel
theorem dX7_step_1 : decode cX7_step 1 = .ok (.getfield 18, 3) := by decide +kernel
theorem dX7_step_4 : decode cX7_step 4 = .ok (.iconst 1, 1) := by decide +kernel
theorem dX7_step_5 : decode cX7_step 5 = .ok (.iadd, 1) := by decide +kernel
theorem dX7_step_6 : decode cX7_step 6 = .ok (.istore_n 2, 1) := by decide +kernel
theorem dX7_step_7 : decode cX7_step 7 = .ok (.aload_n 0, 1) := by decide +kernel
theorem dX7_step_8 : decode cX7_step 8 = .ok (.getfield 18, 3) := by decide +kernel
theorem dX7_step_11 : decode cX7_step 11 = .ok (.ifCond .lt 10, 3) := by decide +kernel
theorem dX7_step_14 : decode cX7_step 14 = .ok (.iload_n 2, 1) := by decide +kernel
theorem dX7_step_15 : decode cX7_step 15 = .ok (.sipush 3000, 3) := by decide +kernel
theorem dX7_step_18 : decode cX7_step 18 = .ok (.if_icmp .le 4, 3) := by decide +kernel
theorem dX7_step_21 : decode cX7_step 21 = .ok (.return_, 1) := by decide +kernel
theorem dX7_step_22 : decode cX7_step 22 = .ok (.aload_n 0, 1) := by decide +kernel
theorem dX7_step_23 : decode cX7_step 23 = .ok (.iconst (-1), 1) := by decide +kernel
theorem dX7_step_24 : decode cX7_step 24 = .ok (.putfield 25, 3) := by decide +kernel
theorem dX7_step_27 : decode cX7_step 27 = .ok (.aload_n 0, 1) := by decide +kernel
theorem dX7_step_28 : decode cX7_step 28 = .ok (.getfield 65, 3) := by decide +kernel
theorem dX7_step_31 : decode cX7_step 31 = .ok (.iload_n 2, 1) := by decide +kernel
theorem dX7_step_32 : decode cX7_step 32 = .ok (.aload_n 0, 1) := by decide +kernel
theorem dX7_step_33 : decode cX7_step 33 = .ok (.getfield 65, 3) := by decide +kernel
theorem dX7_step_36 : decode cX7_step 36 = .ok (.aload_n 0, 1) := by decide +kernel
theorem dX7_step_37 : decode cX7_step 37 = .ok (.getfield 18, 3) := by decide +kernel
theorem dX7_step_40 : decode cX7_step 40 = .ok (.iaload, 1) := by decide +kernel
theorem dX7_step_41 : decode cX7_step 41 = .ok (.iconst 1, 1) := by decide +kernel
theorem dX7_step_42 : decode cX7_step 42 = .ok (.iadd, 1) := by decide +kernel
theorem dX7_step_43 : decode cX7_step 43 = .ok (.bipush 64, 2) := by decide +kernel
theorem dX7_step_45 : decode cX7_step 45 = .ok (.invokestatic 145, 3) := by decide +kernel
theorem dX7_step_48 : decode cX7_step 48 = .ok (.iastore, 1) := by decide +kernel
theorem dX7_step_49 : decode cX7_step 49 = .ok (.aload_n 0, 1) := by decide +kernel
theorem dX7_step_50 : decode cX7_step 50 = .ok (.getfield 69, 3) := by decide +kernel
theorem dX7_step_53 : decode cX7_step 53 = .ok (.iload_n 2, 1) := by decide +kernel
theorem dX7_step_54 : decode cX7_step 54 = .ok (.aload_n 0, 1) := by decide +kernel
theorem dX7_step_55 : decode cX7_step 55 = .ok (.getfield 69, 3) := by decide +kernel
theorem dX7_step_58 : decode cX7_step 58 = .ok (.aload_n 0, 1) := by decide +kernel
theorem dX7_step_59 : decode cX7_step 59 = .ok (.getfield 18, 3) := by decide +kernel
theorem dX7_step_62 : decode cX7_step 62 = .ok (.iaload, 1) := by decide +kernel
theorem dX7_step_63 : decode cX7_step 63 = .ok (.iastore, 1) := by decide +kernel
theorem dX7_step_64 : decode cX7_step 64 = .ok (.aload_n 0, 1) := by decide +kernel
theorem dX7_step_65 : decode cX7_step 65 = .ok (.getfield 72, 3) := by decide +kernel
theorem dX7_step_68 : decode cX7_step 68 = .ok (.iload_n 2, 1) := by decide +kernel
theorem dX7_step_69 : decode cX7_step 69 = .ok (.aload_n 0, 1) := by decide +kernel
theorem dX7_step_70 : decode cX7_step 70 = .ok (.getfield 72, 3) := by decide +kernel
theorem dX7_step_73 : decode cX7_step 73 = .ok (.aload_n 0, 1) := by decide +kernel
theorem dX7_step_74 : decode cX7_step 74 = .ok (.getfield 18, 3) := by decide +kernel
theorem dX7_step_77 : decode cX7_step 77 = .ok (.iaload, 1) := by decide +kernel
theorem dX7_step_78 : decode cX7_step 78 = .ok (.iastore, 1) := by decide +kernel
theorem dX7_step_79 : decode cX7_step 79 = .ok (.aload_n 0, 1) := by decide +kernel
theorem dX7_step_80 : decode cX7_step 80 = .ok (.getfield 75, 3) := by decide +kernel
theorem dX7_step_83 : decode cX7_step 83 = .ok (.iload_n 2, 1) := by decide +kernel
theorem dX7_step_84 : decode cX7_step 84 = .ok (.aload_n 0, 1) := by decide +kernel
theorem dX7_step_85 : decode cX7_step 85 = .ok (.getfield 75, 3) := by decide +kernel
theorem dX7_step_88 : decode cX7_step 88 = .ok (.aload_n 0, 1) := by decide +kernel
theorem dX7_step_89 : decode cX7_step 89 = .ok (.getfield 18, 3) := by decide +kernel
theorem dX7_step_92 : decode cX7_step 92 = .ok (.iaload, 1) := by decide +kernel
theorem dX7_step_93 : decode cX7_step 93 = .ok (.iastore, 1) := by decide +kernel
theorem dX7_step_94 : decode cX7_step 94 = .ok (.aload_n 0, 1) := by decide +kernel
theorem dX7_step_95 : decode cX7_step 95 = .ok (.aload_n 0, 1) := by decide +kernel
theorem dX7_step_96 : decode cX7_step 96 = .ok (.getfield 65, 3) := by decide +kernel
theorem dX7_step_99 : decode cX7_step 99 = .ok (.aload_n 0, 1) := by decide +kernel
theorem dX7_step_100 : decode cX7_step 100 = .ok (.getfield 18, 3) := by decide +kernel
theorem dX7_step_103 : decode cX7_step 103 = .ok (.iaload, 1) := by decide +kernel
theorem dX7_step_104 : decode cX7_step 104 = .ok (.aload_n 1, 1) := by decide +kernel
theorem dX7_step_105 : decode cX7_step 105 = .ok (.invokestatic 150, 3) := by decide +kernel
theorem dX7_step_108 : decode cX7_step 108 = .ok (.istore_n 3, 1) := by decide +kernel
theorem dX7_step_109 : decode cX7_step 109 = .ok (.iload_n 3, 1) := by decide +kernel
theorem dX7_step_110 : decode cX7_step 110 = .ok (.ifCond .eq 11, 3) := by decide +kernel
theorem dX7_step_113 : decode cX7_step 113 = .ok (.aload_n 0, 1) := by decide +kernel
theorem dX7_step_114 : decode cX7_step 114 = .ok (.bipush 10, 2) := by decide +kernel
theorem dX7_step_116 : decode cX7_step 116 = .ok (.iload_n 3, 1) := by decide +kernel
theorem dX7_step_117 : decode cX7_step 117 = .ok (.iadd, 1) := by decide +kernel
theorem dX7_step_118 : decode cX7_step 118 = .ok (.putfield 22, 3) := by decide +kernel
theorem dX7_step_121 : decode cX7_step 121 = .ok (.aload_n 0, 1) := by decide +kernel
theorem dX7_step_122 : decode cX7_step 122 = .ok (.iload_n 2, 1) := by decide +kernel
theorem dX7_step_123 : decode cX7_step 123 = .ok (.putfield 18, 3) := by decide +kernel
theorem dX7_step_126 : decode cX7_step 126 = .ok (.aload_n 0, 1) := by decide +kernel
theorem dX7_step_127 : decode cX7_step 127 = .ok (.getfield 61, 3) := by decide +kernel
theorem dX7_step_130 : decode cX7_step 130 = .ok (.aload_n 0, 1) := by decide +kernel
theorem dX7_step_131 : decode cX7_step 131 = .ok (.getfield 18, 3) := by decide +kernel
theorem dX7_step_134 : decode cX7_step 134 = .ok (.invokevirtual 156, 3) := by decide +kernel
theorem dX7_step_137 : decode cX7_step 137 = .ok (.return_, 1) := by decide +kernel
theorem dX7_putByPoke_0 : decode cX7_putByPoke 0 = .ok (.aload_n 0, 1) := by decide +kernel
theorem dX7_putByPoke_1 : decode cX7_putByPoke 1 = .ok (.getfield 40, 3) := by decide +kernel
theorem dX7_putByPoke_4 : decode cX7_putByPoke 4 = .ok (.aload_n 0, 1) := by decide +kernel
theorem dX7_putByPoke_5 : decode cX7_putByPoke 5 = .ok (.getfield 18, 3) := by decide +kernel
theorem dX7_putByPoke_8 : decode cX7_putByPoke 8 = .ok (.iload_n 1, 1) := by decide +kernel
theorem dX7_putByPoke_9 : decode cX7_putByPoke 9 = .ok (.iload_n 2, 1) := by decide +kernel
theorem dX7_putByPoke_10 : decode cX7_putByPoke 10 = .ok (.iload_n 3, 1) := by decide +kernel
theorem dX7_putByPoke_11 : decode cX7_putByPoke 11 = .ok (.invokevirtual 160, 3) := by decide +kernel
theorem dX7_putByPoke_14 : decode cX7_putByPoke 14 = .ok (.aload_n 0, 1) := by decide +kernel
theorem dX7_putByPoke_15 : decode cX7_putByPoke 15 = .ok (.getfield 47, 3) := by decide +kernel
theorem dX7_putByPoke_18 : decode cX7_putByPoke 18 = .ok (.aload_n 0, 1) := by decide +kernel
theorem dX7_putByPoke_19 : decode cX7_putByPoke 19 = .ok (.getfield 18, 3) := by decide +kernel
theorem dX7_putByPoke_22 : decode cX7_putByPoke 22 = .ok (.iload_n 1, 1) := by decide +kernel
theorem dX7_putByPoke_23 : decode cX7_putByPoke 23 = .ok (.iload_n 2, 1) := by decide +kernel
theorem dX7_putByPoke_24 : decode cX7_putByPoke 24 = .ok (.iload_n 3, 1) := by decide +kernel
theorem dX7_putByPoke_25 : decode cX7_putByPoke 25 = .ok (.invokevirtual 164, 3) := by decide +kernel
theorem dX7_putByPoke_28 : decode cX7_putByPoke 28 = .ok (.istore 4, 2) := by decide +kernel
theorem dX7_putByPoke_30 : decode cX7_putByPoke 30 = .ok (.aload_n 0, 1) := by decide +kernel
theorem dX7_putByPoke_31 : decode cX7_putByPoke 31 = .ok (.getfield 47, 3) := by decide +kernel
theorem dX7_putByPoke_34 : decode cX7_putByPoke 34 = .ok (.iconst (-1), 1) := by decide +kernel
theorem dX7_putByPoke_35 : decode cX7_putByPoke 35 = .ok (.aload_n 0, 1) := by decide +kernel
theorem dX7_putByPoke_36 : decode cX7_putByPoke 36 = .ok (.getfield 40, 3) := by decide +kernel
theorem dX7_putByPoke_39 : decode cX7_putByPoke 39 = .ok (.getfield 99, 3) := by decide +kernel
theorem dX7_putByPoke_42 : decode cX7_putByPoke 42 = .ok (.iconst 1, 1) := by decide +kernel
theorem dX7_putByPoke_43 : decode cX7_putByPoke 43 = .ok (.isub, 1) := by decide +kernel
theorem dX7_putByPoke_44 : decode cX7_putByPoke 44 = .ok (.iconst (-1), 1) := by decide +kernel
theorem dX7_putByPoke_45 : decode cX7_putByPoke 45 = .ok (.iconst (-1), 1) := by decide +kernel
theorem dX7_putByPoke_46 : decode cX7_putByPoke 46 = .ok (.invokevirtual 168, 3) := by decide +kernel
theorem dX7_putByPoke_49 : decode cX7_putByPoke 49 = .ok (.iload 4, 2) := by decide +kernel
theorem dX7_putByPoke_51 : decode cX7_putByPoke 51 = .ok (.ireturn, 1) := by decide +kernel
theorem dX7_putByStep_0 : decode cX7_putByStep 0 = .ok (.aload_n 0, 1) := by decide +kernel
theorem dX7_putByStep_1 : decode cX7_putByStep 1 = .ok (.getfield 47, 3) := by decide +kernel
theorem dX7_putByStep_4 : decode cX7_putByStep 4 = .ok (.aload_n 0, 1) := by decide +kernel
theorem dX7_putByStep_5 : decode cX7_putByStep 5 = .ok (.getfield 18, 3) := by decide +kernel
theorem dX7_putByStep_8 : decode cX7_putByStep 8 = .ok (.iconst 1, 1) := by decide +kernel
theorem dX7_putByStep_9 : decode cX7_putByStep 9 = .ok (.iadd, 1) := by decide +kernel
theorem dX7_putByStep_10 : decode cX7_putByStep 10 = .ok (.iload_n 1, 1) := by decide +kernel
theorem dX7_putByStep_11 : decode cX7_putByStep 11 = .ok (.iload_n 2, 1) := by decide +kernel
theorem dX7_putByStep_12 : decode cX7_putByStep 12 = .ok (.iload_n 3, 1) := by decide +kernel
theorem dX7_putByStep_13 : decode cX7_putByStep 13 = .ok (.invokevirtual 164, 3) := by decide +kernel
theorem dX7_putByStep_16 : decode cX7_putByStep 16 = .ok (.istore 6, 2) := by decide +kernel
theorem dX7_putByStep_18 : decode cX7_putByStep 18 = .ok (.aload_n 0, 1) := by decide +kernel
theorem dX7_putByStep_19 : decode cX7_putByStep 19 = .ok (.getfield 47, 3) := by decide +kernel
theorem dX7_putByStep_22 : decode cX7_putByStep 22 = .ok (.aload_n 0, 1) := by decide +kernel
theorem dX7_putByStep_23 : decode cX7_putByStep 23 = .ok (.getfield 18, 3) := by decide +kernel
theorem dX7_putByStep_26 : decode cX7_putByStep 26 = .ok (.iconst (-1), 1) := by decide +kernel
theorem dX7_putByStep_27 : decode cX7_putByStep 27 = .ok (.iload 4, 2) := by decide +kernel
theorem dX7_putByStep_29 : decode cX7_putByStep 29 = .ok (.iload 5, 2) := by decide +kernel
theorem dX7_putByStep_31 : decode cX7_putByStep 31 = .ok (.invokevirtual 168, 3) := by decide +kernel
theorem dX7_putByStep_34 : decode cX7_putByStep 34 = .ok (.aload_n 0, 1) := by decide +kernel
theorem dX7_putByStep_35 : decode cX7_putByStep 35 = .ok (.iload 6, 2) := by decide +kernel
theorem dX7_putByStep_37 : decode cX7_putByStep 37 = .ok (.ifCond .eq 7, 3) := by decide +kernel
theorem dX7_putByStep_40 : decode cX7_putByStep 40 = .ok (.iload_n 1, 1) := by decide +kernel
theorem dX7_putByStep_41 : decode cX7_putByStep 41 = .ok (.goto 4, 3) := by decide +kernel
theorem dX7_putByStep_44 : decode cX7_putByStep 44 = .ok (.iconst (-1), 1) := by decide +kernel
theorem dX7_putByStep_45 : decode cX7_putByStep 45 = .ok (.putfield 25, 3) := by decide +kernel
theorem dX7_putByStep_48 : decode cX7_putByStep 48 = .ok (.return_, 1) := by decide +kernel
theorem dX7_putFromOutside_0 : decode cX7_putFromOutside 0 = .ok (.aload_n 0, 1) := by decide +kernel
theorem dX7_putFromOutside_1 : decode cX7_putFromOutside 1 = .ok (.getfield 40, 3) := by decide +kernel
theorem dX7_putFromOutside_4 : decode cX7_putFromOutside 4 = .ok (.aload_n 0, 1) := by decide +kernel
theorem dX7_putFromOutside_5 : decode cX7_putFromOutside 5 = .ok (.getfield 18, 3) := by decide +kernel
theorem dX7_putFromOutside_8 : decode cX7_putFromOutside 8 = .ok (.iload_n 2, 1) := by decide +kernel
theorem dX7_putFromOutside_9 : decode cX7_putFromOutside 9 = .ok (.iload_n 3, 1) := by decide +kernel
theorem dX7_putFromOutside_10 : decode cX7_putFromOutside 10 = .ok (.invokevirtual 171, 3) := by decide +kernel
theorem dX7_putFromOutside_13 : decode cX7_putFromOutside 13 = .ok (.aload_n 0, 1) := by decide +kernel
theorem dX7_putFromOutside_14 : decode cX7_putFromOutside 14 = .ok (.iload_n 1, 1) := by decide +kernel
theorem dX7_putFromOutside_15 : decode cX7_putFromOutside 15 = .ok (.iconst 2, 1) := by decide +kernel
theorem dX7_putFromOutside_16 : decode cX7_putFromOutside 16 = .ok (.iload_n 3, 1) := by decide +kernel
theorem dX7_putFromOutside_17 : decode cX7_putFromOutside 17 = .ok (.iconst (-1), 1) := by decide +kernel
theorem dX7_putFromOutside_18 : decode cX7_putFromOutside 18 = .ok (.iconst (-1), 1) := by decide +kernel
theorem dX7_putFromOutside_19 : decode cX7_putFromOutside 19 = .ok (.invokevirtual 175, 3) := by decide +kernel
theorem dX7_putFromOutside_22 : decode cX7_putFromOutside 22 = .ok (.aload_n 0, 1) := by decide +kernel
theorem dX7_putFromOutside_23 : decode cX7_putFromOutside 23 = .ok (.getfield 47, 3) := by decide +kernel
theorem dX7_putFromOutside_26 : decode cX7_putFromOutside 26 = .ok (.aload_n 0, 1) := by decide +kernel
theorem dX7_putFromOutside_27 : decode cX7_putFromOutside 27 = .ok (.getfield 18, 3) := by decide +kernel
theorem dX7_putFromOutside_30 : decode cX7_putFromOutside 30 = .ok (.aload_n 0, 1) := by decide +kernel
theorem dX7_putFromOutside_31 : decode cX7_putFromOutside 31 = .ok (.getfield 40, 3) := by decide +kernel
theorem dX7_putFromOutside_34 : decode cX7_putFromOutside 34 = .ok (.getfield 99, 3) := by decide +kernel
theorem dX7_putFromOutside_37 : decode cX7_putFromOutside 37 = .ok (.iconst 1, 1) := by decide +kernel
theorem dX7_putFromOutside_38 : decode cX7_putFromOutside 38 = .ok (.isub, 1) := by decide +kernel
theorem dX7_putFromOutside_39 : decode cX7_putFromOutside 39 = .ok (.iconst (-1), 1) := by decide +kernel
theorem dX7_putFromOutside_40 : decode cX7_putFromOutside 40 = .ok (.iconst (-1), 1) := by decide +kernel
theorem dX7_putFromOutside_41 : decode cX7_putFromOutside 41 = .ok (.invokevirtual 168, 3) := by decide +kernel
theorem dX7_putFromOutside_44 : decode cX7_putFromOutside 44 = .ok (.return_, 1) := by decide +kernel
theorem dX7_goOnAt_0 : decode cX7_goOnAt 0 = .ok (.aload_n 0, 1) := by decide +kernel
theorem dX7_goOnAt_1 : decode cX7_goOnAt 1 = .ok (.getfield 18, 3) := by decide +kernel
theorem dX7_goOnAt_4 : decode cX7_goOnAt 4 = .ok (.ifCond .lt 25, 3) := by decide +kernel
theorem dX7_goOnAt_7 : decode cX7_goOnAt 7 = .ok (.aload_n 0, 1) := by decide +kernel
theorem dX7_goOnAt_8 : decode cX7_goOnAt 8 = .ok (.getfield 18, 3) := by decide +kernel
theorem dX7_goOnAt_11 : decode cX7_goOnAt 11 = .ok (.sipush 3000, 3) := by decide +kernel
theorem dX7_goOnAt_14 : decode cX7_goOnAt 14 = .ok (.if_icmp .ge 15, 3) := by decide +kernel
theorem dX7_goOnAt_17 : decode cX7_goOnAt 17 = .ok (.aload_n 0, 1) := by decide +kernel
theorem dX7_goOnAt_18 : decode cX7_goOnAt 18 = .ok (.getfield 65, 3) := by decide +kernel
theorem dX7_goOnAt_21 : decode cX7_goOnAt 21 = .ok (.aload_n 0, 1) := by decide +kernel
theorem dX7_goOnAt_22 : decode cX7_goOnAt 22 = .ok (.getfield 18, 3) := by decide +kernel
theorem dX7_goOnAt_25 : decode cX7_goOnAt 25 = .ok (.iconst 1, 1) := by decide +kernel
theorem dX7_goOnAt_26 : decode cX7_goOnAt 26 = .ok (.iadd, 1) := by decide +kernel
theorem dX7_goOnAt_27 : decode cX7_goOnAt 27 = .ok (.iload_n 1, 1) := by decide +kernel
theorem dX7_goOnAt_28 : decode cX7_goOnAt 28 = .ok (.iastore, 1) := by decide +kernel
theorem dX7_goOnAt_29 : decode cX7_goOnAt 29 = .ok (.return_, 1) := by decide +kernel
theorem dX7_addOut_0 : decode cX7_addOut 0 = .ok (.aload_n 0, 1) := by decide +kernel
theorem dX7_addOut_1 : decode cX7_addOut 1 = .ok (.getfield 18, 3) := by decide +kernel
theorem dX7_addOut_4 : decode cX7_addOut 4 = .ok (.ifCond .lt 57, 3) := by decide +kernel
theorem dX7_addOut_7 : decode cX7_addOut 7 = .ok (.aload_n 0, 1) := by decide +kernel
theorem dX7_addOut_8 : decode cX7_addOut 8 = .ok (.getfield 18, 3) := by decide +kernel
theorem dX7_addOut_11 : decode cX7_addOut 11 = .ok (.sipush 3000, 3) := by decide +kernel
theorem dX7_addOut_14 : decode cX7_addOut 14 = .ok (.if_icmp .ge 47, 3) := by decide +kernel
theorem dX7_addOut_17 : decode cX7_addOut 17 = .ok (.aload_n 0, 1) := by decide +kernel
theorem dX7_addOut_18 : decode cX7_addOut 18 = .ok (.getfield 69, 3) := by decide +kernel
theorem dX7_addOut_21 : decode cX7_addOut 21 = .ok (.aload_n 0, 1) := by decide +kernel
theorem dX7_addOut_22 : decode cX7_addOut 22 = .ok (.getfield 18, 3) := by decide +kernel
theorem dX7_addOut_25 : decode cX7_addOut 25 = .ok (.iconst 1, 1) := by decide +kernel
theorem dX7_addOut_26 : decode cX7_addOut 26 = .ok (.iadd, 1) := by decide +kernel
theorem dX7_addOut_27 : decode cX7_addOut 27 = .ok (.dup2, 1) := by decide +kernel
theorem dX7_addOut_28 : decode cX7_addOut 28 = .ok (.iaload, 1) := by decide +kernel
theorem dX7_addOut_29 : decode cX7_addOut 29 = .ok (.iconst 1, 1) := by decide +kernel
theorem dX7_addOut_30 : decode cX7_addOut 30 = .ok (.iadd, 1) := by decide +kernel
theorem dX7_addOut_31 : decode cX7_addOut 31 = .ok (.iastore, 1) := by decide +kernel
theorem dX7_addOut_32 : decode cX7_addOut 32 = .ok (.aload_n 0, 1) := by decide +kernel
theorem dX7_addOut_33 : decode cX7_addOut 33 = .ok (.getfield 72, 3) := by decide +kernel
theorem dX7_addOut_36 : decode cX7_addOut 36 = .ok (.aload_n 0, 1) := by decide +kernel
theorem dX7_addOut_37 : decode cX7_addOut 37 = .ok (.getfield 18, 3) := by decide +kernel
theorem dX7_addOut_40 : decode cX7_addOut 40 = .ok (.iconst 1, 1) := by decide +kernel
theorem dX7_addOut_41 : decode cX7_addOut 41 = .ok (.iadd, 1) := by decide +kernel
theorem dX7_addOut_42 : decode cX7_addOut 42 = .ok (.bipush 31, 2) := by decide +kernel
theorem dX7_addOut_44 : decode cX7_addOut 44 = .ok (.aload_n 0, 1) := by decide +kernel
theorem dX7_addOut_45 : decode cX7_addOut 45 = .ok (.getfield 72, 3) := by decide +kernel
theorem dX7_addOut_48 : decode cX7_addOut 48 = .ok (.aload_n 0, 1) := by decide +kernel
theorem dX7_addOut_49 : decode cX7_addOut 49 = .ok (.getfield 18, 3) := by decide +kernel
theorem dX7_addOut_52 : decode cX7_addOut 52 = .ok (.iaload, 1) := by decide +kernel
theorem dX7_addOut_53 : decode cX7_addOut 53 = .ok (.imul, 1) := by decide +kernel
theorem dX7_addOut_54 : decode cX7_addOut 54 = .ok (.iconst 3, 1) := by decide +kernel
theorem dX7_addOut_55 : decode cX7_addOut 55 = .ok (.iload_n 2, 1) := by decide +kernel
theorem dX7_addOut_56 : decode cX7_addOut 56 = .ok (.imul, 1) := by decide +kernel
theorem dX7_addOut_57 : decode cX7_addOut 57 = .ok (.iadd, 1) := by decide +kernel
theorem dX7_addOut_58 : decode cX7_addOut 58 = .ok (.iload_n 1, 1) := by decide +kernel
theorem dX7_addOut_59 : decode cX7_addOut 59 = .ok (.iadd, 1) := by decide +kernel
theorem dX7_addOut_60 : decode cX7_addOut 60 = .ok (.iastore, 1) := by decide +kernel
theorem dX7_addOut_61 : decode cX7_addOut 61 = .ok (.return_, 1) := by decide +kernel
theorem dX7_stackUp_0 : decode cX7_stackUp 0 = .ok (.aload_n 0, 1) := by decide +kernel
theorem dX7_stackUp_1 : decode cX7_stackUp 1 = .ok (.getfield 18, 3) := by decide +kernel
theorem dX7_stackUp_4 : decode cX7_stackUp 4 = .ok (.ifCond .lt 28, 3) := by decide +kernel
theorem dX7_stackUp_7 : decode cX7_stackUp 7 = .ok (.aload_n 0, 1) := by decide +kernel
theorem dX7_stackUp_8 : decode cX7_stackUp 8 = .ok (.getfield 18, 3) := by decide +kernel
theorem dX7_stackUp_11 : decode cX7_stackUp 11 = .ok (.sipush 3000, 3) := by decide +kernel
theorem dX7_stackUp_14 : decode cX7_stackUp 14 = .ok (.if_icmp .ge 18, 3) := by decide +kernel
theorem dX7_stackUp_17 : decode cX7_stackUp 17 = .ok (.aload_n 0, 1) := by decide +kernel
theorem dX7_stackUp_18 : decode cX7_stackUp 18 = .ok (.getfield 75, 3) := by decide +kernel
theorem dX7_stackUp_21 : decode cX7_stackUp 21 = .ok (.aload_n 0, 1) := by decide +kernel
theorem dX7_stackUp_22 : decode cX7_stackUp 22 = .ok (.getfield 18, 3) := by decide +kernel
theorem dX7_stackUp_25 : decode cX7_stackUp 25 = .ok (.iconst 1, 1) := by decide +kernel
theorem dX7_stackUp_26 : decode cX7_stackUp 26 = .ok (.iadd, 1) := by decide +kernel
theorem dX7_stackUp_27 : decode cX7_stackUp 27 = .ok (.aload_n 0, 1) := by decide +kernel
theorem dX7_stackUp_28 : decode cX7_stackUp 28 = .ok (.getfield 18, 3) := by decide +kernel
theorem dX7_stackUp_31 : decode cX7_stackUp 31 = .ok (.iastore, 1) := by decide +kernel
theorem dX7_stackUp_32 : decode cX7_stackUp 32 = .ok (.return_, 1) := by decide +kernel
theorem dX7_stackDown_0 : decode cX7_stackDown 0 = .ok (.aload_n 0, 1) := by decide +kernel
theorem dX7_stackDown_1 : decode cX7_stackDown 1 = .ok (.getfield 18, 3) := by decide +kernel
theorem dX7_stackDown_4 : decode cX7_stackDown 4 = .ok (.ifCond .lt 36, 3) := by decide +kernel
theorem dX7_stackDown_7 : decode cX7_stackDown 7 = .ok (.aload_n 0, 1) := by decide +kernel
theorem dX7_stackDown_8 : decode cX7_stackDown 8 = .ok (.getfield 18, 3) := by decide +kernel
theorem dX7_stackDown_11 : decode cX7_stackDown 11 = .ok (.sipush 3000, 3) := by decide +kernel
theorem dX7_stackDown_14 : decode cX7_stackDown 14 = .ok (.if_icmp .ge 26, 3) := by decide +kernel
theorem dX7_stackDown_17 : decode cX7_stackDown 17 = .ok (.aload_n 0, 1) := by decide +kernel
theorem dX7_stackDown_18 : decode cX7_stackDown 18 = .ok (.getfield 75, 3) := by decide +kernel
theorem dX7_stackDown_21 : decode cX7_stackDown 21 = .ok (.aload_n 0, 1) := by decide +kernel
theorem dX7_stackDown_22 : decode cX7_stackDown 22 = .ok (.getfield 18, 3) := by decide +kernel
theorem dX7_stackDown_25 : decode cX7_stackDown 25 = .ok (.iconst 1, 1) := by decide +kernel
theorem dX7_stackDown_26 : decode cX7_stackDown 26 = .ok (.iadd, 1) := by decide +kernel
theorem dX7_stackDown_27 : decode cX7_stackDown 27 = .ok (.aload_n 0, 1) := by decide +kernel
theorem dX7_stackDown_28 : decode cX7_stackDown 28 = .ok (.aload_n 0, 1) := by decide +kernel
theorem dX7_stackDown_29 : decode cX7_stackDown 29 = .ok (.aload_n 0, 1) := by decide +kernel
theorem dX7_stackDown_30 : decode cX7_stackDown 30 = .ok (.getfield 18, 3) := by decide +kernel
theorem dX7_stackDown_33 : decode cX7_stackDown 33 = .ok (.invokevirtual 114, 3) := by decide +kernel
theorem dX7_stackDown_36 : decode cX7_stackDown 36 = .ok (.invokevirtual 114, 3) := by decide +kernel
theorem dX7_stackDown_39 : decode cX7_stackDown 39 = .ok (.iastore, 1) := by decide +kernel
theorem dX7_stackDown_40 : decode cX7_stackDown 40 = .ok (.return_, 1) := by decide +kernel
theorem dX7_goBack_0 : decode cX7_goBack 0 = .ok (.aload_n 0, 1) := by decide +kernel
theorem dX7_goBack_1 : decode cX7_goBack 1 = .ok (.iload_n 1, 1) := by decide +kernel
theorem dX7_goBack_2 : decode cX7_goBack 2 = .ok (.invokevirtual 110, 3) := by decide +kernel
theorem dX7_goBack_5 : decode cX7_goBack 5 = .ok (.ifCond .ne 4, 3) := by decide +kernel
theorem dX7_goBack_8 : decode cX7_goBack 8 = .ok (.return_, 1) := by decide +kernel
theorem dX7_goBack_9 : decode cX7_goBack 9 = .ok (.aload_n 0, 1) := by decide +kernel
theorem dX7_goBack_10 : decode cX7_goBack 10 = .ok (.getfield 40, 3) := by decide +kernel
theorem dX7_goBack_13 : decode cX7_goBack 13 = .ok (.iload_n 1, 1) := by decide +kernel
theorem dX7_goBack_14 : decode cX7_goBack 14 = .ok (.aload_n 2, 1) := by decide +kernel
theorem dX7_goBack_15 : decode cX7_goBack 15 = .ok (.invokevirtual 179, 3) := by decide +kernel
theorem dX7_goBack_18 : decode cX7_goBack 18 = .ok (.aload_n 0, 1) := by decide +kernel
theorem dX7_goBack_19 : decode cX7_goBack 19 = .ok (.getfield 47, 3) := by decide +kernel
theorem dX7_goBack_22 : decode cX7_goBack 22 = .ok (.iload_n 1, 1) := by decide +kernel
theorem dX7_goBack_23 : decode cX7_goBack 23 = .ok (.invokevirtual 183, 3) := by decide +kernel
theorem dX7_goBack_26 : decode cX7_goBack 26 = .ok (.aload_n 0, 1) := by decide +kernel
theorem dX7_goBack_27 : decode cX7_goBack 27 = .ok (.getfield 54, 3) := by decide +kernel
theorem dX7_goBack_30 : decode cX7_goBack 30 = .ok (.iload_n 1, 1) := by decide +kernel
theorem dX7_goBack_31 : decode cX7_goBack 31 = .ok (.invokevirtual 185, 3) := by decide +kernel
theorem dX7_goBack_34 : decode cX7_goBack 34 = .ok (.aload_n 0, 1) := by decide +kernel
theorem dX7_goBack_35 : decode cX7_goBack 35 = .ok (.getfield 61, 3) := by decide +kernel
theorem dX7_goBack_38 : decode cX7_goBack 38 = .ok (.iload_n 1, 1) := by decide +kernel
theorem dX7_goBack_39 : decode cX7_goBack 39 = .ok (.invokevirtual 188, 3) := by decide +kernel
theorem dX7_goBack_42 : decode cX7_goBack 42 = .ok (.aload_n 0, 1) := by decide +kernel
theorem dX7_goBack_43 : decode cX7_goBack 43 = .ok (.iload_n 1, 1) := by decide +kernel
theorem dX7_goBack_44 : decode cX7_goBack 44 = .ok (.putfield 18, 3) := by decide +kernel
theorem dX7_goBack_47 : decode cX7_goBack 47 = .ok (.aload_n 0, 1) := by decide +kernel
theorem dX7_goBack_48 : decode cX7_goBack 48 = .ok (.iconst 0, 1) := by decide +kernel
theorem dX7_goBack_49 : decode cX7_goBack 49 = .ok (.putfield 22, 3) := by decide +kernel
theorem dX7_goBack_52 : decode cX7_goBack 52 = .ok (.aload_n 0, 1) := by decide +kernel
theorem dX7_goBack_53 : decode cX7_goBack 53 = .ok (.dup, 1) := by decide +kernel
theorem dX7_goBack_54 : decode cX7_goBack 54 = .ok (.getfield 31, 3) := by decide +kernel
theorem dX7_goBack_57 : decode cX7_goBack 57 = .ok (.iconst 1, 1) := by decide +kernel
theorem dX7_goBack_58 : decode cX7_goBack 58 = .ok (.iadd, 1) := by decide +kernel
theorem dX7_goBack_59 : decode cX7_goBack 59 = .ok (.putfield 31, 3) := by decide +kernel
theorem dX7_goBack_62 : decode cX7_goBack 62 = .ok (.return_, 1) := by decide +kernel
theorem dX8_perform_0 : decode cX8_perform 0 = .ok (.aload_n 0, 1) := by decide +kernel
theorem dX8_perform_1 : decode cX8_perform 1 = .ok (.getfield 9, 3) := by decide +kernel
theorem dX8_perform_4 : decode cX8_perform 4 = .ok (.iload_n 1, 1) := by decide +kernel
theorem dX8_perform_5 : decode cX8_perform 5 = .ok (.invokevirtual 15, 3) := by decide +kernel
theorem dX8_perform_8 : decode cX8_perform 8 = .ok (.istore_n 3, 1) := by decide +kernel
theorem dX8_perform_9 : decode cX8_perform 9 = .ok (.aload_n 0, 1) := by decide +kernel
theorem dX8_perform_10 : decode cX8_perform 10 = .ok (.getfield 9, 3) := by decide +kernel
theorem dX8_perform_13 : decode cX8_perform 13 = .ok (.iload_n 1, 1) := by decide +kernel
theorem dX8_perform_14 : decode cX8_perform 14 = .ok (.invokevirtual 21, 3) := by decide +kernel
theorem dX8_perform_17 : decode cX8_perform 17 = .ok (.istore 4, 2) := by decide +kernel
theorem dX8_perform_19 : decode cX8_perform 19 = .ok (.aload_n 0, 1) := by decide +kernel
theorem dX8_perform_20 : decode cX8_perform 20 = .ok (.getfield 9, 3) := by decide +kernel
theorem dX8_perform_23 : decode cX8_perform 23 = .ok (.iload_n 1, 1) := by decide +kernel
theorem dX8_perform_24 : decode cX8_perform 24 = .ok (.invokevirtual 24, 3) := by decide +kernel
theorem dX8_perform_27 : decode cX8_perform 27 = .ok (.istore 5, 2) := by decide +kernel
theorem dX8_perform_29 : decode cX8_perform 29 = .ok (.aload_n 0, 1) := by decide +kernel
theorem dX8_perform_30 : decode cX8_perform 30 = .ok (.getfield 9, 3) := by decide +kernel
theorem dX8_perform_33 : decode cX8_perform 33 = .ok (.iload_n 1, 1) := by decide +kernel
theorem dX8_perform_34 : decode cX8_perform 34 = .ok (.invokevirtual 27, 3) := by decide +kernel
theorem dX8_perform_37 : decode cX8_perform 37 = .ok (.istore 6, 2) := by decide +kernel
theorem dX8_perform_39 : decode cX8_perform 39 = .ok (.iload_n 3, 1) := by decide +kernel
theorem dX8_perform_40 : decode cX8_perform 40 = .ok (.tableswitch 365 (-1) 22 #[363, 112, 119, 132, 157, 365, 365, 365, 365, 365, 365, 174, 200, 218, 244, 260, 326, 334, 350, 357, 283, 296, 311, 145], 112) := by decide +kernel
theorem dX8_perform_152 : decode cX8_perform 152 = .ok (.aload_n 0, 1) := by decide +kernel
theorem dX8_perform_153 : decode cX8_perform 153 = .ok (.iconst 2, 1) := by decide +kernel
theorem dX8_perform_154 : decode cX8_perform 154 = .ok (.putfield 30, 3) := by decide +kernel
theorem dX8_perform_157 : decode cX8_perform 157 = .ok (.iconst 0, 1) := by decide +kernel
theorem dX8_perform_158 : decode cX8_perform 158 = .ok (.ireturn, 1) := by decide +kernel
theorem dX8_perform_159 : decode cX8_perform 159 = .ok (.aload_n 0, 1) := by decide +kernel
theorem dX8_perform_160 : decode cX8_perform 160 = .ok (.iload 4, 2) := by decide +kernel
theorem dX8_perform_162 : decode cX8_perform 162 = .ok (.iconst 2, 1) := by decide +kernel
theorem dX8_perform_163 : decode cX8_perform 163 = .ok (.iload 5, 2) := by decide +kernel
theorem dX8_perform_165 : decode cX8_perform 165 = .ok (.iconst (-1), 1) := by decide +kernel
theorem dX8_perform_166 : decode cX8_perform 166 = .ok (.iconst (-1), 1) := by decide +kernel
theorem dX8_perform_167 : decode cX8_perform 167 = .ok (.invokevirtual 34, 3) := by decide +kernel
theorem dX8_perform_170 : decode cX8_perform 170 = .ok (.iconst 0, 1) := by decide +kernel
theorem dX8_perform_171 : decode cX8_perform 171 = .ok (.ireturn, 1) := by decide +kernel
theorem dX8_perform_172 : decode cX8_perform 172 = .ok (.aload_n 0, 1) := by decide +kernel
theorem dX8_perform_173 : decode cX8_perform 173 = .ok (.iload 4, 2) := by decide +kernel
theorem dX8_perform_175 : decode cX8_perform 175 = .ok (.iconst 1, 1) := by decide +kernel
theorem dX8_perform_176 : decode cX8_perform 176 = .ok (.iload 5, 2) := by decide +kernel
theorem dX8_perform_178 : decode cX8_perform 178 = .ok (.iconst (-1), 1) := by decide +kernel
theorem dX8_perform_179 : decode cX8_perform 179 = .ok (.iconst (-1), 1) := by decide +kernel
theorem dX8_perform_180 : decode cX8_perform 180 = .ok (.invokevirtual 34, 3) := by decide +kernel
theorem dX8_perform_183 : decode cX8_perform 183 = .ok (.iconst 0, 1) := by decide +kernel
theorem dX8_perform_184 : decode cX8_perform 184 = .ok (.ireturn, 1) := by decide +kernel
theorem dX8_perform_185 : decode cX8_perform 185 = .ok (.aload_n 0, 1) := by decide +kernel
theorem dX8_perform_186 : decode cX8_perform 186 = .ok (.iload 4, 2) := by decide +kernel
theorem dX8_perform_188 : decode cX8_perform 188 = .ok (.iconst 0, 1) := by decide +kernel
theorem dX8_perform_189 : decode cX8_perform 189 = .ok (.iconst 0, 1) := by decide +kernel
theorem dX8_perform_190 : decode cX8_perform 190 = .ok (.iconst (-1), 1) := by decide +kernel
theorem dX8_perform_191 : decode cX8_perform 191 = .ok (.iconst (-1), 1) := by decide +kernel
theorem dX8_perform_192 : decode cX8_perform 192 = .ok (.invokevirtual 34, 3) := by decide +kernel
theorem dX8_perform_195 : decode cX8_perform 195 = .ok (.iconst 0, 1) := by decide +kernel
theorem dX8_perform_196 : decode cX8_perform 196 = .ok (.ireturn, 1) := by decide +kernel
theorem dX8_perform_197 : decode cX8_perform 197 = .ok (.aload_n 0, 1) := by decide +kernel
theorem dX8_perform_198 : decode cX8_perform 198 = .ok (.iload 4, 2) := by decide +kernel
theorem dX8_perform_200 : decode cX8_perform 200 = .ok (.aload_n 0, 1) := by decide +kernel
theorem dX8_perform_201 : decode cX8_perform 201 = .ok (.getfield 38, 3) := by decide +kernel
theorem dX8_perform_204 : decode cX8_perform 204 = .ok (.iload 5, 2) := by decide +kernel
theorem dX8_perform_206 : decode cX8_perform 206 = .ok (.invokevirtual 42, 3) := by decide +kernel
theorem dX8_perform_209 : decode cX8_perform 209 = .ok (.invokestatic 47, 3) := by decide +kernel
theorem dX8_perform_212 : decode cX8_perform 212 = .ok (.iconst 0, 1) := by decide +kernel
theorem dX8_perform_213 : decode cX8_perform 213 = .ok (.ireturn, 1) := by decide +kernel
theorem dX8_perform_214 : decode cX8_perform 214 = .ok (.aload_n 0, 1) := by decide +kernel
theorem dX8_perform_215 : decode cX8_perform 215 = .ok (.iload 4, 2) := by decide +kernel
theorem dX8_perform_217 : decode cX8_perform 217 = .ok (.aload_n 0, 1) := by decide +kernel
theorem dX8_perform_218 : decode cX8_perform 218 = .ok (.getfield 38, 3) := by decide +kernel
theorem dX8_perform_221 : decode cX8_perform 221 = .ok (.iload 5, 2) := by decide +kernel
theorem dX8_perform_223 : decode cX8_perform 223 = .ok (.invokevirtual 42, 3) := by decide +kernel
theorem dX8_perform_226 : decode cX8_perform 226 = .ok (.aload_n 0, 1) := by decide +kernel
theorem dX8_perform_227 : decode cX8_perform 227 = .ok (.getfield 38, 3) := by decide +kernel
theorem dX8_perform_230 : decode cX8_perform 230 = .ok (.iload 6, 2) := by decide +kernel
theorem dX8_perform_232 : decode cX8_perform 232 = .ok (.invokevirtual 42, 3) := by decide +kernel
theorem dX8_perform_235 : decode cX8_perform 235 = .ok (.invokestatic 53, 3) := by decide +kernel
theorem dX8_perform_238 : decode cX8_perform 238 = .ok (.iconst 0, 1) := by decide +kernel
theorem dX8_perform_239 : decode cX8_perform 239 = .ok (.ireturn, 1) := by decide +kernel
theorem dX8_perform_240 : decode cX8_perform 240 = .ok (.aload_n 0, 1) := by decide +kernel
theorem dX8_perform_241 : decode cX8_perform 241 = .ok (.iload 4, 2) := by decide +kernel
theorem dX8_perform_243 : decode cX8_perform 243 = .ok (.aload_n 0, 1) := by decide +kernel
theorem dX8_perform_244 : decode cX8_perform 244 = .ok (.getfield 38, 3) := by decide +kernel
theorem dX8_perform_247 : decode cX8_perform 247 = .ok (.iload 5, 2) := by decide +kernel
theorem dX8_perform_249 : decode cX8_perform 249 = .ok (.invokevirtual 42, 3) := by decide +kernel
theorem dX8_perform_252 : decode cX8_perform 252 = .ok (.iconst (-1), 1) := by decide +kernel
theorem dX8_perform_253 : decode cX8_perform 253 = .ok (.iload_n 3, 1) := by decide +kernel
theorem dX8_perform_254 : decode cX8_perform 254 = .ok (.invokestatic 57, 3) := by decide +kernel
theorem dX8_perform_257 : decode cX8_perform 257 = .ok (.ireturn, 1) := by decide +kernel
theorem dX8_perform_258 : decode cX8_perform 258 = .ok (.aload_n 0, 1) := by decide +kernel
theorem dX8_perform_259 : decode cX8_perform 259 = .ok (.iload 4, 2) := by decide +kernel
theorem dX8_perform_261 : decode cX8_perform 261 = .ok (.aload_n 0, 1) := by decide +kernel
theorem dX8_perform_262 : decode cX8_perform 262 = .ok (.getfield 38, 3) := by decide +kernel
theorem dX8_perform_265 : decode cX8_perform 265 = .ok (.iload 5, 2) := by decide +kernel
theorem dX8_perform_267 : decode cX8_perform 267 = .ok (.invokevirtual 42, 3) := by decide +kernel
theorem dX8_perform_270 : decode cX8_perform 270 = .ok (.aload_n 0, 1) := by decide +kernel
theorem dX8_perform_271 : decode cX8_perform 271 = .ok (.getfield 38, 3) := by decide +kernel
theorem dX8_perform_274 : decode cX8_perform 274 = .ok (.iload 6, 2) := by decide +kernel
theorem dX8_perform_276 : decode cX8_perform 276 = .ok (.invokevirtual 42, 3) := by decide +kernel
theorem dX8_perform_279 : decode cX8_perform 279 = .ok (.iload_n 3, 1) := by decide +kernel
theorem dX8_perform_280 : decode cX8_perform 280 = .ok (.invokestatic 57, 3) := by decide +kernel
theorem dX8_perform_283 : decode cX8_perform 283 = .ok (.ireturn, 1) := by decide +kernel
theorem dX8_perform_284 : decode cX8_perform 284 = .ok (.aload_n 0, 1) := by decide +kernel
theorem dX8_perform_285 : decode cX8_perform 285 = .ok (.iload 4, 2) := by decide +kernel
theorem dX8_perform_287 : decode cX8_perform 287 = .ok (.aload_n 0, 1) := by decide +kernel
theorem dX8_perform_288 : decode cX8_perform 288 = .ok (.getfield 38, 3) := by decide +kernel
theorem dX8_perform_291 : decode cX8_perform 291 = .ok (.iload 5, 2) := by decide +kernel
theorem dX8_perform_293 : decode cX8_perform 293 = .ok (.invokevirtual 42, 3) := by decide +kernel
theorem dX8_perform_296 : decode cX8_perform 296 = .ok (.invokestatic 61, 3) := by decide +kernel
theorem dX8_perform_299 : decode cX8_perform 299 = .ok (.ireturn, 1) := by decide +kernel
theorem dX8_perform_300 : decode cX8_perform 300 = .ok (.aload_n 0, 1) := by decide +kernel
theorem dX8_perform_301 : decode cX8_perform 301 = .ok (.aload_n 0, 1) := by decide +kernel
theorem dX8_perform_302 : decode cX8_perform 302 = .ok (.getfield 38, 3) := by decide +kernel
theorem dX8_perform_305 : decode cX8_perform 305 = .ok (.iload 4, 2) := by decide +kernel
theorem dX8_perform_307 : decode cX8_perform 307 = .ok (.invokevirtual 42, 3) := by decide +kernel
theorem dX8_perform_310 : decode cX8_perform 310 = .ok (.aload_n 0, 1) := by decide +kernel
theorem dX8_perform_311 : decode cX8_perform 311 = .ok (.getfield 38, 3) := by decide +kernel
theorem dX8_perform_314 : decode cX8_perform 314 = .ok (.iload 5, 2) := by decide +kernel
theorem dX8_perform_316 : decode cX8_perform 316 = .ok (.invokevirtual 42, 3) := by decide +kernel
theorem dX8_perform_319 : decode cX8_perform 319 = .ok (.invokestatic 65, 3) := by decide +kernel
theorem dX8_perform_322 : decode cX8_perform 322 = .ok (.ireturn, 1) := by decide +kernel
theorem dX8_perform_323 : decode cX8_perform 323 = .ok (.aload_n 0, 1) := by decide +kernel
theorem dX8_perform_324 : decode cX8_perform 324 = .ok (.iload 4, 2) := by decide +kernel
theorem dX8_perform_326 : decode cX8_perform 326 = .ok (.iconst 0, 1) := by decide +kernel
theorem dX8_perform_327 : decode cX8_perform 327 = .ok (.aload_n 2, 1) := by decide +kernel
theorem dX8_perform_328 : decode cX8_perform 328 = .ok (.invokevirtual 68, 3) := by decide +kernel
theorem dX8_perform_331 : decode cX8_perform 331 = .ok (.invokevirtual 74, 3) := by decide +kernel
theorem dX8_perform_334 : decode cX8_perform 334 = .ok (.iconst 0, 1) := by decide +kernel
theorem dX8_perform_335 : decode cX8_perform 335 = .ok (.ireturn, 1) := by decide +kernel
theorem dX8_perform_336 : decode cX8_perform 336 = .ok (.aload_n 0, 1) := by decide +kernel
theorem dX8_perform_337 : decode cX8_perform 337 = .ok (.iload 4, 2) := by decide +kernel
theorem dX8_perform_339 : decode cX8_perform 339 = .ok (.iconst 1, 1) := by decide +kernel
theorem dX8_perform_340 : decode cX8_perform 340 = .ok (.aload_n 2, 1) := by decide +kernel
theorem dX8_perform_341 : decode cX8_perform 341 = .ok (.iload 5, 2) := by decide +kernel
theorem dX8_perform_343 : decode cX8_perform 343 = .ok (.invokevirtual 78, 3) := by decide +kernel
theorem dX8_perform_346 : decode cX8_perform 346 = .ok (.invokevirtual 74, 3) := by decide +kernel
theorem dX8_perform_349 : decode cX8_perform 349 = .ok (.iconst 0, 1) := by decide +kernel
theorem dX8_perform_350 : decode cX8_perform 350 = .ok (.ireturn, 1) := by decide +kernel
theorem dX8_perform_351 : decode cX8_perform 351 = .ok (.aload_n 0, 1) := by decide +kernel
theorem dX8_perform_352 : decode cX8_perform 352 = .ok (.aload_n 0, 1) := by decide +kernel
theorem dX8_perform_353 : decode cX8_perform 353 = .ok (.getfield 38, 3) := by decide +kernel
theorem dX8_perform_356 : decode cX8_perform 356 = .ok (.iload 4, 2) := by decide +kernel
theorem dX8_perform_358 : decode cX8_perform 358 = .ok (.invokevirtual 42, 3) := by decide +kernel
theorem dX8_perform_361 : decode cX8_perform 361 = .ok (.invokestatic 81, 3) := by decide +kernel
theorem dX8_perform_364 : decode cX8_perform 364 = .ok (.iconst 0, 1) := by decide +kernel
theorem dX8_perform_365 : decode cX8_perform 365 = .ok (.ireturn, 1) := by decide +kernel
theorem dX8_perform_366 : decode cX8_perform 366 = .ok (.aload_n 0, 1) := by decide +kernel
theorem dX8_perform_367 : decode cX8_perform 367 = .ok (.iload 4, 2) := by decide +kernel
theorem dX8_perform_369 : decode cX8_perform 369 = .ok (.invokevirtual 85, 3) := by decide +kernel
theorem dX8_perform_372 : decode cX8_perform 372 = .ok (.iconst 0, 1) := by decide +kernel
theorem dX8_perform_373 : decode cX8_perform 373 = .ok (.ireturn, 1) := by decide +kernel
theorem dX8_perform_374 : decode cX8_perform 374 = .ok (.aload_n 0, 1) := by decide +kernel
theorem dX8_perform_375 : decode cX8_perform 375 = .ok (.aload_n 0, 1) := by decide +kernel
theorem dX8_perform_376 : decode cX8_perform 376 = .ok (.getfield 38, 3) := by decide +kernel
theorem dX8_perform_379 : decode cX8_perform 379 = .ok (.iload 4, 2) := by decide +kernel
theorem dX8_perform_381 : decode cX8_perform 381 = .ok (.invokevirtual 42, 3) := by decide +kernel
theorem dX8_perform_384 : decode cX8_perform 384 = .ok (.iload 5, 2) := by decide +kernel
theorem dX8_perform_386 : decode cX8_perform 386 = .ok (.invokestatic 89, 3) := by decide +kernel
theorem dX8_perform_389 : decode cX8_perform 389 = .ok (.ireturn, 1) := by decide +kernel
theorem dX8_perform_390 : decode cX8_perform 390 = .ok (.aload_n 0, 1) := by decide +kernel
theorem dX8_perform_391 : decode cX8_perform 391 = .ok (.iload 4, 2) := by decide +kernel
theorem dX8_perform_393 : decode cX8_perform 393 = .ok (.invokestatic 92, 3) := by decide +kernel
theorem dX8_perform_396 : decode cX8_perform 396 = .ok (.ireturn, 1) := by decide +kernel
theorem dX8_perform_397 : decode cX8_perform 397 = .ok (.aload_n 0, 1) := by decide +kernel
theorem dX8_perform_398 : decode cX8_perform 398 = .ok (.invokestatic 96, 3) := by decide +kernel
theorem dX8_perform_401 : decode cX8_perform 401 = .ok (.iconst 0, 1) := by decide +kernel
theorem dX8_perform_402 : decode cX8_perform 402 = .ok (.ireturn, 1) := by decide +kernel
theorem dX8_perform_403 : decode cX8_perform 403 = .ok (.iconst 5, 1) := by decide +kernel
theorem dX8_perform_404 : decode cX8_perform 404 = .ok (.ireturn, 1) := by decide +kernel
theorem dX8_perform_405 : decode cX8_perform 405 = .ok (.aload_n 0, 1) := by decide +kernel
theorem dX8_perform_406 : decode cX8_perform 406 = .ok (.iload 4, 2) := by decide +kernel
theorem dX8_perform_408 : decode cX8_perform 408 = .ok (.aload_n 0, 1) := by decide +kernel
theorem dX8_perform_409 : decode cX8_perform 409 = .ok (.getfield 38, 3) := by decide +kernel
theorem dX8_perform_412 : decode cX8_perform 412 = .ok (.iload 5, 2) := by decide +kernel
theorem dX8_perform_414 : decode cX8_perform 414 = .ok (.invokevirtual 42, 3) := by decide +kernel
theorem dX8_perform_417 : decode cX8_perform 417 = .ok (.aload_n 0, 1) := by decide +kernel
theorem dX8_perform_418 : decode cX8_perform 418 = .ok (.getfield 38, 3) := by decide +kernel
theorem dX8_perform_421 : decode cX8_perform 421 = .ok (.iload 6, 2) := by decide +kernel
theorem dX8_perform_423 : decode cX8_perform 423 = .ok (.invokevirtual 42, 3) := by decide +kernel
theorem dX8_perform_426 : decode cX8_perform 426 = .ok (.iload_n 3, 1) := by decide +kernel
theorem dX8_perform_427 : decode cX8_perform 427 = .ok (.invokestatic 100, 3) := by decide +kernel
theorem dX8_perform_430 : decode cX8_perform 430 = .ok (.ireturn, 1) := by decide +kernel
theorem dX8_putOut_0 : decode cX8_putOut 0 = .ok (.aload_n 0, 1) := by decide +kernel
theorem dX8_putOut_1 : decode cX8_putOut 1 = .ok (.aload_n 0, 1) := by decide +kernel
theorem dX8_putOut_2 : decode cX8_putOut 2 = .ok (.getfield 38, 3) := by decide +kernel
theorem dX8_putOut_5 : decode cX8_putOut 5 = .ok (.iload_n 1, 1) := by decide +kernel
theorem dX8_putOut_6 : decode cX8_putOut 6 = .ok (.invokevirtual 103, 3) := by decide +kernel
theorem dX8_putOut_9 : decode cX8_putOut 9 = .ok (.aload_n 0, 1) := by decide +kernel
theorem dX8_putOut_10 : decode cX8_putOut 10 = .ok (.getfield 38, 3) := by decide +kernel
theorem dX8_putOut_13 : decode cX8_putOut 13 = .ok (.iload_n 1, 1) := by decide +kernel
theorem dX8_putOut_14 : decode cX8_putOut 14 = .ok (.invokevirtual 106, 3) := by decide +kernel
theorem dX8_putOut_17 : decode cX8_putOut 17 = .ok (.invokevirtual 109, 3) := by decide +kernel
theorem dX8_putOut_20 : decode cX8_putOut 20 = .ok (.return_, 1) := by decide +kernel
theorem dX8_copy_0 : decode cX8_copy 0 = .ok (.aload_n 0, 1) := by decide +kernel
theorem dX8_copy_1 : decode cX8_copy 1 = .ok (.iload_n 1, 1) := by decide +kernel
theorem dX8_copy_2 : decode cX8_copy 2 = .ok (.aload_n 0, 1) := by decide +kernel
theorem dX8_copy_3 : decode cX8_copy 3 = .ok (.getfield 38, 3) := by decide +kernel
theorem dX8_copy_6 : decode cX8_copy 6 = .ok (.iload_n 2, 1) := by decide +kernel
theorem dX8_copy_7 : decode cX8_copy 7 = .ok (.invokevirtual 103, 3) := by decide +kernel
theorem dX8_copy_10 : decode cX8_copy 10 = .ok (.aload_n 0, 1) := by decide +kernel
theorem dX8_copy_11 : decode cX8_copy 11 = .ok (.getfield 38, 3) := by decide +kernel
theorem dX8_copy_14 : decode cX8_copy 14 = .ok (.iload_n 2, 1) := by decide +kernel
theorem dX8_copy_15 : decode cX8_copy 15 = .ok (.invokevirtual 106, 3) := by decide +kernel
theorem dX8_copy_18 : decode cX8_copy 18 = .ok (.iload_n 2, 1) := by decide +kernel
theorem dX8_copy_19 : decode cX8_copy 19 = .ok (.iconst (-1), 1) := by decide +kernel
theorem dX8_copy_20 : decode cX8_copy 20 = .ok (.invokevirtual 34, 3) := by decide +kernel
theorem dX8_copy_23 : decode cX8_copy 23 = .ok (.return_, 1) := by decide +kernel
theorem dX8_compare_0 : decode cX8_compare 0 = .ok (.aload_n 0, 1) := by decide +kernel
theorem dX8_compare_1 : decode cX8_compare 1 = .ok (.getfield 38, 3) := by decide +kernel
theorem dX8_compare_4 : decode cX8_compare 4 = .ok (.iload_n 2, 1) := by decide +kernel
theorem dX8_compare_5 : decode cX8_compare 5 = .ok (.aload_n 0, 1) := by decide +kernel
theorem dX8_compare_6 : decode cX8_compare 6 = .ok (.getfield 38, 3) := by decide +kernel
theorem dX8_compare_9 : decode cX8_compare 9 = .ok (.iload_n 3, 1) := by decide +kernel
theorem dX8_compare_10 : decode cX8_compare 10 = .ok (.invokevirtual 103, 3) := by decide +kernel
theorem dX8_compare_13 : decode cX8_compare 13 = .ok (.aload_n 0, 1) := by decide +kernel
theorem dX8_compare_14 : decode cX8_compare 14 = .ok (.getfield 38, 3) := by decide +kernel
theorem dX8_compare_17 : decode cX8_compare 17 = .ok (.iload_n 3, 1) := by decide +kernel
theorem dX8_compare_18 : decode cX8_compare 18 = .ok (.invokevirtual 106, 3) := by decide +kernel
theorem dX8_compare_21 : decode cX8_compare 21 = .ok (.invokevirtual 113, 3) := by decide +kernel
theorem dX8_compare_24 : decode cX8_compare 24 = .ok (.istore 4, 2) := by decide +kernel
theorem dX8_compare_26 : decode cX8_compare 26 = .ok (.aload_n 0, 1) := by decide +kernel
theorem dX8_compare_27 : decode cX8_compare 27 = .ok (.iload_n 1, 1) := by decide +kernel
theorem dX8_compare_28 : decode cX8_compare 28 = .ok (.iconst 1, 1) := by decide +kernel
theorem dX8_compare_29 : decode cX8_compare 29 = .ok (.iload 4, 2) := by decide +kernel
theorem dX8_compare_31 : decode cX8_compare 31 = .ok (.ifCond .eq 7, 3) := by decide +kernel
theorem dX8_compare_34 : decode cX8_compare 34 = .ok (.iconst 1, 1) := by decide +kernel
theorem dX8_compare_35 : decode cX8_compare 35 = .ok (.goto 4, 3) := by decide +kernel
theorem dX8_compare_38 : decode cX8_compare 38 = .ok (.iconst 0, 1) := by decide +kernel
theorem dX8_compare_39 : decode cX8_compare 39 = .ok (.iload_n 2, 1) := by decide +kernel
theorem dX8_compare_40 : decode cX8_compare 40 = .ok (.iload_n 3, 1) := by decide +kernel
theorem dX8_compare_41 : decode cX8_compare 41 = .ok (.invokevirtual 34, 3) := by decide +kernel
theorem dX8_compare_44 : decode cX8_compare 44 = .ok (.return_, 1) := by decide +kernel
theorem dX8_combine_0 : decode cX8_combine 0 = .ok (.aload_n 0, 1) := by decide +kernel
theorem dX8_combine_1 : decode cX8_combine 1 = .ok (.getfield 38, 3) := by decide +kernel
theorem dX8_combine_4 : decode cX8_combine 4 = .ok (.iload_n 2, 1) := by decide +kernel
theorem dX8_combine_5 : decode cX8_combine 5 = .ok (.invokevirtual 103, 3) := by decide +kernel
theorem dX8_combine_8 : decode cX8_combine 8 = .ok (.iconst 1, 1) := by decide +kernel
theorem dX8_combine_9 : decode cX8_combine 9 = .ok (.if_icmp .ne 22, 3) := by decide +kernel
theorem dX8_combine_12 : decode cX8_combine 12 = .ok (.iload 4, 2) := by decide +kernel
theorem dX8_combine_14 : decode cX8_combine 14 = .ok (.bipush 12, 2) := by decide +kernel
theorem dX8_combine_16 : decode cX8_combine 16 = .ok (.if_icmp .ne 17, 3) := by decide +kernel
theorem dX8_combine_19 : decode cX8_combine 19 = .ok (.aload_n 0, 1) := by decide +kernel
theorem dX8_combine_20 : decode cX8_combine 20 = .ok (.getfield 38, 3) := by decide +kernel
theorem dX8_combine_23 : decode cX8_combine 23 = .ok (.iload_n 3, 1) := by decide +kernel
theorem dX8_combine_24 : decode cX8_combine 24 = .ok (.invokevirtual 103, 3) := by decide +kernel
theorem dX8_combine_27 : decode cX8_combine 27 = .ok (.iconst 1, 1) := by decide +kernel
theorem dX8_combine_28 : decode cX8_combine 28 = .ok (.if_icmp .eq 5, 3) := by decide +kernel
theorem dX8_combine_31 : decode cX8_combine 31 = .ok (.iconst 1, 1) := by decide +kernel
theorem dX8_combine_32 : decode cX8_combine 32 = .ok (.ireturn, 1) := by decide +kernel
theorem dX8_combine_33 : decode cX8_combine 33 = .ok (.aload_n 0, 1) := by decide +kernel
theorem dX8_combine_34 : decode cX8_combine 34 = .ok (.getfield 38, 3) := by decide +kernel
theorem dX8_combine_37 : decode cX8_combine 37 = .ok (.iload_n 2, 1) := by decide +kernel
theorem dX8_combine_38 : decode cX8_combine 38 = .ok (.invokevirtual 106, 3) := by decide +kernel
theorem dX8_combine_41 : decode cX8_combine 41 = .ok (.istore 5, 2) := by decide +kernel
theorem dX8_combine_43 : decode cX8_combine 43 = .ok (.iload 4, 2) := by decide +kernel
theorem dX8_combine_45 : decode cX8_combine 45 = .ok (.bipush 11, 2) := by decide +kernel
theorem dX8_combine_47 : decode cX8_combine 47 = .ok (.if_icmp .ne 10, 3) := by decide +kernel
theorem dX8_combine_50 : decode cX8_combine 50 = .ok (.iconst 1, 1) := by decide +kernel
theorem dX8_combine_51 : decode cX8_combine 51 = .ok (.iload 5, 2) := by decide +kernel
theorem dX8_combine_53 : decode cX8_combine 53 = .ok (.isub, 1) := by decide +kernel
theorem dX8_combine_54 : decode cX8_combine 54 = .ok (.goto 14, 3) := by decide +kernel
theorem dX8_combine_57 : decode cX8_combine 57 = .ok (.iload 5, 2) := by decide +kernel
theorem dX8_combine_59 : decode cX8_combine 59 = .ok (.aload_n 0, 1) := by decide +kernel
theorem dX8_combine_60 : decode cX8_combine 60 = .ok (.getfield 38, 3) := by decide +kernel
theorem dX8_combine_63 : decode cX8_combine 63 = .ok (.iload_n 3, 1) := by decide +kernel
theorem dX8_combine_64 : decode cX8_combine 64 = .ok (.invokevirtual 106, 3) := by decide +kernel
theorem dX8_combine_67 : decode cX8_combine 67 = .ok (.iand, 1) := by decide +kernel
theorem dX8_combine_68 : decode cX8_combine 68 = .ok (.istore 6, 2) := by decide +kernel
theorem dX8_combine_70 : decode cX8_combine 70 = .ok (.aload_n 0, 1) := by decide +kernel
theorem dX8_combine_71 : decode cX8_combine 71 = .ok (.iload_n 1, 1) := by decide +kernel
theorem dX8_combine_72 : decode cX8_combine 72 = .ok (.iconst 1, 1) := by decide +kernel
theorem dX8_combine_73 : decode cX8_combine 73 = .ok (.iload 6, 2) := by decide +kernel
theorem dX8_combine_75 : decode cX8_combine 75 = .ok (.iload_n 2, 1) := by decide +kernel
theorem dX8_combine_76 : decode cX8_combine 76 = .ok (.iload_n 3, 1) := by decide +kernel
theorem dX8_combine_77 : decode cX8_combine 77 = .ok (.invokevirtual 34, 3) := by decide +kernel
theorem dX8_combine_80 : decode cX8_combine 80 = .ok (.iconst 0, 1) := by decide +kernel
theorem dX8_combine_81 : decode cX8_combine 81 = .ok (.ireturn, 1) := by decide +kernel
theorem dX8_fromCell_0 : decode cX8_fromCell 0 = .ok (.aload_n 0, 1) := by decide +kernel
theorem dX8_fromCell_1 : decode cX8_fromCell 1 = .ok (.getfield 38, 3) := by decide +kernel
theorem dX8_fromCell_4 : decode cX8_fromCell 4 = .ok (.iload_n 2, 1) := by decide +kernel
theorem dX8_fromCell_5 : decode cX8_fromCell 5 = .ok (.invokevirtual 103, 3) := by decide +kernel
theorem dX8_fromCell_8 : decode cX8_fromCell 8 = .ok (.iconst 2, 1) := by decide +kernel
theorem dX8_fromCell_9 : decode cX8_fromCell 9 = .ok (.if_icmp .eq 5, 3) := by decide +kernel
theorem dX8_fromCell_12 : decode cX8_fromCell 12 = .ok (.iconst 1, 1) := by decide +kernel
theorem dX8_fromCell_13 : decode cX8_fromCell 13 = .ok (.ireturn, 1) := by decide +kernel
theorem dX8_fromCell_14 : decode cX8_fromCell 14 = .ok (.aload_n 0, 1) := by decide +kernel
theorem dX8_fromCell_15 : decode cX8_fromCell 15 = .ok (.getfield 38, 3) := by decide +kernel
theorem dX8_fromCell_18 : decode cX8_fromCell 18 = .ok (.iload_n 2, 1) := by decide +kernel
theorem dX8_fromCell_19 : decode cX8_fromCell 19 = .ok (.invokevirtual 106, 3) := by decide +kernel
theorem dX8_fromCell_22 : decode cX8_fromCell 22 = .ok (.istore_n 3, 1) := by decide +kernel
theorem dX8_fromCell_23 : decode cX8_fromCell 23 = .ok (.iload_n 3, 1) := by decide +kernel
theorem dX8_fromCell_24 : decode cX8_fromCell 24 = .ok (.ifCond .lt 9, 3) := by decide +kernel
theorem dX8_fromCell_27 : decode cX8_fromCell 27 = .ok (.iload_n 3, 1) := by decide +kernel
theorem dX8_fromCell_28 : decode cX8_fromCell 28 = .ok (.bipush 32, 2) := by decide +kernel
theorem dX8_fromCell_30 : decode cX8_fromCell 30 = .ok (.if_icmp .lt 5, 3) := by decide +kernel
theorem dX8_fromCell_33 : decode cX8_fromCell 33 = .ok (.iconst 3, 1) := by decide +kernel
theorem dX8_fromCell_34 : decode cX8_fromCell 34 = .ok (.ireturn, 1) := by decide +kernel
theorem dX8_fromCell_35 : decode cX8_fromCell 35 = .ok (.aload_n 0, 1) := by decide +kernel
theorem dX8_fromCell_36 : decode cX8_fromCell 36 = .ok (.getfield 38, 3) := by decide +kernel
theorem dX8_fromCell_39 : decode cX8_fromCell 39 = .ok (.bipush 8, 2) := by decide +kernel
theorem dX8_fromCell_41 : decode cX8_fromCell 41 = .ok (.iload_n 3, 1) := by decide +kernel
theorem dX8_fromCell_42 : decode cX8_fromCell 42 = .ok (.iadd, 1) := by decide +kernel
theorem dX8_fromCell_43 : decode cX8_fromCell 43 = .ok (.invokevirtual 42, 3) := by decide +kernel
theorem dX8_fromCell_46 : decode cX8_fromCell 46 = .ok (.istore 4, 2) := by decide +kernel
theorem dX8_fromCell_48 : decode cX8_fromCell 48 = .ok (.aload_n 0, 1) := by decide +kernel
theorem dX8_fromCell_49 : decode cX8_fromCell 49 = .ok (.iload_n 1, 1) := by decide +kernel
theorem dX8_fromCell_50 : decode cX8_fromCell 50 = .ok (.aload_n 0, 1) := by decide +kernel
theorem dX8_fromCell_51 : decode cX8_fromCell 51 = .ok (.getfield 38, 3) := by decide +kernel
theorem dX8_fromCell_54 : decode cX8_fromCell 54 = .ok (.iload 4, 2) := by decide +kernel
theorem dX8_fromCell_56 : decode cX8_fromCell 56 = .ok (.invokevirtual 103, 3) := by decide +kernel
theorem dX8_fromCell_59 : decode cX8_fromCell 59 = .ok (.aload_n 0, 1) := by decide +kernel
theorem dX8_fromCell_60 : decode cX8_fromCell 60 = .ok (.getfield 38, 3) := by decide +kernel
theorem dX8_fromCell_63 : decode cX8_fromCell 63 = .ok (.iload 4, 2) := by decide +kernel
theorem dX8_fromCell_65 : decode cX8_fromCell 65 = .ok (.invokevirtual 106, 3) := by decide +kernel
theorem dX8_fromCell_68 : decode cX8_fromCell 68 = .ok (.iload_n 2, 1) := by decide +kernel
theorem dX8_fromCell_69 : decode cX8_fromCell 69 = .ok (.iload 4, 2) := by decide +kernel
theorem dX8_fromCell_71 : decode cX8_fromCell 71 = .ok (.invokevirtual 34, 3) := by decide +kernel
theorem dX8_fromCell_74 : decode cX8_fromCell 74 = .ok (.iconst 0, 1) := by decide +kernel
theorem dX8_fromCell_75 : decode cX8_fromCell 75 = .ok (.ireturn, 1) := by decide +kernel
theorem dX8_toCell_0 : decode cX8_toCell 0 = .ok (.aload_n 0, 1) := by decide +kernel
theorem dX8_toCell_1 : decode cX8_toCell 1 = .ok (.getfield 38, 3) := by decide +kernel
theorem dX8_toCell_4 : decode cX8_toCell 4 = .ok (.iload_n 1, 1) := by decide +kernel
theorem dX8_toCell_5 : decode cX8_toCell 5 = .ok (.invokevirtual 103, 3) := by decide +kernel
theorem dX8_toCell_8 : decode cX8_toCell 8 = .ok (.iconst 2, 1) := by decide +kernel
theorem dX8_toCell_9 : decode cX8_toCell 9 = .ok (.if_icmp .eq 5, 3) := by decide +kernel
theorem dX8_toCell_12 : decode cX8_toCell 12 = .ok (.iconst 1, 1) := by decide +kernel
theorem dX8_toCell_13 : decode cX8_toCell 13 = .ok (.ireturn, 1) := by decide +kernel
theorem dX8_toCell_14 : decode cX8_toCell 14 = .ok (.aload_n 0, 1) := by decide +kernel
theorem dX8_toCell_15 : decode cX8_toCell 15 = .ok (.getfield 38, 3) := by decide +kernel
theorem dX8_toCell_18 : decode cX8_toCell 18 = .ok (.iload_n 1, 1) := by decide +kernel
theorem dX8_toCell_19 : decode cX8_toCell 19 = .ok (.invokevirtual 106, 3) := by decide +kernel
theorem dX8_toCell_22 : decode cX8_toCell 22 = .ok (.istore_n 3, 1) := by decide +kernel
theorem dX8_toCell_23 : decode cX8_toCell 23 = .ok (.iload_n 3, 1) := by decide +kernel
theorem dX8_toCell_24 : decode cX8_toCell 24 = .ok (.ifCond .lt 9, 3) := by decide +kernel
theorem dX8_toCell_27 : decode cX8_toCell 27 = .ok (.iload_n 3, 1) := by decide +kernel
theorem dX8_toCell_28 : decode cX8_toCell 28 = .ok (.bipush 32, 2) := by decide +kernel
theorem dX8_toCell_30 : decode cX8_toCell 30 = .ok (.if_icmp .lt 5, 3) := by decide +kernel
theorem dX8_toCell_33 : decode cX8_toCell 33 = .ok (.iconst 3, 1) := by decide +kernel
theorem dX8_toCell_34 : decode cX8_toCell 34 = .ok (.ireturn, 1) := by decide +kernel
theorem dX8_toCell_35 : decode cX8_toCell 35 = .ok (.aload_n 0, 1) := by decide +kernel
theorem dX8_toCell_36 : decode cX8_toCell 36 = .ok (.bipush 8, 2) := by decide +kernel
theorem dX8_toCell_38 : decode cX8_toCell 38 = .ok (.iload_n 3, 1) := by decide +kernel
theorem dX8_toCell_39 : decode cX8_toCell 39 = .ok (.iadd, 1) := by decide +kernel
theorem dX8_toCell_40 : decode cX8_toCell 40 = .ok (.aload_n 0, 1) := by decide +kernel
theorem dX8_toCell_41 : decode cX8_toCell 41 = .ok (.getfield 38, 3) := by decide +kernel
theorem dX8_toCell_44 : decode cX8_toCell 44 = .ok (.iload_n 2, 1) := by decide +kernel
theorem dX8_toCell_45 : decode cX8_toCell 45 = .ok (.invokevirtual 103, 3) := by decide +kernel
theorem dX8_toCell_48 : decode cX8_toCell 48 = .ok (.aload_n 0, 1) := by decide +kernel
theorem dX8_toCell_49 : decode cX8_toCell 49 = .ok (.getfield 38, 3) := by decide +kernel
theorem dX8_toCell_52 : decode cX8_toCell 52 = .ok (.iload_n 2, 1) := by decide +kernel
theorem dX8_toCell_53 : decode cX8_toCell 53 = .ok (.invokevirtual 106, 3) := by decide +kernel
theorem dX8_toCell_56 : decode cX8_toCell 56 = .ok (.iload_n 1, 1) := by decide +kernel
theorem dX8_toCell_57 : decode cX8_toCell 57 = .ok (.iload_n 2, 1) := by decide +kernel
theorem dX8_toCell_58 : decode cX8_toCell 58 = .ok (.invokevirtual 34, 3) := by decide +kernel
theorem dX8_toCell_61 : decode cX8_toCell 61 = .ok (.iconst 0, 1) := by decide +kernel
theorem dX8_toCell_62 : decode cX8_toCell 62 = .ok (.ireturn, 1) := by decide +kernel
theorem dX8_goOnIf_0 : decode cX8_goOnIf 0 = .ok (.aload_n 0, 1) := by decide +kernel
theorem dX8_goOnIf_1 : decode cX8_goOnIf 1 = .ok (.getfield 38, 3) := by decide +kernel
theorem dX8_goOnIf_4 : decode cX8_goOnIf 4 = .ok (.iload_n 1, 1) := by decide +kernel
theorem dX8_goOnIf_5 : decode cX8_goOnIf 5 = .ok (.invokevirtual 103, 3) := by decide +kernel
theorem dX8_goOnIf_8 : decode cX8_goOnIf 8 = .ok (.iconst 1, 1) := by decide +kernel
theorem dX8_goOnIf_9 : decode cX8_goOnIf 9 = .ok (.if_icmp .eq 5, 3) := by decide +kernel
theorem dX8_goOnIf_12 : decode cX8_goOnIf 12 = .ok (.iconst 1, 1) := by decide +kernel
theorem dX8_goOnIf_13 : decode cX8_goOnIf 13 = .ok (.ireturn, 1) := by decide +kernel
theorem dX8_goOnIf_14 : decode cX8_goOnIf 14 = .ok (.aload_n 0, 1) := by decide +kernel
theorem dX8_goOnIf_15 : decode cX8_goOnIf 15 = .ok (.getfield 38, 3) := by decide +kernel
theorem dX8_goOnIf_18 : decode cX8_goOnIf 18 = .ok (.iload_n 1, 1) := by decide +kernel
theorem dX8_goOnIf_19 : decode cX8_goOnIf 19 = .ok (.invokevirtual 106, 3) := by decide +kernel
theorem dX8_goOnIf_22 : decode cX8_goOnIf 22 = .ok (.iconst 1, 1) := by decide +kernel
theorem dX8_goOnIf_23 : decode cX8_goOnIf 23 = .ok (.if_icmp .ne 8, 3) := by decide +kernel
theorem dX8_goOnIf_26 : decode cX8_goOnIf 26 = .ok (.aload_n 0, 1) := by decide +kernel
theorem dX8_goOnIf_27 : decode cX8_goOnIf 27 = .ok (.iload_n 2, 1) := by decide +kernel
theorem dX8_goOnIf_28 : decode cX8_goOnIf 28 = .ok (.invokevirtual 85, 3) := by decide +kernel
theorem dX8_goOnIf_31 : decode cX8_goOnIf 31 = .ok (.iconst 0, 1) := by decide +kernel
theorem dX8_goOnIf_32 : decode cX8_goOnIf 32 = .ok (.ireturn, 1) := by decide +kernel
theorem dX8_goDown_0 : decode cX8_goDown 0 = .ok (.aload_n 0, 1) := by decide +kernel
theorem dX8_goDown_1 : decode cX8_goDown 1 = .ok (.aload_n 0, 1) := by decide +kernel
theorem dX8_goDown_2 : decode cX8_goDown 2 = .ok (.getfield 117, 3) := by decide +kernel
theorem dX8_goDown_5 : decode cX8_goDown 5 = .ok (.invokevirtual 120, 3) := by decide +kernel
theorem dX8_goDown_8 : decode cX8_goDown 8 = .ok (.istore_n 2, 1) := by decide +kernel
theorem dX8_goDown_9 : decode cX8_goDown 9 = .ok (.iload_n 2, 1) := by decide +kernel
theorem dX8_goDown_10 : decode cX8_goDown 10 = .ok (.bipush 8, 2) := by decide +kernel
theorem dX8_goDown_12 : decode cX8_goDown 12 = .ok (.if_icmp .lt 5, 3) := by decide +kernel
theorem dX8_goDown_15 : decode cX8_goDown 15 = .ok (.iconst 4, 1) := by decide +kernel
theorem dX8_goDown_16 : decode cX8_goDown 16 = .ok (.ireturn, 1) := by decide +kernel
theorem dX8_goDown_17 : decode cX8_goDown 17 = .ok (.aload_n 0, 1) := by decide +kernel
theorem dX8_goDown_18 : decode cX8_goDown 18 = .ok (.getfield 123, 3) := by decide +kernel
theorem dX8_goDown_21 : decode cX8_goDown 21 = .ok (.aload_n 0, 1) := by decide +kernel
theorem dX8_goDown_22 : decode cX8_goDown 22 = .ok (.getfield 117, 3) := by decide +kernel
theorem dX8_goDown_25 : decode cX8_goDown 25 = .ok (.iload_n 1, 1) := by decide +kernel
theorem dX8_goDown_26 : decode cX8_goDown 26 = .ok (.iload_n 2, 1) := by decide +kernel
theorem dX8_goDown_27 : decode cX8_goDown 27 = .ok (.invokevirtual 127, 3) := by decide +kernel
theorem dX8_goDown_30 : decode cX8_goDown 30 = .ok (.aload_n 0, 1) := by decide +kernel
theorem dX8_goDown_31 : decode cX8_goDown 31 = .ok (.invokevirtual 132, 3) := by decide +kernel
theorem dX8_goDown_34 : decode cX8_goDown 34 = .ok (.aload_n 0, 1) := by decide +kernel
theorem dX8_goDown_35 : decode cX8_goDown 35 = .ok (.iload_n 1, 1) := by decide +kernel
theorem dX8_goDown_36 : decode cX8_goDown 36 = .ok (.invokevirtual 85, 3) := by decide +kernel
theorem dX8_goDown_39 : decode cX8_goDown 39 = .ok (.iconst 0, 1) := by decide +kernel
theorem dX8_goDown_40 : decode cX8_goDown 40 = .ok (.ireturn, 1) := by decide +kernel
theorem dX8_goUp_0 : decode cX8_goUp 0 = .ok (.aload_n 0, 1) := by decide +kernel
theorem dX8_goUp_1 : decode cX8_goUp 1 = .ok (.aload_n 0, 1) := by decide +kernel
theorem dX8_goUp_2 : decode cX8_goUp 2 = .ok (.getfield 117, 3) := by decide +kernel
theorem dX8_goUp_5 : decode cX8_goUp 5 = .ok (.invokevirtual 120, 3) := by decide +kernel
theorem dX8_goUp_8 : decode cX8_goUp 8 = .ok (.istore_n 1, 1) := by decide +kernel
theorem dX8_goUp_9 : decode cX8_goUp 9 = .ok (.iload_n 1, 1) := by decide +kernel
theorem dX8_goUp_10 : decode cX8_goUp 10 = .ok (.ifCond .ne 9, 3) := by decide +kernel
theorem dX8_goUp_13 : decode cX8_goUp 13 = .ok (.aload_n 0, 1) := by decide +kernel
theorem dX8_goUp_14 : decode cX8_goUp 14 = .ok (.iconst 2, 1) := by decide +kernel
theorem dX8_goUp_15 : decode cX8_goUp 15 = .ok (.putfield 30, 3) := by decide +kernel
theorem dX8_goUp_18 : decode cX8_goUp 18 = .ok (.return_, 1) := by decide +kernel
theorem dX8_goUp_19 : decode cX8_goUp 19 = .ok (.aload_n 0, 1) := by decide +kernel
theorem dX8_goUp_20 : decode cX8_goUp 20 = .ok (.aload_n 0, 1) := by decide +kernel
theorem dX8_goUp_21 : decode cX8_goUp 21 = .ok (.aload_n 0, 1) := by decide +kernel
theorem dX8_goUp_22 : decode cX8_goUp 22 = .ok (.getfield 117, 3) := by decide +kernel
theorem dX8_goUp_25 : decode cX8_goUp 25 = .ok (.iload_n 1, 1) := by decide +kernel
theorem dX8_goUp_26 : decode cX8_goUp 26 = .ok (.iconst 1, 1) := by decide +kernel
theorem dX8_goUp_27 : decode cX8_goUp 27 = .ok (.isub, 1) := by decide +kernel
theorem dX8_goUp_28 : decode cX8_goUp 28 = .ok (.invokevirtual 135, 3) := by decide +kernel
theorem dX8_goUp_31 : decode cX8_goUp 31 = .ok (.invokevirtual 85, 3) := by decide +kernel
theorem dX8_goUp_34 : decode cX8_goUp 34 = .ok (.aload_n 0, 1) := by decide +kernel
theorem dX8_goUp_35 : decode cX8_goUp 35 = .ok (.invokevirtual 139, 3) := by decide +kernel
theorem dX8_goUp_38 : decode cX8_goUp 38 = .ok (.return_, 1) := by decide +kernel
theorem dX8_reckon_0 : decode cX8_reckon 0 = .ok (.aload_n 0, 1) := by decide +kernel
theorem dX8_reckon_1 : decode cX8_reckon 1 = .ok (.getfield 38, 3) := by decide +kernel
theorem dX8_reckon_4 : decode cX8_reckon 4 = .ok (.iload_n 2, 1) := by decide +kernel
theorem dX8_reckon_5 : decode cX8_reckon 5 = .ok (.invokevirtual 103, 3) := by decide +kernel
theorem dX8_reckon_8 : decode cX8_reckon 8 = .ok (.iconst 2, 1) := by decide +kernel
theorem dX8_reckon_9 : decode cX8_reckon 9 = .ok (.if_icmp .ne 15, 3) := by decide +kernel
theorem dX8_reckon_12 : decode cX8_reckon 12 = .ok (.aload_n 0, 1) := by decide +kernel
theorem dX8_reckon_13 : decode cX8_reckon 13 = .ok (.getfield 38, 3) := by decide +kernel
theorem dX8_reckon_16 : decode cX8_reckon 16 = .ok (.iload_n 3, 1) := by decide +kernel
theorem dX8_reckon_17 : decode cX8_reckon 17 = .ok (.invokevirtual 103, 3) := by decide +kernel
theorem dX8_reckon_20 : decode cX8_reckon 20 = .ok (.iconst 2, 1) := by decide +kernel
theorem dX8_reckon_21 : decode cX8_reckon 21 = .ok (.if_icmp .eq 5, 3) := by decide +kernel
theorem dX8_reckon_24 : decode cX8_reckon 24 = .ok (.iconst 1, 1) := by decide +kernel
theorem dX8_reckon_25 : decode cX8_reckon 25 = .ok (.ireturn, 1) := by decide +kernel
theorem dX8_reckon_26 : decode cX8_reckon 26 = .ok (.aload_n 0, 1) := by decide +kernel
theorem dX8_reckon_27 : decode cX8_reckon 27 = .ok (.getfield 38, 3) := by decide +kernel
theorem dX8_reckon_30 : decode cX8_reckon 30 = .ok (.iload_n 2, 1) := by decide +kernel
theorem dX8_reckon_31 : decode cX8_reckon 31 = .ok (.invokevirtual 106, 3) := by decide +kernel
theorem dX8_reckon_34 : decode cX8_reckon 34 = .ok (.istore 5, 2) := by decide +kernel
theorem dX8_reckon_36 : decode cX8_reckon 36 = .ok (.aload_n 0, 1) := by decide +kernel
theorem dX8_reckon_37 : decode cX8_reckon 37 = .ok (.getfield 38, 3) := by decide +kernel
theorem dX8_reckon_40 : decode cX8_reckon 40 = .ok (.iload_n 3, 1) := by decide +kernel
theorem dX8_reckon_41 : decode cX8_reckon 41 = .ok (.invokevirtual 106, 3) := by decide +kernel
theorem dX8_reckon_44 : decode cX8_reckon 44 = .ok (.istore 6, 2) := by decide +kernel
theorem dX8_reckon_46 : decode cX8_reckon 46 = .ok (.iload 4, 2) := by decide +kernel
theorem dX8_reckon_48 : decode cX8_reckon 48 = .ok (.bipush 7, 2) := by decide +kernel
theorem dX8_reckon_50 : decode cX8_reckon 50 = .ok (.if_icmp .eq 10, 3) := by decide +kernel
theorem dX8_reckon_53 : decode cX8_reckon 53 = .ok (.iload 4, 2) := by decide +kernel
theorem dX8_reckon_55 : decode cX8_reckon 55 = .ok (.bipush 8, 2) := by decide +kernel
theorem dX8_reckon_57 : decode cX8_reckon 57 = .ok (.if_icmp .ne 10, 3) := by decide +kernel
theorem dX8_reckon_60 : decode cX8_reckon 60 = .ok (.iload 6, 2) := by decide +kernel
theorem dX8_reckon_62 : decode cX8_reckon 62 = .ok (.ifCond .ne 5, 3) := by decide +kernel
theorem dX8_reckon_65 : decode cX8_reckon 65 = .ok (.iconst 2, 1) := by decide +kernel
theorem dX8_reckon_66 : decode cX8_reckon 66 = .ok (.ireturn, 1) := by decide +kernel
theorem dX8_reckon_67 : decode cX8_reckon 67 = .ok (.iload 4, 2) := by decide +kernel
theorem dX8_reckon_69 : decode cX8_reckon 69 = .ok (.bipush 9, 2) := by decide +kernel
theorem dX8_reckon_71 : decode cX8_reckon 71 = .ok (.if_icmp .ne 26, 3) := by decide +kernel
theorem dX8_reckon_74 : decode cX8_reckon 74 = .ok (.aload_n 0, 1) := by decide +kernel
theorem dX8_reckon_75 : decode cX8_reckon 75 = .ok (.iload_n 1, 1) := by decide +kernel
theorem dX8_reckon_76 : decode cX8_reckon 76 = .ok (.iconst 1, 1) := by decide +kernel
theorem dX8_reckon_77 : decode cX8_reckon 77 = .ok (.iload 5, 2) := by decide +kernel
theorem dX8_reckon_79 : decode cX8_reckon 79 = .ok (.iload 6, 2) := by decide +kernel
theorem dX8_reckon_81 : decode cX8_reckon 81 = .ok (.if_icmp .ge 7, 3) := by decide +kernel
theorem dX8_reckon_84 : decode cX8_reckon 84 = .ok (.iconst 1, 1) := by decide +kernel
theorem dX8_reckon_85 : decode cX8_reckon 85 = .ok (.goto 4, 3) := by decide +kernel
theorem dX8_reckon_88 : decode cX8_reckon 88 = .ok (.iconst 0, 1) := by decide +kernel
theorem dX8_reckon_89 : decode cX8_reckon 89 = .ok (.iload_n 2, 1) := by decide +kernel
theorem dX8_reckon_90 : decode cX8_reckon 90 = .ok (.iload_n 3, 1) := by decide +kernel
theorem dX8_reckon_91 : decode cX8_reckon 91 = .ok (.invokevirtual 34, 3) := by decide +kernel
theorem dX8_reckon_94 : decode cX8_reckon 94 = .ok (.goto 20, 3) := by decide +kernel
theorem dX8_reckon_97 : decode cX8_reckon 97 = .ok (.aload_n 0, 1) := by decide +kernel
theorem dX8_reckon_98 : decode cX8_reckon 98 = .ok (.iload_n 1, 1) := by decide +kernel
theorem dX8_reckon_99 : decode cX8_reckon 99 = .ok (.iconst 2, 1) := by decide +kernel
theorem dX8_reckon_100 : decode cX8_reckon 100 = .ok (.iload 4, 2) := by decide +kernel
theorem dX8_reckon_102 : decode cX8_reckon 102 = .ok (.iload 5, 2) := by decide +kernel
theorem dX8_reckon_104 : decode cX8_reckon 104 = .ok (.iload 6, 2) := by decide +kernel
theorem dX8_reckon_106 : decode cX8_reckon 106 = .ok (.invokestatic 142, 3) := by decide +kernel
theorem dX8_reckon_109 : decode cX8_reckon 109 = .ok (.iload_n 2, 1) := by decide +kernel
theorem dX8_reckon_110 : decode cX8_reckon 110 = .ok (.iload_n 3, 1) := by decide +kernel
theorem dX8_reckon_111 : decode cX8_reckon 111 = .ok (.invokevirtual 34, 3) := by decide +kernel
theorem dX8_reckon_114 : decode cX8_reckon 114 = .ok (.iconst 0, 1) := by decide +kernel
theorem dX8_reckon_115 : decode cX8_reckon 115 = .ok (.ireturn, 1) := by decide +kernel
theorem dX8_reckoned_0 : decode cX8_reckoned 0 = .ok (.iload_n 0, 1) := by decide +kernel
theorem dX8_reckoned_1 : decode cX8_reckoned 1 = .ok (.tableswitch 55 4 7 #[31, 35, 39, 43], 31) := by decide +kernel
theorem dX8_reckoned_32 : decode cX8_reckoned 32 = .ok (.iload_n 1, 1) := by decide +kernel
theorem dX8_reckoned_33 : decode cX8_reckoned 33 = .ok (.iload_n 2, 1) := by decide +kernel
theorem dX8_reckoned_34 : decode cX8_reckoned 34 = .ok (.iadd, 1) := by decide +kernel
theorem dX8_reckoned_35 : decode cX8_reckoned 35 = .ok (.ireturn, 1) := by decide +kernel
theorem dX8_reckoned_36 : decode cX8_reckoned 36 = .ok (.iload_n 1, 1) := by decide +kernel
theorem dX8_reckoned_37 : decode cX8_reckoned 37 = .ok (.iload_n 2, 1) := by decide +kernel
theorem dX8_reckoned_38 : decode cX8_reckoned 38 = .ok (.isub, 1) := by decide +kernel
theorem dX8_reckoned_39 : decode cX8_reckoned 39 = .ok (.ireturn, 1) := by decide +kernel
theorem dX8_reckoned_40 : decode cX8_reckoned 40 = .ok (.iload_n 1, 1) := by decide +kernel
theorem dX8_reckoned_41 : decode cX8_reckoned 41 = .ok (.iload_n 2, 1) := by decide +kernel
theorem dX8_reckoned_42 : decode cX8_reckoned 42 = .ok (.imul, 1) := by decide +kernel
theorem dX8_reckoned_43 : decode cX8_reckoned 43 = .ok (.ireturn, 1) := by decide +kernel
theorem dX8_reckoned_44 : decode cX8_reckoned 44 = .ok (.iload_n 2, 1) := by decide +kernel
theorem dX8_reckoned_45 : decode cX8_reckoned 45 = .ok (.ifCond .ne 7, 3) := by decide +kernel
theorem dX8_reckoned_48 : decode cX8_reckoned 48 = .ok (.iconst 0, 1) := by decide +kernel
theorem dX8_reckoned_49 : decode cX8_reckoned 49 = .ok (.goto 6, 3) := by decide +kernel
theorem dX8_reckoned_52 : decode cX8_reckoned 52 = .ok (.iload_n 1, 1) := by decide +kernel
theorem dX8_reckoned_53 : decode cX8_reckoned 53 = .ok (.iload_n 2, 1) := by decide +kernel
theorem dX8_reckoned_54 : decode cX8_reckoned 54 = .ok (.idiv, 1) := by decide +kernel
theorem dX8_reckoned_55 : decode cX8_reckoned 55 = .ok (.ireturn, 1) := by decide +kernel
theorem dX8_reckoned_56 : decode cX8_reckoned 56 = .ok (.iload_n 2, 1) := by decide +kernel
theorem dX8_reckoned_57 : decode cX8_reckoned 57 = .ok (.ifCond .ne 7, 3) := by decide +kernel
theorem dX8_reckoned_60 : decode cX8_reckoned 60 = .ok (.iconst 0, 1) := by decide +kernel
theorem dX8_reckoned_61 : decode cX8_reckoned 61 = .ok (.goto 6, 3) := by decide +kernel
theorem dX8_reckoned_64 : decode cX8_reckoned 64 = .ok (.iload_n 1, 1) := by decide +kernel
theorem dX8_reckoned_65 : decode cX8_reckoned 65 = .ok (.iload_n 2, 1) := by decide +kernel
theorem dX8_reckoned_66 : decode cX8_reckoned 66 = .ok (.irem, 1) := by decide +kernel
theorem dX8_reckoned_67 : decode cX8_reckoned 67 = .ok (.ireturn, 1) := by decide +kernel
theorem dX9_init_0 : decode cX9_init 0 = .ok (.aload_n 0, 1) := by decide +kernel
theorem dX9_init_1 : decode cX9_init 1 = .ok (.invokespecial 3, 3) := by decide +kernel
theorem dX9_init_4 : decode cX9_init 4 = .ok (.aload_n 0, 1) := by decide +kernel
theorem dX9_init_5 : decode cX9_init 5 = .ok (.new 9, 3) := by decide +kernel
theorem dX9_init_8 : decode cX9_init 8 = .ok (.dup, 1) := by decide +kernel
theorem dX9_init_9 : decode cX9_init 9 = .ok (.invokespecial 11, 3) := by decide +kernel
theorem dX9_init_12 : decode cX9_init 12 = .ok (.putfield 12, 3) := by decide +kernel
theorem dX9_init_15 : decode cX9_init 15 = .ok (.aload_n 0, 1) := by decide +kernel
theorem dX9_init_16 : decode cX9_init 16 = .ok (.new 16, 3) := by decide +kernel
theorem dX9_init_19 : decode cX9_init 19 = .ok (.dup, 1) := by decide +kernel
theorem dX9_init_20 : decode cX9_init 20 = .ok (.invokespecial 18, 3) := by decide +kernel
theorem dX9_init_23 : decode cX9_init 23 = .ok (.putfield 19, 3) := by decide +kernel
theorem dX9_init_26 : decode cX9_init 26 = .ok (.aload_n 0, 1) := by decide +kernel
theorem dX9_init_27 : decode cX9_init 27 = .ok (.new 23, 3) := by decide +kernel
theorem dX9_init_30 : decode cX9_init 30 = .ok (.dup, 1) := by decide +kernel
theorem dX9_init_31 : decode cX9_init 31 = .ok (.invokespecial 25, 3) := by decide +kernel
theorem dX9_init_34 : decode cX9_init 34 = .ok (.putfield 26, 3) := by decide +kernel
theorem dX9_init_37 : decode cX9_init 37 = .ok (.aload_n 0, 1) := by decide +kernel
theorem dX9_init_38 : decode cX9_init 38 = .ok (.sipush 3800, 3) := by decide +kernel
theorem dX9_init_41 : decode cX9_init 41 = .ok (.newarray .boolean, 2) := by decide +kernel
theorem dX9_init_43 : decode cX9_init 43 = .ok (.putfield 30, 3) := by decide +kernel
theorem dX9_init_46 : decode cX9_init 46 = .ok (.aload_n 0, 1) := by decide +kernel
theorem dX9_init_47 : decode cX9_init 47 = .ok (.iconst 4, 1) := by decide +kernel
theorem dX9_init_48 : decode cX9_init 48 = .ok (.anewarray 34, 3) := by decide +kernel
theorem dX9_init_51 : decode cX9_init 51 = .ok (.putfield 36, 3) := by decide +kernel
theorem dX9_init_54 : decode cX9_init 54 = .ok (.aload_n 0, 1) := by decide +kernel
theorem dX9_init_55 : decode cX9_init 55 = .ok (.iconst 0, 1) := by decide +kernel
theorem dX9_init_56 : decode cX9_init 56 = .ok (.putfield 40, 3) := by decide +kernel
theorem dX9_init_59 : decode cX9_init 59 = .ok (.aload_n 0, 1) := by decide +kernel
theorem dX9_init_60 : decode cX9_init 60 = .ok (.aconst_null, 1) := by decide +kernel
theorem dX9_init_61 : decode cX9_init 61 = .ok (.putfield 44, 3) := by decide +kernel
theorem dX9_init_64 : decode cX9_init 64 = .ok (.aload_n 0, 1) := by decide +kernel
theorem dX9_init_65 : decode cX9_init 65 = .ok (.iconst (-1), 1) := by decide +kernel
theorem dX9_init_66 : decode cX9_init 66 = .ok (.putfield 48, 3) := by decide +kernel
theorem dX9_init_69 : decode cX9_init 69 = .ok (.aload_n 0, 1) := by decide +kernel
theorem dX9_init_70 : decode cX9_init 70 = .ok (.bipush 8, 2) := by decide +kernel
theorem dX9_init_72 : decode cX9_init 72 = .ok (.putfield 51, 3) := by decide +kernel
theorem dX9_init_75 : decode cX9_init 75 = .ok (.aload_n 0, 1) := by decide +kernel
theorem dX9_init_76 : decode cX9_init 76 = .ok (.iconst 2, 1) := by decide +kernel
theorem dX9_init_77 : decode cX9_init 77 = .ok (.putfield 54, 3) := by decide +kernel
theorem dX9_init_80 : decode cX9_init 80 = .ok (.aload_n 0, 1) := by decide +kernel
theorem dX9_init_81 : decode cX9_init 81 = .ok (.iconst 0, 1) := by decide +kernel
theorem dX9_init_82 : decode cX9_init 82 = .ok (.putfield 57, 3) := by decide +kernel
theorem dX9_init_85 : decode cX9_init 85 = .ok (.aload_n 0, 1) := by decide +kernel
theorem dX9_init_86 : decode cX9_init 86 = .ok (.iconst 0, 1) := by decide +kernel
theorem dX9_init_87 : decode cX9_init 87 = .ok (.putfield 60, 3) := by decide +kernel
theorem dX9_init_90 : decode cX9_init 90 = .ok (.aload_n 0, 1) := by decide +kernel
theorem dX9_init_91 : decode cX9_init 91 = .ok (.iconst 0, 1) := by decide +kernel
theorem dX9_init_92 : decode cX9_init 92 = .ok (.putfield 63, 3) := by decide +kernel
theorem dX9_init_95 : decode cX9_init 95 = .ok (.return_, 1) := by decide +kernel
theorem dX9_code_0 : decode cX9_code 0 = .ok (.iload_n 1, 1) := by decide +kernel
theorem dX9_code_1 : decode cX9_code 1 = .ok (.invokestatic 66, 3) := by decide +kernel
theorem dX9_code_4 : decode cX9_code 4 = .ok (.ifCond .ne 5, 3) := by decide +kernel
theorem dX9_code_7 : decode cX9_code 7 = .ok (.iconst 0, 1) := by decide +kernel
theorem dX9_code_8 : decode cX9_code 8 = .ok (.ireturn, 1) := by decide +kernel
theorem dX9_code_9 : decode cX9_code 9 = .ok (.iload_n 2, 1) := by decide +kernel
theorem dX9_code_10 : decode cX9_code 10 = .ok (.iconst (-1), 1) := by decide +kernel
theorem dX9_code_11 : decode cX9_code 11 = .ok (.if_icmp .eq 17, 3) := by decide +kernel
theorem dX9_code_14 : decode cX9_code 14 = .ok (.iload_n 2, 1) := by decide +kernel
theorem dX9_code_15 : decode cX9_code 15 = .ok (.iload_n 3, 1) := by decide +kernel
theorem dX9_code_16 : decode cX9_code 16 = .ok (.iload 4, 2) := by decide +kernel
theorem dX9_code_18 : decode cX9_code 18 = .ok (.iload 5, 2) := by decide +kernel
theorem dX9_code_20 : decode cX9_code 20 = .ok (.invokestatic 70, 3) := by decide +kernel
theorem dX9_code_23 : decode cX9_code 23 = .ok (.ifCond .ne 5, 3) := by decide +kernel
theorem dX9_code_26 : decode cX9_code 26 = .ok (.iconst 0, 1) := by decide +kernel
theorem dX9_code_27 : decode cX9_code 27 = .ok (.ireturn, 1) := by decide +kernel
theorem dX9_code_28 : decode cX9_code 28 = .ok (.aload_n 0, 1) := by decide +kernel
theorem dX9_code_29 : decode cX9_code 29 = .ok (.getfield 12, 3) := by decide +kernel
theorem dX9_code_32 : decode cX9_code 32 = .ok (.iload_n 1, 1) := by decide +kernel
theorem dX9_code_33 : decode cX9_code 33 = .ok (.iload_n 2, 1) := by decide +kernel
theorem dX9_code_34 : decode cX9_code 34 = .ok (.iload_n 3, 1) := by decide +kernel
theorem dX9_code_35 : decode cX9_code 35 = .ok (.iload 4, 2) := by decide +kernel
theorem dX9_code_37 : decode cX9_code 37 = .ok (.iload 5, 2) := by decide +kernel
theorem dX9_code_39 : decode cX9_code 39 = .ok (.invokevirtual 74, 3) := by decide +kernel
theorem dX9_code_42 : decode cX9_code 42 = .ok (.iconst 1, 1) := by decide +kernel
theorem dX9_code_43 : decode cX9_code 43 = .ok (.ireturn, 1) := by decide +kernel
theorem dX9_spacing_0 : decode cX9_spacing 0 = .ok (.iload_n 1, 1) := by decide +kernel
theorem dX9_spacing_1 : decode cX9_spacing 1 = .ok (.invokestatic 78, 3) := by decide +kernel
theorem dX9_spacing_4 : decode cX9_spacing 4 = .ok (.ifCond .eq 10, 3) := by decide +kernel
theorem dX9_spacing_7 : decode cX9_spacing 7 = .ok (.iload_n 2, 1) := by decide +kernel
theorem dX9_spacing_8 : decode cX9_spacing 8 = .ok (.invokestatic 81, 3) := by decide +kernel
theorem dX9_spacing_11 : decode cX9_spacing 11 = .ok (.ifCond .ne 5, 3) := by decide +kernel
theorem dX9_spacing_14 : decode cX9_spacing 14 = .ok (.iconst 0, 1) := by decide +kernel
theorem dX9_spacing_15 : decode cX9_spacing 15 = .ok (.ireturn, 1) := by decide +kernel
theorem dX9_spacing_16 : decode cX9_spacing 16 = .ok (.aload_n 0, 1) := by decide +kernel
theorem dX9_spacing_17 : decode cX9_spacing 17 = .ok (.iload_n 1, 1) := by decide +kernel
theorem dX9_spacing_18 : decode cX9_spacing 18 = .ok (.putfield 51, 3) := by decide +kernel
theorem dX9_spacing_21 : decode cX9_spacing 21 = .ok (.aload_n 0, 1) := by decide +kernel
theorem dX9_spacing_22 : decode cX9_spacing 22 = .ok (.iload_n 2, 1) := by decide +kernel
theorem dX9_spacing_23 : decode cX9_spacing 23 = .ok (.putfield 54, 3) := by decide +kernel
theorem dX9_spacing_26 : decode cX9_spacing 26 = .ok (.iconst 1, 1) := by decide +kernel
theorem dX9_spacing_27 : decode cX9_spacing 27 = .ok (.ireturn, 1) := by decide +kernel
theorem dX9_begin_0 : decode cX9_begin 0 = .ok (.aload_n 0, 1) := by decide +kernel
theorem dX9_begin_1 : decode cX9_begin 1 = .ok (.getfield 44, 3) := by decide +kernel
theorem dX9_begin_4 : decode cX9_begin 4 = .ok (.ifnonnull 14, 3) := by decide +kernel
theorem dX9_begin_7 : decode cX9_begin 7 = .ok (.aload_n 0, 1) := by decide +kernel
theorem dX9_begin_8 : decode cX9_begin 8 = .ok (.new 34, 3) := by decide +kernel
theorem dX9_begin_11 : decode cX9_begin 11 = .ok (.dup, 1) := by decide +kernel
theorem dX9_begin_12 : decode cX9_begin 12 = .ok (.invokespecial 84, 3) := by decide +kernel
theorem dX9_begin_15 : decode cX9_begin 15 = .ok (.putfield 44, 3) := by decide +kernel
theorem dX9_begin_18 : decode cX9_begin 18 = .ok (.aload_n 0, 1) := by decide +kernel
theorem dX9_begin_19 : decode cX9_begin 19 = .ok (.getfield 44, 3) := by decide +kernel
theorem dX9_begin_22 : decode cX9_begin 22 = .ok (.aload_n 0, 1) := by decide +kernel
theorem dX9_begin_23 : decode cX9_begin 23 = .ok (.getfield 12, 3) := by decide +kernel
theorem dX9_begin_26 : decode cX9_begin 26 = .ok (.aload_n 0, 1) := by decide +kernel
theorem dX9_begin_27 : decode cX9_begin 27 = .ok (.getfield 51, 3) := by decide +kernel
theorem dX9_begin_30 : decode cX9_begin 30 = .ok (.aload_n 0, 1) := by decide +kernel
theorem dX9_begin_31 : decode cX9_begin 31 = .ok (.getfield 54, 3) := by decide +kernel
theorem dX9_begin_34 : decode cX9_begin 34 = .ok (.invokevirtual 85, 3) := by decide +kernel
theorem dX9_begin_37 : decode cX9_begin 37 = .ok (.aload_n 0, 1) := by decide +kernel
theorem dX9_begin_38 : decode cX9_begin 38 = .ok (.getfield 19, 3) := by decide +kernel
theorem dX9_begin_41 : decode cX9_begin 41 = .ok (.invokevirtual 89, 3) := by decide +kernel
theorem dX9_begin_44 : decode cX9_begin 44 = .ok (.aload_n 0, 1) := by decide +kernel
theorem dX9_begin_45 : decode cX9_begin 45 = .ok (.getfield 12, 3) := by decide +kernel
theorem dX9_begin_48 : decode cX9_begin 48 = .ok (.invokevirtual 92, 3) := by decide +kernel
theorem dX9_begin_51 : decode cX9_begin 51 = .ok (.ireturn, 1) := by decide +kernel
theorem dX9_give_0 : decode cX9_give 0 = .ok (.aload_n 0, 1) := by decide +kernel
theorem dX9_give_1 : decode cX9_give 1 = .ok (.getfield 44, 3) := by decide +kernel
theorem dX9_give_4 : decode cX9_give 4 = .ok (.ifnull 15, 3) := by decide +kernel
theorem dX9_give_7 : decode cX9_give 7 = .ok (.aload_n 0, 1) := by decide +kernel
theorem dX9_give_8 : decode cX9_give 8 = .ok (.getfield 19, 3) := by decide +kernel
theorem dX9_give_11 : decode cX9_give 11 = .ok (.getfield 96, 3) := by decide +kernel
theorem dX9_give_14 : decode cX9_give 14 = .ok (.bipush 100, 2) := by decide +kernel
theorem dX9_give_16 : decode cX9_give 16 = .ok (.if_icmp .lt 5, 3) := by decide +kernel
theorem dX9_give_19 : decode cX9_give 19 = .ok (.iconst (-1), 1) := by decide +kernel
theorem dX9_give_20 : decode cX9_give 20 = .ok (.ireturn, 1) := by decide +kernel
theorem dX9_give_21 : decode cX9_give 21 = .ok (.aload_n 0, 1) := by decide +kernel
theorem dX9_give_22 : decode cX9_give 22 = .ok (.getfield 19, 3) := by decide +kernel
theorem dX9_give_25 : decode cX9_give 25 = .ok (.iload_n 1, 1) := by decide +kernel
theorem dX9_give_26 : decode cX9_give 26 = .ok (.invokevirtual 99, 3) := by decide +kernel
theorem dX9_give_29 : decode cX9_give 29 = .ok (.aload_n 0, 1) := by decide +kernel
theorem dX9_give_30 : decode cX9_give 30 = .ok (.getfield 19, 3) := by decide +kernel
theorem dX9_give_33 : decode cX9_give 33 = .ok (.getfield 96, 3) := by decide +kernel
theorem dX9_give_36 : decode cX9_give 36 = .ok (.ireturn, 1) := by decide +kernel
theorem dX9_seed_0 : decode cX9_seed 0 = .ok (.aload_n 0, 1) := by decide +kernel
theorem dX9_seed_1 : decode cX9_seed 1 = .ok (.getfield 19, 3) := by decide +kernel
theorem dX9_seed_4 : decode cX9_seed 4 = .ok (.getfield 103, 3) := by decide +kernel
theorem dX9_seed_7 : decode cX9_seed 7 = .ok (.istore_n 2, 1) := by decide +kernel
theorem dX9_seed_8 : decode cX9_seed 8 = .ok (.aload_n 0, 1) := by decide +kernel
theorem dX9_seed_9 : decode cX9_seed 9 = .ok (.getfield 19, 3) := by decide +kernel
theorem dX9_seed_12 : decode cX9_seed 12 = .ok (.iload_n 1, 1) := by decide +kernel
theorem dX9_seed_13 : decode cX9_seed 13 = .ok (.putfield 103, 3) := by decide +kernel
theorem dX9_seed_16 : decode cX9_seed 16 = .ok (.iload_n 2, 1) := by decide +kernel
theorem dX9_seed_17 : decode cX9_seed 17 = .ok (.ireturn, 1) := by decide +kernel
theorem dX9_poke_0 : decode cX9_poke 0 = .ok (.aload_n 0, 1) := by decide +kernel
theorem dX9_poke_1 : decode cX9_poke 1 = .ok (.getfield 44, 3) := by decide +kernel
theorem dX9_poke_4 : decode cX9_poke 4 = .ok (.ifnull 31, 3) := by decide +kernel
theorem dX9_poke_7 : decode cX9_poke 7 = .ok (.aload_n 0, 1) := by decide +kernel
theorem dX9_poke_8 : decode cX9_poke 8 = .ok (.getfield 44, 3) := by decide +kernel
theorem dX9_poke_11 : decode cX9_poke 11 = .ok (.getfield 106, 3) := by decide +kernel
theorem dX9_poke_14 : decode cX9_poke 14 = .ok (.invokevirtual 110, 3) := by decide +kernel
theorem dX9_poke_17 : decode cX9_poke 17 = .ok (.ifCond .ne 18, 3) := by decide +kernel
theorem dX9_poke_20 : decode cX9_poke 20 = .ok (.iload_n 1, 1) := by decide +kernel
theorem dX9_poke_21 : decode cX9_poke 21 = .ok (.invokestatic 116, 3) := by decide +kernel
theorem dX9_poke_24 : decode cX9_poke 24 = .ok (.ifCond .eq 11, 3) := by decide +kernel
theorem dX9_poke_27 : decode cX9_poke 27 = .ok (.iload_n 2, 1) := by decide +kernel
theorem dX9_poke_28 : decode cX9_poke 28 = .ok (.iload_n 3, 1) := by decide +kernel
theorem dX9_poke_29 : decode cX9_poke 29 = .ok (.invokestatic 119, 3) := by decide +kernel
theorem dX9_poke_32 : decode cX9_poke 32 = .ok (.ifCond .ne 5, 3) := by decide +kernel
theorem dX9_poke_35 : decode cX9_poke 35 = .ok (.iconst (-1), 1) := by decide +kernel
theorem dX9_poke_36 : decode cX9_poke 36 = .ok (.ireturn, 1) := by decide +kernel
theorem dX9_poke_37 : decode cX9_poke 37 = .ok (.aload_n 0, 1) := by decide +kernel
theorem dX9_poke_38 : decode cX9_poke 38 = .ok (.getfield 44, 3) := by decide +kernel
theorem dX9_poke_41 : decode cX9_poke 41 = .ok (.iload_n 1, 1) := by decide +kernel
theorem dX9_poke_42 : decode cX9_poke 42 = .ok (.iload_n 2, 1) := by decide +kernel
theorem dX9_poke_43 : decode cX9_poke 43 = .ok (.iload_n 3, 1) := by decide +kernel
theorem dX9_poke_44 : decode cX9_poke 44 = .ok (.invokevirtual 123, 3) := by decide +kernel
theorem dX9_poke_47 : decode cX9_poke 47 = .ok (.ifCond .eq 7, 3) := by decide +kernel
theorem dX9_poke_50 : decode cX9_poke 50 = .ok (.iconst 1, 1) := by decide +kernel
theorem dX9_poke_51 : decode cX9_poke 51 = .ok (.goto 4, 3) := by decide +kernel
theorem dX9_poke_54 : decode cX9_poke 54 = .ok (.iconst 0, 1) := by decide +kernel
theorem dX9_poke_55 : decode cX9_poke 55 = .ok (.ireturn, 1) := by decide +kernel
theorem dX9_run_0 : decode cX9_run 0 = .ok (.aload_n 0, 1) := by decide +kernel
theorem dX9_run_1 : decode cX9_run 1 = .ok (.getfield 44, 3) := by decide +kernel
theorem dX9_run_4 : decode cX9_run 4 = .ok (.ifnull 15, 3) := by decide +kernel
theorem dX9_run_7 : decode cX9_run 7 = .ok (.iload_n 1, 1) := by decide +kernel
theorem dX9_run_8 : decode cX9_run 8 = .ok (.iconst 1, 1) := by decide +kernel
theorem dX9_run_9 : decode cX9_run 9 = .ok (.if_icmp .lt 10, 3) := by decide +kernel
theorem dX9_run_12 : decode cX9_run 12 = .ok (.iload_n 1, 1) := by decide +kernel
theorem dX9_run_13 : decode cX9_run 13 = .ok (.sipush 500, 3) := by decide +kernel
theorem dX9_run_16 : decode cX9_run 16 = .ok (.if_icmp .le 5, 3) := by decide +kernel
theorem dX9_run_19 : decode cX9_run 19 = .ok (.iconst (-1), 1) := by decide +kernel
theorem dX9_run_20 : decode cX9_run 20 = .ok (.ireturn, 1) := by decide +kernel
theorem dX9_run_21 : decode cX9_run 21 = .ok (.iconst 0, 1) := by decide +kernel
theorem dX9_run_22 : decode cX9_run 22 = .ok (.istore_n 2, 1) := by decide +kernel
theorem dX9_run_23 : decode cX9_run 23 = .ok (.iconst 1, 1) := by decide +kernel
theorem dX9_run_24 : decode cX9_run 24 = .ok (.istore_n 3, 1) := by decide +kernel
theorem dX9_run_25 : decode cX9_run 25 = .ok (.iload_n 3, 1) := by decide +kernel
theorem dX9_run_26 : decode cX9_run 26 = .ok (.ifCond .eq 59, 3) := by decide +kernel
theorem dX9_run_29 : decode cX9_run 29 = .ok (.iload_n 2, 1) := by decide +kernel
theorem dX9_run_30 : decode cX9_run 30 = .ok (.iload_n 1, 1) := by decide +kernel
theorem dX9_run_31 : decode cX9_run 31 = .ok (.if_icmp .ge 54, 3) := by decide +kernel
theorem dX9_run_34 : decode cX9_run 34 = .ok (.aload_n 0, 1) := by decide +kernel
theorem dX9_run_35 : decode cX9_run 35 = .ok (.getfield 44, 3) := by decide +kernel
theorem dX9_run_38 : decode cX9_run 38 = .ok (.aload_n 0, 1) := by decide +kernel
theorem dX9_run_39 : decode cX9_run 39 = .ok (.getfield 19, 3) := by decide +kernel
theorem dX9_run_42 : decode cX9_run 42 = .ok (.invokevirtual 127, 3) := by decide +kernel
theorem dX9_run_45 : decode cX9_run 45 = .ok (.ifCond .eq 40, 3) := by decide +kernel
theorem dX9_run_48 : decode cX9_run 48 = .ok (.aload_n 0, 1) := by decide +kernel
theorem dX9_run_49 : decode cX9_run 49 = .ok (.getfield 44, 3) := by decide +kernel
theorem dX9_run_52 : decode cX9_run 52 = .ok (.aload_n 0, 1) := by decide +kernel
theorem dX9_run_53 : decode cX9_run 53 = .ok (.getfield 19, 3) := by decide +kernel
theorem dX9_run_56 : decode cX9_run 56 = .ok (.invokevirtual 131, 3) := by decide +kernel
theorem dX9_run_59 : decode cX9_run 59 = .ok (.iinc 2 1, 3) := by decide +kernel
theorem dX9_run_62 : decode cX9_run 62 = .ok (.aload_n 0, 1) := by decide +kernel
theorem dX9_run_63 : decode cX9_run 63 = .ok (.aload_n 0, 1) := by decide +kernel
theorem dX9_run_64 : decode cX9_run 64 = .ok (.getfield 44, 3) := by decide +kernel
theorem dX9_run_67 : decode cX9_run 67 = .ok (.getfield 135, 3) := by decide +kernel
theorem dX9_run_70 : decode cX9_run 70 = .ok (.invokevirtual 138, 3) := by decide +kernel
theorem dX9_run_73 : decode cX9_run 73 = .ok (.ifCond .ne 7, 3) := by decide +kernel
theorem dX9_run_76 : decode cX9_run 76 = .ok (.iconst 1, 1) := by decide +kernel
theorem dX9_run_77 : decode cX9_run 77 = .ok (.goto 4, 3) := by decide +kernel
theorem dX9_run_80 : decode cX9_run 80 = .ok (.iconst 0, 1) := by decide +kernel
theorem dX9_run_81 : decode cX9_run 81 = .ok (.istore_n 3, 1) := by decide +kernel
theorem dX9_run_82 : decode cX9_run 82 = .ok (.goto (-57), 3) := by decide +kernel
theorem dX9_run_85 : decode cX9_run 85 = .ok (.iload_n 2, 1) := by decide +kernel
theorem dX9_run_86 : decode cX9_run 86 = .ok (.ireturn, 1) := by decide +kernel
theorem dX9_watch_0 : decode cX9_watch 0 = .ok (.iload_n 1, 1) := by decide +kernel
theorem dX9_watch_1 : decode cX9_watch 1 = .ok (.invokestatic 116, 3) := by decide +kernel
theorem dX9_watch_4 : decode cX9_watch 4 = .ok (.ifCond .eq 12, 3) := by decide +kernel
theorem dX9_watch_7 : decode cX9_watch 7 = .ok (.aload_n 0, 1) := by decide +kernel
theorem dX9_watch_8 : decode cX9_watch 8 = .ok (.iload_n 1, 1) := by decide +kernel
theorem dX9_watch_9 : decode cX9_watch 9 = .ok (.invokevirtual 138, 3) := by decide +kernel
theorem dX9_watch_12 : decode cX9_watch 12 = .ok (.iload_n 2, 1) := by decide +kernel
theorem dX9_watch_13 : decode cX9_watch 13 = .ok (.if_icmp .ne 5, 3) := by decide +kernel
theorem dX9_watch_16 : decode cX9_watch 16 = .ok (.iconst 0, 1) := by decide +kernel
theorem dX9_watch_17 : decode cX9_watch 17 = .ok (.ireturn, 1) := by decide +kernel
theorem dX9_watch_18 : decode cX9_watch 18 = .ok (.iload_n 1, 1) := by decide +kernel
theorem dX9_watch_19 : decode cX9_watch 19 = .ok (.bipush 8, 2) := by decide +kernel
theorem dX9_watch_21 : decode cX9_watch 21 = .ok (.if_icmp .ge 18, 3) := by decide +kernel
theorem dX9_watch_24 : decode cX9_watch 24 = .ok (.aload_n 0, 1) := by decide +kernel
theorem dX9_watch_25 : decode cX9_watch 25 = .ok (.dup, 1) := by decide +kernel
theorem dX9_watch_26 : decode cX9_watch 26 = .ok (.getfield 57, 3) := by decide +kernel
theorem dX9_watch_29 : decode cX9_watch 29 = .ok (.iconst 1, 1) := by decide +kernel
theorem dX9_watch_30 : decode cX9_watch 30 = .ok (.iload_n 1, 1) := by decide +kernel
theorem dX9_watch_31 : decode cX9_watch 31 = .ok (.ishl, 1) := by decide +kernel
theorem dX9_watch_32 : decode cX9_watch 32 = .ok (.ixor, 1) := by decide +kernel
theorem dX9_watch_33 : decode cX9_watch 33 = .ok (.putfield 57, 3) := by decide +kernel
theorem dX9_watch_36 : decode cX9_watch 36 = .ok (.goto 18, 3) := by decide +kernel
theorem dX9_watch_39 : decode cX9_watch 39 = .ok (.aload_n 0, 1) := by decide +kernel
theorem dX9_watch_40 : decode cX9_watch 40 = .ok (.dup, 1) := by decide +kernel
theorem dX9_watch_41 : decode cX9_watch 41 = .ok (.getfield 60, 3) := by decide +kernel
theorem dX9_watch_44 : decode cX9_watch 44 = .ok (.iconst 1, 1) := by decide +kernel
theorem dX9_watch_45 : decode cX9_watch 45 = .ok (.iload_n 1, 1) := by decide +kernel
theorem dX9_watch_46 : decode cX9_watch 46 = .ok (.bipush 8, 2) := by decide +kernel
theorem dX9_watch_48 : decode cX9_watch 48 = .ok (.isub, 1) := by decide +kernel
theorem dX9_watch_49 : decode cX9_watch 49 = .ok (.ishl, 1) := by decide +kernel
theorem dX9_watch_50 : decode cX9_watch 50 = .ok (.ixor, 1) := by decide +kernel
theorem dX9_watch_51 : decode cX9_watch 51 = .ok (.putfield 60, 3) := by decide +kernel
theorem dX9_watch_54 : decode cX9_watch 54 = .ok (.iconst 1, 1) := by decide +kernel
theorem dX9_watch_55 : decode cX9_watch 55 = .ok (.ireturn, 1) := by decide +kernel
theorem dX9_back_0 : decode cX9_back 0 = .ok (.aload_n 0, 1) := by decide +kernel
theorem dX9_back_1 : decode cX9_back 1 = .ok (.iconst 0, 1) := by decide +kernel
theorem dX9_back_2 : decode cX9_back 2 = .ok (.putfield 63, 3) := by decide +kernel
theorem dX9_back_5 : decode cX9_back 5 = .ok (.aload_n 0, 1) := by decide +kernel
theorem dX9_back_6 : decode cX9_back 6 = .ok (.getfield 44, 3) := by decide +kernel
theorem dX9_back_9 : decode cX9_back 9 = .ok (.ifnull 18, 3) := by decide +kernel
theorem dX9_back_12 : decode cX9_back 12 = .ok (.iload_n 1, 1) := by decide +kernel
theorem dX9_back_13 : decode cX9_back 13 = .ok (.ifCond .lt 14, 3) := by decide +kernel
theorem dX9_back_16 : decode cX9_back 16 = .ok (.iload_n 1, 1) := by decide +kernel
theorem dX9_back_17 : decode cX9_back 17 = .ok (.aload_n 0, 1) := by decide +kernel
theorem dX9_back_18 : decode cX9_back 18 = .ok (.getfield 44, 3) := by decide +kernel
theorem dX9_back_21 : decode cX9_back 21 = .ok (.getfield 141, 3) := by decide +kernel
theorem dX9_back_24 : decode cX9_back 24 = .ok (.if_icmp .lt 5, 3) := by decide +kernel
theorem dX9_back_27 : decode cX9_back 27 = .ok (.iconst (-1), 1) := by decide +kernel
theorem dX9_back_28 : decode cX9_back 28 = .ok (.ireturn, 1) := by decide +kernel
theorem dX9_back_29 : decode cX9_back 29 = .ok (.aload_n 0, 1) := by decide +kernel
theorem dX9_back_30 : decode cX9_back 30 = .ok (.aload_n 0, 1) := by decide +kernel
theorem dX9_back_31 : decode cX9_back 31 = .ok (.getfield 44, 3) := by decide +kernel
theorem dX9_back_34 : decode cX9_back 34 = .ok (.iload_n 1, 1) := by decide +kernel
theorem dX9_back_35 : decode cX9_back 35 = .ok (.invokevirtual 144, 3) := by decide +kernel
theorem dX9_back_38 : decode cX9_back 38 = .ok (.aload_n 0, 1) := by decide +kernel
theorem dX9_back_39 : decode cX9_back 39 = .ok (.getfield 44, 3) := by decide +kernel
theorem dX9_back_42 : decode cX9_back 42 = .ok (.iload_n 1, 1) := by decide +kernel
theorem dX9_back_43 : decode cX9_back 43 = .ok (.aload_n 0, 1) := by decide +kernel
theorem dX9_back_44 : decode cX9_back 44 = .ok (.getfield 19, 3) := by decide +kernel
theorem dX9_back_47 : decode cX9_back 47 = .ok (.invokevirtual 148, 3) := by decide +kernel
theorem dX9_back_50 : decode cX9_back 50 = .ok (.aload_n 0, 1) := by decide +kernel
theorem dX9_back_51 : decode cX9_back 51 = .ok (.getfield 63, 3) := by decide +kernel
theorem dX9_back_54 : decode cX9_back 54 = .ok (.ireturn, 1) := by decide +kernel
theorem dX9_keep_0 : decode cX9_keep 0 = .ok (.aload_n 0, 1) := by decide +kernel
theorem dX9_keep_1 : decode cX9_keep 1 = .ok (.getfield 44, 3) := by decide +kernel
theorem dX9_keep_4 : decode cX9_keep 4 = .ok (.ifnull 11, 3) := by decide +kernel
theorem dX9_keep_7 : decode cX9_keep 7 = .ok (.aload_n 0, 1) := by decide +kernel
theorem dX9_keep_8 : decode cX9_keep 8 = .ok (.getfield 40, 3) := by decide +kernel
theorem dX9_keep_11 : decode cX9_keep 11 = .ok (.iconst 4, 1) := by decide +kernel
theorem dX9_keep_12 : decode cX9_keep 12 = .ok (.if_icmp .lt 5, 3) := by decide +kernel
theorem dX9_keep_15 : decode cX9_keep 15 = .ok (.iconst (-1), 1) := by decide +kernel
theorem dX9_keep_16 : decode cX9_keep 16 = .ok (.ireturn, 1) := by decide +kernel
theorem dX9_keep_17 : decode cX9_keep 17 = .ok (.aload_n 0, 1) := by decide +kernel
theorem dX9_keep_18 : decode cX9_keep 18 = .ok (.getfield 36, 3) := by decide +kernel
theorem dX9_keep_21 : decode cX9_keep 21 = .ok (.aload_n 0, 1) := by decide +kernel
theorem dX9_keep_22 : decode cX9_keep 22 = .ok (.getfield 40, 3) := by decide +kernel
theorem dX9_keep_25 : decode cX9_keep 25 = .ok (.new 34, 3) := by decide +kernel
theorem dX9_keep_28 : decode cX9_keep 28 = .ok (.dup, 1) := by decide +kernel
theorem dX9_keep_29 : decode cX9_keep 29 = .ok (.aload_n 0, 1) := by decide +kernel
theorem dX9_keep_30 : decode cX9_keep 30 = .ok (.getfield 44, 3) := by decide +kernel
theorem dX9_keep_33 : decode cX9_keep 33 = .ok (.aload_n 0, 1) := by decide +kernel
theorem dX9_keep_34 : decode cX9_keep 34 = .ok (.getfield 44, 3) := by decide +kernel
theorem dX9_keep_37 : decode cX9_keep 37 = .ok (.aload_n 0, 1) := by decide +kernel
theorem dX9_keep_38 : decode cX9_keep 38 = .ok (.getfield 19, 3) := by decide +kernel
theorem dX9_keep_41 : decode cX9_keep 41 = .ok (.invokevirtual 152, 3) := by decide +kernel
theorem dX9_keep_44 : decode cX9_keep 44 = .ok (.invokespecial 156, 3) := by decide +kernel
theorem dX9_keep_47 : decode cX9_keep 47 = .ok (.aastore, 1) := by decide +kernel
theorem dX9_keep_48 : decode cX9_keep 48 = .ok (.aload_n 0, 1) := by decide +kernel
theorem dX9_keep_49 : decode cX9_keep 49 = .ok (.dup, 1) := by decide +kernel
theorem dX9_keep_50 : decode cX9_keep 50 = .ok (.getfield 40, 3) := by decide +kernel
theorem dX9_keep_53 : decode cX9_keep 53 = .ok (.iconst 1, 1) := by decide +kernel
theorem dX9_keep_54 : decode cX9_keep 54 = .ok (.iadd, 1) := by decide +kernel
theorem dX9_keep_55 : decode cX9_keep 55 = .ok (.putfield 40, 3) := by decide +kernel
theorem dX9_keep_58 : decode cX9_keep 58 = .ok (.aload_n 0, 1) := by decide +kernel
theorem dX9_keep_59 : decode cX9_keep 59 = .ok (.getfield 40, 3) := by decide +kernel
theorem dX9_keep_62 : decode cX9_keep 62 = .ok (.iconst 1, 1) := by decide +kernel
theorem dX9_keep_63 : decode cX9_keep 63 = .ok (.isub, 1) := by decide +kernel
theorem dX9_keep_64 : decode cX9_keep 64 = .ok (.ireturn, 1) := by decide +kernel
theorem dX9_use_0 : decode cX9_use 0 = .ok (.iload_n 1, 1) := by decide +kernel
theorem dX9_use_1 : decode cX9_use 1 = .ok (.iconst (-1), 1) := by decide +kernel
theorem dX9_use_2 : decode cX9_use 2 = .ok (.if_icmp .eq 13, 3) := by decide +kernel
theorem dX9_use_5 : decode cX9_use 5 = .ok (.aload_n 0, 1) := by decide +kernel
theorem dX9_use_6 : decode cX9_use 6 = .ok (.iload_n 1, 1) := by decide +kernel
theorem dX9_use_7 : decode cX9_use 7 = .ok (.invokevirtual 158, 3) := by decide +kernel
theorem dX9_use_10 : decode cX9_use 10 = .ok (.ifCond .ne 5, 3) := by decide +kernel
theorem dX9_use_13 : decode cX9_use 13 = .ok (.iconst 0, 1) := by decide +kernel
theorem dX9_use_14 : decode cX9_use 14 = .ok (.ireturn, 1) := by decide +kernel
theorem dX9_use_15 : decode cX9_use 15 = .ok (.aload_n 0, 1) := by decide +kernel
theorem dX9_use_16 : decode cX9_use 16 = .ok (.iload_n 1, 1) := by decide +kernel
theorem dX9_use_17 : decode cX9_use 17 = .ok (.putfield 48, 3) := by decide +kernel
theorem dX9_use_20 : decode cX9_use 20 = .ok (.iconst 1, 1) := by decide +kernel
theorem dX9_use_21 : decode cX9_use 21 = .ok (.ireturn, 1) := by decide +kernel
theorem dX9_at_0 : decode cX9_at 0 = .ok (.aload_n 0, 1) := by decide +kernel
theorem dX9_at_1 : decode cX9_at 1 = .ok (.iconst 0, 1) := by decide +kernel
theorem dX9_at_2 : decode cX9_at 2 = .ok (.putfield 63, 3) := by decide +kernel
theorem dX9_at_5 : decode cX9_at 5 = .ok (.aload_n 0, 1) := by decide +kernel
theorem dX9_at_6 : decode cX9_at 6 = .ok (.aload_n 0, 1) := by decide +kernel
theorem dX9_at_7 : decode cX9_at 7 = .ok (.getfield 48, 3) := by decide +kernel
theorem dX9_at_10 : decode cX9_at 10 = .ok (.invokevirtual 161, 3) := by decide +kernel
theorem dX9_at_13 : decode cX9_at 13 = .ok (.astore 4, 2) := by decide +kernel
theorem dX9_at_15 : decode cX9_at 15 = .ok (.aload 4, 2) := by decide +kernel
theorem dX9_at_17 : decode cX9_at 17 = .ok (.ifnull 28, 3) := by decide +kernel
theorem dX9_at_20 : decode cX9_at 20 = .ok (.aload 4, 2) := by decide +kernel
theorem dX9_at_22 : decode cX9_at 22 = .ok (.iload_n 1, 1) := by decide +kernel
theorem dX9_at_23 : decode cX9_at 23 = .ok (.invokevirtual 165, 3) := by decide +kernel
theorem dX9_at_26 : decode cX9_at 26 = .ok (.ifCond .eq 19, 3) := by decide +kernel
theorem dX9_at_29 : decode cX9_at 29 = .ok (.iload_n 2, 1) := by decide +kernel
theorem dX9_at_30 : decode cX9_at 30 = .ok (.invokestatic 116, 3) := by decide +kernel
theorem dX9_at_33 : decode cX9_at 33 = .ok (.ifCond .eq 12, 3) := by decide +kernel
theorem dX9_at_36 : decode cX9_at 36 = .ok (.iload_n 3, 1) := by decide +kernel
theorem dX9_at_37 : decode cX9_at 37 = .ok (.ifCond .lt 8, 3) := by decide +kernel
theorem dX9_at_40 : decode cX9_at 40 = .ok (.iload_n 3, 1) := by decide +kernel
theorem dX9_at_41 : decode cX9_at 41 = .ok (.iconst 2, 1) := by decide +kernel
theorem dX9_at_42 : decode cX9_at 42 = .ok (.if_icmp .le 6, 3) := by decide +kernel
theorem dX9_at_45 : decode cX9_at 45 = .ok (.ldc 168, 2) := by decide +kernel
theorem dX9_at_47 : decode cX9_at 47 = .ok (.ireturn, 1) := by decide +kernel
theorem dX9_at_48 : decode cX9_at 48 = .ok (.aload_n 0, 1) := by decide +kernel
theorem dX9_at_49 : decode cX9_at 49 = .ok (.aload 4, 2) := by decide +kernel
theorem dX9_at_51 : decode cX9_at 51 = .ok (.iload_n 1, 1) := by decide +kernel
theorem dX9_at_52 : decode cX9_at 52 = .ok (.invokevirtual 144, 3) := by decide +kernel
theorem dX9_at_55 : decode cX9_at 55 = .ok (.aload 4, 2) := by decide +kernel
theorem dX9_at_57 : decode cX9_at 57 = .ok (.getfield 169, 3) := by decide +kernel
theorem dX9_at_60 : decode cX9_at 60 = .ok (.iload_n 1, 1) := by decide +kernel
theorem dX9_at_61 : decode cX9_at 61 = .ok (.iload_n 2, 1) := by decide +kernel
theorem dX9_at_62 : decode cX9_at 62 = .ok (.invokevirtual 173, 3) := by decide +kernel
theorem dX9_at_65 : decode cX9_at 65 = .ok (.istore 5, 2) := by decide +kernel
theorem dX9_at_67 : decode cX9_at 67 = .ok (.iload_n 3, 1) := by decide +kernel
theorem dX9_at_68 : decode cX9_at 68 = .ok (.lookupswitch 50 #[(0, 28), (1, 39)], 28) := by decide +kernel
theorem dX9_at_96 : decode cX9_at 96 = .ok (.aload 4, 2) := by decide +kernel
theorem dX9_at_98 : decode cX9_at 98 = .ok (.getfield 169, 3) := by decide +kernel
theorem dX9_at_101 : decode cX9_at 101 = .ok (.iload 5, 2) := by decide +kernel
theorem dX9_at_103 : decode cX9_at 103 = .ok (.invokevirtual 179, 3) := by decide +kernel
theorem dX9_at_106 : decode cX9_at 106 = .ok (.ireturn, 1) := by decide +kernel
theorem dX9_at_107 : decode cX9_at 107 = .ok (.aload 4, 2) := by decide +kernel
theorem dX9_at_109 : decode cX9_at 109 = .ok (.getfield 169, 3) := by decide +kernel
theorem dX9_at_112 : decode cX9_at 112 = .ok (.iload 5, 2) := by decide +kernel
theorem dX9_at_114 : decode cX9_at 114 = .ok (.invokevirtual 183, 3) := by decide +kernel
theorem dX9_at_117 : decode cX9_at 117 = .ok (.ireturn, 1) := by decide +kernel
theorem dX9_at_118 : decode cX9_at 118 = .ok (.aload 4, 2) := by decide +kernel
theorem dX9_at_120 : decode cX9_at 120 = .ok (.getfield 169, 3) := by decide +kernel
theorem dX9_at_123 : decode cX9_at 123 = .ok (.iload 5, 2) := by decide +kernel
theorem dX9_at_125 : decode cX9_at 125 = .ok (.invokevirtual 186, 3) := by decide +kernel
theorem dX9_at_128 : decode cX9_at 128 = .ok (.ireturn, 1) := by decide +kernel
theorem dX9_state_0 : decode cX9_state 0 = .ok (.aload_n 0, 1) := by decide +kernel
theorem dX9_state_1 : decode cX9_state 1 = .ok (.iconst 0, 1) := by decide +kernel
theorem dX9_state_2 : decode cX9_state 2 = .ok (.putfield 63, 3) := by decide +kernel
theorem dX9_state_5 : decode cX9_state 5 = .ok (.aload_n 0, 1) := by decide +kernel
theorem dX9_state_6 : decode cX9_state 6 = .ok (.aload_n 0, 1) := by decide +kernel
theorem dX9_state_7 : decode cX9_state 7 = .ok (.getfield 48, 3) := by decide +kernel
theorem dX9_state_10 : decode cX9_state 10 = .ok (.invokevirtual 161, 3) := by decide +kernel
theorem dX9_state_13 : decode cX9_state 13 = .ok (.astore_n 3, 1) := by decide +kernel
theorem dX9_state_14 : decode cX9_state 14 = .ok (.aload_n 3, 1) := by decide +kernel
theorem dX9_state_15 : decode cX9_state 15 = .ok (.ifnull 18, 3) := by decide +kernel
theorem dX9_state_18 : decode cX9_state 18 = .ok (.aload_n 3, 1) := by decide +kernel
theorem dX9_state_19 : decode cX9_state 19 = .ok (.iload_n 1, 1) := by decide +kernel
theorem dX9_state_20 : decode cX9_state 20 = .ok (.invokevirtual 165, 3) := by decide +kernel
theorem dX9_state_23 : decode cX9_state 23 = .ok (.ifCond .eq 10, 3) := by decide +kernel
theorem dX9_state_26 : decode cX9_state 26 = .ok (.iload_n 2, 1) := by decide +kernel
theorem dX9_state_27 : decode cX9_state 27 = .ok (.invokestatic 189, 3) := by decide +kernel
theorem dX9_state_30 : decode cX9_state 30 = .ok (.ifCond .ne 6, 3) := by decide +kernel
theorem dX9_state_33 : decode cX9_state 33 = .ok (.ldc 168, 2) := by decide +kernel
theorem dX9_state_35 : decode cX9_state 35 = .ok (.ireturn, 1) := by decide +kernel
theorem dX9_state_36 : decode cX9_state 36 = .ok (.aload_n 0, 1) := by decide +kernel
theorem dX9_state_37 : decode cX9_state 37 = .ok (.aload_n 3, 1) := by decide +kernel
theorem dX9_state_38 : decode cX9_state 38 = .ok (.iload_n 1, 1) := by decide +kernel
theorem dX9_state_39 : decode cX9_state 39 = .ok (.invokevirtual 144, 3) := by decide +kernel
theorem dX9_state_42 : decode cX9_state 42 = .ok (.iload_n 2, 1) := by decide +kernel
theorem dX9_state_43 : decode cX9_state 43 = .ok (.tableswitch 70 0 4 #[33, 39, 45, 51, 57], 33) := by decide +kernel
theorem dX9_state_76 : decode cX9_state 76 = .ok (.aload_n 3, 1) := by decide +kernel
theorem dX9_state_77 : decode cX9_state 77 = .ok (.iload_n 1, 1) := by decide +kernel
theorem dX9_state_78 : decode cX9_state 78 = .ok (.invokevirtual 192, 3) := by decide +kernel
theorem dX9_state_81 : decode cX9_state 81 = .ok (.ireturn, 1) := by decide +kernel
theorem dX9_state_82 : decode cX9_state 82 = .ok (.aload_n 3, 1) := by decide +kernel
theorem dX9_state_83 : decode cX9_state 83 = .ok (.iload_n 1, 1) := by decide +kernel
theorem dX9_state_84 : decode cX9_state 84 = .ok (.invokevirtual 195, 3) := by decide +kernel
theorem dX9_state_87 : decode cX9_state 87 = .ok (.ireturn, 1) := by decide +kernel
theorem dX9_state_88 : decode cX9_state 88 = .ok (.aload_n 3, 1) := by decide +kernel
theorem dX9_state_89 : decode cX9_state 89 = .ok (.iload_n 1, 1) := by decide +kernel
theorem dX9_state_90 : decode cX9_state 90 = .ok (.invokevirtual 198, 3) := by decide +kernel
theorem dX9_state_93 : decode cX9_state 93 = .ok (.ireturn, 1) := by decide +kernel
theorem dX9_state_94 : decode cX9_state 94 = .ok (.aload_n 3, 1) := by decide +kernel
theorem dX9_state_95 : decode cX9_state 95 = .ok (.iload_n 1, 1) := by decide +kernel
theorem dX9_state_96 : decode cX9_state 96 = .ok (.invokevirtual 201, 3) := by decide +kernel
theorem dX9_state_99 : decode cX9_state 99 = .ok (.ireturn, 1) := by decide +kernel
theorem dX9_state_100 : decode cX9_state 100 = .ok (.aload_n 3, 1) := by decide +kernel
theorem dX9_state_101 : decode cX9_state 101 = .ok (.getfield 204, 3) := by decide +kernel
theorem dX9_state_104 : decode cX9_state 104 = .ok (.aload_n 3, 1) := by decide +kernel
theorem dX9_state_105 : decode cX9_state 105 = .ok (.iload_n 1, 1) := by decide +kernel
theorem dX9_state_106 : decode cX9_state 106 = .ok (.invokevirtual 192, 3) := by decide +kernel
theorem dX9_state_109 : decode cX9_state 109 = .ok (.invokevirtual 205, 3) := by decide +kernel
theorem dX9_state_112 : decode cX9_state 112 = .ok (.ireturn, 1) := by decide +kernel
theorem dX9_state_113 : decode cX9_state 113 = .ok (.aload_n 3, 1) := by decide +kernel
theorem dX9_state_114 : decode cX9_state 114 = .ok (.iload_n 1, 1) := by decide +kernel
theorem dX9_state_115 : decode cX9_state 115 = .ok (.iload_n 2, 1) := by decide +kernel
theorem dX9_state_116 : decode cX9_state 116 = .ok (.bipush 10, 2) := by decide +kernel
theorem dX9_state_118 : decode cX9_state 118 = .ok (.isub, 1) := by decide +kernel
theorem dX9_state_119 : decode cX9_state 119 = .ok (.invokevirtual 208, 3) := by decide +kernel
theorem dX9_state_122 : decode cX9_state 122 = .ok (.ireturn, 1) := by decide +kernel
theorem dX9_last_0 : decode cX9_last 0 = .ok (.aload_n 0, 1) := by decide +kernel
theorem dX9_last_1 : decode cX9_last 1 = .ok (.iconst 0, 1) := by decide +kernel
theorem dX9_last_2 : decode cX9_last 2 = .ok (.putfield 63, 3) := by decide +kernel
theorem dX9_last_5 : decode cX9_last 5 = .ok (.aload_n 0, 1) := by decide +kernel
theorem dX9_last_6 : decode cX9_last 6 = .ok (.aload_n 0, 1) := by decide +kernel
theorem dX9_last_7 : decode cX9_last 7 = .ok (.getfield 48, 3) := by decide +kernel
theorem dX9_last_10 : decode cX9_last 10 = .ok (.invokevirtual 161, 3) := by decide +kernel
theorem dX9_last_13 : decode cX9_last 13 = .ok (.astore_n 3, 1) := by decide +kernel
theorem dX9_last_14 : decode cX9_last 14 = .ok (.aload_n 3, 1) := by decide +kernel
theorem dX9_last_15 : decode cX9_last 15 = .ok (.ifnull 18, 3) := by decide +kernel
theorem dX9_last_18 : decode cX9_last 18 = .ok (.aload_n 3, 1) := by decide +kernel
theorem dX9_last_19 : decode cX9_last 19 = .ok (.iload_n 1, 1) := by decide +kernel
theorem dX9_last_20 : decode cX9_last 20 = .ok (.invokevirtual 165, 3) := by decide +kernel
theorem dX9_last_23 : decode cX9_last 23 = .ok (.ifCond .eq 10, 3) := by decide +kernel
theorem dX9_last_26 : decode cX9_last 26 = .ok (.iload_n 2, 1) := by decide +kernel
theorem dX9_last_27 : decode cX9_last 27 = .ok (.invokestatic 116, 3) := by decide +kernel
theorem dX9_last_30 : decode cX9_last 30 = .ok (.ifCond .ne 6, 3) := by decide +kernel
theorem dX9_last_33 : decode cX9_last 33 = .ok (.bipush (-2), 2) := by decide +kernel
theorem dX9_last_35 : decode cX9_last 35 = .ok (.ireturn, 1) := by decide +kernel
theorem dX9_last_36 : decode cX9_last 36 = .ok (.aload_n 0, 1) := by decide +kernel
theorem dX9_last_37 : decode cX9_last 37 = .ok (.aload_n 3, 1) := by decide +kernel
theorem dX9_last_38 : decode cX9_last 38 = .ok (.iload_n 1, 1) := by decide +kernel
theorem dX9_last_39 : decode cX9_last 39 = .ok (.iload_n 2, 1) := by decide +kernel
theorem dX9_last_40 : decode cX9_last 40 = .ok (.invokevirtual 211, 3) := by decide +kernel
theorem dX9_last_43 : decode cX9_last 43 = .ok (.ireturn, 1) := by decide +kernel
theorem dX9_when_0 : decode cX9_when 0 = .ok (.aload_n 0, 1) := by decide +kernel
theorem dX9_when_1 : decode cX9_when 1 = .ok (.iconst 0, 1) := by decide +kernel
theorem dX9_when_2 : decode cX9_when 2 = .ok (.putfield 63, 3) := by decide +kernel
theorem dX9_when_5 : decode cX9_when 5 = .ok (.aload_n 0, 1) := by decide +kernel
theorem dX9_when_6 : decode cX9_when 6 = .ok (.aload_n 0, 1) := by decide +kernel
theorem dX9_when_7 : decode cX9_when 7 = .ok (.getfield 48, 3) := by decide +kernel
theorem dX9_when_10 : decode cX9_when 10 = .ok (.invokevirtual 161, 3) := by decide +kernel
theorem dX9_when_13 : decode cX9_when 13 = .ok (.astore 5, 2) := by decide +kernel
theorem dX9_when_15 : decode cX9_when 15 = .ok (.aload 5, 2) := by decide +kernel
theorem dX9_when_17 : decode cX9_when 17 = .ok (.ifnull 28, 3) := by decide +kernel
theorem dX9_when_20 : decode cX9_when 20 = .ok (.aload 5, 2) := by decide +kernel
theorem dX9_when_22 : decode cX9_when 22 = .ok (.iload_n 1, 1) := by decide +kernel
theorem dX9_when_23 : decode cX9_when 23 = .ok (.invokevirtual 165, 3) := by decide +kernel
theorem dX9_when_26 : decode cX9_when 26 = .ok (.ifCond .eq 19, 3) := by decide +kernel
theorem dX9_when_29 : decode cX9_when 29 = .ok (.iload_n 2, 1) := by decide +kernel
theorem dX9_when_30 : decode cX9_when 30 = .ok (.invokestatic 116, 3) := by decide +kernel
theorem dX9_when_33 : decode cX9_when 33 = .ok (.ifCond .eq 12, 3) := by decide +kernel
theorem dX9_when_36 : decode cX9_when 36 = .ok (.iload_n 3, 1) := by decide +kernel
theorem dX9_when_37 : decode cX9_when 37 = .ok (.iload 4, 2) := by decide +kernel
theorem dX9_when_39 : decode cX9_when 39 = .ok (.invokestatic 119, 3) := by decide +kernel
theorem dX9_when_42 : decode cX9_when 42 = .ok (.ifCond .ne 6, 3) := by decide +kernel
theorem dX9_when_45 : decode cX9_when 45 = .ok (.bipush (-2), 2) := by decide +kernel
theorem dX9_when_47 : decode cX9_when 47 = .ok (.ireturn, 1) := by decide +kernel
theorem dX9_when_48 : decode cX9_when 48 = .ok (.aload 5, 2) := by decide +kernel
theorem dX9_when_50 : decode cX9_when 50 = .ok (.getfield 169, 3) := by decide +kernel
theorem dX9_when_53 : decode cX9_when 53 = .ok (.iload_n 1, 1) := by decide +kernel
theorem dX9_when_54 : decode cX9_when 54 = .ok (.iload_n 2, 1) := by decide +kernel
theorem dX9_when_55 : decode cX9_when 55 = .ok (.iload_n 3, 1) := by decide +kernel
theorem dX9_when_56 : decode cX9_when 56 = .ok (.iload 4, 2) := by decide +kernel
theorem dX9_when_58 : decode cX9_when 58 = .ok (.invokevirtual 215, 3) := by decide +kernel
theorem dX9_when_61 : decode cX9_when 61 = .ok (.istore 6, 2) := by decide +kernel
theorem dX9_when_63 : decode cX9_when 63 = .ok (.aload_n 0, 1) := by decide +kernel
theorem dX9_when_64 : decode cX9_when 64 = .ok (.aload 5, 2) := by decide +kernel
theorem dX9_when_66 : decode cX9_when 66 = .ok (.aload 5, 2) := by decide +kernel
theorem dX9_when_68 : decode cX9_when 68 = .ok (.getfield 219, 3) := by decide +kernel
theorem dX9_when_71 : decode cX9_when 71 = .ok (.iload 6, 2) := by decide +kernel
theorem dX9_when_73 : decode cX9_when 73 = .ok (.iload_n 1, 1) := by decide +kernel
theorem dX9_when_74 : decode cX9_when 74 = .ok (.invokevirtual 223, 3) := by decide +kernel
theorem dX9_when_77 : decode cX9_when 77 = .ok (.invokevirtual 228, 3) := by decide +kernel
theorem dX9_when_80 : decode cX9_when 80 = .ok (.iload 6, 2) := by decide +kernel
theorem dX9_when_82 : decode cX9_when 82 = .ok (.ireturn, 1) := by decide +kernel
theorem dX9_changed_0 : decode cX9_changed 0 = .ok (.aload_n 0, 1) := by decide +kernel
theorem dX9_changed_1 : decode cX9_changed 1 = .ok (.iconst 0, 1) := by decide +kernel
theorem dX9_changed_2 : decode cX9_changed 2 = .ok (.putfield 63, 3) := by decide +kernel
theorem dX9_changed_5 : decode cX9_changed 5 = .ok (.aload_n 0, 1) := by decide +kernel
theorem dX9_changed_6 : decode cX9_changed 6 = .ok (.aload_n 0, 1) := by decide +kernel
theorem dX9_changed_7 : decode cX9_changed 7 = .ok (.getfield 48, 3) := by decide +kernel
theorem dX9_changed_10 : decode cX9_changed 10 = .ok (.invokevirtual 161, 3) := by decide +kernel
theorem dX9_changed_13 : decode cX9_changed 13 = .ok (.astore_n 3, 1) := by decide +kernel
theorem dX9_changed_14 : decode cX9_changed 14 = .ok (.aload_n 3, 1) := by decide +kernel
theorem dX9_changed_15 : decode cX9_changed 15 = .ok (.ifnull 22, 3) := by decide +kernel
theorem dX9_changed_18 : decode cX9_changed 18 = .ok (.iload_n 1, 1) := by decide +kernel
theorem dX9_changed_19 : decode cX9_changed 19 = .ok (.ifCond .lt 18, 3) := by decide +kernel
theorem dX9_changed_22 : decode cX9_changed 22 = .ok (.iload_n 1, 1) := by decide +kernel
theorem dX9_changed_23 : decode cX9_changed 23 = .ok (.aload_n 3, 1) := by decide +kernel
theorem dX9_changed_24 : decode cX9_changed 24 = .ok (.getfield 141, 3) := by decide +kernel
theorem dX9_changed_27 : decode cX9_changed 27 = .ok (.if_icmp .ge 10, 3) := by decide +kernel
theorem dX9_changed_30 : decode cX9_changed 30 = .ok (.iload_n 2, 1) := by decide +kernel
theorem dX9_changed_31 : decode cX9_changed 31 = .ok (.invokestatic 231, 3) := by decide +kernel
theorem dX9_changed_34 : decode cX9_changed 34 = .ok (.ifCond .ne 6, 3) := by decide +kernel
theorem dX9_changed_37 : decode cX9_changed 37 = .ok (.ldc 168, 2) := by decide +kernel
theorem dX9_changed_39 : decode cX9_changed 39 = .ok (.ireturn, 1) := by decide +kernel
theorem dX9_changed_40 : decode cX9_changed 40 = .ok (.aload_n 0, 1) := by decide +kernel
theorem dX9_changed_41 : decode cX9_changed 41 = .ok (.aload_n 3, 1) := by decide +kernel
theorem dX9_changed_42 : decode cX9_changed 42 = .ok (.iload_n 1, 1) := by decide +kernel
theorem dX9_changed_43 : decode cX9_changed 43 = .ok (.invokevirtual 144, 3) := by decide +kernel
theorem dX9_changed_46 : decode cX9_changed 46 = .ok (.aload_n 0, 1) := by decide +kernel
theorem dX9_changed_47 : decode cX9_changed 47 = .ok (.aload_n 3, 1) := by decide +kernel
theorem dX9_changed_48 : decode cX9_changed 48 = .ok (.iload_n 1, 1) := by decide +kernel
theorem dX9_changed_49 : decode cX9_changed 49 = .ok (.iconst 1, 1) := by decide +kernel
theorem dX9_changed_50 : decode cX9_changed 50 = .ok (.iadd, 1) := by decide +kernel
theorem dX9_changed_51 : decode cX9_changed 51 = .ok (.invokevirtual 144, 3) := by decide +kernel
theorem dX9_changed_54 : decode cX9_changed 54 = .ok (.iconst 0, 1) := by decide +kernel
theorem dX9_changed_55 : decode cX9_changed 55 = .ok (.istore 4, 2) := by decide +kernel
theorem dX9_changed_57 : decode cX9_changed 57 = .ok (.iconst 0, 1) := by decide +kernel
theorem dX9_changed_58 : decode cX9_changed 58 = .ok (.istore 5, 2) := by decide +kernel
theorem dX9_changed_60 : decode cX9_changed 60 = .ok (.iload 5, 2) := by decide +kernel
theorem dX9_changed_62 : decode cX9_changed 62 = .ok (.iload_n 2, 1) := by decide +kernel
theorem dX9_changed_63 : decode cX9_changed 63 = .ok (.invokestatic 234, 3) := by decide +kernel
theorem dX9_changed_66 : decode cX9_changed 66 = .ok (.if_icmp .ge 74, 3) := by decide +kernel
theorem dX9_changed_69 : decode cX9_changed 69 = .ok (.iload_n 2, 1) := by decide +kernel
theorem dX9_changed_70 : decode cX9_changed 70 = .ok (.invokestatic 237, 3) := by decide +kernel
theorem dX9_changed_73 : decode cX9_changed 73 = .ok (.iload 5, 2) := by decide +kernel
theorem dX9_changed_75 : decode cX9_changed 75 = .ok (.iadd, 1) := by decide +kernel
theorem dX9_changed_76 : decode cX9_changed 76 = .ok (.istore 6, 2) := by decide +kernel
theorem dX9_changed_78 : decode cX9_changed 78 = .ok (.aload_n 3, 1) := by decide +kernel
theorem dX9_changed_79 : decode cX9_changed 79 = .ok (.getfield 169, 3) := by decide +kernel
theorem dX9_changed_82 : decode cX9_changed 82 = .ok (.aload_n 3, 1) := by decide +kernel
theorem dX9_changed_83 : decode cX9_changed 83 = .ok (.getfield 169, 3) := by decide +kernel
theorem dX9_changed_86 : decode cX9_changed 86 = .ok (.iload_n 1, 1) := by decide +kernel
theorem dX9_changed_87 : decode cX9_changed 87 = .ok (.iload 6, 2) := by decide +kernel
theorem dX9_changed_89 : decode cX9_changed 89 = .ok (.invokevirtual 173, 3) := by decide +kernel
theorem dX9_changed_92 : decode cX9_changed 92 = .ok (.invokevirtual 186, 3) := by decide +kernel
theorem dX9_changed_95 : decode cX9_changed 95 = .ok (.istore 7, 2) := by decide +kernel
theorem dX9_changed_97 : decode cX9_changed 97 = .ok (.aload_n 3, 1) := by decide +kernel
theorem dX9_changed_98 : decode cX9_changed 98 = .ok (.getfield 169, 3) := by decide +kernel
theorem dX9_changed_101 : decode cX9_changed 101 = .ok (.aload_n 3, 1) := by decide +kernel
theorem dX9_changed_102 : decode cX9_changed 102 = .ok (.getfield 169, 3) := by decide +kernel
theorem dX9_changed_105 : decode cX9_changed 105 = .ok (.iload_n 1, 1) := by decide +kernel
theorem dX9_changed_106 : decode cX9_changed 106 = .ok (.iconst 1, 1) := by decide +kernel
theorem dX9_changed_107 : decode cX9_changed 107 = .ok (.iadd, 1) := by decide +kernel
theorem dX9_changed_108 : decode cX9_changed 108 = .ok (.iload 6, 2) := by decide +kernel
theorem dX9_changed_110 : decode cX9_changed 110 = .ok (.invokevirtual 173, 3) := by decide +kernel
theorem dX9_changed_113 : decode cX9_changed 113 = .ok (.invokevirtual 186, 3) := by decide +kernel
theorem dX9_changed_116 : decode cX9_changed 116 = .ok (.istore 8, 2) := by decide +kernel
theorem dX9_changed_118 : decode cX9_changed 118 = .ok (.iload 7, 2) := by decide +kernel
theorem dX9_changed_120 : decode cX9_changed 120 = .ok (.iload 8, 2) := by decide +kernel
theorem dX9_changed_122 : decode cX9_changed 122 = .ok (.if_icmp .eq 12, 3) := by decide +kernel
theorem dX9_changed_125 : decode cX9_changed 125 = .ok (.iload 4, 2) := by decide +kernel
theorem dX9_changed_127 : decode cX9_changed 127 = .ok (.iconst 1, 1) := by decide +kernel
theorem dX9_changed_128 : decode cX9_changed 128 = .ok (.iload 5, 2) := by decide +kernel
theorem dX9_changed_130 : decode cX9_changed 130 = .ok (.ishl, 1) := by decide +kernel
theorem dX9_changed_131 : decode cX9_changed 131 = .ok (.ior, 1) := by decide +kernel
theorem dX9_changed_132 : decode cX9_changed 132 = .ok (.istore 4, 2) := by decide +kernel
theorem dX9_changed_134 : decode cX9_changed 134 = .ok (.iinc 5 1, 3) := by decide +kernel
theorem dX9_changed_137 : decode cX9_changed 137 = .ok (.goto (-77), 3) := by decide +kernel
theorem dX9_changed_140 : decode cX9_changed 140 = .ok (.iload 4, 2) := by decide +kernel
theorem dX9_changed_142 : decode cX9_changed 142 = .ok (.ireturn, 1) := by decide +kernel
theorem dX9_watched_0 : decode cX9_watched 0 = .ok (.aload_n 0, 1) := by decide +kernel
theorem dX9_watched_1 : decode cX9_watched 1 = .ok (.iconst 0, 1) := by decide +kernel
theorem dX9_watched_2 : decode cX9_watched 2 = .ok (.putfield 63, 3) := by decide +kernel
theorem dX9_watched_5 : decode cX9_watched 5 = .ok (.aload_n 0, 1) := by decide +kernel
theorem dX9_watched_6 : decode cX9_watched 6 = .ok (.aload_n 0, 1) := by decide +kernel
theorem dX9_watched_7 : decode cX9_watched 7 = .ok (.getfield 48, 3) := by decide +kernel
theorem dX9_watched_10 : decode cX9_watched 10 = .ok (.invokevirtual 161, 3) := by decide +kernel
theorem dX9_watched_13 : decode cX9_watched 13 = .ok (.astore_n 2, 1) := by decide +kernel
theorem dX9_watched_14 : decode cX9_watched 14 = .ok (.aload_n 2, 1) := by decide +kernel
theorem dX9_watched_15 : decode cX9_watched 15 = .ok (.ifnull 16, 3) := by decide +kernel
theorem dX9_watched_18 : decode cX9_watched 18 = .ok (.iload_n 1, 1) := by decide +kernel
theorem dX9_watched_19 : decode cX9_watched 19 = .ok (.iconst 1, 1) := by decide +kernel
theorem dX9_watched_20 : decode cX9_watched 20 = .ok (.if_icmp .lt 11, 3) := by decide +kernel
theorem dX9_watched_23 : decode cX9_watched 23 = .ok (.iload_n 1, 1) := by decide +kernel
theorem dX9_watched_24 : decode cX9_watched 24 = .ok (.aload_n 2, 1) := by decide +kernel
theorem dX9_watched_25 : decode cX9_watched 25 = .ok (.getfield 141, 3) := by decide +kernel
theorem dX9_watched_28 : decode cX9_watched 28 = .ok (.if_icmp .le 6, 3) := by decide +kernel
theorem dX9_watched_31 : decode cX9_watched 31 = .ok (.bipush (-2), 2) := by decide +kernel
theorem dX9_watched_33 : decode cX9_watched 33 = .ok (.ireturn, 1) := by decide +kernel
theorem dX9_watched_34 : decode cX9_watched 34 = .ok (.iconst (-1), 1) := by decide +kernel
theorem dX9_watched_35 : decode cX9_watched 35 = .ok (.istore_n 3, 1) := by decide +kernel
theorem dX9_watched_36 : decode cX9_watched 36 = .ok (.iconst 0, 1) := by decide +kernel
theorem dX9_watched_37 : decode cX9_watched 37 = .ok (.istore 4, 2) := by decide +kernel
theorem dX9_watched_39 : decode cX9_watched 39 = .ok (.iload 4, 2) := by decide +kernel
theorem dX9_watched_41 : decode cX9_watched 41 = .ok (.bipush 40, 2) := by decide +kernel
theorem dX9_watched_43 : decode cX9_watched 43 = .ok (.if_icmp .ge 33, 3) := by decide +kernel
theorem dX9_watched_46 : decode cX9_watched 46 = .ok (.aload_n 0, 1) := by decide +kernel
theorem dX9_watched_47 : decode cX9_watched 47 = .ok (.iload 4, 2) := by decide +kernel
theorem dX9_watched_49 : decode cX9_watched 49 = .ok (.invokevirtual 138, 3) := by decide +kernel
theorem dX9_watched_52 : decode cX9_watched 52 = .ok (.ifCond .eq 18, 3) := by decide +kernel
theorem dX9_watched_55 : decode cX9_watched 55 = .ok (.iload_n 3, 1) := by decide +kernel
theorem dX9_watched_56 : decode cX9_watched 56 = .ok (.aload_n 0, 1) := by decide +kernel
theorem dX9_watched_57 : decode cX9_watched 57 = .ok (.aload_n 2, 1) := by decide +kernel
theorem dX9_watched_58 : decode cX9_watched 58 = .ok (.iload_n 1, 1) := by decide +kernel
theorem dX9_watched_59 : decode cX9_watched 59 = .ok (.iconst 1, 1) := by decide +kernel
theorem dX9_watched_60 : decode cX9_watched 60 = .ok (.isub, 1) := by decide +kernel
theorem dX9_watched_61 : decode cX9_watched 61 = .ok (.iload 4, 2) := by decide +kernel
theorem dX9_watched_63 : decode cX9_watched 63 = .ok (.invokevirtual 211, 3) := by decide +kernel
theorem dX9_watched_66 : decode cX9_watched 66 = .ok (.invokestatic 240, 3) := by decide +kernel
theorem dX9_watched_69 : decode cX9_watched 69 = .ok (.istore_n 3, 1) := by decide +kernel
theorem dX9_watched_70 : decode cX9_watched 70 = .ok (.iinc 4 1, 3) := by decide +kernel
theorem dX9_watched_73 : decode cX9_watched 73 = .ok (.goto (-34), 3) := by decide +kernel
theorem dX9_watched_76 : decode cX9_watched 76 = .ok (.iload_n 3, 1) := by decide +kernel
theorem dX9_watched_77 : decode cX9_watched 77 = .ok (.ireturn, 1) := by decide +kernel
theorem dX9_rests_0 : decode cX9_rests 0 = .ok (.aload_n 0, 1) := by decide +kernel
theorem dX9_rests_1 : decode cX9_rests 1 = .ok (.aload_n 0, 1) := by decide +kernel
theorem dX9_rests_2 : decode cX9_rests 2 = .ok (.getfield 48, 3) := by decide +kernel
theorem dX9_rests_5 : decode cX9_rests 5 = .ok (.invokevirtual 161, 3) := by decide +kernel
theorem dX9_rests_8 : decode cX9_rests 8 = .ok (.astore 4, 2) := by decide +kernel
theorem dX9_rests_10 : decode cX9_rests 10 = .ok (.aload 4, 2) := by decide +kernel
theorem dX9_rests_12 : decode cX9_rests 12 = .ok (.ifnull 19, 3) := by decide +kernel
theorem dX9_rests_15 : decode cX9_rests 15 = .ok (.aload 4, 2) := by decide +kernel
theorem dX9_rests_17 : decode cX9_rests 17 = .ok (.iload_n 1, 1) := by decide +kernel
theorem dX9_rests_18 : decode cX9_rests 18 = .ok (.invokevirtual 165, 3) := by decide +kernel
theorem dX9_rests_21 : decode cX9_rests 21 = .ok (.ifCond .eq 10, 3) := by decide +kernel
theorem dX9_rests_24 : decode cX9_rests 24 = .ok (.iload_n 2, 1) := by decide +kernel
theorem dX9_rests_25 : decode cX9_rests 25 = .ok (.invokestatic 116, 3) := by decide +kernel
theorem dX9_rests_28 : decode cX9_rests 28 = .ok (.ifCond .ne 6, 3) := by decide +kernel
theorem dX9_rests_31 : decode cX9_rests 31 = .ok (.bipush (-2), 2) := by decide +kernel
theorem dX9_rests_33 : decode cX9_rests 33 = .ok (.ireturn, 1) := by decide +kernel
theorem dX9_rests_34 : decode cX9_rests 34 = .ok (.aload 4, 2) := by decide +kernel
theorem dX9_rests_36 : decode cX9_rests 36 = .ok (.getfield 169, 3) := by decide +kernel
theorem dX9_rests_39 : decode cX9_rests 39 = .ok (.aload 4, 2) := by decide +kernel
theorem dX9_rests_41 : decode cX9_rests 41 = .ok (.getfield 169, 3) := by decide +kernel
theorem dX9_rests_44 : decode cX9_rests 44 = .ok (.iload_n 1, 1) := by decide +kernel
theorem dX9_rests_45 : decode cX9_rests 45 = .ok (.iload_n 2, 1) := by decide +kernel
theorem dX9_rests_46 : decode cX9_rests 46 = .ok (.invokevirtual 173, 3) := by decide +kernel
theorem dX9_rests_49 : decode cX9_rests 49 = .ok (.aload_n 0, 1) := by decide +kernel
theorem dX9_rests_50 : decode cX9_rests 50 = .ok (.getfield 30, 3) := by decide +kernel
theorem dX9_rests_53 : decode cX9_rests 53 = .ok (.invokevirtual 245, 3) := by decide +kernel
theorem dX9_rests_56 : decode cX9_rests 56 = .ok (.aload 4, 2) := by decide +kernel
theorem dX9_rests_58 : decode cX9_rests 58 = .ok (.getfield 169, 3) := by decide +kernel
theorem dX9_rests_61 : decode cX9_rests 61 = .ok (.iload_n 3, 1) := by decide +kernel
theorem dX9_rests_62 : decode cX9_rests 62 = .ok (.aload_n 0, 1) := by decide +kernel
theorem dX9_rests_63 : decode cX9_rests 63 = .ok (.getfield 30, 3) := by decide +kernel
theorem dX9_rests_66 : decode cX9_rests 66 = .ok (.invokevirtual 249, 3) := by decide +kernel
theorem dX9_rests_69 : decode cX9_rests 69 = .ok (.ireturn, 1) := by decide +kernel
theorem dX9_hangs_0 : decode cX9_hangs 0 = .ok (.aload_n 0, 1) := by decide +kernel
theorem dX9_hangs_1 : decode cX9_hangs 1 = .ok (.aload_n 0, 1) := by decide +kernel
theorem dX9_hangs_2 : decode cX9_hangs 2 = .ok (.getfield 48, 3) := by decide +kernel
theorem dX9_hangs_5 : decode cX9_hangs 5 = .ok (.invokevirtual 161, 3) := by decide +kernel
theorem dX9_hangs_8 : decode cX9_hangs 8 = .ok (.astore 4, 2) := by decide +kernel
theorem dX9_hangs_10 : decode cX9_hangs 10 = .ok (.aload 4, 2) := by decide +kernel
theorem dX9_hangs_12 : decode cX9_hangs 12 = .ok (.ifnull 31, 3) := by decide +kernel
theorem dX9_hangs_15 : decode cX9_hangs 15 = .ok (.aload 4, 2) := by decide +kernel
theorem dX9_hangs_17 : decode cX9_hangs 17 = .ok (.getfield 106, 3) := by decide +kernel
theorem dX9_hangs_20 : decode cX9_hangs 20 = .ok (.iload_n 1, 1) := by decide +kernel
theorem dX9_hangs_21 : decode cX9_hangs 21 = .ok (.invokevirtual 253, 3) := by decide +kernel
theorem dX9_hangs_24 : decode cX9_hangs 24 = .ok (.ifCond .eq 19, 3) := by decide +kernel
theorem dX9_hangs_27 : decode cX9_hangs 27 = .ok (.aload 4, 2) := by decide +kernel
theorem dX9_hangs_29 : decode cX9_hangs 29 = .ok (.iload_n 2, 1) := by decide +kernel
theorem dX9_hangs_30 : decode cX9_hangs 30 = .ok (.invokevirtual 165, 3) := by decide +kernel
theorem dX9_hangs_33 : decode cX9_hangs 33 = .ok (.ifCond .eq 10, 3) := by decide +kernel
theorem dX9_hangs_36 : decode cX9_hangs 36 = .ok (.iload_n 3, 1) := by decide +kernel
theorem dX9_hangs_37 : decode cX9_hangs 37 = .ok (.invokestatic 231, 3) := by decide +kernel
theorem dX9_hangs_40 : decode cX9_hangs 40 = .ok (.ifCond .ne 6, 3) := by decide +kernel
theorem dX9_hangs_43 : decode cX9_hangs 43 = .ok (.ldc 168, 2) := by decide +kernel
theorem dX9_hangs_45 : decode cX9_hangs 45 = .ok (.ireturn, 1) := by decide +kernel
theorem dX9_hangs_46 : decode cX9_hangs 46 = .ok (.aload 4, 2) := by decide +kernel
theorem dX9_hangs_48 : decode cX9_hangs 48 = .ok (.getfield 169, 3) := by decide +kernel
theorem dX9_hangs_51 : decode cX9_hangs 51 = .ok (.iload_n 1, 1) := by decide +kernel
theorem dX9_hangs_52 : decode cX9_hangs 52 = .ok (.aload_n 0, 1) := by decide +kernel
theorem dX9_hangs_53 : decode cX9_hangs 53 = .ok (.getfield 30, 3) := by decide +kernel
theorem dX9_hangs_56 : decode cX9_hangs 56 = .ok (.invokevirtual 256, 3) := by decide +kernel
theorem dX9_hangs_59 : decode cX9_hangs 59 = .ok (.iconst 0, 1) := by decide +kernel
theorem dX9_hangs_60 : decode cX9_hangs 60 = .ok (.istore 5, 2) := by decide +kernel
theorem dX9_hangs_62 : decode cX9_hangs 62 = .ok (.iconst 0, 1) := by decide +kernel
theorem dX9_hangs_63 : decode cX9_hangs 63 = .ok (.istore 6, 2) := by decide +kernel
theorem dX9_hangs_65 : decode cX9_hangs 65 = .ok (.iload 6, 2) := by decide +kernel
theorem dX9_hangs_67 : decode cX9_hangs 67 = .ok (.iload_n 3, 1) := by decide +kernel
theorem dX9_hangs_68 : decode cX9_hangs 68 = .ok (.invokestatic 234, 3) := by decide +kernel
theorem dX9_hangs_71 : decode cX9_hangs 71 = .ok (.if_icmp .ge 44, 3) := by decide +kernel
theorem dX9_hangs_74 : decode cX9_hangs 74 = .ok (.aload_n 0, 1) := by decide +kernel
theorem dX9_hangs_75 : decode cX9_hangs 75 = .ok (.getfield 30, 3) := by decide +kernel
theorem dX9_hangs_78 : decode cX9_hangs 78 = .ok (.aload 4, 2) := by decide +kernel
theorem dX9_hangs_80 : decode cX9_hangs 80 = .ok (.getfield 169, 3) := by decide +kernel
theorem dX9_hangs_83 : decode cX9_hangs 83 = .ok (.iload_n 2, 1) := by decide +kernel
theorem dX9_hangs_84 : decode cX9_hangs 84 = .ok (.iload_n 3, 1) := by decide +kernel
theorem dX9_hangs_85 : decode cX9_hangs 85 = .ok (.invokestatic 237, 3) := by decide +kernel
theorem dX9_hangs_88 : decode cX9_hangs 88 = .ok (.iload 6, 2) := by decide +kernel
theorem dX9_hangs_90 : decode cX9_hangs 90 = .ok (.iadd, 1) := by decide +kernel
theorem dX9_hangs_91 : decode cX9_hangs 91 = .ok (.invokevirtual 173, 3) := by decide +kernel
theorem dX9_hangs_94 : decode cX9_hangs 94 = .ok (.invokestatic 259, 3) := by decide +kernel
theorem dX9_hangs_97 : decode cX9_hangs 97 = .ok (.ifCond .eq 12, 3) := by decide +kernel
theorem dX9_hangs_100 : decode cX9_hangs 100 = .ok (.iload 5, 2) := by decide +kernel
theorem dX9_hangs_102 : decode cX9_hangs 102 = .ok (.iconst 1, 1) := by decide +kernel
theorem dX9_hangs_103 : decode cX9_hangs 103 = .ok (.iload 6, 2) := by decide +kernel
theorem dX9_hangs_105 : decode cX9_hangs 105 = .ok (.ishl, 1) := by decide +kernel
theorem dX9_hangs_106 : decode cX9_hangs 106 = .ok (.ior, 1) := by decide +kernel
theorem dX9_hangs_107 : decode cX9_hangs 107 = .ok (.istore 5, 2) := by decide +kernel
theorem dX9_hangs_109 : decode cX9_hangs 109 = .ok (.iinc 6 1, 3) := by decide +kernel
theorem dX9_hangs_112 : decode cX9_hangs 112 = .ok (.goto (-47), 3) := by decide +kernel
theorem dX9_hangs_115 : decode cX9_hangs 115 = .ok (.iload 5, 2) := by decide +kernel
theorem dX9_hangs_117 : decode cX9_hangs 117 = .ok (.ireturn, 1) := by decide +kernel
theorem dX9_history_0 : decode cX9_history 0 = .ok (.aload_n 0, 1) := by decide +kernel
theorem dX9_history_1 : decode cX9_history 1 = .ok (.aload_n 0, 1) := by decide +kernel
theorem dX9_history_2 : decode cX9_history 2 = .ok (.getfield 48, 3) := by decide +kernel
theorem dX9_history_5 : decode cX9_history 5 = .ok (.invokevirtual 161, 3) := by decide +kernel
theorem dX9_history_8 : decode cX9_history 8 = .ok (.astore 4, 2) := by decide +kernel
theorem dX9_history_10 : decode cX9_history 10 = .ok (.aload 4, 2) := by decide +kernel
theorem dX9_history_12 : decode cX9_history 12 = .ok (.ifnull 19, 3) := by decide +kernel
theorem dX9_history_15 : decode cX9_history 15 = .ok (.iload_n 1, 1) := by decide +kernel
theorem dX9_history_16 : decode cX9_history 16 = .ok (.invokestatic 116, 3) := by decide +kernel
theorem dX9_history_19 : decode cX9_history 19 = .ok (.ifCond .eq 12, 3) := by decide +kernel
theorem dX9_history_22 : decode cX9_history 22 = .ok (.iload_n 3, 1) := by decide +kernel
theorem dX9_history_23 : decode cX9_history 23 = .ok (.ifCond .lt 8, 3) := by decide +kernel
theorem dX9_history_26 : decode cX9_history 26 = .ok (.iload_n 3, 1) := by decide +kernel
theorem dX9_history_27 : decode cX9_history 27 = .ok (.iconst 2, 1) := by decide +kernel
theorem dX9_history_28 : decode cX9_history 28 = .ok (.if_icmp .le 6, 3) := by decide +kernel
theorem dX9_history_31 : decode cX9_history 31 = .ok (.ldc 168, 2) := by decide +kernel
theorem dX9_history_33 : decode cX9_history 33 = .ok (.ireturn, 1) := by decide +kernel
theorem dX9_history_34 : decode cX9_history 34 = .ok (.iload_n 2, 1) := by decide +kernel
theorem dX9_history_35 : decode cX9_history 35 = .ok (.iconst (-1), 1) := by decide +kernel
theorem dX9_history_36 : decode cX9_history 36 = .ok (.if_icmp .ne 14, 3) := by decide +kernel
theorem dX9_history_39 : decode cX9_history 39 = .ok (.aload 4, 2) := by decide +kernel
theorem dX9_history_41 : decode cX9_history 41 = .ok (.getfield 169, 3) := by decide +kernel
theorem dX9_history_44 : decode cX9_history 44 = .ok (.iload_n 1, 1) := by decide +kernel
theorem dX9_history_45 : decode cX9_history 45 = .ok (.iconst (-1), 1) := by decide +kernel
theorem dX9_history_46 : decode cX9_history 46 = .ok (.invokevirtual 263, 3) := by decide +kernel
theorem dX9_history_49 : decode cX9_history 49 = .ok (.ireturn, 1) := by decide +kernel
theorem dX9_history_50 : decode cX9_history 50 = .ok (.iload_n 2, 1) := by decide +kernel
theorem dX9_history_51 : decode cX9_history 51 = .ok (.ifCond .ge 7, 3) := by decide +kernel
theorem dX9_history_54 : decode cX9_history 54 = .ok (.iconst (-1), 1) := by decide +kernel
theorem dX9_history_55 : decode cX9_history 55 = .ok (.goto 13, 3) := by decide +kernel
theorem dX9_history_58 : decode cX9_history 58 = .ok (.aload 4, 2) := by decide +kernel
theorem dX9_history_60 : decode cX9_history 60 = .ok (.getfield 169, 3) := by decide +kernel
theorem dX9_history_63 : decode cX9_history 63 = .ok (.iload_n 1, 1) := by decide +kernel
theorem dX9_history_64 : decode cX9_history 64 = .ok (.iload_n 2, 1) := by decide +kernel
theorem dX9_history_65 : decode cX9_history 65 = .ok (.invokevirtual 263, 3) := by decide +kernel
theorem dX9_history_68 : decode cX9_history 68 = .ok (.istore 5, 2) := by decide +kernel
theorem dX9_history_70 : decode cX9_history 70 = .ok (.iload 5, 2) := by decide +kernel
theorem dX9_history_72 : decode cX9_history 72 = .ok (.iconst (-1), 1) := by decide +kernel
theorem dX9_history_73 : decode cX9_history 73 = .ok (.if_icmp .ne 6, 3) := by decide +kernel
theorem dX9_history_76 : decode cX9_history 76 = .ok (.ldc 168, 2) := by decide +kernel
theorem dX9_history_78 : decode cX9_history 78 = .ok (.ireturn, 1) := by decide +kernel
theorem dX9_history_79 : decode cX9_history 79 = .ok (.aload 4, 2) := by decide +kernel
theorem dX9_history_81 : decode cX9_history 81 = .ok (.getfield 169, 3) := by decide +kernel
theorem dX9_history_84 : decode cX9_history 84 = .ok (.iload 5, 2) := by decide +kernel
theorem dX9_history_86 : decode cX9_history 86 = .ok (.iload_n 1, 1) := by decide +kernel
theorem dX9_history_87 : decode cX9_history 87 = .ok (.invokevirtual 173, 3) := by decide +kernel
theorem dX9_history_90 : decode cX9_history 90 = .ok (.istore 6, 2) := by decide +kernel
theorem dX9_history_92 : decode cX9_history 92 = .ok (.iload_n 3, 1) := by decide +kernel
theorem dX9_history_93 : decode cX9_history 93 = .ok (.lookupswitch 41 #[(0, 27), (1, 30)], 27) := by decide +kernel
theorem dX9_history_120 : decode cX9_history 120 = .ok (.iload 5, 2) := by decide +kernel
theorem dX9_history_122 : decode cX9_history 122 = .ok (.ireturn, 1) := by decide +kernel
theorem dX9_history_123 : decode cX9_history 123 = .ok (.aload 4, 2) := by decide +kernel
theorem dX9_history_125 : decode cX9_history 125 = .ok (.getfield 169, 3) := by decide +kernel
theorem dX9_history_128 : decode cX9_history 128 = .ok (.iload 6, 2) := by decide +kernel
theorem dX9_history_130 : decode cX9_history 130 = .ok (.invokevirtual 179, 3) := by decide +kernel
theorem dX9_history_133 : decode cX9_history 133 = .ok (.ireturn, 1) := by decide +kernel
theorem dX9_history_134 : decode cX9_history 134 = .ok (.aload 4, 2) := by decide +kernel
theorem dX9_history_136 : decode cX9_history 136 = .ok (.getfield 169, 3) := by decide +kernel
theorem dX9_history_139 : decode cX9_history 139 = .ok (.iload 6, 2) := by decide +kernel
theorem dX9_history_141 : decode cX9_history 141 = .ok (.invokevirtual 183, 3) := by decide +kernel
theorem dX9_history_144 : decode cX9_history 144 = .ok (.ireturn, 1) := by decide +kernel
theorem dX9_done_0 : decode cX9_done 0 = .ok (.aload_n 0, 1) := by decide +kernel
theorem dX9_done_1 : decode cX9_done 1 = .ok (.aload_n 0, 1) := by decide +kernel
theorem dX9_done_2 : decode cX9_done 2 = .ok (.getfield 48, 3) := by decide +kernel
theorem dX9_done_5 : decode cX9_done 5 = .ok (.invokevirtual 161, 3) := by decide +kernel
theorem dX9_done_8 : decode cX9_done 8 = .ok (.astore_n 3, 1) := by decide +kernel
theorem dX9_done_9 : decode cX9_done 9 = .ok (.aload_n 3, 1) := by decide +kernel
theorem dX9_done_10 : decode cX9_done 10 = .ok (.ifnull 21, 3) := by decide +kernel
theorem dX9_done_13 : decode cX9_done 13 = .ok (.aload_n 3, 1) := by decide +kernel
theorem dX9_done_14 : decode cX9_done 14 = .ok (.iload_n 1, 1) := by decide +kernel
theorem dX9_done_15 : decode cX9_done 15 = .ok (.invokevirtual 165, 3) := by decide +kernel
theorem dX9_done_18 : decode cX9_done 18 = .ok (.ifCond .eq 13, 3) := by decide +kernel
theorem dX9_done_21 : decode cX9_done 21 = .ok (.iload_n 2, 1) := by decide +kernel
theorem dX9_done_22 : decode cX9_done 22 = .ok (.ifCond .lt 9, 3) := by decide +kernel
theorem dX9_done_25 : decode cX9_done 25 = .ok (.iload_n 2, 1) := by decide +kernel
theorem dX9_done_26 : decode cX9_done 26 = .ok (.bipush 64, 2) := by decide +kernel
theorem dX9_done_28 : decode cX9_done 28 = .ok (.if_icmp .le 6, 3) := by decide +kernel
theorem dX9_done_31 : decode cX9_done 31 = .ok (.bipush (-2), 2) := by decide +kernel
theorem dX9_done_33 : decode cX9_done 33 = .ok (.ireturn, 1) := by decide +kernel
theorem dX9_done_34 : decode cX9_done 34 = .ok (.iconst 0, 1) := by decide +kernel
theorem dX9_done_35 : decode cX9_done 35 = .ok (.istore 4, 2) := by decide +kernel
theorem dX9_done_37 : decode cX9_done 37 = .ok (.iconst 0, 1) := by decide +kernel
theorem dX9_done_38 : decode cX9_done 38 = .ok (.istore 5, 2) := by decide +kernel
theorem dX9_done_40 : decode cX9_done 40 = .ok (.iload 5, 2) := by decide +kernel
theorem dX9_done_42 : decode cX9_done 42 = .ok (.iload_n 1, 1) := by decide +kernel
theorem dX9_done_43 : decode cX9_done 43 = .ok (.if_icmp .ge 22, 3) := by decide +kernel
theorem dX9_done_46 : decode cX9_done 46 = .ok (.aload_n 3, 1) := by decide +kernel
theorem dX9_done_47 : decode cX9_done 47 = .ok (.iload 5, 2) := by decide +kernel
theorem dX9_done_49 : decode cX9_done 49 = .ok (.invokevirtual 192, 3) := by decide +kernel
theorem dX9_done_52 : decode cX9_done 52 = .ok (.iload_n 2, 1) := by decide +kernel
theorem dX9_done_53 : decode cX9_done 53 = .ok (.if_icmp .ne 6, 3) := by decide +kernel
theorem dX9_done_56 : decode cX9_done 56 = .ok (.iinc 4 1, 3) := by decide +kernel
theorem dX9_done_59 : decode cX9_done 59 = .ok (.iinc 5 1, 3) := by decide +kernel
theorem dX9_done_62 : decode cX9_done 62 = .ok (.goto (-22), 3) := by decide +kernel
theorem dX9_done_65 : decode cX9_done 65 = .ok (.iload 4, 2) := by decide +kernel
theorem dX9_done_67 : decode cX9_done 67 = .ok (.ireturn, 1) := by decide +kernel
theorem dX9_call_0 : decode cX9_call 0 = .ok (.aload_n 0, 1) := by decide +kernel
theorem dX9_call_1 : decode cX9_call 1 = .ok (.aload_n 0, 1) := by decide +kernel
theorem dX9_call_2 : decode cX9_call 2 = .ok (.getfield 48, 3) := by decide +kernel
theorem dX9_call_5 : decode cX9_call 5 = .ok (.invokevirtual 161, 3) := by decide +kernel
theorem dX9_call_8 : decode cX9_call 8 = .ok (.astore_n 3, 1) := by decide +kernel
theorem dX9_call_9 : decode cX9_call 9 = .ok (.aload_n 3, 1) := by decide +kernel
theorem dX9_call_10 : decode cX9_call 10 = .ok (.ifnull 12, 3) := by decide +kernel
theorem dX9_call_13 : decode cX9_call 13 = .ok (.iload_n 2, 1) := by decide +kernel
theorem dX9_call_14 : decode cX9_call 14 = .ok (.ifCond .lt 8, 3) := by decide +kernel
theorem dX9_call_17 : decode cX9_call 17 = .ok (.iload_n 2, 1) := by decide +kernel
theorem dX9_call_18 : decode cX9_call 18 = .ok (.iconst 2, 1) := by decide +kernel
theorem dX9_call_19 : decode cX9_call 19 = .ok (.if_icmp .le 5, 3) := by decide +kernel
theorem dX9_call_22 : decode cX9_call 22 = .ok (.iconst (-1), 1) := by decide +kernel
theorem dX9_call_23 : decode cX9_call 23 = .ok (.ireturn, 1) := by decide +kernel
theorem dX9_call_24 : decode cX9_call 24 = .ok (.iload_n 1, 1) := by decide +kernel
theorem dX9_call_25 : decode cX9_call 25 = .ok (.iconst (-1), 1) := by decide +kernel
theorem dX9_call_26 : decode cX9_call 26 = .ok (.if_icmp .ne 13, 3) := by decide +kernel
theorem dX9_call_29 : decode cX9_call 29 = .ok (.aload_n 3, 1) := by decide +kernel
theorem dX9_call_30 : decode cX9_call 30 = .ok (.getfield 266, 3) := by decide +kernel
theorem dX9_call_33 : decode cX9_call 33 = .ok (.getfield 270, 3) := by decide +kernel
theorem dX9_call_36 : decode cX9_call 36 = .ok (.goto 12, 3) := by decide +kernel
theorem dX9_call_39 : decode cX9_call 39 = .ok (.aload_n 3, 1) := by decide +kernel
theorem dX9_call_40 : decode cX9_call 40 = .ok (.getfield 266, 3) := by decide +kernel
theorem dX9_call_43 : decode cX9_call 43 = .ok (.iload_n 1, 1) := by decide +kernel
theorem dX9_call_44 : decode cX9_call 44 = .ok (.iload_n 2, 1) := by decide +kernel
theorem dX9_call_45 : decode cX9_call 45 = .ok (.invokevirtual 274, 3) := by decide +kernel
theorem dX9_call_48 : decode cX9_call 48 = .ok (.ireturn, 1) := by decide +kernel
theorem dX9_log_0 : decode cX9_log 0 = .ok (.aload_n 0, 1) := by decide +kernel
theorem dX9_log_1 : decode cX9_log 1 = .ok (.aload_n 0, 1) := by decide +kernel
theorem dX9_log_2 : decode cX9_log 2 = .ok (.getfield 48, 3) := by decide +kernel
theorem dX9_log_5 : decode cX9_log 5 = .ok (.invokevirtual 161, 3) := by decide +kernel
theorem dX9_log_8 : decode cX9_log 8 = .ok (.astore_n 3, 1) := by decide +kernel
theorem dX9_log_9 : decode cX9_log 9 = .ok (.aload_n 3, 1) := by decide +kernel
theorem dX9_log_10 : decode cX9_log 10 = .ok (.ifnull 12, 3) := by decide +kernel
theorem dX9_log_13 : decode cX9_log 13 = .ok (.iload_n 2, 1) := by decide +kernel
theorem dX9_log_14 : decode cX9_log 14 = .ok (.ifCond .lt 8, 3) := by decide +kernel
theorem dX9_log_17 : decode cX9_log 17 = .ok (.iload_n 2, 1) := by decide +kernel
theorem dX9_log_18 : decode cX9_log 18 = .ok (.iconst 4, 1) := by decide +kernel
theorem dX9_log_19 : decode cX9_log 19 = .ok (.if_icmp .le 6, 3) := by decide +kernel
theorem dX9_log_22 : decode cX9_log 22 = .ok (.ldc 168, 2) := by decide +kernel
theorem dX9_log_24 : decode cX9_log 24 = .ok (.ireturn, 1) := by decide +kernel
theorem dX9_log_25 : decode cX9_log 25 = .ok (.iload_n 1, 1) := by decide +kernel
theorem dX9_log_26 : decode cX9_log 26 = .ok (.iconst (-1), 1) := by decide +kernel
theorem dX9_log_27 : decode cX9_log 27 = .ok (.if_icmp .ne 13, 3) := by decide +kernel
theorem dX9_log_30 : decode cX9_log 30 = .ok (.aload_n 3, 1) := by decide +kernel
theorem dX9_log_31 : decode cX9_log 31 = .ok (.getfield 106, 3) := by decide +kernel
theorem dX9_log_34 : decode cX9_log 34 = .ok (.getfield 277, 3) := by decide +kernel
theorem dX9_log_37 : decode cX9_log 37 = .ok (.goto 12, 3) := by decide +kernel
theorem dX9_log_40 : decode cX9_log 40 = .ok (.aload_n 3, 1) := by decide +kernel
theorem dX9_log_41 : decode cX9_log 41 = .ok (.getfield 106, 3) := by decide +kernel
theorem dX9_log_44 : decode cX9_log 44 = .ok (.iload_n 1, 1) := by decide +kernel
theorem dX9_log_45 : decode cX9_log 45 = .ok (.iload_n 2, 1) := by decide +kernel
theorem dX9_log_46 : decode cX9_log 46 = .ok (.invokevirtual 278, 3) := by decide +kernel
theorem dX9_log_49 : decode cX9_log 49 = .ok (.ireturn, 1) := by decide +kernel
theorem dX9_held_0 : decode cX9_held 0 = .ok (.aload_n 0, 1) := by decide +kernel
theorem dX9_held_1 : decode cX9_held 1 = .ok (.aload_n 0, 1) := by decide +kernel
theorem dX9_held_2 : decode cX9_held 2 = .ok (.getfield 48, 3) := by decide +kernel
theorem dX9_held_5 : decode cX9_held 5 = .ok (.invokevirtual 161, 3) := by decide +kernel
theorem dX9_held_8 : decode cX9_held 8 = .ok (.astore_n 3, 1) := by decide +kernel
theorem dX9_held_9 : decode cX9_held 9 = .ok (.aload_n 3, 1) := by decide +kernel
theorem dX9_held_10 : decode cX9_held 10 = .ok (.ifnull 12, 3) := by decide +kernel
theorem dX9_held_13 : decode cX9_held 13 = .ok (.iload_n 2, 1) := by decide +kernel
theorem dX9_held_14 : decode cX9_held 14 = .ok (.ifCond .lt 8, 3) := by decide +kernel
theorem dX9_held_17 : decode cX9_held 17 = .ok (.iload_n 2, 1) := by decide +kernel
theorem dX9_held_18 : decode cX9_held 18 = .ok (.iconst 1, 1) := by decide +kernel
theorem dX9_held_19 : decode cX9_held 19 = .ok (.if_icmp .le 5, 3) := by decide +kernel
theorem dX9_held_22 : decode cX9_held 22 = .ok (.iconst (-1), 1) := by decide +kernel
theorem dX9_held_23 : decode cX9_held 23 = .ok (.ireturn, 1) := by decide +kernel
theorem dX9_held_24 : decode cX9_held 24 = .ok (.iload_n 1, 1) := by decide +kernel
theorem dX9_held_25 : decode cX9_held 25 = .ok (.iconst (-1), 1) := by decide +kernel
theorem dX9_held_26 : decode cX9_held 26 = .ok (.if_icmp .ne 11, 3) := by decide +kernel
theorem dX9_held_29 : decode cX9_held 29 = .ok (.aload_n 3, 1) := by decide +kernel
theorem dX9_held_30 : decode cX9_held 30 = .ok (.getfield 219, 3) := by decide +kernel
theorem dX9_held_33 : decode cX9_held 33 = .ok (.getfield 279, 3) := by decide +kernel
theorem dX9_held_36 : decode cX9_held 36 = .ok (.ireturn, 1) := by decide +kernel
theorem dX9_held_37 : decode cX9_held 37 = .ok (.iload_n 2, 1) := by decide +kernel
theorem dX9_held_38 : decode cX9_held 38 = .ok (.ifCond .ne 14, 3) := by decide +kernel
theorem dX9_held_41 : decode cX9_held 41 = .ok (.aload_n 3, 1) := by decide +kernel
theorem dX9_held_42 : decode cX9_held 42 = .ok (.getfield 219, 3) := by decide +kernel
theorem dX9_held_45 : decode cX9_held 45 = .ok (.iload_n 1, 1) := by decide +kernel
theorem dX9_held_46 : decode cX9_held 46 = .ok (.invokevirtual 280, 3) := by decide +kernel
theorem dX9_held_49 : decode cX9_held 49 = .ok (.goto 11, 3) := by decide +kernel
theorem dX9_held_52 : decode cX9_held 52 = .ok (.aload_n 3, 1) := by decide +kernel
theorem dX9_held_53 : decode cX9_held 53 = .ok (.getfield 219, 3) := by decide +kernel
theorem dX9_held_56 : decode cX9_held 56 = .ok (.iload_n 1, 1) := by decide +kernel
theorem dX9_held_57 : decode cX9_held 57 = .ok (.invokevirtual 283, 3) := by decide +kernel
theorem dX9_held_60 : decode cX9_held 60 = .ok (.ireturn, 1) := by decide +kernel
theorem dX9_would_0 : decode cX9_would 0 = .ok (.iload_n 1, 1) := by decide +kernel
theorem dX9_would_1 : decode cX9_would 1 = .ok (.invokestatic 78, 3) := by decide +kernel
theorem dX9_would_4 : decode cX9_would 4 = .ok (.ifCond .eq 17, 3) := by decide +kernel
theorem dX9_would_7 : decode cX9_would 7 = .ok (.iload_n 2, 1) := by decide +kernel
theorem dX9_would_8 : decode cX9_would 8 = .ok (.invokestatic 81, 3) := by decide +kernel
theorem dX9_would_11 : decode cX9_would 11 = .ok (.ifCond .eq 10, 3) := by decide +kernel
theorem dX9_would_14 : decode cX9_would 14 = .ok (.iload_n 3, 1) := by decide +kernel
theorem dX9_would_15 : decode cX9_would 15 = .ok (.invokestatic 286, 3) := by decide +kernel
theorem dX9_would_18 : decode cX9_would 18 = .ok (.ifCond .ne 5, 3) := by decide +kernel
theorem dX9_would_21 : decode cX9_would 21 = .ok (.iconst (-1), 1) := by decide +kernel
theorem dX9_would_22 : decode cX9_would 22 = .ok (.ireturn, 1) := by decide +kernel
theorem dX9_would_23 : decode cX9_would 23 = .ok (.iload_n 1, 1) := by decide +kernel
theorem dX9_would_24 : decode cX9_would 24 = .ok (.iload_n 2, 1) := by decide +kernel
theorem dX9_would_25 : decode cX9_would 25 = .ok (.iload_n 3, 1) := by decide +kernel
theorem dX9_would_26 : decode cX9_would 26 = .ok (.invokestatic 289, 3) := by decide +kernel
theorem dX9_would_29 : decode cX9_would 29 = .ok (.ireturn, 1) := by decide +kernel
theorem dX9_gap_0 : decode cX9_gap 0 = .ok (.iload_n 1, 1) := by decide +kernel
theorem dX9_gap_1 : decode cX9_gap 1 = .ok (.invokestatic 78, 3) := by decide +kernel
theorem dX9_gap_4 : decode cX9_gap 4 = .ok (.ifCond .eq 17, 3) := by decide +kernel
theorem dX9_gap_7 : decode cX9_gap 7 = .ok (.iload_n 2, 1) := by decide +kernel
theorem dX9_gap_8 : decode cX9_gap 8 = .ok (.invokestatic 81, 3) := by decide +kernel
theorem dX9_gap_11 : decode cX9_gap 11 = .ok (.ifCond .eq 10, 3) := by decide +kernel
theorem dX9_gap_14 : decode cX9_gap 14 = .ok (.iload_n 3, 1) := by decide +kernel
theorem dX9_gap_15 : decode cX9_gap 15 = .ok (.invokestatic 286, 3) := by decide +kernel
theorem dX9_gap_18 : decode cX9_gap 18 = .ok (.ifCond .ne 5, 3) := by decide +kernel
theorem dX9_gap_21 : decode cX9_gap 21 = .ok (.iconst (-1), 1) := by decide +kernel
theorem dX9_gap_22 : decode cX9_gap 22 = .ok (.ireturn, 1) := by decide +kernel
theorem dX9_gap_23 : decode cX9_gap 23 = .ok (.iload_n 3, 1) := by decide +kernel
theorem dX9_gap_24 : decode cX9_gap 24 = .ok (.iload_n 1, 1) := by decide +kernel
theorem dX9_gap_25 : decode cX9_gap 25 = .ok (.idiv, 1) := by decide +kernel
theorem dX9_gap_26 : decode cX9_gap 26 = .ok (.istore 4, 2) := by decide +kernel
theorem dX9_gap_28 : decode cX9_gap 28 = .ok (.iconst 0, 1) := by decide +kernel
theorem dX9_gap_29 : decode cX9_gap 29 = .ok (.istore 5, 2) := by decide +kernel
theorem dX9_gap_31 : decode cX9_gap 31 = .ok (.iconst 0, 1) := by decide +kernel
theorem dX9_gap_32 : decode cX9_gap 32 = .ok (.istore 6, 2) := by decide +kernel
theorem dX9_gap_34 : decode cX9_gap 34 = .ok (.iconst 1, 1) := by decide +kernel
theorem dX9_gap_35 : decode cX9_gap 35 = .ok (.istore 7, 2) := by decide +kernel
theorem dX9_gap_37 : decode cX9_gap 37 = .ok (.iload 7, 2) := by decide +kernel
theorem dX9_gap_39 : decode cX9_gap 39 = .ok (.iload 4, 2) := by decide +kernel
theorem dX9_gap_41 : decode cX9_gap 41 = .ok (.if_icmp .gt 42, 3) := by decide +kernel
theorem dX9_gap_44 : decode cX9_gap 44 = .ok (.iload 7, 2) := by decide +kernel
theorem dX9_gap_46 : decode cX9_gap 46 = .ok (.iload_n 2, 1) := by decide +kernel
theorem dX9_gap_47 : decode cX9_gap 47 = .ok (.iload 4, 2) := by decide +kernel
theorem dX9_gap_49 : decode cX9_gap 49 = .ok (.invokestatic 293, 3) := by decide +kernel
theorem dX9_gap_52 : decode cX9_gap 52 = .ok (.ifCond .eq 25, 3) := by decide +kernel
theorem dX9_gap_55 : decode cX9_gap 55 = .ok (.iload 5, 2) := by decide +kernel
theorem dX9_gap_57 : decode cX9_gap 57 = .ok (.iload 7, 2) := by decide +kernel
theorem dX9_gap_59 : decode cX9_gap 59 = .ok (.iload_n 1, 1) := by decide +kernel
theorem dX9_gap_60 : decode cX9_gap 60 = .ok (.imul, 1) := by decide +kernel
theorem dX9_gap_61 : decode cX9_gap 61 = .ok (.iconst 1, 1) := by decide +kernel
theorem dX9_gap_62 : decode cX9_gap 62 = .ok (.isub, 1) := by decide +kernel
theorem dX9_gap_63 : decode cX9_gap 63 = .ok (.iload 6, 2) := by decide +kernel
theorem dX9_gap_65 : decode cX9_gap 65 = .ok (.isub, 1) := by decide +kernel
theorem dX9_gap_66 : decode cX9_gap 66 = .ok (.invokestatic 240, 3) := by decide +kernel
theorem dX9_gap_69 : decode cX9_gap 69 = .ok (.istore 5, 2) := by decide +kernel
theorem dX9_gap_71 : decode cX9_gap 71 = .ok (.iload 7, 2) := by decide +kernel
theorem dX9_gap_73 : decode cX9_gap 73 = .ok (.iload_n 1, 1) := by decide +kernel
theorem dX9_gap_74 : decode cX9_gap 74 = .ok (.imul, 1) := by decide +kernel
theorem dX9_gap_75 : decode cX9_gap 75 = .ok (.istore 6, 2) := by decide +kernel
theorem dX9_gap_77 : decode cX9_gap 77 = .ok (.iinc 7 1, 3) := by decide +kernel
theorem dX9_gap_80 : decode cX9_gap 80 = .ok (.goto (-43), 3) := by decide +kernel
theorem dX9_gap_83 : decode cX9_gap 83 = .ok (.iload 5, 2) := by decide +kernel
theorem dX9_gap_85 : decode cX9_gap 85 = .ok (.iload_n 3, 1) := by decide +kernel
theorem dX9_gap_86 : decode cX9_gap 86 = .ok (.iload 6, 2) := by decide +kernel
theorem dX9_gap_88 : decode cX9_gap 88 = .ok (.isub, 1) := by decide +kernel
theorem dX9_gap_89 : decode cX9_gap 89 = .ok (.invokestatic 240, 3) := by decide +kernel
theorem dX9_gap_92 : decode cX9_gap 92 = .ok (.ireturn, 1) := by decide +kernel
theorem dX9_sparing_0 : decode cX9_sparing 0 = .ok (.iload_n 1, 1) := by decide +kernel
theorem dX9_sparing_1 : decode cX9_sparing 1 = .ok (.invokestatic 81, 3) := by decide +kernel
theorem dX9_sparing_4 : decode cX9_sparing 4 = .ok (.ifCond .eq 10, 3) := by decide +kernel
theorem dX9_sparing_7 : decode cX9_sparing 7 = .ok (.iload_n 2, 1) := by decide +kernel
theorem dX9_sparing_8 : decode cX9_sparing 8 = .ok (.invokestatic 286, 3) := by decide +kernel
theorem dX9_sparing_11 : decode cX9_sparing 11 = .ok (.ifCond .ne 5, 3) := by decide +kernel
theorem dX9_sparing_14 : decode cX9_sparing 14 = .ok (.iconst (-1), 1) := by decide +kernel
theorem dX9_sparing_15 : decode cX9_sparing 15 = .ok (.ireturn, 1) := by decide +kernel
theorem dX9_sparing_16 : decode cX9_sparing 16 = .ok (.iconst 1, 1) := by decide +kernel
theorem dX9_sparing_17 : decode cX9_sparing 17 = .ok (.istore 4, 2) := by decide +kernel
theorem dX9_sparing_19 : decode cX9_sparing 19 = .ok (.iload 4, 2) := by decide +kernel
theorem dX9_sparing_21 : decode cX9_sparing 21 = .ok (.bipush 64, 2) := by decide +kernel
theorem dX9_sparing_23 : decode cX9_sparing 23 = .ok (.if_icmp .gt 23, 3) := by decide +kernel
theorem dX9_sparing_26 : decode cX9_sparing 26 = .ok (.iload 4, 2) := by decide +kernel
theorem dX9_sparing_28 : decode cX9_sparing 28 = .ok (.iload_n 1, 1) := by decide +kernel
theorem dX9_sparing_29 : decode cX9_sparing 29 = .ok (.iload_n 2, 1) := by decide +kernel
theorem dX9_sparing_30 : decode cX9_sparing 30 = .ok (.invokestatic 289, 3) := by decide +kernel
theorem dX9_sparing_33 : decode cX9_sparing 33 = .ok (.iload_n 3, 1) := by decide +kernel
theorem dX9_sparing_34 : decode cX9_sparing 34 = .ok (.if_icmp .gt 6, 3) := by decide +kernel
theorem dX9_sparing_37 : decode cX9_sparing 37 = .ok (.iload 4, 2) := by decide +kernel
theorem dX9_sparing_39 : decode cX9_sparing 39 = .ok (.ireturn, 1) := by decide +kernel
theorem dX9_sparing_40 : decode cX9_sparing 40 = .ok (.iinc 4 1, 3) := by decide +kernel
theorem dX9_sparing_43 : decode cX9_sparing 43 = .ok (.goto (-24), 3) := by decide +kernel
theorem dX9_sparing_46 : decode cX9_sparing 46 = .ok (.iconst (-1), 1) := by decide +kernel
theorem dX9_sparing_47 : decode cX9_sparing 47 = .ok (.ireturn, 1) := by decide +kernel
theorem dX9_align_0 : decode cX9_align 0 = .ok (.aload_n 0, 1) := by decide +kernel
theorem dX9_align_1 : decode cX9_align 1 = .ok (.iload_n 1, 1) := by decide +kernel
theorem dX9_align_2 : decode cX9_align 2 = .ok (.invokevirtual 161, 3) := by decide +kernel
theorem dX9_align_5 : decode cX9_align 5 = .ok (.astore_n 3, 1) := by decide +kernel
theorem dX9_align_6 : decode cX9_align 6 = .ok (.aload_n 0, 1) := by decide +kernel
theorem dX9_align_7 : decode cX9_align 7 = .ok (.iload_n 2, 1) := by decide +kernel
theorem dX9_align_8 : decode cX9_align 8 = .ok (.invokevirtual 161, 3) := by decide +kernel
theorem dX9_align_11 : decode cX9_align 11 = .ok (.astore 4, 2) := by decide +kernel
theorem dX9_align_13 : decode cX9_align 13 = .ok (.aload_n 3, 1) := by decide +kernel
theorem dX9_align_14 : decode cX9_align 14 = .ok (.ifnull 8, 3) := by decide +kernel
theorem dX9_align_17 : decode cX9_align 17 = .ok (.aload 4, 2) := by decide +kernel
theorem dX9_align_19 : decode cX9_align 19 = .ok (.ifnonnull 6, 3) := by decide +kernel
theorem dX9_align_22 : decode cX9_align 22 = .ok (.bipush (-2), 2) := by decide +kernel
theorem dX9_align_24 : decode cX9_align 24 = .ok (.ireturn, 1) := by decide +kernel
theorem dX9_align_25 : decode cX9_align 25 = .ok (.aload_n 0, 1) := by decide +kernel
theorem dX9_align_26 : decode cX9_align 26 = .ok (.getfield 26, 3) := by decide +kernel
theorem dX9_align_29 : decode cX9_align 29 = .ok (.aload_n 3, 1) := by decide +kernel
theorem dX9_align_30 : decode cX9_align 30 = .ok (.getfield 266, 3) := by decide +kernel
theorem dX9_align_33 : decode cX9_align 33 = .ok (.aload 4, 2) := by decide +kernel
theorem dX9_align_35 : decode cX9_align 35 = .ok (.getfield 266, 3) := by decide +kernel
theorem dX9_align_38 : decode cX9_align 38 = .ok (.invokevirtual 296, 3) := by decide +kernel
theorem dX9_align_41 : decode cX9_align 41 = .ok (.aload_n 0, 1) := by decide +kernel
theorem dX9_align_42 : decode cX9_align 42 = .ok (.getfield 26, 3) := by decide +kernel
theorem dX9_align_45 : decode cX9_align 45 = .ok (.getfield 300, 3) := by decide +kernel
theorem dX9_align_48 : decode cX9_align 48 = .ok (.ireturn, 1) := by decide +kernel
theorem dX9_pair_0 : decode cX9_pair 0 = .ok (.aload_n 0, 1) := by decide +kernel
theorem dX9_pair_1 : decode cX9_pair 1 = .ok (.iconst 0, 1) := by decide +kernel
theorem dX9_pair_2 : decode cX9_pair 2 = .ok (.putfield 63, 3) := by decide +kernel
theorem dX9_pair_5 : decode cX9_pair 5 = .ok (.aload_n 0, 1) := by decide +kernel
theorem dX9_pair_6 : decode cX9_pair 6 = .ok (.iload_n 1, 1) := by decide +kernel
theorem dX9_pair_7 : decode cX9_pair 7 = .ok (.invokevirtual 161, 3) := by decide +kernel
theorem dX9_pair_10 : decode cX9_pair 10 = .ok (.astore 5, 2) := by decide +kernel
theorem dX9_pair_12 : decode cX9_pair 12 = .ok (.aload_n 0, 1) := by decide +kernel
theorem dX9_pair_13 : decode cX9_pair 13 = .ok (.iload_n 2, 1) := by decide +kernel
theorem dX9_pair_14 : decode cX9_pair 14 = .ok (.invokevirtual 161, 3) := by decide +kernel
theorem dX9_pair_17 : decode cX9_pair 17 = .ok (.astore 6, 2) := by decide +kernel
theorem dX9_pair_19 : decode cX9_pair 19 = .ok (.aload 5, 2) := by decide +kernel
theorem dX9_pair_21 : decode cX9_pair 21 = .ok (.ifnull 19, 3) := by decide +kernel
theorem dX9_pair_24 : decode cX9_pair 24 = .ok (.aload 6, 2) := by decide +kernel
theorem dX9_pair_26 : decode cX9_pair 26 = .ok (.ifnull 14, 3) := by decide +kernel
theorem dX9_pair_29 : decode cX9_pair 29 = .ok (.iload 4, 2) := by decide +kernel
theorem dX9_pair_31 : decode cX9_pair 31 = .ok (.ifCond .lt 9, 3) := by decide +kernel
theorem dX9_pair_34 : decode cX9_pair 34 = .ok (.iload 4, 2) := by decide +kernel
theorem dX9_pair_36 : decode cX9_pair 36 = .ok (.iconst 3, 1) := by decide +kernel
theorem dX9_pair_37 : decode cX9_pair 37 = .ok (.if_icmp .le 6, 3) := by decide +kernel
theorem dX9_pair_40 : decode cX9_pair 40 = .ok (.ldc 168, 2) := by decide +kernel
theorem dX9_pair_42 : decode cX9_pair 42 = .ok (.ireturn, 1) := by decide +kernel
theorem dX9_pair_43 : decode cX9_pair 43 = .ok (.aload_n 0, 1) := by decide +kernel
theorem dX9_pair_44 : decode cX9_pair 44 = .ok (.getfield 26, 3) := by decide +kernel
theorem dX9_pair_47 : decode cX9_pair 47 = .ok (.aload 5, 2) := by decide +kernel
theorem dX9_pair_49 : decode cX9_pair 49 = .ok (.getfield 266, 3) := by decide +kernel
theorem dX9_pair_52 : decode cX9_pair 52 = .ok (.aload 6, 2) := by decide +kernel
theorem dX9_pair_54 : decode cX9_pair 54 = .ok (.getfield 266, 3) := by decide +kernel
theorem dX9_pair_57 : decode cX9_pair 57 = .ok (.invokevirtual 296, 3) := by decide +kernel
theorem dX9_pair_60 : decode cX9_pair 60 = .ok (.aload_n 0, 1) := by decide +kernel
theorem dX9_pair_61 : decode cX9_pair 61 = .ok (.getfield 26, 3) := by decide +kernel
theorem dX9_pair_64 : decode cX9_pair 64 = .ok (.iload_n 3, 1) := by decide +kernel
theorem dX9_pair_65 : decode cX9_pair 65 = .ok (.invokevirtual 303, 3) := by decide +kernel
theorem dX9_pair_68 : decode cX9_pair 68 = .ok (.ifCond .ne 6, 3) := by decide +kernel
theorem dX9_pair_71 : decode cX9_pair 71 = .ok (.ldc 168, 2) := by decide +kernel
theorem dX9_pair_73 : decode cX9_pair 73 = .ok (.ireturn, 1) := by decide +kernel
theorem dX9_pair_74 : decode cX9_pair 74 = .ok (.iload 4, 2) := by decide +kernel
theorem dX9_pair_76 : decode cX9_pair 76 = .ok (.ifCond .ne 12, 3) := by decide +kernel
theorem dX9_pair_79 : decode cX9_pair 79 = .ok (.aload_n 0, 1) := by decide +kernel
theorem dX9_pair_80 : decode cX9_pair 80 = .ok (.getfield 26, 3) := by decide +kernel
theorem dX9_pair_83 : decode cX9_pair 83 = .ok (.iload_n 3, 1) := by decide +kernel
theorem dX9_pair_84 : decode cX9_pair 84 = .ok (.invokevirtual 304, 3) := by decide +kernel
theorem dX9_pair_87 : decode cX9_pair 87 = .ok (.ireturn, 1) := by decide +kernel
theorem dX9_pair_88 : decode cX9_pair 88 = .ok (.iload 4, 2) := by decide +kernel
theorem dX9_pair_90 : decode cX9_pair 90 = .ok (.iconst 1, 1) := by decide +kernel
theorem dX9_pair_91 : decode cX9_pair 91 = .ok (.if_icmp .ne 12, 3) := by decide +kernel
theorem dX9_pair_94 : decode cX9_pair 94 = .ok (.aload_n 0, 1) := by decide +kernel
theorem dX9_pair_95 : decode cX9_pair 95 = .ok (.getfield 26, 3) := by decide +kernel
theorem dX9_pair_98 : decode cX9_pair 98 = .ok (.iload_n 3, 1) := by decide +kernel
theorem dX9_pair_99 : decode cX9_pair 99 = .ok (.invokevirtual 307, 3) := by decide +kernel
theorem dX9_pair_102 : decode cX9_pair 102 = .ok (.ireturn, 1) := by decide +kernel
theorem dX9_pair_103 : decode cX9_pair 103 = .ok (.aload 5, 2) := by decide +kernel
theorem dX9_pair_105 : decode cX9_pair 105 = .ok (.getfield 266, 3) := by decide +kernel
theorem dX9_pair_108 : decode cX9_pair 108 = .ok (.aload_n 0, 1) := by decide +kernel
theorem dX9_pair_109 : decode cX9_pair 109 = .ok (.getfield 26, 3) := by decide +kernel
theorem dX9_pair_112 : decode cX9_pair 112 = .ok (.iload_n 3, 1) := by decide +kernel
theorem dX9_pair_113 : decode cX9_pair 113 = .ok (.invokevirtual 304, 3) := by decide +kernel
theorem dX9_pair_116 : decode cX9_pair 116 = .ok (.iconst 0, 1) := by decide +kernel
theorem dX9_pair_117 : decode cX9_pair 117 = .ok (.invokevirtual 274, 3) := by decide +kernel
theorem dX9_pair_120 : decode cX9_pair 120 = .ok (.istore 7, 2) := by decide +kernel
theorem dX9_pair_122 : decode cX9_pair 122 = .ok (.aload 6, 2) := by decide +kernel
theorem dX9_pair_124 : decode cX9_pair 124 = .ok (.getfield 266, 3) := by decide +kernel
theorem dX9_pair_127 : decode cX9_pair 127 = .ok (.aload_n 0, 1) := by decide +kernel
theorem dX9_pair_128 : decode cX9_pair 128 = .ok (.getfield 26, 3) := by decide +kernel
theorem dX9_pair_131 : decode cX9_pair 131 = .ok (.iload_n 3, 1) := by decide +kernel
theorem dX9_pair_132 : decode cX9_pair 132 = .ok (.invokevirtual 307, 3) := by decide +kernel
theorem dX9_pair_135 : decode cX9_pair 135 = .ok (.iconst 0, 1) := by decide +kernel
theorem dX9_pair_136 : decode cX9_pair 136 = .ok (.invokevirtual 274, 3) := by decide +kernel
theorem dX9_pair_139 : decode cX9_pair 139 = .ok (.istore 8, 2) := by decide +kernel
theorem dX9_pair_141 : decode cX9_pair 141 = .ok (.aload_n 0, 1) := by decide +kernel
theorem dX9_pair_142 : decode cX9_pair 142 = .ok (.aload 5, 2) := by decide +kernel
theorem dX9_pair_144 : decode cX9_pair 144 = .ok (.iload 7, 2) := by decide +kernel
theorem dX9_pair_146 : decode cX9_pair 146 = .ok (.invokevirtual 144, 3) := by decide +kernel
theorem dX9_pair_149 : decode cX9_pair 149 = .ok (.aload_n 0, 1) := by decide +kernel
theorem dX9_pair_150 : decode cX9_pair 150 = .ok (.aload 6, 2) := by decide +kernel
theorem dX9_pair_152 : decode cX9_pair 152 = .ok (.iload 8, 2) := by decide +kernel
theorem dX9_pair_154 : decode cX9_pair 154 = .ok (.invokevirtual 144, 3) := by decide +kernel
theorem dX9_pair_157 : decode cX9_pair 157 = .ok (.aload 5, 2) := by decide +kernel
theorem dX9_pair_159 : decode cX9_pair 159 = .ok (.getfield 169, 3) := by decide +kernel
theorem dX9_pair_162 : decode cX9_pair 162 = .ok (.iload 7, 2) := by decide +kernel
theorem dX9_pair_164 : decode cX9_pair 164 = .ok (.aload 6, 2) := by decide +kernel
theorem dX9_pair_166 : decode cX9_pair 166 = .ok (.getfield 169, 3) := by decide +kernel
theorem dX9_pair_169 : decode cX9_pair 169 = .ok (.iload 8, 2) := by decide +kernel
theorem dX9_pair_171 : decode cX9_pair 171 = .ok (.iload 4, 2) := by decide +kernel
theorem dX9_pair_173 : decode cX9_pair 173 = .ok (.iconst 2, 1) := by decide +kernel
theorem dX9_pair_174 : decode cX9_pair 174 = .ok (.isub, 1) := by decide +kernel
theorem dX9_pair_175 : decode cX9_pair 175 = .ok (.invokestatic 310, 3) := by decide +kernel
theorem dX9_pair_178 : decode cX9_pair 178 = .ok (.ireturn, 1) := by decide +kernel
theorem dX9_parts_0 : decode cX9_parts 0 = .ok (.aload_n 0, 1) := by decide +kernel
theorem dX9_parts_1 : decode cX9_parts 1 = .ok (.iload_n 1, 1) := by decide +kernel
theorem dX9_parts_2 : decode cX9_parts 2 = .ok (.invokevirtual 161, 3) := by decide +kernel
theorem dX9_parts_5 : decode cX9_parts 5 = .ok (.astore_n 3, 1) := by decide +kernel
theorem dX9_parts_6 : decode cX9_parts 6 = .ok (.aload_n 0, 1) := by decide +kernel
theorem dX9_parts_7 : decode cX9_parts 7 = .ok (.iload_n 2, 1) := by decide +kernel
theorem dX9_parts_8 : decode cX9_parts 8 = .ok (.invokevirtual 161, 3) := by decide +kernel
theorem dX9_parts_11 : decode cX9_parts 11 = .ok (.astore 4, 2) := by decide +kernel
theorem dX9_parts_13 : decode cX9_parts 13 = .ok (.aload_n 3, 1) := by decide +kernel
theorem dX9_parts_14 : decode cX9_parts 14 = .ok (.ifnull 8, 3) := by decide +kernel
theorem dX9_parts_17 : decode cX9_parts 17 = .ok (.aload 4, 2) := by decide +kernel
theorem dX9_parts_19 : decode cX9_parts 19 = .ok (.ifnonnull 6, 3) := by decide +kernel
theorem dX9_parts_22 : decode cX9_parts 22 = .ok (.bipush (-2), 2) := by decide +kernel
theorem dX9_parts_24 : decode cX9_parts 24 = .ok (.ireturn, 1) := by decide +kernel
theorem dX9_parts_25 : decode cX9_parts 25 = .ok (.aload_n 0, 1) := by decide +kernel
theorem dX9_parts_26 : decode cX9_parts 26 = .ok (.getfield 26, 3) := by decide +kernel
theorem dX9_parts_29 : decode cX9_parts 29 = .ok (.aload_n 3, 1) := by decide +kernel
theorem dX9_parts_30 : decode cX9_parts 30 = .ok (.aload 4, 2) := by decide +kernel
theorem dX9_parts_32 : decode cX9_parts 32 = .ok (.invokevirtual 314, 3) := by decide +kernel
theorem dX9_parts_35 : decode cX9_parts 35 = .ok (.ireturn, 1) := by decide +kernel
theorem dX9_look_0 : decode cX9_look 0 = .ok (.iload_n 1, 1) := by decide +kernel
theorem dX9_look_1 : decode cX9_look 1 = .ok (.ifCond .lt 23, 3) := by decide +kernel
theorem dX9_look_4 : decode cX9_look 4 = .ok (.iload_n 1, 1) := by decide +kernel
theorem dX9_look_5 : decode cX9_look 5 = .ok (.bipush 6, 2) := by decide +kernel
theorem dX9_look_7 : decode cX9_look 7 = .ok (.if_icmp .gt 17, 3) := by decide +kernel
theorem dX9_look_10 : decode cX9_look 10 = .ok (.aload_n 0, 1) := by decide +kernel
theorem dX9_look_11 : decode cX9_look 11 = .ok (.aload_n 0, 1) := by decide +kernel
theorem dX9_look_12 : decode cX9_look 12 = .ok (.aload_n 0, 1) := by decide +kernel
theorem dX9_look_13 : decode cX9_look 13 = .ok (.getfield 48, 3) := by decide +kernel
theorem dX9_look_16 : decode cX9_look 16 = .ok (.invokevirtual 161, 3) := by decide +kernel
theorem dX9_look_19 : decode cX9_look 19 = .ok (.iload_n 1, 1) := by decide +kernel
theorem dX9_look_20 : decode cX9_look 20 = .ok (.invokevirtual 318, 3) := by decide +kernel
theorem dX9_look_23 : decode cX9_look 23 = .ok (.ireturn, 1) := by decide +kernel
theorem dX9_look_24 : decode cX9_look 24 = .ok (.iload_n 1, 1) := by decide +kernel
theorem dX9_look_25 : decode cX9_look 25 = .ok (.tableswitch 75 7 12 #[39, 44, 52, 60, 65, 70], 39) := by decide +kernel
theorem dX9_look_64 : decode cX9_look 64 = .ok (.aload_n 0, 1) := by decide +kernel
theorem dX9_look_65 : decode cX9_look 65 = .ok (.getfield 40, 3) := by decide +kernel
theorem dX9_look_68 : decode cX9_look 68 = .ok (.ireturn, 1) := by decide +kernel
theorem dX9_look_69 : decode cX9_look 69 = .ok (.aload_n 0, 1) := by decide +kernel
theorem dX9_look_70 : decode cX9_look 70 = .ok (.getfield 19, 3) := by decide +kernel
theorem dX9_look_73 : decode cX9_look 73 = .ok (.getfield 96, 3) := by decide +kernel
theorem dX9_look_76 : decode cX9_look 76 = .ok (.ireturn, 1) := by decide +kernel
theorem dX9_look_77 : decode cX9_look 77 = .ok (.aload_n 0, 1) := by decide +kernel
theorem dX9_look_78 : decode cX9_look 78 = .ok (.getfield 19, 3) := by decide +kernel
theorem dX9_look_81 : decode cX9_look 81 = .ok (.getfield 103, 3) := by decide +kernel
theorem dX9_look_84 : decode cX9_look 84 = .ok (.ireturn, 1) := by decide +kernel
theorem dX9_look_85 : decode cX9_look 85 = .ok (.aload_n 0, 1) := by decide +kernel
theorem dX9_look_86 : decode cX9_look 86 = .ok (.getfield 63, 3) := by decide +kernel
theorem dX9_look_89 : decode cX9_look 89 = .ok (.ireturn, 1) := by decide +kernel
theorem dX9_look_90 : decode cX9_look 90 = .ok (.aload_n 0, 1) := by decide +kernel
theorem dX9_look_91 : decode cX9_look 91 = .ok (.getfield 57, 3) := by decide +kernel
theorem dX9_look_94 : decode cX9_look 94 = .ok (.ireturn, 1) := by decide +kernel
theorem dX9_look_95 : decode cX9_look 95 = .ok (.aload_n 0, 1) := by decide +kernel
theorem dX9_look_96 : decode cX9_look 96 = .ok (.getfield 60, 3) := by decide +kernel
theorem dX9_look_99 : decode cX9_look 99 = .ok (.ireturn, 1) := by decide +kernel
theorem dX9_look_100 : decode cX9_look 100 = .ok (.ldc 168, 2) := by decide +kernel
theorem dX9_look_102 : decode cX9_look 102 = .ok (.ireturn, 1) := by decide +kernel
theorem dX9_lookAtRun_0 : decode cX9_lookAtRun 0 = .ok (.aload_n 1, 1) := by decide +kernel
theorem dX9_lookAtRun_1 : decode cX9_lookAtRun 1 = .ok (.ifnonnull 5, 3) := by decide +kernel
theorem dX9_lookAtRun_4 : decode cX9_lookAtRun 4 = .ok (.iconst 0, 1) := by decide +kernel
theorem dX9_lookAtRun_5 : decode cX9_lookAtRun 5 = .ok (.ireturn, 1) := by decide +kernel
theorem dX9_lookAtRun_6 : decode cX9_lookAtRun 6 = .ok (.iload_n 2, 1) := by decide +kernel
theorem dX9_lookAtRun_7 : decode cX9_lookAtRun 7 = .ok (.tableswitch 98 0 5 #[37, 42, 69, 74, 82, 90], 37) := by decide +kernel
theorem dX9_lookAtRun_44 : decode cX9_lookAtRun 44 = .ok (.aload_n 1, 1) := by decide +kernel
theorem dX9_lookAtRun_45 : decode cX9_lookAtRun 45 = .ok (.getfield 141, 3) := by decide +kernel
theorem dX9_lookAtRun_48 : decode cX9_lookAtRun 48 = .ok (.ireturn, 1) := by decide +kernel
theorem dX9_lookAtRun_49 : decode cX9_lookAtRun 49 = .ok (.aload_n 0, 1) := by decide +kernel
theorem dX9_lookAtRun_50 : decode cX9_lookAtRun 50 = .ok (.aload_n 0, 1) := by decide +kernel
theorem dX9_lookAtRun_51 : decode cX9_lookAtRun 51 = .ok (.getfield 48, 3) := by decide +kernel
theorem dX9_lookAtRun_54 : decode cX9_lookAtRun 54 = .ok (.invokevirtual 158, 3) := by decide +kernel
theorem dX9_lookAtRun_57 : decode cX9_lookAtRun 57 = .ok (.ifCond .eq 10, 3) := by decide +kernel
theorem dX9_lookAtRun_60 : decode cX9_lookAtRun 60 = .ok (.aload_n 1, 1) := by decide +kernel
theorem dX9_lookAtRun_61 : decode cX9_lookAtRun 61 = .ok (.getfield 322, 3) := by decide +kernel
theorem dX9_lookAtRun_64 : decode cX9_lookAtRun 64 = .ok (.goto 11, 3) := by decide +kernel
theorem dX9_lookAtRun_67 : decode cX9_lookAtRun 67 = .ok (.aload_n 1, 1) := by decide +kernel
theorem dX9_lookAtRun_68 : decode cX9_lookAtRun 68 = .ok (.aload_n 0, 1) := by decide +kernel
theorem dX9_lookAtRun_69 : decode cX9_lookAtRun 69 = .ok (.getfield 19, 3) := by decide +kernel
theorem dX9_lookAtRun_72 : decode cX9_lookAtRun 72 = .ok (.invokevirtual 152, 3) := by decide +kernel
theorem dX9_lookAtRun_75 : decode cX9_lookAtRun 75 = .ok (.ireturn, 1) := by decide +kernel
theorem dX9_lookAtRun_76 : decode cX9_lookAtRun 76 = .ok (.aload_n 1, 1) := by decide +kernel
theorem dX9_lookAtRun_77 : decode cX9_lookAtRun 77 = .ok (.getfield 325, 3) := by decide +kernel
theorem dX9_lookAtRun_80 : decode cX9_lookAtRun 80 = .ok (.ireturn, 1) := by decide +kernel
theorem dX9_lookAtRun_81 : decode cX9_lookAtRun 81 = .ok (.aload_n 1, 1) := by decide +kernel
theorem dX9_lookAtRun_82 : decode cX9_lookAtRun 82 = .ok (.getfield 219, 3) := by decide +kernel
theorem dX9_lookAtRun_85 : decode cX9_lookAtRun 85 = .ok (.getfield 328, 3) := by decide +kernel
theorem dX9_lookAtRun_88 : decode cX9_lookAtRun 88 = .ok (.ireturn, 1) := by decide +kernel
theorem dX9_lookAtRun_89 : decode cX9_lookAtRun 89 = .ok (.aload_n 1, 1) := by decide +kernel
theorem dX9_lookAtRun_90 : decode cX9_lookAtRun 90 = .ok (.getfield 219, 3) := by decide +kernel
theorem dX9_lookAtRun_93 : decode cX9_lookAtRun 93 = .ok (.getfield 331, 3) := by decide +kernel
theorem dX9_lookAtRun_96 : decode cX9_lookAtRun 96 = .ok (.ireturn, 1) := by decide +kernel
theorem dX9_lookAtRun_97 : decode cX9_lookAtRun 97 = .ok (.aload_n 1, 1) := by decide +kernel
theorem dX9_lookAtRun_98 : decode cX9_lookAtRun 98 = .ok (.getfield 219, 3) := by decide +kernel
theorem dX9_lookAtRun_101 : decode cX9_lookAtRun 101 = .ok (.getfield 334, 3) := by decide +kernel
theorem dX9_lookAtRun_104 : decode cX9_lookAtRun 104 = .ok (.ireturn, 1) := by decide +kernel
theorem dX9_lookAtRun_105 : decode cX9_lookAtRun 105 = .ok (.aload_n 1, 1) := by decide +kernel
theorem dX9_lookAtRun_106 : decode cX9_lookAtRun 106 = .ok (.getfield 337, 3) := by decide +kernel
theorem dX9_lookAtRun_109 : decode cX9_lookAtRun 109 = .ok (.ireturn, 1) := by decide +kernel
theorem dX9_isKept_0 : decode cX9_isKept 0 = .ok (.iload_n 1, 1) := by decide +kernel
theorem dX9_isKept_1 : decode cX9_isKept 1 = .ok (.ifCond .lt 20, 3) := by decide +kernel
theorem dX9_isKept_4 : decode cX9_isKept 4 = .ok (.iload_n 1, 1) := by decide +kernel
theorem dX9_isKept_5 : decode cX9_isKept 5 = .ok (.aload_n 0, 1) := by decide +kernel
theorem dX9_isKept_6 : decode cX9_isKept 6 = .ok (.getfield 40, 3) := by decide +kernel
theorem dX9_isKept_9 : decode cX9_isKept 9 = .ok (.if_icmp .ge 12, 3) := by decide +kernel
theorem dX9_isKept_12 : decode cX9_isKept 12 = .ok (.iload_n 1, 1) := by decide +kernel
theorem dX9_isKept_13 : decode cX9_isKept 13 = .ok (.iconst 4, 1) := by decide +kernel
theorem dX9_isKept_14 : decode cX9_isKept 14 = .ok (.if_icmp .ge 7, 3) := by decide +kernel
theorem dX9_isKept_17 : decode cX9_isKept 17 = .ok (.iconst 1, 1) := by decide +kernel
theorem dX9_isKept_18 : decode cX9_isKept 18 = .ok (.goto 4, 3) := by decide +kernel
theorem dX9_isKept_21 : decode cX9_isKept 21 = .ok (.iconst 0, 1) := by decide +kernel
theorem dX9_isKept_22 : decode cX9_isKept 22 = .ok (.ireturn, 1) := by decide +kernel
theorem dX9_numbered_0 : decode cX9_numbered 0 = .ok (.iload_n 1, 1) := by decide +kernel
theorem dX9_numbered_1 : decode cX9_numbered 1 = .ok (.iconst (-1), 1) := by decide +kernel
theorem dX9_numbered_2 : decode cX9_numbered 2 = .ok (.if_icmp .ne 8, 3) := by decide +kernel
theorem dX9_numbered_5 : decode cX9_numbered 5 = .ok (.aload_n 0, 1) := by decide +kernel
theorem dX9_numbered_6 : decode cX9_numbered 6 = .ok (.getfield 44, 3) := by decide +kernel
theorem dX9_numbered_9 : decode cX9_numbered 9 = .ok (.areturn, 1) := by decide +kernel
theorem dX9_numbered_10 : decode cX9_numbered 10 = .ok (.aload_n 0, 1) := by decide +kernel
theorem dX9_numbered_11 : decode cX9_numbered 11 = .ok (.iload_n 1, 1) := by decide +kernel
theorem dX9_numbered_12 : decode cX9_numbered 12 = .ok (.invokevirtual 158, 3) := by decide +kernel
theorem dX9_numbered_15 : decode cX9_numbered 15 = .ok (.ifCond .eq 12, 3) := by decide +kernel
theorem dX9_numbered_18 : decode cX9_numbered 18 = .ok (.aload_n 0, 1) := by decide +kernel
theorem dX9_numbered_19 : decode cX9_numbered 19 = .ok (.getfield 36, 3) := by decide +kernel
theorem dX9_numbered_22 : decode cX9_numbered 22 = .ok (.iload_n 1, 1) := by decide +kernel
theorem dX9_numbered_23 : decode cX9_numbered 23 = .ok (.aaload, 1) := by decide +kernel
theorem dX9_numbered_24 : decode cX9_numbered 24 = .ok (.goto 4, 3) := by decide +kernel
theorem dX9_numbered_27 : decode cX9_numbered 27 = .ok (.aconst_null, 1) := by decide +kernel
theorem dX9_numbered_28 : decode cX9_numbered 28 = .ok (.areturn, 1) := by decide +kernel
theorem dX9_isWatched_0 : decode cX9_isWatched 0 = .ok (.iload_n 1, 1) := by decide +kernel
theorem dX9_isWatched_1 : decode cX9_isWatched 1 = .ok (.invokestatic 116, 3) := by decide +kernel
theorem dX9_isWatched_4 : decode cX9_isWatched 4 = .ok (.ifCond .ne 5, 3) := by decide +kernel
theorem dX9_isWatched_7 : decode cX9_isWatched 7 = .ok (.iconst 0, 1) := by decide +kernel
theorem dX9_isWatched_8 : decode cX9_isWatched 8 = .ok (.ireturn, 1) := by decide +kernel
theorem dX9_isWatched_9 : decode cX9_isWatched 9 = .ok (.iload_n 1, 1) := by decide +kernel
theorem dX9_isWatched_10 : decode cX9_isWatched 10 = .ok (.bipush 8, 2) := by decide +kernel
theorem dX9_isWatched_12 : decode cX9_isWatched 12 = .ok (.if_icmp .ge 21, 3) := by decide +kernel
theorem dX9_isWatched_15 : decode cX9_isWatched 15 = .ok (.aload_n 0, 1) := by decide +kernel
theorem dX9_isWatched_16 : decode cX9_isWatched 16 = .ok (.getfield 57, 3) := by decide +kernel
theorem dX9_isWatched_19 : decode cX9_isWatched 19 = .ok (.iload_n 1, 1) := by decide +kernel
theorem dX9_isWatched_20 : decode cX9_isWatched 20 = .ok (.ishr, 1) := by decide +kernel
theorem dX9_isWatched_21 : decode cX9_isWatched 21 = .ok (.iconst 1, 1) := by decide +kernel
theorem dX9_isWatched_22 : decode cX9_isWatched 22 = .ok (.iand, 1) := by decide +kernel
theorem dX9_isWatched_23 : decode cX9_isWatched 23 = .ok (.iconst 1, 1) := by decide +kernel
theorem dX9_isWatched_24 : decode cX9_isWatched 24 = .ok (.if_icmp .ne 7, 3) := by decide +kernel
theorem dX9_isWatched_27 : decode cX9_isWatched 27 = .ok (.iconst 1, 1) := by decide +kernel
theorem dX9_isWatched_28 : decode cX9_isWatched 28 = .ok (.goto 4, 3) := by decide +kernel
theorem dX9_isWatched_31 : decode cX9_isWatched 31 = .ok (.iconst 0, 1) := by decide +kernel
theorem dX9_isWatched_32 : decode cX9_isWatched 32 = .ok (.ireturn, 1) := by decide +kernel
theorem dX9_isWatched_33 : decode cX9_isWatched 33 = .ok (.aload_n 0, 1) := by decide +kernel
theorem dX9_isWatched_34 : decode cX9_isWatched 34 = .ok (.getfield 60, 3) := by decide +kernel
theorem dX9_isWatched_37 : decode cX9_isWatched 37 = .ok (.iload_n 1, 1) := by decide +kernel
theorem dX9_isWatched_38 : decode cX9_isWatched 38 = .ok (.bipush 8, 2) := by decide +kernel
theorem dX9_isWatched_40 : decode cX9_isWatched 40 = .ok (.isub, 1) := by decide +kernel
theorem dX9_isWatched_41 : decode cX9_isWatched 41 = .ok (.ishr, 1) := by decide +kernel
theorem dX9_isWatched_42 : decode cX9_isWatched 42 = .ok (.iconst 1, 1) := by decide +kernel
theorem dX9_isWatched_43 : decode cX9_isWatched 43 = .ok (.iand, 1) := by decide +kernel
theorem dX9_isWatched_44 : decode cX9_isWatched 44 = .ok (.iconst 1, 1) := by decide +kernel
theorem dX9_isWatched_45 : decode cX9_isWatched 45 = .ok (.if_icmp .ne 7, 3) := by decide +kernel
theorem dX9_isWatched_48 : decode cX9_isWatched 48 = .ok (.iconst 1, 1) := by decide +kernel
theorem dX9_isWatched_49 : decode cX9_isWatched 49 = .ok (.goto 4, 3) := by decide +kernel
theorem dX9_isWatched_52 : decode cX9_isWatched 52 = .ok (.iconst 0, 1) := by decide +kernel
theorem dX9_isWatched_53 : decode cX9_isWatched 53 = .ok (.ireturn, 1) := by decide +kernel
theorem dX9_replay_0 : decode cX9_replay 0 = .ok (.aload_n 0, 1) := by decide +kernel
theorem dX9_replay_1 : decode cX9_replay 1 = .ok (.aload_n 1, 1) := by decide +kernel
theorem dX9_replay_2 : decode cX9_replay 2 = .ok (.iload_n 2, 1) := by decide +kernel
theorem dX9_replay_3 : decode cX9_replay 3 = .ok (.aload_n 1, 1) := by decide +kernel
theorem dX9_replay_4 : decode cX9_replay 4 = .ok (.getfield 141, 3) := by decide +kernel
theorem dX9_replay_7 : decode cX9_replay 7 = .ok (.if_icmp .ne 7, 3) := by decide +kernel
theorem dX9_replay_10 : decode cX9_replay 10 = .ok (.iconst 0, 1) := by decide +kernel
theorem dX9_replay_11 : decode cX9_replay 11 = .ok (.goto 13, 3) := by decide +kernel
theorem dX9_replay_14 : decode cX9_replay 14 = .ok (.iload_n 2, 1) := by decide +kernel
theorem dX9_replay_15 : decode cX9_replay 15 = .ok (.aload_n 1, 1) := by decide +kernel
theorem dX9_replay_16 : decode cX9_replay 16 = .ok (.getfield 219, 3) := by decide +kernel
theorem dX9_replay_19 : decode cX9_replay 19 = .ok (.iload_n 2, 1) := by decide +kernel
theorem dX9_replay_20 : decode cX9_replay 20 = .ok (.invokevirtual 340, 3) := by decide +kernel
theorem dX9_replay_23 : decode cX9_replay 23 = .ok (.isub, 1) := by decide +kernel
theorem dX9_replay_24 : decode cX9_replay 24 = .ok (.invokevirtual 228, 3) := by decide +kernel
theorem dX9_replay_27 : decode cX9_replay 27 = .ok (.return_, 1) := by decide +kernel
theorem dX9_count_0 : decode cX9_count 0 = .ok (.aload_n 1, 1) := by decide +kernel
theorem dX9_count_1 : decode cX9_count 1 = .ok (.dup, 1) := by decide +kernel
theorem dX9_count_2 : decode cX9_count 2 = .ok (.getfield 325, 3) := by decide +kernel
theorem dX9_count_5 : decode cX9_count 5 = .ok (.iload_n 2, 1) := by decide +kernel
theorem dX9_count_6 : decode cX9_count 6 = .ok (.iadd, 1) := by decide +kernel
theorem dX9_count_7 : decode cX9_count 7 = .ok (.putfield 325, 3) := by decide +kernel
theorem dX9_count_10 : decode cX9_count 10 = .ok (.aload_n 0, 1) := by decide +kernel
theorem dX9_count_11 : decode cX9_count 11 = .ok (.dup, 1) := by decide +kernel
theorem dX9_count_12 : decode cX9_count 12 = .ok (.getfield 63, 3) := by decide +kernel
theorem dX9_count_15 : decode cX9_count 15 = .ok (.iload_n 2, 1) := by decide +kernel
theorem dX9_count_16 : decode cX9_count 16 = .ok (.iadd, 1) := by decide +kernel
theorem dX9_count_17 : decode cX9_count 17 = .ok (.putfield 63, 3) := by decide +kernel
theorem dX9_count_20 : decode cX9_count 20 = .ok (.return_, 1) := by decide +kernel
theorem dX9_lastChange_0 : decode cX9_lastChange 0 = .ok (.aload_n 0, 1) := by decide +kernel
theorem dX9_lastChange_1 : decode cX9_lastChange 1 = .ok (.aload_n 1, 1) := by decide +kernel
theorem dX9_lastChange_2 : decode cX9_lastChange 2 = .ok (.iload_n 2, 1) := by decide +kernel
theorem dX9_lastChange_3 : decode cX9_lastChange 3 = .ok (.invokevirtual 144, 3) := by decide +kernel
theorem dX9_lastChange_6 : decode cX9_lastChange 6 = .ok (.aload_n 1, 1) := by decide +kernel
theorem dX9_lastChange_7 : decode cX9_lastChange 7 = .ok (.getfield 169, 3) := by decide +kernel
theorem dX9_lastChange_10 : decode cX9_lastChange 10 = .ok (.iload_n 2, 1) := by decide +kernel
theorem dX9_lastChange_11 : decode cX9_lastChange 11 = .ok (.iload_n 3, 1) := by decide +kernel
theorem dX9_lastChange_12 : decode cX9_lastChange 12 = .ok (.invokevirtual 173, 3) := by decide +kernel
theorem dX9_lastChange_15 : decode cX9_lastChange 15 = .ok (.istore 4, 2) := by decide +kernel
theorem dX9_lastChange_17 : decode cX9_lastChange 17 = .ok (.aload_n 1, 1) := by decide +kernel
theorem dX9_lastChange_18 : decode cX9_lastChange 18 = .ok (.getfield 169, 3) := by decide +kernel
theorem dX9_lastChange_21 : decode cX9_lastChange 21 = .ok (.iload 4, 2) := by decide +kernel
theorem dX9_lastChange_23 : decode cX9_lastChange 23 = .ok (.invokevirtual 186, 3) := by decide +kernel
theorem dX9_lastChange_26 : decode cX9_lastChange 26 = .ok (.ifCond .ne 5, 3) := by decide +kernel
theorem dX9_lastChange_29 : decode cX9_lastChange 29 = .ok (.iconst (-1), 1) := by decide +kernel
theorem dX9_lastChange_30 : decode cX9_lastChange 30 = .ok (.ireturn, 1) := by decide +kernel
theorem dX9_lastChange_31 : decode cX9_lastChange 31 = .ok (.aload_n 1, 1) := by decide +kernel
theorem dX9_lastChange_32 : decode cX9_lastChange 32 = .ok (.getfield 169, 3) := by decide +kernel
theorem dX9_lastChange_35 : decode cX9_lastChange 35 = .ok (.iload 4, 2) := by decide +kernel
theorem dX9_lastChange_37 : decode cX9_lastChange 37 = .ok (.invokevirtual 343, 3) := by decide +kernel
theorem dX9_lastChange_40 : decode cX9_lastChange 40 = .ok (.istore 5, 2) := by decide +kernel
theorem dX9_lastChange_42 : decode cX9_lastChange 42 = .ok (.iconst 0, 1) := by decide +kernel
theorem dX9_lastChange_43 : decode cX9_lastChange 43 = .ok (.istore 6, 2) := by decide +kernel
theorem dX9_lastChange_45 : decode cX9_lastChange 45 = .ok (.iload_n 2, 1) := by decide +kernel
theorem dX9_lastChange_46 : decode cX9_lastChange 46 = .ok (.istore 7, 2) := by decide +kernel
theorem dX9_lastChange_48 : decode cX9_lastChange 48 = .ok (.iload 6, 2) := by decide +kernel
theorem dX9_lastChange_50 : decode cX9_lastChange 50 = .ok (.iload 7, 2) := by decide +kernel
theorem dX9_lastChange_52 : decode cX9_lastChange 52 = .ok (.if_icmp .ge 42, 3) := by decide +kernel
theorem dX9_lastChange_55 : decode cX9_lastChange 55 = .ok (.iload 6, 2) := by decide +kernel
theorem dX9_lastChange_57 : decode cX9_lastChange 57 = .ok (.iload 7, 2) := by decide +kernel
theorem dX9_lastChange_59 : decode cX9_lastChange 59 = .ok (.iadd, 1) := by decide +kernel
theorem dX9_lastChange_60 : decode cX9_lastChange 60 = .ok (.iconst 2, 1) := by decide +kernel
theorem dX9_lastChange_61 : decode cX9_lastChange 61 = .ok (.idiv, 1) := by decide +kernel
theorem dX9_lastChange_62 : decode cX9_lastChange 62 = .ok (.istore 8, 2) := by decide +kernel
theorem dX9_lastChange_64 : decode cX9_lastChange 64 = .ok (.aload_n 0, 1) := by decide +kernel
theorem dX9_lastChange_65 : decode cX9_lastChange 65 = .ok (.aload_n 1, 1) := by decide +kernel
theorem dX9_lastChange_66 : decode cX9_lastChange 66 = .ok (.iload 8, 2) := by decide +kernel
theorem dX9_lastChange_68 : decode cX9_lastChange 68 = .ok (.invokevirtual 144, 3) := by decide +kernel
theorem dX9_lastChange_71 : decode cX9_lastChange 71 = .ok (.iload 8, 2) := by decide +kernel
theorem dX9_lastChange_73 : decode cX9_lastChange 73 = .ok (.iload 5, 2) := by decide +kernel
theorem dX9_lastChange_75 : decode cX9_lastChange 75 = .ok (.if_icmp .lt 10, 3) := by decide +kernel
theorem dX9_lastChange_78 : decode cX9_lastChange 78 = .ok (.iload 8, 2) := by decide +kernel
theorem dX9_lastChange_80 : decode cX9_lastChange 80 = .ok (.istore 7, 2) := by decide +kernel
theorem dX9_lastChange_82 : decode cX9_lastChange 82 = .ok (.goto 9, 3) := by decide +kernel
theorem dX9_lastChange_85 : decode cX9_lastChange 85 = .ok (.iload 8, 2) := by decide +kernel
theorem dX9_lastChange_87 : decode cX9_lastChange 87 = .ok (.iconst 1, 1) := by decide +kernel
theorem dX9_lastChange_88 : decode cX9_lastChange 88 = .ok (.iadd, 1) := by decide +kernel
theorem dX9_lastChange_89 : decode cX9_lastChange 89 = .ok (.istore 6, 2) := by decide +kernel
theorem dX9_lastChange_91 : decode cX9_lastChange 91 = .ok (.goto (-43), 3) := by decide +kernel
theorem dX9_lastChange_94 : decode cX9_lastChange 94 = .ok (.iload 6, 2) := by decide +kernel
theorem dX9_lastChange_96 : decode cX9_lastChange 96 = .ok (.ireturn, 1) := by decide +kernel
theorem dX9_unlike_0 : decode cX9_unlike 0 = .ok (.iconst 0, 1) := by decide +kernel
theorem dX9_unlike_1 : decode cX9_unlike 1 = .ok (.istore 5, 2) := by decide +kernel
theorem dX9_unlike_3 : decode cX9_unlike 3 = .ok (.iconst 0, 1) := by decide +kernel
theorem dX9_unlike_4 : decode cX9_unlike 4 = .ok (.istore 6, 2) := by decide +kernel
theorem dX9_unlike_6 : decode cX9_unlike 6 = .ok (.iload 6, 2) := by decide +kernel
theorem dX9_unlike_8 : decode cX9_unlike 8 = .ok (.iload 4, 2) := by decide +kernel
theorem dX9_unlike_10 : decode cX9_unlike 10 = .ok (.invokestatic 234, 3) := by decide +kernel
theorem dX9_unlike_13 : decode cX9_unlike 13 = .ok (.if_icmp .ge 63, 3) := by decide +kernel
theorem dX9_unlike_16 : decode cX9_unlike 16 = .ok (.iload 4, 2) := by decide +kernel
theorem dX9_unlike_18 : decode cX9_unlike 18 = .ok (.invokestatic 237, 3) := by decide +kernel
theorem dX9_unlike_21 : decode cX9_unlike 21 = .ok (.iload 6, 2) := by decide +kernel
theorem dX9_unlike_23 : decode cX9_unlike 23 = .ok (.iadd, 1) := by decide +kernel
theorem dX9_unlike_24 : decode cX9_unlike 24 = .ok (.istore 7, 2) := by decide +kernel
theorem dX9_unlike_26 : decode cX9_unlike 26 = .ok (.aload_n 2, 1) := by decide +kernel
theorem dX9_unlike_27 : decode cX9_unlike 27 = .ok (.iload_n 3, 1) := by decide +kernel
theorem dX9_unlike_28 : decode cX9_unlike 28 = .ok (.iload 7, 2) := by decide +kernel
theorem dX9_unlike_30 : decode cX9_unlike 30 = .ok (.invokevirtual 173, 3) := by decide +kernel
theorem dX9_unlike_33 : decode cX9_unlike 33 = .ok (.istore 8, 2) := by decide +kernel
theorem dX9_unlike_35 : decode cX9_unlike 35 = .ok (.aload_n 0, 1) := by decide +kernel
theorem dX9_unlike_36 : decode cX9_unlike 36 = .ok (.aload_n 0, 1) := by decide +kernel
theorem dX9_unlike_37 : decode cX9_unlike 37 = .ok (.iload_n 1, 1) := by decide +kernel
theorem dX9_unlike_38 : decode cX9_unlike 38 = .ok (.iload 7, 2) := by decide +kernel
theorem dX9_unlike_40 : decode cX9_unlike 40 = .ok (.invokevirtual 173, 3) := by decide +kernel
theorem dX9_unlike_43 : decode cX9_unlike 43 = .ok (.aload_n 2, 1) := by decide +kernel
theorem dX9_unlike_44 : decode cX9_unlike 44 = .ok (.iload 8, 2) := by decide +kernel
theorem dX9_unlike_46 : decode cX9_unlike 46 = .ok (.invokevirtual 179, 3) := by decide +kernel
theorem dX9_unlike_49 : decode cX9_unlike 49 = .ok (.aload_n 2, 1) := by decide +kernel
theorem dX9_unlike_50 : decode cX9_unlike 50 = .ok (.iload 8, 2) := by decide +kernel
theorem dX9_unlike_52 : decode cX9_unlike 52 = .ok (.invokevirtual 183, 3) := by decide +kernel
theorem dX9_unlike_55 : decode cX9_unlike 55 = .ok (.invokevirtual 346, 3) := by decide +kernel
theorem dX9_unlike_58 : decode cX9_unlike 58 = .ok (.ifCond .ne 12, 3) := by decide +kernel
theorem dX9_unlike_61 : decode cX9_unlike 61 = .ok (.iload 5, 2) := by decide +kernel
theorem dX9_unlike_63 : decode cX9_unlike 63 = .ok (.iconst 1, 1) := by decide +kernel
theorem dX9_unlike_64 : decode cX9_unlike 64 = .ok (.iload 6, 2) := by decide +kernel
theorem dX9_unlike_66 : decode cX9_unlike 66 = .ok (.ishl, 1) := by decide +kernel
theorem dX9_unlike_67 : decode cX9_unlike 67 = .ok (.ior, 1) := by decide +kernel
theorem dX9_unlike_68 : decode cX9_unlike 68 = .ok (.istore 5, 2) := by decide +kernel
theorem dX9_unlike_70 : decode cX9_unlike 70 = .ok (.iinc 6 1, 3) := by decide +kernel
theorem dX9_unlike_73 : decode cX9_unlike 73 = .ok (.goto (-67), 3) := by decide +kernel
theorem dX9_unlike_76 : decode cX9_unlike 76 = .ok (.iload 5, 2) := by decide +kernel
theorem dX9_unlike_78 : decode cX9_unlike 78 = .ok (.ireturn, 1) := by decide +kernel
theorem dX9_wouldBeHeld_0 : decode cX9_wouldBeHeld 0 = .ok (.iload_n 0, 1) := by decide +kernel
theorem dX9_wouldBeHeld_1 : decode cX9_wouldBeHeld 1 = .ok (.iconst 1, 1) := by decide +kernel
theorem dX9_wouldBeHeld_2 : decode cX9_wouldBeHeld 2 = .ok (.if_icmp .ge 5, 3) := by decide +kernel
theorem dX9_wouldBeHeld_5 : decode cX9_wouldBeHeld 5 = .ok (.iconst 0, 1) := by decide +kernel
theorem dX9_wouldBeHeld_6 : decode cX9_wouldBeHeld 6 = .ok (.ireturn, 1) := by decide +kernel
theorem dX9_wouldBeHeld_7 : decode cX9_wouldBeHeld 7 = .ok (.iload_n 2, 1) := by decide +kernel
theorem dX9_wouldBeHeld_8 : decode cX9_wouldBeHeld 8 = .ok (.iload_n 0, 1) := by decide +kernel
theorem dX9_wouldBeHeld_9 : decode cX9_wouldBeHeld 9 = .ok (.idiv, 1) := by decide +kernel
theorem dX9_wouldBeHeld_10 : decode cX9_wouldBeHeld 10 = .ok (.istore_n 3, 1) := by decide +kernel
theorem dX9_wouldBeHeld_11 : decode cX9_wouldBeHeld 11 = .ok (.iconst 1, 1) := by decide +kernel
theorem dX9_wouldBeHeld_12 : decode cX9_wouldBeHeld 12 = .ok (.istore 4, 2) := by decide +kernel
theorem dX9_wouldBeHeld_14 : decode cX9_wouldBeHeld 14 = .ok (.iconst 1, 1) := by decide +kernel
theorem dX9_wouldBeHeld_15 : decode cX9_wouldBeHeld 15 = .ok (.istore 5, 2) := by decide +kernel
theorem dX9_wouldBeHeld_17 : decode cX9_wouldBeHeld 17 = .ok (.iload 5, 2) := by decide +kernel
theorem dX9_wouldBeHeld_19 : decode cX9_wouldBeHeld 19 = .ok (.iload_n 3, 1) := by decide +kernel
theorem dX9_wouldBeHeld_20 : decode cX9_wouldBeHeld 20 = .ok (.if_icmp .gt 22, 3) := by decide +kernel
theorem dX9_wouldBeHeld_23 : decode cX9_wouldBeHeld 23 = .ok (.iload 5, 2) := by decide +kernel
theorem dX9_wouldBeHeld_25 : decode cX9_wouldBeHeld 25 = .ok (.iload_n 1, 1) := by decide +kernel
theorem dX9_wouldBeHeld_26 : decode cX9_wouldBeHeld 26 = .ok (.iload_n 3, 1) := by decide +kernel
theorem dX9_wouldBeHeld_27 : decode cX9_wouldBeHeld 27 = .ok (.invokestatic 293, 3) := by decide +kernel
theorem dX9_wouldBeHeld_30 : decode cX9_wouldBeHeld 30 = .ok (.ifCond .eq 6, 3) := by decide +kernel
theorem dX9_wouldBeHeld_33 : decode cX9_wouldBeHeld 33 = .ok (.iinc 4 1, 3) := by decide +kernel
theorem dX9_wouldBeHeld_36 : decode cX9_wouldBeHeld 36 = .ok (.iinc 5 1, 3) := by decide +kernel
theorem dX9_wouldBeHeld_39 : decode cX9_wouldBeHeld 39 = .ok (.goto (-22), 3) := by decide +kernel
theorem dX9_wouldBeHeld_42 : decode cX9_wouldBeHeld 42 = .ok (.iload 4, 2) := by decide +kernel
theorem dX9_wouldBeHeld_44 : decode cX9_wouldBeHeld 44 = .ok (.ireturn, 1) := by decide +kernel
theorem dX9_isPlace_0 : decode cX9_isPlace 0 = .ok (.iload_n 0, 1) := by decide +kernel
theorem dX9_isPlace_1 : decode cX9_isPlace 1 = .ok (.ifCond .lt 13, 3) := by decide +kernel
theorem dX9_isPlace_4 : decode cX9_isPlace 4 = .ok (.iload_n 0, 1) := by decide +kernel
theorem dX9_isPlace_5 : decode cX9_isPlace 5 = .ok (.bipush 40, 2) := by decide +kernel
theorem dX9_isPlace_7 : decode cX9_isPlace 7 = .ok (.if_icmp .ge 7, 3) := by decide +kernel
theorem dX9_isPlace_10 : decode cX9_isPlace 10 = .ok (.iconst 1, 1) := by decide +kernel
theorem dX9_isPlace_11 : decode cX9_isPlace 11 = .ok (.goto 4, 3) := by decide +kernel
theorem dX9_isPlace_14 : decode cX9_isPlace 14 = .ok (.iconst 0, 1) := by decide +kernel
theorem dX9_isPlace_15 : decode cX9_isPlace 15 = .ok (.ireturn, 1) := by decide +kernel
theorem dX9_isInstructionPlace_0 : decode cX9_isInstructionPlace 0 = .ok (.iload_n 0, 1) := by decide +kernel
theorem dX9_isInstructionPlace_1 : decode cX9_isInstructionPlace 1 = .ok (.ifCond .lt 13, 3) := by decide +kernel
theorem dX9_isInstructionPlace_4 : decode cX9_isInstructionPlace 4 = .ok (.iload_n 0, 1) := by decide +kernel
theorem dX9_isInstructionPlace_5 : decode cX9_isInstructionPlace 5 = .ok (.bipush 64, 2) := by decide +kernel
theorem dX9_isInstructionPlace_7 : decode cX9_isInstructionPlace 7 = .ok (.if_icmp .ge 7, 3) := by decide +kernel
theorem dX9_isInstructionPlace_10 : decode cX9_isInstructionPlace 10 = .ok (.iconst 1, 1) := by decide +kernel
theorem dX9_isInstructionPlace_11 : decode cX9_isInstructionPlace 11 = .ok (.goto 4, 3) := by decide +kernel
theorem dX9_isInstructionPlace_14 : decode cX9_isInstructionPlace 14 = .ok (.iconst 0, 1) := by decide +kernel
theorem dX9_isInstructionPlace_15 : decode cX9_isInstructionPlace 15 = .ok (.ireturn, 1) := by decide +kernel
theorem dX9_isUnit_0 : decode cX9_isUnit 0 = .ok (.iload_n 0, 1) := by decide +kernel
theorem dX9_isUnit_1 : decode cX9_isUnit 1 = .ok (.iconst 1, 1) := by decide +kernel
theorem dX9_isUnit_2 : decode cX9_isUnit 2 = .ok (.if_icmp .lt 13, 3) := by decide +kernel
theorem dX9_isUnit_5 : decode cX9_isUnit 5 = .ok (.iload_n 0, 1) := by decide +kernel
theorem dX9_isUnit_6 : decode cX9_isUnit 6 = .ok (.bipush 64, 2) := by decide +kernel
theorem dX9_isUnit_8 : decode cX9_isUnit 8 = .ok (.if_icmp .gt 7, 3) := by decide +kernel
theorem dX9_isUnit_11 : decode cX9_isUnit 11 = .ok (.iconst 1, 1) := by decide +kernel
theorem dX9_isUnit_12 : decode cX9_isUnit 12 = .ok (.goto 4, 3) := by decide +kernel
theorem dX9_isUnit_15 : decode cX9_isUnit 15 = .ok (.iconst 0, 1) := by decide +kernel
theorem dX9_isUnit_16 : decode cX9_isUnit 16 = .ok (.ireturn, 1) := by decide +kernel
theorem dX9_isDepth_0 : decode cX9_isDepth 0 = .ok (.iload_n 0, 1) := by decide +kernel
theorem dX9_isDepth_1 : decode cX9_isDepth 1 = .ok (.iconst 1, 1) := by decide +kernel
theorem dX9_isDepth_2 : decode cX9_isDepth 2 = .ok (.if_icmp .lt 13, 3) := by decide +kernel
theorem dX9_isDepth_5 : decode cX9_isDepth 5 = .ok (.iload_n 0, 1) := by decide +kernel
theorem dX9_isDepth_6 : decode cX9_isDepth 6 = .ok (.bipush 8, 2) := by decide +kernel
theorem dX9_isDepth_8 : decode cX9_isDepth 8 = .ok (.if_icmp .gt 7, 3) := by decide +kernel
theorem dX9_isDepth_11 : decode cX9_isDepth 11 = .ok (.iconst 1, 1) := by decide +kernel
theorem dX9_isDepth_12 : decode cX9_isDepth 12 = .ok (.goto 4, 3) := by decide +kernel
theorem dX9_isDepth_15 : decode cX9_isDepth 15 = .ok (.iconst 0, 1) := by decide +kernel
theorem dX9_isDepth_16 : decode cX9_isDepth 16 = .ok (.ireturn, 1) := by decide +kernel
theorem dX9_isAnyTime_0 : decode cX9_isAnyTime 0 = .ok (.iload_n 0, 1) := by decide +kernel
theorem dX9_isAnyTime_1 : decode cX9_isAnyTime 1 = .ok (.ifCond .lt 14, 3) := by decide +kernel
theorem dX9_isAnyTime_4 : decode cX9_isAnyTime 4 = .ok (.iload_n 0, 1) := by decide +kernel
theorem dX9_isAnyTime_5 : decode cX9_isAnyTime 5 = .ok (.sipush 3000, 3) := by decide +kernel
theorem dX9_isAnyTime_8 : decode cX9_isAnyTime 8 = .ok (.if_icmp .gt 7, 3) := by decide +kernel
theorem dX9_isAnyTime_11 : decode cX9_isAnyTime 11 = .ok (.iconst 1, 1) := by decide +kernel
theorem dX9_isAnyTime_12 : decode cX9_isAnyTime 12 = .ok (.goto 4, 3) := by decide +kernel
theorem dX9_isAnyTime_15 : decode cX9_isAnyTime 15 = .ok (.iconst 0, 1) := by decide +kernel
theorem dX9_isAnyTime_16 : decode cX9_isAnyTime 16 = .ok (.ireturn, 1) := by decide +kernel
theorem dX9_isStateWhat_0 : decode cX9_isStateWhat 0 = .ok (.iload_n 0, 1) := by decide +kernel
theorem dX9_isStateWhat_1 : decode cX9_isStateWhat 1 = .ok (.ifCond .lt 8, 3) := by decide +kernel
theorem dX9_isStateWhat_4 : decode cX9_isStateWhat 4 = .ok (.iload_n 0, 1) := by decide +kernel
theorem dX9_isStateWhat_5 : decode cX9_isStateWhat 5 = .ok (.iconst 4, 1) := by decide +kernel
theorem dX9_isStateWhat_6 : decode cX9_isStateWhat 6 = .ok (.if_icmp .le 15, 3) := by decide +kernel
theorem dX9_isStateWhat_9 : decode cX9_isStateWhat 9 = .ok (.iload_n 0, 1) := by decide +kernel
theorem dX9_isStateWhat_10 : decode cX9_isStateWhat 10 = .ok (.bipush 10, 2) := by decide +kernel
theorem dX9_isStateWhat_12 : decode cX9_isStateWhat 12 = .ok (.if_icmp .lt 13, 3) := by decide +kernel
theorem dX9_isStateWhat_15 : decode cX9_isStateWhat 15 = .ok (.iload_n 0, 1) := by decide +kernel
theorem dX9_isStateWhat_16 : decode cX9_isStateWhat 16 = .ok (.bipush 18, 2) := by decide +kernel
theorem dX9_isStateWhat_18 : decode cX9_isStateWhat 18 = .ok (.if_icmp .ge 7, 3) := by decide +kernel
theorem dX9_isStateWhat_21 : decode cX9_isStateWhat 21 = .ok (.iconst 1, 1) := by decide +kernel
theorem dX9_isStateWhat_22 : decode cX9_isStateWhat 22 = .ok (.goto 4, 3) := by decide +kernel
theorem dX9_isStateWhat_25 : decode cX9_isStateWhat 25 = .ok (.iconst 0, 1) := by decide +kernel
theorem dX9_isStateWhat_26 : decode cX9_isStateWhat 26 = .ok (.ireturn, 1) := by decide +kernel
theorem dX9_isPlacesWhat_0 : decode cX9_isPlacesWhat 0 = .ok (.iload_n 0, 1) := by decide +kernel
theorem dX9_isPlacesWhat_1 : decode cX9_isPlacesWhat 1 = .ok (.ifCond .eq 8, 3) := by decide +kernel
theorem dX9_isPlacesWhat_4 : decode cX9_isPlacesWhat 4 = .ok (.iload_n 0, 1) := by decide +kernel
theorem dX9_isPlacesWhat_5 : decode cX9_isPlacesWhat 5 = .ok (.iconst 1, 1) := by decide +kernel
theorem dX9_isPlacesWhat_6 : decode cX9_isPlacesWhat 6 = .ok (.if_icmp .ne 7, 3) := by decide +kernel
theorem dX9_isPlacesWhat_9 : decode cX9_isPlacesWhat 9 = .ok (.iconst 1, 1) := by decide +kernel
theorem dX9_isPlacesWhat_10 : decode cX9_isPlacesWhat 10 = .ok (.goto 4, 3) := by decide +kernel
theorem dX9_isPlacesWhat_13 : decode cX9_isPlacesWhat 13 = .ok (.iconst 0, 1) := by decide +kernel
theorem dX9_isPlacesWhat_14 : decode cX9_isPlacesWhat 14 = .ok (.ireturn, 1) := by decide +kernel
theorem dX9_firstPlaceOf_0 : decode cX9_firstPlaceOf 0 = .ok (.iload_n 0, 1) := by decide +kernel
theorem dX9_firstPlaceOf_1 : decode cX9_firstPlaceOf 1 = .ok (.ifCond .ne 7, 3) := by decide +kernel
theorem dX9_firstPlaceOf_4 : decode cX9_firstPlaceOf 4 = .ok (.iconst 0, 1) := by decide +kernel
theorem dX9_firstPlaceOf_5 : decode cX9_firstPlaceOf 5 = .ok (.goto 5, 3) := by decide +kernel
theorem dX9_firstPlaceOf_8 : decode cX9_firstPlaceOf 8 = .ok (.bipush 8, 2) := by decide +kernel
theorem dX9_firstPlaceOf_10 : decode cX9_firstPlaceOf 10 = .ok (.ireturn, 1) := by decide +kernel
theorem dX9_placesOf_0 : decode cX9_placesOf 0 = .ok (.iload_n 0, 1) := by decide +kernel
theorem dX9_placesOf_1 : decode cX9_placesOf 1 = .ok (.ifCond .ne 8, 3) := by decide +kernel
theorem dX9_placesOf_4 : decode cX9_placesOf 4 = .ok (.bipush 8, 2) := by decide +kernel
theorem dX9_placesOf_6 : decode cX9_placesOf 6 = .ok (.goto 5, 3) := by decide +kernel
theorem dX9_placesOf_9 : decode cX9_placesOf 9 = .ok (.bipush 32, 2) := by decide +kernel
theorem dX9_placesOf_11 : decode cX9_placesOf 11 = .ok (.ireturn, 1) := by decide +kernel
theorem dX9_isMarked_0 : decode cX9_isMarked 0 = .ok (.iload_n 1, 1) := by decide +kernel
theorem dX9_isMarked_1 : decode cX9_isMarked 1 = .ok (.ifCond .lt 19, 3) := by decide +kernel
theorem dX9_isMarked_4 : decode cX9_isMarked 4 = .ok (.iload_n 1, 1) := by decide +kernel
theorem dX9_isMarked_5 : decode cX9_isMarked 5 = .ok (.aload_n 0, 1) := by decide +kernel
theorem dX9_isMarked_6 : decode cX9_isMarked 6 = .ok (.arraylength, 1) := by decide +kernel
theorem dX9_isMarked_7 : decode cX9_isMarked 7 = .ok (.if_icmp .ge 13, 3) := by decide +kernel
theorem dX9_isMarked_10 : decode cX9_isMarked 10 = .ok (.aload_n 0, 1) := by decide +kernel
theorem dX9_isMarked_11 : decode cX9_isMarked 11 = .ok (.iload_n 1, 1) := by decide +kernel
theorem dX9_isMarked_12 : decode cX9_isMarked 12 = .ok (.baload, 1) := by decide +kernel
theorem dX9_isMarked_13 : decode cX9_isMarked 13 = .ok (.ifCond .eq 7, 3) := by decide +kernel
theorem dX9_isMarked_16 : decode cX9_isMarked 16 = .ok (.iconst 1, 1) := by decide +kernel
theorem dX9_isMarked_17 : decode cX9_isMarked 17 = .ok (.goto 4, 3) := by decide +kernel
theorem dX9_isMarked_20 : decode cX9_isMarked 20 = .ok (.iconst 0, 1) := by decide +kernel
theorem dX9_isMarked_21 : decode cX9_isMarked 21 = .ok (.ireturn, 1) := by decide +kernel
theorem dX9_isValue_0 : decode cX9_isValue 0 = .ok (.iload_n 0, 1) := by decide +kernel
theorem dX9_isValue_1 : decode cX9_isValue 1 = .ok (.lookupswitch 52 #[(0, 27), (1, 37)], 27) := by decide +kernel
theorem dX9_isValue_28 : decode cX9_isValue 28 = .ok (.iload_n 1, 1) := by decide +kernel
theorem dX9_isValue_29 : decode cX9_isValue 29 = .ok (.ifCond .ne 7, 3) := by decide +kernel
theorem dX9_isValue_32 : decode cX9_isValue 32 = .ok (.iconst 1, 1) := by decide +kernel
theorem dX9_isValue_33 : decode cX9_isValue 33 = .ok (.goto 4, 3) := by decide +kernel
theorem dX9_isValue_36 : decode cX9_isValue 36 = .ok (.iconst 0, 1) := by decide +kernel
theorem dX9_isValue_37 : decode cX9_isValue 37 = .ok (.ireturn, 1) := by decide +kernel
theorem dX9_isValue_38 : decode cX9_isValue 38 = .ok (.iload_n 1, 1) := by decide +kernel
theorem dX9_isValue_39 : decode cX9_isValue 39 = .ok (.ifCond .eq 8, 3) := by decide +kernel
theorem dX9_isValue_42 : decode cX9_isValue 42 = .ok (.iload_n 1, 1) := by decide +kernel
theorem dX9_isValue_43 : decode cX9_isValue 43 = .ok (.iconst 1, 1) := by decide +kernel
theorem dX9_isValue_44 : decode cX9_isValue 44 = .ok (.if_icmp .ne 7, 3) := by decide +kernel
theorem dX9_isValue_47 : decode cX9_isValue 47 = .ok (.iconst 1, 1) := by decide +kernel
theorem dX9_isValue_48 : decode cX9_isValue 48 = .ok (.goto 4, 3) := by decide +kernel
theorem dX9_isValue_51 : decode cX9_isValue 51 = .ok (.iconst 0, 1) := by decide +kernel
theorem dX9_isValue_52 : decode cX9_isValue 52 = .ok (.ireturn, 1) := by decide +kernel
theorem dX9_isValue_53 : decode cX9_isValue 53 = .ok (.iload_n 0, 1) := by decide +kernel
theorem dX9_isValue_54 : decode cX9_isValue 54 = .ok (.iconst 2, 1) := by decide +kernel
theorem dX9_isValue_55 : decode cX9_isValue 55 = .ok (.if_icmp .ne 7, 3) := by decide +kernel
theorem dX9_isValue_58 : decode cX9_isValue 58 = .ok (.iconst 1, 1) := by decide +kernel
theorem dX9_isValue_59 : decode cX9_isValue 59 = .ok (.goto 4, 3) := by decide +kernel
theorem dX9_isValue_62 : decode cX9_isValue 62 = .ok (.iconst 0, 1) := by decide +kernel
theorem dX9_isValue_63 : decode cX9_isValue 63 = .ok (.ireturn, 1) := by decide +kernel
theorem dX9_isInstruction_0 : decode cX9_isInstruction 0 = .ok (.iload_n 0, 1) := by decide +kernel
theorem dX9_isInstruction_1 : decode cX9_isInstruction 1 = .ok (.ifCond .lt 27, 3) := by decide +kernel
theorem dX9_isInstruction_4 : decode cX9_isInstruction 4 = .ok (.iload_n 0, 1) := by decide +kernel
theorem dX9_isInstruction_5 : decode cX9_isInstruction 5 = .ok (.getstatic 349, 3) := by decide +kernel
theorem dX9_isInstruction_8 : decode cX9_isInstruction 8 = .ok (.arraylength, 1) := by decide +kernel
theorem dX9_isInstruction_9 : decode cX9_isInstruction 9 = .ok (.if_icmp .ge 19, 3) := by decide +kernel
theorem dX9_isInstruction_12 : decode cX9_isInstruction 12 = .ok (.iload_n 0, 1) := by decide +kernel
theorem dX9_isInstruction_13 : decode cX9_isInstruction 13 = .ok (.getstatic 353, 3) := by decide +kernel
theorem dX9_isInstruction_16 : decode cX9_isInstruction 16 = .ok (.arraylength, 1) := by decide +kernel
theorem dX9_isInstruction_17 : decode cX9_isInstruction 17 = .ok (.if_icmp .ge 11, 3) := by decide +kernel
theorem dX9_isInstruction_20 : decode cX9_isInstruction 20 = .ok (.iload_n 0, 1) := by decide +kernel
theorem dX9_isInstruction_21 : decode cX9_isInstruction 21 = .ok (.getstatic 356, 3) := by decide +kernel
theorem dX9_isInstruction_24 : decode cX9_isInstruction 24 = .ok (.arraylength, 1) := by decide +kernel
theorem dX9_isInstruction_25 : decode cX9_isInstruction 25 = .ok (.if_icmp .lt 5, 3) := by decide +kernel
theorem dX9_isInstruction_28 : decode cX9_isInstruction 28 = .ok (.iconst 0, 1) := by decide +kernel
theorem dX9_isInstruction_29 : decode cX9_isInstruction 29 = .ok (.ireturn, 1) := by decide +kernel
theorem dX9_isInstruction_30 : decode cX9_isInstruction 30 = .ok (.getstatic 349, 3) := by decide +kernel
theorem dX9_isInstruction_33 : decode cX9_isInstruction 33 = .ok (.iload_n 0, 1) := by decide +kernel
theorem dX9_isInstruction_34 : decode cX9_isInstruction 34 = .ok (.iaload, 1) := by decide +kernel
theorem dX9_isInstruction_35 : decode cX9_isInstruction 35 = .ok (.iload_n 1, 1) := by decide +kernel
theorem dX9_isInstruction_36 : decode cX9_isInstruction 36 = .ok (.invokestatic 359, 3) := by decide +kernel
theorem dX9_isInstruction_39 : decode cX9_isInstruction 39 = .ok (.ifCond .eq 31, 3) := by decide +kernel
theorem dX9_isInstruction_42 : decode cX9_isInstruction 42 = .ok (.getstatic 353, 3) := by decide +kernel
theorem dX9_isInstruction_45 : decode cX9_isInstruction 45 = .ok (.iload_n 0, 1) := by decide +kernel
theorem dX9_isInstruction_46 : decode cX9_isInstruction 46 = .ok (.iaload, 1) := by decide +kernel
theorem dX9_isInstruction_47 : decode cX9_isInstruction 47 = .ok (.iload_n 2, 1) := by decide +kernel
theorem dX9_isInstruction_48 : decode cX9_isInstruction 48 = .ok (.invokestatic 359, 3) := by decide +kernel
theorem dX9_isInstruction_51 : decode cX9_isInstruction 51 = .ok (.ifCond .eq 19, 3) := by decide +kernel
theorem dX9_isInstruction_54 : decode cX9_isInstruction 54 = .ok (.getstatic 356, 3) := by decide +kernel
theorem dX9_isInstruction_57 : decode cX9_isInstruction 57 = .ok (.iload_n 0, 1) := by decide +kernel
theorem dX9_isInstruction_58 : decode cX9_isInstruction 58 = .ok (.iaload, 1) := by decide +kernel
theorem dX9_isInstruction_59 : decode cX9_isInstruction 59 = .ok (.iload_n 3, 1) := by decide +kernel
theorem dX9_isInstruction_60 : decode cX9_isInstruction 60 = .ok (.invokestatic 359, 3) := by decide +kernel
theorem dX9_isInstruction_63 : decode cX9_isInstruction 63 = .ok (.ifCond .eq 7, 3) := by decide +kernel
theorem dX9_isInstruction_66 : decode cX9_isInstruction 66 = .ok (.iconst 1, 1) := by decide +kernel
theorem dX9_isInstruction_67 : decode cX9_isInstruction 67 = .ok (.goto 4, 3) := by decide +kernel
theorem dX9_isInstruction_70 : decode cX9_isInstruction 70 = .ok (.iconst 0, 1) := by decide +kernel
theorem dX9_isInstruction_71 : decode cX9_isInstruction 71 = .ok (.ireturn, 1) := by decide +kernel
theorem dX9_fits_0 : decode cX9_fits 0 = .ok (.iload_n 0, 1) := by decide +kernel
theorem dX9_fits_1 : decode cX9_fits 1 = .ok (.tableswitch 85 1 4 #[31, 47, 52, 67], 31) := by decide +kernel
theorem dX9_fits_32 : decode cX9_fits 32 = .ok (.iload_n 1, 1) := by decide +kernel
theorem dX9_fits_33 : decode cX9_fits 33 = .ok (.ifCond .lt 13, 3) := by decide +kernel
theorem dX9_fits_36 : decode cX9_fits 36 = .ok (.iload_n 1, 1) := by decide +kernel
theorem dX9_fits_37 : decode cX9_fits 37 = .ok (.bipush 8, 2) := by decide +kernel
theorem dX9_fits_39 : decode cX9_fits 39 = .ok (.if_icmp .ge 7, 3) := by decide +kernel
theorem dX9_fits_42 : decode cX9_fits 42 = .ok (.iconst 1, 1) := by decide +kernel
theorem dX9_fits_43 : decode cX9_fits 43 = .ok (.goto 4, 3) := by decide +kernel
theorem dX9_fits_46 : decode cX9_fits 46 = .ok (.iconst 0, 1) := by decide +kernel
theorem dX9_fits_47 : decode cX9_fits 47 = .ok (.ireturn, 1) := by decide +kernel
theorem dX9_fits_48 : decode cX9_fits 48 = .ok (.iload_n 1, 1) := by decide +kernel
theorem dX9_fits_49 : decode cX9_fits 49 = .ok (.invokestatic 66, 3) := by decide +kernel
theorem dX9_fits_52 : decode cX9_fits 52 = .ok (.ireturn, 1) := by decide +kernel
theorem dX9_fits_53 : decode cX9_fits 53 = .ok (.iload_n 1, 1) := by decide +kernel
theorem dX9_fits_54 : decode cX9_fits 54 = .ok (.ifCond .eq 8, 3) := by decide +kernel
theorem dX9_fits_57 : decode cX9_fits 57 = .ok (.iload_n 1, 1) := by decide +kernel
theorem dX9_fits_58 : decode cX9_fits 58 = .ok (.iconst 1, 1) := by decide +kernel
theorem dX9_fits_59 : decode cX9_fits 59 = .ok (.if_icmp .ne 7, 3) := by decide +kernel
theorem dX9_fits_62 : decode cX9_fits 62 = .ok (.iconst 1, 1) := by decide +kernel
theorem dX9_fits_63 : decode cX9_fits 63 = .ok (.goto 4, 3) := by decide +kernel
theorem dX9_fits_66 : decode cX9_fits 66 = .ok (.iconst 0, 1) := by decide +kernel
theorem dX9_fits_67 : decode cX9_fits 67 = .ok (.ireturn, 1) := by decide +kernel
theorem dX9_fits_68 : decode cX9_fits 68 = .ok (.iload_n 1, 1) := by decide +kernel
theorem dX9_fits_69 : decode cX9_fits 69 = .ok (.iconst 1, 1) := by decide +kernel
theorem dX9_fits_70 : decode cX9_fits 70 = .ok (.if_icmp .lt 14, 3) := by decide +kernel
theorem dX9_fits_73 : decode cX9_fits 73 = .ok (.iload_n 1, 1) := by decide +kernel
theorem dX9_fits_74 : decode cX9_fits 74 = .ok (.sipush 1000, 3) := by decide +kernel
theorem dX9_fits_77 : decode cX9_fits 77 = .ok (.if_icmp .gt 7, 3) := by decide +kernel
theorem dX9_fits_80 : decode cX9_fits 80 = .ok (.iconst 1, 1) := by decide +kernel
theorem dX9_fits_81 : decode cX9_fits 81 = .ok (.goto 4, 3) := by decide +kernel
theorem dX9_fits_84 : decode cX9_fits 84 = .ok (.iconst 0, 1) := by decide +kernel
theorem dX9_fits_85 : decode cX9_fits 85 = .ok (.ireturn, 1) := by decide +kernel
theorem dX9_fits_86 : decode cX9_fits 86 = .ok (.iload_n 0, 1) := by decide +kernel
theorem dX9_fits_87 : decode cX9_fits 87 = .ok (.ifCond .ne 7, 3) := by decide +kernel
theorem dX9_fits_90 : decode cX9_fits 90 = .ok (.iconst 1, 1) := by decide +kernel
theorem dX9_fits_91 : decode cX9_fits 91 = .ok (.goto 4, 3) := by decide +kernel
theorem dX9_fits_94 : decode cX9_fits 94 = .ok (.iconst 0, 1) := by decide +kernel
theorem dX9_fits_95 : decode cX9_fits 95 = .ok (.ireturn, 1) := by decide +kernel
theorem dJ9_max_7cf53_0 : decode cJ9_max_7cf53 0 = .ok (.iload_n 0, 1) := by decide +kernel
theorem dJ9_max_7cf53_1 : decode cJ9_max_7cf53 1 = .ok (.iload_n 1, 1) := by decide +kernel
theorem dJ9_max_7cf53_2 : decode cJ9_max_7cf53 2 = .ok (.if_icmp .lt 7, 3) := by decide +kernel
theorem dJ9_max_7cf53_5 : decode cJ9_max_7cf53 5 = .ok (.iload_n 0, 1) := by decide +kernel
theorem dJ9_max_7cf53_6 : decode cJ9_max_7cf53 6 = .ok (.goto 4, 3) := by decide +kernel
theorem dJ9_max_7cf53_9 : decode cJ9_max_7cf53 9 = .ok (.iload_n 1, 1) := by decide +kernel
theorem dJ9_max_7cf53_10 : decode cJ9_max_7cf53 10 = .ok (.ireturn, 1) := by decide +kernel
theorem dJ9_min_7cf53_0 : decode cJ9_min_7cf53 0 = .ok (.iload_n 0, 1) := by decide +kernel
theorem dJ9_min_7cf53_1 : decode cJ9_min_7cf53 1 = .ok (.iload_n 1, 1) := by decide +kernel
theorem dJ9_min_7cf53_2 : decode cJ9_min_7cf53 2 = .ok (.if_icmp .gt 7, 3) := by decide +kernel
theorem dJ9_min_7cf53_5 : decode cJ9_min_7cf53 5 = .ok (.iload_n 0, 1) := by decide +kernel
theorem dJ9_min_7cf53_6 : decode cJ9_min_7cf53 6 = .ok (.goto 4, 3) := by decide +kernel
theorem dJ9_min_7cf53_9 : decode cJ9_min_7cf53 9 = .ok (.iload_n 1, 1) := by decide +kernel
theorem dJ9_min_7cf53_10 : decode cJ9_min_7cf53 10 = .ok (.ireturn, 1) := by decide +kernel
theorem dJ7_fill_53178_0 : decode cJ7_fill_53178 0 = .ok (.iconst 0, 1) := by decide +kernel
theorem dJ7_fill_53178_1 : decode cJ7_fill_53178 1 = .ok (.istore_n 2, 1) := by decide +kernel
theorem dJ7_fill_53178_2 : decode cJ7_fill_53178 2 = .ok (.aload_n 0, 1) := by decide +kernel
theorem dJ7_fill_53178_3 : decode cJ7_fill_53178 3 = .ok (.arraylength, 1) := by decide +kernel
theorem dJ7_fill_53178_4 : decode cJ7_fill_53178 4 = .ok (.istore_n 3, 1) := by decide +kernel
theorem dJ7_fill_53178_5 : decode cJ7_fill_53178 5 = .ok (.iload_n 2, 1) := by decide +kernel
theorem dJ7_fill_53178_6 : decode cJ7_fill_53178 6 = .ok (.iload_n 3, 1) := by decide +kernel
theorem dJ7_fill_53178_7 : decode cJ7_fill_53178 7 = .ok (.if_icmp .ge 13, 3) := by decide +kernel
theorem dJ7_fill_53178_10 : decode cJ7_fill_53178 10 = .ok (.aload_n 0, 1) := by decide +kernel
theorem dJ7_fill_53178_11 : decode cJ7_fill_53178 11 = .ok (.iload_n 2, 1) := by decide +kernel
theorem dJ7_fill_53178_12 : decode cJ7_fill_53178 12 = .ok (.iload_n 1, 1) := by decide +kernel
theorem dJ7_fill_53178_13 : decode cJ7_fill_53178 13 = .ok (.iastore, 1) := by decide +kernel
theorem dJ7_fill_53178_14 : decode cJ7_fill_53178 14 = .ok (.iinc 2 1, 3) := by decide +kernel
theorem dJ7_fill_53178_17 : decode cJ7_fill_53178 17 = .ok (.goto (-12), 3) := by decide +kernel
theorem dJ7_fill_53178_20 : decode cJ7_fill_53178 20 = .ok (.return_, 1) := by decide +kernel
theorem dJ7_fill_49daa_0 : decode cJ7_fill_49daa 0 = .ok (.iconst 0, 1) := by decide +kernel
theorem dJ7_fill_49daa_1 : decode cJ7_fill_49daa 1 = .ok (.istore_n 2, 1) := by decide +kernel
theorem dJ7_fill_49daa_2 : decode cJ7_fill_49daa 2 = .ok (.aload_n 0, 1) := by decide +kernel
theorem dJ7_fill_49daa_3 : decode cJ7_fill_49daa 3 = .ok (.arraylength, 1) := by decide +kernel
theorem dJ7_fill_49daa_4 : decode cJ7_fill_49daa 4 = .ok (.istore_n 3, 1) := by decide +kernel
theorem dJ7_fill_49daa_5 : decode cJ7_fill_49daa 5 = .ok (.iload_n 2, 1) := by decide +kernel
theorem dJ7_fill_49daa_6 : decode cJ7_fill_49daa 6 = .ok (.iload_n 3, 1) := by decide +kernel
theorem dJ7_fill_49daa_7 : decode cJ7_fill_49daa 7 = .ok (.if_icmp .ge 13, 3) := by decide +kernel
theorem dJ7_fill_49daa_10 : decode cJ7_fill_49daa 10 = .ok (.aload_n 0, 1) := by decide +kernel
theorem dJ7_fill_49daa_11 : decode cJ7_fill_49daa 11 = .ok (.iload_n 2, 1) := by decide +kernel
theorem dJ7_fill_49daa_12 : decode cJ7_fill_49daa 12 = .ok (.iload_n 1, 1) := by decide +kernel
theorem dJ7_fill_49daa_13 : decode cJ7_fill_49daa 13 = .ok (.bastore, 1) := by decide +kernel
theorem dJ7_fill_49daa_14 : decode cJ7_fill_49daa 14 = .ok (.iinc 2 1, 3) := by decide +kernel
theorem dJ7_fill_49daa_17 : decode cJ7_fill_49daa 17 = .ok (.goto (-12), 3) := by decide +kernel
theorem dJ7_fill_49daa_20 : decode cJ7_fill_49daa 20 = .ok (.return_, 1) := by decide +kernel
