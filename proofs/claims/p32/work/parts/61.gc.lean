theorem dX0_callOfOne_0 : decode cX0_callOfOne 0 = .ok (.aload_n 0, 1) := by decide +kernel
theorem dX0_callOfOne_1 : decode cX0_callOfOne 1 = .ok (.iload_n 1, 1) := by decide +kernel
theorem dX0_callOfOne_2 : decode cX0_callOfOne 2 = .ok (.invokevirtual 33, 3) := by decide +kernel
theorem dX0_callOfOne_5 : decode cX0_callOfOne 5 = .ok (.ifCond .eq 12, 3) := by decide +kernel
theorem dX0_callOfOne_8 : decode cX0_callOfOne 8 = .ok (.aload_n 0, 1) := by decide +kernel
theorem dX0_callOfOne_9 : decode cX0_callOfOne 9 = .ok (.getfield 16, 3) := by decide +kernel
theorem dX0_callOfOne_12 : decode cX0_callOfOne 12 = .ok (.iload_n 1, 1) := by decide +kernel
theorem dX0_callOfOne_13 : decode cX0_callOfOne 13 = .ok (.iaload, 1) := by decide +kernel
theorem dX0_callOfOne_14 : decode cX0_callOfOne 14 = .ok (.goto 4, 3) := by decide +kernel
theorem dX0_callOfOne_17 : decode cX0_callOfOne 17 = .ok (.iconst (-1), 1) := by decide +kernel
theorem dX0_callOfOne_18 : decode cX0_callOfOne 18 = .ok (.ireturn, 1) := by decide +kernel
theorem dX0_callOfOther_0 : decode cX0_callOfOther 0 = .ok (.aload_n 0, 1) := by decide +kernel
theorem dX0_callOfOther_1 : decode cX0_callOfOther 1 = .ok (.iload_n 1, 1) := by decide +kernel
theorem dX0_callOfOther_2 : decode cX0_callOfOther 2 = .ok (.invokevirtual 33, 3) := by decide +kernel
theorem dX0_callOfOther_5 : decode cX0_callOfOther 5 = .ok (.ifCond .eq 12, 3) := by decide +kernel
theorem dX0_callOfOther_8 : decode cX0_callOfOther 8 = .ok (.aload_n 0, 1) := by decide +kernel
theorem dX0_callOfOther_9 : decode cX0_callOfOther 9 = .ok (.getfield 20, 3) := by decide +kernel
theorem dX0_callOfOther_12 : decode cX0_callOfOther 12 = .ok (.iload_n 1, 1) := by decide +kernel
theorem dX0_callOfOther_13 : decode cX0_callOfOther 13 = .ok (.iaload, 1) := by decide +kernel
theorem dX0_callOfOther_14 : decode cX0_callOfOther 14 = .ok (.goto 4, 3) := by decide +kernel
theorem dX0_callOfOther_17 : decode cX0_callOfOther 17 = .ok (.iconst (-1), 1) := by decide +kernel
theorem dX0_callOfOther_18 : decode cX0_callOfOther 18 = .ok (.ireturn, 1) := by decide +kernel
theorem dX0_choosePairs_0 : decode cX0_choosePairs 0 = .ok (.aload_n 0, 1) := by decide +kernel
theorem dX0_choosePairs_1 : decode cX0_choosePairs 1 = .ok (.iconst 0, 1) := by decide +kernel
theorem dX0_choosePairs_2 : decode cX0_choosePairs 2 = .ok (.putfield 23, 3) := by decide +kernel
theorem dX0_choosePairs_5 : decode cX0_choosePairs 5 = .ok (.iconst 0, 1) := by decide +kernel
theorem dX0_choosePairs_6 : decode cX0_choosePairs 6 = .ok (.istore 5, 2) := by decide +kernel
theorem dX0_choosePairs_8 : decode cX0_choosePairs 8 = .ok (.iconst 0, 1) := by decide +kernel
theorem dX0_choosePairs_9 : decode cX0_choosePairs 9 = .ok (.istore 6, 2) := by decide +kernel
theorem dX0_choosePairs_11 : decode cX0_choosePairs 11 = .ok (.iload 6, 2) := by decide +kernel
theorem dX0_choosePairs_13 : decode cX0_choosePairs 13 = .ok (.iload_n 2, 1) := by decide +kernel
theorem dX0_choosePairs_14 : decode cX0_choosePairs 14 = .ok (.if_icmp .ge 121, 3) := by decide +kernel
theorem dX0_choosePairs_17 : decode cX0_choosePairs 17 = .ok (.aload_n 0, 1) := by decide +kernel
theorem dX0_choosePairs_18 : decode cX0_choosePairs 18 = .ok (.getfield 23, 3) := by decide +kernel
theorem dX0_choosePairs_21 : decode cX0_choosePairs 21 = .ok (.bipush 100, 2) := by decide +kernel
theorem dX0_choosePairs_23 : decode cX0_choosePairs 23 = .ok (.if_icmp .ge 112, 3) := by decide +kernel
theorem dX0_choosePairs_26 : decode cX0_choosePairs 26 = .ok (.iload 5, 2) := by decide +kernel
theorem dX0_choosePairs_28 : decode cX0_choosePairs 28 = .ok (.istore 7, 2) := by decide +kernel
theorem dX0_choosePairs_30 : decode cX0_choosePairs 30 = .ok (.iload 7, 2) := by decide +kernel
theorem dX0_choosePairs_32 : decode cX0_choosePairs 32 = .ok (.iload 4, 2) := by decide +kernel
theorem dX0_choosePairs_34 : decode cX0_choosePairs 34 = .ok (.if_icmp .ge 50, 3) := by decide +kernel
theorem dX0_choosePairs_37 : decode cX0_choosePairs 37 = .ok (.aload_n 1, 1) := by decide +kernel
theorem dX0_choosePairs_38 : decode cX0_choosePairs 38 = .ok (.iload 6, 2) := by decide +kernel
theorem dX0_choosePairs_40 : decode cX0_choosePairs 40 = .ok (.aload_n 3, 1) := by decide +kernel
theorem dX0_choosePairs_41 : decode cX0_choosePairs 41 = .ok (.iload 7, 2) := by decide +kernel
theorem dX0_choosePairs_43 : decode cX0_choosePairs 43 = .ok (.invokevirtual 64, 3) := by decide +kernel
theorem dX0_choosePairs_46 : decode cX0_choosePairs 46 = .ok (.ifCond .eq 32, 3) := by decide +kernel
theorem dX0_choosePairs_49 : decode cX0_choosePairs 49 = .ok (.iconst 1, 1) := by decide +kernel
theorem dX0_choosePairs_50 : decode cX0_choosePairs 50 = .ok (.aload_n 0, 1) := by decide +kernel
theorem dX0_choosePairs_51 : decode cX0_choosePairs 51 = .ok (.getfield 11, 3) := by decide +kernel
theorem dX0_choosePairs_54 : decode cX0_choosePairs 54 = .ok (.iload 6, 2) := by decide +kernel
theorem dX0_choosePairs_56 : decode cX0_choosePairs 56 = .ok (.iconst 1, 1) := by decide +kernel
theorem dX0_choosePairs_57 : decode cX0_choosePairs 57 = .ok (.iadd, 1) := by decide +kernel
theorem dX0_choosePairs_58 : decode cX0_choosePairs 58 = .ok (.aaload, 1) := by decide +kernel
theorem dX0_choosePairs_59 : decode cX0_choosePairs 59 = .ok (.iload 7, 2) := by decide +kernel
theorem dX0_choosePairs_61 : decode cX0_choosePairs 61 = .ok (.iconst 1, 1) := by decide +kernel
theorem dX0_choosePairs_62 : decode cX0_choosePairs 62 = .ok (.iadd, 1) := by decide +kernel
theorem dX0_choosePairs_63 : decode cX0_choosePairs 63 = .ok (.iaload, 1) := by decide +kernel
theorem dX0_choosePairs_64 : decode cX0_choosePairs 64 = .ok (.iadd, 1) := by decide +kernel
theorem dX0_choosePairs_65 : decode cX0_choosePairs 65 = .ok (.aload_n 0, 1) := by decide +kernel
theorem dX0_choosePairs_66 : decode cX0_choosePairs 66 = .ok (.getfield 11, 3) := by decide +kernel
theorem dX0_choosePairs_69 : decode cX0_choosePairs 69 = .ok (.iload 6, 2) := by decide +kernel
theorem dX0_choosePairs_71 : decode cX0_choosePairs 71 = .ok (.aaload, 1) := by decide +kernel
theorem dX0_choosePairs_72 : decode cX0_choosePairs 72 = .ok (.iload 5, 2) := by decide +kernel
theorem dX0_choosePairs_74 : decode cX0_choosePairs 74 = .ok (.iaload, 1) := by decide +kernel
theorem dX0_choosePairs_75 : decode cX0_choosePairs 75 = .ok (.if_icmp .eq 9, 3) := by decide +kernel
theorem dX0_choosePairs_78 : decode cX0_choosePairs 78 = .ok (.iinc 7 1, 3) := by decide +kernel
theorem dX0_choosePairs_81 : decode cX0_choosePairs 81 = .ok (.goto (-51), 3) := by decide +kernel
theorem dX0_choosePairs_84 : decode cX0_choosePairs 84 = .ok (.iload 7, 2) := by decide +kernel
theorem dX0_choosePairs_86 : decode cX0_choosePairs 86 = .ok (.iload 4, 2) := by decide +kernel
theorem dX0_choosePairs_88 : decode cX0_choosePairs 88 = .ok (.if_icmp .ge 41, 3) := by decide +kernel
theorem dX0_choosePairs_91 : decode cX0_choosePairs 91 = .ok (.aload_n 0, 1) := by decide +kernel
theorem dX0_choosePairs_92 : decode cX0_choosePairs 92 = .ok (.getfield 16, 3) := by decide +kernel
theorem dX0_choosePairs_95 : decode cX0_choosePairs 95 = .ok (.aload_n 0, 1) := by decide +kernel
theorem dX0_choosePairs_96 : decode cX0_choosePairs 96 = .ok (.getfield 23, 3) := by decide +kernel
theorem dX0_choosePairs_99 : decode cX0_choosePairs 99 = .ok (.iload 6, 2) := by decide +kernel
theorem dX0_choosePairs_101 : decode cX0_choosePairs 101 = .ok (.iastore, 1) := by decide +kernel
theorem dX0_choosePairs_102 : decode cX0_choosePairs 102 = .ok (.aload_n 0, 1) := by decide +kernel
theorem dX0_choosePairs_103 : decode cX0_choosePairs 103 = .ok (.getfield 20, 3) := by decide +kernel
theorem dX0_choosePairs_106 : decode cX0_choosePairs 106 = .ok (.aload_n 0, 1) := by decide +kernel
theorem dX0_choosePairs_107 : decode cX0_choosePairs 107 = .ok (.getfield 23, 3) := by decide +kernel
theorem dX0_choosePairs_110 : decode cX0_choosePairs 110 = .ok (.iload 7, 2) := by decide +kernel
theorem dX0_choosePairs_112 : decode cX0_choosePairs 112 = .ok (.iastore, 1) := by decide +kernel
theorem dX0_choosePairs_113 : decode cX0_choosePairs 113 = .ok (.aload_n 0, 1) := by decide +kernel
theorem dX0_choosePairs_114 : decode cX0_choosePairs 114 = .ok (.dup, 1) := by decide +kernel
theorem dX0_choosePairs_115 : decode cX0_choosePairs 115 = .ok (.getfield 23, 3) := by decide +kernel
theorem dX0_choosePairs_118 : decode cX0_choosePairs 118 = .ok (.iconst 1, 1) := by decide +kernel
theorem dX0_choosePairs_119 : decode cX0_choosePairs 119 = .ok (.iadd, 1) := by decide +kernel
theorem dX0_choosePairs_120 : decode cX0_choosePairs 120 = .ok (.putfield 23, 3) := by decide +kernel
theorem dX0_choosePairs_123 : decode cX0_choosePairs 123 = .ok (.iload 7, 2) := by decide +kernel
theorem dX0_choosePairs_125 : decode cX0_choosePairs 125 = .ok (.iconst 1, 1) := by decide +kernel
theorem dX0_choosePairs_126 : decode cX0_choosePairs 126 = .ok (.iadd, 1) := by decide +kernel
theorem dX0_choosePairs_127 : decode cX0_choosePairs 127 = .ok (.istore 5, 2) := by decide +kernel
theorem dX0_choosePairs_129 : decode cX0_choosePairs 129 = .ok (.iinc 6 1, 3) := by decide +kernel
theorem dX0_choosePairs_132 : decode cX0_choosePairs 132 = .ok (.goto (-121), 3) := by decide +kernel
theorem dX0_choosePairs_135 : decode cX0_choosePairs 135 = .ok (.return_, 1) := by decide +kernel
theorem dX0_countPairs_0 : decode cX0_countPairs 0 = .ok (.aload_n 0, 1) := by decide +kernel
theorem dX0_countPairs_1 : decode cX0_countPairs 1 = .ok (.getfield 11, 3) := by decide +kernel
theorem dX0_countPairs_4 : decode cX0_countPairs 4 = .ok (.iload_n 2, 1) := by decide +kernel
theorem dX0_countPairs_5 : decode cX0_countPairs 5 = .ok (.aaload, 1) := by decide +kernel
theorem dX0_countPairs_6 : decode cX0_countPairs 6 = .ok (.iconst 0, 1) := by decide +kernel
theorem dX0_countPairs_7 : decode cX0_countPairs 7 = .ok (.invokestatic 55, 3) := by decide +kernel
theorem dX0_countPairs_10 : decode cX0_countPairs 10 = .ok (.iload_n 2, 1) := by decide +kernel
theorem dX0_countPairs_11 : decode cX0_countPairs 11 = .ok (.iconst 1, 1) := by decide +kernel
theorem dX0_countPairs_12 : decode cX0_countPairs 12 = .ok (.isub, 1) := by decide +kernel
theorem dX0_countPairs_13 : decode cX0_countPairs 13 = .ok (.istore 5, 2) := by decide +kernel
theorem dX0_countPairs_15 : decode cX0_countPairs 15 = .ok (.iload 5, 2) := by decide +kernel
theorem dX0_countPairs_17 : decode cX0_countPairs 17 = .ok (.ifCond .lt 117, 3) := by decide +kernel
theorem dX0_countPairs_20 : decode cX0_countPairs 20 = .ok (.aload_n 0, 1) := by decide +kernel
theorem dX0_countPairs_21 : decode cX0_countPairs 21 = .ok (.getfield 11, 3) := by decide +kernel
theorem dX0_countPairs_24 : decode cX0_countPairs 24 = .ok (.iload 5, 2) := by decide +kernel
theorem dX0_countPairs_26 : decode cX0_countPairs 26 = .ok (.aaload, 1) := by decide +kernel
theorem dX0_countPairs_27 : decode cX0_countPairs 27 = .ok (.iload 4, 2) := by decide +kernel
theorem dX0_countPairs_29 : decode cX0_countPairs 29 = .ok (.iconst 0, 1) := by decide +kernel
theorem dX0_countPairs_30 : decode cX0_countPairs 30 = .ok (.iastore, 1) := by decide +kernel
theorem dX0_countPairs_31 : decode cX0_countPairs 31 = .ok (.iload 4, 2) := by decide +kernel
theorem dX0_countPairs_33 : decode cX0_countPairs 33 = .ok (.iconst 1, 1) := by decide +kernel
theorem dX0_countPairs_34 : decode cX0_countPairs 34 = .ok (.isub, 1) := by decide +kernel
theorem dX0_countPairs_35 : decode cX0_countPairs 35 = .ok (.istore 6, 2) := by decide +kernel
theorem dX0_countPairs_37 : decode cX0_countPairs 37 = .ok (.iload 6, 2) := by decide +kernel
theorem dX0_countPairs_39 : decode cX0_countPairs 39 = .ok (.ifCond .lt 89, 3) := by decide +kernel
theorem dX0_countPairs_42 : decode cX0_countPairs 42 = .ok (.aload_n 0, 1) := by decide +kernel
theorem dX0_countPairs_43 : decode cX0_countPairs 43 = .ok (.getfield 11, 3) := by decide +kernel
theorem dX0_countPairs_46 : decode cX0_countPairs 46 = .ok (.iload 5, 2) := by decide +kernel
theorem dX0_countPairs_48 : decode cX0_countPairs 48 = .ok (.iconst 1, 1) := by decide +kernel
theorem dX0_countPairs_49 : decode cX0_countPairs 49 = .ok (.iadd, 1) := by decide +kernel
theorem dX0_countPairs_50 : decode cX0_countPairs 50 = .ok (.aaload, 1) := by decide +kernel
theorem dX0_countPairs_51 : decode cX0_countPairs 51 = .ok (.iload 6, 2) := by decide +kernel
theorem dX0_countPairs_53 : decode cX0_countPairs 53 = .ok (.iaload, 1) := by decide +kernel
theorem dX0_countPairs_54 : decode cX0_countPairs 54 = .ok (.aload_n 0, 1) := by decide +kernel
theorem dX0_countPairs_55 : decode cX0_countPairs 55 = .ok (.getfield 11, 3) := by decide +kernel
theorem dX0_countPairs_58 : decode cX0_countPairs 58 = .ok (.iload 5, 2) := by decide +kernel
theorem dX0_countPairs_60 : decode cX0_countPairs 60 = .ok (.aaload, 1) := by decide +kernel
theorem dX0_countPairs_61 : decode cX0_countPairs 61 = .ok (.iload 6, 2) := by decide +kernel
theorem dX0_countPairs_63 : decode cX0_countPairs 63 = .ok (.iconst 1, 1) := by decide +kernel
theorem dX0_countPairs_64 : decode cX0_countPairs 64 = .ok (.iadd, 1) := by decide +kernel
theorem dX0_countPairs_65 : decode cX0_countPairs 65 = .ok (.iaload, 1) := by decide +kernel
theorem dX0_countPairs_66 : decode cX0_countPairs 66 = .ok (.invokestatic 61, 3) := by decide +kernel
theorem dX0_countPairs_69 : decode cX0_countPairs 69 = .ok (.istore 7, 2) := by decide +kernel
theorem dX0_countPairs_71 : decode cX0_countPairs 71 = .ok (.aload_n 1, 1) := by decide +kernel
theorem dX0_countPairs_72 : decode cX0_countPairs 72 = .ok (.iload 5, 2) := by decide +kernel
theorem dX0_countPairs_74 : decode cX0_countPairs 74 = .ok (.aload_n 3, 1) := by decide +kernel
theorem dX0_countPairs_75 : decode cX0_countPairs 75 = .ok (.iload 6, 2) := by decide +kernel
theorem dX0_countPairs_77 : decode cX0_countPairs 77 = .ok (.invokevirtual 64, 3) := by decide +kernel
theorem dX0_countPairs_80 : decode cX0_countPairs 80 = .ok (.ifCond .eq 22, 3) := by decide +kernel
theorem dX0_countPairs_83 : decode cX0_countPairs 83 = .ok (.iconst 1, 1) := by decide +kernel
theorem dX0_countPairs_84 : decode cX0_countPairs 84 = .ok (.aload_n 0, 1) := by decide +kernel
theorem dX0_countPairs_85 : decode cX0_countPairs 85 = .ok (.getfield 11, 3) := by decide +kernel
theorem dX0_countPairs_88 : decode cX0_countPairs 88 = .ok (.iload 5, 2) := by decide +kernel
theorem dX0_countPairs_90 : decode cX0_countPairs 90 = .ok (.iconst 1, 1) := by decide +kernel
theorem dX0_countPairs_91 : decode cX0_countPairs 91 = .ok (.iadd, 1) := by decide +kernel
theorem dX0_countPairs_92 : decode cX0_countPairs 92 = .ok (.aaload, 1) := by decide +kernel
theorem dX0_countPairs_93 : decode cX0_countPairs 93 = .ok (.iload 6, 2) := by decide +kernel
theorem dX0_countPairs_95 : decode cX0_countPairs 95 = .ok (.iconst 1, 1) := by decide +kernel
theorem dX0_countPairs_96 : decode cX0_countPairs 96 = .ok (.iadd, 1) := by decide +kernel
theorem dX0_countPairs_97 : decode cX0_countPairs 97 = .ok (.iaload, 1) := by decide +kernel
theorem dX0_countPairs_98 : decode cX0_countPairs 98 = .ok (.iadd, 1) := by decide +kernel
theorem dX0_countPairs_99 : decode cX0_countPairs 99 = .ok (.goto 4, 3) := by decide +kernel
theorem dX0_countPairs_102 : decode cX0_countPairs 102 = .ok (.iconst 0, 1) := by decide +kernel
theorem dX0_countPairs_103 : decode cX0_countPairs 103 = .ok (.istore 8, 2) := by decide +kernel
theorem dX0_countPairs_105 : decode cX0_countPairs 105 = .ok (.aload_n 0, 1) := by decide +kernel
theorem dX0_countPairs_106 : decode cX0_countPairs 106 = .ok (.getfield 11, 3) := by decide +kernel
theorem dX0_countPairs_109 : decode cX0_countPairs 109 = .ok (.iload 5, 2) := by decide +kernel
theorem dX0_countPairs_111 : decode cX0_countPairs 111 = .ok (.aaload, 1) := by decide +kernel
theorem dX0_countPairs_112 : decode cX0_countPairs 112 = .ok (.iload 6, 2) := by decide +kernel
theorem dX0_countPairs_114 : decode cX0_countPairs 114 = .ok (.iload 7, 2) := by decide +kernel
theorem dX0_countPairs_116 : decode cX0_countPairs 116 = .ok (.iload 8, 2) := by decide +kernel
theorem dX0_countPairs_118 : decode cX0_countPairs 118 = .ok (.invokestatic 61, 3) := by decide +kernel
theorem dX0_countPairs_121 : decode cX0_countPairs 121 = .ok (.iastore, 1) := by decide +kernel
theorem dX0_countPairs_122 : decode cX0_countPairs 122 = .ok (.iinc 6 (-1), 3) := by decide +kernel
theorem dX0_countPairs_125 : decode cX0_countPairs 125 = .ok (.goto (-88), 3) := by decide +kernel
theorem dX0_countPairs_128 : decode cX0_countPairs 128 = .ok (.iinc 5 (-1), 3) := by decide +kernel
theorem dX0_countPairs_131 : decode cX0_countPairs 131 = .ok (.goto (-116), 3) := by decide +kernel
theorem dX0_countPairs_134 : decode cX0_countPairs 134 = .ok (.return_, 1) := by decide +kernel
theorem dX0_goThrough_0 : decode cX0_goThrough 0 = .ok (.iload_n 1, 1) := by decide +kernel
theorem dX0_goThrough_1 : decode cX0_goThrough 1 = .ok (.istore 4, 2) := by decide +kernel
theorem dX0_goThrough_3 : decode cX0_goThrough 3 = .ok (.iload 4, 2) := by decide +kernel
theorem dX0_goThrough_5 : decode cX0_goThrough 5 = .ok (.aload_n 0, 1) := by decide +kernel
theorem dX0_goThrough_6 : decode cX0_goThrough 6 = .ok (.getfield 93, 3) := by decide +kernel
theorem dX0_goThrough_9 : decode cX0_goThrough 9 = .ok (.if_icmp .ge 45, 3) := by decide +kernel
theorem dX0_goThrough_12 : decode cX0_goThrough 12 = .ok (.aload_n 0, 1) := by decide +kernel
theorem dX0_goThrough_13 : decode cX0_goThrough 13 = .ok (.iload 4, 2) := by decide +kernel
theorem dX0_goThrough_15 : decode cX0_goThrough 15 = .ok (.invokevirtual 96, 3) := by decide +kernel
theorem dX0_goThrough_18 : decode cX0_goThrough 18 = .ok (.iload_n 2, 1) := by decide +kernel
theorem dX0_goThrough_19 : decode cX0_goThrough 19 = .ok (.if_icmp .gt 35, 3) := by decide +kernel
theorem dX0_goThrough_22 : decode cX0_goThrough 22 = .ok (.aload_n 0, 1) := by decide +kernel
theorem dX0_goThrough_23 : decode cX0_goThrough 23 = .ok (.iload 4, 2) := by decide +kernel
theorem dX0_goThrough_25 : decode cX0_goThrough 25 = .ok (.invokevirtual 99, 3) := by decide +kernel
theorem dX0_goThrough_28 : decode cX0_goThrough 28 = .ok (.istore 5, 2) := by decide +kernel
theorem dX0_goThrough_30 : decode cX0_goThrough 30 = .ok (.iload 5, 2) := by decide +kernel
theorem dX0_goThrough_32 : decode cX0_goThrough 32 = .ok (.ifCond .lt 16, 3) := by decide +kernel
theorem dX0_goThrough_35 : decode cX0_goThrough 35 = .ok (.iload 5, 2) := by decide +kernel
theorem dX0_goThrough_37 : decode cX0_goThrough 37 = .ok (.aload_n 3, 1) := by decide +kernel
theorem dX0_goThrough_38 : decode cX0_goThrough 38 = .ok (.arraylength, 1) := by decide +kernel
theorem dX0_goThrough_39 : decode cX0_goThrough 39 = .ok (.if_icmp .ge 9, 3) := by decide +kernel
theorem dX0_goThrough_42 : decode cX0_goThrough 42 = .ok (.aload_n 3, 1) := by decide +kernel
theorem dX0_goThrough_43 : decode cX0_goThrough 43 = .ok (.iload 5, 2) := by decide +kernel
theorem dX0_goThrough_45 : decode cX0_goThrough 45 = .ok (.iload 4, 2) := by decide +kernel
theorem dX0_goThrough_47 : decode cX0_goThrough 47 = .ok (.iastore, 1) := by decide +kernel
theorem dX0_goThrough_48 : decode cX0_goThrough 48 = .ok (.iinc 4 1, 3) := by decide +kernel
theorem dX0_goThrough_51 : decode cX0_goThrough 51 = .ok (.goto (-48), 3) := by decide +kernel
theorem dX0_goThrough_54 : decode cX0_goThrough 54 = .ok (.iload 4, 2) := by decide +kernel
theorem dX0_goThrough_56 : decode cX0_goThrough 56 = .ok (.ireturn, 1) := by decide +kernel
theorem dX0_has_0 : decode cX0_has 0 = .ok (.iload_n 1, 1) := by decide +kernel
theorem dX0_has_1 : decode cX0_has 1 = .ok (.ifCond .lt 21, 3) := by decide +kernel
theorem dX0_has_4 : decode cX0_has 4 = .ok (.iload_n 1, 1) := by decide +kernel
theorem dX0_has_5 : decode cX0_has 5 = .ok (.aload_n 0, 1) := by decide +kernel
theorem dX0_has_6 : decode cX0_has 6 = .ok (.getfield 23, 3) := by decide +kernel
theorem dX0_has_9 : decode cX0_has 9 = .ok (.if_icmp .ge 13, 3) := by decide +kernel
theorem dX0_has_12 : decode cX0_has 12 = .ok (.iload_n 1, 1) := by decide +kernel
theorem dX0_has_13 : decode cX0_has 13 = .ok (.bipush 100, 2) := by decide +kernel
theorem dX0_has_15 : decode cX0_has 15 = .ok (.if_icmp .ge 7, 3) := by decide +kernel
theorem dX0_has_18 : decode cX0_has 18 = .ok (.iconst 1, 1) := by decide +kernel
theorem dX0_has_19 : decode cX0_has 19 = .ok (.goto 4, 3) := by decide +kernel
theorem dX0_has_22 : decode cX0_has 22 = .ok (.iconst 0, 1) := by decide +kernel
theorem dX0_has_23 : decode cX0_has 23 = .ok (.ireturn, 1) := by decide +kernel
theorem dX0_lay_0 : decode cX0_lay 0 = .ok (.aload_n 1, 1) := by decide +kernel
theorem dX0_lay_1 : decode cX0_lay 1 = .ok (.getfield 37, 3) := by decide +kernel
theorem dX0_lay_4 : decode cX0_lay 4 = .ok (.bipush 100, 2) := by decide +kernel
theorem dX0_lay_6 : decode cX0_lay 6 = .ok (.invokestatic 42, 3) := by decide +kernel
theorem dX0_lay_9 : decode cX0_lay 9 = .ok (.istore_n 3, 1) := by decide +kernel
theorem dX0_lay_10 : decode cX0_lay 10 = .ok (.aload_n 2, 1) := by decide +kernel
theorem dX0_lay_11 : decode cX0_lay 11 = .ok (.getfield 37, 3) := by decide +kernel
theorem dX0_lay_14 : decode cX0_lay 14 = .ok (.bipush 100, 2) := by decide +kernel
theorem dX0_lay_16 : decode cX0_lay 16 = .ok (.invokestatic 42, 3) := by decide +kernel
theorem dX0_lay_19 : decode cX0_lay 19 = .ok (.istore 4, 2) := by decide +kernel
theorem dX0_lay_21 : decode cX0_lay 21 = .ok (.aload_n 0, 1) := by decide +kernel
theorem dX0_lay_22 : decode cX0_lay 22 = .ok (.aload_n 1, 1) := by decide +kernel
theorem dX0_lay_23 : decode cX0_lay 23 = .ok (.iload_n 3, 1) := by decide +kernel
theorem dX0_lay_24 : decode cX0_lay 24 = .ok (.aload_n 2, 1) := by decide +kernel
theorem dX0_lay_25 : decode cX0_lay 25 = .ok (.iload 4, 2) := by decide +kernel
theorem dX0_lay_27 : decode cX0_lay 27 = .ok (.invokevirtual 48, 3) := by decide +kernel
theorem dX0_lay_30 : decode cX0_lay 30 = .ok (.aload_n 0, 1) := by decide +kernel
theorem dX0_lay_31 : decode cX0_lay 31 = .ok (.aload_n 1, 1) := by decide +kernel
theorem dX0_lay_32 : decode cX0_lay 32 = .ok (.iload_n 3, 1) := by decide +kernel
theorem dX0_lay_33 : decode cX0_lay 33 = .ok (.aload_n 2, 1) := by decide +kernel
theorem dX0_lay_34 : decode cX0_lay 34 = .ok (.iload 4, 2) := by decide +kernel
theorem dX0_lay_36 : decode cX0_lay 36 = .ok (.invokevirtual 52, 3) := by decide +kernel
theorem dX0_lay_39 : decode cX0_lay 39 = .ok (.return_, 1) := by decide +kernel
theorem dX1_has_0 : decode cX1_has 0 = .ok (.iload_n 1, 1) := by decide +kernel
theorem dX1_has_1 : decode cX1_has 1 = .ok (.ifCond .lt 21, 3) := by decide +kernel
theorem dX1_has_4 : decode cX1_has 4 = .ok (.iload_n 1, 1) := by decide +kernel
theorem dX1_has_5 : decode cX1_has 5 = .ok (.aload_n 0, 1) := by decide +kernel
theorem dX1_has_6 : decode cX1_has 6 = .ok (.getfield 21, 3) := by decide +kernel
theorem dX1_has_9 : decode cX1_has 9 = .ok (.if_icmp .ge 13, 3) := by decide +kernel
theorem dX1_has_12 : decode cX1_has 12 = .ok (.iload_n 1, 1) := by decide +kernel
theorem dX1_has_13 : decode cX1_has 13 = .ok (.bipush 100, 2) := by decide +kernel
theorem dX1_has_15 : decode cX1_has 15 = .ok (.if_icmp .ge 7, 3) := by decide +kernel
theorem dX1_has_18 : decode cX1_has 18 = .ok (.iconst 1, 1) := by decide +kernel
theorem dX1_has_19 : decode cX1_has 19 = .ok (.goto 4, 3) := by decide +kernel
theorem dX1_has_22 : decode cX1_has 22 = .ok (.iconst 0, 1) := by decide +kernel
theorem dX1_has_23 : decode cX1_has 23 = .ok (.ireturn, 1) := by decide +kernel
theorem dX1_isLike_0 : decode cX1_isLike 0 = .ok (.aload_n 0, 1) := by decide +kernel
theorem dX1_isLike_1 : decode cX1_isLike 1 = .ok (.iload_n 1, 1) := by decide +kernel
theorem dX1_isLike_2 : decode cX1_isLike 2 = .ok (.invokevirtual 29, 3) := by decide +kernel
theorem dX1_isLike_5 : decode cX1_isLike 5 = .ok (.ifCond .eq 45, 3) := by decide +kernel
theorem dX1_isLike_8 : decode cX1_isLike 8 = .ok (.aload_n 2, 1) := by decide +kernel
theorem dX1_isLike_9 : decode cX1_isLike 9 = .ok (.iload_n 3, 1) := by decide +kernel
theorem dX1_isLike_10 : decode cX1_isLike 10 = .ok (.invokevirtual 29, 3) := by decide +kernel
theorem dX1_isLike_13 : decode cX1_isLike 13 = .ok (.ifCond .eq 37, 3) := by decide +kernel
theorem dX1_isLike_16 : decode cX1_isLike 16 = .ok (.aload_n 0, 1) := by decide +kernel
theorem dX1_isLike_17 : decode cX1_isLike 17 = .ok (.getfield 15, 3) := by decide +kernel
theorem dX1_isLike_20 : decode cX1_isLike 20 = .ok (.iload_n 1, 1) := by decide +kernel
theorem dX1_isLike_21 : decode cX1_isLike 21 = .ok (.iaload, 1) := by decide +kernel
theorem dX1_isLike_22 : decode cX1_isLike 22 = .ok (.aload_n 2, 1) := by decide +kernel
theorem dX1_isLike_23 : decode cX1_isLike 23 = .ok (.getfield 15, 3) := by decide +kernel
theorem dX1_isLike_26 : decode cX1_isLike 26 = .ok (.iload_n 3, 1) := by decide +kernel
theorem dX1_isLike_27 : decode cX1_isLike 27 = .ok (.iaload, 1) := by decide +kernel
theorem dX1_isLike_28 : decode cX1_isLike 28 = .ok (.if_icmp .ne 22, 3) := by decide +kernel
theorem dX1_isLike_31 : decode cX1_isLike 31 = .ok (.aload_n 0, 1) := by decide +kernel
theorem dX1_isLike_32 : decode cX1_isLike 32 = .ok (.getfield 18, 3) := by decide +kernel
theorem dX1_isLike_35 : decode cX1_isLike 35 = .ok (.iload_n 1, 1) := by decide +kernel
theorem dX1_isLike_36 : decode cX1_isLike 36 = .ok (.iaload, 1) := by decide +kernel
theorem dX1_isLike_37 : decode cX1_isLike 37 = .ok (.aload_n 2, 1) := by decide +kernel
theorem dX1_isLike_38 : decode cX1_isLike 38 = .ok (.getfield 18, 3) := by decide +kernel
theorem dX1_isLike_41 : decode cX1_isLike 41 = .ok (.iload_n 3, 1) := by decide +kernel
theorem dX1_isLike_42 : decode cX1_isLike 42 = .ok (.iaload, 1) := by decide +kernel
theorem dX1_isLike_43 : decode cX1_isLike 43 = .ok (.if_icmp .ne 7, 3) := by decide +kernel
theorem dX1_isLike_46 : decode cX1_isLike 46 = .ok (.iconst 1, 1) := by decide +kernel
theorem dX1_isLike_47 : decode cX1_isLike 47 = .ok (.goto 4, 3) := by decide +kernel
theorem dX1_isLike_50 : decode cX1_isLike 50 = .ok (.iconst 0, 1) := by decide +kernel
theorem dX1_isLike_51 : decode cX1_isLike 51 = .ok (.ireturn, 1) := by decide +kernel
theorem dX6_has_0 : decode cX6_has 0 = .ok (.iload_n 1, 1) := by decide +kernel
theorem dX6_has_1 : decode cX6_has 1 = .ok (.ifCond .lt 22, 3) := by decide +kernel
theorem dX6_has_4 : decode cX6_has 4 = .ok (.iload_n 1, 1) := by decide +kernel
theorem dX6_has_5 : decode cX6_has 5 = .ok (.aload_n 0, 1) := by decide +kernel
theorem dX6_has_6 : decode cX6_has 6 = .ok (.getfield 45, 3) := by decide +kernel
theorem dX6_has_9 : decode cX6_has 9 = .ok (.if_icmp .ge 14, 3) := by decide +kernel
theorem dX6_has_12 : decode cX6_has 12 = .ok (.iload_n 1, 1) := by decide +kernel
theorem dX6_has_13 : decode cX6_has 13 = .ok (.sipush 3800, 3) := by decide +kernel
theorem dX6_has_16 : decode cX6_has 16 = .ok (.if_icmp .ge 7, 3) := by decide +kernel
theorem dX6_has_19 : decode cX6_has 19 = .ok (.iconst 1, 1) := by decide +kernel
theorem dX6_has_20 : decode cX6_has 20 = .ok (.goto 4, 3) := by decide +kernel
theorem dX6_has_23 : decode cX6_has 23 = .ok (.iconst 0, 1) := by decide +kernel
theorem dX6_has_24 : decode cX6_has 24 = .ok (.ireturn, 1) := by decide +kernel
theorem dX6_hasValue_0 : decode cX6_hasValue 0 = .ok (.aload_n 0, 1) := by decide +kernel
theorem dX6_hasValue_1 : decode cX6_hasValue 1 = .ok (.iload_n 1, 1) := by decide +kernel
theorem dX6_hasValue_2 : decode cX6_hasValue 2 = .ok (.invokevirtual 66, 3) := by decide +kernel
theorem dX6_hasValue_5 : decode cX6_hasValue 5 = .ok (.iload_n 2, 1) := by decide +kernel
theorem dX6_hasValue_6 : decode cX6_hasValue 6 = .ok (.if_icmp .ne 16, 3) := by decide +kernel
theorem dX6_hasValue_9 : decode cX6_hasValue 9 = .ok (.aload_n 0, 1) := by decide +kernel
theorem dX6_hasValue_10 : decode cX6_hasValue 10 = .ok (.iload_n 1, 1) := by decide +kernel
theorem dX6_hasValue_11 : decode cX6_hasValue 11 = .ok (.invokevirtual 70, 3) := by decide +kernel
theorem dX6_hasValue_14 : decode cX6_hasValue 14 = .ok (.iload_n 3, 1) := by decide +kernel
theorem dX6_hasValue_15 : decode cX6_hasValue 15 = .ok (.if_icmp .ne 7, 3) := by decide +kernel
theorem dX6_hasValue_18 : decode cX6_hasValue 18 = .ok (.iconst 1, 1) := by decide +kernel
theorem dX6_hasValue_19 : decode cX6_hasValue 19 = .ok (.goto 4, 3) := by decide +kernel
theorem dX6_hasValue_22 : decode cX6_hasValue 22 = .ok (.iconst 0, 1) := by decide +kernel
theorem dX6_hasValue_23 : decode cX6_hasValue 23 = .ok (.ireturn, 1) := by decide +kernel
theorem dX6_numberOf_0 : decode cX6_numberOf 0 = .ok (.iload_n 1, 1) := by decide +kernel
theorem dX6_numberOf_1 : decode cX6_numberOf 1 = .ok (.ifCond .lt 27, 3) := by decide +kernel
theorem dX6_numberOf_4 : decode cX6_numberOf 4 = .ok (.iload_n 1, 1) := by decide +kernel
theorem dX6_numberOf_5 : decode cX6_numberOf 5 = .ok (.aload_n 0, 1) := by decide +kernel
theorem dX6_numberOf_6 : decode cX6_numberOf 6 = .ok (.getfield 45, 3) := by decide +kernel
theorem dX6_numberOf_9 : decode cX6_numberOf 9 = .ok (.if_icmp .ge 19, 3) := by decide +kernel
theorem dX6_numberOf_12 : decode cX6_numberOf 12 = .ok (.iload_n 1, 1) := by decide +kernel
theorem dX6_numberOf_13 : decode cX6_numberOf 13 = .ok (.sipush 3800, 3) := by decide +kernel
theorem dX6_numberOf_16 : decode cX6_numberOf 16 = .ok (.if_icmp .ge 12, 3) := by decide +kernel
theorem dX6_numberOf_19 : decode cX6_numberOf 19 = .ok (.aload_n 0, 1) := by decide +kernel
theorem dX6_numberOf_20 : decode cX6_numberOf 20 = .ok (.getfield 21, 3) := by decide +kernel
theorem dX6_numberOf_23 : decode cX6_numberOf 23 = .ok (.iload_n 1, 1) := by decide +kernel
theorem dX6_numberOf_24 : decode cX6_numberOf 24 = .ok (.iaload, 1) := by decide +kernel
theorem dX6_numberOf_25 : decode cX6_numberOf 25 = .ok (.goto 4, 3) := by decide +kernel
theorem dX6_numberOf_28 : decode cX6_numberOf 28 = .ok (.iconst 0, 1) := by decide +kernel
theorem dX6_numberOf_29 : decode cX6_numberOf 29 = .ok (.ireturn, 1) := by decide +kernel
theorem dX6_placeOf_0 : decode cX6_placeOf 0 = .ok (.aload_n 0, 1) := by decide +kernel
theorem dX6_placeOf_1 : decode cX6_placeOf 1 = .ok (.iload_n 1, 1) := by decide +kernel
theorem dX6_placeOf_2 : decode cX6_placeOf 2 = .ok (.invokevirtual 59, 3) := by decide +kernel
theorem dX6_placeOf_5 : decode cX6_placeOf 5 = .ok (.ifCond .eq 12, 3) := by decide +kernel
theorem dX6_placeOf_8 : decode cX6_placeOf 8 = .ok (.aload_n 0, 1) := by decide +kernel
theorem dX6_placeOf_9 : decode cX6_placeOf 9 = .ok (.getfield 15, 3) := by decide +kernel
theorem dX6_placeOf_12 : decode cX6_placeOf 12 = .ok (.iload_n 1, 1) := by decide +kernel
theorem dX6_placeOf_13 : decode cX6_placeOf 13 = .ok (.iaload, 1) := by decide +kernel
theorem dX6_placeOf_14 : decode cX6_placeOf 14 = .ok (.goto 4, 3) := by decide +kernel
theorem dX6_placeOf_17 : decode cX6_placeOf 17 = .ok (.iconst (-1), 1) := by decide +kernel
theorem dX6_placeOf_18 : decode cX6_placeOf 18 = .ok (.ireturn, 1) := by decide +kernel
theorem dX6_sortOf_0 : decode cX6_sortOf 0 = .ok (.iload_n 1, 1) := by decide +kernel
theorem dX6_sortOf_1 : decode cX6_sortOf 1 = .ok (.ifCond .lt 27, 3) := by decide +kernel
theorem dX6_sortOf_4 : decode cX6_sortOf 4 = .ok (.iload_n 1, 1) := by decide +kernel
theorem dX6_sortOf_5 : decode cX6_sortOf 5 = .ok (.aload_n 0, 1) := by decide +kernel
theorem dX6_sortOf_6 : decode cX6_sortOf 6 = .ok (.getfield 45, 3) := by decide +kernel
theorem dX6_sortOf_9 : decode cX6_sortOf 9 = .ok (.if_icmp .ge 19, 3) := by decide +kernel
theorem dX6_sortOf_12 : decode cX6_sortOf 12 = .ok (.iload_n 1, 1) := by decide +kernel
theorem dX6_sortOf_13 : decode cX6_sortOf 13 = .ok (.sipush 3800, 3) := by decide +kernel
theorem dX6_sortOf_16 : decode cX6_sortOf 16 = .ok (.if_icmp .ge 12, 3) := by decide +kernel
theorem dX6_sortOf_19 : decode cX6_sortOf 19 = .ok (.aload_n 0, 1) := by decide +kernel
theorem dX6_sortOf_20 : decode cX6_sortOf 20 = .ok (.getfield 18, 3) := by decide +kernel
theorem dX6_sortOf_23 : decode cX6_sortOf 23 = .ok (.iload_n 1, 1) := by decide +kernel
theorem dX6_sortOf_24 : decode cX6_sortOf 24 = .ok (.iaload, 1) := by decide +kernel
theorem dX6_sortOf_25 : decode cX6_sortOf 25 = .ok (.goto 4, 3) := by decide +kernel
theorem dX6_sortOf_28 : decode cX6_sortOf 28 = .ok (.iconst 0, 1) := by decide +kernel
theorem dX6_sortOf_29 : decode cX6_sortOf 29 = .ok (.ireturn, 1) := by decide +kernel
theorem dX6_timeOf_0 : decode cX6_timeOf 0 = .ok (.aload_n 0, 1) := by decide +kernel
theorem dX6_timeOf_1 : decode cX6_timeOf 1 = .ok (.iload_n 1, 1) := by decide +kernel
theorem dX6_timeOf_2 : decode cX6_timeOf 2 = .ok (.invokevirtual 59, 3) := by decide +kernel
theorem dX6_timeOf_5 : decode cX6_timeOf 5 = .ok (.ifCond .eq 12, 3) := by decide +kernel
theorem dX6_timeOf_8 : decode cX6_timeOf 8 = .ok (.aload_n 0, 1) := by decide +kernel
theorem dX6_timeOf_9 : decode cX6_timeOf 9 = .ok (.getfield 9, 3) := by decide +kernel
theorem dX6_timeOf_12 : decode cX6_timeOf 12 = .ok (.iload_n 1, 1) := by decide +kernel
theorem dX6_timeOf_13 : decode cX6_timeOf 13 = .ok (.iaload, 1) := by decide +kernel
theorem dX6_timeOf_14 : decode cX6_timeOf 14 = .ok (.goto 4, 3) := by decide +kernel
theorem dX6_timeOf_17 : decode cX6_timeOf 17 = .ok (.iconst 0, 1) := by decide +kernel
theorem dX6_timeOf_18 : decode cX6_timeOf 18 = .ok (.ireturn, 1) := by decide +kernel
theorem dX7_counterAt_0 : decode cX7_counterAt 0 = .ok (.aload_n 0, 1) := by decide +kernel
theorem dX7_counterAt_1 : decode cX7_counterAt 1 = .ok (.iload_n 1, 1) := by decide +kernel
theorem dX7_counterAt_2 : decode cX7_counterAt 2 = .ok (.invokevirtual 109, 3) := by decide +kernel
theorem dX7_counterAt_5 : decode cX7_counterAt 5 = .ok (.ifCond .eq 12, 3) := by decide +kernel
theorem dX7_counterAt_8 : decode cX7_counterAt 8 = .ok (.aload_n 0, 1) := by decide +kernel
theorem dX7_counterAt_9 : decode cX7_counterAt 9 = .ok (.getfield 46, 3) := by decide +kernel
theorem dX7_counterAt_12 : decode cX7_counterAt 12 = .ok (.iload_n 1, 1) := by decide +kernel
theorem dX7_counterAt_13 : decode cX7_counterAt 13 = .ok (.iaload, 1) := by decide +kernel
theorem dX7_counterAt_14 : decode cX7_counterAt 14 = .ok (.goto 4, 3) := by decide +kernel
theorem dX7_counterAt_17 : decode cX7_counterAt 17 = .ok (.iconst 0, 1) := by decide +kernel
theorem dX7_counterAt_18 : decode cX7_counterAt 18 = .ok (.ireturn, 1) := by decide +kernel
theorem dX7_hasStackLike_0 : decode cX7_hasStackLike 0 = .ok (.aload_n 0, 1) := by decide +kernel
theorem dX7_hasStackLike_1 : decode cX7_hasStackLike 1 = .ok (.iload_n 1, 1) := by decide +kernel
theorem dX7_hasStackLike_2 : decode cX7_hasStackLike 2 = .ok (.invokevirtual 113, 3) := by decide +kernel
theorem dX7_hasStackLike_5 : decode cX7_hasStackLike 5 = .ok (.istore_n 3, 1) := by decide +kernel
theorem dX7_hasStackLike_6 : decode cX7_hasStackLike 6 = .ok (.aload_n 2, 1) := by decide +kernel
theorem dX7_hasStackLike_7 : decode cX7_hasStackLike 7 = .ok (.iload_n 1, 1) := by decide +kernel
theorem dX7_hasStackLike_8 : decode cX7_hasStackLike 8 = .ok (.invokevirtual 113, 3) := by decide +kernel
theorem dX7_hasStackLike_11 : decode cX7_hasStackLike 11 = .ok (.istore 4, 2) := by decide +kernel
theorem dX7_hasStackLike_13 : decode cX7_hasStackLike 13 = .ok (.iconst 0, 1) := by decide +kernel
theorem dX7_hasStackLike_14 : decode cX7_hasStackLike 14 = .ok (.istore 5, 2) := by decide +kernel
theorem dX7_hasStackLike_16 : decode cX7_hasStackLike 16 = .ok (.iload 5, 2) := by decide +kernel
theorem dX7_hasStackLike_18 : decode cX7_hasStackLike 18 = .ok (.bipush 8, 2) := by decide +kernel
theorem dX7_hasStackLike_20 : decode cX7_hasStackLike 20 = .ok (.if_icmp .ge 50, 3) := by decide +kernel
theorem dX7_hasStackLike_23 : decode cX7_hasStackLike 23 = .ok (.iload_n 3, 1) := by decide +kernel
theorem dX7_hasStackLike_24 : decode cX7_hasStackLike 24 = .ok (.iconst (-1), 1) := by decide +kernel
theorem dX7_hasStackLike_25 : decode cX7_hasStackLike 25 = .ok (.if_icmp .eq 45, 3) := by decide +kernel
theorem dX7_hasStackLike_28 : decode cX7_hasStackLike 28 = .ok (.iload 4, 2) := by decide +kernel
theorem dX7_hasStackLike_30 : decode cX7_hasStackLike 30 = .ok (.iconst (-1), 1) := by decide +kernel
theorem dX7_hasStackLike_31 : decode cX7_hasStackLike 31 = .ok (.if_icmp .eq 39, 3) := by decide +kernel
theorem dX7_hasStackLike_34 : decode cX7_hasStackLike 34 = .ok (.aload_n 0, 1) := by decide +kernel
theorem dX7_hasStackLike_35 : decode cX7_hasStackLike 35 = .ok (.iload_n 3, 1) := by decide +kernel
theorem dX7_hasStackLike_36 : decode cX7_hasStackLike 36 = .ok (.invokevirtual 121, 3) := by decide +kernel
theorem dX7_hasStackLike_39 : decode cX7_hasStackLike 39 = .ok (.aload_n 2, 1) := by decide +kernel
theorem dX7_hasStackLike_40 : decode cX7_hasStackLike 40 = .ok (.iload 4, 2) := by decide +kernel
theorem dX7_hasStackLike_42 : decode cX7_hasStackLike 42 = .ok (.invokevirtual 121, 3) := by decide +kernel
theorem dX7_hasStackLike_45 : decode cX7_hasStackLike 45 = .ok (.if_icmp .eq 5, 3) := by decide +kernel
theorem dX7_hasStackLike_48 : decode cX7_hasStackLike 48 = .ok (.iconst 0, 1) := by decide +kernel
theorem dX7_hasStackLike_49 : decode cX7_hasStackLike 49 = .ok (.ireturn, 1) := by decide +kernel
theorem dX7_hasStackLike_50 : decode cX7_hasStackLike 50 = .ok (.aload_n 0, 1) := by decide +kernel
theorem dX7_hasStackLike_51 : decode cX7_hasStackLike 51 = .ok (.iload_n 3, 1) := by decide +kernel
theorem dX7_hasStackLike_52 : decode cX7_hasStackLike 52 = .ok (.invokevirtual 113, 3) := by decide +kernel
theorem dX7_hasStackLike_55 : decode cX7_hasStackLike 55 = .ok (.istore_n 3, 1) := by decide +kernel
theorem dX7_hasStackLike_56 : decode cX7_hasStackLike 56 = .ok (.aload_n 2, 1) := by decide +kernel
theorem dX7_hasStackLike_57 : decode cX7_hasStackLike 57 = .ok (.iload 4, 2) := by decide +kernel
theorem dX7_hasStackLike_59 : decode cX7_hasStackLike 59 = .ok (.invokevirtual 113, 3) := by decide +kernel
theorem dX7_hasStackLike_62 : decode cX7_hasStackLike 62 = .ok (.istore 4, 2) := by decide +kernel
theorem dX7_hasStackLike_64 : decode cX7_hasStackLike 64 = .ok (.iinc 5 1, 3) := by decide +kernel
theorem dX7_hasStackLike_67 : decode cX7_hasStackLike 67 = .ok (.goto (-51), 3) := by decide +kernel
theorem dX7_hasStackLike_70 : decode cX7_hasStackLike 70 = .ok (.iload_n 3, 1) := by decide +kernel
theorem dX7_hasStackLike_71 : decode cX7_hasStackLike 71 = .ok (.iconst (-1), 1) := by decide +kernel
theorem dX7_hasStackLike_72 : decode cX7_hasStackLike 72 = .ok (.if_icmp .ne 13, 3) := by decide +kernel
theorem dX7_hasStackLike_75 : decode cX7_hasStackLike 75 = .ok (.iload 4, 2) := by decide +kernel
theorem dX7_hasStackLike_77 : decode cX7_hasStackLike 77 = .ok (.iconst (-1), 1) := by decide +kernel
theorem dX7_hasStackLike_78 : decode cX7_hasStackLike 78 = .ok (.if_icmp .ne 7, 3) := by decide +kernel
theorem dX7_hasStackLike_81 : decode cX7_hasStackLike 81 = .ok (.iconst 1, 1) := by decide +kernel
theorem dX7_hasStackLike_82 : decode cX7_hasStackLike 82 = .ok (.goto 4, 3) := by decide +kernel
theorem dX7_hasStackLike_85 : decode cX7_hasStackLike 85 = .ok (.iconst 0, 1) := by decide +kernel
theorem dX7_hasStackLike_86 : decode cX7_hasStackLike 86 = .ok (.ireturn, 1) := by decide +kernel
theorem dX7_hasTime_0 : decode cX7_hasTime 0 = .ok (.iload_n 1, 1) := by decide +kernel
theorem dX7_hasTime_1 : decode cX7_hasTime 1 = .ok (.ifCond .lt 22, 3) := by decide +kernel
theorem dX7_hasTime_4 : decode cX7_hasTime 4 = .ok (.iload_n 1, 1) := by decide +kernel
theorem dX7_hasTime_5 : decode cX7_hasTime 5 = .ok (.aload_n 0, 1) := by decide +kernel
theorem dX7_hasTime_6 : decode cX7_hasTime 6 = .ok (.getfield 59, 3) := by decide +kernel
theorem dX7_hasTime_9 : decode cX7_hasTime 9 = .ok (.if_icmp .gt 14, 3) := by decide +kernel
theorem dX7_hasTime_12 : decode cX7_hasTime 12 = .ok (.iload_n 1, 1) := by decide +kernel
theorem dX7_hasTime_13 : decode cX7_hasTime 13 = .ok (.sipush 3000, 3) := by decide +kernel
theorem dX7_hasTime_16 : decode cX7_hasTime 16 = .ok (.if_icmp .gt 7, 3) := by decide +kernel
theorem dX7_hasTime_19 : decode cX7_hasTime 19 = .ok (.iconst 1, 1) := by decide +kernel
theorem dX7_hasTime_20 : decode cX7_hasTime 20 = .ok (.goto 4, 3) := by decide +kernel
theorem dX7_hasTime_23 : decode cX7_hasTime 23 = .ok (.iconst 0, 1) := by decide +kernel
theorem dX7_hasTime_24 : decode cX7_hasTime 24 = .ok (.ireturn, 1) := by decide +kernel
theorem dX7_topAt_0 : decode cX7_topAt 0 = .ok (.aload_n 0, 1) := by decide +kernel
theorem dX7_topAt_1 : decode cX7_topAt 1 = .ok (.iload_n 1, 1) := by decide +kernel
theorem dX7_topAt_2 : decode cX7_topAt 2 = .ok (.invokevirtual 109, 3) := by decide +kernel
theorem dX7_topAt_5 : decode cX7_topAt 5 = .ok (.ifCond .eq 12, 3) := by decide +kernel
theorem dX7_topAt_8 : decode cX7_topAt 8 = .ok (.aload_n 0, 1) := by decide +kernel
theorem dX7_topAt_9 : decode cX7_topAt 9 = .ok (.getfield 56, 3) := by decide +kernel
theorem dX7_topAt_12 : decode cX7_topAt 12 = .ok (.iload_n 1, 1) := by decide +kernel
theorem dX7_topAt_13 : decode cX7_topAt 13 = .ok (.iaload, 1) := by decide +kernel
theorem dX7_topAt_14 : decode cX7_topAt 14 = .ok (.goto 4, 3) := by decide +kernel
theorem dX7_topAt_17 : decode cX7_topAt 17 = .ok (.iconst (-1), 1) := by decide +kernel
theorem dX7_topAt_18 : decode cX7_topAt 18 = .ok (.ireturn, 1) := by decide +kernel
theorem dX9_isPlace_0 : decode cX9_isPlace 0 = .ok (.iload_n 0, 1) := by decide +kernel
theorem dX9_isPlace_1 : decode cX9_isPlace 1 = .ok (.ifCond .lt 13, 3) := by decide +kernel
theorem dX9_isPlace_4 : decode cX9_isPlace 4 = .ok (.iload_n 0, 1) := by decide +kernel
theorem dX9_isPlace_5 : decode cX9_isPlace 5 = .ok (.bipush 40, 2) := by decide +kernel
theorem dX9_isPlace_7 : decode cX9_isPlace 7 = .ok (.if_icmp .ge 7, 3) := by decide +kernel
theorem dX9_isPlace_10 : decode cX9_isPlace 10 = .ok (.iconst 1, 1) := by decide +kernel
theorem dX9_isPlace_11 : decode cX9_isPlace 11 = .ok (.goto 4, 3) := by decide +kernel
theorem dX9_isPlace_14 : decode cX9_isPlace 14 = .ok (.iconst 0, 1) := by decide +kernel
theorem dX9_isPlace_15 : decode cX9_isPlace 15 = .ok (.ireturn, 1) := by decide +kernel
def g_X0_has (F : Nat) (x1 : Int32) (u : rg_U) : Option Int32 :=
  if x1 < 0 then (some 0) else (if (rF u 8 3) ≤ x1 then (some 0) else (if 100 ≤ x1 then (some 0) else (some 1)))
set_option maxHeartbeats 4000000 in
set_option maxRecDepth 100000 in
theorem k_X0_has {gs : List String} {ro : pm_RO} {n : Nat} {w : Nat → va_E} {b : Nat} {u : rg_U} {F : Nat} {x1 : Int32} {z : Int32} (hR : rg shC b u n w) (h : g_X0_has F x1 u = some z) : pm_Met gs ro M_X0_has 0 0 0 [.ref (b + 8), .int x1] n w (pm_p n w (some (.int z))) := by
  unfold g_X0_has at h
  refine pm_ofX in_X0_has (Nat.le_of_ble_eq_true rfl) rfl (L := [some (.ref (b + 8)), some (.int x1)]) rfl ?_
  refine pm_iload_n dX0_has_0 rfl ?_
  refine pm_if_lt (tgt := 22) dX0_has_1 (by decide) (fun c1 => ?_) (fun c1 => ?_)
  · replace h := it_t c1 h
    refine pm_iconst (v := 0) dX0_has_22 (by decide) ?_
    cases h
    exact pm_zret dX0_has_23 rfl (Or.inl rfl) (Nat.le_refl _) (Nat.le_refl _) ⟨rfl, rfl, rfl⟩
  · replace h := it_f c1 h
    refine pm_iload_n dX0_has_4 rfl ?_
    refine pm_aload_n dX0_has_5 rfl ?_
    refine dx_gi (j := 8) hR dX0_has_6 fl_X0_23 rfl rfl ?_
    refine pm_icmp_ge (tgt := 22) dX0_has_9 (by decide) (fun c2 => ?_) (fun c2 => ?_)
    · replace h := it_t c2 h
      refine pm_iconst (v := 0) dX0_has_22 (by decide) ?_
      cases h
      exact pm_zret dX0_has_23 rfl (Or.inl rfl) (Nat.le_refl _) (Nat.le_refl _) ⟨rfl, rfl, rfl⟩
    · replace h := it_f c2 h
      refine pm_iload_n dX0_has_12 rfl ?_
      refine pm_bipush (v := 100) dX0_has_13 (by decide) ?_
      refine pm_icmp_ge (tgt := 22) dX0_has_15 (by decide) (fun c3 => ?_) (fun c3 => ?_)
      · replace h := it_t c3 h
        refine pm_iconst (v := 0) dX0_has_22 (by decide) ?_
        cases h
        exact pm_zret dX0_has_23 rfl (Or.inl rfl) (Nat.le_refl _) (Nat.le_refl _) ⟨rfl, rfl, rfl⟩
      · replace h := it_f c3 h
        refine pm_iconst (v := 1) dX0_has_18 (by decide) ?_
        refine pm_goto (tgt := 23) dX0_has_19 (by decide) ?_
        cases h
        exact pm_zret dX0_has_23 rfl (Or.inr rfl) (Nat.le_refl _) (Nat.le_refl _) ⟨rfl, rfl, rfl⟩
def g_X0_callOfOne (F : Nat) (x1 : Int32) (u : rg_U) : Option Int32 :=
  ob (g_X0_has F x1 u) (fun r1 => if r1 = 0 then (some (-1)) else (ck (inb x1 100) (some (rA u 111 x1))))
set_option maxHeartbeats 4000000 in
set_option maxRecDepth 100000 in
theorem k_X0_callOfOne {gs : List String} {ro : pm_RO} {n : Nat} {w : Nat → va_E} {b : Nat} {u : rg_U} {F : Nat} {x1 : Int32} {z : Int32} (hR : rg shC b u n w) (h : g_X0_callOfOne F x1 u = some z) : pm_Met gs ro M_X0_callOfOne 1 0 0 [.ref (b + 8), .int x1] n w (pm_p n w (some (.int z))) := by
  unfold g_X0_callOfOne at h
  refine pm_ofX in_X0_callOfOne (Nat.le_of_ble_eq_true rfl) rfl (L := [some (.ref (b + 8)), some (.int x1)]) rfl ?_
  refine pm_aload_n dX0_callOfOne_0 rfl ?_
  refine pm_iload_n dX0_callOfOne_1 rfl ?_
  obtain ⟨r1, h2, h⟩ := ob_some h
  refine dx_cVp (j := 8) (M := M_X0_callOfOne) (Mc := M_X0_has) (dc := 0) (As := [.int x1]) (st := []) hR dX0_callOfOne_2 ml_X0_33 ⟨TX0, 6, rfl⟩ rfl (by decide) (Nat.le_of_ble_eq_true rfl) rfl (k_X0_has hR h2) ?_
  refine pm_if_eq (tgt := 17) dX0_callOfOne_5 (by decide) (fun c3 => ?_) (fun c3 => ?_)
  · replace h := it_t c3 h
    refine pm_iconst (v := (-1)) dX0_callOfOne_17 (by decide) ?_
    cases h
    exact pm_iret dX0_callOfOne_18 rfl (Nat.le_refl _) (Nat.le_refl _) ⟨rfl, rfl, rfl⟩
  · replace h := it_f c3 h
    refine pm_aload_n dX0_callOfOne_8 rfl ?_
    refine dx_gr (j := 8) (o := 111) hR dX0_callOfOne_9 fl_X0_16 rfl rfl ?_
    refine pm_iload_n dX0_callOfOne_12 rfl ?_
    obtain ⟨c4, h⟩ := ck_some h
    refine dx_al (j := 111) hR dX0_callOfOne_13 rfl (vp_in_iff.mpr c4) ?_
    refine pm_goto (tgt := 18) dX0_callOfOne_14 (by decide) ?_
    cases h
    exact pm_iret dX0_callOfOne_18 rfl (Nat.le_refl _) (Nat.le_refl _) ⟨rfl, rfl, rfl⟩
def g_X0_callOfOther (F : Nat) (x1 : Int32) (u : rg_U) : Option Int32 :=
  ob (g_X0_has F x1 u) (fun r1 => if r1 = 0 then (some (-1)) else (ck (inb x1 100) (some (rA u 112 x1))))
set_option maxHeartbeats 4000000 in
set_option maxRecDepth 100000 in
theorem k_X0_callOfOther {gs : List String} {ro : pm_RO} {n : Nat} {w : Nat → va_E} {b : Nat} {u : rg_U} {F : Nat} {x1 : Int32} {z : Int32} (hR : rg shC b u n w) (h : g_X0_callOfOther F x1 u = some z) : pm_Met gs ro M_X0_callOfOther 1 0 0 [.ref (b + 8), .int x1] n w (pm_p n w (some (.int z))) := by
  unfold g_X0_callOfOther at h
  refine pm_ofX in_X0_callOfOther (Nat.le_of_ble_eq_true rfl) rfl (L := [some (.ref (b + 8)), some (.int x1)]) rfl ?_
  refine pm_aload_n dX0_callOfOther_0 rfl ?_
  refine pm_iload_n dX0_callOfOther_1 rfl ?_
  obtain ⟨r1, h2, h⟩ := ob_some h
  refine dx_cVp (j := 8) (M := M_X0_callOfOther) (Mc := M_X0_has) (dc := 0) (As := [.int x1]) (st := []) hR dX0_callOfOther_2 ml_X0_33 ⟨TX0, 6, rfl⟩ rfl (by decide) (Nat.le_of_ble_eq_true rfl) rfl (k_X0_has hR h2) ?_
  refine pm_if_eq (tgt := 17) dX0_callOfOther_5 (by decide) (fun c3 => ?_) (fun c3 => ?_)
  · replace h := it_t c3 h
    refine pm_iconst (v := (-1)) dX0_callOfOther_17 (by decide) ?_
    cases h
    exact pm_iret dX0_callOfOther_18 rfl (Nat.le_refl _) (Nat.le_refl _) ⟨rfl, rfl, rfl⟩
  · replace h := it_f c3 h
    refine pm_aload_n dX0_callOfOther_8 rfl ?_
    refine dx_gr (j := 8) (o := 112) hR dX0_callOfOther_9 fl_X0_20 rfl rfl ?_
    refine pm_iload_n dX0_callOfOther_12 rfl ?_
    obtain ⟨c4, h⟩ := ck_some h
    refine dx_al (j := 112) hR dX0_callOfOther_13 rfl (vp_in_iff.mpr c4) ?_
    refine pm_goto (tgt := 18) dX0_callOfOther_14 (by decide) ?_
    cases h
    exact pm_iret dX0_callOfOther_18 rfl (Nat.le_refl _) (Nat.le_refl _) ⟨rfl, rfl, rfl⟩
def g_X1_has (F : Nat) (o0 : Nat) (x1 : Int32) (u : rg_U) : Option Int32 :=
  if x1 < 0 then (some 0) else (if (rF u o0 3) ≤ x1 then (some 0) else (if 100 ≤ x1 then (some 0) else (some 1)))
set_option maxHeartbeats 4000000 in
set_option maxRecDepth 100000 in
theorem k_X1_has {gs : List String} {ro : pm_RO} {n : Nat} {w : Nat → va_E} {b : Nat} {u : rg_U} {F : Nat} {o0 : Nat} {x1 : Int32} {z : Int32} (hR : rg shC b u n w) (hs0 : sp_Calls o0) (h : g_X1_has F o0 x1 u = some z) : pm_Met gs ro M_X1_has 0 0 0 [.ref (b + o0), .int x1] n w (pm_p n w (some (.int z))) := by
  unfold g_X1_has at h
  refine pm_ofX in_X1_has (Nat.le_of_ble_eq_true rfl) rfl (L := [some (.ref (b + o0)), some (.int x1)]) rfl ?_
  refine pm_iload_n dX1_has_0 rfl ?_
  refine pm_if_lt (tgt := 22) dX1_has_1 (by decide) (fun c1 => ?_) (fun c1 => ?_)
  · replace h := it_t c1 h
    refine pm_iconst (v := 0) dX1_has_22 (by decide) ?_
    cases h
    exact pm_zret dX1_has_23 rfl (Or.inl rfl) (Nat.le_refl _) (Nat.le_refl _) ⟨rfl, rfl, rfl⟩
  · replace h := it_f c1 h
    refine pm_iload_n dX1_has_4 rfl ?_
    refine pm_aload_n dX1_has_5 rfl ?_
    refine dx_gi (j := o0) hR dX1_has_6 fl_X1_21 (sp_Calls_self hs0) rfl ?_
    refine pm_icmp_ge (tgt := 22) dX1_has_9 (by decide) (fun c2 => ?_) (fun c2 => ?_)
    · replace h := it_t c2 h
      refine pm_iconst (v := 0) dX1_has_22 (by decide) ?_
      cases h
      exact pm_zret dX1_has_23 rfl (Or.inl rfl) (Nat.le_refl _) (Nat.le_refl _) ⟨rfl, rfl, rfl⟩
    · replace h := it_f c2 h
      refine pm_iload_n dX1_has_12 rfl ?_
      refine pm_bipush (v := 100) dX1_has_13 (by decide) ?_
      refine pm_icmp_ge (tgt := 22) dX1_has_15 (by decide) (fun c3 => ?_) (fun c3 => ?_)
      · replace h := it_t c3 h
        refine pm_iconst (v := 0) dX1_has_22 (by decide) ?_
        cases h
        exact pm_zret dX1_has_23 rfl (Or.inl rfl) (Nat.le_refl _) (Nat.le_refl _) ⟨rfl, rfl, rfl⟩
      · replace h := it_f c3 h
        refine pm_iconst (v := 1) dX1_has_18 (by decide) ?_
        refine pm_goto (tgt := 23) dX1_has_19 (by decide) ?_
        cases h
        exact pm_zret dX1_has_23 rfl (Or.inr rfl) (Nat.le_refl _) (Nat.le_refl _) ⟨rfl, rfl, rfl⟩
def g_X1_isLike (F : Nat) (o0 : Nat) (x1 : Int32) (o2 : Nat) (x3 : Int32) (u : rg_U) : Option Int32 :=
  ob (g_X1_has F o0 x1 u) (fun r1 => if r1 = 0 then (some 0) else (ob (g_X1_has F o2 x3 u) (fun r4 => if r4 = 0 then (some 0) else (ck (inb x1 100) (ck (inb x3 100) (if (rA u (o0 + 2) x1) = (rA u (o2 + 2) x3) then (ck (inb x1 100) (ck (inb x3 100) (if (rA u (o0 + 3) x1) = (rA u (o2 + 3) x3) then (some 1) else (some 0)))) else (some 0)))))))
set_option maxHeartbeats 4000000 in
set_option maxRecDepth 100000 in
theorem k_X1_isLike {gs : List String} {ro : pm_RO} {n : Nat} {w : Nat → va_E} {b : Nat} {u : rg_U} {F : Nat} {o0 : Nat} {x1 : Int32} {o2 : Nat} {x3 : Int32} {z : Int32} (hR : rg shC b u n w) (hs0 : sp_Calls o0) (hs2 : sp_Calls o2) (h : g_X1_isLike F o0 x1 o2 x3 u = some z) : pm_Met gs ro M_X1_isLike 1 0 0 [.ref (b + o0), .int x1, .ref (b + o2), .int x3] n w (pm_p n w (some (.int z))) := by
  unfold g_X1_isLike at h
  refine pm_ofX in_X1_isLike (Nat.le_of_ble_eq_true rfl) rfl (L := [some (.ref (b + o0)), some (.int x1), some (.ref (b + o2)), some (.int x3)]) rfl ?_
  refine pm_aload_n dX1_isLike_0 rfl ?_
  refine pm_iload_n dX1_isLike_1 rfl ?_
  obtain ⟨r1, h2, h⟩ := ob_some h
  refine dx_cVp (j := o0) (M := M_X1_isLike) (Mc := M_X1_has) (dc := 0) (As := [.int x1]) (st := []) hR dX1_isLike_2 ml_X1_29 ⟨TX1, 4, rfl⟩ (sp_Calls_self hs0) (by decide) (Nat.le_of_ble_eq_true rfl) rfl (k_X1_has hR hs0 h2) ?_
  refine pm_if_eq (tgt := 50) dX1_isLike_5 (by decide) (fun c3 => ?_) (fun c3 => ?_)
  · replace h := it_t c3 h
    refine pm_iconst (v := 0) dX1_isLike_50 (by decide) ?_
    cases h
    exact pm_zret dX1_isLike_51 rfl (Or.inl rfl) (Nat.le_refl _) (Nat.le_refl _) ⟨rfl, rfl, rfl⟩
  · replace h := it_f c3 h
    refine pm_aload_n dX1_isLike_8 rfl ?_
    refine pm_iload_n dX1_isLike_9 rfl ?_
    obtain ⟨r4, h5, h⟩ := ob_some h
    refine dx_cVp (j := o2) (M := M_X1_isLike) (Mc := M_X1_has) (dc := 0) (As := [.int x3]) (st := []) hR dX1_isLike_10 ml_X1_29 ⟨TX1, 4, rfl⟩ (sp_Calls_self hs2) (by decide) (Nat.le_of_ble_eq_true rfl) rfl (k_X1_has hR hs2 h5) ?_
    refine pm_if_eq (tgt := 50) dX1_isLike_13 (by decide) (fun c6 => ?_) (fun c6 => ?_)
    · replace h := it_t c6 h
      refine pm_iconst (v := 0) dX1_isLike_50 (by decide) ?_
      cases h
      exact pm_zret dX1_isLike_51 rfl (Or.inl rfl) (Nat.le_refl _) (Nat.le_refl _) ⟨rfl, rfl, rfl⟩
    · replace h := it_f c6 h
      refine pm_aload_n dX1_isLike_16 rfl ?_
      refine dx_gr (j := o0) (o := (o0 + 2)) hR dX1_isLike_17 fl_X1_15 (sp_Calls_self hs0) rfl ?_
      refine pm_iload_n dX1_isLike_20 rfl ?_
      obtain ⟨c7, h⟩ := ck_some h
      refine dx_al (j := (o0 + 2)) hR dX1_isLike_21 (sp_Calls_target hs0) (vp_in_iff.mpr c7) ?_
      refine pm_aload_n dX1_isLike_22 rfl ?_
      refine dx_gr (j := o2) (o := (o2 + 2)) hR dX1_isLike_23 fl_X1_15 (sp_Calls_self hs2) rfl ?_
      refine pm_iload_n dX1_isLike_26 rfl ?_
      obtain ⟨c8, h⟩ := ck_some h
      refine dx_al (j := (o2 + 2)) hR dX1_isLike_27 (sp_Calls_target hs2) (vp_in_iff.mpr c8) ?_
      refine pm_icmp_ne (tgt := 50) dX1_isLike_28 (by decide) (fun c9 => ?_) (fun c9 => ?_)
      · replace h := it_f c9 h
        refine pm_iconst (v := 0) dX1_isLike_50 (by decide) ?_
        cases h
        exact pm_zret dX1_isLike_51 rfl (Or.inl rfl) (Nat.le_refl _) (Nat.le_refl _) ⟨rfl, rfl, rfl⟩
      · replace h := it_t c9 h
        refine pm_aload_n dX1_isLike_31 rfl ?_
        refine dx_gr (j := o0) (o := (o0 + 3)) hR dX1_isLike_32 fl_X1_18 (sp_Calls_self hs0) rfl ?_
        refine pm_iload_n dX1_isLike_35 rfl ?_
        obtain ⟨c10, h⟩ := ck_some h
        refine dx_al (j := (o0 + 3)) hR dX1_isLike_36 (sp_Calls_stacked hs0) (vp_in_iff.mpr c10) ?_
        refine pm_aload_n dX1_isLike_37 rfl ?_
        refine dx_gr (j := o2) (o := (o2 + 3)) hR dX1_isLike_38 fl_X1_18 (sp_Calls_self hs2) rfl ?_
        refine pm_iload_n dX1_isLike_41 rfl ?_
        obtain ⟨c11, h⟩ := ck_some h
        refine dx_al (j := (o2 + 3)) hR dX1_isLike_42 (sp_Calls_stacked hs2) (vp_in_iff.mpr c11) ?_
        refine pm_icmp_ne (tgt := 50) dX1_isLike_43 (by decide) (fun c12 => ?_) (fun c12 => ?_)
        · replace h := it_f c12 h
          refine pm_iconst (v := 0) dX1_isLike_50 (by decide) ?_
          cases h
          exact pm_zret dX1_isLike_51 rfl (Or.inl rfl) (Nat.le_refl _) (Nat.le_refl _) ⟨rfl, rfl, rfl⟩
        · replace h := it_t c12 h
          refine pm_iconst (v := 1) dX1_isLike_46 (by decide) ?_
          refine pm_goto (tgt := 51) dX1_isLike_47 (by decide) ?_
          cases h
          exact pm_zret dX1_isLike_51 rfl (Or.inr rfl) (Nat.le_refl _) (Nat.le_refl _) ⟨rfl, rfl, rfl⟩
def g_X0_countPairs_j103 (F : Nat) (o1 : Nat) (o3 : Nat) (l4 : Int32) (l5 : Int32) (l6 : Int32) (l7 : Int32) (s0 : Int32) (u : rg_U) : Option ((Int32 × rg_U) ⊕ rg_U) :=
  ck (inb l5 101) (om (rQ u 9 l5) (none) (fun o32 => ck (isRw o32) (ck (inb l6 101) (lt1 (sA u o32 l6 (imax l7 s0)) (fun u35 => some (.inl ((l6 + (-1)), u35)))))))
set_option maxHeartbeats 4000000 in
set_option maxRecDepth 100000 in
theorem k_X0_countPairs_j103 {gs : List String} {ro : pm_RO} {n : Nat} {w w1 : Nat → va_E} {b : Nat} {u : rg_U} {F : Nat} {o1 : Nat} {o3 : Nat} {l4 : Int32} {l5 : Int32} {l6 : Int32} {l7 : Int32} {s0 : Int32} {z : ((Int32 × rg_U) ⊕ rg_U)} {Q : Option Value → Nat → (Nat → va_E) → Prop} (hR : rg shC b u n w1) (hk : rg_k b shC.length w w1) (hs1 : sp_Calls o1) (hs3 : sp_Calls o3) (h : g_X0_countPairs_j103 F o1 o3 l4 l5 l6 l7 s0 u = some z) (hc : ∀ s', z = .inl s' → ∀ w1, rg shC b s'.2 n w1 → rg_k b shC.length w w1 → pm_X gs ro M_X0_countPairs 2 0 0 0 0 37 [some (.ref (b + 8)), some (.ref (b + o1)), none, some (.ref (b + o3)), some (.int l4), some (.int l5), some (.int s'.1), none, none] [] n w1 Q) (he0 : ∀ r', z = .inr r' → ∀ w1, rg shC b r' n w1 → rg_k b shC.length w w1 → pm_X gs ro M_X0_countPairs 2 0 0 0 0 128 [some (.ref (b + 8)), some (.ref (b + o1)), none, some (.ref (b + o3)), some (.int l4), some (.int l5), none, none, none] [] n w1 Q) : pm_X gs ro M_X0_countPairs 2 0 0 0 0 103 [some (.ref (b + 8)), some (.ref (b + o1)), none, some (.ref (b + o3)), some (.int l4), some (.int l5), some (.int l6), some (.int l7), none] [.int s0] n w1 Q := by
  unfold g_X0_countPairs_j103 at h
  refine pm_istore dX0_countPairs_103 (by decide) rfl rfl ?_
  refine pm_aload_n dX0_countPairs_105 rfl ?_
  refine dx_gr (j := 8) (o := 9) hR dX0_countPairs_106 fl_X0_11 rfl rfl ?_
  refine pm_iload dX0_countPairs_109 rfl ?_
  obtain ⟨c31, h⟩ := ck_some h
  cases q33 : (rQ u 9 l5) with
  | none =>
    replace h := om_n q33 h
    exact absurd h (by simp)
  | some o32 =>
    replace h := om_s q33 h
    obtain ⟨c40, h⟩ := ck_some h
    have hs_o32 := row_sp c40
    refine dx_rlS (j := 9) hR dX0_countPairs_111 rfl (vp_in_iff.mpr c31) q33 ?_
    refine pm_iload dX0_countPairs_112 rfl ?_
    refine pm_iload dX0_countPairs_114 rfl ?_
    refine pm_iload dX0_countPairs_116 rfl ?_
    refine pm_mmax (M := M_X0_countPairs) dX0_countPairs_118 mm_X0_61 mm_max_2 mm_init mm_max_4 (by decide) (Nat.le_refl _) (Nat.le_refl _) (Nat.le_of_ble_eq_true rfl) ?_
    obtain ⟨c34, h⟩ := ck_some h
    obtain ⟨u35, hu36, h⟩ := lt1_ex h
    refine dx_as (j := o32) hR hk dX0_countPairs_121 hs_o32 (vp_in_iff.mpr c34) hu36 (fun w37 hR38 hk39 => ?_)
    refine pm_iinc (v := (l6 + (-1))) dX0_countPairs_122 rfl rfl (by decide) rfl rfl ?_
    refine pm_goto (tgt := 37) dX0_countPairs_125 (by decide) ?_
    refine pm_lw (L' := [some (.ref (b + 8)), some (.ref (b + o1)), none, some (.ref (b + o3)), some (.int l4), some (.int l5), some (.int (l6 + (-1))), none, none]) ⟨Or.inr rfl, Or.inr rfl, Or.inl rfl, Or.inr rfl, Or.inr rfl, Or.inr rfl, Or.inr rfl, Or.inl rfl, Or.inl rfl, trivial⟩ ?_
    exact hc _ (Option.some.inj h).symm _ hR38 hk39
def g_X0_countPairs_l37 (F : Nat) (o1 : Nat) (o3 : Nat) (l4 : Int32) (l5 : Int32) (l6 : Int32) (u : rg_U) : Option ((Int32 × rg_U) ⊕ rg_U) :=
  if l6 < 0 then (some (.inr u)) else (ck (inb (l5 + 1) 101) (om (rQ u 9 (l5 + 1)) (none) (fun o21 => ck (isRw o21) (ck (inb l6 101) (ck (inb l5 101) (om (rQ u 9 l5) (none) (fun o25 => ck (isRw o25) (ck (inb (l6 + 1) 101) (ob (g_X1_isLike F o1 l5 o3 l6 u) (fun r28 => if r28 = 0 then (g_X0_countPairs_j103 F o1 o3 l4 l5 l6 (imax (rA u o21 l6) (rA u o25 (l6 + 1))) 0 u) else (ck (inb (l5 + 1) 101) (om (rQ u 9 (l5 + 1)) (none) (fun o42 => ck (isRw o42) (ck (inb (l6 + 1) 101) (g_X0_countPairs_j103 F o1 o3 l4 l5 l6 (imax (rA u o21 l6) (rA u o25 (l6 + 1))) (1 + (rA u o42 (l6 + 1))) u)))))))))))))))
set_option maxHeartbeats 4000000 in
set_option maxRecDepth 100000 in
theorem k_X0_countPairs_l37 {gs : List String} {ro : pm_RO} {n : Nat} {w w1 : Nat → va_E} {b : Nat} {u : rg_U} {F : Nat} {o1 : Nat} {o3 : Nat} {l4 : Int32} {l5 : Int32} {l6 : Int32} {z : (Int32 × rg_U) ⊕ rg_U} {Q : Option Value → Nat → (Nat → va_E) → Prop} (hR : rg shC b u n w1) (hk : rg_k b shC.length w w1) (hs1 : sp_Calls o1) (hs3 : sp_Calls o3) (h : g_X0_countPairs_l37 F o1 o3 l4 l5 l6 u = some z) (hc : ∀ s', z = .inl s' → ∀ w1, rg shC b s'.2 n w1 → rg_k b shC.length w w1 → pm_X gs ro M_X0_countPairs 2 0 0 0 0 37 [some (.ref (b + 8)), some (.ref (b + o1)), none, some (.ref (b + o3)), some (.int l4), some (.int l5), some (.int s'.1), none, none] [] n w1 Q) (he0 : ∀ r', z = .inr r' → ∀ w1, rg shC b r' n w1 → rg_k b shC.length w w1 → pm_X gs ro M_X0_countPairs 2 0 0 0 0 128 [some (.ref (b + 8)), some (.ref (b + o1)), none, some (.ref (b + o3)), some (.int l4), some (.int l5), none, none, none] [] n w1 Q) : pm_X gs ro M_X0_countPairs 2 0 0 0 0 37 [some (.ref (b + 8)), some (.ref (b + o1)), none, some (.ref (b + o3)), some (.int l4), some (.int l5), some (.int l6), none, none] [] n w1 Q := by
  unfold g_X0_countPairs_l37 at h
  refine pm_iload dX0_countPairs_37 rfl ?_
  refine pm_if_lt (tgt := 128) dX0_countPairs_39 (by decide) (fun c19 => ?_) (fun c19 => ?_)
  · replace h := it_t c19 h
    refine pm_lw (L' := [some (.ref (b + 8)), some (.ref (b + o1)), none, some (.ref (b + o3)), some (.int l4), some (.int l5), none, none, none]) ⟨Or.inr rfl, Or.inr rfl, Or.inl rfl, Or.inr rfl, Or.inr rfl, Or.inr rfl, Or.inl rfl, Or.inl rfl, Or.inl rfl, trivial⟩ ?_
    exact he0 _ (Option.some.inj h).symm _ hR hk
  · replace h := it_f c19 h
    refine pm_aload_n dX0_countPairs_42 rfl ?_
    refine dx_gr (j := 8) (o := 9) hR dX0_countPairs_43 fl_X0_11 rfl rfl ?_
    refine pm_iload dX0_countPairs_46 rfl ?_
    refine pm_iconst (v := 1) dX0_countPairs_48 (by decide) ?_
    refine pm_iadd dX0_countPairs_49 ?_
    obtain ⟨c20, h⟩ := ck_some h
    cases q22 : (rQ u 9 (l5 + 1)) with
    | none =>
      replace h := om_n q22 h
      exact absurd h (by simp)
    | some o21 =>
      replace h := om_s q22 h
      obtain ⟨c47, h⟩ := ck_some h
      have hs_o21 := row_sp c47
      refine dx_rlS (j := 9) hR dX0_countPairs_50 rfl (vp_in_iff.mpr c20) q22 ?_
      refine pm_iload dX0_countPairs_51 rfl ?_
      obtain ⟨c23, h⟩ := ck_some h
      refine dx_al (j := o21) hR dX0_countPairs_53 hs_o21 (vp_in_iff.mpr c23) ?_
      refine pm_aload_n dX0_countPairs_54 rfl ?_
      refine dx_gr (j := 8) (o := 9) hR dX0_countPairs_55 fl_X0_11 rfl rfl ?_
      refine pm_iload dX0_countPairs_58 rfl ?_
      obtain ⟨c24, h⟩ := ck_some h
      cases q26 : (rQ u 9 l5) with
      | none =>
        replace h := om_n q26 h
        exact absurd h (by simp)
      | some o25 =>
        replace h := om_s q26 h
        obtain ⟨c46, h⟩ := ck_some h
        have hs_o25 := row_sp c46
        refine dx_rlS (j := 9) hR dX0_countPairs_60 rfl (vp_in_iff.mpr c24) q26 ?_
        refine pm_iload dX0_countPairs_61 rfl ?_
        refine pm_iconst (v := 1) dX0_countPairs_63 (by decide) ?_
        refine pm_iadd dX0_countPairs_64 ?_
        obtain ⟨c27, h⟩ := ck_some h
        refine dx_al (j := o25) hR dX0_countPairs_65 hs_o25 (vp_in_iff.mpr c27) ?_
        refine pm_mmax (M := M_X0_countPairs) dX0_countPairs_66 mm_X0_61 mm_max_2 mm_init mm_max_4 (by decide) (Nat.le_refl _) (Nat.le_refl _) (Nat.le_of_ble_eq_true rfl) ?_
        refine pm_istore dX0_countPairs_69 (by decide) rfl rfl ?_
        refine pm_aload_n dX0_countPairs_71 rfl ?_
        refine pm_iload dX0_countPairs_72 rfl ?_
        refine pm_aload_n dX0_countPairs_74 rfl ?_
        refine pm_iload dX0_countPairs_75 rfl ?_
        obtain ⟨r28, h29, h⟩ := ob_some h
        refine dx_cVp (j := o1) (M := M_X0_countPairs) (Mc := M_X1_isLike) (dc := 1) (As := [.int l5, .ref (b + o3), .int l6]) (st := []) hR dX0_countPairs_77 ml_X0_64 ⟨TX1, 4, rfl⟩ (sp_Calls_self hs1) (by decide) (Nat.le_of_ble_eq_true rfl) rfl (k_X1_isLike hR hs1 hs3 h29) ?_
        refine pm_if_eq (tgt := 102) dX0_countPairs_80 (by decide) (fun c30 => ?_) (fun c30 => ?_)
        · replace h := it_t c30 h
          refine pm_iconst (v := 0) dX0_countPairs_102 (by decide) ?_
          exact k_X0_countPairs_j103 hR hk hs1 hs3 h hc he0
        · replace h := it_f c30 h
          refine pm_iconst (v := 1) dX0_countPairs_83 (by decide) ?_
          refine pm_aload_n dX0_countPairs_84 rfl ?_
          refine dx_gr (j := 8) (o := 9) hR dX0_countPairs_85 fl_X0_11 rfl rfl ?_
          refine pm_iload dX0_countPairs_88 rfl ?_
          refine pm_iconst (v := 1) dX0_countPairs_90 (by decide) ?_
          refine pm_iadd dX0_countPairs_91 ?_
          obtain ⟨c41, h⟩ := ck_some h
          cases q43 : (rQ u 9 (l5 + 1)) with
          | none =>
            replace h := om_n q43 h
            exact absurd h (by simp)
          | some o42 =>
            replace h := om_s q43 h
            obtain ⟨c45, h⟩ := ck_some h
            have hs_o42 := row_sp c45
            refine dx_rlS (j := 9) hR dX0_countPairs_92 rfl (vp_in_iff.mpr c41) q43 ?_
            refine pm_iload dX0_countPairs_93 rfl ?_
            refine pm_iconst (v := 1) dX0_countPairs_95 (by decide) ?_
            refine pm_iadd dX0_countPairs_96 ?_
            obtain ⟨c44, h⟩ := ck_some h
            refine dx_al (j := o42) hR dX0_countPairs_97 hs_o42 (vp_in_iff.mpr c44) ?_
            refine pm_iadd dX0_countPairs_98 ?_
            refine pm_goto (tgt := 103) dX0_countPairs_99 (by decide) ?_
            exact k_X0_countPairs_j103 hR hk hs1 hs3 h hc he0
def g_X0_countPairs_l15 (F : Nat) (o1 : Nat) (o3 : Nat) (l4 : Int32) (l5 : Int32) (u : rg_U) : Option ((Int32 × rg_U) ⊕ rg_U) :=
  if l5 < 0 then (some (.inr u)) else (ck (inb l5 101) (om (rQ u 9 l5) (none) (fun o11 => ck (isRw o11) (ck (inb l4 101) (lt1 (sA u o11 l4 0) (fun u14 => ob (lp (fun (s : (Int32 × rg_U)) => g_X0_countPairs_l37 F o1 o3 l4 l5 s.1 s.2) F (((l4 - 1) : Int32), u14)) (fun r48 => some (.inl ((l5 + (-1)), r48)))))))))
set_option maxHeartbeats 4000000 in
set_option maxRecDepth 100000 in
theorem k_X0_countPairs_l15 {gs : List String} {ro : pm_RO} {n : Nat} {w w1 : Nat → va_E} {b : Nat} {u : rg_U} {F : Nat} {o1 : Nat} {o3 : Nat} {l4 : Int32} {l5 : Int32} {z : (Int32 × rg_U) ⊕ rg_U} {Q : Option Value → Nat → (Nat → va_E) → Prop} (hR : rg shC b u n w1) (hk : rg_k b shC.length w w1) (hs1 : sp_Calls o1) (hs3 : sp_Calls o3) (h : g_X0_countPairs_l15 F o1 o3 l4 l5 u = some z) (hc : ∀ s', z = .inl s' → ∀ w1, rg shC b s'.2 n w1 → rg_k b shC.length w w1 → pm_X gs ro M_X0_countPairs 2 0 0 0 0 15 [some (.ref (b + 8)), some (.ref (b + o1)), none, some (.ref (b + o3)), some (.int l4), some (.int s'.1), none, none, none] [] n w1 Q) (he0 : ∀ r', z = .inr r' → ∀ w1, rg shC b r' n w1 → rg_k b shC.length w w1 → pm_X gs ro M_X0_countPairs 2 0 0 0 0 134 [none, none, none, none, none, none, none, none, none] [] n w1 Q) : pm_X gs ro M_X0_countPairs 2 0 0 0 0 15 [some (.ref (b + 8)), some (.ref (b + o1)), none, some (.ref (b + o3)), some (.int l4), some (.int l5), none, none, none] [] n w1 Q := by
  unfold g_X0_countPairs_l15 at h
  refine pm_iload dX0_countPairs_15 rfl ?_
  refine pm_if_lt (tgt := 134) dX0_countPairs_17 (by decide) (fun c9 => ?_) (fun c9 => ?_)
  · replace h := it_t c9 h
    refine pm_lw (L' := [none, none, none, none, none, none, none, none, none]) ⟨Or.inl rfl, Or.inl rfl, Or.inl rfl, Or.inl rfl, Or.inl rfl, Or.inl rfl, Or.inl rfl, Or.inl rfl, Or.inl rfl, trivial⟩ ?_
    exact he0 _ (Option.some.inj h).symm _ hR hk
  · replace h := it_f c9 h
    refine pm_aload_n dX0_countPairs_20 rfl ?_
    refine dx_gr (j := 8) (o := 9) hR dX0_countPairs_21 fl_X0_11 rfl rfl ?_
    refine pm_iload dX0_countPairs_24 rfl ?_
    obtain ⟨c10, h⟩ := ck_some h
    cases q12 : (rQ u 9 l5) with
    | none =>
      replace h := om_n q12 h
      exact absurd h (by simp)
    | some o11 =>
      replace h := om_s q12 h
      obtain ⟨c53, h⟩ := ck_some h
      have hs_o11 := row_sp c53
      refine dx_rlS (j := 9) hR dX0_countPairs_26 rfl (vp_in_iff.mpr c10) q12 ?_
      refine pm_iload dX0_countPairs_27 rfl ?_
      refine pm_iconst (v := 0) dX0_countPairs_29 (by decide) ?_
      obtain ⟨c13, h⟩ := ck_some h
      obtain ⟨u14, hu15, h⟩ := lt1_ex h
      refine dx_as (j := o11) hR hk dX0_countPairs_30 hs_o11 (vp_in_iff.mpr c13) hu15 (fun w16 hR17 hk18 => ?_)
      refine pm_iload dX0_countPairs_31 rfl ?_
      refine pm_iconst (v := 1) dX0_countPairs_33 (by decide) ?_
      refine pm_isub dX0_countPairs_34 ?_
      refine pm_istore dX0_countPairs_35 (by decide) rfl rfl ?_
      obtain ⟨r48, h49, h⟩ := ob_some h
      refine lp_sound (P := fun (s : (Int32 × rg_U)) => ∀ w1, rg shC b s.2 n w1 → rg_k b shC.length w w1 → pm_X gs ro M_X0_countPairs 2 0 0 0 0 37 [some (.ref (b + 8)), some (.ref (b + o1)), none, some (.ref (b + o3)), some (.int l4), some (.int l5), some (.int s.1), none, none] [] n w1 Q) (E := (fun (r : rg_U) => ∀ w1, rg shC b r n w1 → rg_k b shC.length w w1 → pm_X gs ro M_X0_countPairs 2 0 0 0 0 128 [some (.ref (b + 8)), some (.ref (b + o1)), none, some (.ref (b + o3)), some (.int l4), some (.int l5), none, none, none] [] n w1 Q)) (fun s x hx hc he w1 hR1 hk1 => k_X0_countPairs_l37 hR1 hk1 hs1 hs3 hx hc (fun r q => he r q)) F _ r48 h49 ?_ _ hR17 hk18
      intro w50 hR51 hk52
      refine pm_iinc (v := (l5 + (-1))) dX0_countPairs_128 rfl rfl (by decide) rfl rfl ?_
      refine pm_goto (tgt := 15) dX0_countPairs_131 (by decide) ?_
      refine pm_lw (L' := [some (.ref (b + 8)), some (.ref (b + o1)), none, some (.ref (b + o3)), some (.int l4), some (.int (l5 + (-1))), none, none, none]) ⟨Or.inr rfl, Or.inr rfl, Or.inl rfl, Or.inr rfl, Or.inr rfl, Or.inr rfl, Or.inl rfl, Or.inl rfl, Or.inl rfl, trivial⟩ ?_
      exact hc _ (Option.some.inj h).symm _ hR51 hk52
def g_X0_countPairs (F : Nat) (o1 : Nat) (x2 : Int32) (o3 : Nat) (x4 : Int32) (u : rg_U) : Option rg_U :=
  ck (inb x2 101) (om (rQ u 9 x2) (none) (fun o2 => ck (isRw o2) (ob (g_J7_fill_53178 F o2 101 0 u) (fun r4 => ob (lp (fun (s : (Int32 × rg_U)) => g_X0_countPairs_l15 F o1 o3 x4 s.1 s.2) F (((x2 - 1) : Int32), r4)) (fun r54 => some r54)))))
set_option maxHeartbeats 4000000 in
set_option maxRecDepth 100000 in
theorem k_X0_countPairs {gs : List String} {ro : pm_RO} {n : Nat} {w : Nat → va_E} {b : Nat} {u : rg_U} {F : Nat} {o1 : Nat} {x2 : Int32} {o3 : Nat} {x4 : Int32} {z : rg_U} (hR : rg shC b u n w) (hs1 : sp_Calls o1) (hs3 : sp_Calls o3) (h : g_X0_countPairs F o1 x2 o3 x4 u = some z) : pm_Met gs ro M_X0_countPairs 2 0 0 [.ref (b + 8), .ref (b + o1), .int x2, .ref (b + o3), .int x4] n w (rg_post shC b n w none z) := by
  unfold g_X0_countPairs at h
  refine pm_ofX in_X0_countPairs (Nat.le_of_ble_eq_true rfl) rfl (L := [some (.ref (b + 8)), some (.ref (b + o1)), some (.int x2), some (.ref (b + o3)), some (.int x4), none, none, none, none]) rfl ?_
  refine pm_aload_n dX0_countPairs_0 rfl ?_
  refine dx_gr (j := 8) (o := 9) hR dX0_countPairs_1 fl_X0_11 rfl rfl ?_
  refine pm_iload_n dX0_countPairs_4 rfl ?_
  obtain ⟨c1, h⟩ := ck_some h
  cases q3 : (rQ u 9 x2) with
  | none =>
    replace h := om_n q3 h
    exact absurd h (by simp)
  | some o2 =>
    replace h := om_s q3 h
    obtain ⟨c59, h⟩ := ck_some h
    have hs_o2 := row_sp c59
    refine dx_rlS (j := 9) hR dX0_countPairs_5 rfl (vp_in_iff.mpr c1) q3 ?_
    refine pm_iconst (v := 0) dX0_countPairs_6 (by decide) ?_
    obtain ⟨r4, h5, h⟩ := ob_some h
    refine dx_cSv (M := M_X0_countPairs) (Mc := M_J7_fill_53178) (dc := 0) (As := [.ref (b + o2), .int 0]) (st := []) rg_k0 dX0_countPairs_7 ml_X0_55 (by decide) (Nat.le_of_ble_eq_true rfl) rfl (k_J7_fill_53178 hR hs_o2 h5) (fun w6 hR7 hk8 => ?_)
    refine pm_iload_n dX0_countPairs_10 rfl ?_
    refine pm_iconst (v := 1) dX0_countPairs_11 (by decide) ?_
    refine pm_isub dX0_countPairs_12 ?_
    refine pm_istore dX0_countPairs_13 (by decide) rfl rfl ?_
    refine pm_lw (L' := [some (.ref (b + 8)), some (.ref (b + o1)), none, some (.ref (b + o3)), some (.int x4), some (.int (x2 - 1)), none, none, none]) ⟨Or.inr rfl, Or.inr rfl, Or.inl rfl, Or.inr rfl, Or.inr rfl, Or.inr rfl, Or.inl rfl, Or.inl rfl, Or.inl rfl, trivial⟩ ?_
    obtain ⟨r54, h55, h⟩ := ob_some h
    refine lp_sound (P := fun (s : (Int32 × rg_U)) => ∀ w1, rg shC b s.2 n w1 → rg_k b shC.length w w1 → pm_X gs ro M_X0_countPairs 2 0 0 0 0 15 [some (.ref (b + 8)), some (.ref (b + o1)), none, some (.ref (b + o3)), some (.int x4), some (.int s.1), none, none, none] [] n w1 (rg_post shC b n w none z)) (E := (fun (r : rg_U) => ∀ w1, rg shC b r n w1 → rg_k b shC.length w w1 → pm_X gs ro M_X0_countPairs 2 0 0 0 0 134 [none, none, none, none, none, none, none, none, none] [] n w1 (rg_post shC b n w none z))) (fun s x hx hc he w1 hR1 hk1 => k_X0_countPairs_l15 hR1 hk1 hs1 hs3 hx hc (fun r q => he r q)) F _ r54 h55 ?_ _ hR7 hk8
    intro w56 hR57 hk58
    cases h
    exact pm_vret dX0_countPairs_134 rfl (Nat.le_refl _) (Nat.le_refl _) ⟨rfl, rfl, hR57, hk58⟩
def g_X0_choosePairs_j78 (F : Nat) (o1 : Nat) (o3 : Nat) (l2 : Int32) (l4 : Int32) (l5 : Int32) (l6 : Int32) (l7 : Int32) (u : rg_U) : Option (Int32 ⊕ Int32) :=
  some (.inl (l7 + 1))
set_option maxHeartbeats 4000000 in
set_option maxRecDepth 100000 in
theorem k_X0_choosePairs_j78 {gs : List String} {ro : pm_RO} {n : Nat} {w w1 : Nat → va_E} {b : Nat} {u : rg_U} {F : Nat} {o1 : Nat} {o3 : Nat} {l2 : Int32} {l4 : Int32} {l5 : Int32} {l6 : Int32} {l7 : Int32} {z : (Int32 ⊕ Int32)} {Q : Option Value → Nat → (Nat → va_E) → Prop} (hR : rg shC b u n w1) (hk : rg_k b shC.length w w1) (hs1 : sp_Calls o1) (hs3 : sp_Calls o3) (h : g_X0_choosePairs_j78 F o1 o3 l2 l4 l5 l6 l7 u = some z) (hc : ∀ s', z = .inl s' → ∀ w1, rg shC b u n w1 → rg_k b shC.length w w1 → pm_X gs ro M_X0_choosePairs 2 0 0 0 0 30 [some (.ref (b + 8)), some (.ref (b + o1)), some (.int l2), some (.ref (b + o3)), some (.int l4), some (.int l5), some (.int l6), some (.int s')] [] n w1 Q) (he0 : ∀ r', z = .inr r' → ∀ w1, rg shC b u n w1 → rg_k b shC.length w w1 → pm_X gs ro M_X0_choosePairs 2 0 0 0 0 84 [some (.ref (b + 8)), some (.ref (b + o1)), some (.int l2), some (.ref (b + o3)), some (.int l4), some (.int l5), some (.int l6), some (.int r')] [] n w1 Q) : pm_X gs ro M_X0_choosePairs 2 0 0 0 0 78 [some (.ref (b + 8)), some (.ref (b + o1)), some (.int l2), some (.ref (b + o3)), some (.int l4), some (.int l5), some (.int l6), some (.int l7)] [] n w1 Q := by
  unfold g_X0_choosePairs_j78 at h
  refine pm_iinc (v := (l7 + 1)) dX0_choosePairs_78 rfl rfl (by decide) rfl rfl ?_
  refine pm_goto (tgt := 30) dX0_choosePairs_81 (by decide) ?_
  refine pm_lw (L' := [some (.ref (b + 8)), some (.ref (b + o1)), some (.int l2), some (.ref (b + o3)), some (.int l4), some (.int l5), some (.int l6), some (.int (l7 + 1))]) ⟨Or.inr rfl, Or.inr rfl, Or.inr rfl, Or.inr rfl, Or.inr rfl, Or.inr rfl, Or.inr rfl, Or.inr rfl, trivial⟩ ?_
  exact hc _ (Option.some.inj h).symm _ hR hk
def g_X0_choosePairs_l30 (F : Nat) (o1 : Nat) (o3 : Nat) (l2 : Int32) (l4 : Int32) (l5 : Int32) (l6 : Int32) (u : rg_U) (l7 : Int32) : Option (Int32 ⊕ Int32) :=
  if l4 ≤ l7 then (some (.inr l7)) else (ob (g_X1_isLike F o1 l6 o3 l7 u) (fun r9 => if r9 = 0 then (g_X0_choosePairs_j78 F o1 o3 l2 l4 l5 l6 l7 u) else (ck (inb (l6 + 1) 101) (om (rQ u 9 (l6 + 1)) (none) (fun o13 => ck (isRw o13) (ck (inb (l7 + 1) 101) (ck (inb l6 101) (om (rQ u 9 l6) (none) (fun o17 => ck (isRw o17) (ck (inb l5 101) (if (1 + (rA u o13 (l7 + 1))) = (rA u o17 l5) then (some (.inr l7)) else (g_X0_choosePairs_j78 F o1 o3 l2 l4 l5 l6 l7 u))))))))))))
set_option maxHeartbeats 4000000 in
set_option maxRecDepth 100000 in
theorem k_X0_choosePairs_l30 {gs : List String} {ro : pm_RO} {n : Nat} {w w1 : Nat → va_E} {b : Nat} {u : rg_U} {F : Nat} {o1 : Nat} {o3 : Nat} {l2 : Int32} {l4 : Int32} {l5 : Int32} {l6 : Int32} {l7 : Int32} {z : Int32 ⊕ Int32} {Q : Option Value → Nat → (Nat → va_E) → Prop} (hR : rg shC b u n w1) (hk : rg_k b shC.length w w1) (hs1 : sp_Calls o1) (hs3 : sp_Calls o3) (h : g_X0_choosePairs_l30 F o1 o3 l2 l4 l5 l6 u l7 = some z) (hc : ∀ s', z = .inl s' → ∀ w1, rg shC b u n w1 → rg_k b shC.length w w1 → pm_X gs ro M_X0_choosePairs 2 0 0 0 0 30 [some (.ref (b + 8)), some (.ref (b + o1)), some (.int l2), some (.ref (b + o3)), some (.int l4), some (.int l5), some (.int l6), some (.int s')] [] n w1 Q) (he0 : ∀ r', z = .inr r' → ∀ w1, rg shC b u n w1 → rg_k b shC.length w w1 → pm_X gs ro M_X0_choosePairs 2 0 0 0 0 84 [some (.ref (b + 8)), some (.ref (b + o1)), some (.int l2), some (.ref (b + o3)), some (.int l4), some (.int l5), some (.int l6), some (.int r')] [] n w1 Q) : pm_X gs ro M_X0_choosePairs 2 0 0 0 0 30 [some (.ref (b + 8)), some (.ref (b + o1)), some (.int l2), some (.ref (b + o3)), some (.int l4), some (.int l5), some (.int l6), some (.int l7)] [] n w1 Q := by
  unfold g_X0_choosePairs_l30 at h
  refine pm_iload dX0_choosePairs_30 rfl ?_
  refine pm_iload dX0_choosePairs_32 rfl ?_
  refine pm_icmp_ge (tgt := 84) dX0_choosePairs_34 (by decide) (fun c8 => ?_) (fun c8 => ?_)
  · replace h := it_t c8 h
    refine pm_lw (L' := [some (.ref (b + 8)), some (.ref (b + o1)), some (.int l2), some (.ref (b + o3)), some (.int l4), some (.int l5), some (.int l6), some (.int l7)]) ⟨Or.inr rfl, Or.inr rfl, Or.inr rfl, Or.inr rfl, Or.inr rfl, Or.inr rfl, Or.inr rfl, Or.inr rfl, trivial⟩ ?_
    exact he0 _ (Option.some.inj h).symm _ hR hk
  · replace h := it_f c8 h
    refine pm_aload_n dX0_choosePairs_37 rfl ?_
    refine pm_iload dX0_choosePairs_38 rfl ?_
    refine pm_aload_n dX0_choosePairs_40 rfl ?_
    refine pm_iload dX0_choosePairs_41 rfl ?_
    obtain ⟨r9, h10, h⟩ := ob_some h
    refine dx_cVp (j := o1) (M := M_X0_choosePairs) (Mc := M_X1_isLike) (dc := 1) (As := [.int l6, .ref (b + o3), .int l7]) (st := []) hR dX0_choosePairs_43 ml_X0_64 ⟨TX1, 4, rfl⟩ (sp_Calls_self hs1) (by decide) (Nat.le_of_ble_eq_true rfl) rfl (k_X1_isLike hR hs1 hs3 h10) ?_
    refine pm_if_eq (tgt := 78) dX0_choosePairs_46 (by decide) (fun c11 => ?_) (fun c11 => ?_)
    · replace h := it_t c11 h
      exact k_X0_choosePairs_j78 hR hk hs1 hs3 h hc he0
    · replace h := it_f c11 h
      refine pm_iconst (v := 1) dX0_choosePairs_49 (by decide) ?_
      refine pm_aload_n dX0_choosePairs_50 rfl ?_
      refine dx_gr (j := 8) (o := 9) hR dX0_choosePairs_51 fl_X0_11 rfl rfl ?_
      refine pm_iload dX0_choosePairs_54 rfl ?_
      refine pm_iconst (v := 1) dX0_choosePairs_56 (by decide) ?_
      refine pm_iadd dX0_choosePairs_57 ?_
      obtain ⟨c12, h⟩ := ck_some h
      cases q14 : (rQ u 9 (l6 + 1)) with
      | none =>
        replace h := om_n q14 h
        exact absurd h (by simp)
      | some o13 =>
        replace h := om_s q14 h
        obtain ⟨c22, h⟩ := ck_some h
        have hs_o13 := row_sp c22
        refine dx_rlS (j := 9) hR dX0_choosePairs_58 rfl (vp_in_iff.mpr c12) q14 ?_
        refine pm_iload dX0_choosePairs_59 rfl ?_
        refine pm_iconst (v := 1) dX0_choosePairs_61 (by decide) ?_
        refine pm_iadd dX0_choosePairs_62 ?_
        obtain ⟨c15, h⟩ := ck_some h
        refine dx_al (j := o13) hR dX0_choosePairs_63 hs_o13 (vp_in_iff.mpr c15) ?_
        refine pm_iadd dX0_choosePairs_64 ?_
        refine pm_aload_n dX0_choosePairs_65 rfl ?_
        refine dx_gr (j := 8) (o := 9) hR dX0_choosePairs_66 fl_X0_11 rfl rfl ?_
        refine pm_iload dX0_choosePairs_69 rfl ?_
        obtain ⟨c16, h⟩ := ck_some h
        cases q18 : (rQ u 9 l6) with
        | none =>
          replace h := om_n q18 h
          exact absurd h (by simp)
        | some o17 =>
          replace h := om_s q18 h
          obtain ⟨c21, h⟩ := ck_some h
          have hs_o17 := row_sp c21
          refine dx_rlS (j := 9) hR dX0_choosePairs_71 rfl (vp_in_iff.mpr c16) q18 ?_
          refine pm_iload dX0_choosePairs_72 rfl ?_
          obtain ⟨c19, h⟩ := ck_some h
          refine dx_al (j := o17) hR dX0_choosePairs_74 hs_o17 (vp_in_iff.mpr c19) ?_
          refine pm_icmp_eq (tgt := 84) dX0_choosePairs_75 (by decide) (fun c20 => ?_) (fun c20 => ?_)
          · replace h := it_t c20 h
            refine pm_lw (L' := [some (.ref (b + 8)), some (.ref (b + o1)), some (.int l2), some (.ref (b + o3)), some (.int l4), some (.int l5), some (.int l6), some (.int l7)]) ⟨Or.inr rfl, Or.inr rfl, Or.inr rfl, Or.inr rfl, Or.inr rfl, Or.inr rfl, Or.inr rfl, Or.inr rfl, trivial⟩ ?_
            exact he0 _ (Option.some.inj h).symm _ hR hk
          · replace h := it_f c20 h
            exact k_X0_choosePairs_j78 hR hk hs1 hs3 h hc he0
def g_X0_choosePairs_j129 (F : Nat) (o1 : Nat) (o3 : Nat) (l2 : Int32) (l4 : Int32) (l5 : Int32) (l6 : Int32) (u : rg_U) : Option ((Int32 × Int32 × rg_U) ⊕ rg_U) :=
  some (.inl (l5, (l6 + 1), u))
set_option maxHeartbeats 4000000 in
set_option maxRecDepth 100000 in
theorem k_X0_choosePairs_j129 {gs : List String} {ro : pm_RO} {n : Nat} {w w1 : Nat → va_E} {b : Nat} {u : rg_U} {F : Nat} {o1 : Nat} {o3 : Nat} {l2 : Int32} {l4 : Int32} {l5 : Int32} {l6 : Int32} {z : ((Int32 × Int32 × rg_U) ⊕ rg_U)} {Q : Option Value → Nat → (Nat → va_E) → Prop} (hR : rg shC b u n w1) (hk : rg_k b shC.length w w1) (hs1 : sp_Calls o1) (hs3 : sp_Calls o3) (h : g_X0_choosePairs_j129 F o1 o3 l2 l4 l5 l6 u = some z) (hc : ∀ s', z = .inl s' → ∀ w1, rg shC b s'.2.2 n w1 → rg_k b shC.length w w1 → pm_X gs ro M_X0_choosePairs 2 0 0 0 0 11 [some (.ref (b + 8)), some (.ref (b + o1)), some (.int l2), some (.ref (b + o3)), some (.int l4), some (.int s'.1), some (.int s'.2.1), none] [] n w1 Q) (he0 : ∀ r', z = .inr r' → ∀ w1, rg shC b r' n w1 → rg_k b shC.length w w1 → pm_X gs ro M_X0_choosePairs 2 0 0 0 0 135 [none, none, none, none, none, none, none, none] [] n w1 Q) : pm_X gs ro M_X0_choosePairs 2 0 0 0 0 129 [some (.ref (b + 8)), some (.ref (b + o1)), some (.int l2), some (.ref (b + o3)), some (.int l4), some (.int l5), some (.int l6), none] [] n w1 Q := by
  unfold g_X0_choosePairs_j129 at h
  refine pm_iinc (v := (l6 + 1)) dX0_choosePairs_129 rfl rfl (by decide) rfl rfl ?_
  refine pm_goto (tgt := 11) dX0_choosePairs_132 (by decide) ?_
  refine pm_lw (L' := [some (.ref (b + 8)), some (.ref (b + o1)), some (.int l2), some (.ref (b + o3)), some (.int l4), some (.int l5), some (.int (l6 + 1)), none]) ⟨Or.inr rfl, Or.inr rfl, Or.inr rfl, Or.inr rfl, Or.inr rfl, Or.inr rfl, Or.inr rfl, Or.inl rfl, trivial⟩ ?_
  exact hc _ (Option.some.inj h).symm _ hR hk
def g_X0_choosePairs_j84 (F : Nat) (o1 : Nat) (o3 : Nat) (l2 : Int32) (l4 : Int32) (l5 : Int32) (l6 : Int32) (l7 : Int32) (u : rg_U) : Option ((Int32 × Int32 × rg_U) ⊕ rg_U) :=
  if l4 ≤ l7 then (g_X0_choosePairs_j129 F o1 o3 l2 l4 l5 l6 u) else (ck (inb (rF u 8 3) 100) (lt1 (sA u 111 (rF u 8 3) l6) (fun u30 => ck (inb (rF u30 8 3) 100) (lt1 (sA u30 112 (rF u30 8 3) l7) (fun u36 => lt1 (sF u36 8 3 ((rF u36 8 3) + 1)) (fun u41 => g_X0_choosePairs_j129 F o1 o3 l2 l4 (l7 + 1) l6 u41))))))
set_option maxHeartbeats 4000000 in
set_option maxRecDepth 100000 in
theorem k_X0_choosePairs_j84 {gs : List String} {ro : pm_RO} {n : Nat} {w w1 : Nat → va_E} {b : Nat} {u : rg_U} {F : Nat} {o1 : Nat} {o3 : Nat} {l2 : Int32} {l4 : Int32} {l5 : Int32} {l6 : Int32} {l7 : Int32} {z : ((Int32 × Int32 × rg_U) ⊕ rg_U)} {Q : Option Value → Nat → (Nat → va_E) → Prop} (hR : rg shC b u n w1) (hk : rg_k b shC.length w w1) (hs1 : sp_Calls o1) (hs3 : sp_Calls o3) (h : g_X0_choosePairs_j84 F o1 o3 l2 l4 l5 l6 l7 u = some z) (hc : ∀ s', z = .inl s' → ∀ w1, rg shC b s'.2.2 n w1 → rg_k b shC.length w w1 → pm_X gs ro M_X0_choosePairs 2 0 0 0 0 11 [some (.ref (b + 8)), some (.ref (b + o1)), some (.int l2), some (.ref (b + o3)), some (.int l4), some (.int s'.1), some (.int s'.2.1), none] [] n w1 Q) (he0 : ∀ r', z = .inr r' → ∀ w1, rg shC b r' n w1 → rg_k b shC.length w w1 → pm_X gs ro M_X0_choosePairs 2 0 0 0 0 135 [none, none, none, none, none, none, none, none] [] n w1 Q) : pm_X gs ro M_X0_choosePairs 2 0 0 0 0 84 [some (.ref (b + 8)), some (.ref (b + o1)), some (.int l2), some (.ref (b + o3)), some (.int l4), some (.int l5), some (.int l6), some (.int l7)] [] n w1 Q := by
  unfold g_X0_choosePairs_j84 at h
  refine pm_iload dX0_choosePairs_84 rfl ?_
  refine pm_iload dX0_choosePairs_86 rfl ?_
  refine pm_icmp_ge (tgt := 129) dX0_choosePairs_88 (by decide) (fun c28 => ?_) (fun c28 => ?_)
  · replace h := it_t c28 h
    refine pm_lw (L' := [some (.ref (b + 8)), some (.ref (b + o1)), some (.int l2), some (.ref (b + o3)), some (.int l4), some (.int l5), some (.int l6), none]) ⟨Or.inr rfl, Or.inr rfl, Or.inr rfl, Or.inr rfl, Or.inr rfl, Or.inr rfl, Or.inr rfl, Or.inl rfl, trivial⟩ ?_
    exact k_X0_choosePairs_j129 hR hk hs1 hs3 h hc he0
  · replace h := it_f c28 h
    refine pm_aload_n dX0_choosePairs_91 rfl ?_
    refine dx_gr (j := 8) (o := 111) hR dX0_choosePairs_92 fl_X0_16 rfl rfl ?_
    refine pm_aload_n dX0_choosePairs_95 rfl ?_
    refine dx_gi (j := 8) hR dX0_choosePairs_96 fl_X0_23 rfl rfl ?_
    refine pm_iload dX0_choosePairs_99 rfl ?_
    obtain ⟨c29, h⟩ := ck_some h
    obtain ⟨u30, hu31, h⟩ := lt1_ex h
    refine dx_as (j := 111) hR hk dX0_choosePairs_101 rfl (vp_in_iff.mpr c29) hu31 (fun w32 hR33 hk34 => ?_)
    refine pm_aload_n dX0_choosePairs_102 rfl ?_
    refine dx_gr (j := 8) (o := 112) hR33 dX0_choosePairs_103 fl_X0_20 rfl rfl ?_
    refine pm_aload_n dX0_choosePairs_106 rfl ?_
    refine dx_gi (j := 8) hR33 dX0_choosePairs_107 fl_X0_23 rfl rfl ?_
    refine pm_iload dX0_choosePairs_110 rfl ?_
    obtain ⟨c35, h⟩ := ck_some h
    obtain ⟨u36, hu37, h⟩ := lt1_ex h
    refine dx_as (j := 112) hR33 hk34 dX0_choosePairs_112 rfl (vp_in_iff.mpr c35) hu37 (fun w38 hR39 hk40 => ?_)
    refine pm_aload_n dX0_choosePairs_113 rfl ?_
    refine pm_dup dX0_choosePairs_114 rfl ?_
    refine dx_gi (j := 8) hR39 dX0_choosePairs_115 fl_X0_23 rfl rfl ?_
    refine pm_iconst (v := 1) dX0_choosePairs_118 (by decide) ?_
    refine pm_iadd dX0_choosePairs_119 ?_
    obtain ⟨u41, hu42, h⟩ := lt1_ex h
    refine dx_pi (j := 8) hR39 hk40 dX0_choosePairs_120 fl_X0_23 rfl rfl hu42 (fun w43 hR44 hk45 => ?_)
    refine pm_iload dX0_choosePairs_123 rfl ?_
    refine pm_iconst (v := 1) dX0_choosePairs_125 (by decide) ?_
    refine pm_iadd dX0_choosePairs_126 ?_
    refine pm_istore dX0_choosePairs_127 (by decide) rfl rfl ?_
    refine pm_lw (L' := [some (.ref (b + 8)), some (.ref (b + o1)), some (.int l2), some (.ref (b + o3)), some (.int l4), some (.int (l7 + 1)), some (.int l6), none]) ⟨Or.inr rfl, Or.inr rfl, Or.inr rfl, Or.inr rfl, Or.inr rfl, Or.inr rfl, Or.inr rfl, Or.inl rfl, trivial⟩ ?_
    exact k_X0_choosePairs_j129 hR44 hk45 hs1 hs3 h hc he0
def g_X0_choosePairs_l11 (F : Nat) (o1 : Nat) (o3 : Nat) (l2 : Int32) (l4 : Int32) (l5 : Int32) (l6 : Int32) (u : rg_U) : Option ((Int32 × Int32 × rg_U) ⊕ rg_U) :=
  if l2 ≤ l6 then (some (.inr u)) else (if 100 ≤ (rF u 8 3) then (some (.inr u)) else (ob (lp (fun (s : Int32) => g_X0_choosePairs_l30 F o1 o3 l2 l4 l5 l6 u s) F (l5 : Int32)) (fun r23 => g_X0_choosePairs_j84 F o1 o3 l2 l4 l5 l6 r23 u)))
set_option maxHeartbeats 4000000 in
set_option maxRecDepth 100000 in
theorem k_X0_choosePairs_l11 {gs : List String} {ro : pm_RO} {n : Nat} {w w1 : Nat → va_E} {b : Nat} {u : rg_U} {F : Nat} {o1 : Nat} {o3 : Nat} {l2 : Int32} {l4 : Int32} {l5 : Int32} {l6 : Int32} {z : (Int32 × Int32 × rg_U) ⊕ rg_U} {Q : Option Value → Nat → (Nat → va_E) → Prop} (hR : rg shC b u n w1) (hk : rg_k b shC.length w w1) (hs1 : sp_Calls o1) (hs3 : sp_Calls o3) (h : g_X0_choosePairs_l11 F o1 o3 l2 l4 l5 l6 u = some z) (hc : ∀ s', z = .inl s' → ∀ w1, rg shC b s'.2.2 n w1 → rg_k b shC.length w w1 → pm_X gs ro M_X0_choosePairs 2 0 0 0 0 11 [some (.ref (b + 8)), some (.ref (b + o1)), some (.int l2), some (.ref (b + o3)), some (.int l4), some (.int s'.1), some (.int s'.2.1), none] [] n w1 Q) (he0 : ∀ r', z = .inr r' → ∀ w1, rg shC b r' n w1 → rg_k b shC.length w w1 → pm_X gs ro M_X0_choosePairs 2 0 0 0 0 135 [none, none, none, none, none, none, none, none] [] n w1 Q) : pm_X gs ro M_X0_choosePairs 2 0 0 0 0 11 [some (.ref (b + 8)), some (.ref (b + o1)), some (.int l2), some (.ref (b + o3)), some (.int l4), some (.int l5), some (.int l6), none] [] n w1 Q := by
  unfold g_X0_choosePairs_l11 at h
  refine pm_iload dX0_choosePairs_11 rfl ?_
  refine pm_iload_n dX0_choosePairs_13 rfl ?_
  refine pm_icmp_ge (tgt := 135) dX0_choosePairs_14 (by decide) (fun c6 => ?_) (fun c6 => ?_)
  · replace h := it_t c6 h
    refine pm_lw (L' := [none, none, none, none, none, none, none, none]) ⟨Or.inl rfl, Or.inl rfl, Or.inl rfl, Or.inl rfl, Or.inl rfl, Or.inl rfl, Or.inl rfl, Or.inl rfl, trivial⟩ ?_
    exact he0 _ (Option.some.inj h).symm _ hR hk
  · replace h := it_f c6 h
    refine pm_aload_n dX0_choosePairs_17 rfl ?_
    refine dx_gi (j := 8) hR dX0_choosePairs_18 fl_X0_23 rfl rfl ?_
    refine pm_bipush (v := 100) dX0_choosePairs_21 (by decide) ?_
    refine pm_icmp_ge (tgt := 135) dX0_choosePairs_23 (by decide) (fun c7 => ?_) (fun c7 => ?_)
    · replace h := it_t c7 h
      refine pm_lw (L' := [none, none, none, none, none, none, none, none]) ⟨Or.inl rfl, Or.inl rfl, Or.inl rfl, Or.inl rfl, Or.inl rfl, Or.inl rfl, Or.inl rfl, Or.inl rfl, trivial⟩ ?_
      exact he0 _ (Option.some.inj h).symm _ hR hk
    · replace h := it_f c7 h
      refine pm_iload dX0_choosePairs_26 rfl ?_
      refine pm_istore dX0_choosePairs_28 (by decide) rfl rfl ?_
      obtain ⟨r23, h24, h⟩ := ob_some h
      refine lp_sound (P := fun (s : Int32) => ∀ w1, rg shC b u n w1 → rg_k b shC.length w w1 → pm_X gs ro M_X0_choosePairs 2 0 0 0 0 30 [some (.ref (b + 8)), some (.ref (b + o1)), some (.int l2), some (.ref (b + o3)), some (.int l4), some (.int l5), some (.int l6), some (.int s)] [] n w1 Q) (E := (fun (r : Int32) => ∀ w1, rg shC b u n w1 → rg_k b shC.length w w1 → pm_X gs ro M_X0_choosePairs 2 0 0 0 0 84 [some (.ref (b + 8)), some (.ref (b + o1)), some (.int l2), some (.ref (b + o3)), some (.int l4), some (.int l5), some (.int l6), some (.int r)] [] n w1 Q)) (fun s x hx hc he w1 hR1 hk1 => k_X0_choosePairs_l30 hR1 hk1 hs1 hs3 hx hc (fun r q => he r q)) F _ r23 h24 ?_ _ hR hk
      intro w25 hR26 hk27
      exact k_X0_choosePairs_j84 hR26 hk27 hs1 hs3 h hc he0
def g_X0_choosePairs (F : Nat) (o1 : Nat) (x2 : Int32) (o3 : Nat) (x4 : Int32) (u : rg_U) : Option rg_U :=
  lt1 (sF u 8 3 0) (fun u1 => ob (lp (fun (s : (Int32 × Int32 × rg_U)) => g_X0_choosePairs_l11 F o1 o3 x2 x4 s.1 s.2.1 s.2.2) F ((0 : Int32), (0 : Int32), u1)) (fun r46 => some r46))
set_option maxHeartbeats 4000000 in
set_option maxRecDepth 100000 in
theorem k_X0_choosePairs {gs : List String} {ro : pm_RO} {n : Nat} {w : Nat → va_E} {b : Nat} {u : rg_U} {F : Nat} {o1 : Nat} {x2 : Int32} {o3 : Nat} {x4 : Int32} {z : rg_U} (hR : rg shC b u n w) (hs1 : sp_Calls o1) (hs3 : sp_Calls o3) (h : g_X0_choosePairs F o1 x2 o3 x4 u = some z) : pm_Met gs ro M_X0_choosePairs 2 0 0 [.ref (b + 8), .ref (b + o1), .int x2, .ref (b + o3), .int x4] n w (rg_post shC b n w none z) := by
  unfold g_X0_choosePairs at h
  refine pm_ofX in_X0_choosePairs (Nat.le_of_ble_eq_true rfl) rfl (L := [some (.ref (b + 8)), some (.ref (b + o1)), some (.int x2), some (.ref (b + o3)), some (.int x4), none, none, none]) rfl ?_
  refine pm_aload_n dX0_choosePairs_0 rfl ?_
  refine pm_iconst (v := 0) dX0_choosePairs_1 (by decide) ?_
  obtain ⟨u1, hu2, h⟩ := lt1_ex h
  refine dx_pi (j := 8) hR rg_k0 dX0_choosePairs_2 fl_X0_23 rfl rfl hu2 (fun w3 hR4 hk5 => ?_)
  refine pm_iconst (v := 0) dX0_choosePairs_5 (by decide) ?_
  refine pm_istore dX0_choosePairs_6 (by decide) rfl rfl ?_
  refine pm_iconst (v := 0) dX0_choosePairs_8 (by decide) ?_
  refine pm_istore dX0_choosePairs_9 (by decide) rfl rfl ?_
  obtain ⟨r46, h47, h⟩ := ob_some h
  refine lp_sound (P := fun (s : (Int32 × Int32 × rg_U)) => ∀ w1, rg shC b s.2.2 n w1 → rg_k b shC.length w w1 → pm_X gs ro M_X0_choosePairs 2 0 0 0 0 11 [some (.ref (b + 8)), some (.ref (b + o1)), some (.int x2), some (.ref (b + o3)), some (.int x4), some (.int s.1), some (.int s.2.1), none] [] n w1 (rg_post shC b n w none z)) (E := (fun (r : rg_U) => ∀ w1, rg shC b r n w1 → rg_k b shC.length w w1 → pm_X gs ro M_X0_choosePairs 2 0 0 0 0 135 [none, none, none, none, none, none, none, none] [] n w1 (rg_post shC b n w none z))) (fun s x hx hc he w1 hR1 hk1 => k_X0_choosePairs_l11 hR1 hk1 hs1 hs3 hx hc (fun r q => he r q)) F _ r46 h47 ?_ _ hR4 hk5
  intro w48 hR49 hk50
  cases h
  exact pm_vret dX0_choosePairs_135 rfl (Nat.le_refl _) (Nat.le_refl _) ⟨rfl, rfl, hR49, hk50⟩
def g_X0_lay (F : Nat) (o1 : Nat) (o2 : Nat) (u : rg_U) : Option rg_U :=
  ob (g_X0_countPairs F o1 (imin (rF u o1 3) 100) o2 (imin (rF u o2 3) 100) u) (fun r1 => ob (g_X0_choosePairs F o1 (imin (rF u o1 3) 100) o2 (imin (rF u o2 3) 100) r1) (fun r6 => some r6))
set_option maxHeartbeats 4000000 in
set_option maxRecDepth 100000 in
theorem k_X0_lay {gs : List String} {ro : pm_RO} {n : Nat} {w : Nat → va_E} {b : Nat} {u : rg_U} {F : Nat} {o1 : Nat} {o2 : Nat} {z : rg_U} (hR : rg shC b u n w) (hs1 : sp_Calls o1) (hs2 : sp_Calls o2) (h : g_X0_lay F o1 o2 u = some z) : pm_Met gs ro M_X0_lay 3 0 0 [.ref (b + 8), .ref (b + o1), .ref (b + o2)] n w (rg_post shC b n w none z) := by
  unfold g_X0_lay at h
  refine pm_ofX in_X0_lay (Nat.le_of_ble_eq_true rfl) rfl (L := [some (.ref (b + 8)), some (.ref (b + o1)), some (.ref (b + o2)), none, none]) rfl ?_
  refine pm_aload_n dX0_lay_0 rfl ?_
  refine dx_gi (j := o1) hR dX0_lay_1 fl_X0_37 (sp_Calls_self hs1) rfl ?_
  refine pm_bipush (v := 100) dX0_lay_4 (by decide) ?_
  refine pm_mmin (M := M_X0_lay) dX0_lay_6 mm_X0_42 mm_min_2 mm_init mm_min_4 (by decide) (Nat.le_refl _) (Nat.le_refl _) (Nat.le_of_ble_eq_true rfl) ?_
  refine pm_istore_n dX0_lay_9 (by decide) rfl rfl ?_
  refine pm_aload_n dX0_lay_10 rfl ?_
  refine dx_gi (j := o2) hR dX0_lay_11 fl_X0_37 (sp_Calls_self hs2) rfl ?_
  refine pm_bipush (v := 100) dX0_lay_14 (by decide) ?_
  refine pm_mmin (M := M_X0_lay) dX0_lay_16 mm_X0_42 mm_min_2 mm_init mm_min_4 (by decide) (Nat.le_refl _) (Nat.le_refl _) (Nat.le_of_ble_eq_true rfl) ?_
  refine pm_istore dX0_lay_19 (by decide) rfl rfl ?_
  refine pm_aload_n dX0_lay_21 rfl ?_
  refine pm_aload_n dX0_lay_22 rfl ?_
  refine pm_iload_n dX0_lay_23 rfl ?_
  refine pm_aload_n dX0_lay_24 rfl ?_
  refine pm_iload dX0_lay_25 rfl ?_
  obtain ⟨r1, h2, h⟩ := ob_some h
  refine dx_cVv (j := 8) (M := M_X0_lay) (Mc := M_X0_countPairs) (dc := 2) (As := [.ref (b + o1), .int (imin (rF u o1 3) 100), .ref (b + o2), .int (imin (rF u o2 3) 100)]) (st := []) hR rg_k0 dX0_lay_27 ml_X0_48 ⟨TX0, 6, rfl⟩ rfl (by decide) (Nat.le_of_ble_eq_true rfl) rfl (k_X0_countPairs hR hs1 hs2 h2) (fun w3 hR4 hk5 => ?_)
  refine pm_aload_n dX0_lay_30 rfl ?_
  refine pm_aload_n dX0_lay_31 rfl ?_
  refine pm_iload_n dX0_lay_32 rfl ?_
  refine pm_aload_n dX0_lay_33 rfl ?_
  refine pm_iload dX0_lay_34 rfl ?_
  obtain ⟨r6, h7, h⟩ := ob_some h
  refine dx_cVv (j := 8) (M := M_X0_lay) (Mc := M_X0_choosePairs) (dc := 2) (As := [.ref (b + o1), .int (imin (rF u o1 3) 100), .ref (b + o2), .int (imin (rF u o2 3) 100)]) (st := []) hR4 hk5 dX0_lay_36 ml_X0_52 ⟨TX0, 6, rfl⟩ rfl (by decide) (Nat.le_of_ble_eq_true rfl) rfl (k_X0_choosePairs hR4 hs1 hs2 h7) (fun w8 hR9 hk10 => ?_)
  cases h
  exact pm_vret dX0_lay_39 rfl (Nat.le_refl _) (Nat.le_refl _) ⟨rfl, rfl, hR9, hk10⟩
def g_X6_has (F : Nat) (o0 : Nat) (x1 : Int32) (u : rg_U) : Option Int32 :=
  if x1 < 0 then (some 0) else (if (rF u o0 11) ≤ x1 then (some 0) else (if 3800 ≤ x1 then (some 0) else (some 1)))
set_option maxHeartbeats 4000000 in
set_option maxRecDepth 100000 in
theorem k_X6_has {gs : List String} {ro : pm_RO} {n : Nat} {w : Nat → va_E} {b : Nat} {u : rg_U} {F : Nat} {o0 : Nat} {x1 : Int32} {z : Int32} (hR : rg shC b u n w) (hs0 : sp_Puts o0) (h : g_X6_has F o0 x1 u = some z) : pm_Met gs ro M_X6_has 0 0 0 [.ref (b + o0), .int x1] n w (pm_p n w (some (.int z))) := by
  unfold g_X6_has at h
  refine pm_ofX in_X6_has (Nat.le_of_ble_eq_true rfl) rfl (L := [some (.ref (b + o0)), some (.int x1)]) rfl ?_
  refine pm_iload_n dX6_has_0 rfl ?_
  refine pm_if_lt (tgt := 23) dX6_has_1 (by decide) (fun c1 => ?_) (fun c1 => ?_)
  · replace h := it_t c1 h
    refine pm_iconst (v := 0) dX6_has_23 (by decide) ?_
    cases h
    exact pm_zret dX6_has_24 rfl (Or.inl rfl) (Nat.le_refl _) (Nat.le_refl _) ⟨rfl, rfl, rfl⟩
  · replace h := it_f c1 h
    refine pm_iload_n dX6_has_4 rfl ?_
    refine pm_aload_n dX6_has_5 rfl ?_
    refine dx_gi (j := o0) hR dX6_has_6 fl_X6_45 (sp_Puts_self hs0) rfl ?_
    refine pm_icmp_ge (tgt := 23) dX6_has_9 (by decide) (fun c2 => ?_) (fun c2 => ?_)
    · replace h := it_t c2 h
      refine pm_iconst (v := 0) dX6_has_23 (by decide) ?_
      cases h
      exact pm_zret dX6_has_24 rfl (Or.inl rfl) (Nat.le_refl _) (Nat.le_refl _) ⟨rfl, rfl, rfl⟩
    · replace h := it_f c2 h
      refine pm_iload_n dX6_has_12 rfl ?_
      refine pm_sipush (v := 3800) dX6_has_13 (by decide) ?_
      refine pm_icmp_ge (tgt := 23) dX6_has_16 (by decide) (fun c3 => ?_) (fun c3 => ?_)
      · replace h := it_t c3 h
        refine pm_iconst (v := 0) dX6_has_23 (by decide) ?_
        cases h
        exact pm_zret dX6_has_24 rfl (Or.inl rfl) (Nat.le_refl _) (Nat.le_refl _) ⟨rfl, rfl, rfl⟩
      · replace h := it_f c3 h
        refine pm_iconst (v := 1) dX6_has_19 (by decide) ?_
        refine pm_goto (tgt := 24) dX6_has_20 (by decide) ?_
        cases h
        exact pm_zret dX6_has_24 rfl (Or.inr rfl) (Nat.le_refl _) (Nat.le_refl _) ⟨rfl, rfl, rfl⟩
def g_X6_timeOf (F : Nat) (o0 : Nat) (x1 : Int32) (u : rg_U) : Option Int32 :=
  ob (g_X6_has F o0 x1 u) (fun r1 => if r1 = 0 then (some 0) else (ck (inb x1 3800) (some (rA u (o0 + 1) x1))))
set_option maxHeartbeats 4000000 in
set_option maxRecDepth 100000 in
theorem k_X6_timeOf {gs : List String} {ro : pm_RO} {n : Nat} {w : Nat → va_E} {b : Nat} {u : rg_U} {F : Nat} {o0 : Nat} {x1 : Int32} {z : Int32} (hR : rg shC b u n w) (hs0 : sp_Puts o0) (h : g_X6_timeOf F o0 x1 u = some z) : pm_Met gs ro M_X6_timeOf 1 0 0 [.ref (b + o0), .int x1] n w (pm_p n w (some (.int z))) := by
  unfold g_X6_timeOf at h
  refine pm_ofX in_X6_timeOf (Nat.le_of_ble_eq_true rfl) rfl (L := [some (.ref (b + o0)), some (.int x1)]) rfl ?_
  refine pm_aload_n dX6_timeOf_0 rfl ?_
  refine pm_iload_n dX6_timeOf_1 rfl ?_
  obtain ⟨r1, h2, h⟩ := ob_some h
  refine dx_cVp (j := o0) (M := M_X6_timeOf) (Mc := M_X6_has) (dc := 0) (As := [.int x1]) (st := []) hR dX6_timeOf_2 ml_X6_59 ⟨TX6, 12, rfl⟩ (sp_Puts_self hs0) (by decide) (Nat.le_of_ble_eq_true rfl) rfl (k_X6_has hR hs0 h2) ?_
  refine pm_if_eq (tgt := 17) dX6_timeOf_5 (by decide) (fun c3 => ?_) (fun c3 => ?_)
  · replace h := it_t c3 h
    refine pm_iconst (v := 0) dX6_timeOf_17 (by decide) ?_
    cases h
    exact pm_iret dX6_timeOf_18 rfl (Nat.le_refl _) (Nat.le_refl _) ⟨rfl, rfl, rfl⟩
  · replace h := it_f c3 h
    refine pm_aload_n dX6_timeOf_8 rfl ?_
    refine dx_gr (j := o0) (o := (o0 + 1)) hR dX6_timeOf_9 fl_X6_9 (sp_Puts_self hs0) rfl ?_
    refine pm_iload_n dX6_timeOf_12 rfl ?_
    obtain ⟨c4, h⟩ := ck_some h
    refine dx_al (j := (o0 + 1)) hR dX6_timeOf_13 (sp_Puts_time hs0) (vp_in_iff.mpr c4) ?_
    refine pm_goto (tgt := 18) dX6_timeOf_14 (by decide) ?_
    cases h
    exact pm_iret dX6_timeOf_18 rfl (Nat.le_refl _) (Nat.le_refl _) ⟨rfl, rfl, rfl⟩
def g_X6_placeOf (F : Nat) (o0 : Nat) (x1 : Int32) (u : rg_U) : Option Int32 :=
  ob (g_X6_has F o0 x1 u) (fun r1 => if r1 = 0 then (some (-1)) else (ck (inb x1 3800) (some (rA u (o0 + 2) x1))))
set_option maxHeartbeats 4000000 in
set_option maxRecDepth 100000 in
theorem k_X6_placeOf {gs : List String} {ro : pm_RO} {n : Nat} {w : Nat → va_E} {b : Nat} {u : rg_U} {F : Nat} {o0 : Nat} {x1 : Int32} {z : Int32} (hR : rg shC b u n w) (hs0 : sp_Puts o0) (h : g_X6_placeOf F o0 x1 u = some z) : pm_Met gs ro M_X6_placeOf 1 0 0 [.ref (b + o0), .int x1] n w (pm_p n w (some (.int z))) := by
  unfold g_X6_placeOf at h
  refine pm_ofX in_X6_placeOf (Nat.le_of_ble_eq_true rfl) rfl (L := [some (.ref (b + o0)), some (.int x1)]) rfl ?_
  refine pm_aload_n dX6_placeOf_0 rfl ?_
  refine pm_iload_n dX6_placeOf_1 rfl ?_
  obtain ⟨r1, h2, h⟩ := ob_some h
  refine dx_cVp (j := o0) (M := M_X6_placeOf) (Mc := M_X6_has) (dc := 0) (As := [.int x1]) (st := []) hR dX6_placeOf_2 ml_X6_59 ⟨TX6, 12, rfl⟩ (sp_Puts_self hs0) (by decide) (Nat.le_of_ble_eq_true rfl) rfl (k_X6_has hR hs0 h2) ?_
  refine pm_if_eq (tgt := 17) dX6_placeOf_5 (by decide) (fun c3 => ?_) (fun c3 => ?_)
  · replace h := it_t c3 h
    refine pm_iconst (v := (-1)) dX6_placeOf_17 (by decide) ?_
    cases h
    exact pm_iret dX6_placeOf_18 rfl (Nat.le_refl _) (Nat.le_refl _) ⟨rfl, rfl, rfl⟩
  · replace h := it_f c3 h
    refine pm_aload_n dX6_placeOf_8 rfl ?_
    refine dx_gr (j := o0) (o := (o0 + 2)) hR dX6_placeOf_9 fl_X6_15 (sp_Puts_self hs0) rfl ?_
    refine pm_iload_n dX6_placeOf_12 rfl ?_
    obtain ⟨c4, h⟩ := ck_some h
    refine dx_al (j := (o0 + 2)) hR dX6_placeOf_13 (sp_Puts_place hs0) (vp_in_iff.mpr c4) ?_
    refine pm_goto (tgt := 18) dX6_placeOf_14 (by decide) ?_
    cases h
    exact pm_iret dX6_placeOf_18 rfl (Nat.le_refl _) (Nat.le_refl _) ⟨rfl, rfl, rfl⟩
def g_X0_goThrough_j48 (F : Nat) (o0 : Nat) (o3 N3 : Nat) (l2 : Int32) (l4 : Int32) (u : rg_U) : Option ((Int32 × rg_U) ⊕ (Int32 × rg_U)) :=
  some (.inl ((l4 + 1), u))
set_option maxHeartbeats 4000000 in
set_option maxRecDepth 100000 in
theorem k_X0_goThrough_j48 {gs : List String} {ro : pm_RO} {n : Nat} {w w1 : Nat → va_E} {b : Nat} {u : rg_U} {F : Nat} {o0 : Nat} {o3 N3 : Nat} {l2 : Int32} {l4 : Int32} {z : ((Int32 × rg_U) ⊕ (Int32 × rg_U))} {Q : Option Value → Nat → (Nat → va_E) → Prop} (hR : rg shC b u n w1) (hk : rg_k b shC.length w w1) (hs0 : sp_Puts o0) (hs3 : shC[o3]? = some (.inr (.inl (0, N3)))) (h : g_X0_goThrough_j48 F o0 o3 N3 l2 l4 u = some z) (hc : ∀ s', z = .inl s' → ∀ w1, rg shC b s'.2 n w1 → rg_k b shC.length w w1 → pm_X gs ro M_X0_goThrough 2 0 0 0 0 3 [some (.ref (b + o0)), none, some (.int l2), some (.ref (b + o3)), some (.int s'.1), none] [] n w1 Q) (he0 : ∀ r', z = .inr r' → ∀ w1, rg shC b r'.2 n w1 → rg_k b shC.length w w1 → pm_X gs ro M_X0_goThrough 2 0 0 0 0 54 [none, none, none, none, some (.int r'.1), none] [] n w1 Q) : pm_X gs ro M_X0_goThrough 2 0 0 0 0 48 [some (.ref (b + o0)), none, some (.int l2), some (.ref (b + o3)), some (.int l4), none] [] n w1 Q := by
  unfold g_X0_goThrough_j48 at h
  refine pm_iinc (v := (l4 + 1)) dX0_goThrough_48 rfl rfl (by decide) rfl rfl ?_
  refine pm_goto (tgt := 3) dX0_goThrough_51 (by decide) ?_
  refine pm_lw (L' := [some (.ref (b + o0)), none, some (.int l2), some (.ref (b + o3)), some (.int (l4 + 1)), none]) ⟨Or.inr rfl, Or.inl rfl, Or.inr rfl, Or.inr rfl, Or.inr rfl, Or.inl rfl, trivial⟩ ?_
  exact hc _ (Option.some.inj h).symm _ hR hk
def g_X0_goThrough_l3 (F : Nat) (o0 : Nat) (o3 N3 : Nat) (l2 : Int32) (l4 : Int32) (u : rg_U) : Option ((Int32 × rg_U) ⊕ (Int32 × rg_U)) :=
  if (rF u o0 11) ≤ l4 then (some (.inr (l4, u))) else (ob (g_X6_timeOf F o0 l4 u) (fun r2 => if l2 < r2 then (some (.inr (l4, u))) else (ob (g_X6_placeOf F o0 l4 u) (fun r5 => if r5 < 0 then (g_X0_goThrough_j48 F o0 o3 N3 l2 l4 u) else (if (Int32.ofNat N3) ≤ r5 then (g_X0_goThrough_j48 F o0 o3 N3 l2 l4 u) else (ck (inb r5 N3) (lt1 (sA u o3 r5 l4) (fun u10 => g_X0_goThrough_j48 F o0 o3 N3 l2 l4 u10))))))))
set_option maxHeartbeats 4000000 in
set_option maxRecDepth 100000 in
theorem k_X0_goThrough_l3 {gs : List String} {ro : pm_RO} {n : Nat} {w w1 : Nat → va_E} {b : Nat} {u : rg_U} {F : Nat} {o0 : Nat} {o3 N3 : Nat} {l2 : Int32} {l4 : Int32} {z : (Int32 × rg_U) ⊕ (Int32 × rg_U)} {Q : Option Value → Nat → (Nat → va_E) → Prop} (hR : rg shC b u n w1) (hk : rg_k b shC.length w w1) (hs0 : sp_Puts o0) (hs3 : shC[o3]? = some (.inr (.inl (0, N3)))) (h : g_X0_goThrough_l3 F o0 o3 N3 l2 l4 u = some z) (hc : ∀ s', z = .inl s' → ∀ w1, rg shC b s'.2 n w1 → rg_k b shC.length w w1 → pm_X gs ro M_X0_goThrough 2 0 0 0 0 3 [some (.ref (b + o0)), none, some (.int l2), some (.ref (b + o3)), some (.int s'.1), none] [] n w1 Q) (he0 : ∀ r', z = .inr r' → ∀ w1, rg shC b r'.2 n w1 → rg_k b shC.length w w1 → pm_X gs ro M_X0_goThrough 2 0 0 0 0 54 [none, none, none, none, some (.int r'.1), none] [] n w1 Q) : pm_X gs ro M_X0_goThrough 2 0 0 0 0 3 [some (.ref (b + o0)), none, some (.int l2), some (.ref (b + o3)), some (.int l4), none] [] n w1 Q := by
  unfold g_X0_goThrough_l3 at h
  refine pm_iload dX0_goThrough_3 rfl ?_
  refine pm_aload_n dX0_goThrough_5 rfl ?_
  refine dx_gi (j := o0) hR dX0_goThrough_6 fl_X0_93 (sp_Puts_self hs0) rfl ?_
  refine pm_icmp_ge (tgt := 54) dX0_goThrough_9 (by decide) (fun c1 => ?_) (fun c1 => ?_)
  · replace h := it_t c1 h
    refine pm_lw (L' := [none, none, none, none, some (.int l4), none]) ⟨Or.inl rfl, Or.inl rfl, Or.inl rfl, Or.inl rfl, Or.inr rfl, Or.inl rfl, trivial⟩ ?_
    exact he0 _ (Option.some.inj h).symm _ hR hk
  · replace h := it_f c1 h
    refine pm_aload_n dX0_goThrough_12 rfl ?_
    refine pm_iload dX0_goThrough_13 rfl ?_
    obtain ⟨r2, h3, h⟩ := ob_some h
    refine dx_cVp (j := o0) (M := M_X0_goThrough) (Mc := M_X6_timeOf) (dc := 1) (As := [.int l4]) (st := []) hR dX0_goThrough_15 ml_X0_96 ⟨TX6, 12, rfl⟩ (sp_Puts_self hs0) (by decide) (Nat.le_of_ble_eq_true rfl) rfl (k_X6_timeOf hR hs0 h3) ?_
    refine pm_iload_n dX0_goThrough_18 rfl ?_
    refine pm_icmp_gt (tgt := 54) dX0_goThrough_19 (by decide) (fun c4 => ?_) (fun c4 => ?_)
    · replace h := it_t c4 h
      refine pm_lw (L' := [none, none, none, none, some (.int l4), none]) ⟨Or.inl rfl, Or.inl rfl, Or.inl rfl, Or.inl rfl, Or.inr rfl, Or.inl rfl, trivial⟩ ?_
      exact he0 _ (Option.some.inj h).symm _ hR hk
    · replace h := it_f c4 h
      refine pm_aload_n dX0_goThrough_22 rfl ?_
      refine pm_iload dX0_goThrough_23 rfl ?_
      obtain ⟨r5, h6, h⟩ := ob_some h
      refine dx_cVp (j := o0) (M := M_X0_goThrough) (Mc := M_X6_placeOf) (dc := 1) (As := [.int l4]) (st := []) hR dX0_goThrough_25 ml_X0_99 ⟨TX6, 12, rfl⟩ (sp_Puts_self hs0) (by decide) (Nat.le_of_ble_eq_true rfl) rfl (k_X6_placeOf hR hs0 h6) ?_
      refine pm_istore dX0_goThrough_28 (by decide) rfl rfl ?_
      refine pm_iload dX0_goThrough_30 rfl ?_
      refine pm_if_lt (tgt := 48) dX0_goThrough_32 (by decide) (fun c7 => ?_) (fun c7 => ?_)
      · replace h := it_t c7 h
        refine pm_lw (L' := [some (.ref (b + o0)), none, some (.int l2), some (.ref (b + o3)), some (.int l4), none]) ⟨Or.inr rfl, Or.inl rfl, Or.inr rfl, Or.inr rfl, Or.inr rfl, Or.inl rfl, trivial⟩ ?_
        exact k_X0_goThrough_j48 hR hk hs0 hs3 h hc he0
      · replace h := it_f c7 h
        refine pm_iload dX0_goThrough_35 rfl ?_
        refine pm_aload_n dX0_goThrough_37 rfl ?_
        refine dx_len (j := o3) (v := (Int32.ofNat N3)) hR dX0_goThrough_38 hs3 (by first | decide | rfl) (by decide) ?_
        refine pm_icmp_ge (tgt := 48) dX0_goThrough_39 (by decide) (fun c8 => ?_) (fun c8 => ?_)
        · replace h := it_t c8 h
          refine pm_lw (L' := [some (.ref (b + o0)), none, some (.int l2), some (.ref (b + o3)), some (.int l4), none]) ⟨Or.inr rfl, Or.inl rfl, Or.inr rfl, Or.inr rfl, Or.inr rfl, Or.inl rfl, trivial⟩ ?_
          exact k_X0_goThrough_j48 hR hk hs0 hs3 h hc he0
        · replace h := it_f c8 h
          refine pm_aload_n dX0_goThrough_42 rfl ?_
          refine pm_iload dX0_goThrough_43 rfl ?_
          refine pm_iload dX0_goThrough_45 rfl ?_
          obtain ⟨c9, h⟩ := ck_some h
          obtain ⟨u10, hu11, h⟩ := lt1_ex h
          refine dx_as (j := o3) hR hk dX0_goThrough_47 hs3 (vp_in_iff.mpr c9) hu11 (fun w12 hR13 hk14 => ?_)
          refine pm_lw (L' := [some (.ref (b + o0)), none, some (.int l2), some (.ref (b + o3)), some (.int l4), none]) ⟨Or.inr rfl, Or.inl rfl, Or.inr rfl, Or.inr rfl, Or.inr rfl, Or.inl rfl, trivial⟩ ?_
          exact k_X0_goThrough_j48 hR13 hk14 hs0 hs3 h hc he0
def g_X0_goThrough (F : Nat) (o0 : Nat) (x1 : Int32) (x2 : Int32) (o3 N3 : Nat) (u : rg_U) : Option (Int32 × rg_U) :=
  ob (lp (fun (s : (Int32 × rg_U)) => g_X0_goThrough_l3 F o0 o3 N3 x2 s.1 s.2) F ((x1 : Int32), u)) (fun r15 => some (r15.1, r15.2))
set_option maxHeartbeats 4000000 in
set_option maxRecDepth 100000 in
theorem k_X0_goThrough {gs : List String} {ro : pm_RO} {n : Nat} {w : Nat → va_E} {b : Nat} {u : rg_U} {F : Nat} {o0 : Nat} {x1 : Int32} {x2 : Int32} {o3 N3 : Nat} {z : (Int32 × rg_U)} (hR : rg shC b u n w) (hs0 : sp_Puts o0) (hs3 : shC[o3]? = some (.inr (.inl (0, N3)))) (h : g_X0_goThrough F o0 x1 x2 o3 N3 u = some z) : pm_Met gs ro M_X0_goThrough 2 0 0 [.ref (b + o0), .int x1, .int x2, .ref (b + o3)] n w (rg_post shC b n w (some (.int z.1)) z.2) := by
  unfold g_X0_goThrough at h
  refine pm_ofX in_X0_goThrough (Nat.le_of_ble_eq_true rfl) rfl (L := [some (.ref (b + o0)), some (.int x1), some (.int x2), some (.ref (b + o3)), none, none]) rfl ?_
  refine pm_iload_n dX0_goThrough_0 rfl ?_
  refine pm_istore dX0_goThrough_1 (by decide) rfl rfl ?_
  refine pm_lw (L' := [some (.ref (b + o0)), none, some (.int x2), some (.ref (b + o3)), some (.int x1), none]) ⟨Or.inr rfl, Or.inl rfl, Or.inr rfl, Or.inr rfl, Or.inr rfl, Or.inl rfl, trivial⟩ ?_
  obtain ⟨r15, h16, h⟩ := ob_some h
  refine lp_sound (P := fun (s : (Int32 × rg_U)) => ∀ w1, rg shC b s.2 n w1 → rg_k b shC.length w w1 → pm_X gs ro M_X0_goThrough 2 0 0 0 0 3 [some (.ref (b + o0)), none, some (.int x2), some (.ref (b + o3)), some (.int s.1), none] [] n w1 (rg_post shC b n w (some (.int z.1)) z.2)) (E := (fun (r : (Int32 × rg_U)) => ∀ w1, rg shC b r.2 n w1 → rg_k b shC.length w w1 → pm_X gs ro M_X0_goThrough 2 0 0 0 0 54 [none, none, none, none, some (.int r.1), none] [] n w1 (rg_post shC b n w (some (.int z.1)) z.2))) (fun s x hx hc he w1 hR1 hk1 => k_X0_goThrough_l3 hR1 hk1 hs0 hs3 hx hc (fun r q => he r q)) F _ r15 h16 ?_ _ hR rg_k0
  intro w17 hR18 hk19
  refine pm_iload dX0_goThrough_54 rfl ?_
  cases h
  exact pm_iret dX0_goThrough_56 rfl (Nat.le_refl _) (Nat.le_refl _) ⟨rfl, rfl, hR18, hk19⟩
def g_X7_hasTime (F : Nat) (o0 : Nat) (x1 : Int32) (u : rg_U) : Option Int32 :=
  if x1 < 0 then (some 0) else (if (rF u o0 9) < x1 then (some 0) else (if 3000 < x1 then (some 0) else (some 1)))
set_option maxHeartbeats 4000000 in
set_option maxRecDepth 100000 in
theorem k_X7_hasTime {gs : List String} {ro : pm_RO} {n : Nat} {w : Nat → va_E} {b : Nat} {u : rg_U} {F : Nat} {o0 : Nat} {x1 : Int32} {z : Int32} (hR : rg shC b u n w) (hs0 : sp_Run o0) (h : g_X7_hasTime F o0 x1 u = some z) : pm_Met gs ro M_X7_hasTime 0 0 0 [.ref (b + o0), .int x1] n w (pm_p n w (some (.int z))) := by
  unfold g_X7_hasTime at h
  refine pm_ofX in_X7_hasTime (Nat.le_of_ble_eq_true rfl) rfl (L := [some (.ref (b + o0)), some (.int x1)]) rfl ?_
  refine pm_iload_n dX7_hasTime_0 rfl ?_
  refine pm_if_lt (tgt := 23) dX7_hasTime_1 (by decide) (fun c1 => ?_) (fun c1 => ?_)
  · replace h := it_t c1 h
    refine pm_iconst (v := 0) dX7_hasTime_23 (by decide) ?_
    cases h
    exact pm_zret dX7_hasTime_24 rfl (Or.inl rfl) (Nat.le_refl _) (Nat.le_refl _) ⟨rfl, rfl, rfl⟩
  · replace h := it_f c1 h
    refine pm_iload_n dX7_hasTime_4 rfl ?_
    refine pm_aload_n dX7_hasTime_5 rfl ?_
    refine dx_gi (j := o0) hR dX7_hasTime_6 fl_X7_59 (sp_Run_self hs0) rfl ?_
    refine pm_icmp_gt (tgt := 23) dX7_hasTime_9 (by decide) (fun c2 => ?_) (fun c2 => ?_)
    · replace h := it_t c2 h
      refine pm_iconst (v := 0) dX7_hasTime_23 (by decide) ?_
      cases h
      exact pm_zret dX7_hasTime_24 rfl (Or.inl rfl) (Nat.le_refl _) (Nat.le_refl _) ⟨rfl, rfl, rfl⟩
    · replace h := it_f c2 h
      refine pm_iload_n dX7_hasTime_12 rfl ?_
      refine pm_sipush (v := 3000) dX7_hasTime_13 (by decide) ?_
      refine pm_icmp_gt (tgt := 23) dX7_hasTime_16 (by decide) (fun c3 => ?_) (fun c3 => ?_)
      · replace h := it_t c3 h
        refine pm_iconst (v := 0) dX7_hasTime_23 (by decide) ?_
        cases h
        exact pm_zret dX7_hasTime_24 rfl (Or.inl rfl) (Nat.le_refl _) (Nat.le_refl _) ⟨rfl, rfl, rfl⟩
      · replace h := it_f c3 h
        refine pm_iconst (v := 1) dX7_hasTime_19 (by decide) ?_
        refine pm_goto (tgt := 24) dX7_hasTime_20 (by decide) ?_
        cases h
        exact pm_zret dX7_hasTime_24 rfl (Or.inr rfl) (Nat.le_refl _) (Nat.le_refl _) ⟨rfl, rfl, rfl⟩
def g_X7_counterAt (F : Nat) (o0 : Nat) (x1 : Int32) (u : rg_U) : Option Int32 :=
  ob (g_X7_hasTime F o0 x1 u) (fun r1 => if r1 = 0 then (some 0) else (ck (inb x1 3001) (some (rA u (o0 + 30) x1))))
set_option maxHeartbeats 4000000 in
set_option maxRecDepth 100000 in
theorem k_X7_counterAt {gs : List String} {ro : pm_RO} {n : Nat} {w : Nat → va_E} {b : Nat} {u : rg_U} {F : Nat} {o0 : Nat} {x1 : Int32} {z : Int32} (hR : rg shC b u n w) (hs0 : sp_Run o0) (h : g_X7_counterAt F o0 x1 u = some z) : pm_Met gs ro M_X7_counterAt 1 0 0 [.ref (b + o0), .int x1] n w (pm_p n w (some (.int z))) := by
  unfold g_X7_counterAt at h
  refine pm_ofX in_X7_counterAt (Nat.le_of_ble_eq_true rfl) rfl (L := [some (.ref (b + o0)), some (.int x1)]) rfl ?_
  refine pm_aload_n dX7_counterAt_0 rfl ?_
  refine pm_iload_n dX7_counterAt_1 rfl ?_
  obtain ⟨r1, h2, h⟩ := ob_some h
  refine dx_cVp (j := o0) (M := M_X7_counterAt) (Mc := M_X7_hasTime) (dc := 0) (As := [.int x1]) (st := []) hR dX7_counterAt_2 ml_X7_109 ⟨TX7, 15, rfl⟩ (sp_Run_self hs0) (by decide) (Nat.le_of_ble_eq_true rfl) rfl (k_X7_hasTime hR hs0 h2) ?_
  refine pm_if_eq (tgt := 17) dX7_counterAt_5 (by decide) (fun c3 => ?_) (fun c3 => ?_)
  · replace h := it_t c3 h
    refine pm_iconst (v := 0) dX7_counterAt_17 (by decide) ?_
    cases h
    exact pm_iret dX7_counterAt_18 rfl (Nat.le_refl _) (Nat.le_refl _) ⟨rfl, rfl, rfl⟩
  · replace h := it_f c3 h
    refine pm_aload_n dX7_counterAt_8 rfl ?_
    refine dx_gr (j := o0) (o := (o0 + 30)) hR dX7_counterAt_9 fl_X7_46 (sp_Run_self hs0) rfl ?_
    refine pm_iload_n dX7_counterAt_12 rfl ?_
    obtain ⟨c4, h⟩ := ck_some h
    refine dx_al (j := (o0 + 30)) hR dX7_counterAt_13 (sp_Run_counter hs0) (vp_in_iff.mpr c4) ?_
    refine pm_goto (tgt := 18) dX7_counterAt_14 (by decide) ?_
    cases h
    exact pm_iret dX7_counterAt_18 rfl (Nat.le_refl _) (Nat.le_refl _) ⟨rfl, rfl, rfl⟩
def g_X7_topAt (F : Nat) (o0 : Nat) (x1 : Int32) (u : rg_U) : Option Int32 :=
  ob (g_X7_hasTime F o0 x1 u) (fun r1 => if r1 = 0 then (some (-1)) else (ck (inb x1 3001) (some (rA u (o0 + 33) x1))))
set_option maxHeartbeats 4000000 in
set_option maxRecDepth 100000 in
theorem k_X7_topAt {gs : List String} {ro : pm_RO} {n : Nat} {w : Nat → va_E} {b : Nat} {u : rg_U} {F : Nat} {o0 : Nat} {x1 : Int32} {z : Int32} (hR : rg shC b u n w) (hs0 : sp_Run o0) (h : g_X7_topAt F o0 x1 u = some z) : pm_Met gs ro M_X7_topAt 1 0 0 [.ref (b + o0), .int x1] n w (pm_p n w (some (.int z))) := by
  unfold g_X7_topAt at h
  refine pm_ofX in_X7_topAt (Nat.le_of_ble_eq_true rfl) rfl (L := [some (.ref (b + o0)), some (.int x1)]) rfl ?_
  refine pm_aload_n dX7_topAt_0 rfl ?_
  refine pm_iload_n dX7_topAt_1 rfl ?_
  obtain ⟨r1, h2, h⟩ := ob_some h
  refine dx_cVp (j := o0) (M := M_X7_topAt) (Mc := M_X7_hasTime) (dc := 0) (As := [.int x1]) (st := []) hR dX7_topAt_2 ml_X7_109 ⟨TX7, 15, rfl⟩ (sp_Run_self hs0) (by decide) (Nat.le_of_ble_eq_true rfl) rfl (k_X7_hasTime hR hs0 h2) ?_
  refine pm_if_eq (tgt := 17) dX7_topAt_5 (by decide) (fun c3 => ?_) (fun c3 => ?_)
  · replace h := it_t c3 h
    refine pm_iconst (v := (-1)) dX7_topAt_17 (by decide) ?_
    cases h
    exact pm_iret dX7_topAt_18 rfl (Nat.le_refl _) (Nat.le_refl _) ⟨rfl, rfl, rfl⟩
  · replace h := it_f c3 h
    refine pm_aload_n dX7_topAt_8 rfl ?_
    refine dx_gr (j := o0) (o := (o0 + 33)) hR dX7_topAt_9 fl_X7_56 (sp_Run_self hs0) rfl ?_
    refine pm_iload_n dX7_topAt_12 rfl ?_
    obtain ⟨c4, h⟩ := ck_some h
    refine dx_al (j := (o0 + 33)) hR dX7_topAt_13 (sp_Run_top hs0) (vp_in_iff.mpr c4) ?_
    refine pm_goto (tgt := 18) dX7_topAt_14 (by decide) ?_
    cases h
    exact pm_iret dX7_topAt_18 rfl (Nat.le_refl _) (Nat.le_refl _) ⟨rfl, rfl, rfl⟩
def g_X7_hasStackLike_l16 (F : Nat) (o0 : Nat) (o2 : Nat) (u : rg_U) (l3 : Int32) (l4 : Int32) (l5 : Int32) : Option ((Int32 × Int32 × Int32) ⊕ (Unit ⊕ (Int32 × Int32))) :=
  if 8 ≤ l5 then (some (.inr (Sum.inr (l3, l4)))) else (if l3 = (-1) then (some (.inr (Sum.inr (l3, l4)))) else (if l4 = (-1) then (some (.inr (Sum.inr (l3, l4)))) else (ob (g_X7_counterAt F o0 l3 u) (fun r8 => ob (g_X7_counterAt F o2 l4 u) (fun r10 => if r8 = r10 then (ob (g_X7_topAt F o0 l3 u) (fun r13 => ob (g_X7_topAt F o2 l4 u) (fun r15 => some (.inl (r13, r15, (l5 + 1)))))) else (some (.inr (Sum.inl ()))))))))
set_option maxHeartbeats 4000000 in
set_option maxRecDepth 100000 in
theorem k_X7_hasStackLike_l16 {gs : List String} {ro : pm_RO} {n : Nat} {w : Nat → va_E} {b : Nat} {u : rg_U} {F : Nat} {o0 : Nat} {o2 : Nat} {l3 : Int32} {l4 : Int32} {l5 : Int32} {z : (Int32 × Int32 × Int32) ⊕ (Unit ⊕ (Int32 × Int32))} {Q : Option Value → Nat → (Nat → va_E) → Prop} (hR : rg shC b u n w) (hs0 : sp_Run o0) (hs2 : sp_Run o2) (h : g_X7_hasStackLike_l16 F o0 o2 u l3 l4 l5 = some z) (hc : ∀ s', z = .inl s' → pm_X gs ro M_X7_hasStackLike 2 0 0 0 0 16 [some (.ref (b + o0)), none, some (.ref (b + o2)), some (.int s'.1), some (.int s'.2.1), some (.int s'.2.2)] [] n w Q) (he0 : ∀ r', z = .inr (Sum.inl r') → pm_X gs ro M_X7_hasStackLike 2 0 0 0 0 48 [none, none, none, none, none, none] [] n w Q) (he1 : ∀ r', z = .inr (Sum.inr r') → pm_X gs ro M_X7_hasStackLike 2 0 0 0 0 70 [none, none, none, some (.int r'.1), some (.int r'.2), none] [] n w Q) : pm_X gs ro M_X7_hasStackLike 2 0 0 0 0 16 [some (.ref (b + o0)), none, some (.ref (b + o2)), some (.int l3), some (.int l4), some (.int l5)] [] n w Q := by
  unfold g_X7_hasStackLike_l16 at h
  refine pm_iload dX7_hasStackLike_16 rfl ?_
  refine pm_bipush (v := 8) dX7_hasStackLike_18 (by decide) ?_
  refine pm_icmp_ge (tgt := 70) dX7_hasStackLike_20 (by decide) (fun c5 => ?_) (fun c5 => ?_)
  · replace h := it_t c5 h
    refine pm_lw (L' := [none, none, none, some (.int l3), some (.int l4), none]) ⟨Or.inl rfl, Or.inl rfl, Or.inl rfl, Or.inr rfl, Or.inr rfl, Or.inl rfl, trivial⟩ ?_
    exact he1 _ (Option.some.inj h).symm
  · replace h := it_f c5 h
    refine pm_iload_n dX7_hasStackLike_23 rfl ?_
    refine pm_iconst (v := (-1)) dX7_hasStackLike_24 (by decide) ?_
    refine pm_icmp_eq (tgt := 70) dX7_hasStackLike_25 (by decide) (fun c6 => ?_) (fun c6 => ?_)
    · replace h := it_t c6 h
      refine pm_lw (L' := [none, none, none, some (.int l3), some (.int l4), none]) ⟨Or.inl rfl, Or.inl rfl, Or.inl rfl, Or.inr rfl, Or.inr rfl, Or.inl rfl, trivial⟩ ?_
      exact he1 _ (Option.some.inj h).symm
    · replace h := it_f c6 h
      refine pm_iload dX7_hasStackLike_28 rfl ?_
      refine pm_iconst (v := (-1)) dX7_hasStackLike_30 (by decide) ?_
      refine pm_icmp_eq (tgt := 70) dX7_hasStackLike_31 (by decide) (fun c7 => ?_) (fun c7 => ?_)
      · replace h := it_t c7 h
        refine pm_lw (L' := [none, none, none, some (.int l3), some (.int l4), none]) ⟨Or.inl rfl, Or.inl rfl, Or.inl rfl, Or.inr rfl, Or.inr rfl, Or.inl rfl, trivial⟩ ?_
        exact he1 _ (Option.some.inj h).symm
      · replace h := it_f c7 h
        refine pm_aload_n dX7_hasStackLike_34 rfl ?_
        refine pm_iload_n dX7_hasStackLike_35 rfl ?_
        obtain ⟨r8, h9, h⟩ := ob_some h
        refine dx_cVp (j := o0) (M := M_X7_hasStackLike) (Mc := M_X7_counterAt) (dc := 1) (As := [.int l3]) (st := []) hR dX7_hasStackLike_36 ml_X7_121 ⟨TX7, 15, rfl⟩ (sp_Run_self hs0) (by decide) (Nat.le_of_ble_eq_true rfl) rfl (k_X7_counterAt hR hs0 h9) ?_
        refine pm_aload_n dX7_hasStackLike_39 rfl ?_
        refine pm_iload dX7_hasStackLike_40 rfl ?_
        obtain ⟨r10, h11, h⟩ := ob_some h
        refine dx_cVp (j := o2) (M := M_X7_hasStackLike) (Mc := M_X7_counterAt) (dc := 1) (As := [.int l4]) (st := [.int r8]) hR dX7_hasStackLike_42 ml_X7_121 ⟨TX7, 15, rfl⟩ (sp_Run_self hs2) (by decide) (Nat.le_of_ble_eq_true rfl) rfl (k_X7_counterAt hR hs2 h11) ?_
        refine pm_icmp_eq (tgt := 50) dX7_hasStackLike_45 (by decide) (fun c12 => ?_) (fun c12 => ?_)
        · replace h := it_t c12 h
          refine pm_aload_n dX7_hasStackLike_50 rfl ?_
          refine pm_iload_n dX7_hasStackLike_51 rfl ?_
          obtain ⟨r13, h14, h⟩ := ob_some h
          refine dx_cVp (j := o0) (M := M_X7_hasStackLike) (Mc := M_X7_topAt) (dc := 1) (As := [.int l3]) (st := []) hR dX7_hasStackLike_52 ml_X7_113 ⟨TX7, 15, rfl⟩ (sp_Run_self hs0) (by decide) (Nat.le_of_ble_eq_true rfl) rfl (k_X7_topAt hR hs0 h14) ?_
          refine pm_istore_n dX7_hasStackLike_55 (by decide) rfl rfl ?_
          refine pm_aload_n dX7_hasStackLike_56 rfl ?_
          refine pm_iload dX7_hasStackLike_57 rfl ?_
          obtain ⟨r15, h16, h⟩ := ob_some h
          refine dx_cVp (j := o2) (M := M_X7_hasStackLike) (Mc := M_X7_topAt) (dc := 1) (As := [.int l4]) (st := []) hR dX7_hasStackLike_59 ml_X7_113 ⟨TX7, 15, rfl⟩ (sp_Run_self hs2) (by decide) (Nat.le_of_ble_eq_true rfl) rfl (k_X7_topAt hR hs2 h16) ?_
          refine pm_istore dX7_hasStackLike_62 (by decide) rfl rfl ?_
          refine pm_iinc (v := (l5 + 1)) dX7_hasStackLike_64 rfl rfl (by decide) rfl rfl ?_
          refine pm_goto (tgt := 16) dX7_hasStackLike_67 (by decide) ?_
          refine pm_lw (L' := [some (.ref (b + o0)), none, some (.ref (b + o2)), some (.int r13), some (.int r15), some (.int (l5 + 1))]) ⟨Or.inr rfl, Or.inl rfl, Or.inr rfl, Or.inr rfl, Or.inr rfl, Or.inr rfl, trivial⟩ ?_
          exact hc _ (Option.some.inj h).symm
        · replace h := it_f c12 h
          refine pm_lw (L' := [none, none, none, none, none, none]) ⟨Or.inl rfl, Or.inl rfl, Or.inl rfl, Or.inl rfl, Or.inl rfl, Or.inl rfl, trivial⟩ ?_
          exact he0 _ (Option.some.inj h).symm
def g_X7_hasStackLike_j70 (F : Nat) (l3 : Int32) (l4 : Int32) (u : rg_U) : Option Int32 :=
  if l3 = (-1) then (if l4 = (-1) then (some 1) else (some 0)) else (some 0)
set_option maxHeartbeats 4000000 in
set_option maxRecDepth 100000 in
theorem k_X7_hasStackLike_j70 {gs : List String} {ro : pm_RO} {n : Nat} {w : Nat → va_E} {b : Nat} {u : rg_U} {F : Nat} {l3 : Int32} {l4 : Int32} {z : Int32} (hR : rg shC b u n w) (h : g_X7_hasStackLike_j70 F l3 l4 u = some z) : pm_X gs ro M_X7_hasStackLike 2 0 0 0 0 70 [none, none, none, some (.int l3), some (.int l4), none] [] n w (pm_p n w (some (.int z))) := by
  unfold g_X7_hasStackLike_j70 at h
  refine pm_iload_n dX7_hasStackLike_70 rfl ?_
  refine pm_iconst (v := (-1)) dX7_hasStackLike_71 (by decide) ?_
  refine pm_icmp_ne (tgt := 85) dX7_hasStackLike_72 (by decide) (fun c21 => ?_) (fun c21 => ?_)
  · replace h := it_f c21 h
    refine pm_iconst (v := 0) dX7_hasStackLike_85 (by decide) ?_
    cases h
    exact pm_zret dX7_hasStackLike_86 rfl (Or.inl rfl) (Nat.le_refl _) (Nat.le_refl _) ⟨rfl, rfl, rfl⟩
  · replace h := it_t c21 h
    refine pm_iload dX7_hasStackLike_75 rfl ?_
    refine pm_iconst (v := (-1)) dX7_hasStackLike_77 (by decide) ?_
    refine pm_icmp_ne (tgt := 85) dX7_hasStackLike_78 (by decide) (fun c22 => ?_) (fun c22 => ?_)
    · replace h := it_f c22 h
      refine pm_iconst (v := 0) dX7_hasStackLike_85 (by decide) ?_
      cases h
      exact pm_zret dX7_hasStackLike_86 rfl (Or.inl rfl) (Nat.le_refl _) (Nat.le_refl _) ⟨rfl, rfl, rfl⟩
    · replace h := it_t c22 h
      refine pm_iconst (v := 1) dX7_hasStackLike_81 (by decide) ?_
      refine pm_goto (tgt := 86) dX7_hasStackLike_82 (by decide) ?_
      cases h
      exact pm_zret dX7_hasStackLike_86 rfl (Or.inr rfl) (Nat.le_refl _) (Nat.le_refl _) ⟨rfl, rfl, rfl⟩
def g_X7_hasStackLike (F : Nat) (o0 : Nat) (x1 : Int32) (o2 : Nat) (u : rg_U) : Option Int32 :=
  ob (g_X7_topAt F o0 x1 u) (fun r1 => ob (g_X7_topAt F o2 x1 u) (fun r3 => ob (lp (fun (s : (Int32 × Int32 × Int32)) => g_X7_hasStackLike_l16 F o0 o2 u s.1 s.2.1 s.2.2) F ((r1 : Int32), (r3 : Int32), (0 : Int32))) (fun r17 => os r17 (fun r19 => some 0) (fun r20 => g_X7_hasStackLike_j70 F r20.1 r20.2 u))))
set_option maxHeartbeats 4000000 in
set_option maxRecDepth 100000 in
theorem k_X7_hasStackLike {gs : List String} {ro : pm_RO} {n : Nat} {w : Nat → va_E} {b : Nat} {u : rg_U} {F : Nat} {o0 : Nat} {x1 : Int32} {o2 : Nat} {z : Int32} (hR : rg shC b u n w) (hs0 : sp_Run o0) (hs2 : sp_Run o2) (h : g_X7_hasStackLike F o0 x1 o2 u = some z) : pm_Met gs ro M_X7_hasStackLike 2 0 0 [.ref (b + o0), .int x1, .ref (b + o2)] n w (pm_p n w (some (.int z))) := by
  unfold g_X7_hasStackLike at h
  refine pm_ofX in_X7_hasStackLike (Nat.le_of_ble_eq_true rfl) rfl (L := [some (.ref (b + o0)), some (.int x1), some (.ref (b + o2)), none, none, none]) rfl ?_
  refine pm_aload_n dX7_hasStackLike_0 rfl ?_
  refine pm_iload_n dX7_hasStackLike_1 rfl ?_
  obtain ⟨r1, h2, h⟩ := ob_some h
  refine dx_cVp (j := o0) (M := M_X7_hasStackLike) (Mc := M_X7_topAt) (dc := 1) (As := [.int x1]) (st := []) hR dX7_hasStackLike_2 ml_X7_113 ⟨TX7, 15, rfl⟩ (sp_Run_self hs0) (by decide) (Nat.le_of_ble_eq_true rfl) rfl (k_X7_topAt hR hs0 h2) ?_
  refine pm_istore_n dX7_hasStackLike_5 (by decide) rfl rfl ?_
  refine pm_aload_n dX7_hasStackLike_6 rfl ?_
  refine pm_iload_n dX7_hasStackLike_7 rfl ?_
  obtain ⟨r3, h4, h⟩ := ob_some h
  refine dx_cVp (j := o2) (M := M_X7_hasStackLike) (Mc := M_X7_topAt) (dc := 1) (As := [.int x1]) (st := []) hR dX7_hasStackLike_8 ml_X7_113 ⟨TX7, 15, rfl⟩ (sp_Run_self hs2) (by decide) (Nat.le_of_ble_eq_true rfl) rfl (k_X7_topAt hR hs2 h4) ?_
  refine pm_istore dX7_hasStackLike_11 (by decide) rfl rfl ?_
  refine pm_iconst (v := 0) dX7_hasStackLike_13 (by decide) ?_
  refine pm_istore dX7_hasStackLike_14 (by decide) rfl rfl ?_
  refine pm_lw (L' := [some (.ref (b + o0)), none, some (.ref (b + o2)), some (.int r1), some (.int r3), some (.int 0)]) ⟨Or.inr rfl, Or.inl rfl, Or.inr rfl, Or.inr rfl, Or.inr rfl, Or.inr rfl, trivial⟩ ?_
  obtain ⟨r17, h18, h⟩ := ob_some h
  refine lp_sound (P := fun (s : (Int32 × Int32 × Int32)) => pm_X gs ro M_X7_hasStackLike 2 0 0 0 0 16 [some (.ref (b + o0)), none, some (.ref (b + o2)), some (.int s.1), some (.int s.2.1), some (.int s.2.2)] [] n w (pm_p n w (some (.int z)))) (E := (Sum.elim (fun (r : Unit) => pm_X gs ro M_X7_hasStackLike 2 0 0 0 0 48 [none, none, none, none, none, none] [] n w (pm_p n w (some (.int z)))) (fun (r : (Int32 × Int32)) => pm_X gs ro M_X7_hasStackLike 2 0 0 0 0 70 [none, none, none, some (.int r.1), some (.int r.2), none] [] n w (pm_p n w (some (.int z)))))) (fun s x hx hc he => k_X7_hasStackLike_l16 hR hs0 hs2 hx hc (fun r q => he (Sum.inl r) q) (fun r q => he (Sum.inr r) q)) F _ r17 h18 ?_
  cases r17 with
  | inl r19 =>
    replace h := os_l h
    refine pm_iconst (v := 0) dX7_hasStackLike_48 (by decide) ?_
    cases h
    exact pm_zret dX7_hasStackLike_49 rfl (Or.inl rfl) (Nat.le_refl _) (Nat.le_refl _) ⟨rfl, rfl, rfl⟩
  | inr r20 =>
    replace h := os_r h
    exact k_X7_hasStackLike_j70 hR h
def g_X9_isPlace (x0 : Int32) : Int32 :=
  if x0 < 0 then (0) else (if 40 ≤ x0 then (0) else (1))
theorem g_X9_isPlace_b {x0 : Int32} : g_X9_isPlace x0 = 0 ∨ g_X9_isPlace x0 = 1 := by
  unfold g_X9_isPlace
  repeat' (first | exact Or.inl rfl | exact Or.inr rfl | refine it_b ?_ ?_)
set_option maxHeartbeats 4000000 in
set_option maxRecDepth 100000 in
theorem k_X9_isPlace {gs : List String} {ro : pm_RO} {n : Nat} {w : Nat → va_E} {x0 : Int32} {z : Int32} (h : g_X9_isPlace x0 = z) : pm_Met gs ro M_X9_isPlace 0 0 0 [.int x0] n w (pm_p n w (some (.int z))) := by
  unfold g_X9_isPlace at h
  refine pm_ofX in_X9_isPlace (Nat.le_of_ble_eq_true rfl) rfl (L := [some (.int x0)]) rfl ?_
  refine pm_iload_n dX9_isPlace_0 rfl ?_
  refine pm_if_lt (tgt := 14) dX9_isPlace_1 (by decide) (fun c1 => ?_) (fun c1 => ?_)
  · replace h := it_t c1 h
    refine pm_iconst (v := 0) dX9_isPlace_14 (by decide) ?_
    subst h
    exact pm_zret dX9_isPlace_15 rfl (Or.inl rfl) (Nat.le_refl _) (Nat.le_refl _) ⟨rfl, rfl, rfl⟩
  · replace h := it_f c1 h
    refine pm_iload_n dX9_isPlace_4 rfl ?_
    refine pm_bipush (v := 40) dX9_isPlace_5 (by decide) ?_
    refine pm_icmp_ge (tgt := 14) dX9_isPlace_7 (by decide) (fun c2 => ?_) (fun c2 => ?_)
    · replace h := it_t c2 h
      refine pm_iconst (v := 0) dX9_isPlace_14 (by decide) ?_
      subst h
      exact pm_zret dX9_isPlace_15 rfl (Or.inl rfl) (Nat.le_refl _) (Nat.le_refl _) ⟨rfl, rfl, rfl⟩
    · replace h := it_f c2 h
      refine pm_iconst (v := 1) dX9_isPlace_10 (by decide) ?_
      refine pm_goto (tgt := 15) dX9_isPlace_11 (by decide) ?_
      subst h
      exact pm_zret dX9_isPlace_15 rfl (Or.inr rfl) (Nat.le_refl _) (Nat.le_refl _) ⟨rfl, rfl, rfl⟩
def g_X6_sortOf (F : Nat) (o0 : Nat) (x1 : Int32) (u : rg_U) : Option Int32 :=
  if x1 < 0 then (some 0) else (if (rF u o0 11) ≤ x1 then (some 0) else (if 3800 ≤ x1 then (some 0) else (ck (inb x1 3800) (some (rA u (o0 + 3) x1)))))
set_option maxHeartbeats 4000000 in
set_option maxRecDepth 100000 in
theorem k_X6_sortOf {gs : List String} {ro : pm_RO} {n : Nat} {w : Nat → va_E} {b : Nat} {u : rg_U} {F : Nat} {o0 : Nat} {x1 : Int32} {z : Int32} (hR : rg shC b u n w) (hs0 : sp_Puts o0) (h : g_X6_sortOf F o0 x1 u = some z) : pm_Met gs ro M_X6_sortOf 0 0 0 [.ref (b + o0), .int x1] n w (pm_p n w (some (.int z))) := by
  unfold g_X6_sortOf at h
  refine pm_ofX in_X6_sortOf (Nat.le_of_ble_eq_true rfl) rfl (L := [some (.ref (b + o0)), some (.int x1)]) rfl ?_
  refine pm_iload_n dX6_sortOf_0 rfl ?_
  refine pm_if_lt (tgt := 28) dX6_sortOf_1 (by decide) (fun c1 => ?_) (fun c1 => ?_)
  · replace h := it_t c1 h
    refine pm_iconst (v := 0) dX6_sortOf_28 (by decide) ?_
    cases h
    exact pm_iret dX6_sortOf_29 rfl (Nat.le_refl _) (Nat.le_refl _) ⟨rfl, rfl, rfl⟩
  · replace h := it_f c1 h
    refine pm_iload_n dX6_sortOf_4 rfl ?_
    refine pm_aload_n dX6_sortOf_5 rfl ?_
    refine dx_gi (j := o0) hR dX6_sortOf_6 fl_X6_45 (sp_Puts_self hs0) rfl ?_
    refine pm_icmp_ge (tgt := 28) dX6_sortOf_9 (by decide) (fun c2 => ?_) (fun c2 => ?_)
    · replace h := it_t c2 h
      refine pm_iconst (v := 0) dX6_sortOf_28 (by decide) ?_
      cases h
      exact pm_iret dX6_sortOf_29 rfl (Nat.le_refl _) (Nat.le_refl _) ⟨rfl, rfl, rfl⟩
    · replace h := it_f c2 h
      refine pm_iload_n dX6_sortOf_12 rfl ?_
      refine pm_sipush (v := 3800) dX6_sortOf_13 (by decide) ?_
      refine pm_icmp_ge (tgt := 28) dX6_sortOf_16 (by decide) (fun c3 => ?_) (fun c3 => ?_)
      · replace h := it_t c3 h
        refine pm_iconst (v := 0) dX6_sortOf_28 (by decide) ?_
        cases h
        exact pm_iret dX6_sortOf_29 rfl (Nat.le_refl _) (Nat.le_refl _) ⟨rfl, rfl, rfl⟩
      · replace h := it_f c3 h
        refine pm_aload_n dX6_sortOf_19 rfl ?_
        refine dx_gr (j := o0) (o := (o0 + 3)) hR dX6_sortOf_20 fl_X6_18 (sp_Puts_self hs0) rfl ?_
        refine pm_iload_n dX6_sortOf_23 rfl ?_
        obtain ⟨c4, h⟩ := ck_some h
        refine dx_al (j := (o0 + 3)) hR dX6_sortOf_24 (sp_Puts_sort hs0) (vp_in_iff.mpr c4) ?_
        refine pm_goto (tgt := 29) dX6_sortOf_25 (by decide) ?_
        cases h
        exact pm_iret dX6_sortOf_29 rfl (Nat.le_refl _) (Nat.le_refl _) ⟨rfl, rfl, rfl⟩
def g_X6_numberOf (F : Nat) (o0 : Nat) (x1 : Int32) (u : rg_U) : Option Int32 :=
  if x1 < 0 then (some 0) else (if (rF u o0 11) ≤ x1 then (some 0) else (if 3800 ≤ x1 then (some 0) else (ck (inb x1 3800) (some (rA u (o0 + 4) x1)))))
set_option maxHeartbeats 4000000 in
set_option maxRecDepth 100000 in
theorem k_X6_numberOf {gs : List String} {ro : pm_RO} {n : Nat} {w : Nat → va_E} {b : Nat} {u : rg_U} {F : Nat} {o0 : Nat} {x1 : Int32} {z : Int32} (hR : rg shC b u n w) (hs0 : sp_Puts o0) (h : g_X6_numberOf F o0 x1 u = some z) : pm_Met gs ro M_X6_numberOf 0 0 0 [.ref (b + o0), .int x1] n w (pm_p n w (some (.int z))) := by
  unfold g_X6_numberOf at h
  refine pm_ofX in_X6_numberOf (Nat.le_of_ble_eq_true rfl) rfl (L := [some (.ref (b + o0)), some (.int x1)]) rfl ?_
  refine pm_iload_n dX6_numberOf_0 rfl ?_
  refine pm_if_lt (tgt := 28) dX6_numberOf_1 (by decide) (fun c1 => ?_) (fun c1 => ?_)
  · replace h := it_t c1 h
    refine pm_iconst (v := 0) dX6_numberOf_28 (by decide) ?_
    cases h
    exact pm_iret dX6_numberOf_29 rfl (Nat.le_refl _) (Nat.le_refl _) ⟨rfl, rfl, rfl⟩
  · replace h := it_f c1 h
    refine pm_iload_n dX6_numberOf_4 rfl ?_
    refine pm_aload_n dX6_numberOf_5 rfl ?_
    refine dx_gi (j := o0) hR dX6_numberOf_6 fl_X6_45 (sp_Puts_self hs0) rfl ?_
    refine pm_icmp_ge (tgt := 28) dX6_numberOf_9 (by decide) (fun c2 => ?_) (fun c2 => ?_)
    · replace h := it_t c2 h
      refine pm_iconst (v := 0) dX6_numberOf_28 (by decide) ?_
      cases h
      exact pm_iret dX6_numberOf_29 rfl (Nat.le_refl _) (Nat.le_refl _) ⟨rfl, rfl, rfl⟩
    · replace h := it_f c2 h
      refine pm_iload_n dX6_numberOf_12 rfl ?_
      refine pm_sipush (v := 3800) dX6_numberOf_13 (by decide) ?_
      refine pm_icmp_ge (tgt := 28) dX6_numberOf_16 (by decide) (fun c3 => ?_) (fun c3 => ?_)
      · replace h := it_t c3 h
        refine pm_iconst (v := 0) dX6_numberOf_28 (by decide) ?_
        cases h
        exact pm_iret dX6_numberOf_29 rfl (Nat.le_refl _) (Nat.le_refl _) ⟨rfl, rfl, rfl⟩
      · replace h := it_f c3 h
        refine pm_aload_n dX6_numberOf_19 rfl ?_
        refine dx_gr (j := o0) (o := (o0 + 4)) hR dX6_numberOf_20 fl_X6_21 (sp_Puts_self hs0) rfl ?_
        refine pm_iload_n dX6_numberOf_23 rfl ?_
        obtain ⟨c4, h⟩ := ck_some h
        refine dx_al (j := (o0 + 4)) hR dX6_numberOf_24 (sp_Puts_number hs0) (vp_in_iff.mpr c4) ?_
        refine pm_goto (tgt := 29) dX6_numberOf_25 (by decide) ?_
        cases h
        exact pm_iret dX6_numberOf_29 rfl (Nat.le_refl _) (Nat.le_refl _) ⟨rfl, rfl, rfl⟩
def g_X6_hasValue (F : Nat) (o0 : Nat) (x1 : Int32) (x2 : Int32) (x3 : Int32) (u : rg_U) : Option Int32 :=
  ob (g_X6_sortOf F o0 x1 u) (fun r1 => if r1 = x2 then (ob (g_X6_numberOf F o0 x1 u) (fun r4 => if r4 = x3 then (some 1) else (some 0))) else (some 0))
set_option maxHeartbeats 4000000 in
set_option maxRecDepth 100000 in
theorem k_X6_hasValue {gs : List String} {ro : pm_RO} {n : Nat} {w : Nat → va_E} {b : Nat} {u : rg_U} {F : Nat} {o0 : Nat} {x1 : Int32} {x2 : Int32} {x3 : Int32} {z : Int32} (hR : rg shC b u n w) (hs0 : sp_Puts o0) (h : g_X6_hasValue F o0 x1 x2 x3 u = some z) : pm_Met gs ro M_X6_hasValue 1 0 0 [.ref (b + o0), .int x1, .int x2, .int x3] n w (pm_p n w (some (.int z))) := by
  unfold g_X6_hasValue at h
  refine pm_ofX in_X6_hasValue (Nat.le_of_ble_eq_true rfl) rfl (L := [some (.ref (b + o0)), some (.int x1), some (.int x2), some (.int x3)]) rfl ?_
  refine pm_aload_n dX6_hasValue_0 rfl ?_
  refine pm_iload_n dX6_hasValue_1 rfl ?_
  obtain ⟨r1, h2, h⟩ := ob_some h
  refine dx_cVp (j := o0) (M := M_X6_hasValue) (Mc := M_X6_sortOf) (dc := 0) (As := [.int x1]) (st := []) hR dX6_hasValue_2 ml_X6_66 ⟨TX6, 12, rfl⟩ (sp_Puts_self hs0) (by decide) (Nat.le_of_ble_eq_true rfl) rfl (k_X6_sortOf hR hs0 h2) ?_
  refine pm_iload_n dX6_hasValue_5 rfl ?_
  refine pm_icmp_ne (tgt := 22) dX6_hasValue_6 (by decide) (fun c3 => ?_) (fun c3 => ?_)
  · replace h := it_f c3 h
    refine pm_iconst (v := 0) dX6_hasValue_22 (by decide) ?_
    cases h
    exact pm_zret dX6_hasValue_23 rfl (Or.inl rfl) (Nat.le_refl _) (Nat.le_refl _) ⟨rfl, rfl, rfl⟩
  · replace h := it_t c3 h
    refine pm_aload_n dX6_hasValue_9 rfl ?_
    refine pm_iload_n dX6_hasValue_10 rfl ?_
    obtain ⟨r4, h5, h⟩ := ob_some h
    refine dx_cVp (j := o0) (M := M_X6_hasValue) (Mc := M_X6_numberOf) (dc := 0) (As := [.int x1]) (st := []) hR dX6_hasValue_11 ml_X6_70 ⟨TX6, 12, rfl⟩ (sp_Puts_self hs0) (by decide) (Nat.le_of_ble_eq_true rfl) rfl (k_X6_numberOf hR hs0 h5) ?_
    refine pm_iload_n dX6_hasValue_14 rfl ?_
    refine pm_icmp_ne (tgt := 22) dX6_hasValue_15 (by decide) (fun c6 => ?_) (fun c6 => ?_)
    · replace h := it_f c6 h
      refine pm_iconst (v := 0) dX6_hasValue_22 (by decide) ?_
      cases h
      exact pm_zret dX6_hasValue_23 rfl (Or.inl rfl) (Nat.le_refl _) (Nat.le_refl _) ⟨rfl, rfl, rfl⟩
    · replace h := it_t c6 h
      refine pm_iconst (v := 1) dX6_hasValue_18 (by decide) ?_
      refine pm_goto (tgt := 23) dX6_hasValue_19 (by decide) ?_
      cases h
      exact pm_zret dX6_hasValue_23 rfl (Or.inr rfl) (Nat.le_refl _) (Nat.le_refl _) ⟨rfl, rfl, rfl⟩
