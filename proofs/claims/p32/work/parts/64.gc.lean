theorem dX5_thirdAt_0 : decode cX5_thirdAt 0 = .ok (.iload_n 1, 1) := by decide +kernel
theorem dX5_thirdAt_1 : decode cX5_thirdAt 1 = .ok (.invokestatic 30, 3) := by decide +kernel
theorem dX5_thirdAt_4 : decode cX5_thirdAt 4 = .ok (.ifCond .eq 12, 3) := by decide +kernel
theorem dX5_thirdAt_7 : decode cX5_thirdAt 7 = .ok (.aload_n 0, 1) := by decide +kernel
theorem dX5_thirdAt_8 : decode cX5_thirdAt 8 = .ok (.getfield 21, 3) := by decide +kernel
theorem dX5_thirdAt_11 : decode cX5_thirdAt 11 = .ok (.iload_n 1, 1) := by decide +kernel
theorem dX5_thirdAt_12 : decode cX5_thirdAt 12 = .ok (.iaload, 1) := by decide +kernel
theorem dX5_thirdAt_13 : decode cX5_thirdAt 13 = .ok (.goto 4, 3) := by decide +kernel
theorem dX5_thirdAt_16 : decode cX5_thirdAt 16 = .ok (.iconst 0, 1) := by decide +kernel
theorem dX5_thirdAt_17 : decode cX5_thirdAt 17 = .ok (.ireturn, 1) := by decide +kernel
theorem dX6_add_0 : decode cX6_add 0 = .ok (.iload_n 2, 1) := by decide +kernel
theorem dX6_add_1 : decode cX6_add 1 = .ok (.invokestatic 63, 3) := by decide +kernel
theorem dX6_add_4 : decode cX6_add 4 = .ok (.ifCond .eq 20, 3) := by decide +kernel
theorem dX6_add_7 : decode cX6_add 7 = .ok (.aload_n 0, 1) := by decide +kernel
theorem dX6_add_8 : decode cX6_add 8 = .ok (.getfield 45, 3) := by decide +kernel
theorem dX6_add_11 : decode cX6_add 11 = .ok (.ifCond .lt 13, 3) := by decide +kernel
theorem dX6_add_14 : decode cX6_add 14 = .ok (.aload_n 0, 1) := by decide +kernel
theorem dX6_add_15 : decode cX6_add 15 = .ok (.getfield 45, 3) := by decide +kernel
theorem dX6_add_18 : decode cX6_add 18 = .ok (.sipush 3800, 3) := by decide +kernel
theorem dX6_add_21 : decode cX6_add 21 = .ok (.if_icmp .lt 5, 3) := by decide +kernel
theorem dX6_add_24 : decode cX6_add 24 = .ok (.iconst 0, 1) := by decide +kernel
theorem dX6_add_25 : decode cX6_add 25 = .ok (.ireturn, 1) := by decide +kernel
theorem dX6_add_26 : decode cX6_add 26 = .ok (.aload_n 0, 1) := by decide +kernel
theorem dX6_add_27 : decode cX6_add 27 = .ok (.getfield 42, 3) := by decide +kernel
theorem dX6_add_30 : decode cX6_add 30 = .ok (.iload_n 2, 1) := by decide +kernel
theorem dX6_add_31 : decode cX6_add 31 = .ok (.iaload, 1) := by decide +kernel
theorem dX6_add_32 : decode cX6_add 32 = .ok (.istore 5, 2) := by decide +kernel
theorem dX6_add_34 : decode cX6_add 34 = .ok (.aload_n 0, 1) := by decide +kernel
theorem dX6_add_35 : decode cX6_add 35 = .ok (.iload 5, 2) := by decide +kernel
theorem dX6_add_37 : decode cX6_add 37 = .ok (.iload_n 3, 1) := by decide +kernel
theorem dX6_add_38 : decode cX6_add 38 = .ok (.iload 4, 2) := by decide +kernel
theorem dX6_add_40 : decode cX6_add 40 = .ok (.invokevirtual 73, 3) := by decide +kernel
theorem dX6_add_43 : decode cX6_add 43 = .ok (.ifCond .ne 7, 3) := by decide +kernel
theorem dX6_add_46 : decode cX6_add 46 = .ok (.iconst 1, 1) := by decide +kernel
theorem dX6_add_47 : decode cX6_add 47 = .ok (.goto 4, 3) := by decide +kernel
theorem dX6_add_50 : decode cX6_add 50 = .ok (.iconst 0, 1) := by decide +kernel
theorem dX6_add_51 : decode cX6_add 51 = .ok (.istore 6, 2) := by decide +kernel
theorem dX6_add_53 : decode cX6_add 53 = .ok (.aload_n 0, 1) := by decide +kernel
theorem dX6_add_54 : decode cX6_add 54 = .ok (.getfield 9, 3) := by decide +kernel
theorem dX6_add_57 : decode cX6_add 57 = .ok (.aload_n 0, 1) := by decide +kernel
theorem dX6_add_58 : decode cX6_add 58 = .ok (.getfield 45, 3) := by decide +kernel
theorem dX6_add_61 : decode cX6_add 61 = .ok (.iload_n 1, 1) := by decide +kernel
theorem dX6_add_62 : decode cX6_add 62 = .ok (.iastore, 1) := by decide +kernel
theorem dX6_add_63 : decode cX6_add 63 = .ok (.aload_n 0, 1) := by decide +kernel
theorem dX6_add_64 : decode cX6_add 64 = .ok (.getfield 15, 3) := by decide +kernel
theorem dX6_add_67 : decode cX6_add 67 = .ok (.aload_n 0, 1) := by decide +kernel
theorem dX6_add_68 : decode cX6_add 68 = .ok (.getfield 45, 3) := by decide +kernel
theorem dX6_add_71 : decode cX6_add 71 = .ok (.iload_n 2, 1) := by decide +kernel
theorem dX6_add_72 : decode cX6_add 72 = .ok (.iastore, 1) := by decide +kernel
theorem dX6_add_73 : decode cX6_add 73 = .ok (.aload_n 0, 1) := by decide +kernel
theorem dX6_add_74 : decode cX6_add 74 = .ok (.getfield 18, 3) := by decide +kernel
theorem dX6_add_77 : decode cX6_add 77 = .ok (.aload_n 0, 1) := by decide +kernel
theorem dX6_add_78 : decode cX6_add 78 = .ok (.getfield 45, 3) := by decide +kernel
theorem dX6_add_81 : decode cX6_add 81 = .ok (.iload_n 3, 1) := by decide +kernel
theorem dX6_add_82 : decode cX6_add 82 = .ok (.iastore, 1) := by decide +kernel
theorem dX6_add_83 : decode cX6_add 83 = .ok (.aload_n 0, 1) := by decide +kernel
theorem dX6_add_84 : decode cX6_add 84 = .ok (.getfield 21, 3) := by decide +kernel
theorem dX6_add_87 : decode cX6_add 87 = .ok (.aload_n 0, 1) := by decide +kernel
theorem dX6_add_88 : decode cX6_add 88 = .ok (.getfield 45, 3) := by decide +kernel
theorem dX6_add_91 : decode cX6_add 91 = .ok (.iload 4, 2) := by decide +kernel
theorem dX6_add_93 : decode cX6_add 93 = .ok (.iastore, 1) := by decide +kernel
theorem dX6_add_94 : decode cX6_add 94 = .ok (.aload_n 0, 1) := by decide +kernel
theorem dX6_add_95 : decode cX6_add 95 = .ok (.getfield 24, 3) := by decide +kernel
theorem dX6_add_98 : decode cX6_add 98 = .ok (.aload_n 0, 1) := by decide +kernel
theorem dX6_add_99 : decode cX6_add 99 = .ok (.getfield 45, 3) := by decide +kernel
theorem dX6_add_102 : decode cX6_add 102 = .ok (.aload_n 0, 1) := by decide +kernel
theorem dX6_add_103 : decode cX6_add 103 = .ok (.iload 5, 2) := by decide +kernel
theorem dX6_add_105 : decode cX6_add 105 = .ok (.invokevirtual 77, 3) := by decide +kernel
theorem dX6_add_108 : decode cX6_add 108 = .ok (.iload 6, 2) := by decide +kernel
theorem dX6_add_110 : decode cX6_add 110 = .ok (.ifCond .eq 7, 3) := by decide +kernel
theorem dX6_add_113 : decode cX6_add 113 = .ok (.iconst 1, 1) := by decide +kernel
theorem dX6_add_114 : decode cX6_add 114 = .ok (.goto 4, 3) := by decide +kernel
theorem dX6_add_117 : decode cX6_add 117 = .ok (.iconst 0, 1) := by decide +kernel
theorem dX6_add_118 : decode cX6_add 118 = .ok (.iadd, 1) := by decide +kernel
theorem dX6_add_119 : decode cX6_add 119 = .ok (.iastore, 1) := by decide +kernel
theorem dX6_add_120 : decode cX6_add 120 = .ok (.aload_n 0, 1) := by decide +kernel
theorem dX6_add_121 : decode cX6_add 121 = .ok (.getfield 27, 3) := by decide +kernel
theorem dX6_add_124 : decode cX6_add 124 = .ok (.aload_n 0, 1) := by decide +kernel
theorem dX6_add_125 : decode cX6_add 125 = .ok (.getfield 45, 3) := by decide +kernel
theorem dX6_add_128 : decode cX6_add 128 = .ok (.iload 5, 2) := by decide +kernel
theorem dX6_add_130 : decode cX6_add 130 = .ok (.iastore, 1) := by decide +kernel
theorem dX6_add_131 : decode cX6_add 131 = .ok (.aload_n 0, 1) := by decide +kernel
theorem dX6_add_132 : decode cX6_add 132 = .ok (.getfield 42, 3) := by decide +kernel
theorem dX6_add_135 : decode cX6_add 135 = .ok (.iload_n 2, 1) := by decide +kernel
theorem dX6_add_136 : decode cX6_add 136 = .ok (.aload_n 0, 1) := by decide +kernel
theorem dX6_add_137 : decode cX6_add 137 = .ok (.getfield 45, 3) := by decide +kernel
theorem dX6_add_140 : decode cX6_add 140 = .ok (.iastore, 1) := by decide +kernel
theorem dX6_add_141 : decode cX6_add 141 = .ok (.aload_n 0, 1) := by decide +kernel
theorem dX6_add_142 : decode cX6_add 142 = .ok (.dup, 1) := by decide +kernel
theorem dX6_add_143 : decode cX6_add 143 = .ok (.getfield 45, 3) := by decide +kernel
theorem dX6_add_146 : decode cX6_add 146 = .ok (.iconst 1, 1) := by decide +kernel
theorem dX6_add_147 : decode cX6_add 147 = .ok (.iadd, 1) := by decide +kernel
theorem dX6_add_148 : decode cX6_add 148 = .ok (.putfield 45, 3) := by decide +kernel
theorem dX6_add_151 : decode cX6_add 151 = .ok (.iload 6, 2) := by decide +kernel
theorem dX6_add_153 : decode cX6_add 153 = .ok (.ireturn, 1) := by decide +kernel
theorem dX6_aheadOf_0 : decode cX6_aheadOf 0 = .ok (.aload_n 0, 1) := by decide +kernel
theorem dX6_aheadOf_1 : decode cX6_aheadOf 1 = .ok (.iload_n 1, 1) := by decide +kernel
theorem dX6_aheadOf_2 : decode cX6_aheadOf 2 = .ok (.invokevirtual 59, 3) := by decide +kernel
theorem dX6_aheadOf_5 : decode cX6_aheadOf 5 = .ok (.ifCond .eq 12, 3) := by decide +kernel
theorem dX6_aheadOf_8 : decode cX6_aheadOf 8 = .ok (.aload_n 0, 1) := by decide +kernel
theorem dX6_aheadOf_9 : decode cX6_aheadOf 9 = .ok (.getfield 27, 3) := by decide +kernel
theorem dX6_aheadOf_12 : decode cX6_aheadOf 12 = .ok (.iload_n 1, 1) := by decide +kernel
theorem dX6_aheadOf_13 : decode cX6_aheadOf 13 = .ok (.iaload, 1) := by decide +kernel
theorem dX6_aheadOf_14 : decode cX6_aheadOf 14 = .ok (.goto 4, 3) := by decide +kernel
theorem dX6_aheadOf_17 : decode cX6_aheadOf 17 = .ok (.iconst (-1), 1) := by decide +kernel
theorem dX6_aheadOf_18 : decode cX6_aheadOf 18 = .ok (.ireturn, 1) := by decide +kernel
theorem dX6_changeTimes_0 : decode cX6_changeTimes 0 = .ok (.iconst 0, 1) := by decide +kernel
theorem dX6_changeTimes_1 : decode cX6_changeTimes 1 = .ok (.istore_n 3, 1) := by decide +kernel
theorem dX6_changeTimes_2 : decode cX6_changeTimes 2 = .ok (.iconst (-1), 1) := by decide +kernel
theorem dX6_changeTimes_3 : decode cX6_changeTimes 3 = .ok (.istore 4, 2) := by decide +kernel
theorem dX6_changeTimes_5 : decode cX6_changeTimes 5 = .ok (.iconst 0, 1) := by decide +kernel
theorem dX6_changeTimes_6 : decode cX6_changeTimes 6 = .ok (.istore 5, 2) := by decide +kernel
theorem dX6_changeTimes_8 : decode cX6_changeTimes 8 = .ok (.iload 5, 2) := by decide +kernel
theorem dX6_changeTimes_10 : decode cX6_changeTimes 10 = .ok (.aload_n 0, 1) := by decide +kernel
theorem dX6_changeTimes_11 : decode cX6_changeTimes 11 = .ok (.getfield 45, 3) := by decide +kernel
theorem dX6_changeTimes_14 : decode cX6_changeTimes 14 = .ok (.if_icmp .ge 86, 3) := by decide +kernel
theorem dX6_changeTimes_17 : decode cX6_changeTimes 17 = .ok (.iload 5, 2) := by decide +kernel
theorem dX6_changeTimes_19 : decode cX6_changeTimes 19 = .ok (.sipush 3800, 3) := by decide +kernel
theorem dX6_changeTimes_22 : decode cX6_changeTimes 22 = .ok (.if_icmp .ge 78, 3) := by decide +kernel
theorem dX6_changeTimes_25 : decode cX6_changeTimes 25 = .ok (.aload_n 0, 1) := by decide +kernel
theorem dX6_changeTimes_26 : decode cX6_changeTimes 26 = .ok (.getfield 15, 3) := by decide +kernel
theorem dX6_changeTimes_29 : decode cX6_changeTimes 29 = .ok (.iload 5, 2) := by decide +kernel
theorem dX6_changeTimes_31 : decode cX6_changeTimes 31 = .ok (.iaload, 1) := by decide +kernel
theorem dX6_changeTimes_32 : decode cX6_changeTimes 32 = .ok (.iload_n 1, 1) := by decide +kernel
theorem dX6_changeTimes_33 : decode cX6_changeTimes 33 = .ok (.if_icmp .ne 61, 3) := by decide +kernel
theorem dX6_changeTimes_36 : decode cX6_changeTimes 36 = .ok (.aload_n 0, 1) := by decide +kernel
theorem dX6_changeTimes_37 : decode cX6_changeTimes 37 = .ok (.getfield 9, 3) := by decide +kernel
theorem dX6_changeTimes_40 : decode cX6_changeTimes 40 = .ok (.iload 5, 2) := by decide +kernel
theorem dX6_changeTimes_42 : decode cX6_changeTimes 42 = .ok (.iaload, 1) := by decide +kernel
theorem dX6_changeTimes_43 : decode cX6_changeTimes 43 = .ok (.iload 4, 2) := by decide +kernel
theorem dX6_changeTimes_45 : decode cX6_changeTimes 45 = .ok (.if_icmp .eq 49, 3) := by decide +kernel
theorem dX6_changeTimes_48 : decode cX6_changeTimes 48 = .ok (.aload_n 0, 1) := by decide +kernel
theorem dX6_changeTimes_49 : decode cX6_changeTimes 49 = .ok (.getfield 24, 3) := by decide +kernel
theorem dX6_changeTimes_52 : decode cX6_changeTimes 52 = .ok (.iload 5, 2) := by decide +kernel
theorem dX6_changeTimes_54 : decode cX6_changeTimes 54 = .ok (.iaload, 1) := by decide +kernel
theorem dX6_changeTimes_55 : decode cX6_changeTimes 55 = .ok (.aload_n 0, 1) := by decide +kernel
theorem dX6_changeTimes_56 : decode cX6_changeTimes 56 = .ok (.aload_n 0, 1) := by decide +kernel
theorem dX6_changeTimes_57 : decode cX6_changeTimes 57 = .ok (.getfield 27, 3) := by decide +kernel
theorem dX6_changeTimes_60 : decode cX6_changeTimes 60 = .ok (.iload 5, 2) := by decide +kernel
theorem dX6_changeTimes_62 : decode cX6_changeTimes 62 = .ok (.iaload, 1) := by decide +kernel
theorem dX6_changeTimes_63 : decode cX6_changeTimes 63 = .ok (.invokevirtual 77, 3) := by decide +kernel
theorem dX6_changeTimes_66 : decode cX6_changeTimes 66 = .ok (.if_icmp .eq 28, 3) := by decide +kernel
theorem dX6_changeTimes_69 : decode cX6_changeTimes 69 = .ok (.iload_n 3, 1) := by decide +kernel
theorem dX6_changeTimes_70 : decode cX6_changeTimes 70 = .ok (.iload_n 2, 1) := by decide +kernel
theorem dX6_changeTimes_71 : decode cX6_changeTimes 71 = .ok (.if_icmp .ne 11, 3) := by decide +kernel
theorem dX6_changeTimes_74 : decode cX6_changeTimes 74 = .ok (.aload_n 0, 1) := by decide +kernel
theorem dX6_changeTimes_75 : decode cX6_changeTimes 75 = .ok (.getfield 9, 3) := by decide +kernel
theorem dX6_changeTimes_78 : decode cX6_changeTimes 78 = .ok (.iload 5, 2) := by decide +kernel
theorem dX6_changeTimes_80 : decode cX6_changeTimes 80 = .ok (.iaload, 1) := by decide +kernel
theorem dX6_changeTimes_81 : decode cX6_changeTimes 81 = .ok (.ireturn, 1) := by decide +kernel
theorem dX6_changeTimes_82 : decode cX6_changeTimes 82 = .ok (.aload_n 0, 1) := by decide +kernel
theorem dX6_changeTimes_83 : decode cX6_changeTimes 83 = .ok (.getfield 9, 3) := by decide +kernel
theorem dX6_changeTimes_86 : decode cX6_changeTimes 86 = .ok (.iload 5, 2) := by decide +kernel
theorem dX6_changeTimes_88 : decode cX6_changeTimes 88 = .ok (.iaload, 1) := by decide +kernel
theorem dX6_changeTimes_89 : decode cX6_changeTimes 89 = .ok (.istore 4, 2) := by decide +kernel
theorem dX6_changeTimes_91 : decode cX6_changeTimes 91 = .ok (.iinc 3 1, 3) := by decide +kernel
theorem dX6_changeTimes_94 : decode cX6_changeTimes 94 = .ok (.iinc 5 1, 3) := by decide +kernel
theorem dX6_changeTimes_97 : decode cX6_changeTimes 97 = .ok (.goto (-89), 3) := by decide +kernel
theorem dX6_changeTimes_100 : decode cX6_changeTimes 100 = .ok (.iload_n 2, 1) := by decide +kernel
theorem dX6_changeTimes_101 : decode cX6_changeTimes 101 = .ok (.iconst (-1), 1) := by decide +kernel
theorem dX6_changeTimes_102 : decode cX6_changeTimes 102 = .ok (.if_icmp .ne 7, 3) := by decide +kernel
theorem dX6_changeTimes_105 : decode cX6_changeTimes 105 = .ok (.iload_n 3, 1) := by decide +kernel
theorem dX6_changeTimes_106 : decode cX6_changeTimes 106 = .ok (.goto 4, 3) := by decide +kernel
theorem dX6_changeTimes_109 : decode cX6_changeTimes 109 = .ok (.iconst (-1), 1) := by decide +kernel
theorem dX6_changeTimes_110 : decode cX6_changeTimes 110 = .ok (.ireturn, 1) := by decide +kernel
theorem dX6_changedSince_0 : decode cX6_changedSince 0 = .ok (.iload_n 1, 1) := by decide +kernel
theorem dX6_changedSince_1 : decode cX6_changedSince 1 = .ok (.istore_n 2, 1) := by decide +kernel
theorem dX6_changedSince_2 : decode cX6_changedSince 2 = .ok (.aload_n 0, 1) := by decide +kernel
theorem dX6_changedSince_3 : decode cX6_changedSince 3 = .ok (.getfield 45, 3) := by decide +kernel
theorem dX6_changedSince_6 : decode cX6_changedSince 6 = .ok (.istore_n 3, 1) := by decide +kernel
theorem dX6_changedSince_7 : decode cX6_changedSince 7 = .ok (.iload_n 3, 1) := by decide +kernel
theorem dX6_changedSince_8 : decode cX6_changedSince 8 = .ok (.ifCond .le 47, 3) := by decide +kernel
theorem dX6_changedSince_11 : decode cX6_changedSince 11 = .ok (.aload_n 0, 1) := by decide +kernel
theorem dX6_changedSince_12 : decode cX6_changedSince 12 = .ok (.aload_n 0, 1) := by decide +kernel
theorem dX6_changedSince_13 : decode cX6_changedSince 13 = .ok (.iload_n 2, 1) := by decide +kernel
theorem dX6_changedSince_14 : decode cX6_changedSince 14 = .ok (.invokevirtual 86, 3) := by decide +kernel
theorem dX6_changedSince_17 : decode cX6_changedSince 17 = .ok (.invokevirtual 59, 3) := by decide +kernel
theorem dX6_changedSince_20 : decode cX6_changedSince 20 = .ok (.ifCond .eq 35, 3) := by decide +kernel
theorem dX6_changedSince_23 : decode cX6_changedSince 23 = .ok (.aload_n 0, 1) := by decide +kernel
theorem dX6_changedSince_24 : decode cX6_changedSince 24 = .ok (.aload_n 0, 1) := by decide +kernel
theorem dX6_changedSince_25 : decode cX6_changedSince 25 = .ok (.iload_n 2, 1) := by decide +kernel
theorem dX6_changedSince_26 : decode cX6_changedSince 26 = .ok (.invokevirtual 86, 3) := by decide +kernel
theorem dX6_changedSince_29 : decode cX6_changedSince 29 = .ok (.invokevirtual 77, 3) := by decide +kernel
theorem dX6_changedSince_32 : decode cX6_changedSince 32 = .ok (.aload_n 0, 1) := by decide +kernel
theorem dX6_changedSince_33 : decode cX6_changedSince 33 = .ok (.iload_n 1, 1) := by decide +kernel
theorem dX6_changedSince_34 : decode cX6_changedSince 34 = .ok (.invokevirtual 77, 3) := by decide +kernel
theorem dX6_changedSince_37 : decode cX6_changedSince 37 = .ok (.if_icmp .eq 6, 3) := by decide +kernel
theorem dX6_changedSince_40 : decode cX6_changedSince 40 = .ok (.goto 15, 3) := by decide +kernel
theorem dX6_changedSince_43 : decode cX6_changedSince 43 = .ok (.aload_n 0, 1) := by decide +kernel
theorem dX6_changedSince_44 : decode cX6_changedSince 44 = .ok (.iload_n 2, 1) := by decide +kernel
theorem dX6_changedSince_45 : decode cX6_changedSince 45 = .ok (.invokevirtual 86, 3) := by decide +kernel
theorem dX6_changedSince_48 : decode cX6_changedSince 48 = .ok (.istore_n 2, 1) := by decide +kernel
theorem dX6_changedSince_49 : decode cX6_changedSince 49 = .ok (.iinc 3 (-1), 3) := by decide +kernel
theorem dX6_changedSince_52 : decode cX6_changedSince 52 = .ok (.goto (-45), 3) := by decide +kernel
theorem dX6_changedSince_55 : decode cX6_changedSince 55 = .ok (.aload_n 0, 1) := by decide +kernel
theorem dX6_changedSince_56 : decode cX6_changedSince 56 = .ok (.iload_n 2, 1) := by decide +kernel
theorem dX6_changedSince_57 : decode cX6_changedSince 57 = .ok (.invokevirtual 80, 3) := by decide +kernel
theorem dX6_changedSince_60 : decode cX6_changedSince 60 = .ok (.ireturn, 1) := by decide +kernel
theorem dX6_changesOf_0 : decode cX6_changesOf 0 = .ok (.aload_n 0, 1) := by decide +kernel
theorem dX6_changesOf_1 : decode cX6_changesOf 1 = .ok (.iload_n 1, 1) := by decide +kernel
theorem dX6_changesOf_2 : decode cX6_changesOf 2 = .ok (.invokevirtual 59, 3) := by decide +kernel
theorem dX6_changesOf_5 : decode cX6_changesOf 5 = .ok (.ifCond .eq 12, 3) := by decide +kernel
theorem dX6_changesOf_8 : decode cX6_changesOf 8 = .ok (.aload_n 0, 1) := by decide +kernel
theorem dX6_changesOf_9 : decode cX6_changesOf 9 = .ok (.getfield 24, 3) := by decide +kernel
theorem dX6_changesOf_12 : decode cX6_changesOf 12 = .ok (.iload_n 1, 1) := by decide +kernel
theorem dX6_changesOf_13 : decode cX6_changesOf 13 = .ok (.iaload, 1) := by decide +kernel
theorem dX6_changesOf_14 : decode cX6_changesOf 14 = .ok (.goto 4, 3) := by decide +kernel
theorem dX6_changesOf_17 : decode cX6_changesOf 17 = .ok (.iconst 0, 1) := by decide +kernel
theorem dX6_changesOf_18 : decode cX6_changesOf 18 = .ok (.ireturn, 1) := by decide +kernel
theorem dX6_clear_0 : decode cX6_clear 0 = .ok (.aload_n 0, 1) := by decide +kernel
theorem dX6_clear_1 : decode cX6_clear 1 = .ok (.iconst 0, 1) := by decide +kernel
theorem dX6_clear_2 : decode cX6_clear 2 = .ok (.putfield 45, 3) := by decide +kernel
theorem dX6_clear_5 : decode cX6_clear 5 = .ok (.aload_n 0, 1) := by decide +kernel
theorem dX6_clear_6 : decode cX6_clear 6 = .ok (.getfield 42, 3) := by decide +kernel
theorem dX6_clear_9 : decode cX6_clear 9 = .ok (.iconst (-1), 1) := by decide +kernel
theorem dX6_clear_10 : decode cX6_clear 10 = .ok (.invokestatic 49, 3) := by decide +kernel
theorem dX6_clear_13 : decode cX6_clear 13 = .ok (.return_, 1) := by decide +kernel
theorem dX6_dropBehind_0 : decode cX6_dropBehind 0 = .ok (.aload_n 0, 1) := by decide +kernel
theorem dX6_dropBehind_1 : decode cX6_dropBehind 1 = .ok (.getfield 45, 3) := by decide +kernel
theorem dX6_dropBehind_4 : decode cX6_dropBehind 4 = .ok (.iconst 1, 1) := by decide +kernel
theorem dX6_dropBehind_5 : decode cX6_dropBehind 5 = .ok (.isub, 1) := by decide +kernel
theorem dX6_dropBehind_6 : decode cX6_dropBehind 6 = .ok (.istore_n 2, 1) := by decide +kernel
theorem dX6_dropBehind_7 : decode cX6_dropBehind 7 = .ok (.iload_n 2, 1) := by decide +kernel
theorem dX6_dropBehind_8 : decode cX6_dropBehind 8 = .ok (.ifCond .lt 52, 3) := by decide +kernel
theorem dX6_dropBehind_11 : decode cX6_dropBehind 11 = .ok (.aload_n 0, 1) := by decide +kernel
theorem dX6_dropBehind_12 : decode cX6_dropBehind 12 = .ok (.iload_n 2, 1) := by decide +kernel
theorem dX6_dropBehind_13 : decode cX6_dropBehind 13 = .ok (.invokevirtual 80, 3) := by decide +kernel
theorem dX6_dropBehind_16 : decode cX6_dropBehind 16 = .ok (.iload_n 1, 1) := by decide +kernel
theorem dX6_dropBehind_17 : decode cX6_dropBehind 17 = .ok (.if_icmp .le 43, 3) := by decide +kernel
theorem dX6_dropBehind_20 : decode cX6_dropBehind 20 = .ok (.aload_n 0, 1) := by decide +kernel
theorem dX6_dropBehind_21 : decode cX6_dropBehind 21 = .ok (.getfield 15, 3) := by decide +kernel
theorem dX6_dropBehind_24 : decode cX6_dropBehind 24 = .ok (.iload_n 2, 1) := by decide +kernel
theorem dX6_dropBehind_25 : decode cX6_dropBehind 25 = .ok (.iaload, 1) := by decide +kernel
theorem dX6_dropBehind_26 : decode cX6_dropBehind 26 = .ok (.invokestatic 63, 3) := by decide +kernel
theorem dX6_dropBehind_29 : decode cX6_dropBehind 29 = .ok (.ifCond .eq 20, 3) := by decide +kernel
theorem dX6_dropBehind_32 : decode cX6_dropBehind 32 = .ok (.aload_n 0, 1) := by decide +kernel
theorem dX6_dropBehind_33 : decode cX6_dropBehind 33 = .ok (.getfield 42, 3) := by decide +kernel
theorem dX6_dropBehind_36 : decode cX6_dropBehind 36 = .ok (.aload_n 0, 1) := by decide +kernel
theorem dX6_dropBehind_37 : decode cX6_dropBehind 37 = .ok (.getfield 15, 3) := by decide +kernel
theorem dX6_dropBehind_40 : decode cX6_dropBehind 40 = .ok (.iload_n 2, 1) := by decide +kernel
theorem dX6_dropBehind_41 : decode cX6_dropBehind 41 = .ok (.iaload, 1) := by decide +kernel
theorem dX6_dropBehind_42 : decode cX6_dropBehind 42 = .ok (.aload_n 0, 1) := by decide +kernel
theorem dX6_dropBehind_43 : decode cX6_dropBehind 43 = .ok (.getfield 27, 3) := by decide +kernel
theorem dX6_dropBehind_46 : decode cX6_dropBehind 46 = .ok (.iload_n 2, 1) := by decide +kernel
theorem dX6_dropBehind_47 : decode cX6_dropBehind 47 = .ok (.iaload, 1) := by decide +kernel
theorem dX6_dropBehind_48 : decode cX6_dropBehind 48 = .ok (.iastore, 1) := by decide +kernel
theorem dX6_dropBehind_49 : decode cX6_dropBehind 49 = .ok (.aload_n 0, 1) := by decide +kernel
theorem dX6_dropBehind_50 : decode cX6_dropBehind 50 = .ok (.iload_n 2, 1) := by decide +kernel
theorem dX6_dropBehind_51 : decode cX6_dropBehind 51 = .ok (.putfield 45, 3) := by decide +kernel
theorem dX6_dropBehind_54 : decode cX6_dropBehind 54 = .ok (.iinc 2 (-1), 3) := by decide +kernel
theorem dX6_dropBehind_57 : decode cX6_dropBehind 57 = .ok (.goto (-50), 3) := by decide +kernel
theorem dX6_dropBehind_60 : decode cX6_dropBehind 60 = .ok (.return_, 1) := by decide +kernel
theorem dX6_hadBy_0 : decode cX6_hadBy 0 = .ok (.iload_n 1, 1) := by decide +kernel
theorem dX6_hadBy_1 : decode cX6_hadBy 1 = .ok (.istore 5, 2) := by decide +kernel
theorem dX6_hadBy_3 : decode cX6_hadBy 3 = .ok (.aload_n 0, 1) := by decide +kernel
theorem dX6_hadBy_4 : decode cX6_hadBy 4 = .ok (.iload_n 2, 1) := by decide +kernel
theorem dX6_hadBy_5 : decode cX6_hadBy 5 = .ok (.invokevirtual 83, 3) := by decide +kernel
theorem dX6_hadBy_8 : decode cX6_hadBy 8 = .ok (.istore 6, 2) := by decide +kernel
theorem dX6_hadBy_10 : decode cX6_hadBy 10 = .ok (.aload_n 0, 1) := by decide +kernel
theorem dX6_hadBy_11 : decode cX6_hadBy 11 = .ok (.getfield 45, 3) := by decide +kernel
theorem dX6_hadBy_14 : decode cX6_hadBy 14 = .ok (.istore 7, 2) := by decide +kernel
theorem dX6_hadBy_16 : decode cX6_hadBy 16 = .ok (.iload 7, 2) := by decide +kernel
theorem dX6_hadBy_18 : decode cX6_hadBy 18 = .ok (.ifCond .lt 58, 3) := by decide +kernel
theorem dX6_hadBy_21 : decode cX6_hadBy 21 = .ok (.iload 5, 2) := by decide +kernel
theorem dX6_hadBy_23 : decode cX6_hadBy 23 = .ok (.ifCond .lt 53, 3) := by decide +kernel
theorem dX6_hadBy_26 : decode cX6_hadBy 26 = .ok (.aload_n 0, 1) := by decide +kernel
theorem dX6_hadBy_27 : decode cX6_hadBy 27 = .ok (.iload 6, 2) := by decide +kernel
theorem dX6_hadBy_29 : decode cX6_hadBy 29 = .ok (.invokevirtual 80, 3) := by decide +kernel
theorem dX6_hadBy_32 : decode cX6_hadBy 32 = .ok (.iload 5, 2) := by decide +kernel
theorem dX6_hadBy_34 : decode cX6_hadBy 34 = .ok (.if_icmp .gt 28, 3) := by decide +kernel
theorem dX6_hadBy_37 : decode cX6_hadBy 37 = .ok (.aload_n 0, 1) := by decide +kernel
theorem dX6_hadBy_38 : decode cX6_hadBy 38 = .ok (.iload 6, 2) := by decide +kernel
theorem dX6_hadBy_40 : decode cX6_hadBy 40 = .ok (.iload_n 3, 1) := by decide +kernel
theorem dX6_hadBy_41 : decode cX6_hadBy 41 = .ok (.iload 4, 2) := by decide +kernel
theorem dX6_hadBy_43 : decode cX6_hadBy 43 = .ok (.invokevirtual 73, 3) := by decide +kernel
theorem dX6_hadBy_46 : decode cX6_hadBy 46 = .ok (.ifCond .eq 6, 3) := by decide +kernel
theorem dX6_hadBy_49 : decode cX6_hadBy 49 = .ok (.iload 5, 2) := by decide +kernel
theorem dX6_hadBy_51 : decode cX6_hadBy 51 = .ok (.ireturn, 1) := by decide +kernel
theorem dX6_hadBy_52 : decode cX6_hadBy 52 = .ok (.aload_n 0, 1) := by decide +kernel
theorem dX6_hadBy_53 : decode cX6_hadBy 53 = .ok (.iload 6, 2) := by decide +kernel
theorem dX6_hadBy_55 : decode cX6_hadBy 55 = .ok (.invokevirtual 80, 3) := by decide +kernel
theorem dX6_hadBy_58 : decode cX6_hadBy 58 = .ok (.iconst 1, 1) := by decide +kernel
theorem dX6_hadBy_59 : decode cX6_hadBy 59 = .ok (.isub, 1) := by decide +kernel
theorem dX6_hadBy_60 : decode cX6_hadBy 60 = .ok (.istore 5, 2) := by decide +kernel
theorem dX6_hadBy_62 : decode cX6_hadBy 62 = .ok (.aload_n 0, 1) := by decide +kernel
theorem dX6_hadBy_63 : decode cX6_hadBy 63 = .ok (.iload 6, 2) := by decide +kernel
theorem dX6_hadBy_65 : decode cX6_hadBy 65 = .ok (.invokevirtual 86, 3) := by decide +kernel
theorem dX6_hadBy_68 : decode cX6_hadBy 68 = .ok (.istore 6, 2) := by decide +kernel
theorem dX6_hadBy_70 : decode cX6_hadBy 70 = .ok (.iinc 7 (-1), 3) := by decide +kernel
theorem dX6_hadBy_73 : decode cX6_hadBy 73 = .ok (.goto (-57), 3) := by decide +kernel
theorem dX6_hadBy_76 : decode cX6_hadBy 76 = .ok (.iconst (-1), 1) := by decide +kernel
theorem dX6_hadBy_77 : decode cX6_hadBy 77 = .ok (.ireturn, 1) := by decide +kernel
theorem dX6_latestOf_0 : decode cX6_latestOf 0 = .ok (.iload_n 1, 1) := by decide +kernel
theorem dX6_latestOf_1 : decode cX6_latestOf 1 = .ok (.invokestatic 63, 3) := by decide +kernel
theorem dX6_latestOf_4 : decode cX6_latestOf 4 = .ok (.ifCond .eq 12, 3) := by decide +kernel
theorem dX6_latestOf_7 : decode cX6_latestOf 7 = .ok (.aload_n 0, 1) := by decide +kernel
theorem dX6_latestOf_8 : decode cX6_latestOf 8 = .ok (.getfield 42, 3) := by decide +kernel
theorem dX6_latestOf_11 : decode cX6_latestOf 11 = .ok (.iload_n 1, 1) := by decide +kernel
theorem dX6_latestOf_12 : decode cX6_latestOf 12 = .ok (.iaload, 1) := by decide +kernel
theorem dX6_latestOf_13 : decode cX6_latestOf 13 = .ok (.goto 4, 3) := by decide +kernel
theorem dX6_latestOf_16 : decode cX6_latestOf 16 = .ok (.iconst (-1), 1) := by decide +kernel
theorem dX6_latestOf_17 : decode cX6_latestOf 17 = .ok (.ireturn, 1) := by decide +kernel
theorem dX6_putBy_0 : decode cX6_putBy 0 = .ok (.aload_n 0, 1) := by decide +kernel
theorem dX6_putBy_1 : decode cX6_putBy 1 = .ok (.iload_n 2, 1) := by decide +kernel
theorem dX6_putBy_2 : decode cX6_putBy 2 = .ok (.invokevirtual 83, 3) := by decide +kernel
theorem dX6_putBy_5 : decode cX6_putBy 5 = .ok (.istore_n 3, 1) := by decide +kernel
theorem dX6_putBy_6 : decode cX6_putBy 6 = .ok (.aload_n 0, 1) := by decide +kernel
theorem dX6_putBy_7 : decode cX6_putBy 7 = .ok (.getfield 45, 3) := by decide +kernel
theorem dX6_putBy_10 : decode cX6_putBy 10 = .ok (.istore 4, 2) := by decide +kernel
theorem dX6_putBy_12 : decode cX6_putBy 12 = .ok (.iload 4, 2) := by decide +kernel
theorem dX6_putBy_14 : decode cX6_putBy 14 = .ok (.ifCond .le 24, 3) := by decide +kernel
theorem dX6_putBy_17 : decode cX6_putBy 17 = .ok (.aload_n 0, 1) := by decide +kernel
theorem dX6_putBy_18 : decode cX6_putBy 18 = .ok (.iload_n 3, 1) := by decide +kernel
theorem dX6_putBy_19 : decode cX6_putBy 19 = .ok (.invokevirtual 80, 3) := by decide +kernel
theorem dX6_putBy_22 : decode cX6_putBy 22 = .ok (.iload_n 1, 1) := by decide +kernel
theorem dX6_putBy_23 : decode cX6_putBy 23 = .ok (.if_icmp .le 15, 3) := by decide +kernel
theorem dX6_putBy_26 : decode cX6_putBy 26 = .ok (.aload_n 0, 1) := by decide +kernel
theorem dX6_putBy_27 : decode cX6_putBy 27 = .ok (.iload_n 3, 1) := by decide +kernel
theorem dX6_putBy_28 : decode cX6_putBy 28 = .ok (.invokevirtual 86, 3) := by decide +kernel
theorem dX6_putBy_31 : decode cX6_putBy 31 = .ok (.istore_n 3, 1) := by decide +kernel
theorem dX6_putBy_32 : decode cX6_putBy 32 = .ok (.iinc 4 (-1), 3) := by decide +kernel
theorem dX6_putBy_35 : decode cX6_putBy 35 = .ok (.goto (-23), 3) := by decide +kernel
theorem dX6_putBy_38 : decode cX6_putBy 38 = .ok (.iload_n 3, 1) := by decide +kernel
theorem dX6_putBy_39 : decode cX6_putBy 39 = .ok (.ireturn, 1) := by decide +kernel
theorem dX6_restLatestOn_0 : decode cX6_restLatestOn 0 = .ok (.aload_n 0, 1) := by decide +kernel
theorem dX6_restLatestOn_1 : decode cX6_restLatestOn 1 = .ok (.getfield 45, 3) := by decide +kernel
theorem dX6_restLatestOn_4 : decode cX6_restLatestOn 4 = .ok (.iconst 1, 1) := by decide +kernel
theorem dX6_restLatestOn_5 : decode cX6_restLatestOn 5 = .ok (.isub, 1) := by decide +kernel
theorem dX6_restLatestOn_6 : decode cX6_restLatestOn 6 = .ok (.istore 5, 2) := by decide +kernel
theorem dX6_restLatestOn_8 : decode cX6_restLatestOn 8 = .ok (.aload_n 0, 1) := by decide +kernel
theorem dX6_restLatestOn_9 : decode cX6_restLatestOn 9 = .ok (.iload 5, 2) := by decide +kernel
theorem dX6_restLatestOn_11 : decode cX6_restLatestOn 11 = .ok (.invokevirtual 59, 3) := by decide +kernel
theorem dX6_restLatestOn_14 : decode cX6_restLatestOn 14 = .ok (.ifCond .eq 36, 3) := by decide +kernel
theorem dX6_restLatestOn_17 : decode cX6_restLatestOn 17 = .ok (.aload_n 0, 1) := by decide +kernel
theorem dX6_restLatestOn_18 : decode cX6_restLatestOn 18 = .ok (.getfield 30, 3) := by decide +kernel
theorem dX6_restLatestOn_21 : decode cX6_restLatestOn 21 = .ok (.iload 5, 2) := by decide +kernel
theorem dX6_restLatestOn_23 : decode cX6_restLatestOn 23 = .ok (.iload_n 1, 1) := by decide +kernel
theorem dX6_restLatestOn_24 : decode cX6_restLatestOn 24 = .ok (.iastore, 1) := by decide +kernel
theorem dX6_restLatestOn_25 : decode cX6_restLatestOn 25 = .ok (.aload_n 0, 1) := by decide +kernel
theorem dX6_restLatestOn_26 : decode cX6_restLatestOn 26 = .ok (.getfield 33, 3) := by decide +kernel
theorem dX6_restLatestOn_29 : decode cX6_restLatestOn 29 = .ok (.iload 5, 2) := by decide +kernel
theorem dX6_restLatestOn_31 : decode cX6_restLatestOn 31 = .ok (.iload_n 2, 1) := by decide +kernel
theorem dX6_restLatestOn_32 : decode cX6_restLatestOn 32 = .ok (.iastore, 1) := by decide +kernel
theorem dX6_restLatestOn_33 : decode cX6_restLatestOn 33 = .ok (.aload_n 0, 1) := by decide +kernel
theorem dX6_restLatestOn_34 : decode cX6_restLatestOn 34 = .ok (.getfield 36, 3) := by decide +kernel
theorem dX6_restLatestOn_37 : decode cX6_restLatestOn 37 = .ok (.iload 5, 2) := by decide +kernel
theorem dX6_restLatestOn_39 : decode cX6_restLatestOn 39 = .ok (.iload_n 3, 1) := by decide +kernel
theorem dX6_restLatestOn_40 : decode cX6_restLatestOn 40 = .ok (.iastore, 1) := by decide +kernel
theorem dX6_restLatestOn_41 : decode cX6_restLatestOn 41 = .ok (.aload_n 0, 1) := by decide +kernel
theorem dX6_restLatestOn_42 : decode cX6_restLatestOn 42 = .ok (.getfield 39, 3) := by decide +kernel
theorem dX6_restLatestOn_45 : decode cX6_restLatestOn 45 = .ok (.iload 5, 2) := by decide +kernel
theorem dX6_restLatestOn_47 : decode cX6_restLatestOn 47 = .ok (.iload 4, 2) := by decide +kernel
theorem dX6_restLatestOn_49 : decode cX6_restLatestOn 49 = .ok (.iastore, 1) := by decide +kernel
theorem dX6_restLatestOn_50 : decode cX6_restLatestOn 50 = .ok (.return_, 1) := by decide +kernel
theorem dX6_takeFrom_0 : decode cX6_takeFrom 0 = .ok (.aload_n 0, 1) := by decide +kernel
theorem dX6_takeFrom_1 : decode cX6_takeFrom 1 = .ok (.aload_n 1, 1) := by decide +kernel
theorem dX6_takeFrom_2 : decode cX6_takeFrom 2 = .ok (.getfield 45, 3) := by decide +kernel
theorem dX6_takeFrom_5 : decode cX6_takeFrom 5 = .ok (.putfield 45, 3) := by decide +kernel
theorem dX6_takeFrom_8 : decode cX6_takeFrom 8 = .ok (.aload_n 1, 1) := by decide +kernel
theorem dX6_takeFrom_9 : decode cX6_takeFrom 9 = .ok (.getfield 9, 3) := by decide +kernel
theorem dX6_takeFrom_12 : decode cX6_takeFrom 12 = .ok (.aload_n 0, 1) := by decide +kernel
theorem dX6_takeFrom_13 : decode cX6_takeFrom 13 = .ok (.getfield 9, 3) := by decide +kernel
theorem dX6_takeFrom_16 : decode cX6_takeFrom 16 = .ok (.aload_n 0, 1) := by decide +kernel
theorem dX6_takeFrom_17 : decode cX6_takeFrom 17 = .ok (.getfield 45, 3) := by decide +kernel
theorem dX6_takeFrom_20 : decode cX6_takeFrom 20 = .ok (.invokestatic 55, 3) := by decide +kernel
theorem dX6_takeFrom_23 : decode cX6_takeFrom 23 = .ok (.aload_n 1, 1) := by decide +kernel
theorem dX6_takeFrom_24 : decode cX6_takeFrom 24 = .ok (.getfield 15, 3) := by decide +kernel
theorem dX6_takeFrom_27 : decode cX6_takeFrom 27 = .ok (.aload_n 0, 1) := by decide +kernel
theorem dX6_takeFrom_28 : decode cX6_takeFrom 28 = .ok (.getfield 15, 3) := by decide +kernel
theorem dX6_takeFrom_31 : decode cX6_takeFrom 31 = .ok (.aload_n 0, 1) := by decide +kernel
theorem dX6_takeFrom_32 : decode cX6_takeFrom 32 = .ok (.getfield 45, 3) := by decide +kernel
theorem dX6_takeFrom_35 : decode cX6_takeFrom 35 = .ok (.invokestatic 55, 3) := by decide +kernel
theorem dX6_takeFrom_38 : decode cX6_takeFrom 38 = .ok (.aload_n 1, 1) := by decide +kernel
theorem dX6_takeFrom_39 : decode cX6_takeFrom 39 = .ok (.getfield 18, 3) := by decide +kernel
theorem dX6_takeFrom_42 : decode cX6_takeFrom 42 = .ok (.aload_n 0, 1) := by decide +kernel
theorem dX6_takeFrom_43 : decode cX6_takeFrom 43 = .ok (.getfield 18, 3) := by decide +kernel
theorem dX6_takeFrom_46 : decode cX6_takeFrom 46 = .ok (.aload_n 0, 1) := by decide +kernel
theorem dX6_takeFrom_47 : decode cX6_takeFrom 47 = .ok (.getfield 45, 3) := by decide +kernel
theorem dX6_takeFrom_50 : decode cX6_takeFrom 50 = .ok (.invokestatic 55, 3) := by decide +kernel
theorem dX6_takeFrom_53 : decode cX6_takeFrom 53 = .ok (.aload_n 1, 1) := by decide +kernel
theorem dX6_takeFrom_54 : decode cX6_takeFrom 54 = .ok (.getfield 21, 3) := by decide +kernel
theorem dX6_takeFrom_57 : decode cX6_takeFrom 57 = .ok (.aload_n 0, 1) := by decide +kernel
theorem dX6_takeFrom_58 : decode cX6_takeFrom 58 = .ok (.getfield 21, 3) := by decide +kernel
theorem dX6_takeFrom_61 : decode cX6_takeFrom 61 = .ok (.aload_n 0, 1) := by decide +kernel
theorem dX6_takeFrom_62 : decode cX6_takeFrom 62 = .ok (.getfield 45, 3) := by decide +kernel
theorem dX6_takeFrom_65 : decode cX6_takeFrom 65 = .ok (.invokestatic 55, 3) := by decide +kernel
theorem dX6_takeFrom_68 : decode cX6_takeFrom 68 = .ok (.aload_n 1, 1) := by decide +kernel
theorem dX6_takeFrom_69 : decode cX6_takeFrom 69 = .ok (.getfield 24, 3) := by decide +kernel
theorem dX6_takeFrom_72 : decode cX6_takeFrom 72 = .ok (.aload_n 0, 1) := by decide +kernel
theorem dX6_takeFrom_73 : decode cX6_takeFrom 73 = .ok (.getfield 24, 3) := by decide +kernel
theorem dX6_takeFrom_76 : decode cX6_takeFrom 76 = .ok (.aload_n 0, 1) := by decide +kernel
theorem dX6_takeFrom_77 : decode cX6_takeFrom 77 = .ok (.getfield 45, 3) := by decide +kernel
theorem dX6_takeFrom_80 : decode cX6_takeFrom 80 = .ok (.invokestatic 55, 3) := by decide +kernel
theorem dX6_takeFrom_83 : decode cX6_takeFrom 83 = .ok (.aload_n 1, 1) := by decide +kernel
theorem dX6_takeFrom_84 : decode cX6_takeFrom 84 = .ok (.getfield 27, 3) := by decide +kernel
theorem dX6_takeFrom_87 : decode cX6_takeFrom 87 = .ok (.aload_n 0, 1) := by decide +kernel
theorem dX6_takeFrom_88 : decode cX6_takeFrom 88 = .ok (.getfield 27, 3) := by decide +kernel
theorem dX6_takeFrom_91 : decode cX6_takeFrom 91 = .ok (.aload_n 0, 1) := by decide +kernel
theorem dX6_takeFrom_92 : decode cX6_takeFrom 92 = .ok (.getfield 45, 3) := by decide +kernel
theorem dX6_takeFrom_95 : decode cX6_takeFrom 95 = .ok (.invokestatic 55, 3) := by decide +kernel
theorem dX6_takeFrom_98 : decode cX6_takeFrom 98 = .ok (.aload_n 1, 1) := by decide +kernel
theorem dX6_takeFrom_99 : decode cX6_takeFrom 99 = .ok (.getfield 30, 3) := by decide +kernel
theorem dX6_takeFrom_102 : decode cX6_takeFrom 102 = .ok (.aload_n 0, 1) := by decide +kernel
theorem dX6_takeFrom_103 : decode cX6_takeFrom 103 = .ok (.getfield 30, 3) := by decide +kernel
theorem dX6_takeFrom_106 : decode cX6_takeFrom 106 = .ok (.aload_n 0, 1) := by decide +kernel
theorem dX6_takeFrom_107 : decode cX6_takeFrom 107 = .ok (.getfield 45, 3) := by decide +kernel
theorem dX6_takeFrom_110 : decode cX6_takeFrom 110 = .ok (.invokestatic 55, 3) := by decide +kernel
theorem dX6_takeFrom_113 : decode cX6_takeFrom 113 = .ok (.aload_n 1, 1) := by decide +kernel
theorem dX6_takeFrom_114 : decode cX6_takeFrom 114 = .ok (.getfield 33, 3) := by decide +kernel
theorem dX6_takeFrom_117 : decode cX6_takeFrom 117 = .ok (.aload_n 0, 1) := by decide +kernel
theorem dX6_takeFrom_118 : decode cX6_takeFrom 118 = .ok (.getfield 33, 3) := by decide +kernel
theorem dX6_takeFrom_121 : decode cX6_takeFrom 121 = .ok (.aload_n 0, 1) := by decide +kernel
theorem dX6_takeFrom_122 : decode cX6_takeFrom 122 = .ok (.getfield 45, 3) := by decide +kernel
theorem dX6_takeFrom_125 : decode cX6_takeFrom 125 = .ok (.invokestatic 55, 3) := by decide +kernel
theorem dX6_takeFrom_128 : decode cX6_takeFrom 128 = .ok (.aload_n 1, 1) := by decide +kernel
theorem dX6_takeFrom_129 : decode cX6_takeFrom 129 = .ok (.getfield 36, 3) := by decide +kernel
theorem dX6_takeFrom_132 : decode cX6_takeFrom 132 = .ok (.aload_n 0, 1) := by decide +kernel
theorem dX6_takeFrom_133 : decode cX6_takeFrom 133 = .ok (.getfield 36, 3) := by decide +kernel
theorem dX6_takeFrom_136 : decode cX6_takeFrom 136 = .ok (.aload_n 0, 1) := by decide +kernel
theorem dX6_takeFrom_137 : decode cX6_takeFrom 137 = .ok (.getfield 45, 3) := by decide +kernel
theorem dX6_takeFrom_140 : decode cX6_takeFrom 140 = .ok (.invokestatic 55, 3) := by decide +kernel
theorem dX6_takeFrom_143 : decode cX6_takeFrom 143 = .ok (.aload_n 1, 1) := by decide +kernel
theorem dX6_takeFrom_144 : decode cX6_takeFrom 144 = .ok (.getfield 39, 3) := by decide +kernel
theorem dX6_takeFrom_147 : decode cX6_takeFrom 147 = .ok (.aload_n 0, 1) := by decide +kernel
theorem dX6_takeFrom_148 : decode cX6_takeFrom 148 = .ok (.getfield 39, 3) := by decide +kernel
theorem dX6_takeFrom_151 : decode cX6_takeFrom 151 = .ok (.aload_n 0, 1) := by decide +kernel
theorem dX6_takeFrom_152 : decode cX6_takeFrom 152 = .ok (.getfield 45, 3) := by decide +kernel
theorem dX6_takeFrom_155 : decode cX6_takeFrom 155 = .ok (.invokestatic 55, 3) := by decide +kernel
theorem dX6_takeFrom_158 : decode cX6_takeFrom 158 = .ok (.aload_n 1, 1) := by decide +kernel
theorem dX6_takeFrom_159 : decode cX6_takeFrom 159 = .ok (.getfield 42, 3) := by decide +kernel
theorem dX6_takeFrom_162 : decode cX6_takeFrom 162 = .ok (.aload_n 0, 1) := by decide +kernel
theorem dX6_takeFrom_163 : decode cX6_takeFrom 163 = .ok (.getfield 42, 3) := by decide +kernel
theorem dX6_takeFrom_166 : decode cX6_takeFrom 166 = .ok (.bipush 40, 2) := by decide +kernel
theorem dX6_takeFrom_168 : decode cX6_takeFrom 168 = .ok (.invokestatic 55, 3) := by decide +kernel
theorem dX6_takeFrom_171 : decode cX6_takeFrom 171 = .ok (.return_, 1) := by decide +kernel
theorem dX6_unmarkAll_0 : decode cX6_unmarkAll 0 = .ok (.iconst 0, 1) := by decide +kernel
theorem dX6_unmarkAll_1 : decode cX6_unmarkAll 1 = .ok (.istore_n 2, 1) := by decide +kernel
theorem dX6_unmarkAll_2 : decode cX6_unmarkAll 2 = .ok (.iload_n 2, 1) := by decide +kernel
theorem dX6_unmarkAll_3 : decode cX6_unmarkAll 3 = .ok (.aload_n 0, 1) := by decide +kernel
theorem dX6_unmarkAll_4 : decode cX6_unmarkAll 4 = .ok (.getfield 45, 3) := by decide +kernel
theorem dX6_unmarkAll_7 : decode cX6_unmarkAll 7 = .ok (.if_icmp .ge 19, 3) := by decide +kernel
theorem dX6_unmarkAll_10 : decode cX6_unmarkAll 10 = .ok (.iload_n 2, 1) := by decide +kernel
theorem dX6_unmarkAll_11 : decode cX6_unmarkAll 11 = .ok (.aload_n 1, 1) := by decide +kernel
theorem dX6_unmarkAll_12 : decode cX6_unmarkAll 12 = .ok (.arraylength, 1) := by decide +kernel
theorem dX6_unmarkAll_13 : decode cX6_unmarkAll 13 = .ok (.if_icmp .ge 13, 3) := by decide +kernel
theorem dX6_unmarkAll_16 : decode cX6_unmarkAll 16 = .ok (.aload_n 1, 1) := by decide +kernel
theorem dX6_unmarkAll_17 : decode cX6_unmarkAll 17 = .ok (.iload_n 2, 1) := by decide +kernel
theorem dX6_unmarkAll_18 : decode cX6_unmarkAll 18 = .ok (.iconst 0, 1) := by decide +kernel
theorem dX6_unmarkAll_19 : decode cX6_unmarkAll 19 = .ok (.bastore, 1) := by decide +kernel
theorem dX6_unmarkAll_20 : decode cX6_unmarkAll 20 = .ok (.iinc 2 1, 3) := by decide +kernel
theorem dX6_unmarkAll_23 : decode cX6_unmarkAll 23 = .ok (.goto (-21), 3) := by decide +kernel
theorem dX6_unmarkAll_26 : decode cX6_unmarkAll 26 = .ok (.return_, 1) := by decide +kernel
def g_X5_thirdAt (F : Nat) (o0 : Nat) (x1 : Int32) (u : rg_U) : Option Int32 :=
  if (g_X9_isInstructionPlace x1) = 0 then (some 0) else (ck (inb x1 64) (some (rA u (o0 + 4) x1)))
set_option maxHeartbeats 4000000 in
set_option maxRecDepth 100000 in
theorem k_X5_thirdAt {gs : List String} {ro : pm_RO} {n : Nat} {w : Nat → va_E} {b : Nat} {u : rg_U} {F : Nat} {o0 : Nat} {x1 : Int32} {z : Int32} (hR : rg shC b u n w) (hs0 : sp_Program o0) (h : g_X5_thirdAt F o0 x1 u = some z) : pm_Met gs ro M_X5_thirdAt 1 0 0 [.ref (b + o0), .int x1] n w (pm_p n w (some (.int z))) := by
  unfold g_X5_thirdAt at h
  refine pm_ofX in_X5_thirdAt (Nat.le_of_ble_eq_true rfl) rfl (L := [some (.ref (b + o0)), some (.int x1)]) rfl ?_
  refine pm_iload_n dX5_thirdAt_0 rfl ?_
  refine dx_cSNp (M := M_X5_thirdAt) (Mc := M_X9_isInstructionPlace) (dc := 0) (As := [.int x1]) (st := []) dX5_thirdAt_1 ml_X5_30 (by decide) (Nat.le_of_ble_eq_true rfl) rfl (k_X9_isInstructionPlace rfl) ?_
  refine pm_if_eq (tgt := 16) dX5_thirdAt_4 (by decide) (fun c1 => ?_) (fun c1 => ?_)
  · replace h := it_t c1 h
    refine pm_iconst (v := 0) dX5_thirdAt_16 (by decide) ?_
    cases h
    exact pm_iret dX5_thirdAt_17 rfl (Nat.le_refl _) (Nat.le_refl _) ⟨rfl, rfl, rfl⟩
  · replace h := it_f c1 h
    refine pm_aload_n dX5_thirdAt_7 rfl ?_
    refine dx_gr (j := o0) (o := (o0 + 4)) hR dX5_thirdAt_8 fl_X5_21 (sp_Program_self hs0) rfl ?_
    refine pm_iload_n dX5_thirdAt_11 rfl ?_
    obtain ⟨c2, h⟩ := ck_some h
    refine dx_al (j := (o0 + 4)) hR dX5_thirdAt_12 (sp_Program_c hs0) (vp_in_iff.mpr c2) ?_
    refine pm_goto (tgt := 17) dX5_thirdAt_13 (by decide) ?_
    cases h
    exact pm_iret dX5_thirdAt_17 rfl (Nat.le_refl _) (Nat.le_refl _) ⟨rfl, rfl, rfl⟩
def g_X6_takeFrom (F : Nat) (o0 : Nat) (o1 : Nat) (u : rg_U) : Option rg_U :=
  lt1 (sF u o0 11 (rF u o1 11)) (fun u1 => ob (g_X9_copyRow F (o1 + 1) 3800 (o0 + 1) 3800 (rF u1 o0 11) u1) (fun r6 => ob (g_X9_copyRow F (o1 + 2) 3800 (o0 + 2) 3800 (rF r6 o0 11) r6) (fun r11 => ob (g_X9_copyRow F (o1 + 3) 3800 (o0 + 3) 3800 (rF r11 o0 11) r11) (fun r16 => ob (g_X9_copyRow F (o1 + 4) 3800 (o0 + 4) 3800 (rF r16 o0 11) r16) (fun r21 => ob (g_X9_copyRow F (o1 + 5) 3800 (o0 + 5) 3800 (rF r21 o0 11) r21) (fun r26 => ob (g_X9_copyRow F (o1 + 6) 3800 (o0 + 6) 3800 (rF r26 o0 11) r26) (fun r31 => ob (g_X9_copyRow F (o1 + 7) 3800 (o0 + 7) 3800 (rF r31 o0 11) r31) (fun r36 => ob (g_X9_copyRow F (o1 + 8) 3800 (o0 + 8) 3800 (rF r36 o0 11) r36) (fun r41 => ob (g_X9_copyRow F (o1 + 9) 3800 (o0 + 9) 3800 (rF r41 o0 11) r41) (fun r46 => ob (g_X9_copyRow F (o1 + 10) 3800 (o0 + 10) 3800 (rF r46 o0 11) r46) (fun r51 => ob (g_X9_copyRow F (o1 + 11) 40 (o0 + 11) 40 40 r51) (fun r56 => some r56))))))))))))
set_option maxHeartbeats 4000000 in
set_option maxRecDepth 100000 in
theorem k_X6_takeFrom {gs : List String} {ro : pm_RO} {n : Nat} {w : Nat → va_E} {b : Nat} {u : rg_U} {F : Nat} {o0 : Nat} {o1 : Nat} {z : rg_U} (hR : rg shC b u n w) (hs0 : sp_Puts o0) (hs1 : sp_Puts o1) (h : g_X6_takeFrom F o0 o1 u = some z) : pm_Met gs ro M_X6_takeFrom 2 0 0 [.ref (b + o0), .ref (b + o1)] n w (rg_post shC b n w none z) := by
  unfold g_X6_takeFrom at h
  refine pm_ofX in_X6_takeFrom (Nat.le_of_ble_eq_true rfl) rfl (L := [some (.ref (b + o0)), some (.ref (b + o1))]) rfl ?_
  refine pm_aload_n dX6_takeFrom_0 rfl ?_
  refine pm_aload_n dX6_takeFrom_1 rfl ?_
  refine dx_gi (j := o1) hR dX6_takeFrom_2 fl_X6_45 (sp_Puts_self hs1) rfl ?_
  obtain ⟨u1, hu2, h⟩ := lt1_ex h
  refine dx_pi (j := o0) hR rg_k0 dX6_takeFrom_5 fl_X6_45 (sp_Puts_self hs0) rfl hu2 (fun w3 hR4 hk5 => ?_)
  refine pm_aload_n dX6_takeFrom_8 rfl ?_
  refine dx_gr (j := o1) (o := (o1 + 1)) hR4 dX6_takeFrom_9 fl_X6_9 (sp_Puts_self hs1) rfl ?_
  refine pm_aload_n dX6_takeFrom_12 rfl ?_
  refine dx_gr (j := o0) (o := (o0 + 1)) hR4 dX6_takeFrom_13 fl_X6_9 (sp_Puts_self hs0) rfl ?_
  refine pm_aload_n dX6_takeFrom_16 rfl ?_
  refine dx_gi (j := o0) hR4 dX6_takeFrom_17 fl_X6_45 (sp_Puts_self hs0) rfl ?_
  obtain ⟨r6, h7, h⟩ := ob_some h
  refine dx_cSNv (M := M_X6_takeFrom) (Mc := M_X9_copyRow) (dc := 1) (As := [.ref (b + (o1 + 1)), .ref (b + (o0 + 1)), .int (rF u1 o0 11)]) (st := []) hk5 dX6_takeFrom_20 ml_X6_55 (by decide) (Nat.le_of_ble_eq_true rfl) rfl (k_X9_copyRow hR4 (sp_Puts_time hs1) (sp_Puts_time hs0) h7) (fun w8 hR9 hk10 => ?_)
  refine pm_aload_n dX6_takeFrom_23 rfl ?_
  refine dx_gr (j := o1) (o := (o1 + 2)) hR9 dX6_takeFrom_24 fl_X6_15 (sp_Puts_self hs1) rfl ?_
  refine pm_aload_n dX6_takeFrom_27 rfl ?_
  refine dx_gr (j := o0) (o := (o0 + 2)) hR9 dX6_takeFrom_28 fl_X6_15 (sp_Puts_self hs0) rfl ?_
  refine pm_aload_n dX6_takeFrom_31 rfl ?_
  refine dx_gi (j := o0) hR9 dX6_takeFrom_32 fl_X6_45 (sp_Puts_self hs0) rfl ?_
  obtain ⟨r11, h12, h⟩ := ob_some h
  refine dx_cSNv (M := M_X6_takeFrom) (Mc := M_X9_copyRow) (dc := 1) (As := [.ref (b + (o1 + 2)), .ref (b + (o0 + 2)), .int (rF r6 o0 11)]) (st := []) hk10 dX6_takeFrom_35 ml_X6_55 (by decide) (Nat.le_of_ble_eq_true rfl) rfl (k_X9_copyRow hR9 (sp_Puts_place hs1) (sp_Puts_place hs0) h12) (fun w13 hR14 hk15 => ?_)
  refine pm_aload_n dX6_takeFrom_38 rfl ?_
  refine dx_gr (j := o1) (o := (o1 + 3)) hR14 dX6_takeFrom_39 fl_X6_18 (sp_Puts_self hs1) rfl ?_
  refine pm_aload_n dX6_takeFrom_42 rfl ?_
  refine dx_gr (j := o0) (o := (o0 + 3)) hR14 dX6_takeFrom_43 fl_X6_18 (sp_Puts_self hs0) rfl ?_
  refine pm_aload_n dX6_takeFrom_46 rfl ?_
  refine dx_gi (j := o0) hR14 dX6_takeFrom_47 fl_X6_45 (sp_Puts_self hs0) rfl ?_
  obtain ⟨r16, h17, h⟩ := ob_some h
  refine dx_cSNv (M := M_X6_takeFrom) (Mc := M_X9_copyRow) (dc := 1) (As := [.ref (b + (o1 + 3)), .ref (b + (o0 + 3)), .int (rF r11 o0 11)]) (st := []) hk15 dX6_takeFrom_50 ml_X6_55 (by decide) (Nat.le_of_ble_eq_true rfl) rfl (k_X9_copyRow hR14 (sp_Puts_sort hs1) (sp_Puts_sort hs0) h17) (fun w18 hR19 hk20 => ?_)
  refine pm_aload_n dX6_takeFrom_53 rfl ?_
  refine dx_gr (j := o1) (o := (o1 + 4)) hR19 dX6_takeFrom_54 fl_X6_21 (sp_Puts_self hs1) rfl ?_
  refine pm_aload_n dX6_takeFrom_57 rfl ?_
  refine dx_gr (j := o0) (o := (o0 + 4)) hR19 dX6_takeFrom_58 fl_X6_21 (sp_Puts_self hs0) rfl ?_
  refine pm_aload_n dX6_takeFrom_61 rfl ?_
  refine dx_gi (j := o0) hR19 dX6_takeFrom_62 fl_X6_45 (sp_Puts_self hs0) rfl ?_
  obtain ⟨r21, h22, h⟩ := ob_some h
  refine dx_cSNv (M := M_X6_takeFrom) (Mc := M_X9_copyRow) (dc := 1) (As := [.ref (b + (o1 + 4)), .ref (b + (o0 + 4)), .int (rF r16 o0 11)]) (st := []) hk20 dX6_takeFrom_65 ml_X6_55 (by decide) (Nat.le_of_ble_eq_true rfl) rfl (k_X9_copyRow hR19 (sp_Puts_number hs1) (sp_Puts_number hs0) h22) (fun w23 hR24 hk25 => ?_)
  refine pm_aload_n dX6_takeFrom_68 rfl ?_
  refine dx_gr (j := o1) (o := (o1 + 5)) hR24 dX6_takeFrom_69 fl_X6_24 (sp_Puts_self hs1) rfl ?_
  refine pm_aload_n dX6_takeFrom_72 rfl ?_
  refine dx_gr (j := o0) (o := (o0 + 5)) hR24 dX6_takeFrom_73 fl_X6_24 (sp_Puts_self hs0) rfl ?_
  refine pm_aload_n dX6_takeFrom_76 rfl ?_
  refine dx_gi (j := o0) hR24 dX6_takeFrom_77 fl_X6_45 (sp_Puts_self hs0) rfl ?_
  obtain ⟨r26, h27, h⟩ := ob_some h
  refine dx_cSNv (M := M_X6_takeFrom) (Mc := M_X9_copyRow) (dc := 1) (As := [.ref (b + (o1 + 5)), .ref (b + (o0 + 5)), .int (rF r21 o0 11)]) (st := []) hk25 dX6_takeFrom_80 ml_X6_55 (by decide) (Nat.le_of_ble_eq_true rfl) rfl (k_X9_copyRow hR24 (sp_Puts_changes hs1) (sp_Puts_changes hs0) h27) (fun w28 hR29 hk30 => ?_)
  refine pm_aload_n dX6_takeFrom_83 rfl ?_
  refine dx_gr (j := o1) (o := (o1 + 6)) hR29 dX6_takeFrom_84 fl_X6_27 (sp_Puts_self hs1) rfl ?_
  refine pm_aload_n dX6_takeFrom_87 rfl ?_
  refine dx_gr (j := o0) (o := (o0 + 6)) hR29 dX6_takeFrom_88 fl_X6_27 (sp_Puts_self hs0) rfl ?_
  refine pm_aload_n dX6_takeFrom_91 rfl ?_
  refine dx_gi (j := o0) hR29 dX6_takeFrom_92 fl_X6_45 (sp_Puts_self hs0) rfl ?_
  obtain ⟨r31, h32, h⟩ := ob_some h
  refine dx_cSNv (M := M_X6_takeFrom) (Mc := M_X9_copyRow) (dc := 1) (As := [.ref (b + (o1 + 6)), .ref (b + (o0 + 6)), .int (rF r26 o0 11)]) (st := []) hk30 dX6_takeFrom_95 ml_X6_55 (by decide) (Nat.le_of_ble_eq_true rfl) rfl (k_X9_copyRow hR29 (sp_Puts_ahead hs1) (sp_Puts_ahead hs0) h32) (fun w33 hR34 hk35 => ?_)
  refine pm_aload_n dX6_takeFrom_98 rfl ?_
  refine dx_gr (j := o1) (o := (o1 + 7)) hR34 dX6_takeFrom_99 fl_X6_30 (sp_Puts_self hs1) rfl ?_
  refine pm_aload_n dX6_takeFrom_102 rfl ?_
  refine dx_gr (j := o0) (o := (o0 + 7)) hR34 dX6_takeFrom_103 fl_X6_30 (sp_Puts_self hs0) rfl ?_
  refine pm_aload_n dX6_takeFrom_106 rfl ?_
  refine dx_gi (j := o0) hR34 dX6_takeFrom_107 fl_X6_45 (sp_Puts_self hs0) rfl ?_
  obtain ⟨r36, h37, h⟩ := ob_some h
  refine dx_cSNv (M := M_X6_takeFrom) (Mc := M_X9_copyRow) (dc := 1) (As := [.ref (b + (o1 + 7)), .ref (b + (o0 + 7)), .int (rF r31 o0 11)]) (st := []) hk35 dX6_takeFrom_110 ml_X6_55 (by decide) (Nat.le_of_ble_eq_true rfl) rfl (k_X9_copyRow hR34 (sp_Puts_began hs1) (sp_Puts_began hs0) h37) (fun w38 hR39 hk40 => ?_)
  refine pm_aload_n dX6_takeFrom_113 rfl ?_
  refine dx_gr (j := o1) (o := (o1 + 8)) hR39 dX6_takeFrom_114 fl_X6_33 (sp_Puts_self hs1) rfl ?_
  refine pm_aload_n dX6_takeFrom_117 rfl ?_
  refine dx_gr (j := o0) (o := (o0 + 8)) hR39 dX6_takeFrom_118 fl_X6_33 (sp_Puts_self hs0) rfl ?_
  refine pm_aload_n dX6_takeFrom_121 rfl ?_
  refine dx_gi (j := o0) hR39 dX6_takeFrom_122 fl_X6_45 (sp_Puts_self hs0) rfl ?_
  obtain ⟨r41, h42, h⟩ := ob_some h
  refine dx_cSNv (M := M_X6_takeFrom) (Mc := M_X9_copyRow) (dc := 1) (As := [.ref (b + (o1 + 8)), .ref (b + (o0 + 8)), .int (rF r36 o0 11)]) (st := []) hk40 dX6_takeFrom_125 ml_X6_55 (by decide) (Nat.le_of_ble_eq_true rfl) rfl (k_X9_copyRow hR39 (sp_Puts_entry hs1) (sp_Puts_entry hs0) h42) (fun w43 hR44 hk45 => ?_)
  refine pm_aload_n dX6_takeFrom_128 rfl ?_
  refine dx_gr (j := o1) (o := (o1 + 9)) hR44 dX6_takeFrom_129 fl_X6_36 (sp_Puts_self hs1) rfl ?_
  refine pm_aload_n dX6_takeFrom_132 rfl ?_
  refine dx_gr (j := o0) (o := (o0 + 9)) hR44 dX6_takeFrom_133 fl_X6_36 (sp_Puts_self hs0) rfl ?_
  refine pm_aload_n dX6_takeFrom_136 rfl ?_
  refine dx_gi (j := o0) hR44 dX6_takeFrom_137 fl_X6_45 (sp_Puts_self hs0) rfl ?_
  obtain ⟨r46, h47, h⟩ := ob_some h
  refine dx_cSNv (M := M_X6_takeFrom) (Mc := M_X9_copyRow) (dc := 1) (As := [.ref (b + (o1 + 9)), .ref (b + (o0 + 9)), .int (rF r41 o0 11)]) (st := []) hk45 dX6_takeFrom_140 ml_X6_55 (by decide) (Nat.le_of_ble_eq_true rfl) rfl (k_X9_copyRow hR44 (sp_Puts_lookedOne hs1) (sp_Puts_lookedOne hs0) h47) (fun w48 hR49 hk50 => ?_)
  refine pm_aload_n dX6_takeFrom_143 rfl ?_
  refine dx_gr (j := o1) (o := (o1 + 10)) hR49 dX6_takeFrom_144 fl_X6_39 (sp_Puts_self hs1) rfl ?_
  refine pm_aload_n dX6_takeFrom_147 rfl ?_
  refine dx_gr (j := o0) (o := (o0 + 10)) hR49 dX6_takeFrom_148 fl_X6_39 (sp_Puts_self hs0) rfl ?_
  refine pm_aload_n dX6_takeFrom_151 rfl ?_
  refine dx_gi (j := o0) hR49 dX6_takeFrom_152 fl_X6_45 (sp_Puts_self hs0) rfl ?_
  obtain ⟨r51, h52, h⟩ := ob_some h
  refine dx_cSNv (M := M_X6_takeFrom) (Mc := M_X9_copyRow) (dc := 1) (As := [.ref (b + (o1 + 10)), .ref (b + (o0 + 10)), .int (rF r46 o0 11)]) (st := []) hk50 dX6_takeFrom_155 ml_X6_55 (by decide) (Nat.le_of_ble_eq_true rfl) rfl (k_X9_copyRow hR49 (sp_Puts_lookedTwo hs1) (sp_Puts_lookedTwo hs0) h52) (fun w53 hR54 hk55 => ?_)
  refine pm_aload_n dX6_takeFrom_158 rfl ?_
  refine dx_gr (j := o1) (o := (o1 + 11)) hR54 dX6_takeFrom_159 fl_X6_42 (sp_Puts_self hs1) rfl ?_
  refine pm_aload_n dX6_takeFrom_162 rfl ?_
  refine dx_gr (j := o0) (o := (o0 + 11)) hR54 dX6_takeFrom_163 fl_X6_42 (sp_Puts_self hs0) rfl ?_
  refine pm_bipush (v := 40) dX6_takeFrom_166 (by decide) ?_
  obtain ⟨r56, h57, h⟩ := ob_some h
  refine dx_cSNv (M := M_X6_takeFrom) (Mc := M_X9_copyRow) (dc := 1) (As := [.ref (b + (o1 + 11)), .ref (b + (o0 + 11)), .int 40]) (st := []) hk55 dX6_takeFrom_168 ml_X6_55 (by decide) (Nat.le_of_ble_eq_true rfl) rfl (k_X9_copyRow hR54 (sp_Puts_latest hs1) (sp_Puts_latest hs0) h57) (fun w58 hR59 hk60 => ?_)
  cases h
  exact pm_vret dX6_takeFrom_171 rfl (Nat.le_refl _) (Nat.le_refl _) ⟨rfl, rfl, hR59, hk60⟩
def g_X6_clear (F : Nat) (o0 : Nat) (u : rg_U) : Option rg_U :=
  lt1 (sF u o0 11 0) (fun u1 => ob (g_J7_fill_53178 F (o0 + 11) 40 (-1) u1) (fun r6 => some r6))
set_option maxHeartbeats 4000000 in
set_option maxRecDepth 100000 in
theorem k_X6_clear {gs : List String} {ro : pm_RO} {n : Nat} {w : Nat → va_E} {b : Nat} {u : rg_U} {F : Nat} {o0 : Nat} {z : rg_U} (hR : rg shC b u n w) (hs0 : sp_Puts o0) (h : g_X6_clear F o0 u = some z) : pm_Met gs ro M_X6_clear 1 0 0 [.ref (b + o0)] n w (rg_post shC b n w none z) := by
  unfold g_X6_clear at h
  refine pm_ofX in_X6_clear (Nat.le_of_ble_eq_true rfl) rfl (L := [some (.ref (b + o0))]) rfl ?_
  refine pm_aload_n dX6_clear_0 rfl ?_
  refine pm_iconst (v := 0) dX6_clear_1 (by decide) ?_
  obtain ⟨u1, hu2, h⟩ := lt1_ex h
  refine dx_pi (j := o0) hR rg_k0 dX6_clear_2 fl_X6_45 (sp_Puts_self hs0) rfl hu2 (fun w3 hR4 hk5 => ?_)
  refine pm_aload_n dX6_clear_5 rfl ?_
  refine dx_gr (j := o0) (o := (o0 + 11)) hR4 dX6_clear_6 fl_X6_42 (sp_Puts_self hs0) rfl ?_
  refine pm_iconst (v := (-1)) dX6_clear_9 (by decide) ?_
  obtain ⟨r6, h7, h⟩ := ob_some h
  refine dx_cSv (M := M_X6_clear) (Mc := M_J7_fill_53178) (dc := 0) (As := [.ref (b + (o0 + 11)), .int (-1)]) (st := []) hk5 dX6_clear_10 ml_X6_49 (by decide) (Nat.le_of_ble_eq_true rfl) rfl (k_J7_fill_53178 hR4 (sp_Puts_latest hs0) h7) (fun w8 hR9 hk10 => ?_)
  cases h
  exact pm_vret dX6_clear_13 rfl (Nat.le_refl _) (Nat.le_refl _) ⟨rfl, rfl, hR9, hk10⟩
def g_X6_changesOf (F : Nat) (o0 : Nat) (x1 : Int32) (u : rg_U) : Option Int32 :=
  ob (g_X6_has F o0 x1 u) (fun r1 => if r1 = 0 then (some 0) else (ck (inb x1 3800) (some (rA u (o0 + 5) x1))))
set_option maxHeartbeats 4000000 in
set_option maxRecDepth 100000 in
theorem k_X6_changesOf {gs : List String} {ro : pm_RO} {n : Nat} {w : Nat → va_E} {b : Nat} {u : rg_U} {F : Nat} {o0 : Nat} {x1 : Int32} {z : Int32} (hR : rg shC b u n w) (hs0 : sp_Puts o0) (h : g_X6_changesOf F o0 x1 u = some z) : pm_Met gs ro M_X6_changesOf 1 0 0 [.ref (b + o0), .int x1] n w (pm_p n w (some (.int z))) := by
  unfold g_X6_changesOf at h
  refine pm_ofX in_X6_changesOf (Nat.le_of_ble_eq_true rfl) rfl (L := [some (.ref (b + o0)), some (.int x1)]) rfl ?_
  refine pm_aload_n dX6_changesOf_0 rfl ?_
  refine pm_iload_n dX6_changesOf_1 rfl ?_
  obtain ⟨r1, h2, h⟩ := ob_some h
  refine dx_cVp (j := o0) (M := M_X6_changesOf) (Mc := M_X6_has) (dc := 0) (As := [.int x1]) (st := []) hR dX6_changesOf_2 ml_X6_59 ⟨TX6, 12, rfl⟩ (sp_Puts_self hs0) (by decide) (Nat.le_of_ble_eq_true rfl) rfl (k_X6_has hR hs0 h2) ?_
  refine pm_if_eq (tgt := 17) dX6_changesOf_5 (by decide) (fun c3 => ?_) (fun c3 => ?_)
  · replace h := it_t c3 h
    refine pm_iconst (v := 0) dX6_changesOf_17 (by decide) ?_
    cases h
    exact pm_iret dX6_changesOf_18 rfl (Nat.le_refl _) (Nat.le_refl _) ⟨rfl, rfl, rfl⟩
  · replace h := it_f c3 h
    refine pm_aload_n dX6_changesOf_8 rfl ?_
    refine dx_gr (j := o0) (o := (o0 + 5)) hR dX6_changesOf_9 fl_X6_24 (sp_Puts_self hs0) rfl ?_
    refine pm_iload_n dX6_changesOf_12 rfl ?_
    obtain ⟨c4, h⟩ := ck_some h
    refine dx_al (j := (o0 + 5)) hR dX6_changesOf_13 (sp_Puts_changes hs0) (vp_in_iff.mpr c4) ?_
    refine pm_goto (tgt := 18) dX6_changesOf_14 (by decide) ?_
    cases h
    exact pm_iret dX6_changesOf_18 rfl (Nat.le_refl _) (Nat.le_refl _) ⟨rfl, rfl, rfl⟩
def g_X6_aheadOf (F : Nat) (o0 : Nat) (x1 : Int32) (u : rg_U) : Option Int32 :=
  ob (g_X6_has F o0 x1 u) (fun r1 => if r1 = 0 then (some (-1)) else (ck (inb x1 3800) (some (rA u (o0 + 6) x1))))
set_option maxHeartbeats 4000000 in
set_option maxRecDepth 100000 in
theorem k_X6_aheadOf {gs : List String} {ro : pm_RO} {n : Nat} {w : Nat → va_E} {b : Nat} {u : rg_U} {F : Nat} {o0 : Nat} {x1 : Int32} {z : Int32} (hR : rg shC b u n w) (hs0 : sp_Puts o0) (h : g_X6_aheadOf F o0 x1 u = some z) : pm_Met gs ro M_X6_aheadOf 1 0 0 [.ref (b + o0), .int x1] n w (pm_p n w (some (.int z))) := by
  unfold g_X6_aheadOf at h
  refine pm_ofX in_X6_aheadOf (Nat.le_of_ble_eq_true rfl) rfl (L := [some (.ref (b + o0)), some (.int x1)]) rfl ?_
  refine pm_aload_n dX6_aheadOf_0 rfl ?_
  refine pm_iload_n dX6_aheadOf_1 rfl ?_
  obtain ⟨r1, h2, h⟩ := ob_some h
  refine dx_cVp (j := o0) (M := M_X6_aheadOf) (Mc := M_X6_has) (dc := 0) (As := [.int x1]) (st := []) hR dX6_aheadOf_2 ml_X6_59 ⟨TX6, 12, rfl⟩ (sp_Puts_self hs0) (by decide) (Nat.le_of_ble_eq_true rfl) rfl (k_X6_has hR hs0 h2) ?_
  refine pm_if_eq (tgt := 17) dX6_aheadOf_5 (by decide) (fun c3 => ?_) (fun c3 => ?_)
  · replace h := it_t c3 h
    refine pm_iconst (v := (-1)) dX6_aheadOf_17 (by decide) ?_
    cases h
    exact pm_iret dX6_aheadOf_18 rfl (Nat.le_refl _) (Nat.le_refl _) ⟨rfl, rfl, rfl⟩
  · replace h := it_f c3 h
    refine pm_aload_n dX6_aheadOf_8 rfl ?_
    refine dx_gr (j := o0) (o := (o0 + 6)) hR dX6_aheadOf_9 fl_X6_27 (sp_Puts_self hs0) rfl ?_
    refine pm_iload_n dX6_aheadOf_12 rfl ?_
    obtain ⟨c4, h⟩ := ck_some h
    refine dx_al (j := (o0 + 6)) hR dX6_aheadOf_13 (sp_Puts_ahead hs0) (vp_in_iff.mpr c4) ?_
    refine pm_goto (tgt := 18) dX6_aheadOf_14 (by decide) ?_
    cases h
    exact pm_iret dX6_aheadOf_18 rfl (Nat.le_refl _) (Nat.le_refl _) ⟨rfl, rfl, rfl⟩
def g_X6_latestOf (F : Nat) (o0 : Nat) (x1 : Int32) (u : rg_U) : Option Int32 :=
  if (g_X9_isPlace x1) = 0 then (some (-1)) else (ck (inb x1 40) (some (rA u (o0 + 11) x1)))
set_option maxHeartbeats 4000000 in
set_option maxRecDepth 100000 in
theorem k_X6_latestOf {gs : List String} {ro : pm_RO} {n : Nat} {w : Nat → va_E} {b : Nat} {u : rg_U} {F : Nat} {o0 : Nat} {x1 : Int32} {z : Int32} (hR : rg shC b u n w) (hs0 : sp_Puts o0) (h : g_X6_latestOf F o0 x1 u = some z) : pm_Met gs ro M_X6_latestOf 1 0 0 [.ref (b + o0), .int x1] n w (pm_p n w (some (.int z))) := by
  unfold g_X6_latestOf at h
  refine pm_ofX in_X6_latestOf (Nat.le_of_ble_eq_true rfl) rfl (L := [some (.ref (b + o0)), some (.int x1)]) rfl ?_
  refine pm_iload_n dX6_latestOf_0 rfl ?_
  refine dx_cSNp (M := M_X6_latestOf) (Mc := M_X9_isPlace) (dc := 0) (As := [.int x1]) (st := []) dX6_latestOf_1 ml_X6_63 (by decide) (Nat.le_of_ble_eq_true rfl) rfl (k_X9_isPlace rfl) ?_
  refine pm_if_eq (tgt := 16) dX6_latestOf_4 (by decide) (fun c1 => ?_) (fun c1 => ?_)
  · replace h := it_t c1 h
    refine pm_iconst (v := (-1)) dX6_latestOf_16 (by decide) ?_
    cases h
    exact pm_iret dX6_latestOf_17 rfl (Nat.le_refl _) (Nat.le_refl _) ⟨rfl, rfl, rfl⟩
  · replace h := it_f c1 h
    refine pm_aload_n dX6_latestOf_7 rfl ?_
    refine dx_gr (j := o0) (o := (o0 + 11)) hR dX6_latestOf_8 fl_X6_42 (sp_Puts_self hs0) rfl ?_
    refine pm_iload_n dX6_latestOf_11 rfl ?_
    obtain ⟨c2, h⟩ := ck_some h
    refine dx_al (j := (o0 + 11)) hR dX6_latestOf_12 (sp_Puts_latest hs0) (vp_in_iff.mpr c2) ?_
    refine pm_goto (tgt := 17) dX6_latestOf_13 (by decide) ?_
    cases h
    exact pm_iret dX6_latestOf_17 rfl (Nat.le_refl _) (Nat.le_refl _) ⟨rfl, rfl, rfl⟩
def g_X6_add_j118 (F : Nat) (o0 : Nat) (l2 : Int32) (l5 : Int32) (l6 : Int32) (s0 : Int32) (s1 : Int32) (s2 : Int32) (u : rg_U) : Option (Int32 × rg_U) :=
  ck (inb s2 3800) (lt1 (sA u (o0 + 5) s2 (s1 + s0)) (fun u36 => ck (inb (rF u36 o0 11) 3800) (lt1 (sA u36 (o0 + 6) (rF u36 o0 11) l5) (fun u42 => ck (inb l2 40) (lt1 (sA u42 (o0 + 11) l2 (rF u42 o0 11)) (fun u48 => lt1 (sF u48 o0 11 ((rF u48 o0 11) + 1)) (fun u53 => ck (l6 = 0 ∨ l6 = 1) (some (l6, u53)))))))))
set_option maxHeartbeats 4000000 in
set_option maxRecDepth 100000 in
theorem k_X6_add_j118 {gs : List String} {ro : pm_RO} {n : Nat} {w w1 : Nat → va_E} {b : Nat} {u : rg_U} {F : Nat} {o0 : Nat} {l2 : Int32} {l5 : Int32} {l6 : Int32} {s0 : Int32} {s1 : Int32} {s2 : Int32} {z : (Int32 × rg_U)} (hR : rg shC b u n w1) (hk : rg_k b shC.length w w1) (hs0 : sp_Puts o0) (h : g_X6_add_j118 F o0 l2 l5 l6 s0 s1 s2 u = some z) : pm_X gs ro M_X6_add 2 0 0 0 0 118 [some (.ref (b + o0)), none, some (.int l2), none, none, some (.int l5), some (.int l6)] [.int s0, .int s1, .int s2, .ref (b + (o0 + 5))] n w1 (rg_post shC b n w (some (.int z.1)) z.2) := by
  unfold g_X6_add_j118 at h
  refine pm_iadd dX6_add_118 ?_
  obtain ⟨c35, h⟩ := ck_some h
  obtain ⟨u36, hu37, h⟩ := lt1_ex h
  refine dx_as (j := (o0 + 5)) hR hk dX6_add_119 (sp_Puts_changes hs0) (vp_in_iff.mpr c35) hu37 (fun w38 hR39 hk40 => ?_)
  refine pm_aload_n dX6_add_120 rfl ?_
  refine dx_gr (j := o0) (o := (o0 + 6)) hR39 dX6_add_121 fl_X6_27 (sp_Puts_self hs0) rfl ?_
  refine pm_aload_n dX6_add_124 rfl ?_
  refine dx_gi (j := o0) hR39 dX6_add_125 fl_X6_45 (sp_Puts_self hs0) rfl ?_
  refine pm_iload dX6_add_128 rfl ?_
  obtain ⟨c41, h⟩ := ck_some h
  obtain ⟨u42, hu43, h⟩ := lt1_ex h
  refine dx_as (j := (o0 + 6)) hR39 hk40 dX6_add_130 (sp_Puts_ahead hs0) (vp_in_iff.mpr c41) hu43 (fun w44 hR45 hk46 => ?_)
  refine pm_aload_n dX6_add_131 rfl ?_
  refine dx_gr (j := o0) (o := (o0 + 11)) hR45 dX6_add_132 fl_X6_42 (sp_Puts_self hs0) rfl ?_
  refine pm_iload_n dX6_add_135 rfl ?_
  refine pm_aload_n dX6_add_136 rfl ?_
  refine dx_gi (j := o0) hR45 dX6_add_137 fl_X6_45 (sp_Puts_self hs0) rfl ?_
  obtain ⟨c47, h⟩ := ck_some h
  obtain ⟨u48, hu49, h⟩ := lt1_ex h
  refine dx_as (j := (o0 + 11)) hR45 hk46 dX6_add_140 (sp_Puts_latest hs0) (vp_in_iff.mpr c47) hu49 (fun w50 hR51 hk52 => ?_)
  refine pm_aload_n dX6_add_141 rfl ?_
  refine pm_dup dX6_add_142 rfl ?_
  refine dx_gi (j := o0) hR51 dX6_add_143 fl_X6_45 (sp_Puts_self hs0) rfl ?_
  refine pm_iconst (v := 1) dX6_add_146 (by decide) ?_
  refine pm_iadd dX6_add_147 ?_
  obtain ⟨u53, hu54, h⟩ := lt1_ex h
  refine dx_pi (j := o0) hR51 hk52 dX6_add_148 fl_X6_45 (sp_Puts_self hs0) rfl hu54 (fun w55 hR56 hk57 => ?_)
  refine pm_iload dX6_add_151 rfl ?_
  obtain ⟨c58, h⟩ := ck_some h
  cases h
  exact pm_zret dX6_add_153 rfl c58 (Nat.le_refl _) (Nat.le_refl _) ⟨rfl, rfl, hR56, hk57⟩
def g_X6_add_j51 (F : Nat) (o0 : Nat) (l1 : Int32) (l2 : Int32) (l3 : Int32) (l4 : Int32) (l5 : Int32) (s0 : Int32) (u : rg_U) : Option (Int32 × rg_U) :=
  ck (inb (rF u o0 11) 3800) (lt1 (sA u (o0 + 1) (rF u o0 11) l1) (fun u9 => ck (inb (rF u9 o0 11) 3800) (lt1 (sA u9 (o0 + 2) (rF u9 o0 11) l2) (fun u15 => ck (inb (rF u15 o0 11) 3800) (lt1 (sA u15 (o0 + 3) (rF u15 o0 11) l3) (fun u21 => ck (inb (rF u21 o0 11) 3800) (lt1 (sA u21 (o0 + 4) (rF u21 o0 11) l4) (fun u27 => ob (g_X6_changesOf F o0 l5 u27) (fun r32 => if s0 = 0 then (g_X6_add_j118 F o0 l2 l5 s0 0 r32 (rF u27 o0 11) u27) else (g_X6_add_j118 F o0 l2 l5 s0 1 r32 (rF u27 o0 11) u27))))))))))
set_option maxHeartbeats 4000000 in
set_option maxRecDepth 100000 in
theorem k_X6_add_j51 {gs : List String} {ro : pm_RO} {n : Nat} {w w1 : Nat → va_E} {b : Nat} {u : rg_U} {F : Nat} {o0 : Nat} {l1 : Int32} {l2 : Int32} {l3 : Int32} {l4 : Int32} {l5 : Int32} {s0 : Int32} {z : (Int32 × rg_U)} (hR : rg shC b u n w1) (hk : rg_k b shC.length w w1) (hs0 : sp_Puts o0) (h : g_X6_add_j51 F o0 l1 l2 l3 l4 l5 s0 u = some z) : pm_X gs ro M_X6_add 2 0 0 0 0 51 [some (.ref (b + o0)), some (.int l1), some (.int l2), some (.int l3), some (.int l4), some (.int l5), none] [.int s0] n w1 (rg_post shC b n w (some (.int z.1)) z.2) := by
  unfold g_X6_add_j51 at h
  refine pm_istore dX6_add_51 (by decide) rfl rfl ?_
  refine pm_aload_n dX6_add_53 rfl ?_
  refine dx_gr (j := o0) (o := (o0 + 1)) hR dX6_add_54 fl_X6_9 (sp_Puts_self hs0) rfl ?_
  refine pm_aload_n dX6_add_57 rfl ?_
  refine dx_gi (j := o0) hR dX6_add_58 fl_X6_45 (sp_Puts_self hs0) rfl ?_
  refine pm_iload_n dX6_add_61 rfl ?_
  obtain ⟨c8, h⟩ := ck_some h
  obtain ⟨u9, hu10, h⟩ := lt1_ex h
  refine dx_as (j := (o0 + 1)) hR hk dX6_add_62 (sp_Puts_time hs0) (vp_in_iff.mpr c8) hu10 (fun w11 hR12 hk13 => ?_)
  refine pm_aload_n dX6_add_63 rfl ?_
  refine dx_gr (j := o0) (o := (o0 + 2)) hR12 dX6_add_64 fl_X6_15 (sp_Puts_self hs0) rfl ?_
  refine pm_aload_n dX6_add_67 rfl ?_
  refine dx_gi (j := o0) hR12 dX6_add_68 fl_X6_45 (sp_Puts_self hs0) rfl ?_
  refine pm_iload_n dX6_add_71 rfl ?_
  obtain ⟨c14, h⟩ := ck_some h
  obtain ⟨u15, hu16, h⟩ := lt1_ex h
  refine dx_as (j := (o0 + 2)) hR12 hk13 dX6_add_72 (sp_Puts_place hs0) (vp_in_iff.mpr c14) hu16 (fun w17 hR18 hk19 => ?_)
  refine pm_aload_n dX6_add_73 rfl ?_
  refine dx_gr (j := o0) (o := (o0 + 3)) hR18 dX6_add_74 fl_X6_18 (sp_Puts_self hs0) rfl ?_
  refine pm_aload_n dX6_add_77 rfl ?_
  refine dx_gi (j := o0) hR18 dX6_add_78 fl_X6_45 (sp_Puts_self hs0) rfl ?_
  refine pm_iload_n dX6_add_81 rfl ?_
  obtain ⟨c20, h⟩ := ck_some h
  obtain ⟨u21, hu22, h⟩ := lt1_ex h
  refine dx_as (j := (o0 + 3)) hR18 hk19 dX6_add_82 (sp_Puts_sort hs0) (vp_in_iff.mpr c20) hu22 (fun w23 hR24 hk25 => ?_)
  refine pm_aload_n dX6_add_83 rfl ?_
  refine dx_gr (j := o0) (o := (o0 + 4)) hR24 dX6_add_84 fl_X6_21 (sp_Puts_self hs0) rfl ?_
  refine pm_aload_n dX6_add_87 rfl ?_
  refine dx_gi (j := o0) hR24 dX6_add_88 fl_X6_45 (sp_Puts_self hs0) rfl ?_
  refine pm_iload dX6_add_91 rfl ?_
  obtain ⟨c26, h⟩ := ck_some h
  obtain ⟨u27, hu28, h⟩ := lt1_ex h
  refine dx_as (j := (o0 + 4)) hR24 hk25 dX6_add_93 (sp_Puts_number hs0) (vp_in_iff.mpr c26) hu28 (fun w29 hR30 hk31 => ?_)
  refine pm_aload_n dX6_add_94 rfl ?_
  refine dx_gr (j := o0) (o := (o0 + 5)) hR30 dX6_add_95 fl_X6_24 (sp_Puts_self hs0) rfl ?_
  refine pm_aload_n dX6_add_98 rfl ?_
  refine dx_gi (j := o0) hR30 dX6_add_99 fl_X6_45 (sp_Puts_self hs0) rfl ?_
  refine pm_aload_n dX6_add_102 rfl ?_
  refine pm_iload dX6_add_103 rfl ?_
  obtain ⟨r32, h33, h⟩ := ob_some h
  refine dx_cVp (j := o0) (M := M_X6_add) (Mc := M_X6_changesOf) (dc := 1) (As := [.int l5]) (st := [.int (rF u27 o0 11), .ref (b + (o0 + 5))]) hR30 dX6_add_105 ml_X6_77 ⟨TX6, 12, rfl⟩ (sp_Puts_self hs0) (by decide) (Nat.le_of_ble_eq_true rfl) rfl (k_X6_changesOf hR30 hs0 h33) ?_
  refine pm_iload dX6_add_108 rfl ?_
  refine pm_if_eq (tgt := 117) dX6_add_110 (by decide) (fun c34 => ?_) (fun c34 => ?_)
  · replace h := it_t c34 h
    refine pm_iconst (v := 0) dX6_add_117 (by decide) ?_
    refine pm_lw (L' := [some (.ref (b + o0)), none, some (.int l2), none, none, some (.int l5), some (.int s0)]) ⟨Or.inr rfl, Or.inl rfl, Or.inr rfl, Or.inl rfl, Or.inl rfl, Or.inr rfl, Or.inr rfl, trivial⟩ ?_
    exact k_X6_add_j118 hR30 hk31 hs0 h
  · replace h := it_f c34 h
    refine pm_iconst (v := 1) dX6_add_113 (by decide) ?_
    refine pm_goto (tgt := 118) dX6_add_114 (by decide) ?_
    refine pm_lw (L' := [some (.ref (b + o0)), none, some (.int l2), none, none, some (.int l5), some (.int s0)]) ⟨Or.inr rfl, Or.inl rfl, Or.inr rfl, Or.inl rfl, Or.inl rfl, Or.inr rfl, Or.inr rfl, trivial⟩ ?_
    exact k_X6_add_j118 hR30 hk31 hs0 h
def g_X6_add (F : Nat) (o0 : Nat) (x1 : Int32) (x2 : Int32) (x3 : Int32) (x4 : Int32) (u : rg_U) : Option (Int32 × rg_U) :=
  if (g_X9_isPlace x2) = 0 then (some (0, u)) else (if (rF u o0 11) < 0 then (some (0, u)) else (if (rF u o0 11) < 3800 then (ck (inb x2 40) (ob (g_X6_hasValue F o0 (rA u (o0 + 11) x2) x3 x4 u) (fun r5 => if r5 = 0 then (g_X6_add_j51 F o0 x1 x2 x3 x4 (rA u (o0 + 11) x2) 1 u) else (g_X6_add_j51 F o0 x1 x2 x3 x4 (rA u (o0 + 11) x2) 0 u)))) else (some (0, u))))
set_option maxHeartbeats 4000000 in
set_option maxRecDepth 100000 in
theorem k_X6_add {gs : List String} {ro : pm_RO} {n : Nat} {w : Nat → va_E} {b : Nat} {u : rg_U} {F : Nat} {o0 : Nat} {x1 : Int32} {x2 : Int32} {x3 : Int32} {x4 : Int32} {z : (Int32 × rg_U)} (hR : rg shC b u n w) (hs0 : sp_Puts o0) (h : g_X6_add F o0 x1 x2 x3 x4 u = some z) : pm_Met gs ro M_X6_add 2 0 0 [.ref (b + o0), .int x1, .int x2, .int x3, .int x4] n w (rg_post shC b n w (some (.int z.1)) z.2) := by
  unfold g_X6_add at h
  refine pm_ofX in_X6_add (Nat.le_of_ble_eq_true rfl) rfl (L := [some (.ref (b + o0)), some (.int x1), some (.int x2), some (.int x3), some (.int x4), none, none]) rfl ?_
  refine pm_iload_n dX6_add_0 rfl ?_
  refine dx_cSNp (M := M_X6_add) (Mc := M_X9_isPlace) (dc := 0) (As := [.int x2]) (st := []) dX6_add_1 ml_X6_63 (by decide) (Nat.le_of_ble_eq_true rfl) rfl (k_X9_isPlace rfl) ?_
  refine pm_if_eq (tgt := 24) dX6_add_4 (by decide) (fun c1 => ?_) (fun c1 => ?_)
  · replace h := it_t c1 h
    refine pm_iconst (v := 0) dX6_add_24 (by decide) ?_
    cases h
    exact pm_zret dX6_add_25 rfl (Or.inl rfl) (Nat.le_refl _) (Nat.le_refl _) ⟨rfl, rfl, hR, rg_k0⟩
  · replace h := it_f c1 h
    refine pm_aload_n dX6_add_7 rfl ?_
    refine dx_gi (j := o0) hR dX6_add_8 fl_X6_45 (sp_Puts_self hs0) rfl ?_
    refine pm_if_lt (tgt := 24) dX6_add_11 (by decide) (fun c2 => ?_) (fun c2 => ?_)
    · replace h := it_t c2 h
      refine pm_iconst (v := 0) dX6_add_24 (by decide) ?_
      cases h
      exact pm_zret dX6_add_25 rfl (Or.inl rfl) (Nat.le_refl _) (Nat.le_refl _) ⟨rfl, rfl, hR, rg_k0⟩
    · replace h := it_f c2 h
      refine pm_aload_n dX6_add_14 rfl ?_
      refine dx_gi (j := o0) hR dX6_add_15 fl_X6_45 (sp_Puts_self hs0) rfl ?_
      refine pm_sipush (v := 3800) dX6_add_18 (by decide) ?_
      refine pm_icmp_lt (tgt := 26) dX6_add_21 (by decide) (fun c3 => ?_) (fun c3 => ?_)
      · replace h := it_t c3 h
        refine pm_aload_n dX6_add_26 rfl ?_
        refine dx_gr (j := o0) (o := (o0 + 11)) hR dX6_add_27 fl_X6_42 (sp_Puts_self hs0) rfl ?_
        refine pm_iload_n dX6_add_30 rfl ?_
        obtain ⟨c4, h⟩ := ck_some h
        refine dx_al (j := (o0 + 11)) hR dX6_add_31 (sp_Puts_latest hs0) (vp_in_iff.mpr c4) ?_
        refine pm_istore dX6_add_32 (by decide) rfl rfl ?_
        refine pm_aload_n dX6_add_34 rfl ?_
        refine pm_iload dX6_add_35 rfl ?_
        refine pm_iload_n dX6_add_37 rfl ?_
        refine pm_iload dX6_add_38 rfl ?_
        obtain ⟨r5, h6, h⟩ := ob_some h
        refine dx_cVp (j := o0) (M := M_X6_add) (Mc := M_X6_hasValue) (dc := 1) (As := [.int (rA u (o0 + 11) x2), .int x3, .int x4]) (st := []) hR dX6_add_40 ml_X6_73 ⟨TX6, 12, rfl⟩ (sp_Puts_self hs0) (by decide) (Nat.le_of_ble_eq_true rfl) rfl (k_X6_hasValue hR hs0 h6) ?_
        refine pm_if_ne (tgt := 50) dX6_add_43 (by decide) (fun c7 => ?_) (fun c7 => ?_)
        · replace h := it_f c7 h
          refine pm_iconst (v := 0) dX6_add_50 (by decide) ?_
          exact k_X6_add_j51 hR rg_k0 hs0 h
        · replace h := it_t c7 h
          refine pm_iconst (v := 1) dX6_add_46 (by decide) ?_
          refine pm_goto (tgt := 51) dX6_add_47 (by decide) ?_
          exact k_X6_add_j51 hR rg_k0 hs0 h
      · replace h := it_f c3 h
        refine pm_iconst (v := 0) dX6_add_24 (by decide) ?_
        cases h
        exact pm_zret dX6_add_25 rfl (Or.inl rfl) (Nat.le_refl _) (Nat.le_refl _) ⟨rfl, rfl, hR, rg_k0⟩
def g_X6_restLatestOn (F : Nat) (o0 : Nat) (x1 : Int32) (x2 : Int32) (x3 : Int32) (x4 : Int32) (u : rg_U) : Option rg_U :=
  ob (g_X6_has F o0 ((rF u o0 11) - 1) u) (fun r1 => if r1 = 0 then (some u) else (ck (inb ((rF u o0 11) - 1) 3800) (lt1 (sA u (o0 + 7) ((rF u o0 11) - 1) x1) (fun u5 => ck (inb ((rF u o0 11) - 1) 3800) (lt1 (sA u5 (o0 + 8) ((rF u o0 11) - 1) x2) (fun u11 => ck (inb ((rF u o0 11) - 1) 3800) (lt1 (sA u11 (o0 + 9) ((rF u o0 11) - 1) x3) (fun u17 => ck (inb ((rF u o0 11) - 1) 3800) (lt1 (sA u17 (o0 + 10) ((rF u o0 11) - 1) x4) (fun u23 => some u23))))))))))
set_option maxHeartbeats 4000000 in
set_option maxRecDepth 100000 in
theorem k_X6_restLatestOn {gs : List String} {ro : pm_RO} {n : Nat} {w : Nat → va_E} {b : Nat} {u : rg_U} {F : Nat} {o0 : Nat} {x1 : Int32} {x2 : Int32} {x3 : Int32} {x4 : Int32} {z : rg_U} (hR : rg shC b u n w) (hs0 : sp_Puts o0) (h : g_X6_restLatestOn F o0 x1 x2 x3 x4 u = some z) : pm_Met gs ro M_X6_restLatestOn 1 0 0 [.ref (b + o0), .int x1, .int x2, .int x3, .int x4] n w (rg_post shC b n w none z) := by
  unfold g_X6_restLatestOn at h
  refine pm_ofX in_X6_restLatestOn (Nat.le_of_ble_eq_true rfl) rfl (L := [some (.ref (b + o0)), some (.int x1), some (.int x2), some (.int x3), some (.int x4), none]) rfl ?_
  refine pm_aload_n dX6_restLatestOn_0 rfl ?_
  refine dx_gi (j := o0) hR dX6_restLatestOn_1 fl_X6_45 (sp_Puts_self hs0) rfl ?_
  refine pm_iconst (v := 1) dX6_restLatestOn_4 (by decide) ?_
  refine pm_isub dX6_restLatestOn_5 ?_
  refine pm_istore dX6_restLatestOn_6 (by decide) rfl rfl ?_
  refine pm_aload_n dX6_restLatestOn_8 rfl ?_
  refine pm_iload dX6_restLatestOn_9 rfl ?_
  obtain ⟨r1, h2, h⟩ := ob_some h
  refine dx_cVp (j := o0) (M := M_X6_restLatestOn) (Mc := M_X6_has) (dc := 0) (As := [.int ((rF u o0 11) - 1)]) (st := []) hR dX6_restLatestOn_11 ml_X6_59 ⟨TX6, 12, rfl⟩ (sp_Puts_self hs0) (by decide) (Nat.le_of_ble_eq_true rfl) rfl (k_X6_has hR hs0 h2) ?_
  refine pm_if_eq (tgt := 50) dX6_restLatestOn_14 (by decide) (fun c3 => ?_) (fun c3 => ?_)
  · replace h := it_t c3 h
    cases h
    exact pm_vret dX6_restLatestOn_50 rfl (Nat.le_refl _) (Nat.le_refl _) ⟨rfl, rfl, hR, rg_k0⟩
  · replace h := it_f c3 h
    refine pm_aload_n dX6_restLatestOn_17 rfl ?_
    refine dx_gr (j := o0) (o := (o0 + 7)) hR dX6_restLatestOn_18 fl_X6_30 (sp_Puts_self hs0) rfl ?_
    refine pm_iload dX6_restLatestOn_21 rfl ?_
    refine pm_iload_n dX6_restLatestOn_23 rfl ?_
    obtain ⟨c4, h⟩ := ck_some h
    obtain ⟨u5, hu6, h⟩ := lt1_ex h
    refine dx_as (j := (o0 + 7)) hR rg_k0 dX6_restLatestOn_24 (sp_Puts_began hs0) (vp_in_iff.mpr c4) hu6 (fun w7 hR8 hk9 => ?_)
    refine pm_aload_n dX6_restLatestOn_25 rfl ?_
    refine dx_gr (j := o0) (o := (o0 + 8)) hR8 dX6_restLatestOn_26 fl_X6_33 (sp_Puts_self hs0) rfl ?_
    refine pm_iload dX6_restLatestOn_29 rfl ?_
    refine pm_iload_n dX6_restLatestOn_31 rfl ?_
    obtain ⟨c10, h⟩ := ck_some h
    obtain ⟨u11, hu12, h⟩ := lt1_ex h
    refine dx_as (j := (o0 + 8)) hR8 hk9 dX6_restLatestOn_32 (sp_Puts_entry hs0) (vp_in_iff.mpr c10) hu12 (fun w13 hR14 hk15 => ?_)
    refine pm_aload_n dX6_restLatestOn_33 rfl ?_
    refine dx_gr (j := o0) (o := (o0 + 9)) hR14 dX6_restLatestOn_34 fl_X6_36 (sp_Puts_self hs0) rfl ?_
    refine pm_iload dX6_restLatestOn_37 rfl ?_
    refine pm_iload_n dX6_restLatestOn_39 rfl ?_
    obtain ⟨c16, h⟩ := ck_some h
    obtain ⟨u17, hu18, h⟩ := lt1_ex h
    refine dx_as (j := (o0 + 9)) hR14 hk15 dX6_restLatestOn_40 (sp_Puts_lookedOne hs0) (vp_in_iff.mpr c16) hu18 (fun w19 hR20 hk21 => ?_)
    refine pm_aload_n dX6_restLatestOn_41 rfl ?_
    refine dx_gr (j := o0) (o := (o0 + 10)) hR20 dX6_restLatestOn_42 fl_X6_39 (sp_Puts_self hs0) rfl ?_
    refine pm_iload dX6_restLatestOn_45 rfl ?_
    refine pm_iload dX6_restLatestOn_47 rfl ?_
    obtain ⟨c22, h⟩ := ck_some h
    obtain ⟨u23, hu24, h⟩ := lt1_ex h
    refine dx_as (j := (o0 + 10)) hR20 hk21 dX6_restLatestOn_49 (sp_Puts_lookedTwo hs0) (vp_in_iff.mpr c22) hu24 (fun w25 hR26 hk27 => ?_)
    cases h
    exact pm_vret dX6_restLatestOn_50 rfl (Nat.le_refl _) (Nat.le_refl _) ⟨rfl, rfl, hR26, hk27⟩
def g_X6_dropBehind_j49 (F : Nat) (o0 : Nat) (l1 : Int32) (l2 : Int32) (u : rg_U) : Option ((Int32 × rg_U) ⊕ rg_U) :=
  lt1 (sF u o0 11 l2) (fun u7 => some (.inl ((l2 + (-1)), u7)))
set_option maxHeartbeats 4000000 in
set_option maxRecDepth 100000 in
theorem k_X6_dropBehind_j49 {gs : List String} {ro : pm_RO} {n : Nat} {w w1 : Nat → va_E} {b : Nat} {u : rg_U} {F : Nat} {o0 : Nat} {l1 : Int32} {l2 : Int32} {z : ((Int32 × rg_U) ⊕ rg_U)} {Q : Option Value → Nat → (Nat → va_E) → Prop} (hR : rg shC b u n w1) (hk : rg_k b shC.length w w1) (hs0 : sp_Puts o0) (h : g_X6_dropBehind_j49 F o0 l1 l2 u = some z) (hc : ∀ s', z = .inl s' → ∀ w1, rg shC b s'.2 n w1 → rg_k b shC.length w w1 → pm_X gs ro M_X6_dropBehind 2 0 0 0 0 7 [some (.ref (b + o0)), some (.int l1), some (.int s'.1)] [] n w1 Q) (he0 : ∀ r', z = .inr r' → ∀ w1, rg shC b r' n w1 → rg_k b shC.length w w1 → pm_X gs ro M_X6_dropBehind 2 0 0 0 0 60 [none, none, none] [] n w1 Q) : pm_X gs ro M_X6_dropBehind 2 0 0 0 0 49 [some (.ref (b + o0)), some (.int l1), some (.int l2)] [] n w1 Q := by
  unfold g_X6_dropBehind_j49 at h
  refine pm_aload_n dX6_dropBehind_49 rfl ?_
  refine pm_iload_n dX6_dropBehind_50 rfl ?_
  obtain ⟨u7, hu8, h⟩ := lt1_ex h
  refine dx_pi (j := o0) hR hk dX6_dropBehind_51 fl_X6_45 (sp_Puts_self hs0) rfl hu8 (fun w9 hR10 hk11 => ?_)
  refine pm_iinc (v := (l2 + (-1))) dX6_dropBehind_54 rfl rfl (by decide) rfl rfl ?_
  refine pm_goto (tgt := 7) dX6_dropBehind_57 (by decide) ?_
  refine pm_lw (L' := [some (.ref (b + o0)), some (.int l1), some (.int (l2 + (-1)))]) ⟨Or.inr rfl, Or.inr rfl, Or.inr rfl, trivial⟩ ?_
  exact hc _ (Option.some.inj h).symm _ hR10 hk11
def g_X6_dropBehind_l7 (F : Nat) (o0 : Nat) (l1 : Int32) (l2 : Int32) (u : rg_U) : Option ((Int32 × rg_U) ⊕ rg_U) :=
  if l2 < 0 then (some (.inr u)) else (ob (g_X6_timeOf F o0 l2 u) (fun r2 => if r2 ≤ l1 then (some (.inr u)) else (ck (inb l2 3800) (if (g_X9_isPlace (rA u (o0 + 2) l2)) = 0 then (g_X6_dropBehind_j49 F o0 l1 l2 u) else (ck (inb l2 3800) (ck (inb l2 3800) (ck (inb (rA u (o0 + 2) l2) 40) (lt1 (sA u (o0 + 11) (rA u (o0 + 2) l2) (rA u (o0 + 6) l2)) (fun u15 => g_X6_dropBehind_j49 F o0 l1 l2 u15)))))))))
set_option maxHeartbeats 4000000 in
set_option maxRecDepth 100000 in
theorem k_X6_dropBehind_l7 {gs : List String} {ro : pm_RO} {n : Nat} {w w1 : Nat → va_E} {b : Nat} {u : rg_U} {F : Nat} {o0 : Nat} {l1 : Int32} {l2 : Int32} {z : (Int32 × rg_U) ⊕ rg_U} {Q : Option Value → Nat → (Nat → va_E) → Prop} (hR : rg shC b u n w1) (hk : rg_k b shC.length w w1) (hs0 : sp_Puts o0) (h : g_X6_dropBehind_l7 F o0 l1 l2 u = some z) (hc : ∀ s', z = .inl s' → ∀ w1, rg shC b s'.2 n w1 → rg_k b shC.length w w1 → pm_X gs ro M_X6_dropBehind 2 0 0 0 0 7 [some (.ref (b + o0)), some (.int l1), some (.int s'.1)] [] n w1 Q) (he0 : ∀ r', z = .inr r' → ∀ w1, rg shC b r' n w1 → rg_k b shC.length w w1 → pm_X gs ro M_X6_dropBehind 2 0 0 0 0 60 [none, none, none] [] n w1 Q) : pm_X gs ro M_X6_dropBehind 2 0 0 0 0 7 [some (.ref (b + o0)), some (.int l1), some (.int l2)] [] n w1 Q := by
  unfold g_X6_dropBehind_l7 at h
  refine pm_iload_n dX6_dropBehind_7 rfl ?_
  refine pm_if_lt (tgt := 60) dX6_dropBehind_8 (by decide) (fun c1 => ?_) (fun c1 => ?_)
  · replace h := it_t c1 h
    refine pm_lw (L' := [none, none, none]) ⟨Or.inl rfl, Or.inl rfl, Or.inl rfl, trivial⟩ ?_
    exact he0 _ (Option.some.inj h).symm _ hR hk
  · replace h := it_f c1 h
    refine pm_aload_n dX6_dropBehind_11 rfl ?_
    refine pm_iload_n dX6_dropBehind_12 rfl ?_
    obtain ⟨r2, h3, h⟩ := ob_some h
    refine dx_cVp (j := o0) (M := M_X6_dropBehind) (Mc := M_X6_timeOf) (dc := 1) (As := [.int l2]) (st := []) hR dX6_dropBehind_13 ml_X6_80 ⟨TX6, 12, rfl⟩ (sp_Puts_self hs0) (by decide) (Nat.le_of_ble_eq_true rfl) rfl (k_X6_timeOf hR hs0 h3) ?_
    refine pm_iload_n dX6_dropBehind_16 rfl ?_
    refine pm_icmp_le (tgt := 60) dX6_dropBehind_17 (by decide) (fun c4 => ?_) (fun c4 => ?_)
    · replace h := it_t c4 h
      refine pm_lw (L' := [none, none, none]) ⟨Or.inl rfl, Or.inl rfl, Or.inl rfl, trivial⟩ ?_
      exact he0 _ (Option.some.inj h).symm _ hR hk
    · replace h := it_f c4 h
      refine pm_aload_n dX6_dropBehind_20 rfl ?_
      refine dx_gr (j := o0) (o := (o0 + 2)) hR dX6_dropBehind_21 fl_X6_15 (sp_Puts_self hs0) rfl ?_
      refine pm_iload_n dX6_dropBehind_24 rfl ?_
      obtain ⟨c5, h⟩ := ck_some h
      refine dx_al (j := (o0 + 2)) hR dX6_dropBehind_25 (sp_Puts_place hs0) (vp_in_iff.mpr c5) ?_
      refine dx_cSNp (M := M_X6_dropBehind) (Mc := M_X9_isPlace) (dc := 0) (As := [.int (rA u (o0 + 2) l2)]) (st := []) dX6_dropBehind_26 ml_X6_63 (by decide) (Nat.le_of_ble_eq_true rfl) rfl (k_X9_isPlace rfl) ?_
      refine pm_if_eq (tgt := 49) dX6_dropBehind_29 (by decide) (fun c6 => ?_) (fun c6 => ?_)
      · replace h := it_t c6 h
        exact k_X6_dropBehind_j49 hR hk hs0 h hc he0
      · replace h := it_f c6 h
        refine pm_aload_n dX6_dropBehind_32 rfl ?_
        refine dx_gr (j := o0) (o := (o0 + 11)) hR dX6_dropBehind_33 fl_X6_42 (sp_Puts_self hs0) rfl ?_
        refine pm_aload_n dX6_dropBehind_36 rfl ?_
        refine dx_gr (j := o0) (o := (o0 + 2)) hR dX6_dropBehind_37 fl_X6_15 (sp_Puts_self hs0) rfl ?_
        refine pm_iload_n dX6_dropBehind_40 rfl ?_
        obtain ⟨c12, h⟩ := ck_some h
        refine dx_al (j := (o0 + 2)) hR dX6_dropBehind_41 (sp_Puts_place hs0) (vp_in_iff.mpr c12) ?_
        refine pm_aload_n dX6_dropBehind_42 rfl ?_
        refine dx_gr (j := o0) (o := (o0 + 6)) hR dX6_dropBehind_43 fl_X6_27 (sp_Puts_self hs0) rfl ?_
        refine pm_iload_n dX6_dropBehind_46 rfl ?_
        obtain ⟨c13, h⟩ := ck_some h
        refine dx_al (j := (o0 + 6)) hR dX6_dropBehind_47 (sp_Puts_ahead hs0) (vp_in_iff.mpr c13) ?_
        obtain ⟨c14, h⟩ := ck_some h
        obtain ⟨u15, hu16, h⟩ := lt1_ex h
        refine dx_as (j := (o0 + 11)) hR hk dX6_dropBehind_48 (sp_Puts_latest hs0) (vp_in_iff.mpr c14) hu16 (fun w17 hR18 hk19 => ?_)
        exact k_X6_dropBehind_j49 hR18 hk19 hs0 h hc he0
def g_X6_dropBehind (F : Nat) (o0 : Nat) (x1 : Int32) (u : rg_U) : Option rg_U :=
  ob (lp (fun (s : (Int32 × rg_U)) => g_X6_dropBehind_l7 F o0 x1 s.1 s.2) F ((((rF u o0 11) - 1) : Int32), u)) (fun r20 => some r20)
set_option maxHeartbeats 4000000 in
set_option maxRecDepth 100000 in
theorem k_X6_dropBehind {gs : List String} {ro : pm_RO} {n : Nat} {w : Nat → va_E} {b : Nat} {u : rg_U} {F : Nat} {o0 : Nat} {x1 : Int32} {z : rg_U} (hR : rg shC b u n w) (hs0 : sp_Puts o0) (h : g_X6_dropBehind F o0 x1 u = some z) : pm_Met gs ro M_X6_dropBehind 2 0 0 [.ref (b + o0), .int x1] n w (rg_post shC b n w none z) := by
  unfold g_X6_dropBehind at h
  refine pm_ofX in_X6_dropBehind (Nat.le_of_ble_eq_true rfl) rfl (L := [some (.ref (b + o0)), some (.int x1), none]) rfl ?_
  refine pm_aload_n dX6_dropBehind_0 rfl ?_
  refine dx_gi (j := o0) hR dX6_dropBehind_1 fl_X6_45 (sp_Puts_self hs0) rfl ?_
  refine pm_iconst (v := 1) dX6_dropBehind_4 (by decide) ?_
  refine pm_isub dX6_dropBehind_5 ?_
  refine pm_istore_n dX6_dropBehind_6 (by decide) rfl rfl ?_
  obtain ⟨r20, h21, h⟩ := ob_some h
  refine lp_sound (P := fun (s : (Int32 × rg_U)) => ∀ w1, rg shC b s.2 n w1 → rg_k b shC.length w w1 → pm_X gs ro M_X6_dropBehind 2 0 0 0 0 7 [some (.ref (b + o0)), some (.int x1), some (.int s.1)] [] n w1 (rg_post shC b n w none z)) (E := (fun (r : rg_U) => ∀ w1, rg shC b r n w1 → rg_k b shC.length w w1 → pm_X gs ro M_X6_dropBehind 2 0 0 0 0 60 [none, none, none] [] n w1 (rg_post shC b n w none z))) (fun s x hx hc he w1 hR1 hk1 => k_X6_dropBehind_l7 hR1 hk1 hs0 hx hc (fun r q => he r q)) F _ r20 h21 ?_ _ hR rg_k0
  intro w22 hR23 hk24
  cases h
  exact pm_vret dX6_dropBehind_60 rfl (Nat.le_refl _) (Nat.le_refl _) ⟨rfl, rfl, hR23, hk24⟩
def g_X6_putBy_l12 (F : Nat) (o0 : Nat) (l1 : Int32) (u : rg_U) (l3 : Int32) (l4 : Int32) : Option ((Int32 × Int32) ⊕ Int32) :=
  if l4 ≤ 0 then (some (.inr l3)) else (ob (g_X6_timeOf F o0 l3 u) (fun r4 => if r4 ≤ l1 then (some (.inr l3)) else (ob (g_X6_aheadOf F o0 l3 u) (fun r7 => some (.inl (r7, (l4 + (-1))))))))
set_option maxHeartbeats 4000000 in
set_option maxRecDepth 100000 in
theorem k_X6_putBy_l12 {gs : List String} {ro : pm_RO} {n : Nat} {w : Nat → va_E} {b : Nat} {u : rg_U} {F : Nat} {o0 : Nat} {l1 : Int32} {l3 : Int32} {l4 : Int32} {z : (Int32 × Int32) ⊕ Int32} {Q : Option Value → Nat → (Nat → va_E) → Prop} (hR : rg shC b u n w) (hs0 : sp_Puts o0) (h : g_X6_putBy_l12 F o0 l1 u l3 l4 = some z) (hc : ∀ s', z = .inl s' → pm_X gs ro M_X6_putBy 2 0 0 0 0 12 [some (.ref (b + o0)), some (.int l1), none, some (.int s'.1), some (.int s'.2)] [] n w Q) (he0 : ∀ r', z = .inr r' → pm_X gs ro M_X6_putBy 2 0 0 0 0 38 [none, none, none, some (.int r'), none] [] n w Q) : pm_X gs ro M_X6_putBy 2 0 0 0 0 12 [some (.ref (b + o0)), some (.int l1), none, some (.int l3), some (.int l4)] [] n w Q := by
  unfold g_X6_putBy_l12 at h
  refine pm_iload dX6_putBy_12 rfl ?_
  refine pm_if_le (tgt := 38) dX6_putBy_14 (by decide) (fun c3 => ?_) (fun c3 => ?_)
  · replace h := it_t c3 h
    refine pm_lw (L' := [none, none, none, some (.int l3), none]) ⟨Or.inl rfl, Or.inl rfl, Or.inl rfl, Or.inr rfl, Or.inl rfl, trivial⟩ ?_
    exact he0 _ (Option.some.inj h).symm
  · replace h := it_f c3 h
    refine pm_aload_n dX6_putBy_17 rfl ?_
    refine pm_iload_n dX6_putBy_18 rfl ?_
    obtain ⟨r4, h5, h⟩ := ob_some h
    refine dx_cVp (j := o0) (M := M_X6_putBy) (Mc := M_X6_timeOf) (dc := 1) (As := [.int l3]) (st := []) hR dX6_putBy_19 ml_X6_80 ⟨TX6, 12, rfl⟩ (sp_Puts_self hs0) (by decide) (Nat.le_of_ble_eq_true rfl) rfl (k_X6_timeOf hR hs0 h5) ?_
    refine pm_iload_n dX6_putBy_22 rfl ?_
    refine pm_icmp_le (tgt := 38) dX6_putBy_23 (by decide) (fun c6 => ?_) (fun c6 => ?_)
    · replace h := it_t c6 h
      refine pm_lw (L' := [none, none, none, some (.int l3), none]) ⟨Or.inl rfl, Or.inl rfl, Or.inl rfl, Or.inr rfl, Or.inl rfl, trivial⟩ ?_
      exact he0 _ (Option.some.inj h).symm
    · replace h := it_f c6 h
      refine pm_aload_n dX6_putBy_26 rfl ?_
      refine pm_iload_n dX6_putBy_27 rfl ?_
      obtain ⟨r7, h8, h⟩ := ob_some h
      refine dx_cVp (j := o0) (M := M_X6_putBy) (Mc := M_X6_aheadOf) (dc := 1) (As := [.int l3]) (st := []) hR dX6_putBy_28 ml_X6_86 ⟨TX6, 12, rfl⟩ (sp_Puts_self hs0) (by decide) (Nat.le_of_ble_eq_true rfl) rfl (k_X6_aheadOf hR hs0 h8) ?_
      refine pm_istore_n dX6_putBy_31 (by decide) rfl rfl ?_
      refine pm_iinc (v := (l4 + (-1))) dX6_putBy_32 rfl rfl (by decide) rfl rfl ?_
      refine pm_goto (tgt := 12) dX6_putBy_35 (by decide) ?_
      refine pm_lw (L' := [some (.ref (b + o0)), some (.int l1), none, some (.int r7), some (.int (l4 + (-1)))]) ⟨Or.inr rfl, Or.inr rfl, Or.inl rfl, Or.inr rfl, Or.inr rfl, trivial⟩ ?_
      exact hc _ (Option.some.inj h).symm
def g_X6_putBy (F : Nat) (o0 : Nat) (x1 : Int32) (x2 : Int32) (u : rg_U) : Option Int32 :=
  ob (g_X6_latestOf F o0 x2 u) (fun r1 => ob (lp (fun (s : (Int32 × Int32)) => g_X6_putBy_l12 F o0 x1 u s.1 s.2) F ((r1 : Int32), ((rF u o0 11) : Int32))) (fun r9 => some r9))
set_option maxHeartbeats 4000000 in
set_option maxRecDepth 100000 in
theorem k_X6_putBy {gs : List String} {ro : pm_RO} {n : Nat} {w : Nat → va_E} {b : Nat} {u : rg_U} {F : Nat} {o0 : Nat} {x1 : Int32} {x2 : Int32} {z : Int32} (hR : rg shC b u n w) (hs0 : sp_Puts o0) (h : g_X6_putBy F o0 x1 x2 u = some z) : pm_Met gs ro M_X6_putBy 2 0 0 [.ref (b + o0), .int x1, .int x2] n w (pm_p n w (some (.int z))) := by
  unfold g_X6_putBy at h
  refine pm_ofX in_X6_putBy (Nat.le_of_ble_eq_true rfl) rfl (L := [some (.ref (b + o0)), some (.int x1), some (.int x2), none, none]) rfl ?_
  refine pm_aload_n dX6_putBy_0 rfl ?_
  refine pm_iload_n dX6_putBy_1 rfl ?_
  obtain ⟨r1, h2, h⟩ := ob_some h
  refine dx_cVp (j := o0) (M := M_X6_putBy) (Mc := M_X6_latestOf) (dc := 1) (As := [.int x2]) (st := []) hR dX6_putBy_2 ml_X6_83 ⟨TX6, 12, rfl⟩ (sp_Puts_self hs0) (by decide) (Nat.le_of_ble_eq_true rfl) rfl (k_X6_latestOf hR hs0 h2) ?_
  refine pm_istore_n dX6_putBy_5 (by decide) rfl rfl ?_
  refine pm_aload_n dX6_putBy_6 rfl ?_
  refine dx_gi (j := o0) hR dX6_putBy_7 fl_X6_45 (sp_Puts_self hs0) rfl ?_
  refine pm_istore dX6_putBy_10 (by decide) rfl rfl ?_
  refine pm_lw (L' := [some (.ref (b + o0)), some (.int x1), none, some (.int r1), some (.int (rF u o0 11))]) ⟨Or.inr rfl, Or.inr rfl, Or.inl rfl, Or.inr rfl, Or.inr rfl, trivial⟩ ?_
  obtain ⟨r9, h10, h⟩ := ob_some h
  refine lp_sound (P := fun (s : (Int32 × Int32)) => pm_X gs ro M_X6_putBy 2 0 0 0 0 12 [some (.ref (b + o0)), some (.int x1), none, some (.int s.1), some (.int s.2)] [] n w (pm_p n w (some (.int z)))) (E := (fun (r : Int32) => pm_X gs ro M_X6_putBy 2 0 0 0 0 38 [none, none, none, some (.int r), none] [] n w (pm_p n w (some (.int z))))) (fun s x hx hc he => k_X6_putBy_l12 hR hs0 hx hc (fun r q => he r q)) F _ r9 h10 ?_
  refine pm_iload_n dX6_putBy_38 rfl ?_
  cases h
  exact pm_iret dX6_putBy_39 rfl (Nat.le_refl _) (Nat.le_refl _) ⟨rfl, rfl, rfl⟩
def g_X6_changedSince_l7 (F : Nat) (o0 : Nat) (l1 : Int32) (u : rg_U) (l2 : Int32) (l3 : Int32) : Option ((Int32 × Int32) ⊕ (Int32 ⊕ Int32)) :=
  if l3 ≤ 0 then (some (.inr (Sum.inr l2))) else (ob (g_X6_aheadOf F o0 l2 u) (fun r2 => ob (g_X6_has F o0 r2 u) (fun r4 => if r4 = 0 then (some (.inr (Sum.inr l2))) else (ob (g_X6_aheadOf F o0 l2 u) (fun r7 => ob (g_X6_changesOf F o0 r7 u) (fun r9 => ob (g_X6_changesOf F o0 l1 u) (fun r11 => if r9 = r11 then (ob (g_X6_aheadOf F o0 l2 u) (fun r14 => some (.inl (r14, (l3 + (-1)))))) else (some (.inr (Sum.inl l2))))))))))
set_option maxHeartbeats 4000000 in
set_option maxRecDepth 100000 in
theorem k_X6_changedSince_l7 {gs : List String} {ro : pm_RO} {n : Nat} {w : Nat → va_E} {b : Nat} {u : rg_U} {F : Nat} {o0 : Nat} {l1 : Int32} {l2 : Int32} {l3 : Int32} {z : (Int32 × Int32) ⊕ (Int32 ⊕ Int32)} {Q : Option Value → Nat → (Nat → va_E) → Prop} (hR : rg shC b u n w) (hs0 : sp_Puts o0) (h : g_X6_changedSince_l7 F o0 l1 u l2 l3 = some z) (hc : ∀ s', z = .inl s' → pm_X gs ro M_X6_changedSince 2 0 0 0 0 7 [some (.ref (b + o0)), some (.int l1), some (.int s'.1), some (.int s'.2)] [] n w Q) (he0 : ∀ r', z = .inr (Sum.inl r') → pm_X gs ro M_X6_changedSince 2 0 0 0 0 40 [some (.ref (b + o0)), none, some (.int r'), none] [] n w Q) (he1 : ∀ r', z = .inr (Sum.inr r') → pm_X gs ro M_X6_changedSince 2 0 0 0 0 55 [some (.ref (b + o0)), none, some (.int r'), none] [] n w Q) : pm_X gs ro M_X6_changedSince 2 0 0 0 0 7 [some (.ref (b + o0)), some (.int l1), some (.int l2), some (.int l3)] [] n w Q := by
  unfold g_X6_changedSince_l7 at h
  refine pm_iload_n dX6_changedSince_7 rfl ?_
  refine pm_if_le (tgt := 55) dX6_changedSince_8 (by decide) (fun c1 => ?_) (fun c1 => ?_)
  · replace h := it_t c1 h
    refine pm_lw (L' := [some (.ref (b + o0)), none, some (.int l2), none]) ⟨Or.inr rfl, Or.inl rfl, Or.inr rfl, Or.inl rfl, trivial⟩ ?_
    exact he1 _ (Option.some.inj h).symm
  · replace h := it_f c1 h
    refine pm_aload_n dX6_changedSince_11 rfl ?_
    refine pm_aload_n dX6_changedSince_12 rfl ?_
    refine pm_iload_n dX6_changedSince_13 rfl ?_
    obtain ⟨r2, h3, h⟩ := ob_some h
    refine dx_cVp (j := o0) (M := M_X6_changedSince) (Mc := M_X6_aheadOf) (dc := 1) (As := [.int l2]) (st := [.ref (b + o0)]) hR dX6_changedSince_14 ml_X6_86 ⟨TX6, 12, rfl⟩ (sp_Puts_self hs0) (by decide) (Nat.le_of_ble_eq_true rfl) rfl (k_X6_aheadOf hR hs0 h3) ?_
    obtain ⟨r4, h5, h⟩ := ob_some h
    refine dx_cVp (j := o0) (M := M_X6_changedSince) (Mc := M_X6_has) (dc := 0) (As := [.int r2]) (st := []) hR dX6_changedSince_17 ml_X6_59 ⟨TX6, 12, rfl⟩ (sp_Puts_self hs0) (by decide) (Nat.le_of_ble_eq_true rfl) rfl (k_X6_has hR hs0 h5) ?_
    refine pm_if_eq (tgt := 55) dX6_changedSince_20 (by decide) (fun c6 => ?_) (fun c6 => ?_)
    · replace h := it_t c6 h
      refine pm_lw (L' := [some (.ref (b + o0)), none, some (.int l2), none]) ⟨Or.inr rfl, Or.inl rfl, Or.inr rfl, Or.inl rfl, trivial⟩ ?_
      exact he1 _ (Option.some.inj h).symm
    · replace h := it_f c6 h
      refine pm_aload_n dX6_changedSince_23 rfl ?_
      refine pm_aload_n dX6_changedSince_24 rfl ?_
      refine pm_iload_n dX6_changedSince_25 rfl ?_
      obtain ⟨r7, h8, h⟩ := ob_some h
      refine dx_cVp (j := o0) (M := M_X6_changedSince) (Mc := M_X6_aheadOf) (dc := 1) (As := [.int l2]) (st := [.ref (b + o0)]) hR dX6_changedSince_26 ml_X6_86 ⟨TX6, 12, rfl⟩ (sp_Puts_self hs0) (by decide) (Nat.le_of_ble_eq_true rfl) rfl (k_X6_aheadOf hR hs0 h8) ?_
      obtain ⟨r9, h10, h⟩ := ob_some h
      refine dx_cVp (j := o0) (M := M_X6_changedSince) (Mc := M_X6_changesOf) (dc := 1) (As := [.int r7]) (st := []) hR dX6_changedSince_29 ml_X6_77 ⟨TX6, 12, rfl⟩ (sp_Puts_self hs0) (by decide) (Nat.le_of_ble_eq_true rfl) rfl (k_X6_changesOf hR hs0 h10) ?_
      refine pm_aload_n dX6_changedSince_32 rfl ?_
      refine pm_iload_n dX6_changedSince_33 rfl ?_
      obtain ⟨r11, h12, h⟩ := ob_some h
      refine dx_cVp (j := o0) (M := M_X6_changedSince) (Mc := M_X6_changesOf) (dc := 1) (As := [.int l1]) (st := [.int r9]) hR dX6_changedSince_34 ml_X6_77 ⟨TX6, 12, rfl⟩ (sp_Puts_self hs0) (by decide) (Nat.le_of_ble_eq_true rfl) rfl (k_X6_changesOf hR hs0 h12) ?_
      refine pm_icmp_eq (tgt := 43) dX6_changedSince_37 (by decide) (fun c13 => ?_) (fun c13 => ?_)
      · replace h := it_t c13 h
        refine pm_aload_n dX6_changedSince_43 rfl ?_
        refine pm_iload_n dX6_changedSince_44 rfl ?_
        obtain ⟨r14, h15, h⟩ := ob_some h
        refine dx_cVp (j := o0) (M := M_X6_changedSince) (Mc := M_X6_aheadOf) (dc := 1) (As := [.int l2]) (st := []) hR dX6_changedSince_45 ml_X6_86 ⟨TX6, 12, rfl⟩ (sp_Puts_self hs0) (by decide) (Nat.le_of_ble_eq_true rfl) rfl (k_X6_aheadOf hR hs0 h15) ?_
        refine pm_istore_n dX6_changedSince_48 (by decide) rfl rfl ?_
        refine pm_iinc (v := (l3 + (-1))) dX6_changedSince_49 rfl rfl (by decide) rfl rfl ?_
        refine pm_goto (tgt := 7) dX6_changedSince_52 (by decide) ?_
        refine pm_lw (L' := [some (.ref (b + o0)), some (.int l1), some (.int r14), some (.int (l3 + (-1)))]) ⟨Or.inr rfl, Or.inr rfl, Or.inr rfl, Or.inr rfl, trivial⟩ ?_
        exact hc _ (Option.some.inj h).symm
      · replace h := it_f c13 h
        refine pm_lw (L' := [some (.ref (b + o0)), none, some (.int l2), none]) ⟨Or.inr rfl, Or.inl rfl, Or.inr rfl, Or.inl rfl, trivial⟩ ?_
        exact he0 _ (Option.some.inj h).symm
def g_X6_changedSince_j55 (F : Nat) (o0 : Nat) (l2 : Int32) (u : rg_U) : Option Int32 :=
  ob (g_X6_timeOf F o0 l2 u) (fun r20 => some r20)
set_option maxHeartbeats 4000000 in
set_option maxRecDepth 100000 in
theorem k_X6_changedSince_j55 {gs : List String} {ro : pm_RO} {n : Nat} {w : Nat → va_E} {b : Nat} {u : rg_U} {F : Nat} {o0 : Nat} {l2 : Int32} {z : Int32} (hR : rg shC b u n w) (hs0 : sp_Puts o0) (h : g_X6_changedSince_j55 F o0 l2 u = some z) : pm_X gs ro M_X6_changedSince 2 0 0 0 0 55 [some (.ref (b + o0)), none, some (.int l2), none] [] n w (pm_p n w (some (.int z))) := by
  unfold g_X6_changedSince_j55 at h
  refine pm_aload_n dX6_changedSince_55 rfl ?_
  refine pm_iload_n dX6_changedSince_56 rfl ?_
  obtain ⟨r20, h21, h⟩ := ob_some h
  refine dx_cVp (j := o0) (M := M_X6_changedSince) (Mc := M_X6_timeOf) (dc := 1) (As := [.int l2]) (st := []) hR dX6_changedSince_57 ml_X6_80 ⟨TX6, 12, rfl⟩ (sp_Puts_self hs0) (by decide) (Nat.le_of_ble_eq_true rfl) rfl (k_X6_timeOf hR hs0 h21) ?_
  cases h
  exact pm_iret dX6_changedSince_60 rfl (Nat.le_refl _) (Nat.le_refl _) ⟨rfl, rfl, rfl⟩
def g_X6_changedSince (F : Nat) (o0 : Nat) (x1 : Int32) (u : rg_U) : Option Int32 :=
  ob (lp (fun (s : (Int32 × Int32)) => g_X6_changedSince_l7 F o0 x1 u s.1 s.2) F ((x1 : Int32), ((rF u o0 11) : Int32))) (fun r16 => os r16 (fun r18 => g_X6_changedSince_j55 F o0 r18 u) (fun r19 => g_X6_changedSince_j55 F o0 r19 u))
set_option maxHeartbeats 4000000 in
set_option maxRecDepth 100000 in
theorem k_X6_changedSince {gs : List String} {ro : pm_RO} {n : Nat} {w : Nat → va_E} {b : Nat} {u : rg_U} {F : Nat} {o0 : Nat} {x1 : Int32} {z : Int32} (hR : rg shC b u n w) (hs0 : sp_Puts o0) (h : g_X6_changedSince F o0 x1 u = some z) : pm_Met gs ro M_X6_changedSince 2 0 0 [.ref (b + o0), .int x1] n w (pm_p n w (some (.int z))) := by
  unfold g_X6_changedSince at h
  refine pm_ofX in_X6_changedSince (Nat.le_of_ble_eq_true rfl) rfl (L := [some (.ref (b + o0)), some (.int x1), none, none]) rfl ?_
  refine pm_iload_n dX6_changedSince_0 rfl ?_
  refine pm_istore_n dX6_changedSince_1 (by decide) rfl rfl ?_
  refine pm_aload_n dX6_changedSince_2 rfl ?_
  refine dx_gi (j := o0) hR dX6_changedSince_3 fl_X6_45 (sp_Puts_self hs0) rfl ?_
  refine pm_istore_n dX6_changedSince_6 (by decide) rfl rfl ?_
  obtain ⟨r16, h17, h⟩ := ob_some h
  refine lp_sound (P := fun (s : (Int32 × Int32)) => pm_X gs ro M_X6_changedSince 2 0 0 0 0 7 [some (.ref (b + o0)), some (.int x1), some (.int s.1), some (.int s.2)] [] n w (pm_p n w (some (.int z)))) (E := (Sum.elim (fun (r : Int32) => pm_X gs ro M_X6_changedSince 2 0 0 0 0 40 [some (.ref (b + o0)), none, some (.int r), none] [] n w (pm_p n w (some (.int z)))) (fun (r : Int32) => pm_X gs ro M_X6_changedSince 2 0 0 0 0 55 [some (.ref (b + o0)), none, some (.int r), none] [] n w (pm_p n w (some (.int z)))))) (fun s x hx hc he => k_X6_changedSince_l7 hR hs0 hx hc (fun r q => he (Sum.inl r) q) (fun r q => he (Sum.inr r) q)) F _ r16 h17 ?_
  cases r16 with
  | inl r18 =>
    replace h := os_l h
    refine pm_goto (tgt := 55) dX6_changedSince_40 (by decide) ?_
    exact k_X6_changedSince_j55 hR hs0 h
  | inr r19 =>
    replace h := os_r h
    exact k_X6_changedSince_j55 hR hs0 h
def g_X6_hadBy_j62 (F : Nat) (o0 : Nat) (l3 : Int32) (l4 : Int32) (l5 : Int32) (l6 : Int32) (l7 : Int32) (u : rg_U) : Option ((Int32 × Int32 × Int32) ⊕ (Int32 ⊕ Unit)) :=
  ob (g_X6_aheadOf F o0 l6 u) (fun r8 => some (.inl (l5, r8, (l7 + (-1)))))
set_option maxHeartbeats 4000000 in
set_option maxRecDepth 100000 in
theorem k_X6_hadBy_j62 {gs : List String} {ro : pm_RO} {n : Nat} {w : Nat → va_E} {b : Nat} {u : rg_U} {F : Nat} {o0 : Nat} {l3 : Int32} {l4 : Int32} {l5 : Int32} {l6 : Int32} {l7 : Int32} {z : ((Int32 × Int32 × Int32) ⊕ (Int32 ⊕ Unit))} {Q : Option Value → Nat → (Nat → va_E) → Prop} (hR : rg shC b u n w) (hs0 : sp_Puts o0) (h : g_X6_hadBy_j62 F o0 l3 l4 l5 l6 l7 u = some z) (hc : ∀ s', z = .inl s' → pm_X gs ro M_X6_hadBy 2 0 0 0 0 16 [some (.ref (b + o0)), none, none, some (.int l3), some (.int l4), some (.int s'.1), some (.int s'.2.1), some (.int s'.2.2)] [] n w Q) (he0 : ∀ r', z = .inr (Sum.inl r') → pm_X gs ro M_X6_hadBy 2 0 0 0 0 49 [none, none, none, none, none, some (.int r'), none, none] [] n w Q) (he1 : ∀ r', z = .inr (Sum.inr r') → pm_X gs ro M_X6_hadBy 2 0 0 0 0 76 [none, none, none, none, none, none, none, none] [] n w Q) : pm_X gs ro M_X6_hadBy 2 0 0 0 0 62 [some (.ref (b + o0)), none, none, some (.int l3), some (.int l4), some (.int l5), some (.int l6), some (.int l7)] [] n w Q := by
  unfold g_X6_hadBy_j62 at h
  refine pm_aload_n dX6_hadBy_62 rfl ?_
  refine pm_iload dX6_hadBy_63 rfl ?_
  obtain ⟨r8, h9, h⟩ := ob_some h
  refine dx_cVp (j := o0) (M := M_X6_hadBy) (Mc := M_X6_aheadOf) (dc := 1) (As := [.int l6]) (st := []) hR dX6_hadBy_65 ml_X6_86 ⟨TX6, 12, rfl⟩ (sp_Puts_self hs0) (by decide) (Nat.le_of_ble_eq_true rfl) rfl (k_X6_aheadOf hR hs0 h9) ?_
  refine pm_istore dX6_hadBy_68 (by decide) rfl rfl ?_
  refine pm_iinc (v := (l7 + (-1))) dX6_hadBy_70 rfl rfl (by decide) rfl rfl ?_
  refine pm_goto (tgt := 16) dX6_hadBy_73 (by decide) ?_
  refine pm_lw (L' := [some (.ref (b + o0)), none, none, some (.int l3), some (.int l4), some (.int l5), some (.int r8), some (.int (l7 + (-1)))]) ⟨Or.inr rfl, Or.inl rfl, Or.inl rfl, Or.inr rfl, Or.inr rfl, Or.inr rfl, Or.inr rfl, Or.inr rfl, trivial⟩ ?_
  exact hc _ (Option.some.inj h).symm
def g_X6_hadBy_l16 (F : Nat) (o0 : Nat) (l3 : Int32) (l4 : Int32) (u : rg_U) (l5 : Int32) (l6 : Int32) (l7 : Int32) : Option ((Int32 × Int32 × Int32) ⊕ (Int32 ⊕ Unit)) :=
  if l7 < 0 then (some (.inr (Sum.inr ()))) else (if l5 < 0 then (some (.inr (Sum.inr ()))) else (ob (g_X6_timeOf F o0 l6 u) (fun r5 => if l5 < r5 then (g_X6_hadBy_j62 F o0 l3 l4 l5 l6 l7 u) else (ob (g_X6_hasValue F o0 l6 l3 l4 u) (fun r10 => if r10 = 0 then (ob (g_X6_timeOf F o0 l6 u) (fun r13 => g_X6_hadBy_j62 F o0 l3 l4 (r13 - 1) l6 l7 u)) else (some (.inr (Sum.inl l5))))))))
set_option maxHeartbeats 4000000 in
set_option maxRecDepth 100000 in
theorem k_X6_hadBy_l16 {gs : List String} {ro : pm_RO} {n : Nat} {w : Nat → va_E} {b : Nat} {u : rg_U} {F : Nat} {o0 : Nat} {l3 : Int32} {l4 : Int32} {l5 : Int32} {l6 : Int32} {l7 : Int32} {z : (Int32 × Int32 × Int32) ⊕ (Int32 ⊕ Unit)} {Q : Option Value → Nat → (Nat → va_E) → Prop} (hR : rg shC b u n w) (hs0 : sp_Puts o0) (h : g_X6_hadBy_l16 F o0 l3 l4 u l5 l6 l7 = some z) (hc : ∀ s', z = .inl s' → pm_X gs ro M_X6_hadBy 2 0 0 0 0 16 [some (.ref (b + o0)), none, none, some (.int l3), some (.int l4), some (.int s'.1), some (.int s'.2.1), some (.int s'.2.2)] [] n w Q) (he0 : ∀ r', z = .inr (Sum.inl r') → pm_X gs ro M_X6_hadBy 2 0 0 0 0 49 [none, none, none, none, none, some (.int r'), none, none] [] n w Q) (he1 : ∀ r', z = .inr (Sum.inr r') → pm_X gs ro M_X6_hadBy 2 0 0 0 0 76 [none, none, none, none, none, none, none, none] [] n w Q) : pm_X gs ro M_X6_hadBy 2 0 0 0 0 16 [some (.ref (b + o0)), none, none, some (.int l3), some (.int l4), some (.int l5), some (.int l6), some (.int l7)] [] n w Q := by
  unfold g_X6_hadBy_l16 at h
  refine pm_iload dX6_hadBy_16 rfl ?_
  refine pm_if_lt (tgt := 76) dX6_hadBy_18 (by decide) (fun c3 => ?_) (fun c3 => ?_)
  · replace h := it_t c3 h
    refine pm_lw (L' := [none, none, none, none, none, none, none, none]) ⟨Or.inl rfl, Or.inl rfl, Or.inl rfl, Or.inl rfl, Or.inl rfl, Or.inl rfl, Or.inl rfl, Or.inl rfl, trivial⟩ ?_
    exact he1 _ (Option.some.inj h).symm
  · replace h := it_f c3 h
    refine pm_iload dX6_hadBy_21 rfl ?_
    refine pm_if_lt (tgt := 76) dX6_hadBy_23 (by decide) (fun c4 => ?_) (fun c4 => ?_)
    · replace h := it_t c4 h
      refine pm_lw (L' := [none, none, none, none, none, none, none, none]) ⟨Or.inl rfl, Or.inl rfl, Or.inl rfl, Or.inl rfl, Or.inl rfl, Or.inl rfl, Or.inl rfl, Or.inl rfl, trivial⟩ ?_
      exact he1 _ (Option.some.inj h).symm
    · replace h := it_f c4 h
      refine pm_aload_n dX6_hadBy_26 rfl ?_
      refine pm_iload dX6_hadBy_27 rfl ?_
      obtain ⟨r5, h6, h⟩ := ob_some h
      refine dx_cVp (j := o0) (M := M_X6_hadBy) (Mc := M_X6_timeOf) (dc := 1) (As := [.int l6]) (st := []) hR dX6_hadBy_29 ml_X6_80 ⟨TX6, 12, rfl⟩ (sp_Puts_self hs0) (by decide) (Nat.le_of_ble_eq_true rfl) rfl (k_X6_timeOf hR hs0 h6) ?_
      refine pm_iload dX6_hadBy_32 rfl ?_
      refine pm_icmp_gt (tgt := 62) dX6_hadBy_34 (by decide) (fun c7 => ?_) (fun c7 => ?_)
      · replace h := it_t c7 h
        exact k_X6_hadBy_j62 hR hs0 h hc he0 he1
      · replace h := it_f c7 h
        refine pm_aload_n dX6_hadBy_37 rfl ?_
        refine pm_iload dX6_hadBy_38 rfl ?_
        refine pm_iload_n dX6_hadBy_40 rfl ?_
        refine pm_iload dX6_hadBy_41 rfl ?_
        obtain ⟨r10, h11, h⟩ := ob_some h
        refine dx_cVp (j := o0) (M := M_X6_hadBy) (Mc := M_X6_hasValue) (dc := 1) (As := [.int l6, .int l3, .int l4]) (st := []) hR dX6_hadBy_43 ml_X6_73 ⟨TX6, 12, rfl⟩ (sp_Puts_self hs0) (by decide) (Nat.le_of_ble_eq_true rfl) rfl (k_X6_hasValue hR hs0 h11) ?_
        refine pm_if_eq (tgt := 52) dX6_hadBy_46 (by decide) (fun c12 => ?_) (fun c12 => ?_)
        · replace h := it_t c12 h
          refine pm_aload_n dX6_hadBy_52 rfl ?_
          refine pm_iload dX6_hadBy_53 rfl ?_
          obtain ⟨r13, h14, h⟩ := ob_some h
          refine dx_cVp (j := o0) (M := M_X6_hadBy) (Mc := M_X6_timeOf) (dc := 1) (As := [.int l6]) (st := []) hR dX6_hadBy_55 ml_X6_80 ⟨TX6, 12, rfl⟩ (sp_Puts_self hs0) (by decide) (Nat.le_of_ble_eq_true rfl) rfl (k_X6_timeOf hR hs0 h14) ?_
          refine pm_iconst (v := 1) dX6_hadBy_58 (by decide) ?_
          refine pm_isub dX6_hadBy_59 ?_
          refine pm_istore dX6_hadBy_60 (by decide) rfl rfl ?_
          exact k_X6_hadBy_j62 hR hs0 h hc he0 he1
        · replace h := it_f c12 h
          refine pm_lw (L' := [none, none, none, none, none, some (.int l5), none, none]) ⟨Or.inl rfl, Or.inl rfl, Or.inl rfl, Or.inl rfl, Or.inl rfl, Or.inr rfl, Or.inl rfl, Or.inl rfl, trivial⟩ ?_
          exact he0 _ (Option.some.inj h).symm
def g_X6_hadBy (F : Nat) (o0 : Nat) (x1 : Int32) (x2 : Int32) (x3 : Int32) (x4 : Int32) (u : rg_U) : Option Int32 :=
  ob (g_X6_latestOf F o0 x2 u) (fun r1 => ob (lp (fun (s : (Int32 × Int32 × Int32)) => g_X6_hadBy_l16 F o0 x3 x4 u s.1 s.2.1 s.2.2) F ((x1 : Int32), (r1 : Int32), ((rF u o0 11) : Int32))) (fun r15 => os r15 (fun r17 => some r17) (fun r18 => some (-1))))
set_option maxHeartbeats 4000000 in
set_option maxRecDepth 100000 in
theorem k_X6_hadBy {gs : List String} {ro : pm_RO} {n : Nat} {w : Nat → va_E} {b : Nat} {u : rg_U} {F : Nat} {o0 : Nat} {x1 : Int32} {x2 : Int32} {x3 : Int32} {x4 : Int32} {z : Int32} (hR : rg shC b u n w) (hs0 : sp_Puts o0) (h : g_X6_hadBy F o0 x1 x2 x3 x4 u = some z) : pm_Met gs ro M_X6_hadBy 2 0 0 [.ref (b + o0), .int x1, .int x2, .int x3, .int x4] n w (pm_p n w (some (.int z))) := by
  unfold g_X6_hadBy at h
  refine pm_ofX in_X6_hadBy (Nat.le_of_ble_eq_true rfl) rfl (L := [some (.ref (b + o0)), some (.int x1), some (.int x2), some (.int x3), some (.int x4), none, none, none]) rfl ?_
  refine pm_iload_n dX6_hadBy_0 rfl ?_
  refine pm_istore dX6_hadBy_1 (by decide) rfl rfl ?_
  refine pm_aload_n dX6_hadBy_3 rfl ?_
  refine pm_iload_n dX6_hadBy_4 rfl ?_
  obtain ⟨r1, h2, h⟩ := ob_some h
  refine dx_cVp (j := o0) (M := M_X6_hadBy) (Mc := M_X6_latestOf) (dc := 1) (As := [.int x2]) (st := []) hR dX6_hadBy_5 ml_X6_83 ⟨TX6, 12, rfl⟩ (sp_Puts_self hs0) (by decide) (Nat.le_of_ble_eq_true rfl) rfl (k_X6_latestOf hR hs0 h2) ?_
  refine pm_istore dX6_hadBy_8 (by decide) rfl rfl ?_
  refine pm_aload_n dX6_hadBy_10 rfl ?_
  refine dx_gi (j := o0) hR dX6_hadBy_11 fl_X6_45 (sp_Puts_self hs0) rfl ?_
  refine pm_istore dX6_hadBy_14 (by decide) rfl rfl ?_
  refine pm_lw (L' := [some (.ref (b + o0)), none, none, some (.int x3), some (.int x4), some (.int x1), some (.int r1), some (.int (rF u o0 11))]) ⟨Or.inr rfl, Or.inl rfl, Or.inl rfl, Or.inr rfl, Or.inr rfl, Or.inr rfl, Or.inr rfl, Or.inr rfl, trivial⟩ ?_
  obtain ⟨r15, h16, h⟩ := ob_some h
  refine lp_sound (P := fun (s : (Int32 × Int32 × Int32)) => pm_X gs ro M_X6_hadBy 2 0 0 0 0 16 [some (.ref (b + o0)), none, none, some (.int x3), some (.int x4), some (.int s.1), some (.int s.2.1), some (.int s.2.2)] [] n w (pm_p n w (some (.int z)))) (E := (Sum.elim (fun (r : Int32) => pm_X gs ro M_X6_hadBy 2 0 0 0 0 49 [none, none, none, none, none, some (.int r), none, none] [] n w (pm_p n w (some (.int z)))) (fun (r : Unit) => pm_X gs ro M_X6_hadBy 2 0 0 0 0 76 [none, none, none, none, none, none, none, none] [] n w (pm_p n w (some (.int z)))))) (fun s x hx hc he => k_X6_hadBy_l16 hR hs0 hx hc (fun r q => he (Sum.inl r) q) (fun r q => he (Sum.inr r) q)) F _ r15 h16 ?_
  cases r15 with
  | inl r17 =>
    replace h := os_l h
    refine pm_iload dX6_hadBy_49 rfl ?_
    cases h
    exact pm_iret dX6_hadBy_51 rfl (Nat.le_refl _) (Nat.le_refl _) ⟨rfl, rfl, rfl⟩
  | inr r18 =>
    replace h := os_r h
    refine pm_iconst (v := (-1)) dX6_hadBy_76 (by decide) ?_
    cases h
    exact pm_iret dX6_hadBy_77 rfl (Nat.le_refl _) (Nat.le_refl _) ⟨rfl, rfl, rfl⟩
def g_X6_changeTimes_j94 (F : Nat) (o0 : Nat) (l1 : Int32) (l2 : Int32) (l3 : Int32) (l4 : Int32) (l5 : Int32) (u : rg_U) : Option ((Int32 × Int32 × Int32) ⊕ (Int32 ⊕ Int32)) :=
  some (.inl (l3, l4, (l5 + 1)))
set_option maxHeartbeats 4000000 in
set_option maxRecDepth 100000 in
theorem k_X6_changeTimes_j94 {gs : List String} {ro : pm_RO} {n : Nat} {w : Nat → va_E} {b : Nat} {u : rg_U} {F : Nat} {o0 : Nat} {l1 : Int32} {l2 : Int32} {l3 : Int32} {l4 : Int32} {l5 : Int32} {z : ((Int32 × Int32 × Int32) ⊕ (Int32 ⊕ Int32))} {Q : Option Value → Nat → (Nat → va_E) → Prop} (hR : rg shC b u n w) (hs0 : sp_Puts o0) (h : g_X6_changeTimes_j94 F o0 l1 l2 l3 l4 l5 u = some z) (hc : ∀ s', z = .inl s' → pm_X gs ro M_X6_changeTimes 2 0 0 0 0 8 [some (.ref (b + o0)), some (.int l1), some (.int l2), some (.int s'.1), some (.int s'.2.1), some (.int s'.2.2)] [] n w Q) (he0 : ∀ r', z = .inr (Sum.inl r') → pm_X gs ro M_X6_changeTimes 2 0 0 0 0 74 [some (.ref (b + o0)), none, none, none, none, some (.int r')] [] n w Q) (he1 : ∀ r', z = .inr (Sum.inr r') → pm_X gs ro M_X6_changeTimes 2 0 0 0 0 100 [none, none, some (.int l2), some (.int r'), none, none] [] n w Q) : pm_X gs ro M_X6_changeTimes 2 0 0 0 0 94 [some (.ref (b + o0)), some (.int l1), some (.int l2), some (.int l3), some (.int l4), some (.int l5)] [] n w Q := by
  unfold g_X6_changeTimes_j94 at h
  refine pm_iinc (v := (l5 + 1)) dX6_changeTimes_94 rfl rfl (by decide) rfl rfl ?_
  refine pm_goto (tgt := 8) dX6_changeTimes_97 (by decide) ?_
  refine pm_lw (L' := [some (.ref (b + o0)), some (.int l1), some (.int l2), some (.int l3), some (.int l4), some (.int (l5 + 1))]) ⟨Or.inr rfl, Or.inr rfl, Or.inr rfl, Or.inr rfl, Or.inr rfl, Or.inr rfl, trivial⟩ ?_
  exact hc _ (Option.some.inj h).symm
def g_X6_changeTimes_l8 (F : Nat) (o0 : Nat) (l1 : Int32) (l2 : Int32) (u : rg_U) (l3 : Int32) (l4 : Int32) (l5 : Int32) : Option ((Int32 × Int32 × Int32) ⊕ (Int32 ⊕ Int32)) :=
  if (rF u o0 11) ≤ l5 then (some (.inr (Sum.inr l3))) else (if 3800 ≤ l5 then (some (.inr (Sum.inr l3))) else (ck (inb l5 3800) (if (rA u (o0 + 2) l5) = l1 then (ck (inb l5 3800) (if (rA u (o0 + 1) l5) = l4 then (g_X6_changeTimes_j94 F o0 l1 l2 l3 l4 l5 u) else (ck (inb l5 3800) (ck (inb l5 3800) (ob (g_X6_changesOf F o0 (rA u (o0 + 6) l5) u) (fun r9 => if (rA u (o0 + 5) l5) = r9 then (g_X6_changeTimes_j94 F o0 l1 l2 l3 l4 l5 u) else (if l3 = l2 then (some (.inr (Sum.inl l5))) else (ck (inb l5 3800) (g_X6_changeTimes_j94 F o0 l1 l2 (l3 + 1) (rA u (o0 + 1) l5) l5 u))))))))) else (g_X6_changeTimes_j94 F o0 l1 l2 l3 l4 l5 u))))
set_option maxHeartbeats 4000000 in
set_option maxRecDepth 100000 in
theorem k_X6_changeTimes_l8 {gs : List String} {ro : pm_RO} {n : Nat} {w : Nat → va_E} {b : Nat} {u : rg_U} {F : Nat} {o0 : Nat} {l1 : Int32} {l2 : Int32} {l3 : Int32} {l4 : Int32} {l5 : Int32} {z : (Int32 × Int32 × Int32) ⊕ (Int32 ⊕ Int32)} {Q : Option Value → Nat → (Nat → va_E) → Prop} (hR : rg shC b u n w) (hs0 : sp_Puts o0) (h : g_X6_changeTimes_l8 F o0 l1 l2 u l3 l4 l5 = some z) (hc : ∀ s', z = .inl s' → pm_X gs ro M_X6_changeTimes 2 0 0 0 0 8 [some (.ref (b + o0)), some (.int l1), some (.int l2), some (.int s'.1), some (.int s'.2.1), some (.int s'.2.2)] [] n w Q) (he0 : ∀ r', z = .inr (Sum.inl r') → pm_X gs ro M_X6_changeTimes 2 0 0 0 0 74 [some (.ref (b + o0)), none, none, none, none, some (.int r')] [] n w Q) (he1 : ∀ r', z = .inr (Sum.inr r') → pm_X gs ro M_X6_changeTimes 2 0 0 0 0 100 [none, none, some (.int l2), some (.int r'), none, none] [] n w Q) : pm_X gs ro M_X6_changeTimes 2 0 0 0 0 8 [some (.ref (b + o0)), some (.int l1), some (.int l2), some (.int l3), some (.int l4), some (.int l5)] [] n w Q := by
  unfold g_X6_changeTimes_l8 at h
  refine pm_iload dX6_changeTimes_8 rfl ?_
  refine pm_aload_n dX6_changeTimes_10 rfl ?_
  refine dx_gi (j := o0) hR dX6_changeTimes_11 fl_X6_45 (sp_Puts_self hs0) rfl ?_
  refine pm_icmp_ge (tgt := 100) dX6_changeTimes_14 (by decide) (fun c1 => ?_) (fun c1 => ?_)
  · replace h := it_t c1 h
    refine pm_lw (L' := [none, none, some (.int l2), some (.int l3), none, none]) ⟨Or.inl rfl, Or.inl rfl, Or.inr rfl, Or.inr rfl, Or.inl rfl, Or.inl rfl, trivial⟩ ?_
    exact he1 _ (Option.some.inj h).symm
  · replace h := it_f c1 h
    refine pm_iload dX6_changeTimes_17 rfl ?_
    refine pm_sipush (v := 3800) dX6_changeTimes_19 (by decide) ?_
    refine pm_icmp_ge (tgt := 100) dX6_changeTimes_22 (by decide) (fun c2 => ?_) (fun c2 => ?_)
    · replace h := it_t c2 h
      refine pm_lw (L' := [none, none, some (.int l2), some (.int l3), none, none]) ⟨Or.inl rfl, Or.inl rfl, Or.inr rfl, Or.inr rfl, Or.inl rfl, Or.inl rfl, trivial⟩ ?_
      exact he1 _ (Option.some.inj h).symm
    · replace h := it_f c2 h
      refine pm_aload_n dX6_changeTimes_25 rfl ?_
      refine dx_gr (j := o0) (o := (o0 + 2)) hR dX6_changeTimes_26 fl_X6_15 (sp_Puts_self hs0) rfl ?_
      refine pm_iload dX6_changeTimes_29 rfl ?_
      obtain ⟨c3, h⟩ := ck_some h
      refine dx_al (j := (o0 + 2)) hR dX6_changeTimes_31 (sp_Puts_place hs0) (vp_in_iff.mpr c3) ?_
      refine pm_iload_n dX6_changeTimes_32 rfl ?_
      refine pm_icmp_ne (tgt := 94) dX6_changeTimes_33 (by decide) (fun c4 => ?_) (fun c4 => ?_)
      · replace h := it_f c4 h
        exact k_X6_changeTimes_j94 hR hs0 h hc he0 he1
      · replace h := it_t c4 h
        refine pm_aload_n dX6_changeTimes_36 rfl ?_
        refine dx_gr (j := o0) (o := (o0 + 1)) hR dX6_changeTimes_37 fl_X6_9 (sp_Puts_self hs0) rfl ?_
        refine pm_iload dX6_changeTimes_40 rfl ?_
        obtain ⟨c5, h⟩ := ck_some h
        refine dx_al (j := (o0 + 1)) hR dX6_changeTimes_42 (sp_Puts_time hs0) (vp_in_iff.mpr c5) ?_
        refine pm_iload dX6_changeTimes_43 rfl ?_
        refine pm_icmp_eq (tgt := 94) dX6_changeTimes_45 (by decide) (fun c6 => ?_) (fun c6 => ?_)
        · replace h := it_t c6 h
          exact k_X6_changeTimes_j94 hR hs0 h hc he0 he1
        · replace h := it_f c6 h
          refine pm_aload_n dX6_changeTimes_48 rfl ?_
          refine dx_gr (j := o0) (o := (o0 + 5)) hR dX6_changeTimes_49 fl_X6_24 (sp_Puts_self hs0) rfl ?_
          refine pm_iload dX6_changeTimes_52 rfl ?_
          obtain ⟨c7, h⟩ := ck_some h
          refine dx_al (j := (o0 + 5)) hR dX6_changeTimes_54 (sp_Puts_changes hs0) (vp_in_iff.mpr c7) ?_
          refine pm_aload_n dX6_changeTimes_55 rfl ?_
          refine pm_aload_n dX6_changeTimes_56 rfl ?_
          refine dx_gr (j := o0) (o := (o0 + 6)) hR dX6_changeTimes_57 fl_X6_27 (sp_Puts_self hs0) rfl ?_
          refine pm_iload dX6_changeTimes_60 rfl ?_
          obtain ⟨c8, h⟩ := ck_some h
          refine dx_al (j := (o0 + 6)) hR dX6_changeTimes_62 (sp_Puts_ahead hs0) (vp_in_iff.mpr c8) ?_
          obtain ⟨r9, h10, h⟩ := ob_some h
          refine dx_cVp (j := o0) (M := M_X6_changeTimes) (Mc := M_X6_changesOf) (dc := 1) (As := [.int (rA u (o0 + 6) l5)]) (st := [.int (rA u (o0 + 5) l5)]) hR dX6_changeTimes_63 ml_X6_77 ⟨TX6, 12, rfl⟩ (sp_Puts_self hs0) (by decide) (Nat.le_of_ble_eq_true rfl) rfl (k_X6_changesOf hR hs0 h10) ?_
          refine pm_icmp_eq (tgt := 94) dX6_changeTimes_66 (by decide) (fun c11 => ?_) (fun c11 => ?_)
          · replace h := it_t c11 h
            exact k_X6_changeTimes_j94 hR hs0 h hc he0 he1
          · replace h := it_f c11 h
            refine pm_iload_n dX6_changeTimes_69 rfl ?_
            refine pm_iload_n dX6_changeTimes_70 rfl ?_
            refine pm_icmp_ne (tgt := 82) dX6_changeTimes_71 (by decide) (fun c12 => ?_) (fun c12 => ?_)
            · replace h := it_f c12 h
              refine pm_aload_n dX6_changeTimes_82 rfl ?_
              refine dx_gr (j := o0) (o := (o0 + 1)) hR dX6_changeTimes_83 fl_X6_9 (sp_Puts_self hs0) rfl ?_
              refine pm_iload dX6_changeTimes_86 rfl ?_
              obtain ⟨c13, h⟩ := ck_some h
              refine dx_al (j := (o0 + 1)) hR dX6_changeTimes_88 (sp_Puts_time hs0) (vp_in_iff.mpr c13) ?_
              refine pm_istore dX6_changeTimes_89 (by decide) rfl rfl ?_
              refine pm_iinc (v := (l3 + 1)) dX6_changeTimes_91 rfl rfl (by decide) rfl rfl ?_
              exact k_X6_changeTimes_j94 hR hs0 h hc he0 he1
            · replace h := it_t c12 h
              refine pm_lw (L' := [some (.ref (b + o0)), none, none, none, none, some (.int l5)]) ⟨Or.inr rfl, Or.inl rfl, Or.inl rfl, Or.inl rfl, Or.inl rfl, Or.inr rfl, trivial⟩ ?_
              exact he0 _ (Option.some.inj h).symm
def g_X6_changeTimes_j100 (F : Nat) (l2 : Int32) (l3 : Int32) (u : rg_U) : Option Int32 :=
  if l2 = (-1) then (some l3) else (some (-1))
set_option maxHeartbeats 4000000 in
set_option maxRecDepth 100000 in
theorem k_X6_changeTimes_j100 {gs : List String} {ro : pm_RO} {n : Nat} {w : Nat → va_E} {b : Nat} {u : rg_U} {F : Nat} {l2 : Int32} {l3 : Int32} {z : Int32} (hR : rg shC b u n w) (h : g_X6_changeTimes_j100 F l2 l3 u = some z) : pm_X gs ro M_X6_changeTimes 2 0 0 0 0 100 [none, none, some (.int l2), some (.int l3), none, none] [] n w (pm_p n w (some (.int z))) := by
  unfold g_X6_changeTimes_j100 at h
  refine pm_iload_n dX6_changeTimes_100 rfl ?_
  refine pm_iconst (v := (-1)) dX6_changeTimes_101 (by decide) ?_
  refine pm_icmp_ne (tgt := 109) dX6_changeTimes_102 (by decide) (fun c19 => ?_) (fun c19 => ?_)
  · replace h := it_f c19 h
    refine pm_iconst (v := (-1)) dX6_changeTimes_109 (by decide) ?_
    cases h
    exact pm_iret dX6_changeTimes_110 rfl (Nat.le_refl _) (Nat.le_refl _) ⟨rfl, rfl, rfl⟩
  · replace h := it_t c19 h
    refine pm_iload_n dX6_changeTimes_105 rfl ?_
    refine pm_goto (tgt := 110) dX6_changeTimes_106 (by decide) ?_
    cases h
    exact pm_iret dX6_changeTimes_110 rfl (Nat.le_refl _) (Nat.le_refl _) ⟨rfl, rfl, rfl⟩
def g_X6_changeTimes (F : Nat) (o0 : Nat) (x1 : Int32) (x2 : Int32) (u : rg_U) : Option Int32 :=
  ob (lp (fun (s : (Int32 × Int32 × Int32)) => g_X6_changeTimes_l8 F o0 x1 x2 u s.1 s.2.1 s.2.2) F ((0 : Int32), ((-1) : Int32), (0 : Int32))) (fun r14 => os r14 (fun r16 => ck (inb r16 3800) (some (rA u (o0 + 1) r16))) (fun r17 => g_X6_changeTimes_j100 F x2 r17 u))
set_option maxHeartbeats 4000000 in
set_option maxRecDepth 100000 in
theorem k_X6_changeTimes {gs : List String} {ro : pm_RO} {n : Nat} {w : Nat → va_E} {b : Nat} {u : rg_U} {F : Nat} {o0 : Nat} {x1 : Int32} {x2 : Int32} {z : Int32} (hR : rg shC b u n w) (hs0 : sp_Puts o0) (h : g_X6_changeTimes F o0 x1 x2 u = some z) : pm_Met gs ro M_X6_changeTimes 2 0 0 [.ref (b + o0), .int x1, .int x2] n w (pm_p n w (some (.int z))) := by
  unfold g_X6_changeTimes at h
  refine pm_ofX in_X6_changeTimes (Nat.le_of_ble_eq_true rfl) rfl (L := [some (.ref (b + o0)), some (.int x1), some (.int x2), none, none, none]) rfl ?_
  refine pm_iconst (v := 0) dX6_changeTimes_0 (by decide) ?_
  refine pm_istore_n dX6_changeTimes_1 (by decide) rfl rfl ?_
  refine pm_iconst (v := (-1)) dX6_changeTimes_2 (by decide) ?_
  refine pm_istore dX6_changeTimes_3 (by decide) rfl rfl ?_
  refine pm_iconst (v := 0) dX6_changeTimes_5 (by decide) ?_
  refine pm_istore dX6_changeTimes_6 (by decide) rfl rfl ?_
  obtain ⟨r14, h15, h⟩ := ob_some h
  refine lp_sound (P := fun (s : (Int32 × Int32 × Int32)) => pm_X gs ro M_X6_changeTimes 2 0 0 0 0 8 [some (.ref (b + o0)), some (.int x1), some (.int x2), some (.int s.1), some (.int s.2.1), some (.int s.2.2)] [] n w (pm_p n w (some (.int z)))) (E := (Sum.elim (fun (r : Int32) => pm_X gs ro M_X6_changeTimes 2 0 0 0 0 74 [some (.ref (b + o0)), none, none, none, none, some (.int r)] [] n w (pm_p n w (some (.int z)))) (fun (r : Int32) => pm_X gs ro M_X6_changeTimes 2 0 0 0 0 100 [none, none, some (.int x2), some (.int r), none, none] [] n w (pm_p n w (some (.int z)))))) (fun s x hx hc he => k_X6_changeTimes_l8 hR hs0 hx hc (fun r q => he (Sum.inl r) q) (fun r q => he (Sum.inr r) q)) F _ r14 h15 ?_
  cases r14 with
  | inl r16 =>
    replace h := os_l h
    refine pm_aload_n dX6_changeTimes_74 rfl ?_
    refine dx_gr (j := o0) (o := (o0 + 1)) hR dX6_changeTimes_75 fl_X6_9 (sp_Puts_self hs0) rfl ?_
    refine pm_iload dX6_changeTimes_78 rfl ?_
    obtain ⟨c18, h⟩ := ck_some h
    refine dx_al (j := (o0 + 1)) hR dX6_changeTimes_80 (sp_Puts_time hs0) (vp_in_iff.mpr c18) ?_
    cases h
    exact pm_iret dX6_changeTimes_81 rfl (Nat.le_refl _) (Nat.le_refl _) ⟨rfl, rfl, rfl⟩
  | inr r17 =>
    replace h := os_r h
    exact k_X6_changeTimes_j100 hR h
def g_X6_unmarkAll_l2 (F : Nat) (o0 : Nat) (o1 N1 : Nat) (l2 : Int32) (u : rg_U) : Option ((Int32 × rg_U) ⊕ rg_U) :=
  if (rF u o0 11) ≤ l2 then (some (.inr u)) else (if (Int32.ofNat N1) ≤ l2 then (some (.inr u)) else (ck (inb l2 N1) (lt1 (sZ u o1 l2 0) (fun u4 => some (.inl ((l2 + 1), u4))))))
set_option maxHeartbeats 4000000 in
set_option maxRecDepth 100000 in
theorem k_X6_unmarkAll_l2 {gs : List String} {ro : pm_RO} {n : Nat} {w w1 : Nat → va_E} {b : Nat} {u : rg_U} {F : Nat} {o0 : Nat} {o1 N1 : Nat} {l2 : Int32} {z : (Int32 × rg_U) ⊕ rg_U} {Q : Option Value → Nat → (Nat → va_E) → Prop} (hR : rg shC b u n w1) (hk : rg_k b shC.length w w1) (hs0 : sp_Puts o0) (hs1 : shC[o1]? = some (.inr (.inl (1, N1)))) (h : g_X6_unmarkAll_l2 F o0 o1 N1 l2 u = some z) (hc : ∀ s', z = .inl s' → ∀ w1, rg shC b s'.2 n w1 → rg_k b shC.length w w1 → pm_X gs ro M_X6_unmarkAll 0 0 0 0 0 2 [some (.ref (b + o0)), some (.ref (b + o1)), some (.int s'.1)] [] n w1 Q) (he0 : ∀ r', z = .inr r' → ∀ w1, rg shC b r' n w1 → rg_k b shC.length w w1 → pm_X gs ro M_X6_unmarkAll 0 0 0 0 0 26 [none, none, none] [] n w1 Q) : pm_X gs ro M_X6_unmarkAll 0 0 0 0 0 2 [some (.ref (b + o0)), some (.ref (b + o1)), some (.int l2)] [] n w1 Q := by
  unfold g_X6_unmarkAll_l2 at h
  refine pm_iload_n dX6_unmarkAll_2 rfl ?_
  refine pm_aload_n dX6_unmarkAll_3 rfl ?_
  refine dx_gi (j := o0) hR dX6_unmarkAll_4 fl_X6_45 (sp_Puts_self hs0) rfl ?_
  refine pm_icmp_ge (tgt := 26) dX6_unmarkAll_7 (by decide) (fun c1 => ?_) (fun c1 => ?_)
  · replace h := it_t c1 h
    refine pm_lw (L' := [none, none, none]) ⟨Or.inl rfl, Or.inl rfl, Or.inl rfl, trivial⟩ ?_
    exact he0 _ (Option.some.inj h).symm _ hR hk
  · replace h := it_f c1 h
    refine pm_iload_n dX6_unmarkAll_10 rfl ?_
    refine pm_aload_n dX6_unmarkAll_11 rfl ?_
    refine dx_len (j := o1) (v := (Int32.ofNat N1)) hR dX6_unmarkAll_12 hs1 (by first | decide | rfl) (by decide) ?_
    refine pm_icmp_ge (tgt := 26) dX6_unmarkAll_13 (by decide) (fun c2 => ?_) (fun c2 => ?_)
    · replace h := it_t c2 h
      refine pm_lw (L' := [none, none, none]) ⟨Or.inl rfl, Or.inl rfl, Or.inl rfl, trivial⟩ ?_
      exact he0 _ (Option.some.inj h).symm _ hR hk
    · replace h := it_f c2 h
      refine pm_aload_n dX6_unmarkAll_16 rfl ?_
      refine pm_iload_n dX6_unmarkAll_17 rfl ?_
      refine pm_iconst (v := 0) dX6_unmarkAll_18 (by decide) ?_
      obtain ⟨c3, h⟩ := ck_some h
      obtain ⟨u4, hu5, h⟩ := lt1_ex h
      refine dx_zs (j := o1) hR hk dX6_unmarkAll_19 hs1 (vp_in_iff.mpr c3) hu5 (fun w6 hR7 hk8 => ?_)
      refine pm_iinc (v := (l2 + 1)) dX6_unmarkAll_20 rfl rfl (by decide) rfl rfl ?_
      refine pm_goto (tgt := 2) dX6_unmarkAll_23 (by decide) ?_
      refine pm_lw (L' := [some (.ref (b + o0)), some (.ref (b + o1)), some (.int (l2 + 1))]) ⟨Or.inr rfl, Or.inr rfl, Or.inr rfl, trivial⟩ ?_
      exact hc _ (Option.some.inj h).symm _ hR7 hk8
def g_X6_unmarkAll (F : Nat) (o0 : Nat) (o1 N1 : Nat) (u : rg_U) : Option rg_U :=
  ob (lp (fun (s : (Int32 × rg_U)) => g_X6_unmarkAll_l2 F o0 o1 N1 s.1 s.2) F ((0 : Int32), u)) (fun r9 => some r9)
set_option maxHeartbeats 4000000 in
set_option maxRecDepth 100000 in
theorem k_X6_unmarkAll {gs : List String} {ro : pm_RO} {n : Nat} {w : Nat → va_E} {b : Nat} {u : rg_U} {F : Nat} {o0 : Nat} {o1 N1 : Nat} {z : rg_U} (hR : rg shC b u n w) (hs0 : sp_Puts o0) (hs1 : shC[o1]? = some (.inr (.inl (1, N1)))) (h : g_X6_unmarkAll F o0 o1 N1 u = some z) : pm_Met gs ro M_X6_unmarkAll 0 0 0 [.ref (b + o0), .ref (b + o1)] n w (rg_post shC b n w none z) := by
  unfold g_X6_unmarkAll at h
  refine pm_ofX in_X6_unmarkAll (Nat.le_of_ble_eq_true rfl) rfl (L := [some (.ref (b + o0)), some (.ref (b + o1)), none]) rfl ?_
  refine pm_iconst (v := 0) dX6_unmarkAll_0 (by decide) ?_
  refine pm_istore_n dX6_unmarkAll_1 (by decide) rfl rfl ?_
  obtain ⟨r9, h10, h⟩ := ob_some h
  refine lp_sound (P := fun (s : (Int32 × rg_U)) => ∀ w1, rg shC b s.2 n w1 → rg_k b shC.length w w1 → pm_X gs ro M_X6_unmarkAll 0 0 0 0 0 2 [some (.ref (b + o0)), some (.ref (b + o1)), some (.int s.1)] [] n w1 (rg_post shC b n w none z)) (E := (fun (r : rg_U) => ∀ w1, rg shC b r n w1 → rg_k b shC.length w w1 → pm_X gs ro M_X6_unmarkAll 0 0 0 0 0 26 [none, none, none] [] n w1 (rg_post shC b n w none z))) (fun s x hx hc he w1 hR1 hk1 => k_X6_unmarkAll_l2 hR1 hk1 hs0 hs1 hx hc (fun r q => he r q)) F _ r9 h10 ?_ _ hR rg_k0
  intro w11 hR12 hk13
  cases h
  exact pm_vret dX6_unmarkAll_26 rfl (Nat.le_refl _) (Nat.le_refl _) ⟨rfl, rfl, hR12, hk13⟩
