theorem dX9_at_0 : decode cX9_at 0 = .ok (.aload_n 0, 1) := by decide +kernel
theorem dX9_at_1 : decode cX9_at 1 = .ok (.iconst 0, 1) := by decide +kernel
theorem dX9_at_2 : decode cX9_at 2 = .ok (.putfield 67, 3) := by decide +kernel
theorem dX9_at_5 : decode cX9_at 5 = .ok (.aload_n 0, 1) := by decide +kernel
theorem dX9_at_6 : decode cX9_at 6 = .ok (.aload_n 0, 1) := by decide +kernel
theorem dX9_at_7 : decode cX9_at 7 = .ok (.getfield 52, 3) := by decide +kernel
theorem dX9_at_10 : decode cX9_at 10 = .ok (.invokevirtual 169, 3) := by decide +kernel
theorem dX9_at_13 : decode cX9_at 13 = .ok (.astore 4, 2) := by decide +kernel
theorem dX9_at_15 : decode cX9_at 15 = .ok (.aload 4, 2) := by decide +kernel
theorem dX9_at_17 : decode cX9_at 17 = .ok (.ifnull 28, 3) := by decide +kernel
theorem dX9_at_20 : decode cX9_at 20 = .ok (.aload 4, 2) := by decide +kernel
theorem dX9_at_22 : decode cX9_at 22 = .ok (.iload_n 1, 1) := by decide +kernel
theorem dX9_at_23 : decode cX9_at 23 = .ok (.invokevirtual 172, 3) := by decide +kernel
theorem dX9_at_26 : decode cX9_at 26 = .ok (.ifCond .eq 19, 3) := by decide +kernel
theorem dX9_at_29 : decode cX9_at 29 = .ok (.iload_n 2, 1) := by decide +kernel
theorem dX9_at_30 : decode cX9_at 30 = .ok (.invokestatic 119, 3) := by decide +kernel
theorem dX9_at_33 : decode cX9_at 33 = .ok (.ifCond .eq 12, 3) := by decide +kernel
theorem dX9_at_36 : decode cX9_at 36 = .ok (.iload_n 3, 1) := by decide +kernel
theorem dX9_at_37 : decode cX9_at 37 = .ok (.ifCond .lt 8, 3) := by decide +kernel
theorem dX9_at_40 : decode cX9_at 40 = .ok (.iload_n 3, 1) := by decide +kernel
theorem dX9_at_41 : decode cX9_at 41 = .ok (.iconst 2, 1) := by decide +kernel
theorem dX9_at_42 : decode cX9_at 42 = .ok (.if_icmp .le 6, 3) := by decide +kernel
theorem dX9_at_45 : decode cX9_at 45 = .ok (.ldc 175, 2) := by decide +kernel
theorem dX9_at_47 : decode cX9_at 47 = .ok (.ireturn, 1) := by decide +kernel
theorem dX9_at_48 : decode cX9_at 48 = .ok (.aload_n 0, 1) := by decide +kernel
theorem dX9_at_49 : decode cX9_at 49 = .ok (.aload 4, 2) := by decide +kernel
theorem dX9_at_51 : decode cX9_at 51 = .ok (.iload_n 1, 1) := by decide +kernel
theorem dX9_at_52 : decode cX9_at 52 = .ok (.invokevirtual 147, 3) := by decide +kernel
theorem dX9_at_55 : decode cX9_at 55 = .ok (.aload 4, 2) := by decide +kernel
theorem dX9_at_57 : decode cX9_at 57 = .ok (.getfield 176, 3) := by decide +kernel
theorem dX9_at_60 : decode cX9_at 60 = .ok (.iload_n 1, 1) := by decide +kernel
theorem dX9_at_61 : decode cX9_at 61 = .ok (.iload_n 2, 1) := by decide +kernel
theorem dX9_at_62 : decode cX9_at 62 = .ok (.invokevirtual 180, 3) := by decide +kernel
theorem dX9_at_65 : decode cX9_at 65 = .ok (.istore 5, 2) := by decide +kernel
theorem dX9_at_67 : decode cX9_at 67 = .ok (.iload_n 3, 1) := by decide +kernel
theorem dX9_at_68 : decode cX9_at 68 = .ok (.lookupswitch 50 #[(0, 28), (1, 39)], 28) := by decide +kernel
theorem dX9_at_96 : decode cX9_at 96 = .ok (.aload 4, 2) := by decide +kernel
theorem dX9_at_98 : decode cX9_at 98 = .ok (.getfield 176, 3) := by decide +kernel
theorem dX9_at_101 : decode cX9_at 101 = .ok (.iload 5, 2) := by decide +kernel
theorem dX9_at_103 : decode cX9_at 103 = .ok (.invokevirtual 186, 3) := by decide +kernel
theorem dX9_at_106 : decode cX9_at 106 = .ok (.ireturn, 1) := by decide +kernel
theorem dX9_at_107 : decode cX9_at 107 = .ok (.aload 4, 2) := by decide +kernel
theorem dX9_at_109 : decode cX9_at 109 = .ok (.getfield 176, 3) := by decide +kernel
theorem dX9_at_112 : decode cX9_at 112 = .ok (.iload 5, 2) := by decide +kernel
theorem dX9_at_114 : decode cX9_at 114 = .ok (.invokevirtual 190, 3) := by decide +kernel
theorem dX9_at_117 : decode cX9_at 117 = .ok (.ireturn, 1) := by decide +kernel
theorem dX9_at_118 : decode cX9_at 118 = .ok (.aload 4, 2) := by decide +kernel
theorem dX9_at_120 : decode cX9_at 120 = .ok (.getfield 176, 3) := by decide +kernel
theorem dX9_at_123 : decode cX9_at 123 = .ok (.iload 5, 2) := by decide +kernel
theorem dX9_at_125 : decode cX9_at 125 = .ok (.invokevirtual 193, 3) := by decide +kernel
theorem dX9_at_128 : decode cX9_at 128 = .ok (.ireturn, 1) := by decide +kernel
theorem dX9_back_0 : decode cX9_back 0 = .ok (.aload_n 0, 1) := by decide +kernel
theorem dX9_back_1 : decode cX9_back 1 = .ok (.iconst 0, 1) := by decide +kernel
theorem dX9_back_2 : decode cX9_back 2 = .ok (.putfield 67, 3) := by decide +kernel
theorem dX9_back_5 : decode cX9_back 5 = .ok (.aload_n 0, 1) := by decide +kernel
theorem dX9_back_6 : decode cX9_back 6 = .ok (.getfield 49, 3) := by decide +kernel
theorem dX9_back_9 : decode cX9_back 9 = .ok (.ifnull 18, 3) := by decide +kernel
theorem dX9_back_12 : decode cX9_back 12 = .ok (.iload_n 1, 1) := by decide +kernel
theorem dX9_back_13 : decode cX9_back 13 = .ok (.ifCond .lt 14, 3) := by decide +kernel
theorem dX9_back_16 : decode cX9_back 16 = .ok (.iload_n 1, 1) := by decide +kernel
theorem dX9_back_17 : decode cX9_back 17 = .ok (.aload_n 0, 1) := by decide +kernel
theorem dX9_back_18 : decode cX9_back 18 = .ok (.getfield 49, 3) := by decide +kernel
theorem dX9_back_21 : decode cX9_back 21 = .ok (.getfield 144, 3) := by decide +kernel
theorem dX9_back_24 : decode cX9_back 24 = .ok (.if_icmp .lt 5, 3) := by decide +kernel
theorem dX9_back_27 : decode cX9_back 27 = .ok (.iconst (-1), 1) := by decide +kernel
theorem dX9_back_28 : decode cX9_back 28 = .ok (.ireturn, 1) := by decide +kernel
theorem dX9_back_29 : decode cX9_back 29 = .ok (.aload_n 0, 1) := by decide +kernel
theorem dX9_back_30 : decode cX9_back 30 = .ok (.aload_n 0, 1) := by decide +kernel
theorem dX9_back_31 : decode cX9_back 31 = .ok (.getfield 49, 3) := by decide +kernel
theorem dX9_back_34 : decode cX9_back 34 = .ok (.iload_n 1, 1) := by decide +kernel
theorem dX9_back_35 : decode cX9_back 35 = .ok (.invokevirtual 147, 3) := by decide +kernel
theorem dX9_back_38 : decode cX9_back 38 = .ok (.aload_n 0, 1) := by decide +kernel
theorem dX9_back_39 : decode cX9_back 39 = .ok (.getfield 49, 3) := by decide +kernel
theorem dX9_back_42 : decode cX9_back 42 = .ok (.iload_n 1, 1) := by decide +kernel
theorem dX9_back_43 : decode cX9_back 43 = .ok (.aload_n 0, 1) := by decide +kernel
theorem dX9_back_44 : decode cX9_back 44 = .ok (.getfield 19, 3) := by decide +kernel
theorem dX9_back_47 : decode cX9_back 47 = .ok (.invokevirtual 151, 3) := by decide +kernel
theorem dX9_back_50 : decode cX9_back 50 = .ok (.aload_n 0, 1) := by decide +kernel
theorem dX9_back_51 : decode cX9_back 51 = .ok (.getfield 67, 3) := by decide +kernel
theorem dX9_back_54 : decode cX9_back 54 = .ok (.ireturn, 1) := by decide +kernel
theorem dX9_changed_0 : decode cX9_changed 0 = .ok (.aload_n 0, 1) := by decide +kernel
theorem dX9_changed_1 : decode cX9_changed 1 = .ok (.iconst 0, 1) := by decide +kernel
theorem dX9_changed_2 : decode cX9_changed 2 = .ok (.putfield 67, 3) := by decide +kernel
theorem dX9_changed_5 : decode cX9_changed 5 = .ok (.aload_n 0, 1) := by decide +kernel
theorem dX9_changed_6 : decode cX9_changed 6 = .ok (.aload_n 0, 1) := by decide +kernel
theorem dX9_changed_7 : decode cX9_changed 7 = .ok (.getfield 52, 3) := by decide +kernel
theorem dX9_changed_10 : decode cX9_changed 10 = .ok (.invokevirtual 169, 3) := by decide +kernel
theorem dX9_changed_13 : decode cX9_changed 13 = .ok (.astore_n 3, 1) := by decide +kernel
theorem dX9_changed_14 : decode cX9_changed 14 = .ok (.aload_n 3, 1) := by decide +kernel
theorem dX9_changed_15 : decode cX9_changed 15 = .ok (.ifnull 22, 3) := by decide +kernel
theorem dX9_changed_18 : decode cX9_changed 18 = .ok (.iload_n 1, 1) := by decide +kernel
theorem dX9_changed_19 : decode cX9_changed 19 = .ok (.ifCond .lt 18, 3) := by decide +kernel
theorem dX9_changed_22 : decode cX9_changed 22 = .ok (.iload_n 1, 1) := by decide +kernel
theorem dX9_changed_23 : decode cX9_changed 23 = .ok (.aload_n 3, 1) := by decide +kernel
theorem dX9_changed_24 : decode cX9_changed 24 = .ok (.getfield 144, 3) := by decide +kernel
theorem dX9_changed_27 : decode cX9_changed 27 = .ok (.if_icmp .ge 10, 3) := by decide +kernel
theorem dX9_changed_30 : decode cX9_changed 30 = .ok (.iload_n 2, 1) := by decide +kernel
theorem dX9_changed_31 : decode cX9_changed 31 = .ok (.invokestatic 238, 3) := by decide +kernel
theorem dX9_changed_34 : decode cX9_changed 34 = .ok (.ifCond .ne 6, 3) := by decide +kernel
theorem dX9_changed_37 : decode cX9_changed 37 = .ok (.ldc 175, 2) := by decide +kernel
theorem dX9_changed_39 : decode cX9_changed 39 = .ok (.ireturn, 1) := by decide +kernel
theorem dX9_changed_40 : decode cX9_changed 40 = .ok (.aload_n 0, 1) := by decide +kernel
theorem dX9_changed_41 : decode cX9_changed 41 = .ok (.aload_n 3, 1) := by decide +kernel
theorem dX9_changed_42 : decode cX9_changed 42 = .ok (.iload_n 1, 1) := by decide +kernel
theorem dX9_changed_43 : decode cX9_changed 43 = .ok (.invokevirtual 147, 3) := by decide +kernel
theorem dX9_changed_46 : decode cX9_changed 46 = .ok (.aload_n 0, 1) := by decide +kernel
theorem dX9_changed_47 : decode cX9_changed 47 = .ok (.aload_n 3, 1) := by decide +kernel
theorem dX9_changed_48 : decode cX9_changed 48 = .ok (.iload_n 1, 1) := by decide +kernel
theorem dX9_changed_49 : decode cX9_changed 49 = .ok (.iconst 1, 1) := by decide +kernel
theorem dX9_changed_50 : decode cX9_changed 50 = .ok (.iadd, 1) := by decide +kernel
theorem dX9_changed_51 : decode cX9_changed 51 = .ok (.invokevirtual 147, 3) := by decide +kernel
theorem dX9_changed_54 : decode cX9_changed 54 = .ok (.iconst 0, 1) := by decide +kernel
theorem dX9_changed_55 : decode cX9_changed 55 = .ok (.istore 4, 2) := by decide +kernel
theorem dX9_changed_57 : decode cX9_changed 57 = .ok (.iconst 0, 1) := by decide +kernel
theorem dX9_changed_58 : decode cX9_changed 58 = .ok (.istore 5, 2) := by decide +kernel
theorem dX9_changed_60 : decode cX9_changed 60 = .ok (.iload 5, 2) := by decide +kernel
theorem dX9_changed_62 : decode cX9_changed 62 = .ok (.iload_n 2, 1) := by decide +kernel
theorem dX9_changed_63 : decode cX9_changed 63 = .ok (.invokestatic 241, 3) := by decide +kernel
theorem dX9_changed_66 : decode cX9_changed 66 = .ok (.if_icmp .ge 74, 3) := by decide +kernel
theorem dX9_changed_69 : decode cX9_changed 69 = .ok (.iload_n 2, 1) := by decide +kernel
theorem dX9_changed_70 : decode cX9_changed 70 = .ok (.invokestatic 244, 3) := by decide +kernel
theorem dX9_changed_73 : decode cX9_changed 73 = .ok (.iload 5, 2) := by decide +kernel
theorem dX9_changed_75 : decode cX9_changed 75 = .ok (.iadd, 1) := by decide +kernel
theorem dX9_changed_76 : decode cX9_changed 76 = .ok (.istore 6, 2) := by decide +kernel
theorem dX9_changed_78 : decode cX9_changed 78 = .ok (.aload_n 3, 1) := by decide +kernel
theorem dX9_changed_79 : decode cX9_changed 79 = .ok (.getfield 176, 3) := by decide +kernel
theorem dX9_changed_82 : decode cX9_changed 82 = .ok (.aload_n 3, 1) := by decide +kernel
theorem dX9_changed_83 : decode cX9_changed 83 = .ok (.getfield 176, 3) := by decide +kernel
theorem dX9_changed_86 : decode cX9_changed 86 = .ok (.iload_n 1, 1) := by decide +kernel
theorem dX9_changed_87 : decode cX9_changed 87 = .ok (.iload 6, 2) := by decide +kernel
theorem dX9_changed_89 : decode cX9_changed 89 = .ok (.invokevirtual 180, 3) := by decide +kernel
theorem dX9_changed_92 : decode cX9_changed 92 = .ok (.invokevirtual 193, 3) := by decide +kernel
theorem dX9_changed_95 : decode cX9_changed 95 = .ok (.istore 7, 2) := by decide +kernel
theorem dX9_changed_97 : decode cX9_changed 97 = .ok (.aload_n 3, 1) := by decide +kernel
theorem dX9_changed_98 : decode cX9_changed 98 = .ok (.getfield 176, 3) := by decide +kernel
theorem dX9_changed_101 : decode cX9_changed 101 = .ok (.aload_n 3, 1) := by decide +kernel
theorem dX9_changed_102 : decode cX9_changed 102 = .ok (.getfield 176, 3) := by decide +kernel
theorem dX9_changed_105 : decode cX9_changed 105 = .ok (.iload_n 1, 1) := by decide +kernel
theorem dX9_changed_106 : decode cX9_changed 106 = .ok (.iconst 1, 1) := by decide +kernel
theorem dX9_changed_107 : decode cX9_changed 107 = .ok (.iadd, 1) := by decide +kernel
theorem dX9_changed_108 : decode cX9_changed 108 = .ok (.iload 6, 2) := by decide +kernel
theorem dX9_changed_110 : decode cX9_changed 110 = .ok (.invokevirtual 180, 3) := by decide +kernel
theorem dX9_changed_113 : decode cX9_changed 113 = .ok (.invokevirtual 193, 3) := by decide +kernel
theorem dX9_changed_116 : decode cX9_changed 116 = .ok (.istore 8, 2) := by decide +kernel
theorem dX9_changed_118 : decode cX9_changed 118 = .ok (.iload 7, 2) := by decide +kernel
theorem dX9_changed_120 : decode cX9_changed 120 = .ok (.iload 8, 2) := by decide +kernel
theorem dX9_changed_122 : decode cX9_changed 122 = .ok (.if_icmp .eq 12, 3) := by decide +kernel
theorem dX9_changed_125 : decode cX9_changed 125 = .ok (.iload 4, 2) := by decide +kernel
theorem dX9_changed_127 : decode cX9_changed 127 = .ok (.iconst 1, 1) := by decide +kernel
theorem dX9_changed_128 : decode cX9_changed 128 = .ok (.iload 5, 2) := by decide +kernel
theorem dX9_changed_130 : decode cX9_changed 130 = .ok (.ishl, 1) := by decide +kernel
theorem dX9_changed_131 : decode cX9_changed 131 = .ok (.ior, 1) := by decide +kernel
theorem dX9_changed_132 : decode cX9_changed 132 = .ok (.istore 4, 2) := by decide +kernel
theorem dX9_changed_134 : decode cX9_changed 134 = .ok (.iinc 5 1, 3) := by decide +kernel
theorem dX9_changed_137 : decode cX9_changed 137 = .ok (.goto (-77), 3) := by decide +kernel
theorem dX9_changed_140 : decode cX9_changed 140 = .ok (.iload 4, 2) := by decide +kernel
theorem dX9_changed_142 : decode cX9_changed 142 = .ok (.ireturn, 1) := by decide +kernel
theorem dX9_count_0 : decode cX9_count 0 = .ok (.aload_n 1, 1) := by decide +kernel
theorem dX9_count_1 : decode cX9_count 1 = .ok (.dup, 1) := by decide +kernel
theorem dX9_count_2 : decode cX9_count 2 = .ok (.getfield 332, 3) := by decide +kernel
theorem dX9_count_5 : decode cX9_count 5 = .ok (.iload_n 2, 1) := by decide +kernel
theorem dX9_count_6 : decode cX9_count 6 = .ok (.iadd, 1) := by decide +kernel
theorem dX9_count_7 : decode cX9_count 7 = .ok (.putfield 332, 3) := by decide +kernel
theorem dX9_count_10 : decode cX9_count 10 = .ok (.aload_n 0, 1) := by decide +kernel
theorem dX9_count_11 : decode cX9_count 11 = .ok (.dup, 1) := by decide +kernel
theorem dX9_count_12 : decode cX9_count 12 = .ok (.getfield 67, 3) := by decide +kernel
theorem dX9_count_15 : decode cX9_count 15 = .ok (.iload_n 2, 1) := by decide +kernel
theorem dX9_count_16 : decode cX9_count 16 = .ok (.iadd, 1) := by decide +kernel
theorem dX9_count_17 : decode cX9_count 17 = .ok (.putfield 67, 3) := by decide +kernel
theorem dX9_count_20 : decode cX9_count 20 = .ok (.return_, 1) := by decide +kernel
theorem dX9_firstPlaceOf_0 : decode cX9_firstPlaceOf 0 = .ok (.iload_n 0, 1) := by decide +kernel
theorem dX9_firstPlaceOf_1 : decode cX9_firstPlaceOf 1 = .ok (.ifCond .ne 7, 3) := by decide +kernel
theorem dX9_firstPlaceOf_4 : decode cX9_firstPlaceOf 4 = .ok (.iconst 0, 1) := by decide +kernel
theorem dX9_firstPlaceOf_5 : decode cX9_firstPlaceOf 5 = .ok (.goto 5, 3) := by decide +kernel
theorem dX9_firstPlaceOf_8 : decode cX9_firstPlaceOf 8 = .ok (.bipush 8, 2) := by decide +kernel
theorem dX9_firstPlaceOf_10 : decode cX9_firstPlaceOf 10 = .ok (.ireturn, 1) := by decide +kernel
theorem dX9_isKept_0 : decode cX9_isKept 0 = .ok (.iload_n 1, 1) := by decide +kernel
theorem dX9_isKept_1 : decode cX9_isKept 1 = .ok (.ifCond .lt 20, 3) := by decide +kernel
theorem dX9_isKept_4 : decode cX9_isKept 4 = .ok (.iload_n 1, 1) := by decide +kernel
theorem dX9_isKept_5 : decode cX9_isKept 5 = .ok (.aload_n 0, 1) := by decide +kernel
theorem dX9_isKept_6 : decode cX9_isKept 6 = .ok (.getfield 45, 3) := by decide +kernel
theorem dX9_isKept_9 : decode cX9_isKept 9 = .ok (.if_icmp .ge 12, 3) := by decide +kernel
theorem dX9_isKept_12 : decode cX9_isKept 12 = .ok (.iload_n 1, 1) := by decide +kernel
theorem dX9_isKept_13 : decode cX9_isKept 13 = .ok (.iconst 4, 1) := by decide +kernel
theorem dX9_isKept_14 : decode cX9_isKept 14 = .ok (.if_icmp .ge 7, 3) := by decide +kernel
theorem dX9_isKept_17 : decode cX9_isKept 17 = .ok (.iconst 1, 1) := by decide +kernel
theorem dX9_isKept_18 : decode cX9_isKept 18 = .ok (.goto 4, 3) := by decide +kernel
theorem dX9_isKept_21 : decode cX9_isKept 21 = .ok (.iconst 0, 1) := by decide +kernel
theorem dX9_isKept_22 : decode cX9_isKept 22 = .ok (.ireturn, 1) := by decide +kernel
theorem dX9_isPlacesWhat_0 : decode cX9_isPlacesWhat 0 = .ok (.iload_n 0, 1) := by decide +kernel
theorem dX9_isPlacesWhat_1 : decode cX9_isPlacesWhat 1 = .ok (.ifCond .eq 8, 3) := by decide +kernel
theorem dX9_isPlacesWhat_4 : decode cX9_isPlacesWhat 4 = .ok (.iload_n 0, 1) := by decide +kernel
theorem dX9_isPlacesWhat_5 : decode cX9_isPlacesWhat 5 = .ok (.iconst 1, 1) := by decide +kernel
theorem dX9_isPlacesWhat_6 : decode cX9_isPlacesWhat 6 = .ok (.if_icmp .ne 7, 3) := by decide +kernel
theorem dX9_isPlacesWhat_9 : decode cX9_isPlacesWhat 9 = .ok (.iconst 1, 1) := by decide +kernel
theorem dX9_isPlacesWhat_10 : decode cX9_isPlacesWhat 10 = .ok (.goto 4, 3) := by decide +kernel
theorem dX9_isPlacesWhat_13 : decode cX9_isPlacesWhat 13 = .ok (.iconst 0, 1) := by decide +kernel
theorem dX9_isPlacesWhat_14 : decode cX9_isPlacesWhat 14 = .ok (.ireturn, 1) := by decide +kernel
theorem dX9_isStateWhat_0 : decode cX9_isStateWhat 0 = .ok (.iload_n 0, 1) := by decide +kernel
theorem dX9_isStateWhat_1 : decode cX9_isStateWhat 1 = .ok (.ifCond .lt 8, 3) := by decide +kernel
theorem dX9_isStateWhat_4 : decode cX9_isStateWhat 4 = .ok (.iload_n 0, 1) := by decide +kernel
theorem dX9_isStateWhat_5 : decode cX9_isStateWhat 5 = .ok (.iconst 4, 1) := by decide +kernel
theorem dX9_isStateWhat_6 : decode cX9_isStateWhat 6 = .ok (.if_icmp .le 15, 3) := by decide +kernel
theorem dX9_isStateWhat_9 : decode cX9_isStateWhat 9 = .ok (.iload_n 0, 1) := by decide +kernel
theorem dX9_isStateWhat_10 : decode cX9_isStateWhat 10 = .ok (.bipush 10, 2) := by decide +kernel
theorem dX9_isStateWhat_12 : decode cX9_isStateWhat 12 = .ok (.if_icmp .lt 13, 3) := by decide +kernel
theorem dX9_isStateWhat_15 : decode cX9_isStateWhat 15 = .ok (.iload_n 0, 1) := by decide +kernel
theorem dX9_isStateWhat_16 : decode cX9_isStateWhat 16 = .ok (.bipush 18, 2) := by decide +kernel
theorem dX9_isStateWhat_18 : decode cX9_isStateWhat 18 = .ok (.if_icmp .ge 7, 3) := by decide +kernel
theorem dX9_isStateWhat_21 : decode cX9_isStateWhat 21 = .ok (.iconst 1, 1) := by decide +kernel
theorem dX9_isStateWhat_22 : decode cX9_isStateWhat 22 = .ok (.goto 4, 3) := by decide +kernel
theorem dX9_isStateWhat_25 : decode cX9_isStateWhat 25 = .ok (.iconst 0, 1) := by decide +kernel
theorem dX9_isStateWhat_26 : decode cX9_isStateWhat 26 = .ok (.ireturn, 1) := by decide +kernel
theorem dX9_keep_0 : decode cX9_keep 0 = .ok (.aload_n 0, 1) := by decide +kernel
theorem dX9_keep_1 : decode cX9_keep 1 = .ok (.aload_n 0, 1) := by decide +kernel
theorem dX9_keep_2 : decode cX9_keep 2 = .ok (.getfield 45, 3) := by decide +kernel
theorem dX9_keep_5 : decode cX9_keep 5 = .ok (.invokevirtual 155, 3) := by decide +kernel
theorem dX9_keep_8 : decode cX9_keep 8 = .ok (.astore_n 1, 1) := by decide +kernel
theorem dX9_keep_9 : decode cX9_keep 9 = .ok (.aload_n 0, 1) := by decide +kernel
theorem dX9_keep_10 : decode cX9_keep 10 = .ok (.getfield 49, 3) := by decide +kernel
theorem dX9_keep_13 : decode cX9_keep 13 = .ok (.ifnull 7, 3) := by decide +kernel
theorem dX9_keep_16 : decode cX9_keep 16 = .ok (.aload_n 1, 1) := by decide +kernel
theorem dX9_keep_17 : decode cX9_keep 17 = .ok (.ifnonnull 5, 3) := by decide +kernel
theorem dX9_keep_20 : decode cX9_keep 20 = .ok (.iconst (-1), 1) := by decide +kernel
theorem dX9_keep_21 : decode cX9_keep 21 = .ok (.ireturn, 1) := by decide +kernel
theorem dX9_keep_22 : decode cX9_keep 22 = .ok (.aload_n 1, 1) := by decide +kernel
theorem dX9_keep_23 : decode cX9_keep 23 = .ok (.aload_n 0, 1) := by decide +kernel
theorem dX9_keep_24 : decode cX9_keep 24 = .ok (.getfield 49, 3) := by decide +kernel
theorem dX9_keep_27 : decode cX9_keep 27 = .ok (.aload_n 0, 1) := by decide +kernel
theorem dX9_keep_28 : decode cX9_keep 28 = .ok (.getfield 49, 3) := by decide +kernel
theorem dX9_keep_31 : decode cX9_keep 31 = .ok (.aload_n 0, 1) := by decide +kernel
theorem dX9_keep_32 : decode cX9_keep 32 = .ok (.getfield 19, 3) := by decide +kernel
theorem dX9_keep_35 : decode cX9_keep 35 = .ok (.invokevirtual 159, 3) := by decide +kernel
theorem dX9_keep_38 : decode cX9_keep 38 = .ok (.invokevirtual 163, 3) := by decide +kernel
theorem dX9_keep_41 : decode cX9_keep 41 = .ok (.aload_n 0, 1) := by decide +kernel
theorem dX9_keep_42 : decode cX9_keep 42 = .ok (.dup, 1) := by decide +kernel
theorem dX9_keep_43 : decode cX9_keep 43 = .ok (.getfield 45, 3) := by decide +kernel
theorem dX9_keep_46 : decode cX9_keep 46 = .ok (.iconst 1, 1) := by decide +kernel
theorem dX9_keep_47 : decode cX9_keep 47 = .ok (.iadd, 1) := by decide +kernel
theorem dX9_keep_48 : decode cX9_keep 48 = .ok (.putfield 45, 3) := by decide +kernel
theorem dX9_keep_51 : decode cX9_keep 51 = .ok (.aload_n 0, 1) := by decide +kernel
theorem dX9_keep_52 : decode cX9_keep 52 = .ok (.getfield 45, 3) := by decide +kernel
theorem dX9_keep_55 : decode cX9_keep 55 = .ok (.iconst 1, 1) := by decide +kernel
theorem dX9_keep_56 : decode cX9_keep 56 = .ok (.isub, 1) := by decide +kernel
theorem dX9_keep_57 : decode cX9_keep 57 = .ok (.ireturn, 1) := by decide +kernel
theorem dX9_last_0 : decode cX9_last 0 = .ok (.aload_n 0, 1) := by decide +kernel
theorem dX9_last_1 : decode cX9_last 1 = .ok (.iconst 0, 1) := by decide +kernel
theorem dX9_last_2 : decode cX9_last 2 = .ok (.putfield 67, 3) := by decide +kernel
theorem dX9_last_5 : decode cX9_last 5 = .ok (.aload_n 0, 1) := by decide +kernel
theorem dX9_last_6 : decode cX9_last 6 = .ok (.aload_n 0, 1) := by decide +kernel
theorem dX9_last_7 : decode cX9_last 7 = .ok (.getfield 52, 3) := by decide +kernel
theorem dX9_last_10 : decode cX9_last 10 = .ok (.invokevirtual 169, 3) := by decide +kernel
theorem dX9_last_13 : decode cX9_last 13 = .ok (.astore_n 3, 1) := by decide +kernel
theorem dX9_last_14 : decode cX9_last 14 = .ok (.aload_n 3, 1) := by decide +kernel
theorem dX9_last_15 : decode cX9_last 15 = .ok (.ifnull 18, 3) := by decide +kernel
theorem dX9_last_18 : decode cX9_last 18 = .ok (.aload_n 3, 1) := by decide +kernel
theorem dX9_last_19 : decode cX9_last 19 = .ok (.iload_n 1, 1) := by decide +kernel
theorem dX9_last_20 : decode cX9_last 20 = .ok (.invokevirtual 172, 3) := by decide +kernel
theorem dX9_last_23 : decode cX9_last 23 = .ok (.ifCond .eq 10, 3) := by decide +kernel
theorem dX9_last_26 : decode cX9_last 26 = .ok (.iload_n 2, 1) := by decide +kernel
theorem dX9_last_27 : decode cX9_last 27 = .ok (.invokestatic 119, 3) := by decide +kernel
theorem dX9_last_30 : decode cX9_last 30 = .ok (.ifCond .ne 6, 3) := by decide +kernel
theorem dX9_last_33 : decode cX9_last 33 = .ok (.bipush (-2), 2) := by decide +kernel
theorem dX9_last_35 : decode cX9_last 35 = .ok (.ireturn, 1) := by decide +kernel
theorem dX9_last_36 : decode cX9_last 36 = .ok (.aload_n 0, 1) := by decide +kernel
theorem dX9_last_37 : decode cX9_last 37 = .ok (.aload_n 3, 1) := by decide +kernel
theorem dX9_last_38 : decode cX9_last 38 = .ok (.iload_n 1, 1) := by decide +kernel
theorem dX9_last_39 : decode cX9_last 39 = .ok (.iload_n 2, 1) := by decide +kernel
theorem dX9_last_40 : decode cX9_last 40 = .ok (.invokevirtual 218, 3) := by decide +kernel
theorem dX9_last_43 : decode cX9_last 43 = .ok (.ireturn, 1) := by decide +kernel
theorem dX9_lastChange_0 : decode cX9_lastChange 0 = .ok (.aload_n 0, 1) := by decide +kernel
theorem dX9_lastChange_1 : decode cX9_lastChange 1 = .ok (.aload_n 1, 1) := by decide +kernel
theorem dX9_lastChange_2 : decode cX9_lastChange 2 = .ok (.iload_n 2, 1) := by decide +kernel
theorem dX9_lastChange_3 : decode cX9_lastChange 3 = .ok (.invokevirtual 147, 3) := by decide +kernel
theorem dX9_lastChange_6 : decode cX9_lastChange 6 = .ok (.aload_n 1, 1) := by decide +kernel
theorem dX9_lastChange_7 : decode cX9_lastChange 7 = .ok (.getfield 176, 3) := by decide +kernel
theorem dX9_lastChange_10 : decode cX9_lastChange 10 = .ok (.iload_n 2, 1) := by decide +kernel
theorem dX9_lastChange_11 : decode cX9_lastChange 11 = .ok (.iload_n 3, 1) := by decide +kernel
theorem dX9_lastChange_12 : decode cX9_lastChange 12 = .ok (.invokevirtual 180, 3) := by decide +kernel
theorem dX9_lastChange_15 : decode cX9_lastChange 15 = .ok (.istore 4, 2) := by decide +kernel
theorem dX9_lastChange_17 : decode cX9_lastChange 17 = .ok (.aload_n 1, 1) := by decide +kernel
theorem dX9_lastChange_18 : decode cX9_lastChange 18 = .ok (.getfield 176, 3) := by decide +kernel
theorem dX9_lastChange_21 : decode cX9_lastChange 21 = .ok (.iload 4, 2) := by decide +kernel
theorem dX9_lastChange_23 : decode cX9_lastChange 23 = .ok (.invokevirtual 193, 3) := by decide +kernel
theorem dX9_lastChange_26 : decode cX9_lastChange 26 = .ok (.ifCond .ne 5, 3) := by decide +kernel
theorem dX9_lastChange_29 : decode cX9_lastChange 29 = .ok (.iconst (-1), 1) := by decide +kernel
theorem dX9_lastChange_30 : decode cX9_lastChange 30 = .ok (.ireturn, 1) := by decide +kernel
theorem dX9_lastChange_31 : decode cX9_lastChange 31 = .ok (.aload_n 1, 1) := by decide +kernel
theorem dX9_lastChange_32 : decode cX9_lastChange 32 = .ok (.getfield 176, 3) := by decide +kernel
theorem dX9_lastChange_35 : decode cX9_lastChange 35 = .ok (.iload 4, 2) := by decide +kernel
theorem dX9_lastChange_37 : decode cX9_lastChange 37 = .ok (.invokevirtual 350, 3) := by decide +kernel
theorem dX9_lastChange_40 : decode cX9_lastChange 40 = .ok (.istore 5, 2) := by decide +kernel
theorem dX9_lastChange_42 : decode cX9_lastChange 42 = .ok (.iconst 0, 1) := by decide +kernel
theorem dX9_lastChange_43 : decode cX9_lastChange 43 = .ok (.istore 6, 2) := by decide +kernel
theorem dX9_lastChange_45 : decode cX9_lastChange 45 = .ok (.iload_n 2, 1) := by decide +kernel
theorem dX9_lastChange_46 : decode cX9_lastChange 46 = .ok (.istore 7, 2) := by decide +kernel
theorem dX9_lastChange_48 : decode cX9_lastChange 48 = .ok (.iload 6, 2) := by decide +kernel
theorem dX9_lastChange_50 : decode cX9_lastChange 50 = .ok (.iload 7, 2) := by decide +kernel
theorem dX9_lastChange_52 : decode cX9_lastChange 52 = .ok (.if_icmp .ge 42, 3) := by decide +kernel
theorem dX9_lastChange_55 : decode cX9_lastChange 55 = .ok (.iload 6, 2) := by decide +kernel
theorem dX9_lastChange_57 : decode cX9_lastChange 57 = .ok (.iload 7, 2) := by decide +kernel
theorem dX9_lastChange_59 : decode cX9_lastChange 59 = .ok (.iadd, 1) := by decide +kernel
theorem dX9_lastChange_60 : decode cX9_lastChange 60 = .ok (.iconst 2, 1) := by decide +kernel
theorem dX9_lastChange_61 : decode cX9_lastChange 61 = .ok (.idiv, 1) := by decide +kernel
theorem dX9_lastChange_62 : decode cX9_lastChange 62 = .ok (.istore 8, 2) := by decide +kernel
theorem dX9_lastChange_64 : decode cX9_lastChange 64 = .ok (.aload_n 0, 1) := by decide +kernel
theorem dX9_lastChange_65 : decode cX9_lastChange 65 = .ok (.aload_n 1, 1) := by decide +kernel
theorem dX9_lastChange_66 : decode cX9_lastChange 66 = .ok (.iload 8, 2) := by decide +kernel
theorem dX9_lastChange_68 : decode cX9_lastChange 68 = .ok (.invokevirtual 147, 3) := by decide +kernel
theorem dX9_lastChange_71 : decode cX9_lastChange 71 = .ok (.iload 8, 2) := by decide +kernel
theorem dX9_lastChange_73 : decode cX9_lastChange 73 = .ok (.iload 5, 2) := by decide +kernel
theorem dX9_lastChange_75 : decode cX9_lastChange 75 = .ok (.if_icmp .lt 10, 3) := by decide +kernel
theorem dX9_lastChange_78 : decode cX9_lastChange 78 = .ok (.iload 8, 2) := by decide +kernel
theorem dX9_lastChange_80 : decode cX9_lastChange 80 = .ok (.istore 7, 2) := by decide +kernel
theorem dX9_lastChange_82 : decode cX9_lastChange 82 = .ok (.goto 9, 3) := by decide +kernel
theorem dX9_lastChange_85 : decode cX9_lastChange 85 = .ok (.iload 8, 2) := by decide +kernel
theorem dX9_lastChange_87 : decode cX9_lastChange 87 = .ok (.iconst 1, 1) := by decide +kernel
theorem dX9_lastChange_88 : decode cX9_lastChange 88 = .ok (.iadd, 1) := by decide +kernel
theorem dX9_lastChange_89 : decode cX9_lastChange 89 = .ok (.istore 6, 2) := by decide +kernel
theorem dX9_lastChange_91 : decode cX9_lastChange 91 = .ok (.goto (-43), 3) := by decide +kernel
theorem dX9_lastChange_94 : decode cX9_lastChange 94 = .ok (.iload 6, 2) := by decide +kernel
theorem dX9_lastChange_96 : decode cX9_lastChange 96 = .ok (.ireturn, 1) := by decide +kernel
theorem dX9_numbered_0 : decode cX9_numbered 0 = .ok (.iload_n 1, 1) := by decide +kernel
theorem dX9_numbered_1 : decode cX9_numbered 1 = .ok (.iconst (-1), 1) := by decide +kernel
theorem dX9_numbered_2 : decode cX9_numbered 2 = .ok (.if_icmp .ne 8, 3) := by decide +kernel
theorem dX9_numbered_5 : decode cX9_numbered 5 = .ok (.aload_n 0, 1) := by decide +kernel
theorem dX9_numbered_6 : decode cX9_numbered 6 = .ok (.getfield 49, 3) := by decide +kernel
theorem dX9_numbered_9 : decode cX9_numbered 9 = .ok (.areturn, 1) := by decide +kernel
theorem dX9_numbered_10 : decode cX9_numbered 10 = .ok (.aload_n 0, 1) := by decide +kernel
theorem dX9_numbered_11 : decode cX9_numbered 11 = .ok (.iload_n 1, 1) := by decide +kernel
theorem dX9_numbered_12 : decode cX9_numbered 12 = .ok (.invokevirtual 166, 3) := by decide +kernel
theorem dX9_numbered_15 : decode cX9_numbered 15 = .ok (.ifCond .eq 11, 3) := by decide +kernel
theorem dX9_numbered_18 : decode cX9_numbered 18 = .ok (.aload_n 0, 1) := by decide +kernel
theorem dX9_numbered_19 : decode cX9_numbered 19 = .ok (.iload_n 1, 1) := by decide +kernel
theorem dX9_numbered_20 : decode cX9_numbered 20 = .ok (.invokevirtual 155, 3) := by decide +kernel
theorem dX9_numbered_23 : decode cX9_numbered 23 = .ok (.goto 4, 3) := by decide +kernel
theorem dX9_numbered_26 : decode cX9_numbered 26 = .ok (.aconst_null, 1) := by decide +kernel
theorem dX9_numbered_27 : decode cX9_numbered 27 = .ok (.areturn, 1) := by decide +kernel
theorem dX9_placesOf_0 : decode cX9_placesOf 0 = .ok (.iload_n 0, 1) := by decide +kernel
theorem dX9_placesOf_1 : decode cX9_placesOf 1 = .ok (.ifCond .ne 8, 3) := by decide +kernel
theorem dX9_placesOf_4 : decode cX9_placesOf 4 = .ok (.bipush 8, 2) := by decide +kernel
theorem dX9_placesOf_6 : decode cX9_placesOf 6 = .ok (.goto 5, 3) := by decide +kernel
theorem dX9_placesOf_9 : decode cX9_placesOf 9 = .ok (.bipush 32, 2) := by decide +kernel
theorem dX9_placesOf_11 : decode cX9_placesOf 11 = .ok (.ireturn, 1) := by decide +kernel
theorem dX9_replay_0 : decode cX9_replay 0 = .ok (.aload_n 0, 1) := by decide +kernel
theorem dX9_replay_1 : decode cX9_replay 1 = .ok (.aload_n 1, 1) := by decide +kernel
theorem dX9_replay_2 : decode cX9_replay 2 = .ok (.iload_n 2, 1) := by decide +kernel
theorem dX9_replay_3 : decode cX9_replay 3 = .ok (.aload_n 1, 1) := by decide +kernel
theorem dX9_replay_4 : decode cX9_replay 4 = .ok (.getfield 144, 3) := by decide +kernel
theorem dX9_replay_7 : decode cX9_replay 7 = .ok (.if_icmp .ne 7, 3) := by decide +kernel
theorem dX9_replay_10 : decode cX9_replay 10 = .ok (.iconst 0, 1) := by decide +kernel
theorem dX9_replay_11 : decode cX9_replay 11 = .ok (.goto 13, 3) := by decide +kernel
theorem dX9_replay_14 : decode cX9_replay 14 = .ok (.iload_n 2, 1) := by decide +kernel
theorem dX9_replay_15 : decode cX9_replay 15 = .ok (.aload_n 1, 1) := by decide +kernel
theorem dX9_replay_16 : decode cX9_replay 16 = .ok (.getfield 226, 3) := by decide +kernel
theorem dX9_replay_19 : decode cX9_replay 19 = .ok (.iload_n 2, 1) := by decide +kernel
theorem dX9_replay_20 : decode cX9_replay 20 = .ok (.invokevirtual 347, 3) := by decide +kernel
theorem dX9_replay_23 : decode cX9_replay 23 = .ok (.isub, 1) := by decide +kernel
theorem dX9_replay_24 : decode cX9_replay 24 = .ok (.invokevirtual 235, 3) := by decide +kernel
theorem dX9_replay_27 : decode cX9_replay 27 = .ok (.return_, 1) := by decide +kernel
theorem dX9_roomOfKept_0 : decode cX9_roomOfKept 0 = .ok (.iload_n 1, 1) := by decide +kernel
theorem dX9_roomOfKept_1 : decode cX9_roomOfKept 1 = .ok (.ifCond .lt 17, 3) := by decide +kernel
theorem dX9_roomOfKept_4 : decode cX9_roomOfKept 4 = .ok (.iload_n 1, 1) := by decide +kernel
theorem dX9_roomOfKept_5 : decode cX9_roomOfKept 5 = .ok (.iconst 4, 1) := by decide +kernel
theorem dX9_roomOfKept_6 : decode cX9_roomOfKept 6 = .ok (.if_icmp .ge 12, 3) := by decide +kernel
theorem dX9_roomOfKept_9 : decode cX9_roomOfKept 9 = .ok (.aload_n 0, 1) := by decide +kernel
theorem dX9_roomOfKept_10 : decode cX9_roomOfKept 10 = .ok (.getfield 41, 3) := by decide +kernel
theorem dX9_roomOfKept_13 : decode cX9_roomOfKept 13 = .ok (.iload_n 1, 1) := by decide +kernel
theorem dX9_roomOfKept_14 : decode cX9_roomOfKept 14 = .ok (.aaload, 1) := by decide +kernel
theorem dX9_roomOfKept_15 : decode cX9_roomOfKept 15 = .ok (.goto 4, 3) := by decide +kernel
theorem dX9_roomOfKept_18 : decode cX9_roomOfKept 18 = .ok (.aconst_null, 1) := by decide +kernel
theorem dX9_roomOfKept_19 : decode cX9_roomOfKept 19 = .ok (.areturn, 1) := by decide +kernel
theorem dX9_state_0 : decode cX9_state 0 = .ok (.aload_n 0, 1) := by decide +kernel
theorem dX9_state_1 : decode cX9_state 1 = .ok (.iconst 0, 1) := by decide +kernel
theorem dX9_state_2 : decode cX9_state 2 = .ok (.putfield 67, 3) := by decide +kernel
theorem dX9_state_5 : decode cX9_state 5 = .ok (.aload_n 0, 1) := by decide +kernel
theorem dX9_state_6 : decode cX9_state 6 = .ok (.aload_n 0, 1) := by decide +kernel
theorem dX9_state_7 : decode cX9_state 7 = .ok (.getfield 52, 3) := by decide +kernel
theorem dX9_state_10 : decode cX9_state 10 = .ok (.invokevirtual 169, 3) := by decide +kernel
theorem dX9_state_13 : decode cX9_state 13 = .ok (.astore_n 3, 1) := by decide +kernel
theorem dX9_state_14 : decode cX9_state 14 = .ok (.aload_n 3, 1) := by decide +kernel
theorem dX9_state_15 : decode cX9_state 15 = .ok (.ifnull 18, 3) := by decide +kernel
theorem dX9_state_18 : decode cX9_state 18 = .ok (.aload_n 3, 1) := by decide +kernel
theorem dX9_state_19 : decode cX9_state 19 = .ok (.iload_n 1, 1) := by decide +kernel
theorem dX9_state_20 : decode cX9_state 20 = .ok (.invokevirtual 172, 3) := by decide +kernel
theorem dX9_state_23 : decode cX9_state 23 = .ok (.ifCond .eq 10, 3) := by decide +kernel
theorem dX9_state_26 : decode cX9_state 26 = .ok (.iload_n 2, 1) := by decide +kernel
theorem dX9_state_27 : decode cX9_state 27 = .ok (.invokestatic 196, 3) := by decide +kernel
theorem dX9_state_30 : decode cX9_state 30 = .ok (.ifCond .ne 6, 3) := by decide +kernel
theorem dX9_state_33 : decode cX9_state 33 = .ok (.ldc 175, 2) := by decide +kernel
theorem dX9_state_35 : decode cX9_state 35 = .ok (.ireturn, 1) := by decide +kernel
theorem dX9_state_36 : decode cX9_state 36 = .ok (.aload_n 0, 1) := by decide +kernel
theorem dX9_state_37 : decode cX9_state 37 = .ok (.aload_n 3, 1) := by decide +kernel
theorem dX9_state_38 : decode cX9_state 38 = .ok (.iload_n 1, 1) := by decide +kernel
theorem dX9_state_39 : decode cX9_state 39 = .ok (.invokevirtual 147, 3) := by decide +kernel
theorem dX9_state_42 : decode cX9_state 42 = .ok (.iload_n 2, 1) := by decide +kernel
theorem dX9_state_43 : decode cX9_state 43 = .ok (.tableswitch 70 0 4 #[33, 39, 45, 51, 57], 33) := by decide +kernel
theorem dX9_state_76 : decode cX9_state 76 = .ok (.aload_n 3, 1) := by decide +kernel
theorem dX9_state_77 : decode cX9_state 77 = .ok (.iload_n 1, 1) := by decide +kernel
theorem dX9_state_78 : decode cX9_state 78 = .ok (.invokevirtual 199, 3) := by decide +kernel
theorem dX9_state_81 : decode cX9_state 81 = .ok (.ireturn, 1) := by decide +kernel
theorem dX9_state_82 : decode cX9_state 82 = .ok (.aload_n 3, 1) := by decide +kernel
theorem dX9_state_83 : decode cX9_state 83 = .ok (.iload_n 1, 1) := by decide +kernel
theorem dX9_state_84 : decode cX9_state 84 = .ok (.invokevirtual 202, 3) := by decide +kernel
theorem dX9_state_87 : decode cX9_state 87 = .ok (.ireturn, 1) := by decide +kernel
theorem dX9_state_88 : decode cX9_state 88 = .ok (.aload_n 3, 1) := by decide +kernel
theorem dX9_state_89 : decode cX9_state 89 = .ok (.iload_n 1, 1) := by decide +kernel
theorem dX9_state_90 : decode cX9_state 90 = .ok (.invokevirtual 205, 3) := by decide +kernel
theorem dX9_state_93 : decode cX9_state 93 = .ok (.ireturn, 1) := by decide +kernel
theorem dX9_state_94 : decode cX9_state 94 = .ok (.aload_n 3, 1) := by decide +kernel
theorem dX9_state_95 : decode cX9_state 95 = .ok (.iload_n 1, 1) := by decide +kernel
theorem dX9_state_96 : decode cX9_state 96 = .ok (.invokevirtual 208, 3) := by decide +kernel
theorem dX9_state_99 : decode cX9_state 99 = .ok (.ireturn, 1) := by decide +kernel
theorem dX9_state_100 : decode cX9_state 100 = .ok (.aload_n 3, 1) := by decide +kernel
theorem dX9_state_101 : decode cX9_state 101 = .ok (.getfield 211, 3) := by decide +kernel
theorem dX9_state_104 : decode cX9_state 104 = .ok (.aload_n 3, 1) := by decide +kernel
theorem dX9_state_105 : decode cX9_state 105 = .ok (.iload_n 1, 1) := by decide +kernel
theorem dX9_state_106 : decode cX9_state 106 = .ok (.invokevirtual 199, 3) := by decide +kernel
theorem dX9_state_109 : decode cX9_state 109 = .ok (.invokevirtual 212, 3) := by decide +kernel
theorem dX9_state_112 : decode cX9_state 112 = .ok (.ireturn, 1) := by decide +kernel
theorem dX9_state_113 : decode cX9_state 113 = .ok (.aload_n 3, 1) := by decide +kernel
theorem dX9_state_114 : decode cX9_state 114 = .ok (.iload_n 1, 1) := by decide +kernel
theorem dX9_state_115 : decode cX9_state 115 = .ok (.iload_n 2, 1) := by decide +kernel
theorem dX9_state_116 : decode cX9_state 116 = .ok (.bipush 10, 2) := by decide +kernel
theorem dX9_state_118 : decode cX9_state 118 = .ok (.isub, 1) := by decide +kernel
theorem dX9_state_119 : decode cX9_state 119 = .ok (.invokevirtual 215, 3) := by decide +kernel
theorem dX9_state_122 : decode cX9_state 122 = .ok (.ireturn, 1) := by decide +kernel
theorem dX9_use_0 : decode cX9_use 0 = .ok (.iload_n 1, 1) := by decide +kernel
theorem dX9_use_1 : decode cX9_use 1 = .ok (.iconst (-1), 1) := by decide +kernel
theorem dX9_use_2 : decode cX9_use 2 = .ok (.if_icmp .eq 13, 3) := by decide +kernel
theorem dX9_use_5 : decode cX9_use 5 = .ok (.aload_n 0, 1) := by decide +kernel
theorem dX9_use_6 : decode cX9_use 6 = .ok (.iload_n 1, 1) := by decide +kernel
theorem dX9_use_7 : decode cX9_use 7 = .ok (.invokevirtual 166, 3) := by decide +kernel
theorem dX9_use_10 : decode cX9_use 10 = .ok (.ifCond .ne 5, 3) := by decide +kernel
theorem dX9_use_13 : decode cX9_use 13 = .ok (.iconst 0, 1) := by decide +kernel
theorem dX9_use_14 : decode cX9_use 14 = .ok (.ireturn, 1) := by decide +kernel
theorem dX9_use_15 : decode cX9_use 15 = .ok (.aload_n 0, 1) := by decide +kernel
theorem dX9_use_16 : decode cX9_use 16 = .ok (.iload_n 1, 1) := by decide +kernel
theorem dX9_use_17 : decode cX9_use 17 = .ok (.putfield 52, 3) := by decide +kernel
theorem dX9_use_20 : decode cX9_use 20 = .ok (.iconst 1, 1) := by decide +kernel
theorem dX9_use_21 : decode cX9_use 21 = .ok (.ireturn, 1) := by decide +kernel
theorem dX9_watch_0 : decode cX9_watch 0 = .ok (.iload_n 1, 1) := by decide +kernel
theorem dX9_watch_1 : decode cX9_watch 1 = .ok (.invokestatic 119, 3) := by decide +kernel
theorem dX9_watch_4 : decode cX9_watch 4 = .ok (.ifCond .eq 12, 3) := by decide +kernel
theorem dX9_watch_7 : decode cX9_watch 7 = .ok (.aload_n 0, 1) := by decide +kernel
theorem dX9_watch_8 : decode cX9_watch 8 = .ok (.iload_n 1, 1) := by decide +kernel
theorem dX9_watch_9 : decode cX9_watch 9 = .ok (.invokevirtual 141, 3) := by decide +kernel
theorem dX9_watch_12 : decode cX9_watch 12 = .ok (.iload_n 2, 1) := by decide +kernel
theorem dX9_watch_13 : decode cX9_watch 13 = .ok (.if_icmp .ne 5, 3) := by decide +kernel
theorem dX9_watch_16 : decode cX9_watch 16 = .ok (.iconst 0, 1) := by decide +kernel
theorem dX9_watch_17 : decode cX9_watch 17 = .ok (.ireturn, 1) := by decide +kernel
theorem dX9_watch_18 : decode cX9_watch 18 = .ok (.iload_n 1, 1) := by decide +kernel
theorem dX9_watch_19 : decode cX9_watch 19 = .ok (.bipush 8, 2) := by decide +kernel
theorem dX9_watch_21 : decode cX9_watch 21 = .ok (.if_icmp .ge 18, 3) := by decide +kernel
theorem dX9_watch_24 : decode cX9_watch 24 = .ok (.aload_n 0, 1) := by decide +kernel
theorem dX9_watch_25 : decode cX9_watch 25 = .ok (.dup, 1) := by decide +kernel
theorem dX9_watch_26 : decode cX9_watch 26 = .ok (.getfield 61, 3) := by decide +kernel
theorem dX9_watch_29 : decode cX9_watch 29 = .ok (.iconst 1, 1) := by decide +kernel
theorem dX9_watch_30 : decode cX9_watch 30 = .ok (.iload_n 1, 1) := by decide +kernel
theorem dX9_watch_31 : decode cX9_watch 31 = .ok (.ishl, 1) := by decide +kernel
theorem dX9_watch_32 : decode cX9_watch 32 = .ok (.ixor, 1) := by decide +kernel
theorem dX9_watch_33 : decode cX9_watch 33 = .ok (.putfield 61, 3) := by decide +kernel
theorem dX9_watch_36 : decode cX9_watch 36 = .ok (.goto 18, 3) := by decide +kernel
theorem dX9_watch_39 : decode cX9_watch 39 = .ok (.aload_n 0, 1) := by decide +kernel
theorem dX9_watch_40 : decode cX9_watch 40 = .ok (.dup, 1) := by decide +kernel
theorem dX9_watch_41 : decode cX9_watch 41 = .ok (.getfield 64, 3) := by decide +kernel
theorem dX9_watch_44 : decode cX9_watch 44 = .ok (.iconst 1, 1) := by decide +kernel
theorem dX9_watch_45 : decode cX9_watch 45 = .ok (.iload_n 1, 1) := by decide +kernel
theorem dX9_watch_46 : decode cX9_watch 46 = .ok (.bipush 8, 2) := by decide +kernel
theorem dX9_watch_48 : decode cX9_watch 48 = .ok (.isub, 1) := by decide +kernel
theorem dX9_watch_49 : decode cX9_watch 49 = .ok (.ishl, 1) := by decide +kernel
theorem dX9_watch_50 : decode cX9_watch 50 = .ok (.ixor, 1) := by decide +kernel
theorem dX9_watch_51 : decode cX9_watch 51 = .ok (.putfield 64, 3) := by decide +kernel
theorem dX9_watch_54 : decode cX9_watch 54 = .ok (.iconst 1, 1) := by decide +kernel
theorem dX9_watch_55 : decode cX9_watch 55 = .ok (.ireturn, 1) := by decide +kernel
theorem dX9_when_0 : decode cX9_when 0 = .ok (.aload_n 0, 1) := by decide +kernel
theorem dX9_when_1 : decode cX9_when 1 = .ok (.iconst 0, 1) := by decide +kernel
theorem dX9_when_2 : decode cX9_when 2 = .ok (.putfield 67, 3) := by decide +kernel
theorem dX9_when_5 : decode cX9_when 5 = .ok (.aload_n 0, 1) := by decide +kernel
theorem dX9_when_6 : decode cX9_when 6 = .ok (.aload_n 0, 1) := by decide +kernel
theorem dX9_when_7 : decode cX9_when 7 = .ok (.getfield 52, 3) := by decide +kernel
theorem dX9_when_10 : decode cX9_when 10 = .ok (.invokevirtual 169, 3) := by decide +kernel
theorem dX9_when_13 : decode cX9_when 13 = .ok (.astore 5, 2) := by decide +kernel
theorem dX9_when_15 : decode cX9_when 15 = .ok (.aload 5, 2) := by decide +kernel
theorem dX9_when_17 : decode cX9_when 17 = .ok (.ifnull 28, 3) := by decide +kernel
theorem dX9_when_20 : decode cX9_when 20 = .ok (.aload 5, 2) := by decide +kernel
theorem dX9_when_22 : decode cX9_when 22 = .ok (.iload_n 1, 1) := by decide +kernel
theorem dX9_when_23 : decode cX9_when 23 = .ok (.invokevirtual 172, 3) := by decide +kernel
theorem dX9_when_26 : decode cX9_when 26 = .ok (.ifCond .eq 19, 3) := by decide +kernel
theorem dX9_when_29 : decode cX9_when 29 = .ok (.iload_n 2, 1) := by decide +kernel
theorem dX9_when_30 : decode cX9_when 30 = .ok (.invokestatic 119, 3) := by decide +kernel
theorem dX9_when_33 : decode cX9_when 33 = .ok (.ifCond .eq 12, 3) := by decide +kernel
theorem dX9_when_36 : decode cX9_when 36 = .ok (.iload_n 3, 1) := by decide +kernel
theorem dX9_when_37 : decode cX9_when 37 = .ok (.iload 4, 2) := by decide +kernel
theorem dX9_when_39 : decode cX9_when 39 = .ok (.invokestatic 122, 3) := by decide +kernel
theorem dX9_when_42 : decode cX9_when 42 = .ok (.ifCond .ne 6, 3) := by decide +kernel
theorem dX9_when_45 : decode cX9_when 45 = .ok (.bipush (-2), 2) := by decide +kernel
theorem dX9_when_47 : decode cX9_when 47 = .ok (.ireturn, 1) := by decide +kernel
theorem dX9_when_48 : decode cX9_when 48 = .ok (.aload 5, 2) := by decide +kernel
theorem dX9_when_50 : decode cX9_when 50 = .ok (.getfield 176, 3) := by decide +kernel
theorem dX9_when_53 : decode cX9_when 53 = .ok (.iload_n 1, 1) := by decide +kernel
theorem dX9_when_54 : decode cX9_when 54 = .ok (.iload_n 2, 1) := by decide +kernel
theorem dX9_when_55 : decode cX9_when 55 = .ok (.iload_n 3, 1) := by decide +kernel
theorem dX9_when_56 : decode cX9_when 56 = .ok (.iload 4, 2) := by decide +kernel
theorem dX9_when_58 : decode cX9_when 58 = .ok (.invokevirtual 222, 3) := by decide +kernel
theorem dX9_when_61 : decode cX9_when 61 = .ok (.istore 6, 2) := by decide +kernel
theorem dX9_when_63 : decode cX9_when 63 = .ok (.aload_n 0, 1) := by decide +kernel
theorem dX9_when_64 : decode cX9_when 64 = .ok (.aload 5, 2) := by decide +kernel
theorem dX9_when_66 : decode cX9_when 66 = .ok (.aload 5, 2) := by decide +kernel
theorem dX9_when_68 : decode cX9_when 68 = .ok (.getfield 226, 3) := by decide +kernel
theorem dX9_when_71 : decode cX9_when 71 = .ok (.iload 6, 2) := by decide +kernel
theorem dX9_when_73 : decode cX9_when 73 = .ok (.iload_n 1, 1) := by decide +kernel
theorem dX9_when_74 : decode cX9_when 74 = .ok (.invokevirtual 230, 3) := by decide +kernel
theorem dX9_when_77 : decode cX9_when 77 = .ok (.invokevirtual 235, 3) := by decide +kernel
theorem dX9_when_80 : decode cX9_when 80 = .ok (.iload 6, 2) := by decide +kernel
theorem dX9_when_82 : decode cX9_when 82 = .ok (.ireturn, 1) := by decide +kernel
def g_X9_watch (F : Nat) (x1 : Int32) (x2 : Int32) (u : rg_U) : Option (Int32 × rg_U) :=
  if (g_X9_isPlace x1) = 0 then (some (0, u)) else (ob (g_X9_isWatched F x1 u) (fun r2 => if r2 = x2 then (some (0, u)) else (if 8 ≤ x1 then (lt1 (sF u 0 12 ((rF u 0 12) ^^^ (dx_shl 1 (x1 - 8)))) (fun u6 => some (1, u6))) else (lt1 (sF u 0 11 ((rF u 0 11) ^^^ (dx_shl 1 x1))) (fun u11 => some (1, u11))))))
set_option maxHeartbeats 4000000 in
set_option maxRecDepth 100000 in
theorem k_X9_watch {gs : List String} {ro : pm_RO} {n : Nat} {w : Nat → va_E} {b : Nat} {u : rg_U} {F : Nat} {x1 : Int32} {x2 : Int32} {z : (Int32 × rg_U)} (hR : rg shC b u n w) (h : g_X9_watch F x1 x2 u = some z) : pm_Met gs ro M_X9_watch 2 0 0 [.ref (b + 0), .int x1, .int x2] n w (rg_post shC b n w (some (.int z.1)) z.2) := by
  unfold g_X9_watch at h
  refine pm_ofX in_X9_watch (Nat.le_of_ble_eq_true rfl) rfl (L := [some (.ref (b + 0)), some (.int x1), some (.int x2)]) rfl ?_
  refine pm_iload_n dX9_watch_0 rfl ?_
  refine dx_cSp (M := M_X9_watch) (Mc := M_X9_isPlace) (dc := 0) (As := [.int x1]) (st := []) dX9_watch_1 ml_X9_119 (by decide) (Nat.le_of_ble_eq_true rfl) rfl (k_X9_isPlace rfl) ?_
  refine pm_if_eq (tgt := 16) dX9_watch_4 (by decide) (fun c1 => ?_) (fun c1 => ?_)
  · replace h := it_t c1 h
    refine pm_iconst (v := 0) dX9_watch_16 (by decide) ?_
    cases h
    exact pm_zret dX9_watch_17 rfl (Or.inl rfl) (Nat.le_refl _) (Nat.le_refl _) ⟨rfl, rfl, hR, rg_k0⟩
  · replace h := it_f c1 h
    refine pm_aload_n dX9_watch_7 rfl ?_
    refine pm_iload_n dX9_watch_8 rfl ?_
    obtain ⟨r2, h3, h⟩ := ob_some h
    refine dx_cVp (j := 0) (M := M_X9_watch) (Mc := M_X9_isWatched) (dc := 1) (As := [.int x1]) (st := []) hR dX9_watch_9 ml_X9_141 ⟨TX9, 14, rfl⟩ rfl (by decide) (Nat.le_of_ble_eq_true rfl) rfl (k_X9_isWatched hR h3) ?_
    refine pm_iload_n dX9_watch_12 rfl ?_
    refine pm_icmp_ne (tgt := 18) dX9_watch_13 (by decide) (fun c4 => ?_) (fun c4 => ?_)
    · replace h := it_f c4 h
      refine pm_iload_n dX9_watch_18 rfl ?_
      refine pm_bipush (v := 8) dX9_watch_19 (by decide) ?_
      refine pm_icmp_ge (tgt := 39) dX9_watch_21 (by decide) (fun c5 => ?_) (fun c5 => ?_)
      · replace h := it_t c5 h
        refine pm_aload_n dX9_watch_39 rfl ?_
        refine pm_dup dX9_watch_40 rfl ?_
        refine dx_gi (j := 0) hR dX9_watch_41 fl_X9_64 rfl rfl ?_
        refine pm_iconst (v := 1) dX9_watch_44 (by decide) ?_
        refine pm_iload_n dX9_watch_45 rfl ?_
        refine pm_bipush (v := 8) dX9_watch_46 (by decide) ?_
        refine pm_isub dX9_watch_48 ?_
        refine pm_ishl dX9_watch_49 ?_
        refine pm_ixor dX9_watch_50 ?_
        obtain ⟨u6, hu7, h⟩ := lt1_ex h
        refine dx_pi (j := 0) hR rg_k0 dX9_watch_51 fl_X9_64 rfl rfl hu7 (fun w8 hR9 hk10 => ?_)
        refine pm_iconst (v := 1) dX9_watch_54 (by decide) ?_
        cases h
        exact pm_zret dX9_watch_55 rfl (Or.inr rfl) (Nat.le_refl _) (Nat.le_refl _) ⟨rfl, rfl, hR9, hk10⟩
      · replace h := it_f c5 h
        refine pm_aload_n dX9_watch_24 rfl ?_
        refine pm_dup dX9_watch_25 rfl ?_
        refine dx_gi (j := 0) hR dX9_watch_26 fl_X9_61 rfl rfl ?_
        refine pm_iconst (v := 1) dX9_watch_29 (by decide) ?_
        refine pm_iload_n dX9_watch_30 rfl ?_
        refine pm_ishl dX9_watch_31 ?_
        refine pm_ixor dX9_watch_32 ?_
        obtain ⟨u11, hu12, h⟩ := lt1_ex h
        refine dx_pi (j := 0) hR rg_k0 dX9_watch_33 fl_X9_61 rfl rfl hu12 (fun w13 hR14 hk15 => ?_)
        refine pm_goto (tgt := 54) dX9_watch_36 (by decide) ?_
        refine pm_iconst (v := 1) dX9_watch_54 (by decide) ?_
        cases h
        exact pm_zret dX9_watch_55 rfl (Or.inr rfl) (Nat.le_refl _) (Nat.le_refl _) ⟨rfl, rfl, hR14, hk15⟩
    · replace h := it_t c4 h
      refine pm_iconst (v := 0) dX9_watch_16 (by decide) ?_
      cases h
      exact pm_zret dX9_watch_17 rfl (Or.inl rfl) (Nat.le_refl _) (Nat.le_refl _) ⟨rfl, rfl, hR, rg_k0⟩
def g_X9_count (F : Nat) (o1 : Nat) (x2 : Int32) (u : rg_U) : Option rg_U :=
  lt1 (sF u o1 12 ((rF u o1 12) + x2)) (fun u1 => lt1 (sF u1 0 13 ((rF u1 0 13) + x2)) (fun u6 => some u6))
set_option maxHeartbeats 4000000 in
set_option maxRecDepth 100000 in
theorem k_X9_count {gs : List String} {ro : pm_RO} {n : Nat} {w : Nat → va_E} {b : Nat} {u : rg_U} {F : Nat} {o1 : Nat} {x2 : Int32} {z : rg_U} (hR : rg shC b u n w) (hs1 : sp_Run o1) (h : g_X9_count F o1 x2 u = some z) : pm_Met gs ro M_X9_count 0 0 0 [.ref (b + 0), .ref (b + o1), .int x2] n w (rg_post shC b n w none z) := by
  unfold g_X9_count at h
  refine pm_ofX in_X9_count (Nat.le_of_ble_eq_true rfl) rfl (L := [some (.ref (b + 0)), some (.ref (b + o1)), some (.int x2)]) rfl ?_
  refine pm_aload_n dX9_count_0 rfl ?_
  refine pm_dup dX9_count_1 rfl ?_
  refine dx_gi (j := o1) hR dX9_count_2 fl_X9_332 (sp_Run_self hs1) rfl ?_
  refine pm_iload_n dX9_count_5 rfl ?_
  refine pm_iadd dX9_count_6 ?_
  obtain ⟨u1, hu2, h⟩ := lt1_ex h
  refine dx_pi (j := o1) hR rg_k0 dX9_count_7 fl_X9_332 (sp_Run_self hs1) rfl hu2 (fun w3 hR4 hk5 => ?_)
  refine pm_aload_n dX9_count_10 rfl ?_
  refine pm_dup dX9_count_11 rfl ?_
  refine dx_gi (j := 0) hR4 dX9_count_12 fl_X9_67 rfl rfl ?_
  refine pm_iload_n dX9_count_15 rfl ?_
  refine pm_iadd dX9_count_16 ?_
  obtain ⟨u6, hu7, h⟩ := lt1_ex h
  refine dx_pi (j := 0) hR4 hk5 dX9_count_17 fl_X9_67 rfl rfl hu7 (fun w8 hR9 hk10 => ?_)
  cases h
  exact pm_vret dX9_count_20 rfl (Nat.le_refl _) (Nat.le_refl _) ⟨rfl, rfl, hR9, hk10⟩
def g_X9_replay_j24 (F : Nat) (o1 : Nat) (s0 : Int32) (u : rg_U) : Option rg_U :=
  ob (g_X9_count F o1 s0 u) (fun r4 => some r4)
set_option maxHeartbeats 4000000 in
set_option maxRecDepth 100000 in
theorem k_X9_replay_j24 {gs : List String} {ro : pm_RO} {n : Nat} {w w1 : Nat → va_E} {b : Nat} {u : rg_U} {F : Nat} {o1 : Nat} {s0 : Int32} {z : rg_U} (hR : rg shC b u n w1) (hk : rg_k b shC.length w w1) (hs1 : sp_Run o1) (h : g_X9_replay_j24 F o1 s0 u = some z) : pm_X gs ro M_X9_replay 3 0 0 0 0 24 [none, none, none] [.int s0, .ref (b + o1), .ref (b + 0)] n w1 (rg_post shC b n w none z) := by
  unfold g_X9_replay_j24 at h
  obtain ⟨r4, h5, h⟩ := ob_some h
  refine dx_cVv (j := 0) (M := M_X9_replay) (Mc := M_X9_count) (dc := 0) (As := [.ref (b + o1), .int s0]) (st := []) hR hk dX9_replay_24 ml_X9_235 ⟨TX9, 14, rfl⟩ rfl (by decide) (Nat.le_of_ble_eq_true rfl) rfl (k_X9_count hR hs1 h5) (fun w6 hR7 hk8 => ?_)
  cases h
  exact pm_vret dX9_replay_27 rfl (Nat.le_refl _) (Nat.le_refl _) ⟨rfl, rfl, hR7, hk8⟩
def g_X9_replay (F : Nat) (o1 : Nat) (x2 : Int32) (u : rg_U) : Option rg_U :=
  if x2 = (rF u o1 9) then (g_X9_replay_j24 F o1 0 u) else (ob (g_X2_latestBy F (o1 + 28) x2 u) (fun r2 => g_X9_replay_j24 F o1 (x2 - r2) u))
set_option maxHeartbeats 4000000 in
set_option maxRecDepth 100000 in
theorem k_X9_replay {gs : List String} {ro : pm_RO} {n : Nat} {w : Nat → va_E} {b : Nat} {u : rg_U} {F : Nat} {o1 : Nat} {x2 : Int32} {z : rg_U} (hR : rg shC b u n w) (hs1 : sp_Run o1) (h : g_X9_replay F o1 x2 u = some z) : pm_Met gs ro M_X9_replay 3 0 0 [.ref (b + 0), .ref (b + o1), .int x2] n w (rg_post shC b n w none z) := by
  unfold g_X9_replay at h
  refine pm_ofX in_X9_replay (Nat.le_of_ble_eq_true rfl) rfl (L := [some (.ref (b + 0)), some (.ref (b + o1)), some (.int x2)]) rfl ?_
  refine pm_aload_n dX9_replay_0 rfl ?_
  refine pm_aload_n dX9_replay_1 rfl ?_
  refine pm_iload_n dX9_replay_2 rfl ?_
  refine pm_aload_n dX9_replay_3 rfl ?_
  refine dx_gi (j := o1) hR dX9_replay_4 fl_X9_144 (sp_Run_self hs1) rfl ?_
  refine pm_icmp_ne (tgt := 14) dX9_replay_7 (by decide) (fun c1 => ?_) (fun c1 => ?_)
  · replace h := it_f c1 h
    refine pm_iload_n dX9_replay_14 rfl ?_
    refine pm_aload_n dX9_replay_15 rfl ?_
    refine dx_gr (j := o1) (o := (o1 + 28)) hR dX9_replay_16 fl_X9_226 (sp_Run_self hs1) rfl ?_
    refine pm_iload_n dX9_replay_19 rfl ?_
    obtain ⟨r2, h3, h⟩ := ob_some h
    refine dx_cVp (j := (o1 + 28)) (M := M_X9_replay) (Mc := M_X2_latestBy) (dc := 2) (As := [.int x2]) (st := [.int x2, .ref (b + o1), .ref (b + 0)]) hR dX9_replay_20 ml_X9_347 ⟨TX2, 5, rfl⟩ (sp_Holding_self (sp_Run_holding hs1)) (by decide) (Nat.le_of_ble_eq_true rfl) rfl (k_X2_latestBy hR (sp_Run_holding hs1) h3) ?_
    refine pm_isub dX9_replay_23 ?_
    refine pm_lw (L' := [none, none, none]) ⟨Or.inl rfl, Or.inl rfl, Or.inl rfl, trivial⟩ ?_
    exact k_X9_replay_j24 hR rg_k0 hs1 h
  · replace h := it_t c1 h
    refine pm_iconst (v := 0) dX9_replay_10 (by decide) ?_
    refine pm_goto (tgt := 24) dX9_replay_11 (by decide) ?_
    refine pm_lw (L' := [none, none, none]) ⟨Or.inl rfl, Or.inl rfl, Or.inl rfl, trivial⟩ ?_
    exact k_X9_replay_j24 hR rg_k0 hs1 h
def g_X9_back (F : Nat) (x1 : Int32) (u : rg_U) : Option (Int32 × rg_U) :=
  lt1 (sF u 0 13 0) (fun u1 => om (rG u1 0 7) (some ((-1), u1)) (fun o6 => ck (isRn o6) (if x1 < 0 then (some ((-1), u1)) else (om (rG u1 0 7) (none) (fun o9 => ck (isRn o9) (if x1 < (rF u1 o9 9) then (om (rG u1 0 7) (none) (fun o12 => ck (isRn o12) (ob (g_X9_replay F o12 x1 u1) (fun r14 => om (rG r14 0 7) (none) (fun o19 => ck (isRn o19) (ob (g_X7_goBack F o19 x1 r14) (fun r21 => some ((rF r21 0 13), r21)))))))) else (some ((-1), u1))))))))
set_option maxHeartbeats 4000000 in
set_option maxRecDepth 100000 in
theorem k_X9_back {gs : List String} {ro : pm_RO} {n : Nat} {w : Nat → va_E} {b : Nat} {u : rg_U} {F : Nat} {x1 : Int32} {z : (Int32 × rg_U)} (hR : rg shC b u n w) (h : g_X9_back F x1 u = some z) : pm_Met gs ro M_X9_back 4 0 0 [.ref (b + 0), .int x1] n w (rg_post shC b n w (some (.int z.1)) z.2) := by
  unfold g_X9_back at h
  refine pm_ofX in_X9_back (Nat.le_of_ble_eq_true rfl) rfl (L := [some (.ref (b + 0)), some (.int x1)]) rfl ?_
  refine pm_aload_n dX9_back_0 rfl ?_
  refine pm_iconst (v := 0) dX9_back_1 (by decide) ?_
  obtain ⟨u1, hu2, h⟩ := lt1_ex h
  refine dx_pi (j := 0) hR rg_k0 dX9_back_2 fl_X9_67 rfl rfl hu2 (fun w3 hR4 hk5 => ?_)
  refine pm_aload_n dX9_back_5 rfl ?_
  cases q7 : (rG u1 0 7) with
  | none =>
    replace h := om_n q7 h
    refine dx_ggN (j := 0) hR4 dX9_back_6 fl_X9_49 rfl rfl q7 ?_
    refine pm_ifnullN (x := 0) (tgt := 27) dX9_back_9 (by decide) ?_
    refine pm_iconst (v := (-1)) dX9_back_27 (by decide) ?_
    cases h
    exact pm_iret dX9_back_28 rfl (Nat.le_refl _) (Nat.le_refl _) ⟨rfl, rfl, hR4, hk5⟩
  | some o6 =>
    replace h := om_s q7 h
    obtain ⟨c29, h⟩ := ck_some h
    have hs_o6 := run_sp c29
    refine dx_ggS (j := 0) hR4 dX9_back_6 fl_X9_49 rfl rfl q7 ?_
    refine pm_ifnull dX9_back_9 ?_
    refine pm_iload_n dX9_back_12 rfl ?_
    refine pm_if_lt (tgt := 27) dX9_back_13 (by decide) (fun c8 => ?_) (fun c8 => ?_)
    · replace h := it_t c8 h
      refine pm_iconst (v := (-1)) dX9_back_27 (by decide) ?_
      cases h
      exact pm_iret dX9_back_28 rfl (Nat.le_refl _) (Nat.le_refl _) ⟨rfl, rfl, hR4, hk5⟩
    · replace h := it_f c8 h
      refine pm_iload_n dX9_back_16 rfl ?_
      refine pm_aload_n dX9_back_17 rfl ?_
      cases q10 : (rG u1 0 7) with
      | none =>
        replace h := om_n q10 h
        refine dx_ggN (j := 0) hR4 dX9_back_18 fl_X9_49 rfl rfl q10 ?_
        exact absurd h (by simp)
      | some o9 =>
        replace h := om_s q10 h
        obtain ⟨c28, h⟩ := ck_some h
        have hs_o9 := run_sp c28
        refine dx_ggS (j := 0) hR4 dX9_back_18 fl_X9_49 rfl rfl q10 ?_
        refine dx_gi (j := o9) hR4 dX9_back_21 fl_X9_144 (sp_Run_self hs_o9) rfl ?_
        refine pm_icmp_lt (tgt := 29) dX9_back_24 (by decide) (fun c11 => ?_) (fun c11 => ?_)
        · replace h := it_t c11 h
          refine pm_aload_n dX9_back_29 rfl ?_
          refine pm_aload_n dX9_back_30 rfl ?_
          cases q13 : (rG u1 0 7) with
          | none =>
            replace h := om_n q13 h
            refine dx_ggN (j := 0) hR4 dX9_back_31 fl_X9_49 rfl rfl q13 ?_
            refine pm_iload_n dX9_back_34 rfl ?_
            exact absurd h (by simp)
          | some o12 =>
            replace h := om_s q13 h
            obtain ⟨c27, h⟩ := ck_some h
            have hs_o12 := run_sp c27
            refine dx_ggS (j := 0) hR4 dX9_back_31 fl_X9_49 rfl rfl q13 ?_
            refine pm_iload_n dX9_back_34 rfl ?_
            obtain ⟨r14, h15, h⟩ := ob_some h
            refine dx_cVv (j := 0) (M := M_X9_back) (Mc := M_X9_replay) (dc := 3) (As := [.ref (b + o12), .int x1]) (st := []) hR4 hk5 dX9_back_35 ml_X9_147 ⟨TX9, 14, rfl⟩ rfl (by decide) (Nat.le_of_ble_eq_true rfl) rfl (k_X9_replay hR4 hs_o12 h15) (fun w16 hR17 hk18 => ?_)
            refine pm_aload_n dX9_back_38 rfl ?_
            cases q20 : (rG r14 0 7) with
            | none =>
              replace h := om_n q20 h
              refine dx_ggN (j := 0) hR17 dX9_back_39 fl_X9_49 rfl rfl q20 ?_
              refine pm_iload_n dX9_back_42 rfl ?_
              refine pm_aload_n dX9_back_43 rfl ?_
              refine dx_gr (j := 0) (o := 6) hR17 dX9_back_44 fl_X9_19 rfl rfl ?_
              exact absurd h (by simp)
            | some o19 =>
              replace h := om_s q20 h
              obtain ⟨c26, h⟩ := ck_some h
              have hs_o19 := run_sp c26
              refine dx_ggS (j := 0) hR17 dX9_back_39 fl_X9_49 rfl rfl q20 ?_
              refine pm_iload_n dX9_back_42 rfl ?_
              refine pm_aload_n dX9_back_43 rfl ?_
              refine dx_gr (j := 0) (o := 6) hR17 dX9_back_44 fl_X9_19 rfl rfl ?_
              obtain ⟨r21, h22, h⟩ := ob_some h
              refine dx_cVv (j := o19) (M := M_X9_back) (Mc := M_X7_goBack) (dc := 3) (As := [.int x1, .ref (b + 6)]) (st := []) hR17 hk18 dX9_back_47 ml_X9_151 ⟨TX7, 15, rfl⟩ (sp_Run_self hs_o19) (by decide) (Nat.le_of_ble_eq_true rfl) rfl (k_X7_goBack hR17 hs_o19 h22) (fun w23 hR24 hk25 => ?_)
              refine pm_aload_n dX9_back_50 rfl ?_
              refine dx_gi (j := 0) hR24 dX9_back_51 fl_X9_67 rfl rfl ?_
              cases h
              exact pm_iret dX9_back_54 rfl (Nat.le_refl _) (Nat.le_refl _) ⟨rfl, rfl, hR24, hk25⟩
        · replace h := it_f c11 h
          refine pm_iconst (v := (-1)) dX9_back_27 (by decide) ?_
          cases h
          exact pm_iret dX9_back_28 rfl (Nat.le_refl _) (Nat.le_refl _) ⟨rfl, rfl, hR4, hk5⟩
def g_X9_roomOfKept (F : Nat) (x1 : Int32) (u : rg_U) : Option (Option Nat) :=
  if x1 < 0 then (some none) else (if 4 ≤ x1 then (some none) else (ck (inb x1 4) (om (rQ u 150 x1) (some none) (fun o4 => ck (isRn o4) (some (some o4))))))
set_option maxHeartbeats 4000000 in
set_option maxRecDepth 100000 in
theorem k_X9_roomOfKept {gs : List String} {ro : pm_RO} {n : Nat} {w : Nat → va_E} {b : Nat} {u : rg_U} {F : Nat} {x1 : Int32} {z : (Option Nat)} (hR : rg shC b u n w) (h : g_X9_roomOfKept F x1 u = some z) : pm_Met gs ro M_X9_roomOfKept 0 0 0 [.ref (b + 0), .int x1] n w (pm_p n w (some (va_rf (z.map (fun k => b + k))))) := by
  unfold g_X9_roomOfKept at h
  refine pm_ofX in_X9_roomOfKept (Nat.le_of_ble_eq_true rfl) rfl (L := [some (.ref (b + 0)), some (.int x1)]) rfl ?_
  refine pm_iload_n dX9_roomOfKept_0 rfl ?_
  refine pm_if_lt (tgt := 18) dX9_roomOfKept_1 (by decide) (fun c1 => ?_) (fun c1 => ?_)
  · replace h := it_t c1 h
    refine pm_null dX9_roomOfKept_18 ?_
    cases h
    exact pm_aret dX9_roomOfKept_19 rfl (Or.inl ⟨_, rfl⟩) (Or.inl rfl) (Nat.le_refl _) (Nat.le_refl _) ⟨rfl, rfl, rfl⟩
  · replace h := it_f c1 h
    refine pm_iload_n dX9_roomOfKept_4 rfl ?_
    refine pm_iconst (v := 4) dX9_roomOfKept_5 (by decide) ?_
    refine pm_icmp_ge (tgt := 18) dX9_roomOfKept_6 (by decide) (fun c2 => ?_) (fun c2 => ?_)
    · replace h := it_t c2 h
      refine pm_null dX9_roomOfKept_18 ?_
      cases h
      exact pm_aret dX9_roomOfKept_19 rfl (Or.inl ⟨_, rfl⟩) (Or.inl rfl) (Nat.le_refl _) (Nat.le_refl _) ⟨rfl, rfl, rfl⟩
    · replace h := it_f c2 h
      refine pm_aload_n dX9_roomOfKept_9 rfl ?_
      refine dx_gr (j := 0) (o := 150) hR dX9_roomOfKept_10 fl_X9_41 rfl rfl ?_
      refine pm_iload_n dX9_roomOfKept_13 rfl ?_
      obtain ⟨c3, h⟩ := ck_some h
      cases q5 : (rQ u 150 x1) with
      | none =>
        replace h := om_n q5 h
        refine dx_qlN (j := 150) hR dX9_roomOfKept_14 rfl (vp_in_iff.mpr c3) q5 ?_
        refine pm_goto (tgt := 19) dX9_roomOfKept_15 (by decide) ?_
        cases h
        exact pm_aret dX9_roomOfKept_19 rfl (Or.inl ⟨_, rfl⟩) (Or.inl rfl) (Nat.le_refl _) (Nat.le_refl _) ⟨rfl, rfl, rfl⟩
      | some o4 =>
        replace h := om_s q5 h
        obtain ⟨c6, h⟩ := ck_some h
        have hs_o4 := run_sp c6
        refine dx_qlS (j := 150) hR dX9_roomOfKept_14 rfl (vp_in_iff.mpr c3) q5 ?_
        refine pm_goto (tgt := 19) dX9_roomOfKept_15 (by decide) ?_
        cases h
        exact pm_aret dX9_roomOfKept_19 rfl (Or.inl ⟨_, rfl⟩) (Or.inr ⟨_, rfl⟩) (Nat.le_refl _) (Nat.le_refl _) ⟨rfl, rfl, rfl⟩
def g_X9_keep (F : Nat)  (u : rg_U) : Option (Int32 × rg_U) :=
  ob (g_X9_roomOfKept F (rF u 0 6) u) (fun r1 => om r1 (om (rG u 0 7) (some ((-1), u)) (fun o4 => ck (isRn o4) (some ((-1), u)))) (fun o3 => ck (isRn o3) (om (rG u 0 7) (some ((-1), u)) (fun o7 => ck (isRn o7) (om (rG u 0 7) (om (rG u 0 7) (none) (fun o11 => ck (isRn o11) (ob (g_X7_statusWith F o11 u) (fun r13 => none)))) (fun o9 => ck (isRn o9) (om (rG u 0 7) (none) (fun o16 => ck (isRn o16) (ob (g_X7_statusWith F o16 u) (fun r18 => ob (g_X7_takeFrom F o3 o9 r18 u) (fun r20 => lt1 (sF r20 0 6 ((rF r20 0 6) + 1)) (fun u25 => some (((rF u25 0 6) - 1), u25)))))))))))))
set_option maxHeartbeats 4000000 in
set_option maxRecDepth 100000 in
theorem k_X9_keep {gs : List String} {ro : pm_RO} {n : Nat} {w : Nat → va_E} {b : Nat} {u : rg_U} {F : Nat}  {z : (Int32 × rg_U)} (hR : rg shC b u n w) (h : g_X9_keep F u = some z) : pm_Met gs ro M_X9_keep 4 0 0 [.ref (b + 0)] n w (rg_post shC b n w (some (.int z.1)) z.2) := by
  unfold g_X9_keep at h
  refine pm_ofX in_X9_keep (Nat.le_of_ble_eq_true rfl) rfl (L := [some (.ref (b + 0)), none]) rfl ?_
  refine pm_aload_n dX9_keep_0 rfl ?_
  refine pm_aload_n dX9_keep_1 rfl ?_
  refine dx_gi (j := 0) hR dX9_keep_2 fl_X9_45 rfl rfl ?_
  obtain ⟨r1, h2, h⟩ := ob_some h
  cases r1 with
  | none =>
    replace h := om_n rfl h
    refine dx_cVp (j := 0) (M := M_X9_keep) (Mc := M_X9_roomOfKept) (dc := 0) (As := [.int (rF u 0 6)]) (st := []) hR dX9_keep_5 ml_X9_155 ⟨TX9, 14, rfl⟩ rfl (v := .null) (by decide) (Nat.le_of_ble_eq_true rfl) rfl (k_X9_roomOfKept hR h2) ?_
    refine pm_astore_nN dX9_keep_8 (by decide) rfl rfl ?_
    refine pm_aload_n dX9_keep_9 rfl ?_
    cases q5 : (rG u 0 7) with
    | none =>
      replace h := om_n q5 h
      refine dx_ggN (j := 0) hR dX9_keep_10 fl_X9_49 rfl rfl q5 ?_
      refine pm_ifnullN (x := 0) (tgt := 20) dX9_keep_13 (by decide) ?_
      refine pm_iconst (v := (-1)) dX9_keep_20 (by decide) ?_
      cases h
      exact pm_iret dX9_keep_21 rfl (Nat.le_refl _) (Nat.le_refl _) ⟨rfl, rfl, hR, rg_k0⟩
    | some o4 =>
      replace h := om_s q5 h
      obtain ⟨c6, h⟩ := ck_some h
      have hs_o4 := run_sp c6
      refine dx_ggS (j := 0) hR dX9_keep_10 fl_X9_49 rfl rfl q5 ?_
      refine pm_ifnull dX9_keep_13 ?_
      refine pm_aload_nN dX9_keep_16 rfl ?_
      refine pm_ifnonnullN (x := 0) dX9_keep_17 ?_
      refine pm_iconst (v := (-1)) dX9_keep_20 (by decide) ?_
      cases h
      exact pm_iret dX9_keep_21 rfl (Nat.le_refl _) (Nat.le_refl _) ⟨rfl, rfl, hR, rg_k0⟩
  | some o3 =>
    replace h := om_s rfl h
    obtain ⟨c33, h⟩ := ck_some h
    have hs_o3 := run_sp c33
    refine dx_cVp (j := 0) (M := M_X9_keep) (Mc := M_X9_roomOfKept) (dc := 0) (As := [.int (rF u 0 6)]) (st := []) hR dX9_keep_5 ml_X9_155 ⟨TX9, 14, rfl⟩ rfl (v := .ref (b + o3)) (by decide) (Nat.le_of_ble_eq_true rfl) rfl (k_X9_roomOfKept hR h2) ?_
    refine pm_astore_n dX9_keep_8 (by decide) rfl rfl ?_
    refine pm_aload_n dX9_keep_9 rfl ?_
    cases q8 : (rG u 0 7) with
    | none =>
      replace h := om_n q8 h
      refine dx_ggN (j := 0) hR dX9_keep_10 fl_X9_49 rfl rfl q8 ?_
      refine pm_ifnullN (x := 0) (tgt := 20) dX9_keep_13 (by decide) ?_
      refine pm_iconst (v := (-1)) dX9_keep_20 (by decide) ?_
      cases h
      exact pm_iret dX9_keep_21 rfl (Nat.le_refl _) (Nat.le_refl _) ⟨rfl, rfl, hR, rg_k0⟩
    | some o7 =>
      replace h := om_s q8 h
      obtain ⟨c32, h⟩ := ck_some h
      have hs_o7 := run_sp c32
      refine dx_ggS (j := 0) hR dX9_keep_10 fl_X9_49 rfl rfl q8 ?_
      refine pm_ifnull dX9_keep_13 ?_
      refine pm_aload_n dX9_keep_16 rfl ?_
      refine pm_ifnonnull (tgt := 22) dX9_keep_17 (by decide) ?_
      refine pm_aload_n dX9_keep_22 rfl ?_
      refine pm_aload_n dX9_keep_23 rfl ?_
      cases q10 : (rG u 0 7) with
      | none =>
        replace h := om_n q10 h
        refine dx_ggN (j := 0) hR dX9_keep_24 fl_X9_49 rfl rfl q10 ?_
        refine pm_aload_n dX9_keep_27 rfl ?_
        cases q12 : (rG u 0 7) with
        | none =>
          replace h := om_n q12 h
          refine dx_ggN (j := 0) hR dX9_keep_28 fl_X9_49 rfl rfl q12 ?_
          refine pm_aload_n dX9_keep_31 rfl ?_
          refine dx_gr (j := 0) (o := 6) hR dX9_keep_32 fl_X9_19 rfl rfl ?_
          exact absurd h (by simp)
        | some o11 =>
          replace h := om_s q12 h
          obtain ⟨c15, h⟩ := ck_some h
          have hs_o11 := run_sp c15
          refine dx_ggS (j := 0) hR dX9_keep_28 fl_X9_49 rfl rfl q12 ?_
          refine pm_aload_n dX9_keep_31 rfl ?_
          refine dx_gr (j := 0) (o := 6) hR dX9_keep_32 fl_X9_19 rfl rfl ?_
          obtain ⟨r13, h14, h⟩ := ob_some h
          refine dx_cVp (j := o11) (M := M_X9_keep) (Mc := M_X7_statusWith) (dc := 2) (As := [.ref (b + 6)]) (st := [.null, .ref (b + o3)]) hR dX9_keep_35 ml_X9_159 ⟨TX7, 15, rfl⟩ (sp_Run_self hs_o11) (by decide) (Nat.le_of_ble_eq_true rfl) rfl (k_X7_statusWith hR hs_o11 h14) ?_
          exact absurd h (by simp)
      | some o9 =>
        replace h := om_s q10 h
        obtain ⟨c31, h⟩ := ck_some h
        have hs_o9 := run_sp c31
        refine dx_ggS (j := 0) hR dX9_keep_24 fl_X9_49 rfl rfl q10 ?_
        refine pm_aload_n dX9_keep_27 rfl ?_
        cases q17 : (rG u 0 7) with
        | none =>
          replace h := om_n q17 h
          refine dx_ggN (j := 0) hR dX9_keep_28 fl_X9_49 rfl rfl q17 ?_
          refine pm_aload_n dX9_keep_31 rfl ?_
          refine dx_gr (j := 0) (o := 6) hR dX9_keep_32 fl_X9_19 rfl rfl ?_
          exact absurd h (by simp)
        | some o16 =>
          replace h := om_s q17 h
          obtain ⟨c30, h⟩ := ck_some h
          have hs_o16 := run_sp c30
          refine dx_ggS (j := 0) hR dX9_keep_28 fl_X9_49 rfl rfl q17 ?_
          refine pm_aload_n dX9_keep_31 rfl ?_
          refine dx_gr (j := 0) (o := 6) hR dX9_keep_32 fl_X9_19 rfl rfl ?_
          obtain ⟨r18, h19, h⟩ := ob_some h
          refine dx_cVp (j := o16) (M := M_X9_keep) (Mc := M_X7_statusWith) (dc := 2) (As := [.ref (b + 6)]) (st := [.ref (b + o9), .ref (b + o3)]) hR dX9_keep_35 ml_X9_159 ⟨TX7, 15, rfl⟩ (sp_Run_self hs_o16) (by decide) (Nat.le_of_ble_eq_true rfl) rfl (k_X7_statusWith hR hs_o16 h19) ?_
          obtain ⟨r20, h21, h⟩ := ob_some h
          refine dx_cVv (j := o3) (M := M_X9_keep) (Mc := M_X7_takeFrom) (dc := 3) (As := [.ref (b + o9), .int r18]) (st := []) hR rg_k0 dX9_keep_38 ml_X9_163 ⟨TX7, 15, rfl⟩ (sp_Run_self hs_o3) (by decide) (Nat.le_of_ble_eq_true rfl) rfl (k_X7_takeFrom hR hs_o3 hs_o9 h21) (fun w22 hR23 hk24 => ?_)
          refine pm_aload_n dX9_keep_41 rfl ?_
          refine pm_dup dX9_keep_42 rfl ?_
          refine dx_gi (j := 0) hR23 dX9_keep_43 fl_X9_45 rfl rfl ?_
          refine pm_iconst (v := 1) dX9_keep_46 (by decide) ?_
          refine pm_iadd dX9_keep_47 ?_
          obtain ⟨u25, hu26, h⟩ := lt1_ex h
          refine dx_pi (j := 0) hR23 hk24 dX9_keep_48 fl_X9_45 rfl rfl hu26 (fun w27 hR28 hk29 => ?_)
          refine pm_aload_n dX9_keep_51 rfl ?_
          refine dx_gi (j := 0) hR28 dX9_keep_52 fl_X9_45 rfl rfl ?_
          refine pm_iconst (v := 1) dX9_keep_55 (by decide) ?_
          refine pm_isub dX9_keep_56 ?_
          cases h
          exact pm_iret dX9_keep_57 rfl (Nat.le_refl _) (Nat.le_refl _) ⟨rfl, rfl, hR28, hk29⟩
def g_X9_isKept (F : Nat) (x1 : Int32) (u : rg_U) : Option Int32 :=
  if x1 < 0 then (some 0) else (if (rF u 0 6) ≤ x1 then (some 0) else (if 4 ≤ x1 then (some 0) else (some 1)))
set_option maxHeartbeats 4000000 in
set_option maxRecDepth 100000 in
theorem k_X9_isKept {gs : List String} {ro : pm_RO} {n : Nat} {w : Nat → va_E} {b : Nat} {u : rg_U} {F : Nat} {x1 : Int32} {z : Int32} (hR : rg shC b u n w) (h : g_X9_isKept F x1 u = some z) : pm_Met gs ro M_X9_isKept 0 0 0 [.ref (b + 0), .int x1] n w (pm_p n w (some (.int z))) := by
  unfold g_X9_isKept at h
  refine pm_ofX in_X9_isKept (Nat.le_of_ble_eq_true rfl) rfl (L := [some (.ref (b + 0)), some (.int x1)]) rfl ?_
  refine pm_iload_n dX9_isKept_0 rfl ?_
  refine pm_if_lt (tgt := 21) dX9_isKept_1 (by decide) (fun c1 => ?_) (fun c1 => ?_)
  · replace h := it_t c1 h
    refine pm_iconst (v := 0) dX9_isKept_21 (by decide) ?_
    cases h
    exact pm_zret dX9_isKept_22 rfl (Or.inl rfl) (Nat.le_refl _) (Nat.le_refl _) ⟨rfl, rfl, rfl⟩
  · replace h := it_f c1 h
    refine pm_iload_n dX9_isKept_4 rfl ?_
    refine pm_aload_n dX9_isKept_5 rfl ?_
    refine dx_gi (j := 0) hR dX9_isKept_6 fl_X9_45 rfl rfl ?_
    refine pm_icmp_ge (tgt := 21) dX9_isKept_9 (by decide) (fun c2 => ?_) (fun c2 => ?_)
    · replace h := it_t c2 h
      refine pm_iconst (v := 0) dX9_isKept_21 (by decide) ?_
      cases h
      exact pm_zret dX9_isKept_22 rfl (Or.inl rfl) (Nat.le_refl _) (Nat.le_refl _) ⟨rfl, rfl, rfl⟩
    · replace h := it_f c2 h
      refine pm_iload_n dX9_isKept_12 rfl ?_
      refine pm_iconst (v := 4) dX9_isKept_13 (by decide) ?_
      refine pm_icmp_ge (tgt := 21) dX9_isKept_14 (by decide) (fun c3 => ?_) (fun c3 => ?_)
      · replace h := it_t c3 h
        refine pm_iconst (v := 0) dX9_isKept_21 (by decide) ?_
        cases h
        exact pm_zret dX9_isKept_22 rfl (Or.inl rfl) (Nat.le_refl _) (Nat.le_refl _) ⟨rfl, rfl, rfl⟩
      · replace h := it_f c3 h
        refine pm_iconst (v := 1) dX9_isKept_17 (by decide) ?_
        refine pm_goto (tgt := 22) dX9_isKept_18 (by decide) ?_
        cases h
        exact pm_zret dX9_isKept_22 rfl (Or.inr rfl) (Nat.le_refl _) (Nat.le_refl _) ⟨rfl, rfl, rfl⟩
def g_X9_use (F : Nat) (x1 : Int32) (u : rg_U) : Option (Int32 × rg_U) :=
  if x1 = (-1) then (lt1 (sF u 0 8 x1) (fun u2 => some (1, u2))) else (ob (g_X9_isKept F x1 u) (fun r7 => if r7 = 0 then (some (0, u)) else (lt1 (sF u 0 8 x1) (fun u10 => some (1, u10)))))
set_option maxHeartbeats 4000000 in
set_option maxRecDepth 100000 in
theorem k_X9_use {gs : List String} {ro : pm_RO} {n : Nat} {w : Nat → va_E} {b : Nat} {u : rg_U} {F : Nat} {x1 : Int32} {z : (Int32 × rg_U)} (hR : rg shC b u n w) (h : g_X9_use F x1 u = some z) : pm_Met gs ro M_X9_use 1 0 0 [.ref (b + 0), .int x1] n w (rg_post shC b n w (some (.int z.1)) z.2) := by
  unfold g_X9_use at h
  refine pm_ofX in_X9_use (Nat.le_of_ble_eq_true rfl) rfl (L := [some (.ref (b + 0)), some (.int x1)]) rfl ?_
  refine pm_iload_n dX9_use_0 rfl ?_
  refine pm_iconst (v := (-1)) dX9_use_1 (by decide) ?_
  refine pm_icmp_eq (tgt := 15) dX9_use_2 (by decide) (fun c1 => ?_) (fun c1 => ?_)
  · replace h := it_t c1 h
    refine pm_aload_n dX9_use_15 rfl ?_
    refine pm_iload_n dX9_use_16 rfl ?_
    obtain ⟨u2, hu3, h⟩ := lt1_ex h
    refine dx_pi (j := 0) hR rg_k0 dX9_use_17 fl_X9_52 rfl rfl hu3 (fun w4 hR5 hk6 => ?_)
    refine pm_iconst (v := 1) dX9_use_20 (by decide) ?_
    cases h
    exact pm_zret dX9_use_21 rfl (Or.inr rfl) (Nat.le_refl _) (Nat.le_refl _) ⟨rfl, rfl, hR5, hk6⟩
  · replace h := it_f c1 h
    refine pm_aload_n dX9_use_5 rfl ?_
    refine pm_iload_n dX9_use_6 rfl ?_
    obtain ⟨r7, h8, h⟩ := ob_some h
    refine dx_cVp (j := 0) (M := M_X9_use) (Mc := M_X9_isKept) (dc := 0) (As := [.int x1]) (st := []) hR dX9_use_7 ml_X9_166 ⟨TX9, 14, rfl⟩ rfl (by decide) (Nat.le_of_ble_eq_true rfl) rfl (k_X9_isKept hR h8) ?_
    refine pm_if_ne (tgt := 15) dX9_use_10 (by decide) (fun c9 => ?_) (fun c9 => ?_)
    · replace h := it_f c9 h
      refine pm_aload_n dX9_use_15 rfl ?_
      refine pm_iload_n dX9_use_16 rfl ?_
      obtain ⟨u10, hu11, h⟩ := lt1_ex h
      refine dx_pi (j := 0) hR rg_k0 dX9_use_17 fl_X9_52 rfl rfl hu11 (fun w12 hR13 hk14 => ?_)
      refine pm_iconst (v := 1) dX9_use_20 (by decide) ?_
      cases h
      exact pm_zret dX9_use_21 rfl (Or.inr rfl) (Nat.le_refl _) (Nat.le_refl _) ⟨rfl, rfl, hR13, hk14⟩
    · replace h := it_t c9 h
      refine pm_iconst (v := 0) dX9_use_13 (by decide) ?_
      cases h
      exact pm_zret dX9_use_14 rfl (Or.inl rfl) (Nat.le_refl _) (Nat.le_refl _) ⟨rfl, rfl, hR, rg_k0⟩
def g_X9_numbered (F : Nat) (x1 : Int32) (u : rg_U) : Option (Option Nat) :=
  if x1 = (-1) then (om (rG u 0 7) (some none) (fun o9 => ck (isRn o9) (some (some o9)))) else (ob (g_X9_isKept F x1 u) (fun r2 => if r2 = 0 then (some none) else (ob (g_X9_roomOfKept F x1 u) (fun r5 => om r5 (some none) (fun o7 => ck (isRn o7) (some (some o7)))))))
set_option maxHeartbeats 4000000 in
set_option maxRecDepth 100000 in
theorem k_X9_numbered {gs : List String} {ro : pm_RO} {n : Nat} {w : Nat → va_E} {b : Nat} {u : rg_U} {F : Nat} {x1 : Int32} {z : (Option Nat)} (hR : rg shC b u n w) (h : g_X9_numbered F x1 u = some z) : pm_Met gs ro M_X9_numbered 1 0 0 [.ref (b + 0), .int x1] n w (pm_p n w (some (va_rf (z.map (fun k => b + k))))) := by
  unfold g_X9_numbered at h
  refine pm_ofX in_X9_numbered (Nat.le_of_ble_eq_true rfl) rfl (L := [some (.ref (b + 0)), some (.int x1)]) rfl ?_
  refine pm_iload_n dX9_numbered_0 rfl ?_
  refine pm_iconst (v := (-1)) dX9_numbered_1 (by decide) ?_
  refine pm_icmp_ne (tgt := 10) dX9_numbered_2 (by decide) (fun c1 => ?_) (fun c1 => ?_)
  · replace h := it_f c1 h
    refine pm_aload_n dX9_numbered_10 rfl ?_
    refine pm_iload_n dX9_numbered_11 rfl ?_
    obtain ⟨r2, h3, h⟩ := ob_some h
    refine dx_cVp (j := 0) (M := M_X9_numbered) (Mc := M_X9_isKept) (dc := 0) (As := [.int x1]) (st := []) hR dX9_numbered_12 ml_X9_166 ⟨TX9, 14, rfl⟩ rfl (by decide) (Nat.le_of_ble_eq_true rfl) rfl (k_X9_isKept hR h3) ?_
    refine pm_if_eq (tgt := 26) dX9_numbered_15 (by decide) (fun c4 => ?_) (fun c4 => ?_)
    · replace h := it_t c4 h
      refine pm_null dX9_numbered_26 ?_
      cases h
      exact pm_aret dX9_numbered_27 rfl (Or.inl ⟨_, rfl⟩) (Or.inl rfl) (Nat.le_refl _) (Nat.le_refl _) ⟨rfl, rfl, rfl⟩
    · replace h := it_f c4 h
      refine pm_aload_n dX9_numbered_18 rfl ?_
      refine pm_iload_n dX9_numbered_19 rfl ?_
      obtain ⟨r5, h6, h⟩ := ob_some h
      cases r5 with
      | none =>
        replace h := om_n rfl h
        refine dx_cVp (j := 0) (M := M_X9_numbered) (Mc := M_X9_roomOfKept) (dc := 0) (As := [.int x1]) (st := []) hR dX9_numbered_20 ml_X9_155 ⟨TX9, 14, rfl⟩ rfl (v := .null) (by decide) (Nat.le_of_ble_eq_true rfl) rfl (k_X9_roomOfKept hR h6) ?_
        refine pm_goto (tgt := 27) dX9_numbered_23 (by decide) ?_
        cases h
        exact pm_aret dX9_numbered_27 rfl (Or.inl ⟨_, rfl⟩) (Or.inl rfl) (Nat.le_refl _) (Nat.le_refl _) ⟨rfl, rfl, rfl⟩
      | some o7 =>
        replace h := om_s rfl h
        obtain ⟨c8, h⟩ := ck_some h
        have hs_o7 := run_sp c8
        refine dx_cVp (j := 0) (M := M_X9_numbered) (Mc := M_X9_roomOfKept) (dc := 0) (As := [.int x1]) (st := []) hR dX9_numbered_20 ml_X9_155 ⟨TX9, 14, rfl⟩ rfl (v := .ref (b + o7)) (by decide) (Nat.le_of_ble_eq_true rfl) rfl (k_X9_roomOfKept hR h6) ?_
        refine pm_goto (tgt := 27) dX9_numbered_23 (by decide) ?_
        cases h
        exact pm_aret dX9_numbered_27 rfl (Or.inl ⟨_, rfl⟩) (Or.inr ⟨_, rfl⟩) (Nat.le_refl _) (Nat.le_refl _) ⟨rfl, rfl, rfl⟩
  · replace h := it_t c1 h
    refine pm_aload_n dX9_numbered_5 rfl ?_
    cases q10 : (rG u 0 7) with
    | none =>
      replace h := om_n q10 h
      refine dx_ggN (j := 0) hR dX9_numbered_6 fl_X9_49 rfl rfl q10 ?_
      cases h
      exact pm_aret dX9_numbered_9 rfl (Or.inl ⟨_, rfl⟩) (Or.inl rfl) (Nat.le_refl _) (Nat.le_refl _) ⟨rfl, rfl, rfl⟩
    | some o9 =>
      replace h := om_s q10 h
      obtain ⟨c11, h⟩ := ck_some h
      have hs_o9 := run_sp c11
      refine dx_ggS (j := 0) hR dX9_numbered_6 fl_X9_49 rfl rfl q10 ?_
      cases h
      exact pm_aret dX9_numbered_9 rfl (Or.inl ⟨_, rfl⟩) (Or.inr ⟨_, rfl⟩) (Nat.le_refl _) (Nat.le_refl _) ⟨rfl, rfl, rfl⟩
def g_X9_at (F : Nat) (x1 : Int32) (x2 : Int32) (x3 : Int32) (u : rg_U) : Option (Int32 × rg_U) :=
  lt1 (sF u 0 13 0) (fun u1 => ob (g_X9_numbered F (rF u1 0 8) u1) (fun r6 => om r6 (some ((-1000001), u1)) (fun o8 => ck (isRn o8) (ob (g_X7_hasTime F o8 x1 u1) (fun r9 => if r9 = 0 then (some ((-1000001), u1)) else (if (g_X9_isPlace x2) = 0 then (some ((-1000001), u1)) else (if x3 < 0 then (some ((-1000001), u1)) else (if x3 ≤ 2 then (ob (g_X9_replay F o8 x1 u1) (fun r15 => ob (g_X6_putBy F (o8 + 12) x1 x2 r15) (fun r20 => if x3 = 0 then (ob (g_X6_sortOf F (o8 + 12) r20 r15) (fun r23 => some (r23, r15))) else if x3 = 1 then (ob (g_X6_numberOf F (o8 + 12) r20 r15) (fun r26 => some (r26, r15))) else (ob (g_X6_changesOf F (o8 + 12) r20 r15) (fun r28 => some (r28, r15)))))) else (some ((-1000001), u1))))))))))
set_option maxHeartbeats 4000000 in
set_option maxRecDepth 100000 in
theorem k_X9_at {gs : List String} {ro : pm_RO} {n : Nat} {w : Nat → va_E} {b : Nat} {u : rg_U} {F : Nat} {x1 : Int32} {x2 : Int32} {x3 : Int32} {z : (Int32 × rg_U)} (hR : rg shC b u n w) (h : g_X9_at F x1 x2 x3 u = some z) : pm_Met gs ro M_X9_at 4 0 0 [.ref (b + 0), .int x1, .int x2, .int x3] n w (rg_post shC b n w (some (.int z.1)) z.2) := by
  unfold g_X9_at at h
  refine pm_ofX in_X9_at (Nat.le_of_ble_eq_true rfl) rfl (L := [some (.ref (b + 0)), some (.int x1), some (.int x2), some (.int x3), none, none]) rfl ?_
  refine pm_aload_n dX9_at_0 rfl ?_
  refine pm_iconst (v := 0) dX9_at_1 (by decide) ?_
  obtain ⟨u1, hu2, h⟩ := lt1_ex h
  refine dx_pi (j := 0) hR rg_k0 dX9_at_2 fl_X9_67 rfl rfl hu2 (fun w3 hR4 hk5 => ?_)
  refine pm_aload_n dX9_at_5 rfl ?_
  refine pm_aload_n dX9_at_6 rfl ?_
  refine dx_gi (j := 0) hR4 dX9_at_7 fl_X9_52 rfl rfl ?_
  obtain ⟨r6, h7, h⟩ := ob_some h
  cases r6 with
  | none =>
    replace h := om_n rfl h
    refine dx_cVp (j := 0) (M := M_X9_at) (Mc := M_X9_numbered) (dc := 1) (As := [.int (rF u1 0 8)]) (st := []) hR4 dX9_at_10 ml_X9_169 ⟨TX9, 14, rfl⟩ rfl (v := .null) (by decide) (Nat.le_of_ble_eq_true rfl) rfl (k_X9_numbered hR4 h7) ?_
    refine pm_astoreN dX9_at_13 (by decide) rfl rfl ?_
    refine pm_aloadN dX9_at_15 rfl ?_
    refine pm_ifnullN (x := 0) (tgt := 45) dX9_at_17 (by decide) ?_
    refine pm_ldc (v := (-1000001)) dX9_at_45 kc_X9_175 ?_
    cases h
    exact pm_iret dX9_at_47 rfl (Nat.le_refl _) (Nat.le_refl _) ⟨rfl, rfl, hR4, hk5⟩
  | some o8 =>
    replace h := om_s rfl h
    obtain ⟨c30, h⟩ := ck_some h
    have hs_o8 := run_sp c30
    refine dx_cVp (j := 0) (M := M_X9_at) (Mc := M_X9_numbered) (dc := 1) (As := [.int (rF u1 0 8)]) (st := []) hR4 dX9_at_10 ml_X9_169 ⟨TX9, 14, rfl⟩ rfl (v := .ref (b + o8)) (by decide) (Nat.le_of_ble_eq_true rfl) rfl (k_X9_numbered hR4 h7) ?_
    refine pm_astore dX9_at_13 (by decide) rfl rfl ?_
    refine pm_aload dX9_at_15 rfl ?_
    refine pm_ifnull dX9_at_17 ?_
    refine pm_aload dX9_at_20 rfl ?_
    refine pm_iload_n dX9_at_22 rfl ?_
    obtain ⟨r9, h10, h⟩ := ob_some h
    refine dx_cVp (j := o8) (M := M_X9_at) (Mc := M_X7_hasTime) (dc := 0) (As := [.int x1]) (st := []) hR4 dX9_at_23 ml_X9_172 ⟨TX7, 15, rfl⟩ (sp_Run_self hs_o8) (by decide) (Nat.le_of_ble_eq_true rfl) rfl (k_X7_hasTime hR4 hs_o8 h10) ?_
    refine pm_if_eq (tgt := 45) dX9_at_26 (by decide) (fun c11 => ?_) (fun c11 => ?_)
    · replace h := it_t c11 h
      refine pm_ldc (v := (-1000001)) dX9_at_45 kc_X9_175 ?_
      cases h
      exact pm_iret dX9_at_47 rfl (Nat.le_refl _) (Nat.le_refl _) ⟨rfl, rfl, hR4, hk5⟩
    · replace h := it_f c11 h
      refine pm_iload_n dX9_at_29 rfl ?_
      refine dx_cSp (M := M_X9_at) (Mc := M_X9_isPlace) (dc := 0) (As := [.int x2]) (st := []) dX9_at_30 ml_X9_119 (by decide) (Nat.le_of_ble_eq_true rfl) rfl (k_X9_isPlace rfl) ?_
      refine pm_if_eq (tgt := 45) dX9_at_33 (by decide) (fun c12 => ?_) (fun c12 => ?_)
      · replace h := it_t c12 h
        refine pm_ldc (v := (-1000001)) dX9_at_45 kc_X9_175 ?_
        cases h
        exact pm_iret dX9_at_47 rfl (Nat.le_refl _) (Nat.le_refl _) ⟨rfl, rfl, hR4, hk5⟩
      · replace h := it_f c12 h
        refine pm_iload_n dX9_at_36 rfl ?_
        refine pm_if_lt (tgt := 45) dX9_at_37 (by decide) (fun c13 => ?_) (fun c13 => ?_)
        · replace h := it_t c13 h
          refine pm_ldc (v := (-1000001)) dX9_at_45 kc_X9_175 ?_
          cases h
          exact pm_iret dX9_at_47 rfl (Nat.le_refl _) (Nat.le_refl _) ⟨rfl, rfl, hR4, hk5⟩
        · replace h := it_f c13 h
          refine pm_iload_n dX9_at_40 rfl ?_
          refine pm_iconst (v := 2) dX9_at_41 (by decide) ?_
          refine pm_icmp_le (tgt := 48) dX9_at_42 (by decide) (fun c14 => ?_) (fun c14 => ?_)
          · replace h := it_t c14 h
            refine pm_aload_n dX9_at_48 rfl ?_
            refine pm_aload dX9_at_49 rfl ?_
            refine pm_iload_n dX9_at_51 rfl ?_
            obtain ⟨r15, h16, h⟩ := ob_some h
            refine dx_cVv (j := 0) (M := M_X9_at) (Mc := M_X9_replay) (dc := 3) (As := [.ref (b + o8), .int x1]) (st := []) hR4 hk5 dX9_at_52 ml_X9_147 ⟨TX9, 14, rfl⟩ rfl (by decide) (Nat.le_of_ble_eq_true rfl) rfl (k_X9_replay hR4 hs_o8 h16) (fun w17 hR18 hk19 => ?_)
            refine pm_aload dX9_at_55 rfl ?_
            refine dx_gr (j := o8) (o := (o8 + 12)) hR18 dX9_at_57 fl_X9_176 (sp_Run_self hs_o8) rfl ?_
            refine pm_iload_n dX9_at_60 rfl ?_
            refine pm_iload_n dX9_at_61 rfl ?_
            obtain ⟨r20, h21, h⟩ := ob_some h
            refine dx_cVp (j := (o8 + 12)) (M := M_X9_at) (Mc := M_X6_putBy) (dc := 2) (As := [.int x1, .int x2]) (st := []) hR18 dX9_at_62 ml_X9_180 ⟨TX6, 12, rfl⟩ (sp_Puts_self (sp_Run_puts hs_o8)) (by decide) (Nat.le_of_ble_eq_true rfl) rfl (k_X6_putBy hR18 (sp_Run_puts hs_o8) h21) ?_
            refine pm_istore dX9_at_65 (by decide) rfl rfl ?_
            refine pm_iload_n dX9_at_67 rfl ?_
            by_cases t22 : x3 = 0
            · replace h := it_t t22 h
              refine pm_lookup (off := 28) (tgt := 96) dX9_at_68 (by decide) (by rw [t22]; decide) (by decide) ?_
              refine pm_aload dX9_at_96 rfl ?_
              refine dx_gr (j := o8) (o := (o8 + 12)) hR18 dX9_at_98 fl_X9_176 (sp_Run_self hs_o8) rfl ?_
              refine pm_iload dX9_at_101 rfl ?_
              obtain ⟨r23, h24, h⟩ := ob_some h
              refine dx_cVp (j := (o8 + 12)) (M := M_X9_at) (Mc := M_X6_sortOf) (dc := 0) (As := [.int r20]) (st := []) hR18 dX9_at_103 ml_X9_186 ⟨TX6, 12, rfl⟩ (sp_Puts_self (sp_Run_puts hs_o8)) (by decide) (Nat.le_of_ble_eq_true rfl) rfl (k_X6_sortOf hR18 (sp_Run_puts hs_o8) h24) ?_
              cases h
              exact pm_iret dX9_at_106 rfl (Nat.le_refl _) (Nat.le_refl _) ⟨rfl, rfl, hR18, hk19⟩
            replace h := it_f t22 h
            by_cases t25 : x3 = 1
            · replace h := it_t t25 h
              refine pm_lookup (off := 39) (tgt := 107) dX9_at_68 (by decide) (by rw [t25]; decide) (by decide) ?_
              refine pm_aload dX9_at_107 rfl ?_
              refine dx_gr (j := o8) (o := (o8 + 12)) hR18 dX9_at_109 fl_X9_176 (sp_Run_self hs_o8) rfl ?_
              refine pm_iload dX9_at_112 rfl ?_
              obtain ⟨r26, h27, h⟩ := ob_some h
              refine dx_cVp (j := (o8 + 12)) (M := M_X9_at) (Mc := M_X6_numberOf) (dc := 0) (As := [.int r20]) (st := []) hR18 dX9_at_114 ml_X9_190 ⟨TX6, 12, rfl⟩ (sp_Puts_self (sp_Run_puts hs_o8)) (by decide) (Nat.le_of_ble_eq_true rfl) rfl (k_X6_numberOf hR18 (sp_Run_puts hs_o8) h27) ?_
              cases h
              exact pm_iret dX9_at_117 rfl (Nat.le_refl _) (Nat.le_refl _) ⟨rfl, rfl, hR18, hk19⟩
            replace h := it_f t25 h
            refine pm_lookup (off := 50) (tgt := 118) dX9_at_68 (by decide) (by have h0 := lv_neT t22 (show (0 : Int32).toInt = 0 from by decide); have h1 := lv_neT t25 (show (1 : Int32).toInt = 1 from by decide); simp [Op.lookupswitch.offset, h0, Ne.symm h0, h1, Ne.symm h1]; try omega) (by decide) ?_
            refine pm_aload dX9_at_118 rfl ?_
            refine dx_gr (j := o8) (o := (o8 + 12)) hR18 dX9_at_120 fl_X9_176 (sp_Run_self hs_o8) rfl ?_
            refine pm_iload dX9_at_123 rfl ?_
            obtain ⟨r28, h29, h⟩ := ob_some h
            refine dx_cVp (j := (o8 + 12)) (M := M_X9_at) (Mc := M_X6_changesOf) (dc := 1) (As := [.int r20]) (st := []) hR18 dX9_at_125 ml_X9_193 ⟨TX6, 12, rfl⟩ (sp_Puts_self (sp_Run_puts hs_o8)) (by decide) (Nat.le_of_ble_eq_true rfl) rfl (k_X6_changesOf hR18 (sp_Run_puts hs_o8) h29) ?_
            cases h
            exact pm_iret dX9_at_128 rfl (Nat.le_refl _) (Nat.le_refl _) ⟨rfl, rfl, hR18, hk19⟩
          · replace h := it_f c14 h
            refine pm_ldc (v := (-1000001)) dX9_at_45 kc_X9_175 ?_
            cases h
            exact pm_iret dX9_at_47 rfl (Nat.le_refl _) (Nat.le_refl _) ⟨rfl, rfl, hR4, hk5⟩
def g_X9_isStateWhat_j9 (l0 : Int32) : Int32 :=
  if l0 < 10 then (0) else (if 18 ≤ l0 then (0) else (1))
theorem g_X9_isStateWhat_j9_b {l0 : Int32} : g_X9_isStateWhat_j9 l0 = 0 ∨ g_X9_isStateWhat_j9 l0 = 1 := by
  unfold g_X9_isStateWhat_j9
  repeat' (first | exact Or.inl rfl | exact Or.inr rfl | refine it_b ?_ ?_)
set_option maxHeartbeats 4000000 in
set_option maxRecDepth 100000 in
theorem k_X9_isStateWhat_j9 {gs : List String} {ro : pm_RO} {n : Nat} {w : Nat → va_E} {l0 : Int32} {z : Int32} (h : g_X9_isStateWhat_j9 l0 = z) : pm_X gs ro M_X9_isStateWhat 0 0 0 0 0 9 [some (.int l0)] [] n w (pm_p n w (some (.int z))) := by
  unfold g_X9_isStateWhat_j9 at h
  refine pm_iload_n dX9_isStateWhat_9 rfl ?_
  refine pm_bipush (v := 10) dX9_isStateWhat_10 (by decide) ?_
  refine pm_icmp_lt (tgt := 25) dX9_isStateWhat_12 (by decide) (fun c2 => ?_) (fun c2 => ?_)
  · replace h := it_t c2 h
    refine pm_iconst (v := 0) dX9_isStateWhat_25 (by decide) ?_
    subst h
    exact pm_zret dX9_isStateWhat_26 rfl (Or.inl rfl) (Nat.le_refl _) (Nat.le_refl _) ⟨rfl, rfl, rfl⟩
  · replace h := it_f c2 h
    refine pm_iload_n dX9_isStateWhat_15 rfl ?_
    refine pm_bipush (v := 18) dX9_isStateWhat_16 (by decide) ?_
    refine pm_icmp_ge (tgt := 25) dX9_isStateWhat_18 (by decide) (fun c3 => ?_) (fun c3 => ?_)
    · replace h := it_t c3 h
      refine pm_iconst (v := 0) dX9_isStateWhat_25 (by decide) ?_
      subst h
      exact pm_zret dX9_isStateWhat_26 rfl (Or.inl rfl) (Nat.le_refl _) (Nat.le_refl _) ⟨rfl, rfl, rfl⟩
    · replace h := it_f c3 h
      refine pm_iconst (v := 1) dX9_isStateWhat_21 (by decide) ?_
      refine pm_goto (tgt := 26) dX9_isStateWhat_22 (by decide) ?_
      subst h
      exact pm_zret dX9_isStateWhat_26 rfl (Or.inr rfl) (Nat.le_refl _) (Nat.le_refl _) ⟨rfl, rfl, rfl⟩
def g_X9_isStateWhat (x0 : Int32) : Int32 :=
  if x0 < 0 then (g_X9_isStateWhat_j9 x0) else (if x0 ≤ 4 then (1) else (g_X9_isStateWhat_j9 x0))
theorem g_X9_isStateWhat_b {x0 : Int32} : g_X9_isStateWhat x0 = 0 ∨ g_X9_isStateWhat x0 = 1 := by
  unfold g_X9_isStateWhat
  repeat' (first | exact Or.inl rfl | exact Or.inr rfl | exact g_X9_isStateWhat_j9_b | refine it_b ?_ ?_)
set_option maxHeartbeats 4000000 in
set_option maxRecDepth 100000 in
theorem k_X9_isStateWhat {gs : List String} {ro : pm_RO} {n : Nat} {w : Nat → va_E} {x0 : Int32} {z : Int32} (h : g_X9_isStateWhat x0 = z) : pm_Met gs ro M_X9_isStateWhat 0 0 0 [.int x0] n w (pm_p n w (some (.int z))) := by
  unfold g_X9_isStateWhat at h
  refine pm_ofX in_X9_isStateWhat (Nat.le_of_ble_eq_true rfl) rfl (L := [some (.int x0)]) rfl ?_
  refine pm_iload_n dX9_isStateWhat_0 rfl ?_
  refine pm_if_lt (tgt := 9) dX9_isStateWhat_1 (by decide) (fun c1 => ?_) (fun c1 => ?_)
  · replace h := it_t c1 h
    exact k_X9_isStateWhat_j9 h
  · replace h := it_f c1 h
    refine pm_iload_n dX9_isStateWhat_4 rfl ?_
    refine pm_iconst (v := 4) dX9_isStateWhat_5 (by decide) ?_
    refine pm_icmp_le (tgt := 21) dX9_isStateWhat_6 (by decide) (fun c4 => ?_) (fun c4 => ?_)
    · replace h := it_t c4 h
      refine pm_iconst (v := 1) dX9_isStateWhat_21 (by decide) ?_
      refine pm_goto (tgt := 26) dX9_isStateWhat_22 (by decide) ?_
      subst h
      exact pm_zret dX9_isStateWhat_26 rfl (Or.inr rfl) (Nat.le_refl _) (Nat.le_refl _) ⟨rfl, rfl, rfl⟩
    · replace h := it_f c4 h
      exact k_X9_isStateWhat_j9 h
def g_X9_state (F : Nat) (x1 : Int32) (x2 : Int32) (u : rg_U) : Option (Int32 × rg_U) :=
  lt1 (sF u 0 13 0) (fun u1 => ob (g_X9_numbered F (rF u1 0 8) u1) (fun r6 => om r6 (some ((-1000001), u1)) (fun o8 => ck (isRn o8) (ob (g_X7_hasTime F o8 x1 u1) (fun r9 => if r9 = 0 then (some ((-1000001), u1)) else (if (g_X9_isStateWhat x2) = 0 then (some ((-1000001), u1)) else (ob (g_X9_replay F o8 x1 u1) (fun r13 => if x2 = 0 then (ob (g_X7_counterAt F o8 x1 r13) (fun r19 => some (r19, r13))) else if x2 = 1 then (ob (g_X7_stackSizeAt F o8 x1 r13) (fun r22 => some (r22, r13))) else if x2 = 2 then (ob (g_X7_outsAt F o8 x1 r13) (fun r25 => some (r25, r13))) else if x2 = 3 then (ob (g_X7_checkAt F o8 x1 r13) (fun r28 => some (r28, r13))) else if x2 = 4 then (ob (g_X7_counterAt F o8 x1 r13) (fun r31 => ob (g_X5_kindAt F (o8 + 1) r31 r13) (fun r33 => some (r33, r13)))) else (ob (g_X7_stackedAt F o8 x1 (x2 - 10) r13) (fun r35 => some (r35, r13)))))))))))
set_option maxHeartbeats 4000000 in
set_option maxRecDepth 100000 in
theorem k_X9_state {gs : List String} {ro : pm_RO} {n : Nat} {w : Nat → va_E} {b : Nat} {u : rg_U} {F : Nat} {x1 : Int32} {x2 : Int32} {z : (Int32 × rg_U)} (hR : rg shC b u n w) (h : g_X9_state F x1 x2 u = some z) : pm_Met gs ro M_X9_state 4 0 0 [.ref (b + 0), .int x1, .int x2] n w (rg_post shC b n w (some (.int z.1)) z.2) := by
  unfold g_X9_state at h
  refine pm_ofX in_X9_state (Nat.le_of_ble_eq_true rfl) rfl (L := [some (.ref (b + 0)), some (.int x1), some (.int x2), none]) rfl ?_
  refine pm_aload_n dX9_state_0 rfl ?_
  refine pm_iconst (v := 0) dX9_state_1 (by decide) ?_
  obtain ⟨u1, hu2, h⟩ := lt1_ex h
  refine dx_pi (j := 0) hR rg_k0 dX9_state_2 fl_X9_67 rfl rfl hu2 (fun w3 hR4 hk5 => ?_)
  refine pm_aload_n dX9_state_5 rfl ?_
  refine pm_aload_n dX9_state_6 rfl ?_
  refine dx_gi (j := 0) hR4 dX9_state_7 fl_X9_52 rfl rfl ?_
  obtain ⟨r6, h7, h⟩ := ob_some h
  cases r6 with
  | none =>
    replace h := om_n rfl h
    refine dx_cVp (j := 0) (M := M_X9_state) (Mc := M_X9_numbered) (dc := 1) (As := [.int (rF u1 0 8)]) (st := []) hR4 dX9_state_10 ml_X9_169 ⟨TX9, 14, rfl⟩ rfl (v := .null) (by decide) (Nat.le_of_ble_eq_true rfl) rfl (k_X9_numbered hR4 h7) ?_
    refine pm_astore_nN dX9_state_13 (by decide) rfl rfl ?_
    refine pm_aload_nN dX9_state_14 rfl ?_
    refine pm_ifnullN (x := 0) (tgt := 33) dX9_state_15 (by decide) ?_
    refine pm_ldc (v := (-1000001)) dX9_state_33 kc_X9_175 ?_
    cases h
    exact pm_iret dX9_state_35 rfl (Nat.le_refl _) (Nat.le_refl _) ⟨rfl, rfl, hR4, hk5⟩
  | some o8 =>
    replace h := om_s rfl h
    obtain ⟨c37, h⟩ := ck_some h
    have hs_o8 := run_sp c37
    refine dx_cVp (j := 0) (M := M_X9_state) (Mc := M_X9_numbered) (dc := 1) (As := [.int (rF u1 0 8)]) (st := []) hR4 dX9_state_10 ml_X9_169 ⟨TX9, 14, rfl⟩ rfl (v := .ref (b + o8)) (by decide) (Nat.le_of_ble_eq_true rfl) rfl (k_X9_numbered hR4 h7) ?_
    refine pm_astore_n dX9_state_13 (by decide) rfl rfl ?_
    refine pm_aload_n dX9_state_14 rfl ?_
    refine pm_ifnull dX9_state_15 ?_
    refine pm_aload_n dX9_state_18 rfl ?_
    refine pm_iload_n dX9_state_19 rfl ?_
    obtain ⟨r9, h10, h⟩ := ob_some h
    refine dx_cVp (j := o8) (M := M_X9_state) (Mc := M_X7_hasTime) (dc := 0) (As := [.int x1]) (st := []) hR4 dX9_state_20 ml_X9_172 ⟨TX7, 15, rfl⟩ (sp_Run_self hs_o8) (by decide) (Nat.le_of_ble_eq_true rfl) rfl (k_X7_hasTime hR4 hs_o8 h10) ?_
    refine pm_if_eq (tgt := 33) dX9_state_23 (by decide) (fun c11 => ?_) (fun c11 => ?_)
    · replace h := it_t c11 h
      refine pm_ldc (v := (-1000001)) dX9_state_33 kc_X9_175 ?_
      cases h
      exact pm_iret dX9_state_35 rfl (Nat.le_refl _) (Nat.le_refl _) ⟨rfl, rfl, hR4, hk5⟩
    · replace h := it_f c11 h
      refine pm_iload_n dX9_state_26 rfl ?_
      refine dx_cSp (M := M_X9_state) (Mc := M_X9_isStateWhat) (dc := 0) (As := [.int x2]) (st := []) dX9_state_27 ml_X9_196 (by decide) (Nat.le_of_ble_eq_true rfl) rfl (k_X9_isStateWhat rfl) ?_
      refine pm_if_ne (tgt := 36) dX9_state_30 (by decide) (fun c12 => ?_) (fun c12 => ?_)
      · replace h := it_f c12 h
        refine pm_aload_n dX9_state_36 rfl ?_
        refine pm_aload_n dX9_state_37 rfl ?_
        refine pm_iload_n dX9_state_38 rfl ?_
        obtain ⟨r13, h14, h⟩ := ob_some h
        refine dx_cVv (j := 0) (M := M_X9_state) (Mc := M_X9_replay) (dc := 3) (As := [.ref (b + o8), .int x1]) (st := []) hR4 hk5 dX9_state_39 ml_X9_147 ⟨TX9, 14, rfl⟩ rfl (by decide) (Nat.le_of_ble_eq_true rfl) rfl (k_X9_replay hR4 hs_o8 h14) (fun w15 hR16 hk17 => ?_)
        refine pm_iload_n dX9_state_42 rfl ?_
        by_cases t18 : x2 = 0
        · replace h := it_t t18 h
          refine pm_tableIn (off := 33) (tgt := 76) dX9_state_43 (by rw [t18]; decide) (by rw [t18]; decide) (by rw [t18]; rfl) (by decide) ?_
          refine pm_aload_n dX9_state_76 rfl ?_
          refine pm_iload_n dX9_state_77 rfl ?_
          obtain ⟨r19, h20, h⟩ := ob_some h
          refine dx_cVp (j := o8) (M := M_X9_state) (Mc := M_X7_counterAt) (dc := 1) (As := [.int x1]) (st := []) hR16 dX9_state_78 ml_X9_199 ⟨TX7, 15, rfl⟩ (sp_Run_self hs_o8) (by decide) (Nat.le_of_ble_eq_true rfl) rfl (k_X7_counterAt hR16 hs_o8 h20) ?_
          cases h
          exact pm_iret dX9_state_81 rfl (Nat.le_refl _) (Nat.le_refl _) ⟨rfl, rfl, hR16, hk17⟩
        replace h := it_f t18 h
        by_cases t21 : x2 = 1
        · replace h := it_t t21 h
          refine pm_tableIn (off := 39) (tgt := 82) dX9_state_43 (by rw [t21]; decide) (by rw [t21]; decide) (by rw [t21]; rfl) (by decide) ?_
          refine pm_aload_n dX9_state_82 rfl ?_
          refine pm_iload_n dX9_state_83 rfl ?_
          obtain ⟨r22, h23, h⟩ := ob_some h
          refine dx_cVp (j := o8) (M := M_X9_state) (Mc := M_X7_stackSizeAt) (dc := 2) (As := [.int x1]) (st := []) hR16 dX9_state_84 ml_X9_202 ⟨TX7, 15, rfl⟩ (sp_Run_self hs_o8) (by decide) (Nat.le_of_ble_eq_true rfl) rfl (k_X7_stackSizeAt hR16 hs_o8 h23) ?_
          cases h
          exact pm_iret dX9_state_87 rfl (Nat.le_refl _) (Nat.le_refl _) ⟨rfl, rfl, hR16, hk17⟩
        replace h := it_f t21 h
        by_cases t24 : x2 = 2
        · replace h := it_t t24 h
          refine pm_tableIn (off := 45) (tgt := 88) dX9_state_43 (by rw [t24]; decide) (by rw [t24]; decide) (by rw [t24]; rfl) (by decide) ?_
          refine pm_aload_n dX9_state_88 rfl ?_
          refine pm_iload_n dX9_state_89 rfl ?_
          obtain ⟨r25, h26, h⟩ := ob_some h
          refine dx_cVp (j := o8) (M := M_X9_state) (Mc := M_X7_outsAt) (dc := 1) (As := [.int x1]) (st := []) hR16 dX9_state_90 ml_X9_205 ⟨TX7, 15, rfl⟩ (sp_Run_self hs_o8) (by decide) (Nat.le_of_ble_eq_true rfl) rfl (k_X7_outsAt hR16 hs_o8 h26) ?_
          cases h
          exact pm_iret dX9_state_93 rfl (Nat.le_refl _) (Nat.le_refl _) ⟨rfl, rfl, hR16, hk17⟩
        replace h := it_f t24 h
        by_cases t27 : x2 = 3
        · replace h := it_t t27 h
          refine pm_tableIn (off := 51) (tgt := 94) dX9_state_43 (by rw [t27]; decide) (by rw [t27]; decide) (by rw [t27]; rfl) (by decide) ?_
          refine pm_aload_n dX9_state_94 rfl ?_
          refine pm_iload_n dX9_state_95 rfl ?_
          obtain ⟨r28, h29, h⟩ := ob_some h
          refine dx_cVp (j := o8) (M := M_X9_state) (Mc := M_X7_checkAt) (dc := 1) (As := [.int x1]) (st := []) hR16 dX9_state_96 ml_X9_208 ⟨TX7, 15, rfl⟩ (sp_Run_self hs_o8) (by decide) (Nat.le_of_ble_eq_true rfl) rfl (k_X7_checkAt hR16 hs_o8 h29) ?_
          cases h
          exact pm_iret dX9_state_99 rfl (Nat.le_refl _) (Nat.le_refl _) ⟨rfl, rfl, hR16, hk17⟩
        replace h := it_f t27 h
        by_cases t30 : x2 = 4
        · replace h := it_t t30 h
          refine pm_tableIn (off := 57) (tgt := 100) dX9_state_43 (by rw [t30]; decide) (by rw [t30]; decide) (by rw [t30]; rfl) (by decide) ?_
          refine pm_aload_n dX9_state_100 rfl ?_
          refine dx_gr (j := o8) (o := (o8 + 1)) hR16 dX9_state_101 fl_X9_211 (sp_Run_self hs_o8) rfl ?_
          refine pm_aload_n dX9_state_104 rfl ?_
          refine pm_iload_n dX9_state_105 rfl ?_
          obtain ⟨r31, h32, h⟩ := ob_some h
          refine dx_cVp (j := o8) (M := M_X9_state) (Mc := M_X7_counterAt) (dc := 1) (As := [.int x1]) (st := [.ref (b + (o8 + 1))]) hR16 dX9_state_106 ml_X9_199 ⟨TX7, 15, rfl⟩ (sp_Run_self hs_o8) (by decide) (Nat.le_of_ble_eq_true rfl) rfl (k_X7_counterAt hR16 hs_o8 h32) ?_
          obtain ⟨r33, h34, h⟩ := ob_some h
          refine dx_cVp (j := (o8 + 1)) (M := M_X9_state) (Mc := M_X5_kindAt) (dc := 1) (As := [.int r31]) (st := []) hR16 dX9_state_109 ml_X9_212 ⟨TX5, 4, rfl⟩ (sp_Program_self (sp_Run_program hs_o8)) (by decide) (Nat.le_of_ble_eq_true rfl) rfl (k_X5_kindAt hR16 (sp_Run_program hs_o8) h34) ?_
          cases h
          exact pm_iret dX9_state_112 rfl (Nat.le_refl _) (Nat.le_refl _) ⟨rfl, rfl, hR16, hk17⟩
        replace h := it_f t30 h
        refine pm_tableOut (tgt := 113) dX9_state_43 (by have h0 := lv_neT t18 (show (0 : Int32).toInt = 0 from by decide); have h1 := lv_neT t21 (show (1 : Int32).toInt = 1 from by decide); have h2 := lv_neT t24 (show (2 : Int32).toInt = 2 from by decide); have h3 := lv_neT t27 (show (3 : Int32).toInt = 3 from by decide); have h4 := lv_neT t30 (show (4 : Int32).toInt = 4 from by decide); omega) (by decide) ?_
        refine pm_aload_n dX9_state_113 rfl ?_
        refine pm_iload_n dX9_state_114 rfl ?_
        refine pm_iload_n dX9_state_115 rfl ?_
        refine pm_bipush (v := 10) dX9_state_116 (by decide) ?_
        refine pm_isub dX9_state_118 ?_
        obtain ⟨r35, h36, h⟩ := ob_some h
        refine dx_cVp (j := o8) (M := M_X9_state) (Mc := M_X7_stackedAt) (dc := 3) (As := [.int x1, .int (x2 - 10)]) (st := []) hR16 dX9_state_119 ml_X9_215 ⟨TX7, 15, rfl⟩ (sp_Run_self hs_o8) (by decide) (Nat.le_of_ble_eq_true rfl) rfl (k_X7_stackedAt hR16 hs_o8 h36) ?_
        cases h
        exact pm_iret dX9_state_122 rfl (Nat.le_refl _) (Nat.le_refl _) ⟨rfl, rfl, hR16, hk17⟩
      · replace h := it_t c12 h
        refine pm_ldc (v := (-1000001)) dX9_state_33 kc_X9_175 ?_
        cases h
        exact pm_iret dX9_state_35 rfl (Nat.le_refl _) (Nat.le_refl _) ⟨rfl, rfl, hR4, hk5⟩
def g_X9_lastChange_j91 (F : Nat) (o1 : Nat) (l5 : Int32) (l6 : Int32) (l7 : Int32) (u : rg_U) : Option ((Int32 × Int32 × rg_U) ⊕ (Int32 × rg_U)) :=
  some (.inl (l6, l7, u))
set_option maxHeartbeats 4000000 in
set_option maxRecDepth 100000 in
theorem k_X9_lastChange_j91 {gs : List String} {ro : pm_RO} {n : Nat} {w w1 : Nat → va_E} {b : Nat} {u : rg_U} {F : Nat} {o1 : Nat} {l5 : Int32} {l6 : Int32} {l7 : Int32} {z : ((Int32 × Int32 × rg_U) ⊕ (Int32 × rg_U))} {Q : Option Value → Nat → (Nat → va_E) → Prop} (hR : rg shC b u n w1) (hk : rg_k b shC.length w w1) (hs1 : sp_Run o1) (h : g_X9_lastChange_j91 F o1 l5 l6 l7 u = some z) (hc : ∀ s', z = .inl s' → ∀ w1, rg shC b s'.2.2 n w1 → rg_k b shC.length w w1 → pm_X gs ro M_X9_lastChange 4 0 0 0 0 48 [some (.ref (b + 0)), some (.ref (b + o1)), none, none, none, some (.int l5), some (.int s'.1), some (.int s'.2.1), none] [] n w1 Q) (he0 : ∀ r', z = .inr r' → ∀ w1, rg shC b r'.2 n w1 → rg_k b shC.length w w1 → pm_X gs ro M_X9_lastChange 4 0 0 0 0 94 [none, none, none, none, none, none, some (.int r'.1), none, none] [] n w1 Q) : pm_X gs ro M_X9_lastChange 4 0 0 0 0 91 [some (.ref (b + 0)), some (.ref (b + o1)), none, none, none, some (.int l5), some (.int l6), some (.int l7), none] [] n w1 Q := by
  unfold g_X9_lastChange_j91 at h
  refine pm_goto (tgt := 48) dX9_lastChange_91 (by decide) ?_
  refine pm_lw (L' := [some (.ref (b + 0)), some (.ref (b + o1)), none, none, none, some (.int l5), some (.int l6), some (.int l7), none]) ⟨Or.inr rfl, Or.inr rfl, Or.inl rfl, Or.inl rfl, Or.inl rfl, Or.inr rfl, Or.inr rfl, Or.inr rfl, Or.inl rfl, trivial⟩ ?_
  exact hc _ (Option.some.inj h).symm _ hR hk
def g_X9_lastChange_l48 (F : Nat) (o1 : Nat) (l5 : Int32) (l6 : Int32) (l7 : Int32) (u : rg_U) : Option ((Int32 × Int32 × rg_U) ⊕ (Int32 × rg_U)) :=
  if l7 ≤ l6 then (some (.inr (l6, u))) else (ob (g_X9_replay F o1 ((l6 + l7) / 2) u) (fun r14 => if ((l6 + l7) / 2) < l5 then (g_X9_lastChange_j91 F o1 l5 (((l6 + l7) / 2) + 1) l7 r14) else (g_X9_lastChange_j91 F o1 l5 l6 ((l6 + l7) / 2) r14)))
set_option maxHeartbeats 4000000 in
set_option maxRecDepth 100000 in
theorem k_X9_lastChange_l48 {gs : List String} {ro : pm_RO} {n : Nat} {w w1 : Nat → va_E} {b : Nat} {u : rg_U} {F : Nat} {o1 : Nat} {l5 : Int32} {l6 : Int32} {l7 : Int32} {z : (Int32 × Int32 × rg_U) ⊕ (Int32 × rg_U)} {Q : Option Value → Nat → (Nat → va_E) → Prop} (hR : rg shC b u n w1) (hk : rg_k b shC.length w w1) (hs1 : sp_Run o1) (h : g_X9_lastChange_l48 F o1 l5 l6 l7 u = some z) (hc : ∀ s', z = .inl s' → ∀ w1, rg shC b s'.2.2 n w1 → rg_k b shC.length w w1 → pm_X gs ro M_X9_lastChange 4 0 0 0 0 48 [some (.ref (b + 0)), some (.ref (b + o1)), none, none, none, some (.int l5), some (.int s'.1), some (.int s'.2.1), none] [] n w1 Q) (he0 : ∀ r', z = .inr r' → ∀ w1, rg shC b r'.2 n w1 → rg_k b shC.length w w1 → pm_X gs ro M_X9_lastChange 4 0 0 0 0 94 [none, none, none, none, none, none, some (.int r'.1), none, none] [] n w1 Q) : pm_X gs ro M_X9_lastChange 4 0 0 0 0 48 [some (.ref (b + 0)), some (.ref (b + o1)), none, none, none, some (.int l5), some (.int l6), some (.int l7), none] [] n w1 Q := by
  unfold g_X9_lastChange_l48 at h
  refine pm_iload dX9_lastChange_48 rfl ?_
  refine pm_iload dX9_lastChange_50 rfl ?_
  refine pm_icmp_ge (tgt := 94) dX9_lastChange_52 (by decide) (fun c13 => ?_) (fun c13 => ?_)
  · replace h := it_t c13 h
    refine pm_lw (L' := [none, none, none, none, none, none, some (.int l6), none, none]) ⟨Or.inl rfl, Or.inl rfl, Or.inl rfl, Or.inl rfl, Or.inl rfl, Or.inl rfl, Or.inr rfl, Or.inl rfl, Or.inl rfl, trivial⟩ ?_
    exact he0 _ (Option.some.inj h).symm _ hR hk
  · replace h := it_f c13 h
    refine pm_iload dX9_lastChange_55 rfl ?_
    refine pm_iload dX9_lastChange_57 rfl ?_
    refine pm_iadd dX9_lastChange_59 ?_
    refine pm_iconst (v := 2) dX9_lastChange_60 (by decide) ?_
    refine pm_idiv dX9_lastChange_61 (by decide) ?_
    refine pm_istore dX9_lastChange_62 (by decide) rfl rfl ?_
    refine pm_aload_n dX9_lastChange_64 rfl ?_
    refine pm_aload_n dX9_lastChange_65 rfl ?_
    refine pm_iload dX9_lastChange_66 rfl ?_
    obtain ⟨r14, h15, h⟩ := ob_some h
    refine dx_cVv (j := 0) (M := M_X9_lastChange) (Mc := M_X9_replay) (dc := 3) (As := [.ref (b + o1), .int ((l6 + l7) / 2)]) (st := []) hR hk dX9_lastChange_68 ml_X9_147 ⟨TX9, 14, rfl⟩ rfl (by decide) (Nat.le_of_ble_eq_true rfl) rfl (k_X9_replay hR hs1 h15) (fun w16 hR17 hk18 => ?_)
    refine pm_iload dX9_lastChange_71 rfl ?_
    refine pm_iload dX9_lastChange_73 rfl ?_
    refine pm_icmp_lt (tgt := 85) dX9_lastChange_75 (by decide) (fun c19 => ?_) (fun c19 => ?_)
    · replace h := it_t c19 h
      refine pm_iload dX9_lastChange_85 rfl ?_
      refine pm_iconst (v := 1) dX9_lastChange_87 (by decide) ?_
      refine pm_iadd dX9_lastChange_88 ?_
      refine pm_istore dX9_lastChange_89 (by decide) rfl rfl ?_
      refine pm_lw (L' := [some (.ref (b + 0)), some (.ref (b + o1)), none, none, none, some (.int l5), some (.int (((l6 + l7) / 2) + 1)), some (.int l7), none]) ⟨Or.inr rfl, Or.inr rfl, Or.inl rfl, Or.inl rfl, Or.inl rfl, Or.inr rfl, Or.inr rfl, Or.inr rfl, Or.inl rfl, trivial⟩ ?_
      exact k_X9_lastChange_j91 hR17 hk18 hs1 h hc he0
    · replace h := it_f c19 h
      refine pm_iload dX9_lastChange_78 rfl ?_
      refine pm_istore dX9_lastChange_80 (by decide) rfl rfl ?_
      refine pm_goto (tgt := 91) dX9_lastChange_82 (by decide) ?_
      refine pm_lw (L' := [some (.ref (b + 0)), some (.ref (b + o1)), none, none, none, some (.int l5), some (.int l6), some (.int ((l6 + l7) / 2)), none]) ⟨Or.inr rfl, Or.inr rfl, Or.inl rfl, Or.inl rfl, Or.inl rfl, Or.inr rfl, Or.inr rfl, Or.inr rfl, Or.inl rfl, trivial⟩ ?_
      exact k_X9_lastChange_j91 hR17 hk18 hs1 h hc he0
def g_X9_lastChange (F : Nat) (o1 : Nat) (x2 : Int32) (x3 : Int32) (u : rg_U) : Option (Int32 × rg_U) :=
  ob (g_X9_replay F o1 x2 u) (fun r1 => ob (g_X6_putBy F (o1 + 12) x2 x3 r1) (fun r6 => ob (g_X6_changesOf F (o1 + 12) r6 r1) (fun r8 => if r8 = 0 then (some ((-1), r1)) else (ob (g_X6_changedSince F (o1 + 12) r6 r1) (fun r11 => ob (lp (fun (s : (Int32 × Int32 × rg_U)) => g_X9_lastChange_l48 F o1 r11 s.1 s.2.1 s.2.2) F ((0 : Int32), (x2 : Int32), r1)) (fun r20 => some (r20.1, r20.2)))))))
set_option maxHeartbeats 4000000 in
set_option maxRecDepth 100000 in
theorem k_X9_lastChange {gs : List String} {ro : pm_RO} {n : Nat} {w : Nat → va_E} {b : Nat} {u : rg_U} {F : Nat} {o1 : Nat} {x2 : Int32} {x3 : Int32} {z : (Int32 × rg_U)} (hR : rg shC b u n w) (hs1 : sp_Run o1) (h : g_X9_lastChange F o1 x2 x3 u = some z) : pm_Met gs ro M_X9_lastChange 4 0 0 [.ref (b + 0), .ref (b + o1), .int x2, .int x3] n w (rg_post shC b n w (some (.int z.1)) z.2) := by
  unfold g_X9_lastChange at h
  refine pm_ofX in_X9_lastChange (Nat.le_of_ble_eq_true rfl) rfl (L := [some (.ref (b + 0)), some (.ref (b + o1)), some (.int x2), some (.int x3), none, none, none, none, none]) rfl ?_
  refine pm_aload_n dX9_lastChange_0 rfl ?_
  refine pm_aload_n dX9_lastChange_1 rfl ?_
  refine pm_iload_n dX9_lastChange_2 rfl ?_
  obtain ⟨r1, h2, h⟩ := ob_some h
  refine dx_cVv (j := 0) (M := M_X9_lastChange) (Mc := M_X9_replay) (dc := 3) (As := [.ref (b + o1), .int x2]) (st := []) hR rg_k0 dX9_lastChange_3 ml_X9_147 ⟨TX9, 14, rfl⟩ rfl (by decide) (Nat.le_of_ble_eq_true rfl) rfl (k_X9_replay hR hs1 h2) (fun w3 hR4 hk5 => ?_)
  refine pm_aload_n dX9_lastChange_6 rfl ?_
  refine dx_gr (j := o1) (o := (o1 + 12)) hR4 dX9_lastChange_7 fl_X9_176 (sp_Run_self hs1) rfl ?_
  refine pm_iload_n dX9_lastChange_10 rfl ?_
  refine pm_iload_n dX9_lastChange_11 rfl ?_
  obtain ⟨r6, h7, h⟩ := ob_some h
  refine dx_cVp (j := (o1 + 12)) (M := M_X9_lastChange) (Mc := M_X6_putBy) (dc := 2) (As := [.int x2, .int x3]) (st := []) hR4 dX9_lastChange_12 ml_X9_180 ⟨TX6, 12, rfl⟩ (sp_Puts_self (sp_Run_puts hs1)) (by decide) (Nat.le_of_ble_eq_true rfl) rfl (k_X6_putBy hR4 (sp_Run_puts hs1) h7) ?_
  refine pm_istore dX9_lastChange_15 (by decide) rfl rfl ?_
  refine pm_aload_n dX9_lastChange_17 rfl ?_
  refine dx_gr (j := o1) (o := (o1 + 12)) hR4 dX9_lastChange_18 fl_X9_176 (sp_Run_self hs1) rfl ?_
  refine pm_iload dX9_lastChange_21 rfl ?_
  obtain ⟨r8, h9, h⟩ := ob_some h
  refine dx_cVp (j := (o1 + 12)) (M := M_X9_lastChange) (Mc := M_X6_changesOf) (dc := 1) (As := [.int r6]) (st := []) hR4 dX9_lastChange_23 ml_X9_193 ⟨TX6, 12, rfl⟩ (sp_Puts_self (sp_Run_puts hs1)) (by decide) (Nat.le_of_ble_eq_true rfl) rfl (k_X6_changesOf hR4 (sp_Run_puts hs1) h9) ?_
  refine pm_if_ne (tgt := 31) dX9_lastChange_26 (by decide) (fun c10 => ?_) (fun c10 => ?_)
  · replace h := it_f c10 h
    refine pm_aload_n dX9_lastChange_31 rfl ?_
    refine dx_gr (j := o1) (o := (o1 + 12)) hR4 dX9_lastChange_32 fl_X9_176 (sp_Run_self hs1) rfl ?_
    refine pm_iload dX9_lastChange_35 rfl ?_
    obtain ⟨r11, h12, h⟩ := ob_some h
    refine dx_cVp (j := (o1 + 12)) (M := M_X9_lastChange) (Mc := M_X6_changedSince) (dc := 2) (As := [.int r6]) (st := []) hR4 dX9_lastChange_37 ml_X9_350 ⟨TX6, 12, rfl⟩ (sp_Puts_self (sp_Run_puts hs1)) (by decide) (Nat.le_of_ble_eq_true rfl) rfl (k_X6_changedSince hR4 (sp_Run_puts hs1) h12) ?_
    refine pm_istore dX9_lastChange_40 (by decide) rfl rfl ?_
    refine pm_iconst (v := 0) dX9_lastChange_42 (by decide) ?_
    refine pm_istore dX9_lastChange_43 (by decide) rfl rfl ?_
    refine pm_iload_n dX9_lastChange_45 rfl ?_
    refine pm_istore dX9_lastChange_46 (by decide) rfl rfl ?_
    refine pm_lw (L' := [some (.ref (b + 0)), some (.ref (b + o1)), none, none, none, some (.int r11), some (.int 0), some (.int x2), none]) ⟨Or.inr rfl, Or.inr rfl, Or.inl rfl, Or.inl rfl, Or.inl rfl, Or.inr rfl, Or.inr rfl, Or.inr rfl, Or.inl rfl, trivial⟩ ?_
    obtain ⟨r20, h21, h⟩ := ob_some h
    refine lp_sound (P := fun (s : (Int32 × Int32 × rg_U)) => ∀ w1, rg shC b s.2.2 n w1 → rg_k b shC.length w w1 → pm_X gs ro M_X9_lastChange 4 0 0 0 0 48 [some (.ref (b + 0)), some (.ref (b + o1)), none, none, none, some (.int r11), some (.int s.1), some (.int s.2.1), none] [] n w1 (rg_post shC b n w (some (.int z.1)) z.2)) (E := (fun (r : (Int32 × rg_U)) => ∀ w1, rg shC b r.2 n w1 → rg_k b shC.length w w1 → pm_X gs ro M_X9_lastChange 4 0 0 0 0 94 [none, none, none, none, none, none, some (.int r.1), none, none] [] n w1 (rg_post shC b n w (some (.int z.1)) z.2))) (fun s x hx hc he w1 hR1 hk1 => k_X9_lastChange_l48 hR1 hk1 hs1 hx hc (fun r q => he r q)) F _ r20 h21 ?_ _ hR4 hk5
    intro w22 hR23 hk24
    refine pm_iload dX9_lastChange_94 rfl ?_
    cases h
    exact pm_iret dX9_lastChange_96 rfl (Nat.le_refl _) (Nat.le_refl _) ⟨rfl, rfl, hR23, hk24⟩
  · replace h := it_t c10 h
    refine pm_iconst (v := (-1)) dX9_lastChange_29 (by decide) ?_
    cases h
    exact pm_iret dX9_lastChange_30 rfl (Nat.le_refl _) (Nat.le_refl _) ⟨rfl, rfl, hR4, hk5⟩
def g_X9_last (F : Nat) (x1 : Int32) (x2 : Int32) (u : rg_U) : Option (Int32 × rg_U) :=
  lt1 (sF u 0 13 0) (fun u1 => ob (g_X9_numbered F (rF u1 0 8) u1) (fun r6 => om r6 (some ((-2), u1)) (fun o8 => ck (isRn o8) (ob (g_X7_hasTime F o8 x1 u1) (fun r9 => if r9 = 0 then (some ((-2), u1)) else (if (g_X9_isPlace x2) = 0 then (some ((-2), u1)) else (ob (g_X9_lastChange F o8 x1 x2 u1) (fun r13 => some (r13.1, r13.2)))))))))
set_option maxHeartbeats 4000000 in
set_option maxRecDepth 100000 in
theorem k_X9_last {gs : List String} {ro : pm_RO} {n : Nat} {w : Nat → va_E} {b : Nat} {u : rg_U} {F : Nat} {x1 : Int32} {x2 : Int32} {z : (Int32 × rg_U)} (hR : rg shC b u n w) (h : g_X9_last F x1 x2 u = some z) : pm_Met gs ro M_X9_last 5 0 0 [.ref (b + 0), .int x1, .int x2] n w (rg_post shC b n w (some (.int z.1)) z.2) := by
  unfold g_X9_last at h
  refine pm_ofX in_X9_last (Nat.le_of_ble_eq_true rfl) rfl (L := [some (.ref (b + 0)), some (.int x1), some (.int x2), none]) rfl ?_
  refine pm_aload_n dX9_last_0 rfl ?_
  refine pm_iconst (v := 0) dX9_last_1 (by decide) ?_
  obtain ⟨u1, hu2, h⟩ := lt1_ex h
  refine dx_pi (j := 0) hR rg_k0 dX9_last_2 fl_X9_67 rfl rfl hu2 (fun w3 hR4 hk5 => ?_)
  refine pm_aload_n dX9_last_5 rfl ?_
  refine pm_aload_n dX9_last_6 rfl ?_
  refine dx_gi (j := 0) hR4 dX9_last_7 fl_X9_52 rfl rfl ?_
  obtain ⟨r6, h7, h⟩ := ob_some h
  cases r6 with
  | none =>
    replace h := om_n rfl h
    refine dx_cVp (j := 0) (M := M_X9_last) (Mc := M_X9_numbered) (dc := 1) (As := [.int (rF u1 0 8)]) (st := []) hR4 dX9_last_10 ml_X9_169 ⟨TX9, 14, rfl⟩ rfl (v := .null) (by decide) (Nat.le_of_ble_eq_true rfl) rfl (k_X9_numbered hR4 h7) ?_
    refine pm_astore_nN dX9_last_13 (by decide) rfl rfl ?_
    refine pm_aload_nN dX9_last_14 rfl ?_
    refine pm_ifnullN (x := 0) (tgt := 33) dX9_last_15 (by decide) ?_
    refine pm_bipush (v := (-2)) dX9_last_33 (by decide) ?_
    cases h
    exact pm_iret dX9_last_35 rfl (Nat.le_refl _) (Nat.le_refl _) ⟨rfl, rfl, hR4, hk5⟩
  | some o8 =>
    replace h := om_s rfl h
    obtain ⟨c18, h⟩ := ck_some h
    have hs_o8 := run_sp c18
    refine dx_cVp (j := 0) (M := M_X9_last) (Mc := M_X9_numbered) (dc := 1) (As := [.int (rF u1 0 8)]) (st := []) hR4 dX9_last_10 ml_X9_169 ⟨TX9, 14, rfl⟩ rfl (v := .ref (b + o8)) (by decide) (Nat.le_of_ble_eq_true rfl) rfl (k_X9_numbered hR4 h7) ?_
    refine pm_astore_n dX9_last_13 (by decide) rfl rfl ?_
    refine pm_aload_n dX9_last_14 rfl ?_
    refine pm_ifnull dX9_last_15 ?_
    refine pm_aload_n dX9_last_18 rfl ?_
    refine pm_iload_n dX9_last_19 rfl ?_
    obtain ⟨r9, h10, h⟩ := ob_some h
    refine dx_cVp (j := o8) (M := M_X9_last) (Mc := M_X7_hasTime) (dc := 0) (As := [.int x1]) (st := []) hR4 dX9_last_20 ml_X9_172 ⟨TX7, 15, rfl⟩ (sp_Run_self hs_o8) (by decide) (Nat.le_of_ble_eq_true rfl) rfl (k_X7_hasTime hR4 hs_o8 h10) ?_
    refine pm_if_eq (tgt := 33) dX9_last_23 (by decide) (fun c11 => ?_) (fun c11 => ?_)
    · replace h := it_t c11 h
      refine pm_bipush (v := (-2)) dX9_last_33 (by decide) ?_
      cases h
      exact pm_iret dX9_last_35 rfl (Nat.le_refl _) (Nat.le_refl _) ⟨rfl, rfl, hR4, hk5⟩
    · replace h := it_f c11 h
      refine pm_iload_n dX9_last_26 rfl ?_
      refine dx_cSp (M := M_X9_last) (Mc := M_X9_isPlace) (dc := 0) (As := [.int x2]) (st := []) dX9_last_27 ml_X9_119 (by decide) (Nat.le_of_ble_eq_true rfl) rfl (k_X9_isPlace rfl) ?_
      refine pm_if_ne (tgt := 36) dX9_last_30 (by decide) (fun c12 => ?_) (fun c12 => ?_)
      · replace h := it_f c12 h
        refine pm_aload_n dX9_last_36 rfl ?_
        refine pm_aload_n dX9_last_37 rfl ?_
        refine pm_iload_n dX9_last_38 rfl ?_
        refine pm_iload_n dX9_last_39 rfl ?_
        obtain ⟨r13, h14, h⟩ := ob_some h
        refine dx_cVi (j := 0) (M := M_X9_last) (Mc := M_X9_lastChange) (dc := 4) (As := [.ref (b + o8), .int x1, .int x2]) (st := []) hR4 hk5 dX9_last_40 ml_X9_218 ⟨TX9, 14, rfl⟩ rfl (by decide) (Nat.le_of_ble_eq_true rfl) rfl (k_X9_lastChange hR4 hs_o8 h14) (fun w15 hR16 hk17 => ?_)
        cases h
        exact pm_iret dX9_last_43 rfl (Nat.le_refl _) (Nat.le_refl _) ⟨rfl, rfl, hR16, hk17⟩
      · replace h := it_t c12 h
        refine pm_bipush (v := (-2)) dX9_last_33 (by decide) ?_
        cases h
        exact pm_iret dX9_last_35 rfl (Nat.le_refl _) (Nat.le_refl _) ⟨rfl, rfl, hR4, hk5⟩
def g_X9_when (F : Nat) (x1 : Int32) (x2 : Int32) (x3 : Int32) (x4 : Int32) (u : rg_U) : Option (Int32 × rg_U) :=
  lt1 (sF u 0 13 0) (fun u1 => ob (g_X9_numbered F (rF u1 0 8) u1) (fun r6 => om r6 (some ((-2), u1)) (fun o8 => ck (isRn o8) (ob (g_X7_hasTime F o8 x1 u1) (fun r9 => if r9 = 0 then (some ((-2), u1)) else (if (g_X9_isPlace x2) = 0 then (some ((-2), u1)) else (if (g_X9_isValue x3 x4) = 0 then (some ((-2), u1)) else (ob (g_X6_hadBy F (o8 + 12) x1 x2 x3 x4 u1) (fun r14 => ob (g_X2_stepsToFind F (o8 + 28) r14 x1 u1) (fun r16 => ob (g_X9_count F o8 r16 u1) (fun r18 => some (r14, r18))))))))))))
set_option maxHeartbeats 4000000 in
set_option maxRecDepth 100000 in
theorem k_X9_when {gs : List String} {ro : pm_RO} {n : Nat} {w : Nat → va_E} {b : Nat} {u : rg_U} {F : Nat} {x1 : Int32} {x2 : Int32} {x3 : Int32} {x4 : Int32} {z : (Int32 × rg_U)} (hR : rg shC b u n w) (h : g_X9_when F x1 x2 x3 x4 u = some z) : pm_Met gs ro M_X9_when 3 0 0 [.ref (b + 0), .int x1, .int x2, .int x3, .int x4] n w (rg_post shC b n w (some (.int z.1)) z.2) := by
  unfold g_X9_when at h
  refine pm_ofX in_X9_when (Nat.le_of_ble_eq_true rfl) rfl (L := [some (.ref (b + 0)), some (.int x1), some (.int x2), some (.int x3), some (.int x4), none, none]) rfl ?_
  refine pm_aload_n dX9_when_0 rfl ?_
  refine pm_iconst (v := 0) dX9_when_1 (by decide) ?_
  obtain ⟨u1, hu2, h⟩ := lt1_ex h
  refine dx_pi (j := 0) hR rg_k0 dX9_when_2 fl_X9_67 rfl rfl hu2 (fun w3 hR4 hk5 => ?_)
  refine pm_aload_n dX9_when_5 rfl ?_
  refine pm_aload_n dX9_when_6 rfl ?_
  refine dx_gi (j := 0) hR4 dX9_when_7 fl_X9_52 rfl rfl ?_
  obtain ⟨r6, h7, h⟩ := ob_some h
  cases r6 with
  | none =>
    replace h := om_n rfl h
    refine dx_cVp (j := 0) (M := M_X9_when) (Mc := M_X9_numbered) (dc := 1) (As := [.int (rF u1 0 8)]) (st := []) hR4 dX9_when_10 ml_X9_169 ⟨TX9, 14, rfl⟩ rfl (v := .null) (by decide) (Nat.le_of_ble_eq_true rfl) rfl (k_X9_numbered hR4 h7) ?_
    refine pm_astoreN dX9_when_13 (by decide) rfl rfl ?_
    refine pm_aloadN dX9_when_15 rfl ?_
    refine pm_ifnullN (x := 0) (tgt := 45) dX9_when_17 (by decide) ?_
    refine pm_bipush (v := (-2)) dX9_when_45 (by decide) ?_
    cases h
    exact pm_iret dX9_when_47 rfl (Nat.le_refl _) (Nat.le_refl _) ⟨rfl, rfl, hR4, hk5⟩
  | some o8 =>
    replace h := om_s rfl h
    obtain ⟨c23, h⟩ := ck_some h
    have hs_o8 := run_sp c23
    refine dx_cVp (j := 0) (M := M_X9_when) (Mc := M_X9_numbered) (dc := 1) (As := [.int (rF u1 0 8)]) (st := []) hR4 dX9_when_10 ml_X9_169 ⟨TX9, 14, rfl⟩ rfl (v := .ref (b + o8)) (by decide) (Nat.le_of_ble_eq_true rfl) rfl (k_X9_numbered hR4 h7) ?_
    refine pm_astore dX9_when_13 (by decide) rfl rfl ?_
    refine pm_aload dX9_when_15 rfl ?_
    refine pm_ifnull dX9_when_17 ?_
    refine pm_aload dX9_when_20 rfl ?_
    refine pm_iload_n dX9_when_22 rfl ?_
    obtain ⟨r9, h10, h⟩ := ob_some h
    refine dx_cVp (j := o8) (M := M_X9_when) (Mc := M_X7_hasTime) (dc := 0) (As := [.int x1]) (st := []) hR4 dX9_when_23 ml_X9_172 ⟨TX7, 15, rfl⟩ (sp_Run_self hs_o8) (by decide) (Nat.le_of_ble_eq_true rfl) rfl (k_X7_hasTime hR4 hs_o8 h10) ?_
    refine pm_if_eq (tgt := 45) dX9_when_26 (by decide) (fun c11 => ?_) (fun c11 => ?_)
    · replace h := it_t c11 h
      refine pm_bipush (v := (-2)) dX9_when_45 (by decide) ?_
      cases h
      exact pm_iret dX9_when_47 rfl (Nat.le_refl _) (Nat.le_refl _) ⟨rfl, rfl, hR4, hk5⟩
    · replace h := it_f c11 h
      refine pm_iload_n dX9_when_29 rfl ?_
      refine dx_cSp (M := M_X9_when) (Mc := M_X9_isPlace) (dc := 0) (As := [.int x2]) (st := []) dX9_when_30 ml_X9_119 (by decide) (Nat.le_of_ble_eq_true rfl) rfl (k_X9_isPlace rfl) ?_
      refine pm_if_eq (tgt := 45) dX9_when_33 (by decide) (fun c12 => ?_) (fun c12 => ?_)
      · replace h := it_t c12 h
        refine pm_bipush (v := (-2)) dX9_when_45 (by decide) ?_
        cases h
        exact pm_iret dX9_when_47 rfl (Nat.le_refl _) (Nat.le_refl _) ⟨rfl, rfl, hR4, hk5⟩
      · replace h := it_f c12 h
        refine pm_iload_n dX9_when_36 rfl ?_
        refine pm_iload dX9_when_37 rfl ?_
        refine dx_cSp (M := M_X9_when) (Mc := M_X9_isValue) (dc := 0) (As := [.int x3, .int x4]) (st := []) dX9_when_39 ml_X9_122 (by decide) (Nat.le_of_ble_eq_true rfl) rfl (k_X9_isValue rfl) ?_
        refine pm_if_ne (tgt := 48) dX9_when_42 (by decide) (fun c13 => ?_) (fun c13 => ?_)
        · replace h := it_f c13 h
          refine pm_aload dX9_when_48 rfl ?_
          refine dx_gr (j := o8) (o := (o8 + 12)) hR4 dX9_when_50 fl_X9_176 (sp_Run_self hs_o8) rfl ?_
          refine pm_iload_n dX9_when_53 rfl ?_
          refine pm_iload_n dX9_when_54 rfl ?_
          refine pm_iload_n dX9_when_55 rfl ?_
          refine pm_iload dX9_when_56 rfl ?_
          obtain ⟨r14, h15, h⟩ := ob_some h
          refine dx_cVp (j := (o8 + 12)) (M := M_X9_when) (Mc := M_X6_hadBy) (dc := 2) (As := [.int x1, .int x2, .int x3, .int x4]) (st := []) hR4 dX9_when_58 ml_X9_222 ⟨TX6, 12, rfl⟩ (sp_Puts_self (sp_Run_puts hs_o8)) (by decide) (Nat.le_of_ble_eq_true rfl) rfl (k_X6_hadBy hR4 (sp_Run_puts hs_o8) h15) ?_
          refine pm_istore dX9_when_61 (by decide) rfl rfl ?_
          refine pm_aload_n dX9_when_63 rfl ?_
          refine pm_aload dX9_when_64 rfl ?_
          refine pm_aload dX9_when_66 rfl ?_
          refine dx_gr (j := o8) (o := (o8 + 28)) hR4 dX9_when_68 fl_X9_226 (sp_Run_self hs_o8) rfl ?_
          refine pm_iload dX9_when_71 rfl ?_
          refine pm_iload_n dX9_when_73 rfl ?_
          obtain ⟨r16, h17, h⟩ := ob_some h
          refine dx_cVp (j := (o8 + 28)) (M := M_X9_when) (Mc := M_X2_stepsToFind) (dc := 2) (As := [.int r14, .int x1]) (st := [.ref (b + o8), .ref (b + 0)]) hR4 dX9_when_74 ml_X9_230 ⟨TX2, 5, rfl⟩ (sp_Holding_self (sp_Run_holding hs_o8)) (by decide) (Nat.le_of_ble_eq_true rfl) rfl (k_X2_stepsToFind hR4 (sp_Run_holding hs_o8) h17) ?_
          obtain ⟨r18, h19, h⟩ := ob_some h
          refine dx_cVv (j := 0) (M := M_X9_when) (Mc := M_X9_count) (dc := 0) (As := [.ref (b + o8), .int r16]) (st := []) hR4 hk5 dX9_when_77 ml_X9_235 ⟨TX9, 14, rfl⟩ rfl (by decide) (Nat.le_of_ble_eq_true rfl) rfl (k_X9_count hR4 hs_o8 h19) (fun w20 hR21 hk22 => ?_)
          refine pm_iload dX9_when_80 rfl ?_
          cases h
          exact pm_iret dX9_when_82 rfl (Nat.le_refl _) (Nat.le_refl _) ⟨rfl, rfl, hR21, hk22⟩
        · replace h := it_t c13 h
          refine pm_bipush (v := (-2)) dX9_when_45 (by decide) ?_
          cases h
          exact pm_iret dX9_when_47 rfl (Nat.le_refl _) (Nat.le_refl _) ⟨rfl, rfl, hR4, hk5⟩
def g_X9_isPlacesWhat (x0 : Int32) : Int32 :=
  if x0 = 0 then (1) else (if x0 = 1 then (1) else (0))
theorem g_X9_isPlacesWhat_b {x0 : Int32} : g_X9_isPlacesWhat x0 = 0 ∨ g_X9_isPlacesWhat x0 = 1 := by
  unfold g_X9_isPlacesWhat
  repeat' (first | exact Or.inl rfl | exact Or.inr rfl | refine it_b ?_ ?_)
set_option maxHeartbeats 4000000 in
set_option maxRecDepth 100000 in
theorem k_X9_isPlacesWhat {gs : List String} {ro : pm_RO} {n : Nat} {w : Nat → va_E} {x0 : Int32} {z : Int32} (h : g_X9_isPlacesWhat x0 = z) : pm_Met gs ro M_X9_isPlacesWhat 0 0 0 [.int x0] n w (pm_p n w (some (.int z))) := by
  unfold g_X9_isPlacesWhat at h
  refine pm_ofX in_X9_isPlacesWhat (Nat.le_of_ble_eq_true rfl) rfl (L := [some (.int x0)]) rfl ?_
  refine pm_iload_n dX9_isPlacesWhat_0 rfl ?_
  refine pm_if_eq (tgt := 9) dX9_isPlacesWhat_1 (by decide) (fun c1 => ?_) (fun c1 => ?_)
  · replace h := it_t c1 h
    refine pm_iconst (v := 1) dX9_isPlacesWhat_9 (by decide) ?_
    refine pm_goto (tgt := 14) dX9_isPlacesWhat_10 (by decide) ?_
    subst h
    exact pm_zret dX9_isPlacesWhat_14 rfl (Or.inr rfl) (Nat.le_refl _) (Nat.le_refl _) ⟨rfl, rfl, rfl⟩
  · replace h := it_f c1 h
    refine pm_iload_n dX9_isPlacesWhat_4 rfl ?_
    refine pm_iconst (v := 1) dX9_isPlacesWhat_5 (by decide) ?_
    refine pm_icmp_ne (tgt := 13) dX9_isPlacesWhat_6 (by decide) (fun c2 => ?_) (fun c2 => ?_)
    · replace h := it_f c2 h
      refine pm_iconst (v := 0) dX9_isPlacesWhat_13 (by decide) ?_
      subst h
      exact pm_zret dX9_isPlacesWhat_14 rfl (Or.inl rfl) (Nat.le_refl _) (Nat.le_refl _) ⟨rfl, rfl, rfl⟩
    · replace h := it_t c2 h
      refine pm_iconst (v := 1) dX9_isPlacesWhat_9 (by decide) ?_
      refine pm_goto (tgt := 14) dX9_isPlacesWhat_10 (by decide) ?_
      subst h
      exact pm_zret dX9_isPlacesWhat_14 rfl (Or.inr rfl) (Nat.le_refl _) (Nat.le_refl _) ⟨rfl, rfl, rfl⟩
def g_X9_placesOf (x0 : Int32) : Int32 :=
  if x0 = 0 then (8) else (32)
set_option maxHeartbeats 4000000 in
set_option maxRecDepth 100000 in
theorem k_X9_placesOf {gs : List String} {ro : pm_RO} {n : Nat} {w : Nat → va_E} {x0 : Int32} {z : Int32} (h : g_X9_placesOf x0 = z) : pm_Met gs ro M_X9_placesOf 0 0 0 [.int x0] n w (pm_p n w (some (.int z))) := by
  unfold g_X9_placesOf at h
  refine pm_ofX in_X9_placesOf (Nat.le_of_ble_eq_true rfl) rfl (L := [some (.int x0)]) rfl ?_
  refine pm_iload_n dX9_placesOf_0 rfl ?_
  refine pm_if_ne (tgt := 9) dX9_placesOf_1 (by decide) (fun c1 => ?_) (fun c1 => ?_)
  · replace h := it_f c1 h
    refine pm_bipush (v := 32) dX9_placesOf_9 (by decide) ?_
    subst h
    exact pm_iret dX9_placesOf_11 rfl (Nat.le_refl _) (Nat.le_refl _) ⟨rfl, rfl, rfl⟩
  · replace h := it_t c1 h
    refine pm_bipush (v := 8) dX9_placesOf_4 (by decide) ?_
    refine pm_goto (tgt := 11) dX9_placesOf_6 (by decide) ?_
    subst h
    exact pm_iret dX9_placesOf_11 rfl (Nat.le_refl _) (Nat.le_refl _) ⟨rfl, rfl, rfl⟩
def g_X9_firstPlaceOf (x0 : Int32) : Int32 :=
  if x0 = 0 then (0) else (8)
set_option maxHeartbeats 4000000 in
set_option maxRecDepth 100000 in
theorem k_X9_firstPlaceOf {gs : List String} {ro : pm_RO} {n : Nat} {w : Nat → va_E} {x0 : Int32} {z : Int32} (h : g_X9_firstPlaceOf x0 = z) : pm_Met gs ro M_X9_firstPlaceOf 0 0 0 [.int x0] n w (pm_p n w (some (.int z))) := by
  unfold g_X9_firstPlaceOf at h
  refine pm_ofX in_X9_firstPlaceOf (Nat.le_of_ble_eq_true rfl) rfl (L := [some (.int x0)]) rfl ?_
  refine pm_iload_n dX9_firstPlaceOf_0 rfl ?_
  refine pm_if_ne (tgt := 8) dX9_firstPlaceOf_1 (by decide) (fun c1 => ?_) (fun c1 => ?_)
  · replace h := it_f c1 h
    refine pm_bipush (v := 8) dX9_firstPlaceOf_8 (by decide) ?_
    subst h
    exact pm_iret dX9_firstPlaceOf_10 rfl (Nat.le_refl _) (Nat.le_refl _) ⟨rfl, rfl, rfl⟩
  · replace h := it_t c1 h
    refine pm_iconst (v := 0) dX9_firstPlaceOf_4 (by decide) ?_
    refine pm_goto (tgt := 10) dX9_firstPlaceOf_5 (by decide) ?_
    subst h
    exact pm_iret dX9_firstPlaceOf_10 rfl (Nat.le_refl _) (Nat.le_refl _) ⟨rfl, rfl, rfl⟩
def g_X9_changed_j134 (F : Nat) (o8 : Nat) (l1 : Int32) (l2 : Int32) (l4 : Int32) (l5 : Int32) (u : rg_U) : Option ((Int32 × Int32) ⊕ Int32) :=
  some (.inl (l4, (l5 + 1)))
set_option maxHeartbeats 4000000 in
set_option maxRecDepth 100000 in
theorem k_X9_changed_j134 {gs : List String} {ro : pm_RO} {n : Nat} {w w1 : Nat → va_E} {b : Nat} {u : rg_U} {F : Nat} {o8 : Nat} {l1 : Int32} {l2 : Int32} {l4 : Int32} {l5 : Int32} {z : ((Int32 × Int32) ⊕ Int32)} {Q : Option Value → Nat → (Nat → va_E) → Prop} (hR : rg shC b u n w1) (hk : rg_k b shC.length w w1) (hs_o8 : sp_Run o8) (h : g_X9_changed_j134 F o8 l1 l2 l4 l5 u = some z) (hc : ∀ s', z = .inl s' → ∀ w1, rg shC b u n w1 → rg_k b shC.length w w1 → pm_X gs ro M_X9_changed 4 0 0 0 0 60 [none, some (.int l1), some (.int l2), some (.ref (b + o8)), some (.int s'.1), some (.int s'.2), none, none, none] [] n w1 Q) (he0 : ∀ r', z = .inr r' → ∀ w1, rg shC b u n w1 → rg_k b shC.length w w1 → pm_X gs ro M_X9_changed 4 0 0 0 0 140 [none, none, none, none, some (.int r'), none, none, none, none] [] n w1 Q) : pm_X gs ro M_X9_changed 4 0 0 0 0 134 [none, some (.int l1), some (.int l2), some (.ref (b + o8)), some (.int l4), some (.int l5), none, none, none] [] n w1 Q := by
  unfold g_X9_changed_j134 at h
  refine pm_iinc (v := (l5 + 1)) dX9_changed_134 rfl rfl (by decide) rfl rfl ?_
  refine pm_goto (tgt := 60) dX9_changed_137 (by decide) ?_
  refine pm_lw (L' := [none, some (.int l1), some (.int l2), some (.ref (b + o8)), some (.int l4), some (.int (l5 + 1)), none, none, none]) ⟨Or.inl rfl, Or.inr rfl, Or.inr rfl, Or.inr rfl, Or.inr rfl, Or.inr rfl, Or.inl rfl, Or.inl rfl, Or.inl rfl, trivial⟩ ?_
  exact hc _ (Option.some.inj h).symm _ hR hk
def g_X9_changed_l60 (F : Nat) (o8 : Nat) (l1 : Int32) (l2 : Int32) (u : rg_U) (l4 : Int32) (l5 : Int32) : Option ((Int32 × Int32) ⊕ Int32) :=
  if (g_X9_placesOf l2) ≤ l5 then (some (.inr l4)) else (ob (g_X6_putBy F (o8 + 12) l1 ((g_X9_firstPlaceOf l2) + l5) u) (fun r23 => ob (g_X6_changesOf F (o8 + 12) r23 u) (fun r25 => ob (g_X6_putBy F (o8 + 12) (l1 + 1) ((g_X9_firstPlaceOf l2) + l5) u) (fun r27 => ob (g_X6_changesOf F (o8 + 12) r27 u) (fun r29 => if r25 = r29 then (g_X9_changed_j134 F o8 l1 l2 l4 l5 u) else (g_X9_changed_j134 F o8 l1 l2 (l4 ||| (dx_shl 1 l5)) l5 u))))))
set_option maxHeartbeats 4000000 in
set_option maxRecDepth 100000 in
theorem k_X9_changed_l60 {gs : List String} {ro : pm_RO} {n : Nat} {w w1 : Nat → va_E} {b : Nat} {u : rg_U} {F : Nat} {o8 : Nat} {l1 : Int32} {l2 : Int32} {l4 : Int32} {l5 : Int32} {z : (Int32 × Int32) ⊕ Int32} {Q : Option Value → Nat → (Nat → va_E) → Prop} (hR : rg shC b u n w1) (hk : rg_k b shC.length w w1) (hs_o8 : sp_Run o8) (h : g_X9_changed_l60 F o8 l1 l2 u l4 l5 = some z) (hc : ∀ s', z = .inl s' → ∀ w1, rg shC b u n w1 → rg_k b shC.length w w1 → pm_X gs ro M_X9_changed 4 0 0 0 0 60 [none, some (.int l1), some (.int l2), some (.ref (b + o8)), some (.int s'.1), some (.int s'.2), none, none, none] [] n w1 Q) (he0 : ∀ r', z = .inr r' → ∀ w1, rg shC b u n w1 → rg_k b shC.length w w1 → pm_X gs ro M_X9_changed 4 0 0 0 0 140 [none, none, none, none, some (.int r'), none, none, none, none] [] n w1 Q) : pm_X gs ro M_X9_changed 4 0 0 0 0 60 [none, some (.int l1), some (.int l2), some (.ref (b + o8)), some (.int l4), some (.int l5), none, none, none] [] n w1 Q := by
  unfold g_X9_changed_l60 at h
  refine pm_iload dX9_changed_60 rfl ?_
  refine pm_iload_n dX9_changed_62 rfl ?_
  refine dx_cSp (M := M_X9_changed) (Mc := M_X9_placesOf) (dc := 0) (As := [.int l2]) (st := [.int l5]) dX9_changed_63 ml_X9_241 (by decide) (Nat.le_of_ble_eq_true rfl) rfl (k_X9_placesOf rfl) ?_
  refine pm_icmp_ge (tgt := 140) dX9_changed_66 (by decide) (fun c22 => ?_) (fun c22 => ?_)
  · replace h := it_t c22 h
    refine pm_lw (L' := [none, none, none, none, some (.int l4), none, none, none, none]) ⟨Or.inl rfl, Or.inl rfl, Or.inl rfl, Or.inl rfl, Or.inr rfl, Or.inl rfl, Or.inl rfl, Or.inl rfl, Or.inl rfl, trivial⟩ ?_
    exact he0 _ (Option.some.inj h).symm _ hR hk
  · replace h := it_f c22 h
    refine pm_iload_n dX9_changed_69 rfl ?_
    refine dx_cSp (M := M_X9_changed) (Mc := M_X9_firstPlaceOf) (dc := 0) (As := [.int l2]) (st := []) dX9_changed_70 ml_X9_244 (by decide) (Nat.le_of_ble_eq_true rfl) rfl (k_X9_firstPlaceOf rfl) ?_
    refine pm_iload dX9_changed_73 rfl ?_
    refine pm_iadd dX9_changed_75 ?_
    refine pm_istore dX9_changed_76 (by decide) rfl rfl ?_
    refine pm_aload_n dX9_changed_78 rfl ?_
    refine dx_gr (j := o8) (o := (o8 + 12)) hR dX9_changed_79 fl_X9_176 (sp_Run_self hs_o8) rfl ?_
    refine pm_aload_n dX9_changed_82 rfl ?_
    refine dx_gr (j := o8) (o := (o8 + 12)) hR dX9_changed_83 fl_X9_176 (sp_Run_self hs_o8) rfl ?_
    refine pm_iload_n dX9_changed_86 rfl ?_
    refine pm_iload dX9_changed_87 rfl ?_
    obtain ⟨r23, h24, h⟩ := ob_some h
    refine dx_cVp (j := (o8 + 12)) (M := M_X9_changed) (Mc := M_X6_putBy) (dc := 2) (As := [.int l1, .int ((g_X9_firstPlaceOf l2) + l5)]) (st := [.ref (b + (o8 + 12))]) hR dX9_changed_89 ml_X9_180 ⟨TX6, 12, rfl⟩ (sp_Puts_self (sp_Run_puts hs_o8)) (by decide) (Nat.le_of_ble_eq_true rfl) rfl (k_X6_putBy hR (sp_Run_puts hs_o8) h24) ?_
    obtain ⟨r25, h26, h⟩ := ob_some h
    refine dx_cVp (j := (o8 + 12)) (M := M_X9_changed) (Mc := M_X6_changesOf) (dc := 1) (As := [.int r23]) (st := []) hR dX9_changed_92 ml_X9_193 ⟨TX6, 12, rfl⟩ (sp_Puts_self (sp_Run_puts hs_o8)) (by decide) (Nat.le_of_ble_eq_true rfl) rfl (k_X6_changesOf hR (sp_Run_puts hs_o8) h26) ?_
    refine pm_istore dX9_changed_95 (by decide) rfl rfl ?_
    refine pm_aload_n dX9_changed_97 rfl ?_
    refine dx_gr (j := o8) (o := (o8 + 12)) hR dX9_changed_98 fl_X9_176 (sp_Run_self hs_o8) rfl ?_
    refine pm_aload_n dX9_changed_101 rfl ?_
    refine dx_gr (j := o8) (o := (o8 + 12)) hR dX9_changed_102 fl_X9_176 (sp_Run_self hs_o8) rfl ?_
    refine pm_iload_n dX9_changed_105 rfl ?_
    refine pm_iconst (v := 1) dX9_changed_106 (by decide) ?_
    refine pm_iadd dX9_changed_107 ?_
    refine pm_iload dX9_changed_108 rfl ?_
    obtain ⟨r27, h28, h⟩ := ob_some h
    refine dx_cVp (j := (o8 + 12)) (M := M_X9_changed) (Mc := M_X6_putBy) (dc := 2) (As := [.int (l1 + 1), .int ((g_X9_firstPlaceOf l2) + l5)]) (st := [.ref (b + (o8 + 12))]) hR dX9_changed_110 ml_X9_180 ⟨TX6, 12, rfl⟩ (sp_Puts_self (sp_Run_puts hs_o8)) (by decide) (Nat.le_of_ble_eq_true rfl) rfl (k_X6_putBy hR (sp_Run_puts hs_o8) h28) ?_
    obtain ⟨r29, h30, h⟩ := ob_some h
    refine dx_cVp (j := (o8 + 12)) (M := M_X9_changed) (Mc := M_X6_changesOf) (dc := 1) (As := [.int r27]) (st := []) hR dX9_changed_113 ml_X9_193 ⟨TX6, 12, rfl⟩ (sp_Puts_self (sp_Run_puts hs_o8)) (by decide) (Nat.le_of_ble_eq_true rfl) rfl (k_X6_changesOf hR (sp_Run_puts hs_o8) h30) ?_
    refine pm_istore dX9_changed_116 (by decide) rfl rfl ?_
    refine pm_iload dX9_changed_118 rfl ?_
    refine pm_iload dX9_changed_120 rfl ?_
    refine pm_icmp_eq (tgt := 134) dX9_changed_122 (by decide) (fun c31 => ?_) (fun c31 => ?_)
    · replace h := it_t c31 h
      refine pm_lw (L' := [none, some (.int l1), some (.int l2), some (.ref (b + o8)), some (.int l4), some (.int l5), none, none, none]) ⟨Or.inl rfl, Or.inr rfl, Or.inr rfl, Or.inr rfl, Or.inr rfl, Or.inr rfl, Or.inl rfl, Or.inl rfl, Or.inl rfl, trivial⟩ ?_
      exact k_X9_changed_j134 hR hk hs_o8 h hc he0
    · replace h := it_f c31 h
      refine pm_iload dX9_changed_125 rfl ?_
      refine pm_iconst (v := 1) dX9_changed_127 (by decide) ?_
      refine pm_iload dX9_changed_128 rfl ?_
      refine pm_ishl dX9_changed_130 ?_
      refine pm_ior dX9_changed_131 ?_
      refine pm_istore dX9_changed_132 (by decide) rfl rfl ?_
      refine pm_lw (L' := [none, some (.int l1), some (.int l2), some (.ref (b + o8)), some (.int (l4 ||| (dx_shl 1 l5))), some (.int l5), none, none, none]) ⟨Or.inl rfl, Or.inr rfl, Or.inr rfl, Or.inr rfl, Or.inr rfl, Or.inr rfl, Or.inl rfl, Or.inl rfl, Or.inl rfl, trivial⟩ ?_
      exact k_X9_changed_j134 hR hk hs_o8 h hc he0
def g_X9_changed (F : Nat) (x1 : Int32) (x2 : Int32) (u : rg_U) : Option (Int32 × rg_U) :=
  lt1 (sF u 0 13 0) (fun u1 => ob (g_X9_numbered F (rF u1 0 8) u1) (fun r6 => om r6 (some ((-1000001), u1)) (fun o8 => ck (isRn o8) (if x1 < 0 then (some ((-1000001), u1)) else (if (rF u1 o8 9) ≤ x1 then (some ((-1000001), u1)) else (if (g_X9_isPlacesWhat x2) = 0 then (some ((-1000001), u1)) else (ob (g_X9_replay F o8 x1 u1) (fun r12 => ob (g_X9_replay F o8 (x1 + 1) r12) (fun r17 => ob (lp (fun (s : (Int32 × Int32)) => g_X9_changed_l60 F o8 x1 x2 r17 s.1 s.2) F ((0 : Int32), (0 : Int32))) (fun r32 => some (r32, r17)))))))))))
set_option maxHeartbeats 4000000 in
set_option maxRecDepth 100000 in
theorem k_X9_changed {gs : List String} {ro : pm_RO} {n : Nat} {w : Nat → va_E} {b : Nat} {u : rg_U} {F : Nat} {x1 : Int32} {x2 : Int32} {z : (Int32 × rg_U)} (hR : rg shC b u n w) (h : g_X9_changed F x1 x2 u = some z) : pm_Met gs ro M_X9_changed 4 0 0 [.ref (b + 0), .int x1, .int x2] n w (rg_post shC b n w (some (.int z.1)) z.2) := by
  unfold g_X9_changed at h
  refine pm_ofX in_X9_changed (Nat.le_of_ble_eq_true rfl) rfl (L := [some (.ref (b + 0)), some (.int x1), some (.int x2), none, none, none, none, none, none]) rfl ?_
  refine pm_aload_n dX9_changed_0 rfl ?_
  refine pm_iconst (v := 0) dX9_changed_1 (by decide) ?_
  obtain ⟨u1, hu2, h⟩ := lt1_ex h
  refine dx_pi (j := 0) hR rg_k0 dX9_changed_2 fl_X9_67 rfl rfl hu2 (fun w3 hR4 hk5 => ?_)
  refine pm_aload_n dX9_changed_5 rfl ?_
  refine pm_aload_n dX9_changed_6 rfl ?_
  refine dx_gi (j := 0) hR4 dX9_changed_7 fl_X9_52 rfl rfl ?_
  obtain ⟨r6, h7, h⟩ := ob_some h
  cases r6 with
  | none =>
    replace h := om_n rfl h
    refine dx_cVp (j := 0) (M := M_X9_changed) (Mc := M_X9_numbered) (dc := 1) (As := [.int (rF u1 0 8)]) (st := []) hR4 dX9_changed_10 ml_X9_169 ⟨TX9, 14, rfl⟩ rfl (v := .null) (by decide) (Nat.le_of_ble_eq_true rfl) rfl (k_X9_numbered hR4 h7) ?_
    refine pm_astore_nN dX9_changed_13 (by decide) rfl rfl ?_
    refine pm_aload_nN dX9_changed_14 rfl ?_
    refine pm_ifnullN (x := 0) (tgt := 37) dX9_changed_15 (by decide) ?_
    refine pm_ldc (v := (-1000001)) dX9_changed_37 kc_X9_175 ?_
    cases h
    exact pm_iret dX9_changed_39 rfl (Nat.le_refl _) (Nat.le_refl _) ⟨rfl, rfl, hR4, hk5⟩
  | some o8 =>
    replace h := om_s rfl h
    obtain ⟨c37, h⟩ := ck_some h
    have hs_o8 := run_sp c37
    refine dx_cVp (j := 0) (M := M_X9_changed) (Mc := M_X9_numbered) (dc := 1) (As := [.int (rF u1 0 8)]) (st := []) hR4 dX9_changed_10 ml_X9_169 ⟨TX9, 14, rfl⟩ rfl (v := .ref (b + o8)) (by decide) (Nat.le_of_ble_eq_true rfl) rfl (k_X9_numbered hR4 h7) ?_
    refine pm_astore_n dX9_changed_13 (by decide) rfl rfl ?_
    refine pm_aload_n dX9_changed_14 rfl ?_
    refine pm_ifnull dX9_changed_15 ?_
    refine pm_iload_n dX9_changed_18 rfl ?_
    refine pm_if_lt (tgt := 37) dX9_changed_19 (by decide) (fun c9 => ?_) (fun c9 => ?_)
    · replace h := it_t c9 h
      refine pm_ldc (v := (-1000001)) dX9_changed_37 kc_X9_175 ?_
      cases h
      exact pm_iret dX9_changed_39 rfl (Nat.le_refl _) (Nat.le_refl _) ⟨rfl, rfl, hR4, hk5⟩
    · replace h := it_f c9 h
      refine pm_iload_n dX9_changed_22 rfl ?_
      refine pm_aload_n dX9_changed_23 rfl ?_
      refine dx_gi (j := o8) hR4 dX9_changed_24 fl_X9_144 (sp_Run_self hs_o8) rfl ?_
      refine pm_icmp_ge (tgt := 37) dX9_changed_27 (by decide) (fun c10 => ?_) (fun c10 => ?_)
      · replace h := it_t c10 h
        refine pm_ldc (v := (-1000001)) dX9_changed_37 kc_X9_175 ?_
        cases h
        exact pm_iret dX9_changed_39 rfl (Nat.le_refl _) (Nat.le_refl _) ⟨rfl, rfl, hR4, hk5⟩
      · replace h := it_f c10 h
        refine pm_iload_n dX9_changed_30 rfl ?_
        refine dx_cSp (M := M_X9_changed) (Mc := M_X9_isPlacesWhat) (dc := 0) (As := [.int x2]) (st := []) dX9_changed_31 ml_X9_238 (by decide) (Nat.le_of_ble_eq_true rfl) rfl (k_X9_isPlacesWhat rfl) ?_
        refine pm_if_ne (tgt := 40) dX9_changed_34 (by decide) (fun c11 => ?_) (fun c11 => ?_)
        · replace h := it_f c11 h
          refine pm_aload_n dX9_changed_40 rfl ?_
          refine pm_aload_n dX9_changed_41 rfl ?_
          refine pm_iload_n dX9_changed_42 rfl ?_
          obtain ⟨r12, h13, h⟩ := ob_some h
          refine dx_cVv (j := 0) (M := M_X9_changed) (Mc := M_X9_replay) (dc := 3) (As := [.ref (b + o8), .int x1]) (st := []) hR4 hk5 dX9_changed_43 ml_X9_147 ⟨TX9, 14, rfl⟩ rfl (by decide) (Nat.le_of_ble_eq_true rfl) rfl (k_X9_replay hR4 hs_o8 h13) (fun w14 hR15 hk16 => ?_)
          refine pm_aload_n dX9_changed_46 rfl ?_
          refine pm_aload_n dX9_changed_47 rfl ?_
          refine pm_iload_n dX9_changed_48 rfl ?_
          refine pm_iconst (v := 1) dX9_changed_49 (by decide) ?_
          refine pm_iadd dX9_changed_50 ?_
          obtain ⟨r17, h18, h⟩ := ob_some h
          refine dx_cVv (j := 0) (M := M_X9_changed) (Mc := M_X9_replay) (dc := 3) (As := [.ref (b + o8), .int (x1 + 1)]) (st := []) hR15 hk16 dX9_changed_51 ml_X9_147 ⟨TX9, 14, rfl⟩ rfl (by decide) (Nat.le_of_ble_eq_true rfl) rfl (k_X9_replay hR15 hs_o8 h18) (fun w19 hR20 hk21 => ?_)
          refine pm_iconst (v := 0) dX9_changed_54 (by decide) ?_
          refine pm_istore dX9_changed_55 (by decide) rfl rfl ?_
          refine pm_iconst (v := 0) dX9_changed_57 (by decide) ?_
          refine pm_istore dX9_changed_58 (by decide) rfl rfl ?_
          refine pm_lw (L' := [none, some (.int x1), some (.int x2), some (.ref (b + o8)), some (.int 0), some (.int 0), none, none, none]) ⟨Or.inl rfl, Or.inr rfl, Or.inr rfl, Or.inr rfl, Or.inr rfl, Or.inr rfl, Or.inl rfl, Or.inl rfl, Or.inl rfl, trivial⟩ ?_
          obtain ⟨r32, h33, h⟩ := ob_some h
          refine lp_sound (P := fun (s : (Int32 × Int32)) => ∀ w1, rg shC b r17 n w1 → rg_k b shC.length w w1 → pm_X gs ro M_X9_changed 4 0 0 0 0 60 [none, some (.int x1), some (.int x2), some (.ref (b + o8)), some (.int s.1), some (.int s.2), none, none, none] [] n w1 (rg_post shC b n w (some (.int z.1)) z.2)) (E := (fun (r : Int32) => ∀ w1, rg shC b r17 n w1 → rg_k b shC.length w w1 → pm_X gs ro M_X9_changed 4 0 0 0 0 140 [none, none, none, none, some (.int r), none, none, none, none] [] n w1 (rg_post shC b n w (some (.int z.1)) z.2))) (fun s x hx hc he w1 hR1 hk1 => k_X9_changed_l60 hR1 hk1 hs_o8 hx hc (fun r q => he r q)) F _ r32 h33 ?_ _ hR20 hk21
          intro w34 hR35 hk36
          refine pm_iload dX9_changed_140 rfl ?_
          cases h
          exact pm_iret dX9_changed_142 rfl (Nat.le_refl _) (Nat.le_refl _) ⟨rfl, rfl, hR35, hk36⟩
        · replace h := it_t c11 h
          refine pm_ldc (v := (-1000001)) dX9_changed_37 kc_X9_175 ?_
          cases h
          exact pm_iret dX9_changed_39 rfl (Nat.le_refl _) (Nat.le_refl _) ⟨rfl, rfl, hR4, hk5⟩
