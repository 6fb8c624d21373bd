theorem dX10_adds_0 : decode cX10_adds 0 = .ok (.aload_n 0, 1) := by decide +kernel
theorem dX10_adds_1 : decode cX10_adds 1 = .ok (.getfield 126, 3) := by decide +kernel
theorem dX10_adds_4 : decode cX10_adds 4 = .ok (.iload_n 1, 1) := by decide +kernel
theorem dX10_adds_5 : decode cX10_adds 5 = .ok (.iconst 5, 1) := by decide +kernel
theorem dX10_adds_6 : decode cX10_adds 6 = .ok (.ishr, 1) := by decide +kernel
theorem dX10_adds_7 : decode cX10_adds 7 = .ok (.dup2, 1) := by decide +kernel
theorem dX10_adds_8 : decode cX10_adds 8 = .ok (.iaload, 1) := by decide +kernel
theorem dX10_adds_9 : decode cX10_adds 9 = .ok (.iconst 1, 1) := by decide +kernel
theorem dX10_adds_10 : decode cX10_adds 10 = .ok (.iload_n 1, 1) := by decide +kernel
theorem dX10_adds_11 : decode cX10_adds 11 = .ok (.bipush 31, 2) := by decide +kernel
theorem dX10_adds_13 : decode cX10_adds 13 = .ok (.iand, 1) := by decide +kernel
theorem dX10_adds_14 : decode cX10_adds 14 = .ok (.ishl, 1) := by decide +kernel
theorem dX10_adds_15 : decode cX10_adds 15 = .ok (.ior, 1) := by decide +kernel
theorem dX10_adds_16 : decode cX10_adds 16 = .ok (.iastore, 1) := by decide +kernel
theorem dX10_adds_17 : decode cX10_adds 17 = .ok (.return_, 1) := by decide +kernel
theorem dX10_changed_0 : decode cX10_changed 0 = .ok (.aload_n 0, 1) := by decide +kernel
theorem dX10_changed_1 : decode cX10_changed 1 = .ok (.iconst 0, 1) := by decide +kernel
theorem dX10_changed_2 : decode cX10_changed 2 = .ok (.putfield 276, 3) := by decide +kernel
theorem dX10_changed_5 : decode cX10_changed 5 = .ok (.aload_n 0, 1) := by decide +kernel
theorem dX10_changed_6 : decode cX10_changed 6 = .ok (.invokevirtual 289, 3) := by decide +kernel
theorem dX10_changed_9 : decode cX10_changed 9 = .ok (.istore_n 3, 1) := by decide +kernel
theorem dX10_changed_10 : decode cX10_changed 10 = .ok (.aload_n 0, 1) := by decide +kernel
theorem dX10_changed_11 : decode cX10_changed 11 = .ok (.iload_n 1, 1) := by decide +kernel
theorem dX10_changed_12 : decode cX10_changed 12 = .ok (.invokevirtual 301, 3) := by decide +kernel
theorem dX10_changed_15 : decode cX10_changed 15 = .ok (.ifCond .eq 22, 3) := by decide +kernel
theorem dX10_changed_18 : decode cX10_changed 18 = .ok (.iload_n 1, 1) := by decide +kernel
theorem dX10_changed_19 : decode cX10_changed 19 = .ok (.aload_n 0, 1) := by decide +kernel
theorem dX10_changed_20 : decode cX10_changed 20 = .ok (.getfield 78, 3) := by decide +kernel
theorem dX10_changed_23 : decode cX10_changed 23 = .ok (.iload_n 3, 1) := by decide +kernel
theorem dX10_changed_24 : decode cX10_changed 24 = .ok (.iaload, 1) := by decide +kernel
theorem dX10_changed_25 : decode cX10_changed 25 = .ok (.if_icmp .eq 12, 3) := by decide +kernel
theorem dX10_changed_28 : decode cX10_changed 28 = .ok (.iload_n 2, 1) := by decide +kernel
theorem dX10_changed_29 : decode cX10_changed 29 = .ok (.iconst 0, 1) := by decide +kernel
theorem dX10_changed_30 : decode cX10_changed 30 = .ok (.iconst 1, 1) := by decide +kernel
theorem dX10_changed_31 : decode cX10_changed 31 = .ok (.invokestatic 138, 3) := by decide +kernel
theorem dX10_changed_34 : decode cX10_changed 34 = .ok (.ifCond .ne 7, 3) := by decide +kernel
theorem dX10_changed_37 : decode cX10_changed 37 = .ok (.ldc_w 304, 3) := by decide +kernel
theorem dX10_changed_40 : decode cX10_changed 40 = .ok (.ireturn, 1) := by decide +kernel
theorem dX10_changed_41 : decode cX10_changed 41 = .ok (.aload_n 0, 1) := by decide +kernel
theorem dX10_changed_42 : decode cX10_changed 42 = .ok (.iload_n 3, 1) := by decide +kernel
theorem dX10_changed_43 : decode cX10_changed 43 = .ok (.iload_n 1, 1) := by decide +kernel
theorem dX10_changed_44 : decode cX10_changed 44 = .ok (.invokevirtual 292, 3) := by decide +kernel
theorem dX10_changed_47 : decode cX10_changed 47 = .ok (.iconst 0, 1) := by decide +kernel
theorem dX10_changed_48 : decode cX10_changed 48 = .ok (.istore 4, 2) := by decide +kernel
theorem dX10_changed_50 : decode cX10_changed 50 = .ok (.iload 4, 2) := by decide +kernel
theorem dX10_changed_52 : decode cX10_changed 52 = .ok (.bipush 40, 2) := by decide +kernel
theorem dX10_changed_54 : decode cX10_changed 54 = .ok (.if_icmp .ge 26, 3) := by decide +kernel
theorem dX10_changed_57 : decode cX10_changed 57 = .ok (.aload_n 0, 1) := by decide +kernel
theorem dX10_changed_58 : decode cX10_changed 58 = .ok (.getfield 120, 3) := by decide +kernel
theorem dX10_changed_61 : decode cX10_changed 61 = .ok (.iload 4, 2) := by decide +kernel
theorem dX10_changed_63 : decode cX10_changed 63 = .ok (.aload_n 0, 1) := by decide +kernel
theorem dX10_changed_64 : decode cX10_changed 64 = .ok (.getfield 114, 3) := by decide +kernel
theorem dX10_changed_67 : decode cX10_changed 67 = .ok (.bipush 80, 2) := by decide +kernel
theorem dX10_changed_69 : decode cX10_changed 69 = .ok (.iload 4, 2) := by decide +kernel
theorem dX10_changed_71 : decode cX10_changed 71 = .ok (.iadd, 1) := by decide +kernel
theorem dX10_changed_72 : decode cX10_changed 72 = .ok (.iaload, 1) := by decide +kernel
theorem dX10_changed_73 : decode cX10_changed 73 = .ok (.iastore, 1) := by decide +kernel
theorem dX10_changed_74 : decode cX10_changed 74 = .ok (.iinc 4 1, 3) := by decide +kernel
theorem dX10_changed_77 : decode cX10_changed 77 = .ok (.goto (-27), 3) := by decide +kernel
theorem dX10_changed_80 : decode cX10_changed 80 = .ok (.aload_n 0, 1) := by decide +kernel
theorem dX10_changed_81 : decode cX10_changed 81 = .ok (.iload_n 3, 1) := by decide +kernel
theorem dX10_changed_82 : decode cX10_changed 82 = .ok (.iload_n 1, 1) := by decide +kernel
theorem dX10_changed_83 : decode cX10_changed 83 = .ok (.iconst 1, 1) := by decide +kernel
theorem dX10_changed_84 : decode cX10_changed 84 = .ok (.iadd, 1) := by decide +kernel
theorem dX10_changed_85 : decode cX10_changed 85 = .ok (.invokevirtual 292, 3) := by decide +kernel
theorem dX10_changed_88 : decode cX10_changed 88 = .ok (.iconst 0, 1) := by decide +kernel
theorem dX10_changed_89 : decode cX10_changed 89 = .ok (.istore 4, 2) := by decide +kernel
theorem dX10_changed_91 : decode cX10_changed 91 = .ok (.iload_n 2, 1) := by decide +kernel
theorem dX10_changed_92 : decode cX10_changed 92 = .ok (.ifCond .ne 7, 3) := by decide +kernel
theorem dX10_changed_95 : decode cX10_changed 95 = .ok (.iconst 0, 1) := by decide +kernel
theorem dX10_changed_96 : decode cX10_changed 96 = .ok (.goto 5, 3) := by decide +kernel
theorem dX10_changed_99 : decode cX10_changed 99 = .ok (.bipush 8, 2) := by decide +kernel
theorem dX10_changed_101 : decode cX10_changed 101 = .ok (.istore 5, 2) := by decide +kernel
theorem dX10_changed_103 : decode cX10_changed 103 = .ok (.iload_n 2, 1) := by decide +kernel
theorem dX10_changed_104 : decode cX10_changed 104 = .ok (.ifCond .ne 8, 3) := by decide +kernel
theorem dX10_changed_107 : decode cX10_changed 107 = .ok (.bipush 8, 2) := by decide +kernel
theorem dX10_changed_109 : decode cX10_changed 109 = .ok (.goto 5, 3) := by decide +kernel
theorem dX10_changed_112 : decode cX10_changed 112 = .ok (.bipush 32, 2) := by decide +kernel
theorem dX10_changed_114 : decode cX10_changed 114 = .ok (.istore 6, 2) := by decide +kernel
theorem dX10_changed_116 : decode cX10_changed 116 = .ok (.iconst 0, 1) := by decide +kernel
theorem dX10_changed_117 : decode cX10_changed 117 = .ok (.istore 7, 2) := by decide +kernel
theorem dX10_changed_119 : decode cX10_changed 119 = .ok (.iload 7, 2) := by decide +kernel
theorem dX10_changed_121 : decode cX10_changed 121 = .ok (.iload 6, 2) := by decide +kernel
theorem dX10_changed_123 : decode cX10_changed 123 = .ok (.if_icmp .ge 48, 3) := by decide +kernel
theorem dX10_changed_126 : decode cX10_changed 126 = .ok (.iload 4, 2) := by decide +kernel
theorem dX10_changed_128 : decode cX10_changed 128 = .ok (.aload_n 0, 1) := by decide +kernel
theorem dX10_changed_129 : decode cX10_changed 129 = .ok (.getfield 114, 3) := by decide +kernel
theorem dX10_changed_132 : decode cX10_changed 132 = .ok (.bipush 80, 2) := by decide +kernel
theorem dX10_changed_134 : decode cX10_changed 134 = .ok (.iload 5, 2) := by decide +kernel
theorem dX10_changed_136 : decode cX10_changed 136 = .ok (.iadd, 1) := by decide +kernel
theorem dX10_changed_137 : decode cX10_changed 137 = .ok (.iload 7, 2) := by decide +kernel
theorem dX10_changed_139 : decode cX10_changed 139 = .ok (.iadd, 1) := by decide +kernel
theorem dX10_changed_140 : decode cX10_changed 140 = .ok (.iaload, 1) := by decide +kernel
theorem dX10_changed_141 : decode cX10_changed 141 = .ok (.aload_n 0, 1) := by decide +kernel
theorem dX10_changed_142 : decode cX10_changed 142 = .ok (.getfield 120, 3) := by decide +kernel
theorem dX10_changed_145 : decode cX10_changed 145 = .ok (.iload 5, 2) := by decide +kernel
theorem dX10_changed_147 : decode cX10_changed 147 = .ok (.iload 7, 2) := by decide +kernel
theorem dX10_changed_149 : decode cX10_changed 149 = .ok (.iadd, 1) := by decide +kernel
theorem dX10_changed_150 : decode cX10_changed 150 = .ok (.iaload, 1) := by decide +kernel
theorem dX10_changed_151 : decode cX10_changed 151 = .ok (.if_icmp .eq 10, 3) := by decide +kernel
theorem dX10_changed_154 : decode cX10_changed 154 = .ok (.iconst 1, 1) := by decide +kernel
theorem dX10_changed_155 : decode cX10_changed 155 = .ok (.iload 7, 2) := by decide +kernel
theorem dX10_changed_157 : decode cX10_changed 157 = .ok (.ishl, 1) := by decide +kernel
theorem dX10_changed_158 : decode cX10_changed 158 = .ok (.goto 4, 3) := by decide +kernel
theorem dX10_changed_161 : decode cX10_changed 161 = .ok (.iconst 0, 1) := by decide +kernel
theorem dX10_changed_162 : decode cX10_changed 162 = .ok (.ior, 1) := by decide +kernel
theorem dX10_changed_163 : decode cX10_changed 163 = .ok (.istore 4, 2) := by decide +kernel
theorem dX10_changed_165 : decode cX10_changed 165 = .ok (.iinc 7 1, 3) := by decide +kernel
theorem dX10_changed_168 : decode cX10_changed 168 = .ok (.goto (-49), 3) := by decide +kernel
theorem dX10_changed_171 : decode cX10_changed 171 = .ok (.iload 4, 2) := by decide +kernel
theorem dX10_changed_173 : decode cX10_changed 173 = .ok (.ireturn, 1) := by decide +kernel
theorem dX10_clearsLooked_0 : decode cX10_clearsLooked 0 = .ok (.iconst 0, 1) := by decide +kernel
theorem dX10_clearsLooked_1 : decode cX10_clearsLooked 1 = .ok (.istore_n 1, 1) := by decide +kernel
theorem dX10_clearsLooked_2 : decode cX10_clearsLooked 2 = .ok (.iload_n 1, 1) := by decide +kernel
theorem dX10_clearsLooked_3 : decode cX10_clearsLooked 3 = .ok (.bipush 119, 2) := by decide +kernel
theorem dX10_clearsLooked_5 : decode cX10_clearsLooked 5 = .ok (.if_icmp .ge 16, 3) := by decide +kernel
theorem dX10_clearsLooked_8 : decode cX10_clearsLooked 8 = .ok (.aload_n 0, 1) := by decide +kernel
theorem dX10_clearsLooked_9 : decode cX10_clearsLooked 9 = .ok (.getfield 126, 3) := by decide +kernel
theorem dX10_clearsLooked_12 : decode cX10_clearsLooked 12 = .ok (.iload_n 1, 1) := by decide +kernel
theorem dX10_clearsLooked_13 : decode cX10_clearsLooked 13 = .ok (.iconst 0, 1) := by decide +kernel
theorem dX10_clearsLooked_14 : decode cX10_clearsLooked 14 = .ok (.iastore, 1) := by decide +kernel
theorem dX10_clearsLooked_15 : decode cX10_clearsLooked 15 = .ok (.iinc 1 1, 3) := by decide +kernel
theorem dX10_clearsLooked_18 : decode cX10_clearsLooked 18 = .ok (.goto (-16), 3) := by decide +kernel
theorem dX10_clearsLooked_21 : decode cX10_clearsLooked 21 = .ok (.return_, 1) := by decide +kernel
theorem dX10_laysRests_0 : decode cX10_laysRests 0 = .ok (.iconst 0, 1) := by decide +kernel
theorem dX10_laysRests_1 : decode cX10_laysRests 1 = .ok (.istore_n 3, 1) := by decide +kernel
theorem dX10_laysRests_2 : decode cX10_laysRests 2 = .ok (.iload_n 3, 1) := by decide +kernel
theorem dX10_laysRests_3 : decode cX10_laysRests 3 = .ok (.sipush 4760, 3) := by decide +kernel
theorem dX10_laysRests_6 : decode cX10_laysRests 6 = .ok (.if_icmp .ge 16, 3) := by decide +kernel
theorem dX10_laysRests_9 : decode cX10_laysRests 9 = .ok (.aload_n 0, 1) := by decide +kernel
theorem dX10_laysRests_10 : decode cX10_laysRests 10 = .ok (.getfield 123, 3) := by decide +kernel
theorem dX10_laysRests_13 : decode cX10_laysRests 13 = .ok (.iload_n 3, 1) := by decide +kernel
theorem dX10_laysRests_14 : decode cX10_laysRests 14 = .ok (.iconst 0, 1) := by decide +kernel
theorem dX10_laysRests_15 : decode cX10_laysRests 15 = .ok (.iastore, 1) := by decide +kernel
theorem dX10_laysRests_16 : decode cX10_laysRests 16 = .ok (.iinc 3 1, 3) := by decide +kernel
theorem dX10_laysRests_19 : decode cX10_laysRests 19 = .ok (.goto (-17), 3) := by decide +kernel
theorem dX10_laysRests_22 : decode cX10_laysRests 22 = .ok (.aload_n 0, 1) := by decide +kernel
theorem dX10_laysRests_23 : decode cX10_laysRests 23 = .ok (.iload_n 1, 1) := by decide +kernel
theorem dX10_laysRests_24 : decode cX10_laysRests 24 = .ok (.putfield 117, 3) := by decide +kernel
theorem dX10_laysRests_27 : decode cX10_laysRests 27 = .ok (.aload_n 0, 1) := by decide +kernel
theorem dX10_laysRests_28 : decode cX10_laysRests 28 = .ok (.iconst 0, 1) := by decide +kernel
theorem dX10_laysRests_29 : decode cX10_laysRests 29 = .ok (.putfield 264, 3) := by decide +kernel
theorem dX10_laysRests_32 : decode cX10_laysRests 32 = .ok (.aload_n 0, 1) := by decide +kernel
theorem dX10_laysRests_33 : decode cX10_laysRests 33 = .ok (.aload_n 0, 1) := by decide +kernel
theorem dX10_laysRests_34 : decode cX10_laysRests 34 = .ok (.getfield 114, 3) := by decide +kernel
theorem dX10_laysRests_37 : decode cX10_laysRests 37 = .ok (.invokevirtual 162, 3) := by decide +kernel
theorem dX10_laysRests_40 : decode cX10_laysRests 40 = .ok (.aload_n 0, 1) := by decide +kernel
theorem dX10_laysRests_41 : decode cX10_laysRests 41 = .ok (.invokevirtual 324, 3) := by decide +kernel
theorem dX10_laysRests_44 : decode cX10_laysRests 44 = .ok (.aload_n 0, 1) := by decide +kernel
theorem dX10_laysRests_45 : decode cX10_laysRests 45 = .ok (.getfield 114, 3) := by decide +kernel
theorem dX10_laysRests_48 : decode cX10_laysRests 48 = .ok (.sipush 133, 3) := by decide +kernel
theorem dX10_laysRests_51 : decode cX10_laysRests 51 = .ok (.iaload, 1) := by decide +kernel
theorem dX10_laysRests_52 : decode cX10_laysRests 52 = .ok (.iload_n 2, 1) := by decide +kernel
theorem dX10_laysRests_53 : decode cX10_laysRests 53 = .ok (.if_icmp .ge 61, 3) := by decide +kernel
theorem dX10_laysRests_56 : decode cX10_laysRests 56 = .ok (.aload_n 0, 1) := by decide +kernel
theorem dX10_laysRests_57 : decode cX10_laysRests 57 = .ok (.invokevirtual 327, 3) := by decide +kernel
theorem dX10_laysRests_60 : decode cX10_laysRests 60 = .ok (.aload_n 0, 1) := by decide +kernel
theorem dX10_laysRests_61 : decode cX10_laysRests 61 = .ok (.aload_n 0, 1) := by decide +kernel
theorem dX10_laysRests_62 : decode cX10_laysRests 62 = .ok (.getfield 114, 3) := by decide +kernel
theorem dX10_laysRests_65 : decode cX10_laysRests 65 = .ok (.iload_n 1, 1) := by decide +kernel
theorem dX10_laysRests_66 : decode cX10_laysRests 66 = .ok (.aload_n 0, 1) := by decide +kernel
theorem dX10_laysRests_67 : decode cX10_laysRests 67 = .ok (.getfield 264, 3) := by decide +kernel
theorem dX10_laysRests_70 : decode cX10_laysRests 70 = .ok (.invokevirtual 247, 3) := by decide +kernel
theorem dX10_laysRests_73 : decode cX10_laysRests 73 = .ok (.aload_n 0, 1) := by decide +kernel
theorem dX10_laysRests_74 : decode cX10_laysRests 74 = .ok (.getfield 192, 3) := by decide +kernel
theorem dX10_laysRests_77 : decode cX10_laysRests 77 = .ok (.iconst (-1), 1) := by decide +kernel
theorem dX10_laysRests_78 : decode cX10_laysRests 78 = .ok (.if_icmp .eq 13, 3) := by decide +kernel
theorem dX10_laysRests_81 : decode cX10_laysRests 81 = .ok (.aload_n 0, 1) := by decide +kernel
theorem dX10_laysRests_82 : decode cX10_laysRests 82 = .ok (.dup, 1) := by decide +kernel
theorem dX10_laysRests_83 : decode cX10_laysRests 83 = .ok (.getfield 264, 3) := by decide +kernel
theorem dX10_laysRests_86 : decode cX10_laysRests 86 = .ok (.iconst 1, 1) := by decide +kernel
theorem dX10_laysRests_87 : decode cX10_laysRests 87 = .ok (.iadd, 1) := by decide +kernel
theorem dX10_laysRests_88 : decode cX10_laysRests 88 = .ok (.putfield 264, 3) := by decide +kernel
theorem dX10_laysRests_91 : decode cX10_laysRests 91 = .ok (.aload_n 0, 1) := by decide +kernel
theorem dX10_laysRests_92 : decode cX10_laysRests 92 = .ok (.getfield 186, 3) := by decide +kernel
theorem dX10_laysRests_95 : decode cX10_laysRests 95 = .ok (.iconst (-1), 1) := by decide +kernel
theorem dX10_laysRests_96 : decode cX10_laysRests 96 = .ok (.if_icmp .eq 11, 3) := by decide +kernel
theorem dX10_laysRests_99 : decode cX10_laysRests 99 = .ok (.aload_n 0, 1) := by decide +kernel
theorem dX10_laysRests_100 : decode cX10_laysRests 100 = .ok (.aload_n 0, 1) := by decide +kernel
theorem dX10_laysRests_101 : decode cX10_laysRests 101 = .ok (.getfield 186, 3) := by decide +kernel
theorem dX10_laysRests_104 : decode cX10_laysRests 104 = .ok (.invokevirtual 318, 3) := by decide +kernel
theorem dX10_laysRests_107 : decode cX10_laysRests 107 = .ok (.aload_n 0, 1) := by decide +kernel
theorem dX10_laysRests_108 : decode cX10_laysRests 108 = .ok (.invokevirtual 324, 3) := by decide +kernel
theorem dX10_laysRests_111 : decode cX10_laysRests 111 = .ok (.goto (-67), 3) := by decide +kernel
theorem dX10_laysRests_114 : decode cX10_laysRests 114 = .ok (.return_, 1) := by decide +kernel
theorem dX10_looks_0 : decode cX10_looks 0 = .ok (.aload_n 0, 1) := by decide +kernel
theorem dX10_looks_1 : decode cX10_looks 1 = .ok (.getfield 114, 3) := by decide +kernel
theorem dX10_looks_4 : decode cX10_looks 4 = .ok (.bipush 120, 2) := by decide +kernel
theorem dX10_looks_6 : decode cX10_looks 6 = .ok (.iaload, 1) := by decide +kernel
theorem dX10_looks_7 : decode cX10_looks 7 = .ok (.istore_n 1, 1) := by decide +kernel
theorem dX10_looks_8 : decode cX10_looks 8 = .ok (.aload_n 0, 1) := by decide +kernel
theorem dX10_looks_9 : decode cX10_looks 9 = .ok (.aload_n 0, 1) := by decide +kernel
theorem dX10_looks_10 : decode cX10_looks 10 = .ok (.getfield 117, 3) := by decide +kernel
theorem dX10_looks_13 : decode cX10_looks 13 = .ok (.iload_n 1, 1) := by decide +kernel
theorem dX10_looks_14 : decode cX10_looks 14 = .ok (.invokevirtual 189, 3) := by decide +kernel
theorem dX10_looks_17 : decode cX10_looks 17 = .ok (.istore_n 2, 1) := by decide +kernel
theorem dX10_looks_18 : decode cX10_looks 18 = .ok (.aload_n 0, 1) := by decide +kernel
theorem dX10_looks_19 : decode cX10_looks 19 = .ok (.invokevirtual 312, 3) := by decide +kernel
theorem dX10_looks_22 : decode cX10_looks 22 = .ok (.iload_n 2, 1) := by decide +kernel
theorem dX10_looks_23 : decode cX10_looks 23 = .ok (.iconst (-1), 1) := by decide +kernel
theorem dX10_looks_24 : decode cX10_looks 24 = .ok (.if_icmp .ne 4, 3) := by decide +kernel
theorem dX10_looks_27 : decode cX10_looks 27 = .ok (.return_, 1) := by decide +kernel
theorem dX10_looks_28 : decode cX10_looks 28 = .ok (.aload_n 0, 1) := by decide +kernel
theorem dX10_looks_29 : decode cX10_looks 29 = .ok (.getfield 36, 3) := by decide +kernel
theorem dX10_looks_32 : decode cX10_looks 32 = .ok (.bipush 64, 2) := by decide +kernel
theorem dX10_looks_34 : decode cX10_looks 34 = .ok (.aload_n 0, 1) := by decide +kernel
theorem dX10_looks_35 : decode cX10_looks 35 = .ok (.getfield 117, 3) := by decide +kernel
theorem dX10_looks_38 : decode cX10_looks 38 = .ok (.imul, 1) := by decide +kernel
theorem dX10_looks_39 : decode cX10_looks 39 = .ok (.iload_n 1, 1) := by decide +kernel
theorem dX10_looks_40 : decode cX10_looks 40 = .ok (.iadd, 1) := by decide +kernel
theorem dX10_looks_41 : decode cX10_looks 41 = .ok (.iaload, 1) := by decide +kernel
theorem dX10_looks_42 : decode cX10_looks 42 = .ok (.istore_n 3, 1) := by decide +kernel
theorem dX10_looks_43 : decode cX10_looks 43 = .ok (.aload_n 0, 1) := by decide +kernel
theorem dX10_looks_44 : decode cX10_looks 44 = .ok (.getfield 39, 3) := by decide +kernel
theorem dX10_looks_47 : decode cX10_looks 47 = .ok (.bipush 64, 2) := by decide +kernel
theorem dX10_looks_49 : decode cX10_looks 49 = .ok (.aload_n 0, 1) := by decide +kernel
theorem dX10_looks_50 : decode cX10_looks 50 = .ok (.getfield 117, 3) := by decide +kernel
theorem dX10_looks_53 : decode cX10_looks 53 = .ok (.imul, 1) := by decide +kernel
theorem dX10_looks_54 : decode cX10_looks 54 = .ok (.iload_n 1, 1) := by decide +kernel
theorem dX10_looks_55 : decode cX10_looks 55 = .ok (.iadd, 1) := by decide +kernel
theorem dX10_looks_56 : decode cX10_looks 56 = .ok (.iaload, 1) := by decide +kernel
theorem dX10_looks_57 : decode cX10_looks 57 = .ok (.istore 4, 2) := by decide +kernel
theorem dX10_looks_59 : decode cX10_looks 59 = .ok (.iload_n 2, 1) := by decide +kernel
theorem dX10_looks_60 : decode cX10_looks 60 = .ok (.iconst 3, 1) := by decide +kernel
theorem dX10_looks_61 : decode cX10_looks 61 = .ok (.if_icmp .eq 37, 3) := by decide +kernel
theorem dX10_looks_64 : decode cX10_looks 64 = .ok (.iload_n 2, 1) := by decide +kernel
theorem dX10_looks_65 : decode cX10_looks 65 = .ok (.bipush 11, 2) := by decide +kernel
theorem dX10_looks_67 : decode cX10_looks 67 = .ok (.if_icmp .eq 31, 3) := by decide +kernel
theorem dX10_looks_70 : decode cX10_looks 70 = .ok (.iload_n 2, 1) := by decide +kernel
theorem dX10_looks_71 : decode cX10_looks 71 = .ok (.bipush 14, 2) := by decide +kernel
theorem dX10_looks_73 : decode cX10_looks 73 = .ok (.if_icmp .eq 25, 3) := by decide +kernel
theorem dX10_looks_76 : decode cX10_looks 76 = .ok (.iload_n 2, 1) := by decide +kernel
theorem dX10_looks_77 : decode cX10_looks 77 = .ok (.bipush 13, 2) := by decide +kernel
theorem dX10_looks_79 : decode cX10_looks 79 = .ok (.if_icmp .eq 19, 3) := by decide +kernel
theorem dX10_looks_82 : decode cX10_looks 82 = .ok (.iload_n 2, 1) := by decide +kernel
theorem dX10_looks_83 : decode cX10_looks 83 = .ok (.iconst 4, 1) := by decide +kernel
theorem dX10_looks_84 : decode cX10_looks 84 = .ok (.bipush 10, 2) := by decide +kernel
theorem dX10_looks_86 : decode cX10_looks 86 = .ok (.invokestatic 138, 3) := by decide +kernel
theorem dX10_looks_89 : decode cX10_looks 89 = .ok (.ifCond .ne 9, 3) := by decide +kernel
theorem dX10_looks_92 : decode cX10_looks 92 = .ok (.iload_n 2, 1) := by decide +kernel
theorem dX10_looks_93 : decode cX10_looks 93 = .ok (.bipush 12, 2) := by decide +kernel
theorem dX10_looks_95 : decode cX10_looks 95 = .ok (.if_icmp .ne 9, 3) := by decide +kernel
theorem dX10_looks_98 : decode cX10_looks 98 = .ok (.aload_n 0, 1) := by decide +kernel
theorem dX10_looks_99 : decode cX10_looks 99 = .ok (.iload 4, 2) := by decide +kernel
theorem dX10_looks_101 : decode cX10_looks 101 = .ok (.invokevirtual 321, 3) := by decide +kernel
theorem dX10_looks_104 : decode cX10_looks 104 = .ok (.iload_n 2, 1) := by decide +kernel
theorem dX10_looks_105 : decode cX10_looks 105 = .ok (.iconst 4, 1) := by decide +kernel
theorem dX10_looks_106 : decode cX10_looks 106 = .ok (.bipush 10, 2) := by decide +kernel
theorem dX10_looks_108 : decode cX10_looks 108 = .ok (.invokestatic 138, 3) := by decide +kernel
theorem dX10_looks_111 : decode cX10_looks 111 = .ok (.ifCond .ne 9, 3) := by decide +kernel
theorem dX10_looks_114 : decode cX10_looks 114 = .ok (.iload_n 2, 1) := by decide +kernel
theorem dX10_looks_115 : decode cX10_looks 115 = .ok (.bipush 12, 2) := by decide +kernel
theorem dX10_looks_117 : decode cX10_looks 117 = .ok (.if_icmp .ne 21, 3) := by decide +kernel
theorem dX10_looks_120 : decode cX10_looks 120 = .ok (.aload_n 0, 1) := by decide +kernel
theorem dX10_looks_121 : decode cX10_looks 121 = .ok (.aload_n 0, 1) := by decide +kernel
theorem dX10_looks_122 : decode cX10_looks 122 = .ok (.getfield 42, 3) := by decide +kernel
theorem dX10_looks_125 : decode cX10_looks 125 = .ok (.bipush 64, 2) := by decide +kernel
theorem dX10_looks_127 : decode cX10_looks 127 = .ok (.aload_n 0, 1) := by decide +kernel
theorem dX10_looks_128 : decode cX10_looks 128 = .ok (.getfield 117, 3) := by decide +kernel
theorem dX10_looks_131 : decode cX10_looks 131 = .ok (.imul, 1) := by decide +kernel
theorem dX10_looks_132 : decode cX10_looks 132 = .ok (.iload_n 1, 1) := by decide +kernel
theorem dX10_looks_133 : decode cX10_looks 133 = .ok (.iadd, 1) := by decide +kernel
theorem dX10_looks_134 : decode cX10_looks 134 = .ok (.iaload, 1) := by decide +kernel
theorem dX10_looks_135 : decode cX10_looks 135 = .ok (.invokevirtual 321, 3) := by decide +kernel
theorem dX10_looks_138 : decode cX10_looks 138 = .ok (.iload_n 2, 1) := by decide +kernel
theorem dX10_looks_139 : decode cX10_looks 139 = .ok (.bipush 14, 2) := by decide +kernel
theorem dX10_looks_141 : decode cX10_looks 141 = .ok (.if_icmp .ne 8, 3) := by decide +kernel
theorem dX10_looks_144 : decode cX10_looks 144 = .ok (.aload_n 0, 1) := by decide +kernel
theorem dX10_looks_145 : decode cX10_looks 145 = .ok (.iload_n 3, 1) := by decide +kernel
theorem dX10_looks_146 : decode cX10_looks 146 = .ok (.invokevirtual 321, 3) := by decide +kernel
theorem dX10_looks_149 : decode cX10_looks 149 = .ok (.iload_n 2, 1) := by decide +kernel
theorem dX10_looks_150 : decode cX10_looks 150 = .ok (.bipush 13, 2) := by decide +kernel
theorem dX10_looks_152 : decode cX10_looks 152 = .ok (.if_icmp .ne 39, 3) := by decide +kernel
theorem dX10_looks_155 : decode cX10_looks 155 = .ok (.aload_n 0, 1) := by decide +kernel
theorem dX10_looks_156 : decode cX10_looks 156 = .ok (.getfield 114, 3) := by decide +kernel
theorem dX10_looks_159 : decode cX10_looks 159 = .ok (.bipush 40, 2) := by decide +kernel
theorem dX10_looks_161 : decode cX10_looks 161 = .ok (.iload 4, 2) := by decide +kernel
theorem dX10_looks_163 : decode cX10_looks 163 = .ok (.iadd, 1) := by decide +kernel
theorem dX10_looks_164 : decode cX10_looks 164 = .ok (.iaload, 1) := by decide +kernel
theorem dX10_looks_165 : decode cX10_looks 165 = .ok (.iconst 0, 1) := by decide +kernel
theorem dX10_looks_166 : decode cX10_looks 166 = .ok (.bipush 31, 2) := by decide +kernel
theorem dX10_looks_168 : decode cX10_looks 168 = .ok (.invokestatic 138, 3) := by decide +kernel
theorem dX10_looks_171 : decode cX10_looks 171 = .ok (.ifCond .eq 20, 3) := by decide +kernel
theorem dX10_looks_174 : decode cX10_looks 174 = .ok (.aload_n 0, 1) := by decide +kernel
theorem dX10_looks_175 : decode cX10_looks 175 = .ok (.bipush 8, 2) := by decide +kernel
theorem dX10_looks_177 : decode cX10_looks 177 = .ok (.aload_n 0, 1) := by decide +kernel
theorem dX10_looks_178 : decode cX10_looks 178 = .ok (.getfield 114, 3) := by decide +kernel
theorem dX10_looks_181 : decode cX10_looks 181 = .ok (.bipush 40, 2) := by decide +kernel
theorem dX10_looks_183 : decode cX10_looks 183 = .ok (.iload 4, 2) := by decide +kernel
theorem dX10_looks_185 : decode cX10_looks 185 = .ok (.iadd, 1) := by decide +kernel
theorem dX10_looks_186 : decode cX10_looks 186 = .ok (.iaload, 1) := by decide +kernel
theorem dX10_looks_187 : decode cX10_looks 187 = .ok (.iadd, 1) := by decide +kernel
theorem dX10_looks_188 : decode cX10_looks 188 = .ok (.invokevirtual 321, 3) := by decide +kernel
theorem dX10_looks_191 : decode cX10_looks 191 = .ok (.iload_n 2, 1) := by decide +kernel
theorem dX10_looks_192 : decode cX10_looks 192 = .ok (.bipush 19, 2) := by decide +kernel
theorem dX10_looks_194 : decode cX10_looks 194 = .ok (.if_icmp .eq 9, 3) := by decide +kernel
theorem dX10_looks_197 : decode cX10_looks 197 = .ok (.iload_n 2, 1) := by decide +kernel
theorem dX10_looks_198 : decode cX10_looks 198 = .ok (.bipush 20, 2) := by decide +kernel
theorem dX10_looks_200 : decode cX10_looks 200 = .ok (.if_icmp .ne 15, 3) := by decide +kernel
theorem dX10_looks_203 : decode cX10_looks 203 = .ok (.aload_n 0, 1) := by decide +kernel
theorem dX10_looks_204 : decode cX10_looks 204 = .ok (.sipush 3008, 3) := by decide +kernel
theorem dX10_looks_207 : decode cX10_looks 207 = .ok (.aload_n 0, 1) := by decide +kernel
theorem dX10_looks_208 : decode cX10_looks 208 = .ok (.getfield 264, 3) := by decide +kernel
theorem dX10_looks_211 : decode cX10_looks 211 = .ok (.iadd, 1) := by decide +kernel
theorem dX10_looks_212 : decode cX10_looks 212 = .ok (.invokevirtual 315, 3) := by decide +kernel
theorem dX10_looks_215 : decode cX10_looks 215 = .ok (.aload_n 0, 1) := by decide +kernel
theorem dX10_looks_216 : decode cX10_looks 216 = .ok (.aload_n 0, 1) := by decide +kernel
theorem dX10_looks_217 : decode cX10_looks 217 = .ok (.getfield 114, 3) := by decide +kernel
theorem dX10_looks_220 : decode cX10_looks 220 = .ok (.sipush 133, 3) := by decide +kernel
theorem dX10_looks_223 : decode cX10_looks 223 = .ok (.iaload, 1) := by decide +kernel
theorem dX10_looks_224 : decode cX10_looks 224 = .ok (.invokevirtual 315, 3) := by decide +kernel
theorem dX10_looks_227 : decode cX10_looks 227 = .ok (.return_, 1) := by decide +kernel
theorem dX10_looksAt_0 : decode cX10_looksAt 0 = .ok (.iconst 0, 1) := by decide +kernel
theorem dX10_looksAt_1 : decode cX10_looksAt 1 = .ok (.istore_n 2, 1) := by decide +kernel
theorem dX10_looksAt_2 : decode cX10_looksAt 2 = .ok (.iload_n 2, 1) := by decide +kernel
theorem dX10_looksAt_3 : decode cX10_looksAt 3 = .ok (.bipush 119, 2) := by decide +kernel
theorem dX10_looksAt_5 : decode cX10_looksAt 5 = .ok (.if_icmp .ge 29, 3) := by decide +kernel
theorem dX10_looksAt_8 : decode cX10_looksAt 8 = .ok (.aload_n 0, 1) := by decide +kernel
theorem dX10_looksAt_9 : decode cX10_looksAt 9 = .ok (.getfield 126, 3) := by decide +kernel
theorem dX10_looksAt_12 : decode cX10_looksAt 12 = .ok (.iload_n 2, 1) := by decide +kernel
theorem dX10_looksAt_13 : decode cX10_looksAt 13 = .ok (.dup2, 1) := by decide +kernel
theorem dX10_looksAt_14 : decode cX10_looksAt 14 = .ok (.iaload, 1) := by decide +kernel
theorem dX10_looksAt_15 : decode cX10_looksAt 15 = .ok (.aload_n 0, 1) := by decide +kernel
theorem dX10_looksAt_16 : decode cX10_looksAt 16 = .ok (.getfield 123, 3) := by decide +kernel
theorem dX10_looksAt_19 : decode cX10_looksAt 19 = .ok (.bipush 119, 2) := by decide +kernel
theorem dX10_looksAt_21 : decode cX10_looksAt 21 = .ok (.iload_n 1, 1) := by decide +kernel
theorem dX10_looksAt_22 : decode cX10_looksAt 22 = .ok (.imul, 1) := by decide +kernel
theorem dX10_looksAt_23 : decode cX10_looksAt 23 = .ok (.iload_n 2, 1) := by decide +kernel
theorem dX10_looksAt_24 : decode cX10_looksAt 24 = .ok (.iadd, 1) := by decide +kernel
theorem dX10_looksAt_25 : decode cX10_looksAt 25 = .ok (.iaload, 1) := by decide +kernel
theorem dX10_looksAt_26 : decode cX10_looksAt 26 = .ok (.ior, 1) := by decide +kernel
theorem dX10_looksAt_27 : decode cX10_looksAt 27 = .ok (.iastore, 1) := by decide +kernel
theorem dX10_looksAt_28 : decode cX10_looksAt 28 = .ok (.iinc 2 1, 3) := by decide +kernel
theorem dX10_looksAt_31 : decode cX10_looksAt 31 = .ok (.goto (-29), 3) := by decide +kernel
theorem dX10_looksAt_34 : decode cX10_looksAt 34 = .ok (.return_, 1) := by decide +kernel
theorem dX10_restPokes_0 : decode cX10_restPokes 0 = .ok (.aload_n 0, 1) := by decide +kernel
theorem dX10_restPokes_1 : decode cX10_restPokes 1 = .ok (.getfield 264, 3) := by decide +kernel
theorem dX10_restPokes_4 : decode cX10_restPokes 4 = .ok (.aload_n 0, 1) := by decide +kernel
theorem dX10_restPokes_5 : decode cX10_restPokes 5 = .ok (.getfield 60, 3) := by decide +kernel
theorem dX10_restPokes_8 : decode cX10_restPokes 8 = .ok (.aload_n 0, 1) := by decide +kernel
theorem dX10_restPokes_9 : decode cX10_restPokes 9 = .ok (.getfield 117, 3) := by decide +kernel
theorem dX10_restPokes_12 : decode cX10_restPokes 12 = .ok (.iaload, 1) := by decide +kernel
theorem dX10_restPokes_13 : decode cX10_restPokes 13 = .ok (.if_icmp .ge 132, 3) := by decide +kernel
theorem dX10_restPokes_16 : decode cX10_restPokes 16 = .ok (.aload_n 0, 1) := by decide +kernel
theorem dX10_restPokes_17 : decode cX10_restPokes 17 = .ok (.getfield 48, 3) := by decide +kernel
theorem dX10_restPokes_20 : decode cX10_restPokes 20 = .ok (.sipush 800, 3) := by decide +kernel
theorem dX10_restPokes_23 : decode cX10_restPokes 23 = .ok (.aload_n 0, 1) := by decide +kernel
theorem dX10_restPokes_24 : decode cX10_restPokes 24 = .ok (.getfield 117, 3) := by decide +kernel
theorem dX10_restPokes_27 : decode cX10_restPokes 27 = .ok (.imul, 1) := by decide +kernel
theorem dX10_restPokes_28 : decode cX10_restPokes 28 = .ok (.aload_n 0, 1) := by decide +kernel
theorem dX10_restPokes_29 : decode cX10_restPokes 29 = .ok (.getfield 264, 3) := by decide +kernel
theorem dX10_restPokes_32 : decode cX10_restPokes 32 = .ok (.iadd, 1) := by decide +kernel
theorem dX10_restPokes_33 : decode cX10_restPokes 33 = .ok (.iaload, 1) := by decide +kernel
theorem dX10_restPokes_34 : decode cX10_restPokes 34 = .ok (.iconst 2, 1) := by decide +kernel
theorem dX10_restPokes_35 : decode cX10_restPokes 35 = .ok (.if_icmp .ne 110, 3) := by decide +kernel
theorem dX10_restPokes_38 : decode cX10_restPokes 38 = .ok (.aload_n 0, 1) := by decide +kernel
theorem dX10_restPokes_39 : decode cX10_restPokes 39 = .ok (.getfield 45, 3) := by decide +kernel
theorem dX10_restPokes_42 : decode cX10_restPokes 42 = .ok (.sipush 800, 3) := by decide +kernel
theorem dX10_restPokes_45 : decode cX10_restPokes 45 = .ok (.aload_n 0, 1) := by decide +kernel
theorem dX10_restPokes_46 : decode cX10_restPokes 46 = .ok (.getfield 117, 3) := by decide +kernel
theorem dX10_restPokes_49 : decode cX10_restPokes 49 = .ok (.imul, 1) := by decide +kernel
theorem dX10_restPokes_50 : decode cX10_restPokes 50 = .ok (.aload_n 0, 1) := by decide +kernel
theorem dX10_restPokes_51 : decode cX10_restPokes 51 = .ok (.getfield 264, 3) := by decide +kernel
theorem dX10_restPokes_54 : decode cX10_restPokes 54 = .ok (.iadd, 1) := by decide +kernel
theorem dX10_restPokes_55 : decode cX10_restPokes 55 = .ok (.iaload, 1) := by decide +kernel
theorem dX10_restPokes_56 : decode cX10_restPokes 56 = .ok (.aload_n 0, 1) := by decide +kernel
theorem dX10_restPokes_57 : decode cX10_restPokes 57 = .ok (.getfield 114, 3) := by decide +kernel
theorem dX10_restPokes_60 : decode cX10_restPokes 60 = .ok (.sipush 133, 3) := by decide +kernel
theorem dX10_restPokes_63 : decode cX10_restPokes 63 = .ok (.iaload, 1) := by decide +kernel
theorem dX10_restPokes_64 : decode cX10_restPokes 64 = .ok (.if_icmp .ne 81, 3) := by decide +kernel
theorem dX10_restPokes_67 : decode cX10_restPokes 67 = .ok (.sipush 800, 3) := by decide +kernel
theorem dX10_restPokes_70 : decode cX10_restPokes 70 = .ok (.aload_n 0, 1) := by decide +kernel
theorem dX10_restPokes_71 : decode cX10_restPokes 71 = .ok (.getfield 117, 3) := by decide +kernel
theorem dX10_restPokes_74 : decode cX10_restPokes 74 = .ok (.imul, 1) := by decide +kernel
theorem dX10_restPokes_75 : decode cX10_restPokes 75 = .ok (.aload_n 0, 1) := by decide +kernel
theorem dX10_restPokes_76 : decode cX10_restPokes 76 = .ok (.getfield 264, 3) := by decide +kernel
theorem dX10_restPokes_79 : decode cX10_restPokes 79 = .ok (.iadd, 1) := by decide +kernel
theorem dX10_restPokes_80 : decode cX10_restPokes 80 = .ok (.istore_n 1, 1) := by decide +kernel
theorem dX10_restPokes_81 : decode cX10_restPokes 81 = .ok (.aload_n 0, 1) := by decide +kernel
theorem dX10_restPokes_82 : decode cX10_restPokes 82 = .ok (.invokevirtual 312, 3) := by decide +kernel
theorem dX10_restPokes_85 : decode cX10_restPokes 85 = .ok (.aload_n 0, 1) := by decide +kernel
theorem dX10_restPokes_86 : decode cX10_restPokes 86 = .ok (.sipush 3008, 3) := by decide +kernel
theorem dX10_restPokes_89 : decode cX10_restPokes 89 = .ok (.aload_n 0, 1) := by decide +kernel
theorem dX10_restPokes_90 : decode cX10_restPokes 90 = .ok (.getfield 264, 3) := by decide +kernel
theorem dX10_restPokes_93 : decode cX10_restPokes 93 = .ok (.iadd, 1) := by decide +kernel
theorem dX10_restPokes_94 : decode cX10_restPokes 94 = .ok (.invokevirtual 315, 3) := by decide +kernel
theorem dX10_restPokes_97 : decode cX10_restPokes 97 = .ok (.aload_n 0, 1) := by decide +kernel
theorem dX10_restPokes_98 : decode cX10_restPokes 98 = .ok (.aload_n 0, 1) := by decide +kernel
theorem dX10_restPokes_99 : decode cX10_restPokes 99 = .ok (.getfield 54, 3) := by decide +kernel
theorem dX10_restPokes_102 : decode cX10_restPokes 102 = .ok (.iload_n 1, 1) := by decide +kernel
theorem dX10_restPokes_103 : decode cX10_restPokes 103 = .ok (.iaload, 1) := by decide +kernel
theorem dX10_restPokes_104 : decode cX10_restPokes 104 = .ok (.invokevirtual 318, 3) := by decide +kernel
theorem dX10_restPokes_107 : decode cX10_restPokes 107 = .ok (.aload_n 0, 1) := by decide +kernel
theorem dX10_restPokes_108 : decode cX10_restPokes 108 = .ok (.getfield 114, 3) := by decide +kernel
theorem dX10_restPokes_111 : decode cX10_restPokes 111 = .ok (.aload_n 0, 1) := by decide +kernel
theorem dX10_restPokes_112 : decode cX10_restPokes 112 = .ok (.getfield 54, 3) := by decide +kernel
theorem dX10_restPokes_115 : decode cX10_restPokes 115 = .ok (.iload_n 1, 1) := by decide +kernel
theorem dX10_restPokes_116 : decode cX10_restPokes 116 = .ok (.iaload, 1) := by decide +kernel
theorem dX10_restPokes_117 : decode cX10_restPokes 117 = .ok (.aload_n 0, 1) := by decide +kernel
theorem dX10_restPokes_118 : decode cX10_restPokes 118 = .ok (.getfield 57, 3) := by decide +kernel
theorem dX10_restPokes_121 : decode cX10_restPokes 121 = .ok (.iload_n 1, 1) := by decide +kernel
theorem dX10_restPokes_122 : decode cX10_restPokes 122 = .ok (.iaload, 1) := by decide +kernel
theorem dX10_restPokes_123 : decode cX10_restPokes 123 = .ok (.aload_n 0, 1) := by decide +kernel
theorem dX10_restPokes_124 : decode cX10_restPokes 124 = .ok (.getfield 51, 3) := by decide +kernel
theorem dX10_restPokes_127 : decode cX10_restPokes 127 = .ok (.iload_n 1, 1) := by decide +kernel
theorem dX10_restPokes_128 : decode cX10_restPokes 128 = .ok (.iaload, 1) := by decide +kernel
theorem dX10_restPokes_129 : decode cX10_restPokes 129 = .ok (.invokestatic 179, 3) := by decide +kernel
theorem dX10_restPokes_132 : decode cX10_restPokes 132 = .ok (.aload_n 0, 1) := by decide +kernel
theorem dX10_restPokes_133 : decode cX10_restPokes 133 = .ok (.dup, 1) := by decide +kernel
theorem dX10_restPokes_134 : decode cX10_restPokes 134 = .ok (.getfield 264, 3) := by decide +kernel
theorem dX10_restPokes_137 : decode cX10_restPokes 137 = .ok (.iconst 1, 1) := by decide +kernel
theorem dX10_restPokes_138 : decode cX10_restPokes 138 = .ok (.iadd, 1) := by decide +kernel
theorem dX10_restPokes_139 : decode cX10_restPokes 139 = .ok (.putfield 264, 3) := by decide +kernel
theorem dX10_restPokes_142 : decode cX10_restPokes 142 = .ok (.goto (-142), 3) := by decide +kernel
theorem dX10_restPokes_145 : decode cX10_restPokes 145 = .ok (.return_, 1) := by decide +kernel
theorem dX10_restsOn_0 : decode cX10_restsOn 0 = .ok (.iconst 0, 1) := by decide +kernel
theorem dX10_restsOn_1 : decode cX10_restsOn 1 = .ok (.istore_n 2, 1) := by decide +kernel
theorem dX10_restsOn_2 : decode cX10_restsOn 2 = .ok (.iload_n 2, 1) := by decide +kernel
theorem dX10_restsOn_3 : decode cX10_restsOn 3 = .ok (.bipush 119, 2) := by decide +kernel
theorem dX10_restsOn_5 : decode cX10_restsOn 5 = .ok (.if_icmp .ge 26, 3) := by decide +kernel
theorem dX10_restsOn_8 : decode cX10_restsOn 8 = .ok (.aload_n 0, 1) := by decide +kernel
theorem dX10_restsOn_9 : decode cX10_restsOn 9 = .ok (.getfield 123, 3) := by decide +kernel
theorem dX10_restsOn_12 : decode cX10_restsOn 12 = .ok (.bipush 119, 2) := by decide +kernel
theorem dX10_restsOn_14 : decode cX10_restsOn 14 = .ok (.iload_n 1, 1) := by decide +kernel
theorem dX10_restsOn_15 : decode cX10_restsOn 15 = .ok (.imul, 1) := by decide +kernel
theorem dX10_restsOn_16 : decode cX10_restsOn 16 = .ok (.iload_n 2, 1) := by decide +kernel
theorem dX10_restsOn_17 : decode cX10_restsOn 17 = .ok (.iadd, 1) := by decide +kernel
theorem dX10_restsOn_18 : decode cX10_restsOn 18 = .ok (.aload_n 0, 1) := by decide +kernel
theorem dX10_restsOn_19 : decode cX10_restsOn 19 = .ok (.getfield 126, 3) := by decide +kernel
theorem dX10_restsOn_22 : decode cX10_restsOn 22 = .ok (.iload_n 2, 1) := by decide +kernel
theorem dX10_restsOn_23 : decode cX10_restsOn 23 = .ok (.iaload, 1) := by decide +kernel
theorem dX10_restsOn_24 : decode cX10_restsOn 24 = .ok (.iastore, 1) := by decide +kernel
theorem dX10_restsOn_25 : decode cX10_restsOn 25 = .ok (.iinc 2 1, 3) := by decide +kernel
theorem dX10_restsOn_28 : decode cX10_restsOn 28 = .ok (.goto (-26), 3) := by decide +kernel
theorem dX10_restsOn_31 : decode cX10_restsOn 31 = .ok (.return_, 1) := by decide +kernel
theorem dX10_watched_0 : decode cX10_watched 0 = .ok (.aload_n 0, 1) := by decide +kernel
theorem dX10_watched_1 : decode cX10_watched 1 = .ok (.iconst 0, 1) := by decide +kernel
theorem dX10_watched_2 : decode cX10_watched 2 = .ok (.putfield 276, 3) := by decide +kernel
theorem dX10_watched_5 : decode cX10_watched 5 = .ok (.iload_n 1, 1) := by decide +kernel
theorem dX10_watched_6 : decode cX10_watched 6 = .ok (.iconst 1, 1) := by decide +kernel
theorem dX10_watched_7 : decode cX10_watched 7 = .ok (.if_icmp .lt 11, 3) := by decide +kernel
theorem dX10_watched_10 : decode cX10_watched 10 = .ok (.aload_n 0, 1) := by decide +kernel
theorem dX10_watched_11 : decode cX10_watched 11 = .ok (.iload_n 1, 1) := by decide +kernel
theorem dX10_watched_12 : decode cX10_watched 12 = .ok (.invokevirtual 301, 3) := by decide +kernel
theorem dX10_watched_15 : decode cX10_watched 15 = .ok (.ifCond .ne 6, 3) := by decide +kernel
theorem dX10_watched_18 : decode cX10_watched 18 = .ok (.bipush (-2), 2) := by decide +kernel
theorem dX10_watched_20 : decode cX10_watched 20 = .ok (.ireturn, 1) := by decide +kernel
theorem dX10_watched_21 : decode cX10_watched 21 = .ok (.iconst (-1), 1) := by decide +kernel
theorem dX10_watched_22 : decode cX10_watched 22 = .ok (.istore_n 2, 1) := by decide +kernel
theorem dX10_watched_23 : decode cX10_watched 23 = .ok (.iconst 0, 1) := by decide +kernel
theorem dX10_watched_24 : decode cX10_watched 24 = .ok (.istore_n 3, 1) := by decide +kernel
theorem dX10_watched_25 : decode cX10_watched 25 = .ok (.iload_n 3, 1) := by decide +kernel
theorem dX10_watched_26 : decode cX10_watched 26 = .ok (.bipush 40, 2) := by decide +kernel
theorem dX10_watched_28 : decode cX10_watched 28 = .ok (.if_icmp .ge 31, 3) := by decide +kernel
theorem dX10_watched_31 : decode cX10_watched 31 = .ok (.aload_n 0, 1) := by decide +kernel
theorem dX10_watched_32 : decode cX10_watched 32 = .ok (.getfield 111, 3) := by decide +kernel
theorem dX10_watched_35 : decode cX10_watched 35 = .ok (.iload_n 3, 1) := by decide +kernel
theorem dX10_watched_36 : decode cX10_watched 36 = .ok (.baload, 1) := by decide +kernel
theorem dX10_watched_37 : decode cX10_watched 37 = .ok (.ifCond .eq 16, 3) := by decide +kernel
theorem dX10_watched_40 : decode cX10_watched 40 = .ok (.iload_n 2, 1) := by decide +kernel
theorem dX10_watched_41 : decode cX10_watched 41 = .ok (.aload_n 0, 1) := by decide +kernel
theorem dX10_watched_42 : decode cX10_watched 42 = .ok (.iload_n 1, 1) := by decide +kernel
theorem dX10_watched_43 : decode cX10_watched 43 = .ok (.iconst 1, 1) := by decide +kernel
theorem dX10_watched_44 : decode cX10_watched 44 = .ok (.isub, 1) := by decide +kernel
theorem dX10_watched_45 : decode cX10_watched 45 = .ok (.iload_n 3, 1) := by decide +kernel
theorem dX10_watched_46 : decode cX10_watched 46 = .ok (.invokevirtual 305, 3) := by decide +kernel
theorem dX10_watched_49 : decode cX10_watched 49 = .ok (.invokestatic 235, 3) := by decide +kernel
theorem dX10_watched_52 : decode cX10_watched 52 = .ok (.istore_n 2, 1) := by decide +kernel
theorem dX10_watched_53 : decode cX10_watched 53 = .ok (.iinc 3 1, 3) := by decide +kernel
theorem dX10_watched_56 : decode cX10_watched 56 = .ok (.goto (-31), 3) := by decide +kernel
theorem dX10_watched_59 : decode cX10_watched 59 = .ok (.iload_n 2, 1) := by decide +kernel
theorem dX10_watched_60 : decode cX10_watched 60 = .ok (.ireturn, 1) := by decide +kernel
def g_X10_changed_l50 (F : Nat) (l1 : Int32) (l2 : Int32) (l3 : Int32) (l4 : Int32) (u : rg_U) : Option ((Int32 × rg_U) ⊕ rg_U) :=
  if 40 ≤ l4 then (some (.inr u)) else (ck (inb (80 + l4) 134) (ck (inb l4 40) (lt1 (sA u 32 l4 (rA u 31 (80 + l4))) (fun u22 => some (.inl ((l4 + 1), u22))))))
set_option maxHeartbeats 4000000 in
set_option maxRecDepth 100000 in
theorem k_X10_changed_l50 {gs : List String} {ro : pm_RO} {n : Nat} {w w1 : Nat → va_E} {b : Nat} {u : rg_U} {F : Nat} {l1 : Int32} {l2 : Int32} {l3 : Int32} {l4 : Int32} {z : (Int32 × rg_U) ⊕ rg_U} {Q : Option Value → Nat → (Nat → va_E) → Prop} (hR : rg shM b u n w1) (hk : rg_k b shM.length w w1) (h : g_X10_changed_l50 F l1 l2 l3 l4 u = some z) (hc : ∀ s', z = .inl s' → ∀ w1, rg shM b s'.2 n w1 → rg_k b shM.length w w1 → pm_X gs ro M_X10_changed 9 0 0 0 0 50 [some (.ref (b + 0)), some (.int l1), some (.int l2), some (.int l3), some (.int s'.1), none, none, none] [] n w1 Q) (he0 : ∀ r', z = .inr r' → ∀ w1, rg shM b r' n w1 → rg_k b shM.length w w1 → pm_X gs ro M_X10_changed 9 0 0 0 0 80 [some (.ref (b + 0)), some (.int l1), some (.int l2), some (.int l3), none, none, none, none] [] n w1 Q) : pm_X gs ro M_X10_changed 9 0 0 0 0 50 [some (.ref (b + 0)), some (.int l1), some (.int l2), some (.int l3), some (.int l4), none, none, none] [] n w1 Q := by
  unfold g_X10_changed_l50 at h
  refine pm_iload dX10_changed_50 rfl ?_
  refine pm_bipush (v := 40) dX10_changed_52 (by decide) ?_
  refine pm_icmp_ge (tgt := 80) dX10_changed_54 (by decide) (fun c19 => ?_) (fun c19 => ?_)
  · replace h := it_t c19 h
    refine pm_lw (L' := [some (.ref (b + 0)), some (.int l1), some (.int l2), some (.int l3), none, none, none, none]) ⟨Or.inr rfl, Or.inr rfl, Or.inr rfl, Or.inr rfl, Or.inl rfl, Or.inl rfl, Or.inl rfl, Or.inl rfl, trivial⟩ ?_
    exact he0 _ (Option.some.inj h).symm _ hR hk
  · replace h := it_f c19 h
    refine pm_aload_n dX10_changed_57 rfl ?_
    refine dx_gr (j := 0) (o := 32) hR dX10_changed_58 fl_X10_120 rfl rfl ?_
    refine pm_iload dX10_changed_61 rfl ?_
    refine pm_aload_n dX10_changed_63 rfl ?_
    refine dx_gr (j := 0) (o := 31) hR dX10_changed_64 fl_X10_114 rfl rfl ?_
    refine pm_bipush (v := 80) dX10_changed_67 (by decide) ?_
    refine pm_iload dX10_changed_69 rfl ?_
    refine pm_iadd dX10_changed_71 ?_
    obtain ⟨c20, h⟩ := ck_some h
    refine dx_al (j := 31) hR dX10_changed_72 rfl (vp_in_iff.mpr c20) ?_
    obtain ⟨c21, h⟩ := ck_some h
    obtain ⟨u22, hu23, h⟩ := lt1_ex h
    refine dx_as (j := 32) hR hk dX10_changed_73 rfl (vp_in_iff.mpr c21) hu23 (fun w24 hR25 hk26 => ?_)
    refine pm_iinc (v := (l4 + 1)) dX10_changed_74 rfl rfl (by decide) rfl rfl ?_
    refine pm_goto (tgt := 50) dX10_changed_77 (by decide) ?_
    refine pm_lw (L' := [some (.ref (b + 0)), some (.int l1), some (.int l2), some (.int l3), some (.int (l4 + 1)), none, none, none]) ⟨Or.inr rfl, Or.inr rfl, Or.inr rfl, Or.inr rfl, Or.inr rfl, Or.inl rfl, Or.inl rfl, Or.inl rfl, trivial⟩ ?_
    exact hc _ (Option.some.inj h).symm _ hR25 hk26
def g_X10_changed_j162 (F : Nat) (l5 : Int32) (l6 : Int32) (l7 : Int32) (s0 : Int32) (s1 : Int32) (u : rg_U) : Option ((Int32 × Int32) ⊕ Int32) :=
  some (.inl ((s1 ||| s0), (l7 + 1)))
set_option maxHeartbeats 4000000 in
set_option maxRecDepth 100000 in
theorem k_X10_changed_j162 {gs : List String} {ro : pm_RO} {n : Nat} {w w1 : Nat → va_E} {b : Nat} {u : rg_U} {F : Nat} {l5 : Int32} {l6 : Int32} {l7 : Int32} {s0 : Int32} {s1 : Int32} {z : ((Int32 × Int32) ⊕ Int32)} {Q : Option Value → Nat → (Nat → va_E) → Prop} (hR : rg shM b u n w1) (hk : rg_k b shM.length w w1) (h : g_X10_changed_j162 F l5 l6 l7 s0 s1 u = some z) (hc : ∀ s', z = .inl s' → ∀ w1, rg shM b u n w1 → rg_k b shM.length w w1 → pm_X gs ro M_X10_changed 9 0 0 0 0 119 [some (.ref (b + 0)), none, none, none, some (.int s'.1), some (.int l5), some (.int l6), some (.int s'.2)] [] n w1 Q) (he0 : ∀ r', z = .inr r' → ∀ w1, rg shM b u n w1 → rg_k b shM.length w w1 → pm_X gs ro M_X10_changed 9 0 0 0 0 171 [none, none, none, none, some (.int r'), none, none, none] [] n w1 Q) : pm_X gs ro M_X10_changed 9 0 0 0 0 162 [some (.ref (b + 0)), none, none, none, none, some (.int l5), some (.int l6), some (.int l7)] [.int s0, .int s1] n w1 Q := by
  unfold g_X10_changed_j162 at h
  refine pm_ior dX10_changed_162 ?_
  refine pm_istore dX10_changed_163 (by decide) rfl rfl ?_
  refine pm_iinc (v := (l7 + 1)) dX10_changed_165 rfl rfl (by decide) rfl rfl ?_
  refine pm_goto (tgt := 119) dX10_changed_168 (by decide) ?_
  refine pm_lw (L' := [some (.ref (b + 0)), none, none, none, some (.int (s1 ||| s0)), some (.int l5), some (.int l6), some (.int (l7 + 1))]) ⟨Or.inr rfl, Or.inl rfl, Or.inl rfl, Or.inl rfl, Or.inr rfl, Or.inr rfl, Or.inr rfl, Or.inr rfl, trivial⟩ ?_
  exact hc _ (Option.some.inj h).symm _ hR hk
def g_X10_changed_l119 (F : Nat) (l5 : Int32) (l6 : Int32) (u : rg_U) (l4 : Int32) (l7 : Int32) : Option ((Int32 × Int32) ⊕ Int32) :=
  if l6 ≤ l7 then (some (.inr l4)) else (ck (inb ((80 + l5) + l7) 134) (ck (inb (l5 + l7) 40) (if (rA u 31 ((80 + l5) + l7)) = (rA u 32 (l5 + l7)) then (g_X10_changed_j162 F l5 l6 l7 0 l4 u) else (g_X10_changed_j162 F l5 l6 l7 (dx_shl 1 l7) l4 u))))
set_option maxHeartbeats 4000000 in
set_option maxRecDepth 100000 in
theorem k_X10_changed_l119 {gs : List String} {ro : pm_RO} {n : Nat} {w w1 : Nat → va_E} {b : Nat} {u : rg_U} {F : Nat} {l5 : Int32} {l6 : Int32} {l4 : Int32} {l7 : Int32} {z : (Int32 × Int32) ⊕ Int32} {Q : Option Value → Nat → (Nat → va_E) → Prop} (hR : rg shM b u n w1) (hk : rg_k b shM.length w w1) (h : g_X10_changed_l119 F l5 l6 u l4 l7 = some z) (hc : ∀ s', z = .inl s' → ∀ w1, rg shM b u n w1 → rg_k b shM.length w w1 → pm_X gs ro M_X10_changed 9 0 0 0 0 119 [some (.ref (b + 0)), none, none, none, some (.int s'.1), some (.int l5), some (.int l6), some (.int s'.2)] [] n w1 Q) (he0 : ∀ r', z = .inr r' → ∀ w1, rg shM b u n w1 → rg_k b shM.length w w1 → pm_X gs ro M_X10_changed 9 0 0 0 0 171 [none, none, none, none, some (.int r'), none, none, none] [] n w1 Q) : pm_X gs ro M_X10_changed 9 0 0 0 0 119 [some (.ref (b + 0)), none, none, none, some (.int l4), some (.int l5), some (.int l6), some (.int l7)] [] n w1 Q := by
  unfold g_X10_changed_l119 at h
  refine pm_iload dX10_changed_119 rfl ?_
  refine pm_iload dX10_changed_121 rfl ?_
  refine pm_icmp_ge (tgt := 171) dX10_changed_123 (by decide) (fun c39 => ?_) (fun c39 => ?_)
  · replace h := it_t c39 h
    refine pm_lw (L' := [none, none, none, none, some (.int l4), none, none, none]) ⟨Or.inl rfl, Or.inl rfl, Or.inl rfl, Or.inl rfl, Or.inr rfl, Or.inl rfl, Or.inl rfl, Or.inl rfl, trivial⟩ ?_
    exact he0 _ (Option.some.inj h).symm _ hR hk
  · replace h := it_f c39 h
    refine pm_iload dX10_changed_126 rfl ?_
    refine pm_aload_n dX10_changed_128 rfl ?_
    refine dx_gr (j := 0) (o := 31) hR dX10_changed_129 fl_X10_114 rfl rfl ?_
    refine pm_bipush (v := 80) dX10_changed_132 (by decide) ?_
    refine pm_iload dX10_changed_134 rfl ?_
    refine pm_iadd dX10_changed_136 ?_
    refine pm_iload dX10_changed_137 rfl ?_
    refine pm_iadd dX10_changed_139 ?_
    obtain ⟨c40, h⟩ := ck_some h
    refine dx_al (j := 31) hR dX10_changed_140 rfl (vp_in_iff.mpr c40) ?_
    refine pm_aload_n dX10_changed_141 rfl ?_
    refine dx_gr (j := 0) (o := 32) hR dX10_changed_142 fl_X10_120 rfl rfl ?_
    refine pm_iload dX10_changed_145 rfl ?_
    refine pm_iload dX10_changed_147 rfl ?_
    refine pm_iadd dX10_changed_149 ?_
    obtain ⟨c41, h⟩ := ck_some h
    refine dx_al (j := 32) hR dX10_changed_150 rfl (vp_in_iff.mpr c41) ?_
    refine pm_icmp_eq (tgt := 161) dX10_changed_151 (by decide) (fun c42 => ?_) (fun c42 => ?_)
    · replace h := it_t c42 h
      refine pm_iconst (v := 0) dX10_changed_161 (by decide) ?_
      refine pm_lw (L' := [some (.ref (b + 0)), none, none, none, none, some (.int l5), some (.int l6), some (.int l7)]) ⟨Or.inr rfl, Or.inl rfl, Or.inl rfl, Or.inl rfl, Or.inl rfl, Or.inr rfl, Or.inr rfl, Or.inr rfl, trivial⟩ ?_
      exact k_X10_changed_j162 hR hk h hc he0
    · replace h := it_f c42 h
      refine pm_iconst (v := 1) dX10_changed_154 (by decide) ?_
      refine pm_iload dX10_changed_155 rfl ?_
      refine pm_ishl dX10_changed_157 ?_
      refine pm_goto (tgt := 162) dX10_changed_158 (by decide) ?_
      refine pm_lw (L' := [some (.ref (b + 0)), none, none, none, none, some (.int l5), some (.int l6), some (.int l7)]) ⟨Or.inr rfl, Or.inl rfl, Or.inl rfl, Or.inl rfl, Or.inl rfl, Or.inr rfl, Or.inr rfl, Or.inr rfl, trivial⟩ ?_
      exact k_X10_changed_j162 hR hk h hc he0
def g_X10_changed_j114 (F : Nat) (l4 : Int32) (l5 : Int32) (s0 : Int32) (u : rg_U) : Option (Int32 × rg_U) :=
  ob (lp (fun (s : (Int32 × Int32)) => g_X10_changed_l119 F l5 s0 u s.1 s.2) F ((l4 : Int32), (0 : Int32))) (fun r43 => some (r43, u))
set_option maxHeartbeats 4000000 in
set_option maxRecDepth 100000 in
theorem k_X10_changed_j114 {gs : List String} {ro : pm_RO} {n : Nat} {w w1 : Nat → va_E} {b : Nat} {u : rg_U} {F : Nat} {l4 : Int32} {l5 : Int32} {s0 : Int32} {z : (Int32 × rg_U)} (hR : rg shM b u n w1) (hk : rg_k b shM.length w w1) (h : g_X10_changed_j114 F l4 l5 s0 u = some z) : pm_X gs ro M_X10_changed 9 0 0 0 0 114 [some (.ref (b + 0)), none, none, none, some (.int l4), some (.int l5), none, none] [.int s0] n w1 (rg_post shM b n w (some (.int z.1)) z.2) := by
  unfold g_X10_changed_j114 at h
  refine pm_istore dX10_changed_114 (by decide) rfl rfl ?_
  refine pm_iconst (v := 0) dX10_changed_116 (by decide) ?_
  refine pm_istore dX10_changed_117 (by decide) rfl rfl ?_
  obtain ⟨r43, h44, h⟩ := ob_some h
  refine lp_sound (P := fun (s : (Int32 × Int32)) => ∀ w1, rg shM b u n w1 → rg_k b shM.length w w1 → pm_X gs ro M_X10_changed 9 0 0 0 0 119 [some (.ref (b + 0)), none, none, none, some (.int s.1), some (.int l5), some (.int s0), some (.int s.2)] [] n w1 (rg_post shM b n w (some (.int z.1)) z.2)) (E := (fun (r : Int32) => ∀ w1, rg shM b u n w1 → rg_k b shM.length w w1 → pm_X gs ro M_X10_changed 9 0 0 0 0 171 [none, none, none, none, some (.int r), none, none, none] [] n w1 (rg_post shM b n w (some (.int z.1)) z.2))) (fun s x hx hc he w1 hR1 hk1 => k_X10_changed_l119 hR1 hk1 hx hc (fun r q => he r q)) F _ r43 h44 ?_ _ hR hk
  intro w45 hR46 hk47
  refine pm_iload dX10_changed_171 rfl ?_
  cases h
  exact pm_iret dX10_changed_173 rfl (Nat.le_refl _) (Nat.le_refl _) ⟨rfl, rfl, hR46, hk47⟩
def g_X10_changed_j101 (F : Nat) (l2 : Int32) (l4 : Int32) (s0 : Int32) (u : rg_U) : Option (Int32 × rg_U) :=
  if l2 = 0 then (g_X10_changed_j114 F l4 s0 8 u) else (g_X10_changed_j114 F l4 s0 32 u)
set_option maxHeartbeats 4000000 in
set_option maxRecDepth 100000 in
theorem k_X10_changed_j101 {gs : List String} {ro : pm_RO} {n : Nat} {w w1 : Nat → va_E} {b : Nat} {u : rg_U} {F : Nat} {l2 : Int32} {l4 : Int32} {s0 : Int32} {z : (Int32 × rg_U)} (hR : rg shM b u n w1) (hk : rg_k b shM.length w w1) (h : g_X10_changed_j101 F l2 l4 s0 u = some z) : pm_X gs ro M_X10_changed 9 0 0 0 0 101 [some (.ref (b + 0)), none, some (.int l2), none, some (.int l4), none, none, none] [.int s0] n w1 (rg_post shM b n w (some (.int z.1)) z.2) := by
  unfold g_X10_changed_j101 at h
  refine pm_istore dX10_changed_101 (by decide) rfl rfl ?_
  refine pm_iload_n dX10_changed_103 rfl ?_
  refine pm_if_ne (tgt := 112) dX10_changed_104 (by decide) (fun c38 => ?_) (fun c38 => ?_)
  · replace h := it_f c38 h
    refine pm_bipush (v := 32) dX10_changed_112 (by decide) ?_
    refine pm_lw (L' := [some (.ref (b + 0)), none, none, none, some (.int l4), some (.int s0), none, none]) ⟨Or.inr rfl, Or.inl rfl, Or.inl rfl, Or.inl rfl, Or.inr rfl, Or.inr rfl, Or.inl rfl, Or.inl rfl, trivial⟩ ?_
    exact k_X10_changed_j114 hR hk h
  · replace h := it_t c38 h
    refine pm_bipush (v := 8) dX10_changed_107 (by decide) ?_
    refine pm_goto (tgt := 114) dX10_changed_109 (by decide) ?_
    refine pm_lw (L' := [some (.ref (b + 0)), none, none, none, some (.int l4), some (.int s0), none, none]) ⟨Or.inr rfl, Or.inl rfl, Or.inl rfl, Or.inl rfl, Or.inr rfl, Or.inr rfl, Or.inl rfl, Or.inl rfl, trivial⟩ ?_
    exact k_X10_changed_j114 hR hk h
def g_X10_changed (F : Nat) (x1 : Int32) (x2 : Int32) (u : rg_U) : Option (Int32 × rg_U) :=
  lt1 (sF u 0 35 0) (fun u1 => ob (g_X10_runAsked F u1) (fun r6 => ob (g_X10_isTime F x1 u1) (fun r8 => if r8 = 0 then (some ((-1000001), u1)) else (ck (inb r6 5) (if x1 = (rA u1 21 r6) then (some ((-1000001), u1)) else (if (g_X10_isIn x2 0 1) = 0 then (some ((-1000001), u1)) else (ob (g_X10_replays F r6 x1 u1) (fun r14 => ob (lp (fun (s : (Int32 × rg_U)) => g_X10_changed_l50 F x1 x2 r6 s.1 s.2) F ((0 : Int32), r14)) (fun r27 => ob (g_X10_replays F r6 (x1 + 1) r27) (fun r32 => if x2 = 0 then (g_X10_changed_j101 F x2 0 0 r32) else (g_X10_changed_j101 F x2 0 8 r32)))))))))))
set_option maxHeartbeats 4000000 in
set_option maxRecDepth 100000 in
theorem k_X10_changed {gs : List String} {ro : pm_RO} {n : Nat} {w : Nat → va_E} {b : Nat} {u : rg_U} {F : Nat} {x1 : Int32} {x2 : Int32} {z : (Int32 × rg_U)} (hR : rg shM b u n w) (h : g_X10_changed F x1 x2 u = some z) : pm_Met gs ro M_X10_changed 9 0 0 [.ref (b + 0), .int x1, .int x2] n w (rg_post shM b n w (some (.int z.1)) z.2) := by
  unfold g_X10_changed at h
  refine pm_ofX in_X10_changed (Nat.le_of_ble_eq_true rfl) rfl (L := [some (.ref (b + 0)), some (.int x1), some (.int x2), none, none, none, none, none]) rfl ?_
  refine pm_aload_n dX10_changed_0 rfl ?_
  refine pm_iconst (v := 0) dX10_changed_1 (by decide) ?_
  obtain ⟨u1, hu2, h⟩ := lt1_ex h
  refine dx_pi (j := 0) hR rg_k0 dX10_changed_2 fl_X10_276 rfl rfl hu2 (fun w3 hR4 hk5 => ?_)
  refine pm_aload_n dX10_changed_5 rfl ?_
  obtain ⟨r6, h7, h⟩ := ob_some h
  refine dx_cVp (j := 0) (M := M_X10_changed) (Mc := M_X10_runAsked) (dc := 0) (As := []) (st := []) hR4 dX10_changed_6 ml_X10_289 ⟨TX10, 55, rfl⟩ rfl (by decide) (Nat.le_of_ble_eq_true rfl) rfl (k_X10_runAsked hR4 h7) ?_
  refine pm_istore_n dX10_changed_9 (by decide) rfl rfl ?_
  refine pm_aload_n dX10_changed_10 rfl ?_
  refine pm_iload_n dX10_changed_11 rfl ?_
  obtain ⟨r8, h9, h⟩ := ob_some h
  refine dx_cVp (j := 0) (M := M_X10_changed) (Mc := M_X10_isTime) (dc := 1) (As := [.int x1]) (st := []) hR4 dX10_changed_12 ml_X10_301 ⟨TX10, 55, rfl⟩ rfl (by decide) (Nat.le_of_ble_eq_true rfl) rfl (k_X10_isTime hR4 h9) ?_
  refine pm_if_eq (tgt := 37) dX10_changed_15 (by decide) (fun c10 => ?_) (fun c10 => ?_)
  · replace h := it_t c10 h
    refine pm_ldcw (v := (-1000001)) dX10_changed_37 kc_X10_304 ?_
    cases h
    exact pm_iret dX10_changed_40 rfl (Nat.le_refl _) (Nat.le_refl _) ⟨rfl, rfl, hR4, hk5⟩
  · replace h := it_f c10 h
    refine pm_iload_n dX10_changed_18 rfl ?_
    refine pm_aload_n dX10_changed_19 rfl ?_
    refine dx_gr (j := 0) (o := 21) hR4 dX10_changed_20 fl_X10_78 rfl rfl ?_
    refine pm_iload_n dX10_changed_23 rfl ?_
    obtain ⟨c11, h⟩ := ck_some h
    refine dx_al (j := 21) hR4 dX10_changed_24 rfl (vp_in_iff.mpr c11) ?_
    refine pm_icmp_eq (tgt := 37) dX10_changed_25 (by decide) (fun c12 => ?_) (fun c12 => ?_)
    · replace h := it_t c12 h
      refine pm_ldcw (v := (-1000001)) dX10_changed_37 kc_X10_304 ?_
      cases h
      exact pm_iret dX10_changed_40 rfl (Nat.le_refl _) (Nat.le_refl _) ⟨rfl, rfl, hR4, hk5⟩
    · replace h := it_f c12 h
      refine pm_iload_n dX10_changed_28 rfl ?_
      refine pm_iconst (v := 0) dX10_changed_29 (by decide) ?_
      refine pm_iconst (v := 1) dX10_changed_30 (by decide) ?_
      refine dx_cSp (M := M_X10_changed) (Mc := M_X10_isIn) (dc := 0) (As := [.int x2, .int 0, .int 1]) (st := []) dX10_changed_31 ml_X10_138 (by decide) (Nat.le_of_ble_eq_true rfl) rfl (k_X10_isIn rfl) ?_
      refine pm_if_ne (tgt := 41) dX10_changed_34 (by decide) (fun c13 => ?_) (fun c13 => ?_)
      · replace h := it_f c13 h
        refine pm_aload_n dX10_changed_41 rfl ?_
        refine pm_iload_n dX10_changed_42 rfl ?_
        refine pm_iload_n dX10_changed_43 rfl ?_
        obtain ⟨r14, h15, h⟩ := ob_some h
        refine dx_cVv (j := 0) (M := M_X10_changed) (Mc := M_X10_replays) (dc := 8) (As := [.int r6, .int x1]) (st := []) hR4 hk5 dX10_changed_44 ml_X10_292 ⟨TX10, 55, rfl⟩ rfl (by decide) (Nat.le_of_ble_eq_true rfl) rfl (k_X10_replays hR4 h15) (fun w16 hR17 hk18 => ?_)
        refine pm_iconst (v := 0) dX10_changed_47 (by decide) ?_
        refine pm_istore dX10_changed_48 (by decide) rfl rfl ?_
        obtain ⟨r27, h28, h⟩ := ob_some h
        refine lp_sound (P := fun (s : (Int32 × rg_U)) => ∀ w1, rg shM b s.2 n w1 → rg_k b shM.length w w1 → pm_X gs ro M_X10_changed 9 0 0 0 0 50 [some (.ref (b + 0)), some (.int x1), some (.int x2), some (.int r6), some (.int s.1), none, none, none] [] n w1 (rg_post shM b n w (some (.int z.1)) z.2)) (E := (fun (r : rg_U) => ∀ w1, rg shM b r n w1 → rg_k b shM.length w w1 → pm_X gs ro M_X10_changed 9 0 0 0 0 80 [some (.ref (b + 0)), some (.int x1), some (.int x2), some (.int r6), none, none, none, none] [] n w1 (rg_post shM b n w (some (.int z.1)) z.2))) (fun s x hx hc he w1 hR1 hk1 => k_X10_changed_l50 hR1 hk1 hx hc (fun r q => he r q)) F _ r27 h28 ?_ _ hR17 hk18
        intro w29 hR30 hk31
        refine pm_aload_n dX10_changed_80 rfl ?_
        refine pm_iload_n dX10_changed_81 rfl ?_
        refine pm_iload_n dX10_changed_82 rfl ?_
        refine pm_iconst (v := 1) dX10_changed_83 (by decide) ?_
        refine pm_iadd dX10_changed_84 ?_
        obtain ⟨r32, h33, h⟩ := ob_some h
        refine dx_cVv (j := 0) (M := M_X10_changed) (Mc := M_X10_replays) (dc := 8) (As := [.int r6, .int (x1 + 1)]) (st := []) hR30 hk31 dX10_changed_85 ml_X10_292 ⟨TX10, 55, rfl⟩ rfl (by decide) (Nat.le_of_ble_eq_true rfl) rfl (k_X10_replays hR30 h33) (fun w34 hR35 hk36 => ?_)
        refine pm_iconst (v := 0) dX10_changed_88 (by decide) ?_
        refine pm_istore dX10_changed_89 (by decide) rfl rfl ?_
        refine pm_iload_n dX10_changed_91 rfl ?_
        refine pm_if_ne (tgt := 99) dX10_changed_92 (by decide) (fun c37 => ?_) (fun c37 => ?_)
        · replace h := it_f c37 h
          refine pm_bipush (v := 8) dX10_changed_99 (by decide) ?_
          refine pm_lw (L' := [some (.ref (b + 0)), none, some (.int x2), none, some (.int 0), none, none, none]) ⟨Or.inr rfl, Or.inl rfl, Or.inr rfl, Or.inl rfl, Or.inr rfl, Or.inl rfl, Or.inl rfl, Or.inl rfl, trivial⟩ ?_
          exact k_X10_changed_j101 hR35 hk36 h
        · replace h := it_t c37 h
          refine pm_iconst (v := 0) dX10_changed_95 (by decide) ?_
          refine pm_goto (tgt := 101) dX10_changed_96 (by decide) ?_
          refine pm_lw (L' := [some (.ref (b + 0)), none, some (.int x2), none, some (.int 0), none, none, none]) ⟨Or.inr rfl, Or.inl rfl, Or.inr rfl, Or.inl rfl, Or.inr rfl, Or.inl rfl, Or.inl rfl, Or.inl rfl, trivial⟩ ?_
          exact k_X10_changed_j101 hR35 hk36 h
      · replace h := it_t c13 h
        refine pm_ldcw (v := (-1000001)) dX10_changed_37 kc_X10_304 ?_
        cases h
        exact pm_iret dX10_changed_40 rfl (Nat.le_refl _) (Nat.le_refl _) ⟨rfl, rfl, hR4, hk5⟩
def g_X10_watched_j53 (F : Nat) (l1 : Int32) (l2 : Int32) (l3 : Int32) (u : rg_U) : Option ((Int32 × Int32 × rg_U) ⊕ (Int32 × rg_U)) :=
  some (.inl (l2, (l3 + 1), u))
set_option maxHeartbeats 4000000 in
set_option maxRecDepth 100000 in
theorem k_X10_watched_j53 {gs : List String} {ro : pm_RO} {n : Nat} {w w1 : Nat → va_E} {b : Nat} {u : rg_U} {F : Nat} {l1 : Int32} {l2 : Int32} {l3 : Int32} {z : ((Int32 × Int32 × rg_U) ⊕ (Int32 × rg_U))} {Q : Option Value → Nat → (Nat → va_E) → Prop} (hR : rg shM b u n w1) (hk : rg_k b shM.length w w1) (h : g_X10_watched_j53 F l1 l2 l3 u = some z) (hc : ∀ s', z = .inl s' → ∀ w1, rg shM b s'.2.2 n w1 → rg_k b shM.length w w1 → pm_X gs ro M_X10_watched 10 0 0 0 0 25 [some (.ref (b + 0)), some (.int l1), some (.int s'.1), some (.int s'.2.1)] [] n w1 Q) (he0 : ∀ r', z = .inr r' → ∀ w1, rg shM b r'.2 n w1 → rg_k b shM.length w w1 → pm_X gs ro M_X10_watched 10 0 0 0 0 59 [none, none, some (.int r'.1), none] [] n w1 Q) : pm_X gs ro M_X10_watched 10 0 0 0 0 53 [some (.ref (b + 0)), some (.int l1), some (.int l2), some (.int l3)] [] n w1 Q := by
  unfold g_X10_watched_j53 at h
  refine pm_iinc (v := (l3 + 1)) dX10_watched_53 rfl rfl (by decide) rfl rfl ?_
  refine pm_goto (tgt := 25) dX10_watched_56 (by decide) ?_
  refine pm_lw (L' := [some (.ref (b + 0)), some (.int l1), some (.int l2), some (.int (l3 + 1))]) ⟨Or.inr rfl, Or.inr rfl, Or.inr rfl, Or.inr rfl, trivial⟩ ?_
  exact hc _ (Option.some.inj h).symm _ hR hk
def g_X10_watched_l25 (F : Nat) (l1 : Int32) (l2 : Int32) (l3 : Int32) (u : rg_U) : Option ((Int32 × Int32 × rg_U) ⊕ (Int32 × rg_U)) :=
  if 40 ≤ l3 then (some (.inr (l2, u))) else (ck (inb l3 40) (if (rA u 30 l3) = 0 then (g_X10_watched_j53 F l1 l2 l3 u) else (ob (g_X10_lastOf F (l1 - 1) l3 u) (fun r13 => g_X10_watched_j53 F l1 (imax l2 r13.1) l3 r13.2))))
set_option maxHeartbeats 4000000 in
set_option maxRecDepth 100000 in
theorem k_X10_watched_l25 {gs : List String} {ro : pm_RO} {n : Nat} {w w1 : Nat → va_E} {b : Nat} {u : rg_U} {F : Nat} {l1 : Int32} {l2 : Int32} {l3 : Int32} {z : (Int32 × Int32 × rg_U) ⊕ (Int32 × rg_U)} {Q : Option Value → Nat → (Nat → va_E) → Prop} (hR : rg shM b u n w1) (hk : rg_k b shM.length w w1) (h : g_X10_watched_l25 F l1 l2 l3 u = some z) (hc : ∀ s', z = .inl s' → ∀ w1, rg shM b s'.2.2 n w1 → rg_k b shM.length w w1 → pm_X gs ro M_X10_watched 10 0 0 0 0 25 [some (.ref (b + 0)), some (.int l1), some (.int s'.1), some (.int s'.2.1)] [] n w1 Q) (he0 : ∀ r', z = .inr r' → ∀ w1, rg shM b r'.2 n w1 → rg_k b shM.length w w1 → pm_X gs ro M_X10_watched 10 0 0 0 0 59 [none, none, some (.int r'.1), none] [] n w1 Q) : pm_X gs ro M_X10_watched 10 0 0 0 0 25 [some (.ref (b + 0)), some (.int l1), some (.int l2), some (.int l3)] [] n w1 Q := by
  unfold g_X10_watched_l25 at h
  refine pm_iload_n dX10_watched_25 rfl ?_
  refine pm_bipush (v := 40) dX10_watched_26 (by decide) ?_
  refine pm_icmp_ge (tgt := 59) dX10_watched_28 (by decide) (fun c10 => ?_) (fun c10 => ?_)
  · replace h := it_t c10 h
    refine pm_lw (L' := [none, none, some (.int l2), none]) ⟨Or.inl rfl, Or.inl rfl, Or.inr rfl, Or.inl rfl, trivial⟩ ?_
    exact he0 _ (Option.some.inj h).symm _ hR hk
  · replace h := it_f c10 h
    refine pm_aload_n dX10_watched_31 rfl ?_
    refine dx_gr (j := 0) (o := 30) hR dX10_watched_32 fl_X10_111 rfl rfl ?_
    refine pm_iload_n dX10_watched_35 rfl ?_
    obtain ⟨c11, h⟩ := ck_some h
    refine dx_zl (j := 30) hR dX10_watched_36 rfl (vp_in_iff.mpr c11) ?_
    refine pm_if_eq (tgt := 53) dX10_watched_37 (by decide) (fun c12 => ?_) (fun c12 => ?_)
    · replace h := it_t c12 h
      exact k_X10_watched_j53 hR hk h hc he0
    · replace h := it_f c12 h
      refine pm_iload_n dX10_watched_40 rfl ?_
      refine pm_aload_n dX10_watched_41 rfl ?_
      refine pm_iload_n dX10_watched_42 rfl ?_
      refine pm_iconst (v := 1) dX10_watched_43 (by decide) ?_
      refine pm_isub dX10_watched_44 ?_
      refine pm_iload_n dX10_watched_45 rfl ?_
      obtain ⟨r13, h14, h⟩ := ob_some h
      refine dx_cVi (j := 0) (M := M_X10_watched) (Mc := M_X10_lastOf) (dc := 9) (As := [.int (l1 - 1), .int l3]) (st := [.int l2]) hR hk dX10_watched_46 ml_X10_305 ⟨TX10, 55, rfl⟩ rfl (by decide) (Nat.le_of_ble_eq_true rfl) rfl (k_X10_lastOf hR h14) (fun w15 hR16 hk17 => ?_)
      refine pm_mmax (M := M_X10_watched) dX10_watched_49 mm_X10_235 mm_max_2 mm_init mm_max_4 (by decide) (Nat.le_refl _) (Nat.le_refl _) (Nat.le_of_ble_eq_true rfl) ?_
      refine pm_istore_n dX10_watched_52 (by decide) rfl rfl ?_
      exact k_X10_watched_j53 hR16 hk17 h hc he0
def g_X10_watched (F : Nat) (x1 : Int32) (u : rg_U) : Option (Int32 × rg_U) :=
  lt1 (sF u 0 35 0) (fun u1 => if x1 < 1 then (some ((-2), u1)) else (ob (g_X10_isTime F x1 u1) (fun r7 => if r7 = 0 then (some ((-2), u1)) else (ob (lp (fun (s : (Int32 × Int32 × rg_U)) => g_X10_watched_l25 F x1 s.1 s.2.1 s.2.2) F (((-1) : Int32), (0 : Int32), u1)) (fun r18 => some (r18.1, r18.2))))))
set_option maxHeartbeats 4000000 in
set_option maxRecDepth 100000 in
theorem k_X10_watched {gs : List String} {ro : pm_RO} {n : Nat} {w : Nat → va_E} {b : Nat} {u : rg_U} {F : Nat} {x1 : Int32} {z : (Int32 × rg_U)} (hR : rg shM b u n w) (h : g_X10_watched F x1 u = some z) : pm_Met gs ro M_X10_watched 10 0 0 [.ref (b + 0), .int x1] n w (rg_post shM b n w (some (.int z.1)) z.2) := by
  unfold g_X10_watched at h
  refine pm_ofX in_X10_watched (Nat.le_of_ble_eq_true rfl) rfl (L := [some (.ref (b + 0)), some (.int x1), none, none]) rfl ?_
  refine pm_aload_n dX10_watched_0 rfl ?_
  refine pm_iconst (v := 0) dX10_watched_1 (by decide) ?_
  obtain ⟨u1, hu2, h⟩ := lt1_ex h
  refine dx_pi (j := 0) hR rg_k0 dX10_watched_2 fl_X10_276 rfl rfl hu2 (fun w3 hR4 hk5 => ?_)
  refine pm_iload_n dX10_watched_5 rfl ?_
  refine pm_iconst (v := 1) dX10_watched_6 (by decide) ?_
  refine pm_icmp_lt (tgt := 18) dX10_watched_7 (by decide) (fun c6 => ?_) (fun c6 => ?_)
  · replace h := it_t c6 h
    refine pm_bipush (v := (-2)) dX10_watched_18 (by decide) ?_
    cases h
    exact pm_iret dX10_watched_20 rfl (Nat.le_refl _) (Nat.le_refl _) ⟨rfl, rfl, hR4, hk5⟩
  · replace h := it_f c6 h
    refine pm_aload_n dX10_watched_10 rfl ?_
    refine pm_iload_n dX10_watched_11 rfl ?_
    obtain ⟨r7, h8, h⟩ := ob_some h
    refine dx_cVp (j := 0) (M := M_X10_watched) (Mc := M_X10_isTime) (dc := 1) (As := [.int x1]) (st := []) hR4 dX10_watched_12 ml_X10_301 ⟨TX10, 55, rfl⟩ rfl (by decide) (Nat.le_of_ble_eq_true rfl) rfl (k_X10_isTime hR4 h8) ?_
    refine pm_if_ne (tgt := 21) dX10_watched_15 (by decide) (fun c9 => ?_) (fun c9 => ?_)
    · replace h := it_f c9 h
      refine pm_iconst (v := (-1)) dX10_watched_21 (by decide) ?_
      refine pm_istore_n dX10_watched_22 (by decide) rfl rfl ?_
      refine pm_iconst (v := 0) dX10_watched_23 (by decide) ?_
      refine pm_istore_n dX10_watched_24 (by decide) rfl rfl ?_
      obtain ⟨r18, h19, h⟩ := ob_some h
      refine lp_sound (P := fun (s : (Int32 × Int32 × rg_U)) => ∀ w1, rg shM b s.2.2 n w1 → rg_k b shM.length w w1 → pm_X gs ro M_X10_watched 10 0 0 0 0 25 [some (.ref (b + 0)), some (.int x1), some (.int s.1), some (.int s.2.1)] [] n w1 (rg_post shM b n w (some (.int z.1)) z.2)) (E := (fun (r : (Int32 × rg_U)) => ∀ w1, rg shM b r.2 n w1 → rg_k b shM.length w w1 → pm_X gs ro M_X10_watched 10 0 0 0 0 59 [none, none, some (.int r.1), none] [] n w1 (rg_post shM b n w (some (.int z.1)) z.2))) (fun s x hx hc he w1 hR1 hk1 => k_X10_watched_l25 hR1 hk1 hx hc (fun r q => he r q)) F _ r18 h19 ?_ _ hR4 hk5
      intro w20 hR21 hk22
      refine pm_iload_n dX10_watched_59 rfl ?_
      cases h
      exact pm_iret dX10_watched_60 rfl (Nat.le_refl _) (Nat.le_refl _) ⟨rfl, rfl, hR21, hk22⟩
    · replace h := it_t c9 h
      refine pm_bipush (v := (-2)) dX10_watched_18 (by decide) ?_
      cases h
      exact pm_iret dX10_watched_20 rfl (Nat.le_refl _) (Nat.le_refl _) ⟨rfl, rfl, hR4, hk5⟩
def g_X10_clearsLooked_l2 (F : Nat) (l1 : Int32) (u : rg_U) : Option ((Int32 × rg_U) ⊕ rg_U) :=
  if 119 ≤ l1 then (some (.inr u)) else (ck (inb l1 119) (lt1 (sA u 34 l1 0) (fun u3 => some (.inl ((l1 + 1), u3)))))
set_option maxHeartbeats 4000000 in
set_option maxRecDepth 100000 in
theorem k_X10_clearsLooked_l2 {gs : List String} {ro : pm_RO} {n : Nat} {w w1 : Nat → va_E} {b : Nat} {u : rg_U} {F : Nat} {l1 : Int32} {z : (Int32 × rg_U) ⊕ rg_U} {Q : Option Value → Nat → (Nat → va_E) → Prop} (hR : rg shM b u n w1) (hk : rg_k b shM.length w w1) (h : g_X10_clearsLooked_l2 F l1 u = some z) (hc : ∀ s', z = .inl s' → ∀ w1, rg shM b s'.2 n w1 → rg_k b shM.length w w1 → pm_X gs ro M_X10_clearsLooked 0 0 0 0 0 2 [some (.ref (b + 0)), some (.int s'.1)] [] n w1 Q) (he0 : ∀ r', z = .inr r' → ∀ w1, rg shM b r' n w1 → rg_k b shM.length w w1 → pm_X gs ro M_X10_clearsLooked 0 0 0 0 0 21 [none, none] [] n w1 Q) : pm_X gs ro M_X10_clearsLooked 0 0 0 0 0 2 [some (.ref (b + 0)), some (.int l1)] [] n w1 Q := by
  unfold g_X10_clearsLooked_l2 at h
  refine pm_iload_n dX10_clearsLooked_2 rfl ?_
  refine pm_bipush (v := 119) dX10_clearsLooked_3 (by decide) ?_
  refine pm_icmp_ge (tgt := 21) dX10_clearsLooked_5 (by decide) (fun c1 => ?_) (fun c1 => ?_)
  · replace h := it_t c1 h
    refine pm_lw (L' := [none, none]) ⟨Or.inl rfl, Or.inl rfl, trivial⟩ ?_
    exact he0 _ (Option.some.inj h).symm _ hR hk
  · replace h := it_f c1 h
    refine pm_aload_n dX10_clearsLooked_8 rfl ?_
    refine dx_gr (j := 0) (o := 34) hR dX10_clearsLooked_9 fl_X10_126 rfl rfl ?_
    refine pm_iload_n dX10_clearsLooked_12 rfl ?_
    refine pm_iconst (v := 0) dX10_clearsLooked_13 (by decide) ?_
    obtain ⟨c2, h⟩ := ck_some h
    obtain ⟨u3, hu4, h⟩ := lt1_ex h
    refine dx_as (j := 34) hR hk dX10_clearsLooked_14 rfl (vp_in_iff.mpr c2) hu4 (fun w5 hR6 hk7 => ?_)
    refine pm_iinc (v := (l1 + 1)) dX10_clearsLooked_15 rfl rfl (by decide) rfl rfl ?_
    refine pm_goto (tgt := 2) dX10_clearsLooked_18 (by decide) ?_
    refine pm_lw (L' := [some (.ref (b + 0)), some (.int (l1 + 1))]) ⟨Or.inr rfl, Or.inr rfl, trivial⟩ ?_
    exact hc _ (Option.some.inj h).symm _ hR6 hk7
def g_X10_clearsLooked (F : Nat)  (u : rg_U) : Option rg_U :=
  ob (lp (fun (s : (Int32 × rg_U)) => g_X10_clearsLooked_l2 F s.1 s.2) F ((0 : Int32), u)) (fun r8 => some r8)
set_option maxHeartbeats 4000000 in
set_option maxRecDepth 100000 in
theorem k_X10_clearsLooked {gs : List String} {ro : pm_RO} {n : Nat} {w : Nat → va_E} {b : Nat} {u : rg_U} {F : Nat}  {z : rg_U} (hR : rg shM b u n w) (h : g_X10_clearsLooked F u = some z) : pm_Met gs ro M_X10_clearsLooked 0 0 0 [.ref (b + 0)] n w (rg_post shM b n w none z) := by
  unfold g_X10_clearsLooked at h
  refine pm_ofX in_X10_clearsLooked (Nat.le_of_ble_eq_true rfl) rfl (L := [some (.ref (b + 0)), none]) rfl ?_
  refine pm_iconst (v := 0) dX10_clearsLooked_0 (by decide) ?_
  refine pm_istore_n dX10_clearsLooked_1 (by decide) rfl rfl ?_
  obtain ⟨r8, h9, h⟩ := ob_some h
  refine lp_sound (P := fun (s : (Int32 × rg_U)) => ∀ w1, rg shM b s.2 n w1 → rg_k b shM.length w w1 → pm_X gs ro M_X10_clearsLooked 0 0 0 0 0 2 [some (.ref (b + 0)), some (.int s.1)] [] n w1 (rg_post shM b n w none z)) (E := (fun (r : rg_U) => ∀ w1, rg shM b r n w1 → rg_k b shM.length w w1 → pm_X gs ro M_X10_clearsLooked 0 0 0 0 0 21 [none, none] [] n w1 (rg_post shM b n w none z))) (fun s x hx hc he w1 hR1 hk1 => k_X10_clearsLooked_l2 hR1 hk1 hx hc (fun r q => he r q)) F _ r8 h9 ?_ _ hR rg_k0
  intro w10 hR11 hk12
  cases h
  exact pm_vret dX10_clearsLooked_21 rfl (Nat.le_refl _) (Nat.le_refl _) ⟨rfl, rfl, hR11, hk12⟩
def g_X10_looksAt_l2 (F : Nat) (l1 : Int32) (l2 : Int32) (u : rg_U) : Option ((Int32 × rg_U) ⊕ rg_U) :=
  if 119 ≤ l2 then (some (.inr u)) else (ck (inb l2 119) (ck (inb ((119 * l1) + l2) 4760) (ck (inb l2 119) (lt1 (sA u 34 l2 ((rA u 34 l2) ||| (rA u 33 ((119 * l1) + l2)))) (fun u5 => some (.inl ((l2 + 1), u5)))))))
set_option maxHeartbeats 4000000 in
set_option maxRecDepth 100000 in
theorem k_X10_looksAt_l2 {gs : List String} {ro : pm_RO} {n : Nat} {w w1 : Nat → va_E} {b : Nat} {u : rg_U} {F : Nat} {l1 : Int32} {l2 : Int32} {z : (Int32 × rg_U) ⊕ rg_U} {Q : Option Value → Nat → (Nat → va_E) → Prop} (hR : rg shM b u n w1) (hk : rg_k b shM.length w w1) (h : g_X10_looksAt_l2 F l1 l2 u = some z) (hc : ∀ s', z = .inl s' → ∀ w1, rg shM b s'.2 n w1 → rg_k b shM.length w w1 → pm_X gs ro M_X10_looksAt 0 0 0 0 0 2 [some (.ref (b + 0)), some (.int l1), some (.int s'.1)] [] n w1 Q) (he0 : ∀ r', z = .inr r' → ∀ w1, rg shM b r' n w1 → rg_k b shM.length w w1 → pm_X gs ro M_X10_looksAt 0 0 0 0 0 34 [none, none, none] [] n w1 Q) : pm_X gs ro M_X10_looksAt 0 0 0 0 0 2 [some (.ref (b + 0)), some (.int l1), some (.int l2)] [] n w1 Q := by
  unfold g_X10_looksAt_l2 at h
  refine pm_iload_n dX10_looksAt_2 rfl ?_
  refine pm_bipush (v := 119) dX10_looksAt_3 (by decide) ?_
  refine pm_icmp_ge (tgt := 34) dX10_looksAt_5 (by decide) (fun c1 => ?_) (fun c1 => ?_)
  · replace h := it_t c1 h
    refine pm_lw (L' := [none, none, none]) ⟨Or.inl rfl, Or.inl rfl, Or.inl rfl, trivial⟩ ?_
    exact he0 _ (Option.some.inj h).symm _ hR hk
  · replace h := it_f c1 h
    refine pm_aload_n dX10_looksAt_8 rfl ?_
    refine dx_gr (j := 0) (o := 34) hR dX10_looksAt_9 fl_X10_126 rfl rfl ?_
    refine pm_iload_n dX10_looksAt_12 rfl ?_
    refine pm_dup2 dX10_looksAt_13 rfl rfl ?_
    obtain ⟨c2, h⟩ := ck_some h
    refine dx_al (j := 34) hR dX10_looksAt_14 rfl (vp_in_iff.mpr c2) ?_
    refine pm_aload_n dX10_looksAt_15 rfl ?_
    refine dx_gr (j := 0) (o := 33) hR dX10_looksAt_16 fl_X10_123 rfl rfl ?_
    refine pm_bipush (v := 119) dX10_looksAt_19 (by decide) ?_
    refine pm_iload_n dX10_looksAt_21 rfl ?_
    refine pm_imul dX10_looksAt_22 ?_
    refine pm_iload_n dX10_looksAt_23 rfl ?_
    refine pm_iadd dX10_looksAt_24 ?_
    obtain ⟨c3, h⟩ := ck_some h
    refine dx_al (j := 33) hR dX10_looksAt_25 rfl (vp_in_iff.mpr c3) ?_
    refine pm_ior dX10_looksAt_26 ?_
    obtain ⟨c4, h⟩ := ck_some h
    obtain ⟨u5, hu6, h⟩ := lt1_ex h
    refine dx_as (j := 34) hR hk dX10_looksAt_27 rfl (vp_in_iff.mpr c4) hu6 (fun w7 hR8 hk9 => ?_)
    refine pm_iinc (v := (l2 + 1)) dX10_looksAt_28 rfl rfl (by decide) rfl rfl ?_
    refine pm_goto (tgt := 2) dX10_looksAt_31 (by decide) ?_
    refine pm_lw (L' := [some (.ref (b + 0)), some (.int l1), some (.int (l2 + 1))]) ⟨Or.inr rfl, Or.inr rfl, Or.inr rfl, trivial⟩ ?_
    exact hc _ (Option.some.inj h).symm _ hR8 hk9
def g_X10_looksAt (F : Nat) (x1 : Int32) (u : rg_U) : Option rg_U :=
  ob (lp (fun (s : (Int32 × rg_U)) => g_X10_looksAt_l2 F x1 s.1 s.2) F ((0 : Int32), u)) (fun r10 => some r10)
set_option maxHeartbeats 4000000 in
set_option maxRecDepth 100000 in
theorem k_X10_looksAt {gs : List String} {ro : pm_RO} {n : Nat} {w : Nat → va_E} {b : Nat} {u : rg_U} {F : Nat} {x1 : Int32} {z : rg_U} (hR : rg shM b u n w) (h : g_X10_looksAt F x1 u = some z) : pm_Met gs ro M_X10_looksAt 0 0 0 [.ref (b + 0), .int x1] n w (rg_post shM b n w none z) := by
  unfold g_X10_looksAt at h
  refine pm_ofX in_X10_looksAt (Nat.le_of_ble_eq_true rfl) rfl (L := [some (.ref (b + 0)), some (.int x1), none]) rfl ?_
  refine pm_iconst (v := 0) dX10_looksAt_0 (by decide) ?_
  refine pm_istore_n dX10_looksAt_1 (by decide) rfl rfl ?_
  obtain ⟨r10, h11, h⟩ := ob_some h
  refine lp_sound (P := fun (s : (Int32 × rg_U)) => ∀ w1, rg shM b s.2 n w1 → rg_k b shM.length w w1 → pm_X gs ro M_X10_looksAt 0 0 0 0 0 2 [some (.ref (b + 0)), some (.int x1), some (.int s.1)] [] n w1 (rg_post shM b n w none z)) (E := (fun (r : rg_U) => ∀ w1, rg shM b r n w1 → rg_k b shM.length w w1 → pm_X gs ro M_X10_looksAt 0 0 0 0 0 34 [none, none, none] [] n w1 (rg_post shM b n w none z))) (fun s x hx hc he w1 hR1 hk1 => k_X10_looksAt_l2 hR1 hk1 hx hc (fun r q => he r q)) F _ r10 h11 ?_ _ hR rg_k0
  intro w12 hR13 hk14
  cases h
  exact pm_vret dX10_looksAt_34 rfl (Nat.le_refl _) (Nat.le_refl _) ⟨rfl, rfl, hR13, hk14⟩
def g_X10_adds (F : Nat) (x1 : Int32) (u : rg_U) : Option rg_U :=
  ck (inb (dx_shr x1 5) 119) (ck (inb (dx_shr x1 5) 119) (lt1 (sA u 34 (dx_shr x1 5) ((rA u 34 (dx_shr x1 5)) ||| (dx_shl 1 (x1 &&& 31)))) (fun u3 => some u3)))
set_option maxHeartbeats 4000000 in
set_option maxRecDepth 100000 in
theorem k_X10_adds {gs : List String} {ro : pm_RO} {n : Nat} {w : Nat → va_E} {b : Nat} {u : rg_U} {F : Nat} {x1 : Int32} {z : rg_U} (hR : rg shM b u n w) (h : g_X10_adds F x1 u = some z) : pm_Met gs ro M_X10_adds 0 0 0 [.ref (b + 0), .int x1] n w (rg_post shM b n w none z) := by
  unfold g_X10_adds at h
  refine pm_ofX in_X10_adds (Nat.le_of_ble_eq_true rfl) rfl (L := [some (.ref (b + 0)), some (.int x1)]) rfl ?_
  refine pm_aload_n dX10_adds_0 rfl ?_
  refine dx_gr (j := 0) (o := 34) hR dX10_adds_1 fl_X10_126 rfl rfl ?_
  refine pm_iload_n dX10_adds_4 rfl ?_
  refine pm_iconst (v := 5) dX10_adds_5 (by decide) ?_
  refine pm_ishr dX10_adds_6 ?_
  refine pm_dup2 dX10_adds_7 rfl rfl ?_
  obtain ⟨c1, h⟩ := ck_some h
  refine dx_al (j := 34) hR dX10_adds_8 rfl (vp_in_iff.mpr c1) ?_
  refine pm_iconst (v := 1) dX10_adds_9 (by decide) ?_
  refine pm_iload_n dX10_adds_10 rfl ?_
  refine pm_bipush (v := 31) dX10_adds_11 (by decide) ?_
  refine pm_iand dX10_adds_13 ?_
  refine pm_ishl dX10_adds_14 ?_
  refine pm_ior dX10_adds_15 ?_
  obtain ⟨c2, h⟩ := ck_some h
  obtain ⟨u3, hu4, h⟩ := lt1_ex h
  refine dx_as (j := 34) hR rg_k0 dX10_adds_16 rfl (vp_in_iff.mpr c2) hu4 (fun w5 hR6 hk7 => ?_)
  cases h
  exact pm_vret dX10_adds_17 rfl (Nat.le_refl _) (Nat.le_refl _) ⟨rfl, rfl, hR6, hk7⟩
def g_X10_restsOn_l2 (F : Nat) (l1 : Int32) (l2 : Int32) (u : rg_U) : Option ((Int32 × rg_U) ⊕ rg_U) :=
  if 119 ≤ l2 then (some (.inr u)) else (ck (inb l2 119) (ck (inb ((119 * l1) + l2) 4760) (lt1 (sA u 33 ((119 * l1) + l2) (rA u 34 l2)) (fun u4 => some (.inl ((l2 + 1), u4))))))
set_option maxHeartbeats 4000000 in
set_option maxRecDepth 100000 in
theorem k_X10_restsOn_l2 {gs : List String} {ro : pm_RO} {n : Nat} {w w1 : Nat → va_E} {b : Nat} {u : rg_U} {F : Nat} {l1 : Int32} {l2 : Int32} {z : (Int32 × rg_U) ⊕ rg_U} {Q : Option Value → Nat → (Nat → va_E) → Prop} (hR : rg shM b u n w1) (hk : rg_k b shM.length w w1) (h : g_X10_restsOn_l2 F l1 l2 u = some z) (hc : ∀ s', z = .inl s' → ∀ w1, rg shM b s'.2 n w1 → rg_k b shM.length w w1 → pm_X gs ro M_X10_restsOn 0 0 0 0 0 2 [some (.ref (b + 0)), some (.int l1), some (.int s'.1)] [] n w1 Q) (he0 : ∀ r', z = .inr r' → ∀ w1, rg shM b r' n w1 → rg_k b shM.length w w1 → pm_X gs ro M_X10_restsOn 0 0 0 0 0 31 [none, none, none] [] n w1 Q) : pm_X gs ro M_X10_restsOn 0 0 0 0 0 2 [some (.ref (b + 0)), some (.int l1), some (.int l2)] [] n w1 Q := by
  unfold g_X10_restsOn_l2 at h
  refine pm_iload_n dX10_restsOn_2 rfl ?_
  refine pm_bipush (v := 119) dX10_restsOn_3 (by decide) ?_
  refine pm_icmp_ge (tgt := 31) dX10_restsOn_5 (by decide) (fun c1 => ?_) (fun c1 => ?_)
  · replace h := it_t c1 h
    refine pm_lw (L' := [none, none, none]) ⟨Or.inl rfl, Or.inl rfl, Or.inl rfl, trivial⟩ ?_
    exact he0 _ (Option.some.inj h).symm _ hR hk
  · replace h := it_f c1 h
    refine pm_aload_n dX10_restsOn_8 rfl ?_
    refine dx_gr (j := 0) (o := 33) hR dX10_restsOn_9 fl_X10_123 rfl rfl ?_
    refine pm_bipush (v := 119) dX10_restsOn_12 (by decide) ?_
    refine pm_iload_n dX10_restsOn_14 rfl ?_
    refine pm_imul dX10_restsOn_15 ?_
    refine pm_iload_n dX10_restsOn_16 rfl ?_
    refine pm_iadd dX10_restsOn_17 ?_
    refine pm_aload_n dX10_restsOn_18 rfl ?_
    refine dx_gr (j := 0) (o := 34) hR dX10_restsOn_19 fl_X10_126 rfl rfl ?_
    refine pm_iload_n dX10_restsOn_22 rfl ?_
    obtain ⟨c2, h⟩ := ck_some h
    refine dx_al (j := 34) hR dX10_restsOn_23 rfl (vp_in_iff.mpr c2) ?_
    obtain ⟨c3, h⟩ := ck_some h
    obtain ⟨u4, hu5, h⟩ := lt1_ex h
    refine dx_as (j := 33) hR hk dX10_restsOn_24 rfl (vp_in_iff.mpr c3) hu5 (fun w6 hR7 hk8 => ?_)
    refine pm_iinc (v := (l2 + 1)) dX10_restsOn_25 rfl rfl (by decide) rfl rfl ?_
    refine pm_goto (tgt := 2) dX10_restsOn_28 (by decide) ?_
    refine pm_lw (L' := [some (.ref (b + 0)), some (.int l1), some (.int (l2 + 1))]) ⟨Or.inr rfl, Or.inr rfl, Or.inr rfl, trivial⟩ ?_
    exact hc _ (Option.some.inj h).symm _ hR7 hk8
def g_X10_restsOn (F : Nat) (x1 : Int32) (u : rg_U) : Option rg_U :=
  ob (lp (fun (s : (Int32 × rg_U)) => g_X10_restsOn_l2 F x1 s.1 s.2) F ((0 : Int32), u)) (fun r9 => some r9)
set_option maxHeartbeats 4000000 in
set_option maxRecDepth 100000 in
theorem k_X10_restsOn {gs : List String} {ro : pm_RO} {n : Nat} {w : Nat → va_E} {b : Nat} {u : rg_U} {F : Nat} {x1 : Int32} {z : rg_U} (hR : rg shM b u n w) (h : g_X10_restsOn F x1 u = some z) : pm_Met gs ro M_X10_restsOn 0 0 0 [.ref (b + 0), .int x1] n w (rg_post shM b n w none z) := by
  unfold g_X10_restsOn at h
  refine pm_ofX in_X10_restsOn (Nat.le_of_ble_eq_true rfl) rfl (L := [some (.ref (b + 0)), some (.int x1), none]) rfl ?_
  refine pm_iconst (v := 0) dX10_restsOn_0 (by decide) ?_
  refine pm_istore_n dX10_restsOn_1 (by decide) rfl rfl ?_
  obtain ⟨r9, h10, h⟩ := ob_some h
  refine lp_sound (P := fun (s : (Int32 × rg_U)) => ∀ w1, rg shM b s.2 n w1 → rg_k b shM.length w w1 → pm_X gs ro M_X10_restsOn 0 0 0 0 0 2 [some (.ref (b + 0)), some (.int x1), some (.int s.1)] [] n w1 (rg_post shM b n w none z)) (E := (fun (r : rg_U) => ∀ w1, rg shM b r n w1 → rg_k b shM.length w w1 → pm_X gs ro M_X10_restsOn 0 0 0 0 0 31 [none, none, none] [] n w1 (rg_post shM b n w none z))) (fun s x hx hc he w1 hR1 hk1 => k_X10_restsOn_l2 hR1 hk1 hx hc (fun r q => he r q)) F _ r9 h10 ?_ _ hR rg_k0
  intro w11 hR12 hk13
  cases h
  exact pm_vret dX10_restsOn_31 rfl (Nat.le_refl _) (Nat.le_refl _) ⟨rfl, rfl, hR12, hk13⟩
def g_X10_restPokes_l0 (F : Nat) (u : rg_U) : Option (rg_U ⊕ rg_U) :=
  ck (inb (rF u 0 41) 5) (if (rA u 15 (rF u 0 41)) ≤ (rF u 0 42) then (some (.inr u)) else (ck (inb ((800 * (rF u 0 41)) + (rF u 0 42)) 4000) (if (rA u 11 ((800 * (rF u 0 41)) + (rF u 0 42))) = 2 then (ck (inb ((800 * (rF u 0 41)) + (rF u 0 42)) 4000) (ck (inb 133 134) (if (rA u 10 ((800 * (rF u 0 41)) + (rF u 0 42))) = (rA u 31 133) then (ob (g_X10_clearsLooked F u) (fun r8 => ob (g_X10_adds F (3008 + (rF r8 0 42)) r8) (fun r13 => ck (inb ((800 * (rF u 0 41)) + (rF u 0 42)) 4000) (ob (g_X10_restsOn F (rA r13 13 ((800 * (rF u 0 41)) + (rF u 0 42))) r13) (fun r19 => ck (inb ((800 * (rF u 0 41)) + (rF u 0 42)) 4000) (ck (inb ((800 * (rF u 0 41)) + (rF u 0 42)) 4000) (ck (inb ((800 * (rF u 0 41)) + (rF u 0 42)) 4000) (ob (g_X10_puts F 31 134 (rA r19 13 ((800 * (rF u 0 41)) + (rF u 0 42))) (rA r19 14 ((800 * (rF u 0 41)) + (rF u 0 42))) (rA r19 12 ((800 * (rF u 0 41)) + (rF u 0 42))) r19) (fun r27 => lt1 (sF r27 0 42 ((rF r27 0 42) + 1)) (fun u32 => some (.inl u32))))))))))) else (some (.inr u))))) else (some (.inr u)))))
set_option maxHeartbeats 4000000 in
set_option maxRecDepth 100000 in
theorem k_X10_restPokes_l0 {gs : List String} {ro : pm_RO} {n : Nat} {w w1 : Nat → va_E} {b : Nat} {u : rg_U} {F : Nat}  {z : rg_U ⊕ rg_U} {Q : Option Value → Nat → (Nat → va_E) → Prop} (hR : rg shM b u n w1) (hk : rg_k b shM.length w w1) (h : g_X10_restPokes_l0 F u = some z) (hc : ∀ s', z = .inl s' → ∀ w1, rg shM b s' n w1 → rg_k b shM.length w w1 → pm_X gs ro M_X10_restPokes 2 0 0 0 0 0 [some (.ref (b + 0)), none] [] n w1 Q) (he0 : ∀ r', z = .inr r' → ∀ w1, rg shM b r' n w1 → rg_k b shM.length w w1 → pm_X gs ro M_X10_restPokes 2 0 0 0 0 145 [none, none] [] n w1 Q) : pm_X gs ro M_X10_restPokes 2 0 0 0 0 0 [some (.ref (b + 0)), none] [] n w1 Q := by
  unfold g_X10_restPokes_l0 at h
  refine pm_aload_n dX10_restPokes_0 rfl ?_
  refine dx_gi (j := 0) hR dX10_restPokes_1 fl_X10_264 rfl rfl ?_
  refine pm_aload_n dX10_restPokes_4 rfl ?_
  refine dx_gr (j := 0) (o := 15) hR dX10_restPokes_5 fl_X10_60 rfl rfl ?_
  refine pm_aload_n dX10_restPokes_8 rfl ?_
  refine dx_gi (j := 0) hR dX10_restPokes_9 fl_X10_117 rfl rfl ?_
  obtain ⟨c1, h⟩ := ck_some h
  refine dx_al (j := 15) hR dX10_restPokes_12 rfl (vp_in_iff.mpr c1) ?_
  refine pm_icmp_ge (tgt := 145) dX10_restPokes_13 (by decide) (fun c2 => ?_) (fun c2 => ?_)
  · replace h := it_t c2 h
    refine pm_lw (L' := [none, none]) ⟨Or.inl rfl, Or.inl rfl, trivial⟩ ?_
    exact he0 _ (Option.some.inj h).symm _ hR hk
  · replace h := it_f c2 h
    refine pm_aload_n dX10_restPokes_16 rfl ?_
    refine dx_gr (j := 0) (o := 11) hR dX10_restPokes_17 fl_X10_48 rfl rfl ?_
    refine pm_sipush (v := 800) dX10_restPokes_20 (by decide) ?_
    refine pm_aload_n dX10_restPokes_23 rfl ?_
    refine dx_gi (j := 0) hR dX10_restPokes_24 fl_X10_117 rfl rfl ?_
    refine pm_imul dX10_restPokes_27 ?_
    refine pm_aload_n dX10_restPokes_28 rfl ?_
    refine dx_gi (j := 0) hR dX10_restPokes_29 fl_X10_264 rfl rfl ?_
    refine pm_iadd dX10_restPokes_32 ?_
    obtain ⟨c3, h⟩ := ck_some h
    refine dx_al (j := 11) hR dX10_restPokes_33 rfl (vp_in_iff.mpr c3) ?_
    refine pm_iconst (v := 2) dX10_restPokes_34 (by decide) ?_
    refine pm_icmp_ne (tgt := 145) dX10_restPokes_35 (by decide) (fun c4 => ?_) (fun c4 => ?_)
    · replace h := it_f c4 h
      refine pm_lw (L' := [none, none]) ⟨Or.inl rfl, Or.inl rfl, trivial⟩ ?_
      exact he0 _ (Option.some.inj h).symm _ hR hk
    · replace h := it_t c4 h
      refine pm_aload_n dX10_restPokes_38 rfl ?_
      refine dx_gr (j := 0) (o := 10) hR dX10_restPokes_39 fl_X10_45 rfl rfl ?_
      refine pm_sipush (v := 800) dX10_restPokes_42 (by decide) ?_
      refine pm_aload_n dX10_restPokes_45 rfl ?_
      refine dx_gi (j := 0) hR dX10_restPokes_46 fl_X10_117 rfl rfl ?_
      refine pm_imul dX10_restPokes_49 ?_
      refine pm_aload_n dX10_restPokes_50 rfl ?_
      refine dx_gi (j := 0) hR dX10_restPokes_51 fl_X10_264 rfl rfl ?_
      refine pm_iadd dX10_restPokes_54 ?_
      obtain ⟨c5, h⟩ := ck_some h
      refine dx_al (j := 10) hR dX10_restPokes_55 rfl (vp_in_iff.mpr c5) ?_
      refine pm_aload_n dX10_restPokes_56 rfl ?_
      refine dx_gr (j := 0) (o := 31) hR dX10_restPokes_57 fl_X10_114 rfl rfl ?_
      refine pm_sipush (v := 133) dX10_restPokes_60 (by decide) ?_
      obtain ⟨c6, h⟩ := ck_some h
      refine dx_al (j := 31) hR dX10_restPokes_63 rfl (vp_in_iff.mpr c6) ?_
      refine pm_icmp_ne (tgt := 145) dX10_restPokes_64 (by decide) (fun c7 => ?_) (fun c7 => ?_)
      · replace h := it_f c7 h
        refine pm_lw (L' := [none, none]) ⟨Or.inl rfl, Or.inl rfl, trivial⟩ ?_
        exact he0 _ (Option.some.inj h).symm _ hR hk
      · replace h := it_t c7 h
        refine pm_sipush (v := 800) dX10_restPokes_67 (by decide) ?_
        refine pm_aload_n dX10_restPokes_70 rfl ?_
        refine dx_gi (j := 0) hR dX10_restPokes_71 fl_X10_117 rfl rfl ?_
        refine pm_imul dX10_restPokes_74 ?_
        refine pm_aload_n dX10_restPokes_75 rfl ?_
        refine dx_gi (j := 0) hR dX10_restPokes_76 fl_X10_264 rfl rfl ?_
        refine pm_iadd dX10_restPokes_79 ?_
        refine pm_istore_n dX10_restPokes_80 (by decide) rfl rfl ?_
        refine pm_aload_n dX10_restPokes_81 rfl ?_
        obtain ⟨r8, h9, h⟩ := ob_some h
        refine dx_cVv (j := 0) (M := M_X10_restPokes) (Mc := M_X10_clearsLooked) (dc := 0) (As := []) (st := []) hR hk dX10_restPokes_82 ml_X10_312 ⟨TX10, 55, rfl⟩ rfl (by decide) (Nat.le_of_ble_eq_true rfl) rfl (k_X10_clearsLooked hR h9) (fun w10 hR11 hk12 => ?_)
        refine pm_aload_n dX10_restPokes_85 rfl ?_
        refine pm_sipush (v := 3008) dX10_restPokes_86 (by decide) ?_
        refine pm_aload_n dX10_restPokes_89 rfl ?_
        refine dx_gi (j := 0) hR11 dX10_restPokes_90 fl_X10_264 rfl rfl ?_
        refine pm_iadd dX10_restPokes_93 ?_
        obtain ⟨r13, h14, h⟩ := ob_some h
        refine dx_cVv (j := 0) (M := M_X10_restPokes) (Mc := M_X10_adds) (dc := 0) (As := [.int (3008 + (rF r8 0 42))]) (st := []) hR11 hk12 dX10_restPokes_94 ml_X10_315 ⟨TX10, 55, rfl⟩ rfl (by decide) (Nat.le_of_ble_eq_true rfl) rfl (k_X10_adds hR11 h14) (fun w15 hR16 hk17 => ?_)
        refine pm_aload_n dX10_restPokes_97 rfl ?_
        refine pm_aload_n dX10_restPokes_98 rfl ?_
        refine dx_gr (j := 0) (o := 13) hR16 dX10_restPokes_99 fl_X10_54 rfl rfl ?_
        refine pm_iload_n dX10_restPokes_102 rfl ?_
        obtain ⟨c18, h⟩ := ck_some h
        refine dx_al (j := 13) hR16 dX10_restPokes_103 rfl (vp_in_iff.mpr c18) ?_
        obtain ⟨r19, h20, h⟩ := ob_some h
        refine dx_cVv (j := 0) (M := M_X10_restPokes) (Mc := M_X10_restsOn) (dc := 0) (As := [.int (rA r13 13 ((800 * (rF u 0 41)) + (rF u 0 42)))]) (st := []) hR16 hk17 dX10_restPokes_104 ml_X10_318 ⟨TX10, 55, rfl⟩ rfl (by decide) (Nat.le_of_ble_eq_true rfl) rfl (k_X10_restsOn hR16 h20) (fun w21 hR22 hk23 => ?_)
        refine pm_aload_n dX10_restPokes_107 rfl ?_
        refine dx_gr (j := 0) (o := 31) hR22 dX10_restPokes_108 fl_X10_114 rfl rfl ?_
        refine pm_aload_n dX10_restPokes_111 rfl ?_
        refine dx_gr (j := 0) (o := 13) hR22 dX10_restPokes_112 fl_X10_54 rfl rfl ?_
        refine pm_iload_n dX10_restPokes_115 rfl ?_
        obtain ⟨c24, h⟩ := ck_some h
        refine dx_al (j := 13) hR22 dX10_restPokes_116 rfl (vp_in_iff.mpr c24) ?_
        refine pm_aload_n dX10_restPokes_117 rfl ?_
        refine dx_gr (j := 0) (o := 14) hR22 dX10_restPokes_118 fl_X10_57 rfl rfl ?_
        refine pm_iload_n dX10_restPokes_121 rfl ?_
        obtain ⟨c25, h⟩ := ck_some h
        refine dx_al (j := 14) hR22 dX10_restPokes_122 rfl (vp_in_iff.mpr c25) ?_
        refine pm_aload_n dX10_restPokes_123 rfl ?_
        refine dx_gr (j := 0) (o := 12) hR22 dX10_restPokes_124 fl_X10_51 rfl rfl ?_
        refine pm_iload_n dX10_restPokes_127 rfl ?_
        obtain ⟨c26, h⟩ := ck_some h
        refine dx_al (j := 12) hR22 dX10_restPokes_128 rfl (vp_in_iff.mpr c26) ?_
        obtain ⟨r27, h28, h⟩ := ob_some h
        refine dx_cSv (M := M_X10_restPokes) (Mc := M_X10_puts) (dc := 1) (As := [.ref (b + 31), .int (rA r19 13 ((800 * (rF u 0 41)) + (rF u 0 42))), .int (rA r19 14 ((800 * (rF u 0 41)) + (rF u 0 42))), .int (rA r19 12 ((800 * (rF u 0 41)) + (rF u 0 42)))]) (st := []) hk23 dX10_restPokes_129 ml_X10_179 (by decide) (Nat.le_of_ble_eq_true rfl) rfl (k_X10_puts hR22 rfl h28) (fun w29 hR30 hk31 => ?_)
        refine pm_aload_n dX10_restPokes_132 rfl ?_
        refine pm_dup dX10_restPokes_133 rfl ?_
        refine dx_gi (j := 0) hR30 dX10_restPokes_134 fl_X10_264 rfl rfl ?_
        refine pm_iconst (v := 1) dX10_restPokes_137 (by decide) ?_
        refine pm_iadd dX10_restPokes_138 ?_
        obtain ⟨u32, hu33, h⟩ := lt1_ex h
        refine dx_pi (j := 0) hR30 hk31 dX10_restPokes_139 fl_X10_264 rfl rfl hu33 (fun w34 hR35 hk36 => ?_)
        refine pm_goto (tgt := 0) dX10_restPokes_142 (by decide) ?_
        refine pm_lw (L' := [some (.ref (b + 0)), none]) ⟨Or.inr rfl, Or.inl rfl, trivial⟩ ?_
        exact hc _ (Option.some.inj h).symm _ hR35 hk36
def g_X10_restPokes (F : Nat)  (u : rg_U) : Option rg_U :=
  ob (lp (fun (s : rg_U) => g_X10_restPokes_l0 F s) F u) (fun r37 => some r37)
set_option maxHeartbeats 4000000 in
set_option maxRecDepth 100000 in
theorem k_X10_restPokes {gs : List String} {ro : pm_RO} {n : Nat} {w : Nat → va_E} {b : Nat} {u : rg_U} {F : Nat}  {z : rg_U} (hR : rg shM b u n w) (h : g_X10_restPokes F u = some z) : pm_Met gs ro M_X10_restPokes 2 0 0 [.ref (b + 0)] n w (rg_post shM b n w none z) := by
  unfold g_X10_restPokes at h
  refine pm_ofX in_X10_restPokes (Nat.le_of_ble_eq_true rfl) rfl (L := [some (.ref (b + 0)), none]) rfl ?_
  obtain ⟨r37, h38, h⟩ := ob_some h
  refine lp_sound (P := fun (s : rg_U) => ∀ w1, rg shM b s n w1 → rg_k b shM.length w w1 → pm_X gs ro M_X10_restPokes 2 0 0 0 0 0 [some (.ref (b + 0)), none] [] n w1 (rg_post shM b n w none z)) (E := (fun (r : rg_U) => ∀ w1, rg shM b r n w1 → rg_k b shM.length w w1 → pm_X gs ro M_X10_restPokes 2 0 0 0 0 145 [none, none] [] n w1 (rg_post shM b n w none z))) (fun s x hx hc he w1 hR1 hk1 => k_X10_restPokes_l0 hR1 hk1 hx hc (fun r q => he r q)) F _ r37 h38 ?_ _ hR rg_k0
  intro w39 hR40 hk41
  cases h
  exact pm_vret dX10_restPokes_145 rfl (Nat.le_refl _) (Nat.le_refl _) ⟨rfl, rfl, hR40, hk41⟩
def g_X10_looks_j215 (F : Nat)  (u : rg_U) : Option rg_U :=
  ck (inb 133 134) (ob (g_X10_adds F (rA u 31 133) u) (fun r34 => some r34))
set_option maxHeartbeats 4000000 in
set_option maxRecDepth 100000 in
theorem k_X10_looks_j215 {gs : List String} {ro : pm_RO} {n : Nat} {w w1 : Nat → va_E} {b : Nat} {u : rg_U} {F : Nat}  {z : rg_U} (hR : rg shM b u n w1) (hk : rg_k b shM.length w w1) (h : g_X10_looks_j215 F u = some z) : pm_X gs ro M_X10_looks 1 0 0 0 0 215 [some (.ref (b + 0)), none, none, none, none] [] n w1 (rg_post shM b n w none z) := by
  unfold g_X10_looks_j215 at h
  refine pm_aload_n dX10_looks_215 rfl ?_
  refine pm_aload_n dX10_looks_216 rfl ?_
  refine dx_gr (j := 0) (o := 31) hR dX10_looks_217 fl_X10_114 rfl rfl ?_
  refine pm_sipush (v := 133) dX10_looks_220 (by decide) ?_
  obtain ⟨c33, h⟩ := ck_some h
  refine dx_al (j := 31) hR dX10_looks_223 rfl (vp_in_iff.mpr c33) ?_
  obtain ⟨r34, h35, h⟩ := ob_some h
  refine dx_cVv (j := 0) (M := M_X10_looks) (Mc := M_X10_adds) (dc := 0) (As := [.int (rA u 31 133)]) (st := []) hR hk dX10_looks_224 ml_X10_315 ⟨TX10, 55, rfl⟩ rfl (by decide) (Nat.le_of_ble_eq_true rfl) rfl (k_X10_adds hR h35) (fun w36 hR37 hk38 => ?_)
  cases h
  exact pm_vret dX10_looks_227 rfl (Nat.le_refl _) (Nat.le_refl _) ⟨rfl, rfl, hR37, hk38⟩
def g_X10_looks_j203 (F : Nat)  (u : rg_U) : Option rg_U :=
  ob (g_X10_adds F (3008 + (rF u 0 42)) u) (fun r28 => g_X10_looks_j215 F r28)
set_option maxHeartbeats 4000000 in
set_option maxRecDepth 100000 in
theorem k_X10_looks_j203 {gs : List String} {ro : pm_RO} {n : Nat} {w w1 : Nat → va_E} {b : Nat} {u : rg_U} {F : Nat}  {z : rg_U} (hR : rg shM b u n w1) (hk : rg_k b shM.length w w1) (h : g_X10_looks_j203 F u = some z) : pm_X gs ro M_X10_looks 1 0 0 0 0 203 [some (.ref (b + 0)), none, none, none, none] [] n w1 (rg_post shM b n w none z) := by
  unfold g_X10_looks_j203 at h
  refine pm_aload_n dX10_looks_203 rfl ?_
  refine pm_sipush (v := 3008) dX10_looks_204 (by decide) ?_
  refine pm_aload_n dX10_looks_207 rfl ?_
  refine dx_gi (j := 0) hR dX10_looks_208 fl_X10_264 rfl rfl ?_
  refine pm_iadd dX10_looks_211 ?_
  obtain ⟨r28, h29, h⟩ := ob_some h
  refine dx_cVv (j := 0) (M := M_X10_looks) (Mc := M_X10_adds) (dc := 0) (As := [.int (3008 + (rF u 0 42))]) (st := []) hR hk dX10_looks_212 ml_X10_315 ⟨TX10, 55, rfl⟩ rfl (by decide) (Nat.le_of_ble_eq_true rfl) rfl (k_X10_adds hR h29) (fun w30 hR31 hk32 => ?_)
  exact k_X10_looks_j215 hR31 hk32 h
def g_X10_looks_j191 (F : Nat) (l2 : Int32) (u : rg_U) : Option rg_U :=
  if l2 = 19 then (g_X10_looks_j203 F u) else (if l2 = 20 then (g_X10_looks_j203 F u) else (g_X10_looks_j215 F u))
set_option maxHeartbeats 4000000 in
set_option maxRecDepth 100000 in
theorem k_X10_looks_j191 {gs : List String} {ro : pm_RO} {n : Nat} {w w1 : Nat → va_E} {b : Nat} {u : rg_U} {F : Nat} {l2 : Int32} {z : rg_U} (hR : rg shM b u n w1) (hk : rg_k b shM.length w w1) (h : g_X10_looks_j191 F l2 u = some z) : pm_X gs ro M_X10_looks 1 0 0 0 0 191 [some (.ref (b + 0)), none, some (.int l2), none, none] [] n w1 (rg_post shM b n w none z) := by
  unfold g_X10_looks_j191 at h
  refine pm_iload_n dX10_looks_191 rfl ?_
  refine pm_bipush (v := 19) dX10_looks_192 (by decide) ?_
  refine pm_icmp_eq (tgt := 203) dX10_looks_194 (by decide) (fun c27 => ?_) (fun c27 => ?_)
  · replace h := it_t c27 h
    refine pm_lw (L' := [some (.ref (b + 0)), none, none, none, none]) ⟨Or.inr rfl, Or.inl rfl, Or.inl rfl, Or.inl rfl, Or.inl rfl, trivial⟩ ?_
    exact k_X10_looks_j203 hR hk h
  · replace h := it_f c27 h
    refine pm_iload_n dX10_looks_197 rfl ?_
    refine pm_bipush (v := 20) dX10_looks_198 (by decide) ?_
    refine pm_icmp_ne (tgt := 215) dX10_looks_200 (by decide) (fun c39 => ?_) (fun c39 => ?_)
    · replace h := it_f c39 h
      refine pm_lw (L' := [some (.ref (b + 0)), none, none, none, none]) ⟨Or.inr rfl, Or.inl rfl, Or.inl rfl, Or.inl rfl, Or.inl rfl, trivial⟩ ?_
      exact k_X10_looks_j215 hR hk h
    · replace h := it_t c39 h
      refine pm_lw (L' := [some (.ref (b + 0)), none, none, none, none]) ⟨Or.inr rfl, Or.inl rfl, Or.inl rfl, Or.inl rfl, Or.inl rfl, trivial⟩ ?_
      exact k_X10_looks_j203 hR hk h
def g_X10_looks_j149 (F : Nat) (l2 : Int32) (l4 : Int32) (u : rg_U) : Option rg_U :=
  if l2 = 13 then (ck (inb (40 + l4) 134) (if (g_X10_isIn (rA u 31 (40 + l4)) 0 31) = 0 then (g_X10_looks_j191 F l2 u) else (ck (inb (40 + l4) 134) (ob (g_X10_looksAt F (8 + (rA u 31 (40 + l4))) u) (fun r43 => g_X10_looks_j191 F l2 r43))))) else (g_X10_looks_j191 F l2 u)
set_option maxHeartbeats 4000000 in
set_option maxRecDepth 100000 in
theorem k_X10_looks_j149 {gs : List String} {ro : pm_RO} {n : Nat} {w w1 : Nat → va_E} {b : Nat} {u : rg_U} {F : Nat} {l2 : Int32} {l4 : Int32} {z : rg_U} (hR : rg shM b u n w1) (hk : rg_k b shM.length w w1) (h : g_X10_looks_j149 F l2 l4 u = some z) : pm_X gs ro M_X10_looks 1 0 0 0 0 149 [some (.ref (b + 0)), none, some (.int l2), none, some (.int l4)] [] n w1 (rg_post shM b n w none z) := by
  unfold g_X10_looks_j149 at h
  refine pm_iload_n dX10_looks_149 rfl ?_
  refine pm_bipush (v := 13) dX10_looks_150 (by decide) ?_
  refine pm_icmp_ne (tgt := 191) dX10_looks_152 (by decide) (fun c26 => ?_) (fun c26 => ?_)
  · replace h := it_f c26 h
    refine pm_lw (L' := [some (.ref (b + 0)), none, some (.int l2), none, none]) ⟨Or.inr rfl, Or.inl rfl, Or.inr rfl, Or.inl rfl, Or.inl rfl, trivial⟩ ?_
    exact k_X10_looks_j191 hR hk h
  · replace h := it_t c26 h
    refine pm_aload_n dX10_looks_155 rfl ?_
    refine dx_gr (j := 0) (o := 31) hR dX10_looks_156 fl_X10_114 rfl rfl ?_
    refine pm_bipush (v := 40) dX10_looks_159 (by decide) ?_
    refine pm_iload dX10_looks_161 rfl ?_
    refine pm_iadd dX10_looks_163 ?_
    obtain ⟨c40, h⟩ := ck_some h
    refine dx_al (j := 31) hR dX10_looks_164 rfl (vp_in_iff.mpr c40) ?_
    refine pm_iconst (v := 0) dX10_looks_165 (by decide) ?_
    refine pm_bipush (v := 31) dX10_looks_166 (by decide) ?_
    refine dx_cSp (M := M_X10_looks) (Mc := M_X10_isIn) (dc := 0) (As := [.int (rA u 31 (40 + l4)), .int 0, .int 31]) (st := []) dX10_looks_168 ml_X10_138 (by decide) (Nat.le_of_ble_eq_true rfl) rfl (k_X10_isIn rfl) ?_
    refine pm_if_eq (tgt := 191) dX10_looks_171 (by decide) (fun c41 => ?_) (fun c41 => ?_)
    · replace h := it_t c41 h
      refine pm_lw (L' := [some (.ref (b + 0)), none, some (.int l2), none, none]) ⟨Or.inr rfl, Or.inl rfl, Or.inr rfl, Or.inl rfl, Or.inl rfl, trivial⟩ ?_
      exact k_X10_looks_j191 hR hk h
    · replace h := it_f c41 h
      refine pm_aload_n dX10_looks_174 rfl ?_
      refine pm_bipush (v := 8) dX10_looks_175 (by decide) ?_
      refine pm_aload_n dX10_looks_177 rfl ?_
      refine dx_gr (j := 0) (o := 31) hR dX10_looks_178 fl_X10_114 rfl rfl ?_
      refine pm_bipush (v := 40) dX10_looks_181 (by decide) ?_
      refine pm_iload dX10_looks_183 rfl ?_
      refine pm_iadd dX10_looks_185 ?_
      obtain ⟨c42, h⟩ := ck_some h
      refine dx_al (j := 31) hR dX10_looks_186 rfl (vp_in_iff.mpr c42) ?_
      refine pm_iadd dX10_looks_187 ?_
      obtain ⟨r43, h44, h⟩ := ob_some h
      refine dx_cVv (j := 0) (M := M_X10_looks) (Mc := M_X10_looksAt) (dc := 0) (As := [.int (8 + (rA u 31 (40 + l4)))]) (st := []) hR hk dX10_looks_188 ml_X10_321 ⟨TX10, 55, rfl⟩ rfl (by decide) (Nat.le_of_ble_eq_true rfl) rfl (k_X10_looksAt hR h44) (fun w45 hR46 hk47 => ?_)
      refine pm_lw (L' := [some (.ref (b + 0)), none, some (.int l2), none, none]) ⟨Or.inr rfl, Or.inl rfl, Or.inr rfl, Or.inl rfl, Or.inl rfl, trivial⟩ ?_
      exact k_X10_looks_j191 hR46 hk47 h
def g_X10_looks_j138 (F : Nat) (l2 : Int32) (l3 : Int32) (l4 : Int32) (u : rg_U) : Option rg_U :=
  if l2 = 14 then (ob (g_X10_looksAt F l3 u) (fun r48 => g_X10_looks_j149 F l2 l4 r48)) else (g_X10_looks_j149 F l2 l4 u)
set_option maxHeartbeats 4000000 in
set_option maxRecDepth 100000 in
theorem k_X10_looks_j138 {gs : List String} {ro : pm_RO} {n : Nat} {w w1 : Nat → va_E} {b : Nat} {u : rg_U} {F : Nat} {l2 : Int32} {l3 : Int32} {l4 : Int32} {z : rg_U} (hR : rg shM b u n w1) (hk : rg_k b shM.length w w1) (h : g_X10_looks_j138 F l2 l3 l4 u = some z) : pm_X gs ro M_X10_looks 1 0 0 0 0 138 [some (.ref (b + 0)), none, some (.int l2), some (.int l3), some (.int l4)] [] n w1 (rg_post shM b n w none z) := by
  unfold g_X10_looks_j138 at h
  refine pm_iload_n dX10_looks_138 rfl ?_
  refine pm_bipush (v := 14) dX10_looks_139 (by decide) ?_
  refine pm_icmp_ne (tgt := 149) dX10_looks_141 (by decide) (fun c25 => ?_) (fun c25 => ?_)
  · replace h := it_f c25 h
    refine pm_lw (L' := [some (.ref (b + 0)), none, some (.int l2), none, some (.int l4)]) ⟨Or.inr rfl, Or.inl rfl, Or.inr rfl, Or.inl rfl, Or.inr rfl, trivial⟩ ?_
    exact k_X10_looks_j149 hR hk h
  · replace h := it_t c25 h
    refine pm_aload_n dX10_looks_144 rfl ?_
    refine pm_iload_n dX10_looks_145 rfl ?_
    obtain ⟨r48, h49, h⟩ := ob_some h
    refine dx_cVv (j := 0) (M := M_X10_looks) (Mc := M_X10_looksAt) (dc := 0) (As := [.int l3]) (st := []) hR hk dX10_looks_146 ml_X10_321 ⟨TX10, 55, rfl⟩ rfl (by decide) (Nat.le_of_ble_eq_true rfl) rfl (k_X10_looksAt hR h49) (fun w50 hR51 hk52 => ?_)
    refine pm_lw (L' := [some (.ref (b + 0)), none, some (.int l2), none, some (.int l4)]) ⟨Or.inr rfl, Or.inl rfl, Or.inr rfl, Or.inl rfl, Or.inr rfl, trivial⟩ ?_
    exact k_X10_looks_j149 hR51 hk52 h
def g_X10_looks_j120 (F : Nat) (l1 : Int32) (l2 : Int32) (l3 : Int32) (l4 : Int32) (u : rg_U) : Option rg_U :=
  ck (inb ((64 * (rF u 0 41)) + l1) 320) (ob (g_X10_looksAt F (rA u 9 ((64 * (rF u 0 41)) + l1)) u) (fun r20 => g_X10_looks_j138 F l2 l3 l4 r20))
set_option maxHeartbeats 4000000 in
set_option maxRecDepth 100000 in
theorem k_X10_looks_j120 {gs : List String} {ro : pm_RO} {n : Nat} {w w1 : Nat → va_E} {b : Nat} {u : rg_U} {F : Nat} {l1 : Int32} {l2 : Int32} {l3 : Int32} {l4 : Int32} {z : rg_U} (hR : rg shM b u n w1) (hk : rg_k b shM.length w w1) (h : g_X10_looks_j120 F l1 l2 l3 l4 u = some z) : pm_X gs ro M_X10_looks 1 0 0 0 0 120 [some (.ref (b + 0)), some (.int l1), some (.int l2), some (.int l3), some (.int l4)] [] n w1 (rg_post shM b n w none z) := by
  unfold g_X10_looks_j120 at h
  refine pm_aload_n dX10_looks_120 rfl ?_
  refine pm_aload_n dX10_looks_121 rfl ?_
  refine dx_gr (j := 0) (o := 9) hR dX10_looks_122 fl_X10_42 rfl rfl ?_
  refine pm_bipush (v := 64) dX10_looks_125 (by decide) ?_
  refine pm_aload_n dX10_looks_127 rfl ?_
  refine dx_gi (j := 0) hR dX10_looks_128 fl_X10_117 rfl rfl ?_
  refine pm_imul dX10_looks_131 ?_
  refine pm_iload_n dX10_looks_132 rfl ?_
  refine pm_iadd dX10_looks_133 ?_
  obtain ⟨c19, h⟩ := ck_some h
  refine dx_al (j := 9) hR dX10_looks_134 rfl (vp_in_iff.mpr c19) ?_
  obtain ⟨r20, h21, h⟩ := ob_some h
  refine dx_cVv (j := 0) (M := M_X10_looks) (Mc := M_X10_looksAt) (dc := 0) (As := [.int (rA u 9 ((64 * (rF u 0 41)) + l1))]) (st := []) hR hk dX10_looks_135 ml_X10_321 ⟨TX10, 55, rfl⟩ rfl (by decide) (Nat.le_of_ble_eq_true rfl) rfl (k_X10_looksAt hR h21) (fun w22 hR23 hk24 => ?_)
  refine pm_lw (L' := [some (.ref (b + 0)), none, some (.int l2), some (.int l3), some (.int l4)]) ⟨Or.inr rfl, Or.inl rfl, Or.inr rfl, Or.inr rfl, Or.inr rfl, trivial⟩ ?_
  exact k_X10_looks_j138 hR23 hk24 h
def g_X10_looks_j104 (F : Nat) (l1 : Int32) (l2 : Int32) (l3 : Int32) (l4 : Int32) (u : rg_U) : Option rg_U :=
  if (g_X10_isIn l2 4 10) = 0 then (if l2 = 12 then (g_X10_looks_j120 F l1 l2 l3 l4 u) else (g_X10_looks_j138 F l2 l3 l4 u)) else (g_X10_looks_j120 F l1 l2 l3 l4 u)
set_option maxHeartbeats 4000000 in
set_option maxRecDepth 100000 in
theorem k_X10_looks_j104 {gs : List String} {ro : pm_RO} {n : Nat} {w w1 : Nat → va_E} {b : Nat} {u : rg_U} {F : Nat} {l1 : Int32} {l2 : Int32} {l3 : Int32} {l4 : Int32} {z : rg_U} (hR : rg shM b u n w1) (hk : rg_k b shM.length w w1) (h : g_X10_looks_j104 F l1 l2 l3 l4 u = some z) : pm_X gs ro M_X10_looks 1 0 0 0 0 104 [some (.ref (b + 0)), some (.int l1), some (.int l2), some (.int l3), some (.int l4)] [] n w1 (rg_post shM b n w none z) := by
  unfold g_X10_looks_j104 at h
  refine pm_iload_n dX10_looks_104 rfl ?_
  refine pm_iconst (v := 4) dX10_looks_105 (by decide) ?_
  refine pm_bipush (v := 10) dX10_looks_106 (by decide) ?_
  refine dx_cSp (M := M_X10_looks) (Mc := M_X10_isIn) (dc := 0) (As := [.int l2, .int 4, .int 10]) (st := []) dX10_looks_108 ml_X10_138 (by decide) (Nat.le_of_ble_eq_true rfl) rfl (k_X10_isIn rfl) ?_
  refine pm_if_ne (tgt := 120) dX10_looks_111 (by decide) (fun c18 => ?_) (fun c18 => ?_)
  · replace h := it_f c18 h
    exact k_X10_looks_j120 hR hk h
  · replace h := it_t c18 h
    refine pm_iload_n dX10_looks_114 rfl ?_
    refine pm_bipush (v := 12) dX10_looks_115 (by decide) ?_
    refine pm_icmp_ne (tgt := 138) dX10_looks_117 (by decide) (fun c53 => ?_) (fun c53 => ?_)
    · replace h := it_f c53 h
      refine pm_lw (L' := [some (.ref (b + 0)), none, some (.int l2), some (.int l3), some (.int l4)]) ⟨Or.inr rfl, Or.inl rfl, Or.inr rfl, Or.inr rfl, Or.inr rfl, trivial⟩ ?_
      exact k_X10_looks_j138 hR hk h
    · replace h := it_t c53 h
      exact k_X10_looks_j120 hR hk h
def g_X10_looks_j98 (F : Nat) (l1 : Int32) (l2 : Int32) (l3 : Int32) (l4 : Int32) (u : rg_U) : Option rg_U :=
  ob (g_X10_looksAt F l4 u) (fun r13 => g_X10_looks_j104 F l1 l2 l3 l4 r13)
set_option maxHeartbeats 4000000 in
set_option maxRecDepth 100000 in
theorem k_X10_looks_j98 {gs : List String} {ro : pm_RO} {n : Nat} {w w1 : Nat → va_E} {b : Nat} {u : rg_U} {F : Nat} {l1 : Int32} {l2 : Int32} {l3 : Int32} {l4 : Int32} {z : rg_U} (hR : rg shM b u n w1) (hk : rg_k b shM.length w w1) (h : g_X10_looks_j98 F l1 l2 l3 l4 u = some z) : pm_X gs ro M_X10_looks 1 0 0 0 0 98 [some (.ref (b + 0)), some (.int l1), some (.int l2), some (.int l3), some (.int l4)] [] n w1 (rg_post shM b n w none z) := by
  unfold g_X10_looks_j98 at h
  refine pm_aload_n dX10_looks_98 rfl ?_
  refine pm_iload dX10_looks_99 rfl ?_
  obtain ⟨r13, h14, h⟩ := ob_some h
  refine dx_cVv (j := 0) (M := M_X10_looks) (Mc := M_X10_looksAt) (dc := 0) (As := [.int l4]) (st := []) hR hk dX10_looks_101 ml_X10_321 ⟨TX10, 55, rfl⟩ rfl (by decide) (Nat.le_of_ble_eq_true rfl) rfl (k_X10_looksAt hR h14) (fun w15 hR16 hk17 => ?_)
  exact k_X10_looks_j104 hR16 hk17 h
def g_X10_looks (F : Nat)  (u : rg_U) : Option rg_U :=
  ck (inb 120 134) (ob (g_X10_kindAt F (rF u 0 41) (rA u 31 120) u) (fun r2 => ob (g_X10_clearsLooked F u) (fun r4 => if r2 = (-1) then (some r4) else (ck (inb ((64 * (rF r4 0 41)) + (rA u 31 120)) 320) (ck (inb ((64 * (rF r4 0 41)) + (rA u 31 120)) 320) (if r2 = 3 then (g_X10_looks_j98 F (rA u 31 120) r2 (rA r4 7 ((64 * (rF r4 0 41)) + (rA u 31 120))) (rA r4 8 ((64 * (rF r4 0 41)) + (rA u 31 120))) r4) else (if r2 = 11 then (g_X10_looks_j98 F (rA u 31 120) r2 (rA r4 7 ((64 * (rF r4 0 41)) + (rA u 31 120))) (rA r4 8 ((64 * (rF r4 0 41)) + (rA u 31 120))) r4) else (if r2 = 14 then (g_X10_looks_j98 F (rA u 31 120) r2 (rA r4 7 ((64 * (rF r4 0 41)) + (rA u 31 120))) (rA r4 8 ((64 * (rF r4 0 41)) + (rA u 31 120))) r4) else (if r2 = 13 then (g_X10_looks_j98 F (rA u 31 120) r2 (rA r4 7 ((64 * (rF r4 0 41)) + (rA u 31 120))) (rA r4 8 ((64 * (rF r4 0 41)) + (rA u 31 120))) r4) else (if (g_X10_isIn r2 4 10) = 0 then (if r2 = 12 then (g_X10_looks_j98 F (rA u 31 120) r2 (rA r4 7 ((64 * (rF r4 0 41)) + (rA u 31 120))) (rA r4 8 ((64 * (rF r4 0 41)) + (rA u 31 120))) r4) else (g_X10_looks_j104 F (rA u 31 120) r2 (rA r4 7 ((64 * (rF r4 0 41)) + (rA u 31 120))) (rA r4 8 ((64 * (rF r4 0 41)) + (rA u 31 120))) r4)) else (g_X10_looks_j98 F (rA u 31 120) r2 (rA r4 7 ((64 * (rF r4 0 41)) + (rA u 31 120))) (rA r4 8 ((64 * (rF r4 0 41)) + (rA u 31 120))) r4)))))))))))
set_option maxHeartbeats 4000000 in
set_option maxRecDepth 100000 in
theorem k_X10_looks {gs : List String} {ro : pm_RO} {n : Nat} {w : Nat → va_E} {b : Nat} {u : rg_U} {F : Nat}  {z : rg_U} (hR : rg shM b u n w) (h : g_X10_looks F u = some z) : pm_Met gs ro M_X10_looks 1 0 0 [.ref (b + 0)] n w (rg_post shM b n w none z) := by
  unfold g_X10_looks at h
  refine pm_ofX in_X10_looks (Nat.le_of_ble_eq_true rfl) rfl (L := [some (.ref (b + 0)), none, none, none, none]) rfl ?_
  refine pm_aload_n dX10_looks_0 rfl ?_
  refine dx_gr (j := 0) (o := 31) hR dX10_looks_1 fl_X10_114 rfl rfl ?_
  refine pm_bipush (v := 120) dX10_looks_4 (by decide) ?_
  obtain ⟨c1, h⟩ := ck_some h
  refine dx_al (j := 31) hR dX10_looks_6 rfl (vp_in_iff.mpr c1) ?_
  refine pm_istore_n dX10_looks_7 (by decide) rfl rfl ?_
  refine pm_aload_n dX10_looks_8 rfl ?_
  refine pm_aload_n dX10_looks_9 rfl ?_
  refine dx_gi (j := 0) hR dX10_looks_10 fl_X10_117 rfl rfl ?_
  refine pm_iload_n dX10_looks_13 rfl ?_
  obtain ⟨r2, h3, h⟩ := ob_some h
  refine dx_cVp (j := 0) (M := M_X10_looks) (Mc := M_X10_kindAt) (dc := 0) (As := [.int (rF u 0 41), .int (rA u 31 120)]) (st := []) hR dX10_looks_14 ml_X10_189 ⟨TX10, 55, rfl⟩ rfl (by decide) (Nat.le_of_ble_eq_true rfl) rfl (k_X10_kindAt hR h3) ?_
  refine pm_istore_n dX10_looks_17 (by decide) rfl rfl ?_
  refine pm_aload_n dX10_looks_18 rfl ?_
  obtain ⟨r4, h5, h⟩ := ob_some h
  refine dx_cVv (j := 0) (M := M_X10_looks) (Mc := M_X10_clearsLooked) (dc := 0) (As := []) (st := []) hR rg_k0 dX10_looks_19 ml_X10_312 ⟨TX10, 55, rfl⟩ rfl (by decide) (Nat.le_of_ble_eq_true rfl) rfl (k_X10_clearsLooked hR h5) (fun w6 hR7 hk8 => ?_)
  refine pm_iload_n dX10_looks_22 rfl ?_
  refine pm_iconst (v := (-1)) dX10_looks_23 (by decide) ?_
  refine pm_icmp_ne (tgt := 28) dX10_looks_24 (by decide) (fun c9 => ?_) (fun c9 => ?_)
  · replace h := it_f c9 h
    refine pm_aload_n dX10_looks_28 rfl ?_
    refine dx_gr (j := 0) (o := 7) hR7 dX10_looks_29 fl_X10_36 rfl rfl ?_
    refine pm_bipush (v := 64) dX10_looks_32 (by decide) ?_
    refine pm_aload_n dX10_looks_34 rfl ?_
    refine dx_gi (j := 0) hR7 dX10_looks_35 fl_X10_117 rfl rfl ?_
    refine pm_imul dX10_looks_38 ?_
    refine pm_iload_n dX10_looks_39 rfl ?_
    refine pm_iadd dX10_looks_40 ?_
    obtain ⟨c10, h⟩ := ck_some h
    refine dx_al (j := 7) hR7 dX10_looks_41 rfl (vp_in_iff.mpr c10) ?_
    refine pm_istore_n dX10_looks_42 (by decide) rfl rfl ?_
    refine pm_aload_n dX10_looks_43 rfl ?_
    refine dx_gr (j := 0) (o := 8) hR7 dX10_looks_44 fl_X10_39 rfl rfl ?_
    refine pm_bipush (v := 64) dX10_looks_47 (by decide) ?_
    refine pm_aload_n dX10_looks_49 rfl ?_
    refine dx_gi (j := 0) hR7 dX10_looks_50 fl_X10_117 rfl rfl ?_
    refine pm_imul dX10_looks_53 ?_
    refine pm_iload_n dX10_looks_54 rfl ?_
    refine pm_iadd dX10_looks_55 ?_
    obtain ⟨c11, h⟩ := ck_some h
    refine dx_al (j := 8) hR7 dX10_looks_56 rfl (vp_in_iff.mpr c11) ?_
    refine pm_istore dX10_looks_57 (by decide) rfl rfl ?_
    refine pm_iload_n dX10_looks_59 rfl ?_
    refine pm_iconst (v := 3) dX10_looks_60 (by decide) ?_
    refine pm_icmp_eq (tgt := 98) dX10_looks_61 (by decide) (fun c12 => ?_) (fun c12 => ?_)
    · replace h := it_t c12 h
      exact k_X10_looks_j98 hR7 hk8 h
    · replace h := it_f c12 h
      refine pm_iload_n dX10_looks_64 rfl ?_
      refine pm_bipush (v := 11) dX10_looks_65 (by decide) ?_
      refine pm_icmp_eq (tgt := 98) dX10_looks_67 (by decide) (fun c54 => ?_) (fun c54 => ?_)
      · replace h := it_t c54 h
        exact k_X10_looks_j98 hR7 hk8 h
      · replace h := it_f c54 h
        refine pm_iload_n dX10_looks_70 rfl ?_
        refine pm_bipush (v := 14) dX10_looks_71 (by decide) ?_
        refine pm_icmp_eq (tgt := 98) dX10_looks_73 (by decide) (fun c55 => ?_) (fun c55 => ?_)
        · replace h := it_t c55 h
          exact k_X10_looks_j98 hR7 hk8 h
        · replace h := it_f c55 h
          refine pm_iload_n dX10_looks_76 rfl ?_
          refine pm_bipush (v := 13) dX10_looks_77 (by decide) ?_
          refine pm_icmp_eq (tgt := 98) dX10_looks_79 (by decide) (fun c56 => ?_) (fun c56 => ?_)
          · replace h := it_t c56 h
            exact k_X10_looks_j98 hR7 hk8 h
          · replace h := it_f c56 h
            refine pm_iload_n dX10_looks_82 rfl ?_
            refine pm_iconst (v := 4) dX10_looks_83 (by decide) ?_
            refine pm_bipush (v := 10) dX10_looks_84 (by decide) ?_
            refine dx_cSp (M := M_X10_looks) (Mc := M_X10_isIn) (dc := 0) (As := [.int r2, .int 4, .int 10]) (st := []) dX10_looks_86 ml_X10_138 (by decide) (Nat.le_of_ble_eq_true rfl) rfl (k_X10_isIn rfl) ?_
            refine pm_if_ne (tgt := 98) dX10_looks_89 (by decide) (fun c57 => ?_) (fun c57 => ?_)
            · replace h := it_f c57 h
              exact k_X10_looks_j98 hR7 hk8 h
            · replace h := it_t c57 h
              refine pm_iload_n dX10_looks_92 rfl ?_
              refine pm_bipush (v := 12) dX10_looks_93 (by decide) ?_
              refine pm_icmp_ne (tgt := 104) dX10_looks_95 (by decide) (fun c58 => ?_) (fun c58 => ?_)
              · replace h := it_f c58 h
                exact k_X10_looks_j104 hR7 hk8 h
              · replace h := it_t c58 h
                exact k_X10_looks_j98 hR7 hk8 h
  · replace h := it_t c9 h
    cases h
    exact pm_vret dX10_looks_27 rfl (Nat.le_refl _) (Nat.le_refl _) ⟨rfl, rfl, hR7, hk8⟩
def g_X10_laysRests_l2 (F : Nat) (l1 : Int32) (l2 : Int32) (l3 : Int32) (u : rg_U) : Option ((Int32 × rg_U) ⊕ rg_U) :=
  if 4760 ≤ l3 then (some (.inr u)) else (ck (inb l3 4760) (lt1 (sA u 33 l3 0) (fun u3 => some (.inl ((l3 + 1), u3)))))
set_option maxHeartbeats 4000000 in
set_option maxRecDepth 100000 in
theorem k_X10_laysRests_l2 {gs : List String} {ro : pm_RO} {n : Nat} {w w1 : Nat → va_E} {b : Nat} {u : rg_U} {F : Nat} {l1 : Int32} {l2 : Int32} {l3 : Int32} {z : (Int32 × rg_U) ⊕ rg_U} {Q : Option Value → Nat → (Nat → va_E) → Prop} (hR : rg shM b u n w1) (hk : rg_k b shM.length w w1) (h : g_X10_laysRests_l2 F l1 l2 l3 u = some z) (hc : ∀ s', z = .inl s' → ∀ w1, rg shM b s'.2 n w1 → rg_k b shM.length w w1 → pm_X gs ro M_X10_laysRests 6 0 0 0 0 2 [some (.ref (b + 0)), some (.int l1), some (.int l2), some (.int s'.1)] [] n w1 Q) (he0 : ∀ r', z = .inr r' → ∀ w1, rg shM b r' n w1 → rg_k b shM.length w w1 → pm_X gs ro M_X10_laysRests 6 0 0 0 0 22 [some (.ref (b + 0)), some (.int l1), some (.int l2), none] [] n w1 Q) : pm_X gs ro M_X10_laysRests 6 0 0 0 0 2 [some (.ref (b + 0)), some (.int l1), some (.int l2), some (.int l3)] [] n w1 Q := by
  unfold g_X10_laysRests_l2 at h
  refine pm_iload_n dX10_laysRests_2 rfl ?_
  refine pm_sipush (v := 4760) dX10_laysRests_3 (by decide) ?_
  refine pm_icmp_ge (tgt := 22) dX10_laysRests_6 (by decide) (fun c1 => ?_) (fun c1 => ?_)
  · replace h := it_t c1 h
    refine pm_lw (L' := [some (.ref (b + 0)), some (.int l1), some (.int l2), none]) ⟨Or.inr rfl, Or.inr rfl, Or.inr rfl, Or.inl rfl, trivial⟩ ?_
    exact he0 _ (Option.some.inj h).symm _ hR hk
  · replace h := it_f c1 h
    refine pm_aload_n dX10_laysRests_9 rfl ?_
    refine dx_gr (j := 0) (o := 33) hR dX10_laysRests_10 fl_X10_123 rfl rfl ?_
    refine pm_iload_n dX10_laysRests_13 rfl ?_
    refine pm_iconst (v := 0) dX10_laysRests_14 (by decide) ?_
    obtain ⟨c2, h⟩ := ck_some h
    obtain ⟨u3, hu4, h⟩ := lt1_ex h
    refine dx_as (j := 33) hR hk dX10_laysRests_15 rfl (vp_in_iff.mpr c2) hu4 (fun w5 hR6 hk7 => ?_)
    refine pm_iinc (v := (l3 + 1)) dX10_laysRests_16 rfl rfl (by decide) rfl rfl ?_
    refine pm_goto (tgt := 2) dX10_laysRests_19 (by decide) ?_
    refine pm_lw (L' := [some (.ref (b + 0)), some (.int l1), some (.int l2), some (.int (l3 + 1))]) ⟨Or.inr rfl, Or.inr rfl, Or.inr rfl, Or.inr rfl, trivial⟩ ?_
    exact hc _ (Option.some.inj h).symm _ hR6 hk7
def g_X10_laysRests_j107 (F : Nat) (l1 : Int32) (l2 : Int32) (u : rg_U) : Option (rg_U ⊕ rg_U) :=
  ob (g_X10_restPokes F u) (fun r47 => some (.inl r47))
set_option maxHeartbeats 4000000 in
set_option maxRecDepth 100000 in
theorem k_X10_laysRests_j107 {gs : List String} {ro : pm_RO} {n : Nat} {w w1 : Nat → va_E} {b : Nat} {u : rg_U} {F : Nat} {l1 : Int32} {l2 : Int32} {z : (rg_U ⊕ rg_U)} {Q : Option Value → Nat → (Nat → va_E) → Prop} (hR : rg shM b u n w1) (hk : rg_k b shM.length w w1) (h : g_X10_laysRests_j107 F l1 l2 u = some z) (hc : ∀ s', z = .inl s' → ∀ w1, rg shM b s' n w1 → rg_k b shM.length w w1 → pm_X gs ro M_X10_laysRests 6 0 0 0 0 44 [some (.ref (b + 0)), some (.int l1), some (.int l2), none] [] n w1 Q) (he0 : ∀ r', z = .inr r' → ∀ w1, rg shM b r' n w1 → rg_k b shM.length w w1 → pm_X gs ro M_X10_laysRests 6 0 0 0 0 114 [none, none, none, none] [] n w1 Q) : pm_X gs ro M_X10_laysRests 6 0 0 0 0 107 [some (.ref (b + 0)), some (.int l1), some (.int l2), none] [] n w1 Q := by
  unfold g_X10_laysRests_j107 at h
  refine pm_aload_n dX10_laysRests_107 rfl ?_
  obtain ⟨r47, h48, h⟩ := ob_some h
  refine dx_cVv (j := 0) (M := M_X10_laysRests) (Mc := M_X10_restPokes) (dc := 2) (As := []) (st := []) hR hk dX10_laysRests_108 ml_X10_324 ⟨TX10, 55, rfl⟩ rfl (by decide) (Nat.le_of_ble_eq_true rfl) rfl (k_X10_restPokes hR h48) (fun w49 hR50 hk51 => ?_)
  refine pm_goto (tgt := 44) dX10_laysRests_111 (by decide) ?_
  refine pm_lw (L' := [some (.ref (b + 0)), some (.int l1), some (.int l2), none]) ⟨Or.inr rfl, Or.inr rfl, Or.inr rfl, Or.inl rfl, trivial⟩ ?_
  exact hc _ (Option.some.inj h).symm _ hR50 hk51
def g_X10_laysRests_j91 (F : Nat) (l1 : Int32) (l2 : Int32) (u : rg_U) : Option (rg_U ⊕ rg_U) :=
  if (rF u 0 39) = (-1) then (g_X10_laysRests_j107 F l1 l2 u) else (ob (g_X10_restsOn F (rF u 0 39) u) (fun r52 => g_X10_laysRests_j107 F l1 l2 r52))
set_option maxHeartbeats 4000000 in
set_option maxRecDepth 100000 in
theorem k_X10_laysRests_j91 {gs : List String} {ro : pm_RO} {n : Nat} {w w1 : Nat → va_E} {b : Nat} {u : rg_U} {F : Nat} {l1 : Int32} {l2 : Int32} {z : (rg_U ⊕ rg_U)} {Q : Option Value → Nat → (Nat → va_E) → Prop} (hR : rg shM b u n w1) (hk : rg_k b shM.length w w1) (h : g_X10_laysRests_j91 F l1 l2 u = some z) (hc : ∀ s', z = .inl s' → ∀ w1, rg shM b s' n w1 → rg_k b shM.length w w1 → pm_X gs ro M_X10_laysRests 6 0 0 0 0 44 [some (.ref (b + 0)), some (.int l1), some (.int l2), none] [] n w1 Q) (he0 : ∀ r', z = .inr r' → ∀ w1, rg shM b r' n w1 → rg_k b shM.length w w1 → pm_X gs ro M_X10_laysRests 6 0 0 0 0 114 [none, none, none, none] [] n w1 Q) : pm_X gs ro M_X10_laysRests 6 0 0 0 0 91 [some (.ref (b + 0)), some (.int l1), some (.int l2), none] [] n w1 Q := by
  unfold g_X10_laysRests_j91 at h
  refine pm_aload_n dX10_laysRests_91 rfl ?_
  refine dx_gi (j := 0) hR dX10_laysRests_92 fl_X10_186 rfl rfl ?_
  refine pm_iconst (v := (-1)) dX10_laysRests_95 (by decide) ?_
  refine pm_icmp_eq (tgt := 107) dX10_laysRests_96 (by decide) (fun c46 => ?_) (fun c46 => ?_)
  · replace h := it_t c46 h
    exact k_X10_laysRests_j107 hR hk h hc he0
  · replace h := it_f c46 h
    refine pm_aload_n dX10_laysRests_99 rfl ?_
    refine pm_aload_n dX10_laysRests_100 rfl ?_
    refine dx_gi (j := 0) hR dX10_laysRests_101 fl_X10_186 rfl rfl ?_
    obtain ⟨r52, h53, h⟩ := ob_some h
    refine dx_cVv (j := 0) (M := M_X10_laysRests) (Mc := M_X10_restsOn) (dc := 0) (As := [.int (rF u 0 39)]) (st := []) hR hk dX10_laysRests_104 ml_X10_318 ⟨TX10, 55, rfl⟩ rfl (by decide) (Nat.le_of_ble_eq_true rfl) rfl (k_X10_restsOn hR h53) (fun w54 hR55 hk56 => ?_)
    exact k_X10_laysRests_j107 hR55 hk56 h hc he0
def g_X10_laysRests_l44 (F : Nat) (l1 : Int32) (l2 : Int32) (u : rg_U) : Option (rg_U ⊕ rg_U) :=
  ck (inb 133 134) (if l2 ≤ (rA u 31 133) then (some (.inr u)) else (ob (g_X10_looks F u) (fun r35 => ob (g_X10_steps F 31 134 l1 (rF r35 0 42) r35) (fun r40 => if (rF r40 0 38) = (-1) then (g_X10_laysRests_j91 F l1 l2 r40) else (lt1 (sF r40 0 42 ((rF r40 0 42) + 1)) (fun u57 => g_X10_laysRests_j91 F l1 l2 u57))))))
set_option maxHeartbeats 4000000 in
set_option maxRecDepth 100000 in
theorem k_X10_laysRests_l44 {gs : List String} {ro : pm_RO} {n : Nat} {w w1 : Nat → va_E} {b : Nat} {u : rg_U} {F : Nat} {l1 : Int32} {l2 : Int32} {z : rg_U ⊕ rg_U} {Q : Option Value → Nat → (Nat → va_E) → Prop} (hR : rg shM b u n w1) (hk : rg_k b shM.length w w1) (h : g_X10_laysRests_l44 F l1 l2 u = some z) (hc : ∀ s', z = .inl s' → ∀ w1, rg shM b s' n w1 → rg_k b shM.length w w1 → pm_X gs ro M_X10_laysRests 6 0 0 0 0 44 [some (.ref (b + 0)), some (.int l1), some (.int l2), none] [] n w1 Q) (he0 : ∀ r', z = .inr r' → ∀ w1, rg shM b r' n w1 → rg_k b shM.length w w1 → pm_X gs ro M_X10_laysRests 6 0 0 0 0 114 [none, none, none, none] [] n w1 Q) : pm_X gs ro M_X10_laysRests 6 0 0 0 0 44 [some (.ref (b + 0)), some (.int l1), some (.int l2), none] [] n w1 Q := by
  unfold g_X10_laysRests_l44 at h
  refine pm_aload_n dX10_laysRests_44 rfl ?_
  refine dx_gr (j := 0) (o := 31) hR dX10_laysRests_45 fl_X10_114 rfl rfl ?_
  refine pm_sipush (v := 133) dX10_laysRests_48 (by decide) ?_
  obtain ⟨c33, h⟩ := ck_some h
  refine dx_al (j := 31) hR dX10_laysRests_51 rfl (vp_in_iff.mpr c33) ?_
  refine pm_iload_n dX10_laysRests_52 rfl ?_
  refine pm_icmp_ge (tgt := 114) dX10_laysRests_53 (by decide) (fun c34 => ?_) (fun c34 => ?_)
  · replace h := it_t c34 h
    refine pm_lw (L' := [none, none, none, none]) ⟨Or.inl rfl, Or.inl rfl, Or.inl rfl, Or.inl rfl, trivial⟩ ?_
    exact he0 _ (Option.some.inj h).symm _ hR hk
  · replace h := it_f c34 h
    refine pm_aload_n dX10_laysRests_56 rfl ?_
    obtain ⟨r35, h36, h⟩ := ob_some h
    refine dx_cVv (j := 0) (M := M_X10_laysRests) (Mc := M_X10_looks) (dc := 1) (As := []) (st := []) hR hk dX10_laysRests_57 ml_X10_327 ⟨TX10, 55, rfl⟩ rfl (by decide) (Nat.le_of_ble_eq_true rfl) rfl (k_X10_looks hR h36) (fun w37 hR38 hk39 => ?_)
    refine pm_aload_n dX10_laysRests_60 rfl ?_
    refine pm_aload_n dX10_laysRests_61 rfl ?_
    refine dx_gr (j := 0) (o := 31) hR38 dX10_laysRests_62 fl_X10_114 rfl rfl ?_
    refine pm_iload_n dX10_laysRests_65 rfl ?_
    refine pm_aload_n dX10_laysRests_66 rfl ?_
    refine dx_gi (j := 0) hR38 dX10_laysRests_67 fl_X10_264 rfl rfl ?_
    obtain ⟨r40, h41, h⟩ := ob_some h
    refine dx_cVv (j := 0) (M := M_X10_laysRests) (Mc := M_X10_steps) (dc := 5) (As := [.ref (b + 31), .int l1, .int (rF r35 0 42)]) (st := []) hR38 hk39 dX10_laysRests_70 ml_X10_247 ⟨TX10, 55, rfl⟩ rfl (by decide) (Nat.le_of_ble_eq_true rfl) rfl (k_X10_steps hR38 rfl h41) (fun w42 hR43 hk44 => ?_)
    refine pm_aload_n dX10_laysRests_73 rfl ?_
    refine dx_gi (j := 0) hR43 dX10_laysRests_74 fl_X10_192 rfl rfl ?_
    refine pm_iconst (v := (-1)) dX10_laysRests_77 (by decide) ?_
    refine pm_icmp_eq (tgt := 91) dX10_laysRests_78 (by decide) (fun c45 => ?_) (fun c45 => ?_)
    · replace h := it_t c45 h
      exact k_X10_laysRests_j91 hR43 hk44 h hc he0
    · replace h := it_f c45 h
      refine pm_aload_n dX10_laysRests_81 rfl ?_
      refine pm_dup dX10_laysRests_82 rfl ?_
      refine dx_gi (j := 0) hR43 dX10_laysRests_83 fl_X10_264 rfl rfl ?_
      refine pm_iconst (v := 1) dX10_laysRests_86 (by decide) ?_
      refine pm_iadd dX10_laysRests_87 ?_
      obtain ⟨u57, hu58, h⟩ := lt1_ex h
      refine dx_pi (j := 0) hR43 hk44 dX10_laysRests_88 fl_X10_264 rfl rfl hu58 (fun w59 hR60 hk61 => ?_)
      exact k_X10_laysRests_j91 hR60 hk61 h hc he0
def g_X10_laysRests (F : Nat) (x1 : Int32) (x2 : Int32) (u : rg_U) : Option rg_U :=
  ob (lp (fun (s : (Int32 × rg_U)) => g_X10_laysRests_l2 F x1 x2 s.1 s.2) F ((0 : Int32), u)) (fun r8 => lt1 (sF r8 0 41 x1) (fun u13 => lt1 (sF u13 0 42 0) (fun u18 => ob (g_X10_clears F 31 134 u18) (fun r23 => ob (g_X10_restPokes F r23) (fun r28 => ob (lp (fun (s : rg_U) => g_X10_laysRests_l44 F x1 x2 s) F r28) (fun r62 => some r62))))))
set_option maxHeartbeats 4000000 in
set_option maxRecDepth 100000 in
theorem k_X10_laysRests {gs : List String} {ro : pm_RO} {n : Nat} {w : Nat → va_E} {b : Nat} {u : rg_U} {F : Nat} {x1 : Int32} {x2 : Int32} {z : rg_U} (hR : rg shM b u n w) (h : g_X10_laysRests F x1 x2 u = some z) : pm_Met gs ro M_X10_laysRests 6 0 0 [.ref (b + 0), .int x1, .int x2] n w (rg_post shM b n w none z) := by
  unfold g_X10_laysRests at h
  refine pm_ofX in_X10_laysRests (Nat.le_of_ble_eq_true rfl) rfl (L := [some (.ref (b + 0)), some (.int x1), some (.int x2), none]) rfl ?_
  refine pm_iconst (v := 0) dX10_laysRests_0 (by decide) ?_
  refine pm_istore_n dX10_laysRests_1 (by decide) rfl rfl ?_
  obtain ⟨r8, h9, h⟩ := ob_some h
  refine lp_sound (P := fun (s : (Int32 × rg_U)) => ∀ w1, rg shM b s.2 n w1 → rg_k b shM.length w w1 → pm_X gs ro M_X10_laysRests 6 0 0 0 0 2 [some (.ref (b + 0)), some (.int x1), some (.int x2), some (.int s.1)] [] n w1 (rg_post shM b n w none z)) (E := (fun (r : rg_U) => ∀ w1, rg shM b r n w1 → rg_k b shM.length w w1 → pm_X gs ro M_X10_laysRests 6 0 0 0 0 22 [some (.ref (b + 0)), some (.int x1), some (.int x2), none] [] n w1 (rg_post shM b n w none z))) (fun s x hx hc he w1 hR1 hk1 => k_X10_laysRests_l2 hR1 hk1 hx hc (fun r q => he r q)) F _ r8 h9 ?_ _ hR rg_k0
  intro w10 hR11 hk12
  refine pm_aload_n dX10_laysRests_22 rfl ?_
  refine pm_iload_n dX10_laysRests_23 rfl ?_
  obtain ⟨u13, hu14, h⟩ := lt1_ex h
  refine dx_pi (j := 0) hR11 hk12 dX10_laysRests_24 fl_X10_117 rfl rfl hu14 (fun w15 hR16 hk17 => ?_)
  refine pm_aload_n dX10_laysRests_27 rfl ?_
  refine pm_iconst (v := 0) dX10_laysRests_28 (by decide) ?_
  obtain ⟨u18, hu19, h⟩ := lt1_ex h
  refine dx_pi (j := 0) hR16 hk17 dX10_laysRests_29 fl_X10_264 rfl rfl hu19 (fun w20 hR21 hk22 => ?_)
  refine pm_aload_n dX10_laysRests_32 rfl ?_
  refine pm_aload_n dX10_laysRests_33 rfl ?_
  refine dx_gr (j := 0) (o := 31) hR21 dX10_laysRests_34 fl_X10_114 rfl rfl ?_
  obtain ⟨r23, h24, h⟩ := ob_some h
  refine dx_cVv (j := 0) (M := M_X10_laysRests) (Mc := M_X10_clears) (dc := 0) (As := [.ref (b + 31)]) (st := []) hR21 hk22 dX10_laysRests_37 ml_X10_162 ⟨TX10, 55, rfl⟩ rfl (by decide) (Nat.le_of_ble_eq_true rfl) rfl (k_X10_clears hR21 rfl h24) (fun w25 hR26 hk27 => ?_)
  refine pm_aload_n dX10_laysRests_40 rfl ?_
  obtain ⟨r28, h29, h⟩ := ob_some h
  refine dx_cVv (j := 0) (M := M_X10_laysRests) (Mc := M_X10_restPokes) (dc := 2) (As := []) (st := []) hR26 hk27 dX10_laysRests_41 ml_X10_324 ⟨TX10, 55, rfl⟩ rfl (by decide) (Nat.le_of_ble_eq_true rfl) rfl (k_X10_restPokes hR26 h29) (fun w30 hR31 hk32 => ?_)
  obtain ⟨r62, h63, h⟩ := ob_some h
  refine lp_sound (P := fun (s : rg_U) => ∀ w1, rg shM b s n w1 → rg_k b shM.length w w1 → pm_X gs ro M_X10_laysRests 6 0 0 0 0 44 [some (.ref (b + 0)), some (.int x1), some (.int x2), none] [] n w1 (rg_post shM b n w none z)) (E := (fun (r : rg_U) => ∀ w1, rg shM b r n w1 → rg_k b shM.length w w1 → pm_X gs ro M_X10_laysRests 6 0 0 0 0 114 [none, none, none, none] [] n w1 (rg_post shM b n w none z))) (fun s x hx hc he w1 hR1 hk1 => k_X10_laysRests_l44 hR1 hk1 hx hc (fun r q => he r q)) F _ r62 h63 ?_ _ hR31 hk32
  intro w64 hR65 hk66
  cases h
  exact pm_vret dX10_laysRests_114 rfl (Nat.le_refl _) (Nat.le_refl _) ⟨rfl, rfl, hR65, hk66⟩
