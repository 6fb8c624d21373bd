theorem dX10_comes_0 : decode cX10_comes 0 = .ok (.aload_n 0, 1) := by decide +kernel
theorem dX10_comes_1 : decode cX10_comes 1 = .ok (.getfield 78, 3) := by decide +kernel
theorem dX10_comes_4 : decode cX10_comes 4 = .ok (.iconst 4, 1) := by decide +kernel
theorem dX10_comes_5 : decode cX10_comes 5 = .ok (.iaload, 1) := by decide +kernel
theorem dX10_comes_6 : decode cX10_comes 6 = .ok (.istore_n 1, 1) := by decide +kernel
theorem dX10_comes_7 : decode cX10_comes 7 = .ok (.iload_n 1, 1) := by decide +kernel
theorem dX10_comes_8 : decode cX10_comes 8 = .ok (.aload_n 0, 1) := by decide +kernel
theorem dX10_comes_9 : decode cX10_comes 9 = .ok (.getfield 84, 3) := by decide +kernel
theorem dX10_comes_12 : decode cX10_comes 12 = .ok (.iconst 4, 1) := by decide +kernel
theorem dX10_comes_13 : decode cX10_comes 13 = .ok (.iaload, 1) := by decide +kernel
theorem dX10_comes_14 : decode cX10_comes 14 = .ok (.irem, 1) := by decide +kernel
theorem dX10_comes_15 : decode cX10_comes 15 = .ok (.ifCond .eq 4, 3) := by decide +kernel
theorem dX10_comes_18 : decode cX10_comes 18 = .ok (.return_, 1) := by decide +kernel
theorem dX10_comes_19 : decode cX10_comes 19 = .ok (.iload_n 1, 1) := by decide +kernel
theorem dX10_comes_20 : decode cX10_comes 20 = .ok (.aload_n 0, 1) := by decide +kernel
theorem dX10_comes_21 : decode cX10_comes 21 = .ok (.getfield 84, 3) := by decide +kernel
theorem dX10_comes_24 : decode cX10_comes 24 = .ok (.iconst 4, 1) := by decide +kernel
theorem dX10_comes_25 : decode cX10_comes 25 = .ok (.iaload, 1) := by decide +kernel
theorem dX10_comes_26 : decode cX10_comes 26 = .ok (.idiv, 1) := by decide +kernel
theorem dX10_comes_27 : decode cX10_comes 27 = .ok (.istore_n 2, 1) := by decide +kernel
theorem dX10_comes_28 : decode cX10_comes 28 = .ok (.aload_n 0, 1) := by decide +kernel
theorem dX10_comes_29 : decode cX10_comes 29 = .ok (.getfield 75, 3) := by decide +kernel
theorem dX10_comes_32 : decode cX10_comes 32 = .ok (.iconst 4, 1) := by decide +kernel
theorem dX10_comes_33 : decode cX10_comes 33 = .ok (.iload_n 2, 1) := by decide +kernel
theorem dX10_comes_34 : decode cX10_comes 34 = .ok (.invokestatic 158, 3) := by decide +kernel
theorem dX10_comes_37 : decode cX10_comes 37 = .ok (.iconst 1, 1) := by decide +kernel
theorem dX10_comes_38 : decode cX10_comes 38 = .ok (.bastore, 1) := by decide +kernel
theorem dX10_comes_39 : decode cX10_comes 39 = .ok (.iconst 1, 1) := by decide +kernel
theorem dX10_comes_40 : decode cX10_comes 40 = .ok (.istore_n 3, 1) := by decide +kernel
theorem dX10_comes_41 : decode cX10_comes 41 = .ok (.iload_n 3, 1) := by decide +kernel
theorem dX10_comes_42 : decode cX10_comes 42 = .ok (.iload_n 2, 1) := by decide +kernel
theorem dX10_comes_43 : decode cX10_comes 43 = .ok (.if_icmp .ge 48, 3) := by decide +kernel
theorem dX10_comes_46 : decode cX10_comes 46 = .ok (.aload_n 0, 1) := by decide +kernel
theorem dX10_comes_47 : decode cX10_comes 47 = .ok (.getfield 75, 3) := by decide +kernel
theorem dX10_comes_50 : decode cX10_comes 50 = .ok (.iconst 4, 1) := by decide +kernel
theorem dX10_comes_51 : decode cX10_comes 51 = .ok (.iload_n 3, 1) := by decide +kernel
theorem dX10_comes_52 : decode cX10_comes 52 = .ok (.invokestatic 158, 3) := by decide +kernel
theorem dX10_comes_55 : decode cX10_comes 55 = .ok (.baload, 1) := by decide +kernel
theorem dX10_comes_56 : decode cX10_comes 56 = .ok (.ifCond .eq 29, 3) := by decide +kernel
theorem dX10_comes_59 : decode cX10_comes 59 = .ok (.aload_n 0, 1) := by decide +kernel
theorem dX10_comes_60 : decode cX10_comes 60 = .ok (.iload_n 3, 1) := by decide +kernel
theorem dX10_comes_61 : decode cX10_comes 61 = .ok (.aload_n 0, 1) := by decide +kernel
theorem dX10_comes_62 : decode cX10_comes 62 = .ok (.getfield 87, 3) := by decide +kernel
theorem dX10_comes_65 : decode cX10_comes 65 = .ok (.iconst 4, 1) := by decide +kernel
theorem dX10_comes_66 : decode cX10_comes 66 = .ok (.iaload, 1) := by decide +kernel
theorem dX10_comes_67 : decode cX10_comes 67 = .ok (.invokevirtual 229, 3) := by decide +kernel
theorem dX10_comes_70 : decode cX10_comes 70 = .ok (.iload_n 2, 1) := by decide +kernel
theorem dX10_comes_71 : decode cX10_comes 71 = .ok (.if_icmp .gt 14, 3) := by decide +kernel
theorem dX10_comes_74 : decode cX10_comes 74 = .ok (.aload_n 0, 1) := by decide +kernel
theorem dX10_comes_75 : decode cX10_comes 75 = .ok (.getfield 75, 3) := by decide +kernel
theorem dX10_comes_78 : decode cX10_comes 78 = .ok (.iconst 4, 1) := by decide +kernel
theorem dX10_comes_79 : decode cX10_comes 79 = .ok (.iload_n 3, 1) := by decide +kernel
theorem dX10_comes_80 : decode cX10_comes 80 = .ok (.invokestatic 158, 3) := by decide +kernel
theorem dX10_comes_83 : decode cX10_comes 83 = .ok (.iconst 0, 1) := by decide +kernel
theorem dX10_comes_84 : decode cX10_comes 84 = .ok (.bastore, 1) := by decide +kernel
theorem dX10_comes_85 : decode cX10_comes 85 = .ok (.iinc 3 1, 3) := by decide +kernel
theorem dX10_comes_88 : decode cX10_comes 88 = .ok (.goto (-47), 3) := by decide +kernel
theorem dX10_comes_91 : decode cX10_comes 91 = .ok (.aload_n 0, 1) := by decide +kernel
theorem dX10_comes_92 : decode cX10_comes 92 = .ok (.getfield 93, 3) := by decide +kernel
theorem dX10_comes_95 : decode cX10_comes 95 = .ok (.iconst 4, 1) := by decide +kernel
theorem dX10_comes_96 : decode cX10_comes 96 = .ok (.aload_n 0, 1) := by decide +kernel
theorem dX10_comes_97 : decode cX10_comes 97 = .ok (.getfield 93, 3) := by decide +kernel
theorem dX10_comes_100 : decode cX10_comes 100 = .ok (.iconst 4, 1) := by decide +kernel
theorem dX10_comes_101 : decode cX10_comes 101 = .ok (.iaload, 1) := by decide +kernel
theorem dX10_comes_102 : decode cX10_comes 102 = .ok (.aload_n 0, 1) := by decide +kernel
theorem dX10_comes_103 : decode cX10_comes 103 = .ok (.iconst 4, 1) := by decide +kernel
theorem dX10_comes_104 : decode cX10_comes 104 = .ok (.invokevirtual 232, 3) := by decide +kernel
theorem dX10_comes_107 : decode cX10_comes 107 = .ok (.invokestatic 235, 3) := by decide +kernel
theorem dX10_comes_110 : decode cX10_comes 110 = .ok (.iastore, 1) := by decide +kernel
theorem dX10_comes_111 : decode cX10_comes 111 = .ok (.return_, 1) := by decide +kernel
theorem dX10_draws_0 : decode cX10_draws 0 = .ok (.aload_n 0, 1) := by decide +kernel
theorem dX10_draws_1 : decode cX10_draws 1 = .ok (.ldc 238, 2) := by decide +kernel
theorem dX10_draws_3 : decode cX10_draws 3 = .ok (.aload_n 0, 1) := by decide +kernel
theorem dX10_draws_4 : decode cX10_draws 4 = .ok (.getfield 108, 3) := by decide +kernel
theorem dX10_draws_7 : decode cX10_draws 7 = .ok (.imul, 1) := by decide +kernel
theorem dX10_draws_8 : decode cX10_draws 8 = .ok (.ldc 239, 2) := by decide +kernel
theorem dX10_draws_10 : decode cX10_draws 10 = .ok (.iadd, 1) := by decide +kernel
theorem dX10_draws_11 : decode cX10_draws 11 = .ok (.putfield 108, 3) := by decide +kernel
theorem dX10_draws_14 : decode cX10_draws 14 = .ok (.aload_n 0, 1) := by decide +kernel
theorem dX10_draws_15 : decode cX10_draws 15 = .ok (.iconst 1, 1) := by decide +kernel
theorem dX10_draws_16 : decode cX10_draws 16 = .ok (.aload_n 0, 1) := by decide +kernel
theorem dX10_draws_17 : decode cX10_draws 17 = .ok (.getfield 108, 3) := by decide +kernel
theorem dX10_draws_20 : decode cX10_draws 20 = .ok (.bipush 8, 2) := by decide +kernel
theorem dX10_draws_22 : decode cX10_draws 22 = .ok (.iushr, 1) := by decide +kernel
theorem dX10_draws_23 : decode cX10_draws 23 = .ok (.iload_n 1, 1) := by decide +kernel
theorem dX10_draws_24 : decode cX10_draws 24 = .ok (.irem, 1) := by decide +kernel
theorem dX10_draws_25 : decode cX10_draws 25 = .ok (.iconst (-1), 1) := by decide +kernel
theorem dX10_draws_26 : decode cX10_draws 26 = .ok (.iconst 2, 1) := by decide +kernel
theorem dX10_draws_27 : decode cX10_draws 27 = .ok (.invokevirtual 175, 3) := by decide +kernel
theorem dX10_draws_30 : decode cX10_draws 30 = .ok (.return_, 1) := by decide +kernel
theorem dX10_goesOn_0 : decode cX10_goesOn 0 = .ok (.aload_n 0, 1) := by decide +kernel
theorem dX10_goesOn_1 : decode cX10_goesOn 1 = .ok (.getfield 102, 3) := by decide +kernel
theorem dX10_goesOn_4 : decode cX10_goesOn 4 = .ok (.bipush 120, 2) := by decide +kernel
theorem dX10_goesOn_6 : decode cX10_goesOn 6 = .ok (.iaload, 1) := by decide +kernel
theorem dX10_goesOn_7 : decode cX10_goesOn 7 = .ok (.istore_n 1, 1) := by decide +kernel
theorem dX10_goesOn_8 : decode cX10_goesOn 8 = .ok (.aload_n 0, 1) := by decide +kernel
theorem dX10_goesOn_9 : decode cX10_goesOn 9 = .ok (.iconst 4, 1) := by decide +kernel
theorem dX10_goesOn_10 : decode cX10_goesOn 10 = .ok (.iload_n 1, 1) := by decide +kernel
theorem dX10_goesOn_11 : decode cX10_goesOn 11 = .ok (.invokevirtual 189, 3) := by decide +kernel
theorem dX10_goesOn_14 : decode cX10_goesOn 14 = .ok (.istore_n 2, 1) := by decide +kernel
theorem dX10_goesOn_15 : decode cX10_goesOn 15 = .ok (.aload_n 0, 1) := by decide +kernel
theorem dX10_goesOn_16 : decode cX10_goesOn 16 = .ok (.getfield 60, 3) := by decide +kernel
theorem dX10_goesOn_19 : decode cX10_goesOn 19 = .ok (.iconst 4, 1) := by decide +kernel
theorem dX10_goesOn_20 : decode cX10_goesOn 20 = .ok (.iaload, 1) := by decide +kernel
theorem dX10_goesOn_21 : decode cX10_goesOn 21 = .ok (.istore_n 3, 1) := by decide +kernel
theorem dX10_goesOn_22 : decode cX10_goesOn 22 = .ok (.iload_n 2, 1) := by decide +kernel
theorem dX10_goesOn_23 : decode cX10_goesOn 23 = .ok (.bipush 19, 2) := by decide +kernel
theorem dX10_goesOn_25 : decode cX10_goesOn 25 = .ok (.if_icmp .ne 7, 3) := by decide +kernel
theorem dX10_goesOn_28 : decode cX10_goesOn 28 = .ok (.aload_n 0, 1) := by decide +kernel
theorem dX10_goesOn_29 : decode cX10_goesOn 29 = .ok (.invokevirtual 240, 3) := by decide +kernel
theorem dX10_goesOn_32 : decode cX10_goesOn 32 = .ok (.iload_n 2, 1) := by decide +kernel
theorem dX10_goesOn_33 : decode cX10_goesOn 33 = .ok (.bipush 20, 2) := by decide +kernel
theorem dX10_goesOn_35 : decode cX10_goesOn 35 = .ok (.if_icmp .ne 17, 3) := by decide +kernel
theorem dX10_goesOn_38 : decode cX10_goesOn 38 = .ok (.aload_n 0, 1) := by decide +kernel
theorem dX10_goesOn_39 : decode cX10_goesOn 39 = .ok (.aload_n 0, 1) := by decide +kernel
theorem dX10_goesOn_40 : decode cX10_goesOn 40 = .ok (.getfield 39, 3) := by decide +kernel
theorem dX10_goesOn_43 : decode cX10_goesOn 43 = .ok (.sipush 256, 3) := by decide +kernel
theorem dX10_goesOn_46 : decode cX10_goesOn 46 = .ok (.iload_n 1, 1) := by decide +kernel
theorem dX10_goesOn_47 : decode cX10_goesOn 47 = .ok (.iadd, 1) := by decide +kernel
theorem dX10_goesOn_48 : decode cX10_goesOn 48 = .ok (.iaload, 1) := by decide +kernel
theorem dX10_goesOn_49 : decode cX10_goesOn 49 = .ok (.invokevirtual 243, 3) := by decide +kernel
theorem dX10_goesOn_52 : decode cX10_goesOn 52 = .ok (.aload_n 0, 1) := by decide +kernel
theorem dX10_goesOn_53 : decode cX10_goesOn 53 = .ok (.getfield 102, 3) := by decide +kernel
theorem dX10_goesOn_56 : decode cX10_goesOn 56 = .ok (.bipush 121, 2) := by decide +kernel
theorem dX10_goesOn_58 : decode cX10_goesOn 58 = .ok (.iaload, 1) := by decide +kernel
theorem dX10_goesOn_59 : decode cX10_goesOn 59 = .ok (.istore 4, 2) := by decide +kernel
theorem dX10_goesOn_61 : decode cX10_goesOn 61 = .ok (.aload_n 0, 1) := by decide +kernel
theorem dX10_goesOn_62 : decode cX10_goesOn 62 = .ok (.aload_n 0, 1) := by decide +kernel
theorem dX10_goesOn_63 : decode cX10_goesOn 63 = .ok (.getfield 102, 3) := by decide +kernel
theorem dX10_goesOn_66 : decode cX10_goesOn 66 = .ok (.iconst 4, 1) := by decide +kernel
theorem dX10_goesOn_67 : decode cX10_goesOn 67 = .ok (.iload_n 3, 1) := by decide +kernel
theorem dX10_goesOn_68 : decode cX10_goesOn 68 = .ok (.invokevirtual 247, 3) := by decide +kernel
theorem dX10_goesOn_71 : decode cX10_goesOn 71 = .ok (.iload_n 2, 1) := by decide +kernel
theorem dX10_goesOn_72 : decode cX10_goesOn 72 = .ok (.bipush 17, 2) := by decide +kernel
theorem dX10_goesOn_74 : decode cX10_goesOn 74 = .ok (.if_icmp .ne 91, 3) := by decide +kernel
theorem dX10_goesOn_77 : decode cX10_goesOn 77 = .ok (.aload_n 0, 1) := by decide +kernel
theorem dX10_goesOn_78 : decode cX10_goesOn 78 = .ok (.getfield 183, 3) := by decide +kernel
theorem dX10_goesOn_81 : decode cX10_goesOn 81 = .ok (.ifCond .ne 84, 3) := by decide +kernel
theorem dX10_goesOn_84 : decode cX10_goesOn 84 = .ok (.aload_n 0, 1) := by decide +kernel
theorem dX10_goesOn_85 : decode cX10_goesOn 85 = .ok (.getfield 72, 3) := by decide +kernel
theorem dX10_goesOn_88 : decode cX10_goesOn 88 = .ok (.iconst 4, 1) := by decide +kernel
theorem dX10_goesOn_89 : decode cX10_goesOn 89 = .ok (.iaload, 1) := by decide +kernel
theorem dX10_goesOn_90 : decode cX10_goesOn 90 = .ok (.bipush 100, 2) := by decide +kernel
theorem dX10_goesOn_92 : decode cX10_goesOn 92 = .ok (.if_icmp .ge 73, 3) := by decide +kernel
theorem dX10_goesOn_95 : decode cX10_goesOn 95 = .ok (.aload_n 0, 1) := by decide +kernel
theorem dX10_goesOn_96 : decode cX10_goesOn 96 = .ok (.getfield 63, 3) := by decide +kernel
theorem dX10_goesOn_99 : decode cX10_goesOn 99 = .ok (.sipush 400, 3) := by decide +kernel
theorem dX10_goesOn_102 : decode cX10_goesOn 102 = .ok (.aload_n 0, 1) := by decide +kernel
theorem dX10_goesOn_103 : decode cX10_goesOn 103 = .ok (.getfield 72, 3) := by decide +kernel
theorem dX10_goesOn_106 : decode cX10_goesOn 106 = .ok (.iconst 4, 1) := by decide +kernel
theorem dX10_goesOn_107 : decode cX10_goesOn 107 = .ok (.iaload, 1) := by decide +kernel
theorem dX10_goesOn_108 : decode cX10_goesOn 108 = .ok (.iadd, 1) := by decide +kernel
theorem dX10_goesOn_109 : decode cX10_goesOn 109 = .ok (.aload_n 0, 1) := by decide +kernel
theorem dX10_goesOn_110 : decode cX10_goesOn 110 = .ok (.getfield 78, 3) := by decide +kernel
theorem dX10_goesOn_113 : decode cX10_goesOn 113 = .ok (.iconst 4, 1) := by decide +kernel
theorem dX10_goesOn_114 : decode cX10_goesOn 114 = .ok (.iaload, 1) := by decide +kernel
theorem dX10_goesOn_115 : decode cX10_goesOn 115 = .ok (.iastore, 1) := by decide +kernel
theorem dX10_goesOn_116 : decode cX10_goesOn 116 = .ok (.aload_n 0, 1) := by decide +kernel
theorem dX10_goesOn_117 : decode cX10_goesOn 117 = .ok (.getfield 66, 3) := by decide +kernel
theorem dX10_goesOn_120 : decode cX10_goesOn 120 = .ok (.sipush 400, 3) := by decide +kernel
theorem dX10_goesOn_123 : decode cX10_goesOn 123 = .ok (.aload_n 0, 1) := by decide +kernel
theorem dX10_goesOn_124 : decode cX10_goesOn 124 = .ok (.getfield 72, 3) := by decide +kernel
theorem dX10_goesOn_127 : decode cX10_goesOn 127 = .ok (.iconst 4, 1) := by decide +kernel
theorem dX10_goesOn_128 : decode cX10_goesOn 128 = .ok (.iaload, 1) := by decide +kernel
theorem dX10_goesOn_129 : decode cX10_goesOn 129 = .ok (.iadd, 1) := by decide +kernel
theorem dX10_goesOn_130 : decode cX10_goesOn 130 = .ok (.aload_n 0, 1) := by decide +kernel
theorem dX10_goesOn_131 : decode cX10_goesOn 131 = .ok (.getfield 102, 3) := by decide +kernel
theorem dX10_goesOn_134 : decode cX10_goesOn 134 = .ok (.bipush 120, 2) := by decide +kernel
theorem dX10_goesOn_136 : decode cX10_goesOn 136 = .ok (.iaload, 1) := by decide +kernel
theorem dX10_goesOn_137 : decode cX10_goesOn 137 = .ok (.iastore, 1) := by decide +kernel
theorem dX10_goesOn_138 : decode cX10_goesOn 138 = .ok (.aload_n 0, 1) := by decide +kernel
theorem dX10_goesOn_139 : decode cX10_goesOn 139 = .ok (.getfield 69, 3) := by decide +kernel
theorem dX10_goesOn_142 : decode cX10_goesOn 142 = .ok (.sipush 400, 3) := by decide +kernel
theorem dX10_goesOn_145 : decode cX10_goesOn 145 = .ok (.aload_n 0, 1) := by decide +kernel
theorem dX10_goesOn_146 : decode cX10_goesOn 146 = .ok (.getfield 72, 3) := by decide +kernel
theorem dX10_goesOn_149 : decode cX10_goesOn 149 = .ok (.iconst 4, 1) := by decide +kernel
theorem dX10_goesOn_150 : decode cX10_goesOn 150 = .ok (.iaload, 1) := by decide +kernel
theorem dX10_goesOn_151 : decode cX10_goesOn 151 = .ok (.iadd, 1) := by decide +kernel
theorem dX10_goesOn_152 : decode cX10_goesOn 152 = .ok (.iload 4, 2) := by decide +kernel
theorem dX10_goesOn_154 : decode cX10_goesOn 154 = .ok (.iastore, 1) := by decide +kernel
theorem dX10_goesOn_155 : decode cX10_goesOn 155 = .ok (.aload_n 0, 1) := by decide +kernel
theorem dX10_goesOn_156 : decode cX10_goesOn 156 = .ok (.getfield 72, 3) := by decide +kernel
theorem dX10_goesOn_159 : decode cX10_goesOn 159 = .ok (.iconst 4, 1) := by decide +kernel
theorem dX10_goesOn_160 : decode cX10_goesOn 160 = .ok (.dup2, 1) := by decide +kernel
theorem dX10_goesOn_161 : decode cX10_goesOn 161 = .ok (.iaload, 1) := by decide +kernel
theorem dX10_goesOn_162 : decode cX10_goesOn 162 = .ok (.iconst 1, 1) := by decide +kernel
theorem dX10_goesOn_163 : decode cX10_goesOn 163 = .ok (.iadd, 1) := by decide +kernel
theorem dX10_goesOn_164 : decode cX10_goesOn 164 = .ok (.iastore, 1) := by decide +kernel
theorem dX10_goesOn_165 : decode cX10_goesOn 165 = .ok (.aload_n 0, 1) := by decide +kernel
theorem dX10_goesOn_166 : decode cX10_goesOn 166 = .ok (.getfield 78, 3) := by decide +kernel
theorem dX10_goesOn_169 : decode cX10_goesOn 169 = .ok (.iconst 4, 1) := by decide +kernel
theorem dX10_goesOn_170 : decode cX10_goesOn 170 = .ok (.dup2, 1) := by decide +kernel
theorem dX10_goesOn_171 : decode cX10_goesOn 171 = .ok (.iaload, 1) := by decide +kernel
theorem dX10_goesOn_172 : decode cX10_goesOn 172 = .ok (.iconst 1, 1) := by decide +kernel
theorem dX10_goesOn_173 : decode cX10_goesOn 173 = .ok (.iadd, 1) := by decide +kernel
theorem dX10_goesOn_174 : decode cX10_goesOn 174 = .ok (.iastore, 1) := by decide +kernel
theorem dX10_goesOn_175 : decode cX10_goesOn 175 = .ok (.aload_n 0, 1) := by decide +kernel
theorem dX10_goesOn_176 : decode cX10_goesOn 176 = .ok (.invokevirtual 251, 3) := by decide +kernel
theorem dX10_goesOn_179 : decode cX10_goesOn 179 = .ok (.return_, 1) := by decide +kernel
theorem dX10_goesWith_0 : decode cX10_goesWith 0 = .ok (.iload_n 1, 1) := by decide +kernel
theorem dX10_goesWith_1 : decode cX10_goesWith 1 = .ok (.iload_n 2, 1) := by decide +kernel
theorem dX10_goesWith_2 : decode cX10_goesWith 2 = .ok (.aload_n 0, 1) := by decide +kernel
theorem dX10_goesWith_3 : decode cX10_goesWith 3 = .ok (.iload_n 1, 1) := by decide +kernel
theorem dX10_goesWith_4 : decode cX10_goesWith 4 = .ok (.invokevirtual 225, 3) := by decide +kernel
theorem dX10_goesWith_7 : decode cX10_goesWith 7 = .ok (.ishl, 1) := by decide +kernel
theorem dX10_goesWith_8 : decode cX10_goesWith 8 = .ok (.iadd, 1) := by decide +kernel
theorem dX10_goesWith_9 : decode cX10_goesWith 9 = .ok (.ireturn, 1) := by decide +kernel
theorem dX10_halvings_0 : decode cX10_halvings 0 = .ok (.iconst 0, 1) := by decide +kernel
theorem dX10_halvings_1 : decode cX10_halvings 1 = .ok (.istore_n 2, 1) := by decide +kernel
theorem dX10_halvings_2 : decode cX10_halvings 2 = .ok (.iload_n 1, 1) := by decide +kernel
theorem dX10_halvings_3 : decode cX10_halvings 3 = .ok (.iload_n 2, 1) := by decide +kernel
theorem dX10_halvings_4 : decode cX10_halvings 4 = .ok (.ishr, 1) := by decide +kernel
theorem dX10_halvings_5 : decode cX10_halvings 5 = .ok (.iconst 1, 1) := by decide +kernel
theorem dX10_halvings_6 : decode cX10_halvings 6 = .ok (.iand, 1) := by decide +kernel
theorem dX10_halvings_7 : decode cX10_halvings 7 = .ok (.ifCond .ne 9, 3) := by decide +kernel
theorem dX10_halvings_10 : decode cX10_halvings 10 = .ok (.iinc 2 1, 3) := by decide +kernel
theorem dX10_halvings_13 : decode cX10_halvings 13 = .ok (.goto (-11), 3) := by decide +kernel
theorem dX10_halvings_16 : decode cX10_halvings 16 = .ok (.iload_n 2, 1) := by decide +kernel
theorem dX10_halvings_17 : decode cX10_halvings 17 = .ok (.ireturn, 1) := by decide +kernel
theorem dX10_heldMany_0 : decode cX10_heldMany 0 = .ok (.iconst 0, 1) := by decide +kernel
theorem dX10_heldMany_1 : decode cX10_heldMany 1 = .ok (.istore_n 2, 1) := by decide +kernel
theorem dX10_heldMany_2 : decode cX10_heldMany 2 = .ok (.iconst 0, 1) := by decide +kernel
theorem dX10_heldMany_3 : decode cX10_heldMany 3 = .ok (.istore_n 3, 1) := by decide +kernel
theorem dX10_heldMany_4 : decode cX10_heldMany 4 = .ok (.iload_n 3, 1) := by decide +kernel
theorem dX10_heldMany_5 : decode cX10_heldMany 5 = .ok (.sipush 3000, 3) := by decide +kernel
theorem dX10_heldMany_8 : decode cX10_heldMany 8 = .ok (.if_icmp .gt 25, 3) := by decide +kernel
theorem dX10_heldMany_11 : decode cX10_heldMany 11 = .ok (.iload_n 2, 1) := by decide +kernel
theorem dX10_heldMany_12 : decode cX10_heldMany 12 = .ok (.aload_n 0, 1) := by decide +kernel
theorem dX10_heldMany_13 : decode cX10_heldMany 13 = .ok (.getfield 75, 3) := by decide +kernel
theorem dX10_heldMany_16 : decode cX10_heldMany 16 = .ok (.iload_n 1, 1) := by decide +kernel
theorem dX10_heldMany_17 : decode cX10_heldMany 17 = .ok (.iload_n 3, 1) := by decide +kernel
theorem dX10_heldMany_18 : decode cX10_heldMany 18 = .ok (.invokestatic 158, 3) := by decide +kernel
theorem dX10_heldMany_21 : decode cX10_heldMany 21 = .ok (.baload, 1) := by decide +kernel
theorem dX10_heldMany_22 : decode cX10_heldMany 22 = .ok (.invokestatic 154, 3) := by decide +kernel
theorem dX10_heldMany_25 : decode cX10_heldMany 25 = .ok (.iadd, 1) := by decide +kernel
theorem dX10_heldMany_26 : decode cX10_heldMany 26 = .ok (.istore_n 2, 1) := by decide +kernel
theorem dX10_heldMany_27 : decode cX10_heldMany 27 = .ok (.iinc 3 1, 3) := by decide +kernel
theorem dX10_heldMany_30 : decode cX10_heldMany 30 = .ok (.goto (-26), 3) := by decide +kernel
theorem dX10_heldMany_33 : decode cX10_heldMany 33 = .ok (.iload_n 2, 1) := by decide +kernel
theorem dX10_heldMany_34 : decode cX10_heldMany 34 = .ok (.ireturn, 1) := by decide +kernel
theorem dX10_run_0 : decode cX10_run 0 = .ok (.aload_n 0, 1) := by decide +kernel
theorem dX10_run_1 : decode cX10_run 1 = .ok (.getfield 29, 3) := by decide +kernel
theorem dX10_run_4 : decode cX10_run 4 = .ok (.iconst 4, 1) := by decide +kernel
theorem dX10_run_5 : decode cX10_run 5 = .ok (.baload, 1) := by decide +kernel
theorem dX10_run_6 : decode cX10_run 6 = .ok (.ifCond .eq 14, 3) := by decide +kernel
theorem dX10_run_9 : decode cX10_run 9 = .ok (.iload_n 1, 1) := by decide +kernel
theorem dX10_run_10 : decode cX10_run 10 = .ok (.iconst 1, 1) := by decide +kernel
theorem dX10_run_11 : decode cX10_run 11 = .ok (.sipush 500, 3) := by decide +kernel
theorem dX10_run_14 : decode cX10_run 14 = .ok (.invokestatic 138, 3) := by decide +kernel
theorem dX10_run_17 : decode cX10_run 17 = .ok (.ifCond .ne 5, 3) := by decide +kernel
theorem dX10_run_20 : decode cX10_run 20 = .ok (.iconst (-1), 1) := by decide +kernel
theorem dX10_run_21 : decode cX10_run 21 = .ok (.ireturn, 1) := by decide +kernel
theorem dX10_run_22 : decode cX10_run 22 = .ok (.iconst 0, 1) := by decide +kernel
theorem dX10_run_23 : decode cX10_run 23 = .ok (.istore_n 2, 1) := by decide +kernel
theorem dX10_run_24 : decode cX10_run 24 = .ok (.aload_n 0, 1) := by decide +kernel
theorem dX10_run_25 : decode cX10_run 25 = .ok (.invokevirtual 254, 3) := by decide +kernel
theorem dX10_run_28 : decode cX10_run 28 = .ok (.istore_n 3, 1) := by decide +kernel
theorem dX10_run_29 : decode cX10_run 29 = .ok (.iload_n 2, 1) := by decide +kernel
theorem dX10_run_30 : decode cX10_run 30 = .ok (.iload_n 1, 1) := by decide +kernel
theorem dX10_run_31 : decode cX10_run 31 = .ok (.if_icmp .ge 40, 3) := by decide +kernel
theorem dX10_run_34 : decode cX10_run 34 = .ok (.aload_n 0, 1) := by decide +kernel
theorem dX10_run_35 : decode cX10_run 35 = .ok (.invokevirtual 258, 3) := by decide +kernel
theorem dX10_run_38 : decode cX10_run 38 = .ok (.ifCond .ne 33, 3) := by decide +kernel
theorem dX10_run_41 : decode cX10_run 41 = .ok (.aload_n 0, 1) := by decide +kernel
theorem dX10_run_42 : decode cX10_run 42 = .ok (.getfield 78, 3) := by decide +kernel
theorem dX10_run_45 : decode cX10_run 45 = .ok (.iconst 4, 1) := by decide +kernel
theorem dX10_run_46 : decode cX10_run 46 = .ok (.iaload, 1) := by decide +kernel
theorem dX10_run_47 : decode cX10_run 47 = .ok (.sipush 3000, 3) := by decide +kernel
theorem dX10_run_50 : decode cX10_run 50 = .ok (.if_icmp .ge 21, 3) := by decide +kernel
theorem dX10_run_53 : decode cX10_run 53 = .ok (.aload_n 0, 1) := by decide +kernel
theorem dX10_run_54 : decode cX10_run 54 = .ok (.invokevirtual 254, 3) := by decide +kernel
theorem dX10_run_57 : decode cX10_run 57 = .ok (.iload_n 3, 1) := by decide +kernel
theorem dX10_run_58 : decode cX10_run 58 = .ok (.if_icmp .ne 13, 3) := by decide +kernel
theorem dX10_run_61 : decode cX10_run 61 = .ok (.aload_n 0, 1) := by decide +kernel
theorem dX10_run_62 : decode cX10_run 62 = .ok (.invokevirtual 261, 3) := by decide +kernel
theorem dX10_run_65 : decode cX10_run 65 = .ok (.iinc 2 1, 3) := by decide +kernel
theorem dX10_run_68 : decode cX10_run 68 = .ok (.goto (-39), 3) := by decide +kernel
theorem dX10_run_71 : decode cX10_run 71 = .ok (.iload_n 2, 1) := by decide +kernel
theorem dX10_run_72 : decode cX10_run 72 = .ok (.ireturn, 1) := by decide +kernel
theorem dX10_status_0 : decode cX10_status 0 = .ok (.aload_n 0, 1) := by decide +kernel
theorem dX10_status_1 : decode cX10_status 1 = .ok (.getfield 102, 3) := by decide +kernel
theorem dX10_status_4 : decode cX10_status 4 = .ok (.sipush 132, 3) := by decide +kernel
theorem dX10_status_7 : decode cX10_status 7 = .ok (.iaload, 1) := by decide +kernel
theorem dX10_status_8 : decode cX10_status 8 = .ok (.ifCond .eq 12, 3) := by decide +kernel
theorem dX10_status_11 : decode cX10_status 11 = .ok (.aload_n 0, 1) := by decide +kernel
theorem dX10_status_12 : decode cX10_status 12 = .ok (.getfield 102, 3) := by decide +kernel
theorem dX10_status_15 : decode cX10_status 15 = .ok (.sipush 132, 3) := by decide +kernel
theorem dX10_status_18 : decode cX10_status 18 = .ok (.iaload, 1) := by decide +kernel
theorem dX10_status_19 : decode cX10_status 19 = .ok (.ireturn, 1) := by decide +kernel
theorem dX10_status_20 : decode cX10_status 20 = .ok (.aload_n 0, 1) := by decide +kernel
theorem dX10_status_21 : decode cX10_status 21 = .ok (.iconst 4, 1) := by decide +kernel
theorem dX10_status_22 : decode cX10_status 22 = .ok (.aload_n 0, 1) := by decide +kernel
theorem dX10_status_23 : decode cX10_status 23 = .ok (.getfield 102, 3) := by decide +kernel
theorem dX10_status_26 : decode cX10_status 26 = .ok (.bipush 120, 2) := by decide +kernel
theorem dX10_status_28 : decode cX10_status 28 = .ok (.iaload, 1) := by decide +kernel
theorem dX10_status_29 : decode cX10_status 29 = .ok (.invokevirtual 189, 3) := by decide +kernel
theorem dX10_status_32 : decode cX10_status 32 = .ok (.istore_n 1, 1) := by decide +kernel
theorem dX10_status_33 : decode cX10_status 33 = .ok (.iload_n 1, 1) := by decide +kernel
theorem dX10_status_34 : decode cX10_status 34 = .ok (.bipush 19, 2) := by decide +kernel
theorem dX10_status_36 : decode cX10_status 36 = .ok (.if_icmp .ne 12, 3) := by decide +kernel
theorem dX10_status_39 : decode cX10_status 39 = .ok (.aload_n 0, 1) := by decide +kernel
theorem dX10_status_40 : decode cX10_status 40 = .ok (.getfield 166, 3) := by decide +kernel
theorem dX10_status_43 : decode cX10_status 43 = .ok (.ifCond .ne 5, 3) := by decide +kernel
theorem dX10_status_46 : decode cX10_status 46 = .ok (.iconst 1, 1) := by decide +kernel
theorem dX10_status_47 : decode cX10_status 47 = .ok (.ireturn, 1) := by decide +kernel
theorem dX10_status_48 : decode cX10_status 48 = .ok (.iload_n 1, 1) := by decide +kernel
theorem dX10_status_49 : decode cX10_status 49 = .ok (.bipush 19, 2) := by decide +kernel
theorem dX10_status_51 : decode cX10_status 51 = .ok (.if_icmp .eq 9, 3) := by decide +kernel
theorem dX10_status_54 : decode cX10_status 54 = .ok (.iload_n 1, 1) := by decide +kernel
theorem dX10_status_55 : decode cX10_status 55 = .ok (.bipush 20, 2) := by decide +kernel
theorem dX10_status_57 : decode cX10_status 57 = .ok (.if_icmp .ne 19, 3) := by decide +kernel
theorem dX10_status_60 : decode cX10_status 60 = .ok (.aload_n 0, 1) := by decide +kernel
theorem dX10_status_61 : decode cX10_status 61 = .ok (.getfield 60, 3) := by decide +kernel
theorem dX10_status_64 : decode cX10_status 64 = .ok (.iconst 4, 1) := by decide +kernel
theorem dX10_status_65 : decode cX10_status 65 = .ok (.iaload, 1) := by decide +kernel
theorem dX10_status_66 : decode cX10_status 66 = .ok (.sipush 800, 3) := by decide +kernel
theorem dX10_status_69 : decode cX10_status 69 = .ok (.if_icmp .ne 7, 3) := by decide +kernel
theorem dX10_status_72 : decode cX10_status 72 = .ok (.iconst 3, 1) := by decide +kernel
theorem dX10_status_73 : decode cX10_status 73 = .ok (.goto 4, 3) := by decide +kernel
theorem dX10_status_76 : decode cX10_status 76 = .ok (.iconst 0, 1) := by decide +kernel
theorem dX10_status_77 : decode cX10_status 77 = .ok (.ireturn, 1) := by decide +kernel
theorem dX10_steps_0 : decode cX10_steps 0 = .ok (.aload_n 1, 1) := by decide +kernel
theorem dX10_steps_1 : decode cX10_steps 1 = .ok (.bipush 120, 2) := by decide +kernel
theorem dX10_steps_3 : decode cX10_steps 3 = .ok (.iaload, 1) := by decide +kernel
theorem dX10_steps_4 : decode cX10_steps 4 = .ok (.istore 4, 2) := by decide +kernel
theorem dX10_steps_6 : decode cX10_steps 6 = .ok (.aload_n 0, 1) := by decide +kernel
theorem dX10_steps_7 : decode cX10_steps 7 = .ok (.iload_n 2, 1) := by decide +kernel
theorem dX10_steps_8 : decode cX10_steps 8 = .ok (.iload 4, 2) := by decide +kernel
theorem dX10_steps_10 : decode cX10_steps 10 = .ok (.invokevirtual 189, 3) := by decide +kernel
theorem dX10_steps_13 : decode cX10_steps 13 = .ok (.istore 5, 2) := by decide +kernel
theorem dX10_steps_15 : decode cX10_steps 15 = .ok (.aload_n 0, 1) := by decide +kernel
theorem dX10_steps_16 : decode cX10_steps 16 = .ok (.iconst 0, 1) := by decide +kernel
theorem dX10_steps_17 : decode cX10_steps 17 = .ok (.putfield 183, 3) := by decide +kernel
theorem dX10_steps_20 : decode cX10_steps 20 = .ok (.aload_n 0, 1) := by decide +kernel
theorem dX10_steps_21 : decode cX10_steps 21 = .ok (.iconst (-1), 1) := by decide +kernel
theorem dX10_steps_22 : decode cX10_steps 22 = .ok (.putfield 192, 3) := by decide +kernel
theorem dX10_steps_25 : decode cX10_steps 25 = .ok (.aload_n 0, 1) := by decide +kernel
theorem dX10_steps_26 : decode cX10_steps 26 = .ok (.iconst (-1), 1) := by decide +kernel
theorem dX10_steps_27 : decode cX10_steps 27 = .ok (.putfield 186, 3) := by decide +kernel
theorem dX10_steps_30 : decode cX10_steps 30 = .ok (.aload_n 1, 1) := by decide +kernel
theorem dX10_steps_31 : decode cX10_steps 31 = .ok (.bipush 120, 2) := by decide +kernel
theorem dX10_steps_33 : decode cX10_steps 33 = .ok (.bipush 64, 2) := by decide +kernel
theorem dX10_steps_35 : decode cX10_steps 35 = .ok (.iload 4, 2) := by decide +kernel
theorem dX10_steps_37 : decode cX10_steps 37 = .ok (.iconst 1, 1) := by decide +kernel
theorem dX10_steps_38 : decode cX10_steps 38 = .ok (.iadd, 1) := by decide +kernel
theorem dX10_steps_39 : decode cX10_steps 39 = .ok (.invokestatic 195, 3) := by decide +kernel
theorem dX10_steps_42 : decode cX10_steps 42 = .ok (.iastore, 1) := by decide +kernel
theorem dX10_steps_43 : decode cX10_steps 43 = .ok (.iload 5, 2) := by decide +kernel
theorem dX10_steps_45 : decode cX10_steps 45 = .ok (.iconst (-1), 1) := by decide +kernel
theorem dX10_steps_46 : decode cX10_steps 46 = .ok (.if_icmp .ne 12, 3) := by decide +kernel
theorem dX10_steps_49 : decode cX10_steps 49 = .ok (.aload_n 0, 1) := by decide +kernel
theorem dX10_steps_50 : decode cX10_steps 50 = .ok (.aload_n 1, 1) := by decide +kernel
theorem dX10_steps_51 : decode cX10_steps 51 = .ok (.iconst 5, 1) := by decide +kernel
theorem dX10_steps_52 : decode cX10_steps 52 = .ok (.invokevirtual 200, 3) := by decide +kernel
theorem dX10_steps_55 : decode cX10_steps 55 = .ok (.goto 52, 3) := by decide +kernel
theorem dX10_steps_58 : decode cX10_steps 58 = .ok (.aload_n 0, 1) := by decide +kernel
theorem dX10_steps_59 : decode cX10_steps 59 = .ok (.aload_n 1, 1) := by decide +kernel
theorem dX10_steps_60 : decode cX10_steps 60 = .ok (.iload 5, 2) := by decide +kernel
theorem dX10_steps_62 : decode cX10_steps 62 = .ok (.aload_n 0, 1) := by decide +kernel
theorem dX10_steps_63 : decode cX10_steps 63 = .ok (.getfield 36, 3) := by decide +kernel
theorem dX10_steps_66 : decode cX10_steps 66 = .ok (.bipush 64, 2) := by decide +kernel
theorem dX10_steps_68 : decode cX10_steps 68 = .ok (.iload_n 2, 1) := by decide +kernel
theorem dX10_steps_69 : decode cX10_steps 69 = .ok (.imul, 1) := by decide +kernel
theorem dX10_steps_70 : decode cX10_steps 70 = .ok (.iload 4, 2) := by decide +kernel
theorem dX10_steps_72 : decode cX10_steps 72 = .ok (.iadd, 1) := by decide +kernel
theorem dX10_steps_73 : decode cX10_steps 73 = .ok (.iaload, 1) := by decide +kernel
theorem dX10_steps_74 : decode cX10_steps 74 = .ok (.aload_n 0, 1) := by decide +kernel
theorem dX10_steps_75 : decode cX10_steps 75 = .ok (.getfield 39, 3) := by decide +kernel
theorem dX10_steps_78 : decode cX10_steps 78 = .ok (.bipush 64, 2) := by decide +kernel
theorem dX10_steps_80 : decode cX10_steps 80 = .ok (.iload_n 2, 1) := by decide +kernel
theorem dX10_steps_81 : decode cX10_steps 81 = .ok (.imul, 1) := by decide +kernel
theorem dX10_steps_82 : decode cX10_steps 82 = .ok (.iload 4, 2) := by decide +kernel
theorem dX10_steps_84 : decode cX10_steps 84 = .ok (.iadd, 1) := by decide +kernel
theorem dX10_steps_85 : decode cX10_steps 85 = .ok (.iaload, 1) := by decide +kernel
theorem dX10_steps_86 : decode cX10_steps 86 = .ok (.aload_n 0, 1) := by decide +kernel
theorem dX10_steps_87 : decode cX10_steps 87 = .ok (.getfield 42, 3) := by decide +kernel
theorem dX10_steps_90 : decode cX10_steps 90 = .ok (.bipush 64, 2) := by decide +kernel
theorem dX10_steps_92 : decode cX10_steps 92 = .ok (.iload_n 2, 1) := by decide +kernel
theorem dX10_steps_93 : decode cX10_steps 93 = .ok (.imul, 1) := by decide +kernel
theorem dX10_steps_94 : decode cX10_steps 94 = .ok (.iload 4, 2) := by decide +kernel
theorem dX10_steps_96 : decode cX10_steps 96 = .ok (.iadd, 1) := by decide +kernel
theorem dX10_steps_97 : decode cX10_steps 97 = .ok (.iaload, 1) := by decide +kernel
theorem dX10_steps_98 : decode cX10_steps 98 = .ok (.iload_n 3, 1) := by decide +kernel
theorem dX10_steps_99 : decode cX10_steps 99 = .ok (.sipush 800, 3) := by decide +kernel
theorem dX10_steps_102 : decode cX10_steps 102 = .ok (.iload_n 2, 1) := by decide +kernel
theorem dX10_steps_103 : decode cX10_steps 103 = .ok (.imul, 1) := by decide +kernel
theorem dX10_steps_104 : decode cX10_steps 104 = .ok (.invokevirtual 204, 3) := by decide +kernel
theorem dX10_steps_107 : decode cX10_steps 107 = .ok (.aload_n 1, 1) := by decide +kernel
theorem dX10_steps_108 : decode cX10_steps 108 = .ok (.sipush 133, 3) := by decide +kernel
theorem dX10_steps_111 : decode cX10_steps 111 = .ok (.dup2, 1) := by decide +kernel
theorem dX10_steps_112 : decode cX10_steps 112 = .ok (.iaload, 1) := by decide +kernel
theorem dX10_steps_113 : decode cX10_steps 113 = .ok (.iconst 1, 1) := by decide +kernel
theorem dX10_steps_114 : decode cX10_steps 114 = .ok (.iadd, 1) := by decide +kernel
theorem dX10_steps_115 : decode cX10_steps 115 = .ok (.iastore, 1) := by decide +kernel
theorem dX10_steps_116 : decode cX10_steps 116 = .ok (.return_, 1) := by decide +kernel
theorem dX10_takesInput_0 : decode cX10_takesInput 0 = .ok (.aload_n 0, 1) := by decide +kernel
theorem dX10_takesInput_1 : decode cX10_takesInput 1 = .ok (.iconst 0, 1) := by decide +kernel
theorem dX10_takesInput_2 : decode cX10_takesInput 2 = .ok (.aload_n 0, 1) := by decide +kernel
theorem dX10_takesInput_3 : decode cX10_takesInput 3 = .ok (.getfield 105, 3) := by decide +kernel
theorem dX10_takesInput_6 : decode cX10_takesInput 6 = .ok (.iconst 0, 1) := by decide +kernel
theorem dX10_takesInput_7 : decode cX10_takesInput 7 = .ok (.iaload, 1) := by decide +kernel
theorem dX10_takesInput_8 : decode cX10_takesInput 8 = .ok (.iconst (-1), 1) := by decide +kernel
theorem dX10_takesInput_9 : decode cX10_takesInput 9 = .ok (.iconst 2, 1) := by decide +kernel
theorem dX10_takesInput_10 : decode cX10_takesInput 10 = .ok (.invokevirtual 175, 3) := by decide +kernel
theorem dX10_takesInput_13 : decode cX10_takesInput 13 = .ok (.aload_n 0, 1) := by decide +kernel
theorem dX10_takesInput_14 : decode cX10_takesInput 14 = .ok (.dup, 1) := by decide +kernel
theorem dX10_takesInput_15 : decode cX10_takesInput 15 = .ok (.getfield 166, 3) := by decide +kernel
theorem dX10_takesInput_18 : decode cX10_takesInput 18 = .ok (.iconst 1, 1) := by decide +kernel
theorem dX10_takesInput_19 : decode cX10_takesInput 19 = .ok (.isub, 1) := by decide +kernel
theorem dX10_takesInput_20 : decode cX10_takesInput 20 = .ok (.putfield 166, 3) := by decide +kernel
theorem dX10_takesInput_23 : decode cX10_takesInput 23 = .ok (.iconst 0, 1) := by decide +kernel
theorem dX10_takesInput_24 : decode cX10_takesInput 24 = .ok (.istore_n 1, 1) := by decide +kernel
theorem dX10_takesInput_25 : decode cX10_takesInput 25 = .ok (.iload_n 1, 1) := by decide +kernel
theorem dX10_takesInput_26 : decode cX10_takesInput 26 = .ok (.aload_n 0, 1) := by decide +kernel
theorem dX10_takesInput_27 : decode cX10_takesInput 27 = .ok (.getfield 166, 3) := by decide +kernel
theorem dX10_takesInput_30 : decode cX10_takesInput 30 = .ok (.if_icmp .ge 23, 3) := by decide +kernel
theorem dX10_takesInput_33 : decode cX10_takesInput 33 = .ok (.aload_n 0, 1) := by decide +kernel
theorem dX10_takesInput_34 : decode cX10_takesInput 34 = .ok (.getfield 105, 3) := by decide +kernel
theorem dX10_takesInput_37 : decode cX10_takesInput 37 = .ok (.iload_n 1, 1) := by decide +kernel
theorem dX10_takesInput_38 : decode cX10_takesInput 38 = .ok (.aload_n 0, 1) := by decide +kernel
theorem dX10_takesInput_39 : decode cX10_takesInput 39 = .ok (.getfield 105, 3) := by decide +kernel
theorem dX10_takesInput_42 : decode cX10_takesInput 42 = .ok (.iload_n 1, 1) := by decide +kernel
theorem dX10_takesInput_43 : decode cX10_takesInput 43 = .ok (.iconst 1, 1) := by decide +kernel
theorem dX10_takesInput_44 : decode cX10_takesInput 44 = .ok (.iadd, 1) := by decide +kernel
theorem dX10_takesInput_45 : decode cX10_takesInput 45 = .ok (.iaload, 1) := by decide +kernel
theorem dX10_takesInput_46 : decode cX10_takesInput 46 = .ok (.iastore, 1) := by decide +kernel
theorem dX10_takesInput_47 : decode cX10_takesInput 47 = .ok (.iinc 1 1, 3) := by decide +kernel
theorem dX10_takesInput_50 : decode cX10_takesInput 50 = .ok (.goto (-25), 3) := by decide +kernel
theorem dX10_takesInput_53 : decode cX10_takesInput 53 = .ok (.return_, 1) := by decide +kernel
theorem dX10_watchedChanges_0 : decode cX10_watchedChanges 0 = .ok (.iconst 0, 1) := by decide +kernel
theorem dX10_watchedChanges_1 : decode cX10_watchedChanges 1 = .ok (.istore_n 1, 1) := by decide +kernel
theorem dX10_watchedChanges_2 : decode cX10_watchedChanges 2 = .ok (.iconst 0, 1) := by decide +kernel
theorem dX10_watchedChanges_3 : decode cX10_watchedChanges 3 = .ok (.istore_n 2, 1) := by decide +kernel
theorem dX10_watchedChanges_4 : decode cX10_watchedChanges 4 = .ok (.iload_n 2, 1) := by decide +kernel
theorem dX10_watchedChanges_5 : decode cX10_watchedChanges 5 = .ok (.bipush 40, 2) := by decide +kernel
theorem dX10_watchedChanges_7 : decode cX10_watchedChanges 7 = .ok (.if_icmp .ge 34, 3) := by decide +kernel
theorem dX10_watchedChanges_10 : decode cX10_watchedChanges 10 = .ok (.iload_n 1, 1) := by decide +kernel
theorem dX10_watchedChanges_11 : decode cX10_watchedChanges 11 = .ok (.aload_n 0, 1) := by decide +kernel
theorem dX10_watchedChanges_12 : decode cX10_watchedChanges 12 = .ok (.getfield 111, 3) := by decide +kernel
theorem dX10_watchedChanges_15 : decode cX10_watchedChanges 15 = .ok (.iload_n 2, 1) := by decide +kernel
theorem dX10_watchedChanges_16 : decode cX10_watchedChanges 16 = .ok (.baload, 1) := by decide +kernel
theorem dX10_watchedChanges_17 : decode cX10_watchedChanges 17 = .ok (.ifCond .eq 15, 3) := by decide +kernel
theorem dX10_watchedChanges_20 : decode cX10_watchedChanges 20 = .ok (.aload_n 0, 1) := by decide +kernel
theorem dX10_watchedChanges_21 : decode cX10_watchedChanges 21 = .ok (.getfield 102, 3) := by decide +kernel
theorem dX10_watchedChanges_24 : decode cX10_watchedChanges 24 = .ok (.bipush 80, 2) := by decide +kernel
theorem dX10_watchedChanges_26 : decode cX10_watchedChanges 26 = .ok (.iload_n 2, 1) := by decide +kernel
theorem dX10_watchedChanges_27 : decode cX10_watchedChanges 27 = .ok (.iadd, 1) := by decide +kernel
theorem dX10_watchedChanges_28 : decode cX10_watchedChanges 28 = .ok (.iaload, 1) := by decide +kernel
theorem dX10_watchedChanges_29 : decode cX10_watchedChanges 29 = .ok (.goto 4, 3) := by decide +kernel
theorem dX10_watchedChanges_32 : decode cX10_watchedChanges 32 = .ok (.iconst 0, 1) := by decide +kernel
theorem dX10_watchedChanges_33 : decode cX10_watchedChanges 33 = .ok (.iadd, 1) := by decide +kernel
theorem dX10_watchedChanges_34 : decode cX10_watchedChanges 34 = .ok (.istore_n 1, 1) := by decide +kernel
theorem dX10_watchedChanges_35 : decode cX10_watchedChanges 35 = .ok (.iinc 2 1, 3) := by decide +kernel
theorem dX10_watchedChanges_38 : decode cX10_watchedChanges 38 = .ok (.goto (-34), 3) := by decide +kernel
theorem dX10_watchedChanges_41 : decode cX10_watchedChanges 41 = .ok (.iload_n 1, 1) := by decide +kernel
theorem dX10_watchedChanges_42 : decode cX10_watchedChanges 42 = .ok (.ireturn, 1) := by decide +kernel
def g_X10_steps (F : Nat) (o1 N1 : Nat) (x2 : Int32) (x3 : Int32) (u : rg_U) : Option rg_U :=
  ck (inb 120 N1) (ob (g_X10_kindAt F x2 (rA u o1 120) u) (fun r2 => lt1 (sF u 0 37 0) (fun u4 => lt1 (sF u4 0 38 (-1)) (fun u9 => lt1 (sF u9 0 39 (-1)) (fun u14 => ck (inb 120 N1) (lt1 (sA u14 o1 120 (imin 64 ((rA u o1 120) + 1))) (fun u20 => if r2 = (-1) then (ob (g_X10_traps F o1 N1 5 u20) (fun r41 => ck (inb 133 N1) (ck (inb 133 N1) (lt1 (sA r41 o1 133 ((rA r41 o1 133) + 1)) (fun u48 => some u48))))) else (ck (inb ((64 * x2) + (rA u o1 120)) 320) (ck (inb ((64 * x2) + (rA u o1 120)) 320) (ck (inb ((64 * x2) + (rA u o1 120)) 320) (ob (g_X10_does F o1 N1 r2 (rA u20 7 ((64 * x2) + (rA u o1 120))) (rA u20 8 ((64 * x2) + (rA u o1 120))) (rA u20 9 ((64 * x2) + (rA u o1 120))) x3 (800 * x2) u20) (fun r29 => ck (inb 133 N1) (ck (inb 133 N1) (lt1 (sA r29 o1 133 ((rA r29 o1 133) + 1)) (fun u36 => some u36)))))))))))))))
set_option maxHeartbeats 4000000 in
set_option maxRecDepth 100000 in
theorem k_X10_steps {gs : List String} {ro : pm_RO} {n : Nat} {w : Nat → va_E} {b : Nat} {u : rg_U} {F : Nat} {o1 N1 : Nat} {x2 : Int32} {x3 : Int32} {z : rg_U} (hR : rg shM b u n w) (hs1 : shM[o1]? = some (.inr (.inl (0, N1)))) (h : g_X10_steps F o1 N1 x2 x3 u = some z) : pm_Met gs ro M_X10_steps 5 0 0 [.ref (b + 0), .ref (b + o1), .int x2, .int x3] n w (rg_post shM b n w none z) := by
  unfold g_X10_steps at h
  refine pm_ofX in_X10_steps (Nat.le_of_ble_eq_true rfl) rfl (L := [some (.ref (b + 0)), some (.ref (b + o1)), some (.int x2), some (.int x3), none, none]) rfl ?_
  refine pm_aload_n dX10_steps_0 rfl ?_
  refine pm_bipush (v := 120) dX10_steps_1 (by decide) ?_
  obtain ⟨c1, h⟩ := ck_some h
  refine dx_al (j := o1) hR dX10_steps_3 hs1 (vp_in_iff.mpr c1) ?_
  refine pm_istore dX10_steps_4 (by decide) rfl rfl ?_
  refine pm_aload_n dX10_steps_6 rfl ?_
  refine pm_iload_n dX10_steps_7 rfl ?_
  refine pm_iload dX10_steps_8 rfl ?_
  obtain ⟨r2, h3, h⟩ := ob_some h
  refine dx_cVp (j := 0) (M := M_X10_steps) (Mc := M_X10_kindAt) (dc := 0) (As := [.int x2, .int (rA u o1 120)]) (st := []) hR dX10_steps_10 ml_X10_189 ⟨TX10, 55, rfl⟩ rfl (by decide) (Nat.le_of_ble_eq_true rfl) rfl (k_X10_kindAt hR h3) ?_
  refine pm_istore dX10_steps_13 (by decide) rfl rfl ?_
  refine pm_aload_n dX10_steps_15 rfl ?_
  refine pm_iconst (v := 0) dX10_steps_16 (by decide) ?_
  obtain ⟨u4, hu5, h⟩ := lt1_ex h
  refine dx_pi (j := 0) hR rg_k0 dX10_steps_17 fl_X10_183 rfl rfl hu5 (fun w6 hR7 hk8 => ?_)
  refine pm_aload_n dX10_steps_20 rfl ?_
  refine pm_iconst (v := (-1)) dX10_steps_21 (by decide) ?_
  obtain ⟨u9, hu10, h⟩ := lt1_ex h
  refine dx_pi (j := 0) hR7 hk8 dX10_steps_22 fl_X10_192 rfl rfl hu10 (fun w11 hR12 hk13 => ?_)
  refine pm_aload_n dX10_steps_25 rfl ?_
  refine pm_iconst (v := (-1)) dX10_steps_26 (by decide) ?_
  obtain ⟨u14, hu15, h⟩ := lt1_ex h
  refine dx_pi (j := 0) hR12 hk13 dX10_steps_27 fl_X10_186 rfl rfl hu15 (fun w16 hR17 hk18 => ?_)
  refine pm_aload_n dX10_steps_30 rfl ?_
  refine pm_bipush (v := 120) dX10_steps_31 (by decide) ?_
  refine pm_bipush (v := 64) dX10_steps_33 (by decide) ?_
  refine pm_iload dX10_steps_35 rfl ?_
  refine pm_iconst (v := 1) dX10_steps_37 (by decide) ?_
  refine pm_iadd dX10_steps_38 ?_
  refine pm_mmin (M := M_X10_steps) dX10_steps_39 mm_X10_195 mm_min_2 mm_init mm_min_4 (by decide) (Nat.le_refl _) (Nat.le_refl _) (Nat.le_of_ble_eq_true rfl) ?_
  obtain ⟨c19, h⟩ := ck_some h
  obtain ⟨u20, hu21, h⟩ := lt1_ex h
  refine dx_as (j := o1) hR17 hk18 dX10_steps_42 hs1 (vp_in_iff.mpr c19) hu21 (fun w22 hR23 hk24 => ?_)
  refine pm_iload dX10_steps_43 rfl ?_
  refine pm_iconst (v := (-1)) dX10_steps_45 (by decide) ?_
  refine pm_icmp_ne (tgt := 58) dX10_steps_46 (by decide) (fun c25 => ?_) (fun c25 => ?_)
  · replace h := it_f c25 h
    refine pm_aload_n dX10_steps_58 rfl ?_
    refine pm_aload_n dX10_steps_59 rfl ?_
    refine pm_iload dX10_steps_60 rfl ?_
    refine pm_aload_n dX10_steps_62 rfl ?_
    refine dx_gr (j := 0) (o := 7) hR23 dX10_steps_63 fl_X10_36 rfl rfl ?_
    refine pm_bipush (v := 64) dX10_steps_66 (by decide) ?_
    refine pm_iload_n dX10_steps_68 rfl ?_
    refine pm_imul dX10_steps_69 ?_
    refine pm_iload dX10_steps_70 rfl ?_
    refine pm_iadd dX10_steps_72 ?_
    obtain ⟨c26, h⟩ := ck_some h
    refine dx_al (j := 7) hR23 dX10_steps_73 rfl (vp_in_iff.mpr c26) ?_
    refine pm_aload_n dX10_steps_74 rfl ?_
    refine dx_gr (j := 0) (o := 8) hR23 dX10_steps_75 fl_X10_39 rfl rfl ?_
    refine pm_bipush (v := 64) dX10_steps_78 (by decide) ?_
    refine pm_iload_n dX10_steps_80 rfl ?_
    refine pm_imul dX10_steps_81 ?_
    refine pm_iload dX10_steps_82 rfl ?_
    refine pm_iadd dX10_steps_84 ?_
    obtain ⟨c27, h⟩ := ck_some h
    refine dx_al (j := 8) hR23 dX10_steps_85 rfl (vp_in_iff.mpr c27) ?_
    refine pm_aload_n dX10_steps_86 rfl ?_
    refine dx_gr (j := 0) (o := 9) hR23 dX10_steps_87 fl_X10_42 rfl rfl ?_
    refine pm_bipush (v := 64) dX10_steps_90 (by decide) ?_
    refine pm_iload_n dX10_steps_92 rfl ?_
    refine pm_imul dX10_steps_93 ?_
    refine pm_iload dX10_steps_94 rfl ?_
    refine pm_iadd dX10_steps_96 ?_
    obtain ⟨c28, h⟩ := ck_some h
    refine dx_al (j := 9) hR23 dX10_steps_97 rfl (vp_in_iff.mpr c28) ?_
    refine pm_iload_n dX10_steps_98 rfl ?_
    refine pm_sipush (v := 800) dX10_steps_99 (by decide) ?_
    refine pm_iload_n dX10_steps_102 rfl ?_
    refine pm_imul dX10_steps_103 ?_
    obtain ⟨r29, h30, h⟩ := ob_some h
    refine dx_cVv (j := 0) (M := M_X10_steps) (Mc := M_X10_does) (dc := 4) (As := [.ref (b + o1), .int r2, .int (rA u20 7 ((64 * x2) + (rA u o1 120))), .int (rA u20 8 ((64 * x2) + (rA u o1 120))), .int (rA u20 9 ((64 * x2) + (rA u o1 120))), .int x3, .int (800 * x2)]) (st := []) hR23 hk24 dX10_steps_104 ml_X10_204 ⟨TX10, 55, rfl⟩ rfl (by decide) (Nat.le_of_ble_eq_true rfl) rfl (k_X10_does hR23 hs1 h30) (fun w31 hR32 hk33 => ?_)
    refine pm_aload_n dX10_steps_107 rfl ?_
    refine pm_sipush (v := 133) dX10_steps_108 (by decide) ?_
    refine pm_dup2 dX10_steps_111 rfl rfl ?_
    obtain ⟨c34, h⟩ := ck_some h
    refine dx_al (j := o1) hR32 dX10_steps_112 hs1 (vp_in_iff.mpr c34) ?_
    refine pm_iconst (v := 1) dX10_steps_113 (by decide) ?_
    refine pm_iadd dX10_steps_114 ?_
    obtain ⟨c35, h⟩ := ck_some h
    obtain ⟨u36, hu37, h⟩ := lt1_ex h
    refine dx_as (j := o1) hR32 hk33 dX10_steps_115 hs1 (vp_in_iff.mpr c35) hu37 (fun w38 hR39 hk40 => ?_)
    cases h
    exact pm_vret dX10_steps_116 rfl (Nat.le_refl _) (Nat.le_refl _) ⟨rfl, rfl, hR39, hk40⟩
  · replace h := it_t c25 h
    refine pm_aload_n dX10_steps_49 rfl ?_
    refine pm_aload_n dX10_steps_50 rfl ?_
    refine pm_iconst (v := 5) dX10_steps_51 (by decide) ?_
    obtain ⟨r41, h42, h⟩ := ob_some h
    refine dx_cVv (j := 0) (M := M_X10_steps) (Mc := M_X10_traps) (dc := 0) (As := [.ref (b + o1), .int 5]) (st := []) hR23 hk24 dX10_steps_52 ml_X10_200 ⟨TX10, 55, rfl⟩ rfl (by decide) (Nat.le_of_ble_eq_true rfl) rfl (k_X10_traps hR23 hs1 h42) (fun w43 hR44 hk45 => ?_)
    refine pm_goto (tgt := 107) dX10_steps_55 (by decide) ?_
    refine pm_aload_n dX10_steps_107 rfl ?_
    refine pm_sipush (v := 133) dX10_steps_108 (by decide) ?_
    refine pm_dup2 dX10_steps_111 rfl rfl ?_
    obtain ⟨c46, h⟩ := ck_some h
    refine dx_al (j := o1) hR44 dX10_steps_112 hs1 (vp_in_iff.mpr c46) ?_
    refine pm_iconst (v := 1) dX10_steps_113 (by decide) ?_
    refine pm_iadd dX10_steps_114 ?_
    obtain ⟨c47, h⟩ := ck_some h
    obtain ⟨u48, hu49, h⟩ := lt1_ex h
    refine dx_as (j := o1) hR44 hk45 dX10_steps_115 hs1 (vp_in_iff.mpr c47) hu49 (fun w50 hR51 hk52 => ?_)
    cases h
    exact pm_vret dX10_steps_116 rfl (Nat.le_refl _) (Nat.le_refl _) ⟨rfl, rfl, hR51, hk52⟩
def g_X10_status_j60 (F : Nat)  (u : rg_U) : Option Int32 :=
  ck (inb 4 5) (if (rA u 15 4) = 800 then (some 3) else (some 0))
set_option maxHeartbeats 4000000 in
set_option maxRecDepth 100000 in
theorem k_X10_status_j60 {gs : List String} {ro : pm_RO} {n : Nat} {w : Nat → va_E} {b : Nat} {u : rg_U} {F : Nat}  {z : Int32} (hR : rg shM b u n w) (h : g_X10_status_j60 F u = some z) : pm_X gs ro M_X10_status 1 0 0 0 0 60 [some (.ref (b + 0)), none] [] n w (pm_p n w (some (.int z))) := by
  unfold g_X10_status_j60 at h
  refine pm_aload_n dX10_status_60 rfl ?_
  refine dx_gr (j := 0) (o := 15) hR dX10_status_61 fl_X10_60 rfl rfl ?_
  refine pm_iconst (v := 4) dX10_status_64 (by decide) ?_
  obtain ⟨c8, h⟩ := ck_some h
  refine dx_al (j := 15) hR dX10_status_65 rfl (vp_in_iff.mpr c8) ?_
  refine pm_sipush (v := 800) dX10_status_66 (by decide) ?_
  refine pm_icmp_ne (tgt := 76) dX10_status_69 (by decide) (fun c9 => ?_) (fun c9 => ?_)
  · replace h := it_f c9 h
    refine pm_iconst (v := 0) dX10_status_76 (by decide) ?_
    cases h
    exact pm_iret dX10_status_77 rfl (Nat.le_refl _) (Nat.le_refl _) ⟨rfl, rfl, rfl⟩
  · replace h := it_t c9 h
    refine pm_iconst (v := 3) dX10_status_72 (by decide) ?_
    refine pm_goto (tgt := 77) dX10_status_73 (by decide) ?_
    cases h
    exact pm_iret dX10_status_77 rfl (Nat.le_refl _) (Nat.le_refl _) ⟨rfl, rfl, rfl⟩
def g_X10_status_j48 (F : Nat) (l1 : Int32) (u : rg_U) : Option Int32 :=
  if l1 = 19 then (g_X10_status_j60 F u) else (if l1 = 20 then (g_X10_status_j60 F u) else (some 0))
set_option maxHeartbeats 4000000 in
set_option maxRecDepth 100000 in
theorem k_X10_status_j48 {gs : List String} {ro : pm_RO} {n : Nat} {w : Nat → va_E} {b : Nat} {u : rg_U} {F : Nat} {l1 : Int32} {z : Int32} (hR : rg shM b u n w) (h : g_X10_status_j48 F l1 u = some z) : pm_X gs ro M_X10_status 1 0 0 0 0 48 [some (.ref (b + 0)), some (.int l1)] [] n w (pm_p n w (some (.int z))) := by
  unfold g_X10_status_j48 at h
  refine pm_iload_n dX10_status_48 rfl ?_
  refine pm_bipush (v := 19) dX10_status_49 (by decide) ?_
  refine pm_icmp_eq (tgt := 60) dX10_status_51 (by decide) (fun c7 => ?_) (fun c7 => ?_)
  · replace h := it_t c7 h
    refine pm_lw (L' := [some (.ref (b + 0)), none]) ⟨Or.inr rfl, Or.inl rfl, trivial⟩ ?_
    exact k_X10_status_j60 hR h
  · replace h := it_f c7 h
    refine pm_iload_n dX10_status_54 rfl ?_
    refine pm_bipush (v := 20) dX10_status_55 (by decide) ?_
    refine pm_icmp_ne (tgt := 76) dX10_status_57 (by decide) (fun c10 => ?_) (fun c10 => ?_)
    · replace h := it_f c10 h
      refine pm_iconst (v := 0) dX10_status_76 (by decide) ?_
      cases h
      exact pm_iret dX10_status_77 rfl (Nat.le_refl _) (Nat.le_refl _) ⟨rfl, rfl, rfl⟩
    · replace h := it_t c10 h
      refine pm_lw (L' := [some (.ref (b + 0)), none]) ⟨Or.inr rfl, Or.inl rfl, trivial⟩ ?_
      exact k_X10_status_j60 hR h
def g_X10_status (F : Nat)  (u : rg_U) : Option Int32 :=
  ck (inb 132 134) (if (rA u 28 132) = 0 then (ck (inb 120 134) (ob (g_X10_kindAt F 4 (rA u 28 120) u) (fun r4 => if r4 = 19 then (if (rF u 0 33) = 0 then (some 1) else (g_X10_status_j48 F r4 u)) else (g_X10_status_j48 F r4 u)))) else (ck (inb 132 134) (some (rA u 28 132))))
set_option maxHeartbeats 4000000 in
set_option maxRecDepth 100000 in
theorem k_X10_status {gs : List String} {ro : pm_RO} {n : Nat} {w : Nat → va_E} {b : Nat} {u : rg_U} {F : Nat}  {z : Int32} (hR : rg shM b u n w) (h : g_X10_status F u = some z) : pm_Met gs ro M_X10_status 1 0 0 [.ref (b + 0)] n w (pm_p n w (some (.int z))) := by
  unfold g_X10_status at h
  refine pm_ofX in_X10_status (Nat.le_of_ble_eq_true rfl) rfl (L := [some (.ref (b + 0)), none]) rfl ?_
  refine pm_aload_n dX10_status_0 rfl ?_
  refine dx_gr (j := 0) (o := 28) hR dX10_status_1 fl_X10_102 rfl rfl ?_
  refine pm_sipush (v := 132) dX10_status_4 (by decide) ?_
  obtain ⟨c1, h⟩ := ck_some h
  refine dx_al (j := 28) hR dX10_status_7 rfl (vp_in_iff.mpr c1) ?_
  refine pm_if_eq (tgt := 20) dX10_status_8 (by decide) (fun c2 => ?_) (fun c2 => ?_)
  · replace h := it_t c2 h
    refine pm_aload_n dX10_status_20 rfl ?_
    refine pm_iconst (v := 4) dX10_status_21 (by decide) ?_
    refine pm_aload_n dX10_status_22 rfl ?_
    refine dx_gr (j := 0) (o := 28) hR dX10_status_23 fl_X10_102 rfl rfl ?_
    refine pm_bipush (v := 120) dX10_status_26 (by decide) ?_
    obtain ⟨c3, h⟩ := ck_some h
    refine dx_al (j := 28) hR dX10_status_28 rfl (vp_in_iff.mpr c3) ?_
    obtain ⟨r4, h5, h⟩ := ob_some h
    refine dx_cVp (j := 0) (M := M_X10_status) (Mc := M_X10_kindAt) (dc := 0) (As := [.int 4, .int (rA u 28 120)]) (st := []) hR dX10_status_29 ml_X10_189 ⟨TX10, 55, rfl⟩ rfl (by decide) (Nat.le_of_ble_eq_true rfl) rfl (k_X10_kindAt hR h5) ?_
    refine pm_istore_n dX10_status_32 (by decide) rfl rfl ?_
    refine pm_iload_n dX10_status_33 rfl ?_
    refine pm_bipush (v := 19) dX10_status_34 (by decide) ?_
    refine pm_icmp_ne (tgt := 48) dX10_status_36 (by decide) (fun c6 => ?_) (fun c6 => ?_)
    · replace h := it_f c6 h
      exact k_X10_status_j48 hR h
    · replace h := it_t c6 h
      refine pm_aload_n dX10_status_39 rfl ?_
      refine dx_gi (j := 0) hR dX10_status_40 fl_X10_166 rfl rfl ?_
      refine pm_if_ne (tgt := 48) dX10_status_43 (by decide) (fun c11 => ?_) (fun c11 => ?_)
      · replace h := it_f c11 h
        exact k_X10_status_j48 hR h
      · replace h := it_t c11 h
        refine pm_iconst (v := 1) dX10_status_46 (by decide) ?_
        cases h
        exact pm_iret dX10_status_47 rfl (Nat.le_refl _) (Nat.le_refl _) ⟨rfl, rfl, rfl⟩
  · replace h := it_f c2 h
    refine pm_aload_n dX10_status_11 rfl ?_
    refine dx_gr (j := 0) (o := 28) hR dX10_status_12 fl_X10_102 rfl rfl ?_
    refine pm_sipush (v := 132) dX10_status_15 (by decide) ?_
    obtain ⟨c12, h⟩ := ck_some h
    refine dx_al (j := 28) hR dX10_status_18 rfl (vp_in_iff.mpr c12) ?_
    cases h
    exact pm_iret dX10_status_19 rfl (Nat.le_refl _) (Nat.le_refl _) ⟨rfl, rfl, rfl⟩
def g_X10_halvings_l2 (F : Nat) (l1 : Int32) (u : rg_U) (l2 : Int32) : Option (Int32 ⊕ Int32) :=
  if ((dx_shr l1 l2) &&& 1) = 0 then (some (.inl (l2 + 1))) else (some (.inr l2))
set_option maxHeartbeats 4000000 in
set_option maxRecDepth 100000 in
theorem k_X10_halvings_l2 {gs : List String} {ro : pm_RO} {n : Nat} {w : Nat → va_E} {b : Nat} {u : rg_U} {F : Nat} {l1 : Int32} {l2 : Int32} {z : Int32 ⊕ Int32} {Q : Option Value → Nat → (Nat → va_E) → Prop} (hR : rg shM b u n w) (h : g_X10_halvings_l2 F l1 u l2 = some z) (hc : ∀ s', z = .inl s' → pm_X gs ro M_X10_halvings 0 0 0 0 0 2 [none, some (.int l1), some (.int s')] [] n w Q) (he0 : ∀ r', z = .inr r' → pm_X gs ro M_X10_halvings 0 0 0 0 0 16 [none, none, some (.int r')] [] n w Q) : pm_X gs ro M_X10_halvings 0 0 0 0 0 2 [none, some (.int l1), some (.int l2)] [] n w Q := by
  unfold g_X10_halvings_l2 at h
  refine pm_iload_n dX10_halvings_2 rfl ?_
  refine pm_iload_n dX10_halvings_3 rfl ?_
  refine pm_ishr dX10_halvings_4 ?_
  refine pm_iconst (v := 1) dX10_halvings_5 (by decide) ?_
  refine pm_iand dX10_halvings_6 ?_
  refine pm_if_ne (tgt := 16) dX10_halvings_7 (by decide) (fun c1 => ?_) (fun c1 => ?_)
  · replace h := it_f c1 h
    refine pm_lw (L' := [none, none, some (.int l2)]) ⟨Or.inl rfl, Or.inl rfl, Or.inr rfl, trivial⟩ ?_
    exact he0 _ (Option.some.inj h).symm
  · replace h := it_t c1 h
    refine pm_iinc (v := (l2 + 1)) dX10_halvings_10 rfl rfl (by decide) rfl rfl ?_
    refine pm_goto (tgt := 2) dX10_halvings_13 (by decide) ?_
    refine pm_lw (L' := [none, some (.int l1), some (.int (l2 + 1))]) ⟨Or.inl rfl, Or.inr rfl, Or.inr rfl, trivial⟩ ?_
    exact hc _ (Option.some.inj h).symm
def g_X10_halvings (F : Nat) (x1 : Int32) (u : rg_U) : Option Int32 :=
  ob (lp (fun (s : Int32) => g_X10_halvings_l2 F x1 u s) F (0 : Int32)) (fun r2 => some r2)
set_option maxHeartbeats 4000000 in
set_option maxRecDepth 100000 in
theorem k_X10_halvings {gs : List String} {ro : pm_RO} {n : Nat} {w : Nat → va_E} {b : Nat} {u : rg_U} {F : Nat} {x1 : Int32} {z : Int32} (hR : rg shM b u n w) (h : g_X10_halvings F x1 u = some z) : pm_Met gs ro M_X10_halvings 0 0 0 [.ref (b + 0), .int x1] n w (pm_p n w (some (.int z))) := by
  unfold g_X10_halvings at h
  refine pm_ofX in_X10_halvings (Nat.le_of_ble_eq_true rfl) rfl (L := [some (.ref (b + 0)), some (.int x1), none]) rfl ?_
  refine pm_iconst (v := 0) dX10_halvings_0 (by decide) ?_
  refine pm_istore_n dX10_halvings_1 (by decide) rfl rfl ?_
  refine pm_lw (L' := [none, some (.int x1), some (.int 0)]) ⟨Or.inl rfl, Or.inr rfl, Or.inr rfl, trivial⟩ ?_
  obtain ⟨r2, h3, h⟩ := ob_some h
  refine lp_sound (P := fun (s : Int32) => pm_X gs ro M_X10_halvings 0 0 0 0 0 2 [none, some (.int x1), some (.int s)] [] n w (pm_p n w (some (.int z)))) (E := (fun (r : Int32) => pm_X gs ro M_X10_halvings 0 0 0 0 0 16 [none, none, some (.int r)] [] n w (pm_p n w (some (.int z))))) (fun s x hx hc he => k_X10_halvings_l2 hR hx hc (fun r q => he r q)) F _ r2 h3 ?_
  refine pm_iload_n dX10_halvings_16 rfl ?_
  cases h
  exact pm_iret dX10_halvings_17 rfl (Nat.le_refl _) (Nat.le_refl _) ⟨rfl, rfl, rfl⟩
def g_X10_goesWith (F : Nat) (x1 : Int32) (x2 : Int32) (u : rg_U) : Option Int32 :=
  ob (g_X10_halvings F x1 u) (fun r1 => some (x1 + (dx_shl x2 r1)))
set_option maxHeartbeats 4000000 in
set_option maxRecDepth 100000 in
theorem k_X10_goesWith {gs : List String} {ro : pm_RO} {n : Nat} {w : Nat → va_E} {b : Nat} {u : rg_U} {F : Nat} {x1 : Int32} {x2 : Int32} {z : Int32} (hR : rg shM b u n w) (h : g_X10_goesWith F x1 x2 u = some z) : pm_Met gs ro M_X10_goesWith 1 0 0 [.ref (b + 0), .int x1, .int x2] n w (pm_p n w (some (.int z))) := by
  unfold g_X10_goesWith at h
  refine pm_ofX in_X10_goesWith (Nat.le_of_ble_eq_true rfl) rfl (L := [some (.ref (b + 0)), some (.int x1), some (.int x2)]) rfl ?_
  refine pm_iload_n dX10_goesWith_0 rfl ?_
  refine pm_iload_n dX10_goesWith_1 rfl ?_
  refine pm_aload_n dX10_goesWith_2 rfl ?_
  refine pm_iload_n dX10_goesWith_3 rfl ?_
  obtain ⟨r1, h2, h⟩ := ob_some h
  refine dx_cVp (j := 0) (M := M_X10_goesWith) (Mc := M_X10_halvings) (dc := 0) (As := [.int x1]) (st := [.int x2, .int x1]) hR dX10_goesWith_4 ml_X10_225 ⟨TX10, 55, rfl⟩ rfl (by decide) (Nat.le_of_ble_eq_true rfl) rfl (k_X10_halvings hR h2) ?_
  refine pm_ishl dX10_goesWith_7 ?_
  refine pm_iadd dX10_goesWith_8 ?_
  cases h
  exact pm_iret dX10_goesWith_9 rfl (Nat.le_refl _) (Nat.le_refl _) ⟨rfl, rfl, rfl⟩
def g_X10_heldMany_l4 (F : Nat) (l1 : Int32) (u : rg_U) (l2 : Int32) (l3 : Int32) : Option ((Int32 × Int32) ⊕ Int32) :=
  if 3000 < l3 then (some (.inr l2)) else (ck (inb (g_X10_heldAt l1 l3) 15005) (some (.inl ((l2 + (g_X10_one (rA u 20 (g_X10_heldAt l1 l3)))), (l3 + 1)))))
set_option maxHeartbeats 4000000 in
set_option maxRecDepth 100000 in
theorem k_X10_heldMany_l4 {gs : List String} {ro : pm_RO} {n : Nat} {w : Nat → va_E} {b : Nat} {u : rg_U} {F : Nat} {l1 : Int32} {l2 : Int32} {l3 : Int32} {z : (Int32 × Int32) ⊕ Int32} {Q : Option Value → Nat → (Nat → va_E) → Prop} (hR : rg shM b u n w) (h : g_X10_heldMany_l4 F l1 u l2 l3 = some z) (hc : ∀ s', z = .inl s' → pm_X gs ro M_X10_heldMany 1 0 0 0 0 4 [some (.ref (b + 0)), some (.int l1), some (.int s'.1), some (.int s'.2)] [] n w Q) (he0 : ∀ r', z = .inr r' → pm_X gs ro M_X10_heldMany 1 0 0 0 0 33 [none, none, some (.int r'), none] [] n w Q) : pm_X gs ro M_X10_heldMany 1 0 0 0 0 4 [some (.ref (b + 0)), some (.int l1), some (.int l2), some (.int l3)] [] n w Q := by
  unfold g_X10_heldMany_l4 at h
  refine pm_iload_n dX10_heldMany_4 rfl ?_
  refine pm_sipush (v := 3000) dX10_heldMany_5 (by decide) ?_
  refine pm_icmp_gt (tgt := 33) dX10_heldMany_8 (by decide) (fun c1 => ?_) (fun c1 => ?_)
  · replace h := it_t c1 h
    refine pm_lw (L' := [none, none, some (.int l2), none]) ⟨Or.inl rfl, Or.inl rfl, Or.inr rfl, Or.inl rfl, trivial⟩ ?_
    exact he0 _ (Option.some.inj h).symm
  · replace h := it_f c1 h
    refine pm_iload_n dX10_heldMany_11 rfl ?_
    refine pm_aload_n dX10_heldMany_12 rfl ?_
    refine dx_gr (j := 0) (o := 20) hR dX10_heldMany_13 fl_X10_75 rfl rfl ?_
    refine pm_iload_n dX10_heldMany_16 rfl ?_
    refine pm_iload_n dX10_heldMany_17 rfl ?_
    refine dx_cSp (M := M_X10_heldMany) (Mc := M_X10_heldAt) (dc := 0) (As := [.int l1, .int l3]) (st := [.ref (b + 20), .int l2]) dX10_heldMany_18 ml_X10_158 (by decide) (Nat.le_of_ble_eq_true rfl) rfl (k_X10_heldAt rfl) ?_
    obtain ⟨c2, h⟩ := ck_some h
    refine dx_zl (j := 20) hR dX10_heldMany_21 rfl (vp_in_iff.mpr c2) ?_
    refine dx_cSp (M := M_X10_heldMany) (Mc := M_X10_one) (dc := 0) (As := [.int (rA u 20 (g_X10_heldAt l1 l3))]) (st := [.int l2]) dX10_heldMany_22 ml_X10_154 (by decide) (Nat.le_of_ble_eq_true rfl) rfl (k_X10_one rfl) ?_
    refine pm_iadd dX10_heldMany_25 ?_
    refine pm_istore_n dX10_heldMany_26 (by decide) rfl rfl ?_
    refine pm_iinc (v := (l3 + 1)) dX10_heldMany_27 rfl rfl (by decide) rfl rfl ?_
    refine pm_goto (tgt := 4) dX10_heldMany_30 (by decide) ?_
    refine pm_lw (L' := [some (.ref (b + 0)), some (.int l1), some (.int (l2 + (g_X10_one (rA u 20 (g_X10_heldAt l1 l3))))), some (.int (l3 + 1))]) ⟨Or.inr rfl, Or.inr rfl, Or.inr rfl, Or.inr rfl, trivial⟩ ?_
    exact hc _ (Option.some.inj h).symm
def g_X10_heldMany (F : Nat) (x1 : Int32) (u : rg_U) : Option Int32 :=
  ob (lp (fun (s : (Int32 × Int32)) => g_X10_heldMany_l4 F x1 u s.1 s.2) F ((0 : Int32), (0 : Int32))) (fun r3 => some r3)
set_option maxHeartbeats 4000000 in
set_option maxRecDepth 100000 in
theorem k_X10_heldMany {gs : List String} {ro : pm_RO} {n : Nat} {w : Nat → va_E} {b : Nat} {u : rg_U} {F : Nat} {x1 : Int32} {z : Int32} (hR : rg shM b u n w) (h : g_X10_heldMany F x1 u = some z) : pm_Met gs ro M_X10_heldMany 1 0 0 [.ref (b + 0), .int x1] n w (pm_p n w (some (.int z))) := by
  unfold g_X10_heldMany at h
  refine pm_ofX in_X10_heldMany (Nat.le_of_ble_eq_true rfl) rfl (L := [some (.ref (b + 0)), some (.int x1), none, none]) rfl ?_
  refine pm_iconst (v := 0) dX10_heldMany_0 (by decide) ?_
  refine pm_istore_n dX10_heldMany_1 (by decide) rfl rfl ?_
  refine pm_iconst (v := 0) dX10_heldMany_2 (by decide) ?_
  refine pm_istore_n dX10_heldMany_3 (by decide) rfl rfl ?_
  obtain ⟨r3, h4, h⟩ := ob_some h
  refine lp_sound (P := fun (s : (Int32 × Int32)) => pm_X gs ro M_X10_heldMany 1 0 0 0 0 4 [some (.ref (b + 0)), some (.int x1), some (.int s.1), some (.int s.2)] [] n w (pm_p n w (some (.int z)))) (E := (fun (r : Int32) => pm_X gs ro M_X10_heldMany 1 0 0 0 0 33 [none, none, some (.int r), none] [] n w (pm_p n w (some (.int z))))) (fun s x hx hc he => k_X10_heldMany_l4 hR hx hc (fun r q => he r q)) F _ r3 h4 ?_
  refine pm_iload_n dX10_heldMany_33 rfl ?_
  cases h
  exact pm_iret dX10_heldMany_34 rfl (Nat.le_refl _) (Nat.le_refl _) ⟨rfl, rfl, rfl⟩
def g_X10_comes_j85 (F : Nat) (l2 : Int32) (l3 : Int32) (u : rg_U) : Option ((Int32 × rg_U) ⊕ rg_U) :=
  some (.inl ((l3 + 1), u))
set_option maxHeartbeats 4000000 in
set_option maxRecDepth 100000 in
theorem k_X10_comes_j85 {gs : List String} {ro : pm_RO} {n : Nat} {w w1 : Nat → va_E} {b : Nat} {u : rg_U} {F : Nat} {l2 : Int32} {l3 : Int32} {z : ((Int32 × rg_U) ⊕ rg_U)} {Q : Option Value → Nat → (Nat → va_E) → Prop} (hR : rg shM b u n w1) (hk : rg_k b shM.length w w1) (h : g_X10_comes_j85 F l2 l3 u = some z) (hc : ∀ s', z = .inl s' → ∀ w1, rg shM b s'.2 n w1 → rg_k b shM.length w w1 → pm_X gs ro M_X10_comes 2 0 0 0 0 41 [some (.ref (b + 0)), none, some (.int l2), some (.int s'.1)] [] n w1 Q) (he0 : ∀ r', z = .inr r' → ∀ w1, rg shM b r' n w1 → rg_k b shM.length w w1 → pm_X gs ro M_X10_comes 2 0 0 0 0 91 [some (.ref (b + 0)), none, none, none] [] n w1 Q) : pm_X gs ro M_X10_comes 2 0 0 0 0 85 [some (.ref (b + 0)), none, some (.int l2), some (.int l3)] [] n w1 Q := by
  unfold g_X10_comes_j85 at h
  refine pm_iinc (v := (l3 + 1)) dX10_comes_85 rfl rfl (by decide) rfl rfl ?_
  refine pm_goto (tgt := 41) dX10_comes_88 (by decide) ?_
  refine pm_lw (L' := [some (.ref (b + 0)), none, some (.int l2), some (.int (l3 + 1))]) ⟨Or.inr rfl, Or.inl rfl, Or.inr rfl, Or.inr rfl, trivial⟩ ?_
  exact hc _ (Option.some.inj h).symm _ hR hk
def g_X10_comes_l41 (F : Nat) (l2 : Int32) (l3 : Int32) (u : rg_U) : Option ((Int32 × rg_U) ⊕ rg_U) :=
  if l2 ≤ l3 then (some (.inr u)) else (ck (inb (g_X10_heldAt 4 l3) 15005) (if (rA u 20 (g_X10_heldAt 4 l3)) = 0 then (g_X10_comes_j85 F l2 l3 u) else (ck (inb 4 5) (ob (g_X10_goesWith F l3 (rA u 24 4) u) (fun r17 => if l2 < r17 then (g_X10_comes_j85 F l2 l3 u) else (ck (inb (g_X10_heldAt 4 l3) 15005) (lt1 (sZ u 20 (g_X10_heldAt 4 l3) 0) (fun u21 => g_X10_comes_j85 F l2 l3 u21))))))))
set_option maxHeartbeats 4000000 in
set_option maxRecDepth 100000 in
theorem k_X10_comes_l41 {gs : List String} {ro : pm_RO} {n : Nat} {w w1 : Nat → va_E} {b : Nat} {u : rg_U} {F : Nat} {l2 : Int32} {l3 : Int32} {z : (Int32 × rg_U) ⊕ rg_U} {Q : Option Value → Nat → (Nat → va_E) → Prop} (hR : rg shM b u n w1) (hk : rg_k b shM.length w w1) (h : g_X10_comes_l41 F l2 l3 u = some z) (hc : ∀ s', z = .inl s' → ∀ w1, rg shM b s'.2 n w1 → rg_k b shM.length w w1 → pm_X gs ro M_X10_comes 2 0 0 0 0 41 [some (.ref (b + 0)), none, some (.int l2), some (.int s'.1)] [] n w1 Q) (he0 : ∀ r', z = .inr r' → ∀ w1, rg shM b r' n w1 → rg_k b shM.length w w1 → pm_X gs ro M_X10_comes 2 0 0 0 0 91 [some (.ref (b + 0)), none, none, none] [] n w1 Q) : pm_X gs ro M_X10_comes 2 0 0 0 0 41 [some (.ref (b + 0)), none, some (.int l2), some (.int l3)] [] n w1 Q := by
  unfold g_X10_comes_l41 at h
  refine pm_iload_n dX10_comes_41 rfl ?_
  refine pm_iload_n dX10_comes_42 rfl ?_
  refine pm_icmp_ge (tgt := 91) dX10_comes_43 (by decide) (fun c13 => ?_) (fun c13 => ?_)
  · replace h := it_t c13 h
    refine pm_lw (L' := [some (.ref (b + 0)), none, none, none]) ⟨Or.inr rfl, Or.inl rfl, Or.inl rfl, Or.inl rfl, trivial⟩ ?_
    exact he0 _ (Option.some.inj h).symm _ hR hk
  · replace h := it_f c13 h
    refine pm_aload_n dX10_comes_46 rfl ?_
    refine dx_gr (j := 0) (o := 20) hR dX10_comes_47 fl_X10_75 rfl rfl ?_
    refine pm_iconst (v := 4) dX10_comes_50 (by decide) ?_
    refine pm_iload_n dX10_comes_51 rfl ?_
    refine dx_cSp (M := M_X10_comes) (Mc := M_X10_heldAt) (dc := 0) (As := [.int 4, .int l3]) (st := [.ref (b + 20)]) dX10_comes_52 ml_X10_158 (by decide) (Nat.le_of_ble_eq_true rfl) rfl (k_X10_heldAt rfl) ?_
    obtain ⟨c14, h⟩ := ck_some h
    refine dx_zl (j := 20) hR dX10_comes_55 rfl (vp_in_iff.mpr c14) ?_
    refine pm_if_eq (tgt := 85) dX10_comes_56 (by decide) (fun c15 => ?_) (fun c15 => ?_)
    · replace h := it_t c15 h
      exact k_X10_comes_j85 hR hk h hc he0
    · replace h := it_f c15 h
      refine pm_aload_n dX10_comes_59 rfl ?_
      refine pm_iload_n dX10_comes_60 rfl ?_
      refine pm_aload_n dX10_comes_61 rfl ?_
      refine dx_gr (j := 0) (o := 24) hR dX10_comes_62 fl_X10_87 rfl rfl ?_
      refine pm_iconst (v := 4) dX10_comes_65 (by decide) ?_
      obtain ⟨c16, h⟩ := ck_some h
      refine dx_al (j := 24) hR dX10_comes_66 rfl (vp_in_iff.mpr c16) ?_
      obtain ⟨r17, h18, h⟩ := ob_some h
      refine dx_cVp (j := 0) (M := M_X10_comes) (Mc := M_X10_goesWith) (dc := 1) (As := [.int l3, .int (rA u 24 4)]) (st := []) hR dX10_comes_67 ml_X10_229 ⟨TX10, 55, rfl⟩ rfl (by decide) (Nat.le_of_ble_eq_true rfl) rfl (k_X10_goesWith hR h18) ?_
      refine pm_iload_n dX10_comes_70 rfl ?_
      refine pm_icmp_gt (tgt := 85) dX10_comes_71 (by decide) (fun c19 => ?_) (fun c19 => ?_)
      · replace h := it_t c19 h
        exact k_X10_comes_j85 hR hk h hc he0
      · replace h := it_f c19 h
        refine pm_aload_n dX10_comes_74 rfl ?_
        refine dx_gr (j := 0) (o := 20) hR dX10_comes_75 fl_X10_75 rfl rfl ?_
        refine pm_iconst (v := 4) dX10_comes_78 (by decide) ?_
        refine pm_iload_n dX10_comes_79 rfl ?_
        refine dx_cSp (M := M_X10_comes) (Mc := M_X10_heldAt) (dc := 0) (As := [.int 4, .int l3]) (st := [.ref (b + 20)]) dX10_comes_80 ml_X10_158 (by decide) (Nat.le_of_ble_eq_true rfl) rfl (k_X10_heldAt rfl) ?_
        refine pm_iconst (v := 0) dX10_comes_83 (by decide) ?_
        obtain ⟨c20, h⟩ := ck_some h
        obtain ⟨u21, hu22, h⟩ := lt1_ex h
        refine dx_zs (j := 20) hR hk dX10_comes_84 rfl (vp_in_iff.mpr c20) hu22 (fun w23 hR24 hk25 => ?_)
        exact k_X10_comes_j85 hR24 hk25 h hc he0
def g_X10_comes (F : Nat)  (u : rg_U) : Option rg_U :=
  ck (inb 4 5) (ck (inb 4 5) (ck (¬ (rA u 23 4) = 0) (if (dx_rem (rA u 21 4) (rA u 23 4)) = 0 then (ck (inb 4 5) (ck (¬ (rA u 23 4) = 0) (ck (inb (g_X10_heldAt 4 ((rA u 21 4) / (rA u 23 4))) 15005) (lt1 (sZ u 20 (g_X10_heldAt 4 ((rA u 21 4) / (rA u 23 4))) 1) (fun u8 => ob (lp (fun (s : (Int32 × rg_U)) => g_X10_comes_l41 F ((rA u 21 4) / (rA u 23 4)) s.1 s.2) F ((1 : Int32), u8)) (fun r26 => ck (inb 4 5) (ob (g_X10_heldMany F 4 r26) (fun r32 => ck (inb 4 5) (lt1 (sA r26 26 4 (imax (rA r26 26 4) r32)) (fun u35 => some u35)))))))))) else (some u))))
set_option maxHeartbeats 4000000 in
set_option maxRecDepth 100000 in
theorem k_X10_comes {gs : List String} {ro : pm_RO} {n : Nat} {w : Nat → va_E} {b : Nat} {u : rg_U} {F : Nat}  {z : rg_U} (hR : rg shM b u n w) (h : g_X10_comes F u = some z) : pm_Met gs ro M_X10_comes 2 0 0 [.ref (b + 0)] n w (rg_post shM b n w none z) := by
  unfold g_X10_comes at h
  refine pm_ofX in_X10_comes (Nat.le_of_ble_eq_true rfl) rfl (L := [some (.ref (b + 0)), none, none, none]) rfl ?_
  refine pm_aload_n dX10_comes_0 rfl ?_
  refine dx_gr (j := 0) (o := 21) hR dX10_comes_1 fl_X10_78 rfl rfl ?_
  refine pm_iconst (v := 4) dX10_comes_4 (by decide) ?_
  obtain ⟨c1, h⟩ := ck_some h
  refine dx_al (j := 21) hR dX10_comes_5 rfl (vp_in_iff.mpr c1) ?_
  refine pm_istore_n dX10_comes_6 (by decide) rfl rfl ?_
  refine pm_iload_n dX10_comes_7 rfl ?_
  refine pm_aload_n dX10_comes_8 rfl ?_
  refine dx_gr (j := 0) (o := 23) hR dX10_comes_9 fl_X10_84 rfl rfl ?_
  refine pm_iconst (v := 4) dX10_comes_12 (by decide) ?_
  obtain ⟨c2, h⟩ := ck_some h
  refine dx_al (j := 23) hR dX10_comes_13 rfl (vp_in_iff.mpr c2) ?_
  obtain ⟨c3, h⟩ := ck_some h
  refine pm_irem dX10_comes_14 c3 ?_
  refine pm_if_eq (tgt := 19) dX10_comes_15 (by decide) (fun c4 => ?_) (fun c4 => ?_)
  · replace h := it_t c4 h
    refine pm_iload_n dX10_comes_19 rfl ?_
    refine pm_aload_n dX10_comes_20 rfl ?_
    refine dx_gr (j := 0) (o := 23) hR dX10_comes_21 fl_X10_84 rfl rfl ?_
    refine pm_iconst (v := 4) dX10_comes_24 (by decide) ?_
    obtain ⟨c5, h⟩ := ck_some h
    refine dx_al (j := 23) hR dX10_comes_25 rfl (vp_in_iff.mpr c5) ?_
    obtain ⟨c6, h⟩ := ck_some h
    refine pm_idiv dX10_comes_26 c6 ?_
    refine pm_istore_n dX10_comes_27 (by decide) rfl rfl ?_
    refine pm_aload_n dX10_comes_28 rfl ?_
    refine dx_gr (j := 0) (o := 20) hR dX10_comes_29 fl_X10_75 rfl rfl ?_
    refine pm_iconst (v := 4) dX10_comes_32 (by decide) ?_
    refine pm_iload_n dX10_comes_33 rfl ?_
    refine dx_cSp (M := M_X10_comes) (Mc := M_X10_heldAt) (dc := 0) (As := [.int 4, .int ((rA u 21 4) / (rA u 23 4))]) (st := [.ref (b + 20)]) dX10_comes_34 ml_X10_158 (by decide) (Nat.le_of_ble_eq_true rfl) rfl (k_X10_heldAt rfl) ?_
    refine pm_iconst (v := 1) dX10_comes_37 (by decide) ?_
    obtain ⟨c7, h⟩ := ck_some h
    obtain ⟨u8, hu9, h⟩ := lt1_ex h
    refine dx_zs (j := 20) hR rg_k0 dX10_comes_38 rfl (vp_in_iff.mpr c7) hu9 (fun w10 hR11 hk12 => ?_)
    refine pm_iconst (v := 1) dX10_comes_39 (by decide) ?_
    refine pm_istore_n dX10_comes_40 (by decide) rfl rfl ?_
    refine pm_lw (L' := [some (.ref (b + 0)), none, some (.int ((rA u 21 4) / (rA u 23 4))), some (.int 1)]) ⟨Or.inr rfl, Or.inl rfl, Or.inr rfl, Or.inr rfl, trivial⟩ ?_
    obtain ⟨r26, h27, h⟩ := ob_some h
    refine lp_sound (P := fun (s : (Int32 × rg_U)) => ∀ w1, rg shM b s.2 n w1 → rg_k b shM.length w w1 → pm_X gs ro M_X10_comes 2 0 0 0 0 41 [some (.ref (b + 0)), none, some (.int ((rA u 21 4) / (rA u 23 4))), some (.int s.1)] [] n w1 (rg_post shM b n w none z)) (E := (fun (r : rg_U) => ∀ w1, rg shM b r n w1 → rg_k b shM.length w w1 → pm_X gs ro M_X10_comes 2 0 0 0 0 91 [some (.ref (b + 0)), none, none, none] [] n w1 (rg_post shM b n w none z))) (fun s x hx hc he w1 hR1 hk1 => k_X10_comes_l41 hR1 hk1 hx hc (fun r q => he r q)) F _ r26 h27 ?_ _ hR11 hk12
    intro w28 hR29 hk30
    refine pm_aload_n dX10_comes_91 rfl ?_
    refine dx_gr (j := 0) (o := 26) hR29 dX10_comes_92 fl_X10_93 rfl rfl ?_
    refine pm_iconst (v := 4) dX10_comes_95 (by decide) ?_
    refine pm_aload_n dX10_comes_96 rfl ?_
    refine dx_gr (j := 0) (o := 26) hR29 dX10_comes_97 fl_X10_93 rfl rfl ?_
    refine pm_iconst (v := 4) dX10_comes_100 (by decide) ?_
    obtain ⟨c31, h⟩ := ck_some h
    refine dx_al (j := 26) hR29 dX10_comes_101 rfl (vp_in_iff.mpr c31) ?_
    refine pm_aload_n dX10_comes_102 rfl ?_
    refine pm_iconst (v := 4) dX10_comes_103 (by decide) ?_
    obtain ⟨r32, h33, h⟩ := ob_some h
    refine dx_cVp (j := 0) (M := M_X10_comes) (Mc := M_X10_heldMany) (dc := 1) (As := [.int 4]) (st := [.int (rA r26 26 4), .int 4, .ref (b + 26)]) hR29 dX10_comes_104 ml_X10_232 ⟨TX10, 55, rfl⟩ rfl (by decide) (Nat.le_of_ble_eq_true rfl) rfl (k_X10_heldMany hR29 h33) ?_
    refine pm_mmax (M := M_X10_comes) dX10_comes_107 mm_X10_235 mm_max_2 mm_init mm_max_4 (by decide) (Nat.le_refl _) (Nat.le_refl _) (Nat.le_of_ble_eq_true rfl) ?_
    obtain ⟨c34, h⟩ := ck_some h
    obtain ⟨u35, hu36, h⟩ := lt1_ex h
    refine dx_as (j := 26) hR29 hk30 dX10_comes_110 rfl (vp_in_iff.mpr c34) hu36 (fun w37 hR38 hk39 => ?_)
    cases h
    exact pm_vret dX10_comes_111 rfl (Nat.le_refl _) (Nat.le_refl _) ⟨rfl, rfl, hR38, hk39⟩
  · replace h := it_f c4 h
    cases h
    exact pm_vret dX10_comes_18 rfl (Nat.le_refl _) (Nat.le_refl _) ⟨rfl, rfl, hR, rg_k0⟩
def g_X10_takesInput_l25 (F : Nat) (l1 : Int32) (u : rg_U) : Option ((Int32 × rg_U) ⊕ rg_U) :=
  if (rF u 0 33) ≤ l1 then (some (.inr u)) else (ck (inb (l1 + 1) 1000) (ck (inb l1 1000) (lt1 (sA u 29 l1 (rA u 29 (l1 + 1))) (fun u15 => some (.inl ((l1 + 1), u15))))))
set_option maxHeartbeats 4000000 in
set_option maxRecDepth 100000 in
theorem k_X10_takesInput_l25 {gs : List String} {ro : pm_RO} {n : Nat} {w w1 : Nat → va_E} {b : Nat} {u : rg_U} {F : Nat} {l1 : Int32} {z : (Int32 × rg_U) ⊕ rg_U} {Q : Option Value → Nat → (Nat → va_E) → Prop} (hR : rg shM b u n w1) (hk : rg_k b shM.length w w1) (h : g_X10_takesInput_l25 F l1 u = some z) (hc : ∀ s', z = .inl s' → ∀ w1, rg shM b s'.2 n w1 → rg_k b shM.length w w1 → pm_X gs ro M_X10_takesInput 1 0 0 0 0 25 [some (.ref (b + 0)), some (.int s'.1)] [] n w1 Q) (he0 : ∀ r', z = .inr r' → ∀ w1, rg shM b r' n w1 → rg_k b shM.length w w1 → pm_X gs ro M_X10_takesInput 1 0 0 0 0 53 [none, none] [] n w1 Q) : pm_X gs ro M_X10_takesInput 1 0 0 0 0 25 [some (.ref (b + 0)), some (.int l1)] [] n w1 Q := by
  unfold g_X10_takesInput_l25 at h
  refine pm_iload_n dX10_takesInput_25 rfl ?_
  refine pm_aload_n dX10_takesInput_26 rfl ?_
  refine dx_gi (j := 0) hR dX10_takesInput_27 fl_X10_166 rfl rfl ?_
  refine pm_icmp_ge (tgt := 53) dX10_takesInput_30 (by decide) (fun c12 => ?_) (fun c12 => ?_)
  · replace h := it_t c12 h
    refine pm_lw (L' := [none, none]) ⟨Or.inl rfl, Or.inl rfl, trivial⟩ ?_
    exact he0 _ (Option.some.inj h).symm _ hR hk
  · replace h := it_f c12 h
    refine pm_aload_n dX10_takesInput_33 rfl ?_
    refine dx_gr (j := 0) (o := 29) hR dX10_takesInput_34 fl_X10_105 rfl rfl ?_
    refine pm_iload_n dX10_takesInput_37 rfl ?_
    refine pm_aload_n dX10_takesInput_38 rfl ?_
    refine dx_gr (j := 0) (o := 29) hR dX10_takesInput_39 fl_X10_105 rfl rfl ?_
    refine pm_iload_n dX10_takesInput_42 rfl ?_
    refine pm_iconst (v := 1) dX10_takesInput_43 (by decide) ?_
    refine pm_iadd dX10_takesInput_44 ?_
    obtain ⟨c13, h⟩ := ck_some h
    refine dx_al (j := 29) hR dX10_takesInput_45 rfl (vp_in_iff.mpr c13) ?_
    obtain ⟨c14, h⟩ := ck_some h
    obtain ⟨u15, hu16, h⟩ := lt1_ex h
    refine dx_as (j := 29) hR hk dX10_takesInput_46 rfl (vp_in_iff.mpr c14) hu16 (fun w17 hR18 hk19 => ?_)
    refine pm_iinc (v := (l1 + 1)) dX10_takesInput_47 rfl rfl (by decide) rfl rfl ?_
    refine pm_goto (tgt := 25) dX10_takesInput_50 (by decide) ?_
    refine pm_lw (L' := [some (.ref (b + 0)), some (.int (l1 + 1))]) ⟨Or.inr rfl, Or.inr rfl, trivial⟩ ?_
    exact hc _ (Option.some.inj h).symm _ hR18 hk19
def g_X10_takesInput (F : Nat)  (u : rg_U) : Option rg_U :=
  ck (inb 0 1000) (ob (g_X10_notes F 0 (rA u 29 0) (-1) 2 u) (fun r2 => lt1 (sF r2 0 33 ((rF r2 0 33) - 1)) (fun u7 => ob (lp (fun (s : (Int32 × rg_U)) => g_X10_takesInput_l25 F s.1 s.2) F ((0 : Int32), u7)) (fun r20 => some r20))))
set_option maxHeartbeats 4000000 in
set_option maxRecDepth 100000 in
theorem k_X10_takesInput {gs : List String} {ro : pm_RO} {n : Nat} {w : Nat → va_E} {b : Nat} {u : rg_U} {F : Nat}  {z : rg_U} (hR : rg shM b u n w) (h : g_X10_takesInput F u = some z) : pm_Met gs ro M_X10_takesInput 1 0 0 [.ref (b + 0)] n w (rg_post shM b n w none z) := by
  unfold g_X10_takesInput at h
  refine pm_ofX in_X10_takesInput (Nat.le_of_ble_eq_true rfl) rfl (L := [some (.ref (b + 0)), none]) rfl ?_
  refine pm_aload_n dX10_takesInput_0 rfl ?_
  refine pm_iconst (v := 0) dX10_takesInput_1 (by decide) ?_
  refine pm_aload_n dX10_takesInput_2 rfl ?_
  refine dx_gr (j := 0) (o := 29) hR dX10_takesInput_3 fl_X10_105 rfl rfl ?_
  refine pm_iconst (v := 0) dX10_takesInput_6 (by decide) ?_
  obtain ⟨c1, h⟩ := ck_some h
  refine dx_al (j := 29) hR dX10_takesInput_7 rfl (vp_in_iff.mpr c1) ?_
  refine pm_iconst (v := (-1)) dX10_takesInput_8 (by decide) ?_
  refine pm_iconst (v := 2) dX10_takesInput_9 (by decide) ?_
  obtain ⟨r2, h3, h⟩ := ob_some h
  refine dx_cVv (j := 0) (M := M_X10_takesInput) (Mc := M_X10_notes) (dc := 0) (As := [.int 0, .int (rA u 29 0), .int (-1), .int 2]) (st := []) hR rg_k0 dX10_takesInput_10 ml_X10_175 ⟨TX10, 55, rfl⟩ rfl (by decide) (Nat.le_of_ble_eq_true rfl) rfl (k_X10_notes hR h3) (fun w4 hR5 hk6 => ?_)
  refine pm_aload_n dX10_takesInput_13 rfl ?_
  refine pm_dup dX10_takesInput_14 rfl ?_
  refine dx_gi (j := 0) hR5 dX10_takesInput_15 fl_X10_166 rfl rfl ?_
  refine pm_iconst (v := 1) dX10_takesInput_18 (by decide) ?_
  refine pm_isub dX10_takesInput_19 ?_
  obtain ⟨u7, hu8, h⟩ := lt1_ex h
  refine dx_pi (j := 0) hR5 hk6 dX10_takesInput_20 fl_X10_166 rfl rfl hu8 (fun w9 hR10 hk11 => ?_)
  refine pm_iconst (v := 0) dX10_takesInput_23 (by decide) ?_
  refine pm_istore_n dX10_takesInput_24 (by decide) rfl rfl ?_
  obtain ⟨r20, h21, h⟩ := ob_some h
  refine lp_sound (P := fun (s : (Int32 × rg_U)) => ∀ w1, rg shM b s.2 n w1 → rg_k b shM.length w w1 → pm_X gs ro M_X10_takesInput 1 0 0 0 0 25 [some (.ref (b + 0)), some (.int s.1)] [] n w1 (rg_post shM b n w none z)) (E := (fun (r : rg_U) => ∀ w1, rg shM b r n w1 → rg_k b shM.length w w1 → pm_X gs ro M_X10_takesInput 1 0 0 0 0 53 [none, none] [] n w1 (rg_post shM b n w none z))) (fun s x hx hc he w1 hR1 hk1 => k_X10_takesInput_l25 hR1 hk1 hx hc (fun r q => he r q)) F _ r20 h21 ?_ _ hR10 hk11
  intro w22 hR23 hk24
  cases h
  exact pm_vret dX10_takesInput_53 rfl (Nat.le_refl _) (Nat.le_refl _) ⟨rfl, rfl, hR23, hk24⟩
def g_X10_draws (F : Nat) (x1 : Int32) (u : rg_U) : Option rg_U :=
  lt1 (sF u 0 34 ((1664525 * (rF u 0 34)) + 1013904223)) (fun u1 => ck (¬ x1 = 0) (ob (g_X10_notes F 1 (dx_rem (dx_ushr (rF u1 0 34) 8) x1) (-1) 2 u1) (fun r7 => some r7)))
set_option maxHeartbeats 4000000 in
set_option maxRecDepth 100000 in
theorem k_X10_draws {gs : List String} {ro : pm_RO} {n : Nat} {w : Nat → va_E} {b : Nat} {u : rg_U} {F : Nat} {x1 : Int32} {z : rg_U} (hR : rg shM b u n w) (h : g_X10_draws F x1 u = some z) : pm_Met gs ro M_X10_draws 1 0 0 [.ref (b + 0), .int x1] n w (rg_post shM b n w none z) := by
  unfold g_X10_draws at h
  refine pm_ofX in_X10_draws (Nat.le_of_ble_eq_true rfl) rfl (L := [some (.ref (b + 0)), some (.int x1)]) rfl ?_
  refine pm_aload_n dX10_draws_0 rfl ?_
  refine pm_ldc (v := 1664525) dX10_draws_1 kc_X10_238 ?_
  refine pm_aload_n dX10_draws_3 rfl ?_
  refine dx_gi (j := 0) hR dX10_draws_4 fl_X10_108 rfl rfl ?_
  refine pm_imul dX10_draws_7 ?_
  refine pm_ldc (v := 1013904223) dX10_draws_8 kc_X10_239 ?_
  refine pm_iadd dX10_draws_10 ?_
  obtain ⟨u1, hu2, h⟩ := lt1_ex h
  refine dx_pi (j := 0) hR rg_k0 dX10_draws_11 fl_X10_108 rfl rfl hu2 (fun w3 hR4 hk5 => ?_)
  refine pm_aload_n dX10_draws_14 rfl ?_
  refine pm_iconst (v := 1) dX10_draws_15 (by decide) ?_
  refine pm_aload_n dX10_draws_16 rfl ?_
  refine dx_gi (j := 0) hR4 dX10_draws_17 fl_X10_108 rfl rfl ?_
  refine pm_bipush (v := 8) dX10_draws_20 (by decide) ?_
  refine pm_iushr dX10_draws_22 ?_
  refine pm_iload_n dX10_draws_23 rfl ?_
  obtain ⟨c6, h⟩ := ck_some h
  refine pm_irem dX10_draws_24 c6 ?_
  refine pm_iconst (v := (-1)) dX10_draws_25 (by decide) ?_
  refine pm_iconst (v := 2) dX10_draws_26 (by decide) ?_
  obtain ⟨r7, h8, h⟩ := ob_some h
  refine dx_cVv (j := 0) (M := M_X10_draws) (Mc := M_X10_notes) (dc := 0) (As := [.int 1, .int (dx_rem (dx_ushr (rF u1 0 34) 8) x1), .int (-1), .int 2]) (st := []) hR4 hk5 dX10_draws_27 ml_X10_175 ⟨TX10, 55, rfl⟩ rfl (by decide) (Nat.le_of_ble_eq_true rfl) rfl (k_X10_notes hR4 h8) (fun w9 hR10 hk11 => ?_)
  cases h
  exact pm_vret dX10_draws_30 rfl (Nat.le_refl _) (Nat.le_refl _) ⟨rfl, rfl, hR10, hk11⟩
def g_X10_goesOn_j165 (F : Nat)  (u : rg_U) : Option rg_U :=
  ck (inb 4 5) (ck (inb 4 5) (lt1 (sA u 21 4 ((rA u 21 4) + 1)) (fun u16 => ob (g_X10_comes F u16) (fun r21 => some r21))))
set_option maxHeartbeats 4000000 in
set_option maxRecDepth 100000 in
theorem k_X10_goesOn_j165 {gs : List String} {ro : pm_RO} {n : Nat} {w w1 : Nat → va_E} {b : Nat} {u : rg_U} {F : Nat}  {z : rg_U} (hR : rg shM b u n w1) (hk : rg_k b shM.length w w1) (h : g_X10_goesOn_j165 F u = some z) : pm_X gs ro M_X10_goesOn 6 0 0 0 0 165 [some (.ref (b + 0)), none, none, none, none] [] n w1 (rg_post shM b n w none z) := by
  unfold g_X10_goesOn_j165 at h
  refine pm_aload_n dX10_goesOn_165 rfl ?_
  refine dx_gr (j := 0) (o := 21) hR dX10_goesOn_166 fl_X10_78 rfl rfl ?_
  refine pm_iconst (v := 4) dX10_goesOn_169 (by decide) ?_
  refine pm_dup2 dX10_goesOn_170 rfl rfl ?_
  obtain ⟨c14, h⟩ := ck_some h
  refine dx_al (j := 21) hR dX10_goesOn_171 rfl (vp_in_iff.mpr c14) ?_
  refine pm_iconst (v := 1) dX10_goesOn_172 (by decide) ?_
  refine pm_iadd dX10_goesOn_173 ?_
  obtain ⟨c15, h⟩ := ck_some h
  obtain ⟨u16, hu17, h⟩ := lt1_ex h
  refine dx_as (j := 21) hR hk dX10_goesOn_174 rfl (vp_in_iff.mpr c15) hu17 (fun w18 hR19 hk20 => ?_)
  refine pm_aload_n dX10_goesOn_175 rfl ?_
  obtain ⟨r21, h22, h⟩ := ob_some h
  refine dx_cVv (j := 0) (M := M_X10_goesOn) (Mc := M_X10_comes) (dc := 2) (As := []) (st := []) hR19 hk20 dX10_goesOn_176 ml_X10_251 ⟨TX10, 55, rfl⟩ rfl (by decide) (Nat.le_of_ble_eq_true rfl) rfl (k_X10_comes hR19 h22) (fun w23 hR24 hk25 => ?_)
  cases h
  exact pm_vret dX10_goesOn_179 rfl (Nat.le_refl _) (Nat.le_refl _) ⟨rfl, rfl, hR24, hk25⟩
def g_X10_goesOn_j52 (F : Nat) (l2 : Int32) (l3 : Int32) (u : rg_U) : Option rg_U :=
  ck (inb 121 134) (ob (g_X10_steps F 28 134 4 l3 u) (fun r8 => if l2 = 17 then (if (rF r8 0 37) = 0 then (ck (inb 4 5) (if 100 ≤ (rA r8 19 4) then (g_X10_goesOn_j165 F r8) else (ck (inb 4 5) (ck (inb 4 5) (ck (inb (400 + (rA r8 19 4)) 500) (lt1 (sA r8 16 (400 + (rA r8 19 4)) (rA r8 21 4)) (fun u32 => ck (inb 4 5) (ck (inb 120 134) (ck (inb (400 + (rA u32 19 4)) 500) (lt1 (sA u32 17 (400 + (rA u32 19 4)) (rA u32 28 120)) (fun u40 => ck (inb 4 5) (ck (inb (400 + (rA u40 19 4)) 500) (lt1 (sA u40 18 (400 + (rA u40 19 4)) (rA u 28 121)) (fun u47 => ck (inb 4 5) (ck (inb 4 5) (lt1 (sA u47 19 4 ((rA u47 19 4) + 1)) (fun u54 => g_X10_goesOn_j165 F u54))))))))))))))))) else (g_X10_goesOn_j165 F r8)) else (g_X10_goesOn_j165 F r8)))
set_option maxHeartbeats 4000000 in
set_option maxRecDepth 100000 in
theorem k_X10_goesOn_j52 {gs : List String} {ro : pm_RO} {n : Nat} {w w1 : Nat → va_E} {b : Nat} {u : rg_U} {F : Nat} {l2 : Int32} {l3 : Int32} {z : rg_U} (hR : rg shM b u n w1) (hk : rg_k b shM.length w w1) (h : g_X10_goesOn_j52 F l2 l3 u = some z) : pm_X gs ro M_X10_goesOn 6 0 0 0 0 52 [some (.ref (b + 0)), none, some (.int l2), some (.int l3), none] [] n w1 (rg_post shM b n w none z) := by
  unfold g_X10_goesOn_j52 at h
  refine pm_aload_n dX10_goesOn_52 rfl ?_
  refine dx_gr (j := 0) (o := 28) hR dX10_goesOn_53 fl_X10_102 rfl rfl ?_
  refine pm_bipush (v := 121) dX10_goesOn_56 (by decide) ?_
  obtain ⟨c7, h⟩ := ck_some h
  refine dx_al (j := 28) hR dX10_goesOn_58 rfl (vp_in_iff.mpr c7) ?_
  refine pm_istore dX10_goesOn_59 (by decide) rfl rfl ?_
  refine pm_aload_n dX10_goesOn_61 rfl ?_
  refine pm_aload_n dX10_goesOn_62 rfl ?_
  refine dx_gr (j := 0) (o := 28) hR dX10_goesOn_63 fl_X10_102 rfl rfl ?_
  refine pm_iconst (v := 4) dX10_goesOn_66 (by decide) ?_
  refine pm_iload_n dX10_goesOn_67 rfl ?_
  obtain ⟨r8, h9, h⟩ := ob_some h
  refine dx_cVv (j := 0) (M := M_X10_goesOn) (Mc := M_X10_steps) (dc := 5) (As := [.ref (b + 28), .int 4, .int l3]) (st := []) hR hk dX10_goesOn_68 ml_X10_247 ⟨TX10, 55, rfl⟩ rfl (by decide) (Nat.le_of_ble_eq_true rfl) rfl (k_X10_steps hR rfl h9) (fun w10 hR11 hk12 => ?_)
  refine pm_iload_n dX10_goesOn_71 rfl ?_
  refine pm_bipush (v := 17) dX10_goesOn_72 (by decide) ?_
  refine pm_icmp_ne (tgt := 165) dX10_goesOn_74 (by decide) (fun c13 => ?_) (fun c13 => ?_)
  · replace h := it_f c13 h
    refine pm_lw (L' := [some (.ref (b + 0)), none, none, none, none]) ⟨Or.inr rfl, Or.inl rfl, Or.inl rfl, Or.inl rfl, Or.inl rfl, trivial⟩ ?_
    exact k_X10_goesOn_j165 hR11 hk12 h
  · replace h := it_t c13 h
    refine pm_aload_n dX10_goesOn_77 rfl ?_
    refine dx_gi (j := 0) hR11 dX10_goesOn_78 fl_X10_183 rfl rfl ?_
    refine pm_if_ne (tgt := 165) dX10_goesOn_81 (by decide) (fun c26 => ?_) (fun c26 => ?_)
    · replace h := it_f c26 h
      refine pm_lw (L' := [some (.ref (b + 0)), none, none, none, none]) ⟨Or.inr rfl, Or.inl rfl, Or.inl rfl, Or.inl rfl, Or.inl rfl, trivial⟩ ?_
      exact k_X10_goesOn_j165 hR11 hk12 h
    · replace h := it_t c26 h
      refine pm_aload_n dX10_goesOn_84 rfl ?_
      refine dx_gr (j := 0) (o := 19) hR11 dX10_goesOn_85 fl_X10_72 rfl rfl ?_
      refine pm_iconst (v := 4) dX10_goesOn_88 (by decide) ?_
      obtain ⟨c27, h⟩ := ck_some h
      refine dx_al (j := 19) hR11 dX10_goesOn_89 rfl (vp_in_iff.mpr c27) ?_
      refine pm_bipush (v := 100) dX10_goesOn_90 (by decide) ?_
      refine pm_icmp_ge (tgt := 165) dX10_goesOn_92 (by decide) (fun c28 => ?_) (fun c28 => ?_)
      · replace h := it_t c28 h
        refine pm_lw (L' := [some (.ref (b + 0)), none, none, none, none]) ⟨Or.inr rfl, Or.inl rfl, Or.inl rfl, Or.inl rfl, Or.inl rfl, trivial⟩ ?_
        exact k_X10_goesOn_j165 hR11 hk12 h
      · replace h := it_f c28 h
        refine pm_aload_n dX10_goesOn_95 rfl ?_
        refine dx_gr (j := 0) (o := 16) hR11 dX10_goesOn_96 fl_X10_63 rfl rfl ?_
        refine pm_sipush (v := 400) dX10_goesOn_99 (by decide) ?_
        refine pm_aload_n dX10_goesOn_102 rfl ?_
        refine dx_gr (j := 0) (o := 19) hR11 dX10_goesOn_103 fl_X10_72 rfl rfl ?_
        refine pm_iconst (v := 4) dX10_goesOn_106 (by decide) ?_
        obtain ⟨c29, h⟩ := ck_some h
        refine dx_al (j := 19) hR11 dX10_goesOn_107 rfl (vp_in_iff.mpr c29) ?_
        refine pm_iadd dX10_goesOn_108 ?_
        refine pm_aload_n dX10_goesOn_109 rfl ?_
        refine dx_gr (j := 0) (o := 21) hR11 dX10_goesOn_110 fl_X10_78 rfl rfl ?_
        refine pm_iconst (v := 4) dX10_goesOn_113 (by decide) ?_
        obtain ⟨c30, h⟩ := ck_some h
        refine dx_al (j := 21) hR11 dX10_goesOn_114 rfl (vp_in_iff.mpr c30) ?_
        obtain ⟨c31, h⟩ := ck_some h
        obtain ⟨u32, hu33, h⟩ := lt1_ex h
        refine dx_as (j := 16) hR11 hk12 dX10_goesOn_115 rfl (vp_in_iff.mpr c31) hu33 (fun w34 hR35 hk36 => ?_)
        refine pm_aload_n dX10_goesOn_116 rfl ?_
        refine dx_gr (j := 0) (o := 17) hR35 dX10_goesOn_117 fl_X10_66 rfl rfl ?_
        refine pm_sipush (v := 400) dX10_goesOn_120 (by decide) ?_
        refine pm_aload_n dX10_goesOn_123 rfl ?_
        refine dx_gr (j := 0) (o := 19) hR35 dX10_goesOn_124 fl_X10_72 rfl rfl ?_
        refine pm_iconst (v := 4) dX10_goesOn_127 (by decide) ?_
        obtain ⟨c37, h⟩ := ck_some h
        refine dx_al (j := 19) hR35 dX10_goesOn_128 rfl (vp_in_iff.mpr c37) ?_
        refine pm_iadd dX10_goesOn_129 ?_
        refine pm_aload_n dX10_goesOn_130 rfl ?_
        refine dx_gr (j := 0) (o := 28) hR35 dX10_goesOn_131 fl_X10_102 rfl rfl ?_
        refine pm_bipush (v := 120) dX10_goesOn_134 (by decide) ?_
        obtain ⟨c38, h⟩ := ck_some h
        refine dx_al (j := 28) hR35 dX10_goesOn_136 rfl (vp_in_iff.mpr c38) ?_
        obtain ⟨c39, h⟩ := ck_some h
        obtain ⟨u40, hu41, h⟩ := lt1_ex h
        refine dx_as (j := 17) hR35 hk36 dX10_goesOn_137 rfl (vp_in_iff.mpr c39) hu41 (fun w42 hR43 hk44 => ?_)
        refine pm_aload_n dX10_goesOn_138 rfl ?_
        refine dx_gr (j := 0) (o := 18) hR43 dX10_goesOn_139 fl_X10_69 rfl rfl ?_
        refine pm_sipush (v := 400) dX10_goesOn_142 (by decide) ?_
        refine pm_aload_n dX10_goesOn_145 rfl ?_
        refine dx_gr (j := 0) (o := 19) hR43 dX10_goesOn_146 fl_X10_72 rfl rfl ?_
        refine pm_iconst (v := 4) dX10_goesOn_149 (by decide) ?_
        obtain ⟨c45, h⟩ := ck_some h
        refine dx_al (j := 19) hR43 dX10_goesOn_150 rfl (vp_in_iff.mpr c45) ?_
        refine pm_iadd dX10_goesOn_151 ?_
        refine pm_iload dX10_goesOn_152 rfl ?_
        obtain ⟨c46, h⟩ := ck_some h
        obtain ⟨u47, hu48, h⟩ := lt1_ex h
        refine dx_as (j := 18) hR43 hk44 dX10_goesOn_154 rfl (vp_in_iff.mpr c46) hu48 (fun w49 hR50 hk51 => ?_)
        refine pm_aload_n dX10_goesOn_155 rfl ?_
        refine dx_gr (j := 0) (o := 19) hR50 dX10_goesOn_156 fl_X10_72 rfl rfl ?_
        refine pm_iconst (v := 4) dX10_goesOn_159 (by decide) ?_
        refine pm_dup2 dX10_goesOn_160 rfl rfl ?_
        obtain ⟨c52, h⟩ := ck_some h
        refine dx_al (j := 19) hR50 dX10_goesOn_161 rfl (vp_in_iff.mpr c52) ?_
        refine pm_iconst (v := 1) dX10_goesOn_162 (by decide) ?_
        refine pm_iadd dX10_goesOn_163 ?_
        obtain ⟨c53, h⟩ := ck_some h
        obtain ⟨u54, hu55, h⟩ := lt1_ex h
        refine dx_as (j := 19) hR50 hk51 dX10_goesOn_164 rfl (vp_in_iff.mpr c53) hu55 (fun w56 hR57 hk58 => ?_)
        refine pm_lw (L' := [some (.ref (b + 0)), none, none, none, none]) ⟨Or.inr rfl, Or.inl rfl, Or.inl rfl, Or.inl rfl, Or.inl rfl, trivial⟩ ?_
        exact k_X10_goesOn_j165 hR57 hk58 h
def g_X10_goesOn_j32 (F : Nat) (l1 : Int32) (l2 : Int32) (l3 : Int32) (u : rg_U) : Option rg_U :=
  if l2 = 20 then (ck (inb (256 + l1) 320) (ob (g_X10_draws F (rA u 8 (256 + l1)) u) (fun r60 => g_X10_goesOn_j52 F l2 l3 r60))) else (g_X10_goesOn_j52 F l2 l3 u)
set_option maxHeartbeats 4000000 in
set_option maxRecDepth 100000 in
theorem k_X10_goesOn_j32 {gs : List String} {ro : pm_RO} {n : Nat} {w w1 : Nat → va_E} {b : Nat} {u : rg_U} {F : Nat} {l1 : Int32} {l2 : Int32} {l3 : Int32} {z : rg_U} (hR : rg shM b u n w1) (hk : rg_k b shM.length w w1) (h : g_X10_goesOn_j32 F l1 l2 l3 u = some z) : pm_X gs ro M_X10_goesOn 6 0 0 0 0 32 [some (.ref (b + 0)), some (.int l1), some (.int l2), some (.int l3), none] [] n w1 (rg_post shM b n w none z) := by
  unfold g_X10_goesOn_j32 at h
  refine pm_iload_n dX10_goesOn_32 rfl ?_
  refine pm_bipush (v := 20) dX10_goesOn_33 (by decide) ?_
  refine pm_icmp_ne (tgt := 52) dX10_goesOn_35 (by decide) (fun c6 => ?_) (fun c6 => ?_)
  · replace h := it_f c6 h
    refine pm_lw (L' := [some (.ref (b + 0)), none, some (.int l2), some (.int l3), none]) ⟨Or.inr rfl, Or.inl rfl, Or.inr rfl, Or.inr rfl, Or.inl rfl, trivial⟩ ?_
    exact k_X10_goesOn_j52 hR hk h
  · replace h := it_t c6 h
    refine pm_aload_n dX10_goesOn_38 rfl ?_
    refine pm_aload_n dX10_goesOn_39 rfl ?_
    refine dx_gr (j := 0) (o := 8) hR dX10_goesOn_40 fl_X10_39 rfl rfl ?_
    refine pm_sipush (v := 256) dX10_goesOn_43 (by decide) ?_
    refine pm_iload_n dX10_goesOn_46 rfl ?_
    refine pm_iadd dX10_goesOn_47 ?_
    obtain ⟨c59, h⟩ := ck_some h
    refine dx_al (j := 8) hR dX10_goesOn_48 rfl (vp_in_iff.mpr c59) ?_
    obtain ⟨r60, h61, h⟩ := ob_some h
    refine dx_cVv (j := 0) (M := M_X10_goesOn) (Mc := M_X10_draws) (dc := 1) (As := [.int (rA u 8 (256 + l1))]) (st := []) hR hk dX10_goesOn_49 ml_X10_243 ⟨TX10, 55, rfl⟩ rfl (by decide) (Nat.le_of_ble_eq_true rfl) rfl (k_X10_draws hR h61) (fun w62 hR63 hk64 => ?_)
    refine pm_lw (L' := [some (.ref (b + 0)), none, some (.int l2), some (.int l3), none]) ⟨Or.inr rfl, Or.inl rfl, Or.inr rfl, Or.inr rfl, Or.inl rfl, trivial⟩ ?_
    exact k_X10_goesOn_j52 hR63 hk64 h
def g_X10_goesOn (F : Nat)  (u : rg_U) : Option rg_U :=
  ck (inb 120 134) (ob (g_X10_kindAt F 4 (rA u 28 120) u) (fun r2 => ck (inb 4 5) (if r2 = 19 then (ob (g_X10_takesInput F u) (fun r65 => g_X10_goesOn_j32 F (rA u 28 120) r2 (rA u 15 4) r65)) else (g_X10_goesOn_j32 F (rA u 28 120) r2 (rA u 15 4) u))))
set_option maxHeartbeats 4000000 in
set_option maxRecDepth 100000 in
theorem k_X10_goesOn {gs : List String} {ro : pm_RO} {n : Nat} {w : Nat → va_E} {b : Nat} {u : rg_U} {F : Nat}  {z : rg_U} (hR : rg shM b u n w) (h : g_X10_goesOn F u = some z) : pm_Met gs ro M_X10_goesOn 6 0 0 [.ref (b + 0)] n w (rg_post shM b n w none z) := by
  unfold g_X10_goesOn at h
  refine pm_ofX in_X10_goesOn (Nat.le_of_ble_eq_true rfl) rfl (L := [some (.ref (b + 0)), none, none, none, none]) rfl ?_
  refine pm_aload_n dX10_goesOn_0 rfl ?_
  refine dx_gr (j := 0) (o := 28) hR dX10_goesOn_1 fl_X10_102 rfl rfl ?_
  refine pm_bipush (v := 120) dX10_goesOn_4 (by decide) ?_
  obtain ⟨c1, h⟩ := ck_some h
  refine dx_al (j := 28) hR dX10_goesOn_6 rfl (vp_in_iff.mpr c1) ?_
  refine pm_istore_n dX10_goesOn_7 (by decide) rfl rfl ?_
  refine pm_aload_n dX10_goesOn_8 rfl ?_
  refine pm_iconst (v := 4) dX10_goesOn_9 (by decide) ?_
  refine pm_iload_n dX10_goesOn_10 rfl ?_
  obtain ⟨r2, h3, h⟩ := ob_some h
  refine dx_cVp (j := 0) (M := M_X10_goesOn) (Mc := M_X10_kindAt) (dc := 0) (As := [.int 4, .int (rA u 28 120)]) (st := []) hR dX10_goesOn_11 ml_X10_189 ⟨TX10, 55, rfl⟩ rfl (by decide) (Nat.le_of_ble_eq_true rfl) rfl (k_X10_kindAt hR h3) ?_
  refine pm_istore_n dX10_goesOn_14 (by decide) rfl rfl ?_
  refine pm_aload_n dX10_goesOn_15 rfl ?_
  refine dx_gr (j := 0) (o := 15) hR dX10_goesOn_16 fl_X10_60 rfl rfl ?_
  refine pm_iconst (v := 4) dX10_goesOn_19 (by decide) ?_
  obtain ⟨c4, h⟩ := ck_some h
  refine dx_al (j := 15) hR dX10_goesOn_20 rfl (vp_in_iff.mpr c4) ?_
  refine pm_istore_n dX10_goesOn_21 (by decide) rfl rfl ?_
  refine pm_iload_n dX10_goesOn_22 rfl ?_
  refine pm_bipush (v := 19) dX10_goesOn_23 (by decide) ?_
  refine pm_icmp_ne (tgt := 32) dX10_goesOn_25 (by decide) (fun c5 => ?_) (fun c5 => ?_)
  · replace h := it_f c5 h
    exact k_X10_goesOn_j32 hR rg_k0 h
  · replace h := it_t c5 h
    refine pm_aload_n dX10_goesOn_28 rfl ?_
    obtain ⟨r65, h66, h⟩ := ob_some h
    refine dx_cVv (j := 0) (M := M_X10_goesOn) (Mc := M_X10_takesInput) (dc := 1) (As := []) (st := []) hR rg_k0 dX10_goesOn_29 ml_X10_240 ⟨TX10, 55, rfl⟩ rfl (by decide) (Nat.le_of_ble_eq_true rfl) rfl (k_X10_takesInput hR h66) (fun w67 hR68 hk69 => ?_)
    exact k_X10_goesOn_j32 hR68 hk69 h
def g_X10_watchedChanges_j33 (F : Nat) (l2 : Int32) (s0 : Int32) (s1 : Int32) (u : rg_U) : Option ((Int32 × Int32) ⊕ Int32) :=
  some (.inl ((s1 + s0), (l2 + 1)))
set_option maxHeartbeats 4000000 in
set_option maxRecDepth 100000 in
theorem k_X10_watchedChanges_j33 {gs : List String} {ro : pm_RO} {n : Nat} {w : Nat → va_E} {b : Nat} {u : rg_U} {F : Nat} {l2 : Int32} {s0 : Int32} {s1 : Int32} {z : ((Int32 × Int32) ⊕ Int32)} {Q : Option Value → Nat → (Nat → va_E) → Prop} (hR : rg shM b u n w) (h : g_X10_watchedChanges_j33 F l2 s0 s1 u = some z) (hc : ∀ s', z = .inl s' → pm_X gs ro M_X10_watchedChanges 0 0 0 0 0 4 [some (.ref (b + 0)), some (.int s'.1), some (.int s'.2)] [] n w Q) (he0 : ∀ r', z = .inr r' → pm_X gs ro M_X10_watchedChanges 0 0 0 0 0 41 [none, some (.int r'), none] [] n w Q) : pm_X gs ro M_X10_watchedChanges 0 0 0 0 0 33 [some (.ref (b + 0)), none, some (.int l2)] [.int s0, .int s1] n w Q := by
  unfold g_X10_watchedChanges_j33 at h
  refine pm_iadd dX10_watchedChanges_33 ?_
  refine pm_istore_n dX10_watchedChanges_34 (by decide) rfl rfl ?_
  refine pm_iinc (v := (l2 + 1)) dX10_watchedChanges_35 rfl rfl (by decide) rfl rfl ?_
  refine pm_goto (tgt := 4) dX10_watchedChanges_38 (by decide) ?_
  refine pm_lw (L' := [some (.ref (b + 0)), some (.int (s1 + s0)), some (.int (l2 + 1))]) ⟨Or.inr rfl, Or.inr rfl, Or.inr rfl, trivial⟩ ?_
  exact hc _ (Option.some.inj h).symm
def g_X10_watchedChanges_l4 (F : Nat) (u : rg_U) (l1 : Int32) (l2 : Int32) : Option ((Int32 × Int32) ⊕ Int32) :=
  if 40 ≤ l2 then (some (.inr l1)) else (ck (inb l2 40) (if (rA u 30 l2) = 0 then (g_X10_watchedChanges_j33 F l2 0 l1 u) else (ck (inb (80 + l2) 134) (g_X10_watchedChanges_j33 F l2 (rA u 28 (80 + l2)) l1 u))))
set_option maxHeartbeats 4000000 in
set_option maxRecDepth 100000 in
theorem k_X10_watchedChanges_l4 {gs : List String} {ro : pm_RO} {n : Nat} {w : Nat → va_E} {b : Nat} {u : rg_U} {F : Nat} {l1 : Int32} {l2 : Int32} {z : (Int32 × Int32) ⊕ Int32} {Q : Option Value → Nat → (Nat → va_E) → Prop} (hR : rg shM b u n w) (h : g_X10_watchedChanges_l4 F u l1 l2 = some z) (hc : ∀ s', z = .inl s' → pm_X gs ro M_X10_watchedChanges 0 0 0 0 0 4 [some (.ref (b + 0)), some (.int s'.1), some (.int s'.2)] [] n w Q) (he0 : ∀ r', z = .inr r' → pm_X gs ro M_X10_watchedChanges 0 0 0 0 0 41 [none, some (.int r'), none] [] n w Q) : pm_X gs ro M_X10_watchedChanges 0 0 0 0 0 4 [some (.ref (b + 0)), some (.int l1), some (.int l2)] [] n w Q := by
  unfold g_X10_watchedChanges_l4 at h
  refine pm_iload_n dX10_watchedChanges_4 rfl ?_
  refine pm_bipush (v := 40) dX10_watchedChanges_5 (by decide) ?_
  refine pm_icmp_ge (tgt := 41) dX10_watchedChanges_7 (by decide) (fun c1 => ?_) (fun c1 => ?_)
  · replace h := it_t c1 h
    refine pm_lw (L' := [none, some (.int l1), none]) ⟨Or.inl rfl, Or.inr rfl, Or.inl rfl, trivial⟩ ?_
    exact he0 _ (Option.some.inj h).symm
  · replace h := it_f c1 h
    refine pm_iload_n dX10_watchedChanges_10 rfl ?_
    refine pm_aload_n dX10_watchedChanges_11 rfl ?_
    refine dx_gr (j := 0) (o := 30) hR dX10_watchedChanges_12 fl_X10_111 rfl rfl ?_
    refine pm_iload_n dX10_watchedChanges_15 rfl ?_
    obtain ⟨c2, h⟩ := ck_some h
    refine dx_zl (j := 30) hR dX10_watchedChanges_16 rfl (vp_in_iff.mpr c2) ?_
    refine pm_if_eq (tgt := 32) dX10_watchedChanges_17 (by decide) (fun c3 => ?_) (fun c3 => ?_)
    · replace h := it_t c3 h
      refine pm_iconst (v := 0) dX10_watchedChanges_32 (by decide) ?_
      refine pm_lw (L' := [some (.ref (b + 0)), none, some (.int l2)]) ⟨Or.inr rfl, Or.inl rfl, Or.inr rfl, trivial⟩ ?_
      exact k_X10_watchedChanges_j33 hR h hc he0
    · replace h := it_f c3 h
      refine pm_aload_n dX10_watchedChanges_20 rfl ?_
      refine dx_gr (j := 0) (o := 28) hR dX10_watchedChanges_21 fl_X10_102 rfl rfl ?_
      refine pm_bipush (v := 80) dX10_watchedChanges_24 (by decide) ?_
      refine pm_iload_n dX10_watchedChanges_26 rfl ?_
      refine pm_iadd dX10_watchedChanges_27 ?_
      obtain ⟨c4, h⟩ := ck_some h
      refine dx_al (j := 28) hR dX10_watchedChanges_28 rfl (vp_in_iff.mpr c4) ?_
      refine pm_goto (tgt := 33) dX10_watchedChanges_29 (by decide) ?_
      refine pm_lw (L' := [some (.ref (b + 0)), none, some (.int l2)]) ⟨Or.inr rfl, Or.inl rfl, Or.inr rfl, trivial⟩ ?_
      exact k_X10_watchedChanges_j33 hR h hc he0
def g_X10_watchedChanges (F : Nat)  (u : rg_U) : Option Int32 :=
  ob (lp (fun (s : (Int32 × Int32)) => g_X10_watchedChanges_l4 F u s.1 s.2) F ((0 : Int32), (0 : Int32))) (fun r5 => some r5)
set_option maxHeartbeats 4000000 in
set_option maxRecDepth 100000 in
theorem k_X10_watchedChanges {gs : List String} {ro : pm_RO} {n : Nat} {w : Nat → va_E} {b : Nat} {u : rg_U} {F : Nat}  {z : Int32} (hR : rg shM b u n w) (h : g_X10_watchedChanges F u = some z) : pm_Met gs ro M_X10_watchedChanges 0 0 0 [.ref (b + 0)] n w (pm_p n w (some (.int z))) := by
  unfold g_X10_watchedChanges at h
  refine pm_ofX in_X10_watchedChanges (Nat.le_of_ble_eq_true rfl) rfl (L := [some (.ref (b + 0)), none, none]) rfl ?_
  refine pm_iconst (v := 0) dX10_watchedChanges_0 (by decide) ?_
  refine pm_istore_n dX10_watchedChanges_1 (by decide) rfl rfl ?_
  refine pm_iconst (v := 0) dX10_watchedChanges_2 (by decide) ?_
  refine pm_istore_n dX10_watchedChanges_3 (by decide) rfl rfl ?_
  obtain ⟨r5, h6, h⟩ := ob_some h
  refine lp_sound (P := fun (s : (Int32 × Int32)) => pm_X gs ro M_X10_watchedChanges 0 0 0 0 0 4 [some (.ref (b + 0)), some (.int s.1), some (.int s.2)] [] n w (pm_p n w (some (.int z)))) (E := (fun (r : Int32) => pm_X gs ro M_X10_watchedChanges 0 0 0 0 0 41 [none, some (.int r), none] [] n w (pm_p n w (some (.int z))))) (fun s x hx hc he => k_X10_watchedChanges_l4 hR hx hc (fun r q => he r q)) F _ r5 h6 ?_
  refine pm_iload_n dX10_watchedChanges_41 rfl ?_
  cases h
  exact pm_iret dX10_watchedChanges_42 rfl (Nat.le_refl _) (Nat.le_refl _) ⟨rfl, rfl, rfl⟩
def g_X10_run_l29 (F : Nat) (l1 : Int32) (l3 : Int32) (l2 : Int32) (u : rg_U) : Option ((Int32 × rg_U) ⊕ (Int32 × rg_U)) :=
  if l1 ≤ l2 then (some (.inr (l2, u))) else (ob (g_X10_status F u) (fun r7 => if r7 = 0 then (ck (inb 4 5) (if 3000 ≤ (rA u 21 4) then (some (.inr (l2, u))) else (ob (g_X10_watchedChanges F u) (fun r12 => if r12 = l3 then (ob (g_X10_goesOn F u) (fun r15 => some (.inl ((l2 + 1), r15)))) else (some (.inr (l2, u))))))) else (some (.inr (l2, u)))))
set_option maxHeartbeats 4000000 in
set_option maxRecDepth 100000 in
theorem k_X10_run_l29 {gs : List String} {ro : pm_RO} {n : Nat} {w w1 : Nat → va_E} {b : Nat} {u : rg_U} {F : Nat} {l1 : Int32} {l3 : Int32} {l2 : Int32} {z : (Int32 × rg_U) ⊕ (Int32 × rg_U)} {Q : Option Value → Nat → (Nat → va_E) → Prop} (hR : rg shM b u n w1) (hk : rg_k b shM.length w w1) (h : g_X10_run_l29 F l1 l3 l2 u = some z) (hc : ∀ s', z = .inl s' → ∀ w1, rg shM b s'.2 n w1 → rg_k b shM.length w w1 → pm_X gs ro M_X10_run 7 0 0 0 0 29 [some (.ref (b + 0)), some (.int l1), some (.int s'.1), some (.int l3)] [] n w1 Q) (he0 : ∀ r', z = .inr r' → ∀ w1, rg shM b r'.2 n w1 → rg_k b shM.length w w1 → pm_X gs ro M_X10_run 7 0 0 0 0 71 [none, none, some (.int r'.1), none] [] n w1 Q) : pm_X gs ro M_X10_run 7 0 0 0 0 29 [some (.ref (b + 0)), some (.int l1), some (.int l2), some (.int l3)] [] n w1 Q := by
  unfold g_X10_run_l29 at h
  refine pm_iload_n dX10_run_29 rfl ?_
  refine pm_iload_n dX10_run_30 rfl ?_
  refine pm_icmp_ge (tgt := 71) dX10_run_31 (by decide) (fun c6 => ?_) (fun c6 => ?_)
  · replace h := it_t c6 h
    refine pm_lw (L' := [none, none, some (.int l2), none]) ⟨Or.inl rfl, Or.inl rfl, Or.inr rfl, Or.inl rfl, trivial⟩ ?_
    exact he0 _ (Option.some.inj h).symm _ hR hk
  · replace h := it_f c6 h
    refine pm_aload_n dX10_run_34 rfl ?_
    obtain ⟨r7, h8, h⟩ := ob_some h
    refine dx_cVp (j := 0) (M := M_X10_run) (Mc := M_X10_status) (dc := 1) (As := []) (st := []) hR dX10_run_35 ml_X10_258 ⟨TX10, 55, rfl⟩ rfl (by decide) (Nat.le_of_ble_eq_true rfl) rfl (k_X10_status hR h8) ?_
    refine pm_if_ne (tgt := 71) dX10_run_38 (by decide) (fun c9 => ?_) (fun c9 => ?_)
    · replace h := it_f c9 h
      refine pm_lw (L' := [none, none, some (.int l2), none]) ⟨Or.inl rfl, Or.inl rfl, Or.inr rfl, Or.inl rfl, trivial⟩ ?_
      exact he0 _ (Option.some.inj h).symm _ hR hk
    · replace h := it_t c9 h
      refine pm_aload_n dX10_run_41 rfl ?_
      refine dx_gr (j := 0) (o := 21) hR dX10_run_42 fl_X10_78 rfl rfl ?_
      refine pm_iconst (v := 4) dX10_run_45 (by decide) ?_
      obtain ⟨c10, h⟩ := ck_some h
      refine dx_al (j := 21) hR dX10_run_46 rfl (vp_in_iff.mpr c10) ?_
      refine pm_sipush (v := 3000) dX10_run_47 (by decide) ?_
      refine pm_icmp_ge (tgt := 71) dX10_run_50 (by decide) (fun c11 => ?_) (fun c11 => ?_)
      · replace h := it_t c11 h
        refine pm_lw (L' := [none, none, some (.int l2), none]) ⟨Or.inl rfl, Or.inl rfl, Or.inr rfl, Or.inl rfl, trivial⟩ ?_
        exact he0 _ (Option.some.inj h).symm _ hR hk
      · replace h := it_f c11 h
        refine pm_aload_n dX10_run_53 rfl ?_
        obtain ⟨r12, h13, h⟩ := ob_some h
        refine dx_cVp (j := 0) (M := M_X10_run) (Mc := M_X10_watchedChanges) (dc := 0) (As := []) (st := []) hR dX10_run_54 ml_X10_254 ⟨TX10, 55, rfl⟩ rfl (by decide) (Nat.le_of_ble_eq_true rfl) rfl (k_X10_watchedChanges hR h13) ?_
        refine pm_iload_n dX10_run_57 rfl ?_
        refine pm_icmp_ne (tgt := 71) dX10_run_58 (by decide) (fun c14 => ?_) (fun c14 => ?_)
        · replace h := it_f c14 h
          refine pm_lw (L' := [none, none, some (.int l2), none]) ⟨Or.inl rfl, Or.inl rfl, Or.inr rfl, Or.inl rfl, trivial⟩ ?_
          exact he0 _ (Option.some.inj h).symm _ hR hk
        · replace h := it_t c14 h
          refine pm_aload_n dX10_run_61 rfl ?_
          obtain ⟨r15, h16, h⟩ := ob_some h
          refine dx_cVv (j := 0) (M := M_X10_run) (Mc := M_X10_goesOn) (dc := 6) (As := []) (st := []) hR hk dX10_run_62 ml_X10_261 ⟨TX10, 55, rfl⟩ rfl (by decide) (Nat.le_of_ble_eq_true rfl) rfl (k_X10_goesOn hR h16) (fun w17 hR18 hk19 => ?_)
          refine pm_iinc (v := (l2 + 1)) dX10_run_65 rfl rfl (by decide) rfl rfl ?_
          refine pm_goto (tgt := 29) dX10_run_68 (by decide) ?_
          refine pm_lw (L' := [some (.ref (b + 0)), some (.int l1), some (.int (l2 + 1)), some (.int l3)]) ⟨Or.inr rfl, Or.inr rfl, Or.inr rfl, Or.inr rfl, trivial⟩ ?_
          exact hc _ (Option.some.inj h).symm _ hR18 hk19
def g_X10_run (F : Nat) (x1 : Int32) (u : rg_U) : Option (Int32 × rg_U) :=
  ck (inb 4 5) (if (rA u 5 4) = 0 then (some ((-1), u)) else (if (g_X10_isIn x1 1 500) = 0 then (some ((-1), u)) else (ob (g_X10_watchedChanges F u) (fun r4 => ob (lp (fun (s : (Int32 × rg_U)) => g_X10_run_l29 F x1 r4 s.1 s.2) F ((0 : Int32), u)) (fun r20 => some (r20.1, r20.2))))))
set_option maxHeartbeats 4000000 in
set_option maxRecDepth 100000 in
theorem k_X10_run {gs : List String} {ro : pm_RO} {n : Nat} {w : Nat → va_E} {b : Nat} {u : rg_U} {F : Nat} {x1 : Int32} {z : (Int32 × rg_U)} (hR : rg shM b u n w) (h : g_X10_run F x1 u = some z) : pm_Met gs ro M_X10_run 7 0 0 [.ref (b + 0), .int x1] n w (rg_post shM b n w (some (.int z.1)) z.2) := by
  unfold g_X10_run at h
  refine pm_ofX in_X10_run (Nat.le_of_ble_eq_true rfl) rfl (L := [some (.ref (b + 0)), some (.int x1), none, none]) rfl ?_
  refine pm_aload_n dX10_run_0 rfl ?_
  refine dx_gr (j := 0) (o := 5) hR dX10_run_1 fl_X10_29 rfl rfl ?_
  refine pm_iconst (v := 4) dX10_run_4 (by decide) ?_
  obtain ⟨c1, h⟩ := ck_some h
  refine dx_zl (j := 5) hR dX10_run_5 rfl (vp_in_iff.mpr c1) ?_
  refine pm_if_eq (tgt := 20) dX10_run_6 (by decide) (fun c2 => ?_) (fun c2 => ?_)
  · replace h := it_t c2 h
    refine pm_iconst (v := (-1)) dX10_run_20 (by decide) ?_
    cases h
    exact pm_iret dX10_run_21 rfl (Nat.le_refl _) (Nat.le_refl _) ⟨rfl, rfl, hR, rg_k0⟩
  · replace h := it_f c2 h
    refine pm_iload_n dX10_run_9 rfl ?_
    refine pm_iconst (v := 1) dX10_run_10 (by decide) ?_
    refine pm_sipush (v := 500) dX10_run_11 (by decide) ?_
    refine dx_cSp (M := M_X10_run) (Mc := M_X10_isIn) (dc := 0) (As := [.int x1, .int 1, .int 500]) (st := []) dX10_run_14 ml_X10_138 (by decide) (Nat.le_of_ble_eq_true rfl) rfl (k_X10_isIn rfl) ?_
    refine pm_if_ne (tgt := 22) dX10_run_17 (by decide) (fun c3 => ?_) (fun c3 => ?_)
    · replace h := it_f c3 h
      refine pm_iconst (v := 0) dX10_run_22 (by decide) ?_
      refine pm_istore_n dX10_run_23 (by decide) rfl rfl ?_
      refine pm_aload_n dX10_run_24 rfl ?_
      obtain ⟨r4, h5, h⟩ := ob_some h
      refine dx_cVp (j := 0) (M := M_X10_run) (Mc := M_X10_watchedChanges) (dc := 0) (As := []) (st := []) hR dX10_run_25 ml_X10_254 ⟨TX10, 55, rfl⟩ rfl (by decide) (Nat.le_of_ble_eq_true rfl) rfl (k_X10_watchedChanges hR h5) ?_
      refine pm_istore_n dX10_run_28 (by decide) rfl rfl ?_
      obtain ⟨r20, h21, h⟩ := ob_some h
      refine lp_sound (P := fun (s : (Int32 × rg_U)) => ∀ w1, rg shM b s.2 n w1 → rg_k b shM.length w w1 → pm_X gs ro M_X10_run 7 0 0 0 0 29 [some (.ref (b + 0)), some (.int x1), some (.int s.1), some (.int r4)] [] n w1 (rg_post shM b n w (some (.int z.1)) z.2)) (E := (fun (r : (Int32 × rg_U)) => ∀ w1, rg shM b r.2 n w1 → rg_k b shM.length w w1 → pm_X gs ro M_X10_run 7 0 0 0 0 71 [none, none, some (.int r.1), none] [] n w1 (rg_post shM b n w (some (.int z.1)) z.2))) (fun s x hx hc he w1 hR1 hk1 => k_X10_run_l29 hR1 hk1 hx hc (fun r q => he r q)) F _ r20 h21 ?_ _ hR rg_k0
      intro w22 hR23 hk24
      refine pm_iload_n dX10_run_71 rfl ?_
      cases h
      exact pm_iret dX10_run_72 rfl (Nat.le_refl _) (Nat.le_refl _) ⟨rfl, rfl, hR23, hk24⟩
    · replace h := it_t c3 h
      refine pm_iconst (v := (-1)) dX10_run_20 (by decide) ?_
      cases h
      exact pm_iret dX10_run_21 rfl (Nat.le_refl _) (Nat.le_refl _) ⟨rfl, rfl, hR, rg_k0⟩
