theorem dX10_at_0 : decode cX10_at 0 = .ok (.aload_n 0, 1) := by decide +kernel
theorem dX10_at_1 : decode cX10_at 1 = .ok (.iconst 0, 1) := by decide +kernel
theorem dX10_at_2 : decode cX10_at 2 = .ok (.putfield 276, 3) := by decide +kernel
theorem dX10_at_5 : decode cX10_at 5 = .ok (.aload_n 0, 1) := by decide +kernel
theorem dX10_at_6 : decode cX10_at 6 = .ok (.iload_n 1, 1) := by decide +kernel
theorem dX10_at_7 : decode cX10_at 7 = .ok (.invokevirtual 301, 3) := by decide +kernel
theorem dX10_at_10 : decode cX10_at 10 = .ok (.ifCond .eq 19, 3) := by decide +kernel
theorem dX10_at_13 : decode cX10_at 13 = .ok (.iload_n 2, 1) := by decide +kernel
theorem dX10_at_14 : decode cX10_at 14 = .ok (.invokestatic 169, 3) := by decide +kernel
theorem dX10_at_17 : decode cX10_at 17 = .ok (.ifCond .eq 12, 3) := by decide +kernel
theorem dX10_at_20 : decode cX10_at 20 = .ok (.iload_n 3, 1) := by decide +kernel
theorem dX10_at_21 : decode cX10_at 21 = .ok (.iconst 0, 1) := by decide +kernel
theorem dX10_at_22 : decode cX10_at 22 = .ok (.iconst 2, 1) := by decide +kernel
theorem dX10_at_23 : decode cX10_at 23 = .ok (.invokestatic 138, 3) := by decide +kernel
theorem dX10_at_26 : decode cX10_at 26 = .ok (.ifCond .ne 7, 3) := by decide +kernel
theorem dX10_at_29 : decode cX10_at 29 = .ok (.ldc_w 304, 3) := by decide +kernel
theorem dX10_at_32 : decode cX10_at 32 = .ok (.ireturn, 1) := by decide +kernel
theorem dX10_at_33 : decode cX10_at 33 = .ok (.aload_n 0, 1) := by decide +kernel
theorem dX10_at_34 : decode cX10_at 34 = .ok (.aload_n 0, 1) := by decide +kernel
theorem dX10_at_35 : decode cX10_at 35 = .ok (.invokevirtual 289, 3) := by decide +kernel
theorem dX10_at_38 : decode cX10_at 38 = .ok (.iload_n 1, 1) := by decide +kernel
theorem dX10_at_39 : decode cX10_at 39 = .ok (.invokevirtual 292, 3) := by decide +kernel
theorem dX10_at_42 : decode cX10_at 42 = .ok (.aload_n 0, 1) := by decide +kernel
theorem dX10_at_43 : decode cX10_at 43 = .ok (.getfield 114, 3) := by decide +kernel
theorem dX10_at_46 : decode cX10_at 46 = .ok (.iload_n 3, 1) := by decide +kernel
theorem dX10_at_47 : decode cX10_at 47 = .ok (.ifCond .ne 9, 3) := by decide +kernel
theorem dX10_at_50 : decode cX10_at 50 = .ok (.iconst 0, 1) := by decide +kernel
theorem dX10_at_51 : decode cX10_at 51 = .ok (.iload_n 2, 1) := by decide +kernel
theorem dX10_at_52 : decode cX10_at 52 = .ok (.iadd, 1) := by decide +kernel
theorem dX10_at_53 : decode cX10_at 53 = .ok (.goto 19, 3) := by decide +kernel
theorem dX10_at_56 : decode cX10_at 56 = .ok (.iload_n 3, 1) := by decide +kernel
theorem dX10_at_57 : decode cX10_at 57 = .ok (.iconst 1, 1) := by decide +kernel
theorem dX10_at_58 : decode cX10_at 58 = .ok (.if_icmp .ne 10, 3) := by decide +kernel
theorem dX10_at_61 : decode cX10_at 61 = .ok (.bipush 40, 2) := by decide +kernel
theorem dX10_at_63 : decode cX10_at 63 = .ok (.iload_n 2, 1) := by decide +kernel
theorem dX10_at_64 : decode cX10_at 64 = .ok (.iadd, 1) := by decide +kernel
theorem dX10_at_65 : decode cX10_at 65 = .ok (.goto 7, 3) := by decide +kernel
theorem dX10_at_68 : decode cX10_at 68 = .ok (.bipush 80, 2) := by decide +kernel
theorem dX10_at_70 : decode cX10_at 70 = .ok (.iload_n 2, 1) := by decide +kernel
theorem dX10_at_71 : decode cX10_at 71 = .ok (.iadd, 1) := by decide +kernel
theorem dX10_at_72 : decode cX10_at 72 = .ok (.iaload, 1) := by decide +kernel
theorem dX10_at_73 : decode cX10_at 73 = .ok (.ireturn, 1) := by decide +kernel
theorem dX10_copies_0 : decode cX10_copies 0 = .ok (.iconst 0, 1) := by decide +kernel
theorem dX10_copies_1 : decode cX10_copies 1 = .ok (.istore 4, 2) := by decide +kernel
theorem dX10_copies_3 : decode cX10_copies 3 = .ok (.iload 4, 2) := by decide +kernel
theorem dX10_copies_5 : decode cX10_copies 5 = .ok (.iload_n 1, 1) := by decide +kernel
theorem dX10_copies_6 : decode cX10_copies 6 = .ok (.if_icmp .ge 25, 3) := by decide +kernel
theorem dX10_copies_9 : decode cX10_copies 9 = .ok (.aload_n 0, 1) := by decide +kernel
theorem dX10_copies_10 : decode cX10_copies 10 = .ok (.iload_n 1, 1) := by decide +kernel
theorem dX10_copies_11 : decode cX10_copies 11 = .ok (.iload_n 3, 1) := by decide +kernel
theorem dX10_copies_12 : decode cX10_copies 12 = .ok (.imul, 1) := by decide +kernel
theorem dX10_copies_13 : decode cX10_copies 13 = .ok (.iload 4, 2) := by decide +kernel
theorem dX10_copies_15 : decode cX10_copies 15 = .ok (.iadd, 1) := by decide +kernel
theorem dX10_copies_16 : decode cX10_copies 16 = .ok (.aload_n 0, 1) := by decide +kernel
theorem dX10_copies_17 : decode cX10_copies 17 = .ok (.iload_n 1, 1) := by decide +kernel
theorem dX10_copies_18 : decode cX10_copies 18 = .ok (.iload_n 2, 1) := by decide +kernel
theorem dX10_copies_19 : decode cX10_copies 19 = .ok (.imul, 1) := by decide +kernel
theorem dX10_copies_20 : decode cX10_copies 20 = .ok (.iload 4, 2) := by decide +kernel
theorem dX10_copies_22 : decode cX10_copies 22 = .ok (.iadd, 1) := by decide +kernel
theorem dX10_copies_23 : decode cX10_copies 23 = .ok (.iaload, 1) := by decide +kernel
theorem dX10_copies_24 : decode cX10_copies 24 = .ok (.iastore, 1) := by decide +kernel
theorem dX10_copies_25 : decode cX10_copies 25 = .ok (.iinc 4 1, 3) := by decide +kernel
theorem dX10_copies_28 : decode cX10_copies 28 = .ok (.goto (-25), 3) := by decide +kernel
theorem dX10_copies_31 : decode cX10_copies 31 = .ok (.return_, 1) := by decide +kernel
theorem dX10_hadIn_0 : decode cX10_hadIn 0 = .ok (.iconst (-1), 1) := by decide +kernel
theorem dX10_hadIn_1 : decode cX10_hadIn 1 = .ok (.istore 7, 2) := by decide +kernel
theorem dX10_hadIn_3 : decode cX10_hadIn 3 = .ok (.aload_n 0, 1) := by decide +kernel
theorem dX10_hadIn_4 : decode cX10_hadIn 4 = .ok (.iload_n 1, 1) := by decide +kernel
theorem dX10_hadIn_5 : decode cX10_hadIn 5 = .ok (.invokevirtual 270, 3) := by decide +kernel
theorem dX10_hadIn_8 : decode cX10_hadIn 8 = .ok (.aload_n 0, 1) := by decide +kernel
theorem dX10_hadIn_9 : decode cX10_hadIn 9 = .ok (.iload_n 1, 1) := by decide +kernel
theorem dX10_hadIn_10 : decode cX10_hadIn 10 = .ok (.iload_n 2, 1) := by decide +kernel
theorem dX10_hadIn_11 : decode cX10_hadIn 11 = .ok (.invokevirtual 286, 3) := by decide +kernel
theorem dX10_hadIn_14 : decode cX10_hadIn 14 = .ok (.iload_n 2, 1) := by decide +kernel
theorem dX10_hadIn_15 : decode cX10_hadIn 15 = .ok (.istore 8, 2) := by decide +kernel
theorem dX10_hadIn_17 : decode cX10_hadIn 17 = .ok (.iload 8, 2) := by decide +kernel
theorem dX10_hadIn_19 : decode cX10_hadIn 19 = .ok (.iload_n 3, 1) := by decide +kernel
theorem dX10_hadIn_20 : decode cX10_hadIn 20 = .ok (.if_icmp .gt 49, 3) := by decide +kernel
theorem dX10_hadIn_23 : decode cX10_hadIn 23 = .ok (.aload_n 0, 1) := by decide +kernel
theorem dX10_hadIn_24 : decode cX10_hadIn 24 = .ok (.iload_n 1, 1) := by decide +kernel
theorem dX10_hadIn_25 : decode cX10_hadIn 25 = .ok (.iload 8, 2) := by decide +kernel
theorem dX10_hadIn_27 : decode cX10_hadIn 27 = .ok (.invokevirtual 286, 3) := by decide +kernel
theorem dX10_hadIn_30 : decode cX10_hadIn 30 = .ok (.aload_n 0, 1) := by decide +kernel
theorem dX10_hadIn_31 : decode cX10_hadIn 31 = .ok (.getfield 114, 3) := by decide +kernel
theorem dX10_hadIn_34 : decode cX10_hadIn 34 = .ok (.iconst 0, 1) := by decide +kernel
theorem dX10_hadIn_35 : decode cX10_hadIn 35 = .ok (.iload 4, 2) := by decide +kernel
theorem dX10_hadIn_37 : decode cX10_hadIn 37 = .ok (.iadd, 1) := by decide +kernel
theorem dX10_hadIn_38 : decode cX10_hadIn 38 = .ok (.iaload, 1) := by decide +kernel
theorem dX10_hadIn_39 : decode cX10_hadIn 39 = .ok (.iload 5, 2) := by decide +kernel
theorem dX10_hadIn_41 : decode cX10_hadIn 41 = .ok (.if_icmp .ne 22, 3) := by decide +kernel
theorem dX10_hadIn_44 : decode cX10_hadIn 44 = .ok (.aload_n 0, 1) := by decide +kernel
theorem dX10_hadIn_45 : decode cX10_hadIn 45 = .ok (.getfield 114, 3) := by decide +kernel
theorem dX10_hadIn_48 : decode cX10_hadIn 48 = .ok (.bipush 40, 2) := by decide +kernel
theorem dX10_hadIn_50 : decode cX10_hadIn 50 = .ok (.iload 4, 2) := by decide +kernel
theorem dX10_hadIn_52 : decode cX10_hadIn 52 = .ok (.iadd, 1) := by decide +kernel
theorem dX10_hadIn_53 : decode cX10_hadIn 53 = .ok (.iaload, 1) := by decide +kernel
theorem dX10_hadIn_54 : decode cX10_hadIn 54 = .ok (.iload 6, 2) := by decide +kernel
theorem dX10_hadIn_56 : decode cX10_hadIn 56 = .ok (.if_icmp .ne 7, 3) := by decide +kernel
theorem dX10_hadIn_59 : decode cX10_hadIn 59 = .ok (.iload 8, 2) := by decide +kernel
theorem dX10_hadIn_61 : decode cX10_hadIn 61 = .ok (.istore 7, 2) := by decide +kernel
theorem dX10_hadIn_63 : decode cX10_hadIn 63 = .ok (.iinc 8 1, 3) := by decide +kernel
theorem dX10_hadIn_66 : decode cX10_hadIn 66 = .ok (.goto (-49), 3) := by decide +kernel
theorem dX10_hadIn_69 : decode cX10_hadIn 69 = .ok (.iload 7, 2) := by decide +kernel
theorem dX10_hadIn_71 : decode cX10_hadIn 71 = .ok (.ireturn, 1) := by decide +kernel
theorem dX10_keep_0 : decode cX10_keep 0 = .ok (.aload_n 0, 1) := by decide +kernel
theorem dX10_keep_1 : decode cX10_keep 1 = .ok (.getfield 29, 3) := by decide +kernel
theorem dX10_keep_4 : decode cX10_keep 4 = .ok (.iconst 4, 1) := by decide +kernel
theorem dX10_keep_5 : decode cX10_keep 5 = .ok (.baload, 1) := by decide +kernel
theorem dX10_keep_6 : decode cX10_keep 6 = .ok (.ifCond .eq 11, 3) := by decide +kernel
theorem dX10_keep_9 : decode cX10_keep 9 = .ok (.aload_n 0, 1) := by decide +kernel
theorem dX10_keep_10 : decode cX10_keep 10 = .ok (.getfield 295, 3) := by decide +kernel
theorem dX10_keep_13 : decode cX10_keep 13 = .ok (.iconst 4, 1) := by decide +kernel
theorem dX10_keep_14 : decode cX10_keep 14 = .ok (.if_icmp .ne 5, 3) := by decide +kernel
theorem dX10_keep_17 : decode cX10_keep 17 = .ok (.iconst (-1), 1) := by decide +kernel
theorem dX10_keep_18 : decode cX10_keep 18 = .ok (.ireturn, 1) := by decide +kernel
theorem dX10_keep_19 : decode cX10_keep 19 = .ok (.aload_n 0, 1) := by decide +kernel
theorem dX10_keep_20 : decode cX10_keep 20 = .ok (.getfield 295, 3) := by decide +kernel
theorem dX10_keep_23 : decode cX10_keep 23 = .ok (.istore_n 1, 1) := by decide +kernel
theorem dX10_keep_24 : decode cX10_keep 24 = .ok (.aload_n 0, 1) := by decide +kernel
theorem dX10_keep_25 : decode cX10_keep 25 = .ok (.getfield 33, 3) := by decide +kernel
theorem dX10_keep_28 : decode cX10_keep 28 = .ok (.bipush 64, 2) := by decide +kernel
theorem dX10_keep_30 : decode cX10_keep 30 = .ok (.iconst 4, 1) := by decide +kernel
theorem dX10_keep_31 : decode cX10_keep 31 = .ok (.iload_n 1, 1) := by decide +kernel
theorem dX10_keep_32 : decode cX10_keep 32 = .ok (.invokestatic 298, 3) := by decide +kernel
theorem dX10_keep_35 : decode cX10_keep 35 = .ok (.aload_n 0, 1) := by decide +kernel
theorem dX10_keep_36 : decode cX10_keep 36 = .ok (.getfield 36, 3) := by decide +kernel
theorem dX10_keep_39 : decode cX10_keep 39 = .ok (.bipush 64, 2) := by decide +kernel
theorem dX10_keep_41 : decode cX10_keep 41 = .ok (.iconst 4, 1) := by decide +kernel
theorem dX10_keep_42 : decode cX10_keep 42 = .ok (.iload_n 1, 1) := by decide +kernel
theorem dX10_keep_43 : decode cX10_keep 43 = .ok (.invokestatic 298, 3) := by decide +kernel
theorem dX10_keep_46 : decode cX10_keep 46 = .ok (.aload_n 0, 1) := by decide +kernel
theorem dX10_keep_47 : decode cX10_keep 47 = .ok (.getfield 39, 3) := by decide +kernel
theorem dX10_keep_50 : decode cX10_keep 50 = .ok (.bipush 64, 2) := by decide +kernel
theorem dX10_keep_52 : decode cX10_keep 52 = .ok (.iconst 4, 1) := by decide +kernel
theorem dX10_keep_53 : decode cX10_keep 53 = .ok (.iload_n 1, 1) := by decide +kernel
theorem dX10_keep_54 : decode cX10_keep 54 = .ok (.invokestatic 298, 3) := by decide +kernel
theorem dX10_keep_57 : decode cX10_keep 57 = .ok (.aload_n 0, 1) := by decide +kernel
theorem dX10_keep_58 : decode cX10_keep 58 = .ok (.getfield 42, 3) := by decide +kernel
theorem dX10_keep_61 : decode cX10_keep 61 = .ok (.bipush 64, 2) := by decide +kernel
theorem dX10_keep_63 : decode cX10_keep 63 = .ok (.iconst 4, 1) := by decide +kernel
theorem dX10_keep_64 : decode cX10_keep 64 = .ok (.iload_n 1, 1) := by decide +kernel
theorem dX10_keep_65 : decode cX10_keep 65 = .ok (.invokestatic 298, 3) := by decide +kernel
theorem dX10_keep_68 : decode cX10_keep 68 = .ok (.aload_n 0, 1) := by decide +kernel
theorem dX10_keep_69 : decode cX10_keep 69 = .ok (.getfield 45, 3) := by decide +kernel
theorem dX10_keep_72 : decode cX10_keep 72 = .ok (.sipush 800, 3) := by decide +kernel
theorem dX10_keep_75 : decode cX10_keep 75 = .ok (.iconst 4, 1) := by decide +kernel
theorem dX10_keep_76 : decode cX10_keep 76 = .ok (.iload_n 1, 1) := by decide +kernel
theorem dX10_keep_77 : decode cX10_keep 77 = .ok (.invokestatic 298, 3) := by decide +kernel
theorem dX10_keep_80 : decode cX10_keep 80 = .ok (.aload_n 0, 1) := by decide +kernel
theorem dX10_keep_81 : decode cX10_keep 81 = .ok (.getfield 48, 3) := by decide +kernel
theorem dX10_keep_84 : decode cX10_keep 84 = .ok (.sipush 800, 3) := by decide +kernel
theorem dX10_keep_87 : decode cX10_keep 87 = .ok (.iconst 4, 1) := by decide +kernel
theorem dX10_keep_88 : decode cX10_keep 88 = .ok (.iload_n 1, 1) := by decide +kernel
theorem dX10_keep_89 : decode cX10_keep 89 = .ok (.invokestatic 298, 3) := by decide +kernel
theorem dX10_keep_92 : decode cX10_keep 92 = .ok (.aload_n 0, 1) := by decide +kernel
theorem dX10_keep_93 : decode cX10_keep 93 = .ok (.getfield 51, 3) := by decide +kernel
theorem dX10_keep_96 : decode cX10_keep 96 = .ok (.sipush 800, 3) := by decide +kernel
theorem dX10_keep_99 : decode cX10_keep 99 = .ok (.iconst 4, 1) := by decide +kernel
theorem dX10_keep_100 : decode cX10_keep 100 = .ok (.iload_n 1, 1) := by decide +kernel
theorem dX10_keep_101 : decode cX10_keep 101 = .ok (.invokestatic 298, 3) := by decide +kernel
theorem dX10_keep_104 : decode cX10_keep 104 = .ok (.aload_n 0, 1) := by decide +kernel
theorem dX10_keep_105 : decode cX10_keep 105 = .ok (.getfield 54, 3) := by decide +kernel
theorem dX10_keep_108 : decode cX10_keep 108 = .ok (.sipush 800, 3) := by decide +kernel
theorem dX10_keep_111 : decode cX10_keep 111 = .ok (.iconst 4, 1) := by decide +kernel
theorem dX10_keep_112 : decode cX10_keep 112 = .ok (.iload_n 1, 1) := by decide +kernel
theorem dX10_keep_113 : decode cX10_keep 113 = .ok (.invokestatic 298, 3) := by decide +kernel
theorem dX10_keep_116 : decode cX10_keep 116 = .ok (.aload_n 0, 1) := by decide +kernel
theorem dX10_keep_117 : decode cX10_keep 117 = .ok (.getfield 57, 3) := by decide +kernel
theorem dX10_keep_120 : decode cX10_keep 120 = .ok (.sipush 800, 3) := by decide +kernel
theorem dX10_keep_123 : decode cX10_keep 123 = .ok (.iconst 4, 1) := by decide +kernel
theorem dX10_keep_124 : decode cX10_keep 124 = .ok (.iload_n 1, 1) := by decide +kernel
theorem dX10_keep_125 : decode cX10_keep 125 = .ok (.invokestatic 298, 3) := by decide +kernel
theorem dX10_keep_128 : decode cX10_keep 128 = .ok (.aload_n 0, 1) := by decide +kernel
theorem dX10_keep_129 : decode cX10_keep 129 = .ok (.getfield 60, 3) := by decide +kernel
theorem dX10_keep_132 : decode cX10_keep 132 = .ok (.iconst 1, 1) := by decide +kernel
theorem dX10_keep_133 : decode cX10_keep 133 = .ok (.iconst 4, 1) := by decide +kernel
theorem dX10_keep_134 : decode cX10_keep 134 = .ok (.iload_n 1, 1) := by decide +kernel
theorem dX10_keep_135 : decode cX10_keep 135 = .ok (.invokestatic 298, 3) := by decide +kernel
theorem dX10_keep_138 : decode cX10_keep 138 = .ok (.aload_n 0, 1) := by decide +kernel
theorem dX10_keep_139 : decode cX10_keep 139 = .ok (.getfield 63, 3) := by decide +kernel
theorem dX10_keep_142 : decode cX10_keep 142 = .ok (.bipush 100, 2) := by decide +kernel
theorem dX10_keep_144 : decode cX10_keep 144 = .ok (.iconst 4, 1) := by decide +kernel
theorem dX10_keep_145 : decode cX10_keep 145 = .ok (.iload_n 1, 1) := by decide +kernel
theorem dX10_keep_146 : decode cX10_keep 146 = .ok (.invokestatic 298, 3) := by decide +kernel
theorem dX10_keep_149 : decode cX10_keep 149 = .ok (.aload_n 0, 1) := by decide +kernel
theorem dX10_keep_150 : decode cX10_keep 150 = .ok (.getfield 66, 3) := by decide +kernel
theorem dX10_keep_153 : decode cX10_keep 153 = .ok (.bipush 100, 2) := by decide +kernel
theorem dX10_keep_155 : decode cX10_keep 155 = .ok (.iconst 4, 1) := by decide +kernel
theorem dX10_keep_156 : decode cX10_keep 156 = .ok (.iload_n 1, 1) := by decide +kernel
theorem dX10_keep_157 : decode cX10_keep 157 = .ok (.invokestatic 298, 3) := by decide +kernel
theorem dX10_keep_160 : decode cX10_keep 160 = .ok (.aload_n 0, 1) := by decide +kernel
theorem dX10_keep_161 : decode cX10_keep 161 = .ok (.getfield 69, 3) := by decide +kernel
theorem dX10_keep_164 : decode cX10_keep 164 = .ok (.bipush 100, 2) := by decide +kernel
theorem dX10_keep_166 : decode cX10_keep 166 = .ok (.iconst 4, 1) := by decide +kernel
theorem dX10_keep_167 : decode cX10_keep 167 = .ok (.iload_n 1, 1) := by decide +kernel
theorem dX10_keep_168 : decode cX10_keep 168 = .ok (.invokestatic 298, 3) := by decide +kernel
theorem dX10_keep_171 : decode cX10_keep 171 = .ok (.aload_n 0, 1) := by decide +kernel
theorem dX10_keep_172 : decode cX10_keep 172 = .ok (.getfield 72, 3) := by decide +kernel
theorem dX10_keep_175 : decode cX10_keep 175 = .ok (.iconst 1, 1) := by decide +kernel
theorem dX10_keep_176 : decode cX10_keep 176 = .ok (.iconst 4, 1) := by decide +kernel
theorem dX10_keep_177 : decode cX10_keep 177 = .ok (.iload_n 1, 1) := by decide +kernel
theorem dX10_keep_178 : decode cX10_keep 178 = .ok (.invokestatic 298, 3) := by decide +kernel
theorem dX10_keep_181 : decode cX10_keep 181 = .ok (.iconst 0, 1) := by decide +kernel
theorem dX10_keep_182 : decode cX10_keep 182 = .ok (.istore_n 2, 1) := by decide +kernel
theorem dX10_keep_183 : decode cX10_keep 183 = .ok (.iload_n 2, 1) := by decide +kernel
theorem dX10_keep_184 : decode cX10_keep 184 = .ok (.sipush 3000, 3) := by decide +kernel
theorem dX10_keep_187 : decode cX10_keep 187 = .ok (.if_icmp .gt 29, 3) := by decide +kernel
theorem dX10_keep_190 : decode cX10_keep 190 = .ok (.aload_n 0, 1) := by decide +kernel
theorem dX10_keep_191 : decode cX10_keep 191 = .ok (.getfield 75, 3) := by decide +kernel
theorem dX10_keep_194 : decode cX10_keep 194 = .ok (.iload_n 1, 1) := by decide +kernel
theorem dX10_keep_195 : decode cX10_keep 195 = .ok (.iload_n 2, 1) := by decide +kernel
theorem dX10_keep_196 : decode cX10_keep 196 = .ok (.invokestatic 158, 3) := by decide +kernel
theorem dX10_keep_199 : decode cX10_keep 199 = .ok (.aload_n 0, 1) := by decide +kernel
theorem dX10_keep_200 : decode cX10_keep 200 = .ok (.getfield 75, 3) := by decide +kernel
theorem dX10_keep_203 : decode cX10_keep 203 = .ok (.iconst 4, 1) := by decide +kernel
theorem dX10_keep_204 : decode cX10_keep 204 = .ok (.iload_n 2, 1) := by decide +kernel
theorem dX10_keep_205 : decode cX10_keep 205 = .ok (.invokestatic 158, 3) := by decide +kernel
theorem dX10_keep_208 : decode cX10_keep 208 = .ok (.baload, 1) := by decide +kernel
theorem dX10_keep_209 : decode cX10_keep 209 = .ok (.bastore, 1) := by decide +kernel
theorem dX10_keep_210 : decode cX10_keep 210 = .ok (.iinc 2 1, 3) := by decide +kernel
theorem dX10_keep_213 : decode cX10_keep 213 = .ok (.goto (-30), 3) := by decide +kernel
theorem dX10_keep_216 : decode cX10_keep 216 = .ok (.aload_n 0, 1) := by decide +kernel
theorem dX10_keep_217 : decode cX10_keep 217 = .ok (.getfield 78, 3) := by decide +kernel
theorem dX10_keep_220 : decode cX10_keep 220 = .ok (.iconst 1, 1) := by decide +kernel
theorem dX10_keep_221 : decode cX10_keep 221 = .ok (.iconst 4, 1) := by decide +kernel
theorem dX10_keep_222 : decode cX10_keep 222 = .ok (.iload_n 1, 1) := by decide +kernel
theorem dX10_keep_223 : decode cX10_keep 223 = .ok (.invokestatic 298, 3) := by decide +kernel
theorem dX10_keep_226 : decode cX10_keep 226 = .ok (.aload_n 0, 1) := by decide +kernel
theorem dX10_keep_227 : decode cX10_keep 227 = .ok (.getfield 84, 3) := by decide +kernel
theorem dX10_keep_230 : decode cX10_keep 230 = .ok (.iconst 1, 1) := by decide +kernel
theorem dX10_keep_231 : decode cX10_keep 231 = .ok (.iconst 4, 1) := by decide +kernel
theorem dX10_keep_232 : decode cX10_keep 232 = .ok (.iload_n 1, 1) := by decide +kernel
theorem dX10_keep_233 : decode cX10_keep 233 = .ok (.invokestatic 298, 3) := by decide +kernel
theorem dX10_keep_236 : decode cX10_keep 236 = .ok (.aload_n 0, 1) := by decide +kernel
theorem dX10_keep_237 : decode cX10_keep 237 = .ok (.getfield 87, 3) := by decide +kernel
theorem dX10_keep_240 : decode cX10_keep 240 = .ok (.iconst 1, 1) := by decide +kernel
theorem dX10_keep_241 : decode cX10_keep 241 = .ok (.iconst 4, 1) := by decide +kernel
theorem dX10_keep_242 : decode cX10_keep 242 = .ok (.iload_n 1, 1) := by decide +kernel
theorem dX10_keep_243 : decode cX10_keep 243 = .ok (.invokestatic 298, 3) := by decide +kernel
theorem dX10_keep_246 : decode cX10_keep 246 = .ok (.aload_n 0, 1) := by decide +kernel
theorem dX10_keep_247 : decode cX10_keep 247 = .ok (.getfield 90, 3) := by decide +kernel
theorem dX10_keep_250 : decode cX10_keep 250 = .ok (.iconst 1, 1) := by decide +kernel
theorem dX10_keep_251 : decode cX10_keep 251 = .ok (.iconst 4, 1) := by decide +kernel
theorem dX10_keep_252 : decode cX10_keep 252 = .ok (.iload_n 1, 1) := by decide +kernel
theorem dX10_keep_253 : decode cX10_keep 253 = .ok (.invokestatic 298, 3) := by decide +kernel
theorem dX10_keep_256 : decode cX10_keep 256 = .ok (.aload_n 0, 1) := by decide +kernel
theorem dX10_keep_257 : decode cX10_keep 257 = .ok (.getfield 93, 3) := by decide +kernel
theorem dX10_keep_260 : decode cX10_keep 260 = .ok (.iconst 1, 1) := by decide +kernel
theorem dX10_keep_261 : decode cX10_keep 261 = .ok (.iconst 4, 1) := by decide +kernel
theorem dX10_keep_262 : decode cX10_keep 262 = .ok (.iload_n 1, 1) := by decide +kernel
theorem dX10_keep_263 : decode cX10_keep 263 = .ok (.invokestatic 298, 3) := by decide +kernel
theorem dX10_keep_266 : decode cX10_keep 266 = .ok (.aload_n 0, 1) := by decide +kernel
theorem dX10_keep_267 : decode cX10_keep 267 = .ok (.getfield 96, 3) := by decide +kernel
theorem dX10_keep_270 : decode cX10_keep 270 = .ok (.iconst 1, 1) := by decide +kernel
theorem dX10_keep_271 : decode cX10_keep 271 = .ok (.iconst 4, 1) := by decide +kernel
theorem dX10_keep_272 : decode cX10_keep 272 = .ok (.iload_n 1, 1) := by decide +kernel
theorem dX10_keep_273 : decode cX10_keep 273 = .ok (.invokestatic 298, 3) := by decide +kernel
theorem dX10_keep_276 : decode cX10_keep 276 = .ok (.aload_n 0, 1) := by decide +kernel
theorem dX10_keep_277 : decode cX10_keep 277 = .ok (.getfield 81, 3) := by decide +kernel
theorem dX10_keep_280 : decode cX10_keep 280 = .ok (.iload_n 1, 1) := by decide +kernel
theorem dX10_keep_281 : decode cX10_keep 281 = .ok (.aload_n 0, 1) := by decide +kernel
theorem dX10_keep_282 : decode cX10_keep 282 = .ok (.invokevirtual 258, 3) := by decide +kernel
theorem dX10_keep_285 : decode cX10_keep 285 = .ok (.iastore, 1) := by decide +kernel
theorem dX10_keep_286 : decode cX10_keep 286 = .ok (.aload_n 0, 1) := by decide +kernel
theorem dX10_keep_287 : decode cX10_keep 287 = .ok (.getfield 29, 3) := by decide +kernel
theorem dX10_keep_290 : decode cX10_keep 290 = .ok (.iload_n 1, 1) := by decide +kernel
theorem dX10_keep_291 : decode cX10_keep 291 = .ok (.iconst 1, 1) := by decide +kernel
theorem dX10_keep_292 : decode cX10_keep 292 = .ok (.bastore, 1) := by decide +kernel
theorem dX10_keep_293 : decode cX10_keep 293 = .ok (.aload_n 0, 1) := by decide +kernel
theorem dX10_keep_294 : decode cX10_keep 294 = .ok (.dup, 1) := by decide +kernel
theorem dX10_keep_295 : decode cX10_keep 295 = .ok (.getfield 295, 3) := by decide +kernel
theorem dX10_keep_298 : decode cX10_keep 298 = .ok (.iconst 1, 1) := by decide +kernel
theorem dX10_keep_299 : decode cX10_keep 299 = .ok (.iadd, 1) := by decide +kernel
theorem dX10_keep_300 : decode cX10_keep 300 = .ok (.putfield 295, 3) := by decide +kernel
theorem dX10_keep_303 : decode cX10_keep 303 = .ok (.iload_n 1, 1) := by decide +kernel
theorem dX10_keep_304 : decode cX10_keep 304 = .ok (.ireturn, 1) := by decide +kernel
theorem dX10_last_0 : decode cX10_last 0 = .ok (.aload_n 0, 1) := by decide +kernel
theorem dX10_last_1 : decode cX10_last 1 = .ok (.iconst 0, 1) := by decide +kernel
theorem dX10_last_2 : decode cX10_last 2 = .ok (.putfield 276, 3) := by decide +kernel
theorem dX10_last_5 : decode cX10_last 5 = .ok (.aload_n 0, 1) := by decide +kernel
theorem dX10_last_6 : decode cX10_last 6 = .ok (.iload_n 1, 1) := by decide +kernel
theorem dX10_last_7 : decode cX10_last 7 = .ok (.invokevirtual 301, 3) := by decide +kernel
theorem dX10_last_10 : decode cX10_last 10 = .ok (.ifCond .eq 19, 3) := by decide +kernel
theorem dX10_last_13 : decode cX10_last 13 = .ok (.iload_n 2, 1) := by decide +kernel
theorem dX10_last_14 : decode cX10_last 14 = .ok (.invokestatic 169, 3) := by decide +kernel
theorem dX10_last_17 : decode cX10_last 17 = .ok (.ifCond .eq 12, 3) := by decide +kernel
theorem dX10_last_20 : decode cX10_last 20 = .ok (.aload_n 0, 1) := by decide +kernel
theorem dX10_last_21 : decode cX10_last 21 = .ok (.iload_n 1, 1) := by decide +kernel
theorem dX10_last_22 : decode cX10_last 22 = .ok (.iload_n 2, 1) := by decide +kernel
theorem dX10_last_23 : decode cX10_last 23 = .ok (.invokevirtual 305, 3) := by decide +kernel
theorem dX10_last_26 : decode cX10_last 26 = .ok (.goto 5, 3) := by decide +kernel
theorem dX10_last_29 : decode cX10_last 29 = .ok (.bipush (-2), 2) := by decide +kernel
theorem dX10_last_31 : decode cX10_last 31 = .ok (.ireturn, 1) := by decide +kernel
theorem dX10_lastOf_0 : decode cX10_lastOf 0 = .ok (.aload_n 0, 1) := by decide +kernel
theorem dX10_lastOf_1 : decode cX10_lastOf 1 = .ok (.invokevirtual 289, 3) := by decide +kernel
theorem dX10_lastOf_4 : decode cX10_lastOf 4 = .ok (.istore_n 3, 1) := by decide +kernel
theorem dX10_lastOf_5 : decode cX10_lastOf 5 = .ok (.aload_n 0, 1) := by decide +kernel
theorem dX10_lastOf_6 : decode cX10_lastOf 6 = .ok (.iload_n 3, 1) := by decide +kernel
theorem dX10_lastOf_7 : decode cX10_lastOf 7 = .ok (.iload_n 1, 1) := by decide +kernel
theorem dX10_lastOf_8 : decode cX10_lastOf 8 = .ok (.invokevirtual 292, 3) := by decide +kernel
theorem dX10_lastOf_11 : decode cX10_lastOf 11 = .ok (.aload_n 0, 1) := by decide +kernel
theorem dX10_lastOf_12 : decode cX10_lastOf 12 = .ok (.getfield 114, 3) := by decide +kernel
theorem dX10_lastOf_15 : decode cX10_lastOf 15 = .ok (.bipush 80, 2) := by decide +kernel
theorem dX10_lastOf_17 : decode cX10_lastOf 17 = .ok (.iload_n 2, 1) := by decide +kernel
theorem dX10_lastOf_18 : decode cX10_lastOf 18 = .ok (.iadd, 1) := by decide +kernel
theorem dX10_lastOf_19 : decode cX10_lastOf 19 = .ok (.iaload, 1) := by decide +kernel
theorem dX10_lastOf_20 : decode cX10_lastOf 20 = .ok (.istore 4, 2) := by decide +kernel
theorem dX10_lastOf_22 : decode cX10_lastOf 22 = .ok (.iload 4, 2) := by decide +kernel
theorem dX10_lastOf_24 : decode cX10_lastOf 24 = .ok (.ifCond .ne 5, 3) := by decide +kernel
theorem dX10_lastOf_27 : decode cX10_lastOf 27 = .ok (.iconst (-1), 1) := by decide +kernel
theorem dX10_lastOf_28 : decode cX10_lastOf 28 = .ok (.ireturn, 1) := by decide +kernel
theorem dX10_lastOf_29 : decode cX10_lastOf 29 = .ok (.iconst 0, 1) := by decide +kernel
theorem dX10_lastOf_30 : decode cX10_lastOf 30 = .ok (.istore 5, 2) := by decide +kernel
theorem dX10_lastOf_32 : decode cX10_lastOf 32 = .ok (.iload_n 1, 1) := by decide +kernel
theorem dX10_lastOf_33 : decode cX10_lastOf 33 = .ok (.istore 6, 2) := by decide +kernel
theorem dX10_lastOf_35 : decode cX10_lastOf 35 = .ok (.iload 5, 2) := by decide +kernel
theorem dX10_lastOf_37 : decode cX10_lastOf 37 = .ok (.iload 6, 2) := by decide +kernel
theorem dX10_lastOf_39 : decode cX10_lastOf 39 = .ok (.if_icmp .ge 49, 3) := by decide +kernel
theorem dX10_lastOf_42 : decode cX10_lastOf 42 = .ok (.iload 5, 2) := by decide +kernel
theorem dX10_lastOf_44 : decode cX10_lastOf 44 = .ok (.iload 6, 2) := by decide +kernel
theorem dX10_lastOf_46 : decode cX10_lastOf 46 = .ok (.iadd, 1) := by decide +kernel
theorem dX10_lastOf_47 : decode cX10_lastOf 47 = .ok (.iconst 2, 1) := by decide +kernel
theorem dX10_lastOf_48 : decode cX10_lastOf 48 = .ok (.idiv, 1) := by decide +kernel
theorem dX10_lastOf_49 : decode cX10_lastOf 49 = .ok (.istore 7, 2) := by decide +kernel
theorem dX10_lastOf_51 : decode cX10_lastOf 51 = .ok (.aload_n 0, 1) := by decide +kernel
theorem dX10_lastOf_52 : decode cX10_lastOf 52 = .ok (.iload_n 3, 1) := by decide +kernel
theorem dX10_lastOf_53 : decode cX10_lastOf 53 = .ok (.iload 7, 2) := by decide +kernel
theorem dX10_lastOf_55 : decode cX10_lastOf 55 = .ok (.invokevirtual 292, 3) := by decide +kernel
theorem dX10_lastOf_58 : decode cX10_lastOf 58 = .ok (.aload_n 0, 1) := by decide +kernel
theorem dX10_lastOf_59 : decode cX10_lastOf 59 = .ok (.getfield 114, 3) := by decide +kernel
theorem dX10_lastOf_62 : decode cX10_lastOf 62 = .ok (.bipush 80, 2) := by decide +kernel
theorem dX10_lastOf_64 : decode cX10_lastOf 64 = .ok (.iload_n 2, 1) := by decide +kernel
theorem dX10_lastOf_65 : decode cX10_lastOf 65 = .ok (.iadd, 1) := by decide +kernel
theorem dX10_lastOf_66 : decode cX10_lastOf 66 = .ok (.iaload, 1) := by decide +kernel
theorem dX10_lastOf_67 : decode cX10_lastOf 67 = .ok (.iload 4, 2) := by decide +kernel
theorem dX10_lastOf_69 : decode cX10_lastOf 69 = .ok (.if_icmp .ne 10, 3) := by decide +kernel
theorem dX10_lastOf_72 : decode cX10_lastOf 72 = .ok (.iload 7, 2) := by decide +kernel
theorem dX10_lastOf_74 : decode cX10_lastOf 74 = .ok (.istore 6, 2) := by decide +kernel
theorem dX10_lastOf_76 : decode cX10_lastOf 76 = .ok (.goto 9, 3) := by decide +kernel
theorem dX10_lastOf_79 : decode cX10_lastOf 79 = .ok (.iload 7, 2) := by decide +kernel
theorem dX10_lastOf_81 : decode cX10_lastOf 81 = .ok (.iconst 1, 1) := by decide +kernel
theorem dX10_lastOf_82 : decode cX10_lastOf 82 = .ok (.iadd, 1) := by decide +kernel
theorem dX10_lastOf_83 : decode cX10_lastOf 83 = .ok (.istore 5, 2) := by decide +kernel
theorem dX10_lastOf_85 : decode cX10_lastOf 85 = .ok (.goto (-50), 3) := by decide +kernel
theorem dX10_lastOf_88 : decode cX10_lastOf 88 = .ok (.iload 5, 2) := by decide +kernel
theorem dX10_lastOf_90 : decode cX10_lastOf 90 = .ok (.ireturn, 1) := by decide +kernel
theorem dX10_state_0 : decode cX10_state 0 = .ok (.aload_n 0, 1) := by decide +kernel
theorem dX10_state_1 : decode cX10_state 1 = .ok (.iconst 0, 1) := by decide +kernel
theorem dX10_state_2 : decode cX10_state 2 = .ok (.putfield 276, 3) := by decide +kernel
theorem dX10_state_5 : decode cX10_state 5 = .ok (.aload_n 0, 1) := by decide +kernel
theorem dX10_state_6 : decode cX10_state 6 = .ok (.iload_n 1, 1) := by decide +kernel
theorem dX10_state_7 : decode cX10_state 7 = .ok (.invokevirtual 301, 3) := by decide +kernel
theorem dX10_state_10 : decode cX10_state 10 = .ok (.ifCond .eq 23, 3) := by decide +kernel
theorem dX10_state_13 : decode cX10_state 13 = .ok (.iload_n 2, 1) := by decide +kernel
theorem dX10_state_14 : decode cX10_state 14 = .ok (.iconst 0, 1) := by decide +kernel
theorem dX10_state_15 : decode cX10_state 15 = .ok (.iconst 4, 1) := by decide +kernel
theorem dX10_state_16 : decode cX10_state 16 = .ok (.invokestatic 138, 3) := by decide +kernel
theorem dX10_state_19 : decode cX10_state 19 = .ok (.ifCond .ne 18, 3) := by decide +kernel
theorem dX10_state_22 : decode cX10_state 22 = .ok (.iload_n 2, 1) := by decide +kernel
theorem dX10_state_23 : decode cX10_state 23 = .ok (.bipush 10, 2) := by decide +kernel
theorem dX10_state_25 : decode cX10_state 25 = .ok (.bipush 17, 2) := by decide +kernel
theorem dX10_state_27 : decode cX10_state 27 = .ok (.invokestatic 138, 3) := by decide +kernel
theorem dX10_state_30 : decode cX10_state 30 = .ok (.ifCond .ne 7, 3) := by decide +kernel
theorem dX10_state_33 : decode cX10_state 33 = .ok (.ldc_w 304, 3) := by decide +kernel
theorem dX10_state_36 : decode cX10_state 36 = .ok (.ireturn, 1) := by decide +kernel
theorem dX10_state_37 : decode cX10_state 37 = .ok (.aload_n 0, 1) := by decide +kernel
theorem dX10_state_38 : decode cX10_state 38 = .ok (.aload_n 0, 1) := by decide +kernel
theorem dX10_state_39 : decode cX10_state 39 = .ok (.invokevirtual 289, 3) := by decide +kernel
theorem dX10_state_42 : decode cX10_state 42 = .ok (.iload_n 1, 1) := by decide +kernel
theorem dX10_state_43 : decode cX10_state 43 = .ok (.invokevirtual 292, 3) := by decide +kernel
theorem dX10_state_46 : decode cX10_state 46 = .ok (.iload_n 2, 1) := by decide +kernel
theorem dX10_state_47 : decode cX10_state 47 = .ok (.tableswitch 83 0 4 #[33, 41, 49, 58, 67], 33) := by decide +kernel
theorem dX10_state_80 : decode cX10_state 80 = .ok (.aload_n 0, 1) := by decide +kernel
theorem dX10_state_81 : decode cX10_state 81 = .ok (.getfield 114, 3) := by decide +kernel
theorem dX10_state_84 : decode cX10_state 84 = .ok (.bipush 120, 2) := by decide +kernel
theorem dX10_state_86 : decode cX10_state 86 = .ok (.iaload, 1) := by decide +kernel
theorem dX10_state_87 : decode cX10_state 87 = .ok (.ireturn, 1) := by decide +kernel
theorem dX10_state_88 : decode cX10_state 88 = .ok (.aload_n 0, 1) := by decide +kernel
theorem dX10_state_89 : decode cX10_state 89 = .ok (.getfield 114, 3) := by decide +kernel
theorem dX10_state_92 : decode cX10_state 92 = .ok (.bipush 121, 2) := by decide +kernel
theorem dX10_state_94 : decode cX10_state 94 = .ok (.iaload, 1) := by decide +kernel
theorem dX10_state_95 : decode cX10_state 95 = .ok (.ireturn, 1) := by decide +kernel
theorem dX10_state_96 : decode cX10_state 96 = .ok (.aload_n 0, 1) := by decide +kernel
theorem dX10_state_97 : decode cX10_state 97 = .ok (.getfield 114, 3) := by decide +kernel
theorem dX10_state_100 : decode cX10_state 100 = .ok (.sipush 130, 3) := by decide +kernel
theorem dX10_state_103 : decode cX10_state 103 = .ok (.iaload, 1) := by decide +kernel
theorem dX10_state_104 : decode cX10_state 104 = .ok (.ireturn, 1) := by decide +kernel
theorem dX10_state_105 : decode cX10_state 105 = .ok (.aload_n 0, 1) := by decide +kernel
theorem dX10_state_106 : decode cX10_state 106 = .ok (.getfield 114, 3) := by decide +kernel
theorem dX10_state_109 : decode cX10_state 109 = .ok (.sipush 131, 3) := by decide +kernel
theorem dX10_state_112 : decode cX10_state 112 = .ok (.iaload, 1) := by decide +kernel
theorem dX10_state_113 : decode cX10_state 113 = .ok (.ireturn, 1) := by decide +kernel
theorem dX10_state_114 : decode cX10_state 114 = .ok (.aload_n 0, 1) := by decide +kernel
theorem dX10_state_115 : decode cX10_state 115 = .ok (.aload_n 0, 1) := by decide +kernel
theorem dX10_state_116 : decode cX10_state 116 = .ok (.invokevirtual 289, 3) := by decide +kernel
theorem dX10_state_119 : decode cX10_state 119 = .ok (.aload_n 0, 1) := by decide +kernel
theorem dX10_state_120 : decode cX10_state 120 = .ok (.getfield 114, 3) := by decide +kernel
theorem dX10_state_123 : decode cX10_state 123 = .ok (.bipush 120, 2) := by decide +kernel
theorem dX10_state_125 : decode cX10_state 125 = .ok (.iaload, 1) := by decide +kernel
theorem dX10_state_126 : decode cX10_state 126 = .ok (.invokevirtual 189, 3) := by decide +kernel
theorem dX10_state_129 : decode cX10_state 129 = .ok (.ireturn, 1) := by decide +kernel
theorem dX10_state_130 : decode cX10_state 130 = .ok (.iload_n 2, 1) := by decide +kernel
theorem dX10_state_131 : decode cX10_state 131 = .ok (.bipush 10, 2) := by decide +kernel
theorem dX10_state_133 : decode cX10_state 133 = .ok (.isub, 1) := by decide +kernel
theorem dX10_state_134 : decode cX10_state 134 = .ok (.aload_n 0, 1) := by decide +kernel
theorem dX10_state_135 : decode cX10_state 135 = .ok (.getfield 114, 3) := by decide +kernel
theorem dX10_state_138 : decode cX10_state 138 = .ok (.bipush 121, 2) := by decide +kernel
theorem dX10_state_140 : decode cX10_state 140 = .ok (.iaload, 1) := by decide +kernel
theorem dX10_state_141 : decode cX10_state 141 = .ok (.if_icmp .ge 18, 3) := by decide +kernel
theorem dX10_state_144 : decode cX10_state 144 = .ok (.aload_n 0, 1) := by decide +kernel
theorem dX10_state_145 : decode cX10_state 145 = .ok (.getfield 114, 3) := by decide +kernel
theorem dX10_state_148 : decode cX10_state 148 = .ok (.bipush 122, 2) := by decide +kernel
theorem dX10_state_150 : decode cX10_state 150 = .ok (.iload_n 2, 1) := by decide +kernel
theorem dX10_state_151 : decode cX10_state 151 = .ok (.iadd, 1) := by decide +kernel
theorem dX10_state_152 : decode cX10_state 152 = .ok (.bipush 10, 2) := by decide +kernel
theorem dX10_state_154 : decode cX10_state 154 = .ok (.isub, 1) := by decide +kernel
theorem dX10_state_155 : decode cX10_state 155 = .ok (.iaload, 1) := by decide +kernel
theorem dX10_state_156 : decode cX10_state 156 = .ok (.goto 6, 3) := by decide +kernel
theorem dX10_state_159 : decode cX10_state 159 = .ok (.ldc_w 304, 3) := by decide +kernel
theorem dX10_state_162 : decode cX10_state 162 = .ok (.ireturn, 1) := by decide +kernel
theorem dX10_use_0 : decode cX10_use 0 = .ok (.iload_n 1, 1) := by decide +kernel
theorem dX10_use_1 : decode cX10_use 1 = .ok (.iconst (-1), 1) := by decide +kernel
theorem dX10_use_2 : decode cX10_use 2 = .ok (.if_icmp .eq 19, 3) := by decide +kernel
theorem dX10_use_5 : decode cX10_use 5 = .ok (.iload_n 1, 1) := by decide +kernel
theorem dX10_use_6 : decode cX10_use 6 = .ok (.iconst 0, 1) := by decide +kernel
theorem dX10_use_7 : decode cX10_use 7 = .ok (.aload_n 0, 1) := by decide +kernel
theorem dX10_use_8 : decode cX10_use 8 = .ok (.getfield 295, 3) := by decide +kernel
theorem dX10_use_11 : decode cX10_use 11 = .ok (.iconst 1, 1) := by decide +kernel
theorem dX10_use_12 : decode cX10_use 12 = .ok (.isub, 1) := by decide +kernel
theorem dX10_use_13 : decode cX10_use 13 = .ok (.invokestatic 138, 3) := by decide +kernel
theorem dX10_use_16 : decode cX10_use 16 = .ok (.ifCond .ne 5, 3) := by decide +kernel
theorem dX10_use_19 : decode cX10_use 19 = .ok (.iconst 0, 1) := by decide +kernel
theorem dX10_use_20 : decode cX10_use 20 = .ok (.ireturn, 1) := by decide +kernel
theorem dX10_use_21 : decode cX10_use 21 = .ok (.aload_n 0, 1) := by decide +kernel
theorem dX10_use_22 : decode cX10_use 22 = .ok (.iload_n 1, 1) := by decide +kernel
theorem dX10_use_23 : decode cX10_use 23 = .ok (.putfield 99, 3) := by decide +kernel
theorem dX10_use_26 : decode cX10_use 26 = .ok (.iconst 1, 1) := by decide +kernel
theorem dX10_use_27 : decode cX10_use 27 = .ok (.ireturn, 1) := by decide +kernel
theorem dX10_when_0 : decode cX10_when 0 = .ok (.aload_n 0, 1) := by decide +kernel
theorem dX10_when_1 : decode cX10_when 1 = .ok (.iconst 0, 1) := by decide +kernel
theorem dX10_when_2 : decode cX10_when 2 = .ok (.putfield 276, 3) := by decide +kernel
theorem dX10_when_5 : decode cX10_when 5 = .ok (.aload_n 0, 1) := by decide +kernel
theorem dX10_when_6 : decode cX10_when 6 = .ok (.iload_n 1, 1) := by decide +kernel
theorem dX10_when_7 : decode cX10_when 7 = .ok (.invokevirtual 301, 3) := by decide +kernel
theorem dX10_when_10 : decode cX10_when 10 = .ok (.ifCond .eq 19, 3) := by decide +kernel
theorem dX10_when_13 : decode cX10_when 13 = .ok (.iload_n 2, 1) := by decide +kernel
theorem dX10_when_14 : decode cX10_when 14 = .ok (.invokestatic 169, 3) := by decide +kernel
theorem dX10_when_17 : decode cX10_when 17 = .ok (.ifCond .eq 12, 3) := by decide +kernel
theorem dX10_when_20 : decode cX10_when 20 = .ok (.iload_n 3, 1) := by decide +kernel
theorem dX10_when_21 : decode cX10_when 21 = .ok (.iload 4, 2) := by decide +kernel
theorem dX10_when_23 : decode cX10_when 23 = .ok (.invokestatic 172, 3) := by decide +kernel
theorem dX10_when_26 : decode cX10_when 26 = .ok (.ifCond .ne 6, 3) := by decide +kernel
theorem dX10_when_29 : decode cX10_when 29 = .ok (.bipush (-2), 2) := by decide +kernel
theorem dX10_when_31 : decode cX10_when 31 = .ok (.ireturn, 1) := by decide +kernel
theorem dX10_when_32 : decode cX10_when 32 = .ok (.aload_n 0, 1) := by decide +kernel
theorem dX10_when_33 : decode cX10_when 33 = .ok (.invokevirtual 289, 3) := by decide +kernel
theorem dX10_when_36 : decode cX10_when 36 = .ok (.istore 5, 2) := by decide +kernel
theorem dX10_when_38 : decode cX10_when 38 = .ok (.iload_n 1, 1) := by decide +kernel
theorem dX10_when_39 : decode cX10_when 39 = .ok (.istore 6, 2) := by decide +kernel
theorem dX10_when_41 : decode cX10_when 41 = .ok (.iload 6, 2) := by decide +kernel
theorem dX10_when_43 : decode cX10_when 43 = .ok (.ifCond .lt 58, 3) := by decide +kernel
theorem dX10_when_46 : decode cX10_when 46 = .ok (.aload_n 0, 1) := by decide +kernel
theorem dX10_when_47 : decode cX10_when 47 = .ok (.iload 5, 2) := by decide +kernel
theorem dX10_when_49 : decode cX10_when 49 = .ok (.iload 6, 2) := by decide +kernel
theorem dX10_when_51 : decode cX10_when 51 = .ok (.invokevirtual 279, 3) := by decide +kernel
theorem dX10_when_54 : decode cX10_when 54 = .ok (.istore 7, 2) := by decide +kernel
theorem dX10_when_56 : decode cX10_when 56 = .ok (.aload_n 0, 1) := by decide +kernel
theorem dX10_when_57 : decode cX10_when 57 = .ok (.iload 5, 2) := by decide +kernel
theorem dX10_when_59 : decode cX10_when 59 = .ok (.iload 6, 2) := by decide +kernel
theorem dX10_when_61 : decode cX10_when 61 = .ok (.iload 7, 2) := by decide +kernel
theorem dX10_when_63 : decode cX10_when 63 = .ok (.isub, 1) := by decide +kernel
theorem dX10_when_64 : decode cX10_when 64 = .ok (.invokevirtual 282, 3) := by decide +kernel
theorem dX10_when_67 : decode cX10_when 67 = .ok (.aload_n 0, 1) := by decide +kernel
theorem dX10_when_68 : decode cX10_when 68 = .ok (.iload 5, 2) := by decide +kernel
theorem dX10_when_70 : decode cX10_when 70 = .ok (.iload 7, 2) := by decide +kernel
theorem dX10_when_72 : decode cX10_when 72 = .ok (.iload 6, 2) := by decide +kernel
theorem dX10_when_74 : decode cX10_when 74 = .ok (.iload_n 2, 1) := by decide +kernel
theorem dX10_when_75 : decode cX10_when 75 = .ok (.iload_n 3, 1) := by decide +kernel
theorem dX10_when_76 : decode cX10_when 76 = .ok (.iload 4, 2) := by decide +kernel
theorem dX10_when_78 : decode cX10_when 78 = .ok (.invokevirtual 308, 3) := by decide +kernel
theorem dX10_when_81 : decode cX10_when 81 = .ok (.istore 8, 2) := by decide +kernel
theorem dX10_when_83 : decode cX10_when 83 = .ok (.iload 8, 2) := by decide +kernel
theorem dX10_when_85 : decode cX10_when 85 = .ok (.iconst (-1), 1) := by decide +kernel
theorem dX10_when_86 : decode cX10_when 86 = .ok (.if_icmp .eq 6, 3) := by decide +kernel
theorem dX10_when_89 : decode cX10_when 89 = .ok (.iload 8, 2) := by decide +kernel
theorem dX10_when_91 : decode cX10_when 91 = .ok (.ireturn, 1) := by decide +kernel
theorem dX10_when_92 : decode cX10_when 92 = .ok (.iload 7, 2) := by decide +kernel
theorem dX10_when_94 : decode cX10_when 94 = .ok (.iconst 1, 1) := by decide +kernel
theorem dX10_when_95 : decode cX10_when 95 = .ok (.isub, 1) := by decide +kernel
theorem dX10_when_96 : decode cX10_when 96 = .ok (.istore 6, 2) := by decide +kernel
theorem dX10_when_98 : decode cX10_when 98 = .ok (.goto (-57), 3) := by decide +kernel
theorem dX10_when_101 : decode cX10_when 101 = .ok (.iconst (-1), 1) := by decide +kernel
theorem dX10_when_102 : decode cX10_when 102 = .ok (.ireturn, 1) := by decide +kernel
def g_X10_copies_l3 (F : Nat) (o0 N0 : Nat) (l1 : Int32) (l2 : Int32) (l3 : Int32) (l4 : Int32) (u : rg_U) : Option ((Int32 × rg_U) ⊕ rg_U) :=
  if l1 ≤ l4 then (some (.inr u)) else (ck (inb ((l1 * l2) + l4) N0) (ck (inb ((l1 * l3) + l4) N0) (lt1 (sA u o0 ((l1 * l3) + l4) (rA u o0 ((l1 * l2) + l4))) (fun u4 => some (.inl ((l4 + 1), u4))))))
set_option maxHeartbeats 4000000 in
set_option maxRecDepth 100000 in
theorem k_X10_copies_l3 {gs : List String} {ro : pm_RO} {n : Nat} {w w1 : Nat → va_E} {b : Nat} {u : rg_U} {F : Nat} {o0 N0 : Nat} {l1 : Int32} {l2 : Int32} {l3 : Int32} {l4 : Int32} {z : (Int32 × rg_U) ⊕ rg_U} {Q : Option Value → Nat → (Nat → va_E) → Prop} (hR : rg shM b u n w1) (hk : rg_k b shM.length w w1) (hs0 : shM[o0]? = some (.inr (.inl (0, N0)))) (h : g_X10_copies_l3 F o0 N0 l1 l2 l3 l4 u = some z) (hc : ∀ s', z = .inl s' → ∀ w1, rg shM b s'.2 n w1 → rg_k b shM.length w w1 → pm_X gs ro M_X10_copies 0 0 0 0 0 3 [some (.ref (b + o0)), some (.int l1), some (.int l2), some (.int l3), some (.int s'.1)] [] n w1 Q) (he0 : ∀ r', z = .inr r' → ∀ w1, rg shM b r' n w1 → rg_k b shM.length w w1 → pm_X gs ro M_X10_copies 0 0 0 0 0 31 [none, none, none, none, none] [] n w1 Q) : pm_X gs ro M_X10_copies 0 0 0 0 0 3 [some (.ref (b + o0)), some (.int l1), some (.int l2), some (.int l3), some (.int l4)] [] n w1 Q := by
  unfold g_X10_copies_l3 at h
  refine pm_iload dX10_copies_3 rfl ?_
  refine pm_iload_n dX10_copies_5 rfl ?_
  refine pm_icmp_ge (tgt := 31) dX10_copies_6 (by decide) (fun c1 => ?_) (fun c1 => ?_)
  · replace h := it_t c1 h
    refine pm_lw (L' := [none, none, none, none, none]) ⟨Or.inl rfl, Or.inl rfl, Or.inl rfl, Or.inl rfl, Or.inl rfl, trivial⟩ ?_
    exact he0 _ (Option.some.inj h).symm _ hR hk
  · replace h := it_f c1 h
    refine pm_aload_n dX10_copies_9 rfl ?_
    refine pm_iload_n dX10_copies_10 rfl ?_
    refine pm_iload_n dX10_copies_11 rfl ?_
    refine pm_imul dX10_copies_12 ?_
    refine pm_iload dX10_copies_13 rfl ?_
    refine pm_iadd dX10_copies_15 ?_
    refine pm_aload_n dX10_copies_16 rfl ?_
    refine pm_iload_n dX10_copies_17 rfl ?_
    refine pm_iload_n dX10_copies_18 rfl ?_
    refine pm_imul dX10_copies_19 ?_
    refine pm_iload dX10_copies_20 rfl ?_
    refine pm_iadd dX10_copies_22 ?_
    obtain ⟨c2, h⟩ := ck_some h
    refine dx_al (j := o0) hR dX10_copies_23 hs0 (vp_in_iff.mpr c2) ?_
    obtain ⟨c3, h⟩ := ck_some h
    obtain ⟨u4, hu5, h⟩ := lt1_ex h
    refine dx_as (j := o0) hR hk dX10_copies_24 hs0 (vp_in_iff.mpr c3) hu5 (fun w6 hR7 hk8 => ?_)
    refine pm_iinc (v := (l4 + 1)) dX10_copies_25 rfl rfl (by decide) rfl rfl ?_
    refine pm_goto (tgt := 3) dX10_copies_28 (by decide) ?_
    refine pm_lw (L' := [some (.ref (b + o0)), some (.int l1), some (.int l2), some (.int l3), some (.int (l4 + 1))]) ⟨Or.inr rfl, Or.inr rfl, Or.inr rfl, Or.inr rfl, Or.inr rfl, trivial⟩ ?_
    exact hc _ (Option.some.inj h).symm _ hR7 hk8
def g_X10_copies (F : Nat) (o0 N0 : Nat) (x1 : Int32) (x2 : Int32) (x3 : Int32) (u : rg_U) : Option rg_U :=
  ob (lp (fun (s : (Int32 × rg_U)) => g_X10_copies_l3 F o0 N0 x1 x2 x3 s.1 s.2) F ((0 : Int32), u)) (fun r9 => some r9)
set_option maxHeartbeats 4000000 in
set_option maxRecDepth 100000 in
theorem k_X10_copies {gs : List String} {ro : pm_RO} {n : Nat} {w : Nat → va_E} {b : Nat} {u : rg_U} {F : Nat} {o0 N0 : Nat} {x1 : Int32} {x2 : Int32} {x3 : Int32} {z : rg_U} (hR : rg shM b u n w) (hs0 : shM[o0]? = some (.inr (.inl (0, N0)))) (h : g_X10_copies F o0 N0 x1 x2 x3 u = some z) : pm_Met gs ro M_X10_copies 0 0 0 [.ref (b + o0), .int x1, .int x2, .int x3] n w (rg_post shM b n w none z) := by
  unfold g_X10_copies at h
  refine pm_ofX in_X10_copies (Nat.le_of_ble_eq_true rfl) rfl (L := [some (.ref (b + o0)), some (.int x1), some (.int x2), some (.int x3), none]) rfl ?_
  refine pm_iconst (v := 0) dX10_copies_0 (by decide) ?_
  refine pm_istore dX10_copies_1 (by decide) rfl rfl ?_
  obtain ⟨r9, h10, h⟩ := ob_some h
  refine lp_sound (P := fun (s : (Int32 × rg_U)) => ∀ w1, rg shM b s.2 n w1 → rg_k b shM.length w w1 → pm_X gs ro M_X10_copies 0 0 0 0 0 3 [some (.ref (b + o0)), some (.int x1), some (.int x2), some (.int x3), some (.int s.1)] [] n w1 (rg_post shM b n w none z)) (E := (fun (r : rg_U) => ∀ w1, rg shM b r n w1 → rg_k b shM.length w w1 → pm_X gs ro M_X10_copies 0 0 0 0 0 31 [none, none, none, none, none] [] n w1 (rg_post shM b n w none z))) (fun s x hx hc he w1 hR1 hk1 => k_X10_copies_l3 hR1 hk1 hs0 hx hc (fun r q => he r q)) F _ r9 h10 ?_ _ hR rg_k0
  intro w11 hR12 hk13
  cases h
  exact pm_vret dX10_copies_31 rfl (Nat.le_refl _) (Nat.le_refl _) ⟨rfl, rfl, hR12, hk13⟩
def g_X10_keep_l183 (F : Nat) (l1 : Int32) (l2 : Int32) (u : rg_U) : Option ((Int32 × rg_U) ⊕ rg_U) :=
  if 3000 < l2 then (some (.inr u)) else (ck (inb (g_X10_heldAt 4 l2) 15005) (ck (inb (g_X10_heldAt l1 l2) 15005) (lt1 (sZ u 20 (g_X10_heldAt l1 l2) (rA u 20 (g_X10_heldAt 4 l2))) (fun u77 => some (.inl ((l2 + 1), u77))))))
set_option maxHeartbeats 4000000 in
set_option maxRecDepth 100000 in
theorem k_X10_keep_l183 {gs : List String} {ro : pm_RO} {n : Nat} {w w1 : Nat → va_E} {b : Nat} {u : rg_U} {F : Nat} {l1 : Int32} {l2 : Int32} {z : (Int32 × rg_U) ⊕ rg_U} {Q : Option Value → Nat → (Nat → va_E) → Prop} (hR : rg shM b u n w1) (hk : rg_k b shM.length w w1) (h : g_X10_keep_l183 F l1 l2 u = some z) (hc : ∀ s', z = .inl s' → ∀ w1, rg shM b s'.2 n w1 → rg_k b shM.length w w1 → pm_X gs ro M_X10_keep 2 0 0 0 0 183 [some (.ref (b + 0)), some (.int l1), some (.int s'.1)] [] n w1 Q) (he0 : ∀ r', z = .inr r' → ∀ w1, rg shM b r' n w1 → rg_k b shM.length w w1 → pm_X gs ro M_X10_keep 2 0 0 0 0 216 [some (.ref (b + 0)), some (.int l1), none] [] n w1 Q) : pm_X gs ro M_X10_keep 2 0 0 0 0 183 [some (.ref (b + 0)), some (.int l1), some (.int l2)] [] n w1 Q := by
  unfold g_X10_keep_l183 at h
  refine pm_iload_n dX10_keep_183 rfl ?_
  refine pm_sipush (v := 3000) dX10_keep_184 (by decide) ?_
  refine pm_icmp_gt (tgt := 216) dX10_keep_187 (by decide) (fun c74 => ?_) (fun c74 => ?_)
  · replace h := it_t c74 h
    refine pm_lw (L' := [some (.ref (b + 0)), some (.int l1), none]) ⟨Or.inr rfl, Or.inr rfl, Or.inl rfl, trivial⟩ ?_
    exact he0 _ (Option.some.inj h).symm _ hR hk
  · replace h := it_f c74 h
    refine pm_aload_n dX10_keep_190 rfl ?_
    refine dx_gr (j := 0) (o := 20) hR dX10_keep_191 fl_X10_75 rfl rfl ?_
    refine pm_iload_n dX10_keep_194 rfl ?_
    refine pm_iload_n dX10_keep_195 rfl ?_
    refine dx_cSp (M := M_X10_keep) (Mc := M_X10_heldAt) (dc := 0) (As := [.int l1, .int l2]) (st := [.ref (b + 20)]) dX10_keep_196 ml_X10_158 (by decide) (Nat.le_of_ble_eq_true rfl) rfl (k_X10_heldAt rfl) ?_
    refine pm_aload_n dX10_keep_199 rfl ?_
    refine dx_gr (j := 0) (o := 20) hR dX10_keep_200 fl_X10_75 rfl rfl ?_
    refine pm_iconst (v := 4) dX10_keep_203 (by decide) ?_
    refine pm_iload_n dX10_keep_204 rfl ?_
    refine dx_cSp (M := M_X10_keep) (Mc := M_X10_heldAt) (dc := 0) (As := [.int 4, .int l2]) (st := [.ref (b + 20), .int (g_X10_heldAt l1 l2), .ref (b + 20)]) dX10_keep_205 ml_X10_158 (by decide) (Nat.le_of_ble_eq_true rfl) rfl (k_X10_heldAt rfl) ?_
    obtain ⟨c75, h⟩ := ck_some h
    refine dx_zl (j := 20) hR dX10_keep_208 rfl (vp_in_iff.mpr c75) ?_
    obtain ⟨c76, h⟩ := ck_some h
    obtain ⟨u77, hu78, h⟩ := lt1_ex h
    refine dx_zs (j := 20) hR hk dX10_keep_209 rfl (vp_in_iff.mpr c76) hu78 (fun w79 hR80 hk81 => ?_)
    refine pm_iinc (v := (l2 + 1)) dX10_keep_210 rfl rfl (by decide) rfl rfl ?_
    refine pm_goto (tgt := 183) dX10_keep_213 (by decide) ?_
    refine pm_lw (L' := [some (.ref (b + 0)), some (.int l1), some (.int (l2 + 1))]) ⟨Or.inr rfl, Or.inr rfl, Or.inr rfl, trivial⟩ ?_
    exact hc _ (Option.some.inj h).symm _ hR80 hk81
def g_X10_keep (F : Nat)  (u : rg_U) : Option (Int32 × rg_U) :=
  ck (inb 4 5) (if (rA u 5 4) = 0 then (some ((-1), u)) else (if (rF u 0 29) = 4 then (some ((-1), u)) else (ob (g_X10_copies F 6 320 64 4 (rF u 0 29) u) (fun r4 => ob (g_X10_copies F 7 320 64 4 (rF u 0 29) r4) (fun r9 => ob (g_X10_copies F 8 320 64 4 (rF u 0 29) r9) (fun r14 => ob (g_X10_copies F 9 320 64 4 (rF u 0 29) r14) (fun r19 => ob (g_X10_copies F 10 4000 800 4 (rF u 0 29) r19) (fun r24 => ob (g_X10_copies F 11 4000 800 4 (rF u 0 29) r24) (fun r29 => ob (g_X10_copies F 12 4000 800 4 (rF u 0 29) r29) (fun r34 => ob (g_X10_copies F 13 4000 800 4 (rF u 0 29) r34) (fun r39 => ob (g_X10_copies F 14 4000 800 4 (rF u 0 29) r39) (fun r44 => ob (g_X10_copies F 15 5 1 4 (rF u 0 29) r44) (fun r49 => ob (g_X10_copies F 16 500 100 4 (rF u 0 29) r49) (fun r54 => ob (g_X10_copies F 17 500 100 4 (rF u 0 29) r54) (fun r59 => ob (g_X10_copies F 18 500 100 4 (rF u 0 29) r59) (fun r64 => ob (g_X10_copies F 19 5 1 4 (rF u 0 29) r64) (fun r69 => ob (lp (fun (s : (Int32 × rg_U)) => g_X10_keep_l183 F (rF u 0 29) s.1 s.2) F ((0 : Int32), r69)) (fun r82 => ob (g_X10_copies F 21 5 1 4 (rF u 0 29) r82) (fun r87 => ob (g_X10_copies F 23 5 1 4 (rF u 0 29) r87) (fun r92 => ob (g_X10_copies F 24 5 1 4 (rF u 0 29) r92) (fun r97 => ob (g_X10_copies F 25 5 1 4 (rF u 0 29) r97) (fun r102 => ob (g_X10_copies F 26 5 1 4 (rF u 0 29) r102) (fun r107 => ob (g_X10_copies F 27 5 1 4 (rF u 0 29) r107) (fun r112 => ob (g_X10_status F r112) (fun r117 => ck (inb (rF u 0 29) 5) (lt1 (sA r112 22 (rF u 0 29) r117) (fun u120 => ck (inb (rF u 0 29) 5) (lt1 (sZ u120 5 (rF u 0 29) 1) (fun u126 => lt1 (sF u126 0 29 ((rF u126 0 29) + 1)) (fun u131 => some ((rF u 0 29), u131)))))))))))))))))))))))))))))))
set_option maxHeartbeats 4000000 in
set_option maxRecDepth 100000 in
theorem k_X10_keep {gs : List String} {ro : pm_RO} {n : Nat} {w : Nat → va_E} {b : Nat} {u : rg_U} {F : Nat}  {z : (Int32 × rg_U)} (hR : rg shM b u n w) (h : g_X10_keep F u = some z) : pm_Met gs ro M_X10_keep 2 0 0 [.ref (b + 0)] n w (rg_post shM b n w (some (.int z.1)) z.2) := by
  unfold g_X10_keep at h
  refine pm_ofX in_X10_keep (Nat.le_of_ble_eq_true rfl) rfl (L := [some (.ref (b + 0)), none, none]) rfl ?_
  refine pm_aload_n dX10_keep_0 rfl ?_
  refine dx_gr (j := 0) (o := 5) hR dX10_keep_1 fl_X10_29 rfl rfl ?_
  refine pm_iconst (v := 4) dX10_keep_4 (by decide) ?_
  obtain ⟨c1, h⟩ := ck_some h
  refine dx_zl (j := 5) hR dX10_keep_5 rfl (vp_in_iff.mpr c1) ?_
  refine pm_if_eq (tgt := 17) dX10_keep_6 (by decide) (fun c2 => ?_) (fun c2 => ?_)
  · replace h := it_t c2 h
    refine pm_iconst (v := (-1)) dX10_keep_17 (by decide) ?_
    cases h
    exact pm_iret dX10_keep_18 rfl (Nat.le_refl _) (Nat.le_refl _) ⟨rfl, rfl, hR, rg_k0⟩
  · replace h := it_f c2 h
    refine pm_aload_n dX10_keep_9 rfl ?_
    refine dx_gi (j := 0) hR dX10_keep_10 fl_X10_295 rfl rfl ?_
    refine pm_iconst (v := 4) dX10_keep_13 (by decide) ?_
    refine pm_icmp_ne (tgt := 19) dX10_keep_14 (by decide) (fun c3 => ?_) (fun c3 => ?_)
    · replace h := it_f c3 h
      refine pm_aload_n dX10_keep_19 rfl ?_
      refine dx_gi (j := 0) hR dX10_keep_20 fl_X10_295 rfl rfl ?_
      refine pm_istore_n dX10_keep_23 (by decide) rfl rfl ?_
      refine pm_aload_n dX10_keep_24 rfl ?_
      refine dx_gr (j := 0) (o := 6) hR dX10_keep_25 fl_X10_33 rfl rfl ?_
      refine pm_bipush (v := 64) dX10_keep_28 (by decide) ?_
      refine pm_iconst (v := 4) dX10_keep_30 (by decide) ?_
      refine pm_iload_n dX10_keep_31 rfl ?_
      obtain ⟨r4, h5, h⟩ := ob_some h
      refine dx_cSv (M := M_X10_keep) (Mc := M_X10_copies) (dc := 0) (As := [.ref (b + 6), .int 64, .int 4, .int (rF u 0 29)]) (st := []) rg_k0 dX10_keep_32 ml_X10_298 (by decide) (Nat.le_of_ble_eq_true rfl) rfl (k_X10_copies hR rfl h5) (fun w6 hR7 hk8 => ?_)
      refine pm_aload_n dX10_keep_35 rfl ?_
      refine dx_gr (j := 0) (o := 7) hR7 dX10_keep_36 fl_X10_36 rfl rfl ?_
      refine pm_bipush (v := 64) dX10_keep_39 (by decide) ?_
      refine pm_iconst (v := 4) dX10_keep_41 (by decide) ?_
      refine pm_iload_n dX10_keep_42 rfl ?_
      obtain ⟨r9, h10, h⟩ := ob_some h
      refine dx_cSv (M := M_X10_keep) (Mc := M_X10_copies) (dc := 0) (As := [.ref (b + 7), .int 64, .int 4, .int (rF u 0 29)]) (st := []) hk8 dX10_keep_43 ml_X10_298 (by decide) (Nat.le_of_ble_eq_true rfl) rfl (k_X10_copies hR7 rfl h10) (fun w11 hR12 hk13 => ?_)
      refine pm_aload_n dX10_keep_46 rfl ?_
      refine dx_gr (j := 0) (o := 8) hR12 dX10_keep_47 fl_X10_39 rfl rfl ?_
      refine pm_bipush (v := 64) dX10_keep_50 (by decide) ?_
      refine pm_iconst (v := 4) dX10_keep_52 (by decide) ?_
      refine pm_iload_n dX10_keep_53 rfl ?_
      obtain ⟨r14, h15, h⟩ := ob_some h
      refine dx_cSv (M := M_X10_keep) (Mc := M_X10_copies) (dc := 0) (As := [.ref (b + 8), .int 64, .int 4, .int (rF u 0 29)]) (st := []) hk13 dX10_keep_54 ml_X10_298 (by decide) (Nat.le_of_ble_eq_true rfl) rfl (k_X10_copies hR12 rfl h15) (fun w16 hR17 hk18 => ?_)
      refine pm_aload_n dX10_keep_57 rfl ?_
      refine dx_gr (j := 0) (o := 9) hR17 dX10_keep_58 fl_X10_42 rfl rfl ?_
      refine pm_bipush (v := 64) dX10_keep_61 (by decide) ?_
      refine pm_iconst (v := 4) dX10_keep_63 (by decide) ?_
      refine pm_iload_n dX10_keep_64 rfl ?_
      obtain ⟨r19, h20, h⟩ := ob_some h
      refine dx_cSv (M := M_X10_keep) (Mc := M_X10_copies) (dc := 0) (As := [.ref (b + 9), .int 64, .int 4, .int (rF u 0 29)]) (st := []) hk18 dX10_keep_65 ml_X10_298 (by decide) (Nat.le_of_ble_eq_true rfl) rfl (k_X10_copies hR17 rfl h20) (fun w21 hR22 hk23 => ?_)
      refine pm_aload_n dX10_keep_68 rfl ?_
      refine dx_gr (j := 0) (o := 10) hR22 dX10_keep_69 fl_X10_45 rfl rfl ?_
      refine pm_sipush (v := 800) dX10_keep_72 (by decide) ?_
      refine pm_iconst (v := 4) dX10_keep_75 (by decide) ?_
      refine pm_iload_n dX10_keep_76 rfl ?_
      obtain ⟨r24, h25, h⟩ := ob_some h
      refine dx_cSv (M := M_X10_keep) (Mc := M_X10_copies) (dc := 0) (As := [.ref (b + 10), .int 800, .int 4, .int (rF u 0 29)]) (st := []) hk23 dX10_keep_77 ml_X10_298 (by decide) (Nat.le_of_ble_eq_true rfl) rfl (k_X10_copies hR22 rfl h25) (fun w26 hR27 hk28 => ?_)
      refine pm_aload_n dX10_keep_80 rfl ?_
      refine dx_gr (j := 0) (o := 11) hR27 dX10_keep_81 fl_X10_48 rfl rfl ?_
      refine pm_sipush (v := 800) dX10_keep_84 (by decide) ?_
      refine pm_iconst (v := 4) dX10_keep_87 (by decide) ?_
      refine pm_iload_n dX10_keep_88 rfl ?_
      obtain ⟨r29, h30, h⟩ := ob_some h
      refine dx_cSv (M := M_X10_keep) (Mc := M_X10_copies) (dc := 0) (As := [.ref (b + 11), .int 800, .int 4, .int (rF u 0 29)]) (st := []) hk28 dX10_keep_89 ml_X10_298 (by decide) (Nat.le_of_ble_eq_true rfl) rfl (k_X10_copies hR27 rfl h30) (fun w31 hR32 hk33 => ?_)
      refine pm_aload_n dX10_keep_92 rfl ?_
      refine dx_gr (j := 0) (o := 12) hR32 dX10_keep_93 fl_X10_51 rfl rfl ?_
      refine pm_sipush (v := 800) dX10_keep_96 (by decide) ?_
      refine pm_iconst (v := 4) dX10_keep_99 (by decide) ?_
      refine pm_iload_n dX10_keep_100 rfl ?_
      obtain ⟨r34, h35, h⟩ := ob_some h
      refine dx_cSv (M := M_X10_keep) (Mc := M_X10_copies) (dc := 0) (As := [.ref (b + 12), .int 800, .int 4, .int (rF u 0 29)]) (st := []) hk33 dX10_keep_101 ml_X10_298 (by decide) (Nat.le_of_ble_eq_true rfl) rfl (k_X10_copies hR32 rfl h35) (fun w36 hR37 hk38 => ?_)
      refine pm_aload_n dX10_keep_104 rfl ?_
      refine dx_gr (j := 0) (o := 13) hR37 dX10_keep_105 fl_X10_54 rfl rfl ?_
      refine pm_sipush (v := 800) dX10_keep_108 (by decide) ?_
      refine pm_iconst (v := 4) dX10_keep_111 (by decide) ?_
      refine pm_iload_n dX10_keep_112 rfl ?_
      obtain ⟨r39, h40, h⟩ := ob_some h
      refine dx_cSv (M := M_X10_keep) (Mc := M_X10_copies) (dc := 0) (As := [.ref (b + 13), .int 800, .int 4, .int (rF u 0 29)]) (st := []) hk38 dX10_keep_113 ml_X10_298 (by decide) (Nat.le_of_ble_eq_true rfl) rfl (k_X10_copies hR37 rfl h40) (fun w41 hR42 hk43 => ?_)
      refine pm_aload_n dX10_keep_116 rfl ?_
      refine dx_gr (j := 0) (o := 14) hR42 dX10_keep_117 fl_X10_57 rfl rfl ?_
      refine pm_sipush (v := 800) dX10_keep_120 (by decide) ?_
      refine pm_iconst (v := 4) dX10_keep_123 (by decide) ?_
      refine pm_iload_n dX10_keep_124 rfl ?_
      obtain ⟨r44, h45, h⟩ := ob_some h
      refine dx_cSv (M := M_X10_keep) (Mc := M_X10_copies) (dc := 0) (As := [.ref (b + 14), .int 800, .int 4, .int (rF u 0 29)]) (st := []) hk43 dX10_keep_125 ml_X10_298 (by decide) (Nat.le_of_ble_eq_true rfl) rfl (k_X10_copies hR42 rfl h45) (fun w46 hR47 hk48 => ?_)
      refine pm_aload_n dX10_keep_128 rfl ?_
      refine dx_gr (j := 0) (o := 15) hR47 dX10_keep_129 fl_X10_60 rfl rfl ?_
      refine pm_iconst (v := 1) dX10_keep_132 (by decide) ?_
      refine pm_iconst (v := 4) dX10_keep_133 (by decide) ?_
      refine pm_iload_n dX10_keep_134 rfl ?_
      obtain ⟨r49, h50, h⟩ := ob_some h
      refine dx_cSv (M := M_X10_keep) (Mc := M_X10_copies) (dc := 0) (As := [.ref (b + 15), .int 1, .int 4, .int (rF u 0 29)]) (st := []) hk48 dX10_keep_135 ml_X10_298 (by decide) (Nat.le_of_ble_eq_true rfl) rfl (k_X10_copies hR47 rfl h50) (fun w51 hR52 hk53 => ?_)
      refine pm_aload_n dX10_keep_138 rfl ?_
      refine dx_gr (j := 0) (o := 16) hR52 dX10_keep_139 fl_X10_63 rfl rfl ?_
      refine pm_bipush (v := 100) dX10_keep_142 (by decide) ?_
      refine pm_iconst (v := 4) dX10_keep_144 (by decide) ?_
      refine pm_iload_n dX10_keep_145 rfl ?_
      obtain ⟨r54, h55, h⟩ := ob_some h
      refine dx_cSv (M := M_X10_keep) (Mc := M_X10_copies) (dc := 0) (As := [.ref (b + 16), .int 100, .int 4, .int (rF u 0 29)]) (st := []) hk53 dX10_keep_146 ml_X10_298 (by decide) (Nat.le_of_ble_eq_true rfl) rfl (k_X10_copies hR52 rfl h55) (fun w56 hR57 hk58 => ?_)
      refine pm_aload_n dX10_keep_149 rfl ?_
      refine dx_gr (j := 0) (o := 17) hR57 dX10_keep_150 fl_X10_66 rfl rfl ?_
      refine pm_bipush (v := 100) dX10_keep_153 (by decide) ?_
      refine pm_iconst (v := 4) dX10_keep_155 (by decide) ?_
      refine pm_iload_n dX10_keep_156 rfl ?_
      obtain ⟨r59, h60, h⟩ := ob_some h
      refine dx_cSv (M := M_X10_keep) (Mc := M_X10_copies) (dc := 0) (As := [.ref (b + 17), .int 100, .int 4, .int (rF u 0 29)]) (st := []) hk58 dX10_keep_157 ml_X10_298 (by decide) (Nat.le_of_ble_eq_true rfl) rfl (k_X10_copies hR57 rfl h60) (fun w61 hR62 hk63 => ?_)
      refine pm_aload_n dX10_keep_160 rfl ?_
      refine dx_gr (j := 0) (o := 18) hR62 dX10_keep_161 fl_X10_69 rfl rfl ?_
      refine pm_bipush (v := 100) dX10_keep_164 (by decide) ?_
      refine pm_iconst (v := 4) dX10_keep_166 (by decide) ?_
      refine pm_iload_n dX10_keep_167 rfl ?_
      obtain ⟨r64, h65, h⟩ := ob_some h
      refine dx_cSv (M := M_X10_keep) (Mc := M_X10_copies) (dc := 0) (As := [.ref (b + 18), .int 100, .int 4, .int (rF u 0 29)]) (st := []) hk63 dX10_keep_168 ml_X10_298 (by decide) (Nat.le_of_ble_eq_true rfl) rfl (k_X10_copies hR62 rfl h65) (fun w66 hR67 hk68 => ?_)
      refine pm_aload_n dX10_keep_171 rfl ?_
      refine dx_gr (j := 0) (o := 19) hR67 dX10_keep_172 fl_X10_72 rfl rfl ?_
      refine pm_iconst (v := 1) dX10_keep_175 (by decide) ?_
      refine pm_iconst (v := 4) dX10_keep_176 (by decide) ?_
      refine pm_iload_n dX10_keep_177 rfl ?_
      obtain ⟨r69, h70, h⟩ := ob_some h
      refine dx_cSv (M := M_X10_keep) (Mc := M_X10_copies) (dc := 0) (As := [.ref (b + 19), .int 1, .int 4, .int (rF u 0 29)]) (st := []) hk68 dX10_keep_178 ml_X10_298 (by decide) (Nat.le_of_ble_eq_true rfl) rfl (k_X10_copies hR67 rfl h70) (fun w71 hR72 hk73 => ?_)
      refine pm_iconst (v := 0) dX10_keep_181 (by decide) ?_
      refine pm_istore_n dX10_keep_182 (by decide) rfl rfl ?_
      obtain ⟨r82, h83, h⟩ := ob_some h
      refine lp_sound (P := fun (s : (Int32 × rg_U)) => ∀ w1, rg shM b s.2 n w1 → rg_k b shM.length w w1 → pm_X gs ro M_X10_keep 2 0 0 0 0 183 [some (.ref (b + 0)), some (.int (rF u 0 29)), some (.int s.1)] [] n w1 (rg_post shM b n w (some (.int z.1)) z.2)) (E := (fun (r : rg_U) => ∀ w1, rg shM b r n w1 → rg_k b shM.length w w1 → pm_X gs ro M_X10_keep 2 0 0 0 0 216 [some (.ref (b + 0)), some (.int (rF u 0 29)), none] [] n w1 (rg_post shM b n w (some (.int z.1)) z.2))) (fun s x hx hc he w1 hR1 hk1 => k_X10_keep_l183 hR1 hk1 hx hc (fun r q => he r q)) F _ r82 h83 ?_ _ hR72 hk73
      intro w84 hR85 hk86
      refine pm_aload_n dX10_keep_216 rfl ?_
      refine dx_gr (j := 0) (o := 21) hR85 dX10_keep_217 fl_X10_78 rfl rfl ?_
      refine pm_iconst (v := 1) dX10_keep_220 (by decide) ?_
      refine pm_iconst (v := 4) dX10_keep_221 (by decide) ?_
      refine pm_iload_n dX10_keep_222 rfl ?_
      obtain ⟨r87, h88, h⟩ := ob_some h
      refine dx_cSv (M := M_X10_keep) (Mc := M_X10_copies) (dc := 0) (As := [.ref (b + 21), .int 1, .int 4, .int (rF u 0 29)]) (st := []) hk86 dX10_keep_223 ml_X10_298 (by decide) (Nat.le_of_ble_eq_true rfl) rfl (k_X10_copies hR85 rfl h88) (fun w89 hR90 hk91 => ?_)
      refine pm_aload_n dX10_keep_226 rfl ?_
      refine dx_gr (j := 0) (o := 23) hR90 dX10_keep_227 fl_X10_84 rfl rfl ?_
      refine pm_iconst (v := 1) dX10_keep_230 (by decide) ?_
      refine pm_iconst (v := 4) dX10_keep_231 (by decide) ?_
      refine pm_iload_n dX10_keep_232 rfl ?_
      obtain ⟨r92, h93, h⟩ := ob_some h
      refine dx_cSv (M := M_X10_keep) (Mc := M_X10_copies) (dc := 0) (As := [.ref (b + 23), .int 1, .int 4, .int (rF u 0 29)]) (st := []) hk91 dX10_keep_233 ml_X10_298 (by decide) (Nat.le_of_ble_eq_true rfl) rfl (k_X10_copies hR90 rfl h93) (fun w94 hR95 hk96 => ?_)
      refine pm_aload_n dX10_keep_236 rfl ?_
      refine dx_gr (j := 0) (o := 24) hR95 dX10_keep_237 fl_X10_87 rfl rfl ?_
      refine pm_iconst (v := 1) dX10_keep_240 (by decide) ?_
      refine pm_iconst (v := 4) dX10_keep_241 (by decide) ?_
      refine pm_iload_n dX10_keep_242 rfl ?_
      obtain ⟨r97, h98, h⟩ := ob_some h
      refine dx_cSv (M := M_X10_keep) (Mc := M_X10_copies) (dc := 0) (As := [.ref (b + 24), .int 1, .int 4, .int (rF u 0 29)]) (st := []) hk96 dX10_keep_243 ml_X10_298 (by decide) (Nat.le_of_ble_eq_true rfl) rfl (k_X10_copies hR95 rfl h98) (fun w99 hR100 hk101 => ?_)
      refine pm_aload_n dX10_keep_246 rfl ?_
      refine dx_gr (j := 0) (o := 25) hR100 dX10_keep_247 fl_X10_90 rfl rfl ?_
      refine pm_iconst (v := 1) dX10_keep_250 (by decide) ?_
      refine pm_iconst (v := 4) dX10_keep_251 (by decide) ?_
      refine pm_iload_n dX10_keep_252 rfl ?_
      obtain ⟨r102, h103, h⟩ := ob_some h
      refine dx_cSv (M := M_X10_keep) (Mc := M_X10_copies) (dc := 0) (As := [.ref (b + 25), .int 1, .int 4, .int (rF u 0 29)]) (st := []) hk101 dX10_keep_253 ml_X10_298 (by decide) (Nat.le_of_ble_eq_true rfl) rfl (k_X10_copies hR100 rfl h103) (fun w104 hR105 hk106 => ?_)
      refine pm_aload_n dX10_keep_256 rfl ?_
      refine dx_gr (j := 0) (o := 26) hR105 dX10_keep_257 fl_X10_93 rfl rfl ?_
      refine pm_iconst (v := 1) dX10_keep_260 (by decide) ?_
      refine pm_iconst (v := 4) dX10_keep_261 (by decide) ?_
      refine pm_iload_n dX10_keep_262 rfl ?_
      obtain ⟨r107, h108, h⟩ := ob_some h
      refine dx_cSv (M := M_X10_keep) (Mc := M_X10_copies) (dc := 0) (As := [.ref (b + 26), .int 1, .int 4, .int (rF u 0 29)]) (st := []) hk106 dX10_keep_263 ml_X10_298 (by decide) (Nat.le_of_ble_eq_true rfl) rfl (k_X10_copies hR105 rfl h108) (fun w109 hR110 hk111 => ?_)
      refine pm_aload_n dX10_keep_266 rfl ?_
      refine dx_gr (j := 0) (o := 27) hR110 dX10_keep_267 fl_X10_96 rfl rfl ?_
      refine pm_iconst (v := 1) dX10_keep_270 (by decide) ?_
      refine pm_iconst (v := 4) dX10_keep_271 (by decide) ?_
      refine pm_iload_n dX10_keep_272 rfl ?_
      obtain ⟨r112, h113, h⟩ := ob_some h
      refine dx_cSv (M := M_X10_keep) (Mc := M_X10_copies) (dc := 0) (As := [.ref (b + 27), .int 1, .int 4, .int (rF u 0 29)]) (st := []) hk111 dX10_keep_273 ml_X10_298 (by decide) (Nat.le_of_ble_eq_true rfl) rfl (k_X10_copies hR110 rfl h113) (fun w114 hR115 hk116 => ?_)
      refine pm_aload_n dX10_keep_276 rfl ?_
      refine dx_gr (j := 0) (o := 22) hR115 dX10_keep_277 fl_X10_81 rfl rfl ?_
      refine pm_iload_n dX10_keep_280 rfl ?_
      refine pm_aload_n dX10_keep_281 rfl ?_
      obtain ⟨r117, h118, h⟩ := ob_some h
      refine dx_cVp (j := 0) (M := M_X10_keep) (Mc := M_X10_status) (dc := 1) (As := []) (st := [.int (rF u 0 29), .ref (b + 22)]) hR115 dX10_keep_282 ml_X10_258 ⟨TX10, 55, rfl⟩ rfl (by decide) (Nat.le_of_ble_eq_true rfl) rfl (k_X10_status hR115 h118) ?_
      obtain ⟨c119, h⟩ := ck_some h
      obtain ⟨u120, hu121, h⟩ := lt1_ex h
      refine dx_as (j := 22) hR115 hk116 dX10_keep_285 rfl (vp_in_iff.mpr c119) hu121 (fun w122 hR123 hk124 => ?_)
      refine pm_aload_n dX10_keep_286 rfl ?_
      refine dx_gr (j := 0) (o := 5) hR123 dX10_keep_287 fl_X10_29 rfl rfl ?_
      refine pm_iload_n dX10_keep_290 rfl ?_
      refine pm_iconst (v := 1) dX10_keep_291 (by decide) ?_
      obtain ⟨c125, h⟩ := ck_some h
      obtain ⟨u126, hu127, h⟩ := lt1_ex h
      refine dx_zs (j := 5) hR123 hk124 dX10_keep_292 rfl (vp_in_iff.mpr c125) hu127 (fun w128 hR129 hk130 => ?_)
      refine pm_aload_n dX10_keep_293 rfl ?_
      refine pm_dup dX10_keep_294 rfl ?_
      refine dx_gi (j := 0) hR129 dX10_keep_295 fl_X10_295 rfl rfl ?_
      refine pm_iconst (v := 1) dX10_keep_298 (by decide) ?_
      refine pm_iadd dX10_keep_299 ?_
      obtain ⟨u131, hu132, h⟩ := lt1_ex h
      refine dx_pi (j := 0) hR129 hk130 dX10_keep_300 fl_X10_295 rfl rfl hu132 (fun w133 hR134 hk135 => ?_)
      refine pm_iload_n dX10_keep_303 rfl ?_
      cases h
      exact pm_iret dX10_keep_304 rfl (Nat.le_refl _) (Nat.le_refl _) ⟨rfl, rfl, hR134, hk135⟩
    · replace h := it_t c3 h
      refine pm_iconst (v := (-1)) dX10_keep_17 (by decide) ?_
      cases h
      exact pm_iret dX10_keep_18 rfl (Nat.le_refl _) (Nat.le_refl _) ⟨rfl, rfl, hR, rg_k0⟩
def g_X10_use (F : Nat) (x1 : Int32) (u : rg_U) : Option (Int32 × rg_U) :=
  if x1 = (-1) then (lt1 (sF u 0 30 x1) (fun u2 => some (1, u2))) else (if (g_X10_isIn x1 0 ((rF u 0 29) - 1)) = 0 then (some (0, u)) else (lt1 (sF u 0 30 x1) (fun u8 => some (1, u8))))
set_option maxHeartbeats 4000000 in
set_option maxRecDepth 100000 in
theorem k_X10_use {gs : List String} {ro : pm_RO} {n : Nat} {w : Nat → va_E} {b : Nat} {u : rg_U} {F : Nat} {x1 : Int32} {z : (Int32 × rg_U)} (hR : rg shM b u n w) (h : g_X10_use F x1 u = some z) : pm_Met gs ro M_X10_use 1 0 0 [.ref (b + 0), .int x1] n w (rg_post shM b n w (some (.int z.1)) z.2) := by
  unfold g_X10_use at h
  refine pm_ofX in_X10_use (Nat.le_of_ble_eq_true rfl) rfl (L := [some (.ref (b + 0)), some (.int x1)]) rfl ?_
  refine pm_iload_n dX10_use_0 rfl ?_
  refine pm_iconst (v := (-1)) dX10_use_1 (by decide) ?_
  refine pm_icmp_eq (tgt := 21) dX10_use_2 (by decide) (fun c1 => ?_) (fun c1 => ?_)
  · replace h := it_t c1 h
    refine pm_aload_n dX10_use_21 rfl ?_
    refine pm_iload_n dX10_use_22 rfl ?_
    obtain ⟨u2, hu3, h⟩ := lt1_ex h
    refine dx_pi (j := 0) hR rg_k0 dX10_use_23 fl_X10_99 rfl rfl hu3 (fun w4 hR5 hk6 => ?_)
    refine pm_iconst (v := 1) dX10_use_26 (by decide) ?_
    cases h
    exact pm_zret dX10_use_27 rfl (Or.inr rfl) (Nat.le_refl _) (Nat.le_refl _) ⟨rfl, rfl, hR5, hk6⟩
  · replace h := it_f c1 h
    refine pm_iload_n dX10_use_5 rfl ?_
    refine pm_iconst (v := 0) dX10_use_6 (by decide) ?_
    refine pm_aload_n dX10_use_7 rfl ?_
    refine dx_gi (j := 0) hR dX10_use_8 fl_X10_295 rfl rfl ?_
    refine pm_iconst (v := 1) dX10_use_11 (by decide) ?_
    refine pm_isub dX10_use_12 ?_
    refine dx_cSp (M := M_X10_use) (Mc := M_X10_isIn) (dc := 0) (As := [.int x1, .int 0, .int ((rF u 0 29) - 1)]) (st := []) dX10_use_13 ml_X10_138 (by decide) (Nat.le_of_ble_eq_true rfl) rfl (k_X10_isIn rfl) ?_
    refine pm_if_ne (tgt := 21) dX10_use_16 (by decide) (fun c7 => ?_) (fun c7 => ?_)
    · replace h := it_f c7 h
      refine pm_aload_n dX10_use_21 rfl ?_
      refine pm_iload_n dX10_use_22 rfl ?_
      obtain ⟨u8, hu9, h⟩ := lt1_ex h
      refine dx_pi (j := 0) hR rg_k0 dX10_use_23 fl_X10_99 rfl rfl hu9 (fun w10 hR11 hk12 => ?_)
      refine pm_iconst (v := 1) dX10_use_26 (by decide) ?_
      cases h
      exact pm_zret dX10_use_27 rfl (Or.inr rfl) (Nat.le_refl _) (Nat.le_refl _) ⟨rfl, rfl, hR11, hk12⟩
    · replace h := it_t c7 h
      refine pm_iconst (v := 0) dX10_use_19 (by decide) ?_
      cases h
      exact pm_zret dX10_use_20 rfl (Or.inl rfl) (Nat.le_refl _) (Nat.le_refl _) ⟨rfl, rfl, hR, rg_k0⟩
def g_X10_at (F : Nat) (x1 : Int32) (x2 : Int32) (x3 : Int32) (u : rg_U) : Option (Int32 × rg_U) :=
  lt1 (sF u 0 35 0) (fun u1 => ob (g_X10_isTime F x1 u1) (fun r6 => if r6 = 0 then (some ((-1000001), u1)) else (if (g_X10_isPlace x2) = 0 then (some ((-1000001), u1)) else (if (g_X10_isIn x3 0 2) = 0 then (some ((-1000001), u1)) else (ob (g_X10_runAsked F u1) (fun r11 => ob (g_X10_replays F r11 x1 u1) (fun r13 => if x3 = 0 then (ck (inb (0 + x2) 134) (some ((rA r13 31 (0 + x2)), r13))) else (if x3 = 1 then (ck (inb (40 + x2) 134) (some ((rA r13 31 (40 + x2)), r13))) else (ck (inb (80 + x2) 134) (some ((rA r13 31 (80 + x2)), r13)))))))))))
set_option maxHeartbeats 4000000 in
set_option maxRecDepth 100000 in
theorem k_X10_at {gs : List String} {ro : pm_RO} {n : Nat} {w : Nat → va_E} {b : Nat} {u : rg_U} {F : Nat} {x1 : Int32} {x2 : Int32} {x3 : Int32} {z : (Int32 × rg_U)} (hR : rg shM b u n w) (h : g_X10_at F x1 x2 x3 u = some z) : pm_Met gs ro M_X10_at 9 0 0 [.ref (b + 0), .int x1, .int x2, .int x3] n w (rg_post shM b n w (some (.int z.1)) z.2) := by
  unfold g_X10_at at h
  refine pm_ofX in_X10_at (Nat.le_of_ble_eq_true rfl) rfl (L := [some (.ref (b + 0)), some (.int x1), some (.int x2), some (.int x3)]) rfl ?_
  refine pm_aload_n dX10_at_0 rfl ?_
  refine pm_iconst (v := 0) dX10_at_1 (by decide) ?_
  obtain ⟨u1, hu2, h⟩ := lt1_ex h
  refine dx_pi (j := 0) hR rg_k0 dX10_at_2 fl_X10_276 rfl rfl hu2 (fun w3 hR4 hk5 => ?_)
  refine pm_aload_n dX10_at_5 rfl ?_
  refine pm_iload_n dX10_at_6 rfl ?_
  obtain ⟨r6, h7, h⟩ := ob_some h
  refine dx_cVp (j := 0) (M := M_X10_at) (Mc := M_X10_isTime) (dc := 1) (As := [.int x1]) (st := []) hR4 dX10_at_7 ml_X10_301 ⟨TX10, 55, rfl⟩ rfl (by decide) (Nat.le_of_ble_eq_true rfl) rfl (k_X10_isTime hR4 h7) ?_
  refine pm_if_eq (tgt := 29) dX10_at_10 (by decide) (fun c8 => ?_) (fun c8 => ?_)
  · replace h := it_t c8 h
    refine pm_ldcw (v := (-1000001)) dX10_at_29 kc_X10_304 ?_
    cases h
    exact pm_iret dX10_at_32 rfl (Nat.le_refl _) (Nat.le_refl _) ⟨rfl, rfl, hR4, hk5⟩
  · replace h := it_f c8 h
    refine pm_iload_n dX10_at_13 rfl ?_
    refine dx_cSp (M := M_X10_at) (Mc := M_X10_isPlace) (dc := 1) (As := [.int x2]) (st := []) dX10_at_14 ml_X10_169 (by decide) (Nat.le_of_ble_eq_true rfl) rfl (k_X10_isPlace rfl) ?_
    refine pm_if_eq (tgt := 29) dX10_at_17 (by decide) (fun c9 => ?_) (fun c9 => ?_)
    · replace h := it_t c9 h
      refine pm_ldcw (v := (-1000001)) dX10_at_29 kc_X10_304 ?_
      cases h
      exact pm_iret dX10_at_32 rfl (Nat.le_refl _) (Nat.le_refl _) ⟨rfl, rfl, hR4, hk5⟩
    · replace h := it_f c9 h
      refine pm_iload_n dX10_at_20 rfl ?_
      refine pm_iconst (v := 0) dX10_at_21 (by decide) ?_
      refine pm_iconst (v := 2) dX10_at_22 (by decide) ?_
      refine dx_cSp (M := M_X10_at) (Mc := M_X10_isIn) (dc := 0) (As := [.int x3, .int 0, .int 2]) (st := []) dX10_at_23 ml_X10_138 (by decide) (Nat.le_of_ble_eq_true rfl) rfl (k_X10_isIn rfl) ?_
      refine pm_if_ne (tgt := 33) dX10_at_26 (by decide) (fun c10 => ?_) (fun c10 => ?_)
      · replace h := it_f c10 h
        refine pm_aload_n dX10_at_33 rfl ?_
        refine pm_aload_n dX10_at_34 rfl ?_
        obtain ⟨r11, h12, h⟩ := ob_some h
        refine dx_cVp (j := 0) (M := M_X10_at) (Mc := M_X10_runAsked) (dc := 0) (As := []) (st := [.ref (b + 0)]) hR4 dX10_at_35 ml_X10_289 ⟨TX10, 55, rfl⟩ rfl (by decide) (Nat.le_of_ble_eq_true rfl) rfl (k_X10_runAsked hR4 h12) ?_
        refine pm_iload_n dX10_at_38 rfl ?_
        obtain ⟨r13, h14, h⟩ := ob_some h
        refine dx_cVv (j := 0) (M := M_X10_at) (Mc := M_X10_replays) (dc := 8) (As := [.int r11, .int x1]) (st := []) hR4 hk5 dX10_at_39 ml_X10_292 ⟨TX10, 55, rfl⟩ rfl (by decide) (Nat.le_of_ble_eq_true rfl) rfl (k_X10_replays hR4 h14) (fun w15 hR16 hk17 => ?_)
        refine pm_aload_n dX10_at_42 rfl ?_
        refine dx_gr (j := 0) (o := 31) hR16 dX10_at_43 fl_X10_114 rfl rfl ?_
        refine pm_iload_n dX10_at_46 rfl ?_
        refine pm_if_ne (tgt := 56) dX10_at_47 (by decide) (fun c18 => ?_) (fun c18 => ?_)
        · replace h := it_f c18 h
          refine pm_iload_n dX10_at_56 rfl ?_
          refine pm_iconst (v := 1) dX10_at_57 (by decide) ?_
          refine pm_icmp_ne (tgt := 68) dX10_at_58 (by decide) (fun c19 => ?_) (fun c19 => ?_)
          · replace h := it_f c19 h
            refine pm_bipush (v := 80) dX10_at_68 (by decide) ?_
            refine pm_iload_n dX10_at_70 rfl ?_
            refine pm_iadd dX10_at_71 ?_
            obtain ⟨c20, h⟩ := ck_some h
            refine dx_al (j := 31) hR16 dX10_at_72 rfl (vp_in_iff.mpr c20) ?_
            cases h
            exact pm_iret dX10_at_73 rfl (Nat.le_refl _) (Nat.le_refl _) ⟨rfl, rfl, hR16, hk17⟩
          · replace h := it_t c19 h
            refine pm_bipush (v := 40) dX10_at_61 (by decide) ?_
            refine pm_iload_n dX10_at_63 rfl ?_
            refine pm_iadd dX10_at_64 ?_
            refine pm_goto (tgt := 72) dX10_at_65 (by decide) ?_
            obtain ⟨c21, h⟩ := ck_some h
            refine dx_al (j := 31) hR16 dX10_at_72 rfl (vp_in_iff.mpr c21) ?_
            cases h
            exact pm_iret dX10_at_73 rfl (Nat.le_refl _) (Nat.le_refl _) ⟨rfl, rfl, hR16, hk17⟩
        · replace h := it_t c18 h
          refine pm_iconst (v := 0) dX10_at_50 (by decide) ?_
          refine pm_iload_n dX10_at_51 rfl ?_
          refine pm_iadd dX10_at_52 ?_
          refine pm_goto (tgt := 72) dX10_at_53 (by decide) ?_
          obtain ⟨c22, h⟩ := ck_some h
          refine dx_al (j := 31) hR16 dX10_at_72 rfl (vp_in_iff.mpr c22) ?_
          cases h
          exact pm_iret dX10_at_73 rfl (Nat.le_refl _) (Nat.le_refl _) ⟨rfl, rfl, hR16, hk17⟩
      · replace h := it_t c10 h
        refine pm_ldcw (v := (-1000001)) dX10_at_29 kc_X10_304 ?_
        cases h
        exact pm_iret dX10_at_32 rfl (Nat.le_refl _) (Nat.le_refl _) ⟨rfl, rfl, hR4, hk5⟩
def g_X10_state_j37 (F : Nat) (l1 : Int32) (l2 : Int32) (u : rg_U) : Option (Int32 × rg_U) :=
  ob (g_X10_runAsked F u) (fun r10 => ob (g_X10_replays F r10 l1 u) (fun r12 => if l2 = 0 then (ck (inb 120 134) (some ((rA r12 31 120), r12))) else if l2 = 1 then (ck (inb 121 134) (some ((rA r12 31 121), r12))) else if l2 = 2 then (ck (inb 130 134) (some ((rA r12 31 130), r12))) else if l2 = 3 then (ck (inb 131 134) (some ((rA r12 31 131), r12))) else if l2 = 4 then (ob (g_X10_runAsked F r12) (fun r26 => ck (inb 120 134) (ob (g_X10_kindAt F r26 (rA r12 31 120) r12) (fun r29 => some (r29, r12))))) else (ck (inb 121 134) (if (rA r12 31 121) ≤ (l2 - 10) then (some ((-1000001), r12)) else (ck (inb ((122 + l2) - 10) 134) (some ((rA r12 31 ((122 + l2) - 10)), r12)))))))
set_option maxHeartbeats 4000000 in
set_option maxRecDepth 100000 in
theorem k_X10_state_j37 {gs : List String} {ro : pm_RO} {n : Nat} {w w1 : Nat → va_E} {b : Nat} {u : rg_U} {F : Nat} {l1 : Int32} {l2 : Int32} {z : (Int32 × rg_U)} (hR : rg shM b u n w1) (hk : rg_k b shM.length w w1) (h : g_X10_state_j37 F l1 l2 u = some z) : pm_X gs ro M_X10_state 9 0 0 0 0 37 [some (.ref (b + 0)), some (.int l1), some (.int l2)] [] n w1 (rg_post shM b n w (some (.int z.1)) z.2) := by
  unfold g_X10_state_j37 at h
  refine pm_aload_n dX10_state_37 rfl ?_
  refine pm_aload_n dX10_state_38 rfl ?_
  obtain ⟨r10, h11, h⟩ := ob_some h
  refine dx_cVp (j := 0) (M := M_X10_state) (Mc := M_X10_runAsked) (dc := 0) (As := []) (st := [.ref (b + 0)]) hR dX10_state_39 ml_X10_289 ⟨TX10, 55, rfl⟩ rfl (by decide) (Nat.le_of_ble_eq_true rfl) rfl (k_X10_runAsked hR h11) ?_
  refine pm_iload_n dX10_state_42 rfl ?_
  obtain ⟨r12, h13, h⟩ := ob_some h
  refine dx_cVv (j := 0) (M := M_X10_state) (Mc := M_X10_replays) (dc := 8) (As := [.int r10, .int l1]) (st := []) hR hk dX10_state_43 ml_X10_292 ⟨TX10, 55, rfl⟩ rfl (by decide) (Nat.le_of_ble_eq_true rfl) rfl (k_X10_replays hR h13) (fun w14 hR15 hk16 => ?_)
  refine pm_iload_n dX10_state_46 rfl ?_
  by_cases t17 : l2 = 0
  · replace h := it_t t17 h
    refine pm_tableIn (off := 33) (tgt := 80) dX10_state_47 (by rw [t17]; decide) (by rw [t17]; decide) (by rw [t17]; rfl) (by decide) ?_
    refine pm_aload_n dX10_state_80 rfl ?_
    refine dx_gr (j := 0) (o := 31) hR15 dX10_state_81 fl_X10_114 rfl rfl ?_
    refine pm_bipush (v := 120) dX10_state_84 (by decide) ?_
    obtain ⟨c18, h⟩ := ck_some h
    refine dx_al (j := 31) hR15 dX10_state_86 rfl (vp_in_iff.mpr c18) ?_
    cases h
    exact pm_iret dX10_state_87 rfl (Nat.le_refl _) (Nat.le_refl _) ⟨rfl, rfl, hR15, hk16⟩
  replace h := it_f t17 h
  by_cases t19 : l2 = 1
  · replace h := it_t t19 h
    refine pm_tableIn (off := 41) (tgt := 88) dX10_state_47 (by rw [t19]; decide) (by rw [t19]; decide) (by rw [t19]; rfl) (by decide) ?_
    refine pm_aload_n dX10_state_88 rfl ?_
    refine dx_gr (j := 0) (o := 31) hR15 dX10_state_89 fl_X10_114 rfl rfl ?_
    refine pm_bipush (v := 121) dX10_state_92 (by decide) ?_
    obtain ⟨c20, h⟩ := ck_some h
    refine dx_al (j := 31) hR15 dX10_state_94 rfl (vp_in_iff.mpr c20) ?_
    cases h
    exact pm_iret dX10_state_95 rfl (Nat.le_refl _) (Nat.le_refl _) ⟨rfl, rfl, hR15, hk16⟩
  replace h := it_f t19 h
  by_cases t21 : l2 = 2
  · replace h := it_t t21 h
    refine pm_tableIn (off := 49) (tgt := 96) dX10_state_47 (by rw [t21]; decide) (by rw [t21]; decide) (by rw [t21]; rfl) (by decide) ?_
    refine pm_aload_n dX10_state_96 rfl ?_
    refine dx_gr (j := 0) (o := 31) hR15 dX10_state_97 fl_X10_114 rfl rfl ?_
    refine pm_sipush (v := 130) dX10_state_100 (by decide) ?_
    obtain ⟨c22, h⟩ := ck_some h
    refine dx_al (j := 31) hR15 dX10_state_103 rfl (vp_in_iff.mpr c22) ?_
    cases h
    exact pm_iret dX10_state_104 rfl (Nat.le_refl _) (Nat.le_refl _) ⟨rfl, rfl, hR15, hk16⟩
  replace h := it_f t21 h
  by_cases t23 : l2 = 3
  · replace h := it_t t23 h
    refine pm_tableIn (off := 58) (tgt := 105) dX10_state_47 (by rw [t23]; decide) (by rw [t23]; decide) (by rw [t23]; rfl) (by decide) ?_
    refine pm_aload_n dX10_state_105 rfl ?_
    refine dx_gr (j := 0) (o := 31) hR15 dX10_state_106 fl_X10_114 rfl rfl ?_
    refine pm_sipush (v := 131) dX10_state_109 (by decide) ?_
    obtain ⟨c24, h⟩ := ck_some h
    refine dx_al (j := 31) hR15 dX10_state_112 rfl (vp_in_iff.mpr c24) ?_
    cases h
    exact pm_iret dX10_state_113 rfl (Nat.le_refl _) (Nat.le_refl _) ⟨rfl, rfl, hR15, hk16⟩
  replace h := it_f t23 h
  by_cases t25 : l2 = 4
  · replace h := it_t t25 h
    refine pm_tableIn (off := 67) (tgt := 114) dX10_state_47 (by rw [t25]; decide) (by rw [t25]; decide) (by rw [t25]; rfl) (by decide) ?_
    refine pm_aload_n dX10_state_114 rfl ?_
    refine pm_aload_n dX10_state_115 rfl ?_
    obtain ⟨r26, h27, h⟩ := ob_some h
    refine dx_cVp (j := 0) (M := M_X10_state) (Mc := M_X10_runAsked) (dc := 0) (As := []) (st := [.ref (b + 0)]) hR15 dX10_state_116 ml_X10_289 ⟨TX10, 55, rfl⟩ rfl (by decide) (Nat.le_of_ble_eq_true rfl) rfl (k_X10_runAsked hR15 h27) ?_
    refine pm_aload_n dX10_state_119 rfl ?_
    refine dx_gr (j := 0) (o := 31) hR15 dX10_state_120 fl_X10_114 rfl rfl ?_
    refine pm_bipush (v := 120) dX10_state_123 (by decide) ?_
    obtain ⟨c28, h⟩ := ck_some h
    refine dx_al (j := 31) hR15 dX10_state_125 rfl (vp_in_iff.mpr c28) ?_
    obtain ⟨r29, h30, h⟩ := ob_some h
    refine dx_cVp (j := 0) (M := M_X10_state) (Mc := M_X10_kindAt) (dc := 0) (As := [.int r26, .int (rA r12 31 120)]) (st := []) hR15 dX10_state_126 ml_X10_189 ⟨TX10, 55, rfl⟩ rfl (by decide) (Nat.le_of_ble_eq_true rfl) rfl (k_X10_kindAt hR15 h30) ?_
    cases h
    exact pm_iret dX10_state_129 rfl (Nat.le_refl _) (Nat.le_refl _) ⟨rfl, rfl, hR15, hk16⟩
  replace h := it_f t25 h
  refine pm_tableOut (tgt := 130) dX10_state_47 (by have h0 := lv_neT t17 (show (0 : Int32).toInt = 0 from by decide); have h1 := lv_neT t19 (show (1 : Int32).toInt = 1 from by decide); have h2 := lv_neT t21 (show (2 : Int32).toInt = 2 from by decide); have h3 := lv_neT t23 (show (3 : Int32).toInt = 3 from by decide); have h4 := lv_neT t25 (show (4 : Int32).toInt = 4 from by decide); omega) (by decide) ?_
  refine pm_iload_n dX10_state_130 rfl ?_
  refine pm_bipush (v := 10) dX10_state_131 (by decide) ?_
  refine pm_isub dX10_state_133 ?_
  refine pm_aload_n dX10_state_134 rfl ?_
  refine dx_gr (j := 0) (o := 31) hR15 dX10_state_135 fl_X10_114 rfl rfl ?_
  refine pm_bipush (v := 121) dX10_state_138 (by decide) ?_
  obtain ⟨c31, h⟩ := ck_some h
  refine dx_al (j := 31) hR15 dX10_state_140 rfl (vp_in_iff.mpr c31) ?_
  refine pm_icmp_ge (tgt := 159) dX10_state_141 (by decide) (fun c32 => ?_) (fun c32 => ?_)
  · replace h := it_t c32 h
    refine pm_ldcw (v := (-1000001)) dX10_state_159 kc_X10_304 ?_
    cases h
    exact pm_iret dX10_state_162 rfl (Nat.le_refl _) (Nat.le_refl _) ⟨rfl, rfl, hR15, hk16⟩
  · replace h := it_f c32 h
    refine pm_aload_n dX10_state_144 rfl ?_
    refine dx_gr (j := 0) (o := 31) hR15 dX10_state_145 fl_X10_114 rfl rfl ?_
    refine pm_bipush (v := 122) dX10_state_148 (by decide) ?_
    refine pm_iload_n dX10_state_150 rfl ?_
    refine pm_iadd dX10_state_151 ?_
    refine pm_bipush (v := 10) dX10_state_152 (by decide) ?_
    refine pm_isub dX10_state_154 ?_
    obtain ⟨c33, h⟩ := ck_some h
    refine dx_al (j := 31) hR15 dX10_state_155 rfl (vp_in_iff.mpr c33) ?_
    refine pm_goto (tgt := 162) dX10_state_156 (by decide) ?_
    cases h
    exact pm_iret dX10_state_162 rfl (Nat.le_refl _) (Nat.le_refl _) ⟨rfl, rfl, hR15, hk16⟩
def g_X10_state (F : Nat) (x1 : Int32) (x2 : Int32) (u : rg_U) : Option (Int32 × rg_U) :=
  lt1 (sF u 0 35 0) (fun u1 => ob (g_X10_isTime F x1 u1) (fun r6 => if r6 = 0 then (some ((-1000001), u1)) else (if (g_X10_isIn x2 0 4) = 0 then (if (g_X10_isIn x2 10 17) = 0 then (some ((-1000001), u1)) else (g_X10_state_j37 F x1 x2 u1)) else (g_X10_state_j37 F x1 x2 u1))))
set_option maxHeartbeats 4000000 in
set_option maxRecDepth 100000 in
theorem k_X10_state {gs : List String} {ro : pm_RO} {n : Nat} {w : Nat → va_E} {b : Nat} {u : rg_U} {F : Nat} {x1 : Int32} {x2 : Int32} {z : (Int32 × rg_U)} (hR : rg shM b u n w) (h : g_X10_state F x1 x2 u = some z) : pm_Met gs ro M_X10_state 9 0 0 [.ref (b + 0), .int x1, .int x2] n w (rg_post shM b n w (some (.int z.1)) z.2) := by
  unfold g_X10_state at h
  refine pm_ofX in_X10_state (Nat.le_of_ble_eq_true rfl) rfl (L := [some (.ref (b + 0)), some (.int x1), some (.int x2)]) rfl ?_
  refine pm_aload_n dX10_state_0 rfl ?_
  refine pm_iconst (v := 0) dX10_state_1 (by decide) ?_
  obtain ⟨u1, hu2, h⟩ := lt1_ex h
  refine dx_pi (j := 0) hR rg_k0 dX10_state_2 fl_X10_276 rfl rfl hu2 (fun w3 hR4 hk5 => ?_)
  refine pm_aload_n dX10_state_5 rfl ?_
  refine pm_iload_n dX10_state_6 rfl ?_
  obtain ⟨r6, h7, h⟩ := ob_some h
  refine dx_cVp (j := 0) (M := M_X10_state) (Mc := M_X10_isTime) (dc := 1) (As := [.int x1]) (st := []) hR4 dX10_state_7 ml_X10_301 ⟨TX10, 55, rfl⟩ rfl (by decide) (Nat.le_of_ble_eq_true rfl) rfl (k_X10_isTime hR4 h7) ?_
  refine pm_if_eq (tgt := 33) dX10_state_10 (by decide) (fun c8 => ?_) (fun c8 => ?_)
  · replace h := it_t c8 h
    refine pm_ldcw (v := (-1000001)) dX10_state_33 kc_X10_304 ?_
    cases h
    exact pm_iret dX10_state_36 rfl (Nat.le_refl _) (Nat.le_refl _) ⟨rfl, rfl, hR4, hk5⟩
  · replace h := it_f c8 h
    refine pm_iload_n dX10_state_13 rfl ?_
    refine pm_iconst (v := 0) dX10_state_14 (by decide) ?_
    refine pm_iconst (v := 4) dX10_state_15 (by decide) ?_
    refine dx_cSp (M := M_X10_state) (Mc := M_X10_isIn) (dc := 0) (As := [.int x2, .int 0, .int 4]) (st := []) dX10_state_16 ml_X10_138 (by decide) (Nat.le_of_ble_eq_true rfl) rfl (k_X10_isIn rfl) ?_
    refine pm_if_ne (tgt := 37) dX10_state_19 (by decide) (fun c9 => ?_) (fun c9 => ?_)
    · replace h := it_f c9 h
      exact k_X10_state_j37 hR4 hk5 h
    · replace h := it_t c9 h
      refine pm_iload_n dX10_state_22 rfl ?_
      refine pm_bipush (v := 10) dX10_state_23 (by decide) ?_
      refine pm_bipush (v := 17) dX10_state_25 (by decide) ?_
      refine dx_cSp (M := M_X10_state) (Mc := M_X10_isIn) (dc := 0) (As := [.int x2, .int 10, .int 17]) (st := []) dX10_state_27 ml_X10_138 (by decide) (Nat.le_of_ble_eq_true rfl) rfl (k_X10_isIn rfl) ?_
      refine pm_if_ne (tgt := 37) dX10_state_30 (by decide) (fun c34 => ?_) (fun c34 => ?_)
      · replace h := it_f c34 h
        exact k_X10_state_j37 hR4 hk5 h
      · replace h := it_t c34 h
        refine pm_ldcw (v := (-1000001)) dX10_state_33 kc_X10_304 ?_
        cases h
        exact pm_iret dX10_state_36 rfl (Nat.le_refl _) (Nat.le_refl _) ⟨rfl, rfl, hR4, hk5⟩
def g_X10_lastOf_j85 (F : Nat) (l2 : Int32) (l3 : Int32) (l4 : Int32) (l5 : Int32) (l6 : Int32) (u : rg_U) : Option ((Int32 × Int32 × rg_U) ⊕ (Int32 × rg_U)) :=
  some (.inl (l5, l6, u))
set_option maxHeartbeats 4000000 in
set_option maxRecDepth 100000 in
theorem k_X10_lastOf_j85 {gs : List String} {ro : pm_RO} {n : Nat} {w w1 : Nat → va_E} {b : Nat} {u : rg_U} {F : Nat} {l2 : Int32} {l3 : Int32} {l4 : Int32} {l5 : Int32} {l6 : Int32} {z : ((Int32 × Int32 × rg_U) ⊕ (Int32 × rg_U))} {Q : Option Value → Nat → (Nat → va_E) → Prop} (hR : rg shM b u n w1) (hk : rg_k b shM.length w w1) (h : g_X10_lastOf_j85 F l2 l3 l4 l5 l6 u = some z) (hc : ∀ s', z = .inl s' → ∀ w1, rg shM b s'.2.2 n w1 → rg_k b shM.length w w1 → pm_X gs ro M_X10_lastOf 9 0 0 0 0 35 [some (.ref (b + 0)), none, some (.int l2), some (.int l3), some (.int l4), some (.int s'.1), some (.int s'.2.1), none] [] n w1 Q) (he0 : ∀ r', z = .inr r' → ∀ w1, rg shM b r'.2 n w1 → rg_k b shM.length w w1 → pm_X gs ro M_X10_lastOf 9 0 0 0 0 88 [none, none, none, none, none, some (.int r'.1), none, none] [] n w1 Q) : pm_X gs ro M_X10_lastOf 9 0 0 0 0 85 [some (.ref (b + 0)), none, some (.int l2), some (.int l3), some (.int l4), some (.int l5), some (.int l6), none] [] n w1 Q := by
  unfold g_X10_lastOf_j85 at h
  refine pm_goto (tgt := 35) dX10_lastOf_85 (by decide) ?_
  refine pm_lw (L' := [some (.ref (b + 0)), none, some (.int l2), some (.int l3), some (.int l4), some (.int l5), some (.int l6), none]) ⟨Or.inr rfl, Or.inl rfl, Or.inr rfl, Or.inr rfl, Or.inr rfl, Or.inr rfl, Or.inr rfl, Or.inl rfl, trivial⟩ ?_
  exact hc _ (Option.some.inj h).symm _ hR hk
def g_X10_lastOf_l35 (F : Nat) (l2 : Int32) (l3 : Int32) (l4 : Int32) (l5 : Int32) (l6 : Int32) (u : rg_U) : Option ((Int32 × Int32 × rg_U) ⊕ (Int32 × rg_U)) :=
  if l6 ≤ l5 then (some (.inr (l5, u))) else (ob (g_X10_replays F l3 ((l5 + l6) / 2) u) (fun r11 => ck (inb (80 + l2) 134) (if (rA r11 31 (80 + l2)) = l4 then (g_X10_lastOf_j85 F l2 l3 l4 l5 ((l5 + l6) / 2) r11) else (g_X10_lastOf_j85 F l2 l3 l4 (((l5 + l6) / 2) + 1) l6 r11))))
set_option maxHeartbeats 4000000 in
set_option maxRecDepth 100000 in
theorem k_X10_lastOf_l35 {gs : List String} {ro : pm_RO} {n : Nat} {w w1 : Nat → va_E} {b : Nat} {u : rg_U} {F : Nat} {l2 : Int32} {l3 : Int32} {l4 : Int32} {l5 : Int32} {l6 : Int32} {z : (Int32 × Int32 × rg_U) ⊕ (Int32 × rg_U)} {Q : Option Value → Nat → (Nat → va_E) → Prop} (hR : rg shM b u n w1) (hk : rg_k b shM.length w w1) (h : g_X10_lastOf_l35 F l2 l3 l4 l5 l6 u = some z) (hc : ∀ s', z = .inl s' → ∀ w1, rg shM b s'.2.2 n w1 → rg_k b shM.length w w1 → pm_X gs ro M_X10_lastOf 9 0 0 0 0 35 [some (.ref (b + 0)), none, some (.int l2), some (.int l3), some (.int l4), some (.int s'.1), some (.int s'.2.1), none] [] n w1 Q) (he0 : ∀ r', z = .inr r' → ∀ w1, rg shM b r'.2 n w1 → rg_k b shM.length w w1 → pm_X gs ro M_X10_lastOf 9 0 0 0 0 88 [none, none, none, none, none, some (.int r'.1), none, none] [] n w1 Q) : pm_X gs ro M_X10_lastOf 9 0 0 0 0 35 [some (.ref (b + 0)), none, some (.int l2), some (.int l3), some (.int l4), some (.int l5), some (.int l6), none] [] n w1 Q := by
  unfold g_X10_lastOf_l35 at h
  refine pm_iload dX10_lastOf_35 rfl ?_
  refine pm_iload dX10_lastOf_37 rfl ?_
  refine pm_icmp_ge (tgt := 88) dX10_lastOf_39 (by decide) (fun c10 => ?_) (fun c10 => ?_)
  · replace h := it_t c10 h
    refine pm_lw (L' := [none, none, none, none, none, some (.int l5), none, none]) ⟨Or.inl rfl, Or.inl rfl, Or.inl rfl, Or.inl rfl, Or.inl rfl, Or.inr rfl, Or.inl rfl, Or.inl rfl, trivial⟩ ?_
    exact he0 _ (Option.some.inj h).symm _ hR hk
  · replace h := it_f c10 h
    refine pm_iload dX10_lastOf_42 rfl ?_
    refine pm_iload dX10_lastOf_44 rfl ?_
    refine pm_iadd dX10_lastOf_46 ?_
    refine pm_iconst (v := 2) dX10_lastOf_47 (by decide) ?_
    refine pm_idiv dX10_lastOf_48 (by decide) ?_
    refine pm_istore dX10_lastOf_49 (by decide) rfl rfl ?_
    refine pm_aload_n dX10_lastOf_51 rfl ?_
    refine pm_iload_n dX10_lastOf_52 rfl ?_
    refine pm_iload dX10_lastOf_53 rfl ?_
    obtain ⟨r11, h12, h⟩ := ob_some h
    refine dx_cVv (j := 0) (M := M_X10_lastOf) (Mc := M_X10_replays) (dc := 8) (As := [.int l3, .int ((l5 + l6) / 2)]) (st := []) hR hk dX10_lastOf_55 ml_X10_292 ⟨TX10, 55, rfl⟩ rfl (by decide) (Nat.le_of_ble_eq_true rfl) rfl (k_X10_replays hR h12) (fun w13 hR14 hk15 => ?_)
    refine pm_aload_n dX10_lastOf_58 rfl ?_
    refine dx_gr (j := 0) (o := 31) hR14 dX10_lastOf_59 fl_X10_114 rfl rfl ?_
    refine pm_bipush (v := 80) dX10_lastOf_62 (by decide) ?_
    refine pm_iload_n dX10_lastOf_64 rfl ?_
    refine pm_iadd dX10_lastOf_65 ?_
    obtain ⟨c16, h⟩ := ck_some h
    refine dx_al (j := 31) hR14 dX10_lastOf_66 rfl (vp_in_iff.mpr c16) ?_
    refine pm_iload dX10_lastOf_67 rfl ?_
    refine pm_icmp_ne (tgt := 79) dX10_lastOf_69 (by decide) (fun c17 => ?_) (fun c17 => ?_)
    · replace h := it_f c17 h
      refine pm_iload dX10_lastOf_79 rfl ?_
      refine pm_iconst (v := 1) dX10_lastOf_81 (by decide) ?_
      refine pm_iadd dX10_lastOf_82 ?_
      refine pm_istore dX10_lastOf_83 (by decide) rfl rfl ?_
      refine pm_lw (L' := [some (.ref (b + 0)), none, some (.int l2), some (.int l3), some (.int l4), some (.int (((l5 + l6) / 2) + 1)), some (.int l6), none]) ⟨Or.inr rfl, Or.inl rfl, Or.inr rfl, Or.inr rfl, Or.inr rfl, Or.inr rfl, Or.inr rfl, Or.inl rfl, trivial⟩ ?_
      exact k_X10_lastOf_j85 hR14 hk15 h hc he0
    · replace h := it_t c17 h
      refine pm_iload dX10_lastOf_72 rfl ?_
      refine pm_istore dX10_lastOf_74 (by decide) rfl rfl ?_
      refine pm_goto (tgt := 85) dX10_lastOf_76 (by decide) ?_
      refine pm_lw (L' := [some (.ref (b + 0)), none, some (.int l2), some (.int l3), some (.int l4), some (.int l5), some (.int ((l5 + l6) / 2)), none]) ⟨Or.inr rfl, Or.inl rfl, Or.inr rfl, Or.inr rfl, Or.inr rfl, Or.inr rfl, Or.inr rfl, Or.inl rfl, trivial⟩ ?_
      exact k_X10_lastOf_j85 hR14 hk15 h hc he0
def g_X10_lastOf (F : Nat) (x1 : Int32) (x2 : Int32) (u : rg_U) : Option (Int32 × rg_U) :=
  ob (g_X10_runAsked F u) (fun r1 => ob (g_X10_replays F r1 x1 u) (fun r3 => ck (inb (80 + x2) 134) (if (rA r3 31 (80 + x2)) = 0 then (some ((-1), r3)) else (ob (lp (fun (s : (Int32 × Int32 × rg_U)) => g_X10_lastOf_l35 F x2 r1 (rA r3 31 (80 + x2)) s.1 s.2.1 s.2.2) F ((0 : Int32), (x1 : Int32), r3)) (fun r18 => some (r18.1, r18.2))))))
set_option maxHeartbeats 4000000 in
set_option maxRecDepth 100000 in
theorem k_X10_lastOf {gs : List String} {ro : pm_RO} {n : Nat} {w : Nat → va_E} {b : Nat} {u : rg_U} {F : Nat} {x1 : Int32} {x2 : Int32} {z : (Int32 × rg_U)} (hR : rg shM b u n w) (h : g_X10_lastOf F x1 x2 u = some z) : pm_Met gs ro M_X10_lastOf 9 0 0 [.ref (b + 0), .int x1, .int x2] n w (rg_post shM b n w (some (.int z.1)) z.2) := by
  unfold g_X10_lastOf at h
  refine pm_ofX in_X10_lastOf (Nat.le_of_ble_eq_true rfl) rfl (L := [some (.ref (b + 0)), some (.int x1), some (.int x2), none, none, none, none, none]) rfl ?_
  refine pm_aload_n dX10_lastOf_0 rfl ?_
  obtain ⟨r1, h2, h⟩ := ob_some h
  refine dx_cVp (j := 0) (M := M_X10_lastOf) (Mc := M_X10_runAsked) (dc := 0) (As := []) (st := []) hR dX10_lastOf_1 ml_X10_289 ⟨TX10, 55, rfl⟩ rfl (by decide) (Nat.le_of_ble_eq_true rfl) rfl (k_X10_runAsked hR h2) ?_
  refine pm_istore_n dX10_lastOf_4 (by decide) rfl rfl ?_
  refine pm_aload_n dX10_lastOf_5 rfl ?_
  refine pm_iload_n dX10_lastOf_6 rfl ?_
  refine pm_iload_n dX10_lastOf_7 rfl ?_
  obtain ⟨r3, h4, h⟩ := ob_some h
  refine dx_cVv (j := 0) (M := M_X10_lastOf) (Mc := M_X10_replays) (dc := 8) (As := [.int r1, .int x1]) (st := []) hR rg_k0 dX10_lastOf_8 ml_X10_292 ⟨TX10, 55, rfl⟩ rfl (by decide) (Nat.le_of_ble_eq_true rfl) rfl (k_X10_replays hR h4) (fun w5 hR6 hk7 => ?_)
  refine pm_aload_n dX10_lastOf_11 rfl ?_
  refine dx_gr (j := 0) (o := 31) hR6 dX10_lastOf_12 fl_X10_114 rfl rfl ?_
  refine pm_bipush (v := 80) dX10_lastOf_15 (by decide) ?_
  refine pm_iload_n dX10_lastOf_17 rfl ?_
  refine pm_iadd dX10_lastOf_18 ?_
  obtain ⟨c8, h⟩ := ck_some h
  refine dx_al (j := 31) hR6 dX10_lastOf_19 rfl (vp_in_iff.mpr c8) ?_
  refine pm_istore dX10_lastOf_20 (by decide) rfl rfl ?_
  refine pm_iload dX10_lastOf_22 rfl ?_
  refine pm_if_ne (tgt := 29) dX10_lastOf_24 (by decide) (fun c9 => ?_) (fun c9 => ?_)
  · replace h := it_f c9 h
    refine pm_iconst (v := 0) dX10_lastOf_29 (by decide) ?_
    refine pm_istore dX10_lastOf_30 (by decide) rfl rfl ?_
    refine pm_iload_n dX10_lastOf_32 rfl ?_
    refine pm_istore dX10_lastOf_33 (by decide) rfl rfl ?_
    refine pm_lw (L' := [some (.ref (b + 0)), none, some (.int x2), some (.int r1), some (.int (rA r3 31 (80 + x2))), some (.int 0), some (.int x1), none]) ⟨Or.inr rfl, Or.inl rfl, Or.inr rfl, Or.inr rfl, Or.inr rfl, Or.inr rfl, Or.inr rfl, Or.inl rfl, trivial⟩ ?_
    obtain ⟨r18, h19, h⟩ := ob_some h
    refine lp_sound (P := fun (s : (Int32 × Int32 × rg_U)) => ∀ w1, rg shM b s.2.2 n w1 → rg_k b shM.length w w1 → pm_X gs ro M_X10_lastOf 9 0 0 0 0 35 [some (.ref (b + 0)), none, some (.int x2), some (.int r1), some (.int (rA r3 31 (80 + x2))), some (.int s.1), some (.int s.2.1), none] [] n w1 (rg_post shM b n w (some (.int z.1)) z.2)) (E := (fun (r : (Int32 × rg_U)) => ∀ w1, rg shM b r.2 n w1 → rg_k b shM.length w w1 → pm_X gs ro M_X10_lastOf 9 0 0 0 0 88 [none, none, none, none, none, some (.int r.1), none, none] [] n w1 (rg_post shM b n w (some (.int z.1)) z.2))) (fun s x hx hc he w1 hR1 hk1 => k_X10_lastOf_l35 hR1 hk1 hx hc (fun r q => he r q)) F _ r18 h19 ?_ _ hR6 hk7
    intro w20 hR21 hk22
    refine pm_iload dX10_lastOf_88 rfl ?_
    cases h
    exact pm_iret dX10_lastOf_90 rfl (Nat.le_refl _) (Nat.le_refl _) ⟨rfl, rfl, hR21, hk22⟩
  · replace h := it_t c9 h
    refine pm_iconst (v := (-1)) dX10_lastOf_27 (by decide) ?_
    cases h
    exact pm_iret dX10_lastOf_28 rfl (Nat.le_refl _) (Nat.le_refl _) ⟨rfl, rfl, hR6, hk7⟩
def g_X10_last (F : Nat) (x1 : Int32) (x2 : Int32) (u : rg_U) : Option (Int32 × rg_U) :=
  lt1 (sF u 0 35 0) (fun u1 => ob (g_X10_isTime F x1 u1) (fun r6 => if r6 = 0 then (some ((-2), u1)) else (if (g_X10_isPlace x2) = 0 then (some ((-2), u1)) else (ob (g_X10_lastOf F x1 x2 u1) (fun r10 => some (r10.1, r10.2))))))
set_option maxHeartbeats 4000000 in
set_option maxRecDepth 100000 in
theorem k_X10_last {gs : List String} {ro : pm_RO} {n : Nat} {w : Nat → va_E} {b : Nat} {u : rg_U} {F : Nat} {x1 : Int32} {x2 : Int32} {z : (Int32 × rg_U)} (hR : rg shM b u n w) (h : g_X10_last F x1 x2 u = some z) : pm_Met gs ro M_X10_last 10 0 0 [.ref (b + 0), .int x1, .int x2] n w (rg_post shM b n w (some (.int z.1)) z.2) := by
  unfold g_X10_last at h
  refine pm_ofX in_X10_last (Nat.le_of_ble_eq_true rfl) rfl (L := [some (.ref (b + 0)), some (.int x1), some (.int x2)]) rfl ?_
  refine pm_aload_n dX10_last_0 rfl ?_
  refine pm_iconst (v := 0) dX10_last_1 (by decide) ?_
  obtain ⟨u1, hu2, h⟩ := lt1_ex h
  refine dx_pi (j := 0) hR rg_k0 dX10_last_2 fl_X10_276 rfl rfl hu2 (fun w3 hR4 hk5 => ?_)
  refine pm_aload_n dX10_last_5 rfl ?_
  refine pm_iload_n dX10_last_6 rfl ?_
  obtain ⟨r6, h7, h⟩ := ob_some h
  refine dx_cVp (j := 0) (M := M_X10_last) (Mc := M_X10_isTime) (dc := 1) (As := [.int x1]) (st := []) hR4 dX10_last_7 ml_X10_301 ⟨TX10, 55, rfl⟩ rfl (by decide) (Nat.le_of_ble_eq_true rfl) rfl (k_X10_isTime hR4 h7) ?_
  refine pm_if_eq (tgt := 29) dX10_last_10 (by decide) (fun c8 => ?_) (fun c8 => ?_)
  · replace h := it_t c8 h
    refine pm_bipush (v := (-2)) dX10_last_29 (by decide) ?_
    cases h
    exact pm_iret dX10_last_31 rfl (Nat.le_refl _) (Nat.le_refl _) ⟨rfl, rfl, hR4, hk5⟩
  · replace h := it_f c8 h
    refine pm_iload_n dX10_last_13 rfl ?_
    refine dx_cSp (M := M_X10_last) (Mc := M_X10_isPlace) (dc := 1) (As := [.int x2]) (st := []) dX10_last_14 ml_X10_169 (by decide) (Nat.le_of_ble_eq_true rfl) rfl (k_X10_isPlace rfl) ?_
    refine pm_if_eq (tgt := 29) dX10_last_17 (by decide) (fun c9 => ?_) (fun c9 => ?_)
    · replace h := it_t c9 h
      refine pm_bipush (v := (-2)) dX10_last_29 (by decide) ?_
      cases h
      exact pm_iret dX10_last_31 rfl (Nat.le_refl _) (Nat.le_refl _) ⟨rfl, rfl, hR4, hk5⟩
    · replace h := it_f c9 h
      refine pm_aload_n dX10_last_20 rfl ?_
      refine pm_iload_n dX10_last_21 rfl ?_
      refine pm_iload_n dX10_last_22 rfl ?_
      obtain ⟨r10, h11, h⟩ := ob_some h
      refine dx_cVi (j := 0) (M := M_X10_last) (Mc := M_X10_lastOf) (dc := 9) (As := [.int x1, .int x2]) (st := []) hR4 hk5 dX10_last_23 ml_X10_305 ⟨TX10, 55, rfl⟩ rfl (by decide) (Nat.le_of_ble_eq_true rfl) rfl (k_X10_lastOf hR4 h11) (fun w12 hR13 hk14 => ?_)
      refine pm_goto (tgt := 31) dX10_last_26 (by decide) ?_
      cases h
      exact pm_iret dX10_last_31 rfl (Nat.le_refl _) (Nat.le_refl _) ⟨rfl, rfl, hR13, hk14⟩
def g_X10_hadIn_j63 (F : Nat) (l1 : Int32) (l3 : Int32) (l4 : Int32) (l5 : Int32) (l6 : Int32) (l7 : Int32) (l8 : Int32) (u : rg_U) : Option ((Int32 × Int32 × rg_U) ⊕ (Int32 × rg_U)) :=
  some (.inl (l7, (l8 + 1), u))
set_option maxHeartbeats 4000000 in
set_option maxRecDepth 100000 in
theorem k_X10_hadIn_j63 {gs : List String} {ro : pm_RO} {n : Nat} {w w1 : Nat → va_E} {b : Nat} {u : rg_U} {F : Nat} {l1 : Int32} {l3 : Int32} {l4 : Int32} {l5 : Int32} {l6 : Int32} {l7 : Int32} {l8 : Int32} {z : ((Int32 × Int32 × rg_U) ⊕ (Int32 × rg_U))} {Q : Option Value → Nat → (Nat → va_E) → Prop} (hR : rg shM b u n w1) (hk : rg_k b shM.length w w1) (h : g_X10_hadIn_j63 F l1 l3 l4 l5 l6 l7 l8 u = some z) (hc : ∀ s', z = .inl s' → ∀ w1, rg shM b s'.2.2 n w1 → rg_k b shM.length w w1 → pm_X gs ro M_X10_hadIn 8 0 0 0 0 17 [some (.ref (b + 0)), some (.int l1), none, some (.int l3), some (.int l4), some (.int l5), some (.int l6), some (.int s'.1), some (.int s'.2.1)] [] n w1 Q) (he0 : ∀ r', z = .inr r' → ∀ w1, rg shM b r'.2 n w1 → rg_k b shM.length w w1 → pm_X gs ro M_X10_hadIn 8 0 0 0 0 69 [none, none, none, none, none, none, none, some (.int r'.1), none] [] n w1 Q) : pm_X gs ro M_X10_hadIn 8 0 0 0 0 63 [some (.ref (b + 0)), some (.int l1), none, some (.int l3), some (.int l4), some (.int l5), some (.int l6), some (.int l7), some (.int l8)] [] n w1 Q := by
  unfold g_X10_hadIn_j63 at h
  refine pm_iinc (v := (l8 + 1)) dX10_hadIn_63 rfl rfl (by decide) rfl rfl ?_
  refine pm_goto (tgt := 17) dX10_hadIn_66 (by decide) ?_
  refine pm_lw (L' := [some (.ref (b + 0)), some (.int l1), none, some (.int l3), some (.int l4), some (.int l5), some (.int l6), some (.int l7), some (.int (l8 + 1))]) ⟨Or.inr rfl, Or.inr rfl, Or.inl rfl, Or.inr rfl, Or.inr rfl, Or.inr rfl, Or.inr rfl, Or.inr rfl, Or.inr rfl, trivial⟩ ?_
  exact hc _ (Option.some.inj h).symm _ hR hk
def g_X10_hadIn_l17 (F : Nat) (l1 : Int32) (l3 : Int32) (l4 : Int32) (l5 : Int32) (l6 : Int32) (l7 : Int32) (l8 : Int32) (u : rg_U) : Option ((Int32 × Int32 × rg_U) ⊕ (Int32 × rg_U)) :=
  if l3 < l8 then (some (.inr (l7, u))) else (ob (g_X10_lays F l1 l8 u) (fun r12 => ck (inb (0 + l4) 134) (if (rA r12 31 (0 + l4)) = l5 then (ck (inb (40 + l4) 134) (if (rA r12 31 (40 + l4)) = l6 then (g_X10_hadIn_j63 F l1 l3 l4 l5 l6 l8 l8 r12) else (g_X10_hadIn_j63 F l1 l3 l4 l5 l6 l7 l8 r12))) else (g_X10_hadIn_j63 F l1 l3 l4 l5 l6 l7 l8 r12))))
set_option maxHeartbeats 4000000 in
set_option maxRecDepth 100000 in
theorem k_X10_hadIn_l17 {gs : List String} {ro : pm_RO} {n : Nat} {w w1 : Nat → va_E} {b : Nat} {u : rg_U} {F : Nat} {l1 : Int32} {l3 : Int32} {l4 : Int32} {l5 : Int32} {l6 : Int32} {l7 : Int32} {l8 : Int32} {z : (Int32 × Int32 × rg_U) ⊕ (Int32 × rg_U)} {Q : Option Value → Nat → (Nat → va_E) → Prop} (hR : rg shM b u n w1) (hk : rg_k b shM.length w w1) (h : g_X10_hadIn_l17 F l1 l3 l4 l5 l6 l7 l8 u = some z) (hc : ∀ s', z = .inl s' → ∀ w1, rg shM b s'.2.2 n w1 → rg_k b shM.length w w1 → pm_X gs ro M_X10_hadIn 8 0 0 0 0 17 [some (.ref (b + 0)), some (.int l1), none, some (.int l3), some (.int l4), some (.int l5), some (.int l6), some (.int s'.1), some (.int s'.2.1)] [] n w1 Q) (he0 : ∀ r', z = .inr r' → ∀ w1, rg shM b r'.2 n w1 → rg_k b shM.length w w1 → pm_X gs ro M_X10_hadIn 8 0 0 0 0 69 [none, none, none, none, none, none, none, some (.int r'.1), none] [] n w1 Q) : pm_X gs ro M_X10_hadIn 8 0 0 0 0 17 [some (.ref (b + 0)), some (.int l1), none, some (.int l3), some (.int l4), some (.int l5), some (.int l6), some (.int l7), some (.int l8)] [] n w1 Q := by
  unfold g_X10_hadIn_l17 at h
  refine pm_iload dX10_hadIn_17 rfl ?_
  refine pm_iload_n dX10_hadIn_19 rfl ?_
  refine pm_icmp_gt (tgt := 69) dX10_hadIn_20 (by decide) (fun c11 => ?_) (fun c11 => ?_)
  · replace h := it_t c11 h
    refine pm_lw (L' := [none, none, none, none, none, none, none, some (.int l7), none]) ⟨Or.inl rfl, Or.inl rfl, Or.inl rfl, Or.inl rfl, Or.inl rfl, Or.inl rfl, Or.inl rfl, Or.inr rfl, Or.inl rfl, trivial⟩ ?_
    exact he0 _ (Option.some.inj h).symm _ hR hk
  · replace h := it_f c11 h
    refine pm_aload_n dX10_hadIn_23 rfl ?_
    refine pm_iload_n dX10_hadIn_24 rfl ?_
    refine pm_iload dX10_hadIn_25 rfl ?_
    obtain ⟨r12, h13, h⟩ := ob_some h
    refine dx_cVv (j := 0) (M := M_X10_hadIn) (Mc := M_X10_lays) (dc := 7) (As := [.int l1, .int l8]) (st := []) hR hk dX10_hadIn_27 ml_X10_286 ⟨TX10, 55, rfl⟩ rfl (by decide) (Nat.le_of_ble_eq_true rfl) rfl (k_X10_lays hR h13) (fun w14 hR15 hk16 => ?_)
    refine pm_aload_n dX10_hadIn_30 rfl ?_
    refine dx_gr (j := 0) (o := 31) hR15 dX10_hadIn_31 fl_X10_114 rfl rfl ?_
    refine pm_iconst (v := 0) dX10_hadIn_34 (by decide) ?_
    refine pm_iload dX10_hadIn_35 rfl ?_
    refine pm_iadd dX10_hadIn_37 ?_
    obtain ⟨c17, h⟩ := ck_some h
    refine dx_al (j := 31) hR15 dX10_hadIn_38 rfl (vp_in_iff.mpr c17) ?_
    refine pm_iload dX10_hadIn_39 rfl ?_
    refine pm_icmp_ne (tgt := 63) dX10_hadIn_41 (by decide) (fun c18 => ?_) (fun c18 => ?_)
    · replace h := it_f c18 h
      exact k_X10_hadIn_j63 hR15 hk16 h hc he0
    · replace h := it_t c18 h
      refine pm_aload_n dX10_hadIn_44 rfl ?_
      refine dx_gr (j := 0) (o := 31) hR15 dX10_hadIn_45 fl_X10_114 rfl rfl ?_
      refine pm_bipush (v := 40) dX10_hadIn_48 (by decide) ?_
      refine pm_iload dX10_hadIn_50 rfl ?_
      refine pm_iadd dX10_hadIn_52 ?_
      obtain ⟨c19, h⟩ := ck_some h
      refine dx_al (j := 31) hR15 dX10_hadIn_53 rfl (vp_in_iff.mpr c19) ?_
      refine pm_iload dX10_hadIn_54 rfl ?_
      refine pm_icmp_ne (tgt := 63) dX10_hadIn_56 (by decide) (fun c20 => ?_) (fun c20 => ?_)
      · replace h := it_f c20 h
        exact k_X10_hadIn_j63 hR15 hk16 h hc he0
      · replace h := it_t c20 h
        refine pm_iload dX10_hadIn_59 rfl ?_
        refine pm_istore dX10_hadIn_61 (by decide) rfl rfl ?_
        exact k_X10_hadIn_j63 hR15 hk16 h hc he0
def g_X10_hadIn (F : Nat) (x1 : Int32) (x2 : Int32) (x3 : Int32) (x4 : Int32) (x5 : Int32) (x6 : Int32) (u : rg_U) : Option (Int32 × rg_U) :=
  ob (g_X10_simBegins F x1 u) (fun r1 => ob (g_X10_lays F x1 x2 r1) (fun r6 => ob (lp (fun (s : (Int32 × Int32 × rg_U)) => g_X10_hadIn_l17 F x1 x3 x4 x5 x6 s.1 s.2.1 s.2.2) F (((-1) : Int32), (x2 : Int32), r6)) (fun r21 => some (r21.1, r21.2))))
set_option maxHeartbeats 4000000 in
set_option maxRecDepth 100000 in
theorem k_X10_hadIn {gs : List String} {ro : pm_RO} {n : Nat} {w : Nat → va_E} {b : Nat} {u : rg_U} {F : Nat} {x1 : Int32} {x2 : Int32} {x3 : Int32} {x4 : Int32} {x5 : Int32} {x6 : Int32} {z : (Int32 × rg_U)} (hR : rg shM b u n w) (h : g_X10_hadIn F x1 x2 x3 x4 x5 x6 u = some z) : pm_Met gs ro M_X10_hadIn 8 0 0 [.ref (b + 0), .int x1, .int x2, .int x3, .int x4, .int x5, .int x6] n w (rg_post shM b n w (some (.int z.1)) z.2) := by
  unfold g_X10_hadIn at h
  refine pm_ofX in_X10_hadIn (Nat.le_of_ble_eq_true rfl) rfl (L := [some (.ref (b + 0)), some (.int x1), some (.int x2), some (.int x3), some (.int x4), some (.int x5), some (.int x6), none, none]) rfl ?_
  refine pm_iconst (v := (-1)) dX10_hadIn_0 (by decide) ?_
  refine pm_istore dX10_hadIn_1 (by decide) rfl rfl ?_
  refine pm_aload_n dX10_hadIn_3 rfl ?_
  refine pm_iload_n dX10_hadIn_4 rfl ?_
  obtain ⟨r1, h2, h⟩ := ob_some h
  refine dx_cVv (j := 0) (M := M_X10_hadIn) (Mc := M_X10_simBegins) (dc := 3) (As := [.int x1]) (st := []) hR rg_k0 dX10_hadIn_5 ml_X10_270 ⟨TX10, 55, rfl⟩ rfl (by decide) (Nat.le_of_ble_eq_true rfl) rfl (k_X10_simBegins hR h2) (fun w3 hR4 hk5 => ?_)
  refine pm_aload_n dX10_hadIn_8 rfl ?_
  refine pm_iload_n dX10_hadIn_9 rfl ?_
  refine pm_iload_n dX10_hadIn_10 rfl ?_
  obtain ⟨r6, h7, h⟩ := ob_some h
  refine dx_cVv (j := 0) (M := M_X10_hadIn) (Mc := M_X10_lays) (dc := 7) (As := [.int x1, .int x2]) (st := []) hR4 hk5 dX10_hadIn_11 ml_X10_286 ⟨TX10, 55, rfl⟩ rfl (by decide) (Nat.le_of_ble_eq_true rfl) rfl (k_X10_lays hR4 h7) (fun w8 hR9 hk10 => ?_)
  refine pm_iload_n dX10_hadIn_14 rfl ?_
  refine pm_istore dX10_hadIn_15 (by decide) rfl rfl ?_
  refine pm_lw (L' := [some (.ref (b + 0)), some (.int x1), none, some (.int x3), some (.int x4), some (.int x5), some (.int x6), some (.int (-1)), some (.int x2)]) ⟨Or.inr rfl, Or.inr rfl, Or.inl rfl, Or.inr rfl, Or.inr rfl, Or.inr rfl, Or.inr rfl, Or.inr rfl, Or.inr rfl, trivial⟩ ?_
  obtain ⟨r21, h22, h⟩ := ob_some h
  refine lp_sound (P := fun (s : (Int32 × Int32 × rg_U)) => ∀ w1, rg shM b s.2.2 n w1 → rg_k b shM.length w w1 → pm_X gs ro M_X10_hadIn 8 0 0 0 0 17 [some (.ref (b + 0)), some (.int x1), none, some (.int x3), some (.int x4), some (.int x5), some (.int x6), some (.int s.1), some (.int s.2.1)] [] n w1 (rg_post shM b n w (some (.int z.1)) z.2)) (E := (fun (r : (Int32 × rg_U)) => ∀ w1, rg shM b r.2 n w1 → rg_k b shM.length w w1 → pm_X gs ro M_X10_hadIn 8 0 0 0 0 69 [none, none, none, none, none, none, none, some (.int r.1), none] [] n w1 (rg_post shM b n w (some (.int z.1)) z.2))) (fun s x hx hc he w1 hR1 hk1 => k_X10_hadIn_l17 hR1 hk1 hx hc (fun r q => he r q)) F _ r21 h22 ?_ _ hR9 hk10
  intro w23 hR24 hk25
  refine pm_iload dX10_hadIn_69 rfl ?_
  cases h
  exact pm_iret dX10_hadIn_71 rfl (Nat.le_refl _) (Nat.le_refl _) ⟨rfl, rfl, hR24, hk25⟩
def g_X10_when_l41 (F : Nat) (l2 : Int32) (l3 : Int32) (l4 : Int32) (l5 : Int32) (l6 : Int32) (u : rg_U) : Option ((Int32 × rg_U) ⊕ ((Int32 × rg_U) ⊕ rg_U)) :=
  if l6 < 0 then (some (.inr (Sum.inr u))) else (ob (g_X10_heldBy F l5 l6 u) (fun r14 => ob (g_X10_counts F l5 (l6 - r14) u) (fun r16 => ob (g_X10_hadIn F l5 r14 l6 l2 l3 l4 r16) (fun r21 => if r21.1 = (-1) then (some (.inl ((r14 - 1), r21.2))) else (some (.inr (Sum.inl (r21.1, r21.2))))))))
set_option maxHeartbeats 4000000 in
set_option maxRecDepth 100000 in
theorem k_X10_when_l41 {gs : List String} {ro : pm_RO} {n : Nat} {w w1 : Nat → va_E} {b : Nat} {u : rg_U} {F : Nat} {l2 : Int32} {l3 : Int32} {l4 : Int32} {l5 : Int32} {l6 : Int32} {z : (Int32 × rg_U) ⊕ ((Int32 × rg_U) ⊕ rg_U)} {Q : Option Value → Nat → (Nat → va_E) → Prop} (hR : rg shM b u n w1) (hk : rg_k b shM.length w w1) (h : g_X10_when_l41 F l2 l3 l4 l5 l6 u = some z) (hc : ∀ s', z = .inl s' → ∀ w1, rg shM b s'.2 n w1 → rg_k b shM.length w w1 → pm_X gs ro M_X10_when 9 0 0 0 0 41 [some (.ref (b + 0)), none, some (.int l2), some (.int l3), some (.int l4), some (.int l5), some (.int s'.1), none, none] [] n w1 Q) (he0 : ∀ r', z = .inr (Sum.inl r') → ∀ w1, rg shM b r'.2 n w1 → rg_k b shM.length w w1 → pm_X gs ro M_X10_when 9 0 0 0 0 89 [none, none, none, none, none, none, none, none, some (.int r'.1)] [] n w1 Q) (he1 : ∀ r', z = .inr (Sum.inr r') → ∀ w1, rg shM b r' n w1 → rg_k b shM.length w w1 → pm_X gs ro M_X10_when 9 0 0 0 0 101 [none, none, none, none, none, none, none, none, none] [] n w1 Q) : pm_X gs ro M_X10_when 9 0 0 0 0 41 [some (.ref (b + 0)), none, some (.int l2), some (.int l3), some (.int l4), some (.int l5), some (.int l6), none, none] [] n w1 Q := by
  unfold g_X10_when_l41 at h
  refine pm_iload dX10_when_41 rfl ?_
  refine pm_if_lt (tgt := 101) dX10_when_43 (by decide) (fun c13 => ?_) (fun c13 => ?_)
  · replace h := it_t c13 h
    refine pm_lw (L' := [none, none, none, none, none, none, none, none, none]) ⟨Or.inl rfl, Or.inl rfl, Or.inl rfl, Or.inl rfl, Or.inl rfl, Or.inl rfl, Or.inl rfl, Or.inl rfl, Or.inl rfl, trivial⟩ ?_
    exact he1 _ (Option.some.inj h).symm _ hR hk
  · replace h := it_f c13 h
    refine pm_aload_n dX10_when_46 rfl ?_
    refine pm_iload dX10_when_47 rfl ?_
    refine pm_iload dX10_when_49 rfl ?_
    obtain ⟨r14, h15, h⟩ := ob_some h
    refine dx_cVp (j := 0) (M := M_X10_when) (Mc := M_X10_heldBy) (dc := 1) (As := [.int l5, .int l6]) (st := []) hR dX10_when_51 ml_X10_279 ⟨TX10, 55, rfl⟩ rfl (by decide) (Nat.le_of_ble_eq_true rfl) rfl (k_X10_heldBy hR h15) ?_
    refine pm_istore dX10_when_54 (by decide) rfl rfl ?_
    refine pm_aload_n dX10_when_56 rfl ?_
    refine pm_iload dX10_when_57 rfl ?_
    refine pm_iload dX10_when_59 rfl ?_
    refine pm_iload dX10_when_61 rfl ?_
    refine pm_isub dX10_when_63 ?_
    obtain ⟨r16, h17, h⟩ := ob_some h
    refine dx_cVv (j := 0) (M := M_X10_when) (Mc := M_X10_counts) (dc := 0) (As := [.int l5, .int (l6 - r14)]) (st := []) hR hk dX10_when_64 ml_X10_282 ⟨TX10, 55, rfl⟩ rfl (by decide) (Nat.le_of_ble_eq_true rfl) rfl (k_X10_counts hR h17) (fun w18 hR19 hk20 => ?_)
    refine pm_aload_n dX10_when_67 rfl ?_
    refine pm_iload dX10_when_68 rfl ?_
    refine pm_iload dX10_when_70 rfl ?_
    refine pm_iload dX10_when_72 rfl ?_
    refine pm_iload_n dX10_when_74 rfl ?_
    refine pm_iload_n dX10_when_75 rfl ?_
    refine pm_iload dX10_when_76 rfl ?_
    obtain ⟨r21, h22, h⟩ := ob_some h
    refine dx_cVi (j := 0) (M := M_X10_when) (Mc := M_X10_hadIn) (dc := 8) (As := [.int l5, .int r14, .int l6, .int l2, .int l3, .int l4]) (st := []) hR19 hk20 dX10_when_78 ml_X10_308 ⟨TX10, 55, rfl⟩ rfl (by decide) (Nat.le_of_ble_eq_true rfl) rfl (k_X10_hadIn hR19 h22) (fun w23 hR24 hk25 => ?_)
    refine pm_istore dX10_when_81 (by decide) rfl rfl ?_
    refine pm_iload dX10_when_83 rfl ?_
    refine pm_iconst (v := (-1)) dX10_when_85 (by decide) ?_
    refine pm_icmp_eq (tgt := 92) dX10_when_86 (by decide) (fun c26 => ?_) (fun c26 => ?_)
    · replace h := it_t c26 h
      refine pm_iload dX10_when_92 rfl ?_
      refine pm_iconst (v := 1) dX10_when_94 (by decide) ?_
      refine pm_isub dX10_when_95 ?_
      refine pm_istore dX10_when_96 (by decide) rfl rfl ?_
      refine pm_goto (tgt := 41) dX10_when_98 (by decide) ?_
      refine pm_lw (L' := [some (.ref (b + 0)), none, some (.int l2), some (.int l3), some (.int l4), some (.int l5), some (.int (r14 - 1)), none, none]) ⟨Or.inr rfl, Or.inl rfl, Or.inr rfl, Or.inr rfl, Or.inr rfl, Or.inr rfl, Or.inr rfl, Or.inl rfl, Or.inl rfl, trivial⟩ ?_
      exact hc _ (Option.some.inj h).symm _ hR24 hk25
    · replace h := it_f c26 h
      refine pm_lw (L' := [none, none, none, none, none, none, none, none, some (.int r21.1)]) ⟨Or.inl rfl, Or.inl rfl, Or.inl rfl, Or.inl rfl, Or.inl rfl, Or.inl rfl, Or.inl rfl, Or.inl rfl, Or.inr rfl, trivial⟩ ?_
      exact he0 _ (Option.some.inj h).symm _ hR24 hk25
def g_X10_when (F : Nat) (x1 : Int32) (x2 : Int32) (x3 : Int32) (x4 : Int32) (u : rg_U) : Option (Int32 × rg_U) :=
  lt1 (sF u 0 35 0) (fun u1 => ob (g_X10_isTime F x1 u1) (fun r6 => if r6 = 0 then (some ((-2), u1)) else (if (g_X10_isPlace x2) = 0 then (some ((-2), u1)) else (if (g_X10_isValue x3 x4) = 0 then (some ((-2), u1)) else (ob (g_X10_runAsked F u1) (fun r11 => ob (lp (fun (s : (Int32 × rg_U)) => g_X10_when_l41 F x2 x3 x4 r11 s.1 s.2) F ((x1 : Int32), u1)) (fun r27 => os r27 (fun r29 => some (r29.1, r29.2)) (fun r30 => some ((-1), r30)))))))))
set_option maxHeartbeats 4000000 in
set_option maxRecDepth 100000 in
theorem k_X10_when {gs : List String} {ro : pm_RO} {n : Nat} {w : Nat → va_E} {b : Nat} {u : rg_U} {F : Nat} {x1 : Int32} {x2 : Int32} {x3 : Int32} {x4 : Int32} {z : (Int32 × rg_U)} (hR : rg shM b u n w) (h : g_X10_when F x1 x2 x3 x4 u = some z) : pm_Met gs ro M_X10_when 9 0 0 [.ref (b + 0), .int x1, .int x2, .int x3, .int x4] n w (rg_post shM b n w (some (.int z.1)) z.2) := by
  unfold g_X10_when at h
  refine pm_ofX in_X10_when (Nat.le_of_ble_eq_true rfl) rfl (L := [some (.ref (b + 0)), some (.int x1), some (.int x2), some (.int x3), some (.int x4), none, none, none, none]) rfl ?_
  refine pm_aload_n dX10_when_0 rfl ?_
  refine pm_iconst (v := 0) dX10_when_1 (by decide) ?_
  obtain ⟨u1, hu2, h⟩ := lt1_ex h
  refine dx_pi (j := 0) hR rg_k0 dX10_when_2 fl_X10_276 rfl rfl hu2 (fun w3 hR4 hk5 => ?_)
  refine pm_aload_n dX10_when_5 rfl ?_
  refine pm_iload_n dX10_when_6 rfl ?_
  obtain ⟨r6, h7, h⟩ := ob_some h
  refine dx_cVp (j := 0) (M := M_X10_when) (Mc := M_X10_isTime) (dc := 1) (As := [.int x1]) (st := []) hR4 dX10_when_7 ml_X10_301 ⟨TX10, 55, rfl⟩ rfl (by decide) (Nat.le_of_ble_eq_true rfl) rfl (k_X10_isTime hR4 h7) ?_
  refine pm_if_eq (tgt := 29) dX10_when_10 (by decide) (fun c8 => ?_) (fun c8 => ?_)
  · replace h := it_t c8 h
    refine pm_bipush (v := (-2)) dX10_when_29 (by decide) ?_
    cases h
    exact pm_iret dX10_when_31 rfl (Nat.le_refl _) (Nat.le_refl _) ⟨rfl, rfl, hR4, hk5⟩
  · replace h := it_f c8 h
    refine pm_iload_n dX10_when_13 rfl ?_
    refine dx_cSp (M := M_X10_when) (Mc := M_X10_isPlace) (dc := 1) (As := [.int x2]) (st := []) dX10_when_14 ml_X10_169 (by decide) (Nat.le_of_ble_eq_true rfl) rfl (k_X10_isPlace rfl) ?_
    refine pm_if_eq (tgt := 29) dX10_when_17 (by decide) (fun c9 => ?_) (fun c9 => ?_)
    · replace h := it_t c9 h
      refine pm_bipush (v := (-2)) dX10_when_29 (by decide) ?_
      cases h
      exact pm_iret dX10_when_31 rfl (Nat.le_refl _) (Nat.le_refl _) ⟨rfl, rfl, hR4, hk5⟩
    · replace h := it_f c9 h
      refine pm_iload_n dX10_when_20 rfl ?_
      refine pm_iload dX10_when_21 rfl ?_
      refine dx_cSp (M := M_X10_when) (Mc := M_X10_isValue) (dc := 1) (As := [.int x3, .int x4]) (st := []) dX10_when_23 ml_X10_172 (by decide) (Nat.le_of_ble_eq_true rfl) rfl (k_X10_isValue rfl) ?_
      refine pm_if_ne (tgt := 32) dX10_when_26 (by decide) (fun c10 => ?_) (fun c10 => ?_)
      · replace h := it_f c10 h
        refine pm_aload_n dX10_when_32 rfl ?_
        obtain ⟨r11, h12, h⟩ := ob_some h
        refine dx_cVp (j := 0) (M := M_X10_when) (Mc := M_X10_runAsked) (dc := 0) (As := []) (st := []) hR4 dX10_when_33 ml_X10_289 ⟨TX10, 55, rfl⟩ rfl (by decide) (Nat.le_of_ble_eq_true rfl) rfl (k_X10_runAsked hR4 h12) ?_
        refine pm_istore dX10_when_36 (by decide) rfl rfl ?_
        refine pm_iload_n dX10_when_38 rfl ?_
        refine pm_istore dX10_when_39 (by decide) rfl rfl ?_
        refine pm_lw (L' := [some (.ref (b + 0)), none, some (.int x2), some (.int x3), some (.int x4), some (.int r11), some (.int x1), none, none]) ⟨Or.inr rfl, Or.inl rfl, Or.inr rfl, Or.inr rfl, Or.inr rfl, Or.inr rfl, Or.inr rfl, Or.inl rfl, Or.inl rfl, trivial⟩ ?_
        obtain ⟨r27, h28, h⟩ := ob_some h
        refine lp_sound (P := fun (s : (Int32 × rg_U)) => ∀ w1, rg shM b s.2 n w1 → rg_k b shM.length w w1 → pm_X gs ro M_X10_when 9 0 0 0 0 41 [some (.ref (b + 0)), none, some (.int x2), some (.int x3), some (.int x4), some (.int r11), some (.int s.1), none, none] [] n w1 (rg_post shM b n w (some (.int z.1)) z.2)) (E := (Sum.elim (fun (r : (Int32 × rg_U)) => ∀ w1, rg shM b r.2 n w1 → rg_k b shM.length w w1 → pm_X gs ro M_X10_when 9 0 0 0 0 89 [none, none, none, none, none, none, none, none, some (.int r.1)] [] n w1 (rg_post shM b n w (some (.int z.1)) z.2)) (fun (r : rg_U) => ∀ w1, rg shM b r n w1 → rg_k b shM.length w w1 → pm_X gs ro M_X10_when 9 0 0 0 0 101 [none, none, none, none, none, none, none, none, none] [] n w1 (rg_post shM b n w (some (.int z.1)) z.2)))) (fun s x hx hc he w1 hR1 hk1 => k_X10_when_l41 hR1 hk1 hx hc (fun r q => he (Sum.inl r) q) (fun r q => he (Sum.inr r) q)) F _ r27 h28 ?_ _ hR4 hk5
        cases r27 with
        | inl r29 =>
          replace h := os_l h
          intro w31 hR32 hk33
          refine pm_iload dX10_when_89 rfl ?_
          cases h
          exact pm_iret dX10_when_91 rfl (Nat.le_refl _) (Nat.le_refl _) ⟨rfl, rfl, hR32, hk33⟩
        | inr r30 =>
          replace h := os_r h
          intro w34 hR35 hk36
          refine pm_iconst (v := (-1)) dX10_when_101 (by decide) ?_
          cases h
          exact pm_iret dX10_when_102 rfl (Nat.le_refl _) (Nat.le_refl _) ⟨rfl, rfl, hR35, hk36⟩
      · replace h := it_t c10 h
        refine pm_bipush (v := (-2)) dX10_when_29 (by decide) ?_
        cases h
        exact pm_iret dX10_when_31 rfl (Nat.le_refl _) (Nat.le_refl _) ⟨rfl, rfl, hR4, hk5⟩
