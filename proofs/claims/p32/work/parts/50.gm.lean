theorem dX10_begin_0 : decode cX10_begin 0 = .ok (.iconst 0, 1) := by decide +kernel
theorem dX10_begin_1 : decode cX10_begin 1 = .ok (.istore_n 1, 1) := by decide +kernel
theorem dX10_begin_2 : decode cX10_begin 2 = .ok (.iconst 0, 1) := by decide +kernel
theorem dX10_begin_3 : decode cX10_begin 3 = .ok (.istore_n 2, 1) := by decide +kernel
theorem dX10_begin_4 : decode cX10_begin 4 = .ok (.iload_n 2, 1) := by decide +kernel
theorem dX10_begin_5 : decode cX10_begin 5 = .ok (.bipush 64, 2) := by decide +kernel
theorem dX10_begin_7 : decode cX10_begin 7 = .ok (.if_icmp .ge 94, 3) := by decide +kernel
theorem dX10_begin_10 : decode cX10_begin 10 = .ok (.aload_n 0, 1) := by decide +kernel
theorem dX10_begin_11 : decode cX10_begin 11 = .ok (.getfield 33, 3) := by decide +kernel
theorem dX10_begin_14 : decode cX10_begin 14 = .ok (.sipush 256, 3) := by decide +kernel
theorem dX10_begin_17 : decode cX10_begin 17 = .ok (.iload_n 2, 1) := by decide +kernel
theorem dX10_begin_18 : decode cX10_begin 18 = .ok (.iadd, 1) := by decide +kernel
theorem dX10_begin_19 : decode cX10_begin 19 = .ok (.aload_n 0, 1) := by decide +kernel
theorem dX10_begin_20 : decode cX10_begin 20 = .ok (.getfield 7, 3) := by decide +kernel
theorem dX10_begin_23 : decode cX10_begin 23 = .ok (.iload_n 2, 1) := by decide +kernel
theorem dX10_begin_24 : decode cX10_begin 24 = .ok (.iaload, 1) := by decide +kernel
theorem dX10_begin_25 : decode cX10_begin 25 = .ok (.iastore, 1) := by decide +kernel
theorem dX10_begin_26 : decode cX10_begin 26 = .ok (.aload_n 0, 1) := by decide +kernel
theorem dX10_begin_27 : decode cX10_begin 27 = .ok (.getfield 36, 3) := by decide +kernel
theorem dX10_begin_30 : decode cX10_begin 30 = .ok (.sipush 256, 3) := by decide +kernel
theorem dX10_begin_33 : decode cX10_begin 33 = .ok (.iload_n 2, 1) := by decide +kernel
theorem dX10_begin_34 : decode cX10_begin 34 = .ok (.iadd, 1) := by decide +kernel
theorem dX10_begin_35 : decode cX10_begin 35 = .ok (.aload_n 0, 1) := by decide +kernel
theorem dX10_begin_36 : decode cX10_begin 36 = .ok (.getfield 13, 3) := by decide +kernel
theorem dX10_begin_39 : decode cX10_begin 39 = .ok (.iload_n 2, 1) := by decide +kernel
theorem dX10_begin_40 : decode cX10_begin 40 = .ok (.iaload, 1) := by decide +kernel
theorem dX10_begin_41 : decode cX10_begin 41 = .ok (.iastore, 1) := by decide +kernel
theorem dX10_begin_42 : decode cX10_begin 42 = .ok (.aload_n 0, 1) := by decide +kernel
theorem dX10_begin_43 : decode cX10_begin 43 = .ok (.getfield 39, 3) := by decide +kernel
theorem dX10_begin_46 : decode cX10_begin 46 = .ok (.sipush 256, 3) := by decide +kernel
theorem dX10_begin_49 : decode cX10_begin 49 = .ok (.iload_n 2, 1) := by decide +kernel
theorem dX10_begin_50 : decode cX10_begin 50 = .ok (.iadd, 1) := by decide +kernel
theorem dX10_begin_51 : decode cX10_begin 51 = .ok (.aload_n 0, 1) := by decide +kernel
theorem dX10_begin_52 : decode cX10_begin 52 = .ok (.getfield 16, 3) := by decide +kernel
theorem dX10_begin_55 : decode cX10_begin 55 = .ok (.iload_n 2, 1) := by decide +kernel
theorem dX10_begin_56 : decode cX10_begin 56 = .ok (.iaload, 1) := by decide +kernel
theorem dX10_begin_57 : decode cX10_begin 57 = .ok (.iastore, 1) := by decide +kernel
theorem dX10_begin_58 : decode cX10_begin 58 = .ok (.aload_n 0, 1) := by decide +kernel
theorem dX10_begin_59 : decode cX10_begin 59 = .ok (.getfield 42, 3) := by decide +kernel
theorem dX10_begin_62 : decode cX10_begin 62 = .ok (.sipush 256, 3) := by decide +kernel
theorem dX10_begin_65 : decode cX10_begin 65 = .ok (.iload_n 2, 1) := by decide +kernel
theorem dX10_begin_66 : decode cX10_begin 66 = .ok (.iadd, 1) := by decide +kernel
theorem dX10_begin_67 : decode cX10_begin 67 = .ok (.aload_n 0, 1) := by decide +kernel
theorem dX10_begin_68 : decode cX10_begin 68 = .ok (.getfield 19, 3) := by decide +kernel
theorem dX10_begin_71 : decode cX10_begin 71 = .ok (.iload_n 2, 1) := by decide +kernel
theorem dX10_begin_72 : decode cX10_begin 72 = .ok (.iaload, 1) := by decide +kernel
theorem dX10_begin_73 : decode cX10_begin 73 = .ok (.iastore, 1) := by decide +kernel
theorem dX10_begin_74 : decode cX10_begin 74 = .ok (.iload_n 1, 1) := by decide +kernel
theorem dX10_begin_75 : decode cX10_begin 75 = .ok (.aload_n 0, 1) := by decide +kernel
theorem dX10_begin_76 : decode cX10_begin 76 = .ok (.getfield 7, 3) := by decide +kernel
theorem dX10_begin_79 : decode cX10_begin 79 = .ok (.iload_n 2, 1) := by decide +kernel
theorem dX10_begin_80 : decode cX10_begin 80 = .ok (.iaload, 1) := by decide +kernel
theorem dX10_begin_81 : decode cX10_begin 81 = .ok (.iconst (-1), 1) := by decide +kernel
theorem dX10_begin_82 : decode cX10_begin 82 = .ok (.if_icmp .eq 7, 3) := by decide +kernel
theorem dX10_begin_85 : decode cX10_begin 85 = .ok (.iconst 1, 1) := by decide +kernel
theorem dX10_begin_86 : decode cX10_begin 86 = .ok (.goto 4, 3) := by decide +kernel
theorem dX10_begin_89 : decode cX10_begin 89 = .ok (.iconst 0, 1) := by decide +kernel
theorem dX10_begin_90 : decode cX10_begin 90 = .ok (.invokestatic 154, 3) := by decide +kernel
theorem dX10_begin_93 : decode cX10_begin 93 = .ok (.iadd, 1) := by decide +kernel
theorem dX10_begin_94 : decode cX10_begin 94 = .ok (.istore_n 1, 1) := by decide +kernel
theorem dX10_begin_95 : decode cX10_begin 95 = .ok (.iinc 2 1, 3) := by decide +kernel
theorem dX10_begin_98 : decode cX10_begin 98 = .ok (.goto (-94), 3) := by decide +kernel
theorem dX10_begin_101 : decode cX10_begin 101 = .ok (.aload_n 0, 1) := by decide +kernel
theorem dX10_begin_102 : decode cX10_begin 102 = .ok (.getfield 29, 3) := by decide +kernel
theorem dX10_begin_105 : decode cX10_begin 105 = .ok (.iconst 4, 1) := by decide +kernel
theorem dX10_begin_106 : decode cX10_begin 106 = .ok (.iconst 1, 1) := by decide +kernel
theorem dX10_begin_107 : decode cX10_begin 107 = .ok (.bastore, 1) := by decide +kernel
theorem dX10_begin_108 : decode cX10_begin 108 = .ok (.aload_n 0, 1) := by decide +kernel
theorem dX10_begin_109 : decode cX10_begin 109 = .ok (.getfield 60, 3) := by decide +kernel
theorem dX10_begin_112 : decode cX10_begin 112 = .ok (.iconst 4, 1) := by decide +kernel
theorem dX10_begin_113 : decode cX10_begin 113 = .ok (.iconst 0, 1) := by decide +kernel
theorem dX10_begin_114 : decode cX10_begin 114 = .ok (.iastore, 1) := by decide +kernel
theorem dX10_begin_115 : decode cX10_begin 115 = .ok (.aload_n 0, 1) := by decide +kernel
theorem dX10_begin_116 : decode cX10_begin 116 = .ok (.getfield 72, 3) := by decide +kernel
theorem dX10_begin_119 : decode cX10_begin 119 = .ok (.iconst 4, 1) := by decide +kernel
theorem dX10_begin_120 : decode cX10_begin 120 = .ok (.iconst 0, 1) := by decide +kernel
theorem dX10_begin_121 : decode cX10_begin 121 = .ok (.iastore, 1) := by decide +kernel
theorem dX10_begin_122 : decode cX10_begin 122 = .ok (.iconst 0, 1) := by decide +kernel
theorem dX10_begin_123 : decode cX10_begin 123 = .ok (.istore_n 2, 1) := by decide +kernel
theorem dX10_begin_124 : decode cX10_begin 124 = .ok (.iload_n 2, 1) := by decide +kernel
theorem dX10_begin_125 : decode cX10_begin 125 = .ok (.sipush 3000, 3) := by decide +kernel
theorem dX10_begin_128 : decode cX10_begin 128 = .ok (.if_icmp .gt 28, 3) := by decide +kernel
theorem dX10_begin_131 : decode cX10_begin 131 = .ok (.aload_n 0, 1) := by decide +kernel
theorem dX10_begin_132 : decode cX10_begin 132 = .ok (.getfield 75, 3) := by decide +kernel
theorem dX10_begin_135 : decode cX10_begin 135 = .ok (.iconst 4, 1) := by decide +kernel
theorem dX10_begin_136 : decode cX10_begin 136 = .ok (.iload_n 2, 1) := by decide +kernel
theorem dX10_begin_137 : decode cX10_begin 137 = .ok (.invokestatic 158, 3) := by decide +kernel
theorem dX10_begin_140 : decode cX10_begin 140 = .ok (.iload_n 2, 1) := by decide +kernel
theorem dX10_begin_141 : decode cX10_begin 141 = .ok (.ifCond .ne 7, 3) := by decide +kernel
theorem dX10_begin_144 : decode cX10_begin 144 = .ok (.iconst 1, 1) := by decide +kernel
theorem dX10_begin_145 : decode cX10_begin 145 = .ok (.goto 4, 3) := by decide +kernel
theorem dX10_begin_148 : decode cX10_begin 148 = .ok (.iconst 0, 1) := by decide +kernel
theorem dX10_begin_149 : decode cX10_begin 149 = .ok (.bastore, 1) := by decide +kernel
theorem dX10_begin_150 : decode cX10_begin 150 = .ok (.iinc 2 1, 3) := by decide +kernel
theorem dX10_begin_153 : decode cX10_begin 153 = .ok (.goto (-29), 3) := by decide +kernel
theorem dX10_begin_156 : decode cX10_begin 156 = .ok (.aload_n 0, 1) := by decide +kernel
theorem dX10_begin_157 : decode cX10_begin 157 = .ok (.getfield 78, 3) := by decide +kernel
theorem dX10_begin_160 : decode cX10_begin 160 = .ok (.iconst 4, 1) := by decide +kernel
theorem dX10_begin_161 : decode cX10_begin 161 = .ok (.iconst 0, 1) := by decide +kernel
theorem dX10_begin_162 : decode cX10_begin 162 = .ok (.iastore, 1) := by decide +kernel
theorem dX10_begin_163 : decode cX10_begin 163 = .ok (.aload_n 0, 1) := by decide +kernel
theorem dX10_begin_164 : decode cX10_begin 164 = .ok (.getfield 84, 3) := by decide +kernel
theorem dX10_begin_167 : decode cX10_begin 167 = .ok (.iconst 4, 1) := by decide +kernel
theorem dX10_begin_168 : decode cX10_begin 168 = .ok (.aload_n 0, 1) := by decide +kernel
theorem dX10_begin_169 : decode cX10_begin 169 = .ok (.getfield 22, 3) := by decide +kernel
theorem dX10_begin_172 : decode cX10_begin 172 = .ok (.iastore, 1) := by decide +kernel
theorem dX10_begin_173 : decode cX10_begin 173 = .ok (.aload_n 0, 1) := by decide +kernel
theorem dX10_begin_174 : decode cX10_begin 174 = .ok (.getfield 87, 3) := by decide +kernel
theorem dX10_begin_177 : decode cX10_begin 177 = .ok (.iconst 4, 1) := by decide +kernel
theorem dX10_begin_178 : decode cX10_begin 178 = .ok (.aload_n 0, 1) := by decide +kernel
theorem dX10_begin_179 : decode cX10_begin 179 = .ok (.getfield 26, 3) := by decide +kernel
theorem dX10_begin_182 : decode cX10_begin 182 = .ok (.iastore, 1) := by decide +kernel
theorem dX10_begin_183 : decode cX10_begin 183 = .ok (.aload_n 0, 1) := by decide +kernel
theorem dX10_begin_184 : decode cX10_begin 184 = .ok (.getfield 90, 3) := by decide +kernel
theorem dX10_begin_187 : decode cX10_begin 187 = .ok (.iconst 4, 1) := by decide +kernel
theorem dX10_begin_188 : decode cX10_begin 188 = .ok (.iconst 0, 1) := by decide +kernel
theorem dX10_begin_189 : decode cX10_begin 189 = .ok (.iastore, 1) := by decide +kernel
theorem dX10_begin_190 : decode cX10_begin 190 = .ok (.aload_n 0, 1) := by decide +kernel
theorem dX10_begin_191 : decode cX10_begin 191 = .ok (.getfield 93, 3) := by decide +kernel
theorem dX10_begin_194 : decode cX10_begin 194 = .ok (.iconst 4, 1) := by decide +kernel
theorem dX10_begin_195 : decode cX10_begin 195 = .ok (.iconst 1, 1) := by decide +kernel
theorem dX10_begin_196 : decode cX10_begin 196 = .ok (.iastore, 1) := by decide +kernel
theorem dX10_begin_197 : decode cX10_begin 197 = .ok (.aload_n 0, 1) := by decide +kernel
theorem dX10_begin_198 : decode cX10_begin 198 = .ok (.getfield 96, 3) := by decide +kernel
theorem dX10_begin_201 : decode cX10_begin 201 = .ok (.iconst 4, 1) := by decide +kernel
theorem dX10_begin_202 : decode cX10_begin 202 = .ok (.iconst 0, 1) := by decide +kernel
theorem dX10_begin_203 : decode cX10_begin 203 = .ok (.iastore, 1) := by decide +kernel
theorem dX10_begin_204 : decode cX10_begin 204 = .ok (.aload_n 0, 1) := by decide +kernel
theorem dX10_begin_205 : decode cX10_begin 205 = .ok (.aload_n 0, 1) := by decide +kernel
theorem dX10_begin_206 : decode cX10_begin 206 = .ok (.getfield 102, 3) := by decide +kernel
theorem dX10_begin_209 : decode cX10_begin 209 = .ok (.invokevirtual 162, 3) := by decide +kernel
theorem dX10_begin_212 : decode cX10_begin 212 = .ok (.aload_n 0, 1) := by decide +kernel
theorem dX10_begin_213 : decode cX10_begin 213 = .ok (.iconst 0, 1) := by decide +kernel
theorem dX10_begin_214 : decode cX10_begin 214 = .ok (.putfield 166, 3) := by decide +kernel
theorem dX10_begin_217 : decode cX10_begin 217 = .ok (.aload_n 0, 1) := by decide +kernel
theorem dX10_begin_218 : decode cX10_begin 218 = .ok (.iconst (-1), 1) := by decide +kernel
theorem dX10_begin_219 : decode cX10_begin 219 = .ok (.putfield 117, 3) := by decide +kernel
theorem dX10_begin_222 : decode cX10_begin 222 = .ok (.iload_n 1, 1) := by decide +kernel
theorem dX10_begin_223 : decode cX10_begin 223 = .ok (.ireturn, 1) := by decide +kernel
theorem dX10_clears_0 : decode cX10_clears 0 = .ok (.iconst 0, 1) := by decide +kernel
theorem dX10_clears_1 : decode cX10_clears 1 = .ok (.istore_n 2, 1) := by decide +kernel
theorem dX10_clears_2 : decode cX10_clears 2 = .ok (.iload_n 2, 1) := by decide +kernel
theorem dX10_clears_3 : decode cX10_clears 3 = .ok (.sipush 134, 3) := by decide +kernel
theorem dX10_clears_6 : decode cX10_clears 6 = .ok (.if_icmp .ge 13, 3) := by decide +kernel
theorem dX10_clears_9 : decode cX10_clears 9 = .ok (.aload_n 1, 1) := by decide +kernel
theorem dX10_clears_10 : decode cX10_clears 10 = .ok (.iload_n 2, 1) := by decide +kernel
theorem dX10_clears_11 : decode cX10_clears 11 = .ok (.iconst 0, 1) := by decide +kernel
theorem dX10_clears_12 : decode cX10_clears 12 = .ok (.iastore, 1) := by decide +kernel
theorem dX10_clears_13 : decode cX10_clears 13 = .ok (.iinc 2 1, 3) := by decide +kernel
theorem dX10_clears_16 : decode cX10_clears 16 = .ok (.goto (-14), 3) := by decide +kernel
theorem dX10_clears_19 : decode cX10_clears 19 = .ok (.return_, 1) := by decide +kernel
theorem dX10_code_0 : decode cX10_code 0 = .ok (.iload_n 1, 1) := by decide +kernel
theorem dX10_code_1 : decode cX10_code 1 = .ok (.iconst 0, 1) := by decide +kernel
theorem dX10_code_2 : decode cX10_code 2 = .ok (.bipush 63, 2) := by decide +kernel
theorem dX10_code_4 : decode cX10_code 4 = .ok (.invokestatic 138, 3) := by decide +kernel
theorem dX10_code_7 : decode cX10_code 7 = .ok (.ifCond .eq 15, 3) := by decide +kernel
theorem dX10_code_10 : decode cX10_code 10 = .ok (.iload_n 2, 1) := by decide +kernel
theorem dX10_code_11 : decode cX10_code 11 = .ok (.iload_n 3, 1) := by decide +kernel
theorem dX10_code_12 : decode cX10_code 12 = .ok (.iload 4, 2) := by decide +kernel
theorem dX10_code_14 : decode cX10_code 14 = .ok (.iload 5, 2) := by decide +kernel
theorem dX10_code_16 : decode cX10_code 16 = .ok (.invokestatic 146, 3) := by decide +kernel
theorem dX10_code_19 : decode cX10_code 19 = .ok (.ifCond .ne 5, 3) := by decide +kernel
theorem dX10_code_22 : decode cX10_code 22 = .ok (.iconst 0, 1) := by decide +kernel
theorem dX10_code_23 : decode cX10_code 23 = .ok (.ireturn, 1) := by decide +kernel
theorem dX10_code_24 : decode cX10_code 24 = .ok (.aload_n 0, 1) := by decide +kernel
theorem dX10_code_25 : decode cX10_code 25 = .ok (.getfield 7, 3) := by decide +kernel
theorem dX10_code_28 : decode cX10_code 28 = .ok (.iload_n 1, 1) := by decide +kernel
theorem dX10_code_29 : decode cX10_code 29 = .ok (.iload_n 2, 1) := by decide +kernel
theorem dX10_code_30 : decode cX10_code 30 = .ok (.iastore, 1) := by decide +kernel
theorem dX10_code_31 : decode cX10_code 31 = .ok (.aload_n 0, 1) := by decide +kernel
theorem dX10_code_32 : decode cX10_code 32 = .ok (.getfield 13, 3) := by decide +kernel
theorem dX10_code_35 : decode cX10_code 35 = .ok (.iload_n 1, 1) := by decide +kernel
theorem dX10_code_36 : decode cX10_code 36 = .ok (.iload_n 3, 1) := by decide +kernel
theorem dX10_code_37 : decode cX10_code 37 = .ok (.iastore, 1) := by decide +kernel
theorem dX10_code_38 : decode cX10_code 38 = .ok (.aload_n 0, 1) := by decide +kernel
theorem dX10_code_39 : decode cX10_code 39 = .ok (.getfield 16, 3) := by decide +kernel
theorem dX10_code_42 : decode cX10_code 42 = .ok (.iload_n 1, 1) := by decide +kernel
theorem dX10_code_43 : decode cX10_code 43 = .ok (.iload 4, 2) := by decide +kernel
theorem dX10_code_45 : decode cX10_code 45 = .ok (.iastore, 1) := by decide +kernel
theorem dX10_code_46 : decode cX10_code 46 = .ok (.aload_n 0, 1) := by decide +kernel
theorem dX10_code_47 : decode cX10_code 47 = .ok (.getfield 19, 3) := by decide +kernel
theorem dX10_code_50 : decode cX10_code 50 = .ok (.iload_n 1, 1) := by decide +kernel
theorem dX10_code_51 : decode cX10_code 51 = .ok (.iload 5, 2) := by decide +kernel
theorem dX10_code_53 : decode cX10_code 53 = .ok (.iastore, 1) := by decide +kernel
theorem dX10_code_54 : decode cX10_code 54 = .ok (.iconst 1, 1) := by decide +kernel
theorem dX10_code_55 : decode cX10_code 55 = .ok (.ireturn, 1) := by decide +kernel
theorem dX10_give_0 : decode cX10_give 0 = .ok (.aload_n 0, 1) := by decide +kernel
theorem dX10_give_1 : decode cX10_give 1 = .ok (.getfield 29, 3) := by decide +kernel
theorem dX10_give_4 : decode cX10_give 4 = .ok (.iconst 4, 1) := by decide +kernel
theorem dX10_give_5 : decode cX10_give 5 = .ok (.baload, 1) := by decide +kernel
theorem dX10_give_6 : decode cX10_give 6 = .ok (.ifCond .eq 12, 3) := by decide +kernel
theorem dX10_give_9 : decode cX10_give 9 = .ok (.aload_n 0, 1) := by decide +kernel
theorem dX10_give_10 : decode cX10_give 10 = .ok (.getfield 166, 3) := by decide +kernel
theorem dX10_give_13 : decode cX10_give 13 = .ok (.bipush 100, 2) := by decide +kernel
theorem dX10_give_15 : decode cX10_give 15 = .ok (.if_icmp .lt 5, 3) := by decide +kernel
theorem dX10_give_18 : decode cX10_give 18 = .ok (.iconst (-1), 1) := by decide +kernel
theorem dX10_give_19 : decode cX10_give 19 = .ok (.ireturn, 1) := by decide +kernel
theorem dX10_give_20 : decode cX10_give 20 = .ok (.aload_n 0, 1) := by decide +kernel
theorem dX10_give_21 : decode cX10_give 21 = .ok (.getfield 105, 3) := by decide +kernel
theorem dX10_give_24 : decode cX10_give 24 = .ok (.aload_n 0, 1) := by decide +kernel
theorem dX10_give_25 : decode cX10_give 25 = .ok (.getfield 166, 3) := by decide +kernel
theorem dX10_give_28 : decode cX10_give 28 = .ok (.iload_n 1, 1) := by decide +kernel
theorem dX10_give_29 : decode cX10_give 29 = .ok (.iastore, 1) := by decide +kernel
theorem dX10_give_30 : decode cX10_give 30 = .ok (.aload_n 0, 1) := by decide +kernel
theorem dX10_give_31 : decode cX10_give 31 = .ok (.dup, 1) := by decide +kernel
theorem dX10_give_32 : decode cX10_give 32 = .ok (.getfield 166, 3) := by decide +kernel
theorem dX10_give_35 : decode cX10_give 35 = .ok (.iconst 1, 1) := by decide +kernel
theorem dX10_give_36 : decode cX10_give 36 = .ok (.iadd, 1) := by decide +kernel
theorem dX10_give_37 : decode cX10_give 37 = .ok (.putfield 166, 3) := by decide +kernel
theorem dX10_give_40 : decode cX10_give 40 = .ok (.aload_n 0, 1) := by decide +kernel
theorem dX10_give_41 : decode cX10_give 41 = .ok (.getfield 166, 3) := by decide +kernel
theorem dX10_give_44 : decode cX10_give 44 = .ok (.ireturn, 1) := by decide +kernel
theorem dX10_heldAt_0 : decode cX10_heldAt 0 = .ok (.sipush 3001, 3) := by decide +kernel
theorem dX10_heldAt_3 : decode cX10_heldAt 3 = .ok (.iload_n 0, 1) := by decide +kernel
theorem dX10_heldAt_4 : decode cX10_heldAt 4 = .ok (.imul, 1) := by decide +kernel
theorem dX10_heldAt_5 : decode cX10_heldAt 5 = .ok (.iload_n 1, 1) := by decide +kernel
theorem dX10_heldAt_6 : decode cX10_heldAt 6 = .ok (.iadd, 1) := by decide +kernel
theorem dX10_heldAt_7 : decode cX10_heldAt 7 = .ok (.ireturn, 1) := by decide +kernel
theorem dX10_isFine_0 : decode cX10_isFine 0 = .ok (.iload_n 0, 1) := by decide +kernel
theorem dX10_isFine_1 : decode cX10_isFine 1 = .ok (.iconst (-1), 1) := by decide +kernel
theorem dX10_isFine_2 : decode cX10_isFine 2 = .ok (.if_icmp .eq 13, 3) := by decide +kernel
theorem dX10_isFine_5 : decode cX10_isFine 5 = .ok (.iload_n 0, 1) := by decide +kernel
theorem dX10_isFine_6 : decode cX10_isFine 6 = .ok (.ifCond .eq 9, 3) := by decide +kernel
theorem dX10_isFine_9 : decode cX10_isFine 9 = .ok (.iload_n 0, 1) := by decide +kernel
theorem dX10_isFine_10 : decode cX10_isFine 10 = .ok (.bipush 18, 2) := by decide +kernel
theorem dX10_isFine_12 : decode cX10_isFine 12 = .ok (.if_icmp .ne 5, 3) := by decide +kernel
theorem dX10_isFine_15 : decode cX10_isFine 15 = .ok (.iconst 1, 1) := by decide +kernel
theorem dX10_isFine_16 : decode cX10_isFine 16 = .ok (.ireturn, 1) := by decide +kernel
theorem dX10_isFine_17 : decode cX10_isFine 17 = .ok (.iload_n 0, 1) := by decide +kernel
theorem dX10_isFine_18 : decode cX10_isFine 18 = .ok (.bipush 15, 2) := by decide +kernel
theorem dX10_isFine_20 : decode cX10_isFine 20 = .ok (.if_icmp .eq 9, 3) := by decide +kernel
theorem dX10_isFine_23 : decode cX10_isFine 23 = .ok (.iload_n 0, 1) := by decide +kernel
theorem dX10_isFine_24 : decode cX10_isFine 24 = .ok (.bipush 17, 2) := by decide +kernel
theorem dX10_isFine_26 : decode cX10_isFine 26 = .ok (.if_icmp .ne 11, 3) := by decide +kernel
theorem dX10_isFine_29 : decode cX10_isFine 29 = .ok (.iload_n 1, 1) := by decide +kernel
theorem dX10_isFine_30 : decode cX10_isFine 30 = .ok (.iconst 0, 1) := by decide +kernel
theorem dX10_isFine_31 : decode cX10_isFine 31 = .ok (.bipush 63, 2) := by decide +kernel
theorem dX10_isFine_33 : decode cX10_isFine 33 = .ok (.invokestatic 138, 3) := by decide +kernel
theorem dX10_isFine_36 : decode cX10_isFine 36 = .ok (.ireturn, 1) := by decide +kernel
theorem dX10_isFine_37 : decode cX10_isFine 37 = .ok (.iload_n 1, 1) := by decide +kernel
theorem dX10_isFine_38 : decode cX10_isFine 38 = .ok (.invokestatic 142, 3) := by decide +kernel
theorem dX10_isFine_41 : decode cX10_isFine 41 = .ok (.ifCond .ne 5, 3) := by decide +kernel
theorem dX10_isFine_44 : decode cX10_isFine 44 = .ok (.iconst 0, 1) := by decide +kernel
theorem dX10_isFine_45 : decode cX10_isFine 45 = .ok (.ireturn, 1) := by decide +kernel
theorem dX10_isFine_46 : decode cX10_isFine 46 = .ok (.iload_n 0, 1) := by decide +kernel
theorem dX10_isFine_47 : decode cX10_isFine 47 = .ok (.iconst 2, 1) := by decide +kernel
theorem dX10_isFine_48 : decode cX10_isFine 48 = .ok (.if_icmp .ne 10, 3) := by decide +kernel
theorem dX10_isFine_51 : decode cX10_isFine 51 = .ok (.iload_n 2, 1) := by decide +kernel
theorem dX10_isFine_52 : decode cX10_isFine 52 = .ok (.iconst 0, 1) := by decide +kernel
theorem dX10_isFine_53 : decode cX10_isFine 53 = .ok (.iconst 1, 1) := by decide +kernel
theorem dX10_isFine_54 : decode cX10_isFine 54 = .ok (.invokestatic 138, 3) := by decide +kernel
theorem dX10_isFine_57 : decode cX10_isFine 57 = .ok (.ireturn, 1) := by decide +kernel
theorem dX10_isFine_58 : decode cX10_isFine 58 = .ok (.iload_n 0, 1) := by decide +kernel
theorem dX10_isFine_59 : decode cX10_isFine 59 = .ok (.bipush 16, 2) := by decide +kernel
theorem dX10_isFine_61 : decode cX10_isFine 61 = .ok (.if_icmp .ne 11, 3) := by decide +kernel
theorem dX10_isFine_64 : decode cX10_isFine 64 = .ok (.iload_n 2, 1) := by decide +kernel
theorem dX10_isFine_65 : decode cX10_isFine 65 = .ok (.iconst 0, 1) := by decide +kernel
theorem dX10_isFine_66 : decode cX10_isFine 66 = .ok (.bipush 63, 2) := by decide +kernel
theorem dX10_isFine_68 : decode cX10_isFine 68 = .ok (.invokestatic 138, 3) := by decide +kernel
theorem dX10_isFine_71 : decode cX10_isFine 71 = .ok (.ireturn, 1) := by decide +kernel
theorem dX10_isFine_72 : decode cX10_isFine 72 = .ok (.iload_n 0, 1) := by decide +kernel
theorem dX10_isFine_73 : decode cX10_isFine 73 = .ok (.bipush 20, 2) := by decide +kernel
theorem dX10_isFine_75 : decode cX10_isFine 75 = .ok (.if_icmp .ne 12, 3) := by decide +kernel
theorem dX10_isFine_78 : decode cX10_isFine 78 = .ok (.iload_n 2, 1) := by decide +kernel
theorem dX10_isFine_79 : decode cX10_isFine 79 = .ok (.iconst 1, 1) := by decide +kernel
theorem dX10_isFine_80 : decode cX10_isFine 80 = .ok (.sipush 1000, 3) := by decide +kernel
theorem dX10_isFine_83 : decode cX10_isFine 83 = .ok (.invokestatic 138, 3) := by decide +kernel
theorem dX10_isFine_86 : decode cX10_isFine 86 = .ok (.ireturn, 1) := by decide +kernel
theorem dX10_isFine_87 : decode cX10_isFine 87 = .ok (.iload_n 0, 1) := by decide +kernel
theorem dX10_isFine_88 : decode cX10_isFine 88 = .ok (.iconst 3, 1) := by decide +kernel
theorem dX10_isFine_89 : decode cX10_isFine 89 = .ok (.if_icmp .eq 21, 3) := by decide +kernel
theorem dX10_isFine_92 : decode cX10_isFine 92 = .ok (.iload_n 0, 1) := by decide +kernel
theorem dX10_isFine_93 : decode cX10_isFine 93 = .ok (.bipush 11, 2) := by decide +kernel
theorem dX10_isFine_95 : decode cX10_isFine 95 = .ok (.if_icmp .eq 15, 3) := by decide +kernel
theorem dX10_isFine_98 : decode cX10_isFine 98 = .ok (.iload_n 0, 1) := by decide +kernel
theorem dX10_isFine_99 : decode cX10_isFine 99 = .ok (.bipush 13, 2) := by decide +kernel
theorem dX10_isFine_101 : decode cX10_isFine 101 = .ok (.if_icmp .eq 9, 3) := by decide +kernel
theorem dX10_isFine_104 : decode cX10_isFine 104 = .ok (.iload_n 0, 1) := by decide +kernel
theorem dX10_isFine_105 : decode cX10_isFine 105 = .ok (.bipush 14, 2) := by decide +kernel
theorem dX10_isFine_107 : decode cX10_isFine 107 = .ok (.if_icmp .ne 8, 3) := by decide +kernel
theorem dX10_isFine_110 : decode cX10_isFine 110 = .ok (.iload_n 2, 1) := by decide +kernel
theorem dX10_isFine_111 : decode cX10_isFine 111 = .ok (.invokestatic 142, 3) := by decide +kernel
theorem dX10_isFine_114 : decode cX10_isFine 114 = .ok (.ireturn, 1) := by decide +kernel
theorem dX10_isFine_115 : decode cX10_isFine 115 = .ok (.iload_n 0, 1) := by decide +kernel
theorem dX10_isFine_116 : decode cX10_isFine 116 = .ok (.iconst 4, 1) := by decide +kernel
theorem dX10_isFine_117 : decode cX10_isFine 117 = .ok (.bipush 10, 2) := by decide +kernel
theorem dX10_isFine_119 : decode cX10_isFine 119 = .ok (.invokestatic 138, 3) := by decide +kernel
theorem dX10_isFine_122 : decode cX10_isFine 122 = .ok (.ifCond .ne 9, 3) := by decide +kernel
theorem dX10_isFine_125 : decode cX10_isFine 125 = .ok (.iload_n 0, 1) := by decide +kernel
theorem dX10_isFine_126 : decode cX10_isFine 126 = .ok (.bipush 12, 2) := by decide +kernel
theorem dX10_isFine_128 : decode cX10_isFine 128 = .ok (.if_icmp .ne 23, 3) := by decide +kernel
theorem dX10_isFine_131 : decode cX10_isFine 131 = .ok (.iload_n 2, 1) := by decide +kernel
theorem dX10_isFine_132 : decode cX10_isFine 132 = .ok (.invokestatic 142, 3) := by decide +kernel
theorem dX10_isFine_135 : decode cX10_isFine 135 = .ok (.ifCond .eq 14, 3) := by decide +kernel
theorem dX10_isFine_138 : decode cX10_isFine 138 = .ok (.iload_n 3, 1) := by decide +kernel
theorem dX10_isFine_139 : decode cX10_isFine 139 = .ok (.invokestatic 142, 3) := by decide +kernel
theorem dX10_isFine_142 : decode cX10_isFine 142 = .ok (.ifCond .eq 7, 3) := by decide +kernel
theorem dX10_isFine_145 : decode cX10_isFine 145 = .ok (.iconst 1, 1) := by decide +kernel
theorem dX10_isFine_146 : decode cX10_isFine 146 = .ok (.goto 4, 3) := by decide +kernel
theorem dX10_isFine_149 : decode cX10_isFine 149 = .ok (.iconst 0, 1) := by decide +kernel
theorem dX10_isFine_150 : decode cX10_isFine 150 = .ok (.ireturn, 1) := by decide +kernel
theorem dX10_isFine_151 : decode cX10_isFine 151 = .ok (.iload_n 0, 1) := by decide +kernel
theorem dX10_isFine_152 : decode cX10_isFine 152 = .ok (.iconst 1, 1) := by decide +kernel
theorem dX10_isFine_153 : decode cX10_isFine 153 = .ok (.if_icmp .eq 21, 3) := by decide +kernel
theorem dX10_isFine_156 : decode cX10_isFine 156 = .ok (.iload_n 0, 1) := by decide +kernel
theorem dX10_isFine_157 : decode cX10_isFine 157 = .ok (.bipush 19, 2) := by decide +kernel
theorem dX10_isFine_159 : decode cX10_isFine 159 = .ok (.if_icmp .eq 15, 3) := by decide +kernel
theorem dX10_isFine_162 : decode cX10_isFine 162 = .ok (.iload_n 0, 1) := by decide +kernel
theorem dX10_isFine_163 : decode cX10_isFine 163 = .ok (.bipush 21, 2) := by decide +kernel
theorem dX10_isFine_165 : decode cX10_isFine 165 = .ok (.if_icmp .eq 9, 3) := by decide +kernel
theorem dX10_isFine_168 : decode cX10_isFine 168 = .ok (.iload_n 0, 1) := by decide +kernel
theorem dX10_isFine_169 : decode cX10_isFine 169 = .ok (.bipush 22, 2) := by decide +kernel
theorem dX10_isFine_171 : decode cX10_isFine 171 = .ok (.if_icmp .ne 7, 3) := by decide +kernel
theorem dX10_isFine_174 : decode cX10_isFine 174 = .ok (.iconst 1, 1) := by decide +kernel
theorem dX10_isFine_175 : decode cX10_isFine 175 = .ok (.goto 4, 3) := by decide +kernel
theorem dX10_isFine_178 : decode cX10_isFine 178 = .ok (.iconst 0, 1) := by decide +kernel
theorem dX10_isFine_179 : decode cX10_isFine 179 = .ok (.ireturn, 1) := by decide +kernel
theorem dX10_isIn_0 : decode cX10_isIn 0 = .ok (.iload_n 0, 1) := by decide +kernel
theorem dX10_isIn_1 : decode cX10_isIn 1 = .ok (.iload_n 1, 1) := by decide +kernel
theorem dX10_isIn_2 : decode cX10_isIn 2 = .ok (.if_icmp .lt 12, 3) := by decide +kernel
theorem dX10_isIn_5 : decode cX10_isIn 5 = .ok (.iload_n 0, 1) := by decide +kernel
theorem dX10_isIn_6 : decode cX10_isIn 6 = .ok (.iload_n 2, 1) := by decide +kernel
theorem dX10_isIn_7 : decode cX10_isIn 7 = .ok (.if_icmp .gt 7, 3) := by decide +kernel
theorem dX10_isIn_10 : decode cX10_isIn 10 = .ok (.iconst 1, 1) := by decide +kernel
theorem dX10_isIn_11 : decode cX10_isIn 11 = .ok (.goto 4, 3) := by decide +kernel
theorem dX10_isIn_14 : decode cX10_isIn 14 = .ok (.iconst 0, 1) := by decide +kernel
theorem dX10_isIn_15 : decode cX10_isIn 15 = .ok (.ireturn, 1) := by decide +kernel
theorem dX10_isPlace_0 : decode cX10_isPlace 0 = .ok (.iload_n 0, 1) := by decide +kernel
theorem dX10_isPlace_1 : decode cX10_isPlace 1 = .ok (.iconst 0, 1) := by decide +kernel
theorem dX10_isPlace_2 : decode cX10_isPlace 2 = .ok (.bipush 39, 2) := by decide +kernel
theorem dX10_isPlace_4 : decode cX10_isPlace 4 = .ok (.invokestatic 138, 3) := by decide +kernel
theorem dX10_isPlace_7 : decode cX10_isPlace 7 = .ok (.ireturn, 1) := by decide +kernel
theorem dX10_isRegister_0 : decode cX10_isRegister 0 = .ok (.iload_n 0, 1) := by decide +kernel
theorem dX10_isRegister_1 : decode cX10_isRegister 1 = .ok (.iconst 0, 1) := by decide +kernel
theorem dX10_isRegister_2 : decode cX10_isRegister 2 = .ok (.bipush 7, 2) := by decide +kernel
theorem dX10_isRegister_4 : decode cX10_isRegister 4 = .ok (.invokestatic 138, 3) := by decide +kernel
theorem dX10_isRegister_7 : decode cX10_isRegister 7 = .ok (.ireturn, 1) := by decide +kernel
theorem dX10_isSpacing_0 : decode cX10_isSpacing 0 = .ok (.iload_n 0, 1) := by decide +kernel
theorem dX10_isSpacing_1 : decode cX10_isSpacing 1 = .ok (.iconst 1, 1) := by decide +kernel
theorem dX10_isSpacing_2 : decode cX10_isSpacing 2 = .ok (.bipush 64, 2) := by decide +kernel
theorem dX10_isSpacing_4 : decode cX10_isSpacing 4 = .ok (.invokestatic 138, 3) := by decide +kernel
theorem dX10_isSpacing_7 : decode cX10_isSpacing 7 = .ok (.ifCond .eq 17, 3) := by decide +kernel
theorem dX10_isSpacing_10 : decode cX10_isSpacing 10 = .ok (.iload_n 1, 1) := by decide +kernel
theorem dX10_isSpacing_11 : decode cX10_isSpacing 11 = .ok (.iconst 1, 1) := by decide +kernel
theorem dX10_isSpacing_12 : decode cX10_isSpacing 12 = .ok (.bipush 8, 2) := by decide +kernel
theorem dX10_isSpacing_14 : decode cX10_isSpacing 14 = .ok (.invokestatic 138, 3) := by decide +kernel
theorem dX10_isSpacing_17 : decode cX10_isSpacing 17 = .ok (.ifCond .eq 7, 3) := by decide +kernel
theorem dX10_isSpacing_20 : decode cX10_isSpacing 20 = .ok (.iconst 1, 1) := by decide +kernel
theorem dX10_isSpacing_21 : decode cX10_isSpacing 21 = .ok (.goto 4, 3) := by decide +kernel
theorem dX10_isSpacing_24 : decode cX10_isSpacing 24 = .ok (.iconst 0, 1) := by decide +kernel
theorem dX10_isSpacing_25 : decode cX10_isSpacing 25 = .ok (.ireturn, 1) := by decide +kernel
theorem dX10_isValue_0 : decode cX10_isValue 0 = .ok (.iload_n 0, 1) := by decide +kernel
theorem dX10_isValue_1 : decode cX10_isValue 1 = .ok (.ifCond .ne 15, 3) := by decide +kernel
theorem dX10_isValue_4 : decode cX10_isValue 4 = .ok (.iload_n 1, 1) := by decide +kernel
theorem dX10_isValue_5 : decode cX10_isValue 5 = .ok (.ifCond .ne 7, 3) := by decide +kernel
theorem dX10_isValue_8 : decode cX10_isValue 8 = .ok (.iconst 1, 1) := by decide +kernel
theorem dX10_isValue_9 : decode cX10_isValue 9 = .ok (.goto 31, 3) := by decide +kernel
theorem dX10_isValue_12 : decode cX10_isValue 12 = .ok (.iconst 0, 1) := by decide +kernel
theorem dX10_isValue_13 : decode cX10_isValue 13 = .ok (.goto 27, 3) := by decide +kernel
theorem dX10_isValue_16 : decode cX10_isValue 16 = .ok (.iload_n 0, 1) := by decide +kernel
theorem dX10_isValue_17 : decode cX10_isValue 17 = .ok (.iconst 1, 1) := by decide +kernel
theorem dX10_isValue_18 : decode cX10_isValue 18 = .ok (.if_icmp .ne 12, 3) := by decide +kernel
theorem dX10_isValue_21 : decode cX10_isValue 21 = .ok (.iload_n 1, 1) := by decide +kernel
theorem dX10_isValue_22 : decode cX10_isValue 22 = .ok (.iconst 0, 1) := by decide +kernel
theorem dX10_isValue_23 : decode cX10_isValue 23 = .ok (.iconst 1, 1) := by decide +kernel
theorem dX10_isValue_24 : decode cX10_isValue 24 = .ok (.invokestatic 138, 3) := by decide +kernel
theorem dX10_isValue_27 : decode cX10_isValue 27 = .ok (.goto 13, 3) := by decide +kernel
theorem dX10_isValue_30 : decode cX10_isValue 30 = .ok (.iload_n 0, 1) := by decide +kernel
theorem dX10_isValue_31 : decode cX10_isValue 31 = .ok (.iconst 2, 1) := by decide +kernel
theorem dX10_isValue_32 : decode cX10_isValue 32 = .ok (.if_icmp .ne 7, 3) := by decide +kernel
theorem dX10_isValue_35 : decode cX10_isValue 35 = .ok (.iconst 1, 1) := by decide +kernel
theorem dX10_isValue_36 : decode cX10_isValue 36 = .ok (.goto 4, 3) := by decide +kernel
theorem dX10_isValue_39 : decode cX10_isValue 39 = .ok (.iconst 0, 1) := by decide +kernel
theorem dX10_isValue_40 : decode cX10_isValue 40 = .ok (.ireturn, 1) := by decide +kernel
theorem dX10_notes_0 : decode cX10_notes 0 = .ok (.sipush 3200, 3) := by decide +kernel
theorem dX10_notes_3 : decode cX10_notes 3 = .ok (.aload_n 0, 1) := by decide +kernel
theorem dX10_notes_4 : decode cX10_notes 4 = .ok (.getfield 60, 3) := by decide +kernel
theorem dX10_notes_7 : decode cX10_notes 7 = .ok (.iconst 4, 1) := by decide +kernel
theorem dX10_notes_8 : decode cX10_notes 8 = .ok (.iaload, 1) := by decide +kernel
theorem dX10_notes_9 : decode cX10_notes 9 = .ok (.iadd, 1) := by decide +kernel
theorem dX10_notes_10 : decode cX10_notes 10 = .ok (.istore 5, 2) := by decide +kernel
theorem dX10_notes_12 : decode cX10_notes 12 = .ok (.aload_n 0, 1) := by decide +kernel
theorem dX10_notes_13 : decode cX10_notes 13 = .ok (.getfield 45, 3) := by decide +kernel
theorem dX10_notes_16 : decode cX10_notes 16 = .ok (.iload 5, 2) := by decide +kernel
theorem dX10_notes_18 : decode cX10_notes 18 = .ok (.aload_n 0, 1) := by decide +kernel
theorem dX10_notes_19 : decode cX10_notes 19 = .ok (.getfield 78, 3) := by decide +kernel
theorem dX10_notes_22 : decode cX10_notes 22 = .ok (.iconst 4, 1) := by decide +kernel
theorem dX10_notes_23 : decode cX10_notes 23 = .ok (.iaload, 1) := by decide +kernel
theorem dX10_notes_24 : decode cX10_notes 24 = .ok (.iastore, 1) := by decide +kernel
theorem dX10_notes_25 : decode cX10_notes 25 = .ok (.aload_n 0, 1) := by decide +kernel
theorem dX10_notes_26 : decode cX10_notes 26 = .ok (.getfield 48, 3) := by decide +kernel
theorem dX10_notes_29 : decode cX10_notes 29 = .ok (.iload 5, 2) := by decide +kernel
theorem dX10_notes_31 : decode cX10_notes 31 = .ok (.iload_n 1, 1) := by decide +kernel
theorem dX10_notes_32 : decode cX10_notes 32 = .ok (.iastore, 1) := by decide +kernel
theorem dX10_notes_33 : decode cX10_notes 33 = .ok (.aload_n 0, 1) := by decide +kernel
theorem dX10_notes_34 : decode cX10_notes 34 = .ok (.getfield 51, 3) := by decide +kernel
theorem dX10_notes_37 : decode cX10_notes 37 = .ok (.iload 5, 2) := by decide +kernel
theorem dX10_notes_39 : decode cX10_notes 39 = .ok (.iload_n 2, 1) := by decide +kernel
theorem dX10_notes_40 : decode cX10_notes 40 = .ok (.iastore, 1) := by decide +kernel
theorem dX10_notes_41 : decode cX10_notes 41 = .ok (.aload_n 0, 1) := by decide +kernel
theorem dX10_notes_42 : decode cX10_notes 42 = .ok (.getfield 54, 3) := by decide +kernel
theorem dX10_notes_45 : decode cX10_notes 45 = .ok (.iload 5, 2) := by decide +kernel
theorem dX10_notes_47 : decode cX10_notes 47 = .ok (.iload_n 3, 1) := by decide +kernel
theorem dX10_notes_48 : decode cX10_notes 48 = .ok (.iastore, 1) := by decide +kernel
theorem dX10_notes_49 : decode cX10_notes 49 = .ok (.aload_n 0, 1) := by decide +kernel
theorem dX10_notes_50 : decode cX10_notes 50 = .ok (.getfield 57, 3) := by decide +kernel
theorem dX10_notes_53 : decode cX10_notes 53 = .ok (.iload 5, 2) := by decide +kernel
theorem dX10_notes_55 : decode cX10_notes 55 = .ok (.iload 4, 2) := by decide +kernel
theorem dX10_notes_57 : decode cX10_notes 57 = .ok (.iastore, 1) := by decide +kernel
theorem dX10_notes_58 : decode cX10_notes 58 = .ok (.aload_n 0, 1) := by decide +kernel
theorem dX10_notes_59 : decode cX10_notes 59 = .ok (.getfield 60, 3) := by decide +kernel
theorem dX10_notes_62 : decode cX10_notes 62 = .ok (.iconst 4, 1) := by decide +kernel
theorem dX10_notes_63 : decode cX10_notes 63 = .ok (.dup2, 1) := by decide +kernel
theorem dX10_notes_64 : decode cX10_notes 64 = .ok (.iaload, 1) := by decide +kernel
theorem dX10_notes_65 : decode cX10_notes 65 = .ok (.iconst 1, 1) := by decide +kernel
theorem dX10_notes_66 : decode cX10_notes 66 = .ok (.iadd, 1) := by decide +kernel
theorem dX10_notes_67 : decode cX10_notes 67 = .ok (.iastore, 1) := by decide +kernel
theorem dX10_notes_68 : decode cX10_notes 68 = .ok (.return_, 1) := by decide +kernel
theorem dX10_one_0 : decode cX10_one 0 = .ok (.iload_n 0, 1) := by decide +kernel
theorem dX10_one_1 : decode cX10_one 1 = .ok (.ifCond .eq 7, 3) := by decide +kernel
theorem dX10_one_4 : decode cX10_one 4 = .ok (.iconst 1, 1) := by decide +kernel
theorem dX10_one_5 : decode cX10_one 5 = .ok (.goto 4, 3) := by decide +kernel
theorem dX10_one_8 : decode cX10_one 8 = .ok (.iconst 0, 1) := by decide +kernel
theorem dX10_one_9 : decode cX10_one 9 = .ok (.ireturn, 1) := by decide +kernel
theorem dX10_puts_0 : decode cX10_puts 0 = .ok (.aload_n 0, 1) := by decide +kernel
theorem dX10_puts_1 : decode cX10_puts 1 = .ok (.bipush 80, 2) := by decide +kernel
theorem dX10_puts_3 : decode cX10_puts 3 = .ok (.iload_n 1, 1) := by decide +kernel
theorem dX10_puts_4 : decode cX10_puts 4 = .ok (.iadd, 1) := by decide +kernel
theorem dX10_puts_5 : decode cX10_puts 5 = .ok (.dup2, 1) := by decide +kernel
theorem dX10_puts_6 : decode cX10_puts 6 = .ok (.iaload, 1) := by decide +kernel
theorem dX10_puts_7 : decode cX10_puts 7 = .ok (.aload_n 0, 1) := by decide +kernel
theorem dX10_puts_8 : decode cX10_puts 8 = .ok (.iconst 0, 1) := by decide +kernel
theorem dX10_puts_9 : decode cX10_puts 9 = .ok (.iload_n 1, 1) := by decide +kernel
theorem dX10_puts_10 : decode cX10_puts 10 = .ok (.iadd, 1) := by decide +kernel
theorem dX10_puts_11 : decode cX10_puts 11 = .ok (.iaload, 1) := by decide +kernel
theorem dX10_puts_12 : decode cX10_puts 12 = .ok (.iload_n 2, 1) := by decide +kernel
theorem dX10_puts_13 : decode cX10_puts 13 = .ok (.if_icmp .ne 13, 3) := by decide +kernel
theorem dX10_puts_16 : decode cX10_puts 16 = .ok (.aload_n 0, 1) := by decide +kernel
theorem dX10_puts_17 : decode cX10_puts 17 = .ok (.bipush 40, 2) := by decide +kernel
theorem dX10_puts_19 : decode cX10_puts 19 = .ok (.iload_n 1, 1) := by decide +kernel
theorem dX10_puts_20 : decode cX10_puts 20 = .ok (.iadd, 1) := by decide +kernel
theorem dX10_puts_21 : decode cX10_puts 21 = .ok (.iaload, 1) := by decide +kernel
theorem dX10_puts_22 : decode cX10_puts 22 = .ok (.iload_n 3, 1) := by decide +kernel
theorem dX10_puts_23 : decode cX10_puts 23 = .ok (.if_icmp .eq 7, 3) := by decide +kernel
theorem dX10_puts_26 : decode cX10_puts 26 = .ok (.iconst 1, 1) := by decide +kernel
theorem dX10_puts_27 : decode cX10_puts 27 = .ok (.goto 4, 3) := by decide +kernel
theorem dX10_puts_30 : decode cX10_puts 30 = .ok (.iconst 0, 1) := by decide +kernel
theorem dX10_puts_31 : decode cX10_puts 31 = .ok (.invokestatic 154, 3) := by decide +kernel
theorem dX10_puts_34 : decode cX10_puts 34 = .ok (.iadd, 1) := by decide +kernel
theorem dX10_puts_35 : decode cX10_puts 35 = .ok (.iastore, 1) := by decide +kernel
theorem dX10_puts_36 : decode cX10_puts 36 = .ok (.aload_n 0, 1) := by decide +kernel
theorem dX10_puts_37 : decode cX10_puts 37 = .ok (.iconst 0, 1) := by decide +kernel
theorem dX10_puts_38 : decode cX10_puts 38 = .ok (.iload_n 1, 1) := by decide +kernel
theorem dX10_puts_39 : decode cX10_puts 39 = .ok (.iadd, 1) := by decide +kernel
theorem dX10_puts_40 : decode cX10_puts 40 = .ok (.iload_n 2, 1) := by decide +kernel
theorem dX10_puts_41 : decode cX10_puts 41 = .ok (.iastore, 1) := by decide +kernel
theorem dX10_puts_42 : decode cX10_puts 42 = .ok (.aload_n 0, 1) := by decide +kernel
theorem dX10_puts_43 : decode cX10_puts 43 = .ok (.bipush 40, 2) := by decide +kernel
theorem dX10_puts_45 : decode cX10_puts 45 = .ok (.iload_n 1, 1) := by decide +kernel
theorem dX10_puts_46 : decode cX10_puts 46 = .ok (.iadd, 1) := by decide +kernel
theorem dX10_puts_47 : decode cX10_puts 47 = .ok (.iload_n 3, 1) := by decide +kernel
theorem dX10_puts_48 : decode cX10_puts 48 = .ok (.iastore, 1) := by decide +kernel
theorem dX10_puts_49 : decode cX10_puts 49 = .ok (.return_, 1) := by decide +kernel
theorem dX10_seed_0 : decode cX10_seed 0 = .ok (.aload_n 0, 1) := by decide +kernel
theorem dX10_seed_1 : decode cX10_seed 1 = .ok (.getfield 108, 3) := by decide +kernel
theorem dX10_seed_4 : decode cX10_seed 4 = .ok (.istore_n 2, 1) := by decide +kernel
theorem dX10_seed_5 : decode cX10_seed 5 = .ok (.aload_n 0, 1) := by decide +kernel
theorem dX10_seed_6 : decode cX10_seed 6 = .ok (.iload_n 1, 1) := by decide +kernel
theorem dX10_seed_7 : decode cX10_seed 7 = .ok (.putfield 108, 3) := by decide +kernel
theorem dX10_seed_10 : decode cX10_seed 10 = .ok (.iload_n 2, 1) := by decide +kernel
theorem dX10_seed_11 : decode cX10_seed 11 = .ok (.ireturn, 1) := by decide +kernel
theorem dX10_spacing_0 : decode cX10_spacing 0 = .ok (.iload_n 1, 1) := by decide +kernel
theorem dX10_spacing_1 : decode cX10_spacing 1 = .ok (.iload_n 2, 1) := by decide +kernel
theorem dX10_spacing_2 : decode cX10_spacing 2 = .ok (.invokestatic 150, 3) := by decide +kernel
theorem dX10_spacing_5 : decode cX10_spacing 5 = .ok (.ifCond .ne 5, 3) := by decide +kernel
theorem dX10_spacing_8 : decode cX10_spacing 8 = .ok (.iconst 0, 1) := by decide +kernel
theorem dX10_spacing_9 : decode cX10_spacing 9 = .ok (.ireturn, 1) := by decide +kernel
theorem dX10_spacing_10 : decode cX10_spacing 10 = .ok (.aload_n 0, 1) := by decide +kernel
theorem dX10_spacing_11 : decode cX10_spacing 11 = .ok (.iload_n 1, 1) := by decide +kernel
theorem dX10_spacing_12 : decode cX10_spacing 12 = .ok (.putfield 22, 3) := by decide +kernel
theorem dX10_spacing_15 : decode cX10_spacing 15 = .ok (.aload_n 0, 1) := by decide +kernel
theorem dX10_spacing_16 : decode cX10_spacing 16 = .ok (.iload_n 2, 1) := by decide +kernel
theorem dX10_spacing_17 : decode cX10_spacing 17 = .ok (.putfield 26, 3) := by decide +kernel
theorem dX10_spacing_20 : decode cX10_spacing 20 = .ok (.iconst 1, 1) := by decide +kernel
theorem dX10_spacing_21 : decode cX10_spacing 21 = .ok (.ireturn, 1) := by decide +kernel
def shM : List rg_S := [.inl (9, [3, 4, 5, 6, 0, 0, 7, 8, 9, 10, 11, 12, 13, 14, 15, 16, 17, 18, 19, 20, 21, 22, 23, 24, 25, 26, 27, 28, 29, 0, 0, 30, 31, 0, 0, 0, 32, 0, 0, 0, 33, 0, 0, 34, 35, 36, 37, 0, 0, 0, 0, 38, 39, 0, 0]), .inr (.inl (0, 64)), .inr (.inl (0, 64)), .inr (.inl (0, 64)), .inr (.inl (0, 64)), .inr (.inl (1, 5)), .inr (.inl (0, 320)), .inr (.inl (0, 320)), .inr (.inl (0, 320)), .inr (.inl (0, 320)), .inr (.inl (0, 4000)), .inr (.inl (0, 4000)), .inr (.inl (0, 4000)), .inr (.inl (0, 4000)), .inr (.inl (0, 4000)), .inr (.inl (0, 5)), .inr (.inl (0, 500)), .inr (.inl (0, 500)), .inr (.inl (0, 500)), .inr (.inl (0, 5)), .inr (.inl (1, 15005)), .inr (.inl (0, 5)), .inr (.inl (0, 5)), .inr (.inl (0, 5)), .inr (.inl (0, 5)), .inr (.inl (0, 5)), .inr (.inl (0, 5)), .inr (.inl (0, 5)), .inr (.inl (0, 134)), .inr (.inl (0, 1000)), .inr (.inl (1, 40)), .inr (.inl (0, 134)), .inr (.inl (0, 40)), .inr (.inl (0, 4760)), .inr (.inl (0, 119)), .inr (.inl (0, 10201)), .inr (.inl (0, 134)), .inr (.inl (0, 134))]
def g_X10_isIn (x0 : Int32) (x1 : Int32) (x2 : Int32) : Int32 :=
  if x0 < x1 then (0) else (if x2 < x0 then (0) else (1))
theorem g_X10_isIn_b {x0 : Int32} {x1 : Int32} {x2 : Int32} : g_X10_isIn x0 x1 x2 = 0 ∨ g_X10_isIn x0 x1 x2 = 1 := by
  unfold g_X10_isIn
  repeat' (first | exact Or.inl rfl | exact Or.inr rfl | refine it_b ?_ ?_)
set_option maxHeartbeats 4000000 in
set_option maxRecDepth 100000 in
theorem k_X10_isIn {gs : List String} {ro : pm_RO} {n : Nat} {w : Nat → va_E} {x0 : Int32} {x1 : Int32} {x2 : Int32} {z : Int32} (h : g_X10_isIn x0 x1 x2 = z) : pm_Met gs ro M_X10_isIn 0 0 0 [.int x0, .int x1, .int x2] n w (pm_p n w (some (.int z))) := by
  unfold g_X10_isIn at h
  refine pm_ofX in_X10_isIn (Nat.le_of_ble_eq_true rfl) rfl (L := [some (.int x0), some (.int x1), some (.int x2)]) rfl ?_
  refine pm_iload_n dX10_isIn_0 rfl ?_
  refine pm_iload_n dX10_isIn_1 rfl ?_
  refine pm_icmp_lt (tgt := 14) dX10_isIn_2 (by decide) (fun c1 => ?_) (fun c1 => ?_)
  · replace h := it_t c1 h
    refine pm_iconst (v := 0) dX10_isIn_14 (by decide) ?_
    subst h
    exact pm_zret dX10_isIn_15 rfl (Or.inl rfl) (Nat.le_refl _) (Nat.le_refl _) ⟨rfl, rfl, rfl⟩
  · replace h := it_f c1 h
    refine pm_iload_n dX10_isIn_5 rfl ?_
    refine pm_iload_n dX10_isIn_6 rfl ?_
    refine pm_icmp_gt (tgt := 14) dX10_isIn_7 (by decide) (fun c2 => ?_) (fun c2 => ?_)
    · replace h := it_t c2 h
      refine pm_iconst (v := 0) dX10_isIn_14 (by decide) ?_
      subst h
      exact pm_zret dX10_isIn_15 rfl (Or.inl rfl) (Nat.le_refl _) (Nat.le_refl _) ⟨rfl, rfl, rfl⟩
    · replace h := it_f c2 h
      refine pm_iconst (v := 1) dX10_isIn_10 (by decide) ?_
      refine pm_goto (tgt := 15) dX10_isIn_11 (by decide) ?_
      subst h
      exact pm_zret dX10_isIn_15 rfl (Or.inr rfl) (Nat.le_refl _) (Nat.le_refl _) ⟨rfl, rfl, rfl⟩
def g_X10_one (x0 : Int32) : Int32 :=
  if x0 = 0 then (0) else (1)
set_option maxHeartbeats 4000000 in
set_option maxRecDepth 100000 in
theorem k_X10_one {gs : List String} {ro : pm_RO} {n : Nat} {w : Nat → va_E} {x0 : Int32} {z : Int32} (h : g_X10_one x0 = z) : pm_Met gs ro M_X10_one 0 0 0 [.int x0] n w (pm_p n w (some (.int z))) := by
  unfold g_X10_one at h
  refine pm_ofX in_X10_one (Nat.le_of_ble_eq_true rfl) rfl (L := [some (.int x0)]) rfl ?_
  refine pm_iload_n dX10_one_0 rfl ?_
  refine pm_if_eq (tgt := 8) dX10_one_1 (by decide) (fun c1 => ?_) (fun c1 => ?_)
  · replace h := it_t c1 h
    refine pm_iconst (v := 0) dX10_one_8 (by decide) ?_
    subst h
    exact pm_iret dX10_one_9 rfl (Nat.le_refl _) (Nat.le_refl _) ⟨rfl, rfl, rfl⟩
  · replace h := it_f c1 h
    refine pm_iconst (v := 1) dX10_one_4 (by decide) ?_
    refine pm_goto (tgt := 9) dX10_one_5 (by decide) ?_
    subst h
    exact pm_iret dX10_one_9 rfl (Nat.le_refl _) (Nat.le_refl _) ⟨rfl, rfl, rfl⟩
def g_X10_isRegister (x0 : Int32) : Int32 :=
  (g_X10_isIn x0 0 7)
theorem g_X10_isRegister_b {x0 : Int32} : g_X10_isRegister x0 = 0 ∨ g_X10_isRegister x0 = 1 := by
  unfold g_X10_isRegister
  repeat' (first | exact Or.inl rfl | exact Or.inr rfl | exact g_X10_isIn_b | refine it_b ?_ ?_)
set_option maxHeartbeats 4000000 in
set_option maxRecDepth 100000 in
theorem k_X10_isRegister {gs : List String} {ro : pm_RO} {n : Nat} {w : Nat → va_E} {x0 : Int32} {z : Int32} (h : g_X10_isRegister x0 = z) : pm_Met gs ro M_X10_isRegister 1 0 0 [.int x0] n w (pm_p n w (some (.int z))) := by
  unfold g_X10_isRegister at h
  refine pm_ofX in_X10_isRegister (Nat.le_of_ble_eq_true rfl) rfl (L := [some (.int x0)]) rfl ?_
  refine pm_iload_n dX10_isRegister_0 rfl ?_
  refine pm_iconst (v := 0) dX10_isRegister_1 (by decide) ?_
  refine pm_bipush (v := 7) dX10_isRegister_2 (by decide) ?_
  refine dx_cSp (M := M_X10_isRegister) (Mc := M_X10_isIn) (dc := 0) (As := [.int x0, .int 0, .int 7]) (st := []) dX10_isRegister_4 ml_X10_138 (by decide) (Nat.le_of_ble_eq_true rfl) rfl (k_X10_isIn rfl) ?_
  subst h
  exact pm_zret dX10_isRegister_7 rfl g_X10_isIn_b (Nat.le_refl _) (Nat.le_refl _) ⟨rfl, rfl, rfl⟩
def g_X10_isFine_j29 (l1 : Int32) : Int32 :=
  (g_X10_isIn l1 0 63)
theorem g_X10_isFine_j29_b {l1 : Int32} : g_X10_isFine_j29 l1 = 0 ∨ g_X10_isFine_j29 l1 = 1 := by
  unfold g_X10_isFine_j29
  repeat' (first | exact Or.inl rfl | exact Or.inr rfl | exact g_X10_isIn_b | refine it_b ?_ ?_)
set_option maxHeartbeats 4000000 in
set_option maxRecDepth 100000 in
theorem k_X10_isFine_j29 {gs : List String} {ro : pm_RO} {n : Nat} {w : Nat → va_E} {l1 : Int32} {z : Int32} (h : g_X10_isFine_j29 l1 = z) : pm_X gs ro M_X10_isFine 2 0 0 0 0 29 [none, some (.int l1), none, none] [] n w (pm_p n w (some (.int z))) := by
  unfold g_X10_isFine_j29 at h
  refine pm_iload_n dX10_isFine_29 rfl ?_
  refine pm_iconst (v := 0) dX10_isFine_30 (by decide) ?_
  refine pm_bipush (v := 63) dX10_isFine_31 (by decide) ?_
  refine dx_cSp (M := M_X10_isFine) (Mc := M_X10_isIn) (dc := 0) (As := [.int l1, .int 0, .int 63]) (st := []) dX10_isFine_33 ml_X10_138 (by decide) (Nat.le_of_ble_eq_true rfl) rfl (k_X10_isIn rfl) ?_
  subst h
  exact pm_zret dX10_isFine_36 rfl g_X10_isIn_b (Nat.le_refl _) (Nat.le_refl _) ⟨rfl, rfl, rfl⟩
def g_X10_isFine_j110 (l2 : Int32) : Int32 :=
  (g_X10_isRegister l2)
theorem g_X10_isFine_j110_b {l2 : Int32} : g_X10_isFine_j110 l2 = 0 ∨ g_X10_isFine_j110 l2 = 1 := by
  unfold g_X10_isFine_j110
  repeat' (first | exact Or.inl rfl | exact Or.inr rfl | exact g_X10_isRegister_b | refine it_b ?_ ?_)
set_option maxHeartbeats 4000000 in
set_option maxRecDepth 100000 in
theorem k_X10_isFine_j110 {gs : List String} {ro : pm_RO} {n : Nat} {w : Nat → va_E} {l2 : Int32} {z : Int32} (h : g_X10_isFine_j110 l2 = z) : pm_X gs ro M_X10_isFine 2 0 0 0 0 110 [none, none, some (.int l2), none] [] n w (pm_p n w (some (.int z))) := by
  unfold g_X10_isFine_j110 at h
  refine pm_iload_n dX10_isFine_110 rfl ?_
  refine dx_cSp (M := M_X10_isFine) (Mc := M_X10_isRegister) (dc := 1) (As := [.int l2]) (st := []) dX10_isFine_111 ml_X10_142 (by decide) (Nat.le_of_ble_eq_true rfl) rfl (k_X10_isRegister rfl) ?_
  subst h
  exact pm_zret dX10_isFine_114 rfl g_X10_isRegister_b (Nat.le_refl _) (Nat.le_refl _) ⟨rfl, rfl, rfl⟩
def g_X10_isFine_j131 (l2 : Int32) (l3 : Int32) : Int32 :=
  if (g_X10_isRegister l2) = 0 then (0) else (if (g_X10_isRegister l3) = 0 then (0) else (1))
theorem g_X10_isFine_j131_b {l2 : Int32} {l3 : Int32} : g_X10_isFine_j131 l2 l3 = 0 ∨ g_X10_isFine_j131 l2 l3 = 1 := by
  unfold g_X10_isFine_j131
  repeat' (first | exact Or.inl rfl | exact Or.inr rfl | exact g_X10_isRegister_b | refine it_b ?_ ?_)
set_option maxHeartbeats 4000000 in
set_option maxRecDepth 100000 in
theorem k_X10_isFine_j131 {gs : List String} {ro : pm_RO} {n : Nat} {w : Nat → va_E} {l2 : Int32} {l3 : Int32} {z : Int32} (h : g_X10_isFine_j131 l2 l3 = z) : pm_X gs ro M_X10_isFine 2 0 0 0 0 131 [none, none, some (.int l2), some (.int l3)] [] n w (pm_p n w (some (.int z))) := by
  unfold g_X10_isFine_j131 at h
  refine pm_iload_n dX10_isFine_131 rfl ?_
  refine dx_cSp (M := M_X10_isFine) (Mc := M_X10_isRegister) (dc := 1) (As := [.int l2]) (st := []) dX10_isFine_132 ml_X10_142 (by decide) (Nat.le_of_ble_eq_true rfl) rfl (k_X10_isRegister rfl) ?_
  refine pm_if_eq (tgt := 149) dX10_isFine_135 (by decide) (fun c15 => ?_) (fun c15 => ?_)
  · replace h := it_t c15 h
    refine pm_iconst (v := 0) dX10_isFine_149 (by decide) ?_
    subst h
    exact pm_zret dX10_isFine_150 rfl (Or.inl rfl) (Nat.le_refl _) (Nat.le_refl _) ⟨rfl, rfl, rfl⟩
  · replace h := it_f c15 h
    refine pm_iload_n dX10_isFine_138 rfl ?_
    refine dx_cSp (M := M_X10_isFine) (Mc := M_X10_isRegister) (dc := 1) (As := [.int l3]) (st := []) dX10_isFine_139 ml_X10_142 (by decide) (Nat.le_of_ble_eq_true rfl) rfl (k_X10_isRegister rfl) ?_
    refine pm_if_eq (tgt := 149) dX10_isFine_142 (by decide) (fun c16 => ?_) (fun c16 => ?_)
    · replace h := it_t c16 h
      refine pm_iconst (v := 0) dX10_isFine_149 (by decide) ?_
      subst h
      exact pm_zret dX10_isFine_150 rfl (Or.inl rfl) (Nat.le_refl _) (Nat.le_refl _) ⟨rfl, rfl, rfl⟩
    · replace h := it_f c16 h
      refine pm_iconst (v := 1) dX10_isFine_145 (by decide) ?_
      refine pm_goto (tgt := 150) dX10_isFine_146 (by decide) ?_
      subst h
      exact pm_zret dX10_isFine_150 rfl (Or.inr rfl) (Nat.le_refl _) (Nat.le_refl _) ⟨rfl, rfl, rfl⟩
def g_X10_isFine (x0 : Int32) (x1 : Int32) (x2 : Int32) (x3 : Int32) : Int32 :=
  if x0 = (-1) then (1) else (if x0 = 0 then (1) else (if x0 = 18 then (1) else (if x0 = 15 then (g_X10_isFine_j29 x1) else (if x0 = 17 then (g_X10_isFine_j29 x1) else (if (g_X10_isRegister x1) = 0 then (0) else (if x0 = 2 then ((g_X10_isIn x2 0 1)) else (if x0 = 16 then ((g_X10_isIn x2 0 63)) else (if x0 = 20 then ((g_X10_isIn x2 1 1000)) else (if x0 = 3 then (g_X10_isFine_j110 x2) else (if x0 = 11 then (g_X10_isFine_j110 x2) else (if x0 = 13 then (g_X10_isFine_j110 x2) else (if x0 = 14 then (g_X10_isFine_j110 x2) else (if (g_X10_isIn x0 4 10) = 0 then (if x0 = 12 then (g_X10_isFine_j131 x2 x3) else (if x0 = 1 then (1) else (if x0 = 19 then (1) else (if x0 = 21 then (1) else (if x0 = 22 then (1) else (0)))))) else (g_X10_isFine_j131 x2 x3))))))))))))))
theorem g_X10_isFine_b {x0 : Int32} {x1 : Int32} {x2 : Int32} {x3 : Int32} : g_X10_isFine x0 x1 x2 x3 = 0 ∨ g_X10_isFine x0 x1 x2 x3 = 1 := by
  unfold g_X10_isFine
  repeat' (first | exact Or.inl rfl | exact Or.inr rfl | exact g_X10_isFine_j110_b | exact g_X10_isFine_j131_b | exact g_X10_isFine_j29_b | exact g_X10_isIn_b | exact g_X10_isRegister_b | refine it_b ?_ ?_)
set_option maxHeartbeats 4000000 in
set_option maxRecDepth 100000 in
theorem k_X10_isFine {gs : List String} {ro : pm_RO} {n : Nat} {w : Nat → va_E} {x0 : Int32} {x1 : Int32} {x2 : Int32} {x3 : Int32} {z : Int32} (h : g_X10_isFine x0 x1 x2 x3 = z) : pm_Met gs ro M_X10_isFine 2 0 0 [.int x0, .int x1, .int x2, .int x3] n w (pm_p n w (some (.int z))) := by
  unfold g_X10_isFine at h
  refine pm_ofX in_X10_isFine (Nat.le_of_ble_eq_true rfl) rfl (L := [some (.int x0), some (.int x1), some (.int x2), some (.int x3)]) rfl ?_
  refine pm_iload_n dX10_isFine_0 rfl ?_
  refine pm_iconst (v := (-1)) dX10_isFine_1 (by decide) ?_
  refine pm_icmp_eq (tgt := 15) dX10_isFine_2 (by decide) (fun c1 => ?_) (fun c1 => ?_)
  · replace h := it_t c1 h
    refine pm_iconst (v := 1) dX10_isFine_15 (by decide) ?_
    subst h
    exact pm_zret dX10_isFine_16 rfl (Or.inr rfl) (Nat.le_refl _) (Nat.le_refl _) ⟨rfl, rfl, rfl⟩
  · replace h := it_f c1 h
    refine pm_iload_n dX10_isFine_5 rfl ?_
    refine pm_if_eq (tgt := 15) dX10_isFine_6 (by decide) (fun c2 => ?_) (fun c2 => ?_)
    · replace h := it_t c2 h
      refine pm_iconst (v := 1) dX10_isFine_15 (by decide) ?_
      subst h
      exact pm_zret dX10_isFine_16 rfl (Or.inr rfl) (Nat.le_refl _) (Nat.le_refl _) ⟨rfl, rfl, rfl⟩
    · replace h := it_f c2 h
      refine pm_iload_n dX10_isFine_9 rfl ?_
      refine pm_bipush (v := 18) dX10_isFine_10 (by decide) ?_
      refine pm_icmp_ne (tgt := 17) dX10_isFine_12 (by decide) (fun c3 => ?_) (fun c3 => ?_)
      · replace h := it_f c3 h
        refine pm_iload_n dX10_isFine_17 rfl ?_
        refine pm_bipush (v := 15) dX10_isFine_18 (by decide) ?_
        refine pm_icmp_eq (tgt := 29) dX10_isFine_20 (by decide) (fun c4 => ?_) (fun c4 => ?_)
        · replace h := it_t c4 h
          refine pm_lw (L' := [none, some (.int x1), none, none]) ⟨Or.inl rfl, Or.inr rfl, Or.inl rfl, Or.inl rfl, trivial⟩ ?_
          exact k_X10_isFine_j29 h
        · replace h := it_f c4 h
          refine pm_iload_n dX10_isFine_23 rfl ?_
          refine pm_bipush (v := 17) dX10_isFine_24 (by decide) ?_
          refine pm_icmp_ne (tgt := 37) dX10_isFine_26 (by decide) (fun c5 => ?_) (fun c5 => ?_)
          · replace h := it_f c5 h
            refine pm_iload_n dX10_isFine_37 rfl ?_
            refine dx_cSp (M := M_X10_isFine) (Mc := M_X10_isRegister) (dc := 1) (As := [.int x1]) (st := []) dX10_isFine_38 ml_X10_142 (by decide) (Nat.le_of_ble_eq_true rfl) rfl (k_X10_isRegister rfl) ?_
            refine pm_if_ne (tgt := 46) dX10_isFine_41 (by decide) (fun c6 => ?_) (fun c6 => ?_)
            · replace h := it_f c6 h
              refine pm_iload_n dX10_isFine_46 rfl ?_
              refine pm_iconst (v := 2) dX10_isFine_47 (by decide) ?_
              refine pm_icmp_ne (tgt := 58) dX10_isFine_48 (by decide) (fun c7 => ?_) (fun c7 => ?_)
              · replace h := it_f c7 h
                refine pm_iload_n dX10_isFine_58 rfl ?_
                refine pm_bipush (v := 16) dX10_isFine_59 (by decide) ?_
                refine pm_icmp_ne (tgt := 72) dX10_isFine_61 (by decide) (fun c8 => ?_) (fun c8 => ?_)
                · replace h := it_f c8 h
                  refine pm_iload_n dX10_isFine_72 rfl ?_
                  refine pm_bipush (v := 20) dX10_isFine_73 (by decide) ?_
                  refine pm_icmp_ne (tgt := 87) dX10_isFine_75 (by decide) (fun c9 => ?_) (fun c9 => ?_)
                  · replace h := it_f c9 h
                    refine pm_iload_n dX10_isFine_87 rfl ?_
                    refine pm_iconst (v := 3) dX10_isFine_88 (by decide) ?_
                    refine pm_icmp_eq (tgt := 110) dX10_isFine_89 (by decide) (fun c10 => ?_) (fun c10 => ?_)
                    · replace h := it_t c10 h
                      refine pm_lw (L' := [none, none, some (.int x2), none]) ⟨Or.inl rfl, Or.inl rfl, Or.inr rfl, Or.inl rfl, trivial⟩ ?_
                      exact k_X10_isFine_j110 h
                    · replace h := it_f c10 h
                      refine pm_iload_n dX10_isFine_92 rfl ?_
                      refine pm_bipush (v := 11) dX10_isFine_93 (by decide) ?_
                      refine pm_icmp_eq (tgt := 110) dX10_isFine_95 (by decide) (fun c11 => ?_) (fun c11 => ?_)
                      · replace h := it_t c11 h
                        refine pm_lw (L' := [none, none, some (.int x2), none]) ⟨Or.inl rfl, Or.inl rfl, Or.inr rfl, Or.inl rfl, trivial⟩ ?_
                        exact k_X10_isFine_j110 h
                      · replace h := it_f c11 h
                        refine pm_iload_n dX10_isFine_98 rfl ?_
                        refine pm_bipush (v := 13) dX10_isFine_99 (by decide) ?_
                        refine pm_icmp_eq (tgt := 110) dX10_isFine_101 (by decide) (fun c12 => ?_) (fun c12 => ?_)
                        · replace h := it_t c12 h
                          refine pm_lw (L' := [none, none, some (.int x2), none]) ⟨Or.inl rfl, Or.inl rfl, Or.inr rfl, Or.inl rfl, trivial⟩ ?_
                          exact k_X10_isFine_j110 h
                        · replace h := it_f c12 h
                          refine pm_iload_n dX10_isFine_104 rfl ?_
                          refine pm_bipush (v := 14) dX10_isFine_105 (by decide) ?_
                          refine pm_icmp_ne (tgt := 115) dX10_isFine_107 (by decide) (fun c13 => ?_) (fun c13 => ?_)
                          · replace h := it_f c13 h
                            refine pm_iload_n dX10_isFine_115 rfl ?_
                            refine pm_iconst (v := 4) dX10_isFine_116 (by decide) ?_
                            refine pm_bipush (v := 10) dX10_isFine_117 (by decide) ?_
                            refine dx_cSp (M := M_X10_isFine) (Mc := M_X10_isIn) (dc := 0) (As := [.int x0, .int 4, .int 10]) (st := []) dX10_isFine_119 ml_X10_138 (by decide) (Nat.le_of_ble_eq_true rfl) rfl (k_X10_isIn rfl) ?_
                            refine pm_if_ne (tgt := 131) dX10_isFine_122 (by decide) (fun c14 => ?_) (fun c14 => ?_)
                            · replace h := it_f c14 h
                              refine pm_lw (L' := [none, none, some (.int x2), some (.int x3)]) ⟨Or.inl rfl, Or.inl rfl, Or.inr rfl, Or.inr rfl, trivial⟩ ?_
                              exact k_X10_isFine_j131 h
                            · replace h := it_t c14 h
                              refine pm_iload_n dX10_isFine_125 rfl ?_
                              refine pm_bipush (v := 12) dX10_isFine_126 (by decide) ?_
                              refine pm_icmp_ne (tgt := 151) dX10_isFine_128 (by decide) (fun c17 => ?_) (fun c17 => ?_)
                              · replace h := it_f c17 h
                                refine pm_iload_n dX10_isFine_151 rfl ?_
                                refine pm_iconst (v := 1) dX10_isFine_152 (by decide) ?_
                                refine pm_icmp_eq (tgt := 174) dX10_isFine_153 (by decide) (fun c18 => ?_) (fun c18 => ?_)
                                · replace h := it_t c18 h
                                  refine pm_iconst (v := 1) dX10_isFine_174 (by decide) ?_
                                  refine pm_goto (tgt := 179) dX10_isFine_175 (by decide) ?_
                                  subst h
                                  exact pm_zret dX10_isFine_179 rfl (Or.inr rfl) (Nat.le_refl _) (Nat.le_refl _) ⟨rfl, rfl, rfl⟩
                                · replace h := it_f c18 h
                                  refine pm_iload_n dX10_isFine_156 rfl ?_
                                  refine pm_bipush (v := 19) dX10_isFine_157 (by decide) ?_
                                  refine pm_icmp_eq (tgt := 174) dX10_isFine_159 (by decide) (fun c19 => ?_) (fun c19 => ?_)
                                  · replace h := it_t c19 h
                                    refine pm_iconst (v := 1) dX10_isFine_174 (by decide) ?_
                                    refine pm_goto (tgt := 179) dX10_isFine_175 (by decide) ?_
                                    subst h
                                    exact pm_zret dX10_isFine_179 rfl (Or.inr rfl) (Nat.le_refl _) (Nat.le_refl _) ⟨rfl, rfl, rfl⟩
                                  · replace h := it_f c19 h
                                    refine pm_iload_n dX10_isFine_162 rfl ?_
                                    refine pm_bipush (v := 21) dX10_isFine_163 (by decide) ?_
                                    refine pm_icmp_eq (tgt := 174) dX10_isFine_165 (by decide) (fun c20 => ?_) (fun c20 => ?_)
                                    · replace h := it_t c20 h
                                      refine pm_iconst (v := 1) dX10_isFine_174 (by decide) ?_
                                      refine pm_goto (tgt := 179) dX10_isFine_175 (by decide) ?_
                                      subst h
                                      exact pm_zret dX10_isFine_179 rfl (Or.inr rfl) (Nat.le_refl _) (Nat.le_refl _) ⟨rfl, rfl, rfl⟩
                                    · replace h := it_f c20 h
                                      refine pm_iload_n dX10_isFine_168 rfl ?_
                                      refine pm_bipush (v := 22) dX10_isFine_169 (by decide) ?_
                                      refine pm_icmp_ne (tgt := 178) dX10_isFine_171 (by decide) (fun c21 => ?_) (fun c21 => ?_)
                                      · replace h := it_f c21 h
                                        refine pm_iconst (v := 0) dX10_isFine_178 (by decide) ?_
                                        subst h
                                        exact pm_zret dX10_isFine_179 rfl (Or.inl rfl) (Nat.le_refl _) (Nat.le_refl _) ⟨rfl, rfl, rfl⟩
                                      · replace h := it_t c21 h
                                        refine pm_iconst (v := 1) dX10_isFine_174 (by decide) ?_
                                        refine pm_goto (tgt := 179) dX10_isFine_175 (by decide) ?_
                                        subst h
                                        exact pm_zret dX10_isFine_179 rfl (Or.inr rfl) (Nat.le_refl _) (Nat.le_refl _) ⟨rfl, rfl, rfl⟩
                              · replace h := it_t c17 h
                                refine pm_lw (L' := [none, none, some (.int x2), some (.int x3)]) ⟨Or.inl rfl, Or.inl rfl, Or.inr rfl, Or.inr rfl, trivial⟩ ?_
                                exact k_X10_isFine_j131 h
                          · replace h := it_t c13 h
                            refine pm_lw (L' := [none, none, some (.int x2), none]) ⟨Or.inl rfl, Or.inl rfl, Or.inr rfl, Or.inl rfl, trivial⟩ ?_
                            exact k_X10_isFine_j110 h
                  · replace h := it_t c9 h
                    refine pm_iload_n dX10_isFine_78 rfl ?_
                    refine pm_iconst (v := 1) dX10_isFine_79 (by decide) ?_
                    refine pm_sipush (v := 1000) dX10_isFine_80 (by decide) ?_
                    refine dx_cSp (M := M_X10_isFine) (Mc := M_X10_isIn) (dc := 0) (As := [.int x2, .int 1, .int 1000]) (st := []) dX10_isFine_83 ml_X10_138 (by decide) (Nat.le_of_ble_eq_true rfl) rfl (k_X10_isIn rfl) ?_
                    subst h
                    exact pm_zret dX10_isFine_86 rfl g_X10_isIn_b (Nat.le_refl _) (Nat.le_refl _) ⟨rfl, rfl, rfl⟩
                · replace h := it_t c8 h
                  refine pm_iload_n dX10_isFine_64 rfl ?_
                  refine pm_iconst (v := 0) dX10_isFine_65 (by decide) ?_
                  refine pm_bipush (v := 63) dX10_isFine_66 (by decide) ?_
                  refine dx_cSp (M := M_X10_isFine) (Mc := M_X10_isIn) (dc := 0) (As := [.int x2, .int 0, .int 63]) (st := []) dX10_isFine_68 ml_X10_138 (by decide) (Nat.le_of_ble_eq_true rfl) rfl (k_X10_isIn rfl) ?_
                  subst h
                  exact pm_zret dX10_isFine_71 rfl g_X10_isIn_b (Nat.le_refl _) (Nat.le_refl _) ⟨rfl, rfl, rfl⟩
              · replace h := it_t c7 h
                refine pm_iload_n dX10_isFine_51 rfl ?_
                refine pm_iconst (v := 0) dX10_isFine_52 (by decide) ?_
                refine pm_iconst (v := 1) dX10_isFine_53 (by decide) ?_
                refine dx_cSp (M := M_X10_isFine) (Mc := M_X10_isIn) (dc := 0) (As := [.int x2, .int 0, .int 1]) (st := []) dX10_isFine_54 ml_X10_138 (by decide) (Nat.le_of_ble_eq_true rfl) rfl (k_X10_isIn rfl) ?_
                subst h
                exact pm_zret dX10_isFine_57 rfl g_X10_isIn_b (Nat.le_refl _) (Nat.le_refl _) ⟨rfl, rfl, rfl⟩
            · replace h := it_t c6 h
              refine pm_iconst (v := 0) dX10_isFine_44 (by decide) ?_
              subst h
              exact pm_zret dX10_isFine_45 rfl (Or.inl rfl) (Nat.le_refl _) (Nat.le_refl _) ⟨rfl, rfl, rfl⟩
          · replace h := it_t c5 h
            refine pm_lw (L' := [none, some (.int x1), none, none]) ⟨Or.inl rfl, Or.inr rfl, Or.inl rfl, Or.inl rfl, trivial⟩ ?_
            exact k_X10_isFine_j29 h
      · replace h := it_t c3 h
        refine pm_iconst (v := 1) dX10_isFine_15 (by decide) ?_
        subst h
        exact pm_zret dX10_isFine_16 rfl (Or.inr rfl) (Nat.le_refl _) (Nat.le_refl _) ⟨rfl, rfl, rfl⟩
def g_X10_code (F : Nat) (x1 : Int32) (x2 : Int32) (x3 : Int32) (x4 : Int32) (x5 : Int32) (u : rg_U) : Option (Int32 × rg_U) :=
  if (g_X10_isIn x1 0 63) = 0 then (some (0, u)) else (if (g_X10_isFine x2 x3 x4 x5) = 0 then (some (0, u)) else (ck (inb x1 64) (lt1 (sA u 1 x1 x2) (fun u4 => ck (inb x1 64) (lt1 (sA u4 2 x1 x3) (fun u10 => ck (inb x1 64) (lt1 (sA u10 3 x1 x4) (fun u16 => ck (inb x1 64) (lt1 (sA u16 4 x1 x5) (fun u22 => some (1, u22)))))))))))
set_option maxHeartbeats 4000000 in
set_option maxRecDepth 100000 in
theorem k_X10_code {gs : List String} {ro : pm_RO} {n : Nat} {w : Nat → va_E} {b : Nat} {u : rg_U} {F : Nat} {x1 : Int32} {x2 : Int32} {x3 : Int32} {x4 : Int32} {x5 : Int32} {z : (Int32 × rg_U)} (hR : rg shM b u n w) (h : g_X10_code F x1 x2 x3 x4 x5 u = some z) : pm_Met gs ro M_X10_code 3 0 0 [.ref (b + 0), .int x1, .int x2, .int x3, .int x4, .int x5] n w (rg_post shM b n w (some (.int z.1)) z.2) := by
  unfold g_X10_code at h
  refine pm_ofX in_X10_code (Nat.le_of_ble_eq_true rfl) rfl (L := [some (.ref (b + 0)), some (.int x1), some (.int x2), some (.int x3), some (.int x4), some (.int x5)]) rfl ?_
  refine pm_iload_n dX10_code_0 rfl ?_
  refine pm_iconst (v := 0) dX10_code_1 (by decide) ?_
  refine pm_bipush (v := 63) dX10_code_2 (by decide) ?_
  refine dx_cSp (M := M_X10_code) (Mc := M_X10_isIn) (dc := 0) (As := [.int x1, .int 0, .int 63]) (st := []) dX10_code_4 ml_X10_138 (by decide) (Nat.le_of_ble_eq_true rfl) rfl (k_X10_isIn rfl) ?_
  refine pm_if_eq (tgt := 22) dX10_code_7 (by decide) (fun c1 => ?_) (fun c1 => ?_)
  · replace h := it_t c1 h
    refine pm_iconst (v := 0) dX10_code_22 (by decide) ?_
    cases h
    exact pm_zret dX10_code_23 rfl (Or.inl rfl) (Nat.le_refl _) (Nat.le_refl _) ⟨rfl, rfl, hR, rg_k0⟩
  · replace h := it_f c1 h
    refine pm_iload_n dX10_code_10 rfl ?_
    refine pm_iload_n dX10_code_11 rfl ?_
    refine pm_iload dX10_code_12 rfl ?_
    refine pm_iload dX10_code_14 rfl ?_
    refine dx_cSp (M := M_X10_code) (Mc := M_X10_isFine) (dc := 2) (As := [.int x2, .int x3, .int x4, .int x5]) (st := []) dX10_code_16 ml_X10_146 (by decide) (Nat.le_of_ble_eq_true rfl) rfl (k_X10_isFine rfl) ?_
    refine pm_if_ne (tgt := 24) dX10_code_19 (by decide) (fun c2 => ?_) (fun c2 => ?_)
    · replace h := it_f c2 h
      refine pm_aload_n dX10_code_24 rfl ?_
      refine dx_gr (j := 0) (o := 1) hR dX10_code_25 fl_X10_7 rfl rfl ?_
      refine pm_iload_n dX10_code_28 rfl ?_
      refine pm_iload_n dX10_code_29 rfl ?_
      obtain ⟨c3, h⟩ := ck_some h
      obtain ⟨u4, hu5, h⟩ := lt1_ex h
      refine dx_as (j := 1) hR rg_k0 dX10_code_30 rfl (vp_in_iff.mpr c3) hu5 (fun w6 hR7 hk8 => ?_)
      refine pm_aload_n dX10_code_31 rfl ?_
      refine dx_gr (j := 0) (o := 2) hR7 dX10_code_32 fl_X10_13 rfl rfl ?_
      refine pm_iload_n dX10_code_35 rfl ?_
      refine pm_iload_n dX10_code_36 rfl ?_
      obtain ⟨c9, h⟩ := ck_some h
      obtain ⟨u10, hu11, h⟩ := lt1_ex h
      refine dx_as (j := 2) hR7 hk8 dX10_code_37 rfl (vp_in_iff.mpr c9) hu11 (fun w12 hR13 hk14 => ?_)
      refine pm_aload_n dX10_code_38 rfl ?_
      refine dx_gr (j := 0) (o := 3) hR13 dX10_code_39 fl_X10_16 rfl rfl ?_
      refine pm_iload_n dX10_code_42 rfl ?_
      refine pm_iload dX10_code_43 rfl ?_
      obtain ⟨c15, h⟩ := ck_some h
      obtain ⟨u16, hu17, h⟩ := lt1_ex h
      refine dx_as (j := 3) hR13 hk14 dX10_code_45 rfl (vp_in_iff.mpr c15) hu17 (fun w18 hR19 hk20 => ?_)
      refine pm_aload_n dX10_code_46 rfl ?_
      refine dx_gr (j := 0) (o := 4) hR19 dX10_code_47 fl_X10_19 rfl rfl ?_
      refine pm_iload_n dX10_code_50 rfl ?_
      refine pm_iload dX10_code_51 rfl ?_
      obtain ⟨c21, h⟩ := ck_some h
      obtain ⟨u22, hu23, h⟩ := lt1_ex h
      refine dx_as (j := 4) hR19 hk20 dX10_code_53 rfl (vp_in_iff.mpr c21) hu23 (fun w24 hR25 hk26 => ?_)
      refine pm_iconst (v := 1) dX10_code_54 (by decide) ?_
      cases h
      exact pm_zret dX10_code_55 rfl (Or.inr rfl) (Nat.le_refl _) (Nat.le_refl _) ⟨rfl, rfl, hR25, hk26⟩
    · replace h := it_t c2 h
      refine pm_iconst (v := 0) dX10_code_22 (by decide) ?_
      cases h
      exact pm_zret dX10_code_23 rfl (Or.inl rfl) (Nat.le_refl _) (Nat.le_refl _) ⟨rfl, rfl, hR, rg_k0⟩
def g_X10_isSpacing (x0 : Int32) (x1 : Int32) : Int32 :=
  if (g_X10_isIn x0 1 64) = 0 then (0) else (if (g_X10_isIn x1 1 8) = 0 then (0) else (1))
theorem g_X10_isSpacing_b {x0 : Int32} {x1 : Int32} : g_X10_isSpacing x0 x1 = 0 ∨ g_X10_isSpacing x0 x1 = 1 := by
  unfold g_X10_isSpacing
  repeat' (first | exact Or.inl rfl | exact Or.inr rfl | exact g_X10_isIn_b | refine it_b ?_ ?_)
set_option maxHeartbeats 4000000 in
set_option maxRecDepth 100000 in
theorem k_X10_isSpacing {gs : List String} {ro : pm_RO} {n : Nat} {w : Nat → va_E} {x0 : Int32} {x1 : Int32} {z : Int32} (h : g_X10_isSpacing x0 x1 = z) : pm_Met gs ro M_X10_isSpacing 1 0 0 [.int x0, .int x1] n w (pm_p n w (some (.int z))) := by
  unfold g_X10_isSpacing at h
  refine pm_ofX in_X10_isSpacing (Nat.le_of_ble_eq_true rfl) rfl (L := [some (.int x0), some (.int x1)]) rfl ?_
  refine pm_iload_n dX10_isSpacing_0 rfl ?_
  refine pm_iconst (v := 1) dX10_isSpacing_1 (by decide) ?_
  refine pm_bipush (v := 64) dX10_isSpacing_2 (by decide) ?_
  refine dx_cSp (M := M_X10_isSpacing) (Mc := M_X10_isIn) (dc := 0) (As := [.int x0, .int 1, .int 64]) (st := []) dX10_isSpacing_4 ml_X10_138 (by decide) (Nat.le_of_ble_eq_true rfl) rfl (k_X10_isIn rfl) ?_
  refine pm_if_eq (tgt := 24) dX10_isSpacing_7 (by decide) (fun c1 => ?_) (fun c1 => ?_)
  · replace h := it_t c1 h
    refine pm_iconst (v := 0) dX10_isSpacing_24 (by decide) ?_
    subst h
    exact pm_zret dX10_isSpacing_25 rfl (Or.inl rfl) (Nat.le_refl _) (Nat.le_refl _) ⟨rfl, rfl, rfl⟩
  · replace h := it_f c1 h
    refine pm_iload_n dX10_isSpacing_10 rfl ?_
    refine pm_iconst (v := 1) dX10_isSpacing_11 (by decide) ?_
    refine pm_bipush (v := 8) dX10_isSpacing_12 (by decide) ?_
    refine dx_cSp (M := M_X10_isSpacing) (Mc := M_X10_isIn) (dc := 0) (As := [.int x1, .int 1, .int 8]) (st := []) dX10_isSpacing_14 ml_X10_138 (by decide) (Nat.le_of_ble_eq_true rfl) rfl (k_X10_isIn rfl) ?_
    refine pm_if_eq (tgt := 24) dX10_isSpacing_17 (by decide) (fun c2 => ?_) (fun c2 => ?_)
    · replace h := it_t c2 h
      refine pm_iconst (v := 0) dX10_isSpacing_24 (by decide) ?_
      subst h
      exact pm_zret dX10_isSpacing_25 rfl (Or.inl rfl) (Nat.le_refl _) (Nat.le_refl _) ⟨rfl, rfl, rfl⟩
    · replace h := it_f c2 h
      refine pm_iconst (v := 1) dX10_isSpacing_20 (by decide) ?_
      refine pm_goto (tgt := 25) dX10_isSpacing_21 (by decide) ?_
      subst h
      exact pm_zret dX10_isSpacing_25 rfl (Or.inr rfl) (Nat.le_refl _) (Nat.le_refl _) ⟨rfl, rfl, rfl⟩
def g_X10_spacing (F : Nat) (x1 : Int32) (x2 : Int32) (u : rg_U) : Option (Int32 × rg_U) :=
  if (g_X10_isSpacing x1 x2) = 0 then (some (0, u)) else (lt1 (sF u 0 4 x1) (fun u2 => lt1 (sF u2 0 5 x2) (fun u7 => some (1, u7))))
set_option maxHeartbeats 4000000 in
set_option maxRecDepth 100000 in
theorem k_X10_spacing {gs : List String} {ro : pm_RO} {n : Nat} {w : Nat → va_E} {b : Nat} {u : rg_U} {F : Nat} {x1 : Int32} {x2 : Int32} {z : (Int32 × rg_U)} (hR : rg shM b u n w) (h : g_X10_spacing F x1 x2 u = some z) : pm_Met gs ro M_X10_spacing 2 0 0 [.ref (b + 0), .int x1, .int x2] n w (rg_post shM b n w (some (.int z.1)) z.2) := by
  unfold g_X10_spacing at h
  refine pm_ofX in_X10_spacing (Nat.le_of_ble_eq_true rfl) rfl (L := [some (.ref (b + 0)), some (.int x1), some (.int x2)]) rfl ?_
  refine pm_iload_n dX10_spacing_0 rfl ?_
  refine pm_iload_n dX10_spacing_1 rfl ?_
  refine dx_cSp (M := M_X10_spacing) (Mc := M_X10_isSpacing) (dc := 1) (As := [.int x1, .int x2]) (st := []) dX10_spacing_2 ml_X10_150 (by decide) (Nat.le_of_ble_eq_true rfl) rfl (k_X10_isSpacing rfl) ?_
  refine pm_if_ne (tgt := 10) dX10_spacing_5 (by decide) (fun c1 => ?_) (fun c1 => ?_)
  · replace h := it_f c1 h
    refine pm_aload_n dX10_spacing_10 rfl ?_
    refine pm_iload_n dX10_spacing_11 rfl ?_
    obtain ⟨u2, hu3, h⟩ := lt1_ex h
    refine dx_pi (j := 0) hR rg_k0 dX10_spacing_12 fl_X10_22 rfl rfl hu3 (fun w4 hR5 hk6 => ?_)
    refine pm_aload_n dX10_spacing_15 rfl ?_
    refine pm_iload_n dX10_spacing_16 rfl ?_
    obtain ⟨u7, hu8, h⟩ := lt1_ex h
    refine dx_pi (j := 0) hR5 hk6 dX10_spacing_17 fl_X10_26 rfl rfl hu8 (fun w9 hR10 hk11 => ?_)
    refine pm_iconst (v := 1) dX10_spacing_20 (by decide) ?_
    cases h
    exact pm_zret dX10_spacing_21 rfl (Or.inr rfl) (Nat.le_refl _) (Nat.le_refl _) ⟨rfl, rfl, hR10, hk11⟩
  · replace h := it_t c1 h
    refine pm_iconst (v := 0) dX10_spacing_8 (by decide) ?_
    cases h
    exact pm_zret dX10_spacing_9 rfl (Or.inl rfl) (Nat.le_refl _) (Nat.le_refl _) ⟨rfl, rfl, hR, rg_k0⟩
def g_X10_heldAt (x0 : Int32) (x1 : Int32) : Int32 :=
  ((3001 * x0) + x1)
set_option maxHeartbeats 4000000 in
set_option maxRecDepth 100000 in
theorem k_X10_heldAt {gs : List String} {ro : pm_RO} {n : Nat} {w : Nat → va_E} {x0 : Int32} {x1 : Int32} {z : Int32} (h : g_X10_heldAt x0 x1 = z) : pm_Met gs ro M_X10_heldAt 0 0 0 [.int x0, .int x1] n w (pm_p n w (some (.int z))) := by
  unfold g_X10_heldAt at h
  refine pm_ofX in_X10_heldAt (Nat.le_of_ble_eq_true rfl) rfl (L := [some (.int x0), some (.int x1)]) rfl ?_
  refine pm_sipush (v := 3001) dX10_heldAt_0 (by decide) ?_
  refine pm_iload_n dX10_heldAt_3 rfl ?_
  refine pm_imul dX10_heldAt_4 ?_
  refine pm_iload_n dX10_heldAt_5 rfl ?_
  refine pm_iadd dX10_heldAt_6 ?_
  subst h
  exact pm_iret dX10_heldAt_7 rfl (Nat.le_refl _) (Nat.le_refl _) ⟨rfl, rfl, rfl⟩
def g_X10_clears_l2 (F : Nat) (o1 N1 : Nat) (l2 : Int32) (u : rg_U) : Option ((Int32 × rg_U) ⊕ rg_U) :=
  if 134 ≤ l2 then (some (.inr u)) else (ck (inb l2 N1) (lt1 (sA u o1 l2 0) (fun u3 => some (.inl ((l2 + 1), u3)))))
set_option maxHeartbeats 4000000 in
set_option maxRecDepth 100000 in
theorem k_X10_clears_l2 {gs : List String} {ro : pm_RO} {n : Nat} {w w1 : Nat → va_E} {b : Nat} {u : rg_U} {F : Nat} {o1 N1 : Nat} {l2 : Int32} {z : (Int32 × rg_U) ⊕ rg_U} {Q : Option Value → Nat → (Nat → va_E) → Prop} (hR : rg shM b u n w1) (hk : rg_k b shM.length w w1) (hs1 : shM[o1]? = some (.inr (.inl (0, N1)))) (h : g_X10_clears_l2 F o1 N1 l2 u = some z) (hc : ∀ s', z = .inl s' → ∀ w1, rg shM b s'.2 n w1 → rg_k b shM.length w w1 → pm_X gs ro M_X10_clears 0 0 0 0 0 2 [none, some (.ref (b + o1)), some (.int s'.1)] [] n w1 Q) (he0 : ∀ r', z = .inr r' → ∀ w1, rg shM b r' n w1 → rg_k b shM.length w w1 → pm_X gs ro M_X10_clears 0 0 0 0 0 19 [none, none, none] [] n w1 Q) : pm_X gs ro M_X10_clears 0 0 0 0 0 2 [none, some (.ref (b + o1)), some (.int l2)] [] n w1 Q := by
  unfold g_X10_clears_l2 at h
  refine pm_iload_n dX10_clears_2 rfl ?_
  refine pm_sipush (v := 134) dX10_clears_3 (by decide) ?_
  refine pm_icmp_ge (tgt := 19) dX10_clears_6 (by decide) (fun c1 => ?_) (fun c1 => ?_)
  · replace h := it_t c1 h
    refine pm_lw (L' := [none, none, none]) ⟨Or.inl rfl, Or.inl rfl, Or.inl rfl, trivial⟩ ?_
    exact he0 _ (Option.some.inj h).symm _ hR hk
  · replace h := it_f c1 h
    refine pm_aload_n dX10_clears_9 rfl ?_
    refine pm_iload_n dX10_clears_10 rfl ?_
    refine pm_iconst (v := 0) dX10_clears_11 (by decide) ?_
    obtain ⟨c2, h⟩ := ck_some h
    obtain ⟨u3, hu4, h⟩ := lt1_ex h
    refine dx_as (j := o1) hR hk dX10_clears_12 hs1 (vp_in_iff.mpr c2) hu4 (fun w5 hR6 hk7 => ?_)
    refine pm_iinc (v := (l2 + 1)) dX10_clears_13 rfl rfl (by decide) rfl rfl ?_
    refine pm_goto (tgt := 2) dX10_clears_16 (by decide) ?_
    refine pm_lw (L' := [none, some (.ref (b + o1)), some (.int (l2 + 1))]) ⟨Or.inl rfl, Or.inr rfl, Or.inr rfl, trivial⟩ ?_
    exact hc _ (Option.some.inj h).symm _ hR6 hk7
def g_X10_clears (F : Nat) (o1 N1 : Nat) (u : rg_U) : Option rg_U :=
  ob (lp (fun (s : (Int32 × rg_U)) => g_X10_clears_l2 F o1 N1 s.1 s.2) F ((0 : Int32), u)) (fun r8 => some r8)
set_option maxHeartbeats 4000000 in
set_option maxRecDepth 100000 in
theorem k_X10_clears {gs : List String} {ro : pm_RO} {n : Nat} {w : Nat → va_E} {b : Nat} {u : rg_U} {F : Nat} {o1 N1 : Nat} {z : rg_U} (hR : rg shM b u n w) (hs1 : shM[o1]? = some (.inr (.inl (0, N1)))) (h : g_X10_clears F o1 N1 u = some z) : pm_Met gs ro M_X10_clears 0 0 0 [.ref (b + 0), .ref (b + o1)] n w (rg_post shM b n w none z) := by
  unfold g_X10_clears at h
  refine pm_ofX in_X10_clears (Nat.le_of_ble_eq_true rfl) rfl (L := [some (.ref (b + 0)), some (.ref (b + o1)), none]) rfl ?_
  refine pm_iconst (v := 0) dX10_clears_0 (by decide) ?_
  refine pm_istore_n dX10_clears_1 (by decide) rfl rfl ?_
  refine pm_lw (L' := [none, some (.ref (b + o1)), some (.int 0)]) ⟨Or.inl rfl, Or.inr rfl, Or.inr rfl, trivial⟩ ?_
  obtain ⟨r8, h9, h⟩ := ob_some h
  refine lp_sound (P := fun (s : (Int32 × rg_U)) => ∀ w1, rg shM b s.2 n w1 → rg_k b shM.length w w1 → pm_X gs ro M_X10_clears 0 0 0 0 0 2 [none, some (.ref (b + o1)), some (.int s.1)] [] n w1 (rg_post shM b n w none z)) (E := (fun (r : rg_U) => ∀ w1, rg shM b r n w1 → rg_k b shM.length w w1 → pm_X gs ro M_X10_clears 0 0 0 0 0 19 [none, none, none] [] n w1 (rg_post shM b n w none z))) (fun s x hx hc he w1 hR1 hk1 => k_X10_clears_l2 hR1 hk1 hs1 hx hc (fun r q => he r q)) F _ r8 h9 ?_ _ hR rg_k0
  intro w10 hR11 hk12
  cases h
  exact pm_vret dX10_clears_19 rfl (Nat.le_refl _) (Nat.le_refl _) ⟨rfl, rfl, hR11, hk12⟩
def g_X10_begin_j90 (F : Nat) (l2 : Int32) (s0 : Int32) (s1 : Int32) (u : rg_U) : Option ((Int32 × Int32 × rg_U) ⊕ (Int32 × rg_U)) :=
  some (.inl ((s1 + (g_X10_one s0)), (l2 + 1), u))
set_option maxHeartbeats 4000000 in
set_option maxRecDepth 100000 in
theorem k_X10_begin_j90 {gs : List String} {ro : pm_RO} {n : Nat} {w w1 : Nat → va_E} {b : Nat} {u : rg_U} {F : Nat} {l2 : Int32} {s0 : Int32} {s1 : Int32} {z : ((Int32 × Int32 × rg_U) ⊕ (Int32 × rg_U))} {Q : Option Value → Nat → (Nat → va_E) → Prop} (hR : rg shM b u n w1) (hk : rg_k b shM.length w w1) (h : g_X10_begin_j90 F l2 s0 s1 u = some z) (hc : ∀ s', z = .inl s' → ∀ w1, rg shM b s'.2.2 n w1 → rg_k b shM.length w w1 → pm_X gs ro M_X10_begin 1 0 0 0 0 4 [some (.ref (b + 0)), some (.int s'.1), some (.int s'.2.1)] [] n w1 Q) (he0 : ∀ r', z = .inr r' → ∀ w1, rg shM b r'.2 n w1 → rg_k b shM.length w w1 → pm_X gs ro M_X10_begin 1 0 0 0 0 101 [some (.ref (b + 0)), some (.int r'.1), none] [] n w1 Q) : pm_X gs ro M_X10_begin 1 0 0 0 0 90 [some (.ref (b + 0)), none, some (.int l2)] [.int s0, .int s1] n w1 Q := by
  unfold g_X10_begin_j90 at h
  refine dx_cSp (M := M_X10_begin) (Mc := M_X10_one) (dc := 0) (As := [.int s0]) (st := [.int s1]) dX10_begin_90 ml_X10_154 (by decide) (Nat.le_of_ble_eq_true rfl) rfl (k_X10_one rfl) ?_
  refine pm_iadd dX10_begin_93 ?_
  refine pm_istore_n dX10_begin_94 (by decide) rfl rfl ?_
  refine pm_iinc (v := (l2 + 1)) dX10_begin_95 rfl rfl (by decide) rfl rfl ?_
  refine pm_goto (tgt := 4) dX10_begin_98 (by decide) ?_
  refine pm_lw (L' := [some (.ref (b + 0)), some (.int (s1 + (g_X10_one s0))), some (.int (l2 + 1))]) ⟨Or.inr rfl, Or.inr rfl, Or.inr rfl, trivial⟩ ?_
  exact hc _ (Option.some.inj h).symm _ hR hk
def g_X10_begin_l4 (F : Nat) (l1 : Int32) (l2 : Int32) (u : rg_U) : Option ((Int32 × Int32 × rg_U) ⊕ (Int32 × rg_U)) :=
  if 64 ≤ l2 then (some (.inr (l1, u))) else (ck (inb l2 64) (ck (inb (256 + l2) 320) (lt1 (sA u 6 (256 + l2) (rA u 1 l2)) (fun u4 => ck (inb l2 64) (ck (inb (256 + l2) 320) (lt1 (sA u4 7 (256 + l2) (rA u4 2 l2)) (fun u11 => ck (inb l2 64) (ck (inb (256 + l2) 320) (lt1 (sA u11 8 (256 + l2) (rA u11 3 l2)) (fun u18 => ck (inb l2 64) (ck (inb (256 + l2) 320) (lt1 (sA u18 9 (256 + l2) (rA u18 4 l2)) (fun u25 => ck (inb l2 64) (if (rA u25 1 l2) = (-1) then (g_X10_begin_j90 F l2 0 l1 u25) else (g_X10_begin_j90 F l2 1 l1 u25)))))))))))))))
set_option maxHeartbeats 4000000 in
set_option maxRecDepth 100000 in
theorem k_X10_begin_l4 {gs : List String} {ro : pm_RO} {n : Nat} {w w1 : Nat → va_E} {b : Nat} {u : rg_U} {F : Nat} {l1 : Int32} {l2 : Int32} {z : (Int32 × Int32 × rg_U) ⊕ (Int32 × rg_U)} {Q : Option Value → Nat → (Nat → va_E) → Prop} (hR : rg shM b u n w1) (hk : rg_k b shM.length w w1) (h : g_X10_begin_l4 F l1 l2 u = some z) (hc : ∀ s', z = .inl s' → ∀ w1, rg shM b s'.2.2 n w1 → rg_k b shM.length w w1 → pm_X gs ro M_X10_begin 1 0 0 0 0 4 [some (.ref (b + 0)), some (.int s'.1), some (.int s'.2.1)] [] n w1 Q) (he0 : ∀ r', z = .inr r' → ∀ w1, rg shM b r'.2 n w1 → rg_k b shM.length w w1 → pm_X gs ro M_X10_begin 1 0 0 0 0 101 [some (.ref (b + 0)), some (.int r'.1), none] [] n w1 Q) : pm_X gs ro M_X10_begin 1 0 0 0 0 4 [some (.ref (b + 0)), some (.int l1), some (.int l2)] [] n w1 Q := by
  unfold g_X10_begin_l4 at h
  refine pm_iload_n dX10_begin_4 rfl ?_
  refine pm_bipush (v := 64) dX10_begin_5 (by decide) ?_
  refine pm_icmp_ge (tgt := 101) dX10_begin_7 (by decide) (fun c1 => ?_) (fun c1 => ?_)
  · replace h := it_t c1 h
    refine pm_lw (L' := [some (.ref (b + 0)), some (.int l1), none]) ⟨Or.inr rfl, Or.inr rfl, Or.inl rfl, trivial⟩ ?_
    exact he0 _ (Option.some.inj h).symm _ hR hk
  · replace h := it_f c1 h
    refine pm_aload_n dX10_begin_10 rfl ?_
    refine dx_gr (j := 0) (o := 6) hR dX10_begin_11 fl_X10_33 rfl rfl ?_
    refine pm_sipush (v := 256) dX10_begin_14 (by decide) ?_
    refine pm_iload_n dX10_begin_17 rfl ?_
    refine pm_iadd dX10_begin_18 ?_
    refine pm_aload_n dX10_begin_19 rfl ?_
    refine dx_gr (j := 0) (o := 1) hR dX10_begin_20 fl_X10_7 rfl rfl ?_
    refine pm_iload_n dX10_begin_23 rfl ?_
    obtain ⟨c2, h⟩ := ck_some h
    refine dx_al (j := 1) hR dX10_begin_24 rfl (vp_in_iff.mpr c2) ?_
    obtain ⟨c3, h⟩ := ck_some h
    obtain ⟨u4, hu5, h⟩ := lt1_ex h
    refine dx_as (j := 6) hR hk dX10_begin_25 rfl (vp_in_iff.mpr c3) hu5 (fun w6 hR7 hk8 => ?_)
    refine pm_aload_n dX10_begin_26 rfl ?_
    refine dx_gr (j := 0) (o := 7) hR7 dX10_begin_27 fl_X10_36 rfl rfl ?_
    refine pm_sipush (v := 256) dX10_begin_30 (by decide) ?_
    refine pm_iload_n dX10_begin_33 rfl ?_
    refine pm_iadd dX10_begin_34 ?_
    refine pm_aload_n dX10_begin_35 rfl ?_
    refine dx_gr (j := 0) (o := 2) hR7 dX10_begin_36 fl_X10_13 rfl rfl ?_
    refine pm_iload_n dX10_begin_39 rfl ?_
    obtain ⟨c9, h⟩ := ck_some h
    refine dx_al (j := 2) hR7 dX10_begin_40 rfl (vp_in_iff.mpr c9) ?_
    obtain ⟨c10, h⟩ := ck_some h
    obtain ⟨u11, hu12, h⟩ := lt1_ex h
    refine dx_as (j := 7) hR7 hk8 dX10_begin_41 rfl (vp_in_iff.mpr c10) hu12 (fun w13 hR14 hk15 => ?_)
    refine pm_aload_n dX10_begin_42 rfl ?_
    refine dx_gr (j := 0) (o := 8) hR14 dX10_begin_43 fl_X10_39 rfl rfl ?_
    refine pm_sipush (v := 256) dX10_begin_46 (by decide) ?_
    refine pm_iload_n dX10_begin_49 rfl ?_
    refine pm_iadd dX10_begin_50 ?_
    refine pm_aload_n dX10_begin_51 rfl ?_
    refine dx_gr (j := 0) (o := 3) hR14 dX10_begin_52 fl_X10_16 rfl rfl ?_
    refine pm_iload_n dX10_begin_55 rfl ?_
    obtain ⟨c16, h⟩ := ck_some h
    refine dx_al (j := 3) hR14 dX10_begin_56 rfl (vp_in_iff.mpr c16) ?_
    obtain ⟨c17, h⟩ := ck_some h
    obtain ⟨u18, hu19, h⟩ := lt1_ex h
    refine dx_as (j := 8) hR14 hk15 dX10_begin_57 rfl (vp_in_iff.mpr c17) hu19 (fun w20 hR21 hk22 => ?_)
    refine pm_aload_n dX10_begin_58 rfl ?_
    refine dx_gr (j := 0) (o := 9) hR21 dX10_begin_59 fl_X10_42 rfl rfl ?_
    refine pm_sipush (v := 256) dX10_begin_62 (by decide) ?_
    refine pm_iload_n dX10_begin_65 rfl ?_
    refine pm_iadd dX10_begin_66 ?_
    refine pm_aload_n dX10_begin_67 rfl ?_
    refine dx_gr (j := 0) (o := 4) hR21 dX10_begin_68 fl_X10_19 rfl rfl ?_
    refine pm_iload_n dX10_begin_71 rfl ?_
    obtain ⟨c23, h⟩ := ck_some h
    refine dx_al (j := 4) hR21 dX10_begin_72 rfl (vp_in_iff.mpr c23) ?_
    obtain ⟨c24, h⟩ := ck_some h
    obtain ⟨u25, hu26, h⟩ := lt1_ex h
    refine dx_as (j := 9) hR21 hk22 dX10_begin_73 rfl (vp_in_iff.mpr c24) hu26 (fun w27 hR28 hk29 => ?_)
    refine pm_iload_n dX10_begin_74 rfl ?_
    refine pm_aload_n dX10_begin_75 rfl ?_
    refine dx_gr (j := 0) (o := 1) hR28 dX10_begin_76 fl_X10_7 rfl rfl ?_
    refine pm_iload_n dX10_begin_79 rfl ?_
    obtain ⟨c30, h⟩ := ck_some h
    refine dx_al (j := 1) hR28 dX10_begin_80 rfl (vp_in_iff.mpr c30) ?_
    refine pm_iconst (v := (-1)) dX10_begin_81 (by decide) ?_
    refine pm_icmp_eq (tgt := 89) dX10_begin_82 (by decide) (fun c31 => ?_) (fun c31 => ?_)
    · replace h := it_t c31 h
      refine pm_iconst (v := 0) dX10_begin_89 (by decide) ?_
      refine pm_lw (L' := [some (.ref (b + 0)), none, some (.int l2)]) ⟨Or.inr rfl, Or.inl rfl, Or.inr rfl, trivial⟩ ?_
      exact k_X10_begin_j90 hR28 hk29 h hc he0
    · replace h := it_f c31 h
      refine pm_iconst (v := 1) dX10_begin_85 (by decide) ?_
      refine pm_goto (tgt := 90) dX10_begin_86 (by decide) ?_
      refine pm_lw (L' := [some (.ref (b + 0)), none, some (.int l2)]) ⟨Or.inr rfl, Or.inl rfl, Or.inr rfl, trivial⟩ ?_
      exact k_X10_begin_j90 hR28 hk29 h hc he0
def g_X10_begin_j149 (F : Nat) (l1 : Int32) (l2 : Int32) (s0 : Int32) (s1 : Int32) (u : rg_U) : Option ((Int32 × rg_U) ⊕ rg_U) :=
  ck (inb s1 15005) (lt1 (sZ u 20 s1 s0) (fun u58 => some (.inl ((l2 + 1), u58))))
set_option maxHeartbeats 4000000 in
set_option maxRecDepth 100000 in
theorem k_X10_begin_j149 {gs : List String} {ro : pm_RO} {n : Nat} {w w1 : Nat → va_E} {b : Nat} {u : rg_U} {F : Nat} {l1 : Int32} {l2 : Int32} {s0 : Int32} {s1 : Int32} {z : ((Int32 × rg_U) ⊕ rg_U)} {Q : Option Value → Nat → (Nat → va_E) → Prop} (hR : rg shM b u n w1) (hk : rg_k b shM.length w w1) (h : g_X10_begin_j149 F l1 l2 s0 s1 u = some z) (hc : ∀ s', z = .inl s' → ∀ w1, rg shM b s'.2 n w1 → rg_k b shM.length w w1 → pm_X gs ro M_X10_begin 1 0 0 0 0 124 [some (.ref (b + 0)), some (.int l1), some (.int s'.1)] [] n w1 Q) (he0 : ∀ r', z = .inr r' → ∀ w1, rg shM b r' n w1 → rg_k b shM.length w w1 → pm_X gs ro M_X10_begin 1 0 0 0 0 156 [some (.ref (b + 0)), some (.int l1), none] [] n w1 Q) : pm_X gs ro M_X10_begin 1 0 0 0 0 149 [some (.ref (b + 0)), some (.int l1), some (.int l2)] [.int s0, .int s1, .ref (b + 20)] n w1 Q := by
  unfold g_X10_begin_j149 at h
  obtain ⟨c57, h⟩ := ck_some h
  obtain ⟨u58, hu59, h⟩ := lt1_ex h
  refine dx_zs (j := 20) hR hk dX10_begin_149 rfl (vp_in_iff.mpr c57) hu59 (fun w60 hR61 hk62 => ?_)
  refine pm_iinc (v := (l2 + 1)) dX10_begin_150 rfl rfl (by decide) rfl rfl ?_
  refine pm_goto (tgt := 124) dX10_begin_153 (by decide) ?_
  refine pm_lw (L' := [some (.ref (b + 0)), some (.int l1), some (.int (l2 + 1))]) ⟨Or.inr rfl, Or.inr rfl, Or.inr rfl, trivial⟩ ?_
  exact hc _ (Option.some.inj h).symm _ hR61 hk62
def g_X10_begin_l124 (F : Nat) (l1 : Int32) (l2 : Int32) (u : rg_U) : Option ((Int32 × rg_U) ⊕ rg_U) :=
  if 3000 < l2 then (some (.inr u)) else (if l2 = 0 then (g_X10_begin_j149 F l1 l2 1 (g_X10_heldAt 4 l2) u) else (g_X10_begin_j149 F l1 l2 0 (g_X10_heldAt 4 l2) u))
set_option maxHeartbeats 4000000 in
set_option maxRecDepth 100000 in
theorem k_X10_begin_l124 {gs : List String} {ro : pm_RO} {n : Nat} {w w1 : Nat → va_E} {b : Nat} {u : rg_U} {F : Nat} {l1 : Int32} {l2 : Int32} {z : (Int32 × rg_U) ⊕ rg_U} {Q : Option Value → Nat → (Nat → va_E) → Prop} (hR : rg shM b u n w1) (hk : rg_k b shM.length w w1) (h : g_X10_begin_l124 F l1 l2 u = some z) (hc : ∀ s', z = .inl s' → ∀ w1, rg shM b s'.2 n w1 → rg_k b shM.length w w1 → pm_X gs ro M_X10_begin 1 0 0 0 0 124 [some (.ref (b + 0)), some (.int l1), some (.int s'.1)] [] n w1 Q) (he0 : ∀ r', z = .inr r' → ∀ w1, rg shM b r' n w1 → rg_k b shM.length w w1 → pm_X gs ro M_X10_begin 1 0 0 0 0 156 [some (.ref (b + 0)), some (.int l1), none] [] n w1 Q) : pm_X gs ro M_X10_begin 1 0 0 0 0 124 [some (.ref (b + 0)), some (.int l1), some (.int l2)] [] n w1 Q := by
  unfold g_X10_begin_l124 at h
  refine pm_iload_n dX10_begin_124 rfl ?_
  refine pm_sipush (v := 3000) dX10_begin_125 (by decide) ?_
  refine pm_icmp_gt (tgt := 156) dX10_begin_128 (by decide) (fun c55 => ?_) (fun c55 => ?_)
  · replace h := it_t c55 h
    refine pm_lw (L' := [some (.ref (b + 0)), some (.int l1), none]) ⟨Or.inr rfl, Or.inr rfl, Or.inl rfl, trivial⟩ ?_
    exact he0 _ (Option.some.inj h).symm _ hR hk
  · replace h := it_f c55 h
    refine pm_aload_n dX10_begin_131 rfl ?_
    refine dx_gr (j := 0) (o := 20) hR dX10_begin_132 fl_X10_75 rfl rfl ?_
    refine pm_iconst (v := 4) dX10_begin_135 (by decide) ?_
    refine pm_iload_n dX10_begin_136 rfl ?_
    refine dx_cSp (M := M_X10_begin) (Mc := M_X10_heldAt) (dc := 0) (As := [.int 4, .int l2]) (st := [.ref (b + 20)]) dX10_begin_137 ml_X10_158 (by decide) (Nat.le_of_ble_eq_true rfl) rfl (k_X10_heldAt rfl) ?_
    refine pm_iload_n dX10_begin_140 rfl ?_
    refine pm_if_ne (tgt := 148) dX10_begin_141 (by decide) (fun c56 => ?_) (fun c56 => ?_)
    · replace h := it_f c56 h
      refine pm_iconst (v := 0) dX10_begin_148 (by decide) ?_
      exact k_X10_begin_j149 hR hk h hc he0
    · replace h := it_t c56 h
      refine pm_iconst (v := 1) dX10_begin_144 (by decide) ?_
      refine pm_goto (tgt := 149) dX10_begin_145 (by decide) ?_
      exact k_X10_begin_j149 hR hk h hc he0
def g_X10_begin (F : Nat)  (u : rg_U) : Option (Int32 × rg_U) :=
  ob (lp (fun (s : (Int32 × Int32 × rg_U)) => g_X10_begin_l4 F s.1 s.2.1 s.2.2) F ((0 : Int32), (0 : Int32), u)) (fun r32 => ck (inb 4 5) (lt1 (sZ r32.2 5 4 1) (fun u38 => ck (inb 4 5) (lt1 (sA u38 15 4 0) (fun u44 => ck (inb 4 5) (lt1 (sA u44 19 4 0) (fun u50 => ob (lp (fun (s : (Int32 × rg_U)) => g_X10_begin_l124 F r32.1 s.1 s.2) F ((0 : Int32), u50)) (fun r63 => ck (inb 4 5) (lt1 (sA r63 21 4 0) (fun u69 => ck (inb 4 5) (lt1 (sA u69 23 4 (rF u69 0 4)) (fun u75 => ck (inb 4 5) (lt1 (sA u75 24 4 (rF u75 0 5)) (fun u81 => ck (inb 4 5) (lt1 (sA u81 25 4 0) (fun u87 => ck (inb 4 5) (lt1 (sA u87 26 4 1) (fun u93 => ck (inb 4 5) (lt1 (sA u93 27 4 0) (fun u99 => ob (g_X10_clears F 28 134 u99) (fun r104 => lt1 (sF r104 0 33 0) (fun u109 => lt1 (sF u109 0 41 (-1)) (fun u114 => some (r32.1, u114))))))))))))))))))))))))
set_option maxHeartbeats 4000000 in
set_option maxRecDepth 100000 in
theorem k_X10_begin {gs : List String} {ro : pm_RO} {n : Nat} {w : Nat → va_E} {b : Nat} {u : rg_U} {F : Nat}  {z : (Int32 × rg_U)} (hR : rg shM b u n w) (h : g_X10_begin F u = some z) : pm_Met gs ro M_X10_begin 1 0 0 [.ref (b + 0)] n w (rg_post shM b n w (some (.int z.1)) z.2) := by
  unfold g_X10_begin at h
  refine pm_ofX in_X10_begin (Nat.le_of_ble_eq_true rfl) rfl (L := [some (.ref (b + 0)), none, none]) rfl ?_
  refine pm_iconst (v := 0) dX10_begin_0 (by decide) ?_
  refine pm_istore_n dX10_begin_1 (by decide) rfl rfl ?_
  refine pm_iconst (v := 0) dX10_begin_2 (by decide) ?_
  refine pm_istore_n dX10_begin_3 (by decide) rfl rfl ?_
  obtain ⟨r32, h33, h⟩ := ob_some h
  refine lp_sound (P := fun (s : (Int32 × Int32 × rg_U)) => ∀ w1, rg shM b s.2.2 n w1 → rg_k b shM.length w w1 → pm_X gs ro M_X10_begin 1 0 0 0 0 4 [some (.ref (b + 0)), some (.int s.1), some (.int s.2.1)] [] n w1 (rg_post shM b n w (some (.int z.1)) z.2)) (E := (fun (r : (Int32 × rg_U)) => ∀ w1, rg shM b r.2 n w1 → rg_k b shM.length w w1 → pm_X gs ro M_X10_begin 1 0 0 0 0 101 [some (.ref (b + 0)), some (.int r.1), none] [] n w1 (rg_post shM b n w (some (.int z.1)) z.2))) (fun s x hx hc he w1 hR1 hk1 => k_X10_begin_l4 hR1 hk1 hx hc (fun r q => he r q)) F _ r32 h33 ?_ _ hR rg_k0
  intro w34 hR35 hk36
  refine pm_aload_n dX10_begin_101 rfl ?_
  refine dx_gr (j := 0) (o := 5) hR35 dX10_begin_102 fl_X10_29 rfl rfl ?_
  refine pm_iconst (v := 4) dX10_begin_105 (by decide) ?_
  refine pm_iconst (v := 1) dX10_begin_106 (by decide) ?_
  obtain ⟨c37, h⟩ := ck_some h
  obtain ⟨u38, hu39, h⟩ := lt1_ex h
  refine dx_zs (j := 5) hR35 hk36 dX10_begin_107 rfl (vp_in_iff.mpr c37) hu39 (fun w40 hR41 hk42 => ?_)
  refine pm_aload_n dX10_begin_108 rfl ?_
  refine dx_gr (j := 0) (o := 15) hR41 dX10_begin_109 fl_X10_60 rfl rfl ?_
  refine pm_iconst (v := 4) dX10_begin_112 (by decide) ?_
  refine pm_iconst (v := 0) dX10_begin_113 (by decide) ?_
  obtain ⟨c43, h⟩ := ck_some h
  obtain ⟨u44, hu45, h⟩ := lt1_ex h
  refine dx_as (j := 15) hR41 hk42 dX10_begin_114 rfl (vp_in_iff.mpr c43) hu45 (fun w46 hR47 hk48 => ?_)
  refine pm_aload_n dX10_begin_115 rfl ?_
  refine dx_gr (j := 0) (o := 19) hR47 dX10_begin_116 fl_X10_72 rfl rfl ?_
  refine pm_iconst (v := 4) dX10_begin_119 (by decide) ?_
  refine pm_iconst (v := 0) dX10_begin_120 (by decide) ?_
  obtain ⟨c49, h⟩ := ck_some h
  obtain ⟨u50, hu51, h⟩ := lt1_ex h
  refine dx_as (j := 19) hR47 hk48 dX10_begin_121 rfl (vp_in_iff.mpr c49) hu51 (fun w52 hR53 hk54 => ?_)
  refine pm_iconst (v := 0) dX10_begin_122 (by decide) ?_
  refine pm_istore_n dX10_begin_123 (by decide) rfl rfl ?_
  obtain ⟨r63, h64, h⟩ := ob_some h
  refine lp_sound (P := fun (s : (Int32 × rg_U)) => ∀ w1, rg shM b s.2 n w1 → rg_k b shM.length w w1 → pm_X gs ro M_X10_begin 1 0 0 0 0 124 [some (.ref (b + 0)), some (.int r32.1), some (.int s.1)] [] n w1 (rg_post shM b n w (some (.int z.1)) z.2)) (E := (fun (r : rg_U) => ∀ w1, rg shM b r n w1 → rg_k b shM.length w w1 → pm_X gs ro M_X10_begin 1 0 0 0 0 156 [some (.ref (b + 0)), some (.int r32.1), none] [] n w1 (rg_post shM b n w (some (.int z.1)) z.2))) (fun s x hx hc he w1 hR1 hk1 => k_X10_begin_l124 hR1 hk1 hx hc (fun r q => he r q)) F _ r63 h64 ?_ _ hR53 hk54
  intro w65 hR66 hk67
  refine pm_aload_n dX10_begin_156 rfl ?_
  refine dx_gr (j := 0) (o := 21) hR66 dX10_begin_157 fl_X10_78 rfl rfl ?_
  refine pm_iconst (v := 4) dX10_begin_160 (by decide) ?_
  refine pm_iconst (v := 0) dX10_begin_161 (by decide) ?_
  obtain ⟨c68, h⟩ := ck_some h
  obtain ⟨u69, hu70, h⟩ := lt1_ex h
  refine dx_as (j := 21) hR66 hk67 dX10_begin_162 rfl (vp_in_iff.mpr c68) hu70 (fun w71 hR72 hk73 => ?_)
  refine pm_aload_n dX10_begin_163 rfl ?_
  refine dx_gr (j := 0) (o := 23) hR72 dX10_begin_164 fl_X10_84 rfl rfl ?_
  refine pm_iconst (v := 4) dX10_begin_167 (by decide) ?_
  refine pm_aload_n dX10_begin_168 rfl ?_
  refine dx_gi (j := 0) hR72 dX10_begin_169 fl_X10_22 rfl rfl ?_
  obtain ⟨c74, h⟩ := ck_some h
  obtain ⟨u75, hu76, h⟩ := lt1_ex h
  refine dx_as (j := 23) hR72 hk73 dX10_begin_172 rfl (vp_in_iff.mpr c74) hu76 (fun w77 hR78 hk79 => ?_)
  refine pm_aload_n dX10_begin_173 rfl ?_
  refine dx_gr (j := 0) (o := 24) hR78 dX10_begin_174 fl_X10_87 rfl rfl ?_
  refine pm_iconst (v := 4) dX10_begin_177 (by decide) ?_
  refine pm_aload_n dX10_begin_178 rfl ?_
  refine dx_gi (j := 0) hR78 dX10_begin_179 fl_X10_26 rfl rfl ?_
  obtain ⟨c80, h⟩ := ck_some h
  obtain ⟨u81, hu82, h⟩ := lt1_ex h
  refine dx_as (j := 24) hR78 hk79 dX10_begin_182 rfl (vp_in_iff.mpr c80) hu82 (fun w83 hR84 hk85 => ?_)
  refine pm_aload_n dX10_begin_183 rfl ?_
  refine dx_gr (j := 0) (o := 25) hR84 dX10_begin_184 fl_X10_90 rfl rfl ?_
  refine pm_iconst (v := 4) dX10_begin_187 (by decide) ?_
  refine pm_iconst (v := 0) dX10_begin_188 (by decide) ?_
  obtain ⟨c86, h⟩ := ck_some h
  obtain ⟨u87, hu88, h⟩ := lt1_ex h
  refine dx_as (j := 25) hR84 hk85 dX10_begin_189 rfl (vp_in_iff.mpr c86) hu88 (fun w89 hR90 hk91 => ?_)
  refine pm_aload_n dX10_begin_190 rfl ?_
  refine dx_gr (j := 0) (o := 26) hR90 dX10_begin_191 fl_X10_93 rfl rfl ?_
  refine pm_iconst (v := 4) dX10_begin_194 (by decide) ?_
  refine pm_iconst (v := 1) dX10_begin_195 (by decide) ?_
  obtain ⟨c92, h⟩ := ck_some h
  obtain ⟨u93, hu94, h⟩ := lt1_ex h
  refine dx_as (j := 26) hR90 hk91 dX10_begin_196 rfl (vp_in_iff.mpr c92) hu94 (fun w95 hR96 hk97 => ?_)
  refine pm_aload_n dX10_begin_197 rfl ?_
  refine dx_gr (j := 0) (o := 27) hR96 dX10_begin_198 fl_X10_96 rfl rfl ?_
  refine pm_iconst (v := 4) dX10_begin_201 (by decide) ?_
  refine pm_iconst (v := 0) dX10_begin_202 (by decide) ?_
  obtain ⟨c98, h⟩ := ck_some h
  obtain ⟨u99, hu100, h⟩ := lt1_ex h
  refine dx_as (j := 27) hR96 hk97 dX10_begin_203 rfl (vp_in_iff.mpr c98) hu100 (fun w101 hR102 hk103 => ?_)
  refine pm_aload_n dX10_begin_204 rfl ?_
  refine pm_aload_n dX10_begin_205 rfl ?_
  refine dx_gr (j := 0) (o := 28) hR102 dX10_begin_206 fl_X10_102 rfl rfl ?_
  obtain ⟨r104, h105, h⟩ := ob_some h
  refine dx_cVv (j := 0) (M := M_X10_begin) (Mc := M_X10_clears) (dc := 0) (As := [.ref (b + 28)]) (st := []) hR102 hk103 dX10_begin_209 ml_X10_162 ⟨TX10, 55, rfl⟩ rfl (by decide) (Nat.le_of_ble_eq_true rfl) rfl (k_X10_clears hR102 rfl h105) (fun w106 hR107 hk108 => ?_)
  refine pm_aload_n dX10_begin_212 rfl ?_
  refine pm_iconst (v := 0) dX10_begin_213 (by decide) ?_
  obtain ⟨u109, hu110, h⟩ := lt1_ex h
  refine dx_pi (j := 0) hR107 hk108 dX10_begin_214 fl_X10_166 rfl rfl hu110 (fun w111 hR112 hk113 => ?_)
  refine pm_aload_n dX10_begin_217 rfl ?_
  refine pm_iconst (v := (-1)) dX10_begin_218 (by decide) ?_
  obtain ⟨u114, hu115, h⟩ := lt1_ex h
  refine dx_pi (j := 0) hR112 hk113 dX10_begin_219 fl_X10_117 rfl rfl hu115 (fun w116 hR117 hk118 => ?_)
  refine pm_iload_n dX10_begin_222 rfl ?_
  cases h
  exact pm_iret dX10_begin_223 rfl (Nat.le_refl _) (Nat.le_refl _) ⟨rfl, rfl, hR117, hk118⟩
def g_X10_give (F : Nat) (x1 : Int32) (u : rg_U) : Option (Int32 × rg_U) :=
  ck (inb 4 5) (if (rA u 5 4) = 0 then (some ((-1), u)) else (if (rF u 0 33) < 100 then (ck (inb (rF u 0 33) 1000) (lt1 (sA u 29 (rF u 0 33) x1) (fun u5 => lt1 (sF u5 0 33 ((rF u5 0 33) + 1)) (fun u10 => some ((rF u10 0 33), u10))))) else (some ((-1), u))))
set_option maxHeartbeats 4000000 in
set_option maxRecDepth 100000 in
theorem k_X10_give {gs : List String} {ro : pm_RO} {n : Nat} {w : Nat → va_E} {b : Nat} {u : rg_U} {F : Nat} {x1 : Int32} {z : (Int32 × rg_U)} (hR : rg shM b u n w) (h : g_X10_give F x1 u = some z) : pm_Met gs ro M_X10_give 0 0 0 [.ref (b + 0), .int x1] n w (rg_post shM b n w (some (.int z.1)) z.2) := by
  unfold g_X10_give at h
  refine pm_ofX in_X10_give (Nat.le_of_ble_eq_true rfl) rfl (L := [some (.ref (b + 0)), some (.int x1)]) rfl ?_
  refine pm_aload_n dX10_give_0 rfl ?_
  refine dx_gr (j := 0) (o := 5) hR dX10_give_1 fl_X10_29 rfl rfl ?_
  refine pm_iconst (v := 4) dX10_give_4 (by decide) ?_
  obtain ⟨c1, h⟩ := ck_some h
  refine dx_zl (j := 5) hR dX10_give_5 rfl (vp_in_iff.mpr c1) ?_
  refine pm_if_eq (tgt := 18) dX10_give_6 (by decide) (fun c2 => ?_) (fun c2 => ?_)
  · replace h := it_t c2 h
    refine pm_iconst (v := (-1)) dX10_give_18 (by decide) ?_
    cases h
    exact pm_iret dX10_give_19 rfl (Nat.le_refl _) (Nat.le_refl _) ⟨rfl, rfl, hR, rg_k0⟩
  · replace h := it_f c2 h
    refine pm_aload_n dX10_give_9 rfl ?_
    refine dx_gi (j := 0) hR dX10_give_10 fl_X10_166 rfl rfl ?_
    refine pm_bipush (v := 100) dX10_give_13 (by decide) ?_
    refine pm_icmp_lt (tgt := 20) dX10_give_15 (by decide) (fun c3 => ?_) (fun c3 => ?_)
    · replace h := it_t c3 h
      refine pm_aload_n dX10_give_20 rfl ?_
      refine dx_gr (j := 0) (o := 29) hR dX10_give_21 fl_X10_105 rfl rfl ?_
      refine pm_aload_n dX10_give_24 rfl ?_
      refine dx_gi (j := 0) hR dX10_give_25 fl_X10_166 rfl rfl ?_
      refine pm_iload_n dX10_give_28 rfl ?_
      obtain ⟨c4, h⟩ := ck_some h
      obtain ⟨u5, hu6, h⟩ := lt1_ex h
      refine dx_as (j := 29) hR rg_k0 dX10_give_29 rfl (vp_in_iff.mpr c4) hu6 (fun w7 hR8 hk9 => ?_)
      refine pm_aload_n dX10_give_30 rfl ?_
      refine pm_dup dX10_give_31 rfl ?_
      refine dx_gi (j := 0) hR8 dX10_give_32 fl_X10_166 rfl rfl ?_
      refine pm_iconst (v := 1) dX10_give_35 (by decide) ?_
      refine pm_iadd dX10_give_36 ?_
      obtain ⟨u10, hu11, h⟩ := lt1_ex h
      refine dx_pi (j := 0) hR8 hk9 dX10_give_37 fl_X10_166 rfl rfl hu11 (fun w12 hR13 hk14 => ?_)
      refine pm_aload_n dX10_give_40 rfl ?_
      refine dx_gi (j := 0) hR13 dX10_give_41 fl_X10_166 rfl rfl ?_
      cases h
      exact pm_iret dX10_give_44 rfl (Nat.le_refl _) (Nat.le_refl _) ⟨rfl, rfl, hR13, hk14⟩
    · replace h := it_f c3 h
      refine pm_iconst (v := (-1)) dX10_give_18 (by decide) ?_
      cases h
      exact pm_iret dX10_give_19 rfl (Nat.le_refl _) (Nat.le_refl _) ⟨rfl, rfl, hR, rg_k0⟩
def g_X10_seed (F : Nat) (x1 : Int32) (u : rg_U) : Option (Int32 × rg_U) :=
  lt1 (sF u 0 34 x1) (fun u1 => some ((rF u 0 34), u1))
set_option maxHeartbeats 4000000 in
set_option maxRecDepth 100000 in
theorem k_X10_seed {gs : List String} {ro : pm_RO} {n : Nat} {w : Nat → va_E} {b : Nat} {u : rg_U} {F : Nat} {x1 : Int32} {z : (Int32 × rg_U)} (hR : rg shM b u n w) (h : g_X10_seed F x1 u = some z) : pm_Met gs ro M_X10_seed 0 0 0 [.ref (b + 0), .int x1] n w (rg_post shM b n w (some (.int z.1)) z.2) := by
  unfold g_X10_seed at h
  refine pm_ofX in_X10_seed (Nat.le_of_ble_eq_true rfl) rfl (L := [some (.ref (b + 0)), some (.int x1), none]) rfl ?_
  refine pm_aload_n dX10_seed_0 rfl ?_
  refine dx_gi (j := 0) hR dX10_seed_1 fl_X10_108 rfl rfl ?_
  refine pm_istore_n dX10_seed_4 (by decide) rfl rfl ?_
  refine pm_aload_n dX10_seed_5 rfl ?_
  refine pm_iload_n dX10_seed_6 rfl ?_
  obtain ⟨u1, hu2, h⟩ := lt1_ex h
  refine dx_pi (j := 0) hR rg_k0 dX10_seed_7 fl_X10_108 rfl rfl hu2 (fun w3 hR4 hk5 => ?_)
  refine pm_iload_n dX10_seed_10 rfl ?_
  cases h
  exact pm_iret dX10_seed_11 rfl (Nat.le_refl _) (Nat.le_refl _) ⟨rfl, rfl, hR4, hk5⟩
def g_X10_isValue (x0 : Int32) (x1 : Int32) : Int32 :=
  if x0 = 0 then (if x1 = 0 then (1) else (0)) else (if x0 = 1 then ((g_X10_isIn x1 0 1)) else (if x0 = 2 then (1) else (0)))
theorem g_X10_isValue_b {x0 : Int32} {x1 : Int32} : g_X10_isValue x0 x1 = 0 ∨ g_X10_isValue x0 x1 = 1 := by
  unfold g_X10_isValue
  repeat' (first | exact Or.inl rfl | exact Or.inr rfl | exact g_X10_isIn_b | refine it_b ?_ ?_)
set_option maxHeartbeats 4000000 in
set_option maxRecDepth 100000 in
theorem k_X10_isValue {gs : List String} {ro : pm_RO} {n : Nat} {w : Nat → va_E} {x0 : Int32} {x1 : Int32} {z : Int32} (h : g_X10_isValue x0 x1 = z) : pm_Met gs ro M_X10_isValue 1 0 0 [.int x0, .int x1] n w (pm_p n w (some (.int z))) := by
  unfold g_X10_isValue at h
  refine pm_ofX in_X10_isValue (Nat.le_of_ble_eq_true rfl) rfl (L := [some (.int x0), some (.int x1)]) rfl ?_
  refine pm_iload_n dX10_isValue_0 rfl ?_
  refine pm_if_ne (tgt := 16) dX10_isValue_1 (by decide) (fun c1 => ?_) (fun c1 => ?_)
  · replace h := it_f c1 h
    refine pm_iload_n dX10_isValue_16 rfl ?_
    refine pm_iconst (v := 1) dX10_isValue_17 (by decide) ?_
    refine pm_icmp_ne (tgt := 30) dX10_isValue_18 (by decide) (fun c2 => ?_) (fun c2 => ?_)
    · replace h := it_f c2 h
      refine pm_iload_n dX10_isValue_30 rfl ?_
      refine pm_iconst (v := 2) dX10_isValue_31 (by decide) ?_
      refine pm_icmp_ne (tgt := 39) dX10_isValue_32 (by decide) (fun c3 => ?_) (fun c3 => ?_)
      · replace h := it_f c3 h
        refine pm_iconst (v := 0) dX10_isValue_39 (by decide) ?_
        subst h
        exact pm_zret dX10_isValue_40 rfl (Or.inl rfl) (Nat.le_refl _) (Nat.le_refl _) ⟨rfl, rfl, rfl⟩
      · replace h := it_t c3 h
        refine pm_iconst (v := 1) dX10_isValue_35 (by decide) ?_
        refine pm_goto (tgt := 40) dX10_isValue_36 (by decide) ?_
        subst h
        exact pm_zret dX10_isValue_40 rfl (Or.inr rfl) (Nat.le_refl _) (Nat.le_refl _) ⟨rfl, rfl, rfl⟩
    · replace h := it_t c2 h
      refine pm_iload_n dX10_isValue_21 rfl ?_
      refine pm_iconst (v := 0) dX10_isValue_22 (by decide) ?_
      refine pm_iconst (v := 1) dX10_isValue_23 (by decide) ?_
      refine dx_cSp (M := M_X10_isValue) (Mc := M_X10_isIn) (dc := 0) (As := [.int x1, .int 0, .int 1]) (st := []) dX10_isValue_24 ml_X10_138 (by decide) (Nat.le_of_ble_eq_true rfl) rfl (k_X10_isIn rfl) ?_
      refine pm_goto (tgt := 40) dX10_isValue_27 (by decide) ?_
      subst h
      exact pm_zret dX10_isValue_40 rfl g_X10_isIn_b (Nat.le_refl _) (Nat.le_refl _) ⟨rfl, rfl, rfl⟩
  · replace h := it_t c1 h
    refine pm_iload_n dX10_isValue_4 rfl ?_
    refine pm_if_ne (tgt := 12) dX10_isValue_5 (by decide) (fun c4 => ?_) (fun c4 => ?_)
    · replace h := it_f c4 h
      refine pm_iconst (v := 0) dX10_isValue_12 (by decide) ?_
      refine pm_goto (tgt := 40) dX10_isValue_13 (by decide) ?_
      subst h
      exact pm_zret dX10_isValue_40 rfl (Or.inl rfl) (Nat.le_refl _) (Nat.le_refl _) ⟨rfl, rfl, rfl⟩
    · replace h := it_t c4 h
      refine pm_iconst (v := 1) dX10_isValue_8 (by decide) ?_
      refine pm_goto (tgt := 40) dX10_isValue_9 (by decide) ?_
      subst h
      exact pm_zret dX10_isValue_40 rfl (Or.inr rfl) (Nat.le_refl _) (Nat.le_refl _) ⟨rfl, rfl, rfl⟩
def g_X10_isPlace (x0 : Int32) : Int32 :=
  (g_X10_isIn x0 0 39)
theorem g_X10_isPlace_b {x0 : Int32} : g_X10_isPlace x0 = 0 ∨ g_X10_isPlace x0 = 1 := by
  unfold g_X10_isPlace
  repeat' (first | exact Or.inl rfl | exact Or.inr rfl | exact g_X10_isIn_b | refine it_b ?_ ?_)
set_option maxHeartbeats 4000000 in
set_option maxRecDepth 100000 in
theorem k_X10_isPlace {gs : List String} {ro : pm_RO} {n : Nat} {w : Nat → va_E} {x0 : Int32} {z : Int32} (h : g_X10_isPlace x0 = z) : pm_Met gs ro M_X10_isPlace 1 0 0 [.int x0] n w (pm_p n w (some (.int z))) := by
  unfold g_X10_isPlace at h
  refine pm_ofX in_X10_isPlace (Nat.le_of_ble_eq_true rfl) rfl (L := [some (.int x0)]) rfl ?_
  refine pm_iload_n dX10_isPlace_0 rfl ?_
  refine pm_iconst (v := 0) dX10_isPlace_1 (by decide) ?_
  refine pm_bipush (v := 39) dX10_isPlace_2 (by decide) ?_
  refine dx_cSp (M := M_X10_isPlace) (Mc := M_X10_isIn) (dc := 0) (As := [.int x0, .int 0, .int 39]) (st := []) dX10_isPlace_4 ml_X10_138 (by decide) (Nat.le_of_ble_eq_true rfl) rfl (k_X10_isIn rfl) ?_
  subst h
  exact pm_zret dX10_isPlace_7 rfl g_X10_isIn_b (Nat.le_refl _) (Nat.le_refl _) ⟨rfl, rfl, rfl⟩
def g_X10_puts_j31 (F : Nat) (o0 N0 : Nat) (l1 : Int32) (l2 : Int32) (l3 : Int32) (s0 : Int32) (s1 : Int32) (s2 : Int32) (u : rg_U) : Option rg_U :=
  ck (inb s2 N0) (lt1 (sA u o0 s2 (s1 + (g_X10_one s0))) (fun u5 => ck (inb (0 + l1) N0) (lt1 (sA u5 o0 (0 + l1) l2) (fun u11 => ck (inb (40 + l1) N0) (lt1 (sA u11 o0 (40 + l1) l3) (fun u17 => some u17))))))
set_option maxHeartbeats 4000000 in
set_option maxRecDepth 100000 in
theorem k_X10_puts_j31 {gs : List String} {ro : pm_RO} {n : Nat} {w w1 : Nat → va_E} {b : Nat} {u : rg_U} {F : Nat} {o0 N0 : Nat} {l1 : Int32} {l2 : Int32} {l3 : Int32} {s0 : Int32} {s1 : Int32} {s2 : Int32} {z : rg_U} (hR : rg shM b u n w1) (hk : rg_k b shM.length w w1) (hs0 : shM[o0]? = some (.inr (.inl (0, N0)))) (h : g_X10_puts_j31 F o0 N0 l1 l2 l3 s0 s1 s2 u = some z) : pm_X gs ro M_X10_puts 1 0 0 0 0 31 [some (.ref (b + o0)), some (.int l1), some (.int l2), some (.int l3)] [.int s0, .int s1, .int s2, .ref (b + o0)] n w1 (rg_post shM b n w none z) := by
  unfold g_X10_puts_j31 at h
  refine dx_cSp (M := M_X10_puts) (Mc := M_X10_one) (dc := 0) (As := [.int s0]) (st := [.int s1, .int s2, .ref (b + o0)]) dX10_puts_31 ml_X10_154 (by decide) (Nat.le_of_ble_eq_true rfl) rfl (k_X10_one rfl) ?_
  refine pm_iadd dX10_puts_34 ?_
  obtain ⟨c4, h⟩ := ck_some h
  obtain ⟨u5, hu6, h⟩ := lt1_ex h
  refine dx_as (j := o0) hR hk dX10_puts_35 hs0 (vp_in_iff.mpr c4) hu6 (fun w7 hR8 hk9 => ?_)
  refine pm_aload_n dX10_puts_36 rfl ?_
  refine pm_iconst (v := 0) dX10_puts_37 (by decide) ?_
  refine pm_iload_n dX10_puts_38 rfl ?_
  refine pm_iadd dX10_puts_39 ?_
  refine pm_iload_n dX10_puts_40 rfl ?_
  obtain ⟨c10, h⟩ := ck_some h
  obtain ⟨u11, hu12, h⟩ := lt1_ex h
  refine dx_as (j := o0) hR8 hk9 dX10_puts_41 hs0 (vp_in_iff.mpr c10) hu12 (fun w13 hR14 hk15 => ?_)
  refine pm_aload_n dX10_puts_42 rfl ?_
  refine pm_bipush (v := 40) dX10_puts_43 (by decide) ?_
  refine pm_iload_n dX10_puts_45 rfl ?_
  refine pm_iadd dX10_puts_46 ?_
  refine pm_iload_n dX10_puts_47 rfl ?_
  obtain ⟨c16, h⟩ := ck_some h
  obtain ⟨u17, hu18, h⟩ := lt1_ex h
  refine dx_as (j := o0) hR14 hk15 dX10_puts_48 hs0 (vp_in_iff.mpr c16) hu18 (fun w19 hR20 hk21 => ?_)
  cases h
  exact pm_vret dX10_puts_49 rfl (Nat.le_refl _) (Nat.le_refl _) ⟨rfl, rfl, hR20, hk21⟩
def g_X10_puts_j26 (F : Nat) (o0 N0 : Nat) (l1 : Int32) (l2 : Int32) (l3 : Int32) (s0 : Int32) (s1 : Int32) (u : rg_U) : Option rg_U :=
  g_X10_puts_j31 F o0 N0 l1 l2 l3 1 s0 s1 u
set_option maxHeartbeats 4000000 in
set_option maxRecDepth 100000 in
theorem k_X10_puts_j26 {gs : List String} {ro : pm_RO} {n : Nat} {w w1 : Nat → va_E} {b : Nat} {u : rg_U} {F : Nat} {o0 N0 : Nat} {l1 : Int32} {l2 : Int32} {l3 : Int32} {s0 : Int32} {s1 : Int32} {z : rg_U} (hR : rg shM b u n w1) (hk : rg_k b shM.length w w1) (hs0 : shM[o0]? = some (.inr (.inl (0, N0)))) (h : g_X10_puts_j26 F o0 N0 l1 l2 l3 s0 s1 u = some z) : pm_X gs ro M_X10_puts 1 0 0 0 0 26 [some (.ref (b + o0)), some (.int l1), some (.int l2), some (.int l3)] [.int s0, .int s1, .ref (b + o0)] n w1 (rg_post shM b n w none z) := by
  unfold g_X10_puts_j26 at h
  refine pm_iconst (v := 1) dX10_puts_26 (by decide) ?_
  refine pm_goto (tgt := 31) dX10_puts_27 (by decide) ?_
  exact k_X10_puts_j31 hR hk hs0 h
def g_X10_puts (F : Nat) (o0 N0 : Nat) (x1 : Int32) (x2 : Int32) (x3 : Int32) (u : rg_U) : Option rg_U :=
  ck (inb (80 + x1) N0) (ck (inb (0 + x1) N0) (if (rA u o0 (0 + x1)) = x2 then (ck (inb (40 + x1) N0) (if (rA u o0 (40 + x1)) = x3 then (g_X10_puts_j31 F o0 N0 x1 x2 x3 0 (rA u o0 (80 + x1)) (80 + x1) u) else (g_X10_puts_j26 F o0 N0 x1 x2 x3 (rA u o0 (80 + x1)) (80 + x1) u))) else (g_X10_puts_j26 F o0 N0 x1 x2 x3 (rA u o0 (80 + x1)) (80 + x1) u)))
set_option maxHeartbeats 4000000 in
set_option maxRecDepth 100000 in
theorem k_X10_puts {gs : List String} {ro : pm_RO} {n : Nat} {w : Nat → va_E} {b : Nat} {u : rg_U} {F : Nat} {o0 N0 : Nat} {x1 : Int32} {x2 : Int32} {x3 : Int32} {z : rg_U} (hR : rg shM b u n w) (hs0 : shM[o0]? = some (.inr (.inl (0, N0)))) (h : g_X10_puts F o0 N0 x1 x2 x3 u = some z) : pm_Met gs ro M_X10_puts 1 0 0 [.ref (b + o0), .int x1, .int x2, .int x3] n w (rg_post shM b n w none z) := by
  unfold g_X10_puts at h
  refine pm_ofX in_X10_puts (Nat.le_of_ble_eq_true rfl) rfl (L := [some (.ref (b + o0)), some (.int x1), some (.int x2), some (.int x3)]) rfl ?_
  refine pm_aload_n dX10_puts_0 rfl ?_
  refine pm_bipush (v := 80) dX10_puts_1 (by decide) ?_
  refine pm_iload_n dX10_puts_3 rfl ?_
  refine pm_iadd dX10_puts_4 ?_
  refine pm_dup2 dX10_puts_5 rfl rfl ?_
  obtain ⟨c1, h⟩ := ck_some h
  refine dx_al (j := o0) hR dX10_puts_6 hs0 (vp_in_iff.mpr c1) ?_
  refine pm_aload_n dX10_puts_7 rfl ?_
  refine pm_iconst (v := 0) dX10_puts_8 (by decide) ?_
  refine pm_iload_n dX10_puts_9 rfl ?_
  refine pm_iadd dX10_puts_10 ?_
  obtain ⟨c2, h⟩ := ck_some h
  refine dx_al (j := o0) hR dX10_puts_11 hs0 (vp_in_iff.mpr c2) ?_
  refine pm_iload_n dX10_puts_12 rfl ?_
  refine pm_icmp_ne (tgt := 26) dX10_puts_13 (by decide) (fun c3 => ?_) (fun c3 => ?_)
  · replace h := it_f c3 h
    exact k_X10_puts_j26 hR rg_k0 hs0 h
  · replace h := it_t c3 h
    refine pm_aload_n dX10_puts_16 rfl ?_
    refine pm_bipush (v := 40) dX10_puts_17 (by decide) ?_
    refine pm_iload_n dX10_puts_19 rfl ?_
    refine pm_iadd dX10_puts_20 ?_
    obtain ⟨c22, h⟩ := ck_some h
    refine dx_al (j := o0) hR dX10_puts_21 hs0 (vp_in_iff.mpr c22) ?_
    refine pm_iload_n dX10_puts_22 rfl ?_
    refine pm_icmp_eq (tgt := 30) dX10_puts_23 (by decide) (fun c23 => ?_) (fun c23 => ?_)
    · replace h := it_t c23 h
      refine pm_iconst (v := 0) dX10_puts_30 (by decide) ?_
      exact k_X10_puts_j31 hR rg_k0 hs0 h
    · replace h := it_f c23 h
      exact k_X10_puts_j26 hR rg_k0 hs0 h
def g_X10_notes (F : Nat) (x1 : Int32) (x2 : Int32) (x3 : Int32) (x4 : Int32) (u : rg_U) : Option rg_U :=
  ck (inb 4 5) (ck (inb 4 5) (ck (inb (3200 + (rA u 15 4)) 4000) (lt1 (sA u 10 (3200 + (rA u 15 4)) (rA u 21 4)) (fun u4 => ck (inb (3200 + (rA u 15 4)) 4000) (lt1 (sA u4 11 (3200 + (rA u 15 4)) x1) (fun u10 => ck (inb (3200 + (rA u 15 4)) 4000) (lt1 (sA u10 12 (3200 + (rA u 15 4)) x2) (fun u16 => ck (inb (3200 + (rA u 15 4)) 4000) (lt1 (sA u16 13 (3200 + (rA u 15 4)) x3) (fun u22 => ck (inb (3200 + (rA u 15 4)) 4000) (lt1 (sA u22 14 (3200 + (rA u 15 4)) x4) (fun u28 => ck (inb 4 5) (ck (inb 4 5) (lt1 (sA u28 15 4 ((rA u28 15 4) + 1)) (fun u35 => some u35)))))))))))))))
set_option maxHeartbeats 4000000 in
set_option maxRecDepth 100000 in
theorem k_X10_notes {gs : List String} {ro : pm_RO} {n : Nat} {w : Nat → va_E} {b : Nat} {u : rg_U} {F : Nat} {x1 : Int32} {x2 : Int32} {x3 : Int32} {x4 : Int32} {z : rg_U} (hR : rg shM b u n w) (h : g_X10_notes F x1 x2 x3 x4 u = some z) : pm_Met gs ro M_X10_notes 0 0 0 [.ref (b + 0), .int x1, .int x2, .int x3, .int x4] n w (rg_post shM b n w none z) := by
  unfold g_X10_notes at h
  refine pm_ofX in_X10_notes (Nat.le_of_ble_eq_true rfl) rfl (L := [some (.ref (b + 0)), some (.int x1), some (.int x2), some (.int x3), some (.int x4), none]) rfl ?_
  refine pm_sipush (v := 3200) dX10_notes_0 (by decide) ?_
  refine pm_aload_n dX10_notes_3 rfl ?_
  refine dx_gr (j := 0) (o := 15) hR dX10_notes_4 fl_X10_60 rfl rfl ?_
  refine pm_iconst (v := 4) dX10_notes_7 (by decide) ?_
  obtain ⟨c1, h⟩ := ck_some h
  refine dx_al (j := 15) hR dX10_notes_8 rfl (vp_in_iff.mpr c1) ?_
  refine pm_iadd dX10_notes_9 ?_
  refine pm_istore dX10_notes_10 (by decide) rfl rfl ?_
  refine pm_aload_n dX10_notes_12 rfl ?_
  refine dx_gr (j := 0) (o := 10) hR dX10_notes_13 fl_X10_45 rfl rfl ?_
  refine pm_iload dX10_notes_16 rfl ?_
  refine pm_aload_n dX10_notes_18 rfl ?_
  refine dx_gr (j := 0) (o := 21) hR dX10_notes_19 fl_X10_78 rfl rfl ?_
  refine pm_iconst (v := 4) dX10_notes_22 (by decide) ?_
  obtain ⟨c2, h⟩ := ck_some h
  refine dx_al (j := 21) hR dX10_notes_23 rfl (vp_in_iff.mpr c2) ?_
  obtain ⟨c3, h⟩ := ck_some h
  obtain ⟨u4, hu5, h⟩ := lt1_ex h
  refine dx_as (j := 10) hR rg_k0 dX10_notes_24 rfl (vp_in_iff.mpr c3) hu5 (fun w6 hR7 hk8 => ?_)
  refine pm_aload_n dX10_notes_25 rfl ?_
  refine dx_gr (j := 0) (o := 11) hR7 dX10_notes_26 fl_X10_48 rfl rfl ?_
  refine pm_iload dX10_notes_29 rfl ?_
  refine pm_iload_n dX10_notes_31 rfl ?_
  obtain ⟨c9, h⟩ := ck_some h
  obtain ⟨u10, hu11, h⟩ := lt1_ex h
  refine dx_as (j := 11) hR7 hk8 dX10_notes_32 rfl (vp_in_iff.mpr c9) hu11 (fun w12 hR13 hk14 => ?_)
  refine pm_aload_n dX10_notes_33 rfl ?_
  refine dx_gr (j := 0) (o := 12) hR13 dX10_notes_34 fl_X10_51 rfl rfl ?_
  refine pm_iload dX10_notes_37 rfl ?_
  refine pm_iload_n dX10_notes_39 rfl ?_
  obtain ⟨c15, h⟩ := ck_some h
  obtain ⟨u16, hu17, h⟩ := lt1_ex h
  refine dx_as (j := 12) hR13 hk14 dX10_notes_40 rfl (vp_in_iff.mpr c15) hu17 (fun w18 hR19 hk20 => ?_)
  refine pm_aload_n dX10_notes_41 rfl ?_
  refine dx_gr (j := 0) (o := 13) hR19 dX10_notes_42 fl_X10_54 rfl rfl ?_
  refine pm_iload dX10_notes_45 rfl ?_
  refine pm_iload_n dX10_notes_47 rfl ?_
  obtain ⟨c21, h⟩ := ck_some h
  obtain ⟨u22, hu23, h⟩ := lt1_ex h
  refine dx_as (j := 13) hR19 hk20 dX10_notes_48 rfl (vp_in_iff.mpr c21) hu23 (fun w24 hR25 hk26 => ?_)
  refine pm_aload_n dX10_notes_49 rfl ?_
  refine dx_gr (j := 0) (o := 14) hR25 dX10_notes_50 fl_X10_57 rfl rfl ?_
  refine pm_iload dX10_notes_53 rfl ?_
  refine pm_iload dX10_notes_55 rfl ?_
  obtain ⟨c27, h⟩ := ck_some h
  obtain ⟨u28, hu29, h⟩ := lt1_ex h
  refine dx_as (j := 14) hR25 hk26 dX10_notes_57 rfl (vp_in_iff.mpr c27) hu29 (fun w30 hR31 hk32 => ?_)
  refine pm_aload_n dX10_notes_58 rfl ?_
  refine dx_gr (j := 0) (o := 15) hR31 dX10_notes_59 fl_X10_60 rfl rfl ?_
  refine pm_iconst (v := 4) dX10_notes_62 (by decide) ?_
  refine pm_dup2 dX10_notes_63 rfl rfl ?_
  obtain ⟨c33, h⟩ := ck_some h
  refine dx_al (j := 15) hR31 dX10_notes_64 rfl (vp_in_iff.mpr c33) ?_
  refine pm_iconst (v := 1) dX10_notes_65 (by decide) ?_
  refine pm_iadd dX10_notes_66 ?_
  obtain ⟨c34, h⟩ := ck_some h
  obtain ⟨u35, hu36, h⟩ := lt1_ex h
  refine dx_as (j := 15) hR31 hk32 dX10_notes_67 rfl (vp_in_iff.mpr c34) hu36 (fun w37 hR38 hk39 => ?_)
  cases h
  exact pm_vret dX10_notes_68 rfl (Nat.le_refl _) (Nat.le_refl _) ⟨rfl, rfl, hR38, hk39⟩
