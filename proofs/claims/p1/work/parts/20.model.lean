theorem dX10_code_0 : decode cX10_code 0 = .ok (.iload_n 1, 1) := by decide +kernel
theorem dX10_code_1 : decode cX10_code 1 = .ok (.iconst 0, 1) := by decide +kernel
theorem dX10_code_2 : decode cX10_code 2 = .ok (.bipush 63, 2) := by decide +kernel
theorem dX10_code_4 : decode cX10_code 4 = .ok (.invokestatic 138, 3) := by decide +kernel
theorem dX10_code_7 : decode cX10_code 7 = .ok (.ifCond .eq 15, 3) := by decide +kernel
theorem dX10_code_10 : decode cX10_code 10 = .ok (.iload_n 2, 1) := by decide +kernel
theorem dX10_code_11 : decode cX10_code 11 = .ok (.iload_n 3, 1) := by decide +kernel
theorem dX10_code_12 : decode cX10_code 12 = .ok (.iload 4, 2) := by decide +kernel
theorem dX10_code_14 : decode cX10_code 14 = .ok (.iload 5, 2) := by decide +kernel
theorem dX10_code_16 : decode cX10_code 16 = .ok (.invokestatic 146, 3) := by decide +kernel
theorem dX10_code_19 : decode cX10_code 19 = .ok (.ifCond .ne 5, 3) := by decide +kernel
theorem dX10_code_22 : decode cX10_code 22 = .ok (.iconst 0, 1) := by decide +kernel
theorem dX10_code_23 : decode cX10_code 23 = .ok (.ireturn, 1) := by decide +kernel
theorem dX10_code_24 : decode cX10_code 24 = .ok (.aload_n 0, 1) := by decide +kernel
theorem dX10_code_25 : decode cX10_code 25 = .ok (.getfield 7, 3) := by decide +kernel
theorem dX10_code_28 : decode cX10_code 28 = .ok (.iload_n 1, 1) := by decide +kernel
theorem dX10_code_29 : decode cX10_code 29 = .ok (.iload_n 2, 1) := by decide +kernel
theorem dX10_code_30 : decode cX10_code 30 = .ok (.iastore, 1) := by decide +kernel
theorem dX10_code_31 : decode cX10_code 31 = .ok (.aload_n 0, 1) := by decide +kernel
theorem dX10_code_32 : decode cX10_code 32 = .ok (.getfield 13, 3) := by decide +kernel
theorem dX10_code_35 : decode cX10_code 35 = .ok (.iload_n 1, 1) := by decide +kernel
theorem dX10_code_36 : decode cX10_code 36 = .ok (.iload_n 3, 1) := by decide +kernel
theorem dX10_code_37 : decode cX10_code 37 = .ok (.iastore, 1) := by decide +kernel
theorem dX10_code_38 : decode cX10_code 38 = .ok (.aload_n 0, 1) := by decide +kernel
theorem dX10_code_39 : decode cX10_code 39 = .ok (.getfield 16, 3) := by decide +kernel
theorem dX10_code_42 : decode cX10_code 42 = .ok (.iload_n 1, 1) := by decide +kernel
theorem dX10_code_43 : decode cX10_code 43 = .ok (.iload 4, 2) := by decide +kernel
theorem dX10_code_45 : decode cX10_code 45 = .ok (.iastore, 1) := by decide +kernel
theorem dX10_code_46 : decode cX10_code 46 = .ok (.aload_n 0, 1) := by decide +kernel
theorem dX10_code_47 : decode cX10_code 47 = .ok (.getfield 19, 3) := by decide +kernel
theorem dX10_code_50 : decode cX10_code 50 = .ok (.iload_n 1, 1) := by decide +kernel
theorem dX10_code_51 : decode cX10_code 51 = .ok (.iload 5, 2) := by decide +kernel
theorem dX10_code_53 : decode cX10_code 53 = .ok (.iastore, 1) := by decide +kernel
theorem dX10_code_54 : decode cX10_code 54 = .ok (.iconst 1, 1) := by decide +kernel
theorem dX10_code_55 : decode cX10_code 55 = .ok (.ireturn, 1) := by decide +kernel
theorem dX10_goesWith_0 : decode cX10_goesWith 0 = .ok (.iload_n 1, 1) := by decide +kernel
theorem dX10_goesWith_1 : decode cX10_goesWith 1 = .ok (.iload_n 2, 1) := by decide +kernel
theorem dX10_goesWith_2 : decode cX10_goesWith 2 = .ok (.aload_n 0, 1) := by decide +kernel
theorem dX10_goesWith_3 : decode cX10_goesWith 3 = .ok (.iload_n 1, 1) := by decide +kernel
theorem dX10_goesWith_4 : decode cX10_goesWith 4 = .ok (.invokevirtual 225, 3) := by decide +kernel
theorem dX10_goesWith_7 : decode cX10_goesWith 7 = .ok (.ishl, 1) := by decide +kernel
theorem dX10_goesWith_8 : decode cX10_goesWith 8 = .ok (.iadd, 1) := by decide +kernel
theorem dX10_goesWith_9 : decode cX10_goesWith 9 = .ok (.ireturn, 1) := by decide +kernel
theorem dX10_halvings_0 : decode cX10_halvings 0 = .ok (.iconst 0, 1) := by decide +kernel
theorem dX10_halvings_1 : decode cX10_halvings 1 = .ok (.istore_n 2, 1) := by decide +kernel
theorem dX10_halvings_2 : decode cX10_halvings 2 = .ok (.iload_n 1, 1) := by decide +kernel
theorem dX10_halvings_3 : decode cX10_halvings 3 = .ok (.iload_n 2, 1) := by decide +kernel
theorem dX10_halvings_4 : decode cX10_halvings 4 = .ok (.ishr, 1) := by decide +kernel
theorem dX10_halvings_5 : decode cX10_halvings 5 = .ok (.iconst 1, 1) := by decide +kernel
theorem dX10_halvings_6 : decode cX10_halvings 6 = .ok (.iand, 1) := by decide +kernel
theorem dX10_halvings_7 : decode cX10_halvings 7 = .ok (.ifCond .ne 9, 3) := by decide +kernel
theorem dX10_halvings_10 : decode cX10_halvings 10 = .ok (.iinc 2 1, 3) := by decide +kernel
theorem dX10_halvings_13 : decode cX10_halvings 13 = .ok (.goto (-11), 3) := by decide +kernel
theorem dX10_halvings_16 : decode cX10_halvings 16 = .ok (.iload_n 2, 1) := by decide +kernel
theorem dX10_halvings_17 : decode cX10_halvings 17 = .ok (.ireturn, 1) := by decide +kernel
theorem dX10_heldAt_0 : decode cX10_heldAt 0 = .ok (.sipush 3001, 3) := by decide +kernel
theorem dX10_heldAt_3 : decode cX10_heldAt 3 = .ok (.iload_n 0, 1) := by decide +kernel
theorem dX10_heldAt_4 : decode cX10_heldAt 4 = .ok (.imul, 1) := by decide +kernel
theorem dX10_heldAt_5 : decode cX10_heldAt 5 = .ok (.iload_n 1, 1) := by decide +kernel
theorem dX10_heldAt_6 : decode cX10_heldAt 6 = .ok (.iadd, 1) := by decide +kernel
theorem dX10_heldAt_7 : decode cX10_heldAt 7 = .ok (.ireturn, 1) := by decide +kernel
theorem dX10_isFine_0 : decode cX10_isFine 0 = .ok (.iload_n 0, 1) := by decide +kernel
theorem dX10_isFine_1 : decode cX10_isFine 1 = .ok (.iconst (-1), 1) := by decide +kernel
theorem dX10_isFine_2 : decode cX10_isFine 2 = .ok (.if_icmp .eq 13, 3) := by decide +kernel
theorem dX10_isFine_5 : decode cX10_isFine 5 = .ok (.iload_n 0, 1) := by decide +kernel
theorem dX10_isFine_6 : decode cX10_isFine 6 = .ok (.ifCond .eq 9, 3) := by decide +kernel
theorem dX10_isFine_9 : decode cX10_isFine 9 = .ok (.iload_n 0, 1) := by decide +kernel
theorem dX10_isFine_10 : decode cX10_isFine 10 = .ok (.bipush 18, 2) := by decide +kernel
theorem dX10_isFine_12 : decode cX10_isFine 12 = .ok (.if_icmp .ne 5, 3) := by decide +kernel
theorem dX10_isFine_15 : decode cX10_isFine 15 = .ok (.iconst 1, 1) := by decide +kernel
theorem dX10_isFine_16 : decode cX10_isFine 16 = .ok (.ireturn, 1) := by decide +kernel
theorem dX10_isFine_17 : decode cX10_isFine 17 = .ok (.iload_n 0, 1) := by decide +kernel
theorem dX10_isFine_18 : decode cX10_isFine 18 = .ok (.bipush 15, 2) := by decide +kernel
theorem dX10_isFine_20 : decode cX10_isFine 20 = .ok (.if_icmp .eq 9, 3) := by decide +kernel
theorem dX10_isFine_23 : decode cX10_isFine 23 = .ok (.iload_n 0, 1) := by decide +kernel
theorem dX10_isFine_24 : decode cX10_isFine 24 = .ok (.bipush 17, 2) := by decide +kernel
theorem dX10_isFine_26 : decode cX10_isFine 26 = .ok (.if_icmp .ne 11, 3) := by decide +kernel
theorem dX10_isFine_29 : decode cX10_isFine 29 = .ok (.iload_n 1, 1) := by decide +kernel
theorem dX10_isFine_30 : decode cX10_isFine 30 = .ok (.iconst 0, 1) := by decide +kernel
theorem dX10_isFine_31 : decode cX10_isFine 31 = .ok (.bipush 63, 2) := by decide +kernel
theorem dX10_isFine_33 : decode cX10_isFine 33 = .ok (.invokestatic 138, 3) := by decide +kernel
theorem dX10_isFine_36 : decode cX10_isFine 36 = .ok (.ireturn, 1) := by decide +kernel
theorem dX10_isFine_37 : decode cX10_isFine 37 = .ok (.iload_n 1, 1) := by decide +kernel
theorem dX10_isFine_38 : decode cX10_isFine 38 = .ok (.invokestatic 142, 3) := by decide +kernel
theorem dX10_isFine_41 : decode cX10_isFine 41 = .ok (.ifCond .ne 5, 3) := by decide +kernel
theorem dX10_isFine_44 : decode cX10_isFine 44 = .ok (.iconst 0, 1) := by decide +kernel
theorem dX10_isFine_45 : decode cX10_isFine 45 = .ok (.ireturn, 1) := by decide +kernel
theorem dX10_isFine_46 : decode cX10_isFine 46 = .ok (.iload_n 0, 1) := by decide +kernel
theorem dX10_isFine_47 : decode cX10_isFine 47 = .ok (.iconst 2, 1) := by decide +kernel
theorem dX10_isFine_48 : decode cX10_isFine 48 = .ok (.if_icmp .ne 10, 3) := by decide +kernel
theorem dX10_isFine_51 : decode cX10_isFine 51 = .ok (.iload_n 2, 1) := by decide +kernel
theorem dX10_isFine_52 : decode cX10_isFine 52 = .ok (.iconst 0, 1) := by decide +kernel
theorem dX10_isFine_53 : decode cX10_isFine 53 = .ok (.iconst 1, 1) := by decide +kernel
theorem dX10_isFine_54 : decode cX10_isFine 54 = .ok (.invokestatic 138, 3) := by decide +kernel
theorem dX10_isFine_57 : decode cX10_isFine 57 = .ok (.ireturn, 1) := by decide +kernel
theorem dX10_isFine_58 : decode cX10_isFine 58 = .ok (.iload_n 0, 1) := by decide +kernel
theorem dX10_isFine_59 : decode cX10_isFine 59 = .ok (.bipush 16, 2) := by decide +kernel
theorem dX10_isFine_61 : decode cX10_isFine 61 = .ok (.if_icmp .ne 11, 3) := by decide +kernel
theorem dX10_isFine_64 : decode cX10_isFine 64 = .ok (.iload_n 2, 1) := by decide +kernel
theorem dX10_isFine_65 : decode cX10_isFine 65 = .ok (.iconst 0, 1) := by decide +kernel
theorem dX10_isFine_66 : decode cX10_isFine 66 = .ok (.bipush 63, 2) := by decide +kernel
theorem dX10_isFine_68 : decode cX10_isFine 68 = .ok (.invokestatic 138, 3) := by decide +kernel
theorem dX10_isFine_71 : decode cX10_isFine 71 = .ok (.ireturn, 1) := by decide +kernel
theorem dX10_isFine_72 : decode cX10_isFine 72 = .ok (.iload_n 0, 1) := by decide +kernel
theorem dX10_isFine_73 : decode cX10_isFine 73 = .ok (.bipush 20, 2) := by decide +kernel
theorem dX10_isFine_75 : decode cX10_isFine 75 = .ok (.if_icmp .ne 12, 3) := by decide +kernel
theorem dX10_isFine_78 : decode cX10_isFine 78 = .ok (.iload_n 2, 1) := by decide +kernel
theorem dX10_isFine_79 : decode cX10_isFine 79 = .ok (.iconst 1, 1) := by decide +kernel
theorem dX10_isFine_80 : decode cX10_isFine 80 = .ok (.sipush 1000, 3) := by decide +kernel
theorem dX10_isFine_83 : decode cX10_isFine 83 = .ok (.invokestatic 138, 3) := by decide +kernel
theorem dX10_isFine_86 : decode cX10_isFine 86 = .ok (.ireturn, 1) := by decide +kernel
theorem dX10_isFine_87 : decode cX10_isFine 87 = .ok (.iload_n 0, 1) := by decide +kernel
theorem dX10_isFine_88 : decode cX10_isFine 88 = .ok (.iconst 3, 1) := by decide +kernel
theorem dX10_isFine_89 : decode cX10_isFine 89 = .ok (.if_icmp .eq 21, 3) := by decide +kernel
theorem dX10_isFine_92 : decode cX10_isFine 92 = .ok (.iload_n 0, 1) := by decide +kernel
theorem dX10_isFine_93 : decode cX10_isFine 93 = .ok (.bipush 11, 2) := by decide +kernel
theorem dX10_isFine_95 : decode cX10_isFine 95 = .ok (.if_icmp .eq 15, 3) := by decide +kernel
theorem dX10_isFine_98 : decode cX10_isFine 98 = .ok (.iload_n 0, 1) := by decide +kernel
theorem dX10_isFine_99 : decode cX10_isFine 99 = .ok (.bipush 13, 2) := by decide +kernel
theorem dX10_isFine_101 : decode cX10_isFine 101 = .ok (.if_icmp .eq 9, 3) := by decide +kernel
theorem dX10_isFine_104 : decode cX10_isFine 104 = .ok (.iload_n 0, 1) := by decide +kernel
theorem dX10_isFine_105 : decode cX10_isFine 105 = .ok (.bipush 14, 2) := by decide +kernel
theorem dX10_isFine_107 : decode cX10_isFine 107 = .ok (.if_icmp .ne 8, 3) := by decide +kernel
theorem dX10_isFine_110 : decode cX10_isFine 110 = .ok (.iload_n 2, 1) := by decide +kernel
theorem dX10_isFine_111 : decode cX10_isFine 111 = .ok (.invokestatic 142, 3) := by decide +kernel
theorem dX10_isFine_114 : decode cX10_isFine 114 = .ok (.ireturn, 1) := by decide +kernel
theorem dX10_isFine_115 : decode cX10_isFine 115 = .ok (.iload_n 0, 1) := by decide +kernel
theorem dX10_isFine_116 : decode cX10_isFine 116 = .ok (.iconst 4, 1) := by decide +kernel
theorem dX10_isFine_117 : decode cX10_isFine 117 = .ok (.bipush 10, 2) := by decide +kernel
theorem dX10_isFine_119 : decode cX10_isFine 119 = .ok (.invokestatic 138, 3) := by decide +kernel
theorem dX10_isFine_122 : decode cX10_isFine 122 = .ok (.ifCond .ne 9, 3) := by decide +kernel
theorem dX10_isFine_125 : decode cX10_isFine 125 = .ok (.iload_n 0, 1) := by decide +kernel
theorem dX10_isFine_126 : decode cX10_isFine 126 = .ok (.bipush 12, 2) := by decide +kernel
theorem dX10_isFine_128 : decode cX10_isFine 128 = .ok (.if_icmp .ne 23, 3) := by decide +kernel
theorem dX10_isFine_131 : decode cX10_isFine 131 = .ok (.iload_n 2, 1) := by decide +kernel
theorem dX10_isFine_132 : decode cX10_isFine 132 = .ok (.invokestatic 142, 3) := by decide +kernel
theorem dX10_isFine_135 : decode cX10_isFine 135 = .ok (.ifCond .eq 14, 3) := by decide +kernel
theorem dX10_isFine_138 : decode cX10_isFine 138 = .ok (.iload_n 3, 1) := by decide +kernel
theorem dX10_isFine_139 : decode cX10_isFine 139 = .ok (.invokestatic 142, 3) := by decide +kernel
theorem dX10_isFine_142 : decode cX10_isFine 142 = .ok (.ifCond .eq 7, 3) := by decide +kernel
theorem dX10_isFine_145 : decode cX10_isFine 145 = .ok (.iconst 1, 1) := by decide +kernel
theorem dX10_isFine_146 : decode cX10_isFine 146 = .ok (.goto 4, 3) := by decide +kernel
theorem dX10_isFine_149 : decode cX10_isFine 149 = .ok (.iconst 0, 1) := by decide +kernel
theorem dX10_isFine_150 : decode cX10_isFine 150 = .ok (.ireturn, 1) := by decide +kernel
theorem dX10_isFine_151 : decode cX10_isFine 151 = .ok (.iload_n 0, 1) := by decide +kernel
theorem dX10_isFine_152 : decode cX10_isFine 152 = .ok (.iconst 1, 1) := by decide +kernel
theorem dX10_isFine_153 : decode cX10_isFine 153 = .ok (.if_icmp .eq 21, 3) := by decide +kernel
theorem dX10_isFine_156 : decode cX10_isFine 156 = .ok (.iload_n 0, 1) := by decide +kernel
theorem dX10_isFine_157 : decode cX10_isFine 157 = .ok (.bipush 19, 2) := by decide +kernel
theorem dX10_isFine_159 : decode cX10_isFine 159 = .ok (.if_icmp .eq 15, 3) := by decide +kernel
theorem dX10_isFine_162 : decode cX10_isFine 162 = .ok (.iload_n 0, 1) := by decide +kernel
theorem dX10_isFine_163 : decode cX10_isFine 163 = .ok (.bipush 21, 2) := by decide +kernel
theorem dX10_isFine_165 : decode cX10_isFine 165 = .ok (.if_icmp .eq 9, 3) := by decide +kernel
theorem dX10_isFine_168 : decode cX10_isFine 168 = .ok (.iload_n 0, 1) := by decide +kernel
theorem dX10_isFine_169 : decode cX10_isFine 169 = .ok (.bipush 22, 2) := by decide +kernel
theorem dX10_isFine_171 : decode cX10_isFine 171 = .ok (.if_icmp .ne 7, 3) := by decide +kernel
theorem dX10_isFine_174 : decode cX10_isFine 174 = .ok (.iconst 1, 1) := by decide +kernel
theorem dX10_isFine_175 : decode cX10_isFine 175 = .ok (.goto 4, 3) := by decide +kernel
theorem dX10_isFine_178 : decode cX10_isFine 178 = .ok (.iconst 0, 1) := by decide +kernel
theorem dX10_isFine_179 : decode cX10_isFine 179 = .ok (.ireturn, 1) := by decide +kernel
theorem dX10_isIn_0 : decode cX10_isIn 0 = .ok (.iload_n 0, 1) := by decide +kernel
theorem dX10_isIn_1 : decode cX10_isIn 1 = .ok (.iload_n 1, 1) := by decide +kernel
theorem dX10_isIn_2 : decode cX10_isIn 2 = .ok (.if_icmp .lt 12, 3) := by decide +kernel
theorem dX10_isIn_5 : decode cX10_isIn 5 = .ok (.iload_n 0, 1) := by decide +kernel
theorem dX10_isIn_6 : decode cX10_isIn 6 = .ok (.iload_n 2, 1) := by decide +kernel
theorem dX10_isIn_7 : decode cX10_isIn 7 = .ok (.if_icmp .gt 7, 3) := by decide +kernel
theorem dX10_isIn_10 : decode cX10_isIn 10 = .ok (.iconst 1, 1) := by decide +kernel
theorem dX10_isIn_11 : decode cX10_isIn 11 = .ok (.goto 4, 3) := by decide +kernel
theorem dX10_isIn_14 : decode cX10_isIn 14 = .ok (.iconst 0, 1) := by decide +kernel
theorem dX10_isIn_15 : decode cX10_isIn 15 = .ok (.ireturn, 1) := by decide +kernel
theorem dX10_isPlace_0 : decode cX10_isPlace 0 = .ok (.iload_n 0, 1) := by decide +kernel
theorem dX10_isPlace_1 : decode cX10_isPlace 1 = .ok (.iconst 0, 1) := by decide +kernel
theorem dX10_isPlace_2 : decode cX10_isPlace 2 = .ok (.bipush 39, 2) := by decide +kernel
theorem dX10_isPlace_4 : decode cX10_isPlace 4 = .ok (.invokestatic 138, 3) := by decide +kernel
theorem dX10_isPlace_7 : decode cX10_isPlace 7 = .ok (.ireturn, 1) := by decide +kernel
theorem dX10_isRegister_0 : decode cX10_isRegister 0 = .ok (.iload_n 0, 1) := by decide +kernel
theorem dX10_isRegister_1 : decode cX10_isRegister 1 = .ok (.iconst 0, 1) := by decide +kernel
theorem dX10_isRegister_2 : decode cX10_isRegister 2 = .ok (.bipush 7, 2) := by decide +kernel
theorem dX10_isRegister_4 : decode cX10_isRegister 4 = .ok (.invokestatic 138, 3) := by decide +kernel
theorem dX10_isRegister_7 : decode cX10_isRegister 7 = .ok (.ireturn, 1) := by decide +kernel
theorem dX10_isSpacing_0 : decode cX10_isSpacing 0 = .ok (.iload_n 0, 1) := by decide +kernel
theorem dX10_isSpacing_1 : decode cX10_isSpacing 1 = .ok (.iconst 1, 1) := by decide +kernel
theorem dX10_isSpacing_2 : decode cX10_isSpacing 2 = .ok (.bipush 64, 2) := by decide +kernel
theorem dX10_isSpacing_4 : decode cX10_isSpacing 4 = .ok (.invokestatic 138, 3) := by decide +kernel
theorem dX10_isSpacing_7 : decode cX10_isSpacing 7 = .ok (.ifCond .eq 17, 3) := by decide +kernel
theorem dX10_isSpacing_10 : decode cX10_isSpacing 10 = .ok (.iload_n 1, 1) := by decide +kernel
theorem dX10_isSpacing_11 : decode cX10_isSpacing 11 = .ok (.iconst 1, 1) := by decide +kernel
theorem dX10_isSpacing_12 : decode cX10_isSpacing 12 = .ok (.bipush 8, 2) := by decide +kernel
theorem dX10_isSpacing_14 : decode cX10_isSpacing 14 = .ok (.invokestatic 138, 3) := by decide +kernel
theorem dX10_isSpacing_17 : decode cX10_isSpacing 17 = .ok (.ifCond .eq 7, 3) := by decide +kernel
theorem dX10_isSpacing_20 : decode cX10_isSpacing 20 = .ok (.iconst 1, 1) := by decide +kernel
theorem dX10_isSpacing_21 : decode cX10_isSpacing 21 = .ok (.goto 4, 3) := by decide +kernel
theorem dX10_isSpacing_24 : decode cX10_isSpacing 24 = .ok (.iconst 0, 1) := by decide +kernel
theorem dX10_isSpacing_25 : decode cX10_isSpacing 25 = .ok (.ireturn, 1) := by decide +kernel
theorem dX10_isValue_0 : decode cX10_isValue 0 = .ok (.iload_n 0, 1) := by decide +kernel
theorem dX10_isValue_1 : decode cX10_isValue 1 = .ok (.ifCond .ne 15, 3) := by decide +kernel
theorem dX10_isValue_4 : decode cX10_isValue 4 = .ok (.iload_n 1, 1) := by decide +kernel
theorem dX10_isValue_5 : decode cX10_isValue 5 = .ok (.ifCond .ne 7, 3) := by decide +kernel
theorem dX10_isValue_8 : decode cX10_isValue 8 = .ok (.iconst 1, 1) := by decide +kernel
theorem dX10_isValue_9 : decode cX10_isValue 9 = .ok (.goto 31, 3) := by decide +kernel
theorem dX10_isValue_12 : decode cX10_isValue 12 = .ok (.iconst 0, 1) := by decide +kernel
theorem dX10_isValue_13 : decode cX10_isValue 13 = .ok (.goto 27, 3) := by decide +kernel
theorem dX10_isValue_16 : decode cX10_isValue 16 = .ok (.iload_n 0, 1) := by decide +kernel
theorem dX10_isValue_17 : decode cX10_isValue 17 = .ok (.iconst 1, 1) := by decide +kernel
theorem dX10_isValue_18 : decode cX10_isValue 18 = .ok (.if_icmp .ne 12, 3) := by decide +kernel
theorem dX10_isValue_21 : decode cX10_isValue 21 = .ok (.iload_n 1, 1) := by decide +kernel
theorem dX10_isValue_22 : decode cX10_isValue 22 = .ok (.iconst 0, 1) := by decide +kernel
theorem dX10_isValue_23 : decode cX10_isValue 23 = .ok (.iconst 1, 1) := by decide +kernel
theorem dX10_isValue_24 : decode cX10_isValue 24 = .ok (.invokestatic 138, 3) := by decide +kernel
theorem dX10_isValue_27 : decode cX10_isValue 27 = .ok (.goto 13, 3) := by decide +kernel
theorem dX10_isValue_30 : decode cX10_isValue 30 = .ok (.iload_n 0, 1) := by decide +kernel
theorem dX10_isValue_31 : decode cX10_isValue 31 = .ok (.iconst 2, 1) := by decide +kernel
theorem dX10_isValue_32 : decode cX10_isValue 32 = .ok (.if_icmp .ne 7, 3) := by decide +kernel
theorem dX10_isValue_35 : decode cX10_isValue 35 = .ok (.iconst 1, 1) := by decide +kernel
theorem dX10_isValue_36 : decode cX10_isValue 36 = .ok (.goto 4, 3) := by decide +kernel
theorem dX10_isValue_39 : decode cX10_isValue 39 = .ok (.iconst 0, 1) := by decide +kernel
theorem dX10_isValue_40 : decode cX10_isValue 40 = .ok (.ireturn, 1) := by decide +kernel
theorem dX10_one_0 : decode cX10_one 0 = .ok (.iload_n 0, 1) := by decide +kernel
theorem dX10_one_1 : decode cX10_one 1 = .ok (.ifCond .eq 7, 3) := by decide +kernel
theorem dX10_one_4 : decode cX10_one 4 = .ok (.iconst 1, 1) := by decide +kernel
theorem dX10_one_5 : decode cX10_one 5 = .ok (.goto 4, 3) := by decide +kernel
theorem dX10_one_8 : decode cX10_one 8 = .ok (.iconst 0, 1) := by decide +kernel
theorem dX10_one_9 : decode cX10_one 9 = .ok (.ireturn, 1) := by decide +kernel
theorem dX10_seed_0 : decode cX10_seed 0 = .ok (.aload_n 0, 1) := by decide +kernel
theorem dX10_seed_1 : decode cX10_seed 1 = .ok (.getfield 108, 3) := by decide +kernel
theorem dX10_seed_4 : decode cX10_seed 4 = .ok (.istore_n 2, 1) := by decide +kernel
theorem dX10_seed_5 : decode cX10_seed 5 = .ok (.aload_n 0, 1) := by decide +kernel
theorem dX10_seed_6 : decode cX10_seed 6 = .ok (.iload_n 1, 1) := by decide +kernel
theorem dX10_seed_7 : decode cX10_seed 7 = .ok (.putfield 108, 3) := by decide +kernel
theorem dX10_seed_10 : decode cX10_seed 10 = .ok (.iload_n 2, 1) := by decide +kernel
theorem dX10_seed_11 : decode cX10_seed 11 = .ok (.ireturn, 1) := by decide +kernel
theorem dX10_spacing_0 : decode cX10_spacing 0 = .ok (.iload_n 1, 1) := by decide +kernel
theorem dX10_spacing_1 : decode cX10_spacing 1 = .ok (.iload_n 2, 1) := by decide +kernel
theorem dX10_spacing_2 : decode cX10_spacing 2 = .ok (.invokestatic 150, 3) := by decide +kernel
theorem dX10_spacing_5 : decode cX10_spacing 5 = .ok (.ifCond .ne 5, 3) := by decide +kernel
theorem dX10_spacing_8 : decode cX10_spacing 8 = .ok (.iconst 0, 1) := by decide +kernel
theorem dX10_spacing_9 : decode cX10_spacing 9 = .ok (.ireturn, 1) := by decide +kernel
theorem dX10_spacing_10 : decode cX10_spacing 10 = .ok (.aload_n 0, 1) := by decide +kernel
theorem dX10_spacing_11 : decode cX10_spacing 11 = .ok (.iload_n 1, 1) := by decide +kernel
theorem dX10_spacing_12 : decode cX10_spacing 12 = .ok (.putfield 22, 3) := by decide +kernel
theorem dX10_spacing_15 : decode cX10_spacing 15 = .ok (.aload_n 0, 1) := by decide +kernel
theorem dX10_spacing_16 : decode cX10_spacing 16 = .ok (.iload_n 2, 1) := by decide +kernel
theorem dX10_spacing_17 : decode cX10_spacing 17 = .ok (.putfield 26, 3) := by decide +kernel
theorem dX10_spacing_20 : decode cX10_spacing 20 = .ok (.iconst 1, 1) := by decide +kernel
theorem dX10_spacing_21 : decode cX10_spacing 21 = .ok (.ireturn, 1) := by decide +kernel
theorem dX10_wouldBe_0 : decode cX10_wouldBe 0 = .ok (.iload_n 1, 1) := by decide +kernel
theorem dX10_wouldBe_1 : decode cX10_wouldBe 1 = .ok (.ifCond .eq 13, 3) := by decide +kernel
theorem dX10_wouldBe_4 : decode cX10_wouldBe 4 = .ok (.aload_n 0, 1) := by decide +kernel
theorem dX10_wouldBe_5 : decode cX10_wouldBe 5 = .ok (.iload_n 1, 1) := by decide +kernel
theorem dX10_wouldBe_6 : decode cX10_wouldBe 6 = .ok (.iload_n 3, 1) := by decide +kernel
theorem dX10_wouldBe_7 : decode cX10_wouldBe 7 = .ok (.invokevirtual 229, 3) := by decide +kernel
theorem dX10_wouldBe_10 : decode cX10_wouldBe 10 = .ok (.iload_n 2, 1) := by decide +kernel
theorem dX10_wouldBe_11 : decode cX10_wouldBe 11 = .ok (.if_icmp .le 7, 3) := by decide +kernel
theorem dX10_wouldBe_14 : decode cX10_wouldBe 14 = .ok (.iconst 1, 1) := by decide +kernel
theorem dX10_wouldBe_15 : decode cX10_wouldBe 15 = .ok (.goto 4, 3) := by decide +kernel
theorem dX10_wouldBe_18 : decode cX10_wouldBe 18 = .ok (.iconst 0, 1) := by decide +kernel
theorem dX10_wouldBe_19 : decode cX10_wouldBe 19 = .ok (.ireturn, 1) := by decide +kernel
def md_isIn (v lo hi : Int32) : Int32 := if lo ≤ v ∧ v ≤ hi then 1 else 0
theorem md_isIn_0 {v lo hi : Int32} : md_isIn v lo hi = 0 ↔ ¬ (lo ≤ v ∧ v ≤ hi) := by
  unfold md_isIn; split <;> simp_all
theorem md_isIn_b {v lo hi : Int32} : md_isIn v lo hi = 0 ∨ md_isIn v lo hi = 1 := by
  unfold md_isIn; split <;> simp
set_option maxHeartbeats 4000000 in
set_option maxRecDepth 100000 in
theorem k_X10_isIn {gs : List String} {ro : pm_RO} (n : Nat) (w : Nat → va_E) (v lo hi : Int32) : pm_Met gs ro M_X10_isIn 0 0 0 [.int v, .int lo, .int hi] n w (fun rr n1 w1 => n1 = n ∧ w1 = w ∧ rr = some (.int (md_isIn v lo hi))) := by
  refine pm_ofX in_X10_isIn (Nat.le_of_ble_eq_true rfl) rfl (L := [some (.int v), some (.int lo), some (.int hi)]) rfl ?_
  refine pm_iload_n dX10_isIn_0 rfl ?_
  refine pm_iload_n dX10_isIn_1 rfl ?_
  refine pm_icmp_lt (tgt := 14) dX10_isIn_2 (by decide) (fun c_2 => ?_) (fun c_2 => ?_)
  · refine pm_iconst (v := 0) dX10_isIn_14 (by decide) ?_
    refine pm_zret dX10_isIn_15 rfl (Or.inl rfl) (Nat.zero_le _) (Nat.zero_le _) ?_
    refine ⟨rfl, rfl, ?_⟩
    unfold md_isIn
    simp only [Int32.lt_iff_toInt_lt, Int32.le_iff_toInt_le] at *
    split
    · first | rfl | (exfalso; omega)
    · first | rfl | (exfalso; omega)
  · refine pm_iload_n dX10_isIn_5 rfl ?_
    refine pm_iload_n dX10_isIn_6 rfl ?_
    refine pm_icmp_gt (tgt := 14) dX10_isIn_7 (by decide) (fun c_7 => ?_) (fun c_7 => ?_)
    · refine pm_iconst (v := 0) dX10_isIn_14 (by decide) ?_
      refine pm_zret dX10_isIn_15 rfl (Or.inl rfl) (Nat.zero_le _) (Nat.zero_le _) ?_
      refine ⟨rfl, rfl, ?_⟩
      unfold md_isIn
      simp only [Int32.lt_iff_toInt_lt, Int32.le_iff_toInt_le] at *
      split
      · first | rfl | (exfalso; omega)
      · first | rfl | (exfalso; omega)
    · refine pm_iconst (v := 1) dX10_isIn_10 (by decide) ?_
      refine pm_goto (tgt := 15) dX10_isIn_11 (by decide) ?_
      refine pm_zret dX10_isIn_15 rfl (Or.inr rfl) (Nat.zero_le _) (Nat.zero_le _) ?_
      refine ⟨rfl, rfl, ?_⟩
      unfold md_isIn
      simp only [Int32.lt_iff_toInt_lt, Int32.le_iff_toInt_le] at *
      split
      · first | rfl | (exfalso; omega)
      · first | rfl | (exfalso; omega)
def md_one (v : Int32) : Int32 := if v = 0 then 0 else 1
set_option maxHeartbeats 4000000 in
set_option maxRecDepth 100000 in
theorem k_X10_one {gs : List String} {ro : pm_RO} (n : Nat) (w : Nat → va_E) (v : Int32) : pm_Met gs ro M_X10_one 0 0 0 [.int v] n w (fun rr n1 w1 => n1 = n ∧ w1 = w ∧ rr = some (.int (md_one v))) := by
  refine pm_ofX in_X10_one (Nat.le_of_ble_eq_true rfl) rfl (L := [some (.int v)]) rfl ?_
  refine pm_iload_n dX10_one_0 rfl ?_
  refine pm_if_eq (tgt := 8) dX10_one_1 (by decide) (fun c_1 => ?_) (fun c_1 => ?_)
  · refine pm_iconst (v := 0) dX10_one_8 (by decide) ?_
    refine pm_iret dX10_one_9 rfl (Nat.zero_le _) (Nat.zero_le _) ?_
    refine ⟨rfl, rfl, ?_⟩
    unfold md_one
    simp_all
  · refine pm_iconst (v := 1) dX10_one_4 (by decide) ?_
    refine pm_goto (tgt := 9) dX10_one_5 (by decide) ?_
    refine pm_iret dX10_one_9 rfl (Nat.zero_le _) (Nat.zero_le _) ?_
    refine ⟨rfl, rfl, ?_⟩
    unfold md_one
    simp_all
def md_isRegister (v : Int32) : Int32 := md_isIn v 0 7
theorem md_isRegister_b {v : Int32} : md_isRegister v = 0 ∨ md_isRegister v = 1 := md_isIn_b
set_option maxHeartbeats 4000000 in
set_option maxRecDepth 100000 in
theorem k_X10_isRegister {gs : List String} {ro : pm_RO} (n : Nat) (w : Nat → va_E) (v : Int32) : pm_Met gs ro M_X10_isRegister 1 0 0 [.int v] n w (fun rr n1 w1 => n1 = n ∧ w1 = w ∧ rr = some (.int (md_isRegister v))) := by
  refine pm_ofX in_X10_isRegister (Nat.le_of_ble_eq_true rfl) rfl (L := [some (.int v)]) rfl ?_
  refine pm_iload_n dX10_isRegister_0 rfl ?_
  refine pm_iconst (v := 0) dX10_isRegister_1 (by decide) ?_
  refine pm_bipush (v := 7) dX10_isRegister_2 (by decide) ?_
  refine pm_callS (M := M_X10_isRegister) (Mc := M_X10_isIn) (roc := ro) (dc := 0) (mcc := 0) (msc := 0) (As := [.int v, .int 0, .int 7]) (st := []) dX10_isRegister_4 ml_X10_138 (fun _ _ h => h) (by decide) (Nat.le_refl _) (Nat.le_refl _) (Nat.le_of_ble_eq_true rfl) rfl (k_X10_isIn _ _ _ _ _) (fun r n1 w1 hq _ => ?_)
  obtain ⟨e1, e2, e3⟩ := hq
  rw [e1, e2, e3]
  clear e1 e2 e3
  dsimp only [Option.toList, List.cons_append, List.nil_append]
  refine pm_zret dX10_isRegister_7 rfl (md_isIn_b) (Nat.zero_le _) (Nat.zero_le _) ?_
  refine ⟨rfl, rfl, ?_⟩
  rfl
def md_isPlace (v : Int32) : Int32 := md_isIn v 0 39
set_option maxHeartbeats 4000000 in
set_option maxRecDepth 100000 in
theorem k_X10_isPlace {gs : List String} {ro : pm_RO} (n : Nat) (w : Nat → va_E) (v : Int32) : pm_Met gs ro M_X10_isPlace 1 0 0 [.int v] n w (fun rr n1 w1 => n1 = n ∧ w1 = w ∧ rr = some (.int (md_isPlace v))) := by
  refine pm_ofX in_X10_isPlace (Nat.le_of_ble_eq_true rfl) rfl (L := [some (.int v)]) rfl ?_
  refine pm_iload_n dX10_isPlace_0 rfl ?_
  refine pm_iconst (v := 0) dX10_isPlace_1 (by decide) ?_
  refine pm_bipush (v := 39) dX10_isPlace_2 (by decide) ?_
  refine pm_callS (M := M_X10_isPlace) (Mc := M_X10_isIn) (roc := ro) (dc := 0) (mcc := 0) (msc := 0) (As := [.int v, .int 0, .int 39]) (st := []) dX10_isPlace_4 ml_X10_138 (fun _ _ h => h) (by decide) (Nat.le_refl _) (Nat.le_refl _) (Nat.le_of_ble_eq_true rfl) rfl (k_X10_isIn _ _ _ _ _) (fun r n1 w1 hq _ => ?_)
  obtain ⟨e1, e2, e3⟩ := hq
  rw [e1, e2, e3]
  clear e1 e2 e3
  dsimp only [Option.toList, List.cons_append, List.nil_append]
  refine pm_zret dX10_isPlace_7 rfl (md_isIn_b) (Nat.zero_le _) (Nat.zero_le _) ?_
  refine ⟨rfl, rfl, ?_⟩
  rfl
def md_heldAt (r k : Int32) : Int32 := 3001 * r + k
set_option maxHeartbeats 4000000 in
set_option maxRecDepth 100000 in
theorem k_X10_heldAt {gs : List String} {ro : pm_RO} (n : Nat) (w : Nat → va_E) (r k : Int32) : pm_Met gs ro M_X10_heldAt 0 0 0 [.int r, .int k] n w (fun rr n1 w1 => n1 = n ∧ w1 = w ∧ rr = some (.int (md_heldAt r k))) := by
  refine pm_ofX in_X10_heldAt (Nat.le_of_ble_eq_true rfl) rfl (L := [some (.int r), some (.int k)]) rfl ?_
  refine pm_sipush (v := 3001) dX10_heldAt_0 (by decide) ?_
  refine pm_iload_n dX10_heldAt_3 rfl ?_
  refine pm_imul dX10_heldAt_4 ?_
  refine pm_iload_n dX10_heldAt_5 rfl ?_
  refine pm_iadd dX10_heldAt_6 ?_
  refine pm_iret dX10_heldAt_7 rfl (Nat.zero_le _) (Nat.zero_le _) ?_
  refine ⟨rfl, rfl, ?_⟩
  rfl
def md_isSpacing (a b : Int32) : Int32 := if md_isIn a 1 64 = 0 then 0 else md_isIn b 1 8
theorem md_isSpacing_b {a b : Int32} : md_isSpacing a b = 0 ∨ md_isSpacing a b = 1 := by
  unfold md_isSpacing; split
  · exact Or.inl rfl
  · exact md_isIn_b
set_option maxHeartbeats 4000000 in
set_option maxRecDepth 100000 in
theorem k_X10_isSpacing {gs : List String} {ro : pm_RO} (n : Nat) (w : Nat → va_E) (a b : Int32) : pm_Met gs ro M_X10_isSpacing 1 0 0 [.int a, .int b] n w (fun rr n1 w1 => n1 = n ∧ w1 = w ∧ rr = some (.int (md_isSpacing a b))) := by
  refine pm_ofX in_X10_isSpacing (Nat.le_of_ble_eq_true rfl) rfl (L := [some (.int a), some (.int b)]) rfl ?_
  refine pm_iload_n dX10_isSpacing_0 rfl ?_
  refine pm_iconst (v := 1) dX10_isSpacing_1 (by decide) ?_
  refine pm_bipush (v := 64) dX10_isSpacing_2 (by decide) ?_
  refine pm_callS (M := M_X10_isSpacing) (Mc := M_X10_isIn) (roc := ro) (dc := 0) (mcc := 0) (msc := 0) (As := [.int a, .int 1, .int 64]) (st := []) dX10_isSpacing_4 ml_X10_138 (fun _ _ h => h) (by decide) (Nat.le_refl _) (Nat.le_refl _) (Nat.le_of_ble_eq_true rfl) rfl (k_X10_isIn _ _ _ _ _) (fun r n1 w1 hq _ => ?_)
  obtain ⟨e1, e2, e3⟩ := hq
  rw [e1, e2, e3]
  clear e1 e2 e3
  dsimp only [Option.toList, List.cons_append, List.nil_append]
  refine pm_if_eq (tgt := 24) dX10_isSpacing_7 (by decide) (fun c_7 => ?_) (fun c_7 => ?_)
  · refine pm_iconst (v := 0) dX10_isSpacing_24 (by decide) ?_
    refine pm_zret dX10_isSpacing_25 rfl (Or.inl rfl) (Nat.zero_le _) (Nat.zero_le _) ?_
    refine ⟨rfl, rfl, ?_⟩
    unfold md_isSpacing
    rcases md_isIn_b (v := b) (lo := 1) (hi := 8) with q | q <;> simp_all
  · refine pm_iload_n dX10_isSpacing_10 rfl ?_
    refine pm_iconst (v := 1) dX10_isSpacing_11 (by decide) ?_
    refine pm_bipush (v := 8) dX10_isSpacing_12 (by decide) ?_
    refine pm_callS (M := M_X10_isSpacing) (Mc := M_X10_isIn) (roc := ro) (dc := 0) (mcc := 0) (msc := 0) (As := [.int b, .int 1, .int 8]) (st := []) dX10_isSpacing_14 ml_X10_138 (fun _ _ h => h) (by decide) (Nat.le_refl _) (Nat.le_refl _) (Nat.le_of_ble_eq_true rfl) rfl (k_X10_isIn _ _ _ _ _) (fun r n1 w1 hq _ => ?_)
    obtain ⟨e1, e2, e3⟩ := hq
    rw [e1, e2, e3]
    clear e1 e2 e3
    dsimp only [Option.toList, List.cons_append, List.nil_append]
    refine pm_if_eq (tgt := 24) dX10_isSpacing_17 (by decide) (fun c_17 => ?_) (fun c_17 => ?_)
    · refine pm_iconst (v := 0) dX10_isSpacing_24 (by decide) ?_
      refine pm_zret dX10_isSpacing_25 rfl (Or.inl rfl) (Nat.zero_le _) (Nat.zero_le _) ?_
      refine ⟨rfl, rfl, ?_⟩
      unfold md_isSpacing
      rcases md_isIn_b (v := b) (lo := 1) (hi := 8) with q | q <;> simp_all
    · refine pm_iconst (v := 1) dX10_isSpacing_20 (by decide) ?_
      refine pm_goto (tgt := 25) dX10_isSpacing_21 (by decide) ?_
      refine pm_zret dX10_isSpacing_25 rfl (Or.inr rfl) (Nat.zero_le _) (Nat.zero_le _) ?_
      refine ⟨rfl, rfl, ?_⟩
      unfold md_isSpacing
      rcases md_isIn_b (v := b) (lo := 1) (hi := 8) with q | q <;> simp_all
def md_isValue (s k : Int32) : Int32 := if s = 0 then (if k = 0 then 1 else 0) else if s = 1 then md_isIn k 0 1 else if s = 2 then 1 else 0
set_option maxHeartbeats 4000000 in
set_option maxRecDepth 100000 in
theorem k_X10_isValue {gs : List String} {ro : pm_RO} (n : Nat) (w : Nat → va_E) (s k : Int32) : pm_Met gs ro M_X10_isValue 1 0 0 [.int s, .int k] n w (fun rr n1 w1 => n1 = n ∧ w1 = w ∧ rr = some (.int (md_isValue s k))) := by
  refine pm_ofX in_X10_isValue (Nat.le_of_ble_eq_true rfl) rfl (L := [some (.int s), some (.int k)]) rfl ?_
  refine pm_iload_n dX10_isValue_0 rfl ?_
  refine pm_if_ne (tgt := 16) dX10_isValue_1 (by decide) (fun c_1 => ?_) (fun c_1 => ?_)
  · refine pm_iload_n dX10_isValue_16 rfl ?_
    refine pm_iconst (v := 1) dX10_isValue_17 (by decide) ?_
    refine pm_icmp_ne (tgt := 30) dX10_isValue_18 (by decide) (fun c_18 => ?_) (fun c_18 => ?_)
    · refine pm_iload_n dX10_isValue_30 rfl ?_
      refine pm_iconst (v := 2) dX10_isValue_31 (by decide) ?_
      refine pm_icmp_ne (tgt := 39) dX10_isValue_32 (by decide) (fun c_32 => ?_) (fun c_32 => ?_)
      · refine pm_iconst (v := 0) dX10_isValue_39 (by decide) ?_
        refine pm_zret dX10_isValue_40 rfl (Or.inl rfl) (Nat.zero_le _) (Nat.zero_le _) ?_
        refine ⟨rfl, rfl, ?_⟩
        unfold md_isValue
        rcases md_isIn_b (v := k) (lo := 0) (hi := 1) with q | q <;> simp_all
      · refine pm_iconst (v := 1) dX10_isValue_35 (by decide) ?_
        refine pm_goto (tgt := 40) dX10_isValue_36 (by decide) ?_
        refine pm_zret dX10_isValue_40 rfl (Or.inr rfl) (Nat.zero_le _) (Nat.zero_le _) ?_
        refine ⟨rfl, rfl, ?_⟩
        unfold md_isValue
        rcases md_isIn_b (v := k) (lo := 0) (hi := 1) with q | q <;> simp_all
    · refine pm_iload_n dX10_isValue_21 rfl ?_
      refine pm_iconst (v := 0) dX10_isValue_22 (by decide) ?_
      refine pm_iconst (v := 1) dX10_isValue_23 (by decide) ?_
      refine pm_callS (M := M_X10_isValue) (Mc := M_X10_isIn) (roc := ro) (dc := 0) (mcc := 0) (msc := 0) (As := [.int k, .int 0, .int 1]) (st := []) dX10_isValue_24 ml_X10_138 (fun _ _ h => h) (by decide) (Nat.le_refl _) (Nat.le_refl _) (Nat.le_of_ble_eq_true rfl) rfl (k_X10_isIn _ _ _ _ _) (fun r n1 w1 hq _ => ?_)
      obtain ⟨e1, e2, e3⟩ := hq
      rw [e1, e2, e3]
      clear e1 e2 e3
      dsimp only [Option.toList, List.cons_append, List.nil_append]
      refine pm_goto (tgt := 40) dX10_isValue_27 (by decide) ?_
      refine pm_zret dX10_isValue_40 rfl (md_isIn_b) (Nat.zero_le _) (Nat.zero_le _) ?_
      refine ⟨rfl, rfl, ?_⟩
      unfold md_isValue
      rcases md_isIn_b (v := k) (lo := 0) (hi := 1) with q | q <;> simp_all
  · refine pm_iload_n dX10_isValue_4 rfl ?_
    refine pm_if_ne (tgt := 12) dX10_isValue_5 (by decide) (fun c_5 => ?_) (fun c_5 => ?_)
    · refine pm_iconst (v := 0) dX10_isValue_12 (by decide) ?_
      refine pm_goto (tgt := 40) dX10_isValue_13 (by decide) ?_
      refine pm_zret dX10_isValue_40 rfl (Or.inl rfl) (Nat.zero_le _) (Nat.zero_le _) ?_
      refine ⟨rfl, rfl, ?_⟩
      unfold md_isValue
      rcases md_isIn_b (v := k) (lo := 0) (hi := 1) with q | q <;> simp_all
    · refine pm_iconst (v := 1) dX10_isValue_8 (by decide) ?_
      refine pm_goto (tgt := 40) dX10_isValue_9 (by decide) ?_
      refine pm_zret dX10_isValue_40 rfl (Or.inr rfl) (Nat.zero_le _) (Nat.zero_le _) ?_
      refine ⟨rfl, rfl, ?_⟩
      unfold md_isValue
      rcases md_isIn_b (v := k) (lo := 0) (hi := 1) with q | q <;> simp_all
/-- the reference, as it lies: the object, then its arrays in the order of the fields: kinds 1, as 2, bs 3, cs 4, isRun 5, runKind 6, runA 7, runB 8, runC 9, logTime 10, logSort 11, logNumber 12, logPlace 13, logValue 14, logs 15, callTime 16, callTo 17, callDeep 18, calls 19, isHeld 20, times 21, statuses 22, units 23, depths 24, replayed 25, mostHeld 26, backs 27, live 28, inputs 29, isWatched 30, sim 31, changesWere 32, rest 33, looked 34, pairs 35, aside 36, before 37; its ints: unit 4, depth 5, kept 29, asked 30, waiting 33, x 34, latest 35, trap 37, took 38, put 39, simRun 41, simLog 42, oneRun 47, otherRun 48, pairOne 49, pairOther 50, beforeRun 53, beforeLog 54 -/
def shM : List rg_S := [.inl (9, [3, 4, 5, 6, 0, 0, 7, 8, 9, 10, 11, 12, 13, 14, 15, 16, 17, 18, 19, 20, 21, 22, 23, 24, 25, 26, 27, 28, 29, 0, 0, 30, 31, 0, 0, 0, 32, 0, 0, 0, 33, 0, 0, 34, 35, 36, 37, 0, 0, 0, 0, 38, 39, 0, 0]), .inr (.inl (0, 64)), .inr (.inl (0, 64)), .inr (.inl (0, 64)), .inr (.inl (0, 64)), .inr (.inl (1, 5)), .inr (.inl (0, 320)), .inr (.inl (0, 320)), .inr (.inl (0, 320)), .inr (.inl (0, 320)), .inr (.inl (0, 4000)), .inr (.inl (0, 4000)), .inr (.inl (0, 4000)), .inr (.inl (0, 4000)), .inr (.inl (0, 4000)), .inr (.inl (0, 5)), .inr (.inl (0, 500)), .inr (.inl (0, 500)), .inr (.inl (0, 500)), .inr (.inl (0, 5)), .inr (.inl (1, 15005)), .inr (.inl (0, 5)), .inr (.inl (0, 5)), .inr (.inl (0, 5)), .inr (.inl (0, 5)), .inr (.inl (0, 5)), .inr (.inl (0, 5)), .inr (.inl (0, 5)), .inr (.inl (0, 134)), .inr (.inl (0, 1000)), .inr (.inl (1, 40)), .inr (.inl (0, 134)), .inr (.inl (0, 40)), .inr (.inl (0, 4760)), .inr (.inl (0, 119)), .inr (.inl (0, 10201)), .inr (.inl (0, 134)), .inr (.inl (0, 134))]
def mr_seed (u : rg_U) (_ : Int32) : Int32 := u.1 34
def mu_seed (u : rg_U) (v : Int32) : rg_U := rg_F u 34 v
set_option maxHeartbeats 4000000 in
set_option maxRecDepth 100000 in
theorem k_X10_seed {gs : List String} {ro : pm_RO} {n : Nat} {w : Nat → va_E} {b : Nat} {u : rg_U} (hR : rg shM b u n w) (v : Int32) : pm_Met gs ro M_X10_seed 0 0 0 [.ref (b + 0), .int v] n w (rg_post shM b n w (some (.int (mr_seed u v))) (mu_seed u v)) := by
  refine pm_ofX in_X10_seed (Nat.le_of_ble_eq_true rfl) rfl (L := [some (.ref (b + 0)), some (.int v), none]) rfl ?_
  refine pm_aload_n dX10_seed_0 rfl ?_
  refine rg_gi (j := 0) hR dX10_seed_1 fl_X10_108 rfl rfl ?_
  refine pm_istore_n dX10_seed_4 (by decide) rfl rfl ?_
  refine pm_aload_n dX10_seed_5 rfl ?_
  refine pm_iload_n dX10_seed_6 rfl ?_
  refine rg_pi (j := 0) hR dX10_seed_7 fl_X10_108 rfl rfl (fun w1 hR2 hk3 => ?_)
  refine pm_iload_n dX10_seed_10 rfl ?_
  refine pm_iret dX10_seed_11 rfl (Nat.zero_le _) (Nat.zero_le _) ?_
  refine ⟨?_, rfl, ?_, hk3⟩
  · rfl
  · exact hR2
def mr_spacing (_ : rg_U) (a c : Int32) : Int32 := md_isSpacing a c
def mu_spacing (u : rg_U) (a c : Int32) : rg_U := if md_isSpacing a c = 0 then u else rg_F (rg_F u 4 a) 5 c
set_option maxHeartbeats 4000000 in
set_option maxRecDepth 100000 in
theorem k_X10_spacing {gs : List String} {ro : pm_RO} {n : Nat} {w : Nat → va_E} {b : Nat} {u : rg_U} (hR : rg shM b u n w) (a c : Int32) : pm_Met gs ro M_X10_spacing 2 0 0 [.ref (b + 0), .int a, .int c] n w (rg_post shM b n w (some (.int (mr_spacing u a c))) (mu_spacing u a c)) := by
  refine pm_ofX in_X10_spacing (Nat.le_of_ble_eq_true rfl) rfl (L := [some (.ref (b + 0)), some (.int a), some (.int c)]) rfl ?_
  refine pm_iload_n dX10_spacing_0 rfl ?_
  refine pm_iload_n dX10_spacing_1 rfl ?_
  refine pm_callS (M := M_X10_spacing) (Mc := M_X10_isSpacing) (roc := ro) (dc := 1) (mcc := 0) (msc := 0) (As := [.int a, .int c]) (st := []) dX10_spacing_2 ml_X10_150 (fun _ _ h => h) (by decide) (Nat.le_refl _) (Nat.le_refl _) (Nat.le_of_ble_eq_true rfl) rfl (k_X10_isSpacing _ _ _ _) (fun r n1 w1 hq _ => ?_)
  obtain ⟨e1, e2, e3⟩ := hq
  rw [e1, e2, e3]
  clear e1 e2 e3
  dsimp only [Option.toList, List.cons_append, List.nil_append]
  refine pm_if_ne (tgt := 10) dX10_spacing_5 (by decide) (fun c_5 => ?_) (fun c_5 => ?_)
  · refine pm_aload_n dX10_spacing_10 rfl ?_
    refine pm_iload_n dX10_spacing_11 rfl ?_
    refine rg_pi (j := 0) hR dX10_spacing_12 fl_X10_22 rfl rfl (fun w1 hR2 hk3 => ?_)
    refine pm_aload_n dX10_spacing_15 rfl ?_
    refine pm_iload_n dX10_spacing_16 rfl ?_
    refine rg_pi (j := 0) hR2 dX10_spacing_17 fl_X10_26 rfl rfl (fun w4 hR5 hk6 => ?_)
    have hk7 := rg_kt hk3 hk6
    refine pm_iconst (v := 1) dX10_spacing_20 (by decide) ?_
    refine pm_zret dX10_spacing_21 rfl (Or.inr rfl) (Nat.zero_le _) (Nat.zero_le _) ?_
    refine ⟨?_, rfl, ?_, hk7⟩
    · rcases md_isSpacing_b (a := a) (b := c) with q | q <;> simp_all [mr_spacing]
    · rw [show mu_spacing u a c = (rg_F (rg_F u 4 a) 5 c) from by simp [mu_spacing, c_5]]; exact hR5
  · refine pm_iconst (v := 0) dX10_spacing_8 (by decide) ?_
    refine pm_zret dX10_spacing_9 rfl (Or.inl rfl) (Nat.zero_le _) (Nat.zero_le _) ?_
    refine ⟨?_, rfl, ?_, rg_k0⟩
    · rcases md_isSpacing_b (a := a) (b := c) with q | q <;> simp_all [mr_spacing]
    · rw [show mu_spacing u a c = u from by simp [mu_spacing, c_5]]; exact hR
def md_isFine (k a b c : Int32) : Int32 :=
  if k = -1 ∨ k = 0 ∨ k = 18 then 1
  else if k = 15 ∨ k = 17 then md_isIn a 0 63
  else if md_isRegister a = 0 then 0
  else if k = 2 then md_isIn b 0 1
  else if k = 16 then md_isIn b 0 63
  else if k = 20 then md_isIn b 1 1000
  else if k = 3 ∨ k = 11 ∨ k = 13 ∨ k = 14 then md_isRegister b
  else if ¬ md_isIn k 4 10 = 0 ∨ k = 12 then (if md_isRegister b = 0 then 0 else md_isRegister c)
  else if k = 1 ∨ k = 19 ∨ k = 21 ∨ k = 22 then 1 else 0
theorem md_isFine_b {k a b c : Int32} : md_isFine k a b c = 0 ∨ md_isFine k a b c = 1 := by
  unfold md_isFine
  repeat' split
  all_goals first | exact Or.inl rfl | exact Or.inr rfl | exact md_isIn_b | exact md_isRegister_b
set_option maxHeartbeats 4000000 in
set_option maxRecDepth 100000 in
theorem k_X10_isFine {gs : List String} {ro : pm_RO} (n : Nat) (w : Nat → va_E) (k a b c : Int32) : pm_Met gs ro M_X10_isFine 2 0 0 [.int k, .int a, .int b, .int c] n w (fun rr n1 w1 => n1 = n ∧ w1 = w ∧ rr = some (.int (md_isFine k a b c))) := by
  refine pm_ofX in_X10_isFine (Nat.le_of_ble_eq_true rfl) rfl (L := [some (.int k), some (.int a), some (.int b), some (.int c)]) rfl ?_
  refine pm_iload_n dX10_isFine_0 rfl ?_
  refine pm_iconst (v := (-1)) dX10_isFine_1 (by decide) ?_
  refine pm_icmp_eq (tgt := 15) dX10_isFine_2 (by decide) (fun c_2 => ?_) (fun c_2 => ?_)
  · refine pm_iconst (v := 1) dX10_isFine_15 (by decide) ?_
    refine pm_zret dX10_isFine_16 rfl (Or.inr rfl) (Nat.zero_le _) (Nat.zero_le _) ?_
    refine ⟨rfl, rfl, ?_⟩
    rcases md_isRegister_b (v := c) with q | q <;> simp_all [md_isFine]
  · refine pm_iload_n dX10_isFine_5 rfl ?_
    refine pm_if_eq (tgt := 15) dX10_isFine_6 (by decide) (fun c_6 => ?_) (fun c_6 => ?_)
    · refine pm_iconst (v := 1) dX10_isFine_15 (by decide) ?_
      refine pm_zret dX10_isFine_16 rfl (Or.inr rfl) (Nat.zero_le _) (Nat.zero_le _) ?_
      refine ⟨rfl, rfl, ?_⟩
      rcases md_isRegister_b (v := c) with q | q <;> simp_all [md_isFine]
    · refine pm_iload_n dX10_isFine_9 rfl ?_
      refine pm_bipush (v := 18) dX10_isFine_10 (by decide) ?_
      refine pm_icmp_ne (tgt := 17) dX10_isFine_12 (by decide) (fun c_12 => ?_) (fun c_12 => ?_)
      · refine pm_iload_n dX10_isFine_17 rfl ?_
        refine pm_bipush (v := 15) dX10_isFine_18 (by decide) ?_
        refine pm_icmp_eq (tgt := 29) dX10_isFine_20 (by decide) (fun c_20 => ?_) (fun c_20 => ?_)
        · refine pm_iload_n dX10_isFine_29 rfl ?_
          refine pm_iconst (v := 0) dX10_isFine_30 (by decide) ?_
          refine pm_bipush (v := 63) dX10_isFine_31 (by decide) ?_
          refine pm_callS (M := M_X10_isFine) (Mc := M_X10_isIn) (roc := ro) (dc := 0) (mcc := 0) (msc := 0) (As := [.int a, .int 0, .int 63]) (st := []) dX10_isFine_33 ml_X10_138 (fun _ _ h => h) (by decide) (Nat.le_refl _) (Nat.le_refl _) (Nat.le_of_ble_eq_true rfl) rfl (k_X10_isIn _ _ _ _ _) (fun r n1 w1 hq _ => ?_)
          obtain ⟨e1, e2, e3⟩ := hq
          rw [e1, e2, e3]
          clear e1 e2 e3
          dsimp only [Option.toList, List.cons_append, List.nil_append]
          refine pm_zret dX10_isFine_36 rfl (by first | exact Or.inl rfl | exact Or.inr rfl | exact md_isIn_b | exact md_isRegister_b | exact md_isFine_b | assumption) (Nat.zero_le _) (Nat.zero_le _) ?_
          refine ⟨rfl, rfl, ?_⟩
          rcases md_isRegister_b (v := c) with q | q <;> simp_all [md_isFine]
        · refine pm_iload_n dX10_isFine_23 rfl ?_
          refine pm_bipush (v := 17) dX10_isFine_24 (by decide) ?_
          refine pm_icmp_ne (tgt := 37) dX10_isFine_26 (by decide) (fun c_26 => ?_) (fun c_26 => ?_)
          · refine pm_iload_n dX10_isFine_37 rfl ?_
            refine pm_callS (M := M_X10_isFine) (Mc := M_X10_isRegister) (roc := ro) (dc := 1) (mcc := 0) (msc := 0) (As := [.int a]) (st := []) dX10_isFine_38 ml_X10_142 (fun _ _ h => h) (by decide) (Nat.le_refl _) (Nat.le_refl _) (Nat.le_of_ble_eq_true rfl) rfl (k_X10_isRegister _ _ _) (fun r n1 w1 hq _ => ?_)
            obtain ⟨e1, e2, e3⟩ := hq
            rw [e1, e2, e3]
            clear e1 e2 e3
            dsimp only [Option.toList, List.cons_append, List.nil_append]
            refine pm_if_ne (tgt := 46) dX10_isFine_41 (by decide) (fun c_41 => ?_) (fun c_41 => ?_)
            · refine pm_iload_n dX10_isFine_46 rfl ?_
              refine pm_iconst (v := 2) dX10_isFine_47 (by decide) ?_
              refine pm_icmp_ne (tgt := 58) dX10_isFine_48 (by decide) (fun c_48 => ?_) (fun c_48 => ?_)
              · refine pm_iload_n dX10_isFine_58 rfl ?_
                refine pm_bipush (v := 16) dX10_isFine_59 (by decide) ?_
                refine pm_icmp_ne (tgt := 72) dX10_isFine_61 (by decide) (fun c_61 => ?_) (fun c_61 => ?_)
                · refine pm_iload_n dX10_isFine_72 rfl ?_
                  refine pm_bipush (v := 20) dX10_isFine_73 (by decide) ?_
                  refine pm_icmp_ne (tgt := 87) dX10_isFine_75 (by decide) (fun c_75 => ?_) (fun c_75 => ?_)
                  · refine pm_iload_n dX10_isFine_87 rfl ?_
                    refine pm_iconst (v := 3) dX10_isFine_88 (by decide) ?_
                    refine pm_icmp_eq (tgt := 110) dX10_isFine_89 (by decide) (fun c_89 => ?_) (fun c_89 => ?_)
                    · refine pm_iload_n dX10_isFine_110 rfl ?_
                      refine pm_callS (M := M_X10_isFine) (Mc := M_X10_isRegister) (roc := ro) (dc := 1) (mcc := 0) (msc := 0) (As := [.int b]) (st := []) dX10_isFine_111 ml_X10_142 (fun _ _ h => h) (by decide) (Nat.le_refl _) (Nat.le_refl _) (Nat.le_of_ble_eq_true rfl) rfl (k_X10_isRegister _ _ _) (fun r n1 w1 hq _ => ?_)
                      obtain ⟨e1, e2, e3⟩ := hq
                      rw [e1, e2, e3]
                      clear e1 e2 e3
                      dsimp only [Option.toList, List.cons_append, List.nil_append]
                      refine pm_zret dX10_isFine_114 rfl (by first | exact Or.inl rfl | exact Or.inr rfl | exact md_isIn_b | exact md_isRegister_b | exact md_isFine_b | assumption) (Nat.zero_le _) (Nat.zero_le _) ?_
                      refine ⟨rfl, rfl, ?_⟩
                      rcases md_isRegister_b (v := c) with q | q <;> simp_all [md_isFine]
                    · refine pm_iload_n dX10_isFine_92 rfl ?_
                      refine pm_bipush (v := 11) dX10_isFine_93 (by decide) ?_
                      refine pm_icmp_eq (tgt := 110) dX10_isFine_95 (by decide) (fun c_95 => ?_) (fun c_95 => ?_)
                      · refine pm_iload_n dX10_isFine_110 rfl ?_
                        refine pm_callS (M := M_X10_isFine) (Mc := M_X10_isRegister) (roc := ro) (dc := 1) (mcc := 0) (msc := 0) (As := [.int b]) (st := []) dX10_isFine_111 ml_X10_142 (fun _ _ h => h) (by decide) (Nat.le_refl _) (Nat.le_refl _) (Nat.le_of_ble_eq_true rfl) rfl (k_X10_isRegister _ _ _) (fun r n1 w1 hq _ => ?_)
                        obtain ⟨e1, e2, e3⟩ := hq
                        rw [e1, e2, e3]
                        clear e1 e2 e3
                        dsimp only [Option.toList, List.cons_append, List.nil_append]
                        refine pm_zret dX10_isFine_114 rfl (by first | exact Or.inl rfl | exact Or.inr rfl | exact md_isIn_b | exact md_isRegister_b | exact md_isFine_b | assumption) (Nat.zero_le _) (Nat.zero_le _) ?_
                        refine ⟨rfl, rfl, ?_⟩
                        rcases md_isRegister_b (v := c) with q | q <;> simp_all [md_isFine]
                      · refine pm_iload_n dX10_isFine_98 rfl ?_
                        refine pm_bipush (v := 13) dX10_isFine_99 (by decide) ?_
                        refine pm_icmp_eq (tgt := 110) dX10_isFine_101 (by decide) (fun c_101 => ?_) (fun c_101 => ?_)
                        · refine pm_iload_n dX10_isFine_110 rfl ?_
                          refine pm_callS (M := M_X10_isFine) (Mc := M_X10_isRegister) (roc := ro) (dc := 1) (mcc := 0) (msc := 0) (As := [.int b]) (st := []) dX10_isFine_111 ml_X10_142 (fun _ _ h => h) (by decide) (Nat.le_refl _) (Nat.le_refl _) (Nat.le_of_ble_eq_true rfl) rfl (k_X10_isRegister _ _ _) (fun r n1 w1 hq _ => ?_)
                          obtain ⟨e1, e2, e3⟩ := hq
                          rw [e1, e2, e3]
                          clear e1 e2 e3
                          dsimp only [Option.toList, List.cons_append, List.nil_append]
                          refine pm_zret dX10_isFine_114 rfl (by first | exact Or.inl rfl | exact Or.inr rfl | exact md_isIn_b | exact md_isRegister_b | exact md_isFine_b | assumption) (Nat.zero_le _) (Nat.zero_le _) ?_
                          refine ⟨rfl, rfl, ?_⟩
                          rcases md_isRegister_b (v := c) with q | q <;> simp_all [md_isFine]
                        · refine pm_iload_n dX10_isFine_104 rfl ?_
                          refine pm_bipush (v := 14) dX10_isFine_105 (by decide) ?_
                          refine pm_icmp_ne (tgt := 115) dX10_isFine_107 (by decide) (fun c_107 => ?_) (fun c_107 => ?_)
                          · refine pm_iload_n dX10_isFine_115 rfl ?_
                            refine pm_iconst (v := 4) dX10_isFine_116 (by decide) ?_
                            refine pm_bipush (v := 10) dX10_isFine_117 (by decide) ?_
                            refine pm_callS (M := M_X10_isFine) (Mc := M_X10_isIn) (roc := ro) (dc := 0) (mcc := 0) (msc := 0) (As := [.int k, .int 4, .int 10]) (st := []) dX10_isFine_119 ml_X10_138 (fun _ _ h => h) (by decide) (Nat.le_refl _) (Nat.le_refl _) (Nat.le_of_ble_eq_true rfl) rfl (k_X10_isIn _ _ _ _ _) (fun r n1 w1 hq _ => ?_)
                            obtain ⟨e1, e2, e3⟩ := hq
                            rw [e1, e2, e3]
                            clear e1 e2 e3
                            dsimp only [Option.toList, List.cons_append, List.nil_append]
                            refine pm_if_ne (tgt := 131) dX10_isFine_122 (by decide) (fun c_122 => ?_) (fun c_122 => ?_)
                            · refine pm_iload_n dX10_isFine_131 rfl ?_
                              refine pm_callS (M := M_X10_isFine) (Mc := M_X10_isRegister) (roc := ro) (dc := 1) (mcc := 0) (msc := 0) (As := [.int b]) (st := []) dX10_isFine_132 ml_X10_142 (fun _ _ h => h) (by decide) (Nat.le_refl _) (Nat.le_refl _) (Nat.le_of_ble_eq_true rfl) rfl (k_X10_isRegister _ _ _) (fun r n1 w1 hq _ => ?_)
                              obtain ⟨e1, e2, e3⟩ := hq
                              rw [e1, e2, e3]
                              clear e1 e2 e3
                              dsimp only [Option.toList, List.cons_append, List.nil_append]
                              refine pm_if_eq (tgt := 149) dX10_isFine_135 (by decide) (fun c_135 => ?_) (fun c_135 => ?_)
                              · refine pm_iconst (v := 0) dX10_isFine_149 (by decide) ?_
                                refine pm_zret dX10_isFine_150 rfl (Or.inl rfl) (Nat.zero_le _) (Nat.zero_le _) ?_
                                refine ⟨rfl, rfl, ?_⟩
                                rcases md_isRegister_b (v := c) with q | q <;> simp_all [md_isFine]
                              · refine pm_iload_n dX10_isFine_138 rfl ?_
                                refine pm_callS (M := M_X10_isFine) (Mc := M_X10_isRegister) (roc := ro) (dc := 1) (mcc := 0) (msc := 0) (As := [.int c]) (st := []) dX10_isFine_139 ml_X10_142 (fun _ _ h => h) (by decide) (Nat.le_refl _) (Nat.le_refl _) (Nat.le_of_ble_eq_true rfl) rfl (k_X10_isRegister _ _ _) (fun r n1 w1 hq _ => ?_)
                                obtain ⟨e1, e2, e3⟩ := hq
                                rw [e1, e2, e3]
                                clear e1 e2 e3
                                dsimp only [Option.toList, List.cons_append, List.nil_append]
                                refine pm_if_eq (tgt := 149) dX10_isFine_142 (by decide) (fun c_142 => ?_) (fun c_142 => ?_)
                                · refine pm_iconst (v := 0) dX10_isFine_149 (by decide) ?_
                                  refine pm_zret dX10_isFine_150 rfl (Or.inl rfl) (Nat.zero_le _) (Nat.zero_le _) ?_
                                  refine ⟨rfl, rfl, ?_⟩
                                  rcases md_isRegister_b (v := c) with q | q <;> simp_all [md_isFine]
                                · refine pm_iconst (v := 1) dX10_isFine_145 (by decide) ?_
                                  refine pm_goto (tgt := 150) dX10_isFine_146 (by decide) ?_
                                  refine pm_zret dX10_isFine_150 rfl (Or.inr rfl) (Nat.zero_le _) (Nat.zero_le _) ?_
                                  refine ⟨rfl, rfl, ?_⟩
                                  rcases md_isRegister_b (v := c) with q | q <;> simp_all [md_isFine]
                            · refine pm_iload_n dX10_isFine_125 rfl ?_
                              refine pm_bipush (v := 12) dX10_isFine_126 (by decide) ?_
                              refine pm_icmp_ne (tgt := 151) dX10_isFine_128 (by decide) (fun c_128 => ?_) (fun c_128 => ?_)
                              · refine pm_iload_n dX10_isFine_151 rfl ?_
                                refine pm_iconst (v := 1) dX10_isFine_152 (by decide) ?_
                                refine pm_icmp_eq (tgt := 174) dX10_isFine_153 (by decide) (fun c_153 => ?_) (fun c_153 => ?_)
                                · refine pm_iconst (v := 1) dX10_isFine_174 (by decide) ?_
                                  refine pm_goto (tgt := 179) dX10_isFine_175 (by decide) ?_
                                  refine pm_zret dX10_isFine_179 rfl (Or.inr rfl) (Nat.zero_le _) (Nat.zero_le _) ?_
                                  refine ⟨rfl, rfl, ?_⟩
                                  rcases md_isRegister_b (v := c) with q | q <;> simp_all [md_isFine]
                                · refine pm_iload_n dX10_isFine_156 rfl ?_
                                  refine pm_bipush (v := 19) dX10_isFine_157 (by decide) ?_
                                  refine pm_icmp_eq (tgt := 174) dX10_isFine_159 (by decide) (fun c_159 => ?_) (fun c_159 => ?_)
                                  · refine pm_iconst (v := 1) dX10_isFine_174 (by decide) ?_
                                    refine pm_goto (tgt := 179) dX10_isFine_175 (by decide) ?_
                                    refine pm_zret dX10_isFine_179 rfl (Or.inr rfl) (Nat.zero_le _) (Nat.zero_le _) ?_
                                    refine ⟨rfl, rfl, ?_⟩
                                    rcases md_isRegister_b (v := c) with q | q <;> simp_all [md_isFine]
                                  · refine pm_iload_n dX10_isFine_162 rfl ?_
                                    refine pm_bipush (v := 21) dX10_isFine_163 (by decide) ?_
                                    refine pm_icmp_eq (tgt := 174) dX10_isFine_165 (by decide) (fun c_165 => ?_) (fun c_165 => ?_)
                                    · refine pm_iconst (v := 1) dX10_isFine_174 (by decide) ?_
                                      refine pm_goto (tgt := 179) dX10_isFine_175 (by decide) ?_
                                      refine pm_zret dX10_isFine_179 rfl (Or.inr rfl) (Nat.zero_le _) (Nat.zero_le _) ?_
                                      refine ⟨rfl, rfl, ?_⟩
                                      rcases md_isRegister_b (v := c) with q | q <;> simp_all [md_isFine]
                                    · refine pm_iload_n dX10_isFine_168 rfl ?_
                                      refine pm_bipush (v := 22) dX10_isFine_169 (by decide) ?_
                                      refine pm_icmp_ne (tgt := 178) dX10_isFine_171 (by decide) (fun c_171 => ?_) (fun c_171 => ?_)
                                      · refine pm_iconst (v := 0) dX10_isFine_178 (by decide) ?_
                                        refine pm_zret dX10_isFine_179 rfl (Or.inl rfl) (Nat.zero_le _) (Nat.zero_le _) ?_
                                        refine ⟨rfl, rfl, ?_⟩
                                        rcases md_isRegister_b (v := c) with q | q <;> simp_all [md_isFine]
                                      · refine pm_iconst (v := 1) dX10_isFine_174 (by decide) ?_
                                        refine pm_goto (tgt := 179) dX10_isFine_175 (by decide) ?_
                                        refine pm_zret dX10_isFine_179 rfl (Or.inr rfl) (Nat.zero_le _) (Nat.zero_le _) ?_
                                        refine ⟨rfl, rfl, ?_⟩
                                        rcases md_isRegister_b (v := c) with q | q <;> simp_all [md_isFine]
                              · refine pm_iload_n dX10_isFine_131 rfl ?_
                                refine pm_callS (M := M_X10_isFine) (Mc := M_X10_isRegister) (roc := ro) (dc := 1) (mcc := 0) (msc := 0) (As := [.int b]) (st := []) dX10_isFine_132 ml_X10_142 (fun _ _ h => h) (by decide) (Nat.le_refl _) (Nat.le_refl _) (Nat.le_of_ble_eq_true rfl) rfl (k_X10_isRegister _ _ _) (fun r n1 w1 hq _ => ?_)
                                obtain ⟨e1, e2, e3⟩ := hq
                                rw [e1, e2, e3]
                                clear e1 e2 e3
                                dsimp only [Option.toList, List.cons_append, List.nil_append]
                                refine pm_if_eq (tgt := 149) dX10_isFine_135 (by decide) (fun c_135 => ?_) (fun c_135 => ?_)
                                · refine pm_iconst (v := 0) dX10_isFine_149 (by decide) ?_
                                  refine pm_zret dX10_isFine_150 rfl (Or.inl rfl) (Nat.zero_le _) (Nat.zero_le _) ?_
                                  refine ⟨rfl, rfl, ?_⟩
                                  rcases md_isRegister_b (v := c) with q | q <;> simp_all [md_isFine]
                                · refine pm_iload_n dX10_isFine_138 rfl ?_
                                  refine pm_callS (M := M_X10_isFine) (Mc := M_X10_isRegister) (roc := ro) (dc := 1) (mcc := 0) (msc := 0) (As := [.int c]) (st := []) dX10_isFine_139 ml_X10_142 (fun _ _ h => h) (by decide) (Nat.le_refl _) (Nat.le_refl _) (Nat.le_of_ble_eq_true rfl) rfl (k_X10_isRegister _ _ _) (fun r n1 w1 hq _ => ?_)
                                  obtain ⟨e1, e2, e3⟩ := hq
                                  rw [e1, e2, e3]
                                  clear e1 e2 e3
                                  dsimp only [Option.toList, List.cons_append, List.nil_append]
                                  refine pm_if_eq (tgt := 149) dX10_isFine_142 (by decide) (fun c_142 => ?_) (fun c_142 => ?_)
                                  · refine pm_iconst (v := 0) dX10_isFine_149 (by decide) ?_
                                    refine pm_zret dX10_isFine_150 rfl (Or.inl rfl) (Nat.zero_le _) (Nat.zero_le _) ?_
                                    refine ⟨rfl, rfl, ?_⟩
                                    rcases md_isRegister_b (v := c) with q | q <;> simp_all [md_isFine]
                                  · refine pm_iconst (v := 1) dX10_isFine_145 (by decide) ?_
                                    refine pm_goto (tgt := 150) dX10_isFine_146 (by decide) ?_
                                    refine pm_zret dX10_isFine_150 rfl (Or.inr rfl) (Nat.zero_le _) (Nat.zero_le _) ?_
                                    refine ⟨rfl, rfl, ?_⟩
                                    rcases md_isRegister_b (v := c) with q | q <;> simp_all [md_isFine]
                          · refine pm_iload_n dX10_isFine_110 rfl ?_
                            refine pm_callS (M := M_X10_isFine) (Mc := M_X10_isRegister) (roc := ro) (dc := 1) (mcc := 0) (msc := 0) (As := [.int b]) (st := []) dX10_isFine_111 ml_X10_142 (fun _ _ h => h) (by decide) (Nat.le_refl _) (Nat.le_refl _) (Nat.le_of_ble_eq_true rfl) rfl (k_X10_isRegister _ _ _) (fun r n1 w1 hq _ => ?_)
                            obtain ⟨e1, e2, e3⟩ := hq
                            rw [e1, e2, e3]
                            clear e1 e2 e3
                            dsimp only [Option.toList, List.cons_append, List.nil_append]
                            refine pm_zret dX10_isFine_114 rfl (by first | exact Or.inl rfl | exact Or.inr rfl | exact md_isIn_b | exact md_isRegister_b | exact md_isFine_b | assumption) (Nat.zero_le _) (Nat.zero_le _) ?_
                            refine ⟨rfl, rfl, ?_⟩
                            rcases md_isRegister_b (v := c) with q | q <;> simp_all [md_isFine]
                  · refine pm_iload_n dX10_isFine_78 rfl ?_
                    refine pm_iconst (v := 1) dX10_isFine_79 (by decide) ?_
                    refine pm_sipush (v := 1000) dX10_isFine_80 (by decide) ?_
                    refine pm_callS (M := M_X10_isFine) (Mc := M_X10_isIn) (roc := ro) (dc := 0) (mcc := 0) (msc := 0) (As := [.int b, .int 1, .int 1000]) (st := []) dX10_isFine_83 ml_X10_138 (fun _ _ h => h) (by decide) (Nat.le_refl _) (Nat.le_refl _) (Nat.le_of_ble_eq_true rfl) rfl (k_X10_isIn _ _ _ _ _) (fun r n1 w1 hq _ => ?_)
                    obtain ⟨e1, e2, e3⟩ := hq
                    rw [e1, e2, e3]
                    clear e1 e2 e3
                    dsimp only [Option.toList, List.cons_append, List.nil_append]
                    refine pm_zret dX10_isFine_86 rfl (by first | exact Or.inl rfl | exact Or.inr rfl | exact md_isIn_b | exact md_isRegister_b | exact md_isFine_b | assumption) (Nat.zero_le _) (Nat.zero_le _) ?_
                    refine ⟨rfl, rfl, ?_⟩
                    rcases md_isRegister_b (v := c) with q | q <;> simp_all [md_isFine]
                · refine pm_iload_n dX10_isFine_64 rfl ?_
                  refine pm_iconst (v := 0) dX10_isFine_65 (by decide) ?_
                  refine pm_bipush (v := 63) dX10_isFine_66 (by decide) ?_
                  refine pm_callS (M := M_X10_isFine) (Mc := M_X10_isIn) (roc := ro) (dc := 0) (mcc := 0) (msc := 0) (As := [.int b, .int 0, .int 63]) (st := []) dX10_isFine_68 ml_X10_138 (fun _ _ h => h) (by decide) (Nat.le_refl _) (Nat.le_refl _) (Nat.le_of_ble_eq_true rfl) rfl (k_X10_isIn _ _ _ _ _) (fun r n1 w1 hq _ => ?_)
                  obtain ⟨e1, e2, e3⟩ := hq
                  rw [e1, e2, e3]
                  clear e1 e2 e3
                  dsimp only [Option.toList, List.cons_append, List.nil_append]
                  refine pm_zret dX10_isFine_71 rfl (by first | exact Or.inl rfl | exact Or.inr rfl | exact md_isIn_b | exact md_isRegister_b | exact md_isFine_b | assumption) (Nat.zero_le _) (Nat.zero_le _) ?_
                  refine ⟨rfl, rfl, ?_⟩
                  rcases md_isRegister_b (v := c) with q | q <;> simp_all [md_isFine]
              · refine pm_iload_n dX10_isFine_51 rfl ?_
                refine pm_iconst (v := 0) dX10_isFine_52 (by decide) ?_
                refine pm_iconst (v := 1) dX10_isFine_53 (by decide) ?_
                refine pm_callS (M := M_X10_isFine) (Mc := M_X10_isIn) (roc := ro) (dc := 0) (mcc := 0) (msc := 0) (As := [.int b, .int 0, .int 1]) (st := []) dX10_isFine_54 ml_X10_138 (fun _ _ h => h) (by decide) (Nat.le_refl _) (Nat.le_refl _) (Nat.le_of_ble_eq_true rfl) rfl (k_X10_isIn _ _ _ _ _) (fun r n1 w1 hq _ => ?_)
                obtain ⟨e1, e2, e3⟩ := hq
                rw [e1, e2, e3]
                clear e1 e2 e3
                dsimp only [Option.toList, List.cons_append, List.nil_append]
                refine pm_zret dX10_isFine_57 rfl (by first | exact Or.inl rfl | exact Or.inr rfl | exact md_isIn_b | exact md_isRegister_b | exact md_isFine_b | assumption) (Nat.zero_le _) (Nat.zero_le _) ?_
                refine ⟨rfl, rfl, ?_⟩
                rcases md_isRegister_b (v := c) with q | q <;> simp_all [md_isFine]
            · refine pm_iconst (v := 0) dX10_isFine_44 (by decide) ?_
              refine pm_zret dX10_isFine_45 rfl (Or.inl rfl) (Nat.zero_le _) (Nat.zero_le _) ?_
              refine ⟨rfl, rfl, ?_⟩
              rcases md_isRegister_b (v := c) with q | q <;> simp_all [md_isFine]
          · refine pm_iload_n dX10_isFine_29 rfl ?_
            refine pm_iconst (v := 0) dX10_isFine_30 (by decide) ?_
            refine pm_bipush (v := 63) dX10_isFine_31 (by decide) ?_
            refine pm_callS (M := M_X10_isFine) (Mc := M_X10_isIn) (roc := ro) (dc := 0) (mcc := 0) (msc := 0) (As := [.int a, .int 0, .int 63]) (st := []) dX10_isFine_33 ml_X10_138 (fun _ _ h => h) (by decide) (Nat.le_refl _) (Nat.le_refl _) (Nat.le_of_ble_eq_true rfl) rfl (k_X10_isIn _ _ _ _ _) (fun r n1 w1 hq _ => ?_)
            obtain ⟨e1, e2, e3⟩ := hq
            rw [e1, e2, e3]
            clear e1 e2 e3
            dsimp only [Option.toList, List.cons_append, List.nil_append]
            refine pm_zret dX10_isFine_36 rfl (by first | exact Or.inl rfl | exact Or.inr rfl | exact md_isIn_b | exact md_isRegister_b | exact md_isFine_b | assumption) (Nat.zero_le _) (Nat.zero_le _) ?_
            refine ⟨rfl, rfl, ?_⟩
            rcases md_isRegister_b (v := c) with q | q <;> simp_all [md_isFine]
      · refine pm_iconst (v := 1) dX10_isFine_15 (by decide) ?_
        refine pm_zret dX10_isFine_16 rfl (Or.inr rfl) (Nat.zero_le _) (Nat.zero_le _) ?_
        refine ⟨rfl, rfl, ?_⟩
        rcases md_isRegister_b (v := c) with q | q <;> simp_all [md_isFine]
theorem md_in {v hi : Int32} {N : Nat} (h : ¬ md_isIn v 0 hi = 0) (hN : hi.toInt + 1 = (N : Int)) : vp_in v N := by
  rw [md_isIn_0] at h
  have h := Classical.not_not.mp h
  rw [Int32.le_iff_toInt_le, Int32.le_iff_toInt_le, Int32.toInt_zero] at h
  rw [vp_in_iff]
  omega
def mr_code (_ : rg_U) (p k a b c : Int32) : Int32 := if md_isIn p 0 63 = 0 ∨ md_isFine k a b c = 0 then 0 else 1
def mu_code (u : rg_U) (p k a b c : Int32) : rg_U := if md_isIn p 0 63 = 0 ∨ md_isFine k a b c = 0 then u else rg_R (rg_R (rg_R (rg_R u 1 p.toNatClampNeg k) 2 p.toNatClampNeg a) 3 p.toNatClampNeg b) 4 p.toNatClampNeg c
set_option maxHeartbeats 4000000 in
set_option maxRecDepth 100000 in
theorem k_X10_code {gs : List String} {ro : pm_RO} {n : Nat} {w : Nat → va_E} {b : Nat} {u : rg_U} (hR : rg shM b u n w) (p k a c e : Int32) : pm_Met gs ro M_X10_code 3 0 0 [.ref (b + 0), .int p, .int k, .int a, .int c, .int e] n w (rg_post shM b n w (some (.int (mr_code u p k a c e))) (mu_code u p k a c e)) := by
  refine pm_ofX in_X10_code (Nat.le_of_ble_eq_true rfl) rfl (L := [some (.ref (b + 0)), some (.int p), some (.int k), some (.int a), some (.int c), some (.int e)]) rfl ?_
  refine pm_iload_n dX10_code_0 rfl ?_
  refine pm_iconst (v := 0) dX10_code_1 (by decide) ?_
  refine pm_bipush (v := 63) dX10_code_2 (by decide) ?_
  refine pm_callS (M := M_X10_code) (Mc := M_X10_isIn) (roc := ro) (dc := 0) (mcc := 0) (msc := 0) (As := [.int p, .int 0, .int 63]) (st := []) dX10_code_4 ml_X10_138 (fun _ _ h => h) (by decide) (Nat.le_refl _) (Nat.le_refl _) (Nat.le_of_ble_eq_true rfl) rfl (k_X10_isIn _ _ _ _ _) (fun r n1 w1 hq _ => ?_)
  obtain ⟨e1, e2, e3⟩ := hq
  rw [e1, e2, e3]
  clear e1 e2 e3
  dsimp only [Option.toList, List.cons_append, List.nil_append]
  refine pm_if_eq (tgt := 22) dX10_code_7 (by decide) (fun c_7 => ?_) (fun c_7 => ?_)
  · refine pm_iconst (v := 0) dX10_code_22 (by decide) ?_
    refine pm_zret dX10_code_23 rfl (Or.inl rfl) (Nat.zero_le _) (Nat.zero_le _) ?_
    refine ⟨?_, rfl, ?_, rg_k0⟩
    · simp [mr_code, c_7]
    · rw [show mu_code u p k a c e = u from by simp [mu_code, c_7]]; exact hR
  · refine pm_iload_n dX10_code_10 rfl ?_
    refine pm_iload_n dX10_code_11 rfl ?_
    refine pm_iload dX10_code_12 rfl ?_
    refine pm_iload dX10_code_14 rfl ?_
    refine pm_callS (M := M_X10_code) (Mc := M_X10_isFine) (roc := ro) (dc := 2) (mcc := 0) (msc := 0) (As := [.int k, .int a, .int c, .int e]) (st := []) dX10_code_16 ml_X10_146 (fun _ _ h => h) (by decide) (Nat.le_refl _) (Nat.le_refl _) (Nat.le_of_ble_eq_true rfl) rfl (k_X10_isFine _ _ _ _ _ _) (fun r n1 w1 hq _ => ?_)
    obtain ⟨e1, e2, e3⟩ := hq
    rw [e1, e2, e3]
    clear e1 e2 e3
    dsimp only [Option.toList, List.cons_append, List.nil_append]
    refine pm_if_ne (tgt := 24) dX10_code_19 (by decide) (fun c_19 => ?_) (fun c_19 => ?_)
    · refine pm_aload_n dX10_code_24 rfl ?_
      refine rg_gr (j := 0) (o := 1) hR dX10_code_25 fl_X10_7 rfl rfl ?_
      refine pm_iload_n dX10_code_28 rfl ?_
      refine pm_iload_n dX10_code_29 rfl ?_
      refine rg_as (j := 1) hR dX10_code_30 rfl (md_in c_7 (by decide)) (fun w1 hR2 hk3 => ?_)
      refine pm_aload_n dX10_code_31 rfl ?_
      refine rg_gr (j := 0) (o := 2) hR2 dX10_code_32 fl_X10_13 rfl rfl ?_
      refine pm_iload_n dX10_code_35 rfl ?_
      refine pm_iload_n dX10_code_36 rfl ?_
      refine rg_as (j := 2) hR2 dX10_code_37 rfl (md_in c_7 (by decide)) (fun w4 hR5 hk6 => ?_)
      have hk7 := rg_kt hk3 hk6
      refine pm_aload_n dX10_code_38 rfl ?_
      refine rg_gr (j := 0) (o := 3) hR5 dX10_code_39 fl_X10_16 rfl rfl ?_
      refine pm_iload_n dX10_code_42 rfl ?_
      refine pm_iload dX10_code_43 rfl ?_
      refine rg_as (j := 3) hR5 dX10_code_45 rfl (md_in c_7 (by decide)) (fun w8 hR9 hk10 => ?_)
      have hk11 := rg_kt hk7 hk10
      refine pm_aload_n dX10_code_46 rfl ?_
      refine rg_gr (j := 0) (o := 4) hR9 dX10_code_47 fl_X10_19 rfl rfl ?_
      refine pm_iload_n dX10_code_50 rfl ?_
      refine pm_iload dX10_code_51 rfl ?_
      refine rg_as (j := 4) hR9 dX10_code_53 rfl (md_in c_7 (by decide)) (fun w12 hR13 hk14 => ?_)
      have hk15 := rg_kt hk11 hk14
      refine pm_iconst (v := 1) dX10_code_54 (by decide) ?_
      refine pm_zret dX10_code_55 rfl (Or.inr rfl) (Nat.zero_le _) (Nat.zero_le _) ?_
      refine ⟨?_, rfl, ?_, hk15⟩
      · simp [mr_code, c_7, c_19]
      · rw [show mu_code u p k a c e = (rg_R (rg_R (rg_R (rg_R u 1 (p).toNatClampNeg k) 2 (p).toNatClampNeg a) 3 (p).toNatClampNeg c) 4 (p).toNatClampNeg e) from by simp [mu_code, c_7, c_19]]; exact hR13
    · refine pm_iconst (v := 0) dX10_code_22 (by decide) ?_
      refine pm_zret dX10_code_23 rfl (Or.inl rfl) (Nat.zero_le _) (Nat.zero_le _) ?_
      refine ⟨?_, rfl, ?_, rg_k0⟩
      · simp [mr_code, c_7, c_19]
      · rw [show mu_code u p k a c e = u from by simp [mu_code, c_7, c_19]]; exact hR
def tzf : Nat → Nat → Nat
  | 0, _ => 0
  | f + 1, k => if k % 2 = 1 then 0 else tzf f (k / 2) + 1
/-- how often a number can be halved without a rest (below 2 to the 31, above 0) -/
def tz (k : Nat) : Nat := tzf 31 k
theorem tzf_spec : ∀ (f k : Nat), 0 < k → k < 2 ^ f → (∀ y, y < tzf f k → k / 2 ^ y % 2 = 0) ∧ k / 2 ^ tzf f k % 2 = 1 ∧ tzf f k < f
  | 0, k, h0, h1 => by simp at h1; omega
  | f + 1, k, h0, h1 => by
    unfold tzf
    by_cases h : k % 2 = 1
    · rw [if_pos h]
      exact ⟨fun y hy => absurd hy (Nat.not_lt_zero y), by simpa using h, Nat.succ_pos f⟩
    · rw [if_neg h]
      have h2 : 0 < k / 2 := by omega
      have h3 : k / 2 < 2 ^ f := by rw [Nat.pow_succ] at h1; omega
      obtain ⟨a1, a2, a3⟩ := tzf_spec f (k / 2) h2 h3
      refine ⟨fun y hy => ?_, ?_, by omega⟩
      · cases y with
        | zero => simp; omega
        | succ y =>
          have := a1 y (by omega)
          rwa [Nat.div_div_eq_div_mul, Nat.mul_comm, ← Nat.pow_succ] at this
      · rw [Nat.pow_succ, Nat.mul_comm, ← Nat.div_div_eq_div_mul]
        exact a2
theorem tz_spec {k : Nat} (h0 : 0 < k) (h1 : k < 2 ^ 31) : (∀ y, y < tz k → k / 2 ^ y % 2 = 0) ∧ k / 2 ^ tz k % 2 = 1 ∧ tz k < 31 := tzf_spec 31 k h0 h1
theorem bit_at {k z : Nat} (hk : k < 2 ^ 31) (hz : z < 32) : (nI k >>> (nI z &&& 31)) &&& 1 = nI (k / 2 ^ z % 2) := by
  have h1 : ∀ n, n < 32 → ((nI n &&& 31).toBitVec.smod 32).toNat = n := by decide +kernel
  rw [pk_shrN hk (nI z &&& 31) z (h1 z hz)]
  have := pk_andN (n := k / 2 ^ z) (m := 1) (by have := Nat.div_le_self k (2 ^ z); omega) 1 (by decide)
  simpa using this
set_option maxHeartbeats 4000000 in
set_option maxRecDepth 100000 in
theorem k_X10_halvings {gs : List String} {ro : pm_RO} {n : Nat} {w : Nat → va_E} {b : Nat} {u : rg_U} (hR : rg shM b u n w) {K : Nat} (h0 : 0 < K) (hK : K < 2 ^ 31) : pm_Met gs ro M_X10_halvings 0 0 0 [.ref (b + 0), .int (nI K)] n w (pm_p n w (some (.int (nI (tz K))))) := by
  have hT := tz_spec h0 hK
  refine pm_ofX in_X10_halvings (Nat.le_of_ble_eq_true rfl) rfl (L := [some (.ref (b + 0)), some (.int (nI K)), none]) rfl ?_
  refine pm_iconst (v := 0) dX10_halvings_0 (by decide) ?_
  refine pm_istore_n dX10_halvings_1 (by decide) rfl rfl ?_
  have LP : ∀ (f z : Nat), z + f = tz K → pm_X gs ro M_X10_halvings 0 0 0 0 0 2 [some (.ref (b + 0)), some (.int (nI K)), some (.int (nI z))] [] n w (pm_p n w (some (.int (nI (tz K))))) := by
    intro f
    induction f with
    | zero =>
      intro z hz
      have hz : z = tz K := hz
      subst hz
      refine pm_iload_n dX10_halvings_2 rfl ?_
      refine pm_iload_n dX10_halvings_3 rfl ?_
      refine pm_ishr dX10_halvings_4 ?_
      refine pm_iconst (v := 1) dX10_halvings_5 (by decide) ?_
      refine pm_iand dX10_halvings_6 ?_
      refine pm_if_ne (tgt := 16) dX10_halvings_7 (by decide) (fun c_7 => ?_) (fun c_7 => absurd c_7 (by rw [bit_at hK (by omega), hT.2.1]; decide))
      refine pm_iload_n dX10_halvings_16 rfl ?_
      refine pm_iret dX10_halvings_17 rfl (Nat.zero_le _) (Nat.zero_le _) ?_
      exact ⟨rfl, rfl, rfl⟩
    | succ f ih =>
      intro z hz
      have hb := hT.1 z (by omega)
      refine pm_iload_n dX10_halvings_2 rfl ?_
      refine pm_iload_n dX10_halvings_3 rfl ?_
      refine pm_ishr dX10_halvings_4 ?_
      refine pm_iconst (v := 1) dX10_halvings_5 (by decide) ?_
      refine pm_iand dX10_halvings_6 ?_
      refine pm_if_ne (tgt := 16) dX10_halvings_7 (by decide) (fun c_7 => absurd (by rw [bit_at hK (by omega), hb]; decide) c_7) (fun c_7 => ?_)
      refine pm_iinc (v := (nI (z + 1))) dX10_halvings_10 rfl (nI_1 _) (by decide) rfl rfl ?_
      refine pm_goto (tgt := 2) dX10_halvings_13 (by decide) ?_
      exact ih (z + 1) (by omega)
  have LP0 := LP (tz K) 0 (Nat.zero_add _)
  rw [nI_0] at LP0
  exact LP0
/-- with which number k goes, at a depth -/
def gw (k d : Nat) : Nat := k + d * 2 ^ tz k
theorem tz_le {k : Nat} (h0 : 0 < k) (h1 : k < 2 ^ 31) : 2 ^ tz k ≤ k := by
  have h := (tz_spec h0 h1).2.1
  rcases Nat.lt_or_ge k (2 ^ tz k) with q | q
  · rw [Nat.div_eq_of_lt q] at h; cases h
  · exact q
theorem gw_le {k d : Nat} (h0 : 0 < k) (hk : k ≤ 3000) (hd : d ≤ 8) : gw k d ≤ 27000 := by
  have h1 := tz_le h0 (by omega : k < 2 ^ 31)
  unfold gw
  have h2 : d * 2 ^ tz k ≤ 8 * 3000 := Nat.mul_le_mul hd (by omega)
  omega
theorem shl_tz {k d : Nat} (h0 : 0 < k) (hk : k ≤ 3000) (hd : d ≤ 8) : nI d <<< (nI (tz k) &&& 31) = nI (d * 2 ^ tz k) := by
  have h1 : ∀ n, n < 32 → ((nI n &&& 31).toBitVec.smod 32).toNat = n := by decide +kernel
  have h2 := tz_le h0 (by omega : k < 2 ^ 31)
  have h3 : d * 2 ^ tz k ≤ 8 * 3000 := Nat.mul_le_mul hd (by omega)
  exact pk_shlN _ _ (h1 _ (by have := (tz_spec h0 (by omega : k < 2 ^ 31)).2.2; omega)) (by omega)
/-- is k held still when now has come -/
def wb (k now d : Nat) : Bool := k == 0 || decide (now < gw k d)
def wc (now d : Nat) : Nat → Nat
  | 0 => 0
  | k + 1 => wc now d k + (if wb k now d then 1 else 0)
theorem wc_le (now d k : Nat) : wc now d k ≤ k := by
  induction k with
  | zero => exact Nat.le_refl _
  | succ k ih => unfold wc; split <;> omega
set_option maxHeartbeats 4000000 in
set_option maxRecDepth 100000 in
theorem k_X10_goesWith {gs : List String} {ro : pm_RO} {n : Nat} {w : Nat → va_E} {b : Nat} {u : rg_U} (hR : rg shM b u n w) {K E : Nat} (h0 : 0 < K) (hK : K ≤ 3000) (hE : E ≤ 8) : pm_Met gs ro M_X10_goesWith 1 0 0 [.ref (b + 0), .int (nI K), .int (nI E)] n w (pm_p n w (some (.int (nI (gw K E))))) := by
  refine pm_ofX in_X10_goesWith (Nat.le_of_ble_eq_true rfl) rfl (L := [some (.ref (b + 0)), some (.int (nI K)), some (.int (nI E))]) rfl ?_
  refine pm_iload_n dX10_goesWith_0 rfl ?_
  refine pm_iload_n dX10_goesWith_1 rfl ?_
  refine pm_aload_n dX10_goesWith_2 rfl ?_
  refine pm_iload_n dX10_goesWith_3 rfl ?_
  refine rg_cV (M := M_X10_goesWith) (Mc := M_X10_halvings) (j := 0) (dc := 0) (As := [.int (nI K)]) (st := [.int (nI E), .int (nI K)]) hR dX10_goesWith_4 ml_X10_225 ⟨TX10, 55, rfl⟩ rfl (by decide) (Nat.le_refl _) (Nat.le_refl _) (Nat.le_of_ble_eq_true rfl) rfl (k_X10_halvings hR h0 (by omega)) (fun r n1 w1 hq => ?_)
  obtain ⟨e1, e2, e3⟩ := hq
  rw [e1, e2, e3]
  clear e1 e2 e3
  dsimp only [Option.toList, List.cons_append, List.nil_append]
  refine pm_ishl dX10_goesWith_7 ?_
  refine pm_i (y := (nI (E * 2 ^ tz K))) (shl_tz h0 hK hE) ?_
  refine pm_iadd dX10_goesWith_8 ?_
  refine pm_i (y := (nI (gw K E))) (nI_add K _) ?_
  refine pm_iret dX10_goesWith_9 rfl (Nat.zero_le _) (Nat.zero_le _) ?_
  exact ⟨rfl, rfl, rfl⟩
set_option maxHeartbeats 4000000 in
set_option maxRecDepth 100000 in
theorem k_X10_wouldBe {gs : List String} {ro : pm_RO} {n : Nat} {w : Nat → va_E} {b : Nat} {u : rg_U} (hR : rg shM b u n w) {K N E : Nat} (hK : K ≤ 3000) (hN : N ≤ 3000) (hE : E ≤ 8) : pm_Met gs ro M_X10_wouldBe 2 0 0 [.ref (b + 0), .int (nI K), .int (nI N), .int (nI E)] n w (pm_p n w (some (.int (if wb K N E then (1 : Int32) else 0)))) := by
  have hcase : K = 0 ∨ 0 < K := Nat.eq_zero_or_pos K
  refine pm_ofX in_X10_wouldBe (Nat.le_of_ble_eq_true rfl) rfl (L := [some (.ref (b + 0)), some (.int (nI K)), some (.int (nI N)), some (.int (nI E))]) rfl ?_
  refine pm_iload_n dX10_wouldBe_0 rfl ?_
  refine pm_if_eq (tgt := 14) dX10_wouldBe_1 (by decide) (fun c_1 => ?_) (fun c_1 => ?_)
  · refine pm_iconst (v := 1) dX10_wouldBe_14 (by decide) ?_
    refine pm_goto (tgt := 19) dX10_wouldBe_15 (by decide) ?_
    refine pm_zret dX10_wouldBe_19 rfl (Or.inr rfl) (Nat.zero_le _) (Nat.zero_le _) ?_
    refine ⟨rfl, rfl, ?_⟩
    unfold wb
    rcases hcase with q | q
    · subst q; first | rfl | exact absurd rfl c_1
    · have hg := gw_le q hK hE
      have hne : (K == 0) = false := by simp; omega
      have hz : ¬ nI K = 0 := nI_ne0 q (by omega)
      first
        | exact absurd c_1 hz
        | (have hh : N < gw K E := by
            rcases Nat.lt_or_ge N (gw K E) with z | z
            · exact z
            · exact absurd (nI_le z (by omega)) c_11
           simp [hne, hh])
        | (have hh : ¬ N < gw K E := fun z => absurd c_11 (nI_ge z (by omega))
           simp [hne, hh])
  · refine pm_aload_n dX10_wouldBe_4 rfl ?_
    refine pm_iload_n dX10_wouldBe_5 rfl ?_
    refine pm_iload_n dX10_wouldBe_6 rfl ?_
    refine rg_cV (M := M_X10_wouldBe) (Mc := M_X10_goesWith) (j := 0) (dc := 1) (As := [.int (nI K), .int (nI E)]) (st := []) hR dX10_wouldBe_7 ml_X10_229 ⟨TX10, 55, rfl⟩ rfl (by decide) (Nat.le_refl _) (Nat.le_refl _) (Nat.le_of_ble_eq_true rfl) rfl (k_X10_goesWith hR (Nat.pos_of_ne_zero (fun q => c_1 (by rw [q]; rfl))) hK hE) (fun r n1 w1 hq => ?_)
    obtain ⟨e1, e2, e3⟩ := hq
    rw [e1, e2, e3]
    clear e1 e2 e3
    dsimp only [Option.toList, List.cons_append, List.nil_append]
    refine pm_iload_n dX10_wouldBe_10 rfl ?_
    refine pm_icmp_le (tgt := 18) dX10_wouldBe_11 (by decide) (fun c_11 => ?_) (fun c_11 => ?_)
    · refine pm_iconst (v := 0) dX10_wouldBe_18 (by decide) ?_
      refine pm_zret dX10_wouldBe_19 rfl (Or.inl rfl) (Nat.zero_le _) (Nat.zero_le _) ?_
      refine ⟨rfl, rfl, ?_⟩
      unfold wb
      rcases hcase with q | q
      · subst q; first | rfl | exact absurd rfl c_1
      · have hg := gw_le q hK hE
        have hne : (K == 0) = false := by simp; omega
        have hz : ¬ nI K = 0 := nI_ne0 q (by omega)
        first
          | exact absurd c_1 hz
          | (have hh : N < gw K E := by
              rcases Nat.lt_or_ge N (gw K E) with z | z
              · exact z
              · exact absurd (nI_le z (by omega)) c_11
             simp [hne, hh])
          | (have hh : ¬ N < gw K E := fun z => absurd c_11 (nI_ge z (by omega))
             simp [hne, hh])
    · refine pm_iconst (v := 1) dX10_wouldBe_14 (by decide) ?_
      refine pm_goto (tgt := 19) dX10_wouldBe_15 (by decide) ?_
      refine pm_zret dX10_wouldBe_19 rfl (Or.inr rfl) (Nat.zero_le _) (Nat.zero_le _) ?_
      refine ⟨rfl, rfl, ?_⟩
      unfold wb
      rcases hcase with q | q
      · subst q; first | rfl | exact absurd rfl c_1
      · have hg := gw_le q hK hE
        have hne : (K == 0) = false := by simp; omega
        have hz : ¬ nI K = 0 := nI_ne0 q (by omega)
        first
          | exact absurd c_1 hz
          | (have hh : N < gw K E := by
              rcases Nat.lt_or_ge N (gw K E) with z | z
              · exact z
              · exact absurd (nI_le z (by omega)) c_11
             simp [hne, hh])
          | (have hh : ¬ N < gw K E := fun z => absurd c_11 (nI_ge z (by omega))
             simp [hne, hh])
