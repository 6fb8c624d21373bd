theorem dX9_look_0 : decode cX9_look 0 = .ok (.iload_n 1, 1) := by decide +kernel
theorem dX9_look_1 : decode cX9_look 1 = .ok (.ifCond .lt 23, 3) := by decide +kernel
theorem dX9_look_4 : decode cX9_look 4 = .ok (.iload_n 1, 1) := by decide +kernel
theorem dX9_look_5 : decode cX9_look 5 = .ok (.bipush 6, 2) := by decide +kernel
theorem dX9_look_7 : decode cX9_look 7 = .ok (.if_icmp .gt 17, 3) := by decide +kernel
theorem dX9_look_10 : decode cX9_look 10 = .ok (.aload_n 0, 1) := by decide +kernel
theorem dX9_look_11 : decode cX9_look 11 = .ok (.aload_n 0, 1) := by decide +kernel
theorem dX9_look_12 : decode cX9_look 12 = .ok (.aload_n 0, 1) := by decide +kernel
theorem dX9_look_13 : decode cX9_look 13 = .ok (.getfield 52, 3) := by decide +kernel
theorem dX9_look_16 : decode cX9_look 16 = .ok (.invokevirtual 169, 3) := by decide +kernel
theorem dX9_look_19 : decode cX9_look 19 = .ok (.iload_n 1, 1) := by decide +kernel
theorem dX9_look_20 : decode cX9_look 20 = .ok (.invokevirtual 325, 3) := by decide +kernel
theorem dX9_look_23 : decode cX9_look 23 = .ok (.ireturn, 1) := by decide +kernel
theorem dX9_look_24 : decode cX9_look 24 = .ok (.iload_n 1, 1) := by decide +kernel
theorem dX9_look_25 : decode cX9_look 25 = .ok (.tableswitch 75 7 12 #[39, 44, 52, 60, 65, 70], 39) := by decide +kernel
theorem dX9_look_64 : decode cX9_look 64 = .ok (.aload_n 0, 1) := by decide +kernel
theorem dX9_look_65 : decode cX9_look 65 = .ok (.getfield 45, 3) := by decide +kernel
theorem dX9_look_68 : decode cX9_look 68 = .ok (.ireturn, 1) := by decide +kernel
theorem dX9_look_69 : decode cX9_look 69 = .ok (.aload_n 0, 1) := by decide +kernel
theorem dX9_look_70 : decode cX9_look 70 = .ok (.getfield 19, 3) := by decide +kernel
theorem dX9_look_73 : decode cX9_look 73 = .ok (.getfield 99, 3) := by decide +kernel
theorem dX9_look_76 : decode cX9_look 76 = .ok (.ireturn, 1) := by decide +kernel
theorem dX9_look_77 : decode cX9_look 77 = .ok (.aload_n 0, 1) := by decide +kernel
theorem dX9_look_78 : decode cX9_look 78 = .ok (.getfield 19, 3) := by decide +kernel
theorem dX9_look_81 : decode cX9_look 81 = .ok (.getfield 106, 3) := by decide +kernel
theorem dX9_look_84 : decode cX9_look 84 = .ok (.ireturn, 1) := by decide +kernel
theorem dX9_look_85 : decode cX9_look 85 = .ok (.aload_n 0, 1) := by decide +kernel
theorem dX9_look_86 : decode cX9_look 86 = .ok (.getfield 67, 3) := by decide +kernel
theorem dX9_look_89 : decode cX9_look 89 = .ok (.ireturn, 1) := by decide +kernel
theorem dX9_look_90 : decode cX9_look 90 = .ok (.aload_n 0, 1) := by decide +kernel
theorem dX9_look_91 : decode cX9_look 91 = .ok (.getfield 61, 3) := by decide +kernel
theorem dX9_look_94 : decode cX9_look 94 = .ok (.ireturn, 1) := by decide +kernel
theorem dX9_look_95 : decode cX9_look 95 = .ok (.aload_n 0, 1) := by decide +kernel
theorem dX9_look_96 : decode cX9_look 96 = .ok (.getfield 64, 3) := by decide +kernel
theorem dX9_look_99 : decode cX9_look 99 = .ok (.ireturn, 1) := by decide +kernel
theorem dX9_look_100 : decode cX9_look 100 = .ok (.ldc 175, 2) := by decide +kernel
theorem dX9_look_102 : decode cX9_look 102 = .ok (.ireturn, 1) := by decide +kernel
theorem dX9_lookAtRun_0 : decode cX9_lookAtRun 0 = .ok (.aload_n 1, 1) := by decide +kernel
theorem dX9_lookAtRun_1 : decode cX9_lookAtRun 1 = .ok (.ifnonnull 5, 3) := by decide +kernel
theorem dX9_lookAtRun_4 : decode cX9_lookAtRun 4 = .ok (.iconst 0, 1) := by decide +kernel
theorem dX9_lookAtRun_5 : decode cX9_lookAtRun 5 = .ok (.ireturn, 1) := by decide +kernel
theorem dX9_lookAtRun_6 : decode cX9_lookAtRun 6 = .ok (.iload_n 2, 1) := by decide +kernel
theorem dX9_lookAtRun_7 : decode cX9_lookAtRun 7 = .ok (.tableswitch 98 0 5 #[37, 42, 69, 74, 82, 90], 37) := by decide +kernel
theorem dX9_lookAtRun_44 : decode cX9_lookAtRun 44 = .ok (.aload_n 1, 1) := by decide +kernel
theorem dX9_lookAtRun_45 : decode cX9_lookAtRun 45 = .ok (.getfield 144, 3) := by decide +kernel
theorem dX9_lookAtRun_48 : decode cX9_lookAtRun 48 = .ok (.ireturn, 1) := by decide +kernel
theorem dX9_lookAtRun_49 : decode cX9_lookAtRun 49 = .ok (.aload_n 0, 1) := by decide +kernel
theorem dX9_lookAtRun_50 : decode cX9_lookAtRun 50 = .ok (.aload_n 0, 1) := by decide +kernel
theorem dX9_lookAtRun_51 : decode cX9_lookAtRun 51 = .ok (.getfield 52, 3) := by decide +kernel
theorem dX9_lookAtRun_54 : decode cX9_lookAtRun 54 = .ok (.invokevirtual 166, 3) := by decide +kernel
theorem dX9_lookAtRun_57 : decode cX9_lookAtRun 57 = .ok (.ifCond .eq 10, 3) := by decide +kernel
theorem dX9_lookAtRun_60 : decode cX9_lookAtRun 60 = .ok (.aload_n 1, 1) := by decide +kernel
theorem dX9_lookAtRun_61 : decode cX9_lookAtRun 61 = .ok (.getfield 329, 3) := by decide +kernel
theorem dX9_lookAtRun_64 : decode cX9_lookAtRun 64 = .ok (.goto 11, 3) := by decide +kernel
theorem dX9_lookAtRun_67 : decode cX9_lookAtRun 67 = .ok (.aload_n 1, 1) := by decide +kernel
theorem dX9_lookAtRun_68 : decode cX9_lookAtRun 68 = .ok (.aload_n 0, 1) := by decide +kernel
theorem dX9_lookAtRun_69 : decode cX9_lookAtRun 69 = .ok (.getfield 19, 3) := by decide +kernel
theorem dX9_lookAtRun_72 : decode cX9_lookAtRun 72 = .ok (.invokevirtual 159, 3) := by decide +kernel
theorem dX9_lookAtRun_75 : decode cX9_lookAtRun 75 = .ok (.ireturn, 1) := by decide +kernel
theorem dX9_lookAtRun_76 : decode cX9_lookAtRun 76 = .ok (.aload_n 1, 1) := by decide +kernel
theorem dX9_lookAtRun_77 : decode cX9_lookAtRun 77 = .ok (.getfield 332, 3) := by decide +kernel
theorem dX9_lookAtRun_80 : decode cX9_lookAtRun 80 = .ok (.ireturn, 1) := by decide +kernel
theorem dX9_lookAtRun_81 : decode cX9_lookAtRun 81 = .ok (.aload_n 1, 1) := by decide +kernel
theorem dX9_lookAtRun_82 : decode cX9_lookAtRun 82 = .ok (.getfield 226, 3) := by decide +kernel
theorem dX9_lookAtRun_85 : decode cX9_lookAtRun 85 = .ok (.getfield 335, 3) := by decide +kernel
theorem dX9_lookAtRun_88 : decode cX9_lookAtRun 88 = .ok (.ireturn, 1) := by decide +kernel
theorem dX9_lookAtRun_89 : decode cX9_lookAtRun 89 = .ok (.aload_n 1, 1) := by decide +kernel
theorem dX9_lookAtRun_90 : decode cX9_lookAtRun 90 = .ok (.getfield 226, 3) := by decide +kernel
theorem dX9_lookAtRun_93 : decode cX9_lookAtRun 93 = .ok (.getfield 338, 3) := by decide +kernel
theorem dX9_lookAtRun_96 : decode cX9_lookAtRun 96 = .ok (.ireturn, 1) := by decide +kernel
theorem dX9_lookAtRun_97 : decode cX9_lookAtRun 97 = .ok (.aload_n 1, 1) := by decide +kernel
theorem dX9_lookAtRun_98 : decode cX9_lookAtRun 98 = .ok (.getfield 226, 3) := by decide +kernel
theorem dX9_lookAtRun_101 : decode cX9_lookAtRun 101 = .ok (.getfield 341, 3) := by decide +kernel
theorem dX9_lookAtRun_104 : decode cX9_lookAtRun 104 = .ok (.ireturn, 1) := by decide +kernel
theorem dX9_lookAtRun_105 : decode cX9_lookAtRun 105 = .ok (.aload_n 1, 1) := by decide +kernel
theorem dX9_lookAtRun_106 : decode cX9_lookAtRun 106 = .ok (.getfield 344, 3) := by decide +kernel
theorem dX9_lookAtRun_109 : decode cX9_lookAtRun 109 = .ok (.ireturn, 1) := by decide +kernel
theorem dX9_pair_0 : decode cX9_pair 0 = .ok (.aload_n 0, 1) := by decide +kernel
theorem dX9_pair_1 : decode cX9_pair 1 = .ok (.iconst 0, 1) := by decide +kernel
theorem dX9_pair_2 : decode cX9_pair 2 = .ok (.putfield 67, 3) := by decide +kernel
theorem dX9_pair_5 : decode cX9_pair 5 = .ok (.aload_n 0, 1) := by decide +kernel
theorem dX9_pair_6 : decode cX9_pair 6 = .ok (.iload_n 1, 1) := by decide +kernel
theorem dX9_pair_7 : decode cX9_pair 7 = .ok (.invokevirtual 169, 3) := by decide +kernel
theorem dX9_pair_10 : decode cX9_pair 10 = .ok (.astore 5, 2) := by decide +kernel
theorem dX9_pair_12 : decode cX9_pair 12 = .ok (.aload_n 0, 1) := by decide +kernel
theorem dX9_pair_13 : decode cX9_pair 13 = .ok (.iload_n 2, 1) := by decide +kernel
theorem dX9_pair_14 : decode cX9_pair 14 = .ok (.invokevirtual 169, 3) := by decide +kernel
theorem dX9_pair_17 : decode cX9_pair 17 = .ok (.astore 6, 2) := by decide +kernel
theorem dX9_pair_19 : decode cX9_pair 19 = .ok (.aload 5, 2) := by decide +kernel
theorem dX9_pair_21 : decode cX9_pair 21 = .ok (.ifnull 19, 3) := by decide +kernel
theorem dX9_pair_24 : decode cX9_pair 24 = .ok (.aload 6, 2) := by decide +kernel
theorem dX9_pair_26 : decode cX9_pair 26 = .ok (.ifnull 14, 3) := by decide +kernel
theorem dX9_pair_29 : decode cX9_pair 29 = .ok (.iload 4, 2) := by decide +kernel
theorem dX9_pair_31 : decode cX9_pair 31 = .ok (.ifCond .lt 9, 3) := by decide +kernel
theorem dX9_pair_34 : decode cX9_pair 34 = .ok (.iload 4, 2) := by decide +kernel
theorem dX9_pair_36 : decode cX9_pair 36 = .ok (.iconst 3, 1) := by decide +kernel
theorem dX9_pair_37 : decode cX9_pair 37 = .ok (.if_icmp .le 6, 3) := by decide +kernel
theorem dX9_pair_40 : decode cX9_pair 40 = .ok (.ldc 175, 2) := by decide +kernel
theorem dX9_pair_42 : decode cX9_pair 42 = .ok (.ireturn, 1) := by decide +kernel
theorem dX9_pair_43 : decode cX9_pair 43 = .ok (.aload_n 0, 1) := by decide +kernel
theorem dX9_pair_44 : decode cX9_pair 44 = .ok (.getfield 26, 3) := by decide +kernel
theorem dX9_pair_47 : decode cX9_pair 47 = .ok (.aload 5, 2) := by decide +kernel
theorem dX9_pair_49 : decode cX9_pair 49 = .ok (.getfield 273, 3) := by decide +kernel
theorem dX9_pair_52 : decode cX9_pair 52 = .ok (.aload 6, 2) := by decide +kernel
theorem dX9_pair_54 : decode cX9_pair 54 = .ok (.getfield 273, 3) := by decide +kernel
theorem dX9_pair_57 : decode cX9_pair 57 = .ok (.invokevirtual 303, 3) := by decide +kernel
theorem dX9_pair_60 : decode cX9_pair 60 = .ok (.aload_n 0, 1) := by decide +kernel
theorem dX9_pair_61 : decode cX9_pair 61 = .ok (.getfield 26, 3) := by decide +kernel
theorem dX9_pair_64 : decode cX9_pair 64 = .ok (.iload_n 3, 1) := by decide +kernel
theorem dX9_pair_65 : decode cX9_pair 65 = .ok (.invokevirtual 310, 3) := by decide +kernel
theorem dX9_pair_68 : decode cX9_pair 68 = .ok (.ifCond .ne 6, 3) := by decide +kernel
theorem dX9_pair_71 : decode cX9_pair 71 = .ok (.ldc 175, 2) := by decide +kernel
theorem dX9_pair_73 : decode cX9_pair 73 = .ok (.ireturn, 1) := by decide +kernel
theorem dX9_pair_74 : decode cX9_pair 74 = .ok (.iload 4, 2) := by decide +kernel
theorem dX9_pair_76 : decode cX9_pair 76 = .ok (.ifCond .ne 12, 3) := by decide +kernel
theorem dX9_pair_79 : decode cX9_pair 79 = .ok (.aload_n 0, 1) := by decide +kernel
theorem dX9_pair_80 : decode cX9_pair 80 = .ok (.getfield 26, 3) := by decide +kernel
theorem dX9_pair_83 : decode cX9_pair 83 = .ok (.iload_n 3, 1) := by decide +kernel
theorem dX9_pair_84 : decode cX9_pair 84 = .ok (.invokevirtual 311, 3) := by decide +kernel
theorem dX9_pair_87 : decode cX9_pair 87 = .ok (.ireturn, 1) := by decide +kernel
theorem dX9_pair_88 : decode cX9_pair 88 = .ok (.iload 4, 2) := by decide +kernel
theorem dX9_pair_90 : decode cX9_pair 90 = .ok (.iconst 1, 1) := by decide +kernel
theorem dX9_pair_91 : decode cX9_pair 91 = .ok (.if_icmp .ne 12, 3) := by decide +kernel
theorem dX9_pair_94 : decode cX9_pair 94 = .ok (.aload_n 0, 1) := by decide +kernel
theorem dX9_pair_95 : decode cX9_pair 95 = .ok (.getfield 26, 3) := by decide +kernel
theorem dX9_pair_98 : decode cX9_pair 98 = .ok (.iload_n 3, 1) := by decide +kernel
theorem dX9_pair_99 : decode cX9_pair 99 = .ok (.invokevirtual 314, 3) := by decide +kernel
theorem dX9_pair_102 : decode cX9_pair 102 = .ok (.ireturn, 1) := by decide +kernel
theorem dX9_pair_103 : decode cX9_pair 103 = .ok (.aload 5, 2) := by decide +kernel
theorem dX9_pair_105 : decode cX9_pair 105 = .ok (.getfield 273, 3) := by decide +kernel
theorem dX9_pair_108 : decode cX9_pair 108 = .ok (.aload_n 0, 1) := by decide +kernel
theorem dX9_pair_109 : decode cX9_pair 109 = .ok (.getfield 26, 3) := by decide +kernel
theorem dX9_pair_112 : decode cX9_pair 112 = .ok (.iload_n 3, 1) := by decide +kernel
theorem dX9_pair_113 : decode cX9_pair 113 = .ok (.invokevirtual 311, 3) := by decide +kernel
theorem dX9_pair_116 : decode cX9_pair 116 = .ok (.iconst 0, 1) := by decide +kernel
theorem dX9_pair_117 : decode cX9_pair 117 = .ok (.invokevirtual 281, 3) := by decide +kernel
theorem dX9_pair_120 : decode cX9_pair 120 = .ok (.istore 7, 2) := by decide +kernel
theorem dX9_pair_122 : decode cX9_pair 122 = .ok (.aload 6, 2) := by decide +kernel
theorem dX9_pair_124 : decode cX9_pair 124 = .ok (.getfield 273, 3) := by decide +kernel
theorem dX9_pair_127 : decode cX9_pair 127 = .ok (.aload_n 0, 1) := by decide +kernel
theorem dX9_pair_128 : decode cX9_pair 128 = .ok (.getfield 26, 3) := by decide +kernel
theorem dX9_pair_131 : decode cX9_pair 131 = .ok (.iload_n 3, 1) := by decide +kernel
theorem dX9_pair_132 : decode cX9_pair 132 = .ok (.invokevirtual 314, 3) := by decide +kernel
theorem dX9_pair_135 : decode cX9_pair 135 = .ok (.iconst 0, 1) := by decide +kernel
theorem dX9_pair_136 : decode cX9_pair 136 = .ok (.invokevirtual 281, 3) := by decide +kernel
theorem dX9_pair_139 : decode cX9_pair 139 = .ok (.istore 8, 2) := by decide +kernel
theorem dX9_pair_141 : decode cX9_pair 141 = .ok (.aload_n 0, 1) := by decide +kernel
theorem dX9_pair_142 : decode cX9_pair 142 = .ok (.aload 5, 2) := by decide +kernel
theorem dX9_pair_144 : decode cX9_pair 144 = .ok (.iload 7, 2) := by decide +kernel
theorem dX9_pair_146 : decode cX9_pair 146 = .ok (.invokevirtual 147, 3) := by decide +kernel
theorem dX9_pair_149 : decode cX9_pair 149 = .ok (.aload_n 0, 1) := by decide +kernel
theorem dX9_pair_150 : decode cX9_pair 150 = .ok (.aload 6, 2) := by decide +kernel
theorem dX9_pair_152 : decode cX9_pair 152 = .ok (.iload 8, 2) := by decide +kernel
theorem dX9_pair_154 : decode cX9_pair 154 = .ok (.invokevirtual 147, 3) := by decide +kernel
theorem dX9_pair_157 : decode cX9_pair 157 = .ok (.aload 5, 2) := by decide +kernel
theorem dX9_pair_159 : decode cX9_pair 159 = .ok (.getfield 176, 3) := by decide +kernel
theorem dX9_pair_162 : decode cX9_pair 162 = .ok (.iload 7, 2) := by decide +kernel
theorem dX9_pair_164 : decode cX9_pair 164 = .ok (.aload 6, 2) := by decide +kernel
theorem dX9_pair_166 : decode cX9_pair 166 = .ok (.getfield 176, 3) := by decide +kernel
theorem dX9_pair_169 : decode cX9_pair 169 = .ok (.iload 8, 2) := by decide +kernel
theorem dX9_pair_171 : decode cX9_pair 171 = .ok (.iload 4, 2) := by decide +kernel
theorem dX9_pair_173 : decode cX9_pair 173 = .ok (.iconst 2, 1) := by decide +kernel
theorem dX9_pair_174 : decode cX9_pair 174 = .ok (.isub, 1) := by decide +kernel
theorem dX9_pair_175 : decode cX9_pair 175 = .ok (.invokestatic 317, 3) := by decide +kernel
theorem dX9_pair_178 : decode cX9_pair 178 = .ok (.ireturn, 1) := by decide +kernel
theorem dX9_parts_0 : decode cX9_parts 0 = .ok (.aload_n 0, 1) := by decide +kernel
theorem dX9_parts_1 : decode cX9_parts 1 = .ok (.iload_n 1, 1) := by decide +kernel
theorem dX9_parts_2 : decode cX9_parts 2 = .ok (.invokevirtual 169, 3) := by decide +kernel
theorem dX9_parts_5 : decode cX9_parts 5 = .ok (.astore_n 3, 1) := by decide +kernel
theorem dX9_parts_6 : decode cX9_parts 6 = .ok (.aload_n 0, 1) := by decide +kernel
theorem dX9_parts_7 : decode cX9_parts 7 = .ok (.iload_n 2, 1) := by decide +kernel
theorem dX9_parts_8 : decode cX9_parts 8 = .ok (.invokevirtual 169, 3) := by decide +kernel
theorem dX9_parts_11 : decode cX9_parts 11 = .ok (.astore 4, 2) := by decide +kernel
theorem dX9_parts_13 : decode cX9_parts 13 = .ok (.aload_n 3, 1) := by decide +kernel
theorem dX9_parts_14 : decode cX9_parts 14 = .ok (.ifnull 8, 3) := by decide +kernel
theorem dX9_parts_17 : decode cX9_parts 17 = .ok (.aload 4, 2) := by decide +kernel
theorem dX9_parts_19 : decode cX9_parts 19 = .ok (.ifnonnull 6, 3) := by decide +kernel
theorem dX9_parts_22 : decode cX9_parts 22 = .ok (.bipush (-2), 2) := by decide +kernel
theorem dX9_parts_24 : decode cX9_parts 24 = .ok (.ireturn, 1) := by decide +kernel
theorem dX9_parts_25 : decode cX9_parts 25 = .ok (.aload_n 0, 1) := by decide +kernel
theorem dX9_parts_26 : decode cX9_parts 26 = .ok (.getfield 26, 3) := by decide +kernel
theorem dX9_parts_29 : decode cX9_parts 29 = .ok (.aload_n 3, 1) := by decide +kernel
theorem dX9_parts_30 : decode cX9_parts 30 = .ok (.aload 4, 2) := by decide +kernel
theorem dX9_parts_32 : decode cX9_parts 32 = .ok (.invokevirtual 321, 3) := by decide +kernel
theorem dX9_parts_35 : decode cX9_parts 35 = .ok (.ireturn, 1) := by decide +kernel
theorem dX9_unlike_0 : decode cX9_unlike 0 = .ok (.iconst 0, 1) := by decide +kernel
theorem dX9_unlike_1 : decode cX9_unlike 1 = .ok (.istore 5, 2) := by decide +kernel
theorem dX9_unlike_3 : decode cX9_unlike 3 = .ok (.iconst 0, 1) := by decide +kernel
theorem dX9_unlike_4 : decode cX9_unlike 4 = .ok (.istore 6, 2) := by decide +kernel
theorem dX9_unlike_6 : decode cX9_unlike 6 = .ok (.iload 6, 2) := by decide +kernel
theorem dX9_unlike_8 : decode cX9_unlike 8 = .ok (.iload 4, 2) := by decide +kernel
theorem dX9_unlike_10 : decode cX9_unlike 10 = .ok (.invokestatic 241, 3) := by decide +kernel
theorem dX9_unlike_13 : decode cX9_unlike 13 = .ok (.if_icmp .ge 63, 3) := by decide +kernel
theorem dX9_unlike_16 : decode cX9_unlike 16 = .ok (.iload 4, 2) := by decide +kernel
theorem dX9_unlike_18 : decode cX9_unlike 18 = .ok (.invokestatic 244, 3) := by decide +kernel
theorem dX9_unlike_21 : decode cX9_unlike 21 = .ok (.iload 6, 2) := by decide +kernel
theorem dX9_unlike_23 : decode cX9_unlike 23 = .ok (.iadd, 1) := by decide +kernel
theorem dX9_unlike_24 : decode cX9_unlike 24 = .ok (.istore 7, 2) := by decide +kernel
theorem dX9_unlike_26 : decode cX9_unlike 26 = .ok (.aload_n 2, 1) := by decide +kernel
theorem dX9_unlike_27 : decode cX9_unlike 27 = .ok (.iload_n 3, 1) := by decide +kernel
theorem dX9_unlike_28 : decode cX9_unlike 28 = .ok (.iload 7, 2) := by decide +kernel
theorem dX9_unlike_30 : decode cX9_unlike 30 = .ok (.invokevirtual 180, 3) := by decide +kernel
theorem dX9_unlike_33 : decode cX9_unlike 33 = .ok (.istore 8, 2) := by decide +kernel
theorem dX9_unlike_35 : decode cX9_unlike 35 = .ok (.aload_n 0, 1) := by decide +kernel
theorem dX9_unlike_36 : decode cX9_unlike 36 = .ok (.aload_n 0, 1) := by decide +kernel
theorem dX9_unlike_37 : decode cX9_unlike 37 = .ok (.iload_n 1, 1) := by decide +kernel
theorem dX9_unlike_38 : decode cX9_unlike 38 = .ok (.iload 7, 2) := by decide +kernel
theorem dX9_unlike_40 : decode cX9_unlike 40 = .ok (.invokevirtual 180, 3) := by decide +kernel
theorem dX9_unlike_43 : decode cX9_unlike 43 = .ok (.aload_n 2, 1) := by decide +kernel
theorem dX9_unlike_44 : decode cX9_unlike 44 = .ok (.iload 8, 2) := by decide +kernel
theorem dX9_unlike_46 : decode cX9_unlike 46 = .ok (.invokevirtual 186, 3) := by decide +kernel
theorem dX9_unlike_49 : decode cX9_unlike 49 = .ok (.aload_n 2, 1) := by decide +kernel
theorem dX9_unlike_50 : decode cX9_unlike 50 = .ok (.iload 8, 2) := by decide +kernel
theorem dX9_unlike_52 : decode cX9_unlike 52 = .ok (.invokevirtual 190, 3) := by decide +kernel
theorem dX9_unlike_55 : decode cX9_unlike 55 = .ok (.invokevirtual 353, 3) := by decide +kernel
theorem dX9_unlike_58 : decode cX9_unlike 58 = .ok (.ifCond .ne 12, 3) := by decide +kernel
theorem dX9_unlike_61 : decode cX9_unlike 61 = .ok (.iload 5, 2) := by decide +kernel
theorem dX9_unlike_63 : decode cX9_unlike 63 = .ok (.iconst 1, 1) := by decide +kernel
theorem dX9_unlike_64 : decode cX9_unlike 64 = .ok (.iload 6, 2) := by decide +kernel
theorem dX9_unlike_66 : decode cX9_unlike 66 = .ok (.ishl, 1) := by decide +kernel
theorem dX9_unlike_67 : decode cX9_unlike 67 = .ok (.ior, 1) := by decide +kernel
theorem dX9_unlike_68 : decode cX9_unlike 68 = .ok (.istore 5, 2) := by decide +kernel
theorem dX9_unlike_70 : decode cX9_unlike 70 = .ok (.iinc 6 1, 3) := by decide +kernel
theorem dX9_unlike_73 : decode cX9_unlike 73 = .ok (.goto (-67), 3) := by decide +kernel
theorem dX9_unlike_76 : decode cX9_unlike 76 = .ok (.iload 5, 2) := by decide +kernel
theorem dX9_unlike_78 : decode cX9_unlike 78 = .ok (.ireturn, 1) := by decide +kernel
def g_X9_unlike_j70 (F : Nat) (o0 : Nat) (o2 : Nat) (l1 : Int32) (l3 : Int32) (l4 : Int32) (l5 : Int32) (l6 : Int32) (u : rg_U) : Option ((Int32 × Int32) ⊕ Int32) :=
  some (.inl (l5, (l6 + 1)))
set_option maxHeartbeats 4000000 in
set_option maxRecDepth 100000 in
theorem k_X9_unlike_j70 {gs : List String} {ro : pm_RO} {n : Nat} {w : Nat → va_E} {b : Nat} {u : rg_U} {F : Nat} {o0 : Nat} {o2 : Nat} {l1 : Int32} {l3 : Int32} {l4 : Int32} {l5 : Int32} {l6 : Int32} {z : ((Int32 × Int32) ⊕ Int32)} {Q : Option Value → Nat → (Nat → va_E) → Prop} (hR : rg shC b u n w) (hs0 : sp_Puts o0) (hs2 : sp_Puts o2) (h : g_X9_unlike_j70 F o0 o2 l1 l3 l4 l5 l6 u = some z) (hc : ∀ s', z = .inl s' → pm_X gs ro M_X9_unlike 3 0 0 0 0 6 [some (.ref (b + o0)), some (.int l1), some (.ref (b + o2)), some (.int l3), some (.int l4), some (.int s'.1), some (.int s'.2), none, none] [] n w Q) (he0 : ∀ r', z = .inr r' → pm_X gs ro M_X9_unlike 3 0 0 0 0 76 [none, none, none, none, none, some (.int r'), none, none, none] [] n w Q) : pm_X gs ro M_X9_unlike 3 0 0 0 0 70 [some (.ref (b + o0)), some (.int l1), some (.ref (b + o2)), some (.int l3), some (.int l4), some (.int l5), some (.int l6), none, none] [] n w Q := by
  unfold g_X9_unlike_j70 at h
  refine pm_iinc (v := (l6 + 1)) dX9_unlike_70 rfl rfl (by decide) rfl rfl ?_
  refine pm_goto (tgt := 6) dX9_unlike_73 (by decide) ?_
  refine pm_lw (L' := [some (.ref (b + o0)), some (.int l1), some (.ref (b + o2)), some (.int l3), some (.int l4), some (.int l5), some (.int (l6 + 1)), none, none]) ⟨Or.inr rfl, Or.inr rfl, Or.inr rfl, Or.inr rfl, Or.inr rfl, Or.inr rfl, Or.inr rfl, Or.inl rfl, Or.inl rfl, trivial⟩ ?_
  exact hc _ (Option.some.inj h).symm
def g_X9_unlike_l6 (F : Nat) (o0 : Nat) (o2 : Nat) (l1 : Int32) (l3 : Int32) (l4 : Int32) (u : rg_U) (l5 : Int32) (l6 : Int32) : Option ((Int32 × Int32) ⊕ Int32) :=
  if (g_X9_placesOf l4) ≤ l6 then (some (.inr l5)) else (ob (g_X6_putBy F o2 l3 ((g_X9_firstPlaceOf l4) + l6) u) (fun r2 => ob (g_X6_putBy F o0 l1 ((g_X9_firstPlaceOf l4) + l6) u) (fun r4 => ob (g_X6_sortOf F o2 r2 u) (fun r6 => ob (g_X6_numberOf F o2 r2 u) (fun r8 => ob (g_X6_hasValue F o0 r4 r6 r8 u) (fun r10 => if r10 = 0 then (g_X9_unlike_j70 F o0 o2 l1 l3 l4 (l5 ||| (dx_shl 1 l6)) l6 u) else (g_X9_unlike_j70 F o0 o2 l1 l3 l4 l5 l6 u)))))))
set_option maxHeartbeats 4000000 in
set_option maxRecDepth 100000 in
theorem k_X9_unlike_l6 {gs : List String} {ro : pm_RO} {n : Nat} {w : Nat → va_E} {b : Nat} {u : rg_U} {F : Nat} {o0 : Nat} {o2 : Nat} {l1 : Int32} {l3 : Int32} {l4 : Int32} {l5 : Int32} {l6 : Int32} {z : (Int32 × Int32) ⊕ Int32} {Q : Option Value → Nat → (Nat → va_E) → Prop} (hR : rg shC b u n w) (hs0 : sp_Puts o0) (hs2 : sp_Puts o2) (h : g_X9_unlike_l6 F o0 o2 l1 l3 l4 u l5 l6 = some z) (hc : ∀ s', z = .inl s' → pm_X gs ro M_X9_unlike 3 0 0 0 0 6 [some (.ref (b + o0)), some (.int l1), some (.ref (b + o2)), some (.int l3), some (.int l4), some (.int s'.1), some (.int s'.2), none, none] [] n w Q) (he0 : ∀ r', z = .inr r' → pm_X gs ro M_X9_unlike 3 0 0 0 0 76 [none, none, none, none, none, some (.int r'), none, none, none] [] n w Q) : pm_X gs ro M_X9_unlike 3 0 0 0 0 6 [some (.ref (b + o0)), some (.int l1), some (.ref (b + o2)), some (.int l3), some (.int l4), some (.int l5), some (.int l6), none, none] [] n w Q := by
  unfold g_X9_unlike_l6 at h
  refine pm_iload dX9_unlike_6 rfl ?_
  refine pm_iload dX9_unlike_8 rfl ?_
  refine dx_cSp (M := M_X9_unlike) (Mc := M_X9_placesOf) (dc := 0) (As := [.int l4]) (st := [.int l6]) dX9_unlike_10 ml_X9_241 (by decide) (Nat.le_of_ble_eq_true rfl) rfl (k_X9_placesOf rfl) ?_
  refine pm_icmp_ge (tgt := 76) dX9_unlike_13 (by decide) (fun c1 => ?_) (fun c1 => ?_)
  · replace h := it_t c1 h
    refine pm_lw (L' := [none, none, none, none, none, some (.int l5), none, none, none]) ⟨Or.inl rfl, Or.inl rfl, Or.inl rfl, Or.inl rfl, Or.inl rfl, Or.inr rfl, Or.inl rfl, Or.inl rfl, Or.inl rfl, trivial⟩ ?_
    exact he0 _ (Option.some.inj h).symm
  · replace h := it_f c1 h
    refine pm_iload dX9_unlike_16 rfl ?_
    refine dx_cSp (M := M_X9_unlike) (Mc := M_X9_firstPlaceOf) (dc := 0) (As := [.int l4]) (st := []) dX9_unlike_18 ml_X9_244 (by decide) (Nat.le_of_ble_eq_true rfl) rfl (k_X9_firstPlaceOf rfl) ?_
    refine pm_iload dX9_unlike_21 rfl ?_
    refine pm_iadd dX9_unlike_23 ?_
    refine pm_istore dX9_unlike_24 (by decide) rfl rfl ?_
    refine pm_aload_n dX9_unlike_26 rfl ?_
    refine pm_iload_n dX9_unlike_27 rfl ?_
    refine pm_iload dX9_unlike_28 rfl ?_
    obtain ⟨r2, h3, h⟩ := ob_some h
    refine dx_cVp (j := o2) (M := M_X9_unlike) (Mc := M_X6_putBy) (dc := 2) (As := [.int l3, .int ((g_X9_firstPlaceOf l4) + l6)]) (st := []) hR dX9_unlike_30 ml_X9_180 ⟨TX6, 12, rfl⟩ (sp_Puts_self hs2) (by decide) (Nat.le_of_ble_eq_true rfl) rfl (k_X6_putBy hR hs2 h3) ?_
    refine pm_istore dX9_unlike_33 (by decide) rfl rfl ?_
    refine pm_aload_n dX9_unlike_35 rfl ?_
    refine pm_aload_n dX9_unlike_36 rfl ?_
    refine pm_iload_n dX9_unlike_37 rfl ?_
    refine pm_iload dX9_unlike_38 rfl ?_
    obtain ⟨r4, h5, h⟩ := ob_some h
    refine dx_cVp (j := o0) (M := M_X9_unlike) (Mc := M_X6_putBy) (dc := 2) (As := [.int l1, .int ((g_X9_firstPlaceOf l4) + l6)]) (st := [.ref (b + o0)]) hR dX9_unlike_40 ml_X9_180 ⟨TX6, 12, rfl⟩ (sp_Puts_self hs0) (by decide) (Nat.le_of_ble_eq_true rfl) rfl (k_X6_putBy hR hs0 h5) ?_
    refine pm_aload_n dX9_unlike_43 rfl ?_
    refine pm_iload dX9_unlike_44 rfl ?_
    obtain ⟨r6, h7, h⟩ := ob_some h
    refine dx_cVp (j := o2) (M := M_X9_unlike) (Mc := M_X6_sortOf) (dc := 0) (As := [.int r2]) (st := [.int r4, .ref (b + o0)]) hR dX9_unlike_46 ml_X9_186 ⟨TX6, 12, rfl⟩ (sp_Puts_self hs2) (by decide) (Nat.le_of_ble_eq_true rfl) rfl (k_X6_sortOf hR hs2 h7) ?_
    refine pm_aload_n dX9_unlike_49 rfl ?_
    refine pm_iload dX9_unlike_50 rfl ?_
    obtain ⟨r8, h9, h⟩ := ob_some h
    refine dx_cVp (j := o2) (M := M_X9_unlike) (Mc := M_X6_numberOf) (dc := 0) (As := [.int r2]) (st := [.int r6, .int r4, .ref (b + o0)]) hR dX9_unlike_52 ml_X9_190 ⟨TX6, 12, rfl⟩ (sp_Puts_self hs2) (by decide) (Nat.le_of_ble_eq_true rfl) rfl (k_X6_numberOf hR hs2 h9) ?_
    obtain ⟨r10, h11, h⟩ := ob_some h
    refine dx_cVp (j := o0) (M := M_X9_unlike) (Mc := M_X6_hasValue) (dc := 1) (As := [.int r4, .int r6, .int r8]) (st := []) hR dX9_unlike_55 ml_X9_353 ⟨TX6, 12, rfl⟩ (sp_Puts_self hs0) (by decide) (Nat.le_of_ble_eq_true rfl) rfl (k_X6_hasValue hR hs0 h11) ?_
    refine pm_if_ne (tgt := 70) dX9_unlike_58 (by decide) (fun c12 => ?_) (fun c12 => ?_)
    · replace h := it_f c12 h
      refine pm_lw (L' := [some (.ref (b + o0)), some (.int l1), some (.ref (b + o2)), some (.int l3), some (.int l4), some (.int l5), some (.int l6), none, none]) ⟨Or.inr rfl, Or.inr rfl, Or.inr rfl, Or.inr rfl, Or.inr rfl, Or.inr rfl, Or.inr rfl, Or.inl rfl, Or.inl rfl, trivial⟩ ?_
      exact k_X9_unlike_j70 hR hs0 hs2 h hc he0
    · replace h := it_t c12 h
      refine pm_iload dX9_unlike_61 rfl ?_
      refine pm_iconst (v := 1) dX9_unlike_63 (by decide) ?_
      refine pm_iload dX9_unlike_64 rfl ?_
      refine pm_ishl dX9_unlike_66 ?_
      refine pm_ior dX9_unlike_67 ?_
      refine pm_istore dX9_unlike_68 (by decide) rfl rfl ?_
      refine pm_lw (L' := [some (.ref (b + o0)), some (.int l1), some (.ref (b + o2)), some (.int l3), some (.int l4), some (.int (l5 ||| (dx_shl 1 l6))), some (.int l6), none, none]) ⟨Or.inr rfl, Or.inr rfl, Or.inr rfl, Or.inr rfl, Or.inr rfl, Or.inr rfl, Or.inr rfl, Or.inl rfl, Or.inl rfl, trivial⟩ ?_
      exact k_X9_unlike_j70 hR hs0 hs2 h hc he0
def g_X9_unlike (F : Nat) (o0 : Nat) (x1 : Int32) (o2 : Nat) (x3 : Int32) (x4 : Int32) (u : rg_U) : Option Int32 :=
  ob (lp (fun (s : (Int32 × Int32)) => g_X9_unlike_l6 F o0 o2 x1 x3 x4 u s.1 s.2) F ((0 : Int32), (0 : Int32))) (fun r13 => some r13)
set_option maxHeartbeats 4000000 in
set_option maxRecDepth 100000 in
theorem k_X9_unlike {gs : List String} {ro : pm_RO} {n : Nat} {w : Nat → va_E} {b : Nat} {u : rg_U} {F : Nat} {o0 : Nat} {x1 : Int32} {o2 : Nat} {x3 : Int32} {x4 : Int32} {z : Int32} (hR : rg shC b u n w) (hs0 : sp_Puts o0) (hs2 : sp_Puts o2) (h : g_X9_unlike F o0 x1 o2 x3 x4 u = some z) : pm_Met gs ro M_X9_unlike 3 0 0 [.ref (b + o0), .int x1, .ref (b + o2), .int x3, .int x4] n w (pm_p n w (some (.int z))) := by
  unfold g_X9_unlike at h
  refine pm_ofX in_X9_unlike (Nat.le_of_ble_eq_true rfl) rfl (L := [some (.ref (b + o0)), some (.int x1), some (.ref (b + o2)), some (.int x3), some (.int x4), none, none, none, none]) rfl ?_
  refine pm_iconst (v := 0) dX9_unlike_0 (by decide) ?_
  refine pm_istore dX9_unlike_1 (by decide) rfl rfl ?_
  refine pm_iconst (v := 0) dX9_unlike_3 (by decide) ?_
  refine pm_istore dX9_unlike_4 (by decide) rfl rfl ?_
  obtain ⟨r13, h14, h⟩ := ob_some h
  refine lp_sound (P := fun (s : (Int32 × Int32)) => pm_X gs ro M_X9_unlike 3 0 0 0 0 6 [some (.ref (b + o0)), some (.int x1), some (.ref (b + o2)), some (.int x3), some (.int x4), some (.int s.1), some (.int s.2), none, none] [] n w (pm_p n w (some (.int z)))) (E := (fun (r : Int32) => pm_X gs ro M_X9_unlike 3 0 0 0 0 76 [none, none, none, none, none, some (.int r), none, none, none] [] n w (pm_p n w (some (.int z))))) (fun s x hx hc he => k_X9_unlike_l6 hR hs0 hs2 hx hc (fun r q => he r q)) F _ r13 h14 ?_
  refine pm_iload dX9_unlike_76 rfl ?_
  cases h
  exact pm_iret dX9_unlike_78 rfl (Nat.le_refl _) (Nat.le_refl _) ⟨rfl, rfl, rfl⟩
def g_X9_pair (F : Nat) (x1 : Int32) (x2 : Int32) (x3 : Int32) (x4 : Int32) (u : rg_U) : Option (Int32 × rg_U) :=
  lt1 (sF u 0 13 0) (fun u1 => ob (g_X9_numbered F x1 u1) (fun r6 => om r6 (ob (g_X9_numbered F x2 u1) (fun r9 => om r9 (some ((-1000001), u1)) (fun o11 => ck (isRn o11) (some ((-1000001), u1))))) (fun o8 => ck (isRn o8) (ob (g_X9_numbered F x2 u1) (fun r13 => om r13 (some ((-1000001), u1)) (fun o15 => ck (isRn o15) (if x4 < 0 then (some ((-1000001), u1)) else (if x4 ≤ 3 then (ob (g_X0_lay F (o8 + 24) (o15 + 24) u1) (fun r18 => ob (g_X0_has F x3 r18) (fun r23 => if r23 = 0 then (some ((-1000001), r18)) else (if x4 = 0 then (ob (g_X0_callOfOne F x3 r18) (fun r50 => some (r50, r18))) else (if x4 = 1 then (ob (g_X0_callOfOther F x3 r18) (fun r48 => some (r48, r18))) else (ob (g_X0_callOfOne F x3 r18) (fun r28 => ob (g_X1_read F (o8 + 24) r28 0 r18) (fun r30 => ob (g_X0_callOfOther F x3 r18) (fun r32 => ob (g_X1_read F (o15 + 24) r32 0 r18) (fun r34 => ob (g_X9_replay F o8 r30 r18) (fun r36 => ob (g_X9_replay F o15 r34 r36) (fun r41 => ob (g_X9_unlike F (o8 + 12) r30 (o15 + 12) r34 (x4 - 2) r41) (fun r46 => some (r46, r41)))))))))))))) else (some ((-1000001), u1))))))))))
set_option maxHeartbeats 4000000 in
set_option maxRecDepth 100000 in
theorem k_X9_pair {gs : List String} {ro : pm_RO} {n : Nat} {w : Nat → va_E} {b : Nat} {u : rg_U} {F : Nat} {x1 : Int32} {x2 : Int32} {x3 : Int32} {x4 : Int32} {z : (Int32 × rg_U)} (hR : rg shC b u n w) (h : g_X9_pair F x1 x2 x3 x4 u = some z) : pm_Met gs ro M_X9_pair 4 0 0 [.ref (b + 0), .int x1, .int x2, .int x3, .int x4] n w (rg_post shC b n w (some (.int z.1)) z.2) := by
  unfold g_X9_pair at h
  refine pm_ofX in_X9_pair (Nat.le_of_ble_eq_true rfl) rfl (L := [some (.ref (b + 0)), some (.int x1), some (.int x2), some (.int x3), some (.int x4), none, none, none, none]) rfl ?_
  refine pm_aload_n dX9_pair_0 rfl ?_
  refine pm_iconst (v := 0) dX9_pair_1 (by decide) ?_
  obtain ⟨u1, hu2, h⟩ := lt1_ex h
  refine dx_pi (j := 0) hR rg_k0 dX9_pair_2 fl_X9_67 rfl rfl hu2 (fun w3 hR4 hk5 => ?_)
  refine pm_aload_n dX9_pair_5 rfl ?_
  refine pm_iload_n dX9_pair_6 rfl ?_
  obtain ⟨r6, h7, h⟩ := ob_some h
  cases r6 with
  | none =>
    replace h := om_n rfl h
    refine dx_cVp (j := 0) (M := M_X9_pair) (Mc := M_X9_numbered) (dc := 1) (As := [.int x1]) (st := []) hR4 dX9_pair_7 ml_X9_169 ⟨TX9, 14, rfl⟩ rfl (v := .null) (by decide) (Nat.le_of_ble_eq_true rfl) rfl (k_X9_numbered hR4 h7) ?_
    refine pm_astoreN dX9_pair_10 (by decide) rfl rfl ?_
    refine pm_aload_n dX9_pair_12 rfl ?_
    refine pm_iload_n dX9_pair_13 rfl ?_
    obtain ⟨r9, h10, h⟩ := ob_some h
    cases r9 with
    | none =>
      replace h := om_n rfl h
      refine dx_cVp (j := 0) (M := M_X9_pair) (Mc := M_X9_numbered) (dc := 1) (As := [.int x2]) (st := []) hR4 dX9_pair_14 ml_X9_169 ⟨TX9, 14, rfl⟩ rfl (v := .null) (by decide) (Nat.le_of_ble_eq_true rfl) rfl (k_X9_numbered hR4 h10) ?_
      refine pm_astoreN dX9_pair_17 (by decide) rfl rfl ?_
      refine pm_aloadN dX9_pair_19 rfl ?_
      refine pm_ifnullN (x := 0) (tgt := 40) dX9_pair_21 (by decide) ?_
      refine pm_ldc (v := (-1000001)) dX9_pair_40 kc_X9_175 ?_
      cases h
      exact pm_iret dX9_pair_42 rfl (Nat.le_refl _) (Nat.le_refl _) ⟨rfl, rfl, hR4, hk5⟩
    | some o11 =>
      replace h := om_s rfl h
      obtain ⟨c12, h⟩ := ck_some h
      have hs_o11 := run_sp c12
      refine dx_cVp (j := 0) (M := M_X9_pair) (Mc := M_X9_numbered) (dc := 1) (As := [.int x2]) (st := []) hR4 dX9_pair_14 ml_X9_169 ⟨TX9, 14, rfl⟩ rfl (v := .ref (b + o11)) (by decide) (Nat.le_of_ble_eq_true rfl) rfl (k_X9_numbered hR4 h10) ?_
      refine pm_astore dX9_pair_17 (by decide) rfl rfl ?_
      refine pm_aloadN dX9_pair_19 rfl ?_
      refine pm_ifnullN (x := 0) (tgt := 40) dX9_pair_21 (by decide) ?_
      refine pm_ldc (v := (-1000001)) dX9_pair_40 kc_X9_175 ?_
      cases h
      exact pm_iret dX9_pair_42 rfl (Nat.le_refl _) (Nat.le_refl _) ⟨rfl, rfl, hR4, hk5⟩
  | some o8 =>
    replace h := om_s rfl h
    obtain ⟨c53, h⟩ := ck_some h
    have hs_o8 := run_sp c53
    refine dx_cVp (j := 0) (M := M_X9_pair) (Mc := M_X9_numbered) (dc := 1) (As := [.int x1]) (st := []) hR4 dX9_pair_7 ml_X9_169 ⟨TX9, 14, rfl⟩ rfl (v := .ref (b + o8)) (by decide) (Nat.le_of_ble_eq_true rfl) rfl (k_X9_numbered hR4 h7) ?_
    refine pm_astore dX9_pair_10 (by decide) rfl rfl ?_
    refine pm_aload_n dX9_pair_12 rfl ?_
    refine pm_iload_n dX9_pair_13 rfl ?_
    obtain ⟨r13, h14, h⟩ := ob_some h
    cases r13 with
    | none =>
      replace h := om_n rfl h
      refine dx_cVp (j := 0) (M := M_X9_pair) (Mc := M_X9_numbered) (dc := 1) (As := [.int x2]) (st := []) hR4 dX9_pair_14 ml_X9_169 ⟨TX9, 14, rfl⟩ rfl (v := .null) (by decide) (Nat.le_of_ble_eq_true rfl) rfl (k_X9_numbered hR4 h14) ?_
      refine pm_astoreN dX9_pair_17 (by decide) rfl rfl ?_
      refine pm_aload dX9_pair_19 rfl ?_
      refine pm_ifnull dX9_pair_21 ?_
      refine pm_aloadN dX9_pair_24 rfl ?_
      refine pm_ifnullN (x := 0) (tgt := 40) dX9_pair_26 (by decide) ?_
      refine pm_ldc (v := (-1000001)) dX9_pair_40 kc_X9_175 ?_
      cases h
      exact pm_iret dX9_pair_42 rfl (Nat.le_refl _) (Nat.le_refl _) ⟨rfl, rfl, hR4, hk5⟩
    | some o15 =>
      replace h := om_s rfl h
      obtain ⟨c52, h⟩ := ck_some h
      have hs_o15 := run_sp c52
      refine dx_cVp (j := 0) (M := M_X9_pair) (Mc := M_X9_numbered) (dc := 1) (As := [.int x2]) (st := []) hR4 dX9_pair_14 ml_X9_169 ⟨TX9, 14, rfl⟩ rfl (v := .ref (b + o15)) (by decide) (Nat.le_of_ble_eq_true rfl) rfl (k_X9_numbered hR4 h14) ?_
      refine pm_astore dX9_pair_17 (by decide) rfl rfl ?_
      refine pm_aload dX9_pair_19 rfl ?_
      refine pm_ifnull dX9_pair_21 ?_
      refine pm_aload dX9_pair_24 rfl ?_
      refine pm_ifnull dX9_pair_26 ?_
      refine pm_iload dX9_pair_29 rfl ?_
      refine pm_if_lt (tgt := 40) dX9_pair_31 (by decide) (fun c16 => ?_) (fun c16 => ?_)
      · replace h := it_t c16 h
        refine pm_ldc (v := (-1000001)) dX9_pair_40 kc_X9_175 ?_
        cases h
        exact pm_iret dX9_pair_42 rfl (Nat.le_refl _) (Nat.le_refl _) ⟨rfl, rfl, hR4, hk5⟩
      · replace h := it_f c16 h
        refine pm_iload dX9_pair_34 rfl ?_
        refine pm_iconst (v := 3) dX9_pair_36 (by decide) ?_
        refine pm_icmp_le (tgt := 43) dX9_pair_37 (by decide) (fun c17 => ?_) (fun c17 => ?_)
        · replace h := it_t c17 h
          refine pm_aload_n dX9_pair_43 rfl ?_
          refine dx_gr (j := 0) (o := 8) hR4 dX9_pair_44 fl_X9_26 rfl rfl ?_
          refine pm_aload dX9_pair_47 rfl ?_
          refine dx_gr (j := o8) (o := (o8 + 24)) hR4 dX9_pair_49 fl_X9_273 (sp_Run_self hs_o8) rfl ?_
          refine pm_aload dX9_pair_52 rfl ?_
          refine dx_gr (j := o15) (o := (o15 + 24)) hR4 dX9_pair_54 fl_X9_273 (sp_Run_self hs_o15) rfl ?_
          obtain ⟨r18, h19, h⟩ := ob_some h
          refine dx_cVv (j := 8) (M := M_X9_pair) (Mc := M_X0_lay) (dc := 3) (As := [.ref (b + (o8 + 24)), .ref (b + (o15 + 24))]) (st := []) hR4 hk5 dX9_pair_57 ml_X9_303 ⟨TX0, 6, rfl⟩ rfl (by decide) (Nat.le_of_ble_eq_true rfl) rfl (k_X0_lay hR4 (sp_Run_calls hs_o8) (sp_Run_calls hs_o15) h19) (fun w20 hR21 hk22 => ?_)
          refine pm_aload_n dX9_pair_60 rfl ?_
          refine dx_gr (j := 0) (o := 8) hR21 dX9_pair_61 fl_X9_26 rfl rfl ?_
          refine pm_iload_n dX9_pair_64 rfl ?_
          obtain ⟨r23, h24, h⟩ := ob_some h
          refine dx_cVp (j := 8) (M := M_X9_pair) (Mc := M_X0_has) (dc := 0) (As := [.int x3]) (st := []) hR21 dX9_pair_65 ml_X9_310 ⟨TX0, 6, rfl⟩ rfl (by decide) (Nat.le_of_ble_eq_true rfl) rfl (k_X0_has hR21 h24) ?_
          refine pm_if_ne (tgt := 74) dX9_pair_68 (by decide) (fun c25 => ?_) (fun c25 => ?_)
          · replace h := it_f c25 h
            refine pm_iload dX9_pair_74 rfl ?_
            refine pm_if_ne (tgt := 88) dX9_pair_76 (by decide) (fun c26 => ?_) (fun c26 => ?_)
            · replace h := it_f c26 h
              refine pm_iload dX9_pair_88 rfl ?_
              refine pm_iconst (v := 1) dX9_pair_90 (by decide) ?_
              refine pm_icmp_ne (tgt := 103) dX9_pair_91 (by decide) (fun c27 => ?_) (fun c27 => ?_)
              · replace h := it_f c27 h
                refine pm_aload dX9_pair_103 rfl ?_
                refine dx_gr (j := o8) (o := (o8 + 24)) hR21 dX9_pair_105 fl_X9_273 (sp_Run_self hs_o8) rfl ?_
                refine pm_aload_n dX9_pair_108 rfl ?_
                refine dx_gr (j := 0) (o := 8) hR21 dX9_pair_109 fl_X9_26 rfl rfl ?_
                refine pm_iload_n dX9_pair_112 rfl ?_
                obtain ⟨r28, h29, h⟩ := ob_some h
                refine dx_cVp (j := 8) (M := M_X9_pair) (Mc := M_X0_callOfOne) (dc := 1) (As := [.int x3]) (st := [.ref (b + (o8 + 24))]) hR21 dX9_pair_113 ml_X9_311 ⟨TX0, 6, rfl⟩ rfl (by decide) (Nat.le_of_ble_eq_true rfl) rfl (k_X0_callOfOne hR21 h29) ?_
                refine pm_iconst (v := 0) dX9_pair_116 (by decide) ?_
                obtain ⟨r30, h31, h⟩ := ob_some h
                refine dx_cVp (j := (o8 + 24)) (M := M_X9_pair) (Mc := M_X1_read) (dc := 1) (As := [.int r28, .int 0]) (st := []) hR21 dX9_pair_117 ml_X9_281 ⟨TX1, 4, rfl⟩ (sp_Calls_self (sp_Run_calls hs_o8)) (by decide) (Nat.le_of_ble_eq_true rfl) rfl (k_X1_read hR21 (sp_Run_calls hs_o8) h31) ?_
                refine pm_istore dX9_pair_120 (by decide) rfl rfl ?_
                refine pm_aload dX9_pair_122 rfl ?_
                refine dx_gr (j := o15) (o := (o15 + 24)) hR21 dX9_pair_124 fl_X9_273 (sp_Run_self hs_o15) rfl ?_
                refine pm_aload_n dX9_pair_127 rfl ?_
                refine dx_gr (j := 0) (o := 8) hR21 dX9_pair_128 fl_X9_26 rfl rfl ?_
                refine pm_iload_n dX9_pair_131 rfl ?_
                obtain ⟨r32, h33, h⟩ := ob_some h
                refine dx_cVp (j := 8) (M := M_X9_pair) (Mc := M_X0_callOfOther) (dc := 1) (As := [.int x3]) (st := [.ref (b + (o15 + 24))]) hR21 dX9_pair_132 ml_X9_314 ⟨TX0, 6, rfl⟩ rfl (by decide) (Nat.le_of_ble_eq_true rfl) rfl (k_X0_callOfOther hR21 h33) ?_
                refine pm_iconst (v := 0) dX9_pair_135 (by decide) ?_
                obtain ⟨r34, h35, h⟩ := ob_some h
                refine dx_cVp (j := (o15 + 24)) (M := M_X9_pair) (Mc := M_X1_read) (dc := 1) (As := [.int r32, .int 0]) (st := []) hR21 dX9_pair_136 ml_X9_281 ⟨TX1, 4, rfl⟩ (sp_Calls_self (sp_Run_calls hs_o15)) (by decide) (Nat.le_of_ble_eq_true rfl) rfl (k_X1_read hR21 (sp_Run_calls hs_o15) h35) ?_
                refine pm_istore dX9_pair_139 (by decide) rfl rfl ?_
                refine pm_aload_n dX9_pair_141 rfl ?_
                refine pm_aload dX9_pair_142 rfl ?_
                refine pm_iload dX9_pair_144 rfl ?_
                obtain ⟨r36, h37, h⟩ := ob_some h
                refine dx_cVv (j := 0) (M := M_X9_pair) (Mc := M_X9_replay) (dc := 3) (As := [.ref (b + o8), .int r30]) (st := []) hR21 hk22 dX9_pair_146 ml_X9_147 ⟨TX9, 14, rfl⟩ rfl (by decide) (Nat.le_of_ble_eq_true rfl) rfl (k_X9_replay hR21 hs_o8 h37) (fun w38 hR39 hk40 => ?_)
                refine pm_aload_n dX9_pair_149 rfl ?_
                refine pm_aload dX9_pair_150 rfl ?_
                refine pm_iload dX9_pair_152 rfl ?_
                obtain ⟨r41, h42, h⟩ := ob_some h
                refine dx_cVv (j := 0) (M := M_X9_pair) (Mc := M_X9_replay) (dc := 3) (As := [.ref (b + o15), .int r34]) (st := []) hR39 hk40 dX9_pair_154 ml_X9_147 ⟨TX9, 14, rfl⟩ rfl (by decide) (Nat.le_of_ble_eq_true rfl) rfl (k_X9_replay hR39 hs_o15 h42) (fun w43 hR44 hk45 => ?_)
                refine pm_aload dX9_pair_157 rfl ?_
                refine dx_gr (j := o8) (o := (o8 + 12)) hR44 dX9_pair_159 fl_X9_176 (sp_Run_self hs_o8) rfl ?_
                refine pm_iload dX9_pair_162 rfl ?_
                refine pm_aload dX9_pair_164 rfl ?_
                refine dx_gr (j := o15) (o := (o15 + 12)) hR44 dX9_pair_166 fl_X9_176 (sp_Run_self hs_o15) rfl ?_
                refine pm_iload dX9_pair_169 rfl ?_
                refine pm_iload dX9_pair_171 rfl ?_
                refine pm_iconst (v := 2) dX9_pair_173 (by decide) ?_
                refine pm_isub dX9_pair_174 ?_
                obtain ⟨r46, h47, h⟩ := ob_some h
                refine dx_cSp (M := M_X9_pair) (Mc := M_X9_unlike) (dc := 3) (As := [.ref (b + (o8 + 12)), .int r30, .ref (b + (o15 + 12)), .int r34, .int (x4 - 2)]) (st := []) dX9_pair_175 ml_X9_317 (by decide) (Nat.le_of_ble_eq_true rfl) rfl (k_X9_unlike hR44 (sp_Run_puts hs_o8) (sp_Run_puts hs_o15) h47) ?_
                cases h
                exact pm_iret dX9_pair_178 rfl (Nat.le_refl _) (Nat.le_refl _) ⟨rfl, rfl, hR44, hk45⟩
              · replace h := it_t c27 h
                refine pm_aload_n dX9_pair_94 rfl ?_
                refine dx_gr (j := 0) (o := 8) hR21 dX9_pair_95 fl_X9_26 rfl rfl ?_
                refine pm_iload_n dX9_pair_98 rfl ?_
                obtain ⟨r48, h49, h⟩ := ob_some h
                refine dx_cVp (j := 8) (M := M_X9_pair) (Mc := M_X0_callOfOther) (dc := 1) (As := [.int x3]) (st := []) hR21 dX9_pair_99 ml_X9_314 ⟨TX0, 6, rfl⟩ rfl (by decide) (Nat.le_of_ble_eq_true rfl) rfl (k_X0_callOfOther hR21 h49) ?_
                cases h
                exact pm_iret dX9_pair_102 rfl (Nat.le_refl _) (Nat.le_refl _) ⟨rfl, rfl, hR21, hk22⟩
            · replace h := it_t c26 h
              refine pm_aload_n dX9_pair_79 rfl ?_
              refine dx_gr (j := 0) (o := 8) hR21 dX9_pair_80 fl_X9_26 rfl rfl ?_
              refine pm_iload_n dX9_pair_83 rfl ?_
              obtain ⟨r50, h51, h⟩ := ob_some h
              refine dx_cVp (j := 8) (M := M_X9_pair) (Mc := M_X0_callOfOne) (dc := 1) (As := [.int x3]) (st := []) hR21 dX9_pair_84 ml_X9_311 ⟨TX0, 6, rfl⟩ rfl (by decide) (Nat.le_of_ble_eq_true rfl) rfl (k_X0_callOfOne hR21 h51) ?_
              cases h
              exact pm_iret dX9_pair_87 rfl (Nat.le_refl _) (Nat.le_refl _) ⟨rfl, rfl, hR21, hk22⟩
          · replace h := it_t c25 h
            refine pm_ldc (v := (-1000001)) dX9_pair_71 kc_X9_175 ?_
            cases h
            exact pm_iret dX9_pair_73 rfl (Nat.le_refl _) (Nat.le_refl _) ⟨rfl, rfl, hR21, hk22⟩
        · replace h := it_f c17 h
          refine pm_ldc (v := (-1000001)) dX9_pair_40 kc_X9_175 ?_
          cases h
          exact pm_iret dX9_pair_42 rfl (Nat.le_refl _) (Nat.le_refl _) ⟨rfl, rfl, hR4, hk5⟩
def g_X9_parts (F : Nat) (x1 : Int32) (x2 : Int32) (u : rg_U) : Option (Int32 × rg_U) :=
  ob (g_X9_numbered F x1 u) (fun r1 => om r1 (ob (g_X9_numbered F x2 u) (fun r4 => om r4 (some ((-2), u)) (fun o6 => ck (isRn o6) (some ((-2), u))))) (fun o3 => ck (isRn o3) (ob (g_X9_numbered F x2 u) (fun r8 => om r8 (some ((-2), u)) (fun o10 => ck (isRn o10) (ob (g_X0_firstUnlike F o3 o10 u) (fun r11 => some (r11.1, r11.2))))))))
set_option maxHeartbeats 4000000 in
set_option maxRecDepth 100000 in
theorem k_X9_parts {gs : List String} {ro : pm_RO} {n : Nat} {w : Nat → va_E} {b : Nat} {u : rg_U} {F : Nat} {x1 : Int32} {x2 : Int32} {z : (Int32 × rg_U)} (hR : rg shC b u n w) (h : g_X9_parts F x1 x2 u = some z) : pm_Met gs ro M_X9_parts 4 0 0 [.ref (b + 0), .int x1, .int x2] n w (rg_post shC b n w (some (.int z.1)) z.2) := by
  unfold g_X9_parts at h
  refine pm_ofX in_X9_parts (Nat.le_of_ble_eq_true rfl) rfl (L := [some (.ref (b + 0)), some (.int x1), some (.int x2), none, none]) rfl ?_
  refine pm_aload_n dX9_parts_0 rfl ?_
  refine pm_iload_n dX9_parts_1 rfl ?_
  obtain ⟨r1, h2, h⟩ := ob_some h
  cases r1 with
  | none =>
    replace h := om_n rfl h
    refine dx_cVp (j := 0) (M := M_X9_parts) (Mc := M_X9_numbered) (dc := 1) (As := [.int x1]) (st := []) hR dX9_parts_2 ml_X9_169 ⟨TX9, 14, rfl⟩ rfl (v := .null) (by decide) (Nat.le_of_ble_eq_true rfl) rfl (k_X9_numbered hR h2) ?_
    refine pm_astore_nN dX9_parts_5 (by decide) rfl rfl ?_
    refine pm_aload_n dX9_parts_6 rfl ?_
    refine pm_iload_n dX9_parts_7 rfl ?_
    obtain ⟨r4, h5, h⟩ := ob_some h
    cases r4 with
    | none =>
      replace h := om_n rfl h
      refine dx_cVp (j := 0) (M := M_X9_parts) (Mc := M_X9_numbered) (dc := 1) (As := [.int x2]) (st := []) hR dX9_parts_8 ml_X9_169 ⟨TX9, 14, rfl⟩ rfl (v := .null) (by decide) (Nat.le_of_ble_eq_true rfl) rfl (k_X9_numbered hR h5) ?_
      refine pm_astoreN dX9_parts_11 (by decide) rfl rfl ?_
      refine pm_aload_nN dX9_parts_13 rfl ?_
      refine pm_ifnullN (x := 0) (tgt := 22) dX9_parts_14 (by decide) ?_
      refine pm_bipush (v := (-2)) dX9_parts_22 (by decide) ?_
      cases h
      exact pm_iret dX9_parts_24 rfl (Nat.le_refl _) (Nat.le_refl _) ⟨rfl, rfl, hR, rg_k0⟩
    | some o6 =>
      replace h := om_s rfl h
      obtain ⟨c7, h⟩ := ck_some h
      have hs_o6 := run_sp c7
      refine dx_cVp (j := 0) (M := M_X9_parts) (Mc := M_X9_numbered) (dc := 1) (As := [.int x2]) (st := []) hR dX9_parts_8 ml_X9_169 ⟨TX9, 14, rfl⟩ rfl (v := .ref (b + o6)) (by decide) (Nat.le_of_ble_eq_true rfl) rfl (k_X9_numbered hR h5) ?_
      refine pm_astore dX9_parts_11 (by decide) rfl rfl ?_
      refine pm_aload_nN dX9_parts_13 rfl ?_
      refine pm_ifnullN (x := 0) (tgt := 22) dX9_parts_14 (by decide) ?_
      refine pm_bipush (v := (-2)) dX9_parts_22 (by decide) ?_
      cases h
      exact pm_iret dX9_parts_24 rfl (Nat.le_refl _) (Nat.le_refl _) ⟨rfl, rfl, hR, rg_k0⟩
  | some o3 =>
    replace h := om_s rfl h
    obtain ⟨c17, h⟩ := ck_some h
    have hs_o3 := run_sp c17
    refine dx_cVp (j := 0) (M := M_X9_parts) (Mc := M_X9_numbered) (dc := 1) (As := [.int x1]) (st := []) hR dX9_parts_2 ml_X9_169 ⟨TX9, 14, rfl⟩ rfl (v := .ref (b + o3)) (by decide) (Nat.le_of_ble_eq_true rfl) rfl (k_X9_numbered hR h2) ?_
    refine pm_astore_n dX9_parts_5 (by decide) rfl rfl ?_
    refine pm_aload_n dX9_parts_6 rfl ?_
    refine pm_iload_n dX9_parts_7 rfl ?_
    obtain ⟨r8, h9, h⟩ := ob_some h
    cases r8 with
    | none =>
      replace h := om_n rfl h
      refine dx_cVp (j := 0) (M := M_X9_parts) (Mc := M_X9_numbered) (dc := 1) (As := [.int x2]) (st := []) hR dX9_parts_8 ml_X9_169 ⟨TX9, 14, rfl⟩ rfl (v := .null) (by decide) (Nat.le_of_ble_eq_true rfl) rfl (k_X9_numbered hR h9) ?_
      refine pm_astoreN dX9_parts_11 (by decide) rfl rfl ?_
      refine pm_aload_n dX9_parts_13 rfl ?_
      refine pm_ifnull dX9_parts_14 ?_
      refine pm_aloadN dX9_parts_17 rfl ?_
      refine pm_ifnonnullN (x := 0) dX9_parts_19 ?_
      refine pm_bipush (v := (-2)) dX9_parts_22 (by decide) ?_
      cases h
      exact pm_iret dX9_parts_24 rfl (Nat.le_refl _) (Nat.le_refl _) ⟨rfl, rfl, hR, rg_k0⟩
    | some o10 =>
      replace h := om_s rfl h
      obtain ⟨c16, h⟩ := ck_some h
      have hs_o10 := run_sp c16
      refine dx_cVp (j := 0) (M := M_X9_parts) (Mc := M_X9_numbered) (dc := 1) (As := [.int x2]) (st := []) hR dX9_parts_8 ml_X9_169 ⟨TX9, 14, rfl⟩ rfl (v := .ref (b + o10)) (by decide) (Nat.le_of_ble_eq_true rfl) rfl (k_X9_numbered hR h9) ?_
      refine pm_astore dX9_parts_11 (by decide) rfl rfl ?_
      refine pm_aload_n dX9_parts_13 rfl ?_
      refine pm_ifnull dX9_parts_14 ?_
      refine pm_aload dX9_parts_17 rfl ?_
      refine pm_ifnonnull (tgt := 25) dX9_parts_19 (by decide) ?_
      refine pm_aload_n dX9_parts_25 rfl ?_
      refine dx_gr (j := 0) (o := 8) hR dX9_parts_26 fl_X9_26 rfl rfl ?_
      refine pm_aload_n dX9_parts_29 rfl ?_
      refine pm_aload dX9_parts_30 rfl ?_
      obtain ⟨r11, h12, h⟩ := ob_some h
      refine dx_cVi (j := 8) (M := M_X9_parts) (Mc := M_X0_firstUnlike) (dc := 3) (As := [.ref (b + o3), .ref (b + o10)]) (st := []) hR rg_k0 dX9_parts_32 ml_X9_321 ⟨TX0, 6, rfl⟩ rfl (by decide) (Nat.le_of_ble_eq_true rfl) rfl (k_X0_firstUnlike hR hs_o3 hs_o10 h12) (fun w13 hR14 hk15 => ?_)
      cases h
      exact pm_iret dX9_parts_35 rfl (Nat.le_refl _) (Nat.le_refl _) ⟨rfl, rfl, hR14, hk15⟩
def g_X9_lookAtRun (F : Nat) (o1 : Nat) (x2 : Int32) (u : rg_U) : Option Int32 :=
  if x2 = 0 then (some (rF u o1 9)) else if x2 = 1 then (ob (g_X9_isKept F (rF u 0 8) u) (fun r3 => if r3 = 0 then (ob (g_X7_statusWith F o1 u) (fun r6 => some r6)) else (some (rF u o1 14)))) else if x2 = 2 then (some (rF u o1 12)) else if x2 = 3 then (some (rF u (o1 + 28) 2)) else if x2 = 4 then (some (rF u (o1 + 28) 3)) else if x2 = 5 then (some (rF u (o1 + 28) 4)) else (some (rF u o1 13))
set_option maxHeartbeats 4000000 in
set_option maxRecDepth 100000 in
theorem k_X9_lookAtRun {gs : List String} {ro : pm_RO} {n : Nat} {w : Nat → va_E} {b : Nat} {u : rg_U} {F : Nat} {o1 : Nat} {x2 : Int32} {z : Int32} (hR : rg shC b u n w) (hs1 : sp_Run o1) (h : g_X9_lookAtRun F o1 x2 u = some z) : pm_Met gs ro M_X9_lookAtRun 3 0 0 [.ref (b + 0), .ref (b + o1), .int x2] n w (pm_p n w (some (.int z))) := by
  unfold g_X9_lookAtRun at h
  refine pm_ofX in_X9_lookAtRun (Nat.le_of_ble_eq_true rfl) rfl (L := [some (.ref (b + 0)), some (.ref (b + o1)), some (.int x2)]) rfl ?_
  refine pm_aload_n dX9_lookAtRun_0 rfl ?_
  refine pm_ifnonnull (tgt := 6) dX9_lookAtRun_1 (by decide) ?_
  refine pm_iload_n dX9_lookAtRun_6 rfl ?_
  by_cases t1 : x2 = 0
  · replace h := it_t t1 h
    refine pm_tableIn (off := 37) (tgt := 44) dX9_lookAtRun_7 (by rw [t1]; decide) (by rw [t1]; decide) (by rw [t1]; rfl) (by decide) ?_
    refine pm_aload_n dX9_lookAtRun_44 rfl ?_
    refine dx_gi (j := o1) hR dX9_lookAtRun_45 fl_X9_144 (sp_Run_self hs1) rfl ?_
    cases h
    exact pm_iret dX9_lookAtRun_48 rfl (Nat.le_refl _) (Nat.le_refl _) ⟨rfl, rfl, rfl⟩
  replace h := it_f t1 h
  by_cases t2 : x2 = 1
  · replace h := it_t t2 h
    refine pm_tableIn (off := 42) (tgt := 49) dX9_lookAtRun_7 (by rw [t2]; decide) (by rw [t2]; decide) (by rw [t2]; rfl) (by decide) ?_
    refine pm_aload_n dX9_lookAtRun_49 rfl ?_
    refine pm_aload_n dX9_lookAtRun_50 rfl ?_
    refine dx_gi (j := 0) hR dX9_lookAtRun_51 fl_X9_52 rfl rfl ?_
    obtain ⟨r3, h4, h⟩ := ob_some h
    refine dx_cVp (j := 0) (M := M_X9_lookAtRun) (Mc := M_X9_isKept) (dc := 0) (As := [.int (rF u 0 8)]) (st := []) hR dX9_lookAtRun_54 ml_X9_166 ⟨TX9, 14, rfl⟩ rfl (by decide) (Nat.le_of_ble_eq_true rfl) rfl (k_X9_isKept hR h4) ?_
    refine pm_if_eq (tgt := 67) dX9_lookAtRun_57 (by decide) (fun c5 => ?_) (fun c5 => ?_)
    · replace h := it_t c5 h
      refine pm_aload_n dX9_lookAtRun_67 rfl ?_
      refine pm_aload_n dX9_lookAtRun_68 rfl ?_
      refine dx_gr (j := 0) (o := 6) hR dX9_lookAtRun_69 fl_X9_19 rfl rfl ?_
      obtain ⟨r6, h7, h⟩ := ob_some h
      refine dx_cVp (j := o1) (M := M_X9_lookAtRun) (Mc := M_X7_statusWith) (dc := 2) (As := [.ref (b + 6)]) (st := []) hR dX9_lookAtRun_72 ml_X9_159 ⟨TX7, 15, rfl⟩ (sp_Run_self hs1) (by decide) (Nat.le_of_ble_eq_true rfl) rfl (k_X7_statusWith hR hs1 h7) ?_
      cases h
      exact pm_iret dX9_lookAtRun_75 rfl (Nat.le_refl _) (Nat.le_refl _) ⟨rfl, rfl, rfl⟩
    · replace h := it_f c5 h
      refine pm_aload_n dX9_lookAtRun_60 rfl ?_
      refine dx_gi (j := o1) hR dX9_lookAtRun_61 fl_X9_329 (sp_Run_self hs1) rfl ?_
      refine pm_goto (tgt := 75) dX9_lookAtRun_64 (by decide) ?_
      cases h
      exact pm_iret dX9_lookAtRun_75 rfl (Nat.le_refl _) (Nat.le_refl _) ⟨rfl, rfl, rfl⟩
  replace h := it_f t2 h
  by_cases t8 : x2 = 2
  · replace h := it_t t8 h
    refine pm_tableIn (off := 69) (tgt := 76) dX9_lookAtRun_7 (by rw [t8]; decide) (by rw [t8]; decide) (by rw [t8]; rfl) (by decide) ?_
    refine pm_aload_n dX9_lookAtRun_76 rfl ?_
    refine dx_gi (j := o1) hR dX9_lookAtRun_77 fl_X9_332 (sp_Run_self hs1) rfl ?_
    cases h
    exact pm_iret dX9_lookAtRun_80 rfl (Nat.le_refl _) (Nat.le_refl _) ⟨rfl, rfl, rfl⟩
  replace h := it_f t8 h
  by_cases t9 : x2 = 3
  · replace h := it_t t9 h
    refine pm_tableIn (off := 74) (tgt := 81) dX9_lookAtRun_7 (by rw [t9]; decide) (by rw [t9]; decide) (by rw [t9]; rfl) (by decide) ?_
    refine pm_aload_n dX9_lookAtRun_81 rfl ?_
    refine dx_gr (j := o1) (o := (o1 + 28)) hR dX9_lookAtRun_82 fl_X9_226 (sp_Run_self hs1) rfl ?_
    refine dx_gi (j := (o1 + 28)) hR dX9_lookAtRun_85 fl_X9_335 (sp_Holding_self (sp_Run_holding hs1)) rfl ?_
    cases h
    exact pm_iret dX9_lookAtRun_88 rfl (Nat.le_refl _) (Nat.le_refl _) ⟨rfl, rfl, rfl⟩
  replace h := it_f t9 h
  by_cases t10 : x2 = 4
  · replace h := it_t t10 h
    refine pm_tableIn (off := 82) (tgt := 89) dX9_lookAtRun_7 (by rw [t10]; decide) (by rw [t10]; decide) (by rw [t10]; rfl) (by decide) ?_
    refine pm_aload_n dX9_lookAtRun_89 rfl ?_
    refine dx_gr (j := o1) (o := (o1 + 28)) hR dX9_lookAtRun_90 fl_X9_226 (sp_Run_self hs1) rfl ?_
    refine dx_gi (j := (o1 + 28)) hR dX9_lookAtRun_93 fl_X9_338 (sp_Holding_self (sp_Run_holding hs1)) rfl ?_
    cases h
    exact pm_iret dX9_lookAtRun_96 rfl (Nat.le_refl _) (Nat.le_refl _) ⟨rfl, rfl, rfl⟩
  replace h := it_f t10 h
  by_cases t11 : x2 = 5
  · replace h := it_t t11 h
    refine pm_tableIn (off := 90) (tgt := 97) dX9_lookAtRun_7 (by rw [t11]; decide) (by rw [t11]; decide) (by rw [t11]; rfl) (by decide) ?_
    refine pm_aload_n dX9_lookAtRun_97 rfl ?_
    refine dx_gr (j := o1) (o := (o1 + 28)) hR dX9_lookAtRun_98 fl_X9_226 (sp_Run_self hs1) rfl ?_
    refine dx_gi (j := (o1 + 28)) hR dX9_lookAtRun_101 fl_X9_341 (sp_Holding_self (sp_Run_holding hs1)) rfl ?_
    cases h
    exact pm_iret dX9_lookAtRun_104 rfl (Nat.le_refl _) (Nat.le_refl _) ⟨rfl, rfl, rfl⟩
  replace h := it_f t11 h
  refine pm_tableOut (tgt := 105) dX9_lookAtRun_7 (by have h0 := lv_neT t1 (show (0 : Int32).toInt = 0 from by decide); have h1 := lv_neT t2 (show (1 : Int32).toInt = 1 from by decide); have h2 := lv_neT t8 (show (2 : Int32).toInt = 2 from by decide); have h3 := lv_neT t9 (show (3 : Int32).toInt = 3 from by decide); have h4 := lv_neT t10 (show (4 : Int32).toInt = 4 from by decide); have h5 := lv_neT t11 (show (5 : Int32).toInt = 5 from by decide); omega) (by decide) ?_
  refine pm_aload_n dX9_lookAtRun_105 rfl ?_
  refine dx_gi (j := o1) hR dX9_lookAtRun_106 fl_X9_344 (sp_Run_self hs1) rfl ?_
  cases h
  exact pm_iret dX9_lookAtRun_109 rfl (Nat.le_refl _) (Nat.le_refl _) ⟨rfl, rfl, rfl⟩
def g_X9_lookAtRun_n (F : Nat) (x2 : Int32) (u : rg_U) : Option Int32 :=
  some 0
set_option maxHeartbeats 4000000 in
set_option maxRecDepth 100000 in
theorem k_X9_lookAtRun_n {gs : List String} {ro : pm_RO} {n : Nat} {w : Nat → va_E} {b : Nat} {u : rg_U} {F : Nat} {x2 : Int32} {z : Int32} (hR : rg shC b u n w) (h : g_X9_lookAtRun_n F x2 u = some z) : pm_Met gs ro M_X9_lookAtRun 3 0 0 [.ref (b + 0), .null, .int x2] n w (pm_p n w (some (.int z))) := by
  unfold g_X9_lookAtRun_n at h
  refine pm_ofX in_X9_lookAtRun (Nat.le_of_ble_eq_true rfl) rfl (L := [some (.ref (b + 0)), some (.null), some (.int x2)]) rfl ?_
  refine pm_aload_nN dX9_lookAtRun_0 rfl ?_
  refine pm_ifnonnullN (x := 0) dX9_lookAtRun_1 ?_
  refine pm_iconst (v := 0) dX9_lookAtRun_4 (by decide) ?_
  cases h
  exact pm_iret dX9_lookAtRun_5 rfl (Nat.le_refl _) (Nat.le_refl _) ⟨rfl, rfl, rfl⟩
def g_X9_look_j24 (F : Nat) (l1 : Int32) (u : rg_U) : Option Int32 :=
  if l1 = 7 then (some (rF u 0 6)) else if l1 = 8 then (some (rF u 6 2)) else if l1 = 9 then (some (rF u 6 3)) else if l1 = 10 then (some (rF u 0 13)) else if l1 = 11 then (some (rF u 0 11)) else if l1 = 12 then (some (rF u 0 12)) else (some (-1000001))
set_option maxHeartbeats 4000000 in
set_option maxRecDepth 100000 in
theorem k_X9_look_j24 {gs : List String} {ro : pm_RO} {n : Nat} {w : Nat → va_E} {b : Nat} {u : rg_U} {F : Nat} {l1 : Int32} {z : Int32} (hR : rg shC b u n w) (h : g_X9_look_j24 F l1 u = some z) : pm_X gs ro M_X9_look 4 0 0 0 0 24 [some (.ref (b + 0)), some (.int l1)] [] n w (pm_p n w (some (.int z))) := by
  unfold g_X9_look_j24 at h
  refine pm_iload_n dX9_look_24 rfl ?_
  by_cases t2 : l1 = 7
  · replace h := it_t t2 h
    refine pm_tableIn (off := 39) (tgt := 64) dX9_look_25 (by rw [t2]; decide) (by rw [t2]; decide) (by rw [t2]; rfl) (by decide) ?_
    refine pm_aload_n dX9_look_64 rfl ?_
    refine dx_gi (j := 0) hR dX9_look_65 fl_X9_45 rfl rfl ?_
    cases h
    exact pm_iret dX9_look_68 rfl (Nat.le_refl _) (Nat.le_refl _) ⟨rfl, rfl, rfl⟩
  replace h := it_f t2 h
  by_cases t3 : l1 = 8
  · replace h := it_t t3 h
    refine pm_tableIn (off := 44) (tgt := 69) dX9_look_25 (by rw [t3]; decide) (by rw [t3]; decide) (by rw [t3]; rfl) (by decide) ?_
    refine pm_aload_n dX9_look_69 rfl ?_
    refine dx_gr (j := 0) (o := 6) hR dX9_look_70 fl_X9_19 rfl rfl ?_
    refine dx_gi (j := 6) hR dX9_look_73 fl_X9_99 rfl rfl ?_
    cases h
    exact pm_iret dX9_look_76 rfl (Nat.le_refl _) (Nat.le_refl _) ⟨rfl, rfl, rfl⟩
  replace h := it_f t3 h
  by_cases t4 : l1 = 9
  · replace h := it_t t4 h
    refine pm_tableIn (off := 52) (tgt := 77) dX9_look_25 (by rw [t4]; decide) (by rw [t4]; decide) (by rw [t4]; rfl) (by decide) ?_
    refine pm_aload_n dX9_look_77 rfl ?_
    refine dx_gr (j := 0) (o := 6) hR dX9_look_78 fl_X9_19 rfl rfl ?_
    refine dx_gi (j := 6) hR dX9_look_81 fl_X9_106 rfl rfl ?_
    cases h
    exact pm_iret dX9_look_84 rfl (Nat.le_refl _) (Nat.le_refl _) ⟨rfl, rfl, rfl⟩
  replace h := it_f t4 h
  by_cases t5 : l1 = 10
  · replace h := it_t t5 h
    refine pm_tableIn (off := 60) (tgt := 85) dX9_look_25 (by rw [t5]; decide) (by rw [t5]; decide) (by rw [t5]; rfl) (by decide) ?_
    refine pm_aload_n dX9_look_85 rfl ?_
    refine dx_gi (j := 0) hR dX9_look_86 fl_X9_67 rfl rfl ?_
    cases h
    exact pm_iret dX9_look_89 rfl (Nat.le_refl _) (Nat.le_refl _) ⟨rfl, rfl, rfl⟩
  replace h := it_f t5 h
  by_cases t6 : l1 = 11
  · replace h := it_t t6 h
    refine pm_tableIn (off := 65) (tgt := 90) dX9_look_25 (by rw [t6]; decide) (by rw [t6]; decide) (by rw [t6]; rfl) (by decide) ?_
    refine pm_aload_n dX9_look_90 rfl ?_
    refine dx_gi (j := 0) hR dX9_look_91 fl_X9_61 rfl rfl ?_
    cases h
    exact pm_iret dX9_look_94 rfl (Nat.le_refl _) (Nat.le_refl _) ⟨rfl, rfl, rfl⟩
  replace h := it_f t6 h
  by_cases t7 : l1 = 12
  · replace h := it_t t7 h
    refine pm_tableIn (off := 70) (tgt := 95) dX9_look_25 (by rw [t7]; decide) (by rw [t7]; decide) (by rw [t7]; rfl) (by decide) ?_
    refine pm_aload_n dX9_look_95 rfl ?_
    refine dx_gi (j := 0) hR dX9_look_96 fl_X9_64 rfl rfl ?_
    cases h
    exact pm_iret dX9_look_99 rfl (Nat.le_refl _) (Nat.le_refl _) ⟨rfl, rfl, rfl⟩
  replace h := it_f t7 h
  refine pm_tableOut (tgt := 100) dX9_look_25 (by have h0 := lv_neT t2 (show (7 : Int32).toInt = 7 from by decide); have h1 := lv_neT t3 (show (8 : Int32).toInt = 8 from by decide); have h2 := lv_neT t4 (show (9 : Int32).toInt = 9 from by decide); have h3 := lv_neT t5 (show (10 : Int32).toInt = 10 from by decide); have h4 := lv_neT t6 (show (11 : Int32).toInt = 11 from by decide); have h5 := lv_neT t7 (show (12 : Int32).toInt = 12 from by decide); omega) (by decide) ?_
  refine pm_ldc (v := (-1000001)) dX9_look_100 kc_X9_175 ?_
  cases h
  exact pm_iret dX9_look_102 rfl (Nat.le_refl _) (Nat.le_refl _) ⟨rfl, rfl, rfl⟩
def g_X9_look (F : Nat) (x1 : Int32) (u : rg_U) : Option Int32 :=
  if x1 < 0 then (g_X9_look_j24 F x1 u) else (if 6 < x1 then (g_X9_look_j24 F x1 u) else (ob (g_X9_numbered F (rF u 0 8) u) (fun r9 => om r9 (ob (g_X9_lookAtRun_n F x1 u) (fun r12 => some r12)) (fun o11 => ck (isRn o11) (ob (g_X9_lookAtRun F o11 x1 u) (fun r14 => some r14))))))
set_option maxHeartbeats 4000000 in
set_option maxRecDepth 100000 in
theorem k_X9_look {gs : List String} {ro : pm_RO} {n : Nat} {w : Nat → va_E} {b : Nat} {u : rg_U} {F : Nat} {x1 : Int32} {z : Int32} (hR : rg shC b u n w) (h : g_X9_look F x1 u = some z) : pm_Met gs ro M_X9_look 4 0 0 [.ref (b + 0), .int x1] n w (pm_p n w (some (.int z))) := by
  unfold g_X9_look at h
  refine pm_ofX in_X9_look (Nat.le_of_ble_eq_true rfl) rfl (L := [some (.ref (b + 0)), some (.int x1)]) rfl ?_
  refine pm_iload_n dX9_look_0 rfl ?_
  refine pm_if_lt (tgt := 24) dX9_look_1 (by decide) (fun c1 => ?_) (fun c1 => ?_)
  · replace h := it_t c1 h
    exact k_X9_look_j24 hR h
  · replace h := it_f c1 h
    refine pm_iload_n dX9_look_4 rfl ?_
    refine pm_bipush (v := 6) dX9_look_5 (by decide) ?_
    refine pm_icmp_gt (tgt := 24) dX9_look_7 (by decide) (fun c8 => ?_) (fun c8 => ?_)
    · replace h := it_t c8 h
      exact k_X9_look_j24 hR h
    · replace h := it_f c8 h
      refine pm_aload_n dX9_look_10 rfl ?_
      refine pm_aload_n dX9_look_11 rfl ?_
      refine pm_aload_n dX9_look_12 rfl ?_
      refine dx_gi (j := 0) hR dX9_look_13 fl_X9_52 rfl rfl ?_
      obtain ⟨r9, h10, h⟩ := ob_some h
      cases r9 with
      | none =>
        replace h := om_n rfl h
        refine dx_cVp (j := 0) (M := M_X9_look) (Mc := M_X9_numbered) (dc := 1) (As := [.int (rF u 0 8)]) (st := [.ref (b + 0)]) hR dX9_look_16 ml_X9_169 ⟨TX9, 14, rfl⟩ rfl (v := .null) (by decide) (Nat.le_of_ble_eq_true rfl) rfl (k_X9_numbered hR h10) ?_
        refine pm_iload_n dX9_look_19 rfl ?_
        obtain ⟨r12, h13, h⟩ := ob_some h
        refine dx_cVp (j := 0) (M := M_X9_look) (Mc := M_X9_lookAtRun) (dc := 3) (As := [.null, .int x1]) (st := []) hR dX9_look_20 ml_X9_325 ⟨TX9, 14, rfl⟩ rfl (by decide) (Nat.le_of_ble_eq_true rfl) rfl (k_X9_lookAtRun_n hR h13) ?_
        cases h
        exact pm_iret dX9_look_23 rfl (Nat.le_refl _) (Nat.le_refl _) ⟨rfl, rfl, rfl⟩
      | some o11 =>
        replace h := om_s rfl h
        obtain ⟨c16, h⟩ := ck_some h
        have hs_o11 := run_sp c16
        refine dx_cVp (j := 0) (M := M_X9_look) (Mc := M_X9_numbered) (dc := 1) (As := [.int (rF u 0 8)]) (st := [.ref (b + 0)]) hR dX9_look_16 ml_X9_169 ⟨TX9, 14, rfl⟩ rfl (v := .ref (b + o11)) (by decide) (Nat.le_of_ble_eq_true rfl) rfl (k_X9_numbered hR h10) ?_
        refine pm_iload_n dX9_look_19 rfl ?_
        obtain ⟨r14, h15, h⟩ := ob_some h
        refine dx_cVp (j := 0) (M := M_X9_look) (Mc := M_X9_lookAtRun) (dc := 3) (As := [.ref (b + o11), .int x1]) (st := []) hR dX9_look_20 ml_X9_325 ⟨TX9, 14, rfl⟩ rfl (by decide) (Nat.le_of_ble_eq_true rfl) rfl (k_X9_lookAtRun hR hs_o11 h15) ?_
        cases h
        exact pm_iret dX9_look_23 rfl (Nat.le_refl _) (Nat.le_refl _) ⟨rfl, rfl, rfl⟩
