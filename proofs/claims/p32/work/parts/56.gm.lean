theorem dX10_call_0 : decode cX10_call 0 = .ok (.aload_n 0, 1) := by decide +kernel
theorem dX10_call_1 : decode cX10_call 1 = .ok (.invokevirtual 289, 3) := by decide +kernel
theorem dX10_call_4 : decode cX10_call 4 = .ok (.istore_n 3, 1) := by decide +kernel
theorem dX10_call_5 : decode cX10_call 5 = .ok (.aload_n 0, 1) := by decide +kernel
theorem dX10_call_6 : decode cX10_call 6 = .ok (.getfield 29, 3) := by decide +kernel
theorem dX10_call_9 : decode cX10_call 9 = .ok (.iload_n 3, 1) := by decide +kernel
theorem dX10_call_10 : decode cX10_call 10 = .ok (.baload, 1) := by decide +kernel
theorem dX10_call_11 : decode cX10_call 11 = .ok (.ifCond .ne 5, 3) := by decide +kernel
theorem dX10_call_14 : decode cX10_call 14 = .ok (.iconst (-1), 1) := by decide +kernel
theorem dX10_call_15 : decode cX10_call 15 = .ok (.ireturn, 1) := by decide +kernel
theorem dX10_call_16 : decode cX10_call 16 = .ok (.iload_n 1, 1) := by decide +kernel
theorem dX10_call_17 : decode cX10_call 17 = .ok (.iconst (-1), 1) := by decide +kernel
theorem dX10_call_18 : decode cX10_call 18 = .ok (.if_icmp .ne 10, 3) := by decide +kernel
theorem dX10_call_21 : decode cX10_call 21 = .ok (.aload_n 0, 1) := by decide +kernel
theorem dX10_call_22 : decode cX10_call 22 = .ok (.getfield 72, 3) := by decide +kernel
theorem dX10_call_25 : decode cX10_call 25 = .ok (.iload_n 3, 1) := by decide +kernel
theorem dX10_call_26 : decode cX10_call 26 = .ok (.iaload, 1) := by decide +kernel
theorem dX10_call_27 : decode cX10_call 27 = .ok (.ireturn, 1) := by decide +kernel
theorem dX10_call_28 : decode cX10_call 28 = .ok (.iload_n 1, 1) := by decide +kernel
theorem dX10_call_29 : decode cX10_call 29 = .ok (.iconst 0, 1) := by decide +kernel
theorem dX10_call_30 : decode cX10_call 30 = .ok (.aload_n 0, 1) := by decide +kernel
theorem dX10_call_31 : decode cX10_call 31 = .ok (.getfield 72, 3) := by decide +kernel
theorem dX10_call_34 : decode cX10_call 34 = .ok (.iload_n 3, 1) := by decide +kernel
theorem dX10_call_35 : decode cX10_call 35 = .ok (.iaload, 1) := by decide +kernel
theorem dX10_call_36 : decode cX10_call 36 = .ok (.iconst 1, 1) := by decide +kernel
theorem dX10_call_37 : decode cX10_call 37 = .ok (.isub, 1) := by decide +kernel
theorem dX10_call_38 : decode cX10_call 38 = .ok (.invokestatic 138, 3) := by decide +kernel
theorem dX10_call_41 : decode cX10_call 41 = .ok (.ifCond .ne 5, 3) := by decide +kernel
theorem dX10_call_44 : decode cX10_call 44 = .ok (.iconst (-1), 1) := by decide +kernel
theorem dX10_call_45 : decode cX10_call 45 = .ok (.ireturn, 1) := by decide +kernel
theorem dX10_call_46 : decode cX10_call 46 = .ok (.bipush 100, 2) := by decide +kernel
theorem dX10_call_48 : decode cX10_call 48 = .ok (.iload_n 3, 1) := by decide +kernel
theorem dX10_call_49 : decode cX10_call 49 = .ok (.imul, 1) := by decide +kernel
theorem dX10_call_50 : decode cX10_call 50 = .ok (.iload_n 1, 1) := by decide +kernel
theorem dX10_call_51 : decode cX10_call 51 = .ok (.iadd, 1) := by decide +kernel
theorem dX10_call_52 : decode cX10_call 52 = .ok (.istore 4, 2) := by decide +kernel
theorem dX10_call_54 : decode cX10_call 54 = .ok (.iload_n 2, 1) := by decide +kernel
theorem dX10_call_55 : decode cX10_call 55 = .ok (.ifCond .ne 13, 3) := by decide +kernel
theorem dX10_call_58 : decode cX10_call 58 = .ok (.aload_n 0, 1) := by decide +kernel
theorem dX10_call_59 : decode cX10_call 59 = .ok (.getfield 63, 3) := by decide +kernel
theorem dX10_call_62 : decode cX10_call 62 = .ok (.iload 4, 2) := by decide +kernel
theorem dX10_call_64 : decode cX10_call 64 = .ok (.iaload, 1) := by decide +kernel
theorem dX10_call_65 : decode cX10_call 65 = .ok (.goto 34, 3) := by decide +kernel
theorem dX10_call_68 : decode cX10_call 68 = .ok (.iload_n 2, 1) := by decide +kernel
theorem dX10_call_69 : decode cX10_call 69 = .ok (.iconst 1, 1) := by decide +kernel
theorem dX10_call_70 : decode cX10_call 70 = .ok (.if_icmp .ne 13, 3) := by decide +kernel
theorem dX10_call_73 : decode cX10_call 73 = .ok (.aload_n 0, 1) := by decide +kernel
theorem dX10_call_74 : decode cX10_call 74 = .ok (.getfield 66, 3) := by decide +kernel
theorem dX10_call_77 : decode cX10_call 77 = .ok (.iload 4, 2) := by decide +kernel
theorem dX10_call_79 : decode cX10_call 79 = .ok (.iaload, 1) := by decide +kernel
theorem dX10_call_80 : decode cX10_call 80 = .ok (.goto 19, 3) := by decide +kernel
theorem dX10_call_83 : decode cX10_call 83 = .ok (.iload_n 2, 1) := by decide +kernel
theorem dX10_call_84 : decode cX10_call 84 = .ok (.iconst 2, 1) := by decide +kernel
theorem dX10_call_85 : decode cX10_call 85 = .ok (.if_icmp .ne 13, 3) := by decide +kernel
theorem dX10_call_88 : decode cX10_call 88 = .ok (.aload_n 0, 1) := by decide +kernel
theorem dX10_call_89 : decode cX10_call 89 = .ok (.getfield 69, 3) := by decide +kernel
theorem dX10_call_92 : decode cX10_call 92 = .ok (.iload 4, 2) := by decide +kernel
theorem dX10_call_94 : decode cX10_call 94 = .ok (.iaload, 1) := by decide +kernel
theorem dX10_call_95 : decode cX10_call 95 = .ok (.goto 4, 3) := by decide +kernel
theorem dX10_call_98 : decode cX10_call 98 = .ok (.iconst (-1), 1) := by decide +kernel
theorem dX10_call_99 : decode cX10_call 99 = .ok (.ireturn, 1) := by decide +kernel
theorem dX10_done_0 : decode cX10_done 0 = .ok (.aload_n 0, 1) := by decide +kernel
theorem dX10_done_1 : decode cX10_done 1 = .ok (.iload_n 1, 1) := by decide +kernel
theorem dX10_done_2 : decode cX10_done 2 = .ok (.invokevirtual 301, 3) := by decide +kernel
theorem dX10_done_5 : decode cX10_done 5 = .ok (.ifCond .eq 13, 3) := by decide +kernel
theorem dX10_done_8 : decode cX10_done 8 = .ok (.iload_n 2, 1) := by decide +kernel
theorem dX10_done_9 : decode cX10_done 9 = .ok (.iconst 0, 1) := by decide +kernel
theorem dX10_done_10 : decode cX10_done 10 = .ok (.bipush 64, 2) := by decide +kernel
theorem dX10_done_12 : decode cX10_done 12 = .ok (.invokestatic 138, 3) := by decide +kernel
theorem dX10_done_15 : decode cX10_done 15 = .ok (.ifCond .ne 6, 3) := by decide +kernel
theorem dX10_done_18 : decode cX10_done 18 = .ok (.bipush (-2), 2) := by decide +kernel
theorem dX10_done_20 : decode cX10_done 20 = .ok (.ireturn, 1) := by decide +kernel
theorem dX10_done_21 : decode cX10_done 21 = .ok (.aload_n 0, 1) := by decide +kernel
theorem dX10_done_22 : decode cX10_done 22 = .ok (.invokevirtual 289, 3) := by decide +kernel
theorem dX10_done_25 : decode cX10_done 25 = .ok (.istore_n 3, 1) := by decide +kernel
theorem dX10_done_26 : decode cX10_done 26 = .ok (.iconst 0, 1) := by decide +kernel
theorem dX10_done_27 : decode cX10_done 27 = .ok (.istore 4, 2) := by decide +kernel
theorem dX10_done_29 : decode cX10_done 29 = .ok (.aload_n 0, 1) := by decide +kernel
theorem dX10_done_30 : decode cX10_done 30 = .ok (.iload_n 3, 1) := by decide +kernel
theorem dX10_done_31 : decode cX10_done 31 = .ok (.invokevirtual 270, 3) := by decide +kernel
theorem dX10_done_34 : decode cX10_done 34 = .ok (.iconst 0, 1) := by decide +kernel
theorem dX10_done_35 : decode cX10_done 35 = .ok (.istore 5, 2) := by decide +kernel
theorem dX10_done_37 : decode cX10_done 37 = .ok (.iload 5, 2) := by decide +kernel
theorem dX10_done_39 : decode cX10_done 39 = .ok (.iload_n 1, 1) := by decide +kernel
theorem dX10_done_40 : decode cX10_done 40 = .ok (.if_icmp .ge 37, 3) := by decide +kernel
theorem dX10_done_43 : decode cX10_done 43 = .ok (.iload 4, 2) := by decide +kernel
theorem dX10_done_45 : decode cX10_done 45 = .ok (.aload_n 0, 1) := by decide +kernel
theorem dX10_done_46 : decode cX10_done 46 = .ok (.getfield 114, 3) := by decide +kernel
theorem dX10_done_49 : decode cX10_done 49 = .ok (.bipush 120, 2) := by decide +kernel
theorem dX10_done_51 : decode cX10_done 51 = .ok (.iaload, 1) := by decide +kernel
theorem dX10_done_52 : decode cX10_done 52 = .ok (.iload_n 2, 1) := by decide +kernel
theorem dX10_done_53 : decode cX10_done 53 = .ok (.if_icmp .ne 7, 3) := by decide +kernel
theorem dX10_done_56 : decode cX10_done 56 = .ok (.iconst 1, 1) := by decide +kernel
theorem dX10_done_57 : decode cX10_done 57 = .ok (.goto 4, 3) := by decide +kernel
theorem dX10_done_60 : decode cX10_done 60 = .ok (.iconst 0, 1) := by decide +kernel
theorem dX10_done_61 : decode cX10_done 61 = .ok (.invokestatic 154, 3) := by decide +kernel
theorem dX10_done_64 : decode cX10_done 64 = .ok (.iadd, 1) := by decide +kernel
theorem dX10_done_65 : decode cX10_done 65 = .ok (.istore 4, 2) := by decide +kernel
theorem dX10_done_67 : decode cX10_done 67 = .ok (.aload_n 0, 1) := by decide +kernel
theorem dX10_done_68 : decode cX10_done 68 = .ok (.invokevirtual 273, 3) := by decide +kernel
theorem dX10_done_71 : decode cX10_done 71 = .ok (.iinc 5 1, 3) := by decide +kernel
theorem dX10_done_74 : decode cX10_done 74 = .ok (.goto (-37), 3) := by decide +kernel
theorem dX10_done_77 : decode cX10_done 77 = .ok (.iload 4, 2) := by decide +kernel
theorem dX10_done_79 : decode cX10_done 79 = .ok (.ireturn, 1) := by decide +kernel
theorem dX10_hangs_0 : decode cX10_hangs 0 = .ok (.aload_n 0, 1) := by decide +kernel
theorem dX10_hangs_1 : decode cX10_hangs 1 = .ok (.invokevirtual 289, 3) := by decide +kernel
theorem dX10_hangs_4 : decode cX10_hangs 4 = .ok (.istore 4, 2) := by decide +kernel
theorem dX10_hangs_6 : decode cX10_hangs 6 = .ok (.aload_n 0, 1) := by decide +kernel
theorem dX10_hangs_7 : decode cX10_hangs 7 = .ok (.iload_n 2, 1) := by decide +kernel
theorem dX10_hangs_8 : decode cX10_hangs 8 = .ok (.invokevirtual 301, 3) := by decide +kernel
theorem dX10_hangs_11 : decode cX10_hangs 11 = .ok (.ifCond .eq 29, 3) := by decide +kernel
theorem dX10_hangs_14 : decode cX10_hangs 14 = .ok (.iload_n 1, 1) := by decide +kernel
theorem dX10_hangs_15 : decode cX10_hangs 15 = .ok (.iconst 0, 1) := by decide +kernel
theorem dX10_hangs_16 : decode cX10_hangs 16 = .ok (.aload_n 0, 1) := by decide +kernel
theorem dX10_hangs_17 : decode cX10_hangs 17 = .ok (.getfield 60, 3) := by decide +kernel
theorem dX10_hangs_20 : decode cX10_hangs 20 = .ok (.iload 4, 2) := by decide +kernel
theorem dX10_hangs_22 : decode cX10_hangs 22 = .ok (.iaload, 1) := by decide +kernel
theorem dX10_hangs_23 : decode cX10_hangs 23 = .ok (.iconst 1, 1) := by decide +kernel
theorem dX10_hangs_24 : decode cX10_hangs 24 = .ok (.isub, 1) := by decide +kernel
theorem dX10_hangs_25 : decode cX10_hangs 25 = .ok (.invokestatic 138, 3) := by decide +kernel
theorem dX10_hangs_28 : decode cX10_hangs 28 = .ok (.ifCond .eq 12, 3) := by decide +kernel
theorem dX10_hangs_31 : decode cX10_hangs 31 = .ok (.iload_n 3, 1) := by decide +kernel
theorem dX10_hangs_32 : decode cX10_hangs 32 = .ok (.iconst 0, 1) := by decide +kernel
theorem dX10_hangs_33 : decode cX10_hangs 33 = .ok (.iconst 1, 1) := by decide +kernel
theorem dX10_hangs_34 : decode cX10_hangs 34 = .ok (.invokestatic 138, 3) := by decide +kernel
theorem dX10_hangs_37 : decode cX10_hangs 37 = .ok (.ifCond .ne 7, 3) := by decide +kernel
theorem dX10_hangs_40 : decode cX10_hangs 40 = .ok (.ldc_w 304, 3) := by decide +kernel
theorem dX10_hangs_43 : decode cX10_hangs 43 = .ok (.ireturn, 1) := by decide +kernel
theorem dX10_hangs_44 : decode cX10_hangs 44 = .ok (.aload_n 0, 1) := by decide +kernel
theorem dX10_hangs_45 : decode cX10_hangs 45 = .ok (.iload 4, 2) := by decide +kernel
theorem dX10_hangs_47 : decode cX10_hangs 47 = .ok (.iload_n 2, 1) := by decide +kernel
theorem dX10_hangs_48 : decode cX10_hangs 48 = .ok (.invokevirtual 330, 3) := by decide +kernel
theorem dX10_hangs_51 : decode cX10_hangs 51 = .ok (.iconst 0, 1) := by decide +kernel
theorem dX10_hangs_52 : decode cX10_hangs 52 = .ok (.istore 5, 2) := by decide +kernel
theorem dX10_hangs_54 : decode cX10_hangs 54 = .ok (.iload_n 3, 1) := by decide +kernel
theorem dX10_hangs_55 : decode cX10_hangs 55 = .ok (.ifCond .ne 7, 3) := by decide +kernel
theorem dX10_hangs_58 : decode cX10_hangs 58 = .ok (.iconst 0, 1) := by decide +kernel
theorem dX10_hangs_59 : decode cX10_hangs 59 = .ok (.goto 5, 3) := by decide +kernel
theorem dX10_hangs_62 : decode cX10_hangs 62 = .ok (.bipush 8, 2) := by decide +kernel
theorem dX10_hangs_64 : decode cX10_hangs 64 = .ok (.istore 6, 2) := by decide +kernel
theorem dX10_hangs_66 : decode cX10_hangs 66 = .ok (.iload_n 3, 1) := by decide +kernel
theorem dX10_hangs_67 : decode cX10_hangs 67 = .ok (.ifCond .ne 8, 3) := by decide +kernel
theorem dX10_hangs_70 : decode cX10_hangs 70 = .ok (.bipush 8, 2) := by decide +kernel
theorem dX10_hangs_72 : decode cX10_hangs 72 = .ok (.goto 5, 3) := by decide +kernel
theorem dX10_hangs_75 : decode cX10_hangs 75 = .ok (.bipush 32, 2) := by decide +kernel
theorem dX10_hangs_77 : decode cX10_hangs 77 = .ok (.istore 7, 2) := by decide +kernel
theorem dX10_hangs_79 : decode cX10_hangs 79 = .ok (.iconst 0, 1) := by decide +kernel
theorem dX10_hangs_80 : decode cX10_hangs 80 = .ok (.istore 8, 2) := by decide +kernel
theorem dX10_hangs_82 : decode cX10_hangs 82 = .ok (.iload 8, 2) := by decide +kernel
theorem dX10_hangs_84 : decode cX10_hangs 84 = .ok (.iload 7, 2) := by decide +kernel
theorem dX10_hangs_86 : decode cX10_hangs 86 = .ok (.if_icmp .ge 39, 3) := by decide +kernel
theorem dX10_hangs_89 : decode cX10_hangs 89 = .ok (.iload 5, 2) := by decide +kernel
theorem dX10_hangs_91 : decode cX10_hangs 91 = .ok (.aload_n 0, 1) := by decide +kernel
theorem dX10_hangs_92 : decode cX10_hangs 92 = .ok (.iload 6, 2) := by decide +kernel
theorem dX10_hangs_94 : decode cX10_hangs 94 = .ok (.iload 8, 2) := by decide +kernel
theorem dX10_hangs_96 : decode cX10_hangs 96 = .ok (.iadd, 1) := by decide +kernel
theorem dX10_hangs_97 : decode cX10_hangs 97 = .ok (.sipush 3008, 3) := by decide +kernel
theorem dX10_hangs_100 : decode cX10_hangs 100 = .ok (.iload_n 1, 1) := by decide +kernel
theorem dX10_hangs_101 : decode cX10_hangs 101 = .ok (.iadd, 1) := by decide +kernel
theorem dX10_hangs_102 : decode cX10_hangs 102 = .ok (.invokevirtual 333, 3) := by decide +kernel
theorem dX10_hangs_105 : decode cX10_hangs 105 = .ok (.ifCond .eq 10, 3) := by decide +kernel
theorem dX10_hangs_108 : decode cX10_hangs 108 = .ok (.iconst 1, 1) := by decide +kernel
theorem dX10_hangs_109 : decode cX10_hangs 109 = .ok (.iload 8, 2) := by decide +kernel
theorem dX10_hangs_111 : decode cX10_hangs 111 = .ok (.ishl, 1) := by decide +kernel
theorem dX10_hangs_112 : decode cX10_hangs 112 = .ok (.goto 4, 3) := by decide +kernel
theorem dX10_hangs_115 : decode cX10_hangs 115 = .ok (.iconst 0, 1) := by decide +kernel
theorem dX10_hangs_116 : decode cX10_hangs 116 = .ok (.ior, 1) := by decide +kernel
theorem dX10_hangs_117 : decode cX10_hangs 117 = .ok (.istore 5, 2) := by decide +kernel
theorem dX10_hangs_119 : decode cX10_hangs 119 = .ok (.iinc 8 1, 3) := by decide +kernel
theorem dX10_hangs_122 : decode cX10_hangs 122 = .ok (.goto (-40), 3) := by decide +kernel
theorem dX10_hangs_125 : decode cX10_hangs 125 = .ok (.iload 5, 2) := by decide +kernel
theorem dX10_hangs_127 : decode cX10_hangs 127 = .ok (.ireturn, 1) := by decide +kernel
theorem dX10_held_0 : decode cX10_held 0 = .ok (.aload_n 0, 1) := by decide +kernel
theorem dX10_held_1 : decode cX10_held 1 = .ok (.invokevirtual 289, 3) := by decide +kernel
theorem dX10_held_4 : decode cX10_held 4 = .ok (.istore_n 3, 1) := by decide +kernel
theorem dX10_held_5 : decode cX10_held 5 = .ok (.aload_n 0, 1) := by decide +kernel
theorem dX10_held_6 : decode cX10_held 6 = .ok (.getfield 29, 3) := by decide +kernel
theorem dX10_held_9 : decode cX10_held 9 = .ok (.iload_n 3, 1) := by decide +kernel
theorem dX10_held_10 : decode cX10_held 10 = .ok (.baload, 1) := by decide +kernel
theorem dX10_held_11 : decode cX10_held 11 = .ok (.ifCond .ne 5, 3) := by decide +kernel
theorem dX10_held_14 : decode cX10_held 14 = .ok (.iconst (-1), 1) := by decide +kernel
theorem dX10_held_15 : decode cX10_held 15 = .ok (.ireturn, 1) := by decide +kernel
theorem dX10_held_16 : decode cX10_held 16 = .ok (.iload_n 1, 1) := by decide +kernel
theorem dX10_held_17 : decode cX10_held 17 = .ok (.iconst (-1), 1) := by decide +kernel
theorem dX10_held_18 : decode cX10_held 18 = .ok (.if_icmp .ne 9, 3) := by decide +kernel
theorem dX10_held_21 : decode cX10_held 21 = .ok (.aload_n 0, 1) := by decide +kernel
theorem dX10_held_22 : decode cX10_held 22 = .ok (.iload_n 3, 1) := by decide +kernel
theorem dX10_held_23 : decode cX10_held 23 = .ok (.invokevirtual 232, 3) := by decide +kernel
theorem dX10_held_26 : decode cX10_held 26 = .ok (.ireturn, 1) := by decide +kernel
theorem dX10_held_27 : decode cX10_held 27 = .ok (.iconst 0, 1) := by decide +kernel
theorem dX10_held_28 : decode cX10_held 28 = .ok (.istore 4, 2) := by decide +kernel
theorem dX10_held_30 : decode cX10_held 30 = .ok (.iconst 0, 1) := by decide +kernel
theorem dX10_held_31 : decode cX10_held 31 = .ok (.istore 5, 2) := by decide +kernel
theorem dX10_held_33 : decode cX10_held 33 = .ok (.iload 5, 2) := by decide +kernel
theorem dX10_held_35 : decode cX10_held 35 = .ok (.sipush 3000, 3) := by decide +kernel
theorem dX10_held_38 : decode cX10_held 38 = .ok (.if_icmp .gt 85, 3) := by decide +kernel
theorem dX10_held_41 : decode cX10_held 41 = .ok (.aload_n 0, 1) := by decide +kernel
theorem dX10_held_42 : decode cX10_held 42 = .ok (.getfield 75, 3) := by decide +kernel
theorem dX10_held_45 : decode cX10_held 45 = .ok (.iload_n 3, 1) := by decide +kernel
theorem dX10_held_46 : decode cX10_held 46 = .ok (.iload 5, 2) := by decide +kernel
theorem dX10_held_48 : decode cX10_held 48 = .ok (.invokestatic 158, 3) := by decide +kernel
theorem dX10_held_51 : decode cX10_held 51 = .ok (.baload, 1) := by decide +kernel
theorem dX10_held_52 : decode cX10_held 52 = .ok (.ifCond .ne 6, 3) := by decide +kernel
theorem dX10_held_55 : decode cX10_held 55 = .ok (.goto 62, 3) := by decide +kernel
theorem dX10_held_58 : decode cX10_held 58 = .ok (.iload 4, 2) := by decide +kernel
theorem dX10_held_60 : decode cX10_held 60 = .ok (.iload_n 1, 1) := by decide +kernel
theorem dX10_held_61 : decode cX10_held 61 = .ok (.if_icmp .ne 53, 3) := by decide +kernel
theorem dX10_held_64 : decode cX10_held 64 = .ok (.iload_n 2, 1) := by decide +kernel
theorem dX10_held_65 : decode cX10_held 65 = .ok (.ifCond .ne 15, 3) := by decide +kernel
theorem dX10_held_68 : decode cX10_held 68 = .ok (.iload 5, 2) := by decide +kernel
theorem dX10_held_70 : decode cX10_held 70 = .ok (.aload_n 0, 1) := by decide +kernel
theorem dX10_held_71 : decode cX10_held 71 = .ok (.getfield 84, 3) := by decide +kernel
theorem dX10_held_74 : decode cX10_held 74 = .ok (.iload_n 3, 1) := by decide +kernel
theorem dX10_held_75 : decode cX10_held 75 = .ok (.iaload, 1) := by decide +kernel
theorem dX10_held_76 : decode cX10_held 76 = .ok (.imul, 1) := by decide +kernel
theorem dX10_held_77 : decode cX10_held 77 = .ok (.goto 36, 3) := by decide +kernel
theorem dX10_held_80 : decode cX10_held 80 = .ok (.iload_n 2, 1) := by decide +kernel
theorem dX10_held_81 : decode cX10_held 81 = .ok (.iconst 1, 1) := by decide +kernel
theorem dX10_held_82 : decode cX10_held 82 = .ok (.if_icmp .ne 30, 3) := by decide +kernel
theorem dX10_held_85 : decode cX10_held 85 = .ok (.iload 5, 2) := by decide +kernel
theorem dX10_held_87 : decode cX10_held 87 = .ok (.ifCond .le 25, 3) := by decide +kernel
theorem dX10_held_90 : decode cX10_held 90 = .ok (.aload_n 0, 1) := by decide +kernel
theorem dX10_held_91 : decode cX10_held 91 = .ok (.iload 5, 2) := by decide +kernel
theorem dX10_held_93 : decode cX10_held 93 = .ok (.aload_n 0, 1) := by decide +kernel
theorem dX10_held_94 : decode cX10_held 94 = .ok (.getfield 87, 3) := by decide +kernel
theorem dX10_held_97 : decode cX10_held 97 = .ok (.iload_n 3, 1) := by decide +kernel
theorem dX10_held_98 : decode cX10_held 98 = .ok (.iaload, 1) := by decide +kernel
theorem dX10_held_99 : decode cX10_held 99 = .ok (.invokevirtual 229, 3) := by decide +kernel
theorem dX10_held_102 : decode cX10_held 102 = .ok (.aload_n 0, 1) := by decide +kernel
theorem dX10_held_103 : decode cX10_held 103 = .ok (.getfield 84, 3) := by decide +kernel
theorem dX10_held_106 : decode cX10_held 106 = .ok (.iload_n 3, 1) := by decide +kernel
theorem dX10_held_107 : decode cX10_held 107 = .ok (.iaload, 1) := by decide +kernel
theorem dX10_held_108 : decode cX10_held 108 = .ok (.imul, 1) := by decide +kernel
theorem dX10_held_109 : decode cX10_held 109 = .ok (.goto 4, 3) := by decide +kernel
theorem dX10_held_112 : decode cX10_held 112 = .ok (.iconst (-1), 1) := by decide +kernel
theorem dX10_held_113 : decode cX10_held 113 = .ok (.ireturn, 1) := by decide +kernel
theorem dX10_held_114 : decode cX10_held 114 = .ok (.iinc 4 1, 3) := by decide +kernel
theorem dX10_held_117 : decode cX10_held 117 = .ok (.iinc 5 1, 3) := by decide +kernel
theorem dX10_held_120 : decode cX10_held 120 = .ok (.goto (-87), 3) := by decide +kernel
theorem dX10_held_123 : decode cX10_held 123 = .ok (.iconst (-1), 1) := by decide +kernel
theorem dX10_held_124 : decode cX10_held 124 = .ok (.ireturn, 1) := by decide +kernel
theorem dX10_history_0 : decode cX10_history 0 = .ok (.aload_n 0, 1) := by decide +kernel
theorem dX10_history_1 : decode cX10_history 1 = .ok (.invokevirtual 289, 3) := by decide +kernel
theorem dX10_history_4 : decode cX10_history 4 = .ok (.istore 4, 2) := by decide +kernel
theorem dX10_history_6 : decode cX10_history 6 = .ok (.aload_n 0, 1) := by decide +kernel
theorem dX10_history_7 : decode cX10_history 7 = .ok (.getfield 29, 3) := by decide +kernel
theorem dX10_history_10 : decode cX10_history 10 = .ok (.iload 4, 2) := by decide +kernel
theorem dX10_history_12 : decode cX10_history 12 = .ok (.baload, 1) := by decide +kernel
theorem dX10_history_13 : decode cX10_history 13 = .ok (.ifCond .eq 29, 3) := by decide +kernel
theorem dX10_history_16 : decode cX10_history 16 = .ok (.iload_n 1, 1) := by decide +kernel
theorem dX10_history_17 : decode cX10_history 17 = .ok (.invokestatic 169, 3) := by decide +kernel
theorem dX10_history_20 : decode cX10_history 20 = .ok (.ifCond .eq 22, 3) := by decide +kernel
theorem dX10_history_23 : decode cX10_history 23 = .ok (.iload_n 2, 1) := by decide +kernel
theorem dX10_history_24 : decode cX10_history 24 = .ok (.iconst (-1), 1) := by decide +kernel
theorem dX10_history_25 : decode cX10_history 25 = .ok (.if_icmp .eq 12, 3) := by decide +kernel
theorem dX10_history_28 : decode cX10_history 28 = .ok (.iload_n 3, 1) := by decide +kernel
theorem dX10_history_29 : decode cX10_history 29 = .ok (.iconst 0, 1) := by decide +kernel
theorem dX10_history_30 : decode cX10_history 30 = .ok (.iconst 2, 1) := by decide +kernel
theorem dX10_history_31 : decode cX10_history 31 = .ok (.invokestatic 138, 3) := by decide +kernel
theorem dX10_history_34 : decode cX10_history 34 = .ok (.ifCond .eq 8, 3) := by decide +kernel
theorem dX10_history_37 : decode cX10_history 37 = .ok (.iload_n 2, 1) := by decide +kernel
theorem dX10_history_38 : decode cX10_history 38 = .ok (.iconst (-1), 1) := by decide +kernel
theorem dX10_history_39 : decode cX10_history 39 = .ok (.if_icmp .ge 7, 3) := by decide +kernel
theorem dX10_history_42 : decode cX10_history 42 = .ok (.ldc_w 304, 3) := by decide +kernel
theorem dX10_history_45 : decode cX10_history 45 = .ok (.ireturn, 1) := by decide +kernel
theorem dX10_history_46 : decode cX10_history 46 = .ok (.iconst 0, 1) := by decide +kernel
theorem dX10_history_47 : decode cX10_history 47 = .ok (.istore 5, 2) := by decide +kernel
theorem dX10_history_49 : decode cX10_history 49 = .ok (.iconst 0, 1) := by decide +kernel
theorem dX10_history_50 : decode cX10_history 50 = .ok (.istore 6, 2) := by decide +kernel
theorem dX10_history_52 : decode cX10_history 52 = .ok (.aload_n 0, 1) := by decide +kernel
theorem dX10_history_53 : decode cX10_history 53 = .ok (.iload 4, 2) := by decide +kernel
theorem dX10_history_55 : decode cX10_history 55 = .ok (.invokevirtual 270, 3) := by decide +kernel
theorem dX10_history_58 : decode cX10_history 58 = .ok (.iconst 0, 1) := by decide +kernel
theorem dX10_history_59 : decode cX10_history 59 = .ok (.istore 7, 2) := by decide +kernel
theorem dX10_history_61 : decode cX10_history 61 = .ok (.iload 7, 2) := by decide +kernel
theorem dX10_history_63 : decode cX10_history 63 = .ok (.aload_n 0, 1) := by decide +kernel
theorem dX10_history_64 : decode cX10_history 64 = .ok (.getfield 78, 3) := by decide +kernel
theorem dX10_history_67 : decode cX10_history 67 = .ok (.iload 4, 2) := by decide +kernel
theorem dX10_history_69 : decode cX10_history 69 = .ok (.iaload, 1) := by decide +kernel
theorem dX10_history_70 : decode cX10_history 70 = .ok (.if_icmp .gt 84, 3) := by decide +kernel
theorem dX10_history_73 : decode cX10_history 73 = .ok (.aload_n 0, 1) := by decide +kernel
theorem dX10_history_74 : decode cX10_history 74 = .ok (.iload 4, 2) := by decide +kernel
theorem dX10_history_76 : decode cX10_history 76 = .ok (.iload 7, 2) := by decide +kernel
theorem dX10_history_78 : decode cX10_history 78 = .ok (.invokevirtual 286, 3) := by decide +kernel
theorem dX10_history_81 : decode cX10_history 81 = .ok (.aload_n 0, 1) := by decide +kernel
theorem dX10_history_82 : decode cX10_history 82 = .ok (.getfield 114, 3) := by decide +kernel
theorem dX10_history_85 : decode cX10_history 85 = .ok (.bipush 80, 2) := by decide +kernel
theorem dX10_history_87 : decode cX10_history 87 = .ok (.iload_n 1, 1) := by decide +kernel
theorem dX10_history_88 : decode cX10_history 88 = .ok (.iadd, 1) := by decide +kernel
theorem dX10_history_89 : decode cX10_history 89 = .ok (.iaload, 1) := by decide +kernel
theorem dX10_history_90 : decode cX10_history 90 = .ok (.iload 6, 2) := by decide +kernel
theorem dX10_history_92 : decode cX10_history 92 = .ok (.if_icmp .ne 6, 3) := by decide +kernel
theorem dX10_history_95 : decode cX10_history 95 = .ok (.goto 53, 3) := by decide +kernel
theorem dX10_history_98 : decode cX10_history 98 = .ok (.aload_n 0, 1) := by decide +kernel
theorem dX10_history_99 : decode cX10_history 99 = .ok (.getfield 114, 3) := by decide +kernel
theorem dX10_history_102 : decode cX10_history 102 = .ok (.bipush 80, 2) := by decide +kernel
theorem dX10_history_104 : decode cX10_history 104 = .ok (.iload_n 1, 1) := by decide +kernel
theorem dX10_history_105 : decode cX10_history 105 = .ok (.iadd, 1) := by decide +kernel
theorem dX10_history_106 : decode cX10_history 106 = .ok (.iaload, 1) := by decide +kernel
theorem dX10_history_107 : decode cX10_history 107 = .ok (.istore 6, 2) := by decide +kernel
theorem dX10_history_109 : decode cX10_history 109 = .ok (.iload 5, 2) := by decide +kernel
theorem dX10_history_111 : decode cX10_history 111 = .ok (.iload_n 2, 1) := by decide +kernel
theorem dX10_history_112 : decode cX10_history 112 = .ok (.if_icmp .ne 33, 3) := by decide +kernel
theorem dX10_history_115 : decode cX10_history 115 = .ok (.iload_n 3, 1) := by decide +kernel
theorem dX10_history_116 : decode cX10_history 116 = .ok (.ifCond .ne 8, 3) := by decide +kernel
theorem dX10_history_119 : decode cX10_history 119 = .ok (.iload 7, 2) := by decide +kernel
theorem dX10_history_121 : decode cX10_history 121 = .ok (.goto 23, 3) := by decide +kernel
theorem dX10_history_124 : decode cX10_history 124 = .ok (.aload_n 0, 1) := by decide +kernel
theorem dX10_history_125 : decode cX10_history 125 = .ok (.getfield 114, 3) := by decide +kernel
theorem dX10_history_128 : decode cX10_history 128 = .ok (.iload_n 3, 1) := by decide +kernel
theorem dX10_history_129 : decode cX10_history 129 = .ok (.iconst 1, 1) := by decide +kernel
theorem dX10_history_130 : decode cX10_history 130 = .ok (.if_icmp .ne 9, 3) := by decide +kernel
theorem dX10_history_133 : decode cX10_history 133 = .ok (.iconst 0, 1) := by decide +kernel
theorem dX10_history_134 : decode cX10_history 134 = .ok (.iload_n 1, 1) := by decide +kernel
theorem dX10_history_135 : decode cX10_history 135 = .ok (.iadd, 1) := by decide +kernel
theorem dX10_history_136 : decode cX10_history 136 = .ok (.goto 7, 3) := by decide +kernel
theorem dX10_history_139 : decode cX10_history 139 = .ok (.bipush 40, 2) := by decide +kernel
theorem dX10_history_141 : decode cX10_history 141 = .ok (.iload_n 1, 1) := by decide +kernel
theorem dX10_history_142 : decode cX10_history 142 = .ok (.iadd, 1) := by decide +kernel
theorem dX10_history_143 : decode cX10_history 143 = .ok (.iaload, 1) := by decide +kernel
theorem dX10_history_144 : decode cX10_history 144 = .ok (.ireturn, 1) := by decide +kernel
theorem dX10_history_145 : decode cX10_history 145 = .ok (.iinc 5 1, 3) := by decide +kernel
theorem dX10_history_148 : decode cX10_history 148 = .ok (.iinc 7 1, 3) := by decide +kernel
theorem dX10_history_151 : decode cX10_history 151 = .ok (.goto (-90), 3) := by decide +kernel
theorem dX10_history_154 : decode cX10_history 154 = .ok (.iload_n 2, 1) := by decide +kernel
theorem dX10_history_155 : decode cX10_history 155 = .ok (.iconst (-1), 1) := by decide +kernel
theorem dX10_history_156 : decode cX10_history 156 = .ok (.if_icmp .ne 8, 3) := by decide +kernel
theorem dX10_history_159 : decode cX10_history 159 = .ok (.iload 5, 2) := by decide +kernel
theorem dX10_history_161 : decode cX10_history 161 = .ok (.goto 6, 3) := by decide +kernel
theorem dX10_history_164 : decode cX10_history 164 = .ok (.ldc_w 304, 3) := by decide +kernel
theorem dX10_history_167 : decode cX10_history 167 = .ok (.ireturn, 1) := by decide +kernel
theorem dX10_log_0 : decode cX10_log 0 = .ok (.aload_n 0, 1) := by decide +kernel
theorem dX10_log_1 : decode cX10_log 1 = .ok (.invokevirtual 289, 3) := by decide +kernel
theorem dX10_log_4 : decode cX10_log 4 = .ok (.istore_n 3, 1) := by decide +kernel
theorem dX10_log_5 : decode cX10_log 5 = .ok (.aload_n 0, 1) := by decide +kernel
theorem dX10_log_6 : decode cX10_log 6 = .ok (.getfield 29, 3) := by decide +kernel
theorem dX10_log_9 : decode cX10_log 9 = .ok (.iload_n 3, 1) := by decide +kernel
theorem dX10_log_10 : decode cX10_log 10 = .ok (.baload, 1) := by decide +kernel
theorem dX10_log_11 : decode cX10_log 11 = .ok (.ifCond .ne 7, 3) := by decide +kernel
theorem dX10_log_14 : decode cX10_log 14 = .ok (.ldc_w 304, 3) := by decide +kernel
theorem dX10_log_17 : decode cX10_log 17 = .ok (.ireturn, 1) := by decide +kernel
theorem dX10_log_18 : decode cX10_log 18 = .ok (.iload_n 1, 1) := by decide +kernel
theorem dX10_log_19 : decode cX10_log 19 = .ok (.iconst (-1), 1) := by decide +kernel
theorem dX10_log_20 : decode cX10_log 20 = .ok (.if_icmp .ne 10, 3) := by decide +kernel
theorem dX10_log_23 : decode cX10_log 23 = .ok (.aload_n 0, 1) := by decide +kernel
theorem dX10_log_24 : decode cX10_log 24 = .ok (.getfield 60, 3) := by decide +kernel
theorem dX10_log_27 : decode cX10_log 27 = .ok (.iload_n 3, 1) := by decide +kernel
theorem dX10_log_28 : decode cX10_log 28 = .ok (.iaload, 1) := by decide +kernel
theorem dX10_log_29 : decode cX10_log 29 = .ok (.ireturn, 1) := by decide +kernel
theorem dX10_log_30 : decode cX10_log 30 = .ok (.iload_n 1, 1) := by decide +kernel
theorem dX10_log_31 : decode cX10_log 31 = .ok (.iconst 0, 1) := by decide +kernel
theorem dX10_log_32 : decode cX10_log 32 = .ok (.aload_n 0, 1) := by decide +kernel
theorem dX10_log_33 : decode cX10_log 33 = .ok (.getfield 60, 3) := by decide +kernel
theorem dX10_log_36 : decode cX10_log 36 = .ok (.iload_n 3, 1) := by decide +kernel
theorem dX10_log_37 : decode cX10_log 37 = .ok (.iaload, 1) := by decide +kernel
theorem dX10_log_38 : decode cX10_log 38 = .ok (.iconst 1, 1) := by decide +kernel
theorem dX10_log_39 : decode cX10_log 39 = .ok (.isub, 1) := by decide +kernel
theorem dX10_log_40 : decode cX10_log 40 = .ok (.invokestatic 138, 3) := by decide +kernel
theorem dX10_log_43 : decode cX10_log 43 = .ok (.ifCond .ne 7, 3) := by decide +kernel
theorem dX10_log_46 : decode cX10_log 46 = .ok (.ldc_w 304, 3) := by decide +kernel
theorem dX10_log_49 : decode cX10_log 49 = .ok (.ireturn, 1) := by decide +kernel
theorem dX10_log_50 : decode cX10_log 50 = .ok (.sipush 800, 3) := by decide +kernel
theorem dX10_log_53 : decode cX10_log 53 = .ok (.iload_n 3, 1) := by decide +kernel
theorem dX10_log_54 : decode cX10_log 54 = .ok (.imul, 1) := by decide +kernel
theorem dX10_log_55 : decode cX10_log 55 = .ok (.iload_n 1, 1) := by decide +kernel
theorem dX10_log_56 : decode cX10_log 56 = .ok (.iadd, 1) := by decide +kernel
theorem dX10_log_57 : decode cX10_log 57 = .ok (.istore 4, 2) := by decide +kernel
theorem dX10_log_59 : decode cX10_log 59 = .ok (.iload_n 2, 1) := by decide +kernel
theorem dX10_log_60 : decode cX10_log 60 = .ok (.tableswitch 76 0 4 #[36, 44, 52, 60, 68], 36) := by decide +kernel
theorem dX10_log_96 : decode cX10_log 96 = .ok (.aload_n 0, 1) := by decide +kernel
theorem dX10_log_97 : decode cX10_log 97 = .ok (.getfield 45, 3) := by decide +kernel
theorem dX10_log_100 : decode cX10_log 100 = .ok (.iload 4, 2) := by decide +kernel
theorem dX10_log_102 : decode cX10_log 102 = .ok (.iaload, 1) := by decide +kernel
theorem dX10_log_103 : decode cX10_log 103 = .ok (.ireturn, 1) := by decide +kernel
theorem dX10_log_104 : decode cX10_log 104 = .ok (.aload_n 0, 1) := by decide +kernel
theorem dX10_log_105 : decode cX10_log 105 = .ok (.getfield 48, 3) := by decide +kernel
theorem dX10_log_108 : decode cX10_log 108 = .ok (.iload 4, 2) := by decide +kernel
theorem dX10_log_110 : decode cX10_log 110 = .ok (.iaload, 1) := by decide +kernel
theorem dX10_log_111 : decode cX10_log 111 = .ok (.ireturn, 1) := by decide +kernel
theorem dX10_log_112 : decode cX10_log 112 = .ok (.aload_n 0, 1) := by decide +kernel
theorem dX10_log_113 : decode cX10_log 113 = .ok (.getfield 51, 3) := by decide +kernel
theorem dX10_log_116 : decode cX10_log 116 = .ok (.iload 4, 2) := by decide +kernel
theorem dX10_log_118 : decode cX10_log 118 = .ok (.iaload, 1) := by decide +kernel
theorem dX10_log_119 : decode cX10_log 119 = .ok (.ireturn, 1) := by decide +kernel
theorem dX10_log_120 : decode cX10_log 120 = .ok (.aload_n 0, 1) := by decide +kernel
theorem dX10_log_121 : decode cX10_log 121 = .ok (.getfield 54, 3) := by decide +kernel
theorem dX10_log_124 : decode cX10_log 124 = .ok (.iload 4, 2) := by decide +kernel
theorem dX10_log_126 : decode cX10_log 126 = .ok (.iaload, 1) := by decide +kernel
theorem dX10_log_127 : decode cX10_log 127 = .ok (.ireturn, 1) := by decide +kernel
theorem dX10_log_128 : decode cX10_log 128 = .ok (.aload_n 0, 1) := by decide +kernel
theorem dX10_log_129 : decode cX10_log 129 = .ok (.getfield 57, 3) := by decide +kernel
theorem dX10_log_132 : decode cX10_log 132 = .ok (.iload 4, 2) := by decide +kernel
theorem dX10_log_134 : decode cX10_log 134 = .ok (.iaload, 1) := by decide +kernel
theorem dX10_log_135 : decode cX10_log 135 = .ok (.ireturn, 1) := by decide +kernel
theorem dX10_log_136 : decode cX10_log 136 = .ok (.ldc_w 304, 3) := by decide +kernel
theorem dX10_log_139 : decode cX10_log 139 = .ok (.ireturn, 1) := by decide +kernel
theorem dX10_rests_0 : decode cX10_rests 0 = .ok (.aload_n 0, 1) := by decide +kernel
theorem dX10_rests_1 : decode cX10_rests 1 = .ok (.iload_n 1, 1) := by decide +kernel
theorem dX10_rests_2 : decode cX10_rests 2 = .ok (.invokevirtual 301, 3) := by decide +kernel
theorem dX10_rests_5 : decode cX10_rests 5 = .ok (.ifCond .eq 10, 3) := by decide +kernel
theorem dX10_rests_8 : decode cX10_rests 8 = .ok (.iload_n 2, 1) := by decide +kernel
theorem dX10_rests_9 : decode cX10_rests 9 = .ok (.invokestatic 169, 3) := by decide +kernel
theorem dX10_rests_12 : decode cX10_rests 12 = .ok (.ifCond .ne 6, 3) := by decide +kernel
theorem dX10_rests_15 : decode cX10_rests 15 = .ok (.bipush (-2), 2) := by decide +kernel
theorem dX10_rests_17 : decode cX10_rests 17 = .ok (.ireturn, 1) := by decide +kernel
theorem dX10_rests_18 : decode cX10_rests 18 = .ok (.aload_n 0, 1) := by decide +kernel
theorem dX10_rests_19 : decode cX10_rests 19 = .ok (.aload_n 0, 1) := by decide +kernel
theorem dX10_rests_20 : decode cX10_rests 20 = .ok (.invokevirtual 289, 3) := by decide +kernel
theorem dX10_rests_23 : decode cX10_rests 23 = .ok (.iload_n 1, 1) := by decide +kernel
theorem dX10_rests_24 : decode cX10_rests 24 = .ok (.invokevirtual 330, 3) := by decide +kernel
theorem dX10_rests_27 : decode cX10_rests 27 = .ok (.iconst 0, 1) := by decide +kernel
theorem dX10_rests_28 : decode cX10_rests 28 = .ok (.istore 4, 2) := by decide +kernel
theorem dX10_rests_30 : decode cX10_rests 30 = .ok (.iconst 0, 1) := by decide +kernel
theorem dX10_rests_31 : decode cX10_rests 31 = .ok (.istore 5, 2) := by decide +kernel
theorem dX10_rests_33 : decode cX10_rests 33 = .ok (.iload 5, 2) := by decide +kernel
theorem dX10_rests_35 : decode cX10_rests 35 = .ok (.iload_n 1, 1) := by decide +kernel
theorem dX10_rests_36 : decode cX10_rests 36 = .ok (.if_icmp .ge 34, 3) := by decide +kernel
theorem dX10_rests_39 : decode cX10_rests 39 = .ok (.aload_n 0, 1) := by decide +kernel
theorem dX10_rests_40 : decode cX10_rests 40 = .ok (.iload_n 2, 1) := by decide +kernel
theorem dX10_rests_41 : decode cX10_rests 41 = .ok (.iload 5, 2) := by decide +kernel
theorem dX10_rests_43 : decode cX10_rests 43 = .ok (.invokevirtual 333, 3) := by decide +kernel
theorem dX10_rests_46 : decode cX10_rests 46 = .ok (.ifCond .ne 6, 3) := by decide +kernel
theorem dX10_rests_49 : decode cX10_rests 49 = .ok (.goto 15, 3) := by decide +kernel
theorem dX10_rests_52 : decode cX10_rests 52 = .ok (.iload 4, 2) := by decide +kernel
theorem dX10_rests_54 : decode cX10_rests 54 = .ok (.iload_n 3, 1) := by decide +kernel
theorem dX10_rests_55 : decode cX10_rests 55 = .ok (.if_icmp .ne 6, 3) := by decide +kernel
theorem dX10_rests_58 : decode cX10_rests 58 = .ok (.iload 5, 2) := by decide +kernel
theorem dX10_rests_60 : decode cX10_rests 60 = .ok (.ireturn, 1) := by decide +kernel
theorem dX10_rests_61 : decode cX10_rests 61 = .ok (.iinc 4 1, 3) := by decide +kernel
theorem dX10_rests_64 : decode cX10_rests 64 = .ok (.iinc 5 1, 3) := by decide +kernel
theorem dX10_rests_67 : decode cX10_rests 67 = .ok (.goto (-34), 3) := by decide +kernel
theorem dX10_rests_70 : decode cX10_rests 70 = .ok (.iload_n 3, 1) := by decide +kernel
theorem dX10_rests_71 : decode cX10_rests 71 = .ok (.iconst (-1), 1) := by decide +kernel
theorem dX10_rests_72 : decode cX10_rests 72 = .ok (.if_icmp .ne 8, 3) := by decide +kernel
theorem dX10_rests_75 : decode cX10_rests 75 = .ok (.iload 4, 2) := by decide +kernel
theorem dX10_rests_77 : decode cX10_rests 77 = .ok (.goto 4, 3) := by decide +kernel
theorem dX10_rests_80 : decode cX10_rests 80 = .ok (.iconst (-1), 1) := by decide +kernel
theorem dX10_rests_81 : decode cX10_rests 81 = .ok (.ireturn, 1) := by decide +kernel
theorem dX10_restsOnBit_0 : decode cX10_restsOnBit 0 = .ok (.aload_n 0, 1) := by decide +kernel
theorem dX10_restsOnBit_1 : decode cX10_restsOnBit 1 = .ok (.getfield 123, 3) := by decide +kernel
theorem dX10_restsOnBit_4 : decode cX10_restsOnBit 4 = .ok (.bipush 119, 2) := by decide +kernel
theorem dX10_restsOnBit_6 : decode cX10_restsOnBit 6 = .ok (.iload_n 1, 1) := by decide +kernel
theorem dX10_restsOnBit_7 : decode cX10_restsOnBit 7 = .ok (.imul, 1) := by decide +kernel
theorem dX10_restsOnBit_8 : decode cX10_restsOnBit 8 = .ok (.iload_n 2, 1) := by decide +kernel
theorem dX10_restsOnBit_9 : decode cX10_restsOnBit 9 = .ok (.iconst 5, 1) := by decide +kernel
theorem dX10_restsOnBit_10 : decode cX10_restsOnBit 10 = .ok (.ishr, 1) := by decide +kernel
theorem dX10_restsOnBit_11 : decode cX10_restsOnBit 11 = .ok (.iadd, 1) := by decide +kernel
theorem dX10_restsOnBit_12 : decode cX10_restsOnBit 12 = .ok (.iaload, 1) := by decide +kernel
theorem dX10_restsOnBit_13 : decode cX10_restsOnBit 13 = .ok (.iload_n 2, 1) := by decide +kernel
theorem dX10_restsOnBit_14 : decode cX10_restsOnBit 14 = .ok (.bipush 31, 2) := by decide +kernel
theorem dX10_restsOnBit_16 : decode cX10_restsOnBit 16 = .ok (.iand, 1) := by decide +kernel
theorem dX10_restsOnBit_17 : decode cX10_restsOnBit 17 = .ok (.ishr, 1) := by decide +kernel
theorem dX10_restsOnBit_18 : decode cX10_restsOnBit 18 = .ok (.iconst 1, 1) := by decide +kernel
theorem dX10_restsOnBit_19 : decode cX10_restsOnBit 19 = .ok (.iand, 1) := by decide +kernel
theorem dX10_restsOnBit_20 : decode cX10_restsOnBit 20 = .ok (.iconst 1, 1) := by decide +kernel
theorem dX10_restsOnBit_21 : decode cX10_restsOnBit 21 = .ok (.if_icmp .ne 7, 3) := by decide +kernel
theorem dX10_restsOnBit_24 : decode cX10_restsOnBit 24 = .ok (.iconst 1, 1) := by decide +kernel
theorem dX10_restsOnBit_25 : decode cX10_restsOnBit 25 = .ok (.goto 4, 3) := by decide +kernel
theorem dX10_restsOnBit_28 : decode cX10_restsOnBit 28 = .ok (.iconst 0, 1) := by decide +kernel
theorem dX10_restsOnBit_29 : decode cX10_restsOnBit 29 = .ok (.ireturn, 1) := by decide +kernel
def g_X10_restsOnBit (F : Nat) (x1 : Int32) (x2 : Int32) (u : rg_U) : Option Int32 :=
  ck (inb ((119 * x1) + (dx_shr x2 5)) 4760) (if ((dx_shr (rA u 33 ((119 * x1) + (dx_shr x2 5))) (x2 &&& 31)) &&& 1) = 1 then (some 1) else (some 0))
set_option maxHeartbeats 4000000 in
set_option maxRecDepth 100000 in
theorem k_X10_restsOnBit {gs : List String} {ro : pm_RO} {n : Nat} {w : Nat → va_E} {b : Nat} {u : rg_U} {F : Nat} {x1 : Int32} {x2 : Int32} {z : Int32} (hR : rg shM b u n w) (h : g_X10_restsOnBit F x1 x2 u = some z) : pm_Met gs ro M_X10_restsOnBit 0 0 0 [.ref (b + 0), .int x1, .int x2] n w (pm_p n w (some (.int z))) := by
  unfold g_X10_restsOnBit at h
  refine pm_ofX in_X10_restsOnBit (Nat.le_of_ble_eq_true rfl) rfl (L := [some (.ref (b + 0)), some (.int x1), some (.int x2)]) rfl ?_
  refine pm_aload_n dX10_restsOnBit_0 rfl ?_
  refine dx_gr (j := 0) (o := 33) hR dX10_restsOnBit_1 fl_X10_123 rfl rfl ?_
  refine pm_bipush (v := 119) dX10_restsOnBit_4 (by decide) ?_
  refine pm_iload_n dX10_restsOnBit_6 rfl ?_
  refine pm_imul dX10_restsOnBit_7 ?_
  refine pm_iload_n dX10_restsOnBit_8 rfl ?_
  refine pm_iconst (v := 5) dX10_restsOnBit_9 (by decide) ?_
  refine pm_ishr dX10_restsOnBit_10 ?_
  refine pm_iadd dX10_restsOnBit_11 ?_
  obtain ⟨c1, h⟩ := ck_some h
  refine dx_al (j := 33) hR dX10_restsOnBit_12 rfl (vp_in_iff.mpr c1) ?_
  refine pm_iload_n dX10_restsOnBit_13 rfl ?_
  refine pm_bipush (v := 31) dX10_restsOnBit_14 (by decide) ?_
  refine pm_iand dX10_restsOnBit_16 ?_
  refine pm_ishr dX10_restsOnBit_17 ?_
  refine pm_iconst (v := 1) dX10_restsOnBit_18 (by decide) ?_
  refine pm_iand dX10_restsOnBit_19 ?_
  refine pm_iconst (v := 1) dX10_restsOnBit_20 (by decide) ?_
  refine pm_icmp_ne (tgt := 28) dX10_restsOnBit_21 (by decide) (fun c2 => ?_) (fun c2 => ?_)
  · replace h := it_f c2 h
    refine pm_iconst (v := 0) dX10_restsOnBit_28 (by decide) ?_
    cases h
    exact pm_zret dX10_restsOnBit_29 rfl (Or.inl rfl) (Nat.le_refl _) (Nat.le_refl _) ⟨rfl, rfl, rfl⟩
  · replace h := it_t c2 h
    refine pm_iconst (v := 1) dX10_restsOnBit_24 (by decide) ?_
    refine pm_goto (tgt := 29) dX10_restsOnBit_25 (by decide) ?_
    cases h
    exact pm_zret dX10_restsOnBit_29 rfl (Or.inr rfl) (Nat.le_refl _) (Nat.le_refl _) ⟨rfl, rfl, rfl⟩
def g_X10_rests_j64 (F : Nat) (l1 : Int32) (l2 : Int32) (l3 : Int32) (l4 : Int32) (l5 : Int32) (u : rg_U) : Option ((Int32 × Int32) ⊕ (Int32 ⊕ Int32)) :=
  some (.inl (l4, (l5 + 1)))
set_option maxHeartbeats 4000000 in
set_option maxRecDepth 100000 in
theorem k_X10_rests_j64 {gs : List String} {ro : pm_RO} {n : Nat} {w w1 : Nat → va_E} {b : Nat} {u : rg_U} {F : Nat} {l1 : Int32} {l2 : Int32} {l3 : Int32} {l4 : Int32} {l5 : Int32} {z : ((Int32 × Int32) ⊕ (Int32 ⊕ Int32))} {Q : Option Value → Nat → (Nat → va_E) → Prop} (hR : rg shM b u n w1) (hk : rg_k b shM.length w w1) (h : g_X10_rests_j64 F l1 l2 l3 l4 l5 u = some z) (hc : ∀ s', z = .inl s' → ∀ w1, rg shM b u n w1 → rg_k b shM.length w w1 → pm_X gs ro M_X10_rests 7 0 0 0 0 33 [some (.ref (b + 0)), some (.int l1), some (.int l2), some (.int l3), some (.int s'.1), some (.int s'.2)] [] n w1 Q) (he0 : ∀ r', z = .inr (Sum.inl r') → ∀ w1, rg shM b u n w1 → rg_k b shM.length w w1 → pm_X gs ro M_X10_rests 7 0 0 0 0 58 [none, none, none, none, none, some (.int r')] [] n w1 Q) (he1 : ∀ r', z = .inr (Sum.inr r') → ∀ w1, rg shM b u n w1 → rg_k b shM.length w w1 → pm_X gs ro M_X10_rests 7 0 0 0 0 70 [none, none, none, some (.int l3), some (.int r'), none] [] n w1 Q) : pm_X gs ro M_X10_rests 7 0 0 0 0 64 [some (.ref (b + 0)), some (.int l1), some (.int l2), some (.int l3), some (.int l4), some (.int l5)] [] n w1 Q := by
  unfold g_X10_rests_j64 at h
  refine pm_iinc (v := (l5 + 1)) dX10_rests_64 rfl rfl (by decide) rfl rfl ?_
  refine pm_goto (tgt := 33) dX10_rests_67 (by decide) ?_
  refine pm_lw (L' := [some (.ref (b + 0)), some (.int l1), some (.int l2), some (.int l3), some (.int l4), some (.int (l5 + 1))]) ⟨Or.inr rfl, Or.inr rfl, Or.inr rfl, Or.inr rfl, Or.inr rfl, Or.inr rfl, trivial⟩ ?_
  exact hc _ (Option.some.inj h).symm _ hR hk
def g_X10_rests_l33 (F : Nat) (l1 : Int32) (l2 : Int32) (l3 : Int32) (u : rg_U) (l4 : Int32) (l5 : Int32) : Option ((Int32 × Int32) ⊕ (Int32 ⊕ Int32)) :=
  if l1 ≤ l5 then (some (.inr (Sum.inr l4))) else (ob (g_X10_restsOnBit F l2 l5 u) (fun r13 => if r13 = 0 then (g_X10_rests_j64 F l1 l2 l3 l4 l5 u) else (if l4 = l3 then (some (.inr (Sum.inl l5))) else (g_X10_rests_j64 F l1 l2 l3 (l4 + 1) l5 u))))
set_option maxHeartbeats 4000000 in
set_option maxRecDepth 100000 in
theorem k_X10_rests_l33 {gs : List String} {ro : pm_RO} {n : Nat} {w w1 : Nat → va_E} {b : Nat} {u : rg_U} {F : Nat} {l1 : Int32} {l2 : Int32} {l3 : Int32} {l4 : Int32} {l5 : Int32} {z : (Int32 × Int32) ⊕ (Int32 ⊕ Int32)} {Q : Option Value → Nat → (Nat → va_E) → Prop} (hR : rg shM b u n w1) (hk : rg_k b shM.length w w1) (h : g_X10_rests_l33 F l1 l2 l3 u l4 l5 = some z) (hc : ∀ s', z = .inl s' → ∀ w1, rg shM b u n w1 → rg_k b shM.length w w1 → pm_X gs ro M_X10_rests 7 0 0 0 0 33 [some (.ref (b + 0)), some (.int l1), some (.int l2), some (.int l3), some (.int s'.1), some (.int s'.2)] [] n w1 Q) (he0 : ∀ r', z = .inr (Sum.inl r') → ∀ w1, rg shM b u n w1 → rg_k b shM.length w w1 → pm_X gs ro M_X10_rests 7 0 0 0 0 58 [none, none, none, none, none, some (.int r')] [] n w1 Q) (he1 : ∀ r', z = .inr (Sum.inr r') → ∀ w1, rg shM b u n w1 → rg_k b shM.length w w1 → pm_X gs ro M_X10_rests 7 0 0 0 0 70 [none, none, none, some (.int l3), some (.int r'), none] [] n w1 Q) : pm_X gs ro M_X10_rests 7 0 0 0 0 33 [some (.ref (b + 0)), some (.int l1), some (.int l2), some (.int l3), some (.int l4), some (.int l5)] [] n w1 Q := by
  unfold g_X10_rests_l33 at h
  refine pm_iload dX10_rests_33 rfl ?_
  refine pm_iload_n dX10_rests_35 rfl ?_
  refine pm_icmp_ge (tgt := 70) dX10_rests_36 (by decide) (fun c12 => ?_) (fun c12 => ?_)
  · replace h := it_t c12 h
    refine pm_lw (L' := [none, none, none, some (.int l3), some (.int l4), none]) ⟨Or.inl rfl, Or.inl rfl, Or.inl rfl, Or.inr rfl, Or.inr rfl, Or.inl rfl, trivial⟩ ?_
    exact he1 _ (Option.some.inj h).symm _ hR hk
  · replace h := it_f c12 h
    refine pm_aload_n dX10_rests_39 rfl ?_
    refine pm_iload_n dX10_rests_40 rfl ?_
    refine pm_iload dX10_rests_41 rfl ?_
    obtain ⟨r13, h14, h⟩ := ob_some h
    refine dx_cVp (j := 0) (M := M_X10_rests) (Mc := M_X10_restsOnBit) (dc := 0) (As := [.int l2, .int l5]) (st := []) hR dX10_rests_43 ml_X10_333 ⟨TX10, 55, rfl⟩ rfl (by decide) (Nat.le_of_ble_eq_true rfl) rfl (k_X10_restsOnBit hR h14) ?_
    refine pm_if_ne (tgt := 52) dX10_rests_46 (by decide) (fun c15 => ?_) (fun c15 => ?_)
    · replace h := it_f c15 h
      refine pm_iload dX10_rests_52 rfl ?_
      refine pm_iload_n dX10_rests_54 rfl ?_
      refine pm_icmp_ne (tgt := 61) dX10_rests_55 (by decide) (fun c16 => ?_) (fun c16 => ?_)
      · replace h := it_f c16 h
        refine pm_iinc (v := (l4 + 1)) dX10_rests_61 rfl rfl (by decide) rfl rfl ?_
        exact k_X10_rests_j64 hR hk h hc he0 he1
      · replace h := it_t c16 h
        refine pm_lw (L' := [none, none, none, none, none, some (.int l5)]) ⟨Or.inl rfl, Or.inl rfl, Or.inl rfl, Or.inl rfl, Or.inl rfl, Or.inr rfl, trivial⟩ ?_
        exact he0 _ (Option.some.inj h).symm _ hR hk
    · replace h := it_t c15 h
      refine pm_goto (tgt := 64) dX10_rests_49 (by decide) ?_
      exact k_X10_rests_j64 hR hk h hc he0 he1
def g_X10_rests (F : Nat) (x1 : Int32) (x2 : Int32) (x3 : Int32) (u : rg_U) : Option (Int32 × rg_U) :=
  ob (g_X10_isTime F x1 u) (fun r1 => if r1 = 0 then (some ((-2), u)) else (if (g_X10_isPlace x2) = 0 then (some ((-2), u)) else (ob (g_X10_runAsked F u) (fun r5 => ob (g_X10_laysRests F r5 x1 u) (fun r7 => ob (lp (fun (s : (Int32 × Int32)) => g_X10_rests_l33 F x1 x2 x3 r7 s.1 s.2) F ((0 : Int32), (0 : Int32))) (fun r17 => os r17 (fun r19 => some (r19, r7)) (fun r20 => if x3 = (-1) then (some (r20, r7)) else (some ((-1), r7)))))))))
set_option maxHeartbeats 4000000 in
set_option maxRecDepth 100000 in
theorem k_X10_rests {gs : List String} {ro : pm_RO} {n : Nat} {w : Nat → va_E} {b : Nat} {u : rg_U} {F : Nat} {x1 : Int32} {x2 : Int32} {x3 : Int32} {z : (Int32 × rg_U)} (hR : rg shM b u n w) (h : g_X10_rests F x1 x2 x3 u = some z) : pm_Met gs ro M_X10_rests 7 0 0 [.ref (b + 0), .int x1, .int x2, .int x3] n w (rg_post shM b n w (some (.int z.1)) z.2) := by
  unfold g_X10_rests at h
  refine pm_ofX in_X10_rests (Nat.le_of_ble_eq_true rfl) rfl (L := [some (.ref (b + 0)), some (.int x1), some (.int x2), some (.int x3), none, none]) rfl ?_
  refine pm_aload_n dX10_rests_0 rfl ?_
  refine pm_iload_n dX10_rests_1 rfl ?_
  obtain ⟨r1, h2, h⟩ := ob_some h
  refine dx_cVp (j := 0) (M := M_X10_rests) (Mc := M_X10_isTime) (dc := 1) (As := [.int x1]) (st := []) hR dX10_rests_2 ml_X10_301 ⟨TX10, 55, rfl⟩ rfl (by decide) (Nat.le_of_ble_eq_true rfl) rfl (k_X10_isTime hR h2) ?_
  refine pm_if_eq (tgt := 15) dX10_rests_5 (by decide) (fun c3 => ?_) (fun c3 => ?_)
  · replace h := it_t c3 h
    refine pm_bipush (v := (-2)) dX10_rests_15 (by decide) ?_
    cases h
    exact pm_iret dX10_rests_17 rfl (Nat.le_refl _) (Nat.le_refl _) ⟨rfl, rfl, hR, rg_k0⟩
  · replace h := it_f c3 h
    refine pm_iload_n dX10_rests_8 rfl ?_
    refine dx_cSp (M := M_X10_rests) (Mc := M_X10_isPlace) (dc := 1) (As := [.int x2]) (st := []) dX10_rests_9 ml_X10_169 (by decide) (Nat.le_of_ble_eq_true rfl) rfl (k_X10_isPlace rfl) ?_
    refine pm_if_ne (tgt := 18) dX10_rests_12 (by decide) (fun c4 => ?_) (fun c4 => ?_)
    · replace h := it_f c4 h
      refine pm_aload_n dX10_rests_18 rfl ?_
      refine pm_aload_n dX10_rests_19 rfl ?_
      obtain ⟨r5, h6, h⟩ := ob_some h
      refine dx_cVp (j := 0) (M := M_X10_rests) (Mc := M_X10_runAsked) (dc := 0) (As := []) (st := [.ref (b + 0)]) hR dX10_rests_20 ml_X10_289 ⟨TX10, 55, rfl⟩ rfl (by decide) (Nat.le_of_ble_eq_true rfl) rfl (k_X10_runAsked hR h6) ?_
      refine pm_iload_n dX10_rests_23 rfl ?_
      obtain ⟨r7, h8, h⟩ := ob_some h
      refine dx_cVv (j := 0) (M := M_X10_rests) (Mc := M_X10_laysRests) (dc := 6) (As := [.int r5, .int x1]) (st := []) hR rg_k0 dX10_rests_24 ml_X10_330 ⟨TX10, 55, rfl⟩ rfl (by decide) (Nat.le_of_ble_eq_true rfl) rfl (k_X10_laysRests hR h8) (fun w9 hR10 hk11 => ?_)
      refine pm_iconst (v := 0) dX10_rests_27 (by decide) ?_
      refine pm_istore dX10_rests_28 (by decide) rfl rfl ?_
      refine pm_iconst (v := 0) dX10_rests_30 (by decide) ?_
      refine pm_istore dX10_rests_31 (by decide) rfl rfl ?_
      obtain ⟨r17, h18, h⟩ := ob_some h
      refine lp_sound (P := fun (s : (Int32 × Int32)) => ∀ w1, rg shM b r7 n w1 → rg_k b shM.length w w1 → pm_X gs ro M_X10_rests 7 0 0 0 0 33 [some (.ref (b + 0)), some (.int x1), some (.int x2), some (.int x3), some (.int s.1), some (.int s.2)] [] n w1 (rg_post shM b n w (some (.int z.1)) z.2)) (E := (Sum.elim (fun (r : Int32) => ∀ w1, rg shM b r7 n w1 → rg_k b shM.length w w1 → pm_X gs ro M_X10_rests 7 0 0 0 0 58 [none, none, none, none, none, some (.int r)] [] n w1 (rg_post shM b n w (some (.int z.1)) z.2)) (fun (r : Int32) => ∀ w1, rg shM b r7 n w1 → rg_k b shM.length w w1 → pm_X gs ro M_X10_rests 7 0 0 0 0 70 [none, none, none, some (.int x3), some (.int r), none] [] n w1 (rg_post shM b n w (some (.int z.1)) z.2)))) (fun s x hx hc he w1 hR1 hk1 => k_X10_rests_l33 hR1 hk1 hx hc (fun r q => he (Sum.inl r) q) (fun r q => he (Sum.inr r) q)) F _ r17 h18 ?_ _ hR10 hk11
      cases r17 with
      | inl r19 =>
        replace h := os_l h
        intro w21 hR22 hk23
        refine pm_iload dX10_rests_58 rfl ?_
        cases h
        exact pm_iret dX10_rests_60 rfl (Nat.le_refl _) (Nat.le_refl _) ⟨rfl, rfl, hR22, hk23⟩
      | inr r20 =>
        replace h := os_r h
        intro w24 hR25 hk26
        refine pm_iload_n dX10_rests_70 rfl ?_
        refine pm_iconst (v := (-1)) dX10_rests_71 (by decide) ?_
        refine pm_icmp_ne (tgt := 80) dX10_rests_72 (by decide) (fun c27 => ?_) (fun c27 => ?_)
        · replace h := it_f c27 h
          refine pm_iconst (v := (-1)) dX10_rests_80 (by decide) ?_
          cases h
          exact pm_iret dX10_rests_81 rfl (Nat.le_refl _) (Nat.le_refl _) ⟨rfl, rfl, hR25, hk26⟩
        · replace h := it_t c27 h
          refine pm_iload dX10_rests_75 rfl ?_
          refine pm_goto (tgt := 81) dX10_rests_77 (by decide) ?_
          cases h
          exact pm_iret dX10_rests_81 rfl (Nat.le_refl _) (Nat.le_refl _) ⟨rfl, rfl, hR25, hk26⟩
    · replace h := it_t c4 h
      refine pm_bipush (v := (-2)) dX10_rests_15 (by decide) ?_
      cases h
      exact pm_iret dX10_rests_17 rfl (Nat.le_refl _) (Nat.le_refl _) ⟨rfl, rfl, hR, rg_k0⟩
def g_X10_hangs_j116 (F : Nat) (l1 : Int32) (l6 : Int32) (l7 : Int32) (l8 : Int32) (s0 : Int32) (s1 : Int32) (u : rg_U) : Option ((Int32 × Int32) ⊕ Int32) :=
  some (.inl ((s1 ||| s0), (l8 + 1)))
set_option maxHeartbeats 4000000 in
set_option maxRecDepth 100000 in
theorem k_X10_hangs_j116 {gs : List String} {ro : pm_RO} {n : Nat} {w w1 : Nat → va_E} {b : Nat} {u : rg_U} {F : Nat} {l1 : Int32} {l6 : Int32} {l7 : Int32} {l8 : Int32} {s0 : Int32} {s1 : Int32} {z : ((Int32 × Int32) ⊕ Int32)} {Q : Option Value → Nat → (Nat → va_E) → Prop} (hR : rg shM b u n w1) (hk : rg_k b shM.length w w1) (h : g_X10_hangs_j116 F l1 l6 l7 l8 s0 s1 u = some z) (hc : ∀ s', z = .inl s' → ∀ w1, rg shM b u n w1 → rg_k b shM.length w w1 → pm_X gs ro M_X10_hangs 7 0 0 0 0 82 [some (.ref (b + 0)), some (.int l1), none, none, none, some (.int s'.1), some (.int l6), some (.int l7), some (.int s'.2)] [] n w1 Q) (he0 : ∀ r', z = .inr r' → ∀ w1, rg shM b u n w1 → rg_k b shM.length w w1 → pm_X gs ro M_X10_hangs 7 0 0 0 0 125 [none, none, none, none, none, some (.int r'), none, none, none] [] n w1 Q) : pm_X gs ro M_X10_hangs 7 0 0 0 0 116 [some (.ref (b + 0)), some (.int l1), none, none, none, none, some (.int l6), some (.int l7), some (.int l8)] [.int s0, .int s1] n w1 Q := by
  unfold g_X10_hangs_j116 at h
  refine pm_ior dX10_hangs_116 ?_
  refine pm_istore dX10_hangs_117 (by decide) rfl rfl ?_
  refine pm_iinc (v := (l8 + 1)) dX10_hangs_119 rfl rfl (by decide) rfl rfl ?_
  refine pm_goto (tgt := 82) dX10_hangs_122 (by decide) ?_
  refine pm_lw (L' := [some (.ref (b + 0)), some (.int l1), none, none, none, some (.int (s1 ||| s0)), some (.int l6), some (.int l7), some (.int (l8 + 1))]) ⟨Or.inr rfl, Or.inr rfl, Or.inl rfl, Or.inl rfl, Or.inl rfl, Or.inr rfl, Or.inr rfl, Or.inr rfl, Or.inr rfl, trivial⟩ ?_
  exact hc _ (Option.some.inj h).symm _ hR hk
def g_X10_hangs_l82 (F : Nat) (l1 : Int32) (l6 : Int32) (l7 : Int32) (u : rg_U) (l5 : Int32) (l8 : Int32) : Option ((Int32 × Int32) ⊕ Int32) :=
  if l7 ≤ l8 then (some (.inr l5)) else (ob (g_X10_restsOnBit F (l6 + l8) (3008 + l1) u) (fun r17 => if r17 = 0 then (g_X10_hangs_j116 F l1 l6 l7 l8 0 l5 u) else (g_X10_hangs_j116 F l1 l6 l7 l8 (dx_shl 1 l8) l5 u)))
set_option maxHeartbeats 4000000 in
set_option maxRecDepth 100000 in
theorem k_X10_hangs_l82 {gs : List String} {ro : pm_RO} {n : Nat} {w w1 : Nat → va_E} {b : Nat} {u : rg_U} {F : Nat} {l1 : Int32} {l6 : Int32} {l7 : Int32} {l5 : Int32} {l8 : Int32} {z : (Int32 × Int32) ⊕ Int32} {Q : Option Value → Nat → (Nat → va_E) → Prop} (hR : rg shM b u n w1) (hk : rg_k b shM.length w w1) (h : g_X10_hangs_l82 F l1 l6 l7 u l5 l8 = some z) (hc : ∀ s', z = .inl s' → ∀ w1, rg shM b u n w1 → rg_k b shM.length w w1 → pm_X gs ro M_X10_hangs 7 0 0 0 0 82 [some (.ref (b + 0)), some (.int l1), none, none, none, some (.int s'.1), some (.int l6), some (.int l7), some (.int s'.2)] [] n w1 Q) (he0 : ∀ r', z = .inr r' → ∀ w1, rg shM b u n w1 → rg_k b shM.length w w1 → pm_X gs ro M_X10_hangs 7 0 0 0 0 125 [none, none, none, none, none, some (.int r'), none, none, none] [] n w1 Q) : pm_X gs ro M_X10_hangs 7 0 0 0 0 82 [some (.ref (b + 0)), some (.int l1), none, none, none, some (.int l5), some (.int l6), some (.int l7), some (.int l8)] [] n w1 Q := by
  unfold g_X10_hangs_l82 at h
  refine pm_iload dX10_hangs_82 rfl ?_
  refine pm_iload dX10_hangs_84 rfl ?_
  refine pm_icmp_ge (tgt := 125) dX10_hangs_86 (by decide) (fun c16 => ?_) (fun c16 => ?_)
  · replace h := it_t c16 h
    refine pm_lw (L' := [none, none, none, none, none, some (.int l5), none, none, none]) ⟨Or.inl rfl, Or.inl rfl, Or.inl rfl, Or.inl rfl, Or.inl rfl, Or.inr rfl, Or.inl rfl, Or.inl rfl, Or.inl rfl, trivial⟩ ?_
    exact he0 _ (Option.some.inj h).symm _ hR hk
  · replace h := it_f c16 h
    refine pm_iload dX10_hangs_89 rfl ?_
    refine pm_aload_n dX10_hangs_91 rfl ?_
    refine pm_iload dX10_hangs_92 rfl ?_
    refine pm_iload dX10_hangs_94 rfl ?_
    refine pm_iadd dX10_hangs_96 ?_
    refine pm_sipush (v := 3008) dX10_hangs_97 (by decide) ?_
    refine pm_iload_n dX10_hangs_100 rfl ?_
    refine pm_iadd dX10_hangs_101 ?_
    obtain ⟨r17, h18, h⟩ := ob_some h
    refine dx_cVp (j := 0) (M := M_X10_hangs) (Mc := M_X10_restsOnBit) (dc := 0) (As := [.int (l6 + l8), .int (3008 + l1)]) (st := [.int l5]) hR dX10_hangs_102 ml_X10_333 ⟨TX10, 55, rfl⟩ rfl (by decide) (Nat.le_of_ble_eq_true rfl) rfl (k_X10_restsOnBit hR h18) ?_
    refine pm_if_eq (tgt := 115) dX10_hangs_105 (by decide) (fun c19 => ?_) (fun c19 => ?_)
    · replace h := it_t c19 h
      refine pm_iconst (v := 0) dX10_hangs_115 (by decide) ?_
      refine pm_lw (L' := [some (.ref (b + 0)), some (.int l1), none, none, none, none, some (.int l6), some (.int l7), some (.int l8)]) ⟨Or.inr rfl, Or.inr rfl, Or.inl rfl, Or.inl rfl, Or.inl rfl, Or.inl rfl, Or.inr rfl, Or.inr rfl, Or.inr rfl, trivial⟩ ?_
      exact k_X10_hangs_j116 hR hk h hc he0
    · replace h := it_f c19 h
      refine pm_iconst (v := 1) dX10_hangs_108 (by decide) ?_
      refine pm_iload dX10_hangs_109 rfl ?_
      refine pm_ishl dX10_hangs_111 ?_
      refine pm_goto (tgt := 116) dX10_hangs_112 (by decide) ?_
      refine pm_lw (L' := [some (.ref (b + 0)), some (.int l1), none, none, none, none, some (.int l6), some (.int l7), some (.int l8)]) ⟨Or.inr rfl, Or.inr rfl, Or.inl rfl, Or.inl rfl, Or.inl rfl, Or.inl rfl, Or.inr rfl, Or.inr rfl, Or.inr rfl, trivial⟩ ?_
      exact k_X10_hangs_j116 hR hk h hc he0
def g_X10_hangs_j77 (F : Nat) (l1 : Int32) (l5 : Int32) (l6 : Int32) (s0 : Int32) (u : rg_U) : Option (Int32 × rg_U) :=
  ob (lp (fun (s : (Int32 × Int32)) => g_X10_hangs_l82 F l1 l6 s0 u s.1 s.2) F ((l5 : Int32), (0 : Int32))) (fun r20 => some (r20, u))
set_option maxHeartbeats 4000000 in
set_option maxRecDepth 100000 in
theorem k_X10_hangs_j77 {gs : List String} {ro : pm_RO} {n : Nat} {w w1 : Nat → va_E} {b : Nat} {u : rg_U} {F : Nat} {l1 : Int32} {l5 : Int32} {l6 : Int32} {s0 : Int32} {z : (Int32 × rg_U)} (hR : rg shM b u n w1) (hk : rg_k b shM.length w w1) (h : g_X10_hangs_j77 F l1 l5 l6 s0 u = some z) : pm_X gs ro M_X10_hangs 7 0 0 0 0 77 [some (.ref (b + 0)), some (.int l1), none, none, none, some (.int l5), some (.int l6), none, none] [.int s0] n w1 (rg_post shM b n w (some (.int z.1)) z.2) := by
  unfold g_X10_hangs_j77 at h
  refine pm_istore dX10_hangs_77 (by decide) rfl rfl ?_
  refine pm_iconst (v := 0) dX10_hangs_79 (by decide) ?_
  refine pm_istore dX10_hangs_80 (by decide) rfl rfl ?_
  obtain ⟨r20, h21, h⟩ := ob_some h
  refine lp_sound (P := fun (s : (Int32 × Int32)) => ∀ w1, rg shM b u n w1 → rg_k b shM.length w w1 → pm_X gs ro M_X10_hangs 7 0 0 0 0 82 [some (.ref (b + 0)), some (.int l1), none, none, none, some (.int s.1), some (.int l6), some (.int s0), some (.int s.2)] [] n w1 (rg_post shM b n w (some (.int z.1)) z.2)) (E := (fun (r : Int32) => ∀ w1, rg shM b u n w1 → rg_k b shM.length w w1 → pm_X gs ro M_X10_hangs 7 0 0 0 0 125 [none, none, none, none, none, some (.int r), none, none, none] [] n w1 (rg_post shM b n w (some (.int z.1)) z.2))) (fun s x hx hc he w1 hR1 hk1 => k_X10_hangs_l82 hR1 hk1 hx hc (fun r q => he r q)) F _ r20 h21 ?_ _ hR hk
  intro w22 hR23 hk24
  refine pm_iload dX10_hangs_125 rfl ?_
  cases h
  exact pm_iret dX10_hangs_127 rfl (Nat.le_refl _) (Nat.le_refl _) ⟨rfl, rfl, hR23, hk24⟩
def g_X10_hangs_j64 (F : Nat) (l1 : Int32) (l3 : Int32) (l5 : Int32) (s0 : Int32) (u : rg_U) : Option (Int32 × rg_U) :=
  if l3 = 0 then (g_X10_hangs_j77 F l1 l5 s0 8 u) else (g_X10_hangs_j77 F l1 l5 s0 32 u)
set_option maxHeartbeats 4000000 in
set_option maxRecDepth 100000 in
theorem k_X10_hangs_j64 {gs : List String} {ro : pm_RO} {n : Nat} {w w1 : Nat → va_E} {b : Nat} {u : rg_U} {F : Nat} {l1 : Int32} {l3 : Int32} {l5 : Int32} {s0 : Int32} {z : (Int32 × rg_U)} (hR : rg shM b u n w1) (hk : rg_k b shM.length w w1) (h : g_X10_hangs_j64 F l1 l3 l5 s0 u = some z) : pm_X gs ro M_X10_hangs 7 0 0 0 0 64 [some (.ref (b + 0)), some (.int l1), none, some (.int l3), none, some (.int l5), none, none, none] [.int s0] n w1 (rg_post shM b n w (some (.int z.1)) z.2) := by
  unfold g_X10_hangs_j64 at h
  refine pm_istore dX10_hangs_64 (by decide) rfl rfl ?_
  refine pm_iload_n dX10_hangs_66 rfl ?_
  refine pm_if_ne (tgt := 75) dX10_hangs_67 (by decide) (fun c15 => ?_) (fun c15 => ?_)
  · replace h := it_f c15 h
    refine pm_bipush (v := 32) dX10_hangs_75 (by decide) ?_
    refine pm_lw (L' := [some (.ref (b + 0)), some (.int l1), none, none, none, some (.int l5), some (.int s0), none, none]) ⟨Or.inr rfl, Or.inr rfl, Or.inl rfl, Or.inl rfl, Or.inl rfl, Or.inr rfl, Or.inr rfl, Or.inl rfl, Or.inl rfl, trivial⟩ ?_
    exact k_X10_hangs_j77 hR hk h
  · replace h := it_t c15 h
    refine pm_bipush (v := 8) dX10_hangs_70 (by decide) ?_
    refine pm_goto (tgt := 77) dX10_hangs_72 (by decide) ?_
    refine pm_lw (L' := [some (.ref (b + 0)), some (.int l1), none, none, none, some (.int l5), some (.int s0), none, none]) ⟨Or.inr rfl, Or.inr rfl, Or.inl rfl, Or.inl rfl, Or.inl rfl, Or.inr rfl, Or.inr rfl, Or.inl rfl, Or.inl rfl, trivial⟩ ?_
    exact k_X10_hangs_j77 hR hk h
def g_X10_hangs (F : Nat) (x1 : Int32) (x2 : Int32) (x3 : Int32) (u : rg_U) : Option (Int32 × rg_U) :=
  ob (g_X10_runAsked F u) (fun r1 => ob (g_X10_isTime F x2 u) (fun r3 => if r3 = 0 then (some ((-1000001), u)) else (ck (inb r1 5) (if (g_X10_isIn x1 0 ((rA u 15 r1) - 1)) = 0 then (some ((-1000001), u)) else (if (g_X10_isIn x3 0 1) = 0 then (some ((-1000001), u)) else (ob (g_X10_laysRests F r1 x2 u) (fun r9 => if x3 = 0 then (g_X10_hangs_j64 F x1 x3 0 0 r9) else (g_X10_hangs_j64 F x1 x3 0 8 r9))))))))
set_option maxHeartbeats 4000000 in
set_option maxRecDepth 100000 in
theorem k_X10_hangs {gs : List String} {ro : pm_RO} {n : Nat} {w : Nat → va_E} {b : Nat} {u : rg_U} {F : Nat} {x1 : Int32} {x2 : Int32} {x3 : Int32} {z : (Int32 × rg_U)} (hR : rg shM b u n w) (h : g_X10_hangs F x1 x2 x3 u = some z) : pm_Met gs ro M_X10_hangs 7 0 0 [.ref (b + 0), .int x1, .int x2, .int x3] n w (rg_post shM b n w (some (.int z.1)) z.2) := by
  unfold g_X10_hangs at h
  refine pm_ofX in_X10_hangs (Nat.le_of_ble_eq_true rfl) rfl (L := [some (.ref (b + 0)), some (.int x1), some (.int x2), some (.int x3), none, none, none, none, none]) rfl ?_
  refine pm_aload_n dX10_hangs_0 rfl ?_
  obtain ⟨r1, h2, h⟩ := ob_some h
  refine dx_cVp (j := 0) (M := M_X10_hangs) (Mc := M_X10_runAsked) (dc := 0) (As := []) (st := []) hR dX10_hangs_1 ml_X10_289 ⟨TX10, 55, rfl⟩ rfl (by decide) (Nat.le_of_ble_eq_true rfl) rfl (k_X10_runAsked hR h2) ?_
  refine pm_istore dX10_hangs_4 (by decide) rfl rfl ?_
  refine pm_aload_n dX10_hangs_6 rfl ?_
  refine pm_iload_n dX10_hangs_7 rfl ?_
  obtain ⟨r3, h4, h⟩ := ob_some h
  refine dx_cVp (j := 0) (M := M_X10_hangs) (Mc := M_X10_isTime) (dc := 1) (As := [.int x2]) (st := []) hR dX10_hangs_8 ml_X10_301 ⟨TX10, 55, rfl⟩ rfl (by decide) (Nat.le_of_ble_eq_true rfl) rfl (k_X10_isTime hR h4) ?_
  refine pm_if_eq (tgt := 40) dX10_hangs_11 (by decide) (fun c5 => ?_) (fun c5 => ?_)
  · replace h := it_t c5 h
    refine pm_ldcw (v := (-1000001)) dX10_hangs_40 kc_X10_304 ?_
    cases h
    exact pm_iret dX10_hangs_43 rfl (Nat.le_refl _) (Nat.le_refl _) ⟨rfl, rfl, hR, rg_k0⟩
  · replace h := it_f c5 h
    refine pm_iload_n dX10_hangs_14 rfl ?_
    refine pm_iconst (v := 0) dX10_hangs_15 (by decide) ?_
    refine pm_aload_n dX10_hangs_16 rfl ?_
    refine dx_gr (j := 0) (o := 15) hR dX10_hangs_17 fl_X10_60 rfl rfl ?_
    refine pm_iload dX10_hangs_20 rfl ?_
    obtain ⟨c6, h⟩ := ck_some h
    refine dx_al (j := 15) hR dX10_hangs_22 rfl (vp_in_iff.mpr c6) ?_
    refine pm_iconst (v := 1) dX10_hangs_23 (by decide) ?_
    refine pm_isub dX10_hangs_24 ?_
    refine dx_cSp (M := M_X10_hangs) (Mc := M_X10_isIn) (dc := 0) (As := [.int x1, .int 0, .int ((rA u 15 r1) - 1)]) (st := []) dX10_hangs_25 ml_X10_138 (by decide) (Nat.le_of_ble_eq_true rfl) rfl (k_X10_isIn rfl) ?_
    refine pm_if_eq (tgt := 40) dX10_hangs_28 (by decide) (fun c7 => ?_) (fun c7 => ?_)
    · replace h := it_t c7 h
      refine pm_ldcw (v := (-1000001)) dX10_hangs_40 kc_X10_304 ?_
      cases h
      exact pm_iret dX10_hangs_43 rfl (Nat.le_refl _) (Nat.le_refl _) ⟨rfl, rfl, hR, rg_k0⟩
    · replace h := it_f c7 h
      refine pm_iload_n dX10_hangs_31 rfl ?_
      refine pm_iconst (v := 0) dX10_hangs_32 (by decide) ?_
      refine pm_iconst (v := 1) dX10_hangs_33 (by decide) ?_
      refine dx_cSp (M := M_X10_hangs) (Mc := M_X10_isIn) (dc := 0) (As := [.int x3, .int 0, .int 1]) (st := []) dX10_hangs_34 ml_X10_138 (by decide) (Nat.le_of_ble_eq_true rfl) rfl (k_X10_isIn rfl) ?_
      refine pm_if_ne (tgt := 44) dX10_hangs_37 (by decide) (fun c8 => ?_) (fun c8 => ?_)
      · replace h := it_f c8 h
        refine pm_aload_n dX10_hangs_44 rfl ?_
        refine pm_iload dX10_hangs_45 rfl ?_
        refine pm_iload_n dX10_hangs_47 rfl ?_
        obtain ⟨r9, h10, h⟩ := ob_some h
        refine dx_cVv (j := 0) (M := M_X10_hangs) (Mc := M_X10_laysRests) (dc := 6) (As := [.int r1, .int x2]) (st := []) hR rg_k0 dX10_hangs_48 ml_X10_330 ⟨TX10, 55, rfl⟩ rfl (by decide) (Nat.le_of_ble_eq_true rfl) rfl (k_X10_laysRests hR h10) (fun w11 hR12 hk13 => ?_)
        refine pm_iconst (v := 0) dX10_hangs_51 (by decide) ?_
        refine pm_istore dX10_hangs_52 (by decide) rfl rfl ?_
        refine pm_iload_n dX10_hangs_54 rfl ?_
        refine pm_if_ne (tgt := 62) dX10_hangs_55 (by decide) (fun c14 => ?_) (fun c14 => ?_)
        · replace h := it_f c14 h
          refine pm_bipush (v := 8) dX10_hangs_62 (by decide) ?_
          refine pm_lw (L' := [some (.ref (b + 0)), some (.int x1), none, some (.int x3), none, some (.int 0), none, none, none]) ⟨Or.inr rfl, Or.inr rfl, Or.inl rfl, Or.inr rfl, Or.inl rfl, Or.inr rfl, Or.inl rfl, Or.inl rfl, Or.inl rfl, trivial⟩ ?_
          exact k_X10_hangs_j64 hR12 hk13 h
        · replace h := it_t c14 h
          refine pm_iconst (v := 0) dX10_hangs_58 (by decide) ?_
          refine pm_goto (tgt := 64) dX10_hangs_59 (by decide) ?_
          refine pm_lw (L' := [some (.ref (b + 0)), some (.int x1), none, some (.int x3), none, some (.int 0), none, none, none]) ⟨Or.inr rfl, Or.inr rfl, Or.inl rfl, Or.inr rfl, Or.inl rfl, Or.inr rfl, Or.inl rfl, Or.inl rfl, Or.inl rfl, trivial⟩ ?_
          exact k_X10_hangs_j64 hR12 hk13 h
      · replace h := it_t c8 h
        refine pm_ldcw (v := (-1000001)) dX10_hangs_40 kc_X10_304 ?_
        cases h
        exact pm_iret dX10_hangs_43 rfl (Nat.le_refl _) (Nat.le_refl _) ⟨rfl, rfl, hR, rg_k0⟩
def g_X10_history_j148 (F : Nat) (l1 : Int32) (l2 : Int32) (l3 : Int32) (l4 : Int32) (l5 : Int32) (l6 : Int32) (l7 : Int32) (u : rg_U) : Option ((Int32 × Int32 × Int32 × rg_U) ⊕ ((Int32 × rg_U) ⊕ (Int32 × rg_U))) :=
  some (.inl (l5, l6, (l7 + 1), u))
set_option maxHeartbeats 4000000 in
set_option maxRecDepth 100000 in
theorem k_X10_history_j148 {gs : List String} {ro : pm_RO} {n : Nat} {w w1 : Nat → va_E} {b : Nat} {u : rg_U} {F : Nat} {l1 : Int32} {l2 : Int32} {l3 : Int32} {l4 : Int32} {l5 : Int32} {l6 : Int32} {l7 : Int32} {z : ((Int32 × Int32 × Int32 × rg_U) ⊕ ((Int32 × rg_U) ⊕ (Int32 × rg_U)))} {Q : Option Value → Nat → (Nat → va_E) → Prop} (hR : rg shM b u n w1) (hk : rg_k b shM.length w w1) (h : g_X10_history_j148 F l1 l2 l3 l4 l5 l6 l7 u = some z) (hc : ∀ s', z = .inl s' → ∀ w1, rg shM b s'.2.2.2 n w1 → rg_k b shM.length w w1 → pm_X gs ro M_X10_history 8 0 0 0 0 61 [some (.ref (b + 0)), some (.int l1), some (.int l2), some (.int l3), some (.int l4), some (.int s'.1), some (.int s'.2.1), some (.int s'.2.2.1)] [] n w1 Q) (he0 : ∀ r', z = .inr (Sum.inl r') → ∀ w1, rg shM b r'.2 n w1 → rg_k b shM.length w w1 → pm_X gs ro M_X10_history 8 0 0 0 0 115 [some (.ref (b + 0)), some (.int l1), none, some (.int l3), none, none, none, some (.int r'.1)] [] n w1 Q) (he1 : ∀ r', z = .inr (Sum.inr r') → ∀ w1, rg shM b r'.2 n w1 → rg_k b shM.length w w1 → pm_X gs ro M_X10_history 8 0 0 0 0 154 [none, none, some (.int l2), none, none, some (.int r'.1), none, none] [] n w1 Q) : pm_X gs ro M_X10_history 8 0 0 0 0 148 [some (.ref (b + 0)), some (.int l1), some (.int l2), some (.int l3), some (.int l4), some (.int l5), some (.int l6), some (.int l7)] [] n w1 Q := by
  unfold g_X10_history_j148 at h
  refine pm_iinc (v := (l7 + 1)) dX10_history_148 rfl rfl (by decide) rfl rfl ?_
  refine pm_goto (tgt := 61) dX10_history_151 (by decide) ?_
  refine pm_lw (L' := [some (.ref (b + 0)), some (.int l1), some (.int l2), some (.int l3), some (.int l4), some (.int l5), some (.int l6), some (.int (l7 + 1))]) ⟨Or.inr rfl, Or.inr rfl, Or.inr rfl, Or.inr rfl, Or.inr rfl, Or.inr rfl, Or.inr rfl, Or.inr rfl, trivial⟩ ?_
  exact hc _ (Option.some.inj h).symm _ hR hk
def g_X10_history_l61 (F : Nat) (l1 : Int32) (l2 : Int32) (l3 : Int32) (l4 : Int32) (l5 : Int32) (l6 : Int32) (l7 : Int32) (u : rg_U) : Option ((Int32 × Int32 × Int32 × rg_U) ⊕ ((Int32 × rg_U) ⊕ (Int32 × rg_U))) :=
  ck (inb l4 5) (if (rA u 21 l4) < l7 then (some (.inr (Sum.inr (l5, u)))) else (ob (g_X10_lays F l4 l7 u) (fun r15 => ck (inb (80 + l1) 134) (if (rA r15 31 (80 + l1)) = l6 then (g_X10_history_j148 F l1 l2 l3 l4 l5 l6 l7 r15) else (ck (inb (80 + l1) 134) (if l5 = l2 then (some (.inr (Sum.inl (l7, r15)))) else (g_X10_history_j148 F l1 l2 l3 l4 (l5 + 1) (rA r15 31 (80 + l1)) l7 r15)))))))
set_option maxHeartbeats 4000000 in
set_option maxRecDepth 100000 in
theorem k_X10_history_l61 {gs : List String} {ro : pm_RO} {n : Nat} {w w1 : Nat → va_E} {b : Nat} {u : rg_U} {F : Nat} {l1 : Int32} {l2 : Int32} {l3 : Int32} {l4 : Int32} {l5 : Int32} {l6 : Int32} {l7 : Int32} {z : (Int32 × Int32 × Int32 × rg_U) ⊕ ((Int32 × rg_U) ⊕ (Int32 × rg_U))} {Q : Option Value → Nat → (Nat → va_E) → Prop} (hR : rg shM b u n w1) (hk : rg_k b shM.length w w1) (h : g_X10_history_l61 F l1 l2 l3 l4 l5 l6 l7 u = some z) (hc : ∀ s', z = .inl s' → ∀ w1, rg shM b s'.2.2.2 n w1 → rg_k b shM.length w w1 → pm_X gs ro M_X10_history 8 0 0 0 0 61 [some (.ref (b + 0)), some (.int l1), some (.int l2), some (.int l3), some (.int l4), some (.int s'.1), some (.int s'.2.1), some (.int s'.2.2.1)] [] n w1 Q) (he0 : ∀ r', z = .inr (Sum.inl r') → ∀ w1, rg shM b r'.2 n w1 → rg_k b shM.length w w1 → pm_X gs ro M_X10_history 8 0 0 0 0 115 [some (.ref (b + 0)), some (.int l1), none, some (.int l3), none, none, none, some (.int r'.1)] [] n w1 Q) (he1 : ∀ r', z = .inr (Sum.inr r') → ∀ w1, rg shM b r'.2 n w1 → rg_k b shM.length w w1 → pm_X gs ro M_X10_history 8 0 0 0 0 154 [none, none, some (.int l2), none, none, some (.int r'.1), none, none] [] n w1 Q) : pm_X gs ro M_X10_history 8 0 0 0 0 61 [some (.ref (b + 0)), some (.int l1), some (.int l2), some (.int l3), some (.int l4), some (.int l5), some (.int l6), some (.int l7)] [] n w1 Q := by
  unfold g_X10_history_l61 at h
  refine pm_iload dX10_history_61 rfl ?_
  refine pm_aload_n dX10_history_63 rfl ?_
  refine dx_gr (j := 0) (o := 21) hR dX10_history_64 fl_X10_78 rfl rfl ?_
  refine pm_iload dX10_history_67 rfl ?_
  obtain ⟨c13, h⟩ := ck_some h
  refine dx_al (j := 21) hR dX10_history_69 rfl (vp_in_iff.mpr c13) ?_
  refine pm_icmp_gt (tgt := 154) dX10_history_70 (by decide) (fun c14 => ?_) (fun c14 => ?_)
  · replace h := it_t c14 h
    refine pm_lw (L' := [none, none, some (.int l2), none, none, some (.int l5), none, none]) ⟨Or.inl rfl, Or.inl rfl, Or.inr rfl, Or.inl rfl, Or.inl rfl, Or.inr rfl, Or.inl rfl, Or.inl rfl, trivial⟩ ?_
    exact he1 _ (Option.some.inj h).symm _ hR hk
  · replace h := it_f c14 h
    refine pm_aload_n dX10_history_73 rfl ?_
    refine pm_iload dX10_history_74 rfl ?_
    refine pm_iload dX10_history_76 rfl ?_
    obtain ⟨r15, h16, h⟩ := ob_some h
    refine dx_cVv (j := 0) (M := M_X10_history) (Mc := M_X10_lays) (dc := 7) (As := [.int l4, .int l7]) (st := []) hR hk dX10_history_78 ml_X10_286 ⟨TX10, 55, rfl⟩ rfl (by decide) (Nat.le_of_ble_eq_true rfl) rfl (k_X10_lays hR h16) (fun w17 hR18 hk19 => ?_)
    refine pm_aload_n dX10_history_81 rfl ?_
    refine dx_gr (j := 0) (o := 31) hR18 dX10_history_82 fl_X10_114 rfl rfl ?_
    refine pm_bipush (v := 80) dX10_history_85 (by decide) ?_
    refine pm_iload_n dX10_history_87 rfl ?_
    refine pm_iadd dX10_history_88 ?_
    obtain ⟨c20, h⟩ := ck_some h
    refine dx_al (j := 31) hR18 dX10_history_89 rfl (vp_in_iff.mpr c20) ?_
    refine pm_iload dX10_history_90 rfl ?_
    refine pm_icmp_ne (tgt := 98) dX10_history_92 (by decide) (fun c21 => ?_) (fun c21 => ?_)
    · replace h := it_f c21 h
      refine pm_aload_n dX10_history_98 rfl ?_
      refine dx_gr (j := 0) (o := 31) hR18 dX10_history_99 fl_X10_114 rfl rfl ?_
      refine pm_bipush (v := 80) dX10_history_102 (by decide) ?_
      refine pm_iload_n dX10_history_104 rfl ?_
      refine pm_iadd dX10_history_105 ?_
      obtain ⟨c22, h⟩ := ck_some h
      refine dx_al (j := 31) hR18 dX10_history_106 rfl (vp_in_iff.mpr c22) ?_
      refine pm_istore dX10_history_107 (by decide) rfl rfl ?_
      refine pm_iload dX10_history_109 rfl ?_
      refine pm_iload_n dX10_history_111 rfl ?_
      refine pm_icmp_ne (tgt := 145) dX10_history_112 (by decide) (fun c23 => ?_) (fun c23 => ?_)
      · replace h := it_f c23 h
        refine pm_iinc (v := (l5 + 1)) dX10_history_145 rfl rfl (by decide) rfl rfl ?_
        exact k_X10_history_j148 hR18 hk19 h hc he0 he1
      · replace h := it_t c23 h
        refine pm_lw (L' := [some (.ref (b + 0)), some (.int l1), none, some (.int l3), none, none, none, some (.int l7)]) ⟨Or.inr rfl, Or.inr rfl, Or.inl rfl, Or.inr rfl, Or.inl rfl, Or.inl rfl, Or.inl rfl, Or.inr rfl, trivial⟩ ?_
        exact he0 _ (Option.some.inj h).symm _ hR18 hk19
    · replace h := it_t c21 h
      refine pm_goto (tgt := 148) dX10_history_95 (by decide) ?_
      exact k_X10_history_j148 hR18 hk19 h hc he0 he1
def g_X10_history_j37 (F : Nat) (l1 : Int32) (l2 : Int32) (l3 : Int32) (l4 : Int32) (u : rg_U) : Option (Int32 × rg_U) :=
  if (-1) ≤ l2 then (ob (g_X10_simBegins F l4 u) (fun r8 => ob (lp (fun (s : (Int32 × Int32 × Int32 × rg_U)) => g_X10_history_l61 F l1 l2 l3 l4 s.1 s.2.1 s.2.2.1 s.2.2.2) F ((0 : Int32), (0 : Int32), (0 : Int32), r8)) (fun r24 => os r24 (fun r26 => if l3 = 0 then (some (r26.1, r26.2)) else (if l3 = 1 then (ck (inb (0 + l1) 134) (some ((rA r26.2 31 (0 + l1)), r26.2))) else (ck (inb (40 + l1) 134) (some ((rA r26.2 31 (40 + l1)), r26.2))))) (fun r27 => if l2 = (-1) then (some (r27.1, r27.2)) else (some ((-1000001), r27.2)))))) else (some ((-1000001), u))
set_option maxHeartbeats 4000000 in
set_option maxRecDepth 100000 in
theorem k_X10_history_j37 {gs : List String} {ro : pm_RO} {n : Nat} {w w1 : Nat → va_E} {b : Nat} {u : rg_U} {F : Nat} {l1 : Int32} {l2 : Int32} {l3 : Int32} {l4 : Int32} {z : (Int32 × rg_U)} (hR : rg shM b u n w1) (hk : rg_k b shM.length w w1) (h : g_X10_history_j37 F l1 l2 l3 l4 u = some z) : pm_X gs ro M_X10_history 8 0 0 0 0 37 [some (.ref (b + 0)), some (.int l1), some (.int l2), some (.int l3), some (.int l4), none, none, none] [] n w1 (rg_post shM b n w (some (.int z.1)) z.2) := by
  unfold g_X10_history_j37 at h
  refine pm_iload_n dX10_history_37 rfl ?_
  refine pm_iconst (v := (-1)) dX10_history_38 (by decide) ?_
  refine pm_icmp_ge (tgt := 46) dX10_history_39 (by decide) (fun c7 => ?_) (fun c7 => ?_)
  · replace h := it_t c7 h
    refine pm_iconst (v := 0) dX10_history_46 (by decide) ?_
    refine pm_istore dX10_history_47 (by decide) rfl rfl ?_
    refine pm_iconst (v := 0) dX10_history_49 (by decide) ?_
    refine pm_istore dX10_history_50 (by decide) rfl rfl ?_
    refine pm_aload_n dX10_history_52 rfl ?_
    refine pm_iload dX10_history_53 rfl ?_
    obtain ⟨r8, h9, h⟩ := ob_some h
    refine dx_cVv (j := 0) (M := M_X10_history) (Mc := M_X10_simBegins) (dc := 3) (As := [.int l4]) (st := []) hR hk dX10_history_55 ml_X10_270 ⟨TX10, 55, rfl⟩ rfl (by decide) (Nat.le_of_ble_eq_true rfl) rfl (k_X10_simBegins hR h9) (fun w10 hR11 hk12 => ?_)
    refine pm_iconst (v := 0) dX10_history_58 (by decide) ?_
    refine pm_istore dX10_history_59 (by decide) rfl rfl ?_
    obtain ⟨r24, h25, h⟩ := ob_some h
    refine lp_sound (P := fun (s : (Int32 × Int32 × Int32 × rg_U)) => ∀ w1, rg shM b s.2.2.2 n w1 → rg_k b shM.length w w1 → pm_X gs ro M_X10_history 8 0 0 0 0 61 [some (.ref (b + 0)), some (.int l1), some (.int l2), some (.int l3), some (.int l4), some (.int s.1), some (.int s.2.1), some (.int s.2.2.1)] [] n w1 (rg_post shM b n w (some (.int z.1)) z.2)) (E := (Sum.elim (fun (r : (Int32 × rg_U)) => ∀ w1, rg shM b r.2 n w1 → rg_k b shM.length w w1 → pm_X gs ro M_X10_history 8 0 0 0 0 115 [some (.ref (b + 0)), some (.int l1), none, some (.int l3), none, none, none, some (.int r.1)] [] n w1 (rg_post shM b n w (some (.int z.1)) z.2)) (fun (r : (Int32 × rg_U)) => ∀ w1, rg shM b r.2 n w1 → rg_k b shM.length w w1 → pm_X gs ro M_X10_history 8 0 0 0 0 154 [none, none, some (.int l2), none, none, some (.int r.1), none, none] [] n w1 (rg_post shM b n w (some (.int z.1)) z.2)))) (fun s x hx hc he w1 hR1 hk1 => k_X10_history_l61 hR1 hk1 hx hc (fun r q => he (Sum.inl r) q) (fun r q => he (Sum.inr r) q)) F _ r24 h25 ?_ _ hR11 hk12
    cases r24 with
    | inl r26 =>
      replace h := os_l h
      intro w28 hR29 hk30
      refine pm_iload_n dX10_history_115 rfl ?_
      refine pm_if_ne (tgt := 124) dX10_history_116 (by decide) (fun c31 => ?_) (fun c31 => ?_)
      · replace h := it_f c31 h
        refine pm_aload_n dX10_history_124 rfl ?_
        refine dx_gr (j := 0) (o := 31) hR29 dX10_history_125 fl_X10_114 rfl rfl ?_
        refine pm_iload_n dX10_history_128 rfl ?_
        refine pm_iconst (v := 1) dX10_history_129 (by decide) ?_
        refine pm_icmp_ne (tgt := 139) dX10_history_130 (by decide) (fun c32 => ?_) (fun c32 => ?_)
        · replace h := it_f c32 h
          refine pm_bipush (v := 40) dX10_history_139 (by decide) ?_
          refine pm_iload_n dX10_history_141 rfl ?_
          refine pm_iadd dX10_history_142 ?_
          obtain ⟨c33, h⟩ := ck_some h
          refine dx_al (j := 31) hR29 dX10_history_143 rfl (vp_in_iff.mpr c33) ?_
          cases h
          exact pm_iret dX10_history_144 rfl (Nat.le_refl _) (Nat.le_refl _) ⟨rfl, rfl, hR29, hk30⟩
        · replace h := it_t c32 h
          refine pm_iconst (v := 0) dX10_history_133 (by decide) ?_
          refine pm_iload_n dX10_history_134 rfl ?_
          refine pm_iadd dX10_history_135 ?_
          refine pm_goto (tgt := 143) dX10_history_136 (by decide) ?_
          obtain ⟨c34, h⟩ := ck_some h
          refine dx_al (j := 31) hR29 dX10_history_143 rfl (vp_in_iff.mpr c34) ?_
          cases h
          exact pm_iret dX10_history_144 rfl (Nat.le_refl _) (Nat.le_refl _) ⟨rfl, rfl, hR29, hk30⟩
      · replace h := it_t c31 h
        refine pm_iload dX10_history_119 rfl ?_
        refine pm_goto (tgt := 144) dX10_history_121 (by decide) ?_
        cases h
        exact pm_iret dX10_history_144 rfl (Nat.le_refl _) (Nat.le_refl _) ⟨rfl, rfl, hR29, hk30⟩
    | inr r27 =>
      replace h := os_r h
      intro w35 hR36 hk37
      refine pm_iload_n dX10_history_154 rfl ?_
      refine pm_iconst (v := (-1)) dX10_history_155 (by decide) ?_
      refine pm_icmp_ne (tgt := 164) dX10_history_156 (by decide) (fun c38 => ?_) (fun c38 => ?_)
      · replace h := it_f c38 h
        refine pm_ldcw (v := (-1000001)) dX10_history_164 kc_X10_304 ?_
        cases h
        exact pm_iret dX10_history_167 rfl (Nat.le_refl _) (Nat.le_refl _) ⟨rfl, rfl, hR36, hk37⟩
      · replace h := it_t c38 h
        refine pm_iload dX10_history_159 rfl ?_
        refine pm_goto (tgt := 167) dX10_history_161 (by decide) ?_
        cases h
        exact pm_iret dX10_history_167 rfl (Nat.le_refl _) (Nat.le_refl _) ⟨rfl, rfl, hR36, hk37⟩
  · replace h := it_f c7 h
    refine pm_ldcw (v := (-1000001)) dX10_history_42 kc_X10_304 ?_
    cases h
    exact pm_iret dX10_history_45 rfl (Nat.le_refl _) (Nat.le_refl _) ⟨rfl, rfl, hR, hk⟩
def g_X10_history (F : Nat) (x1 : Int32) (x2 : Int32) (x3 : Int32) (u : rg_U) : Option (Int32 × rg_U) :=
  ob (g_X10_runAsked F u) (fun r1 => ck (inb r1 5) (if (rA u 5 r1) = 0 then (some ((-1000001), u)) else (if (g_X10_isPlace x1) = 0 then (some ((-1000001), u)) else (if x2 = (-1) then (g_X10_history_j37 F x1 x2 x3 r1 u) else (if (g_X10_isIn x3 0 2) = 0 then (some ((-1000001), u)) else (g_X10_history_j37 F x1 x2 x3 r1 u))))))
set_option maxHeartbeats 4000000 in
set_option maxRecDepth 100000 in
theorem k_X10_history {gs : List String} {ro : pm_RO} {n : Nat} {w : Nat → va_E} {b : Nat} {u : rg_U} {F : Nat} {x1 : Int32} {x2 : Int32} {x3 : Int32} {z : (Int32 × rg_U)} (hR : rg shM b u n w) (h : g_X10_history F x1 x2 x3 u = some z) : pm_Met gs ro M_X10_history 8 0 0 [.ref (b + 0), .int x1, .int x2, .int x3] n w (rg_post shM b n w (some (.int z.1)) z.2) := by
  unfold g_X10_history at h
  refine pm_ofX in_X10_history (Nat.le_of_ble_eq_true rfl) rfl (L := [some (.ref (b + 0)), some (.int x1), some (.int x2), some (.int x3), none, none, none, none]) rfl ?_
  refine pm_aload_n dX10_history_0 rfl ?_
  obtain ⟨r1, h2, h⟩ := ob_some h
  refine dx_cVp (j := 0) (M := M_X10_history) (Mc := M_X10_runAsked) (dc := 0) (As := []) (st := []) hR dX10_history_1 ml_X10_289 ⟨TX10, 55, rfl⟩ rfl (by decide) (Nat.le_of_ble_eq_true rfl) rfl (k_X10_runAsked hR h2) ?_
  refine pm_istore dX10_history_4 (by decide) rfl rfl ?_
  refine pm_aload_n dX10_history_6 rfl ?_
  refine dx_gr (j := 0) (o := 5) hR dX10_history_7 fl_X10_29 rfl rfl ?_
  refine pm_iload dX10_history_10 rfl ?_
  obtain ⟨c3, h⟩ := ck_some h
  refine dx_zl (j := 5) hR dX10_history_12 rfl (vp_in_iff.mpr c3) ?_
  refine pm_if_eq (tgt := 42) dX10_history_13 (by decide) (fun c4 => ?_) (fun c4 => ?_)
  · replace h := it_t c4 h
    refine pm_ldcw (v := (-1000001)) dX10_history_42 kc_X10_304 ?_
    cases h
    exact pm_iret dX10_history_45 rfl (Nat.le_refl _) (Nat.le_refl _) ⟨rfl, rfl, hR, rg_k0⟩
  · replace h := it_f c4 h
    refine pm_iload_n dX10_history_16 rfl ?_
    refine dx_cSp (M := M_X10_history) (Mc := M_X10_isPlace) (dc := 1) (As := [.int x1]) (st := []) dX10_history_17 ml_X10_169 (by decide) (Nat.le_of_ble_eq_true rfl) rfl (k_X10_isPlace rfl) ?_
    refine pm_if_eq (tgt := 42) dX10_history_20 (by decide) (fun c5 => ?_) (fun c5 => ?_)
    · replace h := it_t c5 h
      refine pm_ldcw (v := (-1000001)) dX10_history_42 kc_X10_304 ?_
      cases h
      exact pm_iret dX10_history_45 rfl (Nat.le_refl _) (Nat.le_refl _) ⟨rfl, rfl, hR, rg_k0⟩
    · replace h := it_f c5 h
      refine pm_iload_n dX10_history_23 rfl ?_
      refine pm_iconst (v := (-1)) dX10_history_24 (by decide) ?_
      refine pm_icmp_eq (tgt := 37) dX10_history_25 (by decide) (fun c6 => ?_) (fun c6 => ?_)
      · replace h := it_t c6 h
        exact k_X10_history_j37 hR rg_k0 h
      · replace h := it_f c6 h
        refine pm_iload_n dX10_history_28 rfl ?_
        refine pm_iconst (v := 0) dX10_history_29 (by decide) ?_
        refine pm_iconst (v := 2) dX10_history_30 (by decide) ?_
        refine dx_cSp (M := M_X10_history) (Mc := M_X10_isIn) (dc := 0) (As := [.int x3, .int 0, .int 2]) (st := []) dX10_history_31 ml_X10_138 (by decide) (Nat.le_of_ble_eq_true rfl) rfl (k_X10_isIn rfl) ?_
        refine pm_if_eq (tgt := 42) dX10_history_34 (by decide) (fun c39 => ?_) (fun c39 => ?_)
        · replace h := it_t c39 h
          refine pm_ldcw (v := (-1000001)) dX10_history_42 kc_X10_304 ?_
          cases h
          exact pm_iret dX10_history_45 rfl (Nat.le_refl _) (Nat.le_refl _) ⟨rfl, rfl, hR, rg_k0⟩
        · replace h := it_f c39 h
          exact k_X10_history_j37 hR rg_k0 h
def g_X10_done_j61 (F : Nat) (l1 : Int32) (l2 : Int32) (l5 : Int32) (s0 : Int32) (s1 : Int32) (u : rg_U) : Option ((Int32 × Int32 × rg_U) ⊕ (Int32 × rg_U)) :=
  ob (g_X10_simStep F u) (fun r15 => some (.inl ((s1 + (g_X10_one s0)), (l5 + 1), r15)))
set_option maxHeartbeats 4000000 in
set_option maxRecDepth 100000 in
theorem k_X10_done_j61 {gs : List String} {ro : pm_RO} {n : Nat} {w w1 : Nat → va_E} {b : Nat} {u : rg_U} {F : Nat} {l1 : Int32} {l2 : Int32} {l5 : Int32} {s0 : Int32} {s1 : Int32} {z : ((Int32 × Int32 × rg_U) ⊕ (Int32 × rg_U))} {Q : Option Value → Nat → (Nat → va_E) → Prop} (hR : rg shM b u n w1) (hk : rg_k b shM.length w w1) (h : g_X10_done_j61 F l1 l2 l5 s0 s1 u = some z) (hc : ∀ s', z = .inl s' → ∀ w1, rg shM b s'.2.2 n w1 → rg_k b shM.length w w1 → pm_X gs ro M_X10_done 7 0 0 0 0 37 [some (.ref (b + 0)), some (.int l1), some (.int l2), none, some (.int s'.1), some (.int s'.2.1)] [] n w1 Q) (he0 : ∀ r', z = .inr r' → ∀ w1, rg shM b r'.2 n w1 → rg_k b shM.length w w1 → pm_X gs ro M_X10_done 7 0 0 0 0 77 [none, none, none, none, some (.int r'.1), none] [] n w1 Q) : pm_X gs ro M_X10_done 7 0 0 0 0 61 [some (.ref (b + 0)), some (.int l1), some (.int l2), none, none, some (.int l5)] [.int s0, .int s1] n w1 Q := by
  unfold g_X10_done_j61 at h
  refine dx_cSp (M := M_X10_done) (Mc := M_X10_one) (dc := 0) (As := [.int s0]) (st := [.int s1]) dX10_done_61 ml_X10_154 (by decide) (Nat.le_of_ble_eq_true rfl) rfl (k_X10_one rfl) ?_
  refine pm_iadd dX10_done_64 ?_
  refine pm_istore dX10_done_65 (by decide) rfl rfl ?_
  refine pm_aload_n dX10_done_67 rfl ?_
  obtain ⟨r15, h16, h⟩ := ob_some h
  refine dx_cVv (j := 0) (M := M_X10_done) (Mc := M_X10_simStep) (dc := 6) (As := []) (st := []) hR hk dX10_done_68 ml_X10_273 ⟨TX10, 55, rfl⟩ rfl (by decide) (Nat.le_of_ble_eq_true rfl) rfl (k_X10_simStep hR h16) (fun w17 hR18 hk19 => ?_)
  refine pm_iinc (v := (l5 + 1)) dX10_done_71 rfl rfl (by decide) rfl rfl ?_
  refine pm_goto (tgt := 37) dX10_done_74 (by decide) ?_
  refine pm_lw (L' := [some (.ref (b + 0)), some (.int l1), some (.int l2), none, some (.int (s1 + (g_X10_one s0))), some (.int (l5 + 1))]) ⟨Or.inr rfl, Or.inr rfl, Or.inr rfl, Or.inl rfl, Or.inr rfl, Or.inr rfl, trivial⟩ ?_
  exact hc _ (Option.some.inj h).symm _ hR18 hk19
def g_X10_done_l37 (F : Nat) (l1 : Int32) (l2 : Int32) (l4 : Int32) (l5 : Int32) (u : rg_U) : Option ((Int32 × Int32 × rg_U) ⊕ (Int32 × rg_U)) :=
  if l1 ≤ l5 then (some (.inr (l4, u))) else (ck (inb 120 134) (if (rA u 31 120) = l2 then (g_X10_done_j61 F l1 l2 l5 1 l4 u) else (g_X10_done_j61 F l1 l2 l5 0 l4 u)))
set_option maxHeartbeats 4000000 in
set_option maxRecDepth 100000 in
theorem k_X10_done_l37 {gs : List String} {ro : pm_RO} {n : Nat} {w w1 : Nat → va_E} {b : Nat} {u : rg_U} {F : Nat} {l1 : Int32} {l2 : Int32} {l4 : Int32} {l5 : Int32} {z : (Int32 × Int32 × rg_U) ⊕ (Int32 × rg_U)} {Q : Option Value → Nat → (Nat → va_E) → Prop} (hR : rg shM b u n w1) (hk : rg_k b shM.length w w1) (h : g_X10_done_l37 F l1 l2 l4 l5 u = some z) (hc : ∀ s', z = .inl s' → ∀ w1, rg shM b s'.2.2 n w1 → rg_k b shM.length w w1 → pm_X gs ro M_X10_done 7 0 0 0 0 37 [some (.ref (b + 0)), some (.int l1), some (.int l2), none, some (.int s'.1), some (.int s'.2.1)] [] n w1 Q) (he0 : ∀ r', z = .inr r' → ∀ w1, rg shM b r'.2 n w1 → rg_k b shM.length w w1 → pm_X gs ro M_X10_done 7 0 0 0 0 77 [none, none, none, none, some (.int r'.1), none] [] n w1 Q) : pm_X gs ro M_X10_done 7 0 0 0 0 37 [some (.ref (b + 0)), some (.int l1), some (.int l2), none, some (.int l4), some (.int l5)] [] n w1 Q := by
  unfold g_X10_done_l37 at h
  refine pm_iload dX10_done_37 rfl ?_
  refine pm_iload_n dX10_done_39 rfl ?_
  refine pm_icmp_ge (tgt := 77) dX10_done_40 (by decide) (fun c12 => ?_) (fun c12 => ?_)
  · replace h := it_t c12 h
    refine pm_lw (L' := [none, none, none, none, some (.int l4), none]) ⟨Or.inl rfl, Or.inl rfl, Or.inl rfl, Or.inl rfl, Or.inr rfl, Or.inl rfl, trivial⟩ ?_
    exact he0 _ (Option.some.inj h).symm _ hR hk
  · replace h := it_f c12 h
    refine pm_iload dX10_done_43 rfl ?_
    refine pm_aload_n dX10_done_45 rfl ?_
    refine dx_gr (j := 0) (o := 31) hR dX10_done_46 fl_X10_114 rfl rfl ?_
    refine pm_bipush (v := 120) dX10_done_49 (by decide) ?_
    obtain ⟨c13, h⟩ := ck_some h
    refine dx_al (j := 31) hR dX10_done_51 rfl (vp_in_iff.mpr c13) ?_
    refine pm_iload_n dX10_done_52 rfl ?_
    refine pm_icmp_ne (tgt := 60) dX10_done_53 (by decide) (fun c14 => ?_) (fun c14 => ?_)
    · replace h := it_f c14 h
      refine pm_iconst (v := 0) dX10_done_60 (by decide) ?_
      refine pm_lw (L' := [some (.ref (b + 0)), some (.int l1), some (.int l2), none, none, some (.int l5)]) ⟨Or.inr rfl, Or.inr rfl, Or.inr rfl, Or.inl rfl, Or.inl rfl, Or.inr rfl, trivial⟩ ?_
      exact k_X10_done_j61 hR hk h hc he0
    · replace h := it_t c14 h
      refine pm_iconst (v := 1) dX10_done_56 (by decide) ?_
      refine pm_goto (tgt := 61) dX10_done_57 (by decide) ?_
      refine pm_lw (L' := [some (.ref (b + 0)), some (.int l1), some (.int l2), none, none, some (.int l5)]) ⟨Or.inr rfl, Or.inr rfl, Or.inr rfl, Or.inl rfl, Or.inl rfl, Or.inr rfl, trivial⟩ ?_
      exact k_X10_done_j61 hR hk h hc he0
def g_X10_done (F : Nat) (x1 : Int32) (x2 : Int32) (u : rg_U) : Option (Int32 × rg_U) :=
  ob (g_X10_isTime F x1 u) (fun r1 => if r1 = 0 then (some ((-2), u)) else (if (g_X10_isIn x2 0 64) = 0 then (some ((-2), u)) else (ob (g_X10_runAsked F u) (fun r5 => ob (g_X10_simBegins F r5 u) (fun r7 => ob (lp (fun (s : (Int32 × Int32 × rg_U)) => g_X10_done_l37 F x1 x2 s.1 s.2.1 s.2.2) F ((0 : Int32), (0 : Int32), r7)) (fun r20 => some (r20.1, r20.2)))))))
set_option maxHeartbeats 4000000 in
set_option maxRecDepth 100000 in
theorem k_X10_done {gs : List String} {ro : pm_RO} {n : Nat} {w : Nat → va_E} {b : Nat} {u : rg_U} {F : Nat} {x1 : Int32} {x2 : Int32} {z : (Int32 × rg_U)} (hR : rg shM b u n w) (h : g_X10_done F x1 x2 u = some z) : pm_Met gs ro M_X10_done 7 0 0 [.ref (b + 0), .int x1, .int x2] n w (rg_post shM b n w (some (.int z.1)) z.2) := by
  unfold g_X10_done at h
  refine pm_ofX in_X10_done (Nat.le_of_ble_eq_true rfl) rfl (L := [some (.ref (b + 0)), some (.int x1), some (.int x2), none, none, none]) rfl ?_
  refine pm_aload_n dX10_done_0 rfl ?_
  refine pm_iload_n dX10_done_1 rfl ?_
  obtain ⟨r1, h2, h⟩ := ob_some h
  refine dx_cVp (j := 0) (M := M_X10_done) (Mc := M_X10_isTime) (dc := 1) (As := [.int x1]) (st := []) hR dX10_done_2 ml_X10_301 ⟨TX10, 55, rfl⟩ rfl (by decide) (Nat.le_of_ble_eq_true rfl) rfl (k_X10_isTime hR h2) ?_
  refine pm_if_eq (tgt := 18) dX10_done_5 (by decide) (fun c3 => ?_) (fun c3 => ?_)
  · replace h := it_t c3 h
    refine pm_bipush (v := (-2)) dX10_done_18 (by decide) ?_
    cases h
    exact pm_iret dX10_done_20 rfl (Nat.le_refl _) (Nat.le_refl _) ⟨rfl, rfl, hR, rg_k0⟩
  · replace h := it_f c3 h
    refine pm_iload_n dX10_done_8 rfl ?_
    refine pm_iconst (v := 0) dX10_done_9 (by decide) ?_
    refine pm_bipush (v := 64) dX10_done_10 (by decide) ?_
    refine dx_cSp (M := M_X10_done) (Mc := M_X10_isIn) (dc := 0) (As := [.int x2, .int 0, .int 64]) (st := []) dX10_done_12 ml_X10_138 (by decide) (Nat.le_of_ble_eq_true rfl) rfl (k_X10_isIn rfl) ?_
    refine pm_if_ne (tgt := 21) dX10_done_15 (by decide) (fun c4 => ?_) (fun c4 => ?_)
    · replace h := it_f c4 h
      refine pm_aload_n dX10_done_21 rfl ?_
      obtain ⟨r5, h6, h⟩ := ob_some h
      refine dx_cVp (j := 0) (M := M_X10_done) (Mc := M_X10_runAsked) (dc := 0) (As := []) (st := []) hR dX10_done_22 ml_X10_289 ⟨TX10, 55, rfl⟩ rfl (by decide) (Nat.le_of_ble_eq_true rfl) rfl (k_X10_runAsked hR h6) ?_
      refine pm_istore_n dX10_done_25 (by decide) rfl rfl ?_
      refine pm_iconst (v := 0) dX10_done_26 (by decide) ?_
      refine pm_istore dX10_done_27 (by decide) rfl rfl ?_
      refine pm_aload_n dX10_done_29 rfl ?_
      refine pm_iload_n dX10_done_30 rfl ?_
      obtain ⟨r7, h8, h⟩ := ob_some h
      refine dx_cVv (j := 0) (M := M_X10_done) (Mc := M_X10_simBegins) (dc := 3) (As := [.int r5]) (st := []) hR rg_k0 dX10_done_31 ml_X10_270 ⟨TX10, 55, rfl⟩ rfl (by decide) (Nat.le_of_ble_eq_true rfl) rfl (k_X10_simBegins hR h8) (fun w9 hR10 hk11 => ?_)
      refine pm_iconst (v := 0) dX10_done_34 (by decide) ?_
      refine pm_istore dX10_done_35 (by decide) rfl rfl ?_
      refine pm_lw (L' := [some (.ref (b + 0)), some (.int x1), some (.int x2), none, some (.int 0), some (.int 0)]) ⟨Or.inr rfl, Or.inr rfl, Or.inr rfl, Or.inl rfl, Or.inr rfl, Or.inr rfl, trivial⟩ ?_
      obtain ⟨r20, h21, h⟩ := ob_some h
      refine lp_sound (P := fun (s : (Int32 × Int32 × rg_U)) => ∀ w1, rg shM b s.2.2 n w1 → rg_k b shM.length w w1 → pm_X gs ro M_X10_done 7 0 0 0 0 37 [some (.ref (b + 0)), some (.int x1), some (.int x2), none, some (.int s.1), some (.int s.2.1)] [] n w1 (rg_post shM b n w (some (.int z.1)) z.2)) (E := (fun (r : (Int32 × rg_U)) => ∀ w1, rg shM b r.2 n w1 → rg_k b shM.length w w1 → pm_X gs ro M_X10_done 7 0 0 0 0 77 [none, none, none, none, some (.int r.1), none] [] n w1 (rg_post shM b n w (some (.int z.1)) z.2))) (fun s x hx hc he w1 hR1 hk1 => k_X10_done_l37 hR1 hk1 hx hc (fun r q => he r q)) F _ r20 h21 ?_ _ hR10 hk11
      intro w22 hR23 hk24
      refine pm_iload dX10_done_77 rfl ?_
      cases h
      exact pm_iret dX10_done_79 rfl (Nat.le_refl _) (Nat.le_refl _) ⟨rfl, rfl, hR23, hk24⟩
    · replace h := it_t c4 h
      refine pm_bipush (v := (-2)) dX10_done_18 (by decide) ?_
      cases h
      exact pm_iret dX10_done_20 rfl (Nat.le_refl _) (Nat.le_refl _) ⟨rfl, rfl, hR, rg_k0⟩
def g_X10_call (F : Nat) (x1 : Int32) (x2 : Int32) (u : rg_U) : Option Int32 :=
  ob (g_X10_runAsked F u) (fun r1 => ck (inb r1 5) (if (rA u 5 r1) = 0 then (some (-1)) else (if x1 = (-1) then (ck (inb r1 5) (some (rA u 19 r1))) else (ck (inb r1 5) (if (g_X10_isIn x1 0 ((rA u 19 r1) - 1)) = 0 then (some (-1)) else (if x2 = 0 then (ck (inb ((100 * r1) + x1) 500) (some (rA u 16 ((100 * r1) + x1)))) else (if x2 = 1 then (ck (inb ((100 * r1) + x1) 500) (some (rA u 17 ((100 * r1) + x1)))) else (if x2 = 2 then (ck (inb ((100 * r1) + x1) 500) (some (rA u 18 ((100 * r1) + x1)))) else (some (-1))))))))))
set_option maxHeartbeats 4000000 in
set_option maxRecDepth 100000 in
theorem k_X10_call {gs : List String} {ro : pm_RO} {n : Nat} {w : Nat → va_E} {b : Nat} {u : rg_U} {F : Nat} {x1 : Int32} {x2 : Int32} {z : Int32} (hR : rg shM b u n w) (h : g_X10_call F x1 x2 u = some z) : pm_Met gs ro M_X10_call 1 0 0 [.ref (b + 0), .int x1, .int x2] n w (pm_p n w (some (.int z))) := by
  unfold g_X10_call at h
  refine pm_ofX in_X10_call (Nat.le_of_ble_eq_true rfl) rfl (L := [some (.ref (b + 0)), some (.int x1), some (.int x2), none, none]) rfl ?_
  refine pm_aload_n dX10_call_0 rfl ?_
  obtain ⟨r1, h2, h⟩ := ob_some h
  refine dx_cVp (j := 0) (M := M_X10_call) (Mc := M_X10_runAsked) (dc := 0) (As := []) (st := []) hR dX10_call_1 ml_X10_289 ⟨TX10, 55, rfl⟩ rfl (by decide) (Nat.le_of_ble_eq_true rfl) rfl (k_X10_runAsked hR h2) ?_
  refine pm_istore_n dX10_call_4 (by decide) rfl rfl ?_
  refine pm_aload_n dX10_call_5 rfl ?_
  refine dx_gr (j := 0) (o := 5) hR dX10_call_6 fl_X10_29 rfl rfl ?_
  refine pm_iload_n dX10_call_9 rfl ?_
  obtain ⟨c3, h⟩ := ck_some h
  refine dx_zl (j := 5) hR dX10_call_10 rfl (vp_in_iff.mpr c3) ?_
  refine pm_if_ne (tgt := 16) dX10_call_11 (by decide) (fun c4 => ?_) (fun c4 => ?_)
  · replace h := it_f c4 h
    refine pm_iload_n dX10_call_16 rfl ?_
    refine pm_iconst (v := (-1)) dX10_call_17 (by decide) ?_
    refine pm_icmp_ne (tgt := 28) dX10_call_18 (by decide) (fun c5 => ?_) (fun c5 => ?_)
    · replace h := it_f c5 h
      refine pm_iload_n dX10_call_28 rfl ?_
      refine pm_iconst (v := 0) dX10_call_29 (by decide) ?_
      refine pm_aload_n dX10_call_30 rfl ?_
      refine dx_gr (j := 0) (o := 19) hR dX10_call_31 fl_X10_72 rfl rfl ?_
      refine pm_iload_n dX10_call_34 rfl ?_
      obtain ⟨c6, h⟩ := ck_some h
      refine dx_al (j := 19) hR dX10_call_35 rfl (vp_in_iff.mpr c6) ?_
      refine pm_iconst (v := 1) dX10_call_36 (by decide) ?_
      refine pm_isub dX10_call_37 ?_
      refine dx_cSp (M := M_X10_call) (Mc := M_X10_isIn) (dc := 0) (As := [.int x1, .int 0, .int ((rA u 19 r1) - 1)]) (st := []) dX10_call_38 ml_X10_138 (by decide) (Nat.le_of_ble_eq_true rfl) rfl (k_X10_isIn rfl) ?_
      refine pm_if_ne (tgt := 46) dX10_call_41 (by decide) (fun c7 => ?_) (fun c7 => ?_)
      · replace h := it_f c7 h
        refine pm_bipush (v := 100) dX10_call_46 (by decide) ?_
        refine pm_iload_n dX10_call_48 rfl ?_
        refine pm_imul dX10_call_49 ?_
        refine pm_iload_n dX10_call_50 rfl ?_
        refine pm_iadd dX10_call_51 ?_
        refine pm_istore dX10_call_52 (by decide) rfl rfl ?_
        refine pm_iload_n dX10_call_54 rfl ?_
        refine pm_if_ne (tgt := 68) dX10_call_55 (by decide) (fun c8 => ?_) (fun c8 => ?_)
        · replace h := it_f c8 h
          refine pm_iload_n dX10_call_68 rfl ?_
          refine pm_iconst (v := 1) dX10_call_69 (by decide) ?_
          refine pm_icmp_ne (tgt := 83) dX10_call_70 (by decide) (fun c9 => ?_) (fun c9 => ?_)
          · replace h := it_f c9 h
            refine pm_iload_n dX10_call_83 rfl ?_
            refine pm_iconst (v := 2) dX10_call_84 (by decide) ?_
            refine pm_icmp_ne (tgt := 98) dX10_call_85 (by decide) (fun c10 => ?_) (fun c10 => ?_)
            · replace h := it_f c10 h
              refine pm_iconst (v := (-1)) dX10_call_98 (by decide) ?_
              cases h
              exact pm_iret dX10_call_99 rfl (Nat.le_refl _) (Nat.le_refl _) ⟨rfl, rfl, rfl⟩
            · replace h := it_t c10 h
              refine pm_aload_n dX10_call_88 rfl ?_
              refine dx_gr (j := 0) (o := 18) hR dX10_call_89 fl_X10_69 rfl rfl ?_
              refine pm_iload dX10_call_92 rfl ?_
              obtain ⟨c11, h⟩ := ck_some h
              refine dx_al (j := 18) hR dX10_call_94 rfl (vp_in_iff.mpr c11) ?_
              refine pm_goto (tgt := 99) dX10_call_95 (by decide) ?_
              cases h
              exact pm_iret dX10_call_99 rfl (Nat.le_refl _) (Nat.le_refl _) ⟨rfl, rfl, rfl⟩
          · replace h := it_t c9 h
            refine pm_aload_n dX10_call_73 rfl ?_
            refine dx_gr (j := 0) (o := 17) hR dX10_call_74 fl_X10_66 rfl rfl ?_
            refine pm_iload dX10_call_77 rfl ?_
            obtain ⟨c12, h⟩ := ck_some h
            refine dx_al (j := 17) hR dX10_call_79 rfl (vp_in_iff.mpr c12) ?_
            refine pm_goto (tgt := 99) dX10_call_80 (by decide) ?_
            cases h
            exact pm_iret dX10_call_99 rfl (Nat.le_refl _) (Nat.le_refl _) ⟨rfl, rfl, rfl⟩
        · replace h := it_t c8 h
          refine pm_aload_n dX10_call_58 rfl ?_
          refine dx_gr (j := 0) (o := 16) hR dX10_call_59 fl_X10_63 rfl rfl ?_
          refine pm_iload dX10_call_62 rfl ?_
          obtain ⟨c13, h⟩ := ck_some h
          refine dx_al (j := 16) hR dX10_call_64 rfl (vp_in_iff.mpr c13) ?_
          refine pm_goto (tgt := 99) dX10_call_65 (by decide) ?_
          cases h
          exact pm_iret dX10_call_99 rfl (Nat.le_refl _) (Nat.le_refl _) ⟨rfl, rfl, rfl⟩
      · replace h := it_t c7 h
        refine pm_iconst (v := (-1)) dX10_call_44 (by decide) ?_
        cases h
        exact pm_iret dX10_call_45 rfl (Nat.le_refl _) (Nat.le_refl _) ⟨rfl, rfl, rfl⟩
    · replace h := it_t c5 h
      refine pm_aload_n dX10_call_21 rfl ?_
      refine dx_gr (j := 0) (o := 19) hR dX10_call_22 fl_X10_72 rfl rfl ?_
      refine pm_iload_n dX10_call_25 rfl ?_
      obtain ⟨c14, h⟩ := ck_some h
      refine dx_al (j := 19) hR dX10_call_26 rfl (vp_in_iff.mpr c14) ?_
      cases h
      exact pm_iret dX10_call_27 rfl (Nat.le_refl _) (Nat.le_refl _) ⟨rfl, rfl, rfl⟩
  · replace h := it_t c4 h
    refine pm_iconst (v := (-1)) dX10_call_14 (by decide) ?_
    cases h
    exact pm_iret dX10_call_15 rfl (Nat.le_refl _) (Nat.le_refl _) ⟨rfl, rfl, rfl⟩
def g_X10_log (F : Nat) (x1 : Int32) (x2 : Int32) (u : rg_U) : Option Int32 :=
  ob (g_X10_runAsked F u) (fun r1 => ck (inb r1 5) (if (rA u 5 r1) = 0 then (some (-1000001)) else (if x1 = (-1) then (ck (inb r1 5) (some (rA u 15 r1))) else (ck (inb r1 5) (if (g_X10_isIn x1 0 ((rA u 15 r1) - 1)) = 0 then (some (-1000001)) else (if x2 = 0 then (ck (inb ((800 * r1) + x1) 4000) (some (rA u 10 ((800 * r1) + x1)))) else if x2 = 1 then (ck (inb ((800 * r1) + x1) 4000) (some (rA u 11 ((800 * r1) + x1)))) else if x2 = 2 then (ck (inb ((800 * r1) + x1) 4000) (some (rA u 12 ((800 * r1) + x1)))) else if x2 = 3 then (ck (inb ((800 * r1) + x1) 4000) (some (rA u 13 ((800 * r1) + x1)))) else if x2 = 4 then (ck (inb ((800 * r1) + x1) 4000) (some (rA u 14 ((800 * r1) + x1)))) else (some (-1000001))))))))
set_option maxHeartbeats 4000000 in
set_option maxRecDepth 100000 in
theorem k_X10_log {gs : List String} {ro : pm_RO} {n : Nat} {w : Nat → va_E} {b : Nat} {u : rg_U} {F : Nat} {x1 : Int32} {x2 : Int32} {z : Int32} (hR : rg shM b u n w) (h : g_X10_log F x1 x2 u = some z) : pm_Met gs ro M_X10_log 1 0 0 [.ref (b + 0), .int x1, .int x2] n w (pm_p n w (some (.int z))) := by
  unfold g_X10_log at h
  refine pm_ofX in_X10_log (Nat.le_of_ble_eq_true rfl) rfl (L := [some (.ref (b + 0)), some (.int x1), some (.int x2), none, none]) rfl ?_
  refine pm_aload_n dX10_log_0 rfl ?_
  obtain ⟨r1, h2, h⟩ := ob_some h
  refine dx_cVp (j := 0) (M := M_X10_log) (Mc := M_X10_runAsked) (dc := 0) (As := []) (st := []) hR dX10_log_1 ml_X10_289 ⟨TX10, 55, rfl⟩ rfl (by decide) (Nat.le_of_ble_eq_true rfl) rfl (k_X10_runAsked hR h2) ?_
  refine pm_istore_n dX10_log_4 (by decide) rfl rfl ?_
  refine pm_aload_n dX10_log_5 rfl ?_
  refine dx_gr (j := 0) (o := 5) hR dX10_log_6 fl_X10_29 rfl rfl ?_
  refine pm_iload_n dX10_log_9 rfl ?_
  obtain ⟨c3, h⟩ := ck_some h
  refine dx_zl (j := 5) hR dX10_log_10 rfl (vp_in_iff.mpr c3) ?_
  refine pm_if_ne (tgt := 18) dX10_log_11 (by decide) (fun c4 => ?_) (fun c4 => ?_)
  · replace h := it_f c4 h
    refine pm_iload_n dX10_log_18 rfl ?_
    refine pm_iconst (v := (-1)) dX10_log_19 (by decide) ?_
    refine pm_icmp_ne (tgt := 30) dX10_log_20 (by decide) (fun c5 => ?_) (fun c5 => ?_)
    · replace h := it_f c5 h
      refine pm_iload_n dX10_log_30 rfl ?_
      refine pm_iconst (v := 0) dX10_log_31 (by decide) ?_
      refine pm_aload_n dX10_log_32 rfl ?_
      refine dx_gr (j := 0) (o := 15) hR dX10_log_33 fl_X10_60 rfl rfl ?_
      refine pm_iload_n dX10_log_36 rfl ?_
      obtain ⟨c6, h⟩ := ck_some h
      refine dx_al (j := 15) hR dX10_log_37 rfl (vp_in_iff.mpr c6) ?_
      refine pm_iconst (v := 1) dX10_log_38 (by decide) ?_
      refine pm_isub dX10_log_39 ?_
      refine dx_cSp (M := M_X10_log) (Mc := M_X10_isIn) (dc := 0) (As := [.int x1, .int 0, .int ((rA u 15 r1) - 1)]) (st := []) dX10_log_40 ml_X10_138 (by decide) (Nat.le_of_ble_eq_true rfl) rfl (k_X10_isIn rfl) ?_
      refine pm_if_ne (tgt := 50) dX10_log_43 (by decide) (fun c7 => ?_) (fun c7 => ?_)
      · replace h := it_f c7 h
        refine pm_sipush (v := 800) dX10_log_50 (by decide) ?_
        refine pm_iload_n dX10_log_53 rfl ?_
        refine pm_imul dX10_log_54 ?_
        refine pm_iload_n dX10_log_55 rfl ?_
        refine pm_iadd dX10_log_56 ?_
        refine pm_istore dX10_log_57 (by decide) rfl rfl ?_
        refine pm_iload_n dX10_log_59 rfl ?_
        by_cases t8 : x2 = 0
        · replace h := it_t t8 h
          refine pm_tableIn (off := 36) (tgt := 96) dX10_log_60 (by rw [t8]; decide) (by rw [t8]; decide) (by rw [t8]; rfl) (by decide) ?_
          refine pm_aload_n dX10_log_96 rfl ?_
          refine dx_gr (j := 0) (o := 10) hR dX10_log_97 fl_X10_45 rfl rfl ?_
          refine pm_iload dX10_log_100 rfl ?_
          obtain ⟨c9, h⟩ := ck_some h
          refine dx_al (j := 10) hR dX10_log_102 rfl (vp_in_iff.mpr c9) ?_
          cases h
          exact pm_iret dX10_log_103 rfl (Nat.le_refl _) (Nat.le_refl _) ⟨rfl, rfl, rfl⟩
        replace h := it_f t8 h
        by_cases t10 : x2 = 1
        · replace h := it_t t10 h
          refine pm_tableIn (off := 44) (tgt := 104) dX10_log_60 (by rw [t10]; decide) (by rw [t10]; decide) (by rw [t10]; rfl) (by decide) ?_
          refine pm_aload_n dX10_log_104 rfl ?_
          refine dx_gr (j := 0) (o := 11) hR dX10_log_105 fl_X10_48 rfl rfl ?_
          refine pm_iload dX10_log_108 rfl ?_
          obtain ⟨c11, h⟩ := ck_some h
          refine dx_al (j := 11) hR dX10_log_110 rfl (vp_in_iff.mpr c11) ?_
          cases h
          exact pm_iret dX10_log_111 rfl (Nat.le_refl _) (Nat.le_refl _) ⟨rfl, rfl, rfl⟩
        replace h := it_f t10 h
        by_cases t12 : x2 = 2
        · replace h := it_t t12 h
          refine pm_tableIn (off := 52) (tgt := 112) dX10_log_60 (by rw [t12]; decide) (by rw [t12]; decide) (by rw [t12]; rfl) (by decide) ?_
          refine pm_aload_n dX10_log_112 rfl ?_
          refine dx_gr (j := 0) (o := 12) hR dX10_log_113 fl_X10_51 rfl rfl ?_
          refine pm_iload dX10_log_116 rfl ?_
          obtain ⟨c13, h⟩ := ck_some h
          refine dx_al (j := 12) hR dX10_log_118 rfl (vp_in_iff.mpr c13) ?_
          cases h
          exact pm_iret dX10_log_119 rfl (Nat.le_refl _) (Nat.le_refl _) ⟨rfl, rfl, rfl⟩
        replace h := it_f t12 h
        by_cases t14 : x2 = 3
        · replace h := it_t t14 h
          refine pm_tableIn (off := 60) (tgt := 120) dX10_log_60 (by rw [t14]; decide) (by rw [t14]; decide) (by rw [t14]; rfl) (by decide) ?_
          refine pm_aload_n dX10_log_120 rfl ?_
          refine dx_gr (j := 0) (o := 13) hR dX10_log_121 fl_X10_54 rfl rfl ?_
          refine pm_iload dX10_log_124 rfl ?_
          obtain ⟨c15, h⟩ := ck_some h
          refine dx_al (j := 13) hR dX10_log_126 rfl (vp_in_iff.mpr c15) ?_
          cases h
          exact pm_iret dX10_log_127 rfl (Nat.le_refl _) (Nat.le_refl _) ⟨rfl, rfl, rfl⟩
        replace h := it_f t14 h
        by_cases t16 : x2 = 4
        · replace h := it_t t16 h
          refine pm_tableIn (off := 68) (tgt := 128) dX10_log_60 (by rw [t16]; decide) (by rw [t16]; decide) (by rw [t16]; rfl) (by decide) ?_
          refine pm_aload_n dX10_log_128 rfl ?_
          refine dx_gr (j := 0) (o := 14) hR dX10_log_129 fl_X10_57 rfl rfl ?_
          refine pm_iload dX10_log_132 rfl ?_
          obtain ⟨c17, h⟩ := ck_some h
          refine dx_al (j := 14) hR dX10_log_134 rfl (vp_in_iff.mpr c17) ?_
          cases h
          exact pm_iret dX10_log_135 rfl (Nat.le_refl _) (Nat.le_refl _) ⟨rfl, rfl, rfl⟩
        replace h := it_f t16 h
        refine pm_tableOut (tgt := 136) dX10_log_60 (by have h0 := lv_neT t8 (show (0 : Int32).toInt = 0 from by decide); have h1 := lv_neT t10 (show (1 : Int32).toInt = 1 from by decide); have h2 := lv_neT t12 (show (2 : Int32).toInt = 2 from by decide); have h3 := lv_neT t14 (show (3 : Int32).toInt = 3 from by decide); have h4 := lv_neT t16 (show (4 : Int32).toInt = 4 from by decide); omega) (by decide) ?_
        refine pm_ldcw (v := (-1000001)) dX10_log_136 kc_X10_304 ?_
        cases h
        exact pm_iret dX10_log_139 rfl (Nat.le_refl _) (Nat.le_refl _) ⟨rfl, rfl, rfl⟩
      · replace h := it_t c7 h
        refine pm_ldcw (v := (-1000001)) dX10_log_46 kc_X10_304 ?_
        cases h
        exact pm_iret dX10_log_49 rfl (Nat.le_refl _) (Nat.le_refl _) ⟨rfl, rfl, rfl⟩
    · replace h := it_t c5 h
      refine pm_aload_n dX10_log_23 rfl ?_
      refine dx_gr (j := 0) (o := 15) hR dX10_log_24 fl_X10_60 rfl rfl ?_
      refine pm_iload_n dX10_log_27 rfl ?_
      obtain ⟨c18, h⟩ := ck_some h
      refine dx_al (j := 15) hR dX10_log_28 rfl (vp_in_iff.mpr c18) ?_
      cases h
      exact pm_iret dX10_log_29 rfl (Nat.le_refl _) (Nat.le_refl _) ⟨rfl, rfl, rfl⟩
  · replace h := it_t c4 h
    refine pm_ldcw (v := (-1000001)) dX10_log_14 kc_X10_304 ?_
    cases h
    exact pm_iret dX10_log_17 rfl (Nat.le_refl _) (Nat.le_refl _) ⟨rfl, rfl, rfl⟩
def g_X10_held_j117 (F : Nat) (l1 : Int32) (l2 : Int32) (l3 : Int32) (l4 : Int32) (l5 : Int32) (u : rg_U) : Option ((Int32 × Int32) ⊕ (Int32 ⊕ Unit)) :=
  some (.inl (l4, (l5 + 1)))
set_option maxHeartbeats 4000000 in
set_option maxRecDepth 100000 in
theorem k_X10_held_j117 {gs : List String} {ro : pm_RO} {n : Nat} {w : Nat → va_E} {b : Nat} {u : rg_U} {F : Nat} {l1 : Int32} {l2 : Int32} {l3 : Int32} {l4 : Int32} {l5 : Int32} {z : ((Int32 × Int32) ⊕ (Int32 ⊕ Unit))} {Q : Option Value → Nat → (Nat → va_E) → Prop} (hR : rg shM b u n w) (h : g_X10_held_j117 F l1 l2 l3 l4 l5 u = some z) (hc : ∀ s', z = .inl s' → pm_X gs ro M_X10_held 2 0 0 0 0 33 [some (.ref (b + 0)), some (.int l1), some (.int l2), some (.int l3), some (.int s'.1), some (.int s'.2)] [] n w Q) (he0 : ∀ r', z = .inr (Sum.inl r') → pm_X gs ro M_X10_held 2 0 0 0 0 64 [some (.ref (b + 0)), none, some (.int l2), some (.int l3), none, some (.int r')] [] n w Q) (he1 : ∀ r', z = .inr (Sum.inr r') → pm_X gs ro M_X10_held 2 0 0 0 0 123 [none, none, none, none, none, none] [] n w Q) : pm_X gs ro M_X10_held 2 0 0 0 0 117 [some (.ref (b + 0)), some (.int l1), some (.int l2), some (.int l3), some (.int l4), some (.int l5)] [] n w Q := by
  unfold g_X10_held_j117 at h
  refine pm_iinc (v := (l5 + 1)) dX10_held_117 rfl rfl (by decide) rfl rfl ?_
  refine pm_goto (tgt := 33) dX10_held_120 (by decide) ?_
  refine pm_lw (L' := [some (.ref (b + 0)), some (.int l1), some (.int l2), some (.int l3), some (.int l4), some (.int (l5 + 1))]) ⟨Or.inr rfl, Or.inr rfl, Or.inr rfl, Or.inr rfl, Or.inr rfl, Or.inr rfl, trivial⟩ ?_
  exact hc _ (Option.some.inj h).symm
def g_X10_held_l33 (F : Nat) (l1 : Int32) (l2 : Int32) (l3 : Int32) (u : rg_U) (l4 : Int32) (l5 : Int32) : Option ((Int32 × Int32) ⊕ (Int32 ⊕ Unit)) :=
  if 3000 < l5 then (some (.inr (Sum.inr ()))) else (ck (inb (g_X10_heldAt l3 l5) 15005) (if (rA u 20 (g_X10_heldAt l3 l5)) = 0 then (g_X10_held_j117 F l1 l2 l3 l4 l5 u) else (if l4 = l1 then (some (.inr (Sum.inl l5))) else (g_X10_held_j117 F l1 l2 l3 (l4 + 1) l5 u))))
set_option maxHeartbeats 4000000 in
set_option maxRecDepth 100000 in
theorem k_X10_held_l33 {gs : List String} {ro : pm_RO} {n : Nat} {w : Nat → va_E} {b : Nat} {u : rg_U} {F : Nat} {l1 : Int32} {l2 : Int32} {l3 : Int32} {l4 : Int32} {l5 : Int32} {z : (Int32 × Int32) ⊕ (Int32 ⊕ Unit)} {Q : Option Value → Nat → (Nat → va_E) → Prop} (hR : rg shM b u n w) (h : g_X10_held_l33 F l1 l2 l3 u l4 l5 = some z) (hc : ∀ s', z = .inl s' → pm_X gs ro M_X10_held 2 0 0 0 0 33 [some (.ref (b + 0)), some (.int l1), some (.int l2), some (.int l3), some (.int s'.1), some (.int s'.2)] [] n w Q) (he0 : ∀ r', z = .inr (Sum.inl r') → pm_X gs ro M_X10_held 2 0 0 0 0 64 [some (.ref (b + 0)), none, some (.int l2), some (.int l3), none, some (.int r')] [] n w Q) (he1 : ∀ r', z = .inr (Sum.inr r') → pm_X gs ro M_X10_held 2 0 0 0 0 123 [none, none, none, none, none, none] [] n w Q) : pm_X gs ro M_X10_held 2 0 0 0 0 33 [some (.ref (b + 0)), some (.int l1), some (.int l2), some (.int l3), some (.int l4), some (.int l5)] [] n w Q := by
  unfold g_X10_held_l33 at h
  refine pm_iload dX10_held_33 rfl ?_
  refine pm_sipush (v := 3000) dX10_held_35 (by decide) ?_
  refine pm_icmp_gt (tgt := 123) dX10_held_38 (by decide) (fun c6 => ?_) (fun c6 => ?_)
  · replace h := it_t c6 h
    refine pm_lw (L' := [none, none, none, none, none, none]) ⟨Or.inl rfl, Or.inl rfl, Or.inl rfl, Or.inl rfl, Or.inl rfl, Or.inl rfl, trivial⟩ ?_
    exact he1 _ (Option.some.inj h).symm
  · replace h := it_f c6 h
    refine pm_aload_n dX10_held_41 rfl ?_
    refine dx_gr (j := 0) (o := 20) hR dX10_held_42 fl_X10_75 rfl rfl ?_
    refine pm_iload_n dX10_held_45 rfl ?_
    refine pm_iload dX10_held_46 rfl ?_
    refine dx_cSp (M := M_X10_held) (Mc := M_X10_heldAt) (dc := 0) (As := [.int l3, .int l5]) (st := [.ref (b + 20)]) dX10_held_48 ml_X10_158 (by decide) (Nat.le_of_ble_eq_true rfl) rfl (k_X10_heldAt rfl) ?_
    obtain ⟨c7, h⟩ := ck_some h
    refine dx_zl (j := 20) hR dX10_held_51 rfl (vp_in_iff.mpr c7) ?_
    refine pm_if_ne (tgt := 58) dX10_held_52 (by decide) (fun c8 => ?_) (fun c8 => ?_)
    · replace h := it_f c8 h
      refine pm_iload dX10_held_58 rfl ?_
      refine pm_iload_n dX10_held_60 rfl ?_
      refine pm_icmp_ne (tgt := 114) dX10_held_61 (by decide) (fun c9 => ?_) (fun c9 => ?_)
      · replace h := it_f c9 h
        refine pm_iinc (v := (l4 + 1)) dX10_held_114 rfl rfl (by decide) rfl rfl ?_
        exact k_X10_held_j117 hR h hc he0 he1
      · replace h := it_t c9 h
        refine pm_lw (L' := [some (.ref (b + 0)), none, some (.int l2), some (.int l3), none, some (.int l5)]) ⟨Or.inr rfl, Or.inl rfl, Or.inr rfl, Or.inr rfl, Or.inl rfl, Or.inr rfl, trivial⟩ ?_
        exact he0 _ (Option.some.inj h).symm
    · replace h := it_t c8 h
      refine pm_goto (tgt := 117) dX10_held_55 (by decide) ?_
      exact k_X10_held_j117 hR h hc he0 he1
def g_X10_held (F : Nat) (x1 : Int32) (x2 : Int32) (u : rg_U) : Option Int32 :=
  ob (g_X10_runAsked F u) (fun r1 => ck (inb r1 5) (if (rA u 5 r1) = 0 then (some (-1)) else (if x1 = (-1) then (ob (g_X10_heldMany F r1 u) (fun r22 => some r22)) else (ob (lp (fun (s : (Int32 × Int32)) => g_X10_held_l33 F x1 x2 r1 u s.1 s.2) F ((0 : Int32), (0 : Int32))) (fun r10 => os r10 (fun r12 => if x2 = 0 then (ck (inb r1 5) (some (r12 * (rA u 23 r1)))) else (if x2 = 1 then (if r12 ≤ 0 then (some (-1)) else (ck (inb r1 5) (ob (g_X10_goesWith F r12 (rA u 24 r1) u) (fun r18 => ck (inb r1 5) (some (r18 * (rA u 23 r1))))))) else (some (-1)))) (fun r13 => some (-1)))))))
set_option maxHeartbeats 4000000 in
set_option maxRecDepth 100000 in
theorem k_X10_held {gs : List String} {ro : pm_RO} {n : Nat} {w : Nat → va_E} {b : Nat} {u : rg_U} {F : Nat} {x1 : Int32} {x2 : Int32} {z : Int32} (hR : rg shM b u n w) (h : g_X10_held F x1 x2 u = some z) : pm_Met gs ro M_X10_held 2 0 0 [.ref (b + 0), .int x1, .int x2] n w (pm_p n w (some (.int z))) := by
  unfold g_X10_held at h
  refine pm_ofX in_X10_held (Nat.le_of_ble_eq_true rfl) rfl (L := [some (.ref (b + 0)), some (.int x1), some (.int x2), none, none, none]) rfl ?_
  refine pm_aload_n dX10_held_0 rfl ?_
  obtain ⟨r1, h2, h⟩ := ob_some h
  refine dx_cVp (j := 0) (M := M_X10_held) (Mc := M_X10_runAsked) (dc := 0) (As := []) (st := []) hR dX10_held_1 ml_X10_289 ⟨TX10, 55, rfl⟩ rfl (by decide) (Nat.le_of_ble_eq_true rfl) rfl (k_X10_runAsked hR h2) ?_
  refine pm_istore_n dX10_held_4 (by decide) rfl rfl ?_
  refine pm_aload_n dX10_held_5 rfl ?_
  refine dx_gr (j := 0) (o := 5) hR dX10_held_6 fl_X10_29 rfl rfl ?_
  refine pm_iload_n dX10_held_9 rfl ?_
  obtain ⟨c3, h⟩ := ck_some h
  refine dx_zl (j := 5) hR dX10_held_10 rfl (vp_in_iff.mpr c3) ?_
  refine pm_if_ne (tgt := 16) dX10_held_11 (by decide) (fun c4 => ?_) (fun c4 => ?_)
  · replace h := it_f c4 h
    refine pm_iload_n dX10_held_16 rfl ?_
    refine pm_iconst (v := (-1)) dX10_held_17 (by decide) ?_
    refine pm_icmp_ne (tgt := 27) dX10_held_18 (by decide) (fun c5 => ?_) (fun c5 => ?_)
    · replace h := it_f c5 h
      refine pm_iconst (v := 0) dX10_held_27 (by decide) ?_
      refine pm_istore dX10_held_28 (by decide) rfl rfl ?_
      refine pm_iconst (v := 0) dX10_held_30 (by decide) ?_
      refine pm_istore dX10_held_31 (by decide) rfl rfl ?_
      obtain ⟨r10, h11, h⟩ := ob_some h
      refine lp_sound (P := fun (s : (Int32 × Int32)) => pm_X gs ro M_X10_held 2 0 0 0 0 33 [some (.ref (b + 0)), some (.int x1), some (.int x2), some (.int r1), some (.int s.1), some (.int s.2)] [] n w (pm_p n w (some (.int z)))) (E := (Sum.elim (fun (r : Int32) => pm_X gs ro M_X10_held 2 0 0 0 0 64 [some (.ref (b + 0)), none, some (.int x2), some (.int r1), none, some (.int r)] [] n w (pm_p n w (some (.int z)))) (fun (r : Unit) => pm_X gs ro M_X10_held 2 0 0 0 0 123 [none, none, none, none, none, none] [] n w (pm_p n w (some (.int z)))))) (fun s x hx hc he => k_X10_held_l33 hR hx hc (fun r q => he (Sum.inl r) q) (fun r q => he (Sum.inr r) q)) F _ r10 h11 ?_
      cases r10 with
      | inl r12 =>
        replace h := os_l h
        refine pm_iload_n dX10_held_64 rfl ?_
        refine pm_if_ne (tgt := 80) dX10_held_65 (by decide) (fun c14 => ?_) (fun c14 => ?_)
        · replace h := it_f c14 h
          refine pm_iload_n dX10_held_80 rfl ?_
          refine pm_iconst (v := 1) dX10_held_81 (by decide) ?_
          refine pm_icmp_ne (tgt := 112) dX10_held_82 (by decide) (fun c15 => ?_) (fun c15 => ?_)
          · replace h := it_f c15 h
            refine pm_iconst (v := (-1)) dX10_held_112 (by decide) ?_
            cases h
            exact pm_iret dX10_held_113 rfl (Nat.le_refl _) (Nat.le_refl _) ⟨rfl, rfl, rfl⟩
          · replace h := it_t c15 h
            refine pm_iload dX10_held_85 rfl ?_
            refine pm_if_le (tgt := 112) dX10_held_87 (by decide) (fun c16 => ?_) (fun c16 => ?_)
            · replace h := it_t c16 h
              refine pm_iconst (v := (-1)) dX10_held_112 (by decide) ?_
              cases h
              exact pm_iret dX10_held_113 rfl (Nat.le_refl _) (Nat.le_refl _) ⟨rfl, rfl, rfl⟩
            · replace h := it_f c16 h
              refine pm_aload_n dX10_held_90 rfl ?_
              refine pm_iload dX10_held_91 rfl ?_
              refine pm_aload_n dX10_held_93 rfl ?_
              refine dx_gr (j := 0) (o := 24) hR dX10_held_94 fl_X10_87 rfl rfl ?_
              refine pm_iload_n dX10_held_97 rfl ?_
              obtain ⟨c17, h⟩ := ck_some h
              refine dx_al (j := 24) hR dX10_held_98 rfl (vp_in_iff.mpr c17) ?_
              obtain ⟨r18, h19, h⟩ := ob_some h
              refine dx_cVp (j := 0) (M := M_X10_held) (Mc := M_X10_goesWith) (dc := 1) (As := [.int r12, .int (rA u 24 r1)]) (st := []) hR dX10_held_99 ml_X10_229 ⟨TX10, 55, rfl⟩ rfl (by decide) (Nat.le_of_ble_eq_true rfl) rfl (k_X10_goesWith hR h19) ?_
              refine pm_aload_n dX10_held_102 rfl ?_
              refine dx_gr (j := 0) (o := 23) hR dX10_held_103 fl_X10_84 rfl rfl ?_
              refine pm_iload_n dX10_held_106 rfl ?_
              obtain ⟨c20, h⟩ := ck_some h
              refine dx_al (j := 23) hR dX10_held_107 rfl (vp_in_iff.mpr c20) ?_
              refine pm_imul dX10_held_108 ?_
              refine pm_goto (tgt := 113) dX10_held_109 (by decide) ?_
              cases h
              exact pm_iret dX10_held_113 rfl (Nat.le_refl _) (Nat.le_refl _) ⟨rfl, rfl, rfl⟩
        · replace h := it_t c14 h
          refine pm_iload dX10_held_68 rfl ?_
          refine pm_aload_n dX10_held_70 rfl ?_
          refine dx_gr (j := 0) (o := 23) hR dX10_held_71 fl_X10_84 rfl rfl ?_
          refine pm_iload_n dX10_held_74 rfl ?_
          obtain ⟨c21, h⟩ := ck_some h
          refine dx_al (j := 23) hR dX10_held_75 rfl (vp_in_iff.mpr c21) ?_
          refine pm_imul dX10_held_76 ?_
          refine pm_goto (tgt := 113) dX10_held_77 (by decide) ?_
          cases h
          exact pm_iret dX10_held_113 rfl (Nat.le_refl _) (Nat.le_refl _) ⟨rfl, rfl, rfl⟩
      | inr r13 =>
        replace h := os_r h
        refine pm_iconst (v := (-1)) dX10_held_123 (by decide) ?_
        cases h
        exact pm_iret dX10_held_124 rfl (Nat.le_refl _) (Nat.le_refl _) ⟨rfl, rfl, rfl⟩
    · replace h := it_t c5 h
      refine pm_aload_n dX10_held_21 rfl ?_
      refine pm_iload_n dX10_held_22 rfl ?_
      obtain ⟨r22, h23, h⟩ := ob_some h
      refine dx_cVp (j := 0) (M := M_X10_held) (Mc := M_X10_heldMany) (dc := 1) (As := [.int r1]) (st := []) hR dX10_held_23 ml_X10_232 ⟨TX10, 55, rfl⟩ rfl (by decide) (Nat.le_of_ble_eq_true rfl) rfl (k_X10_heldMany hR h23) ?_
      cases h
      exact pm_iret dX10_held_26 rfl (Nat.le_refl _) (Nat.le_refl _) ⟨rfl, rfl, rfl⟩
  · replace h := it_t c4 h
    refine pm_iconst (v := (-1)) dX10_held_14 (by decide) ?_
    cases h
    exact pm_iret dX10_held_15 rfl (Nat.le_refl _) (Nat.le_refl _) ⟨rfl, rfl, rfl⟩
