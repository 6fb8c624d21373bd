theorem dX9_align_0 : decode cX9_align 0 = .ok (.aload_n 0, 1) := by decide +kernel
theorem dX9_align_1 : decode cX9_align 1 = .ok (.iload_n 1, 1) := by decide +kernel
theorem dX9_align_2 : decode cX9_align 2 = .ok (.invokevirtual 169, 3) := by decide +kernel
theorem dX9_align_5 : decode cX9_align 5 = .ok (.astore_n 3, 1) := by decide +kernel
theorem dX9_align_6 : decode cX9_align 6 = .ok (.aload_n 0, 1) := by decide +kernel
theorem dX9_align_7 : decode cX9_align 7 = .ok (.iload_n 2, 1) := by decide +kernel
theorem dX9_align_8 : decode cX9_align 8 = .ok (.invokevirtual 169, 3) := by decide +kernel
theorem dX9_align_11 : decode cX9_align 11 = .ok (.astore 4, 2) := by decide +kernel
theorem dX9_align_13 : decode cX9_align 13 = .ok (.aload_n 3, 1) := by decide +kernel
theorem dX9_align_14 : decode cX9_align 14 = .ok (.ifnull 8, 3) := by decide +kernel
theorem dX9_align_17 : decode cX9_align 17 = .ok (.aload 4, 2) := by decide +kernel
theorem dX9_align_19 : decode cX9_align 19 = .ok (.ifnonnull 6, 3) := by decide +kernel
theorem dX9_align_22 : decode cX9_align 22 = .ok (.bipush (-2), 2) := by decide +kernel
theorem dX9_align_24 : decode cX9_align 24 = .ok (.ireturn, 1) := by decide +kernel
theorem dX9_align_25 : decode cX9_align 25 = .ok (.aload_n 0, 1) := by decide +kernel
theorem dX9_align_26 : decode cX9_align 26 = .ok (.getfield 26, 3) := by decide +kernel
theorem dX9_align_29 : decode cX9_align 29 = .ok (.aload_n 3, 1) := by decide +kernel
theorem dX9_align_30 : decode cX9_align 30 = .ok (.getfield 273, 3) := by decide +kernel
theorem dX9_align_33 : decode cX9_align 33 = .ok (.aload 4, 2) := by decide +kernel
theorem dX9_align_35 : decode cX9_align 35 = .ok (.getfield 273, 3) := by decide +kernel
theorem dX9_align_38 : decode cX9_align 38 = .ok (.invokevirtual 303, 3) := by decide +kernel
theorem dX9_align_41 : decode cX9_align 41 = .ok (.aload_n 0, 1) := by decide +kernel
theorem dX9_align_42 : decode cX9_align 42 = .ok (.getfield 26, 3) := by decide +kernel
theorem dX9_align_45 : decode cX9_align 45 = .ok (.getfield 307, 3) := by decide +kernel
theorem dX9_align_48 : decode cX9_align 48 = .ok (.ireturn, 1) := by decide +kernel
theorem dX9_call_0 : decode cX9_call 0 = .ok (.aload_n 0, 1) := by decide +kernel
theorem dX9_call_1 : decode cX9_call 1 = .ok (.aload_n 0, 1) := by decide +kernel
theorem dX9_call_2 : decode cX9_call 2 = .ok (.getfield 52, 3) := by decide +kernel
theorem dX9_call_5 : decode cX9_call 5 = .ok (.invokevirtual 169, 3) := by decide +kernel
theorem dX9_call_8 : decode cX9_call 8 = .ok (.astore_n 3, 1) := by decide +kernel
theorem dX9_call_9 : decode cX9_call 9 = .ok (.aload_n 3, 1) := by decide +kernel
theorem dX9_call_10 : decode cX9_call 10 = .ok (.ifnull 12, 3) := by decide +kernel
theorem dX9_call_13 : decode cX9_call 13 = .ok (.iload_n 2, 1) := by decide +kernel
theorem dX9_call_14 : decode cX9_call 14 = .ok (.ifCond .lt 8, 3) := by decide +kernel
theorem dX9_call_17 : decode cX9_call 17 = .ok (.iload_n 2, 1) := by decide +kernel
theorem dX9_call_18 : decode cX9_call 18 = .ok (.iconst 2, 1) := by decide +kernel
theorem dX9_call_19 : decode cX9_call 19 = .ok (.if_icmp .le 5, 3) := by decide +kernel
theorem dX9_call_22 : decode cX9_call 22 = .ok (.iconst (-1), 1) := by decide +kernel
theorem dX9_call_23 : decode cX9_call 23 = .ok (.ireturn, 1) := by decide +kernel
theorem dX9_call_24 : decode cX9_call 24 = .ok (.iload_n 1, 1) := by decide +kernel
theorem dX9_call_25 : decode cX9_call 25 = .ok (.iconst (-1), 1) := by decide +kernel
theorem dX9_call_26 : decode cX9_call 26 = .ok (.if_icmp .ne 13, 3) := by decide +kernel
theorem dX9_call_29 : decode cX9_call 29 = .ok (.aload_n 3, 1) := by decide +kernel
theorem dX9_call_30 : decode cX9_call 30 = .ok (.getfield 273, 3) := by decide +kernel
theorem dX9_call_33 : decode cX9_call 33 = .ok (.getfield 277, 3) := by decide +kernel
theorem dX9_call_36 : decode cX9_call 36 = .ok (.goto 12, 3) := by decide +kernel
theorem dX9_call_39 : decode cX9_call 39 = .ok (.aload_n 3, 1) := by decide +kernel
theorem dX9_call_40 : decode cX9_call 40 = .ok (.getfield 273, 3) := by decide +kernel
theorem dX9_call_43 : decode cX9_call 43 = .ok (.iload_n 1, 1) := by decide +kernel
theorem dX9_call_44 : decode cX9_call 44 = .ok (.iload_n 2, 1) := by decide +kernel
theorem dX9_call_45 : decode cX9_call 45 = .ok (.invokevirtual 281, 3) := by decide +kernel
theorem dX9_call_48 : decode cX9_call 48 = .ok (.ireturn, 1) := by decide +kernel
theorem dX9_done_0 : decode cX9_done 0 = .ok (.aload_n 0, 1) := by decide +kernel
theorem dX9_done_1 : decode cX9_done 1 = .ok (.aload_n 0, 1) := by decide +kernel
theorem dX9_done_2 : decode cX9_done 2 = .ok (.getfield 52, 3) := by decide +kernel
theorem dX9_done_5 : decode cX9_done 5 = .ok (.invokevirtual 169, 3) := by decide +kernel
theorem dX9_done_8 : decode cX9_done 8 = .ok (.astore_n 3, 1) := by decide +kernel
theorem dX9_done_9 : decode cX9_done 9 = .ok (.aload_n 3, 1) := by decide +kernel
theorem dX9_done_10 : decode cX9_done 10 = .ok (.ifnull 21, 3) := by decide +kernel
theorem dX9_done_13 : decode cX9_done 13 = .ok (.aload_n 3, 1) := by decide +kernel
theorem dX9_done_14 : decode cX9_done 14 = .ok (.iload_n 1, 1) := by decide +kernel
theorem dX9_done_15 : decode cX9_done 15 = .ok (.invokevirtual 172, 3) := by decide +kernel
theorem dX9_done_18 : decode cX9_done 18 = .ok (.ifCond .eq 13, 3) := by decide +kernel
theorem dX9_done_21 : decode cX9_done 21 = .ok (.iload_n 2, 1) := by decide +kernel
theorem dX9_done_22 : decode cX9_done 22 = .ok (.ifCond .lt 9, 3) := by decide +kernel
theorem dX9_done_25 : decode cX9_done 25 = .ok (.iload_n 2, 1) := by decide +kernel
theorem dX9_done_26 : decode cX9_done 26 = .ok (.bipush 64, 2) := by decide +kernel
theorem dX9_done_28 : decode cX9_done 28 = .ok (.if_icmp .le 6, 3) := by decide +kernel
theorem dX9_done_31 : decode cX9_done 31 = .ok (.bipush (-2), 2) := by decide +kernel
theorem dX9_done_33 : decode cX9_done 33 = .ok (.ireturn, 1) := by decide +kernel
theorem dX9_done_34 : decode cX9_done 34 = .ok (.iconst 0, 1) := by decide +kernel
theorem dX9_done_35 : decode cX9_done 35 = .ok (.istore 4, 2) := by decide +kernel
theorem dX9_done_37 : decode cX9_done 37 = .ok (.iconst 0, 1) := by decide +kernel
theorem dX9_done_38 : decode cX9_done 38 = .ok (.istore 5, 2) := by decide +kernel
theorem dX9_done_40 : decode cX9_done 40 = .ok (.iload 5, 2) := by decide +kernel
theorem dX9_done_42 : decode cX9_done 42 = .ok (.iload_n 1, 1) := by decide +kernel
theorem dX9_done_43 : decode cX9_done 43 = .ok (.if_icmp .ge 22, 3) := by decide +kernel
theorem dX9_done_46 : decode cX9_done 46 = .ok (.aload_n 3, 1) := by decide +kernel
theorem dX9_done_47 : decode cX9_done 47 = .ok (.iload 5, 2) := by decide +kernel
theorem dX9_done_49 : decode cX9_done 49 = .ok (.invokevirtual 199, 3) := by decide +kernel
theorem dX9_done_52 : decode cX9_done 52 = .ok (.iload_n 2, 1) := by decide +kernel
theorem dX9_done_53 : decode cX9_done 53 = .ok (.if_icmp .ne 6, 3) := by decide +kernel
theorem dX9_done_56 : decode cX9_done 56 = .ok (.iinc 4 1, 3) := by decide +kernel
theorem dX9_done_59 : decode cX9_done 59 = .ok (.iinc 5 1, 3) := by decide +kernel
theorem dX9_done_62 : decode cX9_done 62 = .ok (.goto (-22), 3) := by decide +kernel
theorem dX9_done_65 : decode cX9_done 65 = .ok (.iload 4, 2) := by decide +kernel
theorem dX9_done_67 : decode cX9_done 67 = .ok (.ireturn, 1) := by decide +kernel
theorem dX9_gap_0 : decode cX9_gap 0 = .ok (.iload_n 1, 1) := by decide +kernel
theorem dX9_gap_1 : decode cX9_gap 1 = .ok (.invokestatic 82, 3) := by decide +kernel
theorem dX9_gap_4 : decode cX9_gap 4 = .ok (.ifCond .eq 17, 3) := by decide +kernel
theorem dX9_gap_7 : decode cX9_gap 7 = .ok (.iload_n 2, 1) := by decide +kernel
theorem dX9_gap_8 : decode cX9_gap 8 = .ok (.invokestatic 85, 3) := by decide +kernel
theorem dX9_gap_11 : decode cX9_gap 11 = .ok (.ifCond .eq 10, 3) := by decide +kernel
theorem dX9_gap_14 : decode cX9_gap 14 = .ok (.iload_n 3, 1) := by decide +kernel
theorem dX9_gap_15 : decode cX9_gap 15 = .ok (.invokestatic 293, 3) := by decide +kernel
theorem dX9_gap_18 : decode cX9_gap 18 = .ok (.ifCond .ne 5, 3) := by decide +kernel
theorem dX9_gap_21 : decode cX9_gap 21 = .ok (.iconst (-1), 1) := by decide +kernel
theorem dX9_gap_22 : decode cX9_gap 22 = .ok (.ireturn, 1) := by decide +kernel
theorem dX9_gap_23 : decode cX9_gap 23 = .ok (.iload_n 3, 1) := by decide +kernel
theorem dX9_gap_24 : decode cX9_gap 24 = .ok (.iload_n 1, 1) := by decide +kernel
theorem dX9_gap_25 : decode cX9_gap 25 = .ok (.idiv, 1) := by decide +kernel
theorem dX9_gap_26 : decode cX9_gap 26 = .ok (.istore 4, 2) := by decide +kernel
theorem dX9_gap_28 : decode cX9_gap 28 = .ok (.iconst 0, 1) := by decide +kernel
theorem dX9_gap_29 : decode cX9_gap 29 = .ok (.istore 5, 2) := by decide +kernel
theorem dX9_gap_31 : decode cX9_gap 31 = .ok (.iconst 0, 1) := by decide +kernel
theorem dX9_gap_32 : decode cX9_gap 32 = .ok (.istore 6, 2) := by decide +kernel
theorem dX9_gap_34 : decode cX9_gap 34 = .ok (.iconst 1, 1) := by decide +kernel
theorem dX9_gap_35 : decode cX9_gap 35 = .ok (.istore 7, 2) := by decide +kernel
theorem dX9_gap_37 : decode cX9_gap 37 = .ok (.iload 7, 2) := by decide +kernel
theorem dX9_gap_39 : decode cX9_gap 39 = .ok (.iload 4, 2) := by decide +kernel
theorem dX9_gap_41 : decode cX9_gap 41 = .ok (.if_icmp .gt 42, 3) := by decide +kernel
theorem dX9_gap_44 : decode cX9_gap 44 = .ok (.iload 7, 2) := by decide +kernel
theorem dX9_gap_46 : decode cX9_gap 46 = .ok (.iload_n 2, 1) := by decide +kernel
theorem dX9_gap_47 : decode cX9_gap 47 = .ok (.iload 4, 2) := by decide +kernel
theorem dX9_gap_49 : decode cX9_gap 49 = .ok (.invokestatic 300, 3) := by decide +kernel
theorem dX9_gap_52 : decode cX9_gap 52 = .ok (.ifCond .eq 25, 3) := by decide +kernel
theorem dX9_gap_55 : decode cX9_gap 55 = .ok (.iload 5, 2) := by decide +kernel
theorem dX9_gap_57 : decode cX9_gap 57 = .ok (.iload 7, 2) := by decide +kernel
theorem dX9_gap_59 : decode cX9_gap 59 = .ok (.iload_n 1, 1) := by decide +kernel
theorem dX9_gap_60 : decode cX9_gap 60 = .ok (.imul, 1) := by decide +kernel
theorem dX9_gap_61 : decode cX9_gap 61 = .ok (.iconst 1, 1) := by decide +kernel
theorem dX9_gap_62 : decode cX9_gap 62 = .ok (.isub, 1) := by decide +kernel
theorem dX9_gap_63 : decode cX9_gap 63 = .ok (.iload 6, 2) := by decide +kernel
theorem dX9_gap_65 : decode cX9_gap 65 = .ok (.isub, 1) := by decide +kernel
theorem dX9_gap_66 : decode cX9_gap 66 = .ok (.invokestatic 247, 3) := by decide +kernel
theorem dX9_gap_69 : decode cX9_gap 69 = .ok (.istore 5, 2) := by decide +kernel
theorem dX9_gap_71 : decode cX9_gap 71 = .ok (.iload 7, 2) := by decide +kernel
theorem dX9_gap_73 : decode cX9_gap 73 = .ok (.iload_n 1, 1) := by decide +kernel
theorem dX9_gap_74 : decode cX9_gap 74 = .ok (.imul, 1) := by decide +kernel
theorem dX9_gap_75 : decode cX9_gap 75 = .ok (.istore 6, 2) := by decide +kernel
theorem dX9_gap_77 : decode cX9_gap 77 = .ok (.iinc 7 1, 3) := by decide +kernel
theorem dX9_gap_80 : decode cX9_gap 80 = .ok (.goto (-43), 3) := by decide +kernel
theorem dX9_gap_83 : decode cX9_gap 83 = .ok (.iload 5, 2) := by decide +kernel
theorem dX9_gap_85 : decode cX9_gap 85 = .ok (.iload_n 3, 1) := by decide +kernel
theorem dX9_gap_86 : decode cX9_gap 86 = .ok (.iload 6, 2) := by decide +kernel
theorem dX9_gap_88 : decode cX9_gap 88 = .ok (.isub, 1) := by decide +kernel
theorem dX9_gap_89 : decode cX9_gap 89 = .ok (.invokestatic 247, 3) := by decide +kernel
theorem dX9_gap_92 : decode cX9_gap 92 = .ok (.ireturn, 1) := by decide +kernel
theorem dX9_hangs_0 : decode cX9_hangs 0 = .ok (.aload_n 0, 1) := by decide +kernel
theorem dX9_hangs_1 : decode cX9_hangs 1 = .ok (.aload_n 0, 1) := by decide +kernel
theorem dX9_hangs_2 : decode cX9_hangs 2 = .ok (.getfield 52, 3) := by decide +kernel
theorem dX9_hangs_5 : decode cX9_hangs 5 = .ok (.invokevirtual 169, 3) := by decide +kernel
theorem dX9_hangs_8 : decode cX9_hangs 8 = .ok (.astore 4, 2) := by decide +kernel
theorem dX9_hangs_10 : decode cX9_hangs 10 = .ok (.aload 4, 2) := by decide +kernel
theorem dX9_hangs_12 : decode cX9_hangs 12 = .ok (.ifnull 31, 3) := by decide +kernel
theorem dX9_hangs_15 : decode cX9_hangs 15 = .ok (.aload 4, 2) := by decide +kernel
theorem dX9_hangs_17 : decode cX9_hangs 17 = .ok (.getfield 109, 3) := by decide +kernel
theorem dX9_hangs_20 : decode cX9_hangs 20 = .ok (.iload_n 1, 1) := by decide +kernel
theorem dX9_hangs_21 : decode cX9_hangs 21 = .ok (.invokevirtual 260, 3) := by decide +kernel
theorem dX9_hangs_24 : decode cX9_hangs 24 = .ok (.ifCond .eq 19, 3) := by decide +kernel
theorem dX9_hangs_27 : decode cX9_hangs 27 = .ok (.aload 4, 2) := by decide +kernel
theorem dX9_hangs_29 : decode cX9_hangs 29 = .ok (.iload_n 2, 1) := by decide +kernel
theorem dX9_hangs_30 : decode cX9_hangs 30 = .ok (.invokevirtual 172, 3) := by decide +kernel
theorem dX9_hangs_33 : decode cX9_hangs 33 = .ok (.ifCond .eq 10, 3) := by decide +kernel
theorem dX9_hangs_36 : decode cX9_hangs 36 = .ok (.iload_n 3, 1) := by decide +kernel
theorem dX9_hangs_37 : decode cX9_hangs 37 = .ok (.invokestatic 238, 3) := by decide +kernel
theorem dX9_hangs_40 : decode cX9_hangs 40 = .ok (.ifCond .ne 6, 3) := by decide +kernel
theorem dX9_hangs_43 : decode cX9_hangs 43 = .ok (.ldc 175, 2) := by decide +kernel
theorem dX9_hangs_45 : decode cX9_hangs 45 = .ok (.ireturn, 1) := by decide +kernel
theorem dX9_hangs_46 : decode cX9_hangs 46 = .ok (.aload 4, 2) := by decide +kernel
theorem dX9_hangs_48 : decode cX9_hangs 48 = .ok (.getfield 176, 3) := by decide +kernel
theorem dX9_hangs_51 : decode cX9_hangs 51 = .ok (.iload_n 1, 1) := by decide +kernel
theorem dX9_hangs_52 : decode cX9_hangs 52 = .ok (.aload_n 0, 1) := by decide +kernel
theorem dX9_hangs_53 : decode cX9_hangs 53 = .ok (.getfield 30, 3) := by decide +kernel
theorem dX9_hangs_56 : decode cX9_hangs 56 = .ok (.invokevirtual 263, 3) := by decide +kernel
theorem dX9_hangs_59 : decode cX9_hangs 59 = .ok (.iconst 0, 1) := by decide +kernel
theorem dX9_hangs_60 : decode cX9_hangs 60 = .ok (.istore 5, 2) := by decide +kernel
theorem dX9_hangs_62 : decode cX9_hangs 62 = .ok (.iconst 0, 1) := by decide +kernel
theorem dX9_hangs_63 : decode cX9_hangs 63 = .ok (.istore 6, 2) := by decide +kernel
theorem dX9_hangs_65 : decode cX9_hangs 65 = .ok (.iload 6, 2) := by decide +kernel
theorem dX9_hangs_67 : decode cX9_hangs 67 = .ok (.iload_n 3, 1) := by decide +kernel
theorem dX9_hangs_68 : decode cX9_hangs 68 = .ok (.invokestatic 241, 3) := by decide +kernel
theorem dX9_hangs_71 : decode cX9_hangs 71 = .ok (.if_icmp .ge 44, 3) := by decide +kernel
theorem dX9_hangs_74 : decode cX9_hangs 74 = .ok (.aload_n 0, 1) := by decide +kernel
theorem dX9_hangs_75 : decode cX9_hangs 75 = .ok (.getfield 30, 3) := by decide +kernel
theorem dX9_hangs_78 : decode cX9_hangs 78 = .ok (.aload 4, 2) := by decide +kernel
theorem dX9_hangs_80 : decode cX9_hangs 80 = .ok (.getfield 176, 3) := by decide +kernel
theorem dX9_hangs_83 : decode cX9_hangs 83 = .ok (.iload_n 2, 1) := by decide +kernel
theorem dX9_hangs_84 : decode cX9_hangs 84 = .ok (.iload_n 3, 1) := by decide +kernel
theorem dX9_hangs_85 : decode cX9_hangs 85 = .ok (.invokestatic 244, 3) := by decide +kernel
theorem dX9_hangs_88 : decode cX9_hangs 88 = .ok (.iload 6, 2) := by decide +kernel
theorem dX9_hangs_90 : decode cX9_hangs 90 = .ok (.iadd, 1) := by decide +kernel
theorem dX9_hangs_91 : decode cX9_hangs 91 = .ok (.invokevirtual 180, 3) := by decide +kernel
theorem dX9_hangs_94 : decode cX9_hangs 94 = .ok (.invokestatic 266, 3) := by decide +kernel
theorem dX9_hangs_97 : decode cX9_hangs 97 = .ok (.ifCond .eq 12, 3) := by decide +kernel
theorem dX9_hangs_100 : decode cX9_hangs 100 = .ok (.iload 5, 2) := by decide +kernel
theorem dX9_hangs_102 : decode cX9_hangs 102 = .ok (.iconst 1, 1) := by decide +kernel
theorem dX9_hangs_103 : decode cX9_hangs 103 = .ok (.iload 6, 2) := by decide +kernel
theorem dX9_hangs_105 : decode cX9_hangs 105 = .ok (.ishl, 1) := by decide +kernel
theorem dX9_hangs_106 : decode cX9_hangs 106 = .ok (.ior, 1) := by decide +kernel
theorem dX9_hangs_107 : decode cX9_hangs 107 = .ok (.istore 5, 2) := by decide +kernel
theorem dX9_hangs_109 : decode cX9_hangs 109 = .ok (.iinc 6 1, 3) := by decide +kernel
theorem dX9_hangs_112 : decode cX9_hangs 112 = .ok (.goto (-47), 3) := by decide +kernel
theorem dX9_hangs_115 : decode cX9_hangs 115 = .ok (.iload 5, 2) := by decide +kernel
theorem dX9_hangs_117 : decode cX9_hangs 117 = .ok (.ireturn, 1) := by decide +kernel
theorem dX9_held_0 : decode cX9_held 0 = .ok (.aload_n 0, 1) := by decide +kernel
theorem dX9_held_1 : decode cX9_held 1 = .ok (.aload_n 0, 1) := by decide +kernel
theorem dX9_held_2 : decode cX9_held 2 = .ok (.getfield 52, 3) := by decide +kernel
theorem dX9_held_5 : decode cX9_held 5 = .ok (.invokevirtual 169, 3) := by decide +kernel
theorem dX9_held_8 : decode cX9_held 8 = .ok (.astore_n 3, 1) := by decide +kernel
theorem dX9_held_9 : decode cX9_held 9 = .ok (.aload_n 3, 1) := by decide +kernel
theorem dX9_held_10 : decode cX9_held 10 = .ok (.ifnull 12, 3) := by decide +kernel
theorem dX9_held_13 : decode cX9_held 13 = .ok (.iload_n 2, 1) := by decide +kernel
theorem dX9_held_14 : decode cX9_held 14 = .ok (.ifCond .lt 8, 3) := by decide +kernel
theorem dX9_held_17 : decode cX9_held 17 = .ok (.iload_n 2, 1) := by decide +kernel
theorem dX9_held_18 : decode cX9_held 18 = .ok (.iconst 1, 1) := by decide +kernel
theorem dX9_held_19 : decode cX9_held 19 = .ok (.if_icmp .le 5, 3) := by decide +kernel
theorem dX9_held_22 : decode cX9_held 22 = .ok (.iconst (-1), 1) := by decide +kernel
theorem dX9_held_23 : decode cX9_held 23 = .ok (.ireturn, 1) := by decide +kernel
theorem dX9_held_24 : decode cX9_held 24 = .ok (.iload_n 1, 1) := by decide +kernel
theorem dX9_held_25 : decode cX9_held 25 = .ok (.iconst (-1), 1) := by decide +kernel
theorem dX9_held_26 : decode cX9_held 26 = .ok (.if_icmp .ne 11, 3) := by decide +kernel
theorem dX9_held_29 : decode cX9_held 29 = .ok (.aload_n 3, 1) := by decide +kernel
theorem dX9_held_30 : decode cX9_held 30 = .ok (.getfield 226, 3) := by decide +kernel
theorem dX9_held_33 : decode cX9_held 33 = .ok (.getfield 286, 3) := by decide +kernel
theorem dX9_held_36 : decode cX9_held 36 = .ok (.ireturn, 1) := by decide +kernel
theorem dX9_held_37 : decode cX9_held 37 = .ok (.iload_n 2, 1) := by decide +kernel
theorem dX9_held_38 : decode cX9_held 38 = .ok (.ifCond .ne 14, 3) := by decide +kernel
theorem dX9_held_41 : decode cX9_held 41 = .ok (.aload_n 3, 1) := by decide +kernel
theorem dX9_held_42 : decode cX9_held 42 = .ok (.getfield 226, 3) := by decide +kernel
theorem dX9_held_45 : decode cX9_held 45 = .ok (.iload_n 1, 1) := by decide +kernel
theorem dX9_held_46 : decode cX9_held 46 = .ok (.invokevirtual 287, 3) := by decide +kernel
theorem dX9_held_49 : decode cX9_held 49 = .ok (.goto 11, 3) := by decide +kernel
theorem dX9_held_52 : decode cX9_held 52 = .ok (.aload_n 3, 1) := by decide +kernel
theorem dX9_held_53 : decode cX9_held 53 = .ok (.getfield 226, 3) := by decide +kernel
theorem dX9_held_56 : decode cX9_held 56 = .ok (.iload_n 1, 1) := by decide +kernel
theorem dX9_held_57 : decode cX9_held 57 = .ok (.invokevirtual 290, 3) := by decide +kernel
theorem dX9_held_60 : decode cX9_held 60 = .ok (.ireturn, 1) := by decide +kernel
theorem dX9_history_0 : decode cX9_history 0 = .ok (.aload_n 0, 1) := by decide +kernel
theorem dX9_history_1 : decode cX9_history 1 = .ok (.aload_n 0, 1) := by decide +kernel
theorem dX9_history_2 : decode cX9_history 2 = .ok (.getfield 52, 3) := by decide +kernel
theorem dX9_history_5 : decode cX9_history 5 = .ok (.invokevirtual 169, 3) := by decide +kernel
theorem dX9_history_8 : decode cX9_history 8 = .ok (.astore 4, 2) := by decide +kernel
theorem dX9_history_10 : decode cX9_history 10 = .ok (.aload 4, 2) := by decide +kernel
theorem dX9_history_12 : decode cX9_history 12 = .ok (.ifnull 19, 3) := by decide +kernel
theorem dX9_history_15 : decode cX9_history 15 = .ok (.iload_n 1, 1) := by decide +kernel
theorem dX9_history_16 : decode cX9_history 16 = .ok (.invokestatic 119, 3) := by decide +kernel
theorem dX9_history_19 : decode cX9_history 19 = .ok (.ifCond .eq 12, 3) := by decide +kernel
theorem dX9_history_22 : decode cX9_history 22 = .ok (.iload_n 3, 1) := by decide +kernel
theorem dX9_history_23 : decode cX9_history 23 = .ok (.ifCond .lt 8, 3) := by decide +kernel
theorem dX9_history_26 : decode cX9_history 26 = .ok (.iload_n 3, 1) := by decide +kernel
theorem dX9_history_27 : decode cX9_history 27 = .ok (.iconst 2, 1) := by decide +kernel
theorem dX9_history_28 : decode cX9_history 28 = .ok (.if_icmp .le 6, 3) := by decide +kernel
theorem dX9_history_31 : decode cX9_history 31 = .ok (.ldc 175, 2) := by decide +kernel
theorem dX9_history_33 : decode cX9_history 33 = .ok (.ireturn, 1) := by decide +kernel
theorem dX9_history_34 : decode cX9_history 34 = .ok (.iload_n 2, 1) := by decide +kernel
theorem dX9_history_35 : decode cX9_history 35 = .ok (.iconst (-1), 1) := by decide +kernel
theorem dX9_history_36 : decode cX9_history 36 = .ok (.if_icmp .ne 14, 3) := by decide +kernel
theorem dX9_history_39 : decode cX9_history 39 = .ok (.aload 4, 2) := by decide +kernel
theorem dX9_history_41 : decode cX9_history 41 = .ok (.getfield 176, 3) := by decide +kernel
theorem dX9_history_44 : decode cX9_history 44 = .ok (.iload_n 1, 1) := by decide +kernel
theorem dX9_history_45 : decode cX9_history 45 = .ok (.iconst (-1), 1) := by decide +kernel
theorem dX9_history_46 : decode cX9_history 46 = .ok (.invokevirtual 270, 3) := by decide +kernel
theorem dX9_history_49 : decode cX9_history 49 = .ok (.ireturn, 1) := by decide +kernel
theorem dX9_history_50 : decode cX9_history 50 = .ok (.iload_n 2, 1) := by decide +kernel
theorem dX9_history_51 : decode cX9_history 51 = .ok (.ifCond .ge 7, 3) := by decide +kernel
theorem dX9_history_54 : decode cX9_history 54 = .ok (.iconst (-1), 1) := by decide +kernel
theorem dX9_history_55 : decode cX9_history 55 = .ok (.goto 13, 3) := by decide +kernel
theorem dX9_history_58 : decode cX9_history 58 = .ok (.aload 4, 2) := by decide +kernel
theorem dX9_history_60 : decode cX9_history 60 = .ok (.getfield 176, 3) := by decide +kernel
theorem dX9_history_63 : decode cX9_history 63 = .ok (.iload_n 1, 1) := by decide +kernel
theorem dX9_history_64 : decode cX9_history 64 = .ok (.iload_n 2, 1) := by decide +kernel
theorem dX9_history_65 : decode cX9_history 65 = .ok (.invokevirtual 270, 3) := by decide +kernel
theorem dX9_history_68 : decode cX9_history 68 = .ok (.istore 5, 2) := by decide +kernel
theorem dX9_history_70 : decode cX9_history 70 = .ok (.iload 5, 2) := by decide +kernel
theorem dX9_history_72 : decode cX9_history 72 = .ok (.iconst (-1), 1) := by decide +kernel
theorem dX9_history_73 : decode cX9_history 73 = .ok (.if_icmp .ne 6, 3) := by decide +kernel
theorem dX9_history_76 : decode cX9_history 76 = .ok (.ldc 175, 2) := by decide +kernel
theorem dX9_history_78 : decode cX9_history 78 = .ok (.ireturn, 1) := by decide +kernel
theorem dX9_history_79 : decode cX9_history 79 = .ok (.aload 4, 2) := by decide +kernel
theorem dX9_history_81 : decode cX9_history 81 = .ok (.getfield 176, 3) := by decide +kernel
theorem dX9_history_84 : decode cX9_history 84 = .ok (.iload 5, 2) := by decide +kernel
theorem dX9_history_86 : decode cX9_history 86 = .ok (.iload_n 1, 1) := by decide +kernel
theorem dX9_history_87 : decode cX9_history 87 = .ok (.invokevirtual 180, 3) := by decide +kernel
theorem dX9_history_90 : decode cX9_history 90 = .ok (.istore 6, 2) := by decide +kernel
theorem dX9_history_92 : decode cX9_history 92 = .ok (.iload_n 3, 1) := by decide +kernel
theorem dX9_history_93 : decode cX9_history 93 = .ok (.lookupswitch 41 #[(0, 27), (1, 30)], 27) := by decide +kernel
theorem dX9_history_120 : decode cX9_history 120 = .ok (.iload 5, 2) := by decide +kernel
theorem dX9_history_122 : decode cX9_history 122 = .ok (.ireturn, 1) := by decide +kernel
theorem dX9_history_123 : decode cX9_history 123 = .ok (.aload 4, 2) := by decide +kernel
theorem dX9_history_125 : decode cX9_history 125 = .ok (.getfield 176, 3) := by decide +kernel
theorem dX9_history_128 : decode cX9_history 128 = .ok (.iload 6, 2) := by decide +kernel
theorem dX9_history_130 : decode cX9_history 130 = .ok (.invokevirtual 186, 3) := by decide +kernel
theorem dX9_history_133 : decode cX9_history 133 = .ok (.ireturn, 1) := by decide +kernel
theorem dX9_history_134 : decode cX9_history 134 = .ok (.aload 4, 2) := by decide +kernel
theorem dX9_history_136 : decode cX9_history 136 = .ok (.getfield 176, 3) := by decide +kernel
theorem dX9_history_139 : decode cX9_history 139 = .ok (.iload 6, 2) := by decide +kernel
theorem dX9_history_141 : decode cX9_history 141 = .ok (.invokevirtual 190, 3) := by decide +kernel
theorem dX9_history_144 : decode cX9_history 144 = .ok (.ireturn, 1) := by decide +kernel
theorem dX9_isAnyTime_0 : decode cX9_isAnyTime 0 = .ok (.iload_n 0, 1) := by decide +kernel
theorem dX9_isAnyTime_1 : decode cX9_isAnyTime 1 = .ok (.ifCond .lt 14, 3) := by decide +kernel
theorem dX9_isAnyTime_4 : decode cX9_isAnyTime 4 = .ok (.iload_n 0, 1) := by decide +kernel
theorem dX9_isAnyTime_5 : decode cX9_isAnyTime 5 = .ok (.sipush 3000, 3) := by decide +kernel
theorem dX9_isAnyTime_8 : decode cX9_isAnyTime 8 = .ok (.if_icmp .gt 7, 3) := by decide +kernel
theorem dX9_isAnyTime_11 : decode cX9_isAnyTime 11 = .ok (.iconst 1, 1) := by decide +kernel
theorem dX9_isAnyTime_12 : decode cX9_isAnyTime 12 = .ok (.goto 4, 3) := by decide +kernel
theorem dX9_isAnyTime_15 : decode cX9_isAnyTime 15 = .ok (.iconst 0, 1) := by decide +kernel
theorem dX9_isAnyTime_16 : decode cX9_isAnyTime 16 = .ok (.ireturn, 1) := by decide +kernel
theorem dX9_log_0 : decode cX9_log 0 = .ok (.aload_n 0, 1) := by decide +kernel
theorem dX9_log_1 : decode cX9_log 1 = .ok (.aload_n 0, 1) := by decide +kernel
theorem dX9_log_2 : decode cX9_log 2 = .ok (.getfield 52, 3) := by decide +kernel
theorem dX9_log_5 : decode cX9_log 5 = .ok (.invokevirtual 169, 3) := by decide +kernel
theorem dX9_log_8 : decode cX9_log 8 = .ok (.astore_n 3, 1) := by decide +kernel
theorem dX9_log_9 : decode cX9_log 9 = .ok (.aload_n 3, 1) := by decide +kernel
theorem dX9_log_10 : decode cX9_log 10 = .ok (.ifnull 12, 3) := by decide +kernel
theorem dX9_log_13 : decode cX9_log 13 = .ok (.iload_n 2, 1) := by decide +kernel
theorem dX9_log_14 : decode cX9_log 14 = .ok (.ifCond .lt 8, 3) := by decide +kernel
theorem dX9_log_17 : decode cX9_log 17 = .ok (.iload_n 2, 1) := by decide +kernel
theorem dX9_log_18 : decode cX9_log 18 = .ok (.iconst 4, 1) := by decide +kernel
theorem dX9_log_19 : decode cX9_log 19 = .ok (.if_icmp .le 6, 3) := by decide +kernel
theorem dX9_log_22 : decode cX9_log 22 = .ok (.ldc 175, 2) := by decide +kernel
theorem dX9_log_24 : decode cX9_log 24 = .ok (.ireturn, 1) := by decide +kernel
theorem dX9_log_25 : decode cX9_log 25 = .ok (.iload_n 1, 1) := by decide +kernel
theorem dX9_log_26 : decode cX9_log 26 = .ok (.iconst (-1), 1) := by decide +kernel
theorem dX9_log_27 : decode cX9_log 27 = .ok (.if_icmp .ne 13, 3) := by decide +kernel
theorem dX9_log_30 : decode cX9_log 30 = .ok (.aload_n 3, 1) := by decide +kernel
theorem dX9_log_31 : decode cX9_log 31 = .ok (.getfield 109, 3) := by decide +kernel
theorem dX9_log_34 : decode cX9_log 34 = .ok (.getfield 284, 3) := by decide +kernel
theorem dX9_log_37 : decode cX9_log 37 = .ok (.goto 12, 3) := by decide +kernel
theorem dX9_log_40 : decode cX9_log 40 = .ok (.aload_n 3, 1) := by decide +kernel
theorem dX9_log_41 : decode cX9_log 41 = .ok (.getfield 109, 3) := by decide +kernel
theorem dX9_log_44 : decode cX9_log 44 = .ok (.iload_n 1, 1) := by decide +kernel
theorem dX9_log_45 : decode cX9_log 45 = .ok (.iload_n 2, 1) := by decide +kernel
theorem dX9_log_46 : decode cX9_log 46 = .ok (.invokevirtual 285, 3) := by decide +kernel
theorem dX9_log_49 : decode cX9_log 49 = .ok (.ireturn, 1) := by decide +kernel
theorem dX9_rests_0 : decode cX9_rests 0 = .ok (.aload_n 0, 1) := by decide +kernel
theorem dX9_rests_1 : decode cX9_rests 1 = .ok (.aload_n 0, 1) := by decide +kernel
theorem dX9_rests_2 : decode cX9_rests 2 = .ok (.getfield 52, 3) := by decide +kernel
theorem dX9_rests_5 : decode cX9_rests 5 = .ok (.invokevirtual 169, 3) := by decide +kernel
theorem dX9_rests_8 : decode cX9_rests 8 = .ok (.astore 4, 2) := by decide +kernel
theorem dX9_rests_10 : decode cX9_rests 10 = .ok (.aload 4, 2) := by decide +kernel
theorem dX9_rests_12 : decode cX9_rests 12 = .ok (.ifnull 19, 3) := by decide +kernel
theorem dX9_rests_15 : decode cX9_rests 15 = .ok (.aload 4, 2) := by decide +kernel
theorem dX9_rests_17 : decode cX9_rests 17 = .ok (.iload_n 1, 1) := by decide +kernel
theorem dX9_rests_18 : decode cX9_rests 18 = .ok (.invokevirtual 172, 3) := by decide +kernel
theorem dX9_rests_21 : decode cX9_rests 21 = .ok (.ifCond .eq 10, 3) := by decide +kernel
theorem dX9_rests_24 : decode cX9_rests 24 = .ok (.iload_n 2, 1) := by decide +kernel
theorem dX9_rests_25 : decode cX9_rests 25 = .ok (.invokestatic 119, 3) := by decide +kernel
theorem dX9_rests_28 : decode cX9_rests 28 = .ok (.ifCond .ne 6, 3) := by decide +kernel
theorem dX9_rests_31 : decode cX9_rests 31 = .ok (.bipush (-2), 2) := by decide +kernel
theorem dX9_rests_33 : decode cX9_rests 33 = .ok (.ireturn, 1) := by decide +kernel
theorem dX9_rests_34 : decode cX9_rests 34 = .ok (.aload 4, 2) := by decide +kernel
theorem dX9_rests_36 : decode cX9_rests 36 = .ok (.getfield 176, 3) := by decide +kernel
theorem dX9_rests_39 : decode cX9_rests 39 = .ok (.aload 4, 2) := by decide +kernel
theorem dX9_rests_41 : decode cX9_rests 41 = .ok (.getfield 176, 3) := by decide +kernel
theorem dX9_rests_44 : decode cX9_rests 44 = .ok (.iload_n 1, 1) := by decide +kernel
theorem dX9_rests_45 : decode cX9_rests 45 = .ok (.iload_n 2, 1) := by decide +kernel
theorem dX9_rests_46 : decode cX9_rests 46 = .ok (.invokevirtual 180, 3) := by decide +kernel
theorem dX9_rests_49 : decode cX9_rests 49 = .ok (.aload_n 0, 1) := by decide +kernel
theorem dX9_rests_50 : decode cX9_rests 50 = .ok (.getfield 30, 3) := by decide +kernel
theorem dX9_rests_53 : decode cX9_rests 53 = .ok (.invokevirtual 252, 3) := by decide +kernel
theorem dX9_rests_56 : decode cX9_rests 56 = .ok (.aload 4, 2) := by decide +kernel
theorem dX9_rests_58 : decode cX9_rests 58 = .ok (.getfield 176, 3) := by decide +kernel
theorem dX9_rests_61 : decode cX9_rests 61 = .ok (.iload_n 3, 1) := by decide +kernel
theorem dX9_rests_62 : decode cX9_rests 62 = .ok (.aload_n 0, 1) := by decide +kernel
theorem dX9_rests_63 : decode cX9_rests 63 = .ok (.getfield 30, 3) := by decide +kernel
theorem dX9_rests_66 : decode cX9_rests 66 = .ok (.invokevirtual 256, 3) := by decide +kernel
theorem dX9_rests_69 : decode cX9_rests 69 = .ok (.ireturn, 1) := by decide +kernel
theorem dX9_sparing_0 : decode cX9_sparing 0 = .ok (.iload_n 1, 1) := by decide +kernel
theorem dX9_sparing_1 : decode cX9_sparing 1 = .ok (.invokestatic 85, 3) := by decide +kernel
theorem dX9_sparing_4 : decode cX9_sparing 4 = .ok (.ifCond .eq 10, 3) := by decide +kernel
theorem dX9_sparing_7 : decode cX9_sparing 7 = .ok (.iload_n 2, 1) := by decide +kernel
theorem dX9_sparing_8 : decode cX9_sparing 8 = .ok (.invokestatic 293, 3) := by decide +kernel
theorem dX9_sparing_11 : decode cX9_sparing 11 = .ok (.ifCond .ne 5, 3) := by decide +kernel
theorem dX9_sparing_14 : decode cX9_sparing 14 = .ok (.iconst (-1), 1) := by decide +kernel
theorem dX9_sparing_15 : decode cX9_sparing 15 = .ok (.ireturn, 1) := by decide +kernel
theorem dX9_sparing_16 : decode cX9_sparing 16 = .ok (.iconst 1, 1) := by decide +kernel
theorem dX9_sparing_17 : decode cX9_sparing 17 = .ok (.istore 4, 2) := by decide +kernel
theorem dX9_sparing_19 : decode cX9_sparing 19 = .ok (.iload 4, 2) := by decide +kernel
theorem dX9_sparing_21 : decode cX9_sparing 21 = .ok (.bipush 64, 2) := by decide +kernel
theorem dX9_sparing_23 : decode cX9_sparing 23 = .ok (.if_icmp .gt 23, 3) := by decide +kernel
theorem dX9_sparing_26 : decode cX9_sparing 26 = .ok (.iload 4, 2) := by decide +kernel
theorem dX9_sparing_28 : decode cX9_sparing 28 = .ok (.iload_n 1, 1) := by decide +kernel
theorem dX9_sparing_29 : decode cX9_sparing 29 = .ok (.iload_n 2, 1) := by decide +kernel
theorem dX9_sparing_30 : decode cX9_sparing 30 = .ok (.invokestatic 296, 3) := by decide +kernel
theorem dX9_sparing_33 : decode cX9_sparing 33 = .ok (.iload_n 3, 1) := by decide +kernel
theorem dX9_sparing_34 : decode cX9_sparing 34 = .ok (.if_icmp .gt 6, 3) := by decide +kernel
theorem dX9_sparing_37 : decode cX9_sparing 37 = .ok (.iload 4, 2) := by decide +kernel
theorem dX9_sparing_39 : decode cX9_sparing 39 = .ok (.ireturn, 1) := by decide +kernel
theorem dX9_sparing_40 : decode cX9_sparing 40 = .ok (.iinc 4 1, 3) := by decide +kernel
theorem dX9_sparing_43 : decode cX9_sparing 43 = .ok (.goto (-24), 3) := by decide +kernel
theorem dX9_sparing_46 : decode cX9_sparing 46 = .ok (.iconst (-1), 1) := by decide +kernel
theorem dX9_sparing_47 : decode cX9_sparing 47 = .ok (.ireturn, 1) := by decide +kernel
theorem dX9_watched_0 : decode cX9_watched 0 = .ok (.aload_n 0, 1) := by decide +kernel
theorem dX9_watched_1 : decode cX9_watched 1 = .ok (.iconst 0, 1) := by decide +kernel
theorem dX9_watched_2 : decode cX9_watched 2 = .ok (.putfield 67, 3) := by decide +kernel
theorem dX9_watched_5 : decode cX9_watched 5 = .ok (.aload_n 0, 1) := by decide +kernel
theorem dX9_watched_6 : decode cX9_watched 6 = .ok (.aload_n 0, 1) := by decide +kernel
theorem dX9_watched_7 : decode cX9_watched 7 = .ok (.getfield 52, 3) := by decide +kernel
theorem dX9_watched_10 : decode cX9_watched 10 = .ok (.invokevirtual 169, 3) := by decide +kernel
theorem dX9_watched_13 : decode cX9_watched 13 = .ok (.astore_n 2, 1) := by decide +kernel
theorem dX9_watched_14 : decode cX9_watched 14 = .ok (.aload_n 2, 1) := by decide +kernel
theorem dX9_watched_15 : decode cX9_watched 15 = .ok (.ifnull 16, 3) := by decide +kernel
theorem dX9_watched_18 : decode cX9_watched 18 = .ok (.iload_n 1, 1) := by decide +kernel
theorem dX9_watched_19 : decode cX9_watched 19 = .ok (.iconst 1, 1) := by decide +kernel
theorem dX9_watched_20 : decode cX9_watched 20 = .ok (.if_icmp .lt 11, 3) := by decide +kernel
theorem dX9_watched_23 : decode cX9_watched 23 = .ok (.iload_n 1, 1) := by decide +kernel
theorem dX9_watched_24 : decode cX9_watched 24 = .ok (.aload_n 2, 1) := by decide +kernel
theorem dX9_watched_25 : decode cX9_watched 25 = .ok (.getfield 144, 3) := by decide +kernel
theorem dX9_watched_28 : decode cX9_watched 28 = .ok (.if_icmp .le 6, 3) := by decide +kernel
theorem dX9_watched_31 : decode cX9_watched 31 = .ok (.bipush (-2), 2) := by decide +kernel
theorem dX9_watched_33 : decode cX9_watched 33 = .ok (.ireturn, 1) := by decide +kernel
theorem dX9_watched_34 : decode cX9_watched 34 = .ok (.iconst (-1), 1) := by decide +kernel
theorem dX9_watched_35 : decode cX9_watched 35 = .ok (.istore_n 3, 1) := by decide +kernel
theorem dX9_watched_36 : decode cX9_watched 36 = .ok (.iconst 0, 1) := by decide +kernel
theorem dX9_watched_37 : decode cX9_watched 37 = .ok (.istore 4, 2) := by decide +kernel
theorem dX9_watched_39 : decode cX9_watched 39 = .ok (.iload 4, 2) := by decide +kernel
theorem dX9_watched_41 : decode cX9_watched 41 = .ok (.bipush 40, 2) := by decide +kernel
theorem dX9_watched_43 : decode cX9_watched 43 = .ok (.if_icmp .ge 33, 3) := by decide +kernel
theorem dX9_watched_46 : decode cX9_watched 46 = .ok (.aload_n 0, 1) := by decide +kernel
theorem dX9_watched_47 : decode cX9_watched 47 = .ok (.iload 4, 2) := by decide +kernel
theorem dX9_watched_49 : decode cX9_watched 49 = .ok (.invokevirtual 141, 3) := by decide +kernel
theorem dX9_watched_52 : decode cX9_watched 52 = .ok (.ifCond .eq 18, 3) := by decide +kernel
theorem dX9_watched_55 : decode cX9_watched 55 = .ok (.iload_n 3, 1) := by decide +kernel
theorem dX9_watched_56 : decode cX9_watched 56 = .ok (.aload_n 0, 1) := by decide +kernel
theorem dX9_watched_57 : decode cX9_watched 57 = .ok (.aload_n 2, 1) := by decide +kernel
theorem dX9_watched_58 : decode cX9_watched 58 = .ok (.iload_n 1, 1) := by decide +kernel
theorem dX9_watched_59 : decode cX9_watched 59 = .ok (.iconst 1, 1) := by decide +kernel
theorem dX9_watched_60 : decode cX9_watched 60 = .ok (.isub, 1) := by decide +kernel
theorem dX9_watched_61 : decode cX9_watched 61 = .ok (.iload 4, 2) := by decide +kernel
theorem dX9_watched_63 : decode cX9_watched 63 = .ok (.invokevirtual 218, 3) := by decide +kernel
theorem dX9_watched_66 : decode cX9_watched 66 = .ok (.invokestatic 247, 3) := by decide +kernel
theorem dX9_watched_69 : decode cX9_watched 69 = .ok (.istore_n 3, 1) := by decide +kernel
theorem dX9_watched_70 : decode cX9_watched 70 = .ok (.iinc 4 1, 3) := by decide +kernel
theorem dX9_watched_73 : decode cX9_watched 73 = .ok (.goto (-34), 3) := by decide +kernel
theorem dX9_watched_76 : decode cX9_watched 76 = .ok (.iload_n 3, 1) := by decide +kernel
theorem dX9_watched_77 : decode cX9_watched 77 = .ok (.ireturn, 1) := by decide +kernel
theorem dX9_would_0 : decode cX9_would 0 = .ok (.iload_n 1, 1) := by decide +kernel
theorem dX9_would_1 : decode cX9_would 1 = .ok (.invokestatic 82, 3) := by decide +kernel
theorem dX9_would_4 : decode cX9_would 4 = .ok (.ifCond .eq 17, 3) := by decide +kernel
theorem dX9_would_7 : decode cX9_would 7 = .ok (.iload_n 2, 1) := by decide +kernel
theorem dX9_would_8 : decode cX9_would 8 = .ok (.invokestatic 85, 3) := by decide +kernel
theorem dX9_would_11 : decode cX9_would 11 = .ok (.ifCond .eq 10, 3) := by decide +kernel
theorem dX9_would_14 : decode cX9_would 14 = .ok (.iload_n 3, 1) := by decide +kernel
theorem dX9_would_15 : decode cX9_would 15 = .ok (.invokestatic 293, 3) := by decide +kernel
theorem dX9_would_18 : decode cX9_would 18 = .ok (.ifCond .ne 5, 3) := by decide +kernel
theorem dX9_would_21 : decode cX9_would 21 = .ok (.iconst (-1), 1) := by decide +kernel
theorem dX9_would_22 : decode cX9_would 22 = .ok (.ireturn, 1) := by decide +kernel
theorem dX9_would_23 : decode cX9_would 23 = .ok (.iload_n 1, 1) := by decide +kernel
theorem dX9_would_24 : decode cX9_would 24 = .ok (.iload_n 2, 1) := by decide +kernel
theorem dX9_would_25 : decode cX9_would 25 = .ok (.iload_n 3, 1) := by decide +kernel
theorem dX9_would_26 : decode cX9_would 26 = .ok (.invokestatic 296, 3) := by decide +kernel
theorem dX9_would_29 : decode cX9_would 29 = .ok (.ireturn, 1) := by decide +kernel
theorem dX9_wouldBeHeld_0 : decode cX9_wouldBeHeld 0 = .ok (.iload_n 0, 1) := by decide +kernel
theorem dX9_wouldBeHeld_1 : decode cX9_wouldBeHeld 1 = .ok (.iconst 1, 1) := by decide +kernel
theorem dX9_wouldBeHeld_2 : decode cX9_wouldBeHeld 2 = .ok (.if_icmp .ge 5, 3) := by decide +kernel
theorem dX9_wouldBeHeld_5 : decode cX9_wouldBeHeld 5 = .ok (.iconst 0, 1) := by decide +kernel
theorem dX9_wouldBeHeld_6 : decode cX9_wouldBeHeld 6 = .ok (.ireturn, 1) := by decide +kernel
theorem dX9_wouldBeHeld_7 : decode cX9_wouldBeHeld 7 = .ok (.iload_n 2, 1) := by decide +kernel
theorem dX9_wouldBeHeld_8 : decode cX9_wouldBeHeld 8 = .ok (.iload_n 0, 1) := by decide +kernel
theorem dX9_wouldBeHeld_9 : decode cX9_wouldBeHeld 9 = .ok (.idiv, 1) := by decide +kernel
theorem dX9_wouldBeHeld_10 : decode cX9_wouldBeHeld 10 = .ok (.istore_n 3, 1) := by decide +kernel
theorem dX9_wouldBeHeld_11 : decode cX9_wouldBeHeld 11 = .ok (.iconst 1, 1) := by decide +kernel
theorem dX9_wouldBeHeld_12 : decode cX9_wouldBeHeld 12 = .ok (.istore 4, 2) := by decide +kernel
theorem dX9_wouldBeHeld_14 : decode cX9_wouldBeHeld 14 = .ok (.iconst 1, 1) := by decide +kernel
theorem dX9_wouldBeHeld_15 : decode cX9_wouldBeHeld 15 = .ok (.istore 5, 2) := by decide +kernel
theorem dX9_wouldBeHeld_17 : decode cX9_wouldBeHeld 17 = .ok (.iload 5, 2) := by decide +kernel
theorem dX9_wouldBeHeld_19 : decode cX9_wouldBeHeld 19 = .ok (.iload_n 3, 1) := by decide +kernel
theorem dX9_wouldBeHeld_20 : decode cX9_wouldBeHeld 20 = .ok (.if_icmp .gt 22, 3) := by decide +kernel
theorem dX9_wouldBeHeld_23 : decode cX9_wouldBeHeld 23 = .ok (.iload 5, 2) := by decide +kernel
theorem dX9_wouldBeHeld_25 : decode cX9_wouldBeHeld 25 = .ok (.iload_n 1, 1) := by decide +kernel
theorem dX9_wouldBeHeld_26 : decode cX9_wouldBeHeld 26 = .ok (.iload_n 3, 1) := by decide +kernel
theorem dX9_wouldBeHeld_27 : decode cX9_wouldBeHeld 27 = .ok (.invokestatic 300, 3) := by decide +kernel
theorem dX9_wouldBeHeld_30 : decode cX9_wouldBeHeld 30 = .ok (.ifCond .eq 6, 3) := by decide +kernel
theorem dX9_wouldBeHeld_33 : decode cX9_wouldBeHeld 33 = .ok (.iinc 4 1, 3) := by decide +kernel
theorem dX9_wouldBeHeld_36 : decode cX9_wouldBeHeld 36 = .ok (.iinc 5 1, 3) := by decide +kernel
theorem dX9_wouldBeHeld_39 : decode cX9_wouldBeHeld 39 = .ok (.goto (-22), 3) := by decide +kernel
theorem dX9_wouldBeHeld_42 : decode cX9_wouldBeHeld 42 = .ok (.iload 4, 2) := by decide +kernel
theorem dX9_wouldBeHeld_44 : decode cX9_wouldBeHeld 44 = .ok (.ireturn, 1) := by decide +kernel
def g_X9_watched_j70 (F : Nat) (o8 : Nat) (l1 : Int32) (l3 : Int32) (l4 : Int32) (u : rg_U) : Option ((Int32 × Int32 × rg_U) ⊕ (Int32 × rg_U)) :=
  some (.inl (l3, (l4 + 1), u))
set_option maxHeartbeats 4000000 in
set_option maxRecDepth 100000 in
theorem k_X9_watched_j70 {gs : List String} {ro : pm_RO} {n : Nat} {w w1 : Nat → va_E} {b : Nat} {u : rg_U} {F : Nat} {o8 : Nat} {l1 : Int32} {l3 : Int32} {l4 : Int32} {z : ((Int32 × Int32 × rg_U) ⊕ (Int32 × rg_U))} {Q : Option Value → Nat → (Nat → va_E) → Prop} (hR : rg shC b u n w1) (hk : rg_k b shC.length w w1) (hs_o8 : sp_Run o8) (h : g_X9_watched_j70 F o8 l1 l3 l4 u = some z) (hc : ∀ s', z = .inl s' → ∀ w1, rg shC b s'.2.2 n w1 → rg_k b shC.length w w1 → pm_X gs ro M_X9_watched 5 0 0 0 0 39 [some (.ref (b + 0)), some (.int l1), some (.ref (b + o8)), some (.int s'.1), some (.int s'.2.1)] [] n w1 Q) (he0 : ∀ r', z = .inr r' → ∀ w1, rg shC b r'.2 n w1 → rg_k b shC.length w w1 → pm_X gs ro M_X9_watched 5 0 0 0 0 76 [none, none, none, some (.int r'.1), none] [] n w1 Q) : pm_X gs ro M_X9_watched 5 0 0 0 0 70 [some (.ref (b + 0)), some (.int l1), some (.ref (b + o8)), some (.int l3), some (.int l4)] [] n w1 Q := by
  unfold g_X9_watched_j70 at h
  refine pm_iinc (v := (l4 + 1)) dX9_watched_70 rfl rfl (by decide) rfl rfl ?_
  refine pm_goto (tgt := 39) dX9_watched_73 (by decide) ?_
  refine pm_lw (L' := [some (.ref (b + 0)), some (.int l1), some (.ref (b + o8)), some (.int l3), some (.int (l4 + 1))]) ⟨Or.inr rfl, Or.inr rfl, Or.inr rfl, Or.inr rfl, Or.inr rfl, trivial⟩ ?_
  exact hc _ (Option.some.inj h).symm _ hR hk
def g_X9_watched_l39 (F : Nat) (o8 : Nat) (l1 : Int32) (l3 : Int32) (l4 : Int32) (u : rg_U) : Option ((Int32 × Int32 × rg_U) ⊕ (Int32 × rg_U)) :=
  if 40 ≤ l4 then (some (.inr (l3, u))) else (ob (g_X9_isWatched F l4 u) (fun r12 => if r12 = 0 then (g_X9_watched_j70 F o8 l1 l3 l4 u) else (ob (g_X9_lastChange F o8 (l1 - 1) l4 u) (fun r15 => g_X9_watched_j70 F o8 l1 (imax l3 r15.1) l4 r15.2))))
set_option maxHeartbeats 4000000 in
set_option maxRecDepth 100000 in
theorem k_X9_watched_l39 {gs : List String} {ro : pm_RO} {n : Nat} {w w1 : Nat → va_E} {b : Nat} {u : rg_U} {F : Nat} {o8 : Nat} {l1 : Int32} {l3 : Int32} {l4 : Int32} {z : (Int32 × Int32 × rg_U) ⊕ (Int32 × rg_U)} {Q : Option Value → Nat → (Nat → va_E) → Prop} (hR : rg shC b u n w1) (hk : rg_k b shC.length w w1) (hs_o8 : sp_Run o8) (h : g_X9_watched_l39 F o8 l1 l3 l4 u = some z) (hc : ∀ s', z = .inl s' → ∀ w1, rg shC b s'.2.2 n w1 → rg_k b shC.length w w1 → pm_X gs ro M_X9_watched 5 0 0 0 0 39 [some (.ref (b + 0)), some (.int l1), some (.ref (b + o8)), some (.int s'.1), some (.int s'.2.1)] [] n w1 Q) (he0 : ∀ r', z = .inr r' → ∀ w1, rg shC b r'.2 n w1 → rg_k b shC.length w w1 → pm_X gs ro M_X9_watched 5 0 0 0 0 76 [none, none, none, some (.int r'.1), none] [] n w1 Q) : pm_X gs ro M_X9_watched 5 0 0 0 0 39 [some (.ref (b + 0)), some (.int l1), some (.ref (b + o8)), some (.int l3), some (.int l4)] [] n w1 Q := by
  unfold g_X9_watched_l39 at h
  refine pm_iload dX9_watched_39 rfl ?_
  refine pm_bipush (v := 40) dX9_watched_41 (by decide) ?_
  refine pm_icmp_ge (tgt := 76) dX9_watched_43 (by decide) (fun c11 => ?_) (fun c11 => ?_)
  · replace h := it_t c11 h
    refine pm_lw (L' := [none, none, none, some (.int l3), none]) ⟨Or.inl rfl, Or.inl rfl, Or.inl rfl, Or.inr rfl, Or.inl rfl, trivial⟩ ?_
    exact he0 _ (Option.some.inj h).symm _ hR hk
  · replace h := it_f c11 h
    refine pm_aload_n dX9_watched_46 rfl ?_
    refine pm_iload dX9_watched_47 rfl ?_
    obtain ⟨r12, h13, h⟩ := ob_some h
    refine dx_cVp (j := 0) (M := M_X9_watched) (Mc := M_X9_isWatched) (dc := 1) (As := [.int l4]) (st := []) hR dX9_watched_49 ml_X9_141 ⟨TX9, 14, rfl⟩ rfl (by decide) (Nat.le_of_ble_eq_true rfl) rfl (k_X9_isWatched hR h13) ?_
    refine pm_if_eq (tgt := 70) dX9_watched_52 (by decide) (fun c14 => ?_) (fun c14 => ?_)
    · replace h := it_t c14 h
      exact k_X9_watched_j70 hR hk hs_o8 h hc he0
    · replace h := it_f c14 h
      refine pm_iload_n dX9_watched_55 rfl ?_
      refine pm_aload_n dX9_watched_56 rfl ?_
      refine pm_aload_n dX9_watched_57 rfl ?_
      refine pm_iload_n dX9_watched_58 rfl ?_
      refine pm_iconst (v := 1) dX9_watched_59 (by decide) ?_
      refine pm_isub dX9_watched_60 ?_
      refine pm_iload dX9_watched_61 rfl ?_
      obtain ⟨r15, h16, h⟩ := ob_some h
      refine dx_cVi (j := 0) (M := M_X9_watched) (Mc := M_X9_lastChange) (dc := 4) (As := [.ref (b + o8), .int (l1 - 1), .int l4]) (st := [.int l3]) hR hk dX9_watched_63 ml_X9_218 ⟨TX9, 14, rfl⟩ rfl (by decide) (Nat.le_of_ble_eq_true rfl) rfl (k_X9_lastChange hR hs_o8 h16) (fun w17 hR18 hk19 => ?_)
      refine pm_mmax (M := M_X9_watched) dX9_watched_66 mm_X9_247 mm_max_2 mm_init mm_max_4 (by decide) (Nat.le_refl _) (Nat.le_refl _) (Nat.le_of_ble_eq_true rfl) ?_
      refine pm_istore_n dX9_watched_69 (by decide) rfl rfl ?_
      exact k_X9_watched_j70 hR18 hk19 hs_o8 h hc he0
def g_X9_watched (F : Nat) (x1 : Int32) (u : rg_U) : Option (Int32 × rg_U) :=
  lt1 (sF u 0 13 0) (fun u1 => ob (g_X9_numbered F (rF u1 0 8) u1) (fun r6 => om r6 (some ((-2), u1)) (fun o8 => ck (isRn o8) (if x1 < 1 then (some ((-2), u1)) else (if x1 ≤ (rF u1 o8 9) then (ob (lp (fun (s : (Int32 × Int32 × rg_U)) => g_X9_watched_l39 F o8 x1 s.1 s.2.1 s.2.2) F (((-1) : Int32), (0 : Int32), u1)) (fun r20 => some (r20.1, r20.2))) else (some ((-2), u1)))))))
set_option maxHeartbeats 4000000 in
set_option maxRecDepth 100000 in
theorem k_X9_watched {gs : List String} {ro : pm_RO} {n : Nat} {w : Nat → va_E} {b : Nat} {u : rg_U} {F : Nat} {x1 : Int32} {z : (Int32 × rg_U)} (hR : rg shC b u n w) (h : g_X9_watched F x1 u = some z) : pm_Met gs ro M_X9_watched 5 0 0 [.ref (b + 0), .int x1] n w (rg_post shC b n w (some (.int z.1)) z.2) := by
  unfold g_X9_watched at h
  refine pm_ofX in_X9_watched (Nat.le_of_ble_eq_true rfl) rfl (L := [some (.ref (b + 0)), some (.int x1), none, none, none]) rfl ?_
  refine pm_aload_n dX9_watched_0 rfl ?_
  refine pm_iconst (v := 0) dX9_watched_1 (by decide) ?_
  obtain ⟨u1, hu2, h⟩ := lt1_ex h
  refine dx_pi (j := 0) hR rg_k0 dX9_watched_2 fl_X9_67 rfl rfl hu2 (fun w3 hR4 hk5 => ?_)
  refine pm_aload_n dX9_watched_5 rfl ?_
  refine pm_aload_n dX9_watched_6 rfl ?_
  refine dx_gi (j := 0) hR4 dX9_watched_7 fl_X9_52 rfl rfl ?_
  obtain ⟨r6, h7, h⟩ := ob_some h
  cases r6 with
  | none =>
    replace h := om_n rfl h
    refine dx_cVp (j := 0) (M := M_X9_watched) (Mc := M_X9_numbered) (dc := 1) (As := [.int (rF u1 0 8)]) (st := []) hR4 dX9_watched_10 ml_X9_169 ⟨TX9, 14, rfl⟩ rfl (v := .null) (by decide) (Nat.le_of_ble_eq_true rfl) rfl (k_X9_numbered hR4 h7) ?_
    refine pm_astore_nN dX9_watched_13 (by decide) rfl rfl ?_
    refine pm_aload_nN dX9_watched_14 rfl ?_
    refine pm_ifnullN (x := 0) (tgt := 31) dX9_watched_15 (by decide) ?_
    refine pm_bipush (v := (-2)) dX9_watched_31 (by decide) ?_
    cases h
    exact pm_iret dX9_watched_33 rfl (Nat.le_refl _) (Nat.le_refl _) ⟨rfl, rfl, hR4, hk5⟩
  | some o8 =>
    replace h := om_s rfl h
    obtain ⟨c25, h⟩ := ck_some h
    have hs_o8 := run_sp c25
    refine dx_cVp (j := 0) (M := M_X9_watched) (Mc := M_X9_numbered) (dc := 1) (As := [.int (rF u1 0 8)]) (st := []) hR4 dX9_watched_10 ml_X9_169 ⟨TX9, 14, rfl⟩ rfl (v := .ref (b + o8)) (by decide) (Nat.le_of_ble_eq_true rfl) rfl (k_X9_numbered hR4 h7) ?_
    refine pm_astore_n dX9_watched_13 (by decide) rfl rfl ?_
    refine pm_aload_n dX9_watched_14 rfl ?_
    refine pm_ifnull dX9_watched_15 ?_
    refine pm_iload_n dX9_watched_18 rfl ?_
    refine pm_iconst (v := 1) dX9_watched_19 (by decide) ?_
    refine pm_icmp_lt (tgt := 31) dX9_watched_20 (by decide) (fun c9 => ?_) (fun c9 => ?_)
    · replace h := it_t c9 h
      refine pm_bipush (v := (-2)) dX9_watched_31 (by decide) ?_
      cases h
      exact pm_iret dX9_watched_33 rfl (Nat.le_refl _) (Nat.le_refl _) ⟨rfl, rfl, hR4, hk5⟩
    · replace h := it_f c9 h
      refine pm_iload_n dX9_watched_23 rfl ?_
      refine pm_aload_n dX9_watched_24 rfl ?_
      refine dx_gi (j := o8) hR4 dX9_watched_25 fl_X9_144 (sp_Run_self hs_o8) rfl ?_
      refine pm_icmp_le (tgt := 34) dX9_watched_28 (by decide) (fun c10 => ?_) (fun c10 => ?_)
      · replace h := it_t c10 h
        refine pm_iconst (v := (-1)) dX9_watched_34 (by decide) ?_
        refine pm_istore_n dX9_watched_35 (by decide) rfl rfl ?_
        refine pm_iconst (v := 0) dX9_watched_36 (by decide) ?_
        refine pm_istore dX9_watched_37 (by decide) rfl rfl ?_
        obtain ⟨r20, h21, h⟩ := ob_some h
        refine lp_sound (P := fun (s : (Int32 × Int32 × rg_U)) => ∀ w1, rg shC b s.2.2 n w1 → rg_k b shC.length w w1 → pm_X gs ro M_X9_watched 5 0 0 0 0 39 [some (.ref (b + 0)), some (.int x1), some (.ref (b + o8)), some (.int s.1), some (.int s.2.1)] [] n w1 (rg_post shC b n w (some (.int z.1)) z.2)) (E := (fun (r : (Int32 × rg_U)) => ∀ w1, rg shC b r.2 n w1 → rg_k b shC.length w w1 → pm_X gs ro M_X9_watched 5 0 0 0 0 76 [none, none, none, some (.int r.1), none] [] n w1 (rg_post shC b n w (some (.int z.1)) z.2))) (fun s x hx hc he w1 hR1 hk1 => k_X9_watched_l39 hR1 hk1 hs_o8 hx hc (fun r q => he r q)) F _ r20 h21 ?_ _ hR4 hk5
        intro w22 hR23 hk24
        refine pm_iload_n dX9_watched_76 rfl ?_
        cases h
        exact pm_iret dX9_watched_77 rfl (Nat.le_refl _) (Nat.le_refl _) ⟨rfl, rfl, hR23, hk24⟩
      · replace h := it_f c10 h
        refine pm_bipush (v := (-2)) dX9_watched_31 (by decide) ?_
        cases h
        exact pm_iret dX9_watched_33 rfl (Nat.le_refl _) (Nat.le_refl _) ⟨rfl, rfl, hR4, hk5⟩
def g_X9_rests (F : Nat) (x1 : Int32) (x2 : Int32) (x3 : Int32) (u : rg_U) : Option (Int32 × rg_U) :=
  ob (g_X9_numbered F (rF u 0 8) u) (fun r1 => om r1 (some ((-2), u)) (fun o3 => ck (isRn o3) (ob (g_X7_hasTime F o3 x1 u) (fun r4 => if r4 = 0 then (some ((-2), u)) else (if (g_X9_isPlace x2) = 0 then (some ((-2), u)) else (ob (g_X6_putBy F (o3 + 12) x1 x2 u) (fun r8 => ob (g_X6_markAllBelow F (o3 + 12) r8 115 3800 u) (fun r10 => ob (g_X6_markedStep F (o3 + 12) x3 115 3800 r10) (fun r15 => some (r15, r10))))))))))
set_option maxHeartbeats 4000000 in
set_option maxRecDepth 100000 in
theorem k_X9_rests {gs : List String} {ro : pm_RO} {n : Nat} {w : Nat → va_E} {b : Nat} {u : rg_U} {F : Nat} {x1 : Int32} {x2 : Int32} {x3 : Int32} {z : (Int32 × rg_U)} (hR : rg shC b u n w) (h : g_X9_rests F x1 x2 x3 u = some z) : pm_Met gs ro M_X9_rests 3 0 0 [.ref (b + 0), .int x1, .int x2, .int x3] n w (rg_post shC b n w (some (.int z.1)) z.2) := by
  unfold g_X9_rests at h
  refine pm_ofX in_X9_rests (Nat.le_of_ble_eq_true rfl) rfl (L := [some (.ref (b + 0)), some (.int x1), some (.int x2), some (.int x3), none]) rfl ?_
  refine pm_aload_n dX9_rests_0 rfl ?_
  refine pm_aload_n dX9_rests_1 rfl ?_
  refine dx_gi (j := 0) hR dX9_rests_2 fl_X9_52 rfl rfl ?_
  obtain ⟨r1, h2, h⟩ := ob_some h
  cases r1 with
  | none =>
    replace h := om_n rfl h
    refine dx_cVp (j := 0) (M := M_X9_rests) (Mc := M_X9_numbered) (dc := 1) (As := [.int (rF u 0 8)]) (st := []) hR dX9_rests_5 ml_X9_169 ⟨TX9, 14, rfl⟩ rfl (v := .null) (by decide) (Nat.le_of_ble_eq_true rfl) rfl (k_X9_numbered hR h2) ?_
    refine pm_astoreN dX9_rests_8 (by decide) rfl rfl ?_
    refine pm_aloadN dX9_rests_10 rfl ?_
    refine pm_ifnullN (x := 0) (tgt := 31) dX9_rests_12 (by decide) ?_
    refine pm_bipush (v := (-2)) dX9_rests_31 (by decide) ?_
    cases h
    exact pm_iret dX9_rests_33 rfl (Nat.le_refl _) (Nat.le_refl _) ⟨rfl, rfl, hR, rg_k0⟩
  | some o3 =>
    replace h := om_s rfl h
    obtain ⟨c17, h⟩ := ck_some h
    have hs_o3 := run_sp c17
    refine dx_cVp (j := 0) (M := M_X9_rests) (Mc := M_X9_numbered) (dc := 1) (As := [.int (rF u 0 8)]) (st := []) hR dX9_rests_5 ml_X9_169 ⟨TX9, 14, rfl⟩ rfl (v := .ref (b + o3)) (by decide) (Nat.le_of_ble_eq_true rfl) rfl (k_X9_numbered hR h2) ?_
    refine pm_astore dX9_rests_8 (by decide) rfl rfl ?_
    refine pm_aload dX9_rests_10 rfl ?_
    refine pm_ifnull dX9_rests_12 ?_
    refine pm_aload dX9_rests_15 rfl ?_
    refine pm_iload_n dX9_rests_17 rfl ?_
    obtain ⟨r4, h5, h⟩ := ob_some h
    refine dx_cVp (j := o3) (M := M_X9_rests) (Mc := M_X7_hasTime) (dc := 0) (As := [.int x1]) (st := []) hR dX9_rests_18 ml_X9_172 ⟨TX7, 15, rfl⟩ (sp_Run_self hs_o3) (by decide) (Nat.le_of_ble_eq_true rfl) rfl (k_X7_hasTime hR hs_o3 h5) ?_
    refine pm_if_eq (tgt := 31) dX9_rests_21 (by decide) (fun c6 => ?_) (fun c6 => ?_)
    · replace h := it_t c6 h
      refine pm_bipush (v := (-2)) dX9_rests_31 (by decide) ?_
      cases h
      exact pm_iret dX9_rests_33 rfl (Nat.le_refl _) (Nat.le_refl _) ⟨rfl, rfl, hR, rg_k0⟩
    · replace h := it_f c6 h
      refine pm_iload_n dX9_rests_24 rfl ?_
      refine dx_cSp (M := M_X9_rests) (Mc := M_X9_isPlace) (dc := 0) (As := [.int x2]) (st := []) dX9_rests_25 ml_X9_119 (by decide) (Nat.le_of_ble_eq_true rfl) rfl (k_X9_isPlace rfl) ?_
      refine pm_if_ne (tgt := 34) dX9_rests_28 (by decide) (fun c7 => ?_) (fun c7 => ?_)
      · replace h := it_f c7 h
        refine pm_aload dX9_rests_34 rfl ?_
        refine dx_gr (j := o3) (o := (o3 + 12)) hR dX9_rests_36 fl_X9_176 (sp_Run_self hs_o3) rfl ?_
        refine pm_aload dX9_rests_39 rfl ?_
        refine dx_gr (j := o3) (o := (o3 + 12)) hR dX9_rests_41 fl_X9_176 (sp_Run_self hs_o3) rfl ?_
        refine pm_iload_n dX9_rests_44 rfl ?_
        refine pm_iload_n dX9_rests_45 rfl ?_
        obtain ⟨r8, h9, h⟩ := ob_some h
        refine dx_cVp (j := (o3 + 12)) (M := M_X9_rests) (Mc := M_X6_putBy) (dc := 2) (As := [.int x1, .int x2]) (st := [.ref (b + (o3 + 12))]) hR dX9_rests_46 ml_X9_180 ⟨TX6, 12, rfl⟩ (sp_Puts_self (sp_Run_puts hs_o3)) (by decide) (Nat.le_of_ble_eq_true rfl) rfl (k_X6_putBy hR (sp_Run_puts hs_o3) h9) ?_
        refine pm_aload_n dX9_rests_49 rfl ?_
        refine dx_gr (j := 0) (o := 115) hR dX9_rests_50 fl_X9_30 rfl rfl ?_
        obtain ⟨r10, h11, h⟩ := ob_some h
        refine dx_cVv (j := (o3 + 12)) (M := M_X9_rests) (Mc := M_X6_markAllBelow) (dc := 2) (As := [.int r8, .ref (b + 115)]) (st := []) hR rg_k0 dX9_rests_53 ml_X9_252 ⟨TX6, 12, rfl⟩ (sp_Puts_self (sp_Run_puts hs_o3)) (by decide) (Nat.le_of_ble_eq_true rfl) rfl (k_X6_markAllBelow hR (sp_Run_puts hs_o3) rfl h11) (fun w12 hR13 hk14 => ?_)
        refine pm_aload dX9_rests_56 rfl ?_
        refine dx_gr (j := o3) (o := (o3 + 12)) hR13 dX9_rests_58 fl_X9_176 (sp_Run_self hs_o3) rfl ?_
        refine pm_iload_n dX9_rests_61 rfl ?_
        refine pm_aload_n dX9_rests_62 rfl ?_
        refine dx_gr (j := 0) (o := 115) hR13 dX9_rests_63 fl_X9_30 rfl rfl ?_
        obtain ⟨r15, h16, h⟩ := ob_some h
        refine dx_cVp (j := (o3 + 12)) (M := M_X9_rests) (Mc := M_X6_markedStep) (dc := 1) (As := [.int x3, .ref (b + 115)]) (st := []) hR13 dX9_rests_66 ml_X9_256 ⟨TX6, 12, rfl⟩ (sp_Puts_self (sp_Run_puts hs_o3)) (by decide) (Nat.le_of_ble_eq_true rfl) rfl (k_X6_markedStep hR13 (sp_Run_puts hs_o3) rfl h16) ?_
        cases h
        exact pm_iret dX9_rests_69 rfl (Nat.le_refl _) (Nat.le_refl _) ⟨rfl, rfl, hR13, hk14⟩
      · replace h := it_t c7 h
        refine pm_bipush (v := (-2)) dX9_rests_31 (by decide) ?_
        cases h
        exact pm_iret dX9_rests_33 rfl (Nat.le_refl _) (Nat.le_refl _) ⟨rfl, rfl, hR, rg_k0⟩
def g_X9_hangs_j109 (F : Nat) (o3 : Nat) (l2 : Int32) (l3 : Int32) (l5 : Int32) (l6 : Int32) (u : rg_U) : Option ((Int32 × Int32) ⊕ Int32) :=
  some (.inl (l5, (l6 + 1)))
set_option maxHeartbeats 4000000 in
set_option maxRecDepth 100000 in
theorem k_X9_hangs_j109 {gs : List String} {ro : pm_RO} {n : Nat} {w w1 : Nat → va_E} {b : Nat} {u : rg_U} {F : Nat} {o3 : Nat} {l2 : Int32} {l3 : Int32} {l5 : Int32} {l6 : Int32} {z : ((Int32 × Int32) ⊕ Int32)} {Q : Option Value → Nat → (Nat → va_E) → Prop} (hR : rg shC b u n w1) (hk : rg_k b shC.length w w1) (hs_o3 : sp_Run o3) (h : g_X9_hangs_j109 F o3 l2 l3 l5 l6 u = some z) (hc : ∀ s', z = .inl s' → ∀ w1, rg shC b u n w1 → rg_k b shC.length w w1 → pm_X gs ro M_X9_hangs 3 0 0 0 0 65 [some (.ref (b + 0)), none, some (.int l2), some (.int l3), some (.ref (b + o3)), some (.int s'.1), some (.int s'.2)] [] n w1 Q) (he0 : ∀ r', z = .inr r' → ∀ w1, rg shC b u n w1 → rg_k b shC.length w w1 → pm_X gs ro M_X9_hangs 3 0 0 0 0 115 [none, none, none, none, none, some (.int r'), none] [] n w1 Q) : pm_X gs ro M_X9_hangs 3 0 0 0 0 109 [some (.ref (b + 0)), none, some (.int l2), some (.int l3), some (.ref (b + o3)), some (.int l5), some (.int l6)] [] n w1 Q := by
  unfold g_X9_hangs_j109 at h
  refine pm_iinc (v := (l6 + 1)) dX9_hangs_109 rfl rfl (by decide) rfl rfl ?_
  refine pm_goto (tgt := 65) dX9_hangs_112 (by decide) ?_
  refine pm_lw (L' := [some (.ref (b + 0)), none, some (.int l2), some (.int l3), some (.ref (b + o3)), some (.int l5), some (.int (l6 + 1))]) ⟨Or.inr rfl, Or.inl rfl, Or.inr rfl, Or.inr rfl, Or.inr rfl, Or.inr rfl, Or.inr rfl, trivial⟩ ?_
  exact hc _ (Option.some.inj h).symm _ hR hk
def g_X9_hangs_l65 (F : Nat) (o3 : Nat) (l2 : Int32) (l3 : Int32) (u : rg_U) (l5 : Int32) (l6 : Int32) : Option ((Int32 × Int32) ⊕ Int32) :=
  if (g_X9_placesOf l3) ≤ l6 then (some (.inr l5)) else (ob (g_X6_putBy F (o3 + 12) l2 ((g_X9_firstPlaceOf l3) + l6) u) (fun r17 => ob (g_X9_isMarked F 115 3800 r17 u) (fun r19 => if r19 = 0 then (g_X9_hangs_j109 F o3 l2 l3 l5 l6 u) else (g_X9_hangs_j109 F o3 l2 l3 (l5 ||| (dx_shl 1 l6)) l6 u))))
set_option maxHeartbeats 4000000 in
set_option maxRecDepth 100000 in
theorem k_X9_hangs_l65 {gs : List String} {ro : pm_RO} {n : Nat} {w w1 : Nat → va_E} {b : Nat} {u : rg_U} {F : Nat} {o3 : Nat} {l2 : Int32} {l3 : Int32} {l5 : Int32} {l6 : Int32} {z : (Int32 × Int32) ⊕ Int32} {Q : Option Value → Nat → (Nat → va_E) → Prop} (hR : rg shC b u n w1) (hk : rg_k b shC.length w w1) (hs_o3 : sp_Run o3) (h : g_X9_hangs_l65 F o3 l2 l3 u l5 l6 = some z) (hc : ∀ s', z = .inl s' → ∀ w1, rg shC b u n w1 → rg_k b shC.length w w1 → pm_X gs ro M_X9_hangs 3 0 0 0 0 65 [some (.ref (b + 0)), none, some (.int l2), some (.int l3), some (.ref (b + o3)), some (.int s'.1), some (.int s'.2)] [] n w1 Q) (he0 : ∀ r', z = .inr r' → ∀ w1, rg shC b u n w1 → rg_k b shC.length w w1 → pm_X gs ro M_X9_hangs 3 0 0 0 0 115 [none, none, none, none, none, some (.int r'), none] [] n w1 Q) : pm_X gs ro M_X9_hangs 3 0 0 0 0 65 [some (.ref (b + 0)), none, some (.int l2), some (.int l3), some (.ref (b + o3)), some (.int l5), some (.int l6)] [] n w1 Q := by
  unfold g_X9_hangs_l65 at h
  refine pm_iload dX9_hangs_65 rfl ?_
  refine pm_iload_n dX9_hangs_67 rfl ?_
  refine dx_cSp (M := M_X9_hangs) (Mc := M_X9_placesOf) (dc := 0) (As := [.int l3]) (st := [.int l6]) dX9_hangs_68 ml_X9_241 (by decide) (Nat.le_of_ble_eq_true rfl) rfl (k_X9_placesOf rfl) ?_
  refine pm_icmp_ge (tgt := 115) dX9_hangs_71 (by decide) (fun c16 => ?_) (fun c16 => ?_)
  · replace h := it_t c16 h
    refine pm_lw (L' := [none, none, none, none, none, some (.int l5), none]) ⟨Or.inl rfl, Or.inl rfl, Or.inl rfl, Or.inl rfl, Or.inl rfl, Or.inr rfl, Or.inl rfl, trivial⟩ ?_
    exact he0 _ (Option.some.inj h).symm _ hR hk
  · replace h := it_f c16 h
    refine pm_aload_n dX9_hangs_74 rfl ?_
    refine dx_gr (j := 0) (o := 115) hR dX9_hangs_75 fl_X9_30 rfl rfl ?_
    refine pm_aload dX9_hangs_78 rfl ?_
    refine dx_gr (j := o3) (o := (o3 + 12)) hR dX9_hangs_80 fl_X9_176 (sp_Run_self hs_o3) rfl ?_
    refine pm_iload_n dX9_hangs_83 rfl ?_
    refine pm_iload_n dX9_hangs_84 rfl ?_
    refine dx_cSp (M := M_X9_hangs) (Mc := M_X9_firstPlaceOf) (dc := 0) (As := [.int l3]) (st := [.int l2, .ref (b + (o3 + 12)), .ref (b + 115)]) dX9_hangs_85 ml_X9_244 (by decide) (Nat.le_of_ble_eq_true rfl) rfl (k_X9_firstPlaceOf rfl) ?_
    refine pm_iload dX9_hangs_88 rfl ?_
    refine pm_iadd dX9_hangs_90 ?_
    obtain ⟨r17, h18, h⟩ := ob_some h
    refine dx_cVp (j := (o3 + 12)) (M := M_X9_hangs) (Mc := M_X6_putBy) (dc := 2) (As := [.int l2, .int ((g_X9_firstPlaceOf l3) + l6)]) (st := [.ref (b + 115)]) hR dX9_hangs_91 ml_X9_180 ⟨TX6, 12, rfl⟩ (sp_Puts_self (sp_Run_puts hs_o3)) (by decide) (Nat.le_of_ble_eq_true rfl) rfl (k_X6_putBy hR (sp_Run_puts hs_o3) h18) ?_
    obtain ⟨r19, h20, h⟩ := ob_some h
    refine dx_cSp (M := M_X9_hangs) (Mc := M_X9_isMarked) (dc := 0) (As := [.ref (b + 115), .int r17]) (st := []) dX9_hangs_94 ml_X9_266 (by decide) (Nat.le_of_ble_eq_true rfl) rfl (k_X9_isMarked hR rfl h20) ?_
    refine pm_if_eq (tgt := 109) dX9_hangs_97 (by decide) (fun c21 => ?_) (fun c21 => ?_)
    · replace h := it_t c21 h
      exact k_X9_hangs_j109 hR hk hs_o3 h hc he0
    · replace h := it_f c21 h
      refine pm_iload dX9_hangs_100 rfl ?_
      refine pm_iconst (v := 1) dX9_hangs_102 (by decide) ?_
      refine pm_iload dX9_hangs_103 rfl ?_
      refine pm_ishl dX9_hangs_105 ?_
      refine pm_ior dX9_hangs_106 ?_
      refine pm_istore dX9_hangs_107 (by decide) rfl rfl ?_
      exact k_X9_hangs_j109 hR hk hs_o3 h hc he0
def g_X9_hangs (F : Nat) (x1 : Int32) (x2 : Int32) (x3 : Int32) (u : rg_U) : Option (Int32 × rg_U) :=
  ob (g_X9_numbered F (rF u 0 8) u) (fun r1 => om r1 (some ((-1000001), u)) (fun o3 => ck (isRn o3) (ob (g_X3_has F (o3 + 6) x1 u) (fun r4 => if r4 = 0 then (some ((-1000001), u)) else (ob (g_X7_hasTime F o3 x2 u) (fun r7 => if r7 = 0 then (some ((-1000001), u)) else (if (g_X9_isPlacesWhat x3) = 0 then (some ((-1000001), u)) else (ob (g_X6_markAllAbove F (o3 + 12) x1 115 3800 u) (fun r11 => ob (lp (fun (s : (Int32 × Int32)) => g_X9_hangs_l65 F o3 x2 x3 r11 s.1 s.2) F ((0 : Int32), (0 : Int32))) (fun r22 => some (r22, r11)))))))))))
set_option maxHeartbeats 4000000 in
set_option maxRecDepth 100000 in
theorem k_X9_hangs {gs : List String} {ro : pm_RO} {n : Nat} {w : Nat → va_E} {b : Nat} {u : rg_U} {F : Nat} {x1 : Int32} {x2 : Int32} {x3 : Int32} {z : (Int32 × rg_U)} (hR : rg shC b u n w) (h : g_X9_hangs F x1 x2 x3 u = some z) : pm_Met gs ro M_X9_hangs 3 0 0 [.ref (b + 0), .int x1, .int x2, .int x3] n w (rg_post shC b n w (some (.int z.1)) z.2) := by
  unfold g_X9_hangs at h
  refine pm_ofX in_X9_hangs (Nat.le_of_ble_eq_true rfl) rfl (L := [some (.ref (b + 0)), some (.int x1), some (.int x2), some (.int x3), none, none, none]) rfl ?_
  refine pm_aload_n dX9_hangs_0 rfl ?_
  refine pm_aload_n dX9_hangs_1 rfl ?_
  refine dx_gi (j := 0) hR dX9_hangs_2 fl_X9_52 rfl rfl ?_
  obtain ⟨r1, h2, h⟩ := ob_some h
  cases r1 with
  | none =>
    replace h := om_n rfl h
    refine dx_cVp (j := 0) (M := M_X9_hangs) (Mc := M_X9_numbered) (dc := 1) (As := [.int (rF u 0 8)]) (st := []) hR dX9_hangs_5 ml_X9_169 ⟨TX9, 14, rfl⟩ rfl (v := .null) (by decide) (Nat.le_of_ble_eq_true rfl) rfl (k_X9_numbered hR h2) ?_
    refine pm_astoreN dX9_hangs_8 (by decide) rfl rfl ?_
    refine pm_aloadN dX9_hangs_10 rfl ?_
    refine pm_ifnullN (x := 0) (tgt := 43) dX9_hangs_12 (by decide) ?_
    refine pm_ldc (v := (-1000001)) dX9_hangs_43 kc_X9_175 ?_
    cases h
    exact pm_iret dX9_hangs_45 rfl (Nat.le_refl _) (Nat.le_refl _) ⟨rfl, rfl, hR, rg_k0⟩
  | some o3 =>
    replace h := om_s rfl h
    obtain ⟨c27, h⟩ := ck_some h
    have hs_o3 := run_sp c27
    refine dx_cVp (j := 0) (M := M_X9_hangs) (Mc := M_X9_numbered) (dc := 1) (As := [.int (rF u 0 8)]) (st := []) hR dX9_hangs_5 ml_X9_169 ⟨TX9, 14, rfl⟩ rfl (v := .ref (b + o3)) (by decide) (Nat.le_of_ble_eq_true rfl) rfl (k_X9_numbered hR h2) ?_
    refine pm_astore dX9_hangs_8 (by decide) rfl rfl ?_
    refine pm_aload dX9_hangs_10 rfl ?_
    refine pm_ifnull dX9_hangs_12 ?_
    refine pm_aload dX9_hangs_15 rfl ?_
    refine dx_gr (j := o3) (o := (o3 + 6)) hR dX9_hangs_17 fl_X9_109 (sp_Run_self hs_o3) rfl ?_
    refine pm_iload_n dX9_hangs_20 rfl ?_
    obtain ⟨r4, h5, h⟩ := ob_some h
    refine dx_cVp (j := (o3 + 6)) (M := M_X9_hangs) (Mc := M_X3_has) (dc := 0) (As := [.int x1]) (st := []) hR dX9_hangs_21 ml_X9_260 ⟨TX3, 6, rfl⟩ (sp_Log_self (sp_Run_log hs_o3)) (by decide) (Nat.le_of_ble_eq_true rfl) rfl (k_X3_has hR (sp_Run_log hs_o3) h5) ?_
    refine pm_if_eq (tgt := 43) dX9_hangs_24 (by decide) (fun c6 => ?_) (fun c6 => ?_)
    · replace h := it_t c6 h
      refine pm_ldc (v := (-1000001)) dX9_hangs_43 kc_X9_175 ?_
      cases h
      exact pm_iret dX9_hangs_45 rfl (Nat.le_refl _) (Nat.le_refl _) ⟨rfl, rfl, hR, rg_k0⟩
    · replace h := it_f c6 h
      refine pm_aload dX9_hangs_27 rfl ?_
      refine pm_iload_n dX9_hangs_29 rfl ?_
      obtain ⟨r7, h8, h⟩ := ob_some h
      refine dx_cVp (j := o3) (M := M_X9_hangs) (Mc := M_X7_hasTime) (dc := 0) (As := [.int x2]) (st := []) hR dX9_hangs_30 ml_X9_172 ⟨TX7, 15, rfl⟩ (sp_Run_self hs_o3) (by decide) (Nat.le_of_ble_eq_true rfl) rfl (k_X7_hasTime hR hs_o3 h8) ?_
      refine pm_if_eq (tgt := 43) dX9_hangs_33 (by decide) (fun c9 => ?_) (fun c9 => ?_)
      · replace h := it_t c9 h
        refine pm_ldc (v := (-1000001)) dX9_hangs_43 kc_X9_175 ?_
        cases h
        exact pm_iret dX9_hangs_45 rfl (Nat.le_refl _) (Nat.le_refl _) ⟨rfl, rfl, hR, rg_k0⟩
      · replace h := it_f c9 h
        refine pm_iload_n dX9_hangs_36 rfl ?_
        refine dx_cSp (M := M_X9_hangs) (Mc := M_X9_isPlacesWhat) (dc := 0) (As := [.int x3]) (st := []) dX9_hangs_37 ml_X9_238 (by decide) (Nat.le_of_ble_eq_true rfl) rfl (k_X9_isPlacesWhat rfl) ?_
        refine pm_if_ne (tgt := 46) dX9_hangs_40 (by decide) (fun c10 => ?_) (fun c10 => ?_)
        · replace h := it_f c10 h
          refine pm_aload dX9_hangs_46 rfl ?_
          refine dx_gr (j := o3) (o := (o3 + 12)) hR dX9_hangs_48 fl_X9_176 (sp_Run_self hs_o3) rfl ?_
          refine pm_iload_n dX9_hangs_51 rfl ?_
          refine pm_aload_n dX9_hangs_52 rfl ?_
          refine dx_gr (j := 0) (o := 115) hR dX9_hangs_53 fl_X9_30 rfl rfl ?_
          obtain ⟨r11, h12, h⟩ := ob_some h
          refine dx_cVv (j := (o3 + 12)) (M := M_X9_hangs) (Mc := M_X6_markAllAbove) (dc := 2) (As := [.int x1, .ref (b + 115)]) (st := []) hR rg_k0 dX9_hangs_56 ml_X9_263 ⟨TX6, 12, rfl⟩ (sp_Puts_self (sp_Run_puts hs_o3)) (by decide) (Nat.le_of_ble_eq_true rfl) rfl (k_X6_markAllAbove hR (sp_Run_puts hs_o3) rfl h12) (fun w13 hR14 hk15 => ?_)
          refine pm_iconst (v := 0) dX9_hangs_59 (by decide) ?_
          refine pm_istore dX9_hangs_60 (by decide) rfl rfl ?_
          refine pm_iconst (v := 0) dX9_hangs_62 (by decide) ?_
          refine pm_istore dX9_hangs_63 (by decide) rfl rfl ?_
          refine pm_lw (L' := [some (.ref (b + 0)), none, some (.int x2), some (.int x3), some (.ref (b + o3)), some (.int 0), some (.int 0)]) ⟨Or.inr rfl, Or.inl rfl, Or.inr rfl, Or.inr rfl, Or.inr rfl, Or.inr rfl, Or.inr rfl, trivial⟩ ?_
          obtain ⟨r22, h23, h⟩ := ob_some h
          refine lp_sound (P := fun (s : (Int32 × Int32)) => ∀ w1, rg shC b r11 n w1 → rg_k b shC.length w w1 → pm_X gs ro M_X9_hangs 3 0 0 0 0 65 [some (.ref (b + 0)), none, some (.int x2), some (.int x3), some (.ref (b + o3)), some (.int s.1), some (.int s.2)] [] n w1 (rg_post shC b n w (some (.int z.1)) z.2)) (E := (fun (r : Int32) => ∀ w1, rg shC b r11 n w1 → rg_k b shC.length w w1 → pm_X gs ro M_X9_hangs 3 0 0 0 0 115 [none, none, none, none, none, some (.int r), none] [] n w1 (rg_post shC b n w (some (.int z.1)) z.2))) (fun s x hx hc he w1 hR1 hk1 => k_X9_hangs_l65 hR1 hk1 hs_o3 hx hc (fun r q => he r q)) F _ r22 h23 ?_ _ hR14 hk15
          intro w24 hR25 hk26
          refine pm_iload dX9_hangs_115 rfl ?_
          cases h
          exact pm_iret dX9_hangs_117 rfl (Nat.le_refl _) (Nat.le_refl _) ⟨rfl, rfl, hR25, hk26⟩
        · replace h := it_t c10 h
          refine pm_ldc (v := (-1000001)) dX9_hangs_43 kc_X9_175 ?_
          cases h
          exact pm_iret dX9_hangs_45 rfl (Nat.le_refl _) (Nat.le_refl _) ⟨rfl, rfl, hR, rg_k0⟩
def g_X9_history_j68 (F : Nat) (o3 : Nat) (l1 : Int32) (l3 : Int32) (s0 : Int32) (u : rg_U) : Option Int32 :=
  if s0 = (-1) then (some (-1000001)) else (ob (g_X6_putBy F (o3 + 12) s0 l1 u) (fun r12 => if l3 = 0 then (some s0) else if l3 = 1 then (ob (g_X6_sortOf F (o3 + 12) r12 u) (fun r16 => some r16)) else (ob (g_X6_numberOf F (o3 + 12) r12 u) (fun r18 => some r18))))
set_option maxHeartbeats 4000000 in
set_option maxRecDepth 100000 in
theorem k_X9_history_j68 {gs : List String} {ro : pm_RO} {n : Nat} {w : Nat → va_E} {b : Nat} {u : rg_U} {F : Nat} {o3 : Nat} {l1 : Int32} {l3 : Int32} {s0 : Int32} {z : Int32} (hR : rg shC b u n w) (hs_o3 : sp_Run o3) (h : g_X9_history_j68 F o3 l1 l3 s0 u = some z) : pm_X gs ro M_X9_history 3 0 0 0 0 68 [none, some (.int l1), none, some (.int l3), some (.ref (b + o3)), none, none] [.int s0] n w (pm_p n w (some (.int z))) := by
  unfold g_X9_history_j68 at h
  refine pm_istore dX9_history_68 (by decide) rfl rfl ?_
  refine pm_iload dX9_history_70 rfl ?_
  refine pm_iconst (v := (-1)) dX9_history_72 (by decide) ?_
  refine pm_icmp_ne (tgt := 79) dX9_history_73 (by decide) (fun c11 => ?_) (fun c11 => ?_)
  · replace h := it_f c11 h
    refine pm_aload dX9_history_79 rfl ?_
    refine dx_gr (j := o3) (o := (o3 + 12)) hR dX9_history_81 fl_X9_176 (sp_Run_self hs_o3) rfl ?_
    refine pm_iload dX9_history_84 rfl ?_
    refine pm_iload_n dX9_history_86 rfl ?_
    obtain ⟨r12, h13, h⟩ := ob_some h
    refine dx_cVp (j := (o3 + 12)) (M := M_X9_history) (Mc := M_X6_putBy) (dc := 2) (As := [.int s0, .int l1]) (st := []) hR dX9_history_87 ml_X9_180 ⟨TX6, 12, rfl⟩ (sp_Puts_self (sp_Run_puts hs_o3)) (by decide) (Nat.le_of_ble_eq_true rfl) rfl (k_X6_putBy hR (sp_Run_puts hs_o3) h13) ?_
    refine pm_istore dX9_history_90 (by decide) rfl rfl ?_
    refine pm_iload_n dX9_history_92 rfl ?_
    by_cases t14 : l3 = 0
    · replace h := it_t t14 h
      refine pm_lookup (off := 27) (tgt := 120) dX9_history_93 (by decide) (by rw [t14]; decide) (by decide) ?_
      refine pm_iload dX9_history_120 rfl ?_
      cases h
      exact pm_iret dX9_history_122 rfl (Nat.le_refl _) (Nat.le_refl _) ⟨rfl, rfl, rfl⟩
    replace h := it_f t14 h
    by_cases t15 : l3 = 1
    · replace h := it_t t15 h
      refine pm_lookup (off := 30) (tgt := 123) dX9_history_93 (by decide) (by rw [t15]; decide) (by decide) ?_
      refine pm_aload dX9_history_123 rfl ?_
      refine dx_gr (j := o3) (o := (o3 + 12)) hR dX9_history_125 fl_X9_176 (sp_Run_self hs_o3) rfl ?_
      refine pm_iload dX9_history_128 rfl ?_
      obtain ⟨r16, h17, h⟩ := ob_some h
      refine dx_cVp (j := (o3 + 12)) (M := M_X9_history) (Mc := M_X6_sortOf) (dc := 0) (As := [.int r12]) (st := []) hR dX9_history_130 ml_X9_186 ⟨TX6, 12, rfl⟩ (sp_Puts_self (sp_Run_puts hs_o3)) (by decide) (Nat.le_of_ble_eq_true rfl) rfl (k_X6_sortOf hR (sp_Run_puts hs_o3) h17) ?_
      cases h
      exact pm_iret dX9_history_133 rfl (Nat.le_refl _) (Nat.le_refl _) ⟨rfl, rfl, rfl⟩
    replace h := it_f t15 h
    refine pm_lookup (off := 41) (tgt := 134) dX9_history_93 (by decide) (by have h0 := lv_neT t14 (show (0 : Int32).toInt = 0 from by decide); have h1 := lv_neT t15 (show (1 : Int32).toInt = 1 from by decide); simp [Op.lookupswitch.offset, h0, Ne.symm h0, h1, Ne.symm h1]; try omega) (by decide) ?_
    refine pm_aload dX9_history_134 rfl ?_
    refine dx_gr (j := o3) (o := (o3 + 12)) hR dX9_history_136 fl_X9_176 (sp_Run_self hs_o3) rfl ?_
    refine pm_iload dX9_history_139 rfl ?_
    obtain ⟨r18, h19, h⟩ := ob_some h
    refine dx_cVp (j := (o3 + 12)) (M := M_X9_history) (Mc := M_X6_numberOf) (dc := 0) (As := [.int r12]) (st := []) hR dX9_history_141 ml_X9_190 ⟨TX6, 12, rfl⟩ (sp_Puts_self (sp_Run_puts hs_o3)) (by decide) (Nat.le_of_ble_eq_true rfl) rfl (k_X6_numberOf hR (sp_Run_puts hs_o3) h19) ?_
    cases h
    exact pm_iret dX9_history_144 rfl (Nat.le_refl _) (Nat.le_refl _) ⟨rfl, rfl, rfl⟩
  · replace h := it_t c11 h
    refine pm_ldc (v := (-1000001)) dX9_history_76 kc_X9_175 ?_
    cases h
    exact pm_iret dX9_history_78 rfl (Nat.le_refl _) (Nat.le_refl _) ⟨rfl, rfl, rfl⟩
def g_X9_history (F : Nat) (x1 : Int32) (x2 : Int32) (x3 : Int32) (u : rg_U) : Option Int32 :=
  ob (g_X9_numbered F (rF u 0 8) u) (fun r1 => om r1 (some (-1000001)) (fun o3 => ck (isRn o3) (if (g_X9_isPlace x1) = 0 then (some (-1000001)) else (if x3 < 0 then (some (-1000001)) else (if x3 ≤ 2 then (if x2 = (-1) then (ob (g_X6_changeTimes F (o3 + 12) x1 (-1) u) (fun r20 => some r20)) else (if 0 ≤ x2 then (ob (g_X6_changeTimes F (o3 + 12) x1 x2 u) (fun r9 => g_X9_history_j68 F o3 x1 x3 r9 u)) else (g_X9_history_j68 F o3 x1 x3 (-1) u))) else (some (-1000001)))))))
set_option maxHeartbeats 4000000 in
set_option maxRecDepth 100000 in
theorem k_X9_history {gs : List String} {ro : pm_RO} {n : Nat} {w : Nat → va_E} {b : Nat} {u : rg_U} {F : Nat} {x1 : Int32} {x2 : Int32} {x3 : Int32} {z : Int32} (hR : rg shC b u n w) (h : g_X9_history F x1 x2 x3 u = some z) : pm_Met gs ro M_X9_history 3 0 0 [.ref (b + 0), .int x1, .int x2, .int x3] n w (pm_p n w (some (.int z))) := by
  unfold g_X9_history at h
  refine pm_ofX in_X9_history (Nat.le_of_ble_eq_true rfl) rfl (L := [some (.ref (b + 0)), some (.int x1), some (.int x2), some (.int x3), none, none, none]) rfl ?_
  refine pm_aload_n dX9_history_0 rfl ?_
  refine pm_aload_n dX9_history_1 rfl ?_
  refine dx_gi (j := 0) hR dX9_history_2 fl_X9_52 rfl rfl ?_
  obtain ⟨r1, h2, h⟩ := ob_some h
  cases r1 with
  | none =>
    replace h := om_n rfl h
    refine dx_cVp (j := 0) (M := M_X9_history) (Mc := M_X9_numbered) (dc := 1) (As := [.int (rF u 0 8)]) (st := []) hR dX9_history_5 ml_X9_169 ⟨TX9, 14, rfl⟩ rfl (v := .null) (by decide) (Nat.le_of_ble_eq_true rfl) rfl (k_X9_numbered hR h2) ?_
    refine pm_astoreN dX9_history_8 (by decide) rfl rfl ?_
    refine pm_aloadN dX9_history_10 rfl ?_
    refine pm_ifnullN (x := 0) (tgt := 31) dX9_history_12 (by decide) ?_
    refine pm_ldc (v := (-1000001)) dX9_history_31 kc_X9_175 ?_
    cases h
    exact pm_iret dX9_history_33 rfl (Nat.le_refl _) (Nat.le_refl _) ⟨rfl, rfl, rfl⟩
  | some o3 =>
    replace h := om_s rfl h
    obtain ⟨c22, h⟩ := ck_some h
    have hs_o3 := run_sp c22
    refine dx_cVp (j := 0) (M := M_X9_history) (Mc := M_X9_numbered) (dc := 1) (As := [.int (rF u 0 8)]) (st := []) hR dX9_history_5 ml_X9_169 ⟨TX9, 14, rfl⟩ rfl (v := .ref (b + o3)) (by decide) (Nat.le_of_ble_eq_true rfl) rfl (k_X9_numbered hR h2) ?_
    refine pm_astore dX9_history_8 (by decide) rfl rfl ?_
    refine pm_aload dX9_history_10 rfl ?_
    refine pm_ifnull dX9_history_12 ?_
    refine pm_iload_n dX9_history_15 rfl ?_
    refine dx_cSp (M := M_X9_history) (Mc := M_X9_isPlace) (dc := 0) (As := [.int x1]) (st := []) dX9_history_16 ml_X9_119 (by decide) (Nat.le_of_ble_eq_true rfl) rfl (k_X9_isPlace rfl) ?_
    refine pm_if_eq (tgt := 31) dX9_history_19 (by decide) (fun c4 => ?_) (fun c4 => ?_)
    · replace h := it_t c4 h
      refine pm_ldc (v := (-1000001)) dX9_history_31 kc_X9_175 ?_
      cases h
      exact pm_iret dX9_history_33 rfl (Nat.le_refl _) (Nat.le_refl _) ⟨rfl, rfl, rfl⟩
    · replace h := it_f c4 h
      refine pm_iload_n dX9_history_22 rfl ?_
      refine pm_if_lt (tgt := 31) dX9_history_23 (by decide) (fun c5 => ?_) (fun c5 => ?_)
      · replace h := it_t c5 h
        refine pm_ldc (v := (-1000001)) dX9_history_31 kc_X9_175 ?_
        cases h
        exact pm_iret dX9_history_33 rfl (Nat.le_refl _) (Nat.le_refl _) ⟨rfl, rfl, rfl⟩
      · replace h := it_f c5 h
        refine pm_iload_n dX9_history_26 rfl ?_
        refine pm_iconst (v := 2) dX9_history_27 (by decide) ?_
        refine pm_icmp_le (tgt := 34) dX9_history_28 (by decide) (fun c6 => ?_) (fun c6 => ?_)
        · replace h := it_t c6 h
          refine pm_iload_n dX9_history_34 rfl ?_
          refine pm_iconst (v := (-1)) dX9_history_35 (by decide) ?_
          refine pm_icmp_ne (tgt := 50) dX9_history_36 (by decide) (fun c7 => ?_) (fun c7 => ?_)
          · replace h := it_f c7 h
            refine pm_iload_n dX9_history_50 rfl ?_
            refine pm_if_ge (tgt := 58) dX9_history_51 (by decide) (fun c8 => ?_) (fun c8 => ?_)
            · replace h := it_t c8 h
              refine pm_aload dX9_history_58 rfl ?_
              refine dx_gr (j := o3) (o := (o3 + 12)) hR dX9_history_60 fl_X9_176 (sp_Run_self hs_o3) rfl ?_
              refine pm_iload_n dX9_history_63 rfl ?_
              refine pm_iload_n dX9_history_64 rfl ?_
              obtain ⟨r9, h10, h⟩ := ob_some h
              refine dx_cVp (j := (o3 + 12)) (M := M_X9_history) (Mc := M_X6_changeTimes) (dc := 2) (As := [.int x1, .int x2]) (st := []) hR dX9_history_65 ml_X9_270 ⟨TX6, 12, rfl⟩ (sp_Puts_self (sp_Run_puts hs_o3)) (by decide) (Nat.le_of_ble_eq_true rfl) rfl (k_X6_changeTimes hR (sp_Run_puts hs_o3) h10) ?_
              refine pm_lw (L' := [none, some (.int x1), none, some (.int x3), some (.ref (b + o3)), none, none]) ⟨Or.inl rfl, Or.inr rfl, Or.inl rfl, Or.inr rfl, Or.inr rfl, Or.inl rfl, Or.inl rfl, trivial⟩ ?_
              exact k_X9_history_j68 hR hs_o3 h
            · replace h := it_f c8 h
              refine pm_iconst (v := (-1)) dX9_history_54 (by decide) ?_
              refine pm_goto (tgt := 68) dX9_history_55 (by decide) ?_
              refine pm_lw (L' := [none, some (.int x1), none, some (.int x3), some (.ref (b + o3)), none, none]) ⟨Or.inl rfl, Or.inr rfl, Or.inl rfl, Or.inr rfl, Or.inr rfl, Or.inl rfl, Or.inl rfl, trivial⟩ ?_
              exact k_X9_history_j68 hR hs_o3 h
          · replace h := it_t c7 h
            refine pm_aload dX9_history_39 rfl ?_
            refine dx_gr (j := o3) (o := (o3 + 12)) hR dX9_history_41 fl_X9_176 (sp_Run_self hs_o3) rfl ?_
            refine pm_iload_n dX9_history_44 rfl ?_
            refine pm_iconst (v := (-1)) dX9_history_45 (by decide) ?_
            obtain ⟨r20, h21, h⟩ := ob_some h
            refine dx_cVp (j := (o3 + 12)) (M := M_X9_history) (Mc := M_X6_changeTimes) (dc := 2) (As := [.int x1, .int (-1)]) (st := []) hR dX9_history_46 ml_X9_270 ⟨TX6, 12, rfl⟩ (sp_Puts_self (sp_Run_puts hs_o3)) (by decide) (Nat.le_of_ble_eq_true rfl) rfl (k_X6_changeTimes hR (sp_Run_puts hs_o3) h21) ?_
            cases h
            exact pm_iret dX9_history_49 rfl (Nat.le_refl _) (Nat.le_refl _) ⟨rfl, rfl, rfl⟩
        · replace h := it_f c6 h
          refine pm_ldc (v := (-1000001)) dX9_history_31 kc_X9_175 ?_
          cases h
          exact pm_iret dX9_history_33 rfl (Nat.le_refl _) (Nat.le_refl _) ⟨rfl, rfl, rfl⟩
def g_X9_done_j59 (F : Nat) (o3 : Nat) (l1 : Int32) (l2 : Int32) (l4 : Int32) (l5 : Int32) (u : rg_U) : Option ((Int32 × Int32) ⊕ Int32) :=
  some (.inl (l4, (l5 + 1)))
set_option maxHeartbeats 4000000 in
set_option maxRecDepth 100000 in
theorem k_X9_done_j59 {gs : List String} {ro : pm_RO} {n : Nat} {w : Nat → va_E} {b : Nat} {u : rg_U} {F : Nat} {o3 : Nat} {l1 : Int32} {l2 : Int32} {l4 : Int32} {l5 : Int32} {z : ((Int32 × Int32) ⊕ Int32)} {Q : Option Value → Nat → (Nat → va_E) → Prop} (hR : rg shC b u n w) (hs_o3 : sp_Run o3) (h : g_X9_done_j59 F o3 l1 l2 l4 l5 u = some z) (hc : ∀ s', z = .inl s' → pm_X gs ro M_X9_done 2 0 0 0 0 40 [none, some (.int l1), some (.int l2), some (.ref (b + o3)), some (.int s'.1), some (.int s'.2)] [] n w Q) (he0 : ∀ r', z = .inr r' → pm_X gs ro M_X9_done 2 0 0 0 0 65 [none, none, none, none, some (.int r'), none] [] n w Q) : pm_X gs ro M_X9_done 2 0 0 0 0 59 [none, some (.int l1), some (.int l2), some (.ref (b + o3)), some (.int l4), some (.int l5)] [] n w Q := by
  unfold g_X9_done_j59 at h
  refine pm_iinc (v := (l5 + 1)) dX9_done_59 rfl rfl (by decide) rfl rfl ?_
  refine pm_goto (tgt := 40) dX9_done_62 (by decide) ?_
  refine pm_lw (L' := [none, some (.int l1), some (.int l2), some (.ref (b + o3)), some (.int l4), some (.int (l5 + 1))]) ⟨Or.inl rfl, Or.inr rfl, Or.inr rfl, Or.inr rfl, Or.inr rfl, Or.inr rfl, trivial⟩ ?_
  exact hc _ (Option.some.inj h).symm
def g_X9_done_l40 (F : Nat) (o3 : Nat) (l1 : Int32) (l2 : Int32) (u : rg_U) (l4 : Int32) (l5 : Int32) : Option ((Int32 × Int32) ⊕ Int32) :=
  if l1 ≤ l5 then (some (.inr l4)) else (ob (g_X7_counterAt F o3 l5 u) (fun r10 => if r10 = l2 then (g_X9_done_j59 F o3 l1 l2 (l4 + 1) l5 u) else (g_X9_done_j59 F o3 l1 l2 l4 l5 u)))
set_option maxHeartbeats 4000000 in
set_option maxRecDepth 100000 in
theorem k_X9_done_l40 {gs : List String} {ro : pm_RO} {n : Nat} {w : Nat → va_E} {b : Nat} {u : rg_U} {F : Nat} {o3 : Nat} {l1 : Int32} {l2 : Int32} {l4 : Int32} {l5 : Int32} {z : (Int32 × Int32) ⊕ Int32} {Q : Option Value → Nat → (Nat → va_E) → Prop} (hR : rg shC b u n w) (hs_o3 : sp_Run o3) (h : g_X9_done_l40 F o3 l1 l2 u l4 l5 = some z) (hc : ∀ s', z = .inl s' → pm_X gs ro M_X9_done 2 0 0 0 0 40 [none, some (.int l1), some (.int l2), some (.ref (b + o3)), some (.int s'.1), some (.int s'.2)] [] n w Q) (he0 : ∀ r', z = .inr r' → pm_X gs ro M_X9_done 2 0 0 0 0 65 [none, none, none, none, some (.int r'), none] [] n w Q) : pm_X gs ro M_X9_done 2 0 0 0 0 40 [none, some (.int l1), some (.int l2), some (.ref (b + o3)), some (.int l4), some (.int l5)] [] n w Q := by
  unfold g_X9_done_l40 at h
  refine pm_iload dX9_done_40 rfl ?_
  refine pm_iload_n dX9_done_42 rfl ?_
  refine pm_icmp_ge (tgt := 65) dX9_done_43 (by decide) (fun c9 => ?_) (fun c9 => ?_)
  · replace h := it_t c9 h
    refine pm_lw (L' := [none, none, none, none, some (.int l4), none]) ⟨Or.inl rfl, Or.inl rfl, Or.inl rfl, Or.inl rfl, Or.inr rfl, Or.inl rfl, trivial⟩ ?_
    exact he0 _ (Option.some.inj h).symm
  · replace h := it_f c9 h
    refine pm_aload_n dX9_done_46 rfl ?_
    refine pm_iload dX9_done_47 rfl ?_
    obtain ⟨r10, h11, h⟩ := ob_some h
    refine dx_cVp (j := o3) (M := M_X9_done) (Mc := M_X7_counterAt) (dc := 1) (As := [.int l5]) (st := []) hR dX9_done_49 ml_X9_199 ⟨TX7, 15, rfl⟩ (sp_Run_self hs_o3) (by decide) (Nat.le_of_ble_eq_true rfl) rfl (k_X7_counterAt hR hs_o3 h11) ?_
    refine pm_iload_n dX9_done_52 rfl ?_
    refine pm_icmp_ne (tgt := 59) dX9_done_53 (by decide) (fun c12 => ?_) (fun c12 => ?_)
    · replace h := it_f c12 h
      exact k_X9_done_j59 hR hs_o3 h hc he0
    · replace h := it_t c12 h
      refine pm_iinc (v := (l4 + 1)) dX9_done_56 rfl rfl (by decide) rfl rfl ?_
      exact k_X9_done_j59 hR hs_o3 h hc he0
def g_X9_done (F : Nat) (x1 : Int32) (x2 : Int32) (u : rg_U) : Option Int32 :=
  ob (g_X9_numbered F (rF u 0 8) u) (fun r1 => om r1 (some (-2)) (fun o3 => ck (isRn o3) (ob (g_X7_hasTime F o3 x1 u) (fun r4 => if r4 = 0 then (some (-2)) else (if x2 < 0 then (some (-2)) else (if x2 ≤ 64 then (ob (lp (fun (s : (Int32 × Int32)) => g_X9_done_l40 F o3 x1 x2 u s.1 s.2) F ((0 : Int32), (0 : Int32))) (fun r13 => some r13)) else (some (-2))))))))
set_option maxHeartbeats 4000000 in
set_option maxRecDepth 100000 in
theorem k_X9_done {gs : List String} {ro : pm_RO} {n : Nat} {w : Nat → va_E} {b : Nat} {u : rg_U} {F : Nat} {x1 : Int32} {x2 : Int32} {z : Int32} (hR : rg shC b u n w) (h : g_X9_done F x1 x2 u = some z) : pm_Met gs ro M_X9_done 2 0 0 [.ref (b + 0), .int x1, .int x2] n w (pm_p n w (some (.int z))) := by
  unfold g_X9_done at h
  refine pm_ofX in_X9_done (Nat.le_of_ble_eq_true rfl) rfl (L := [some (.ref (b + 0)), some (.int x1), some (.int x2), none, none, none]) rfl ?_
  refine pm_aload_n dX9_done_0 rfl ?_
  refine pm_aload_n dX9_done_1 rfl ?_
  refine dx_gi (j := 0) hR dX9_done_2 fl_X9_52 rfl rfl ?_
  obtain ⟨r1, h2, h⟩ := ob_some h
  cases r1 with
  | none =>
    replace h := om_n rfl h
    refine dx_cVp (j := 0) (M := M_X9_done) (Mc := M_X9_numbered) (dc := 1) (As := [.int (rF u 0 8)]) (st := []) hR dX9_done_5 ml_X9_169 ⟨TX9, 14, rfl⟩ rfl (v := .null) (by decide) (Nat.le_of_ble_eq_true rfl) rfl (k_X9_numbered hR h2) ?_
    refine pm_astore_nN dX9_done_8 (by decide) rfl rfl ?_
    refine pm_aload_nN dX9_done_9 rfl ?_
    refine pm_ifnullN (x := 0) (tgt := 31) dX9_done_10 (by decide) ?_
    refine pm_bipush (v := (-2)) dX9_done_31 (by decide) ?_
    cases h
    exact pm_iret dX9_done_33 rfl (Nat.le_refl _) (Nat.le_refl _) ⟨rfl, rfl, rfl⟩
  | some o3 =>
    replace h := om_s rfl h
    obtain ⟨c15, h⟩ := ck_some h
    have hs_o3 := run_sp c15
    refine dx_cVp (j := 0) (M := M_X9_done) (Mc := M_X9_numbered) (dc := 1) (As := [.int (rF u 0 8)]) (st := []) hR dX9_done_5 ml_X9_169 ⟨TX9, 14, rfl⟩ rfl (v := .ref (b + o3)) (by decide) (Nat.le_of_ble_eq_true rfl) rfl (k_X9_numbered hR h2) ?_
    refine pm_astore_n dX9_done_8 (by decide) rfl rfl ?_
    refine pm_aload_n dX9_done_9 rfl ?_
    refine pm_ifnull dX9_done_10 ?_
    refine pm_aload_n dX9_done_13 rfl ?_
    refine pm_iload_n dX9_done_14 rfl ?_
    obtain ⟨r4, h5, h⟩ := ob_some h
    refine dx_cVp (j := o3) (M := M_X9_done) (Mc := M_X7_hasTime) (dc := 0) (As := [.int x1]) (st := []) hR dX9_done_15 ml_X9_172 ⟨TX7, 15, rfl⟩ (sp_Run_self hs_o3) (by decide) (Nat.le_of_ble_eq_true rfl) rfl (k_X7_hasTime hR hs_o3 h5) ?_
    refine pm_if_eq (tgt := 31) dX9_done_18 (by decide) (fun c6 => ?_) (fun c6 => ?_)
    · replace h := it_t c6 h
      refine pm_bipush (v := (-2)) dX9_done_31 (by decide) ?_
      cases h
      exact pm_iret dX9_done_33 rfl (Nat.le_refl _) (Nat.le_refl _) ⟨rfl, rfl, rfl⟩
    · replace h := it_f c6 h
      refine pm_iload_n dX9_done_21 rfl ?_
      refine pm_if_lt (tgt := 31) dX9_done_22 (by decide) (fun c7 => ?_) (fun c7 => ?_)
      · replace h := it_t c7 h
        refine pm_bipush (v := (-2)) dX9_done_31 (by decide) ?_
        cases h
        exact pm_iret dX9_done_33 rfl (Nat.le_refl _) (Nat.le_refl _) ⟨rfl, rfl, rfl⟩
      · replace h := it_f c7 h
        refine pm_iload_n dX9_done_25 rfl ?_
        refine pm_bipush (v := 64) dX9_done_26 (by decide) ?_
        refine pm_icmp_le (tgt := 34) dX9_done_28 (by decide) (fun c8 => ?_) (fun c8 => ?_)
        · replace h := it_t c8 h
          refine pm_iconst (v := 0) dX9_done_34 (by decide) ?_
          refine pm_istore dX9_done_35 (by decide) rfl rfl ?_
          refine pm_iconst (v := 0) dX9_done_37 (by decide) ?_
          refine pm_istore dX9_done_38 (by decide) rfl rfl ?_
          refine pm_lw (L' := [none, some (.int x1), some (.int x2), some (.ref (b + o3)), some (.int 0), some (.int 0)]) ⟨Or.inl rfl, Or.inr rfl, Or.inr rfl, Or.inr rfl, Or.inr rfl, Or.inr rfl, trivial⟩ ?_
          obtain ⟨r13, h14, h⟩ := ob_some h
          refine lp_sound (P := fun (s : (Int32 × Int32)) => pm_X gs ro M_X9_done 2 0 0 0 0 40 [none, some (.int x1), some (.int x2), some (.ref (b + o3)), some (.int s.1), some (.int s.2)] [] n w (pm_p n w (some (.int z)))) (E := (fun (r : Int32) => pm_X gs ro M_X9_done 2 0 0 0 0 65 [none, none, none, none, some (.int r), none] [] n w (pm_p n w (some (.int z))))) (fun s x hx hc he => k_X9_done_l40 hR hs_o3 hx hc (fun r q => he r q)) F _ r13 h14 ?_
          refine pm_iload dX9_done_65 rfl ?_
          cases h
          exact pm_iret dX9_done_67 rfl (Nat.le_refl _) (Nat.le_refl _) ⟨rfl, rfl, rfl⟩
        · replace h := it_f c8 h
          refine pm_bipush (v := (-2)) dX9_done_31 (by decide) ?_
          cases h
          exact pm_iret dX9_done_33 rfl (Nat.le_refl _) (Nat.le_refl _) ⟨rfl, rfl, rfl⟩
def g_X9_call (F : Nat) (x1 : Int32) (x2 : Int32) (u : rg_U) : Option Int32 :=
  ob (g_X9_numbered F (rF u 0 8) u) (fun r1 => om r1 (some (-1)) (fun o3 => ck (isRn o3) (if x2 < 0 then (some (-1)) else (if x2 ≤ 2 then (if x1 = (-1) then (some (rF u (o3 + 24) 3)) else (ob (g_X1_read F (o3 + 24) x1 x2 u) (fun r7 => some r7))) else (some (-1))))))
set_option maxHeartbeats 4000000 in
set_option maxRecDepth 100000 in
theorem k_X9_call {gs : List String} {ro : pm_RO} {n : Nat} {w : Nat → va_E} {b : Nat} {u : rg_U} {F : Nat} {x1 : Int32} {x2 : Int32} {z : Int32} (hR : rg shC b u n w) (h : g_X9_call F x1 x2 u = some z) : pm_Met gs ro M_X9_call 2 0 0 [.ref (b + 0), .int x1, .int x2] n w (pm_p n w (some (.int z))) := by
  unfold g_X9_call at h
  refine pm_ofX in_X9_call (Nat.le_of_ble_eq_true rfl) rfl (L := [some (.ref (b + 0)), some (.int x1), some (.int x2), none]) rfl ?_
  refine pm_aload_n dX9_call_0 rfl ?_
  refine pm_aload_n dX9_call_1 rfl ?_
  refine dx_gi (j := 0) hR dX9_call_2 fl_X9_52 rfl rfl ?_
  obtain ⟨r1, h2, h⟩ := ob_some h
  cases r1 with
  | none =>
    replace h := om_n rfl h
    refine dx_cVp (j := 0) (M := M_X9_call) (Mc := M_X9_numbered) (dc := 1) (As := [.int (rF u 0 8)]) (st := []) hR dX9_call_5 ml_X9_169 ⟨TX9, 14, rfl⟩ rfl (v := .null) (by decide) (Nat.le_of_ble_eq_true rfl) rfl (k_X9_numbered hR h2) ?_
    refine pm_astore_nN dX9_call_8 (by decide) rfl rfl ?_
    refine pm_aload_nN dX9_call_9 rfl ?_
    refine pm_ifnullN (x := 0) (tgt := 22) dX9_call_10 (by decide) ?_
    refine pm_iconst (v := (-1)) dX9_call_22 (by decide) ?_
    cases h
    exact pm_iret dX9_call_23 rfl (Nat.le_refl _) (Nat.le_refl _) ⟨rfl, rfl, rfl⟩
  | some o3 =>
    replace h := om_s rfl h
    obtain ⟨c9, h⟩ := ck_some h
    have hs_o3 := run_sp c9
    refine dx_cVp (j := 0) (M := M_X9_call) (Mc := M_X9_numbered) (dc := 1) (As := [.int (rF u 0 8)]) (st := []) hR dX9_call_5 ml_X9_169 ⟨TX9, 14, rfl⟩ rfl (v := .ref (b + o3)) (by decide) (Nat.le_of_ble_eq_true rfl) rfl (k_X9_numbered hR h2) ?_
    refine pm_astore_n dX9_call_8 (by decide) rfl rfl ?_
    refine pm_aload_n dX9_call_9 rfl ?_
    refine pm_ifnull dX9_call_10 ?_
    refine pm_iload_n dX9_call_13 rfl ?_
    refine pm_if_lt (tgt := 22) dX9_call_14 (by decide) (fun c4 => ?_) (fun c4 => ?_)
    · replace h := it_t c4 h
      refine pm_iconst (v := (-1)) dX9_call_22 (by decide) ?_
      cases h
      exact pm_iret dX9_call_23 rfl (Nat.le_refl _) (Nat.le_refl _) ⟨rfl, rfl, rfl⟩
    · replace h := it_f c4 h
      refine pm_iload_n dX9_call_17 rfl ?_
      refine pm_iconst (v := 2) dX9_call_18 (by decide) ?_
      refine pm_icmp_le (tgt := 24) dX9_call_19 (by decide) (fun c5 => ?_) (fun c5 => ?_)
      · replace h := it_t c5 h
        refine pm_iload_n dX9_call_24 rfl ?_
        refine pm_iconst (v := (-1)) dX9_call_25 (by decide) ?_
        refine pm_icmp_ne (tgt := 39) dX9_call_26 (by decide) (fun c6 => ?_) (fun c6 => ?_)
        · replace h := it_f c6 h
          refine pm_aload_n dX9_call_39 rfl ?_
          refine dx_gr (j := o3) (o := (o3 + 24)) hR dX9_call_40 fl_X9_273 (sp_Run_self hs_o3) rfl ?_
          refine pm_iload_n dX9_call_43 rfl ?_
          refine pm_iload_n dX9_call_44 rfl ?_
          obtain ⟨r7, h8, h⟩ := ob_some h
          refine dx_cVp (j := (o3 + 24)) (M := M_X9_call) (Mc := M_X1_read) (dc := 1) (As := [.int x1, .int x2]) (st := []) hR dX9_call_45 ml_X9_281 ⟨TX1, 4, rfl⟩ (sp_Calls_self (sp_Run_calls hs_o3)) (by decide) (Nat.le_of_ble_eq_true rfl) rfl (k_X1_read hR (sp_Run_calls hs_o3) h8) ?_
          cases h
          exact pm_iret dX9_call_48 rfl (Nat.le_refl _) (Nat.le_refl _) ⟨rfl, rfl, rfl⟩
        · replace h := it_t c6 h
          refine pm_aload_n dX9_call_29 rfl ?_
          refine dx_gr (j := o3) (o := (o3 + 24)) hR dX9_call_30 fl_X9_273 (sp_Run_self hs_o3) rfl ?_
          refine dx_gi (j := (o3 + 24)) hR dX9_call_33 fl_X9_277 (sp_Calls_self (sp_Run_calls hs_o3)) rfl ?_
          refine pm_goto (tgt := 48) dX9_call_36 (by decide) ?_
          cases h
          exact pm_iret dX9_call_48 rfl (Nat.le_refl _) (Nat.le_refl _) ⟨rfl, rfl, rfl⟩
      · replace h := it_f c5 h
        refine pm_iconst (v := (-1)) dX9_call_22 (by decide) ?_
        cases h
        exact pm_iret dX9_call_23 rfl (Nat.le_refl _) (Nat.le_refl _) ⟨rfl, rfl, rfl⟩
def g_X9_log (F : Nat) (x1 : Int32) (x2 : Int32) (u : rg_U) : Option Int32 :=
  ob (g_X9_numbered F (rF u 0 8) u) (fun r1 => om r1 (some (-1000001)) (fun o3 => ck (isRn o3) (if x2 < 0 then (some (-1000001)) else (if x2 ≤ 4 then (if x1 = (-1) then (some (rF u (o3 + 6) 5)) else (ob (g_X3_read F (o3 + 6) x1 x2 u) (fun r7 => some r7))) else (some (-1000001))))))
set_option maxHeartbeats 4000000 in
set_option maxRecDepth 100000 in
theorem k_X9_log {gs : List String} {ro : pm_RO} {n : Nat} {w : Nat → va_E} {b : Nat} {u : rg_U} {F : Nat} {x1 : Int32} {x2 : Int32} {z : Int32} (hR : rg shC b u n w) (h : g_X9_log F x1 x2 u = some z) : pm_Met gs ro M_X9_log 2 0 0 [.ref (b + 0), .int x1, .int x2] n w (pm_p n w (some (.int z))) := by
  unfold g_X9_log at h
  refine pm_ofX in_X9_log (Nat.le_of_ble_eq_true rfl) rfl (L := [some (.ref (b + 0)), some (.int x1), some (.int x2), none]) rfl ?_
  refine pm_aload_n dX9_log_0 rfl ?_
  refine pm_aload_n dX9_log_1 rfl ?_
  refine dx_gi (j := 0) hR dX9_log_2 fl_X9_52 rfl rfl ?_
  obtain ⟨r1, h2, h⟩ := ob_some h
  cases r1 with
  | none =>
    replace h := om_n rfl h
    refine dx_cVp (j := 0) (M := M_X9_log) (Mc := M_X9_numbered) (dc := 1) (As := [.int (rF u 0 8)]) (st := []) hR dX9_log_5 ml_X9_169 ⟨TX9, 14, rfl⟩ rfl (v := .null) (by decide) (Nat.le_of_ble_eq_true rfl) rfl (k_X9_numbered hR h2) ?_
    refine pm_astore_nN dX9_log_8 (by decide) rfl rfl ?_
    refine pm_aload_nN dX9_log_9 rfl ?_
    refine pm_ifnullN (x := 0) (tgt := 22) dX9_log_10 (by decide) ?_
    refine pm_ldc (v := (-1000001)) dX9_log_22 kc_X9_175 ?_
    cases h
    exact pm_iret dX9_log_24 rfl (Nat.le_refl _) (Nat.le_refl _) ⟨rfl, rfl, rfl⟩
  | some o3 =>
    replace h := om_s rfl h
    obtain ⟨c9, h⟩ := ck_some h
    have hs_o3 := run_sp c9
    refine dx_cVp (j := 0) (M := M_X9_log) (Mc := M_X9_numbered) (dc := 1) (As := [.int (rF u 0 8)]) (st := []) hR dX9_log_5 ml_X9_169 ⟨TX9, 14, rfl⟩ rfl (v := .ref (b + o3)) (by decide) (Nat.le_of_ble_eq_true rfl) rfl (k_X9_numbered hR h2) ?_
    refine pm_astore_n dX9_log_8 (by decide) rfl rfl ?_
    refine pm_aload_n dX9_log_9 rfl ?_
    refine pm_ifnull dX9_log_10 ?_
    refine pm_iload_n dX9_log_13 rfl ?_
    refine pm_if_lt (tgt := 22) dX9_log_14 (by decide) (fun c4 => ?_) (fun c4 => ?_)
    · replace h := it_t c4 h
      refine pm_ldc (v := (-1000001)) dX9_log_22 kc_X9_175 ?_
      cases h
      exact pm_iret dX9_log_24 rfl (Nat.le_refl _) (Nat.le_refl _) ⟨rfl, rfl, rfl⟩
    · replace h := it_f c4 h
      refine pm_iload_n dX9_log_17 rfl ?_
      refine pm_iconst (v := 4) dX9_log_18 (by decide) ?_
      refine pm_icmp_le (tgt := 25) dX9_log_19 (by decide) (fun c5 => ?_) (fun c5 => ?_)
      · replace h := it_t c5 h
        refine pm_iload_n dX9_log_25 rfl ?_
        refine pm_iconst (v := (-1)) dX9_log_26 (by decide) ?_
        refine pm_icmp_ne (tgt := 40) dX9_log_27 (by decide) (fun c6 => ?_) (fun c6 => ?_)
        · replace h := it_f c6 h
          refine pm_aload_n dX9_log_40 rfl ?_
          refine dx_gr (j := o3) (o := (o3 + 6)) hR dX9_log_41 fl_X9_109 (sp_Run_self hs_o3) rfl ?_
          refine pm_iload_n dX9_log_44 rfl ?_
          refine pm_iload_n dX9_log_45 rfl ?_
          obtain ⟨r7, h8, h⟩ := ob_some h
          refine dx_cVp (j := (o3 + 6)) (M := M_X9_log) (Mc := M_X3_read) (dc := 1) (As := [.int x1, .int x2]) (st := []) hR dX9_log_46 ml_X9_285 ⟨TX3, 6, rfl⟩ (sp_Log_self (sp_Run_log hs_o3)) (by decide) (Nat.le_of_ble_eq_true rfl) rfl (k_X3_read hR (sp_Run_log hs_o3) h8) ?_
          cases h
          exact pm_iret dX9_log_49 rfl (Nat.le_refl _) (Nat.le_refl _) ⟨rfl, rfl, rfl⟩
        · replace h := it_t c6 h
          refine pm_aload_n dX9_log_30 rfl ?_
          refine dx_gr (j := o3) (o := (o3 + 6)) hR dX9_log_31 fl_X9_109 (sp_Run_self hs_o3) rfl ?_
          refine dx_gi (j := (o3 + 6)) hR dX9_log_34 fl_X9_284 (sp_Log_self (sp_Run_log hs_o3)) rfl ?_
          refine pm_goto (tgt := 49) dX9_log_37 (by decide) ?_
          cases h
          exact pm_iret dX9_log_49 rfl (Nat.le_refl _) (Nat.le_refl _) ⟨rfl, rfl, rfl⟩
      · replace h := it_f c5 h
        refine pm_ldc (v := (-1000001)) dX9_log_22 kc_X9_175 ?_
        cases h
        exact pm_iret dX9_log_24 rfl (Nat.le_refl _) (Nat.le_refl _) ⟨rfl, rfl, rfl⟩
def g_X9_held (F : Nat) (x1 : Int32) (x2 : Int32) (u : rg_U) : Option Int32 :=
  ob (g_X9_numbered F (rF u 0 8) u) (fun r1 => om r1 (some (-1)) (fun o3 => ck (isRn o3) (if x2 < 0 then (some (-1)) else (if x2 ≤ 1 then (if x1 = (-1) then (some (rF u (o3 + 28) 1)) else (if x2 = 0 then (ob (g_X2_timeOf F (o3 + 28) x1 u) (fun r10 => some r10)) else (ob (g_X2_goesAt F (o3 + 28) x1 u) (fun r8 => some r8)))) else (some (-1))))))
set_option maxHeartbeats 4000000 in
set_option maxRecDepth 100000 in
theorem k_X9_held {gs : List String} {ro : pm_RO} {n : Nat} {w : Nat → va_E} {b : Nat} {u : rg_U} {F : Nat} {x1 : Int32} {x2 : Int32} {z : Int32} (hR : rg shC b u n w) (h : g_X9_held F x1 x2 u = some z) : pm_Met gs ro M_X9_held 2 0 0 [.ref (b + 0), .int x1, .int x2] n w (pm_p n w (some (.int z))) := by
  unfold g_X9_held at h
  refine pm_ofX in_X9_held (Nat.le_of_ble_eq_true rfl) rfl (L := [some (.ref (b + 0)), some (.int x1), some (.int x2), none]) rfl ?_
  refine pm_aload_n dX9_held_0 rfl ?_
  refine pm_aload_n dX9_held_1 rfl ?_
  refine dx_gi (j := 0) hR dX9_held_2 fl_X9_52 rfl rfl ?_
  obtain ⟨r1, h2, h⟩ := ob_some h
  cases r1 with
  | none =>
    replace h := om_n rfl h
    refine dx_cVp (j := 0) (M := M_X9_held) (Mc := M_X9_numbered) (dc := 1) (As := [.int (rF u 0 8)]) (st := []) hR dX9_held_5 ml_X9_169 ⟨TX9, 14, rfl⟩ rfl (v := .null) (by decide) (Nat.le_of_ble_eq_true rfl) rfl (k_X9_numbered hR h2) ?_
    refine pm_astore_nN dX9_held_8 (by decide) rfl rfl ?_
    refine pm_aload_nN dX9_held_9 rfl ?_
    refine pm_ifnullN (x := 0) (tgt := 22) dX9_held_10 (by decide) ?_
    refine pm_iconst (v := (-1)) dX9_held_22 (by decide) ?_
    cases h
    exact pm_iret dX9_held_23 rfl (Nat.le_refl _) (Nat.le_refl _) ⟨rfl, rfl, rfl⟩
  | some o3 =>
    replace h := om_s rfl h
    obtain ⟨c12, h⟩ := ck_some h
    have hs_o3 := run_sp c12
    refine dx_cVp (j := 0) (M := M_X9_held) (Mc := M_X9_numbered) (dc := 1) (As := [.int (rF u 0 8)]) (st := []) hR dX9_held_5 ml_X9_169 ⟨TX9, 14, rfl⟩ rfl (v := .ref (b + o3)) (by decide) (Nat.le_of_ble_eq_true rfl) rfl (k_X9_numbered hR h2) ?_
    refine pm_astore_n dX9_held_8 (by decide) rfl rfl ?_
    refine pm_aload_n dX9_held_9 rfl ?_
    refine pm_ifnull dX9_held_10 ?_
    refine pm_iload_n dX9_held_13 rfl ?_
    refine pm_if_lt (tgt := 22) dX9_held_14 (by decide) (fun c4 => ?_) (fun c4 => ?_)
    · replace h := it_t c4 h
      refine pm_iconst (v := (-1)) dX9_held_22 (by decide) ?_
      cases h
      exact pm_iret dX9_held_23 rfl (Nat.le_refl _) (Nat.le_refl _) ⟨rfl, rfl, rfl⟩
    · replace h := it_f c4 h
      refine pm_iload_n dX9_held_17 rfl ?_
      refine pm_iconst (v := 1) dX9_held_18 (by decide) ?_
      refine pm_icmp_le (tgt := 24) dX9_held_19 (by decide) (fun c5 => ?_) (fun c5 => ?_)
      · replace h := it_t c5 h
        refine pm_iload_n dX9_held_24 rfl ?_
        refine pm_iconst (v := (-1)) dX9_held_25 (by decide) ?_
        refine pm_icmp_ne (tgt := 37) dX9_held_26 (by decide) (fun c6 => ?_) (fun c6 => ?_)
        · replace h := it_f c6 h
          refine pm_iload_n dX9_held_37 rfl ?_
          refine pm_if_ne (tgt := 52) dX9_held_38 (by decide) (fun c7 => ?_) (fun c7 => ?_)
          · replace h := it_f c7 h
            refine pm_aload_n dX9_held_52 rfl ?_
            refine dx_gr (j := o3) (o := (o3 + 28)) hR dX9_held_53 fl_X9_226 (sp_Run_self hs_o3) rfl ?_
            refine pm_iload_n dX9_held_56 rfl ?_
            obtain ⟨r8, h9, h⟩ := ob_some h
            refine dx_cVp (j := (o3 + 28)) (M := M_X9_held) (Mc := M_X2_goesAt) (dc := 1) (As := [.int x1]) (st := []) hR dX9_held_57 ml_X9_290 ⟨TX2, 5, rfl⟩ (sp_Holding_self (sp_Run_holding hs_o3)) (by decide) (Nat.le_of_ble_eq_true rfl) rfl (k_X2_goesAt hR (sp_Run_holding hs_o3) h9) ?_
            cases h
            exact pm_iret dX9_held_60 rfl (Nat.le_refl _) (Nat.le_refl _) ⟨rfl, rfl, rfl⟩
          · replace h := it_t c7 h
            refine pm_aload_n dX9_held_41 rfl ?_
            refine dx_gr (j := o3) (o := (o3 + 28)) hR dX9_held_42 fl_X9_226 (sp_Run_self hs_o3) rfl ?_
            refine pm_iload_n dX9_held_45 rfl ?_
            obtain ⟨r10, h11, h⟩ := ob_some h
            refine dx_cVp (j := (o3 + 28)) (M := M_X9_held) (Mc := M_X2_timeOf) (dc := 1) (As := [.int x1]) (st := []) hR dX9_held_46 ml_X9_287 ⟨TX2, 5, rfl⟩ (sp_Holding_self (sp_Run_holding hs_o3)) (by decide) (Nat.le_of_ble_eq_true rfl) rfl (k_X2_timeOf hR (sp_Run_holding hs_o3) h11) ?_
            refine pm_goto (tgt := 60) dX9_held_49 (by decide) ?_
            cases h
            exact pm_iret dX9_held_60 rfl (Nat.le_refl _) (Nat.le_refl _) ⟨rfl, rfl, rfl⟩
        · replace h := it_t c6 h
          refine pm_aload_n dX9_held_29 rfl ?_
          refine dx_gr (j := o3) (o := (o3 + 28)) hR dX9_held_30 fl_X9_226 (sp_Run_self hs_o3) rfl ?_
          refine dx_gi (j := (o3 + 28)) hR dX9_held_33 fl_X9_286 (sp_Holding_self (sp_Run_holding hs_o3)) rfl ?_
          cases h
          exact pm_iret dX9_held_36 rfl (Nat.le_refl _) (Nat.le_refl _) ⟨rfl, rfl, rfl⟩
      · replace h := it_f c5 h
        refine pm_iconst (v := (-1)) dX9_held_22 (by decide) ?_
        cases h
        exact pm_iret dX9_held_23 rfl (Nat.le_refl _) (Nat.le_refl _) ⟨rfl, rfl, rfl⟩
def g_X9_isAnyTime (x0 : Int32) : Int32 :=
  if x0 < 0 then (0) else (if 3000 < x0 then (0) else (1))
theorem g_X9_isAnyTime_b {x0 : Int32} : g_X9_isAnyTime x0 = 0 ∨ g_X9_isAnyTime x0 = 1 := by
  unfold g_X9_isAnyTime
  repeat' (first | exact Or.inl rfl | exact Or.inr rfl | refine it_b ?_ ?_)
set_option maxHeartbeats 4000000 in
set_option maxRecDepth 100000 in
theorem k_X9_isAnyTime {gs : List String} {ro : pm_RO} {n : Nat} {w : Nat → va_E} {x0 : Int32} {z : Int32} (h : g_X9_isAnyTime x0 = z) : pm_Met gs ro M_X9_isAnyTime 0 0 0 [.int x0] n w (pm_p n w (some (.int z))) := by
  unfold g_X9_isAnyTime at h
  refine pm_ofX in_X9_isAnyTime (Nat.le_of_ble_eq_true rfl) rfl (L := [some (.int x0)]) rfl ?_
  refine pm_iload_n dX9_isAnyTime_0 rfl ?_
  refine pm_if_lt (tgt := 15) dX9_isAnyTime_1 (by decide) (fun c1 => ?_) (fun c1 => ?_)
  · replace h := it_t c1 h
    refine pm_iconst (v := 0) dX9_isAnyTime_15 (by decide) ?_
    subst h
    exact pm_zret dX9_isAnyTime_16 rfl (Or.inl rfl) (Nat.le_refl _) (Nat.le_refl _) ⟨rfl, rfl, rfl⟩
  · replace h := it_f c1 h
    refine pm_iload_n dX9_isAnyTime_4 rfl ?_
    refine pm_sipush (v := 3000) dX9_isAnyTime_5 (by decide) ?_
    refine pm_icmp_gt (tgt := 15) dX9_isAnyTime_8 (by decide) (fun c2 => ?_) (fun c2 => ?_)
    · replace h := it_t c2 h
      refine pm_iconst (v := 0) dX9_isAnyTime_15 (by decide) ?_
      subst h
      exact pm_zret dX9_isAnyTime_16 rfl (Or.inl rfl) (Nat.le_refl _) (Nat.le_refl _) ⟨rfl, rfl, rfl⟩
    · replace h := it_f c2 h
      refine pm_iconst (v := 1) dX9_isAnyTime_11 (by decide) ?_
      refine pm_goto (tgt := 16) dX9_isAnyTime_12 (by decide) ?_
      subst h
      exact pm_zret dX9_isAnyTime_16 rfl (Or.inr rfl) (Nat.le_refl _) (Nat.le_refl _) ⟨rfl, rfl, rfl⟩
def g_X9_wouldBeHeld_j36 (F : Nat) (l1 : Int32) (l3 : Int32) (l4 : Int32) (l5 : Int32) (u : rg_U) : Option ((Int32 × Int32) ⊕ Int32) :=
  some (.inl (l4, (l5 + 1)))
set_option maxHeartbeats 4000000 in
set_option maxRecDepth 100000 in
theorem k_X9_wouldBeHeld_j36 {gs : List String} {ro : pm_RO} {n : Nat} {w : Nat → va_E} {b : Nat} {u : rg_U} {F : Nat} {l1 : Int32} {l3 : Int32} {l4 : Int32} {l5 : Int32} {z : ((Int32 × Int32) ⊕ Int32)} {Q : Option Value → Nat → (Nat → va_E) → Prop} (hR : rg shC b u n w) (h : g_X9_wouldBeHeld_j36 F l1 l3 l4 l5 u = some z) (hc : ∀ s', z = .inl s' → pm_X gs ro M_X9_wouldBeHeld 2 0 0 0 0 17 [none, some (.int l1), none, some (.int l3), some (.int s'.1), some (.int s'.2)] [] n w Q) (he0 : ∀ r', z = .inr r' → pm_X gs ro M_X9_wouldBeHeld 2 0 0 0 0 42 [none, none, none, none, some (.int r'), none] [] n w Q) : pm_X gs ro M_X9_wouldBeHeld 2 0 0 0 0 36 [none, some (.int l1), none, some (.int l3), some (.int l4), some (.int l5)] [] n w Q := by
  unfold g_X9_wouldBeHeld_j36 at h
  refine pm_iinc (v := (l5 + 1)) dX9_wouldBeHeld_36 rfl rfl (by decide) rfl rfl ?_
  refine pm_goto (tgt := 17) dX9_wouldBeHeld_39 (by decide) ?_
  refine pm_lw (L' := [none, some (.int l1), none, some (.int l3), some (.int l4), some (.int (l5 + 1))]) ⟨Or.inl rfl, Or.inr rfl, Or.inl rfl, Or.inr rfl, Or.inr rfl, Or.inr rfl, trivial⟩ ?_
  exact hc _ (Option.some.inj h).symm
def g_X9_wouldBeHeld_l17 (F : Nat) (l1 : Int32) (l3 : Int32) (u : rg_U) (l4 : Int32) (l5 : Int32) : Option ((Int32 × Int32) ⊕ Int32) :=
  if l3 < l5 then (some (.inr l4)) else (if (g_X2_isHeldStill l5 l1 l3) = 0 then (g_X9_wouldBeHeld_j36 F l1 l3 l4 l5 u) else (g_X9_wouldBeHeld_j36 F l1 l3 (l4 + 1) l5 u))
set_option maxHeartbeats 4000000 in
set_option maxRecDepth 100000 in
theorem k_X9_wouldBeHeld_l17 {gs : List String} {ro : pm_RO} {n : Nat} {w : Nat → va_E} {b : Nat} {u : rg_U} {F : Nat} {l1 : Int32} {l3 : Int32} {l4 : Int32} {l5 : Int32} {z : (Int32 × Int32) ⊕ Int32} {Q : Option Value → Nat → (Nat → va_E) → Prop} (hR : rg shC b u n w) (h : g_X9_wouldBeHeld_l17 F l1 l3 u l4 l5 = some z) (hc : ∀ s', z = .inl s' → pm_X gs ro M_X9_wouldBeHeld 2 0 0 0 0 17 [none, some (.int l1), none, some (.int l3), some (.int s'.1), some (.int s'.2)] [] n w Q) (he0 : ∀ r', z = .inr r' → pm_X gs ro M_X9_wouldBeHeld 2 0 0 0 0 42 [none, none, none, none, some (.int r'), none] [] n w Q) : pm_X gs ro M_X9_wouldBeHeld 2 0 0 0 0 17 [none, some (.int l1), none, some (.int l3), some (.int l4), some (.int l5)] [] n w Q := by
  unfold g_X9_wouldBeHeld_l17 at h
  refine pm_iload dX9_wouldBeHeld_17 rfl ?_
  refine pm_iload_n dX9_wouldBeHeld_19 rfl ?_
  refine pm_icmp_gt (tgt := 42) dX9_wouldBeHeld_20 (by decide) (fun c3 => ?_) (fun c3 => ?_)
  · replace h := it_t c3 h
    refine pm_lw (L' := [none, none, none, none, some (.int l4), none]) ⟨Or.inl rfl, Or.inl rfl, Or.inl rfl, Or.inl rfl, Or.inr rfl, Or.inl rfl, trivial⟩ ?_
    exact he0 _ (Option.some.inj h).symm
  · replace h := it_f c3 h
    refine pm_iload dX9_wouldBeHeld_23 rfl ?_
    refine pm_iload_n dX9_wouldBeHeld_25 rfl ?_
    refine pm_iload_n dX9_wouldBeHeld_26 rfl ?_
    refine dx_cSp (M := M_X9_wouldBeHeld) (Mc := M_X2_isHeldStill) (dc := 1) (As := [.int l5, .int l1, .int l3]) (st := []) dX9_wouldBeHeld_27 ml_X9_300 (by decide) (Nat.le_of_ble_eq_true rfl) rfl (k_X2_isHeldStill rfl) ?_
    refine pm_if_eq (tgt := 36) dX9_wouldBeHeld_30 (by decide) (fun c4 => ?_) (fun c4 => ?_)
    · replace h := it_t c4 h
      exact k_X9_wouldBeHeld_j36 hR h hc he0
    · replace h := it_f c4 h
      refine pm_iinc (v := (l4 + 1)) dX9_wouldBeHeld_33 rfl rfl (by decide) rfl rfl ?_
      exact k_X9_wouldBeHeld_j36 hR h hc he0
def g_X9_wouldBeHeld (F : Nat) (x0 : Int32) (x1 : Int32) (x2 : Int32) (u : rg_U) : Option Int32 :=
  if 1 ≤ x0 then (ck (¬ x0 = 0) (ob (lp (fun (s : (Int32 × Int32)) => g_X9_wouldBeHeld_l17 F x1 (x2 / x0) u s.1 s.2) F ((1 : Int32), (1 : Int32))) (fun r5 => some r5))) else (some 0)
set_option maxHeartbeats 4000000 in
set_option maxRecDepth 100000 in
theorem k_X9_wouldBeHeld {gs : List String} {ro : pm_RO} {n : Nat} {w : Nat → va_E} {b : Nat} {u : rg_U} {F : Nat} {x0 : Int32} {x1 : Int32} {x2 : Int32} {z : Int32} (hR : rg shC b u n w) (h : g_X9_wouldBeHeld F x0 x1 x2 u = some z) : pm_Met gs ro M_X9_wouldBeHeld 2 0 0 [.int x0, .int x1, .int x2] n w (pm_p n w (some (.int z))) := by
  unfold g_X9_wouldBeHeld at h
  refine pm_ofX in_X9_wouldBeHeld (Nat.le_of_ble_eq_true rfl) rfl (L := [some (.int x0), some (.int x1), some (.int x2), none, none, none]) rfl ?_
  refine pm_iload_n dX9_wouldBeHeld_0 rfl ?_
  refine pm_iconst (v := 1) dX9_wouldBeHeld_1 (by decide) ?_
  refine pm_icmp_ge (tgt := 7) dX9_wouldBeHeld_2 (by decide) (fun c1 => ?_) (fun c1 => ?_)
  · replace h := it_t c1 h
    refine pm_iload_n dX9_wouldBeHeld_7 rfl ?_
    refine pm_iload_n dX9_wouldBeHeld_8 rfl ?_
    obtain ⟨c2, h⟩ := ck_some h
    refine pm_idiv dX9_wouldBeHeld_9 c2 ?_
    refine pm_istore_n dX9_wouldBeHeld_10 (by decide) rfl rfl ?_
    refine pm_iconst (v := 1) dX9_wouldBeHeld_11 (by decide) ?_
    refine pm_istore dX9_wouldBeHeld_12 (by decide) rfl rfl ?_
    refine pm_iconst (v := 1) dX9_wouldBeHeld_14 (by decide) ?_
    refine pm_istore dX9_wouldBeHeld_15 (by decide) rfl rfl ?_
    refine pm_lw (L' := [none, some (.int x1), none, some (.int (x2 / x0)), some (.int 1), some (.int 1)]) ⟨Or.inl rfl, Or.inr rfl, Or.inl rfl, Or.inr rfl, Or.inr rfl, Or.inr rfl, trivial⟩ ?_
    obtain ⟨r5, h6, h⟩ := ob_some h
    refine lp_sound (P := fun (s : (Int32 × Int32)) => pm_X gs ro M_X9_wouldBeHeld 2 0 0 0 0 17 [none, some (.int x1), none, some (.int (x2 / x0)), some (.int s.1), some (.int s.2)] [] n w (pm_p n w (some (.int z)))) (E := (fun (r : Int32) => pm_X gs ro M_X9_wouldBeHeld 2 0 0 0 0 42 [none, none, none, none, some (.int r), none] [] n w (pm_p n w (some (.int z))))) (fun s x hx hc he => k_X9_wouldBeHeld_l17 hR hx hc (fun r q => he r q)) F _ r5 h6 ?_
    refine pm_iload dX9_wouldBeHeld_42 rfl ?_
    cases h
    exact pm_iret dX9_wouldBeHeld_44 rfl (Nat.le_refl _) (Nat.le_refl _) ⟨rfl, rfl, rfl⟩
  · replace h := it_f c1 h
    refine pm_iconst (v := 0) dX9_wouldBeHeld_5 (by decide) ?_
    cases h
    exact pm_iret dX9_wouldBeHeld_6 rfl (Nat.le_refl _) (Nat.le_refl _) ⟨rfl, rfl, rfl⟩
def g_X9_would (F : Nat) (x1 : Int32) (x2 : Int32) (x3 : Int32) (u : rg_U) : Option Int32 :=
  if (g_X9_isUnit x1) = 0 then (some (-1)) else (if (g_X9_isDepth x2) = 0 then (some (-1)) else (if (g_X9_isAnyTime x3) = 0 then (some (-1)) else (ob (g_X9_wouldBeHeld F x1 x2 x3 u) (fun r4 => some r4))))
set_option maxHeartbeats 4000000 in
set_option maxRecDepth 100000 in
theorem k_X9_would {gs : List String} {ro : pm_RO} {n : Nat} {w : Nat → va_E} {b : Nat} {u : rg_U} {F : Nat} {x1 : Int32} {x2 : Int32} {x3 : Int32} {z : Int32} (hR : rg shC b u n w) (h : g_X9_would F x1 x2 x3 u = some z) : pm_Met gs ro M_X9_would 3 0 0 [.ref (b + 0), .int x1, .int x2, .int x3] n w (pm_p n w (some (.int z))) := by
  unfold g_X9_would at h
  refine pm_ofX in_X9_would (Nat.le_of_ble_eq_true rfl) rfl (L := [some (.ref (b + 0)), some (.int x1), some (.int x2), some (.int x3)]) rfl ?_
  refine pm_iload_n dX9_would_0 rfl ?_
  refine dx_cSp (M := M_X9_would) (Mc := M_X9_isUnit) (dc := 0) (As := [.int x1]) (st := []) dX9_would_1 ml_X9_82 (by decide) (Nat.le_of_ble_eq_true rfl) rfl (k_X9_isUnit rfl) ?_
  refine pm_if_eq (tgt := 21) dX9_would_4 (by decide) (fun c1 => ?_) (fun c1 => ?_)
  · replace h := it_t c1 h
    refine pm_iconst (v := (-1)) dX9_would_21 (by decide) ?_
    cases h
    exact pm_iret dX9_would_22 rfl (Nat.le_refl _) (Nat.le_refl _) ⟨rfl, rfl, rfl⟩
  · replace h := it_f c1 h
    refine pm_iload_n dX9_would_7 rfl ?_
    refine dx_cSp (M := M_X9_would) (Mc := M_X9_isDepth) (dc := 0) (As := [.int x2]) (st := []) dX9_would_8 ml_X9_85 (by decide) (Nat.le_of_ble_eq_true rfl) rfl (k_X9_isDepth rfl) ?_
    refine pm_if_eq (tgt := 21) dX9_would_11 (by decide) (fun c2 => ?_) (fun c2 => ?_)
    · replace h := it_t c2 h
      refine pm_iconst (v := (-1)) dX9_would_21 (by decide) ?_
      cases h
      exact pm_iret dX9_would_22 rfl (Nat.le_refl _) (Nat.le_refl _) ⟨rfl, rfl, rfl⟩
    · replace h := it_f c2 h
      refine pm_iload_n dX9_would_14 rfl ?_
      refine dx_cSp (M := M_X9_would) (Mc := M_X9_isAnyTime) (dc := 0) (As := [.int x3]) (st := []) dX9_would_15 ml_X9_293 (by decide) (Nat.le_of_ble_eq_true rfl) rfl (k_X9_isAnyTime rfl) ?_
      refine pm_if_ne (tgt := 23) dX9_would_18 (by decide) (fun c3 => ?_) (fun c3 => ?_)
      · replace h := it_f c3 h
        refine pm_iload_n dX9_would_23 rfl ?_
        refine pm_iload_n dX9_would_24 rfl ?_
        refine pm_iload_n dX9_would_25 rfl ?_
        obtain ⟨r4, h5, h⟩ := ob_some h
        refine dx_cSp (M := M_X9_would) (Mc := M_X9_wouldBeHeld) (dc := 2) (As := [.int x1, .int x2, .int x3]) (st := []) dX9_would_26 ml_X9_296 (by decide) (Nat.le_of_ble_eq_true rfl) rfl (k_X9_wouldBeHeld hR h5) ?_
        cases h
        exact pm_iret dX9_would_29 rfl (Nat.le_refl _) (Nat.le_refl _) ⟨rfl, rfl, rfl⟩
      · replace h := it_t c3 h
        refine pm_iconst (v := (-1)) dX9_would_21 (by decide) ?_
        cases h
        exact pm_iret dX9_would_22 rfl (Nat.le_refl _) (Nat.le_refl _) ⟨rfl, rfl, rfl⟩
def g_X9_gap_j77 (F : Nat) (l1 : Int32) (l2 : Int32) (l3 : Int32) (l4 : Int32) (l5 : Int32) (l6 : Int32) (l7 : Int32) (u : rg_U) : Option ((Int32 × Int32 × Int32) ⊕ (Int32 × Int32)) :=
  some (.inl (l5, l6, (l7 + 1)))
set_option maxHeartbeats 4000000 in
set_option maxRecDepth 100000 in
theorem k_X9_gap_j77 {gs : List String} {ro : pm_RO} {n : Nat} {w : Nat → va_E} {b : Nat} {u : rg_U} {F : Nat} {l1 : Int32} {l2 : Int32} {l3 : Int32} {l4 : Int32} {l5 : Int32} {l6 : Int32} {l7 : Int32} {z : ((Int32 × Int32 × Int32) ⊕ (Int32 × Int32))} {Q : Option Value → Nat → (Nat → va_E) → Prop} (hR : rg shC b u n w) (h : g_X9_gap_j77 F l1 l2 l3 l4 l5 l6 l7 u = some z) (hc : ∀ s', z = .inl s' → pm_X gs ro M_X9_gap 2 0 0 0 0 37 [none, some (.int l1), some (.int l2), some (.int l3), some (.int l4), some (.int s'.1), some (.int s'.2.1), some (.int s'.2.2)] [] n w Q) (he0 : ∀ r', z = .inr r' → pm_X gs ro M_X9_gap 2 0 0 0 0 83 [none, none, none, some (.int l3), none, some (.int r'.1), some (.int r'.2), none] [] n w Q) : pm_X gs ro M_X9_gap 2 0 0 0 0 77 [none, some (.int l1), some (.int l2), some (.int l3), some (.int l4), some (.int l5), some (.int l6), some (.int l7)] [] n w Q := by
  unfold g_X9_gap_j77 at h
  refine pm_iinc (v := (l7 + 1)) dX9_gap_77 rfl rfl (by decide) rfl rfl ?_
  refine pm_goto (tgt := 37) dX9_gap_80 (by decide) ?_
  refine pm_lw (L' := [none, some (.int l1), some (.int l2), some (.int l3), some (.int l4), some (.int l5), some (.int l6), some (.int (l7 + 1))]) ⟨Or.inl rfl, Or.inr rfl, Or.inr rfl, Or.inr rfl, Or.inr rfl, Or.inr rfl, Or.inr rfl, Or.inr rfl, trivial⟩ ?_
  exact hc _ (Option.some.inj h).symm
def g_X9_gap_l37 (F : Nat) (l1 : Int32) (l2 : Int32) (l3 : Int32) (l4 : Int32) (u : rg_U) (l5 : Int32) (l6 : Int32) (l7 : Int32) : Option ((Int32 × Int32 × Int32) ⊕ (Int32 × Int32)) :=
  if l4 < l7 then (some (.inr (l5, l6))) else (if (g_X2_isHeldStill l7 l2 l4) = 0 then (g_X9_gap_j77 F l1 l2 l3 l4 l5 l6 l7 u) else (g_X9_gap_j77 F l1 l2 l3 l4 (imax l5 (((l7 * l1) - 1) - l6)) (l7 * l1) l7 u))
set_option maxHeartbeats 4000000 in
set_option maxRecDepth 100000 in
theorem k_X9_gap_l37 {gs : List String} {ro : pm_RO} {n : Nat} {w : Nat → va_E} {b : Nat} {u : rg_U} {F : Nat} {l1 : Int32} {l2 : Int32} {l3 : Int32} {l4 : Int32} {l5 : Int32} {l6 : Int32} {l7 : Int32} {z : (Int32 × Int32 × Int32) ⊕ (Int32 × Int32)} {Q : Option Value → Nat → (Nat → va_E) → Prop} (hR : rg shC b u n w) (h : g_X9_gap_l37 F l1 l2 l3 l4 u l5 l6 l7 = some z) (hc : ∀ s', z = .inl s' → pm_X gs ro M_X9_gap 2 0 0 0 0 37 [none, some (.int l1), some (.int l2), some (.int l3), some (.int l4), some (.int s'.1), some (.int s'.2.1), some (.int s'.2.2)] [] n w Q) (he0 : ∀ r', z = .inr r' → pm_X gs ro M_X9_gap 2 0 0 0 0 83 [none, none, none, some (.int l3), none, some (.int r'.1), some (.int r'.2), none] [] n w Q) : pm_X gs ro M_X9_gap 2 0 0 0 0 37 [none, some (.int l1), some (.int l2), some (.int l3), some (.int l4), some (.int l5), some (.int l6), some (.int l7)] [] n w Q := by
  unfold g_X9_gap_l37 at h
  refine pm_iload dX9_gap_37 rfl ?_
  refine pm_iload dX9_gap_39 rfl ?_
  refine pm_icmp_gt (tgt := 83) dX9_gap_41 (by decide) (fun c5 => ?_) (fun c5 => ?_)
  · replace h := it_t c5 h
    refine pm_lw (L' := [none, none, none, some (.int l3), none, some (.int l5), some (.int l6), none]) ⟨Or.inl rfl, Or.inl rfl, Or.inl rfl, Or.inr rfl, Or.inl rfl, Or.inr rfl, Or.inr rfl, Or.inl rfl, trivial⟩ ?_
    exact he0 _ (Option.some.inj h).symm
  · replace h := it_f c5 h
    refine pm_iload dX9_gap_44 rfl ?_
    refine pm_iload_n dX9_gap_46 rfl ?_
    refine pm_iload dX9_gap_47 rfl ?_
    refine dx_cSp (M := M_X9_gap) (Mc := M_X2_isHeldStill) (dc := 1) (As := [.int l7, .int l2, .int l4]) (st := []) dX9_gap_49 ml_X9_300 (by decide) (Nat.le_of_ble_eq_true rfl) rfl (k_X2_isHeldStill rfl) ?_
    refine pm_if_eq (tgt := 77) dX9_gap_52 (by decide) (fun c6 => ?_) (fun c6 => ?_)
    · replace h := it_t c6 h
      exact k_X9_gap_j77 hR h hc he0
    · replace h := it_f c6 h
      refine pm_iload dX9_gap_55 rfl ?_
      refine pm_iload dX9_gap_57 rfl ?_
      refine pm_iload_n dX9_gap_59 rfl ?_
      refine pm_imul dX9_gap_60 ?_
      refine pm_iconst (v := 1) dX9_gap_61 (by decide) ?_
      refine pm_isub dX9_gap_62 ?_
      refine pm_iload dX9_gap_63 rfl ?_
      refine pm_isub dX9_gap_65 ?_
      refine pm_mmax (M := M_X9_gap) dX9_gap_66 mm_X9_247 mm_max_2 mm_init mm_max_4 (by decide) (Nat.le_refl _) (Nat.le_refl _) (Nat.le_of_ble_eq_true rfl) ?_
      refine pm_istore dX9_gap_69 (by decide) rfl rfl ?_
      refine pm_iload dX9_gap_71 rfl ?_
      refine pm_iload_n dX9_gap_73 rfl ?_
      refine pm_imul dX9_gap_74 ?_
      refine pm_istore dX9_gap_75 (by decide) rfl rfl ?_
      exact k_X9_gap_j77 hR h hc he0
def g_X9_gap (F : Nat) (x1 : Int32) (x2 : Int32) (x3 : Int32) (u : rg_U) : Option Int32 :=
  if (g_X9_isUnit x1) = 0 then (some (-1)) else (if (g_X9_isDepth x2) = 0 then (some (-1)) else (if (g_X9_isAnyTime x3) = 0 then (some (-1)) else (ck (¬ x1 = 0) (ob (lp (fun (s : (Int32 × Int32 × Int32)) => g_X9_gap_l37 F x1 x2 x3 (x3 / x1) u s.1 s.2.1 s.2.2) F ((0 : Int32), (0 : Int32), (1 : Int32))) (fun r7 => some (imax r7.1 (x3 - r7.2)))))))
set_option maxHeartbeats 4000000 in
set_option maxRecDepth 100000 in
theorem k_X9_gap {gs : List String} {ro : pm_RO} {n : Nat} {w : Nat → va_E} {b : Nat} {u : rg_U} {F : Nat} {x1 : Int32} {x2 : Int32} {x3 : Int32} {z : Int32} (hR : rg shC b u n w) (h : g_X9_gap F x1 x2 x3 u = some z) : pm_Met gs ro M_X9_gap 2 0 0 [.ref (b + 0), .int x1, .int x2, .int x3] n w (pm_p n w (some (.int z))) := by
  unfold g_X9_gap at h
  refine pm_ofX in_X9_gap (Nat.le_of_ble_eq_true rfl) rfl (L := [some (.ref (b + 0)), some (.int x1), some (.int x2), some (.int x3), none, none, none, none]) rfl ?_
  refine pm_iload_n dX9_gap_0 rfl ?_
  refine dx_cSp (M := M_X9_gap) (Mc := M_X9_isUnit) (dc := 0) (As := [.int x1]) (st := []) dX9_gap_1 ml_X9_82 (by decide) (Nat.le_of_ble_eq_true rfl) rfl (k_X9_isUnit rfl) ?_
  refine pm_if_eq (tgt := 21) dX9_gap_4 (by decide) (fun c1 => ?_) (fun c1 => ?_)
  · replace h := it_t c1 h
    refine pm_iconst (v := (-1)) dX9_gap_21 (by decide) ?_
    cases h
    exact pm_iret dX9_gap_22 rfl (Nat.le_refl _) (Nat.le_refl _) ⟨rfl, rfl, rfl⟩
  · replace h := it_f c1 h
    refine pm_iload_n dX9_gap_7 rfl ?_
    refine dx_cSp (M := M_X9_gap) (Mc := M_X9_isDepth) (dc := 0) (As := [.int x2]) (st := []) dX9_gap_8 ml_X9_85 (by decide) (Nat.le_of_ble_eq_true rfl) rfl (k_X9_isDepth rfl) ?_
    refine pm_if_eq (tgt := 21) dX9_gap_11 (by decide) (fun c2 => ?_) (fun c2 => ?_)
    · replace h := it_t c2 h
      refine pm_iconst (v := (-1)) dX9_gap_21 (by decide) ?_
      cases h
      exact pm_iret dX9_gap_22 rfl (Nat.le_refl _) (Nat.le_refl _) ⟨rfl, rfl, rfl⟩
    · replace h := it_f c2 h
      refine pm_iload_n dX9_gap_14 rfl ?_
      refine dx_cSp (M := M_X9_gap) (Mc := M_X9_isAnyTime) (dc := 0) (As := [.int x3]) (st := []) dX9_gap_15 ml_X9_293 (by decide) (Nat.le_of_ble_eq_true rfl) rfl (k_X9_isAnyTime rfl) ?_
      refine pm_if_ne (tgt := 23) dX9_gap_18 (by decide) (fun c3 => ?_) (fun c3 => ?_)
      · replace h := it_f c3 h
        refine pm_iload_n dX9_gap_23 rfl ?_
        refine pm_iload_n dX9_gap_24 rfl ?_
        obtain ⟨c4, h⟩ := ck_some h
        refine pm_idiv dX9_gap_25 c4 ?_
        refine pm_istore dX9_gap_26 (by decide) rfl rfl ?_
        refine pm_iconst (v := 0) dX9_gap_28 (by decide) ?_
        refine pm_istore dX9_gap_29 (by decide) rfl rfl ?_
        refine pm_iconst (v := 0) dX9_gap_31 (by decide) ?_
        refine pm_istore dX9_gap_32 (by decide) rfl rfl ?_
        refine pm_iconst (v := 1) dX9_gap_34 (by decide) ?_
        refine pm_istore dX9_gap_35 (by decide) rfl rfl ?_
        refine pm_lw (L' := [none, some (.int x1), some (.int x2), some (.int x3), some (.int (x3 / x1)), some (.int 0), some (.int 0), some (.int 1)]) ⟨Or.inl rfl, Or.inr rfl, Or.inr rfl, Or.inr rfl, Or.inr rfl, Or.inr rfl, Or.inr rfl, Or.inr rfl, trivial⟩ ?_
        obtain ⟨r7, h8, h⟩ := ob_some h
        refine lp_sound (P := fun (s : (Int32 × Int32 × Int32)) => pm_X gs ro M_X9_gap 2 0 0 0 0 37 [none, some (.int x1), some (.int x2), some (.int x3), some (.int (x3 / x1)), some (.int s.1), some (.int s.2.1), some (.int s.2.2)] [] n w (pm_p n w (some (.int z)))) (E := (fun (r : (Int32 × Int32)) => pm_X gs ro M_X9_gap 2 0 0 0 0 83 [none, none, none, some (.int x3), none, some (.int r.1), some (.int r.2), none] [] n w (pm_p n w (some (.int z))))) (fun s x hx hc he => k_X9_gap_l37 hR hx hc (fun r q => he r q)) F _ r7 h8 ?_
        refine pm_iload dX9_gap_83 rfl ?_
        refine pm_iload_n dX9_gap_85 rfl ?_
        refine pm_iload dX9_gap_86 rfl ?_
        refine pm_isub dX9_gap_88 ?_
        refine pm_mmax (M := M_X9_gap) dX9_gap_89 mm_X9_247 mm_max_2 mm_init mm_max_4 (by decide) (Nat.le_refl _) (Nat.le_refl _) (Nat.le_of_ble_eq_true rfl) ?_
        cases h
        exact pm_iret dX9_gap_92 rfl (Nat.le_refl _) (Nat.le_refl _) ⟨rfl, rfl, rfl⟩
      · replace h := it_t c3 h
        refine pm_iconst (v := (-1)) dX9_gap_21 (by decide) ?_
        cases h
        exact pm_iret dX9_gap_22 rfl (Nat.le_refl _) (Nat.le_refl _) ⟨rfl, rfl, rfl⟩
def g_X9_sparing_l19 (F : Nat) (l1 : Int32) (l2 : Int32) (l3 : Int32) (u : rg_U) (l4 : Int32) : Option (Int32 ⊕ (Int32 ⊕ Unit)) :=
  if 64 < l4 then (some (.inr (Sum.inr ()))) else (ob (g_X9_wouldBeHeld F l4 l1 l2 u) (fun r4 => if l3 < r4 then (some (.inl (l4 + 1))) else (some (.inr (Sum.inl l4)))))
set_option maxHeartbeats 4000000 in
set_option maxRecDepth 100000 in
theorem k_X9_sparing_l19 {gs : List String} {ro : pm_RO} {n : Nat} {w : Nat → va_E} {b : Nat} {u : rg_U} {F : Nat} {l1 : Int32} {l2 : Int32} {l3 : Int32} {l4 : Int32} {z : Int32 ⊕ (Int32 ⊕ Unit)} {Q : Option Value → Nat → (Nat → va_E) → Prop} (hR : rg shC b u n w) (h : g_X9_sparing_l19 F l1 l2 l3 u l4 = some z) (hc : ∀ s', z = .inl s' → pm_X gs ro M_X9_sparing 3 0 0 0 0 19 [none, some (.int l1), some (.int l2), some (.int l3), some (.int s')] [] n w Q) (he0 : ∀ r', z = .inr (Sum.inl r') → pm_X gs ro M_X9_sparing 3 0 0 0 0 37 [none, none, none, none, some (.int r')] [] n w Q) (he1 : ∀ r', z = .inr (Sum.inr r') → pm_X gs ro M_X9_sparing 3 0 0 0 0 46 [none, none, none, none, none] [] n w Q) : pm_X gs ro M_X9_sparing 3 0 0 0 0 19 [none, some (.int l1), some (.int l2), some (.int l3), some (.int l4)] [] n w Q := by
  unfold g_X9_sparing_l19 at h
  refine pm_iload dX9_sparing_19 rfl ?_
  refine pm_bipush (v := 64) dX9_sparing_21 (by decide) ?_
  refine pm_icmp_gt (tgt := 46) dX9_sparing_23 (by decide) (fun c3 => ?_) (fun c3 => ?_)
  · replace h := it_t c3 h
    refine pm_lw (L' := [none, none, none, none, none]) ⟨Or.inl rfl, Or.inl rfl, Or.inl rfl, Or.inl rfl, Or.inl rfl, trivial⟩ ?_
    exact he1 _ (Option.some.inj h).symm
  · replace h := it_f c3 h
    refine pm_iload dX9_sparing_26 rfl ?_
    refine pm_iload_n dX9_sparing_28 rfl ?_
    refine pm_iload_n dX9_sparing_29 rfl ?_
    obtain ⟨r4, h5, h⟩ := ob_some h
    refine dx_cSp (M := M_X9_sparing) (Mc := M_X9_wouldBeHeld) (dc := 2) (As := [.int l4, .int l1, .int l2]) (st := []) dX9_sparing_30 ml_X9_296 (by decide) (Nat.le_of_ble_eq_true rfl) rfl (k_X9_wouldBeHeld hR h5) ?_
    refine pm_iload_n dX9_sparing_33 rfl ?_
    refine pm_icmp_gt (tgt := 40) dX9_sparing_34 (by decide) (fun c6 => ?_) (fun c6 => ?_)
    · replace h := it_t c6 h
      refine pm_iinc (v := (l4 + 1)) dX9_sparing_40 rfl rfl (by decide) rfl rfl ?_
      refine pm_goto (tgt := 19) dX9_sparing_43 (by decide) ?_
      refine pm_lw (L' := [none, some (.int l1), some (.int l2), some (.int l3), some (.int (l4 + 1))]) ⟨Or.inl rfl, Or.inr rfl, Or.inr rfl, Or.inr rfl, Or.inr rfl, trivial⟩ ?_
      exact hc _ (Option.some.inj h).symm
    · replace h := it_f c6 h
      refine pm_lw (L' := [none, none, none, none, some (.int l4)]) ⟨Or.inl rfl, Or.inl rfl, Or.inl rfl, Or.inl rfl, Or.inr rfl, trivial⟩ ?_
      exact he0 _ (Option.some.inj h).symm
def g_X9_sparing (F : Nat) (x1 : Int32) (x2 : Int32) (x3 : Int32) (u : rg_U) : Option Int32 :=
  if (g_X9_isDepth x1) = 0 then (some (-1)) else (if (g_X9_isAnyTime x2) = 0 then (some (-1)) else (ob (lp (fun (s : Int32) => g_X9_sparing_l19 F x1 x2 x3 u s) F (1 : Int32)) (fun r7 => os r7 (fun r9 => some r9) (fun r10 => some (-1)))))
set_option maxHeartbeats 4000000 in
set_option maxRecDepth 100000 in
theorem k_X9_sparing {gs : List String} {ro : pm_RO} {n : Nat} {w : Nat → va_E} {b : Nat} {u : rg_U} {F : Nat} {x1 : Int32} {x2 : Int32} {x3 : Int32} {z : Int32} (hR : rg shC b u n w) (h : g_X9_sparing F x1 x2 x3 u = some z) : pm_Met gs ro M_X9_sparing 3 0 0 [.ref (b + 0), .int x1, .int x2, .int x3] n w (pm_p n w (some (.int z))) := by
  unfold g_X9_sparing at h
  refine pm_ofX in_X9_sparing (Nat.le_of_ble_eq_true rfl) rfl (L := [some (.ref (b + 0)), some (.int x1), some (.int x2), some (.int x3), none]) rfl ?_
  refine pm_iload_n dX9_sparing_0 rfl ?_
  refine dx_cSp (M := M_X9_sparing) (Mc := M_X9_isDepth) (dc := 0) (As := [.int x1]) (st := []) dX9_sparing_1 ml_X9_85 (by decide) (Nat.le_of_ble_eq_true rfl) rfl (k_X9_isDepth rfl) ?_
  refine pm_if_eq (tgt := 14) dX9_sparing_4 (by decide) (fun c1 => ?_) (fun c1 => ?_)
  · replace h := it_t c1 h
    refine pm_iconst (v := (-1)) dX9_sparing_14 (by decide) ?_
    cases h
    exact pm_iret dX9_sparing_15 rfl (Nat.le_refl _) (Nat.le_refl _) ⟨rfl, rfl, rfl⟩
  · replace h := it_f c1 h
    refine pm_iload_n dX9_sparing_7 rfl ?_
    refine dx_cSp (M := M_X9_sparing) (Mc := M_X9_isAnyTime) (dc := 0) (As := [.int x2]) (st := []) dX9_sparing_8 ml_X9_293 (by decide) (Nat.le_of_ble_eq_true rfl) rfl (k_X9_isAnyTime rfl) ?_
    refine pm_if_ne (tgt := 16) dX9_sparing_11 (by decide) (fun c2 => ?_) (fun c2 => ?_)
    · replace h := it_f c2 h
      refine pm_iconst (v := 1) dX9_sparing_16 (by decide) ?_
      refine pm_istore dX9_sparing_17 (by decide) rfl rfl ?_
      refine pm_lw (L' := [none, some (.int x1), some (.int x2), some (.int x3), some (.int 1)]) ⟨Or.inl rfl, Or.inr rfl, Or.inr rfl, Or.inr rfl, Or.inr rfl, trivial⟩ ?_
      obtain ⟨r7, h8, h⟩ := ob_some h
      refine lp_sound (P := fun (s : Int32) => pm_X gs ro M_X9_sparing 3 0 0 0 0 19 [none, some (.int x1), some (.int x2), some (.int x3), some (.int s)] [] n w (pm_p n w (some (.int z)))) (E := (Sum.elim (fun (r : Int32) => pm_X gs ro M_X9_sparing 3 0 0 0 0 37 [none, none, none, none, some (.int r)] [] n w (pm_p n w (some (.int z)))) (fun (r : Unit) => pm_X gs ro M_X9_sparing 3 0 0 0 0 46 [none, none, none, none, none] [] n w (pm_p n w (some (.int z)))))) (fun s x hx hc he => k_X9_sparing_l19 hR hx hc (fun r q => he (Sum.inl r) q) (fun r q => he (Sum.inr r) q)) F _ r7 h8 ?_
      cases r7 with
      | inl r9 =>
        replace h := os_l h
        refine pm_iload dX9_sparing_37 rfl ?_
        cases h
        exact pm_iret dX9_sparing_39 rfl (Nat.le_refl _) (Nat.le_refl _) ⟨rfl, rfl, rfl⟩
      | inr r10 =>
        replace h := os_r h
        refine pm_iconst (v := (-1)) dX9_sparing_46 (by decide) ?_
        cases h
        exact pm_iret dX9_sparing_47 rfl (Nat.le_refl _) (Nat.le_refl _) ⟨rfl, rfl, rfl⟩
    · replace h := it_t c2 h
      refine pm_iconst (v := (-1)) dX9_sparing_14 (by decide) ?_
      cases h
      exact pm_iret dX9_sparing_15 rfl (Nat.le_refl _) (Nat.le_refl _) ⟨rfl, rfl, rfl⟩
def g_X9_align (F : Nat) (x1 : Int32) (x2 : Int32) (u : rg_U) : Option (Int32 × rg_U) :=
  ob (g_X9_numbered F x1 u) (fun r1 => om r1 (ob (g_X9_numbered F x2 u) (fun r4 => om r4 (some ((-2), u)) (fun o6 => ck (isRn o6) (some ((-2), u))))) (fun o3 => ck (isRn o3) (ob (g_X9_numbered F x2 u) (fun r8 => om r8 (some ((-2), u)) (fun o10 => ck (isRn o10) (ob (g_X0_lay F (o3 + 24) (o10 + 24) u) (fun r11 => some ((rF r11 8 3), r11))))))))
set_option maxHeartbeats 4000000 in
set_option maxRecDepth 100000 in
theorem k_X9_align {gs : List String} {ro : pm_RO} {n : Nat} {w : Nat → va_E} {b : Nat} {u : rg_U} {F : Nat} {x1 : Int32} {x2 : Int32} {z : (Int32 × rg_U)} (hR : rg shC b u n w) (h : g_X9_align F x1 x2 u = some z) : pm_Met gs ro M_X9_align 4 0 0 [.ref (b + 0), .int x1, .int x2] n w (rg_post shC b n w (some (.int z.1)) z.2) := by
  unfold g_X9_align at h
  refine pm_ofX in_X9_align (Nat.le_of_ble_eq_true rfl) rfl (L := [some (.ref (b + 0)), some (.int x1), some (.int x2), none, none]) rfl ?_
  refine pm_aload_n dX9_align_0 rfl ?_
  refine pm_iload_n dX9_align_1 rfl ?_
  obtain ⟨r1, h2, h⟩ := ob_some h
  cases r1 with
  | none =>
    replace h := om_n rfl h
    refine dx_cVp (j := 0) (M := M_X9_align) (Mc := M_X9_numbered) (dc := 1) (As := [.int x1]) (st := []) hR dX9_align_2 ml_X9_169 ⟨TX9, 14, rfl⟩ rfl (v := .null) (by decide) (Nat.le_of_ble_eq_true rfl) rfl (k_X9_numbered hR h2) ?_
    refine pm_astore_nN dX9_align_5 (by decide) rfl rfl ?_
    refine pm_aload_n dX9_align_6 rfl ?_
    refine pm_iload_n dX9_align_7 rfl ?_
    obtain ⟨r4, h5, h⟩ := ob_some h
    cases r4 with
    | none =>
      replace h := om_n rfl h
      refine dx_cVp (j := 0) (M := M_X9_align) (Mc := M_X9_numbered) (dc := 1) (As := [.int x2]) (st := []) hR dX9_align_8 ml_X9_169 ⟨TX9, 14, rfl⟩ rfl (v := .null) (by decide) (Nat.le_of_ble_eq_true rfl) rfl (k_X9_numbered hR h5) ?_
      refine pm_astoreN dX9_align_11 (by decide) rfl rfl ?_
      refine pm_aload_nN dX9_align_13 rfl ?_
      refine pm_ifnullN (x := 0) (tgt := 22) dX9_align_14 (by decide) ?_
      refine pm_bipush (v := (-2)) dX9_align_22 (by decide) ?_
      cases h
      exact pm_iret dX9_align_24 rfl (Nat.le_refl _) (Nat.le_refl _) ⟨rfl, rfl, hR, rg_k0⟩
    | some o6 =>
      replace h := om_s rfl h
      obtain ⟨c7, h⟩ := ck_some h
      have hs_o6 := run_sp c7
      refine dx_cVp (j := 0) (M := M_X9_align) (Mc := M_X9_numbered) (dc := 1) (As := [.int x2]) (st := []) hR dX9_align_8 ml_X9_169 ⟨TX9, 14, rfl⟩ rfl (v := .ref (b + o6)) (by decide) (Nat.le_of_ble_eq_true rfl) rfl (k_X9_numbered hR h5) ?_
      refine pm_astore dX9_align_11 (by decide) rfl rfl ?_
      refine pm_aload_nN dX9_align_13 rfl ?_
      refine pm_ifnullN (x := 0) (tgt := 22) dX9_align_14 (by decide) ?_
      refine pm_bipush (v := (-2)) dX9_align_22 (by decide) ?_
      cases h
      exact pm_iret dX9_align_24 rfl (Nat.le_refl _) (Nat.le_refl _) ⟨rfl, rfl, hR, rg_k0⟩
  | some o3 =>
    replace h := om_s rfl h
    obtain ⟨c17, h⟩ := ck_some h
    have hs_o3 := run_sp c17
    refine dx_cVp (j := 0) (M := M_X9_align) (Mc := M_X9_numbered) (dc := 1) (As := [.int x1]) (st := []) hR dX9_align_2 ml_X9_169 ⟨TX9, 14, rfl⟩ rfl (v := .ref (b + o3)) (by decide) (Nat.le_of_ble_eq_true rfl) rfl (k_X9_numbered hR h2) ?_
    refine pm_astore_n dX9_align_5 (by decide) rfl rfl ?_
    refine pm_aload_n dX9_align_6 rfl ?_
    refine pm_iload_n dX9_align_7 rfl ?_
    obtain ⟨r8, h9, h⟩ := ob_some h
    cases r8 with
    | none =>
      replace h := om_n rfl h
      refine dx_cVp (j := 0) (M := M_X9_align) (Mc := M_X9_numbered) (dc := 1) (As := [.int x2]) (st := []) hR dX9_align_8 ml_X9_169 ⟨TX9, 14, rfl⟩ rfl (v := .null) (by decide) (Nat.le_of_ble_eq_true rfl) rfl (k_X9_numbered hR h9) ?_
      refine pm_astoreN dX9_align_11 (by decide) rfl rfl ?_
      refine pm_aload_n dX9_align_13 rfl ?_
      refine pm_ifnull dX9_align_14 ?_
      refine pm_aloadN dX9_align_17 rfl ?_
      refine pm_ifnonnullN (x := 0) dX9_align_19 ?_
      refine pm_bipush (v := (-2)) dX9_align_22 (by decide) ?_
      cases h
      exact pm_iret dX9_align_24 rfl (Nat.le_refl _) (Nat.le_refl _) ⟨rfl, rfl, hR, rg_k0⟩
    | some o10 =>
      replace h := om_s rfl h
      obtain ⟨c16, h⟩ := ck_some h
      have hs_o10 := run_sp c16
      refine dx_cVp (j := 0) (M := M_X9_align) (Mc := M_X9_numbered) (dc := 1) (As := [.int x2]) (st := []) hR dX9_align_8 ml_X9_169 ⟨TX9, 14, rfl⟩ rfl (v := .ref (b + o10)) (by decide) (Nat.le_of_ble_eq_true rfl) rfl (k_X9_numbered hR h9) ?_
      refine pm_astore dX9_align_11 (by decide) rfl rfl ?_
      refine pm_aload_n dX9_align_13 rfl ?_
      refine pm_ifnull dX9_align_14 ?_
      refine pm_aload dX9_align_17 rfl ?_
      refine pm_ifnonnull (tgt := 25) dX9_align_19 (by decide) ?_
      refine pm_aload_n dX9_align_25 rfl ?_
      refine dx_gr (j := 0) (o := 8) hR dX9_align_26 fl_X9_26 rfl rfl ?_
      refine pm_aload_n dX9_align_29 rfl ?_
      refine dx_gr (j := o3) (o := (o3 + 24)) hR dX9_align_30 fl_X9_273 (sp_Run_self hs_o3) rfl ?_
      refine pm_aload dX9_align_33 rfl ?_
      refine dx_gr (j := o10) (o := (o10 + 24)) hR dX9_align_35 fl_X9_273 (sp_Run_self hs_o10) rfl ?_
      obtain ⟨r11, h12, h⟩ := ob_some h
      refine dx_cVv (j := 8) (M := M_X9_align) (Mc := M_X0_lay) (dc := 3) (As := [.ref (b + (o3 + 24)), .ref (b + (o10 + 24))]) (st := []) hR rg_k0 dX9_align_38 ml_X9_303 ⟨TX0, 6, rfl⟩ rfl (by decide) (Nat.le_of_ble_eq_true rfl) rfl (k_X0_lay hR (sp_Run_calls hs_o3) (sp_Run_calls hs_o10) h12) (fun w13 hR14 hk15 => ?_)
      refine pm_aload_n dX9_align_41 rfl ?_
      refine dx_gr (j := 0) (o := 8) hR14 dX9_align_42 fl_X9_26 rfl rfl ?_
      refine dx_gi (j := 8) hR14 dX9_align_45 fl_X9_307 rfl rfl ?_
      cases h
      exact pm_iret dX9_align_48 rfl (Nat.le_refl _) (Nat.le_refl _) ⟨rfl, rfl, hR14, hk15⟩
