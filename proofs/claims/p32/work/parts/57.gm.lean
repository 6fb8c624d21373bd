theorem dX10_align_0 : decode cX10_align 0 = .ok (.aload_n 0, 1) := by decide +kernel
theorem dX10_align_1 : decode cX10_align 1 = .ok (.iload_n 1, 1) := by decide +kernel
theorem dX10_align_2 : decode cX10_align 2 = .ok (.invokevirtual 352, 3) := by decide +kernel
theorem dX10_align_5 : decode cX10_align 5 = .ok (.ifCond .eq 11, 3) := by decide +kernel
theorem dX10_align_8 : decode cX10_align 8 = .ok (.aload_n 0, 1) := by decide +kernel
theorem dX10_align_9 : decode cX10_align 9 = .ok (.iload_n 2, 1) := by decide +kernel
theorem dX10_align_10 : decode cX10_align 10 = .ok (.invokevirtual 352, 3) := by decide +kernel
theorem dX10_align_13 : decode cX10_align 13 = .ok (.ifCond .ne 6, 3) := by decide +kernel
theorem dX10_align_16 : decode cX10_align 16 = .ok (.bipush (-2), 2) := by decide +kernel
theorem dX10_align_18 : decode cX10_align 18 = .ok (.ireturn, 1) := by decide +kernel
theorem dX10_align_19 : decode cX10_align 19 = .ok (.aload_n 0, 1) := by decide +kernel
theorem dX10_align_20 : decode cX10_align 20 = .ok (.iload_n 1, 1) := by decide +kernel
theorem dX10_align_21 : decode cX10_align 21 = .ok (.iload_n 2, 1) := by decide +kernel
theorem dX10_align_22 : decode cX10_align 22 = .ok (.invokevirtual 355, 3) := by decide +kernel
theorem dX10_align_25 : decode cX10_align 25 = .ok (.aload_n 0, 1) := by decide +kernel
theorem dX10_align_26 : decode cX10_align 26 = .ok (.getfield 129, 3) := by decide +kernel
theorem dX10_align_29 : decode cX10_align 29 = .ok (.iconst 0, 1) := by decide +kernel
theorem dX10_align_30 : decode cX10_align 30 = .ok (.iaload, 1) := by decide +kernel
theorem dX10_align_31 : decode cX10_align 31 = .ok (.ireturn, 1) := by decide +kernel
theorem dX10_areLike_0 : decode cX10_areLike 0 = .ok (.bipush 100, 2) := by decide +kernel
theorem dX10_areLike_2 : decode cX10_areLike 2 = .ok (.aload_n 0, 1) := by decide +kernel
theorem dX10_areLike_3 : decode cX10_areLike 3 = .ok (.getfield 343, 3) := by decide +kernel
theorem dX10_areLike_6 : decode cX10_areLike 6 = .ok (.imul, 1) := by decide +kernel
theorem dX10_areLike_7 : decode cX10_areLike 7 = .ok (.iload_n 1, 1) := by decide +kernel
theorem dX10_areLike_8 : decode cX10_areLike 8 = .ok (.iadd, 1) := by decide +kernel
theorem dX10_areLike_9 : decode cX10_areLike 9 = .ok (.istore_n 3, 1) := by decide +kernel
theorem dX10_areLike_10 : decode cX10_areLike 10 = .ok (.bipush 100, 2) := by decide +kernel
theorem dX10_areLike_12 : decode cX10_areLike 12 = .ok (.aload_n 0, 1) := by decide +kernel
theorem dX10_areLike_13 : decode cX10_areLike 13 = .ok (.getfield 346, 3) := by decide +kernel
theorem dX10_areLike_16 : decode cX10_areLike 16 = .ok (.imul, 1) := by decide +kernel
theorem dX10_areLike_17 : decode cX10_areLike 17 = .ok (.iload_n 2, 1) := by decide +kernel
theorem dX10_areLike_18 : decode cX10_areLike 18 = .ok (.iadd, 1) := by decide +kernel
theorem dX10_areLike_19 : decode cX10_areLike 19 = .ok (.istore 4, 2) := by decide +kernel
theorem dX10_areLike_21 : decode cX10_areLike 21 = .ok (.aload_n 0, 1) := by decide +kernel
theorem dX10_areLike_22 : decode cX10_areLike 22 = .ok (.getfield 66, 3) := by decide +kernel
theorem dX10_areLike_25 : decode cX10_areLike 25 = .ok (.iload_n 3, 1) := by decide +kernel
theorem dX10_areLike_26 : decode cX10_areLike 26 = .ok (.iaload, 1) := by decide +kernel
theorem dX10_areLike_27 : decode cX10_areLike 27 = .ok (.aload_n 0, 1) := by decide +kernel
theorem dX10_areLike_28 : decode cX10_areLike 28 = .ok (.getfield 66, 3) := by decide +kernel
theorem dX10_areLike_31 : decode cX10_areLike 31 = .ok (.iload 4, 2) := by decide +kernel
theorem dX10_areLike_33 : decode cX10_areLike 33 = .ok (.iaload, 1) := by decide +kernel
theorem dX10_areLike_34 : decode cX10_areLike 34 = .ok (.if_icmp .ne 23, 3) := by decide +kernel
theorem dX10_areLike_37 : decode cX10_areLike 37 = .ok (.aload_n 0, 1) := by decide +kernel
theorem dX10_areLike_38 : decode cX10_areLike 38 = .ok (.getfield 69, 3) := by decide +kernel
theorem dX10_areLike_41 : decode cX10_areLike 41 = .ok (.iload_n 3, 1) := by decide +kernel
theorem dX10_areLike_42 : decode cX10_areLike 42 = .ok (.iaload, 1) := by decide +kernel
theorem dX10_areLike_43 : decode cX10_areLike 43 = .ok (.aload_n 0, 1) := by decide +kernel
theorem dX10_areLike_44 : decode cX10_areLike 44 = .ok (.getfield 69, 3) := by decide +kernel
theorem dX10_areLike_47 : decode cX10_areLike 47 = .ok (.iload 4, 2) := by decide +kernel
theorem dX10_areLike_49 : decode cX10_areLike 49 = .ok (.iaload, 1) := by decide +kernel
theorem dX10_areLike_50 : decode cX10_areLike 50 = .ok (.if_icmp .ne 7, 3) := by decide +kernel
theorem dX10_areLike_53 : decode cX10_areLike 53 = .ok (.iconst 1, 1) := by decide +kernel
theorem dX10_areLike_54 : decode cX10_areLike 54 = .ok (.goto 4, 3) := by decide +kernel
theorem dX10_areLike_57 : decode cX10_areLike 57 = .ok (.iconst 0, 1) := by decide +kernel
theorem dX10_areLike_58 : decode cX10_areLike 58 = .ok (.ireturn, 1) := by decide +kernel
theorem dX10_finds_0 : decode cX10_finds 0 = .ok (.iconst 0, 1) := by decide +kernel
theorem dX10_finds_1 : decode cX10_finds 1 = .ok (.istore_n 2, 1) := by decide +kernel
theorem dX10_finds_2 : decode cX10_finds 2 = .ok (.iconst 0, 1) := by decide +kernel
theorem dX10_finds_3 : decode cX10_finds 3 = .ok (.istore_n 3, 1) := by decide +kernel
theorem dX10_finds_4 : decode cX10_finds 4 = .ok (.iconst 0, 1) := by decide +kernel
theorem dX10_finds_5 : decode cX10_finds 5 = .ok (.istore 4, 2) := by decide +kernel
theorem dX10_finds_7 : decode cX10_finds 7 = .ok (.iload 4, 2) := by decide +kernel
theorem dX10_finds_9 : decode cX10_finds 9 = .ok (.iload_n 1, 1) := by decide +kernel
theorem dX10_finds_10 : decode cX10_finds 10 = .ok (.if_icmp .gt 111, 3) := by decide +kernel
theorem dX10_finds_13 : decode cX10_finds 13 = .ok (.aload_n 0, 1) := by decide +kernel
theorem dX10_finds_14 : decode cX10_finds 14 = .ok (.getfield 129, 3) := by decide +kernel
theorem dX10_finds_17 : decode cX10_finds 17 = .ok (.bipush 101, 2) := by decide +kernel
theorem dX10_finds_19 : decode cX10_finds 19 = .ok (.iload_n 2, 1) := by decide +kernel
theorem dX10_finds_20 : decode cX10_finds 20 = .ok (.imul, 1) := by decide +kernel
theorem dX10_finds_21 : decode cX10_finds 21 = .ok (.iload_n 3, 1) := by decide +kernel
theorem dX10_finds_22 : decode cX10_finds 22 = .ok (.iadd, 1) := by decide +kernel
theorem dX10_finds_23 : decode cX10_finds 23 = .ok (.iaload, 1) := by decide +kernel
theorem dX10_finds_24 : decode cX10_finds 24 = .ok (.istore 5, 2) := by decide +kernel
theorem dX10_finds_26 : decode cX10_finds 26 = .ok (.iload_n 2, 1) := by decide +kernel
theorem dX10_finds_27 : decode cX10_finds 27 = .ok (.istore 6, 2) := by decide +kernel
theorem dX10_finds_29 : decode cX10_finds 29 = .ok (.iload_n 3, 1) := by decide +kernel
theorem dX10_finds_30 : decode cX10_finds 30 = .ok (.istore 7, 2) := by decide +kernel
theorem dX10_finds_32 : decode cX10_finds 32 = .ok (.aload_n 0, 1) := by decide +kernel
theorem dX10_finds_33 : decode cX10_finds 33 = .ok (.iload 6, 2) := by decide +kernel
theorem dX10_finds_35 : decode cX10_finds 35 = .ok (.iload 7, 2) := by decide +kernel
theorem dX10_finds_37 : decode cX10_finds 37 = .ok (.invokevirtual 349, 3) := by decide +kernel
theorem dX10_finds_40 : decode cX10_finds 40 = .ok (.ifCond .eq 27, 3) := by decide +kernel
theorem dX10_finds_43 : decode cX10_finds 43 = .ok (.iconst 1, 1) := by decide +kernel
theorem dX10_finds_44 : decode cX10_finds 44 = .ok (.aload_n 0, 1) := by decide +kernel
theorem dX10_finds_45 : decode cX10_finds 45 = .ok (.getfield 129, 3) := by decide +kernel
theorem dX10_finds_48 : decode cX10_finds 48 = .ok (.bipush 101, 2) := by decide +kernel
theorem dX10_finds_50 : decode cX10_finds 50 = .ok (.iload 6, 2) := by decide +kernel
theorem dX10_finds_52 : decode cX10_finds 52 = .ok (.iconst 1, 1) := by decide +kernel
theorem dX10_finds_53 : decode cX10_finds 53 = .ok (.iadd, 1) := by decide +kernel
theorem dX10_finds_54 : decode cX10_finds 54 = .ok (.imul, 1) := by decide +kernel
theorem dX10_finds_55 : decode cX10_finds 55 = .ok (.iload 7, 2) := by decide +kernel
theorem dX10_finds_57 : decode cX10_finds 57 = .ok (.iadd, 1) := by decide +kernel
theorem dX10_finds_58 : decode cX10_finds 58 = .ok (.iconst 1, 1) := by decide +kernel
theorem dX10_finds_59 : decode cX10_finds 59 = .ok (.iadd, 1) := by decide +kernel
theorem dX10_finds_60 : decode cX10_finds 60 = .ok (.iaload, 1) := by decide +kernel
theorem dX10_finds_61 : decode cX10_finds 61 = .ok (.iadd, 1) := by decide +kernel
theorem dX10_finds_62 : decode cX10_finds 62 = .ok (.iload 5, 2) := by decide +kernel
theorem dX10_finds_64 : decode cX10_finds 64 = .ok (.if_icmp .eq 29, 3) := by decide +kernel
theorem dX10_finds_67 : decode cX10_finds 67 = .ok (.iinc 7 1, 3) := by decide +kernel
theorem dX10_finds_70 : decode cX10_finds 70 = .ok (.iload 7, 2) := by decide +kernel
theorem dX10_finds_72 : decode cX10_finds 72 = .ok (.aload_n 0, 1) := by decide +kernel
theorem dX10_finds_73 : decode cX10_finds 73 = .ok (.getfield 72, 3) := by decide +kernel
theorem dX10_finds_76 : decode cX10_finds 76 = .ok (.aload_n 0, 1) := by decide +kernel
theorem dX10_finds_77 : decode cX10_finds 77 = .ok (.getfield 346, 3) := by decide +kernel
theorem dX10_finds_80 : decode cX10_finds 80 = .ok (.iaload, 1) := by decide +kernel
theorem dX10_finds_81 : decode cX10_finds 81 = .ok (.if_icmp .ne (-49), 3) := by decide +kernel
theorem dX10_finds_84 : decode cX10_finds 84 = .ok (.iload_n 3, 1) := by decide +kernel
theorem dX10_finds_85 : decode cX10_finds 85 = .ok (.istore 7, 2) := by decide +kernel
theorem dX10_finds_87 : decode cX10_finds 87 = .ok (.iinc 6 1, 3) := by decide +kernel
theorem dX10_finds_90 : decode cX10_finds 90 = .ok (.goto (-58), 3) := by decide +kernel
theorem dX10_finds_93 : decode cX10_finds 93 = .ok (.aload_n 0, 1) := by decide +kernel
theorem dX10_finds_94 : decode cX10_finds 94 = .ok (.iload 6, 2) := by decide +kernel
theorem dX10_finds_96 : decode cX10_finds 96 = .ok (.putfield 358, 3) := by decide +kernel
theorem dX10_finds_99 : decode cX10_finds 99 = .ok (.aload_n 0, 1) := by decide +kernel
theorem dX10_finds_100 : decode cX10_finds 100 = .ok (.iload 7, 2) := by decide +kernel
theorem dX10_finds_102 : decode cX10_finds 102 = .ok (.putfield 361, 3) := by decide +kernel
theorem dX10_finds_105 : decode cX10_finds 105 = .ok (.iload 6, 2) := by decide +kernel
theorem dX10_finds_107 : decode cX10_finds 107 = .ok (.iconst 1, 1) := by decide +kernel
theorem dX10_finds_108 : decode cX10_finds 108 = .ok (.iadd, 1) := by decide +kernel
theorem dX10_finds_109 : decode cX10_finds 109 = .ok (.istore_n 2, 1) := by decide +kernel
theorem dX10_finds_110 : decode cX10_finds 110 = .ok (.iload 7, 2) := by decide +kernel
theorem dX10_finds_112 : decode cX10_finds 112 = .ok (.iconst 1, 1) := by decide +kernel
theorem dX10_finds_113 : decode cX10_finds 113 = .ok (.iadd, 1) := by decide +kernel
theorem dX10_finds_114 : decode cX10_finds 114 = .ok (.istore_n 3, 1) := by decide +kernel
theorem dX10_finds_115 : decode cX10_finds 115 = .ok (.iinc 4 1, 3) := by decide +kernel
theorem dX10_finds_118 : decode cX10_finds 118 = .ok (.goto (-111), 3) := by decide +kernel
theorem dX10_finds_121 : decode cX10_finds 121 = .ok (.return_, 1) := by decide +kernel
theorem dX10_gap_0 : decode cX10_gap 0 = .ok (.iload_n 1, 1) := by decide +kernel
theorem dX10_gap_1 : decode cX10_gap 1 = .ok (.iload_n 2, 1) := by decide +kernel
theorem dX10_gap_2 : decode cX10_gap 2 = .ok (.invokestatic 150, 3) := by decide +kernel
theorem dX10_gap_5 : decode cX10_gap 5 = .ok (.ifCond .eq 14, 3) := by decide +kernel
theorem dX10_gap_8 : decode cX10_gap 8 = .ok (.iload_n 3, 1) := by decide +kernel
theorem dX10_gap_9 : decode cX10_gap 9 = .ok (.iconst 0, 1) := by decide +kernel
theorem dX10_gap_10 : decode cX10_gap 10 = .ok (.sipush 3000, 3) := by decide +kernel
theorem dX10_gap_13 : decode cX10_gap 13 = .ok (.invokestatic 138, 3) := by decide +kernel
theorem dX10_gap_16 : decode cX10_gap 16 = .ok (.ifCond .ne 5, 3) := by decide +kernel
theorem dX10_gap_19 : decode cX10_gap 19 = .ok (.iconst (-1), 1) := by decide +kernel
theorem dX10_gap_20 : decode cX10_gap 20 = .ok (.ireturn, 1) := by decide +kernel
theorem dX10_gap_21 : decode cX10_gap 21 = .ok (.iconst 0, 1) := by decide +kernel
theorem dX10_gap_22 : decode cX10_gap 22 = .ok (.istore 4, 2) := by decide +kernel
theorem dX10_gap_24 : decode cX10_gap 24 = .ok (.iconst 0, 1) := by decide +kernel
theorem dX10_gap_25 : decode cX10_gap 25 = .ok (.istore 5, 2) := by decide +kernel
theorem dX10_gap_27 : decode cX10_gap 27 = .ok (.iconst 0, 1) := by decide +kernel
theorem dX10_gap_28 : decode cX10_gap 28 = .ok (.istore 6, 2) := by decide +kernel
theorem dX10_gap_30 : decode cX10_gap 30 = .ok (.iload 6, 2) := by decide +kernel
theorem dX10_gap_32 : decode cX10_gap 32 = .ok (.iload_n 3, 1) := by decide +kernel
theorem dX10_gap_33 : decode cX10_gap 33 = .ok (.if_icmp .gt 47, 3) := by decide +kernel
theorem dX10_gap_36 : decode cX10_gap 36 = .ok (.iload 6, 2) := by decide +kernel
theorem dX10_gap_38 : decode cX10_gap 38 = .ok (.iload_n 1, 1) := by decide +kernel
theorem dX10_gap_39 : decode cX10_gap 39 = .ok (.irem, 1) := by decide +kernel
theorem dX10_gap_40 : decode cX10_gap 40 = .ok (.ifCond .ne 22, 3) := by decide +kernel
theorem dX10_gap_43 : decode cX10_gap 43 = .ok (.aload_n 0, 1) := by decide +kernel
theorem dX10_gap_44 : decode cX10_gap 44 = .ok (.iload 6, 2) := by decide +kernel
theorem dX10_gap_46 : decode cX10_gap 46 = .ok (.iload_n 1, 1) := by decide +kernel
theorem dX10_gap_47 : decode cX10_gap 47 = .ok (.idiv, 1) := by decide +kernel
theorem dX10_gap_48 : decode cX10_gap 48 = .ok (.iload_n 3, 1) := by decide +kernel
theorem dX10_gap_49 : decode cX10_gap 49 = .ok (.iload_n 1, 1) := by decide +kernel
theorem dX10_gap_50 : decode cX10_gap 50 = .ok (.idiv, 1) := by decide +kernel
theorem dX10_gap_51 : decode cX10_gap 51 = .ok (.iload_n 2, 1) := by decide +kernel
theorem dX10_gap_52 : decode cX10_gap 52 = .ok (.invokevirtual 336, 3) := by decide +kernel
theorem dX10_gap_55 : decode cX10_gap 55 = .ok (.ifCond .eq 7, 3) := by decide +kernel
theorem dX10_gap_58 : decode cX10_gap 58 = .ok (.iload 6, 2) := by decide +kernel
theorem dX10_gap_60 : decode cX10_gap 60 = .ok (.istore 5, 2) := by decide +kernel
theorem dX10_gap_62 : decode cX10_gap 62 = .ok (.iload 4, 2) := by decide +kernel
theorem dX10_gap_64 : decode cX10_gap 64 = .ok (.iload 6, 2) := by decide +kernel
theorem dX10_gap_66 : decode cX10_gap 66 = .ok (.iload 5, 2) := by decide +kernel
theorem dX10_gap_68 : decode cX10_gap 68 = .ok (.isub, 1) := by decide +kernel
theorem dX10_gap_69 : decode cX10_gap 69 = .ok (.invokestatic 235, 3) := by decide +kernel
theorem dX10_gap_72 : decode cX10_gap 72 = .ok (.istore 4, 2) := by decide +kernel
theorem dX10_gap_74 : decode cX10_gap 74 = .ok (.iinc 6 1, 3) := by decide +kernel
theorem dX10_gap_77 : decode cX10_gap 77 = .ok (.goto (-47), 3) := by decide +kernel
theorem dX10_gap_80 : decode cX10_gap 80 = .ok (.iload 4, 2) := by decide +kernel
theorem dX10_gap_82 : decode cX10_gap 82 = .ok (.ireturn, 1) := by decide +kernel
theorem dX10_isThere_0 : decode cX10_isThere 0 = .ok (.iload_n 1, 1) := by decide +kernel
theorem dX10_isThere_1 : decode cX10_isThere 1 = .ok (.iconst (-1), 1) := by decide +kernel
theorem dX10_isThere_2 : decode cX10_isThere 2 = .ok (.if_icmp .ne 12, 3) := by decide +kernel
theorem dX10_isThere_5 : decode cX10_isThere 5 = .ok (.aload_n 0, 1) := by decide +kernel
theorem dX10_isThere_6 : decode cX10_isThere 6 = .ok (.getfield 29, 3) := by decide +kernel
theorem dX10_isThere_9 : decode cX10_isThere 9 = .ok (.iconst 4, 1) := by decide +kernel
theorem dX10_isThere_10 : decode cX10_isThere 10 = .ok (.baload, 1) := by decide +kernel
theorem dX10_isThere_11 : decode cX10_isThere 11 = .ok (.goto 14, 3) := by decide +kernel
theorem dX10_isThere_14 : decode cX10_isThere 14 = .ok (.iload_n 1, 1) := by decide +kernel
theorem dX10_isThere_15 : decode cX10_isThere 15 = .ok (.iconst 0, 1) := by decide +kernel
theorem dX10_isThere_16 : decode cX10_isThere 16 = .ok (.aload_n 0, 1) := by decide +kernel
theorem dX10_isThere_17 : decode cX10_isThere 17 = .ok (.getfield 295, 3) := by decide +kernel
theorem dX10_isThere_20 : decode cX10_isThere 20 = .ok (.iconst 1, 1) := by decide +kernel
theorem dX10_isThere_21 : decode cX10_isThere 21 = .ok (.isub, 1) := by decide +kernel
theorem dX10_isThere_22 : decode cX10_isThere 22 = .ok (.invokestatic 138, 3) := by decide +kernel
theorem dX10_isThere_25 : decode cX10_isThere 25 = .ok (.ireturn, 1) := by decide +kernel
theorem dX10_laysPairs_0 : decode cX10_laysPairs 0 = .ok (.aload_n 0, 1) := by decide +kernel
theorem dX10_laysPairs_1 : decode cX10_laysPairs 1 = .ok (.iload_n 1, 1) := by decide +kernel
theorem dX10_laysPairs_2 : decode cX10_laysPairs 2 = .ok (.iconst (-1), 1) := by decide +kernel
theorem dX10_laysPairs_3 : decode cX10_laysPairs 3 = .ok (.if_icmp .ne 7, 3) := by decide +kernel
theorem dX10_laysPairs_6 : decode cX10_laysPairs 6 = .ok (.iconst 4, 1) := by decide +kernel
theorem dX10_laysPairs_7 : decode cX10_laysPairs 7 = .ok (.goto 4, 3) := by decide +kernel
theorem dX10_laysPairs_10 : decode cX10_laysPairs 10 = .ok (.iload_n 1, 1) := by decide +kernel
theorem dX10_laysPairs_11 : decode cX10_laysPairs 11 = .ok (.putfield 343, 3) := by decide +kernel
theorem dX10_laysPairs_14 : decode cX10_laysPairs 14 = .ok (.aload_n 0, 1) := by decide +kernel
theorem dX10_laysPairs_15 : decode cX10_laysPairs 15 = .ok (.iload_n 2, 1) := by decide +kernel
theorem dX10_laysPairs_16 : decode cX10_laysPairs 16 = .ok (.iconst (-1), 1) := by decide +kernel
theorem dX10_laysPairs_17 : decode cX10_laysPairs 17 = .ok (.if_icmp .ne 7, 3) := by decide +kernel
theorem dX10_laysPairs_20 : decode cX10_laysPairs 20 = .ok (.iconst 4, 1) := by decide +kernel
theorem dX10_laysPairs_21 : decode cX10_laysPairs 21 = .ok (.goto 4, 3) := by decide +kernel
theorem dX10_laysPairs_24 : decode cX10_laysPairs 24 = .ok (.iload_n 2, 1) := by decide +kernel
theorem dX10_laysPairs_25 : decode cX10_laysPairs 25 = .ok (.putfield 346, 3) := by decide +kernel
theorem dX10_laysPairs_28 : decode cX10_laysPairs 28 = .ok (.aload_n 0, 1) := by decide +kernel
theorem dX10_laysPairs_29 : decode cX10_laysPairs 29 = .ok (.getfield 72, 3) := by decide +kernel
theorem dX10_laysPairs_32 : decode cX10_laysPairs 32 = .ok (.aload_n 0, 1) := by decide +kernel
theorem dX10_laysPairs_33 : decode cX10_laysPairs 33 = .ok (.getfield 343, 3) := by decide +kernel
theorem dX10_laysPairs_36 : decode cX10_laysPairs 36 = .ok (.iaload, 1) := by decide +kernel
theorem dX10_laysPairs_37 : decode cX10_laysPairs 37 = .ok (.istore_n 3, 1) := by decide +kernel
theorem dX10_laysPairs_38 : decode cX10_laysPairs 38 = .ok (.aload_n 0, 1) := by decide +kernel
theorem dX10_laysPairs_39 : decode cX10_laysPairs 39 = .ok (.getfield 72, 3) := by decide +kernel
theorem dX10_laysPairs_42 : decode cX10_laysPairs 42 = .ok (.aload_n 0, 1) := by decide +kernel
theorem dX10_laysPairs_43 : decode cX10_laysPairs 43 = .ok (.getfield 346, 3) := by decide +kernel
theorem dX10_laysPairs_46 : decode cX10_laysPairs 46 = .ok (.iaload, 1) := by decide +kernel
theorem dX10_laysPairs_47 : decode cX10_laysPairs 47 = .ok (.istore 4, 2) := by decide +kernel
theorem dX10_laysPairs_49 : decode cX10_laysPairs 49 = .ok (.iload_n 3, 1) := by decide +kernel
theorem dX10_laysPairs_50 : decode cX10_laysPairs 50 = .ok (.istore 5, 2) := by decide +kernel
theorem dX10_laysPairs_52 : decode cX10_laysPairs 52 = .ok (.iload 5, 2) := by decide +kernel
theorem dX10_laysPairs_54 : decode cX10_laysPairs 54 = .ok (.ifCond .lt 144, 3) := by decide +kernel
theorem dX10_laysPairs_57 : decode cX10_laysPairs 57 = .ok (.iload 4, 2) := by decide +kernel
theorem dX10_laysPairs_59 : decode cX10_laysPairs 59 = .ok (.istore 6, 2) := by decide +kernel
theorem dX10_laysPairs_61 : decode cX10_laysPairs 61 = .ok (.iload 6, 2) := by decide +kernel
theorem dX10_laysPairs_63 : decode cX10_laysPairs 63 = .ok (.ifCond .lt 129, 3) := by decide +kernel
theorem dX10_laysPairs_66 : decode cX10_laysPairs 66 = .ok (.iconst 0, 1) := by decide +kernel
theorem dX10_laysPairs_67 : decode cX10_laysPairs 67 = .ok (.istore 7, 2) := by decide +kernel
theorem dX10_laysPairs_69 : decode cX10_laysPairs 69 = .ok (.iload 5, 2) := by decide +kernel
theorem dX10_laysPairs_71 : decode cX10_laysPairs 71 = .ok (.iload_n 3, 1) := by decide +kernel
theorem dX10_laysPairs_72 : decode cX10_laysPairs 72 = .ok (.if_icmp .ge 20, 3) := by decide +kernel
theorem dX10_laysPairs_75 : decode cX10_laysPairs 75 = .ok (.aload_n 0, 1) := by decide +kernel
theorem dX10_laysPairs_76 : decode cX10_laysPairs 76 = .ok (.getfield 129, 3) := by decide +kernel
theorem dX10_laysPairs_79 : decode cX10_laysPairs 79 = .ok (.bipush 101, 2) := by decide +kernel
theorem dX10_laysPairs_81 : decode cX10_laysPairs 81 = .ok (.iload 5, 2) := by decide +kernel
theorem dX10_laysPairs_83 : decode cX10_laysPairs 83 = .ok (.iconst 1, 1) := by decide +kernel
theorem dX10_laysPairs_84 : decode cX10_laysPairs 84 = .ok (.iadd, 1) := by decide +kernel
theorem dX10_laysPairs_85 : decode cX10_laysPairs 85 = .ok (.imul, 1) := by decide +kernel
theorem dX10_laysPairs_86 : decode cX10_laysPairs 86 = .ok (.iload 6, 2) := by decide +kernel
theorem dX10_laysPairs_88 : decode cX10_laysPairs 88 = .ok (.iadd, 1) := by decide +kernel
theorem dX10_laysPairs_89 : decode cX10_laysPairs 89 = .ok (.iaload, 1) := by decide +kernel
theorem dX10_laysPairs_90 : decode cX10_laysPairs 90 = .ok (.istore 7, 2) := by decide +kernel
theorem dX10_laysPairs_92 : decode cX10_laysPairs 92 = .ok (.iload 6, 2) := by decide +kernel
theorem dX10_laysPairs_94 : decode cX10_laysPairs 94 = .ok (.iload 4, 2) := by decide +kernel
theorem dX10_laysPairs_96 : decode cX10_laysPairs 96 = .ok (.if_icmp .ge 25, 3) := by decide +kernel
theorem dX10_laysPairs_99 : decode cX10_laysPairs 99 = .ok (.iload 7, 2) := by decide +kernel
theorem dX10_laysPairs_101 : decode cX10_laysPairs 101 = .ok (.aload_n 0, 1) := by decide +kernel
theorem dX10_laysPairs_102 : decode cX10_laysPairs 102 = .ok (.getfield 129, 3) := by decide +kernel
theorem dX10_laysPairs_105 : decode cX10_laysPairs 105 = .ok (.bipush 101, 2) := by decide +kernel
theorem dX10_laysPairs_107 : decode cX10_laysPairs 107 = .ok (.iload 5, 2) := by decide +kernel
theorem dX10_laysPairs_109 : decode cX10_laysPairs 109 = .ok (.imul, 1) := by decide +kernel
theorem dX10_laysPairs_110 : decode cX10_laysPairs 110 = .ok (.iload 6, 2) := by decide +kernel
theorem dX10_laysPairs_112 : decode cX10_laysPairs 112 = .ok (.iadd, 1) := by decide +kernel
theorem dX10_laysPairs_113 : decode cX10_laysPairs 113 = .ok (.iconst 1, 1) := by decide +kernel
theorem dX10_laysPairs_114 : decode cX10_laysPairs 114 = .ok (.iadd, 1) := by decide +kernel
theorem dX10_laysPairs_115 : decode cX10_laysPairs 115 = .ok (.iaload, 1) := by decide +kernel
theorem dX10_laysPairs_116 : decode cX10_laysPairs 116 = .ok (.invokestatic 235, 3) := by decide +kernel
theorem dX10_laysPairs_119 : decode cX10_laysPairs 119 = .ok (.istore 7, 2) := by decide +kernel
theorem dX10_laysPairs_121 : decode cX10_laysPairs 121 = .ok (.iload 5, 2) := by decide +kernel
theorem dX10_laysPairs_123 : decode cX10_laysPairs 123 = .ok (.iload_n 3, 1) := by decide +kernel
theorem dX10_laysPairs_124 : decode cX10_laysPairs 124 = .ok (.if_icmp .ge 47, 3) := by decide +kernel
theorem dX10_laysPairs_127 : decode cX10_laysPairs 127 = .ok (.iload 6, 2) := by decide +kernel
theorem dX10_laysPairs_129 : decode cX10_laysPairs 129 = .ok (.iload 4, 2) := by decide +kernel
theorem dX10_laysPairs_131 : decode cX10_laysPairs 131 = .ok (.if_icmp .ge 40, 3) := by decide +kernel
theorem dX10_laysPairs_134 : decode cX10_laysPairs 134 = .ok (.aload_n 0, 1) := by decide +kernel
theorem dX10_laysPairs_135 : decode cX10_laysPairs 135 = .ok (.iload 5, 2) := by decide +kernel
theorem dX10_laysPairs_137 : decode cX10_laysPairs 137 = .ok (.iload 6, 2) := by decide +kernel
theorem dX10_laysPairs_139 : decode cX10_laysPairs 139 = .ok (.invokevirtual 349, 3) := by decide +kernel
theorem dX10_laysPairs_142 : decode cX10_laysPairs 142 = .ok (.ifCond .eq 29, 3) := by decide +kernel
theorem dX10_laysPairs_145 : decode cX10_laysPairs 145 = .ok (.iload 7, 2) := by decide +kernel
theorem dX10_laysPairs_147 : decode cX10_laysPairs 147 = .ok (.iconst 1, 1) := by decide +kernel
theorem dX10_laysPairs_148 : decode cX10_laysPairs 148 = .ok (.aload_n 0, 1) := by decide +kernel
theorem dX10_laysPairs_149 : decode cX10_laysPairs 149 = .ok (.getfield 129, 3) := by decide +kernel
theorem dX10_laysPairs_152 : decode cX10_laysPairs 152 = .ok (.bipush 101, 2) := by decide +kernel
theorem dX10_laysPairs_154 : decode cX10_laysPairs 154 = .ok (.iload 5, 2) := by decide +kernel
theorem dX10_laysPairs_156 : decode cX10_laysPairs 156 = .ok (.iconst 1, 1) := by decide +kernel
theorem dX10_laysPairs_157 : decode cX10_laysPairs 157 = .ok (.iadd, 1) := by decide +kernel
theorem dX10_laysPairs_158 : decode cX10_laysPairs 158 = .ok (.imul, 1) := by decide +kernel
theorem dX10_laysPairs_159 : decode cX10_laysPairs 159 = .ok (.iload 6, 2) := by decide +kernel
theorem dX10_laysPairs_161 : decode cX10_laysPairs 161 = .ok (.iadd, 1) := by decide +kernel
theorem dX10_laysPairs_162 : decode cX10_laysPairs 162 = .ok (.iconst 1, 1) := by decide +kernel
theorem dX10_laysPairs_163 : decode cX10_laysPairs 163 = .ok (.iadd, 1) := by decide +kernel
theorem dX10_laysPairs_164 : decode cX10_laysPairs 164 = .ok (.iaload, 1) := by decide +kernel
theorem dX10_laysPairs_165 : decode cX10_laysPairs 165 = .ok (.iadd, 1) := by decide +kernel
theorem dX10_laysPairs_166 : decode cX10_laysPairs 166 = .ok (.invokestatic 235, 3) := by decide +kernel
theorem dX10_laysPairs_169 : decode cX10_laysPairs 169 = .ok (.istore 7, 2) := by decide +kernel
theorem dX10_laysPairs_171 : decode cX10_laysPairs 171 = .ok (.aload_n 0, 1) := by decide +kernel
theorem dX10_laysPairs_172 : decode cX10_laysPairs 172 = .ok (.getfield 129, 3) := by decide +kernel
theorem dX10_laysPairs_175 : decode cX10_laysPairs 175 = .ok (.bipush 101, 2) := by decide +kernel
theorem dX10_laysPairs_177 : decode cX10_laysPairs 177 = .ok (.iload 5, 2) := by decide +kernel
theorem dX10_laysPairs_179 : decode cX10_laysPairs 179 = .ok (.imul, 1) := by decide +kernel
theorem dX10_laysPairs_180 : decode cX10_laysPairs 180 = .ok (.iload 6, 2) := by decide +kernel
theorem dX10_laysPairs_182 : decode cX10_laysPairs 182 = .ok (.iadd, 1) := by decide +kernel
theorem dX10_laysPairs_183 : decode cX10_laysPairs 183 = .ok (.iload 7, 2) := by decide +kernel
theorem dX10_laysPairs_185 : decode cX10_laysPairs 185 = .ok (.iastore, 1) := by decide +kernel
theorem dX10_laysPairs_186 : decode cX10_laysPairs 186 = .ok (.iinc 6 (-1), 3) := by decide +kernel
theorem dX10_laysPairs_189 : decode cX10_laysPairs 189 = .ok (.goto (-128), 3) := by decide +kernel
theorem dX10_laysPairs_192 : decode cX10_laysPairs 192 = .ok (.iinc 5 (-1), 3) := by decide +kernel
theorem dX10_laysPairs_195 : decode cX10_laysPairs 195 = .ok (.goto (-143), 3) := by decide +kernel
theorem dX10_laysPairs_198 : decode cX10_laysPairs 198 = .ok (.return_, 1) := by decide +kernel
theorem dX10_pair_0 : decode cX10_pair 0 = .ok (.aload_n 0, 1) := by decide +kernel
theorem dX10_pair_1 : decode cX10_pair 1 = .ok (.iconst 0, 1) := by decide +kernel
theorem dX10_pair_2 : decode cX10_pair 2 = .ok (.putfield 276, 3) := by decide +kernel
theorem dX10_pair_5 : decode cX10_pair 5 = .ok (.aload_n 0, 1) := by decide +kernel
theorem dX10_pair_6 : decode cX10_pair 6 = .ok (.iload_n 1, 1) := by decide +kernel
theorem dX10_pair_7 : decode cX10_pair 7 = .ok (.invokevirtual 352, 3) := by decide +kernel
theorem dX10_pair_10 : decode cX10_pair 10 = .ok (.ifCond .eq 21, 3) := by decide +kernel
theorem dX10_pair_13 : decode cX10_pair 13 = .ok (.aload_n 0, 1) := by decide +kernel
theorem dX10_pair_14 : decode cX10_pair 14 = .ok (.iload_n 2, 1) := by decide +kernel
theorem dX10_pair_15 : decode cX10_pair 15 = .ok (.invokevirtual 352, 3) := by decide +kernel
theorem dX10_pair_18 : decode cX10_pair 18 = .ok (.ifCond .eq 13, 3) := by decide +kernel
theorem dX10_pair_21 : decode cX10_pair 21 = .ok (.iload 4, 2) := by decide +kernel
theorem dX10_pair_23 : decode cX10_pair 23 = .ok (.iconst 0, 1) := by decide +kernel
theorem dX10_pair_24 : decode cX10_pair 24 = .ok (.iconst 3, 1) := by decide +kernel
theorem dX10_pair_25 : decode cX10_pair 25 = .ok (.invokestatic 138, 3) := by decide +kernel
theorem dX10_pair_28 : decode cX10_pair 28 = .ok (.ifCond .ne 7, 3) := by decide +kernel
theorem dX10_pair_31 : decode cX10_pair 31 = .ok (.ldc_w 304, 3) := by decide +kernel
theorem dX10_pair_34 : decode cX10_pair 34 = .ok (.ireturn, 1) := by decide +kernel
theorem dX10_pair_35 : decode cX10_pair 35 = .ok (.aload_n 0, 1) := by decide +kernel
theorem dX10_pair_36 : decode cX10_pair 36 = .ok (.iload_n 1, 1) := by decide +kernel
theorem dX10_pair_37 : decode cX10_pair 37 = .ok (.iload_n 2, 1) := by decide +kernel
theorem dX10_pair_38 : decode cX10_pair 38 = .ok (.invokevirtual 355, 3) := by decide +kernel
theorem dX10_pair_41 : decode cX10_pair 41 = .ok (.iload_n 3, 1) := by decide +kernel
theorem dX10_pair_42 : decode cX10_pair 42 = .ok (.iconst 0, 1) := by decide +kernel
theorem dX10_pair_43 : decode cX10_pair 43 = .ok (.aload_n 0, 1) := by decide +kernel
theorem dX10_pair_44 : decode cX10_pair 44 = .ok (.getfield 129, 3) := by decide +kernel
theorem dX10_pair_47 : decode cX10_pair 47 = .ok (.iconst 0, 1) := by decide +kernel
theorem dX10_pair_48 : decode cX10_pair 48 = .ok (.iaload, 1) := by decide +kernel
theorem dX10_pair_49 : decode cX10_pair 49 = .ok (.iconst 1, 1) := by decide +kernel
theorem dX10_pair_50 : decode cX10_pair 50 = .ok (.isub, 1) := by decide +kernel
theorem dX10_pair_51 : decode cX10_pair 51 = .ok (.invokestatic 138, 3) := by decide +kernel
theorem dX10_pair_54 : decode cX10_pair 54 = .ok (.ifCond .ne 7, 3) := by decide +kernel
theorem dX10_pair_57 : decode cX10_pair 57 = .ok (.ldc_w 304, 3) := by decide +kernel
theorem dX10_pair_60 : decode cX10_pair 60 = .ok (.ireturn, 1) := by decide +kernel
theorem dX10_pair_61 : decode cX10_pair 61 = .ok (.aload_n 0, 1) := by decide +kernel
theorem dX10_pair_62 : decode cX10_pair 62 = .ok (.iload_n 3, 1) := by decide +kernel
theorem dX10_pair_63 : decode cX10_pair 63 = .ok (.invokevirtual 364, 3) := by decide +kernel
theorem dX10_pair_66 : decode cX10_pair 66 = .ok (.iload 4, 2) := by decide +kernel
theorem dX10_pair_68 : decode cX10_pair 68 = .ok (.iconst 2, 1) := by decide +kernel
theorem dX10_pair_69 : decode cX10_pair 69 = .ok (.if_icmp .ge 20, 3) := by decide +kernel
theorem dX10_pair_72 : decode cX10_pair 72 = .ok (.iload 4, 2) := by decide +kernel
theorem dX10_pair_74 : decode cX10_pair 74 = .ok (.ifCond .ne 10, 3) := by decide +kernel
theorem dX10_pair_77 : decode cX10_pair 77 = .ok (.aload_n 0, 1) := by decide +kernel
theorem dX10_pair_78 : decode cX10_pair 78 = .ok (.getfield 358, 3) := by decide +kernel
theorem dX10_pair_81 : decode cX10_pair 81 = .ok (.goto 7, 3) := by decide +kernel
theorem dX10_pair_84 : decode cX10_pair 84 = .ok (.aload_n 0, 1) := by decide +kernel
theorem dX10_pair_85 : decode cX10_pair 85 = .ok (.getfield 361, 3) := by decide +kernel
theorem dX10_pair_88 : decode cX10_pair 88 = .ok (.ireturn, 1) := by decide +kernel
theorem dX10_pair_89 : decode cX10_pair 89 = .ok (.aload_n 0, 1) := by decide +kernel
theorem dX10_pair_90 : decode cX10_pair 90 = .ok (.aload_n 0, 1) := by decide +kernel
theorem dX10_pair_91 : decode cX10_pair 91 = .ok (.getfield 343, 3) := by decide +kernel
theorem dX10_pair_94 : decode cX10_pair 94 = .ok (.aload_n 0, 1) := by decide +kernel
theorem dX10_pair_95 : decode cX10_pair 95 = .ok (.getfield 63, 3) := by decide +kernel
theorem dX10_pair_98 : decode cX10_pair 98 = .ok (.bipush 100, 2) := by decide +kernel
theorem dX10_pair_100 : decode cX10_pair 100 = .ok (.aload_n 0, 1) := by decide +kernel
theorem dX10_pair_101 : decode cX10_pair 101 = .ok (.getfield 343, 3) := by decide +kernel
theorem dX10_pair_104 : decode cX10_pair 104 = .ok (.imul, 1) := by decide +kernel
theorem dX10_pair_105 : decode cX10_pair 105 = .ok (.aload_n 0, 1) := by decide +kernel
theorem dX10_pair_106 : decode cX10_pair 106 = .ok (.getfield 358, 3) := by decide +kernel
theorem dX10_pair_109 : decode cX10_pair 109 = .ok (.iadd, 1) := by decide +kernel
theorem dX10_pair_110 : decode cX10_pair 110 = .ok (.iaload, 1) := by decide +kernel
theorem dX10_pair_111 : decode cX10_pair 111 = .ok (.invokevirtual 292, 3) := by decide +kernel
theorem dX10_pair_114 : decode cX10_pair 114 = .ok (.iconst 0, 1) := by decide +kernel
theorem dX10_pair_115 : decode cX10_pair 115 = .ok (.istore 5, 2) := by decide +kernel
theorem dX10_pair_117 : decode cX10_pair 117 = .ok (.iload 5, 2) := by decide +kernel
theorem dX10_pair_119 : decode cX10_pair 119 = .ok (.sipush 134, 3) := by decide +kernel
theorem dX10_pair_122 : decode cX10_pair 122 = .ok (.if_icmp .ge 23, 3) := by decide +kernel
theorem dX10_pair_125 : decode cX10_pair 125 = .ok (.aload_n 0, 1) := by decide +kernel
theorem dX10_pair_126 : decode cX10_pair 126 = .ok (.getfield 132, 3) := by decide +kernel
theorem dX10_pair_129 : decode cX10_pair 129 = .ok (.iload 5, 2) := by decide +kernel
theorem dX10_pair_131 : decode cX10_pair 131 = .ok (.aload_n 0, 1) := by decide +kernel
theorem dX10_pair_132 : decode cX10_pair 132 = .ok (.getfield 114, 3) := by decide +kernel
theorem dX10_pair_135 : decode cX10_pair 135 = .ok (.iload 5, 2) := by decide +kernel
theorem dX10_pair_137 : decode cX10_pair 137 = .ok (.iaload, 1) := by decide +kernel
theorem dX10_pair_138 : decode cX10_pair 138 = .ok (.iastore, 1) := by decide +kernel
theorem dX10_pair_139 : decode cX10_pair 139 = .ok (.iinc 5 1, 3) := by decide +kernel
theorem dX10_pair_142 : decode cX10_pair 142 = .ok (.goto (-25), 3) := by decide +kernel
theorem dX10_pair_145 : decode cX10_pair 145 = .ok (.aload_n 0, 1) := by decide +kernel
theorem dX10_pair_146 : decode cX10_pair 146 = .ok (.aload_n 0, 1) := by decide +kernel
theorem dX10_pair_147 : decode cX10_pair 147 = .ok (.getfield 346, 3) := by decide +kernel
theorem dX10_pair_150 : decode cX10_pair 150 = .ok (.aload_n 0, 1) := by decide +kernel
theorem dX10_pair_151 : decode cX10_pair 151 = .ok (.getfield 63, 3) := by decide +kernel
theorem dX10_pair_154 : decode cX10_pair 154 = .ok (.bipush 100, 2) := by decide +kernel
theorem dX10_pair_156 : decode cX10_pair 156 = .ok (.aload_n 0, 1) := by decide +kernel
theorem dX10_pair_157 : decode cX10_pair 157 = .ok (.getfield 346, 3) := by decide +kernel
theorem dX10_pair_160 : decode cX10_pair 160 = .ok (.imul, 1) := by decide +kernel
theorem dX10_pair_161 : decode cX10_pair 161 = .ok (.aload_n 0, 1) := by decide +kernel
theorem dX10_pair_162 : decode cX10_pair 162 = .ok (.getfield 361, 3) := by decide +kernel
theorem dX10_pair_165 : decode cX10_pair 165 = .ok (.iadd, 1) := by decide +kernel
theorem dX10_pair_166 : decode cX10_pair 166 = .ok (.iaload, 1) := by decide +kernel
theorem dX10_pair_167 : decode cX10_pair 167 = .ok (.invokevirtual 292, 3) := by decide +kernel
theorem dX10_pair_170 : decode cX10_pair 170 = .ok (.iconst 0, 1) := by decide +kernel
theorem dX10_pair_171 : decode cX10_pair 171 = .ok (.istore 5, 2) := by decide +kernel
theorem dX10_pair_173 : decode cX10_pair 173 = .ok (.iload 4, 2) := by decide +kernel
theorem dX10_pair_175 : decode cX10_pair 175 = .ok (.iconst 2, 1) := by decide +kernel
theorem dX10_pair_176 : decode cX10_pair 176 = .ok (.if_icmp .ne 7, 3) := by decide +kernel
theorem dX10_pair_179 : decode cX10_pair 179 = .ok (.iconst 0, 1) := by decide +kernel
theorem dX10_pair_180 : decode cX10_pair 180 = .ok (.goto 5, 3) := by decide +kernel
theorem dX10_pair_183 : decode cX10_pair 183 = .ok (.bipush 8, 2) := by decide +kernel
theorem dX10_pair_185 : decode cX10_pair 185 = .ok (.istore 6, 2) := by decide +kernel
theorem dX10_pair_187 : decode cX10_pair 187 = .ok (.iload 4, 2) := by decide +kernel
theorem dX10_pair_189 : decode cX10_pair 189 = .ok (.iconst 2, 1) := by decide +kernel
theorem dX10_pair_190 : decode cX10_pair 190 = .ok (.if_icmp .ne 8, 3) := by decide +kernel
theorem dX10_pair_193 : decode cX10_pair 193 = .ok (.bipush 8, 2) := by decide +kernel
theorem dX10_pair_195 : decode cX10_pair 195 = .ok (.goto 5, 3) := by decide +kernel
theorem dX10_pair_198 : decode cX10_pair 198 = .ok (.bipush 32, 2) := by decide +kernel
theorem dX10_pair_200 : decode cX10_pair 200 = .ok (.istore 7, 2) := by decide +kernel
theorem dX10_pair_202 : decode cX10_pair 202 = .ok (.iconst 0, 1) := by decide +kernel
theorem dX10_pair_203 : decode cX10_pair 203 = .ok (.istore 8, 2) := by decide +kernel
theorem dX10_pair_205 : decode cX10_pair 205 = .ok (.iload 8, 2) := by decide +kernel
theorem dX10_pair_207 : decode cX10_pair 207 = .ok (.iload 7, 2) := by decide +kernel
theorem dX10_pair_209 : decode cX10_pair 209 = .ok (.if_icmp .ge 78, 3) := by decide +kernel
theorem dX10_pair_212 : decode cX10_pair 212 = .ok (.iload 5, 2) := by decide +kernel
theorem dX10_pair_214 : decode cX10_pair 214 = .ok (.aload_n 0, 1) := by decide +kernel
theorem dX10_pair_215 : decode cX10_pair 215 = .ok (.getfield 132, 3) := by decide +kernel
theorem dX10_pair_218 : decode cX10_pair 218 = .ok (.iconst 0, 1) := by decide +kernel
theorem dX10_pair_219 : decode cX10_pair 219 = .ok (.iload 6, 2) := by decide +kernel
theorem dX10_pair_221 : decode cX10_pair 221 = .ok (.iadd, 1) := by decide +kernel
theorem dX10_pair_222 : decode cX10_pair 222 = .ok (.iload 8, 2) := by decide +kernel
theorem dX10_pair_224 : decode cX10_pair 224 = .ok (.iadd, 1) := by decide +kernel
theorem dX10_pair_225 : decode cX10_pair 225 = .ok (.iaload, 1) := by decide +kernel
theorem dX10_pair_226 : decode cX10_pair 226 = .ok (.aload_n 0, 1) := by decide +kernel
theorem dX10_pair_227 : decode cX10_pair 227 = .ok (.getfield 114, 3) := by decide +kernel
theorem dX10_pair_230 : decode cX10_pair 230 = .ok (.iconst 0, 1) := by decide +kernel
theorem dX10_pair_231 : decode cX10_pair 231 = .ok (.iload 6, 2) := by decide +kernel
theorem dX10_pair_233 : decode cX10_pair 233 = .ok (.iadd, 1) := by decide +kernel
theorem dX10_pair_234 : decode cX10_pair 234 = .ok (.iload 8, 2) := by decide +kernel
theorem dX10_pair_236 : decode cX10_pair 236 = .ok (.iadd, 1) := by decide +kernel
theorem dX10_pair_237 : decode cX10_pair 237 = .ok (.iaload, 1) := by decide +kernel
theorem dX10_pair_238 : decode cX10_pair 238 = .ok (.if_icmp .ne 32, 3) := by decide +kernel
theorem dX10_pair_241 : decode cX10_pair 241 = .ok (.aload_n 0, 1) := by decide +kernel
theorem dX10_pair_242 : decode cX10_pair 242 = .ok (.getfield 132, 3) := by decide +kernel
theorem dX10_pair_245 : decode cX10_pair 245 = .ok (.bipush 40, 2) := by decide +kernel
theorem dX10_pair_247 : decode cX10_pair 247 = .ok (.iload 6, 2) := by decide +kernel
theorem dX10_pair_249 : decode cX10_pair 249 = .ok (.iadd, 1) := by decide +kernel
theorem dX10_pair_250 : decode cX10_pair 250 = .ok (.iload 8, 2) := by decide +kernel
theorem dX10_pair_252 : decode cX10_pair 252 = .ok (.iadd, 1) := by decide +kernel
theorem dX10_pair_253 : decode cX10_pair 253 = .ok (.iaload, 1) := by decide +kernel
theorem dX10_pair_254 : decode cX10_pair 254 = .ok (.aload_n 0, 1) := by decide +kernel
theorem dX10_pair_255 : decode cX10_pair 255 = .ok (.getfield 114, 3) := by decide +kernel
theorem dX10_pair_258 : decode cX10_pair 258 = .ok (.bipush 40, 2) := by decide +kernel
theorem dX10_pair_260 : decode cX10_pair 260 = .ok (.iload 6, 2) := by decide +kernel
theorem dX10_pair_262 : decode cX10_pair 262 = .ok (.iadd, 1) := by decide +kernel
theorem dX10_pair_263 : decode cX10_pair 263 = .ok (.iload 8, 2) := by decide +kernel
theorem dX10_pair_265 : decode cX10_pair 265 = .ok (.iadd, 1) := by decide +kernel
theorem dX10_pair_266 : decode cX10_pair 266 = .ok (.iaload, 1) := by decide +kernel
theorem dX10_pair_267 : decode cX10_pair 267 = .ok (.if_icmp .eq 10, 3) := by decide +kernel
theorem dX10_pair_270 : decode cX10_pair 270 = .ok (.iconst 1, 1) := by decide +kernel
theorem dX10_pair_271 : decode cX10_pair 271 = .ok (.iload 8, 2) := by decide +kernel
theorem dX10_pair_273 : decode cX10_pair 273 = .ok (.ishl, 1) := by decide +kernel
theorem dX10_pair_274 : decode cX10_pair 274 = .ok (.goto 4, 3) := by decide +kernel
theorem dX10_pair_277 : decode cX10_pair 277 = .ok (.iconst 0, 1) := by decide +kernel
theorem dX10_pair_278 : decode cX10_pair 278 = .ok (.ior, 1) := by decide +kernel
theorem dX10_pair_279 : decode cX10_pair 279 = .ok (.istore 5, 2) := by decide +kernel
theorem dX10_pair_281 : decode cX10_pair 281 = .ok (.iinc 8 1, 3) := by decide +kernel
theorem dX10_pair_284 : decode cX10_pair 284 = .ok (.goto (-79), 3) := by decide +kernel
theorem dX10_pair_287 : decode cX10_pair 287 = .ok (.iload 5, 2) := by decide +kernel
theorem dX10_pair_289 : decode cX10_pair 289 = .ok (.ireturn, 1) := by decide +kernel
theorem dX10_sparing_0 : decode cX10_sparing 0 = .ok (.iload_n 1, 1) := by decide +kernel
theorem dX10_sparing_1 : decode cX10_sparing 1 = .ok (.iconst 1, 1) := by decide +kernel
theorem dX10_sparing_2 : decode cX10_sparing 2 = .ok (.bipush 8, 2) := by decide +kernel
theorem dX10_sparing_4 : decode cX10_sparing 4 = .ok (.invokestatic 138, 3) := by decide +kernel
theorem dX10_sparing_7 : decode cX10_sparing 7 = .ok (.ifCond .eq 14, 3) := by decide +kernel
theorem dX10_sparing_10 : decode cX10_sparing 10 = .ok (.iload_n 2, 1) := by decide +kernel
theorem dX10_sparing_11 : decode cX10_sparing 11 = .ok (.iconst 0, 1) := by decide +kernel
theorem dX10_sparing_12 : decode cX10_sparing 12 = .ok (.sipush 3000, 3) := by decide +kernel
theorem dX10_sparing_15 : decode cX10_sparing 15 = .ok (.invokestatic 138, 3) := by decide +kernel
theorem dX10_sparing_18 : decode cX10_sparing 18 = .ok (.ifCond .ne 5, 3) := by decide +kernel
theorem dX10_sparing_21 : decode cX10_sparing 21 = .ok (.iconst (-1), 1) := by decide +kernel
theorem dX10_sparing_22 : decode cX10_sparing 22 = .ok (.ireturn, 1) := by decide +kernel
theorem dX10_sparing_23 : decode cX10_sparing 23 = .ok (.iconst 1, 1) := by decide +kernel
theorem dX10_sparing_24 : decode cX10_sparing 24 = .ok (.istore 4, 2) := by decide +kernel
theorem dX10_sparing_26 : decode cX10_sparing 26 = .ok (.iload 4, 2) := by decide +kernel
theorem dX10_sparing_28 : decode cX10_sparing 28 = .ok (.bipush 64, 2) := by decide +kernel
theorem dX10_sparing_30 : decode cX10_sparing 30 = .ok (.if_icmp .gt 24, 3) := by decide +kernel
theorem dX10_sparing_33 : decode cX10_sparing 33 = .ok (.aload_n 0, 1) := by decide +kernel
theorem dX10_sparing_34 : decode cX10_sparing 34 = .ok (.iload 4, 2) := by decide +kernel
theorem dX10_sparing_36 : decode cX10_sparing 36 = .ok (.iload_n 1, 1) := by decide +kernel
theorem dX10_sparing_37 : decode cX10_sparing 37 = .ok (.iload_n 2, 1) := by decide +kernel
theorem dX10_sparing_38 : decode cX10_sparing 38 = .ok (.invokevirtual 339, 3) := by decide +kernel
theorem dX10_sparing_41 : decode cX10_sparing 41 = .ok (.iload_n 3, 1) := by decide +kernel
theorem dX10_sparing_42 : decode cX10_sparing 42 = .ok (.if_icmp .gt 6, 3) := by decide +kernel
theorem dX10_sparing_45 : decode cX10_sparing 45 = .ok (.iload 4, 2) := by decide +kernel
theorem dX10_sparing_47 : decode cX10_sparing 47 = .ok (.ireturn, 1) := by decide +kernel
theorem dX10_sparing_48 : decode cX10_sparing 48 = .ok (.iinc 4 1, 3) := by decide +kernel
theorem dX10_sparing_51 : decode cX10_sparing 51 = .ok (.goto (-25), 3) := by decide +kernel
theorem dX10_sparing_54 : decode cX10_sparing 54 = .ok (.iconst (-1), 1) := by decide +kernel
theorem dX10_sparing_55 : decode cX10_sparing 55 = .ok (.ireturn, 1) := by decide +kernel
theorem dX10_would_0 : decode cX10_would 0 = .ok (.iload_n 1, 1) := by decide +kernel
theorem dX10_would_1 : decode cX10_would 1 = .ok (.iload_n 2, 1) := by decide +kernel
theorem dX10_would_2 : decode cX10_would 2 = .ok (.invokestatic 150, 3) := by decide +kernel
theorem dX10_would_5 : decode cX10_would 5 = .ok (.ifCond .eq 24, 3) := by decide +kernel
theorem dX10_would_8 : decode cX10_would 8 = .ok (.iload_n 3, 1) := by decide +kernel
theorem dX10_would_9 : decode cX10_would 9 = .ok (.iconst 0, 1) := by decide +kernel
theorem dX10_would_10 : decode cX10_would 10 = .ok (.sipush 3000, 3) := by decide +kernel
theorem dX10_would_13 : decode cX10_would 13 = .ok (.invokestatic 138, 3) := by decide +kernel
theorem dX10_would_16 : decode cX10_would 16 = .ok (.ifCond .eq 13, 3) := by decide +kernel
theorem dX10_would_19 : decode cX10_would 19 = .ok (.aload_n 0, 1) := by decide +kernel
theorem dX10_would_20 : decode cX10_would 20 = .ok (.iload_n 1, 1) := by decide +kernel
theorem dX10_would_21 : decode cX10_would 21 = .ok (.iload_n 2, 1) := by decide +kernel
theorem dX10_would_22 : decode cX10_would 22 = .ok (.iload_n 3, 1) := by decide +kernel
theorem dX10_would_23 : decode cX10_would 23 = .ok (.invokevirtual 339, 3) := by decide +kernel
theorem dX10_would_26 : decode cX10_would 26 = .ok (.goto 4, 3) := by decide +kernel
theorem dX10_would_29 : decode cX10_would 29 = .ok (.iconst (-1), 1) := by decide +kernel
theorem dX10_would_30 : decode cX10_would 30 = .ok (.ireturn, 1) := by decide +kernel
theorem dX10_wouldBe_0 : decode cX10_wouldBe 0 = .ok (.iload_n 1, 1) := by decide +kernel
theorem dX10_wouldBe_1 : decode cX10_wouldBe 1 = .ok (.ifCond .eq 13, 3) := by decide +kernel
theorem dX10_wouldBe_4 : decode cX10_wouldBe 4 = .ok (.aload_n 0, 1) := by decide +kernel
theorem dX10_wouldBe_5 : decode cX10_wouldBe 5 = .ok (.iload_n 1, 1) := by decide +kernel
theorem dX10_wouldBe_6 : decode cX10_wouldBe 6 = .ok (.iload_n 3, 1) := by decide +kernel
theorem dX10_wouldBe_7 : decode cX10_wouldBe 7 = .ok (.invokevirtual 229, 3) := by decide +kernel
theorem dX10_wouldBe_10 : decode cX10_wouldBe 10 = .ok (.iload_n 2, 1) := by decide +kernel
theorem dX10_wouldBe_11 : decode cX10_wouldBe 11 = .ok (.if_icmp .le 7, 3) := by decide +kernel
theorem dX10_wouldBe_14 : decode cX10_wouldBe 14 = .ok (.iconst 1, 1) := by decide +kernel
theorem dX10_wouldBe_15 : decode cX10_wouldBe 15 = .ok (.goto 4, 3) := by decide +kernel
theorem dX10_wouldBe_18 : decode cX10_wouldBe 18 = .ok (.iconst 0, 1) := by decide +kernel
theorem dX10_wouldBe_19 : decode cX10_wouldBe 19 = .ok (.ireturn, 1) := by decide +kernel
theorem dX10_wouldOf_0 : decode cX10_wouldOf 0 = .ok (.iconst 0, 1) := by decide +kernel
theorem dX10_wouldOf_1 : decode cX10_wouldOf 1 = .ok (.istore 4, 2) := by decide +kernel
theorem dX10_wouldOf_3 : decode cX10_wouldOf 3 = .ok (.iconst 0, 1) := by decide +kernel
theorem dX10_wouldOf_4 : decode cX10_wouldOf 4 = .ok (.istore 5, 2) := by decide +kernel
theorem dX10_wouldOf_6 : decode cX10_wouldOf 6 = .ok (.iload 5, 2) := by decide +kernel
theorem dX10_wouldOf_8 : decode cX10_wouldOf 8 = .ok (.iload_n 3, 1) := by decide +kernel
theorem dX10_wouldOf_9 : decode cX10_wouldOf 9 = .ok (.iload_n 1, 1) := by decide +kernel
theorem dX10_wouldOf_10 : decode cX10_wouldOf 10 = .ok (.idiv, 1) := by decide +kernel
theorem dX10_wouldOf_11 : decode cX10_wouldOf 11 = .ok (.if_icmp .gt 27, 3) := by decide +kernel
theorem dX10_wouldOf_14 : decode cX10_wouldOf 14 = .ok (.iload 4, 2) := by decide +kernel
theorem dX10_wouldOf_16 : decode cX10_wouldOf 16 = .ok (.aload_n 0, 1) := by decide +kernel
theorem dX10_wouldOf_17 : decode cX10_wouldOf 17 = .ok (.iload 5, 2) := by decide +kernel
theorem dX10_wouldOf_19 : decode cX10_wouldOf 19 = .ok (.iload_n 3, 1) := by decide +kernel
theorem dX10_wouldOf_20 : decode cX10_wouldOf 20 = .ok (.iload_n 1, 1) := by decide +kernel
theorem dX10_wouldOf_21 : decode cX10_wouldOf 21 = .ok (.idiv, 1) := by decide +kernel
theorem dX10_wouldOf_22 : decode cX10_wouldOf 22 = .ok (.iload_n 2, 1) := by decide +kernel
theorem dX10_wouldOf_23 : decode cX10_wouldOf 23 = .ok (.invokevirtual 336, 3) := by decide +kernel
theorem dX10_wouldOf_26 : decode cX10_wouldOf 26 = .ok (.invokestatic 154, 3) := by decide +kernel
theorem dX10_wouldOf_29 : decode cX10_wouldOf 29 = .ok (.iadd, 1) := by decide +kernel
theorem dX10_wouldOf_30 : decode cX10_wouldOf 30 = .ok (.istore 4, 2) := by decide +kernel
theorem dX10_wouldOf_32 : decode cX10_wouldOf 32 = .ok (.iinc 5 1, 3) := by decide +kernel
theorem dX10_wouldOf_35 : decode cX10_wouldOf 35 = .ok (.goto (-29), 3) := by decide +kernel
theorem dX10_wouldOf_38 : decode cX10_wouldOf 38 = .ok (.iload 4, 2) := by decide +kernel
theorem dX10_wouldOf_40 : decode cX10_wouldOf 40 = .ok (.ireturn, 1) := by decide +kernel
def g_X10_wouldBe (F : Nat) (x1 : Int32) (x2 : Int32) (x3 : Int32) (u : rg_U) : Option Int32 :=
  if x1 = 0 then (some 1) else (ob (g_X10_goesWith F x1 x3 u) (fun r2 => if r2 ≤ x2 then (some 0) else (some 1)))
set_option maxHeartbeats 4000000 in
set_option maxRecDepth 100000 in
theorem k_X10_wouldBe {gs : List String} {ro : pm_RO} {n : Nat} {w : Nat → va_E} {b : Nat} {u : rg_U} {F : Nat} {x1 : Int32} {x2 : Int32} {x3 : Int32} {z : Int32} (hR : rg shM b u n w) (h : g_X10_wouldBe F x1 x2 x3 u = some z) : pm_Met gs ro M_X10_wouldBe 2 0 0 [.ref (b + 0), .int x1, .int x2, .int x3] n w (pm_p n w (some (.int z))) := by
  unfold g_X10_wouldBe at h
  refine pm_ofX in_X10_wouldBe (Nat.le_of_ble_eq_true rfl) rfl (L := [some (.ref (b + 0)), some (.int x1), some (.int x2), some (.int x3)]) rfl ?_
  refine pm_iload_n dX10_wouldBe_0 rfl ?_
  refine pm_if_eq (tgt := 14) dX10_wouldBe_1 (by decide) (fun c1 => ?_) (fun c1 => ?_)
  · replace h := it_t c1 h
    refine pm_iconst (v := 1) dX10_wouldBe_14 (by decide) ?_
    refine pm_goto (tgt := 19) dX10_wouldBe_15 (by decide) ?_
    cases h
    exact pm_zret dX10_wouldBe_19 rfl (Or.inr rfl) (Nat.le_refl _) (Nat.le_refl _) ⟨rfl, rfl, rfl⟩
  · replace h := it_f c1 h
    refine pm_aload_n dX10_wouldBe_4 rfl ?_
    refine pm_iload_n dX10_wouldBe_5 rfl ?_
    refine pm_iload_n dX10_wouldBe_6 rfl ?_
    obtain ⟨r2, h3, h⟩ := ob_some h
    refine dx_cVp (j := 0) (M := M_X10_wouldBe) (Mc := M_X10_goesWith) (dc := 1) (As := [.int x1, .int x3]) (st := []) hR dX10_wouldBe_7 ml_X10_229 ⟨TX10, 55, rfl⟩ rfl (by decide) (Nat.le_of_ble_eq_true rfl) rfl (k_X10_goesWith hR h3) ?_
    refine pm_iload_n dX10_wouldBe_10 rfl ?_
    refine pm_icmp_le (tgt := 18) dX10_wouldBe_11 (by decide) (fun c4 => ?_) (fun c4 => ?_)
    · replace h := it_t c4 h
      refine pm_iconst (v := 0) dX10_wouldBe_18 (by decide) ?_
      cases h
      exact pm_zret dX10_wouldBe_19 rfl (Or.inl rfl) (Nat.le_refl _) (Nat.le_refl _) ⟨rfl, rfl, rfl⟩
    · replace h := it_f c4 h
      refine pm_iconst (v := 1) dX10_wouldBe_14 (by decide) ?_
      refine pm_goto (tgt := 19) dX10_wouldBe_15 (by decide) ?_
      cases h
      exact pm_zret dX10_wouldBe_19 rfl (Or.inr rfl) (Nat.le_refl _) (Nat.le_refl _) ⟨rfl, rfl, rfl⟩
def g_X10_wouldOf_l6 (F : Nat) (l1 : Int32) (l2 : Int32) (l3 : Int32) (u : rg_U) (l4 : Int32) (l5 : Int32) : Option ((Int32 × Int32) ⊕ Int32) :=
  ck (¬ l1 = 0) (if (l3 / l1) < l5 then (some (.inr l4)) else (ck (¬ l1 = 0) (ob (g_X10_wouldBe F l5 (l3 / l1) l2 u) (fun r4 => some (.inl ((l4 + (g_X10_one r4)), (l5 + 1)))))))
set_option maxHeartbeats 4000000 in
set_option maxRecDepth 100000 in
theorem k_X10_wouldOf_l6 {gs : List String} {ro : pm_RO} {n : Nat} {w : Nat → va_E} {b : Nat} {u : rg_U} {F : Nat} {l1 : Int32} {l2 : Int32} {l3 : Int32} {l4 : Int32} {l5 : Int32} {z : (Int32 × Int32) ⊕ Int32} {Q : Option Value → Nat → (Nat → va_E) → Prop} (hR : rg shM b u n w) (h : g_X10_wouldOf_l6 F l1 l2 l3 u l4 l5 = some z) (hc : ∀ s', z = .inl s' → pm_X gs ro M_X10_wouldOf 3 0 0 0 0 6 [some (.ref (b + 0)), some (.int l1), some (.int l2), some (.int l3), some (.int s'.1), some (.int s'.2)] [] n w Q) (he0 : ∀ r', z = .inr r' → pm_X gs ro M_X10_wouldOf 3 0 0 0 0 38 [none, none, none, none, some (.int r'), none] [] n w Q) : pm_X gs ro M_X10_wouldOf 3 0 0 0 0 6 [some (.ref (b + 0)), some (.int l1), some (.int l2), some (.int l3), some (.int l4), some (.int l5)] [] n w Q := by
  unfold g_X10_wouldOf_l6 at h
  refine pm_iload dX10_wouldOf_6 rfl ?_
  refine pm_iload_n dX10_wouldOf_8 rfl ?_
  refine pm_iload_n dX10_wouldOf_9 rfl ?_
  obtain ⟨c1, h⟩ := ck_some h
  refine pm_idiv dX10_wouldOf_10 c1 ?_
  refine pm_icmp_gt (tgt := 38) dX10_wouldOf_11 (by decide) (fun c2 => ?_) (fun c2 => ?_)
  · replace h := it_t c2 h
    refine pm_lw (L' := [none, none, none, none, some (.int l4), none]) ⟨Or.inl rfl, Or.inl rfl, Or.inl rfl, Or.inl rfl, Or.inr rfl, Or.inl rfl, trivial⟩ ?_
    exact he0 _ (Option.some.inj h).symm
  · replace h := it_f c2 h
    refine pm_iload dX10_wouldOf_14 rfl ?_
    refine pm_aload_n dX10_wouldOf_16 rfl ?_
    refine pm_iload dX10_wouldOf_17 rfl ?_
    refine pm_iload_n dX10_wouldOf_19 rfl ?_
    refine pm_iload_n dX10_wouldOf_20 rfl ?_
    obtain ⟨c3, h⟩ := ck_some h
    refine pm_idiv dX10_wouldOf_21 c3 ?_
    refine pm_iload_n dX10_wouldOf_22 rfl ?_
    obtain ⟨r4, h5, h⟩ := ob_some h
    refine dx_cVp (j := 0) (M := M_X10_wouldOf) (Mc := M_X10_wouldBe) (dc := 2) (As := [.int l5, .int (l3 / l1), .int l2]) (st := [.int l4]) hR dX10_wouldOf_23 ml_X10_336 ⟨TX10, 55, rfl⟩ rfl (by decide) (Nat.le_of_ble_eq_true rfl) rfl (k_X10_wouldBe hR h5) ?_
    refine dx_cSp (M := M_X10_wouldOf) (Mc := M_X10_one) (dc := 0) (As := [.int r4]) (st := [.int l4]) dX10_wouldOf_26 ml_X10_154 (by decide) (Nat.le_of_ble_eq_true rfl) rfl (k_X10_one rfl) ?_
    refine pm_iadd dX10_wouldOf_29 ?_
    refine pm_istore dX10_wouldOf_30 (by decide) rfl rfl ?_
    refine pm_iinc (v := (l5 + 1)) dX10_wouldOf_32 rfl rfl (by decide) rfl rfl ?_
    refine pm_goto (tgt := 6) dX10_wouldOf_35 (by decide) ?_
    refine pm_lw (L' := [some (.ref (b + 0)), some (.int l1), some (.int l2), some (.int l3), some (.int (l4 + (g_X10_one r4))), some (.int (l5 + 1))]) ⟨Or.inr rfl, Or.inr rfl, Or.inr rfl, Or.inr rfl, Or.inr rfl, Or.inr rfl, trivial⟩ ?_
    exact hc _ (Option.some.inj h).symm
def g_X10_wouldOf (F : Nat) (x1 : Int32) (x2 : Int32) (x3 : Int32) (u : rg_U) : Option Int32 :=
  ob (lp (fun (s : (Int32 × Int32)) => g_X10_wouldOf_l6 F x1 x2 x3 u s.1 s.2) F ((0 : Int32), (0 : Int32))) (fun r6 => some r6)
set_option maxHeartbeats 4000000 in
set_option maxRecDepth 100000 in
theorem k_X10_wouldOf {gs : List String} {ro : pm_RO} {n : Nat} {w : Nat → va_E} {b : Nat} {u : rg_U} {F : Nat} {x1 : Int32} {x2 : Int32} {x3 : Int32} {z : Int32} (hR : rg shM b u n w) (h : g_X10_wouldOf F x1 x2 x3 u = some z) : pm_Met gs ro M_X10_wouldOf 3 0 0 [.ref (b + 0), .int x1, .int x2, .int x3] n w (pm_p n w (some (.int z))) := by
  unfold g_X10_wouldOf at h
  refine pm_ofX in_X10_wouldOf (Nat.le_of_ble_eq_true rfl) rfl (L := [some (.ref (b + 0)), some (.int x1), some (.int x2), some (.int x3), none, none]) rfl ?_
  refine pm_iconst (v := 0) dX10_wouldOf_0 (by decide) ?_
  refine pm_istore dX10_wouldOf_1 (by decide) rfl rfl ?_
  refine pm_iconst (v := 0) dX10_wouldOf_3 (by decide) ?_
  refine pm_istore dX10_wouldOf_4 (by decide) rfl rfl ?_
  obtain ⟨r6, h7, h⟩ := ob_some h
  refine lp_sound (P := fun (s : (Int32 × Int32)) => pm_X gs ro M_X10_wouldOf 3 0 0 0 0 6 [some (.ref (b + 0)), some (.int x1), some (.int x2), some (.int x3), some (.int s.1), some (.int s.2)] [] n w (pm_p n w (some (.int z)))) (E := (fun (r : Int32) => pm_X gs ro M_X10_wouldOf 3 0 0 0 0 38 [none, none, none, none, some (.int r), none] [] n w (pm_p n w (some (.int z))))) (fun s x hx hc he => k_X10_wouldOf_l6 hR hx hc (fun r q => he r q)) F _ r6 h7 ?_
  refine pm_iload dX10_wouldOf_38 rfl ?_
  cases h
  exact pm_iret dX10_wouldOf_40 rfl (Nat.le_refl _) (Nat.le_refl _) ⟨rfl, rfl, rfl⟩
def g_X10_would (F : Nat) (x1 : Int32) (x2 : Int32) (x3 : Int32) (u : rg_U) : Option Int32 :=
  if (g_X10_isSpacing x1 x2) = 0 then (some (-1)) else (if (g_X10_isIn x3 0 3000) = 0 then (some (-1)) else (ob (g_X10_wouldOf F x1 x2 x3 u) (fun r3 => some r3)))
set_option maxHeartbeats 4000000 in
set_option maxRecDepth 100000 in
theorem k_X10_would {gs : List String} {ro : pm_RO} {n : Nat} {w : Nat → va_E} {b : Nat} {u : rg_U} {F : Nat} {x1 : Int32} {x2 : Int32} {x3 : Int32} {z : Int32} (hR : rg shM b u n w) (h : g_X10_would F x1 x2 x3 u = some z) : pm_Met gs ro M_X10_would 4 0 0 [.ref (b + 0), .int x1, .int x2, .int x3] n w (pm_p n w (some (.int z))) := by
  unfold g_X10_would at h
  refine pm_ofX in_X10_would (Nat.le_of_ble_eq_true rfl) rfl (L := [some (.ref (b + 0)), some (.int x1), some (.int x2), some (.int x3)]) rfl ?_
  refine pm_iload_n dX10_would_0 rfl ?_
  refine pm_iload_n dX10_would_1 rfl ?_
  refine dx_cSp (M := M_X10_would) (Mc := M_X10_isSpacing) (dc := 1) (As := [.int x1, .int x2]) (st := []) dX10_would_2 ml_X10_150 (by decide) (Nat.le_of_ble_eq_true rfl) rfl (k_X10_isSpacing rfl) ?_
  refine pm_if_eq (tgt := 29) dX10_would_5 (by decide) (fun c1 => ?_) (fun c1 => ?_)
  · replace h := it_t c1 h
    refine pm_iconst (v := (-1)) dX10_would_29 (by decide) ?_
    cases h
    exact pm_iret dX10_would_30 rfl (Nat.le_refl _) (Nat.le_refl _) ⟨rfl, rfl, rfl⟩
  · replace h := it_f c1 h
    refine pm_iload_n dX10_would_8 rfl ?_
    refine pm_iconst (v := 0) dX10_would_9 (by decide) ?_
    refine pm_sipush (v := 3000) dX10_would_10 (by decide) ?_
    refine dx_cSp (M := M_X10_would) (Mc := M_X10_isIn) (dc := 0) (As := [.int x3, .int 0, .int 3000]) (st := []) dX10_would_13 ml_X10_138 (by decide) (Nat.le_of_ble_eq_true rfl) rfl (k_X10_isIn rfl) ?_
    refine pm_if_eq (tgt := 29) dX10_would_16 (by decide) (fun c2 => ?_) (fun c2 => ?_)
    · replace h := it_t c2 h
      refine pm_iconst (v := (-1)) dX10_would_29 (by decide) ?_
      cases h
      exact pm_iret dX10_would_30 rfl (Nat.le_refl _) (Nat.le_refl _) ⟨rfl, rfl, rfl⟩
    · replace h := it_f c2 h
      refine pm_aload_n dX10_would_19 rfl ?_
      refine pm_iload_n dX10_would_20 rfl ?_
      refine pm_iload_n dX10_would_21 rfl ?_
      refine pm_iload_n dX10_would_22 rfl ?_
      obtain ⟨r3, h4, h⟩ := ob_some h
      refine dx_cVp (j := 0) (M := M_X10_would) (Mc := M_X10_wouldOf) (dc := 3) (As := [.int x1, .int x2, .int x3]) (st := []) hR dX10_would_23 ml_X10_339 ⟨TX10, 55, rfl⟩ rfl (by decide) (Nat.le_of_ble_eq_true rfl) rfl (k_X10_wouldOf hR h4) ?_
      refine pm_goto (tgt := 30) dX10_would_26 (by decide) ?_
      cases h
      exact pm_iret dX10_would_30 rfl (Nat.le_refl _) (Nat.le_refl _) ⟨rfl, rfl, rfl⟩
def g_X10_gap_j62 (F : Nat) (l1 : Int32) (l2 : Int32) (l3 : Int32) (l4 : Int32) (l5 : Int32) (l6 : Int32) (u : rg_U) : Option ((Int32 × Int32 × Int32) ⊕ Int32) :=
  some (.inl ((imax l4 (l6 - l5)), l5, (l6 + 1)))
set_option maxHeartbeats 4000000 in
set_option maxRecDepth 100000 in
theorem k_X10_gap_j62 {gs : List String} {ro : pm_RO} {n : Nat} {w : Nat → va_E} {b : Nat} {u : rg_U} {F : Nat} {l1 : Int32} {l2 : Int32} {l3 : Int32} {l4 : Int32} {l5 : Int32} {l6 : Int32} {z : ((Int32 × Int32 × Int32) ⊕ Int32)} {Q : Option Value → Nat → (Nat → va_E) → Prop} (hR : rg shM b u n w) (h : g_X10_gap_j62 F l1 l2 l3 l4 l5 l6 u = some z) (hc : ∀ s', z = .inl s' → pm_X gs ro M_X10_gap 3 0 0 0 0 30 [some (.ref (b + 0)), some (.int l1), some (.int l2), some (.int l3), some (.int s'.1), some (.int s'.2.1), some (.int s'.2.2)] [] n w Q) (he0 : ∀ r', z = .inr r' → pm_X gs ro M_X10_gap 3 0 0 0 0 80 [none, none, none, none, some (.int r'), none, none] [] n w Q) : pm_X gs ro M_X10_gap 3 0 0 0 0 62 [some (.ref (b + 0)), some (.int l1), some (.int l2), some (.int l3), some (.int l4), some (.int l5), some (.int l6)] [] n w Q := by
  unfold g_X10_gap_j62 at h
  refine pm_iload dX10_gap_62 rfl ?_
  refine pm_iload dX10_gap_64 rfl ?_
  refine pm_iload dX10_gap_66 rfl ?_
  refine pm_isub dX10_gap_68 ?_
  refine pm_mmax (M := M_X10_gap) dX10_gap_69 mm_X10_235 mm_max_2 mm_init mm_max_4 (by decide) (Nat.le_refl _) (Nat.le_refl _) (Nat.le_of_ble_eq_true rfl) ?_
  refine pm_istore dX10_gap_72 (by decide) rfl rfl ?_
  refine pm_iinc (v := (l6 + 1)) dX10_gap_74 rfl rfl (by decide) rfl rfl ?_
  refine pm_goto (tgt := 30) dX10_gap_77 (by decide) ?_
  refine pm_lw (L' := [some (.ref (b + 0)), some (.int l1), some (.int l2), some (.int l3), some (.int (imax l4 (l6 - l5))), some (.int l5), some (.int (l6 + 1))]) ⟨Or.inr rfl, Or.inr rfl, Or.inr rfl, Or.inr rfl, Or.inr rfl, Or.inr rfl, Or.inr rfl, trivial⟩ ?_
  exact hc _ (Option.some.inj h).symm
def g_X10_gap_l30 (F : Nat) (l1 : Int32) (l2 : Int32) (l3 : Int32) (u : rg_U) (l4 : Int32) (l5 : Int32) (l6 : Int32) : Option ((Int32 × Int32 × Int32) ⊕ Int32) :=
  if l3 < l6 then (some (.inr l4)) else (ck (¬ l1 = 0) (if (dx_rem l6 l1) = 0 then (ck (¬ l1 = 0) (ck (¬ l1 = 0) (ob (g_X10_wouldBe F (l6 / l1) (l3 / l1) l2 u) (fun r8 => if r8 = 0 then (g_X10_gap_j62 F l1 l2 l3 l4 l5 l6 u) else (g_X10_gap_j62 F l1 l2 l3 l4 l6 l6 u))))) else (g_X10_gap_j62 F l1 l2 l3 l4 l5 l6 u)))
set_option maxHeartbeats 4000000 in
set_option maxRecDepth 100000 in
theorem k_X10_gap_l30 {gs : List String} {ro : pm_RO} {n : Nat} {w : Nat → va_E} {b : Nat} {u : rg_U} {F : Nat} {l1 : Int32} {l2 : Int32} {l3 : Int32} {l4 : Int32} {l5 : Int32} {l6 : Int32} {z : (Int32 × Int32 × Int32) ⊕ Int32} {Q : Option Value → Nat → (Nat → va_E) → Prop} (hR : rg shM b u n w) (h : g_X10_gap_l30 F l1 l2 l3 u l4 l5 l6 = some z) (hc : ∀ s', z = .inl s' → pm_X gs ro M_X10_gap 3 0 0 0 0 30 [some (.ref (b + 0)), some (.int l1), some (.int l2), some (.int l3), some (.int s'.1), some (.int s'.2.1), some (.int s'.2.2)] [] n w Q) (he0 : ∀ r', z = .inr r' → pm_X gs ro M_X10_gap 3 0 0 0 0 80 [none, none, none, none, some (.int r'), none, none] [] n w Q) : pm_X gs ro M_X10_gap 3 0 0 0 0 30 [some (.ref (b + 0)), some (.int l1), some (.int l2), some (.int l3), some (.int l4), some (.int l5), some (.int l6)] [] n w Q := by
  unfold g_X10_gap_l30 at h
  refine pm_iload dX10_gap_30 rfl ?_
  refine pm_iload_n dX10_gap_32 rfl ?_
  refine pm_icmp_gt (tgt := 80) dX10_gap_33 (by decide) (fun c3 => ?_) (fun c3 => ?_)
  · replace h := it_t c3 h
    refine pm_lw (L' := [none, none, none, none, some (.int l4), none, none]) ⟨Or.inl rfl, Or.inl rfl, Or.inl rfl, Or.inl rfl, Or.inr rfl, Or.inl rfl, Or.inl rfl, trivial⟩ ?_
    exact he0 _ (Option.some.inj h).symm
  · replace h := it_f c3 h
    refine pm_iload dX10_gap_36 rfl ?_
    refine pm_iload_n dX10_gap_38 rfl ?_
    obtain ⟨c4, h⟩ := ck_some h
    refine pm_irem dX10_gap_39 c4 ?_
    refine pm_if_ne (tgt := 62) dX10_gap_40 (by decide) (fun c5 => ?_) (fun c5 => ?_)
    · replace h := it_f c5 h
      exact k_X10_gap_j62 hR h hc he0
    · replace h := it_t c5 h
      refine pm_aload_n dX10_gap_43 rfl ?_
      refine pm_iload dX10_gap_44 rfl ?_
      refine pm_iload_n dX10_gap_46 rfl ?_
      obtain ⟨c6, h⟩ := ck_some h
      refine pm_idiv dX10_gap_47 c6 ?_
      refine pm_iload_n dX10_gap_48 rfl ?_
      refine pm_iload_n dX10_gap_49 rfl ?_
      obtain ⟨c7, h⟩ := ck_some h
      refine pm_idiv dX10_gap_50 c7 ?_
      refine pm_iload_n dX10_gap_51 rfl ?_
      obtain ⟨r8, h9, h⟩ := ob_some h
      refine dx_cVp (j := 0) (M := M_X10_gap) (Mc := M_X10_wouldBe) (dc := 2) (As := [.int (l6 / l1), .int (l3 / l1), .int l2]) (st := []) hR dX10_gap_52 ml_X10_336 ⟨TX10, 55, rfl⟩ rfl (by decide) (Nat.le_of_ble_eq_true rfl) rfl (k_X10_wouldBe hR h9) ?_
      refine pm_if_eq (tgt := 62) dX10_gap_55 (by decide) (fun c10 => ?_) (fun c10 => ?_)
      · replace h := it_t c10 h
        exact k_X10_gap_j62 hR h hc he0
      · replace h := it_f c10 h
        refine pm_iload dX10_gap_58 rfl ?_
        refine pm_istore dX10_gap_60 (by decide) rfl rfl ?_
        exact k_X10_gap_j62 hR h hc he0
def g_X10_gap (F : Nat) (x1 : Int32) (x2 : Int32) (x3 : Int32) (u : rg_U) : Option Int32 :=
  if (g_X10_isSpacing x1 x2) = 0 then (some (-1)) else (if (g_X10_isIn x3 0 3000) = 0 then (some (-1)) else (ob (lp (fun (s : (Int32 × Int32 × Int32)) => g_X10_gap_l30 F x1 x2 x3 u s.1 s.2.1 s.2.2) F ((0 : Int32), (0 : Int32), (0 : Int32))) (fun r11 => some r11)))
set_option maxHeartbeats 4000000 in
set_option maxRecDepth 100000 in
theorem k_X10_gap {gs : List String} {ro : pm_RO} {n : Nat} {w : Nat → va_E} {b : Nat} {u : rg_U} {F : Nat} {x1 : Int32} {x2 : Int32} {x3 : Int32} {z : Int32} (hR : rg shM b u n w) (h : g_X10_gap F x1 x2 x3 u = some z) : pm_Met gs ro M_X10_gap 3 0 0 [.ref (b + 0), .int x1, .int x2, .int x3] n w (pm_p n w (some (.int z))) := by
  unfold g_X10_gap at h
  refine pm_ofX in_X10_gap (Nat.le_of_ble_eq_true rfl) rfl (L := [some (.ref (b + 0)), some (.int x1), some (.int x2), some (.int x3), none, none, none]) rfl ?_
  refine pm_iload_n dX10_gap_0 rfl ?_
  refine pm_iload_n dX10_gap_1 rfl ?_
  refine dx_cSp (M := M_X10_gap) (Mc := M_X10_isSpacing) (dc := 1) (As := [.int x1, .int x2]) (st := []) dX10_gap_2 ml_X10_150 (by decide) (Nat.le_of_ble_eq_true rfl) rfl (k_X10_isSpacing rfl) ?_
  refine pm_if_eq (tgt := 19) dX10_gap_5 (by decide) (fun c1 => ?_) (fun c1 => ?_)
  · replace h := it_t c1 h
    refine pm_iconst (v := (-1)) dX10_gap_19 (by decide) ?_
    cases h
    exact pm_iret dX10_gap_20 rfl (Nat.le_refl _) (Nat.le_refl _) ⟨rfl, rfl, rfl⟩
  · replace h := it_f c1 h
    refine pm_iload_n dX10_gap_8 rfl ?_
    refine pm_iconst (v := 0) dX10_gap_9 (by decide) ?_
    refine pm_sipush (v := 3000) dX10_gap_10 (by decide) ?_
    refine dx_cSp (M := M_X10_gap) (Mc := M_X10_isIn) (dc := 0) (As := [.int x3, .int 0, .int 3000]) (st := []) dX10_gap_13 ml_X10_138 (by decide) (Nat.le_of_ble_eq_true rfl) rfl (k_X10_isIn rfl) ?_
    refine pm_if_ne (tgt := 21) dX10_gap_16 (by decide) (fun c2 => ?_) (fun c2 => ?_)
    · replace h := it_f c2 h
      refine pm_iconst (v := 0) dX10_gap_21 (by decide) ?_
      refine pm_istore dX10_gap_22 (by decide) rfl rfl ?_
      refine pm_iconst (v := 0) dX10_gap_24 (by decide) ?_
      refine pm_istore dX10_gap_25 (by decide) rfl rfl ?_
      refine pm_iconst (v := 0) dX10_gap_27 (by decide) ?_
      refine pm_istore dX10_gap_28 (by decide) rfl rfl ?_
      obtain ⟨r11, h12, h⟩ := ob_some h
      refine lp_sound (P := fun (s : (Int32 × Int32 × Int32)) => pm_X gs ro M_X10_gap 3 0 0 0 0 30 [some (.ref (b + 0)), some (.int x1), some (.int x2), some (.int x3), some (.int s.1), some (.int s.2.1), some (.int s.2.2)] [] n w (pm_p n w (some (.int z)))) (E := (fun (r : Int32) => pm_X gs ro M_X10_gap 3 0 0 0 0 80 [none, none, none, none, some (.int r), none, none] [] n w (pm_p n w (some (.int z))))) (fun s x hx hc he => k_X10_gap_l30 hR hx hc (fun r q => he r q)) F _ r11 h12 ?_
      refine pm_iload dX10_gap_80 rfl ?_
      cases h
      exact pm_iret dX10_gap_82 rfl (Nat.le_refl _) (Nat.le_refl _) ⟨rfl, rfl, rfl⟩
    · replace h := it_t c2 h
      refine pm_iconst (v := (-1)) dX10_gap_19 (by decide) ?_
      cases h
      exact pm_iret dX10_gap_20 rfl (Nat.le_refl _) (Nat.le_refl _) ⟨rfl, rfl, rfl⟩
def g_X10_sparing_l26 (F : Nat) (l1 : Int32) (l2 : Int32) (l3 : Int32) (u : rg_U) (l4 : Int32) : Option (Int32 ⊕ (Int32 ⊕ Unit)) :=
  if 64 < l4 then (some (.inr (Sum.inr ()))) else (ob (g_X10_wouldOf F l4 l1 l2 u) (fun r4 => if l3 < r4 then (some (.inl (l4 + 1))) else (some (.inr (Sum.inl l4)))))
set_option maxHeartbeats 4000000 in
set_option maxRecDepth 100000 in
theorem k_X10_sparing_l26 {gs : List String} {ro : pm_RO} {n : Nat} {w : Nat → va_E} {b : Nat} {u : rg_U} {F : Nat} {l1 : Int32} {l2 : Int32} {l3 : Int32} {l4 : Int32} {z : Int32 ⊕ (Int32 ⊕ Unit)} {Q : Option Value → Nat → (Nat → va_E) → Prop} (hR : rg shM b u n w) (h : g_X10_sparing_l26 F l1 l2 l3 u l4 = some z) (hc : ∀ s', z = .inl s' → pm_X gs ro M_X10_sparing 4 0 0 0 0 26 [some (.ref (b + 0)), some (.int l1), some (.int l2), some (.int l3), some (.int s')] [] n w Q) (he0 : ∀ r', z = .inr (Sum.inl r') → pm_X gs ro M_X10_sparing 4 0 0 0 0 45 [none, none, none, none, some (.int r')] [] n w Q) (he1 : ∀ r', z = .inr (Sum.inr r') → pm_X gs ro M_X10_sparing 4 0 0 0 0 54 [none, none, none, none, none] [] n w Q) : pm_X gs ro M_X10_sparing 4 0 0 0 0 26 [some (.ref (b + 0)), some (.int l1), some (.int l2), some (.int l3), some (.int l4)] [] n w Q := by
  unfold g_X10_sparing_l26 at h
  refine pm_iload dX10_sparing_26 rfl ?_
  refine pm_bipush (v := 64) dX10_sparing_28 (by decide) ?_
  refine pm_icmp_gt (tgt := 54) dX10_sparing_30 (by decide) (fun c3 => ?_) (fun c3 => ?_)
  · replace h := it_t c3 h
    refine pm_lw (L' := [none, none, none, none, none]) ⟨Or.inl rfl, Or.inl rfl, Or.inl rfl, Or.inl rfl, Or.inl rfl, trivial⟩ ?_
    exact he1 _ (Option.some.inj h).symm
  · replace h := it_f c3 h
    refine pm_aload_n dX10_sparing_33 rfl ?_
    refine pm_iload dX10_sparing_34 rfl ?_
    refine pm_iload_n dX10_sparing_36 rfl ?_
    refine pm_iload_n dX10_sparing_37 rfl ?_
    obtain ⟨r4, h5, h⟩ := ob_some h
    refine dx_cVp (j := 0) (M := M_X10_sparing) (Mc := M_X10_wouldOf) (dc := 3) (As := [.int l4, .int l1, .int l2]) (st := []) hR dX10_sparing_38 ml_X10_339 ⟨TX10, 55, rfl⟩ rfl (by decide) (Nat.le_of_ble_eq_true rfl) rfl (k_X10_wouldOf hR h5) ?_
    refine pm_iload_n dX10_sparing_41 rfl ?_
    refine pm_icmp_gt (tgt := 48) dX10_sparing_42 (by decide) (fun c6 => ?_) (fun c6 => ?_)
    · replace h := it_t c6 h
      refine pm_iinc (v := (l4 + 1)) dX10_sparing_48 rfl rfl (by decide) rfl rfl ?_
      refine pm_goto (tgt := 26) dX10_sparing_51 (by decide) ?_
      refine pm_lw (L' := [some (.ref (b + 0)), some (.int l1), some (.int l2), some (.int l3), some (.int (l4 + 1))]) ⟨Or.inr rfl, Or.inr rfl, Or.inr rfl, Or.inr rfl, Or.inr rfl, trivial⟩ ?_
      exact hc _ (Option.some.inj h).symm
    · replace h := it_f c6 h
      refine pm_lw (L' := [none, none, none, none, some (.int l4)]) ⟨Or.inl rfl, Or.inl rfl, Or.inl rfl, Or.inl rfl, Or.inr rfl, trivial⟩ ?_
      exact he0 _ (Option.some.inj h).symm
def g_X10_sparing (F : Nat) (x1 : Int32) (x2 : Int32) (x3 : Int32) (u : rg_U) : Option Int32 :=
  if (g_X10_isIn x1 1 8) = 0 then (some (-1)) else (if (g_X10_isIn x2 0 3000) = 0 then (some (-1)) else (ob (lp (fun (s : Int32) => g_X10_sparing_l26 F x1 x2 x3 u s) F (1 : Int32)) (fun r7 => os r7 (fun r9 => some r9) (fun r10 => some (-1)))))
set_option maxHeartbeats 4000000 in
set_option maxRecDepth 100000 in
theorem k_X10_sparing {gs : List String} {ro : pm_RO} {n : Nat} {w : Nat → va_E} {b : Nat} {u : rg_U} {F : Nat} {x1 : Int32} {x2 : Int32} {x3 : Int32} {z : Int32} (hR : rg shM b u n w) (h : g_X10_sparing F x1 x2 x3 u = some z) : pm_Met gs ro M_X10_sparing 4 0 0 [.ref (b + 0), .int x1, .int x2, .int x3] n w (pm_p n w (some (.int z))) := by
  unfold g_X10_sparing at h
  refine pm_ofX in_X10_sparing (Nat.le_of_ble_eq_true rfl) rfl (L := [some (.ref (b + 0)), some (.int x1), some (.int x2), some (.int x3), none]) rfl ?_
  refine pm_iload_n dX10_sparing_0 rfl ?_
  refine pm_iconst (v := 1) dX10_sparing_1 (by decide) ?_
  refine pm_bipush (v := 8) dX10_sparing_2 (by decide) ?_
  refine dx_cSp (M := M_X10_sparing) (Mc := M_X10_isIn) (dc := 0) (As := [.int x1, .int 1, .int 8]) (st := []) dX10_sparing_4 ml_X10_138 (by decide) (Nat.le_of_ble_eq_true rfl) rfl (k_X10_isIn rfl) ?_
  refine pm_if_eq (tgt := 21) dX10_sparing_7 (by decide) (fun c1 => ?_) (fun c1 => ?_)
  · replace h := it_t c1 h
    refine pm_iconst (v := (-1)) dX10_sparing_21 (by decide) ?_
    cases h
    exact pm_iret dX10_sparing_22 rfl (Nat.le_refl _) (Nat.le_refl _) ⟨rfl, rfl, rfl⟩
  · replace h := it_f c1 h
    refine pm_iload_n dX10_sparing_10 rfl ?_
    refine pm_iconst (v := 0) dX10_sparing_11 (by decide) ?_
    refine pm_sipush (v := 3000) dX10_sparing_12 (by decide) ?_
    refine dx_cSp (M := M_X10_sparing) (Mc := M_X10_isIn) (dc := 0) (As := [.int x2, .int 0, .int 3000]) (st := []) dX10_sparing_15 ml_X10_138 (by decide) (Nat.le_of_ble_eq_true rfl) rfl (k_X10_isIn rfl) ?_
    refine pm_if_ne (tgt := 23) dX10_sparing_18 (by decide) (fun c2 => ?_) (fun c2 => ?_)
    · replace h := it_f c2 h
      refine pm_iconst (v := 1) dX10_sparing_23 (by decide) ?_
      refine pm_istore dX10_sparing_24 (by decide) rfl rfl ?_
      obtain ⟨r7, h8, h⟩ := ob_some h
      refine lp_sound (P := fun (s : Int32) => pm_X gs ro M_X10_sparing 4 0 0 0 0 26 [some (.ref (b + 0)), some (.int x1), some (.int x2), some (.int x3), some (.int s)] [] n w (pm_p n w (some (.int z)))) (E := (Sum.elim (fun (r : Int32) => pm_X gs ro M_X10_sparing 4 0 0 0 0 45 [none, none, none, none, some (.int r)] [] n w (pm_p n w (some (.int z)))) (fun (r : Unit) => pm_X gs ro M_X10_sparing 4 0 0 0 0 54 [none, none, none, none, none] [] n w (pm_p n w (some (.int z)))))) (fun s x hx hc he => k_X10_sparing_l26 hR hx hc (fun r q => he (Sum.inl r) q) (fun r q => he (Sum.inr r) q)) F _ r7 h8 ?_
      cases r7 with
      | inl r9 =>
        replace h := os_l h
        refine pm_iload dX10_sparing_45 rfl ?_
        cases h
        exact pm_iret dX10_sparing_47 rfl (Nat.le_refl _) (Nat.le_refl _) ⟨rfl, rfl, rfl⟩
      | inr r10 =>
        replace h := os_r h
        refine pm_iconst (v := (-1)) dX10_sparing_54 (by decide) ?_
        cases h
        exact pm_iret dX10_sparing_55 rfl (Nat.le_refl _) (Nat.le_refl _) ⟨rfl, rfl, rfl⟩
    · replace h := it_t c2 h
      refine pm_iconst (v := (-1)) dX10_sparing_21 (by decide) ?_
      cases h
      exact pm_iret dX10_sparing_22 rfl (Nat.le_refl _) (Nat.le_refl _) ⟨rfl, rfl, rfl⟩
def g_X10_isThere (F : Nat) (x1 : Int32) (u : rg_U) : Option Int32 :=
  if x1 = (-1) then (ck (inb 4 5) (ck ((rA u 5 4) = 0 ∨ (rA u 5 4) = 1) (some (rA u 5 4)))) else (ck ((g_X10_isIn x1 0 ((rF u 0 29) - 1)) = 0 ∨ (g_X10_isIn x1 0 ((rF u 0 29) - 1)) = 1) (some (g_X10_isIn x1 0 ((rF u 0 29) - 1))))
set_option maxHeartbeats 4000000 in
set_option maxRecDepth 100000 in
theorem k_X10_isThere {gs : List String} {ro : pm_RO} {n : Nat} {w : Nat → va_E} {b : Nat} {u : rg_U} {F : Nat} {x1 : Int32} {z : Int32} (hR : rg shM b u n w) (h : g_X10_isThere F x1 u = some z) : pm_Met gs ro M_X10_isThere 1 0 0 [.ref (b + 0), .int x1] n w (pm_p n w (some (.int z))) := by
  unfold g_X10_isThere at h
  refine pm_ofX in_X10_isThere (Nat.le_of_ble_eq_true rfl) rfl (L := [some (.ref (b + 0)), some (.int x1)]) rfl ?_
  refine pm_iload_n dX10_isThere_0 rfl ?_
  refine pm_iconst (v := (-1)) dX10_isThere_1 (by decide) ?_
  refine pm_icmp_ne (tgt := 14) dX10_isThere_2 (by decide) (fun c1 => ?_) (fun c1 => ?_)
  · replace h := it_f c1 h
    refine pm_iload_n dX10_isThere_14 rfl ?_
    refine pm_iconst (v := 0) dX10_isThere_15 (by decide) ?_
    refine pm_aload_n dX10_isThere_16 rfl ?_
    refine dx_gi (j := 0) hR dX10_isThere_17 fl_X10_295 rfl rfl ?_
    refine pm_iconst (v := 1) dX10_isThere_20 (by decide) ?_
    refine pm_isub dX10_isThere_21 ?_
    refine dx_cSp (M := M_X10_isThere) (Mc := M_X10_isIn) (dc := 0) (As := [.int x1, .int 0, .int ((rF u 0 29) - 1)]) (st := []) dX10_isThere_22 ml_X10_138 (by decide) (Nat.le_of_ble_eq_true rfl) rfl (k_X10_isIn rfl) ?_
    obtain ⟨c2, h⟩ := ck_some h
    cases h
    exact pm_zret dX10_isThere_25 rfl c2 (Nat.le_refl _) (Nat.le_refl _) ⟨rfl, rfl, rfl⟩
  · replace h := it_t c1 h
    refine pm_aload_n dX10_isThere_5 rfl ?_
    refine dx_gr (j := 0) (o := 5) hR dX10_isThere_6 fl_X10_29 rfl rfl ?_
    refine pm_iconst (v := 4) dX10_isThere_9 (by decide) ?_
    obtain ⟨c3, h⟩ := ck_some h
    refine dx_zl (j := 5) hR dX10_isThere_10 rfl (vp_in_iff.mpr c3) ?_
    refine pm_goto (tgt := 25) dX10_isThere_11 (by decide) ?_
    obtain ⟨c4, h⟩ := ck_some h
    cases h
    exact pm_zret dX10_isThere_25 rfl c4 (Nat.le_refl _) (Nat.le_refl _) ⟨rfl, rfl, rfl⟩
def g_X10_areLike (F : Nat) (x1 : Int32) (x2 : Int32) (u : rg_U) : Option Int32 :=
  ck (inb ((100 * (rF u 0 47)) + x1) 500) (ck (inb ((100 * (rF u 0 48)) + x2) 500) (if (rA u 17 ((100 * (rF u 0 47)) + x1)) = (rA u 17 ((100 * (rF u 0 48)) + x2)) then (ck (inb ((100 * (rF u 0 47)) + x1) 500) (ck (inb ((100 * (rF u 0 48)) + x2) 500) (if (rA u 18 ((100 * (rF u 0 47)) + x1)) = (rA u 18 ((100 * (rF u 0 48)) + x2)) then (some 1) else (some 0)))) else (some 0)))
set_option maxHeartbeats 4000000 in
set_option maxRecDepth 100000 in
theorem k_X10_areLike {gs : List String} {ro : pm_RO} {n : Nat} {w : Nat → va_E} {b : Nat} {u : rg_U} {F : Nat} {x1 : Int32} {x2 : Int32} {z : Int32} (hR : rg shM b u n w) (h : g_X10_areLike F x1 x2 u = some z) : pm_Met gs ro M_X10_areLike 0 0 0 [.ref (b + 0), .int x1, .int x2] n w (pm_p n w (some (.int z))) := by
  unfold g_X10_areLike at h
  refine pm_ofX in_X10_areLike (Nat.le_of_ble_eq_true rfl) rfl (L := [some (.ref (b + 0)), some (.int x1), some (.int x2), none, none]) rfl ?_
  refine pm_bipush (v := 100) dX10_areLike_0 (by decide) ?_
  refine pm_aload_n dX10_areLike_2 rfl ?_
  refine dx_gi (j := 0) hR dX10_areLike_3 fl_X10_343 rfl rfl ?_
  refine pm_imul dX10_areLike_6 ?_
  refine pm_iload_n dX10_areLike_7 rfl ?_
  refine pm_iadd dX10_areLike_8 ?_
  refine pm_istore_n dX10_areLike_9 (by decide) rfl rfl ?_
  refine pm_bipush (v := 100) dX10_areLike_10 (by decide) ?_
  refine pm_aload_n dX10_areLike_12 rfl ?_
  refine dx_gi (j := 0) hR dX10_areLike_13 fl_X10_346 rfl rfl ?_
  refine pm_imul dX10_areLike_16 ?_
  refine pm_iload_n dX10_areLike_17 rfl ?_
  refine pm_iadd dX10_areLike_18 ?_
  refine pm_istore dX10_areLike_19 (by decide) rfl rfl ?_
  refine pm_aload_n dX10_areLike_21 rfl ?_
  refine dx_gr (j := 0) (o := 17) hR dX10_areLike_22 fl_X10_66 rfl rfl ?_
  refine pm_iload_n dX10_areLike_25 rfl ?_
  obtain ⟨c1, h⟩ := ck_some h
  refine dx_al (j := 17) hR dX10_areLike_26 rfl (vp_in_iff.mpr c1) ?_
  refine pm_aload_n dX10_areLike_27 rfl ?_
  refine dx_gr (j := 0) (o := 17) hR dX10_areLike_28 fl_X10_66 rfl rfl ?_
  refine pm_iload dX10_areLike_31 rfl ?_
  obtain ⟨c2, h⟩ := ck_some h
  refine dx_al (j := 17) hR dX10_areLike_33 rfl (vp_in_iff.mpr c2) ?_
  refine pm_icmp_ne (tgt := 57) dX10_areLike_34 (by decide) (fun c3 => ?_) (fun c3 => ?_)
  · replace h := it_f c3 h
    refine pm_iconst (v := 0) dX10_areLike_57 (by decide) ?_
    cases h
    exact pm_zret dX10_areLike_58 rfl (Or.inl rfl) (Nat.le_refl _) (Nat.le_refl _) ⟨rfl, rfl, rfl⟩
  · replace h := it_t c3 h
    refine pm_aload_n dX10_areLike_37 rfl ?_
    refine dx_gr (j := 0) (o := 18) hR dX10_areLike_38 fl_X10_69 rfl rfl ?_
    refine pm_iload_n dX10_areLike_41 rfl ?_
    obtain ⟨c4, h⟩ := ck_some h
    refine dx_al (j := 18) hR dX10_areLike_42 rfl (vp_in_iff.mpr c4) ?_
    refine pm_aload_n dX10_areLike_43 rfl ?_
    refine dx_gr (j := 0) (o := 18) hR dX10_areLike_44 fl_X10_69 rfl rfl ?_
    refine pm_iload dX10_areLike_47 rfl ?_
    obtain ⟨c5, h⟩ := ck_some h
    refine dx_al (j := 18) hR dX10_areLike_49 rfl (vp_in_iff.mpr c5) ?_
    refine pm_icmp_ne (tgt := 57) dX10_areLike_50 (by decide) (fun c6 => ?_) (fun c6 => ?_)
    · replace h := it_f c6 h
      refine pm_iconst (v := 0) dX10_areLike_57 (by decide) ?_
      cases h
      exact pm_zret dX10_areLike_58 rfl (Or.inl rfl) (Nat.le_refl _) (Nat.le_refl _) ⟨rfl, rfl, rfl⟩
    · replace h := it_t c6 h
      refine pm_iconst (v := 1) dX10_areLike_53 (by decide) ?_
      refine pm_goto (tgt := 58) dX10_areLike_54 (by decide) ?_
      cases h
      exact pm_zret dX10_areLike_58 rfl (Or.inr rfl) (Nat.le_refl _) (Nat.le_refl _) ⟨rfl, rfl, rfl⟩
def g_X10_laysPairs_j171 (F : Nat) (l3 : Int32) (l4 : Int32) (l5 : Int32) (l6 : Int32) (l7 : Int32) (u : rg_U) : Option ((Int32 × rg_U) ⊕ rg_U) :=
  ck (inb ((101 * l5) + l6) 10201) (lt1 (sA u 35 ((101 * l5) + l6) l7) (fun u21 => some (.inl ((l6 + (-1)), u21))))
set_option maxHeartbeats 4000000 in
set_option maxRecDepth 100000 in
theorem k_X10_laysPairs_j171 {gs : List String} {ro : pm_RO} {n : Nat} {w w1 : Nat → va_E} {b : Nat} {u : rg_U} {F : Nat} {l3 : Int32} {l4 : Int32} {l5 : Int32} {l6 : Int32} {l7 : Int32} {z : ((Int32 × rg_U) ⊕ rg_U)} {Q : Option Value → Nat → (Nat → va_E) → Prop} (hR : rg shM b u n w1) (hk : rg_k b shM.length w w1) (h : g_X10_laysPairs_j171 F l3 l4 l5 l6 l7 u = some z) (hc : ∀ s', z = .inl s' → ∀ w1, rg shM b s'.2 n w1 → rg_k b shM.length w w1 → pm_X gs ro M_X10_laysPairs 1 0 0 0 0 61 [some (.ref (b + 0)), none, none, some (.int l3), some (.int l4), some (.int l5), some (.int s'.1), none] [] n w1 Q) (he0 : ∀ r', z = .inr r' → ∀ w1, rg shM b r' n w1 → rg_k b shM.length w w1 → pm_X gs ro M_X10_laysPairs 1 0 0 0 0 192 [some (.ref (b + 0)), none, none, some (.int l3), some (.int l4), some (.int l5), none, none] [] n w1 Q) : pm_X gs ro M_X10_laysPairs 1 0 0 0 0 171 [some (.ref (b + 0)), none, none, some (.int l3), some (.int l4), some (.int l5), some (.int l6), some (.int l7)] [] n w1 Q := by
  unfold g_X10_laysPairs_j171 at h
  refine pm_aload_n dX10_laysPairs_171 rfl ?_
  refine dx_gr (j := 0) (o := 35) hR dX10_laysPairs_172 fl_X10_129 rfl rfl ?_
  refine pm_bipush (v := 101) dX10_laysPairs_175 (by decide) ?_
  refine pm_iload dX10_laysPairs_177 rfl ?_
  refine pm_imul dX10_laysPairs_179 ?_
  refine pm_iload dX10_laysPairs_180 rfl ?_
  refine pm_iadd dX10_laysPairs_182 ?_
  refine pm_iload dX10_laysPairs_183 rfl ?_
  obtain ⟨c20, h⟩ := ck_some h
  obtain ⟨u21, hu22, h⟩ := lt1_ex h
  refine dx_as (j := 35) hR hk dX10_laysPairs_185 rfl (vp_in_iff.mpr c20) hu22 (fun w23 hR24 hk25 => ?_)
  refine pm_iinc (v := (l6 + (-1))) dX10_laysPairs_186 rfl rfl (by decide) rfl rfl ?_
  refine pm_goto (tgt := 61) dX10_laysPairs_189 (by decide) ?_
  refine pm_lw (L' := [some (.ref (b + 0)), none, none, some (.int l3), some (.int l4), some (.int l5), some (.int (l6 + (-1))), none]) ⟨Or.inr rfl, Or.inl rfl, Or.inl rfl, Or.inr rfl, Or.inr rfl, Or.inr rfl, Or.inr rfl, Or.inl rfl, trivial⟩ ?_
  exact hc _ (Option.some.inj h).symm _ hR24 hk25
def g_X10_laysPairs_j121 (F : Nat) (l3 : Int32) (l4 : Int32) (l5 : Int32) (l6 : Int32) (l7 : Int32) (u : rg_U) : Option ((Int32 × rg_U) ⊕ rg_U) :=
  if l3 ≤ l5 then (g_X10_laysPairs_j171 F l3 l4 l5 l6 l7 u) else (if l4 ≤ l6 then (g_X10_laysPairs_j171 F l3 l4 l5 l6 l7 u) else (ob (g_X10_areLike F l5 l6 u) (fun r27 => if r27 = 0 then (g_X10_laysPairs_j171 F l3 l4 l5 l6 l7 u) else (ck (inb (((101 * (l5 + 1)) + l6) + 1) 10201) (g_X10_laysPairs_j171 F l3 l4 l5 l6 (imax l7 (1 + (rA u 35 (((101 * (l5 + 1)) + l6) + 1)))) u)))))
set_option maxHeartbeats 4000000 in
set_option maxRecDepth 100000 in
theorem k_X10_laysPairs_j121 {gs : List String} {ro : pm_RO} {n : Nat} {w w1 : Nat → va_E} {b : Nat} {u : rg_U} {F : Nat} {l3 : Int32} {l4 : Int32} {l5 : Int32} {l6 : Int32} {l7 : Int32} {z : ((Int32 × rg_U) ⊕ rg_U)} {Q : Option Value → Nat → (Nat → va_E) → Prop} (hR : rg shM b u n w1) (hk : rg_k b shM.length w w1) (h : g_X10_laysPairs_j121 F l3 l4 l5 l6 l7 u = some z) (hc : ∀ s', z = .inl s' → ∀ w1, rg shM b s'.2 n w1 → rg_k b shM.length w w1 → pm_X gs ro M_X10_laysPairs 1 0 0 0 0 61 [some (.ref (b + 0)), none, none, some (.int l3), some (.int l4), some (.int l5), some (.int s'.1), none] [] n w1 Q) (he0 : ∀ r', z = .inr r' → ∀ w1, rg shM b r' n w1 → rg_k b shM.length w w1 → pm_X gs ro M_X10_laysPairs 1 0 0 0 0 192 [some (.ref (b + 0)), none, none, some (.int l3), some (.int l4), some (.int l5), none, none] [] n w1 Q) : pm_X gs ro M_X10_laysPairs 1 0 0 0 0 121 [some (.ref (b + 0)), none, none, some (.int l3), some (.int l4), some (.int l5), some (.int l6), some (.int l7)] [] n w1 Q := by
  unfold g_X10_laysPairs_j121 at h
  refine pm_iload dX10_laysPairs_121 rfl ?_
  refine pm_iload_n dX10_laysPairs_123 rfl ?_
  refine pm_icmp_ge (tgt := 171) dX10_laysPairs_124 (by decide) (fun c19 => ?_) (fun c19 => ?_)
  · replace h := it_t c19 h
    exact k_X10_laysPairs_j171 hR hk h hc he0
  · replace h := it_f c19 h
    refine pm_iload dX10_laysPairs_127 rfl ?_
    refine pm_iload dX10_laysPairs_129 rfl ?_
    refine pm_icmp_ge (tgt := 171) dX10_laysPairs_131 (by decide) (fun c26 => ?_) (fun c26 => ?_)
    · replace h := it_t c26 h
      exact k_X10_laysPairs_j171 hR hk h hc he0
    · replace h := it_f c26 h
      refine pm_aload_n dX10_laysPairs_134 rfl ?_
      refine pm_iload dX10_laysPairs_135 rfl ?_
      refine pm_iload dX10_laysPairs_137 rfl ?_
      obtain ⟨r27, h28, h⟩ := ob_some h
      refine dx_cVp (j := 0) (M := M_X10_laysPairs) (Mc := M_X10_areLike) (dc := 0) (As := [.int l5, .int l6]) (st := []) hR dX10_laysPairs_139 ml_X10_349 ⟨TX10, 55, rfl⟩ rfl (by decide) (Nat.le_of_ble_eq_true rfl) rfl (k_X10_areLike hR h28) ?_
      refine pm_if_eq (tgt := 171) dX10_laysPairs_142 (by decide) (fun c29 => ?_) (fun c29 => ?_)
      · replace h := it_t c29 h
        exact k_X10_laysPairs_j171 hR hk h hc he0
      · replace h := it_f c29 h
        refine pm_iload dX10_laysPairs_145 rfl ?_
        refine pm_iconst (v := 1) dX10_laysPairs_147 (by decide) ?_
        refine pm_aload_n dX10_laysPairs_148 rfl ?_
        refine dx_gr (j := 0) (o := 35) hR dX10_laysPairs_149 fl_X10_129 rfl rfl ?_
        refine pm_bipush (v := 101) dX10_laysPairs_152 (by decide) ?_
        refine pm_iload dX10_laysPairs_154 rfl ?_
        refine pm_iconst (v := 1) dX10_laysPairs_156 (by decide) ?_
        refine pm_iadd dX10_laysPairs_157 ?_
        refine pm_imul dX10_laysPairs_158 ?_
        refine pm_iload dX10_laysPairs_159 rfl ?_
        refine pm_iadd dX10_laysPairs_161 ?_
        refine pm_iconst (v := 1) dX10_laysPairs_162 (by decide) ?_
        refine pm_iadd dX10_laysPairs_163 ?_
        obtain ⟨c30, h⟩ := ck_some h
        refine dx_al (j := 35) hR dX10_laysPairs_164 rfl (vp_in_iff.mpr c30) ?_
        refine pm_iadd dX10_laysPairs_165 ?_
        refine pm_mmax (M := M_X10_laysPairs) dX10_laysPairs_166 mm_X10_235 mm_max_2 mm_init mm_max_4 (by decide) (Nat.le_refl _) (Nat.le_refl _) (Nat.le_of_ble_eq_true rfl) ?_
        refine pm_istore dX10_laysPairs_169 (by decide) rfl rfl ?_
        exact k_X10_laysPairs_j171 hR hk h hc he0
def g_X10_laysPairs_j92 (F : Nat) (l3 : Int32) (l4 : Int32) (l5 : Int32) (l6 : Int32) (l7 : Int32) (u : rg_U) : Option ((Int32 × rg_U) ⊕ rg_U) :=
  if l4 ≤ l6 then (g_X10_laysPairs_j121 F l3 l4 l5 l6 l7 u) else (ck (inb (((101 * l5) + l6) + 1) 10201) (g_X10_laysPairs_j121 F l3 l4 l5 l6 (imax l7 (rA u 35 (((101 * l5) + l6) + 1))) u))
set_option maxHeartbeats 4000000 in
set_option maxRecDepth 100000 in
theorem k_X10_laysPairs_j92 {gs : List String} {ro : pm_RO} {n : Nat} {w w1 : Nat → va_E} {b : Nat} {u : rg_U} {F : Nat} {l3 : Int32} {l4 : Int32} {l5 : Int32} {l6 : Int32} {l7 : Int32} {z : ((Int32 × rg_U) ⊕ rg_U)} {Q : Option Value → Nat → (Nat → va_E) → Prop} (hR : rg shM b u n w1) (hk : rg_k b shM.length w w1) (h : g_X10_laysPairs_j92 F l3 l4 l5 l6 l7 u = some z) (hc : ∀ s', z = .inl s' → ∀ w1, rg shM b s'.2 n w1 → rg_k b shM.length w w1 → pm_X gs ro M_X10_laysPairs 1 0 0 0 0 61 [some (.ref (b + 0)), none, none, some (.int l3), some (.int l4), some (.int l5), some (.int s'.1), none] [] n w1 Q) (he0 : ∀ r', z = .inr r' → ∀ w1, rg shM b r' n w1 → rg_k b shM.length w w1 → pm_X gs ro M_X10_laysPairs 1 0 0 0 0 192 [some (.ref (b + 0)), none, none, some (.int l3), some (.int l4), some (.int l5), none, none] [] n w1 Q) : pm_X gs ro M_X10_laysPairs 1 0 0 0 0 92 [some (.ref (b + 0)), none, none, some (.int l3), some (.int l4), some (.int l5), some (.int l6), some (.int l7)] [] n w1 Q := by
  unfold g_X10_laysPairs_j92 at h
  refine pm_iload dX10_laysPairs_92 rfl ?_
  refine pm_iload dX10_laysPairs_94 rfl ?_
  refine pm_icmp_ge (tgt := 121) dX10_laysPairs_96 (by decide) (fun c18 => ?_) (fun c18 => ?_)
  · replace h := it_t c18 h
    exact k_X10_laysPairs_j121 hR hk h hc he0
  · replace h := it_f c18 h
    refine pm_iload dX10_laysPairs_99 rfl ?_
    refine pm_aload_n dX10_laysPairs_101 rfl ?_
    refine dx_gr (j := 0) (o := 35) hR dX10_laysPairs_102 fl_X10_129 rfl rfl ?_
    refine pm_bipush (v := 101) dX10_laysPairs_105 (by decide) ?_
    refine pm_iload dX10_laysPairs_107 rfl ?_
    refine pm_imul dX10_laysPairs_109 ?_
    refine pm_iload dX10_laysPairs_110 rfl ?_
    refine pm_iadd dX10_laysPairs_112 ?_
    refine pm_iconst (v := 1) dX10_laysPairs_113 (by decide) ?_
    refine pm_iadd dX10_laysPairs_114 ?_
    obtain ⟨c31, h⟩ := ck_some h
    refine dx_al (j := 35) hR dX10_laysPairs_115 rfl (vp_in_iff.mpr c31) ?_
    refine pm_mmax (M := M_X10_laysPairs) dX10_laysPairs_116 mm_X10_235 mm_max_2 mm_init mm_max_4 (by decide) (Nat.le_refl _) (Nat.le_refl _) (Nat.le_of_ble_eq_true rfl) ?_
    refine pm_istore dX10_laysPairs_119 (by decide) rfl rfl ?_
    exact k_X10_laysPairs_j121 hR hk h hc he0
def g_X10_laysPairs_l61 (F : Nat) (l3 : Int32) (l4 : Int32) (l5 : Int32) (l6 : Int32) (u : rg_U) : Option ((Int32 × rg_U) ⊕ rg_U) :=
  if l6 < 0 then (some (.inr u)) else (if l3 ≤ l5 then (g_X10_laysPairs_j92 F l3 l4 l5 l6 0 u) else (ck (inb ((101 * (l5 + 1)) + l6) 10201) (g_X10_laysPairs_j92 F l3 l4 l5 l6 (rA u 35 ((101 * (l5 + 1)) + l6)) u)))
set_option maxHeartbeats 4000000 in
set_option maxRecDepth 100000 in
theorem k_X10_laysPairs_l61 {gs : List String} {ro : pm_RO} {n : Nat} {w w1 : Nat → va_E} {b : Nat} {u : rg_U} {F : Nat} {l3 : Int32} {l4 : Int32} {l5 : Int32} {l6 : Int32} {z : (Int32 × rg_U) ⊕ rg_U} {Q : Option Value → Nat → (Nat → va_E) → Prop} (hR : rg shM b u n w1) (hk : rg_k b shM.length w w1) (h : g_X10_laysPairs_l61 F l3 l4 l5 l6 u = some z) (hc : ∀ s', z = .inl s' → ∀ w1, rg shM b s'.2 n w1 → rg_k b shM.length w w1 → pm_X gs ro M_X10_laysPairs 1 0 0 0 0 61 [some (.ref (b + 0)), none, none, some (.int l3), some (.int l4), some (.int l5), some (.int s'.1), none] [] n w1 Q) (he0 : ∀ r', z = .inr r' → ∀ w1, rg shM b r' n w1 → rg_k b shM.length w w1 → pm_X gs ro M_X10_laysPairs 1 0 0 0 0 192 [some (.ref (b + 0)), none, none, some (.int l3), some (.int l4), some (.int l5), none, none] [] n w1 Q) : pm_X gs ro M_X10_laysPairs 1 0 0 0 0 61 [some (.ref (b + 0)), none, none, some (.int l3), some (.int l4), some (.int l5), some (.int l6), none] [] n w1 Q := by
  unfold g_X10_laysPairs_l61 at h
  refine pm_iload dX10_laysPairs_61 rfl ?_
  refine pm_if_lt (tgt := 192) dX10_laysPairs_63 (by decide) (fun c16 => ?_) (fun c16 => ?_)
  · replace h := it_t c16 h
    refine pm_lw (L' := [some (.ref (b + 0)), none, none, some (.int l3), some (.int l4), some (.int l5), none, none]) ⟨Or.inr rfl, Or.inl rfl, Or.inl rfl, Or.inr rfl, Or.inr rfl, Or.inr rfl, Or.inl rfl, Or.inl rfl, trivial⟩ ?_
    exact he0 _ (Option.some.inj h).symm _ hR hk
  · replace h := it_f c16 h
    refine pm_iconst (v := 0) dX10_laysPairs_66 (by decide) ?_
    refine pm_istore dX10_laysPairs_67 (by decide) rfl rfl ?_
    refine pm_iload dX10_laysPairs_69 rfl ?_
    refine pm_iload_n dX10_laysPairs_71 rfl ?_
    refine pm_icmp_ge (tgt := 92) dX10_laysPairs_72 (by decide) (fun c17 => ?_) (fun c17 => ?_)
    · replace h := it_t c17 h
      exact k_X10_laysPairs_j92 hR hk h hc he0
    · replace h := it_f c17 h
      refine pm_aload_n dX10_laysPairs_75 rfl ?_
      refine dx_gr (j := 0) (o := 35) hR dX10_laysPairs_76 fl_X10_129 rfl rfl ?_
      refine pm_bipush (v := 101) dX10_laysPairs_79 (by decide) ?_
      refine pm_iload dX10_laysPairs_81 rfl ?_
      refine pm_iconst (v := 1) dX10_laysPairs_83 (by decide) ?_
      refine pm_iadd dX10_laysPairs_84 ?_
      refine pm_imul dX10_laysPairs_85 ?_
      refine pm_iload dX10_laysPairs_86 rfl ?_
      refine pm_iadd dX10_laysPairs_88 ?_
      obtain ⟨c32, h⟩ := ck_some h
      refine dx_al (j := 35) hR dX10_laysPairs_89 rfl (vp_in_iff.mpr c32) ?_
      refine pm_istore dX10_laysPairs_90 (by decide) rfl rfl ?_
      exact k_X10_laysPairs_j92 hR hk h hc he0
def g_X10_laysPairs_l52 (F : Nat) (l3 : Int32) (l4 : Int32) (l5 : Int32) (u : rg_U) : Option ((Int32 × rg_U) ⊕ rg_U) :=
  if l5 < 0 then (some (.inr u)) else (ob (lp (fun (s : (Int32 × rg_U)) => g_X10_laysPairs_l61 F l3 l4 l5 s.1 s.2) F ((l4 : Int32), u)) (fun r33 => some (.inl ((l5 + (-1)), r33))))
set_option maxHeartbeats 4000000 in
set_option maxRecDepth 100000 in
theorem k_X10_laysPairs_l52 {gs : List String} {ro : pm_RO} {n : Nat} {w w1 : Nat → va_E} {b : Nat} {u : rg_U} {F : Nat} {l3 : Int32} {l4 : Int32} {l5 : Int32} {z : (Int32 × rg_U) ⊕ rg_U} {Q : Option Value → Nat → (Nat → va_E) → Prop} (hR : rg shM b u n w1) (hk : rg_k b shM.length w w1) (h : g_X10_laysPairs_l52 F l3 l4 l5 u = some z) (hc : ∀ s', z = .inl s' → ∀ w1, rg shM b s'.2 n w1 → rg_k b shM.length w w1 → pm_X gs ro M_X10_laysPairs 1 0 0 0 0 52 [some (.ref (b + 0)), none, none, some (.int l3), some (.int l4), some (.int s'.1), none, none] [] n w1 Q) (he0 : ∀ r', z = .inr r' → ∀ w1, rg shM b r' n w1 → rg_k b shM.length w w1 → pm_X gs ro M_X10_laysPairs 1 0 0 0 0 198 [none, none, none, none, none, none, none, none] [] n w1 Q) : pm_X gs ro M_X10_laysPairs 1 0 0 0 0 52 [some (.ref (b + 0)), none, none, some (.int l3), some (.int l4), some (.int l5), none, none] [] n w1 Q := by
  unfold g_X10_laysPairs_l52 at h
  refine pm_iload dX10_laysPairs_52 rfl ?_
  refine pm_if_lt (tgt := 198) dX10_laysPairs_54 (by decide) (fun c15 => ?_) (fun c15 => ?_)
  · replace h := it_t c15 h
    refine pm_lw (L' := [none, none, none, none, none, none, none, none]) ⟨Or.inl rfl, Or.inl rfl, Or.inl rfl, Or.inl rfl, Or.inl rfl, Or.inl rfl, Or.inl rfl, Or.inl rfl, trivial⟩ ?_
    exact he0 _ (Option.some.inj h).symm _ hR hk
  · replace h := it_f c15 h
    refine pm_iload dX10_laysPairs_57 rfl ?_
    refine pm_istore dX10_laysPairs_59 (by decide) rfl rfl ?_
    obtain ⟨r33, h34, h⟩ := ob_some h
    refine lp_sound (P := fun (s : (Int32 × rg_U)) => ∀ w1, rg shM b s.2 n w1 → rg_k b shM.length w w1 → pm_X gs ro M_X10_laysPairs 1 0 0 0 0 61 [some (.ref (b + 0)), none, none, some (.int l3), some (.int l4), some (.int l5), some (.int s.1), none] [] n w1 Q) (E := (fun (r : rg_U) => ∀ w1, rg shM b r n w1 → rg_k b shM.length w w1 → pm_X gs ro M_X10_laysPairs 1 0 0 0 0 192 [some (.ref (b + 0)), none, none, some (.int l3), some (.int l4), some (.int l5), none, none] [] n w1 Q)) (fun s x hx hc he w1 hR1 hk1 => k_X10_laysPairs_l61 hR1 hk1 hx hc (fun r q => he r q)) F _ r33 h34 ?_ _ hR hk
    intro w35 hR36 hk37
    refine pm_iinc (v := (l5 + (-1))) dX10_laysPairs_192 rfl rfl (by decide) rfl rfl ?_
    refine pm_goto (tgt := 52) dX10_laysPairs_195 (by decide) ?_
    refine pm_lw (L' := [some (.ref (b + 0)), none, none, some (.int l3), some (.int l4), some (.int (l5 + (-1))), none, none]) ⟨Or.inr rfl, Or.inl rfl, Or.inl rfl, Or.inr rfl, Or.inr rfl, Or.inr rfl, Or.inl rfl, Or.inl rfl, trivial⟩ ?_
    exact hc _ (Option.some.inj h).symm _ hR36 hk37
def g_X10_laysPairs_j25 (F : Nat) (s0 : Int32) (u : rg_U) : Option rg_U :=
  lt1 (sF u 0 48 s0) (fun u8 => ck (inb (rF u8 0 47) 5) (ck (inb (rF u8 0 48) 5) (ob (lp (fun (s : (Int32 × rg_U)) => g_X10_laysPairs_l52 F (rA u8 19 (rF u8 0 47)) (rA u8 19 (rF u8 0 48)) s.1 s.2) F (((rA u8 19 (rF u8 0 47)) : Int32), u8)) (fun r38 => some r38))))
set_option maxHeartbeats 4000000 in
set_option maxRecDepth 100000 in
theorem k_X10_laysPairs_j25 {gs : List String} {ro : pm_RO} {n : Nat} {w w1 : Nat → va_E} {b : Nat} {u : rg_U} {F : Nat} {s0 : Int32} {z : rg_U} (hR : rg shM b u n w1) (hk : rg_k b shM.length w w1) (h : g_X10_laysPairs_j25 F s0 u = some z) : pm_X gs ro M_X10_laysPairs 1 0 0 0 0 25 [some (.ref (b + 0)), none, none, none, none, none, none, none] [.int s0, .ref (b + 0)] n w1 (rg_post shM b n w none z) := by
  unfold g_X10_laysPairs_j25 at h
  obtain ⟨u8, hu9, h⟩ := lt1_ex h
  refine dx_pi (j := 0) hR hk dX10_laysPairs_25 fl_X10_346 rfl rfl hu9 (fun w10 hR11 hk12 => ?_)
  refine pm_aload_n dX10_laysPairs_28 rfl ?_
  refine dx_gr (j := 0) (o := 19) hR11 dX10_laysPairs_29 fl_X10_72 rfl rfl ?_
  refine pm_aload_n dX10_laysPairs_32 rfl ?_
  refine dx_gi (j := 0) hR11 dX10_laysPairs_33 fl_X10_343 rfl rfl ?_
  obtain ⟨c13, h⟩ := ck_some h
  refine dx_al (j := 19) hR11 dX10_laysPairs_36 rfl (vp_in_iff.mpr c13) ?_
  refine pm_istore_n dX10_laysPairs_37 (by decide) rfl rfl ?_
  refine pm_aload_n dX10_laysPairs_38 rfl ?_
  refine dx_gr (j := 0) (o := 19) hR11 dX10_laysPairs_39 fl_X10_72 rfl rfl ?_
  refine pm_aload_n dX10_laysPairs_42 rfl ?_
  refine dx_gi (j := 0) hR11 dX10_laysPairs_43 fl_X10_346 rfl rfl ?_
  obtain ⟨c14, h⟩ := ck_some h
  refine dx_al (j := 19) hR11 dX10_laysPairs_46 rfl (vp_in_iff.mpr c14) ?_
  refine pm_istore dX10_laysPairs_47 (by decide) rfl rfl ?_
  refine pm_iload_n dX10_laysPairs_49 rfl ?_
  refine pm_istore dX10_laysPairs_50 (by decide) rfl rfl ?_
  obtain ⟨r38, h39, h⟩ := ob_some h
  refine lp_sound (P := fun (s : (Int32 × rg_U)) => ∀ w1, rg shM b s.2 n w1 → rg_k b shM.length w w1 → pm_X gs ro M_X10_laysPairs 1 0 0 0 0 52 [some (.ref (b + 0)), none, none, some (.int (rA u8 19 (rF u8 0 47))), some (.int (rA u8 19 (rF u8 0 48))), some (.int s.1), none, none] [] n w1 (rg_post shM b n w none z)) (E := (fun (r : rg_U) => ∀ w1, rg shM b r n w1 → rg_k b shM.length w w1 → pm_X gs ro M_X10_laysPairs 1 0 0 0 0 198 [none, none, none, none, none, none, none, none] [] n w1 (rg_post shM b n w none z))) (fun s x hx hc he w1 hR1 hk1 => k_X10_laysPairs_l52 hR1 hk1 hx hc (fun r q => he r q)) F _ r38 h39 ?_ _ hR11 hk12
  intro w40 hR41 hk42
  cases h
  exact pm_vret dX10_laysPairs_198 rfl (Nat.le_refl _) (Nat.le_refl _) ⟨rfl, rfl, hR41, hk42⟩
def g_X10_laysPairs_j11 (F : Nat) (l2 : Int32) (s0 : Int32) (u : rg_U) : Option rg_U :=
  lt1 (sF u 0 47 s0) (fun u2 => if l2 = (-1) then (g_X10_laysPairs_j25 F 4 u2) else (g_X10_laysPairs_j25 F l2 u2))
set_option maxHeartbeats 4000000 in
set_option maxRecDepth 100000 in
theorem k_X10_laysPairs_j11 {gs : List String} {ro : pm_RO} {n : Nat} {w w1 : Nat → va_E} {b : Nat} {u : rg_U} {F : Nat} {l2 : Int32} {s0 : Int32} {z : rg_U} (hR : rg shM b u n w1) (hk : rg_k b shM.length w w1) (h : g_X10_laysPairs_j11 F l2 s0 u = some z) : pm_X gs ro M_X10_laysPairs 1 0 0 0 0 11 [some (.ref (b + 0)), none, some (.int l2), none, none, none, none, none] [.int s0, .ref (b + 0)] n w1 (rg_post shM b n w none z) := by
  unfold g_X10_laysPairs_j11 at h
  obtain ⟨u2, hu3, h⟩ := lt1_ex h
  refine dx_pi (j := 0) hR hk dX10_laysPairs_11 fl_X10_343 rfl rfl hu3 (fun w4 hR5 hk6 => ?_)
  refine pm_aload_n dX10_laysPairs_14 rfl ?_
  refine pm_iload_n dX10_laysPairs_15 rfl ?_
  refine pm_iconst (v := (-1)) dX10_laysPairs_16 (by decide) ?_
  refine pm_icmp_ne (tgt := 24) dX10_laysPairs_17 (by decide) (fun c7 => ?_) (fun c7 => ?_)
  · replace h := it_f c7 h
    refine pm_iload_n dX10_laysPairs_24 rfl ?_
    refine pm_lw (L' := [some (.ref (b + 0)), none, none, none, none, none, none, none]) ⟨Or.inr rfl, Or.inl rfl, Or.inl rfl, Or.inl rfl, Or.inl rfl, Or.inl rfl, Or.inl rfl, Or.inl rfl, trivial⟩ ?_
    exact k_X10_laysPairs_j25 hR5 hk6 h
  · replace h := it_t c7 h
    refine pm_iconst (v := 4) dX10_laysPairs_20 (by decide) ?_
    refine pm_goto (tgt := 25) dX10_laysPairs_21 (by decide) ?_
    refine pm_lw (L' := [some (.ref (b + 0)), none, none, none, none, none, none, none]) ⟨Or.inr rfl, Or.inl rfl, Or.inl rfl, Or.inl rfl, Or.inl rfl, Or.inl rfl, Or.inl rfl, Or.inl rfl, trivial⟩ ?_
    exact k_X10_laysPairs_j25 hR5 hk6 h
def g_X10_laysPairs (F : Nat) (x1 : Int32) (x2 : Int32) (u : rg_U) : Option rg_U :=
  if x1 = (-1) then (g_X10_laysPairs_j11 F x2 4 u) else (g_X10_laysPairs_j11 F x2 x1 u)
set_option maxHeartbeats 4000000 in
set_option maxRecDepth 100000 in
theorem k_X10_laysPairs {gs : List String} {ro : pm_RO} {n : Nat} {w : Nat → va_E} {b : Nat} {u : rg_U} {F : Nat} {x1 : Int32} {x2 : Int32} {z : rg_U} (hR : rg shM b u n w) (h : g_X10_laysPairs F x1 x2 u = some z) : pm_Met gs ro M_X10_laysPairs 1 0 0 [.ref (b + 0), .int x1, .int x2] n w (rg_post shM b n w none z) := by
  unfold g_X10_laysPairs at h
  refine pm_ofX in_X10_laysPairs (Nat.le_of_ble_eq_true rfl) rfl (L := [some (.ref (b + 0)), some (.int x1), some (.int x2), none, none, none, none, none]) rfl ?_
  refine pm_aload_n dX10_laysPairs_0 rfl ?_
  refine pm_iload_n dX10_laysPairs_1 rfl ?_
  refine pm_iconst (v := (-1)) dX10_laysPairs_2 (by decide) ?_
  refine pm_icmp_ne (tgt := 10) dX10_laysPairs_3 (by decide) (fun c1 => ?_) (fun c1 => ?_)
  · replace h := it_f c1 h
    refine pm_iload_n dX10_laysPairs_10 rfl ?_
    refine pm_lw (L' := [some (.ref (b + 0)), none, some (.int x2), none, none, none, none, none]) ⟨Or.inr rfl, Or.inl rfl, Or.inr rfl, Or.inl rfl, Or.inl rfl, Or.inl rfl, Or.inl rfl, Or.inl rfl, trivial⟩ ?_
    exact k_X10_laysPairs_j11 hR rg_k0 h
  · replace h := it_t c1 h
    refine pm_iconst (v := 4) dX10_laysPairs_6 (by decide) ?_
    refine pm_goto (tgt := 11) dX10_laysPairs_7 (by decide) ?_
    refine pm_lw (L' := [some (.ref (b + 0)), none, some (.int x2), none, none, none, none, none]) ⟨Or.inr rfl, Or.inl rfl, Or.inr rfl, Or.inl rfl, Or.inl rfl, Or.inl rfl, Or.inl rfl, Or.inl rfl, trivial⟩ ?_
    exact k_X10_laysPairs_j11 hR rg_k0 h
def g_X10_align (F : Nat) (x1 : Int32) (x2 : Int32) (u : rg_U) : Option (Int32 × rg_U) :=
  ob (g_X10_isThere F x1 u) (fun r1 => if r1 = 0 then (some ((-2), u)) else (ob (g_X10_isThere F x2 u) (fun r4 => if r4 = 0 then (some ((-2), u)) else (ob (g_X10_laysPairs F x1 x2 u) (fun r7 => ck (inb 0 10201) (some ((rA r7 35 0), r7)))))))
set_option maxHeartbeats 4000000 in
set_option maxRecDepth 100000 in
theorem k_X10_align {gs : List String} {ro : pm_RO} {n : Nat} {w : Nat → va_E} {b : Nat} {u : rg_U} {F : Nat} {x1 : Int32} {x2 : Int32} {z : (Int32 × rg_U)} (hR : rg shM b u n w) (h : g_X10_align F x1 x2 u = some z) : pm_Met gs ro M_X10_align 2 0 0 [.ref (b + 0), .int x1, .int x2] n w (rg_post shM b n w (some (.int z.1)) z.2) := by
  unfold g_X10_align at h
  refine pm_ofX in_X10_align (Nat.le_of_ble_eq_true rfl) rfl (L := [some (.ref (b + 0)), some (.int x1), some (.int x2)]) rfl ?_
  refine pm_aload_n dX10_align_0 rfl ?_
  refine pm_iload_n dX10_align_1 rfl ?_
  obtain ⟨r1, h2, h⟩ := ob_some h
  refine dx_cVp (j := 0) (M := M_X10_align) (Mc := M_X10_isThere) (dc := 1) (As := [.int x1]) (st := []) hR dX10_align_2 ml_X10_352 ⟨TX10, 55, rfl⟩ rfl (by decide) (Nat.le_of_ble_eq_true rfl) rfl (k_X10_isThere hR h2) ?_
  refine pm_if_eq (tgt := 16) dX10_align_5 (by decide) (fun c3 => ?_) (fun c3 => ?_)
  · replace h := it_t c3 h
    refine pm_bipush (v := (-2)) dX10_align_16 (by decide) ?_
    cases h
    exact pm_iret dX10_align_18 rfl (Nat.le_refl _) (Nat.le_refl _) ⟨rfl, rfl, hR, rg_k0⟩
  · replace h := it_f c3 h
    refine pm_aload_n dX10_align_8 rfl ?_
    refine pm_iload_n dX10_align_9 rfl ?_
    obtain ⟨r4, h5, h⟩ := ob_some h
    refine dx_cVp (j := 0) (M := M_X10_align) (Mc := M_X10_isThere) (dc := 1) (As := [.int x2]) (st := []) hR dX10_align_10 ml_X10_352 ⟨TX10, 55, rfl⟩ rfl (by decide) (Nat.le_of_ble_eq_true rfl) rfl (k_X10_isThere hR h5) ?_
    refine pm_if_ne (tgt := 19) dX10_align_13 (by decide) (fun c6 => ?_) (fun c6 => ?_)
    · replace h := it_f c6 h
      refine pm_aload_n dX10_align_19 rfl ?_
      refine pm_iload_n dX10_align_20 rfl ?_
      refine pm_iload_n dX10_align_21 rfl ?_
      obtain ⟨r7, h8, h⟩ := ob_some h
      refine dx_cVv (j := 0) (M := M_X10_align) (Mc := M_X10_laysPairs) (dc := 1) (As := [.int x1, .int x2]) (st := []) hR rg_k0 dX10_align_22 ml_X10_355 ⟨TX10, 55, rfl⟩ rfl (by decide) (Nat.le_of_ble_eq_true rfl) rfl (k_X10_laysPairs hR h8) (fun w9 hR10 hk11 => ?_)
      refine pm_aload_n dX10_align_25 rfl ?_
      refine dx_gr (j := 0) (o := 35) hR10 dX10_align_26 fl_X10_129 rfl rfl ?_
      refine pm_iconst (v := 0) dX10_align_29 (by decide) ?_
      obtain ⟨c12, h⟩ := ck_some h
      refine dx_al (j := 35) hR10 dX10_align_30 rfl (vp_in_iff.mpr c12) ?_
      cases h
      exact pm_iret dX10_align_31 rfl (Nat.le_refl _) (Nat.le_refl _) ⟨rfl, rfl, hR10, hk11⟩
    · replace h := it_t c6 h
      refine pm_bipush (v := (-2)) dX10_align_16 (by decide) ?_
      cases h
      exact pm_iret dX10_align_18 rfl (Nat.le_refl _) (Nat.le_refl _) ⟨rfl, rfl, hR, rg_k0⟩
def g_X10_finds_j67 (F : Nat) (l1 : Int32) (l3 : Int32) (l4 : Int32) (l5 : Int32) (l6 : Int32) (l7 : Int32) (u : rg_U) : Option ((Int32 × Int32) ⊕ (Int32 × Int32)) :=
  ck (inb (rF u 0 48) 5) (if (l7 + 1) = (rA u 19 (rF u 0 48)) then (some (.inl ((l6 + 1), l3))) else (some (.inl (l6, (l7 + 1)))))
set_option maxHeartbeats 4000000 in
set_option maxRecDepth 100000 in
theorem k_X10_finds_j67 {gs : List String} {ro : pm_RO} {n : Nat} {w w1 : Nat → va_E} {b : Nat} {u : rg_U} {F : Nat} {l1 : Int32} {l3 : Int32} {l4 : Int32} {l5 : Int32} {l6 : Int32} {l7 : Int32} {z : ((Int32 × Int32) ⊕ (Int32 × Int32))} {Q : Option Value → Nat → (Nat → va_E) → Prop} (hR : rg shM b u n w1) (hk : rg_k b shM.length w w1) (h : g_X10_finds_j67 F l1 l3 l4 l5 l6 l7 u = some z) (hc : ∀ s', z = .inl s' → ∀ w1, rg shM b u n w1 → rg_k b shM.length w w1 → pm_X gs ro M_X10_finds 1 0 0 0 0 32 [some (.ref (b + 0)), some (.int l1), none, some (.int l3), some (.int l4), some (.int l5), some (.int s'.1), some (.int s'.2)] [] n w1 Q) (he0 : ∀ r', z = .inr r' → ∀ w1, rg shM b u n w1 → rg_k b shM.length w w1 → pm_X gs ro M_X10_finds 1 0 0 0 0 93 [some (.ref (b + 0)), some (.int l1), none, none, some (.int l4), none, some (.int r'.1), some (.int r'.2)] [] n w1 Q) : pm_X gs ro M_X10_finds 1 0 0 0 0 67 [some (.ref (b + 0)), some (.int l1), none, some (.int l3), some (.int l4), some (.int l5), some (.int l6), some (.int l7)] [] n w1 Q := by
  unfold g_X10_finds_j67 at h
  refine pm_iinc (v := (l7 + 1)) dX10_finds_67 rfl rfl (by decide) rfl rfl ?_
  refine pm_iload dX10_finds_70 rfl ?_
  refine pm_aload_n dX10_finds_72 rfl ?_
  refine dx_gr (j := 0) (o := 19) hR dX10_finds_73 fl_X10_72 rfl rfl ?_
  refine pm_aload_n dX10_finds_76 rfl ?_
  refine dx_gi (j := 0) hR dX10_finds_77 fl_X10_346 rfl rfl ?_
  obtain ⟨c6, h⟩ := ck_some h
  refine dx_al (j := 19) hR dX10_finds_80 rfl (vp_in_iff.mpr c6) ?_
  refine pm_icmp_ne (tgt := 32) dX10_finds_81 (by decide) (fun c7 => ?_) (fun c7 => ?_)
  · replace h := it_f c7 h
    refine pm_lw (L' := [some (.ref (b + 0)), some (.int l1), none, some (.int l3), some (.int l4), some (.int l5), some (.int l6), some (.int (l7 + 1))]) ⟨Or.inr rfl, Or.inr rfl, Or.inl rfl, Or.inr rfl, Or.inr rfl, Or.inr rfl, Or.inr rfl, Or.inr rfl, trivial⟩ ?_
    exact hc _ (Option.some.inj h).symm _ hR hk
  · replace h := it_t c7 h
    refine pm_iload_n dX10_finds_84 rfl ?_
    refine pm_istore dX10_finds_85 (by decide) rfl rfl ?_
    refine pm_iinc (v := (l6 + 1)) dX10_finds_87 rfl rfl (by decide) rfl rfl ?_
    refine pm_goto (tgt := 32) dX10_finds_90 (by decide) ?_
    refine pm_lw (L' := [some (.ref (b + 0)), some (.int l1), none, some (.int l3), some (.int l4), some (.int l5), some (.int (l6 + 1)), some (.int l3)]) ⟨Or.inr rfl, Or.inr rfl, Or.inl rfl, Or.inr rfl, Or.inr rfl, Or.inr rfl, Or.inr rfl, Or.inr rfl, trivial⟩ ?_
    exact hc _ (Option.some.inj h).symm _ hR hk
def g_X10_finds_l32 (F : Nat) (l1 : Int32) (l3 : Int32) (l4 : Int32) (l5 : Int32) (u : rg_U) (l6 : Int32) (l7 : Int32) : Option ((Int32 × Int32) ⊕ (Int32 × Int32)) :=
  ob (g_X10_areLike F l6 l7 u) (fun r3 => if r3 = 0 then (g_X10_finds_j67 F l1 l3 l4 l5 l6 l7 u) else (ck (inb (((101 * (l6 + 1)) + l7) + 1) 10201) (if (1 + (rA u 35 (((101 * (l6 + 1)) + l7) + 1))) = l5 then (some (.inr (l6, l7))) else (g_X10_finds_j67 F l1 l3 l4 l5 l6 l7 u))))
set_option maxHeartbeats 4000000 in
set_option maxRecDepth 100000 in
theorem k_X10_finds_l32 {gs : List String} {ro : pm_RO} {n : Nat} {w w1 : Nat → va_E} {b : Nat} {u : rg_U} {F : Nat} {l1 : Int32} {l3 : Int32} {l4 : Int32} {l5 : Int32} {l6 : Int32} {l7 : Int32} {z : (Int32 × Int32) ⊕ (Int32 × Int32)} {Q : Option Value → Nat → (Nat → va_E) → Prop} (hR : rg shM b u n w1) (hk : rg_k b shM.length w w1) (h : g_X10_finds_l32 F l1 l3 l4 l5 u l6 l7 = some z) (hc : ∀ s', z = .inl s' → ∀ w1, rg shM b u n w1 → rg_k b shM.length w w1 → pm_X gs ro M_X10_finds 1 0 0 0 0 32 [some (.ref (b + 0)), some (.int l1), none, some (.int l3), some (.int l4), some (.int l5), some (.int s'.1), some (.int s'.2)] [] n w1 Q) (he0 : ∀ r', z = .inr r' → ∀ w1, rg shM b u n w1 → rg_k b shM.length w w1 → pm_X gs ro M_X10_finds 1 0 0 0 0 93 [some (.ref (b + 0)), some (.int l1), none, none, some (.int l4), none, some (.int r'.1), some (.int r'.2)] [] n w1 Q) : pm_X gs ro M_X10_finds 1 0 0 0 0 32 [some (.ref (b + 0)), some (.int l1), none, some (.int l3), some (.int l4), some (.int l5), some (.int l6), some (.int l7)] [] n w1 Q := by
  unfold g_X10_finds_l32 at h
  refine pm_aload_n dX10_finds_32 rfl ?_
  refine pm_iload dX10_finds_33 rfl ?_
  refine pm_iload dX10_finds_35 rfl ?_
  obtain ⟨r3, h4, h⟩ := ob_some h
  refine dx_cVp (j := 0) (M := M_X10_finds) (Mc := M_X10_areLike) (dc := 0) (As := [.int l6, .int l7]) (st := []) hR dX10_finds_37 ml_X10_349 ⟨TX10, 55, rfl⟩ rfl (by decide) (Nat.le_of_ble_eq_true rfl) rfl (k_X10_areLike hR h4) ?_
  refine pm_if_eq (tgt := 67) dX10_finds_40 (by decide) (fun c5 => ?_) (fun c5 => ?_)
  · replace h := it_t c5 h
    exact k_X10_finds_j67 hR hk h hc he0
  · replace h := it_f c5 h
    refine pm_iconst (v := 1) dX10_finds_43 (by decide) ?_
    refine pm_aload_n dX10_finds_44 rfl ?_
    refine dx_gr (j := 0) (o := 35) hR dX10_finds_45 fl_X10_129 rfl rfl ?_
    refine pm_bipush (v := 101) dX10_finds_48 (by decide) ?_
    refine pm_iload dX10_finds_50 rfl ?_
    refine pm_iconst (v := 1) dX10_finds_52 (by decide) ?_
    refine pm_iadd dX10_finds_53 ?_
    refine pm_imul dX10_finds_54 ?_
    refine pm_iload dX10_finds_55 rfl ?_
    refine pm_iadd dX10_finds_57 ?_
    refine pm_iconst (v := 1) dX10_finds_58 (by decide) ?_
    refine pm_iadd dX10_finds_59 ?_
    obtain ⟨c8, h⟩ := ck_some h
    refine dx_al (j := 35) hR dX10_finds_60 rfl (vp_in_iff.mpr c8) ?_
    refine pm_iadd dX10_finds_61 ?_
    refine pm_iload dX10_finds_62 rfl ?_
    refine pm_icmp_eq (tgt := 93) dX10_finds_64 (by decide) (fun c9 => ?_) (fun c9 => ?_)
    · replace h := it_t c9 h
      refine pm_lw (L' := [some (.ref (b + 0)), some (.int l1), none, none, some (.int l4), none, some (.int l6), some (.int l7)]) ⟨Or.inr rfl, Or.inr rfl, Or.inl rfl, Or.inl rfl, Or.inr rfl, Or.inl rfl, Or.inr rfl, Or.inr rfl, trivial⟩ ?_
      exact he0 _ (Option.some.inj h).symm _ hR hk
    · replace h := it_f c9 h
      exact k_X10_finds_j67 hR hk h hc he0
def g_X10_finds_l7 (F : Nat) (l1 : Int32) (l2 : Int32) (l3 : Int32) (l4 : Int32) (u : rg_U) : Option ((Int32 × Int32 × Int32 × rg_U) ⊕ rg_U) :=
  if l1 < l4 then (some (.inr u)) else (ck (inb ((101 * l2) + l3) 10201) (ob (lp (fun (s : (Int32 × Int32)) => g_X10_finds_l32 F l1 l3 l4 (rA u 35 ((101 * l2) + l3)) u s.1 s.2) F ((l2 : Int32), (l3 : Int32))) (fun r10 => lt1 (sF u 0 49 r10.1) (fun u15 => lt1 (sF u15 0 50 r10.2) (fun u20 => some (.inl ((r10.1 + 1), (r10.2 + 1), (l4 + 1), u20)))))))
set_option maxHeartbeats 4000000 in
set_option maxRecDepth 100000 in
theorem k_X10_finds_l7 {gs : List String} {ro : pm_RO} {n : Nat} {w w1 : Nat → va_E} {b : Nat} {u : rg_U} {F : Nat} {l1 : Int32} {l2 : Int32} {l3 : Int32} {l4 : Int32} {z : (Int32 × Int32 × Int32 × rg_U) ⊕ rg_U} {Q : Option Value → Nat → (Nat → va_E) → Prop} (hR : rg shM b u n w1) (hk : rg_k b shM.length w w1) (h : g_X10_finds_l7 F l1 l2 l3 l4 u = some z) (hc : ∀ s', z = .inl s' → ∀ w1, rg shM b s'.2.2.2 n w1 → rg_k b shM.length w w1 → pm_X gs ro M_X10_finds 1 0 0 0 0 7 [some (.ref (b + 0)), some (.int l1), some (.int s'.1), some (.int s'.2.1), some (.int s'.2.2.1), none, none, none] [] n w1 Q) (he0 : ∀ r', z = .inr r' → ∀ w1, rg shM b r' n w1 → rg_k b shM.length w w1 → pm_X gs ro M_X10_finds 1 0 0 0 0 121 [none, none, none, none, none, none, none, none] [] n w1 Q) : pm_X gs ro M_X10_finds 1 0 0 0 0 7 [some (.ref (b + 0)), some (.int l1), some (.int l2), some (.int l3), some (.int l4), none, none, none] [] n w1 Q := by
  unfold g_X10_finds_l7 at h
  refine pm_iload dX10_finds_7 rfl ?_
  refine pm_iload_n dX10_finds_9 rfl ?_
  refine pm_icmp_gt (tgt := 121) dX10_finds_10 (by decide) (fun c1 => ?_) (fun c1 => ?_)
  · replace h := it_t c1 h
    refine pm_lw (L' := [none, none, none, none, none, none, none, none]) ⟨Or.inl rfl, Or.inl rfl, Or.inl rfl, Or.inl rfl, Or.inl rfl, Or.inl rfl, Or.inl rfl, Or.inl rfl, trivial⟩ ?_
    exact he0 _ (Option.some.inj h).symm _ hR hk
  · replace h := it_f c1 h
    refine pm_aload_n dX10_finds_13 rfl ?_
    refine dx_gr (j := 0) (o := 35) hR dX10_finds_14 fl_X10_129 rfl rfl ?_
    refine pm_bipush (v := 101) dX10_finds_17 (by decide) ?_
    refine pm_iload_n dX10_finds_19 rfl ?_
    refine pm_imul dX10_finds_20 ?_
    refine pm_iload_n dX10_finds_21 rfl ?_
    refine pm_iadd dX10_finds_22 ?_
    obtain ⟨c2, h⟩ := ck_some h
    refine dx_al (j := 35) hR dX10_finds_23 rfl (vp_in_iff.mpr c2) ?_
    refine pm_istore dX10_finds_24 (by decide) rfl rfl ?_
    refine pm_iload_n dX10_finds_26 rfl ?_
    refine pm_istore dX10_finds_27 (by decide) rfl rfl ?_
    refine pm_iload_n dX10_finds_29 rfl ?_
    refine pm_istore dX10_finds_30 (by decide) rfl rfl ?_
    refine pm_lw (L' := [some (.ref (b + 0)), some (.int l1), none, some (.int l3), some (.int l4), some (.int (rA u 35 ((101 * l2) + l3))), some (.int l2), some (.int l3)]) ⟨Or.inr rfl, Or.inr rfl, Or.inl rfl, Or.inr rfl, Or.inr rfl, Or.inr rfl, Or.inr rfl, Or.inr rfl, trivial⟩ ?_
    obtain ⟨r10, h11, h⟩ := ob_some h
    refine lp_sound (P := fun (s : (Int32 × Int32)) => ∀ w1, rg shM b u n w1 → rg_k b shM.length w w1 → pm_X gs ro M_X10_finds 1 0 0 0 0 32 [some (.ref (b + 0)), some (.int l1), none, some (.int l3), some (.int l4), some (.int (rA u 35 ((101 * l2) + l3))), some (.int s.1), some (.int s.2)] [] n w1 Q) (E := (fun (r : (Int32 × Int32)) => ∀ w1, rg shM b u n w1 → rg_k b shM.length w w1 → pm_X gs ro M_X10_finds 1 0 0 0 0 93 [some (.ref (b + 0)), some (.int l1), none, none, some (.int l4), none, some (.int r.1), some (.int r.2)] [] n w1 Q)) (fun s x hx hc he w1 hR1 hk1 => k_X10_finds_l32 hR1 hk1 hx hc (fun r q => he r q)) F _ r10 h11 ?_ _ hR hk
    intro w12 hR13 hk14
    refine pm_aload_n dX10_finds_93 rfl ?_
    refine pm_iload dX10_finds_94 rfl ?_
    obtain ⟨u15, hu16, h⟩ := lt1_ex h
    refine dx_pi (j := 0) hR13 hk14 dX10_finds_96 fl_X10_358 rfl rfl hu16 (fun w17 hR18 hk19 => ?_)
    refine pm_aload_n dX10_finds_99 rfl ?_
    refine pm_iload dX10_finds_100 rfl ?_
    obtain ⟨u20, hu21, h⟩ := lt1_ex h
    refine dx_pi (j := 0) hR18 hk19 dX10_finds_102 fl_X10_361 rfl rfl hu21 (fun w22 hR23 hk24 => ?_)
    refine pm_iload dX10_finds_105 rfl ?_
    refine pm_iconst (v := 1) dX10_finds_107 (by decide) ?_
    refine pm_iadd dX10_finds_108 ?_
    refine pm_istore_n dX10_finds_109 (by decide) rfl rfl ?_
    refine pm_iload dX10_finds_110 rfl ?_
    refine pm_iconst (v := 1) dX10_finds_112 (by decide) ?_
    refine pm_iadd dX10_finds_113 ?_
    refine pm_istore_n dX10_finds_114 (by decide) rfl rfl ?_
    refine pm_iinc (v := (l4 + 1)) dX10_finds_115 rfl rfl (by decide) rfl rfl ?_
    refine pm_goto (tgt := 7) dX10_finds_118 (by decide) ?_
    refine pm_lw (L' := [some (.ref (b + 0)), some (.int l1), some (.int (r10.1 + 1)), some (.int (r10.2 + 1)), some (.int (l4 + 1)), none, none, none]) ⟨Or.inr rfl, Or.inr rfl, Or.inr rfl, Or.inr rfl, Or.inr rfl, Or.inl rfl, Or.inl rfl, Or.inl rfl, trivial⟩ ?_
    exact hc _ (Option.some.inj h).symm _ hR23 hk24
def g_X10_finds (F : Nat) (x1 : Int32) (u : rg_U) : Option rg_U :=
  ob (lp (fun (s : (Int32 × Int32 × Int32 × rg_U)) => g_X10_finds_l7 F x1 s.1 s.2.1 s.2.2.1 s.2.2.2) F ((0 : Int32), (0 : Int32), (0 : Int32), u)) (fun r25 => some r25)
set_option maxHeartbeats 4000000 in
set_option maxRecDepth 100000 in
theorem k_X10_finds {gs : List String} {ro : pm_RO} {n : Nat} {w : Nat → va_E} {b : Nat} {u : rg_U} {F : Nat} {x1 : Int32} {z : rg_U} (hR : rg shM b u n w) (h : g_X10_finds F x1 u = some z) : pm_Met gs ro M_X10_finds 1 0 0 [.ref (b + 0), .int x1] n w (rg_post shM b n w none z) := by
  unfold g_X10_finds at h
  refine pm_ofX in_X10_finds (Nat.le_of_ble_eq_true rfl) rfl (L := [some (.ref (b + 0)), some (.int x1), none, none, none, none, none, none]) rfl ?_
  refine pm_iconst (v := 0) dX10_finds_0 (by decide) ?_
  refine pm_istore_n dX10_finds_1 (by decide) rfl rfl ?_
  refine pm_iconst (v := 0) dX10_finds_2 (by decide) ?_
  refine pm_istore_n dX10_finds_3 (by decide) rfl rfl ?_
  refine pm_iconst (v := 0) dX10_finds_4 (by decide) ?_
  refine pm_istore dX10_finds_5 (by decide) rfl rfl ?_
  obtain ⟨r25, h26, h⟩ := ob_some h
  refine lp_sound (P := fun (s : (Int32 × Int32 × Int32 × rg_U)) => ∀ w1, rg shM b s.2.2.2 n w1 → rg_k b shM.length w w1 → pm_X gs ro M_X10_finds 1 0 0 0 0 7 [some (.ref (b + 0)), some (.int x1), some (.int s.1), some (.int s.2.1), some (.int s.2.2.1), none, none, none] [] n w1 (rg_post shM b n w none z)) (E := (fun (r : rg_U) => ∀ w1, rg shM b r n w1 → rg_k b shM.length w w1 → pm_X gs ro M_X10_finds 1 0 0 0 0 121 [none, none, none, none, none, none, none, none] [] n w1 (rg_post shM b n w none z))) (fun s x hx hc he w1 hR1 hk1 => k_X10_finds_l7 hR1 hk1 hx hc (fun r q => he r q)) F _ r25 h26 ?_ _ hR rg_k0
  intro w27 hR28 hk29
  cases h
  exact pm_vret dX10_finds_121 rfl (Nat.le_refl _) (Nat.le_refl _) ⟨rfl, rfl, hR28, hk29⟩
def g_X10_pair_l117 (F : Nat) (l4 : Int32) (l5 : Int32) (u : rg_U) : Option ((Int32 × rg_U) ⊕ rg_U) :=
  if 134 ≤ l5 then (some (.inr u)) else (ck (inb l5 134) (ck (inb l5 134) (lt1 (sA u 36 l5 (rA u 31 l5)) (fun u35 => some (.inl ((l5 + 1), u35))))))
set_option maxHeartbeats 4000000 in
set_option maxRecDepth 100000 in
theorem k_X10_pair_l117 {gs : List String} {ro : pm_RO} {n : Nat} {w w1 : Nat → va_E} {b : Nat} {u : rg_U} {F : Nat} {l4 : Int32} {l5 : Int32} {z : (Int32 × rg_U) ⊕ rg_U} {Q : Option Value → Nat → (Nat → va_E) → Prop} (hR : rg shM b u n w1) (hk : rg_k b shM.length w w1) (h : g_X10_pair_l117 F l4 l5 u = some z) (hc : ∀ s', z = .inl s' → ∀ w1, rg shM b s'.2 n w1 → rg_k b shM.length w w1 → pm_X gs ro M_X10_pair 9 0 0 0 0 117 [some (.ref (b + 0)), none, none, none, some (.int l4), some (.int s'.1), none, none, none] [] n w1 Q) (he0 : ∀ r', z = .inr r' → ∀ w1, rg shM b r' n w1 → rg_k b shM.length w w1 → pm_X gs ro M_X10_pair 9 0 0 0 0 145 [some (.ref (b + 0)), none, none, none, some (.int l4), none, none, none, none] [] n w1 Q) : pm_X gs ro M_X10_pair 9 0 0 0 0 117 [some (.ref (b + 0)), none, none, none, some (.int l4), some (.int l5), none, none, none] [] n w1 Q := by
  unfold g_X10_pair_l117 at h
  refine pm_iload dX10_pair_117 rfl ?_
  refine pm_sipush (v := 134) dX10_pair_119 (by decide) ?_
  refine pm_icmp_ge (tgt := 145) dX10_pair_122 (by decide) (fun c32 => ?_) (fun c32 => ?_)
  · replace h := it_t c32 h
    refine pm_lw (L' := [some (.ref (b + 0)), none, none, none, some (.int l4), none, none, none, none]) ⟨Or.inr rfl, Or.inl rfl, Or.inl rfl, Or.inl rfl, Or.inr rfl, Or.inl rfl, Or.inl rfl, Or.inl rfl, Or.inl rfl, trivial⟩ ?_
    exact he0 _ (Option.some.inj h).symm _ hR hk
  · replace h := it_f c32 h
    refine pm_aload_n dX10_pair_125 rfl ?_
    refine dx_gr (j := 0) (o := 36) hR dX10_pair_126 fl_X10_132 rfl rfl ?_
    refine pm_iload dX10_pair_129 rfl ?_
    refine pm_aload_n dX10_pair_131 rfl ?_
    refine dx_gr (j := 0) (o := 31) hR dX10_pair_132 fl_X10_114 rfl rfl ?_
    refine pm_iload dX10_pair_135 rfl ?_
    obtain ⟨c33, h⟩ := ck_some h
    refine dx_al (j := 31) hR dX10_pair_137 rfl (vp_in_iff.mpr c33) ?_
    obtain ⟨c34, h⟩ := ck_some h
    obtain ⟨u35, hu36, h⟩ := lt1_ex h
    refine dx_as (j := 36) hR hk dX10_pair_138 rfl (vp_in_iff.mpr c34) hu36 (fun w37 hR38 hk39 => ?_)
    refine pm_iinc (v := (l5 + 1)) dX10_pair_139 rfl rfl (by decide) rfl rfl ?_
    refine pm_goto (tgt := 117) dX10_pair_142 (by decide) ?_
    refine pm_lw (L' := [some (.ref (b + 0)), none, none, none, some (.int l4), some (.int (l5 + 1)), none, none, none]) ⟨Or.inr rfl, Or.inl rfl, Or.inl rfl, Or.inl rfl, Or.inr rfl, Or.inr rfl, Or.inl rfl, Or.inl rfl, Or.inl rfl, trivial⟩ ?_
    exact hc _ (Option.some.inj h).symm _ hR38 hk39
def g_X10_pair_j278 (F : Nat) (l6 : Int32) (l7 : Int32) (l8 : Int32) (s0 : Int32) (s1 : Int32) (u : rg_U) : Option ((Int32 × Int32) ⊕ Int32) :=
  some (.inl ((s1 ||| s0), (l8 + 1)))
set_option maxHeartbeats 4000000 in
set_option maxRecDepth 100000 in
theorem k_X10_pair_j278 {gs : List String} {ro : pm_RO} {n : Nat} {w w1 : Nat → va_E} {b : Nat} {u : rg_U} {F : Nat} {l6 : Int32} {l7 : Int32} {l8 : Int32} {s0 : Int32} {s1 : Int32} {z : ((Int32 × Int32) ⊕ Int32)} {Q : Option Value → Nat → (Nat → va_E) → Prop} (hR : rg shM b u n w1) (hk : rg_k b shM.length w w1) (h : g_X10_pair_j278 F l6 l7 l8 s0 s1 u = some z) (hc : ∀ s', z = .inl s' → ∀ w1, rg shM b u n w1 → rg_k b shM.length w w1 → pm_X gs ro M_X10_pair 9 0 0 0 0 205 [some (.ref (b + 0)), none, none, none, none, some (.int s'.1), some (.int l6), some (.int l7), some (.int s'.2)] [] n w1 Q) (he0 : ∀ r', z = .inr r' → ∀ w1, rg shM b u n w1 → rg_k b shM.length w w1 → pm_X gs ro M_X10_pair 9 0 0 0 0 287 [none, none, none, none, none, some (.int r'), none, none, none] [] n w1 Q) : pm_X gs ro M_X10_pair 9 0 0 0 0 278 [some (.ref (b + 0)), none, none, none, none, none, some (.int l6), some (.int l7), some (.int l8)] [.int s0, .int s1] n w1 Q := by
  unfold g_X10_pair_j278 at h
  refine pm_ior dX10_pair_278 ?_
  refine pm_istore dX10_pair_279 (by decide) rfl rfl ?_
  refine pm_iinc (v := (l8 + 1)) dX10_pair_281 rfl rfl (by decide) rfl rfl ?_
  refine pm_goto (tgt := 205) dX10_pair_284 (by decide) ?_
  refine pm_lw (L' := [some (.ref (b + 0)), none, none, none, none, some (.int (s1 ||| s0)), some (.int l6), some (.int l7), some (.int (l8 + 1))]) ⟨Or.inr rfl, Or.inl rfl, Or.inl rfl, Or.inl rfl, Or.inl rfl, Or.inr rfl, Or.inr rfl, Or.inr rfl, Or.inr rfl, trivial⟩ ?_
  exact hc _ (Option.some.inj h).symm _ hR hk
def g_X10_pair_j270 (F : Nat) (l6 : Int32) (l7 : Int32) (l8 : Int32) (s0 : Int32) (u : rg_U) : Option ((Int32 × Int32) ⊕ Int32) :=
  g_X10_pair_j278 F l6 l7 l8 (dx_shl 1 l8) s0 u
set_option maxHeartbeats 4000000 in
set_option maxRecDepth 100000 in
theorem k_X10_pair_j270 {gs : List String} {ro : pm_RO} {n : Nat} {w w1 : Nat → va_E} {b : Nat} {u : rg_U} {F : Nat} {l6 : Int32} {l7 : Int32} {l8 : Int32} {s0 : Int32} {z : ((Int32 × Int32) ⊕ Int32)} {Q : Option Value → Nat → (Nat → va_E) → Prop} (hR : rg shM b u n w1) (hk : rg_k b shM.length w w1) (h : g_X10_pair_j270 F l6 l7 l8 s0 u = some z) (hc : ∀ s', z = .inl s' → ∀ w1, rg shM b u n w1 → rg_k b shM.length w w1 → pm_X gs ro M_X10_pair 9 0 0 0 0 205 [some (.ref (b + 0)), none, none, none, none, some (.int s'.1), some (.int l6), some (.int l7), some (.int s'.2)] [] n w1 Q) (he0 : ∀ r', z = .inr r' → ∀ w1, rg shM b u n w1 → rg_k b shM.length w w1 → pm_X gs ro M_X10_pair 9 0 0 0 0 287 [none, none, none, none, none, some (.int r'), none, none, none] [] n w1 Q) : pm_X gs ro M_X10_pair 9 0 0 0 0 270 [some (.ref (b + 0)), none, none, none, none, none, some (.int l6), some (.int l7), some (.int l8)] [.int s0] n w1 Q := by
  unfold g_X10_pair_j270 at h
  refine pm_iconst (v := 1) dX10_pair_270 (by decide) ?_
  refine pm_iload dX10_pair_271 rfl ?_
  refine pm_ishl dX10_pair_273 ?_
  refine pm_goto (tgt := 278) dX10_pair_274 (by decide) ?_
  exact k_X10_pair_j278 hR hk h hc he0
def g_X10_pair_l205 (F : Nat) (l6 : Int32) (l7 : Int32) (u : rg_U) (l5 : Int32) (l8 : Int32) : Option ((Int32 × Int32) ⊕ Int32) :=
  if l7 ≤ l8 then (some (.inr l5)) else (ck (inb ((0 + l6) + l8) 134) (ck (inb ((0 + l6) + l8) 134) (if (rA u 36 ((0 + l6) + l8)) = (rA u 31 ((0 + l6) + l8)) then (ck (inb ((40 + l6) + l8) 134) (ck (inb ((40 + l6) + l8) 134) (if (rA u 36 ((40 + l6) + l8)) = (rA u 31 ((40 + l6) + l8)) then (g_X10_pair_j278 F l6 l7 l8 0 l5 u) else (g_X10_pair_j270 F l6 l7 l8 l5 u)))) else (g_X10_pair_j270 F l6 l7 l8 l5 u))))
set_option maxHeartbeats 4000000 in
set_option maxRecDepth 100000 in
theorem k_X10_pair_l205 {gs : List String} {ro : pm_RO} {n : Nat} {w w1 : Nat → va_E} {b : Nat} {u : rg_U} {F : Nat} {l6 : Int32} {l7 : Int32} {l5 : Int32} {l8 : Int32} {z : (Int32 × Int32) ⊕ Int32} {Q : Option Value → Nat → (Nat → va_E) → Prop} (hR : rg shM b u n w1) (hk : rg_k b shM.length w w1) (h : g_X10_pair_l205 F l6 l7 u l5 l8 = some z) (hc : ∀ s', z = .inl s' → ∀ w1, rg shM b u n w1 → rg_k b shM.length w w1 → pm_X gs ro M_X10_pair 9 0 0 0 0 205 [some (.ref (b + 0)), none, none, none, none, some (.int s'.1), some (.int l6), some (.int l7), some (.int s'.2)] [] n w1 Q) (he0 : ∀ r', z = .inr r' → ∀ w1, rg shM b u n w1 → rg_k b shM.length w w1 → pm_X gs ro M_X10_pair 9 0 0 0 0 287 [none, none, none, none, none, some (.int r'), none, none, none] [] n w1 Q) : pm_X gs ro M_X10_pair 9 0 0 0 0 205 [some (.ref (b + 0)), none, none, none, none, some (.int l5), some (.int l6), some (.int l7), some (.int l8)] [] n w1 Q := by
  unfold g_X10_pair_l205 at h
  refine pm_iload dX10_pair_205 rfl ?_
  refine pm_iload dX10_pair_207 rfl ?_
  refine pm_icmp_ge (tgt := 287) dX10_pair_209 (by decide) (fun c53 => ?_) (fun c53 => ?_)
  · replace h := it_t c53 h
    refine pm_lw (L' := [none, none, none, none, none, some (.int l5), none, none, none]) ⟨Or.inl rfl, Or.inl rfl, Or.inl rfl, Or.inl rfl, Or.inl rfl, Or.inr rfl, Or.inl rfl, Or.inl rfl, Or.inl rfl, trivial⟩ ?_
    exact he0 _ (Option.some.inj h).symm _ hR hk
  · replace h := it_f c53 h
    refine pm_iload dX10_pair_212 rfl ?_
    refine pm_aload_n dX10_pair_214 rfl ?_
    refine dx_gr (j := 0) (o := 36) hR dX10_pair_215 fl_X10_132 rfl rfl ?_
    refine pm_iconst (v := 0) dX10_pair_218 (by decide) ?_
    refine pm_iload dX10_pair_219 rfl ?_
    refine pm_iadd dX10_pair_221 ?_
    refine pm_iload dX10_pair_222 rfl ?_
    refine pm_iadd dX10_pair_224 ?_
    obtain ⟨c54, h⟩ := ck_some h
    refine dx_al (j := 36) hR dX10_pair_225 rfl (vp_in_iff.mpr c54) ?_
    refine pm_aload_n dX10_pair_226 rfl ?_
    refine dx_gr (j := 0) (o := 31) hR dX10_pair_227 fl_X10_114 rfl rfl ?_
    refine pm_iconst (v := 0) dX10_pair_230 (by decide) ?_
    refine pm_iload dX10_pair_231 rfl ?_
    refine pm_iadd dX10_pair_233 ?_
    refine pm_iload dX10_pair_234 rfl ?_
    refine pm_iadd dX10_pair_236 ?_
    obtain ⟨c55, h⟩ := ck_some h
    refine dx_al (j := 31) hR dX10_pair_237 rfl (vp_in_iff.mpr c55) ?_
    refine pm_icmp_ne (tgt := 270) dX10_pair_238 (by decide) (fun c56 => ?_) (fun c56 => ?_)
    · replace h := it_f c56 h
      refine pm_lw (L' := [some (.ref (b + 0)), none, none, none, none, none, some (.int l6), some (.int l7), some (.int l8)]) ⟨Or.inr rfl, Or.inl rfl, Or.inl rfl, Or.inl rfl, Or.inl rfl, Or.inl rfl, Or.inr rfl, Or.inr rfl, Or.inr rfl, trivial⟩ ?_
      exact k_X10_pair_j270 hR hk h hc he0
    · replace h := it_t c56 h
      refine pm_aload_n dX10_pair_241 rfl ?_
      refine dx_gr (j := 0) (o := 36) hR dX10_pair_242 fl_X10_132 rfl rfl ?_
      refine pm_bipush (v := 40) dX10_pair_245 (by decide) ?_
      refine pm_iload dX10_pair_247 rfl ?_
      refine pm_iadd dX10_pair_249 ?_
      refine pm_iload dX10_pair_250 rfl ?_
      refine pm_iadd dX10_pair_252 ?_
      obtain ⟨c57, h⟩ := ck_some h
      refine dx_al (j := 36) hR dX10_pair_253 rfl (vp_in_iff.mpr c57) ?_
      refine pm_aload_n dX10_pair_254 rfl ?_
      refine dx_gr (j := 0) (o := 31) hR dX10_pair_255 fl_X10_114 rfl rfl ?_
      refine pm_bipush (v := 40) dX10_pair_258 (by decide) ?_
      refine pm_iload dX10_pair_260 rfl ?_
      refine pm_iadd dX10_pair_262 ?_
      refine pm_iload dX10_pair_263 rfl ?_
      refine pm_iadd dX10_pair_265 ?_
      obtain ⟨c58, h⟩ := ck_some h
      refine dx_al (j := 31) hR dX10_pair_266 rfl (vp_in_iff.mpr c58) ?_
      refine pm_icmp_eq (tgt := 277) dX10_pair_267 (by decide) (fun c59 => ?_) (fun c59 => ?_)
      · replace h := it_t c59 h
        refine pm_iconst (v := 0) dX10_pair_277 (by decide) ?_
        refine pm_lw (L' := [some (.ref (b + 0)), none, none, none, none, none, some (.int l6), some (.int l7), some (.int l8)]) ⟨Or.inr rfl, Or.inl rfl, Or.inl rfl, Or.inl rfl, Or.inl rfl, Or.inl rfl, Or.inr rfl, Or.inr rfl, Or.inr rfl, trivial⟩ ?_
        exact k_X10_pair_j278 hR hk h hc he0
      · replace h := it_f c59 h
        refine pm_lw (L' := [some (.ref (b + 0)), none, none, none, none, none, some (.int l6), some (.int l7), some (.int l8)]) ⟨Or.inr rfl, Or.inl rfl, Or.inl rfl, Or.inl rfl, Or.inl rfl, Or.inl rfl, Or.inr rfl, Or.inr rfl, Or.inr rfl, trivial⟩ ?_
        exact k_X10_pair_j270 hR hk h hc he0
def g_X10_pair_j200 (F : Nat) (l5 : Int32) (l6 : Int32) (s0 : Int32) (u : rg_U) : Option (Int32 × rg_U) :=
  ob (lp (fun (s : (Int32 × Int32)) => g_X10_pair_l205 F l6 s0 u s.1 s.2) F ((l5 : Int32), (0 : Int32))) (fun r60 => some (r60, u))
set_option maxHeartbeats 4000000 in
set_option maxRecDepth 100000 in
theorem k_X10_pair_j200 {gs : List String} {ro : pm_RO} {n : Nat} {w w1 : Nat → va_E} {b : Nat} {u : rg_U} {F : Nat} {l5 : Int32} {l6 : Int32} {s0 : Int32} {z : (Int32 × rg_U)} (hR : rg shM b u n w1) (hk : rg_k b shM.length w w1) (h : g_X10_pair_j200 F l5 l6 s0 u = some z) : pm_X gs ro M_X10_pair 9 0 0 0 0 200 [some (.ref (b + 0)), none, none, none, none, some (.int l5), some (.int l6), none, none] [.int s0] n w1 (rg_post shM b n w (some (.int z.1)) z.2) := by
  unfold g_X10_pair_j200 at h
  refine pm_istore dX10_pair_200 (by decide) rfl rfl ?_
  refine pm_iconst (v := 0) dX10_pair_202 (by decide) ?_
  refine pm_istore dX10_pair_203 (by decide) rfl rfl ?_
  obtain ⟨r60, h61, h⟩ := ob_some h
  refine lp_sound (P := fun (s : (Int32 × Int32)) => ∀ w1, rg shM b u n w1 → rg_k b shM.length w w1 → pm_X gs ro M_X10_pair 9 0 0 0 0 205 [some (.ref (b + 0)), none, none, none, none, some (.int s.1), some (.int l6), some (.int s0), some (.int s.2)] [] n w1 (rg_post shM b n w (some (.int z.1)) z.2)) (E := (fun (r : Int32) => ∀ w1, rg shM b u n w1 → rg_k b shM.length w w1 → pm_X gs ro M_X10_pair 9 0 0 0 0 287 [none, none, none, none, none, some (.int r), none, none, none] [] n w1 (rg_post shM b n w (some (.int z.1)) z.2))) (fun s x hx hc he w1 hR1 hk1 => k_X10_pair_l205 hR1 hk1 hx hc (fun r q => he r q)) F _ r60 h61 ?_ _ hR hk
  intro w62 hR63 hk64
  refine pm_iload dX10_pair_287 rfl ?_
  cases h
  exact pm_iret dX10_pair_289 rfl (Nat.le_refl _) (Nat.le_refl _) ⟨rfl, rfl, hR63, hk64⟩
def g_X10_pair_j185 (F : Nat) (l4 : Int32) (l5 : Int32) (s0 : Int32) (u : rg_U) : Option (Int32 × rg_U) :=
  if l4 = 2 then (g_X10_pair_j200 F l5 s0 8 u) else (g_X10_pair_j200 F l5 s0 32 u)
set_option maxHeartbeats 4000000 in
set_option maxRecDepth 100000 in
theorem k_X10_pair_j185 {gs : List String} {ro : pm_RO} {n : Nat} {w w1 : Nat → va_E} {b : Nat} {u : rg_U} {F : Nat} {l4 : Int32} {l5 : Int32} {s0 : Int32} {z : (Int32 × rg_U)} (hR : rg shM b u n w1) (hk : rg_k b shM.length w w1) (h : g_X10_pair_j185 F l4 l5 s0 u = some z) : pm_X gs ro M_X10_pair 9 0 0 0 0 185 [some (.ref (b + 0)), none, none, none, some (.int l4), some (.int l5), none, none, none] [.int s0] n w1 (rg_post shM b n w (some (.int z.1)) z.2) := by
  unfold g_X10_pair_j185 at h
  refine pm_istore dX10_pair_185 (by decide) rfl rfl ?_
  refine pm_iload dX10_pair_187 rfl ?_
  refine pm_iconst (v := 2) dX10_pair_189 (by decide) ?_
  refine pm_icmp_ne (tgt := 198) dX10_pair_190 (by decide) (fun c52 => ?_) (fun c52 => ?_)
  · replace h := it_f c52 h
    refine pm_bipush (v := 32) dX10_pair_198 (by decide) ?_
    refine pm_lw (L' := [some (.ref (b + 0)), none, none, none, none, some (.int l5), some (.int s0), none, none]) ⟨Or.inr rfl, Or.inl rfl, Or.inl rfl, Or.inl rfl, Or.inl rfl, Or.inr rfl, Or.inr rfl, Or.inl rfl, Or.inl rfl, trivial⟩ ?_
    exact k_X10_pair_j200 hR hk h
  · replace h := it_t c52 h
    refine pm_bipush (v := 8) dX10_pair_193 (by decide) ?_
    refine pm_goto (tgt := 200) dX10_pair_195 (by decide) ?_
    refine pm_lw (L' := [some (.ref (b + 0)), none, none, none, none, some (.int l5), some (.int s0), none, none]) ⟨Or.inr rfl, Or.inl rfl, Or.inl rfl, Or.inl rfl, Or.inl rfl, Or.inr rfl, Or.inr rfl, Or.inl rfl, Or.inl rfl, trivial⟩ ?_
    exact k_X10_pair_j200 hR hk h
def g_X10_pair (F : Nat) (x1 : Int32) (x2 : Int32) (x3 : Int32) (x4 : Int32) (u : rg_U) : Option (Int32 × rg_U) :=
  lt1 (sF u 0 35 0) (fun u1 => ob (g_X10_isThere F x1 u1) (fun r6 => if r6 = 0 then (some ((-1000001), u1)) else (ob (g_X10_isThere F x2 u1) (fun r9 => if r9 = 0 then (some ((-1000001), u1)) else (if (g_X10_isIn x4 0 3) = 0 then (some ((-1000001), u1)) else (ob (g_X10_laysPairs F x1 x2 u1) (fun r13 => ck (inb 0 10201) (if (g_X10_isIn x3 0 ((rA r13 35 0) - 1)) = 0 then (some ((-1000001), r13)) else (ob (g_X10_finds F x3 r13) (fun r20 => if 2 ≤ x4 then (ck (inb ((100 * (rF r20 0 47)) + (rF r20 0 49)) 500) (ob (g_X10_replays F (rF r20 0 47) (rA r20 16 ((100 * (rF r20 0 47)) + (rF r20 0 49))) r20) (fun r27 => ob (lp (fun (s : (Int32 × rg_U)) => g_X10_pair_l117 F x4 s.1 s.2) F ((0 : Int32), r27)) (fun r40 => ck (inb ((100 * (rF r40 0 48)) + (rF r40 0 50)) 500) (ob (g_X10_replays F (rF r40 0 48) (rA r40 16 ((100 * (rF r40 0 48)) + (rF r40 0 50))) r40) (fun r46 => if x4 = 2 then (g_X10_pair_j185 F x4 0 0 r46) else (g_X10_pair_j185 F x4 0 8 r46))))))) else (if x4 = 0 then (some ((rF r20 0 49), r20)) else (some ((rF r20 0 50), r20)))))))))))))
set_option maxHeartbeats 4000000 in
set_option maxRecDepth 100000 in
theorem k_X10_pair {gs : List String} {ro : pm_RO} {n : Nat} {w : Nat → va_E} {b : Nat} {u : rg_U} {F : Nat} {x1 : Int32} {x2 : Int32} {x3 : Int32} {x4 : Int32} {z : (Int32 × rg_U)} (hR : rg shM b u n w) (h : g_X10_pair F x1 x2 x3 x4 u = some z) : pm_Met gs ro M_X10_pair 9 0 0 [.ref (b + 0), .int x1, .int x2, .int x3, .int x4] n w (rg_post shM b n w (some (.int z.1)) z.2) := by
  unfold g_X10_pair at h
  refine pm_ofX in_X10_pair (Nat.le_of_ble_eq_true rfl) rfl (L := [some (.ref (b + 0)), some (.int x1), some (.int x2), some (.int x3), some (.int x4), none, none, none, none]) rfl ?_
  refine pm_aload_n dX10_pair_0 rfl ?_
  refine pm_iconst (v := 0) dX10_pair_1 (by decide) ?_
  obtain ⟨u1, hu2, h⟩ := lt1_ex h
  refine dx_pi (j := 0) hR rg_k0 dX10_pair_2 fl_X10_276 rfl rfl hu2 (fun w3 hR4 hk5 => ?_)
  refine pm_aload_n dX10_pair_5 rfl ?_
  refine pm_iload_n dX10_pair_6 rfl ?_
  obtain ⟨r6, h7, h⟩ := ob_some h
  refine dx_cVp (j := 0) (M := M_X10_pair) (Mc := M_X10_isThere) (dc := 1) (As := [.int x1]) (st := []) hR4 dX10_pair_7 ml_X10_352 ⟨TX10, 55, rfl⟩ rfl (by decide) (Nat.le_of_ble_eq_true rfl) rfl (k_X10_isThere hR4 h7) ?_
  refine pm_if_eq (tgt := 31) dX10_pair_10 (by decide) (fun c8 => ?_) (fun c8 => ?_)
  · replace h := it_t c8 h
    refine pm_ldcw (v := (-1000001)) dX10_pair_31 kc_X10_304 ?_
    cases h
    exact pm_iret dX10_pair_34 rfl (Nat.le_refl _) (Nat.le_refl _) ⟨rfl, rfl, hR4, hk5⟩
  · replace h := it_f c8 h
    refine pm_aload_n dX10_pair_13 rfl ?_
    refine pm_iload_n dX10_pair_14 rfl ?_
    obtain ⟨r9, h10, h⟩ := ob_some h
    refine dx_cVp (j := 0) (M := M_X10_pair) (Mc := M_X10_isThere) (dc := 1) (As := [.int x2]) (st := []) hR4 dX10_pair_15 ml_X10_352 ⟨TX10, 55, rfl⟩ rfl (by decide) (Nat.le_of_ble_eq_true rfl) rfl (k_X10_isThere hR4 h10) ?_
    refine pm_if_eq (tgt := 31) dX10_pair_18 (by decide) (fun c11 => ?_) (fun c11 => ?_)
    · replace h := it_t c11 h
      refine pm_ldcw (v := (-1000001)) dX10_pair_31 kc_X10_304 ?_
      cases h
      exact pm_iret dX10_pair_34 rfl (Nat.le_refl _) (Nat.le_refl _) ⟨rfl, rfl, hR4, hk5⟩
    · replace h := it_f c11 h
      refine pm_iload dX10_pair_21 rfl ?_
      refine pm_iconst (v := 0) dX10_pair_23 (by decide) ?_
      refine pm_iconst (v := 3) dX10_pair_24 (by decide) ?_
      refine dx_cSp (M := M_X10_pair) (Mc := M_X10_isIn) (dc := 0) (As := [.int x4, .int 0, .int 3]) (st := []) dX10_pair_25 ml_X10_138 (by decide) (Nat.le_of_ble_eq_true rfl) rfl (k_X10_isIn rfl) ?_
      refine pm_if_ne (tgt := 35) dX10_pair_28 (by decide) (fun c12 => ?_) (fun c12 => ?_)
      · replace h := it_f c12 h
        refine pm_aload_n dX10_pair_35 rfl ?_
        refine pm_iload_n dX10_pair_36 rfl ?_
        refine pm_iload_n dX10_pair_37 rfl ?_
        obtain ⟨r13, h14, h⟩ := ob_some h
        refine dx_cVv (j := 0) (M := M_X10_pair) (Mc := M_X10_laysPairs) (dc := 1) (As := [.int x1, .int x2]) (st := []) hR4 hk5 dX10_pair_38 ml_X10_355 ⟨TX10, 55, rfl⟩ rfl (by decide) (Nat.le_of_ble_eq_true rfl) rfl (k_X10_laysPairs hR4 h14) (fun w15 hR16 hk17 => ?_)
        refine pm_iload_n dX10_pair_41 rfl ?_
        refine pm_iconst (v := 0) dX10_pair_42 (by decide) ?_
        refine pm_aload_n dX10_pair_43 rfl ?_
        refine dx_gr (j := 0) (o := 35) hR16 dX10_pair_44 fl_X10_129 rfl rfl ?_
        refine pm_iconst (v := 0) dX10_pair_47 (by decide) ?_
        obtain ⟨c18, h⟩ := ck_some h
        refine dx_al (j := 35) hR16 dX10_pair_48 rfl (vp_in_iff.mpr c18) ?_
        refine pm_iconst (v := 1) dX10_pair_49 (by decide) ?_
        refine pm_isub dX10_pair_50 ?_
        refine dx_cSp (M := M_X10_pair) (Mc := M_X10_isIn) (dc := 0) (As := [.int x3, .int 0, .int ((rA r13 35 0) - 1)]) (st := []) dX10_pair_51 ml_X10_138 (by decide) (Nat.le_of_ble_eq_true rfl) rfl (k_X10_isIn rfl) ?_
        refine pm_if_ne (tgt := 61) dX10_pair_54 (by decide) (fun c19 => ?_) (fun c19 => ?_)
        · replace h := it_f c19 h
          refine pm_aload_n dX10_pair_61 rfl ?_
          refine pm_iload_n dX10_pair_62 rfl ?_
          obtain ⟨r20, h21, h⟩ := ob_some h
          refine dx_cVv (j := 0) (M := M_X10_pair) (Mc := M_X10_finds) (dc := 1) (As := [.int x3]) (st := []) hR16 hk17 dX10_pair_63 ml_X10_364 ⟨TX10, 55, rfl⟩ rfl (by decide) (Nat.le_of_ble_eq_true rfl) rfl (k_X10_finds hR16 h21) (fun w22 hR23 hk24 => ?_)
          refine pm_iload dX10_pair_66 rfl ?_
          refine pm_iconst (v := 2) dX10_pair_68 (by decide) ?_
          refine pm_icmp_ge (tgt := 89) dX10_pair_69 (by decide) (fun c25 => ?_) (fun c25 => ?_)
          · replace h := it_t c25 h
            refine pm_aload_n dX10_pair_89 rfl ?_
            refine pm_aload_n dX10_pair_90 rfl ?_
            refine dx_gi (j := 0) hR23 dX10_pair_91 fl_X10_343 rfl rfl ?_
            refine pm_aload_n dX10_pair_94 rfl ?_
            refine dx_gr (j := 0) (o := 16) hR23 dX10_pair_95 fl_X10_63 rfl rfl ?_
            refine pm_bipush (v := 100) dX10_pair_98 (by decide) ?_
            refine pm_aload_n dX10_pair_100 rfl ?_
            refine dx_gi (j := 0) hR23 dX10_pair_101 fl_X10_343 rfl rfl ?_
            refine pm_imul dX10_pair_104 ?_
            refine pm_aload_n dX10_pair_105 rfl ?_
            refine dx_gi (j := 0) hR23 dX10_pair_106 fl_X10_358 rfl rfl ?_
            refine pm_iadd dX10_pair_109 ?_
            obtain ⟨c26, h⟩ := ck_some h
            refine dx_al (j := 16) hR23 dX10_pair_110 rfl (vp_in_iff.mpr c26) ?_
            obtain ⟨r27, h28, h⟩ := ob_some h
            refine dx_cVv (j := 0) (M := M_X10_pair) (Mc := M_X10_replays) (dc := 8) (As := [.int (rF r20 0 47), .int (rA r20 16 ((100 * (rF r20 0 47)) + (rF r20 0 49)))]) (st := []) hR23 hk24 dX10_pair_111 ml_X10_292 ⟨TX10, 55, rfl⟩ rfl (by decide) (Nat.le_of_ble_eq_true rfl) rfl (k_X10_replays hR23 h28) (fun w29 hR30 hk31 => ?_)
            refine pm_iconst (v := 0) dX10_pair_114 (by decide) ?_
            refine pm_istore dX10_pair_115 (by decide) rfl rfl ?_
            refine pm_lw (L' := [some (.ref (b + 0)), none, none, none, some (.int x4), some (.int 0), none, none, none]) ⟨Or.inr rfl, Or.inl rfl, Or.inl rfl, Or.inl rfl, Or.inr rfl, Or.inr rfl, Or.inl rfl, Or.inl rfl, Or.inl rfl, trivial⟩ ?_
            obtain ⟨r40, h41, h⟩ := ob_some h
            refine lp_sound (P := fun (s : (Int32 × rg_U)) => ∀ w1, rg shM b s.2 n w1 → rg_k b shM.length w w1 → pm_X gs ro M_X10_pair 9 0 0 0 0 117 [some (.ref (b + 0)), none, none, none, some (.int x4), some (.int s.1), none, none, none] [] n w1 (rg_post shM b n w (some (.int z.1)) z.2)) (E := (fun (r : rg_U) => ∀ w1, rg shM b r n w1 → rg_k b shM.length w w1 → pm_X gs ro M_X10_pair 9 0 0 0 0 145 [some (.ref (b + 0)), none, none, none, some (.int x4), none, none, none, none] [] n w1 (rg_post shM b n w (some (.int z.1)) z.2))) (fun s x hx hc he w1 hR1 hk1 => k_X10_pair_l117 hR1 hk1 hx hc (fun r q => he r q)) F _ r40 h41 ?_ _ hR30 hk31
            intro w42 hR43 hk44
            refine pm_aload_n dX10_pair_145 rfl ?_
            refine pm_aload_n dX10_pair_146 rfl ?_
            refine dx_gi (j := 0) hR43 dX10_pair_147 fl_X10_346 rfl rfl ?_
            refine pm_aload_n dX10_pair_150 rfl ?_
            refine dx_gr (j := 0) (o := 16) hR43 dX10_pair_151 fl_X10_63 rfl rfl ?_
            refine pm_bipush (v := 100) dX10_pair_154 (by decide) ?_
            refine pm_aload_n dX10_pair_156 rfl ?_
            refine dx_gi (j := 0) hR43 dX10_pair_157 fl_X10_346 rfl rfl ?_
            refine pm_imul dX10_pair_160 ?_
            refine pm_aload_n dX10_pair_161 rfl ?_
            refine dx_gi (j := 0) hR43 dX10_pair_162 fl_X10_361 rfl rfl ?_
            refine pm_iadd dX10_pair_165 ?_
            obtain ⟨c45, h⟩ := ck_some h
            refine dx_al (j := 16) hR43 dX10_pair_166 rfl (vp_in_iff.mpr c45) ?_
            obtain ⟨r46, h47, h⟩ := ob_some h
            refine dx_cVv (j := 0) (M := M_X10_pair) (Mc := M_X10_replays) (dc := 8) (As := [.int (rF r40 0 48), .int (rA r40 16 ((100 * (rF r40 0 48)) + (rF r40 0 50)))]) (st := []) hR43 hk44 dX10_pair_167 ml_X10_292 ⟨TX10, 55, rfl⟩ rfl (by decide) (Nat.le_of_ble_eq_true rfl) rfl (k_X10_replays hR43 h47) (fun w48 hR49 hk50 => ?_)
            refine pm_iconst (v := 0) dX10_pair_170 (by decide) ?_
            refine pm_istore dX10_pair_171 (by decide) rfl rfl ?_
            refine pm_iload dX10_pair_173 rfl ?_
            refine pm_iconst (v := 2) dX10_pair_175 (by decide) ?_
            refine pm_icmp_ne (tgt := 183) dX10_pair_176 (by decide) (fun c51 => ?_) (fun c51 => ?_)
            · replace h := it_f c51 h
              refine pm_bipush (v := 8) dX10_pair_183 (by decide) ?_
              exact k_X10_pair_j185 hR49 hk50 h
            · replace h := it_t c51 h
              refine pm_iconst (v := 0) dX10_pair_179 (by decide) ?_
              refine pm_goto (tgt := 185) dX10_pair_180 (by decide) ?_
              exact k_X10_pair_j185 hR49 hk50 h
          · replace h := it_f c25 h
            refine pm_iload dX10_pair_72 rfl ?_
            refine pm_if_ne (tgt := 84) dX10_pair_74 (by decide) (fun c65 => ?_) (fun c65 => ?_)
            · replace h := it_f c65 h
              refine pm_aload_n dX10_pair_84 rfl ?_
              refine dx_gi (j := 0) hR23 dX10_pair_85 fl_X10_361 rfl rfl ?_
              cases h
              exact pm_iret dX10_pair_88 rfl (Nat.le_refl _) (Nat.le_refl _) ⟨rfl, rfl, hR23, hk24⟩
            · replace h := it_t c65 h
              refine pm_aload_n dX10_pair_77 rfl ?_
              refine dx_gi (j := 0) hR23 dX10_pair_78 fl_X10_358 rfl rfl ?_
              refine pm_goto (tgt := 88) dX10_pair_81 (by decide) ?_
              cases h
              exact pm_iret dX10_pair_88 rfl (Nat.le_refl _) (Nat.le_refl _) ⟨rfl, rfl, hR23, hk24⟩
        · replace h := it_t c19 h
          refine pm_ldcw (v := (-1000001)) dX10_pair_57 kc_X10_304 ?_
          cases h
          exact pm_iret dX10_pair_60 rfl (Nat.le_refl _) (Nat.le_refl _) ⟨rfl, rfl, hR16, hk17⟩
      · replace h := it_t c12 h
        refine pm_ldcw (v := (-1000001)) dX10_pair_31 kc_X10_304 ?_
        cases h
        exact pm_iret dX10_pair_34 rfl (Nat.le_refl _) (Nat.le_refl _) ⟨rfl, rfl, hR4, hk5⟩
