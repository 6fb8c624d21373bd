theorem dX10_areStatesLike_0 : decode cX10_areStatesLike 0 = .ok (.iconst 0, 1) := by decide +kernel
theorem dX10_areStatesLike_1 : decode cX10_areStatesLike 1 = .ok (.istore_n 1, 1) := by decide +kernel
theorem dX10_areStatesLike_2 : decode cX10_areStatesLike 2 = .ok (.iload_n 1, 1) := by decide +kernel
theorem dX10_areStatesLike_3 : decode cX10_areStatesLike 3 = .ok (.bipush 80, 2) := by decide +kernel
theorem dX10_areStatesLike_5 : decode cX10_areStatesLike 5 = .ok (.if_icmp .ge 26, 3) := by decide +kernel
theorem dX10_areStatesLike_8 : decode cX10_areStatesLike 8 = .ok (.aload_n 0, 1) := by decide +kernel
theorem dX10_areStatesLike_9 : decode cX10_areStatesLike 9 = .ok (.getfield 135, 3) := by decide +kernel
theorem dX10_areStatesLike_12 : decode cX10_areStatesLike 12 = .ok (.iload_n 1, 1) := by decide +kernel
theorem dX10_areStatesLike_13 : decode cX10_areStatesLike 13 = .ok (.iaload, 1) := by decide +kernel
theorem dX10_areStatesLike_14 : decode cX10_areStatesLike 14 = .ok (.aload_n 0, 1) := by decide +kernel
theorem dX10_areStatesLike_15 : decode cX10_areStatesLike 15 = .ok (.getfield 114, 3) := by decide +kernel
theorem dX10_areStatesLike_18 : decode cX10_areStatesLike 18 = .ok (.iload_n 1, 1) := by decide +kernel
theorem dX10_areStatesLike_19 : decode cX10_areStatesLike 19 = .ok (.iaload, 1) := by decide +kernel
theorem dX10_areStatesLike_20 : decode cX10_areStatesLike 20 = .ok (.if_icmp .eq 5, 3) := by decide +kernel
theorem dX10_areStatesLike_23 : decode cX10_areStatesLike 23 = .ok (.iconst 0, 1) := by decide +kernel
theorem dX10_areStatesLike_24 : decode cX10_areStatesLike 24 = .ok (.ireturn, 1) := by decide +kernel
theorem dX10_areStatesLike_25 : decode cX10_areStatesLike 25 = .ok (.iinc 1 1, 3) := by decide +kernel
theorem dX10_areStatesLike_28 : decode cX10_areStatesLike 28 = .ok (.goto (-26), 3) := by decide +kernel
theorem dX10_areStatesLike_31 : decode cX10_areStatesLike 31 = .ok (.aload_n 0, 1) := by decide +kernel
theorem dX10_areStatesLike_32 : decode cX10_areStatesLike 32 = .ok (.getfield 135, 3) := by decide +kernel
theorem dX10_areStatesLike_35 : decode cX10_areStatesLike 35 = .ok (.bipush 120, 2) := by decide +kernel
theorem dX10_areStatesLike_37 : decode cX10_areStatesLike 37 = .ok (.iaload, 1) := by decide +kernel
theorem dX10_areStatesLike_38 : decode cX10_areStatesLike 38 = .ok (.aload_n 0, 1) := by decide +kernel
theorem dX10_areStatesLike_39 : decode cX10_areStatesLike 39 = .ok (.getfield 114, 3) := by decide +kernel
theorem dX10_areStatesLike_42 : decode cX10_areStatesLike 42 = .ok (.bipush 120, 2) := by decide +kernel
theorem dX10_areStatesLike_44 : decode cX10_areStatesLike 44 = .ok (.iaload, 1) := by decide +kernel
theorem dX10_areStatesLike_45 : decode cX10_areStatesLike 45 = .ok (.if_icmp .ne 20, 3) := by decide +kernel
theorem dX10_areStatesLike_48 : decode cX10_areStatesLike 48 = .ok (.aload_n 0, 1) := by decide +kernel
theorem dX10_areStatesLike_49 : decode cX10_areStatesLike 49 = .ok (.getfield 135, 3) := by decide +kernel
theorem dX10_areStatesLike_52 : decode cX10_areStatesLike 52 = .ok (.bipush 121, 2) := by decide +kernel
theorem dX10_areStatesLike_54 : decode cX10_areStatesLike 54 = .ok (.iaload, 1) := by decide +kernel
theorem dX10_areStatesLike_55 : decode cX10_areStatesLike 55 = .ok (.aload_n 0, 1) := by decide +kernel
theorem dX10_areStatesLike_56 : decode cX10_areStatesLike 56 = .ok (.getfield 114, 3) := by decide +kernel
theorem dX10_areStatesLike_59 : decode cX10_areStatesLike 59 = .ok (.bipush 121, 2) := by decide +kernel
theorem dX10_areStatesLike_61 : decode cX10_areStatesLike 61 = .ok (.iaload, 1) := by decide +kernel
theorem dX10_areStatesLike_62 : decode cX10_areStatesLike 62 = .ok (.if_icmp .eq 5, 3) := by decide +kernel
theorem dX10_areStatesLike_65 : decode cX10_areStatesLike 65 = .ok (.iconst 0, 1) := by decide +kernel
theorem dX10_areStatesLike_66 : decode cX10_areStatesLike 66 = .ok (.ireturn, 1) := by decide +kernel
theorem dX10_areStatesLike_67 : decode cX10_areStatesLike 67 = .ok (.iconst 0, 1) := by decide +kernel
theorem dX10_areStatesLike_68 : decode cX10_areStatesLike 68 = .ok (.istore_n 1, 1) := by decide +kernel
theorem dX10_areStatesLike_69 : decode cX10_areStatesLike 69 = .ok (.iload_n 1, 1) := by decide +kernel
theorem dX10_areStatesLike_70 : decode cX10_areStatesLike 70 = .ok (.aload_n 0, 1) := by decide +kernel
theorem dX10_areStatesLike_71 : decode cX10_areStatesLike 71 = .ok (.getfield 114, 3) := by decide +kernel
theorem dX10_areStatesLike_74 : decode cX10_areStatesLike 74 = .ok (.bipush 121, 2) := by decide +kernel
theorem dX10_areStatesLike_76 : decode cX10_areStatesLike 76 = .ok (.iaload, 1) := by decide +kernel
theorem dX10_areStatesLike_77 : decode cX10_areStatesLike 77 = .ok (.if_icmp .ge 32, 3) := by decide +kernel
theorem dX10_areStatesLike_80 : decode cX10_areStatesLike 80 = .ok (.aload_n 0, 1) := by decide +kernel
theorem dX10_areStatesLike_81 : decode cX10_areStatesLike 81 = .ok (.getfield 135, 3) := by decide +kernel
theorem dX10_areStatesLike_84 : decode cX10_areStatesLike 84 = .ok (.bipush 122, 2) := by decide +kernel
theorem dX10_areStatesLike_86 : decode cX10_areStatesLike 86 = .ok (.iload_n 1, 1) := by decide +kernel
theorem dX10_areStatesLike_87 : decode cX10_areStatesLike 87 = .ok (.iadd, 1) := by decide +kernel
theorem dX10_areStatesLike_88 : decode cX10_areStatesLike 88 = .ok (.iaload, 1) := by decide +kernel
theorem dX10_areStatesLike_89 : decode cX10_areStatesLike 89 = .ok (.aload_n 0, 1) := by decide +kernel
theorem dX10_areStatesLike_90 : decode cX10_areStatesLike 90 = .ok (.getfield 114, 3) := by decide +kernel
theorem dX10_areStatesLike_93 : decode cX10_areStatesLike 93 = .ok (.bipush 122, 2) := by decide +kernel
theorem dX10_areStatesLike_95 : decode cX10_areStatesLike 95 = .ok (.iload_n 1, 1) := by decide +kernel
theorem dX10_areStatesLike_96 : decode cX10_areStatesLike 96 = .ok (.iadd, 1) := by decide +kernel
theorem dX10_areStatesLike_97 : decode cX10_areStatesLike 97 = .ok (.iaload, 1) := by decide +kernel
theorem dX10_areStatesLike_98 : decode cX10_areStatesLike 98 = .ok (.if_icmp .eq 5, 3) := by decide +kernel
theorem dX10_areStatesLike_101 : decode cX10_areStatesLike 101 = .ok (.iconst 0, 1) := by decide +kernel
theorem dX10_areStatesLike_102 : decode cX10_areStatesLike 102 = .ok (.ireturn, 1) := by decide +kernel
theorem dX10_areStatesLike_103 : decode cX10_areStatesLike 103 = .ok (.iinc 1 1, 3) := by decide +kernel
theorem dX10_areStatesLike_106 : decode cX10_areStatesLike 106 = .ok (.goto (-37), 3) := by decide +kernel
theorem dX10_areStatesLike_109 : decode cX10_areStatesLike 109 = .ok (.iconst 1, 1) := by decide +kernel
theorem dX10_areStatesLike_110 : decode cX10_areStatesLike 110 = .ok (.ireturn, 1) := by decide +kernel
theorem dX10_look_0 : decode cX10_look 0 = .ok (.iload_n 1, 1) := by decide +kernel
theorem dX10_look_1 : decode cX10_look 1 = .ok (.iconst 0, 1) := by decide +kernel
theorem dX10_look_2 : decode cX10_look 2 = .ok (.bipush 6, 2) := by decide +kernel
theorem dX10_look_4 : decode cX10_look 4 = .ok (.invokestatic 138, 3) := by decide +kernel
theorem dX10_look_7 : decode cX10_look 7 = .ok (.ifCond .eq 29, 3) := by decide +kernel
theorem dX10_look_10 : decode cX10_look 10 = .ok (.aload_n 0, 1) := by decide +kernel
theorem dX10_look_11 : decode cX10_look 11 = .ok (.getfield 29, 3) := by decide +kernel
theorem dX10_look_14 : decode cX10_look 14 = .ok (.aload_n 0, 1) := by decide +kernel
theorem dX10_look_15 : decode cX10_look 15 = .ok (.invokevirtual 289, 3) := by decide +kernel
theorem dX10_look_18 : decode cX10_look 18 = .ok (.baload, 1) := by decide +kernel
theorem dX10_look_19 : decode cX10_look 19 = .ok (.ifCond .eq 15, 3) := by decide +kernel
theorem dX10_look_22 : decode cX10_look 22 = .ok (.aload_n 0, 1) := by decide +kernel
theorem dX10_look_23 : decode cX10_look 23 = .ok (.aload_n 0, 1) := by decide +kernel
theorem dX10_look_24 : decode cX10_look 24 = .ok (.invokevirtual 289, 3) := by decide +kernel
theorem dX10_look_27 : decode cX10_look 27 = .ok (.iload_n 1, 1) := by decide +kernel
theorem dX10_look_28 : decode cX10_look 28 = .ok (.invokevirtual 380, 3) := by decide +kernel
theorem dX10_look_31 : decode cX10_look 31 = .ok (.goto 4, 3) := by decide +kernel
theorem dX10_look_34 : decode cX10_look 34 = .ok (.iconst 0, 1) := by decide +kernel
theorem dX10_look_35 : decode cX10_look 35 = .ok (.ireturn, 1) := by decide +kernel
theorem dX10_look_36 : decode cX10_look 36 = .ok (.iload_n 1, 1) := by decide +kernel
theorem dX10_look_37 : decode cX10_look 37 = .ok (.tableswitch 76 7 12 #[39, 44, 49, 54, 59, 67], 39) := by decide +kernel
theorem dX10_look_76 : decode cX10_look 76 = .ok (.aload_n 0, 1) := by decide +kernel
theorem dX10_look_77 : decode cX10_look 77 = .ok (.getfield 295, 3) := by decide +kernel
theorem dX10_look_80 : decode cX10_look 80 = .ok (.ireturn, 1) := by decide +kernel
theorem dX10_look_81 : decode cX10_look 81 = .ok (.aload_n 0, 1) := by decide +kernel
theorem dX10_look_82 : decode cX10_look 82 = .ok (.getfield 166, 3) := by decide +kernel
theorem dX10_look_85 : decode cX10_look 85 = .ok (.ireturn, 1) := by decide +kernel
theorem dX10_look_86 : decode cX10_look 86 = .ok (.aload_n 0, 1) := by decide +kernel
theorem dX10_look_87 : decode cX10_look 87 = .ok (.getfield 108, 3) := by decide +kernel
theorem dX10_look_90 : decode cX10_look 90 = .ok (.ireturn, 1) := by decide +kernel
theorem dX10_look_91 : decode cX10_look 91 = .ok (.aload_n 0, 1) := by decide +kernel
theorem dX10_look_92 : decode cX10_look 92 = .ok (.getfield 276, 3) := by decide +kernel
theorem dX10_look_95 : decode cX10_look 95 = .ok (.ireturn, 1) := by decide +kernel
theorem dX10_look_96 : decode cX10_look 96 = .ok (.aload_n 0, 1) := by decide +kernel
theorem dX10_look_97 : decode cX10_look 97 = .ok (.iconst 0, 1) := by decide +kernel
theorem dX10_look_98 : decode cX10_look 98 = .ok (.bipush 8, 2) := by decide +kernel
theorem dX10_look_100 : decode cX10_look 100 = .ok (.invokevirtual 383, 3) := by decide +kernel
theorem dX10_look_103 : decode cX10_look 103 = .ok (.ireturn, 1) := by decide +kernel
theorem dX10_look_104 : decode cX10_look 104 = .ok (.aload_n 0, 1) := by decide +kernel
theorem dX10_look_105 : decode cX10_look 105 = .ok (.bipush 8, 2) := by decide +kernel
theorem dX10_look_107 : decode cX10_look 107 = .ok (.bipush 32, 2) := by decide +kernel
theorem dX10_look_109 : decode cX10_look 109 = .ok (.invokevirtual 383, 3) := by decide +kernel
theorem dX10_look_112 : decode cX10_look 112 = .ok (.ireturn, 1) := by decide +kernel
theorem dX10_look_113 : decode cX10_look 113 = .ok (.ldc_w 304, 3) := by decide +kernel
theorem dX10_look_116 : decode cX10_look 116 = .ok (.ireturn, 1) := by decide +kernel
theorem dX10_ofRun_0 : decode cX10_ofRun 0 = .ok (.iload_n 2, 1) := by decide +kernel
theorem dX10_ofRun_1 : decode cX10_ofRun 1 = .ok (.tableswitch 93 0 5 #[39, 46, 65, 72, 79, 86], 39) := by decide +kernel
theorem dX10_ofRun_40 : decode cX10_ofRun 40 = .ok (.aload_n 0, 1) := by decide +kernel
theorem dX10_ofRun_41 : decode cX10_ofRun 41 = .ok (.getfield 78, 3) := by decide +kernel
theorem dX10_ofRun_44 : decode cX10_ofRun 44 = .ok (.iload_n 1, 1) := by decide +kernel
theorem dX10_ofRun_45 : decode cX10_ofRun 45 = .ok (.iaload, 1) := by decide +kernel
theorem dX10_ofRun_46 : decode cX10_ofRun 46 = .ok (.ireturn, 1) := by decide +kernel
theorem dX10_ofRun_47 : decode cX10_ofRun 47 = .ok (.iload_n 1, 1) := by decide +kernel
theorem dX10_ofRun_48 : decode cX10_ofRun 48 = .ok (.iconst 4, 1) := by decide +kernel
theorem dX10_ofRun_49 : decode cX10_ofRun 49 = .ok (.if_icmp .ne 10, 3) := by decide +kernel
theorem dX10_ofRun_52 : decode cX10_ofRun 52 = .ok (.aload_n 0, 1) := by decide +kernel
theorem dX10_ofRun_53 : decode cX10_ofRun 53 = .ok (.invokevirtual 258, 3) := by decide +kernel
theorem dX10_ofRun_56 : decode cX10_ofRun 56 = .ok (.goto 9, 3) := by decide +kernel
theorem dX10_ofRun_59 : decode cX10_ofRun 59 = .ok (.aload_n 0, 1) := by decide +kernel
theorem dX10_ofRun_60 : decode cX10_ofRun 60 = .ok (.getfield 81, 3) := by decide +kernel
theorem dX10_ofRun_63 : decode cX10_ofRun 63 = .ok (.iload_n 1, 1) := by decide +kernel
theorem dX10_ofRun_64 : decode cX10_ofRun 64 = .ok (.iaload, 1) := by decide +kernel
theorem dX10_ofRun_65 : decode cX10_ofRun 65 = .ok (.ireturn, 1) := by decide +kernel
theorem dX10_ofRun_66 : decode cX10_ofRun 66 = .ok (.aload_n 0, 1) := by decide +kernel
theorem dX10_ofRun_67 : decode cX10_ofRun 67 = .ok (.getfield 90, 3) := by decide +kernel
theorem dX10_ofRun_70 : decode cX10_ofRun 70 = .ok (.iload_n 1, 1) := by decide +kernel
theorem dX10_ofRun_71 : decode cX10_ofRun 71 = .ok (.iaload, 1) := by decide +kernel
theorem dX10_ofRun_72 : decode cX10_ofRun 72 = .ok (.ireturn, 1) := by decide +kernel
theorem dX10_ofRun_73 : decode cX10_ofRun 73 = .ok (.aload_n 0, 1) := by decide +kernel
theorem dX10_ofRun_74 : decode cX10_ofRun 74 = .ok (.getfield 93, 3) := by decide +kernel
theorem dX10_ofRun_77 : decode cX10_ofRun 77 = .ok (.iload_n 1, 1) := by decide +kernel
theorem dX10_ofRun_78 : decode cX10_ofRun 78 = .ok (.iaload, 1) := by decide +kernel
theorem dX10_ofRun_79 : decode cX10_ofRun 79 = .ok (.ireturn, 1) := by decide +kernel
theorem dX10_ofRun_80 : decode cX10_ofRun 80 = .ok (.aload_n 0, 1) := by decide +kernel
theorem dX10_ofRun_81 : decode cX10_ofRun 81 = .ok (.getfield 84, 3) := by decide +kernel
theorem dX10_ofRun_84 : decode cX10_ofRun 84 = .ok (.iload_n 1, 1) := by decide +kernel
theorem dX10_ofRun_85 : decode cX10_ofRun 85 = .ok (.iaload, 1) := by decide +kernel
theorem dX10_ofRun_86 : decode cX10_ofRun 86 = .ok (.ireturn, 1) := by decide +kernel
theorem dX10_ofRun_87 : decode cX10_ofRun 87 = .ok (.aload_n 0, 1) := by decide +kernel
theorem dX10_ofRun_88 : decode cX10_ofRun 88 = .ok (.getfield 87, 3) := by decide +kernel
theorem dX10_ofRun_91 : decode cX10_ofRun 91 = .ok (.iload_n 1, 1) := by decide +kernel
theorem dX10_ofRun_92 : decode cX10_ofRun 92 = .ok (.iaload, 1) := by decide +kernel
theorem dX10_ofRun_93 : decode cX10_ofRun 93 = .ok (.ireturn, 1) := by decide +kernel
theorem dX10_ofRun_94 : decode cX10_ofRun 94 = .ok (.aload_n 0, 1) := by decide +kernel
theorem dX10_ofRun_95 : decode cX10_ofRun 95 = .ok (.getfield 96, 3) := by decide +kernel
theorem dX10_ofRun_98 : decode cX10_ofRun 98 = .ok (.iload_n 1, 1) := by decide +kernel
theorem dX10_ofRun_99 : decode cX10_ofRun 99 = .ok (.iaload, 1) := by decide +kernel
theorem dX10_ofRun_100 : decode cX10_ofRun 100 = .ok (.ireturn, 1) := by decide +kernel
theorem dX10_parts_0 : decode cX10_parts 0 = .ok (.aload_n 0, 1) := by decide +kernel
theorem dX10_parts_1 : decode cX10_parts 1 = .ok (.iload_n 1, 1) := by decide +kernel
theorem dX10_parts_2 : decode cX10_parts 2 = .ok (.invokevirtual 352, 3) := by decide +kernel
theorem dX10_parts_5 : decode cX10_parts 5 = .ok (.ifCond .eq 11, 3) := by decide +kernel
theorem dX10_parts_8 : decode cX10_parts 8 = .ok (.aload_n 0, 1) := by decide +kernel
theorem dX10_parts_9 : decode cX10_parts 9 = .ok (.iload_n 2, 1) := by decide +kernel
theorem dX10_parts_10 : decode cX10_parts 10 = .ok (.invokevirtual 352, 3) := by decide +kernel
theorem dX10_parts_13 : decode cX10_parts 13 = .ok (.ifCond .ne 6, 3) := by decide +kernel
theorem dX10_parts_16 : decode cX10_parts 16 = .ok (.bipush (-2), 2) := by decide +kernel
theorem dX10_parts_18 : decode cX10_parts 18 = .ok (.ireturn, 1) := by decide +kernel
theorem dX10_parts_19 : decode cX10_parts 19 = .ok (.iload_n 1, 1) := by decide +kernel
theorem dX10_parts_20 : decode cX10_parts 20 = .ok (.iconst (-1), 1) := by decide +kernel
theorem dX10_parts_21 : decode cX10_parts 21 = .ok (.if_icmp .ne 7, 3) := by decide +kernel
theorem dX10_parts_24 : decode cX10_parts 24 = .ok (.iconst 4, 1) := by decide +kernel
theorem dX10_parts_25 : decode cX10_parts 25 = .ok (.goto 4, 3) := by decide +kernel
theorem dX10_parts_28 : decode cX10_parts 28 = .ok (.iload_n 1, 1) := by decide +kernel
theorem dX10_parts_29 : decode cX10_parts 29 = .ok (.istore_n 3, 1) := by decide +kernel
theorem dX10_parts_30 : decode cX10_parts 30 = .ok (.iload_n 2, 1) := by decide +kernel
theorem dX10_parts_31 : decode cX10_parts 31 = .ok (.iconst (-1), 1) := by decide +kernel
theorem dX10_parts_32 : decode cX10_parts 32 = .ok (.if_icmp .ne 7, 3) := by decide +kernel
theorem dX10_parts_35 : decode cX10_parts 35 = .ok (.iconst 4, 1) := by decide +kernel
theorem dX10_parts_36 : decode cX10_parts 36 = .ok (.goto 4, 3) := by decide +kernel
theorem dX10_parts_39 : decode cX10_parts 39 = .ok (.iload_n 2, 1) := by decide +kernel
theorem dX10_parts_40 : decode cX10_parts 40 = .ok (.istore 4, 2) := by decide +kernel
theorem dX10_parts_42 : decode cX10_parts 42 = .ok (.aload_n 0, 1) := by decide +kernel
theorem dX10_parts_43 : decode cX10_parts 43 = .ok (.iload_n 3, 1) := by decide +kernel
theorem dX10_parts_44 : decode cX10_parts 44 = .ok (.invokevirtual 270, 3) := by decide +kernel
theorem dX10_parts_47 : decode cX10_parts 47 = .ok (.aload_n 0, 1) := by decide +kernel
theorem dX10_parts_48 : decode cX10_parts 48 = .ok (.invokevirtual 373, 3) := by decide +kernel
theorem dX10_parts_51 : decode cX10_parts 51 = .ok (.aload_n 0, 1) := by decide +kernel
theorem dX10_parts_52 : decode cX10_parts 52 = .ok (.iload 4, 2) := by decide +kernel
theorem dX10_parts_54 : decode cX10_parts 54 = .ok (.invokevirtual 270, 3) := by decide +kernel
theorem dX10_parts_57 : decode cX10_parts 57 = .ok (.iconst (-1), 1) := by decide +kernel
theorem dX10_parts_58 : decode cX10_parts 58 = .ok (.istore 5, 2) := by decide +kernel
theorem dX10_parts_60 : decode cX10_parts 60 = .ok (.aload_n 0, 1) := by decide +kernel
theorem dX10_parts_61 : decode cX10_parts 61 = .ok (.getfield 78, 3) := by decide +kernel
theorem dX10_parts_64 : decode cX10_parts 64 = .ok (.iload_n 3, 1) := by decide +kernel
theorem dX10_parts_65 : decode cX10_parts 65 = .ok (.iaload, 1) := by decide +kernel
theorem dX10_parts_66 : decode cX10_parts 66 = .ok (.aload_n 0, 1) := by decide +kernel
theorem dX10_parts_67 : decode cX10_parts 67 = .ok (.getfield 78, 3) := by decide +kernel
theorem dX10_parts_70 : decode cX10_parts 70 = .ok (.iload 4, 2) := by decide +kernel
theorem dX10_parts_72 : decode cX10_parts 72 = .ok (.iaload, 1) := by decide +kernel
theorem dX10_parts_73 : decode cX10_parts 73 = .ok (.invokestatic 195, 3) := by decide +kernel
theorem dX10_parts_76 : decode cX10_parts 76 = .ok (.istore 6, 2) := by decide +kernel
theorem dX10_parts_78 : decode cX10_parts 78 = .ok (.iconst 0, 1) := by decide +kernel
theorem dX10_parts_79 : decode cX10_parts 79 = .ok (.istore 7, 2) := by decide +kernel
theorem dX10_parts_81 : decode cX10_parts 81 = .ok (.iload 7, 2) := by decide +kernel
theorem dX10_parts_83 : decode cX10_parts 83 = .ok (.iload 6, 2) := by decide +kernel
theorem dX10_parts_85 : decode cX10_parts 85 = .ok (.if_icmp .gt 52, 3) := by decide +kernel
theorem dX10_parts_88 : decode cX10_parts 88 = .ok (.iload 5, 2) := by decide +kernel
theorem dX10_parts_90 : decode cX10_parts 90 = .ok (.iconst (-1), 1) := by decide +kernel
theorem dX10_parts_91 : decode cX10_parts 91 = .ok (.if_icmp .ne 46, 3) := by decide +kernel
theorem dX10_parts_94 : decode cX10_parts 94 = .ok (.aload_n 0, 1) := by decide +kernel
theorem dX10_parts_95 : decode cX10_parts 95 = .ok (.invokevirtual 376, 3) := by decide +kernel
theorem dX10_parts_98 : decode cX10_parts 98 = .ok (.ifCond .ne 7, 3) := by decide +kernel
theorem dX10_parts_101 : decode cX10_parts 101 = .ok (.iload 7, 2) := by decide +kernel
theorem dX10_parts_103 : decode cX10_parts 103 = .ok (.istore 5, 2) := by decide +kernel
theorem dX10_parts_105 : decode cX10_parts 105 = .ok (.iload 7, 2) := by decide +kernel
theorem dX10_parts_107 : decode cX10_parts 107 = .ok (.iload 6, 2) := by decide +kernel
theorem dX10_parts_109 : decode cX10_parts 109 = .ok (.if_icmp .ne 6, 3) := by decide +kernel
theorem dX10_parts_112 : decode cX10_parts 112 = .ok (.goto 19, 3) := by decide +kernel
theorem dX10_parts_115 : decode cX10_parts 115 = .ok (.aload_n 0, 1) := by decide +kernel
theorem dX10_parts_116 : decode cX10_parts 116 = .ok (.invokevirtual 273, 3) := by decide +kernel
theorem dX10_parts_119 : decode cX10_parts 119 = .ok (.aload_n 0, 1) := by decide +kernel
theorem dX10_parts_120 : decode cX10_parts 120 = .ok (.invokevirtual 373, 3) := by decide +kernel
theorem dX10_parts_123 : decode cX10_parts 123 = .ok (.aload_n 0, 1) := by decide +kernel
theorem dX10_parts_124 : decode cX10_parts 124 = .ok (.invokevirtual 273, 3) := by decide +kernel
theorem dX10_parts_127 : decode cX10_parts 127 = .ok (.aload_n 0, 1) := by decide +kernel
theorem dX10_parts_128 : decode cX10_parts 128 = .ok (.invokevirtual 373, 3) := by decide +kernel
theorem dX10_parts_131 : decode cX10_parts 131 = .ok (.iinc 7 1, 3) := by decide +kernel
theorem dX10_parts_134 : decode cX10_parts 134 = .ok (.goto (-53), 3) := by decide +kernel
theorem dX10_parts_137 : decode cX10_parts 137 = .ok (.aload_n 0, 1) := by decide +kernel
theorem dX10_parts_138 : decode cX10_parts 138 = .ok (.iconst (-1), 1) := by decide +kernel
theorem dX10_parts_139 : decode cX10_parts 139 = .ok (.putfield 117, 3) := by decide +kernel
theorem dX10_parts_142 : decode cX10_parts 142 = .ok (.iload 5, 2) := by decide +kernel
theorem dX10_parts_144 : decode cX10_parts 144 = .ok (.ireturn, 1) := by decide +kernel
theorem dX10_swaps_0 : decode cX10_swaps 0 = .ok (.iconst 0, 1) := by decide +kernel
theorem dX10_swaps_1 : decode cX10_swaps 1 = .ok (.istore_n 1, 1) := by decide +kernel
theorem dX10_swaps_2 : decode cX10_swaps 2 = .ok (.iload_n 1, 1) := by decide +kernel
theorem dX10_swaps_3 : decode cX10_swaps 3 = .ok (.sipush 134, 3) := by decide +kernel
theorem dX10_swaps_6 : decode cX10_swaps 6 = .ok (.if_icmp .ge 35, 3) := by decide +kernel
theorem dX10_swaps_9 : decode cX10_swaps 9 = .ok (.aload_n 0, 1) := by decide +kernel
theorem dX10_swaps_10 : decode cX10_swaps 10 = .ok (.getfield 135, 3) := by decide +kernel
theorem dX10_swaps_13 : decode cX10_swaps 13 = .ok (.iload_n 1, 1) := by decide +kernel
theorem dX10_swaps_14 : decode cX10_swaps 14 = .ok (.iaload, 1) := by decide +kernel
theorem dX10_swaps_15 : decode cX10_swaps 15 = .ok (.istore_n 2, 1) := by decide +kernel
theorem dX10_swaps_16 : decode cX10_swaps 16 = .ok (.aload_n 0, 1) := by decide +kernel
theorem dX10_swaps_17 : decode cX10_swaps 17 = .ok (.getfield 135, 3) := by decide +kernel
theorem dX10_swaps_20 : decode cX10_swaps 20 = .ok (.iload_n 1, 1) := by decide +kernel
theorem dX10_swaps_21 : decode cX10_swaps 21 = .ok (.aload_n 0, 1) := by decide +kernel
theorem dX10_swaps_22 : decode cX10_swaps 22 = .ok (.getfield 114, 3) := by decide +kernel
theorem dX10_swaps_25 : decode cX10_swaps 25 = .ok (.iload_n 1, 1) := by decide +kernel
theorem dX10_swaps_26 : decode cX10_swaps 26 = .ok (.iaload, 1) := by decide +kernel
theorem dX10_swaps_27 : decode cX10_swaps 27 = .ok (.iastore, 1) := by decide +kernel
theorem dX10_swaps_28 : decode cX10_swaps 28 = .ok (.aload_n 0, 1) := by decide +kernel
theorem dX10_swaps_29 : decode cX10_swaps 29 = .ok (.getfield 114, 3) := by decide +kernel
theorem dX10_swaps_32 : decode cX10_swaps 32 = .ok (.iload_n 1, 1) := by decide +kernel
theorem dX10_swaps_33 : decode cX10_swaps 33 = .ok (.iload_n 2, 1) := by decide +kernel
theorem dX10_swaps_34 : decode cX10_swaps 34 = .ok (.iastore, 1) := by decide +kernel
theorem dX10_swaps_35 : decode cX10_swaps 35 = .ok (.iinc 1 1, 3) := by decide +kernel
theorem dX10_swaps_38 : decode cX10_swaps 38 = .ok (.goto (-36), 3) := by decide +kernel
theorem dX10_swaps_41 : decode cX10_swaps 41 = .ok (.aload_n 0, 1) := by decide +kernel
theorem dX10_swaps_42 : decode cX10_swaps 42 = .ok (.getfield 367, 3) := by decide +kernel
theorem dX10_swaps_45 : decode cX10_swaps 45 = .ok (.istore_n 1, 1) := by decide +kernel
theorem dX10_swaps_46 : decode cX10_swaps 46 = .ok (.aload_n 0, 1) := by decide +kernel
theorem dX10_swaps_47 : decode cX10_swaps 47 = .ok (.aload_n 0, 1) := by decide +kernel
theorem dX10_swaps_48 : decode cX10_swaps 48 = .ok (.getfield 117, 3) := by decide +kernel
theorem dX10_swaps_51 : decode cX10_swaps 51 = .ok (.putfield 367, 3) := by decide +kernel
theorem dX10_swaps_54 : decode cX10_swaps 54 = .ok (.aload_n 0, 1) := by decide +kernel
theorem dX10_swaps_55 : decode cX10_swaps 55 = .ok (.iload_n 1, 1) := by decide +kernel
theorem dX10_swaps_56 : decode cX10_swaps 56 = .ok (.putfield 117, 3) := by decide +kernel
theorem dX10_swaps_59 : decode cX10_swaps 59 = .ok (.aload_n 0, 1) := by decide +kernel
theorem dX10_swaps_60 : decode cX10_swaps 60 = .ok (.getfield 370, 3) := by decide +kernel
theorem dX10_swaps_63 : decode cX10_swaps 63 = .ok (.istore_n 2, 1) := by decide +kernel
theorem dX10_swaps_64 : decode cX10_swaps 64 = .ok (.aload_n 0, 1) := by decide +kernel
theorem dX10_swaps_65 : decode cX10_swaps 65 = .ok (.aload_n 0, 1) := by decide +kernel
theorem dX10_swaps_66 : decode cX10_swaps 66 = .ok (.getfield 264, 3) := by decide +kernel
theorem dX10_swaps_69 : decode cX10_swaps 69 = .ok (.putfield 370, 3) := by decide +kernel
theorem dX10_swaps_72 : decode cX10_swaps 72 = .ok (.aload_n 0, 1) := by decide +kernel
theorem dX10_swaps_73 : decode cX10_swaps 73 = .ok (.iload_n 2, 1) := by decide +kernel
theorem dX10_swaps_74 : decode cX10_swaps 74 = .ok (.putfield 264, 3) := by decide +kernel
theorem dX10_swaps_77 : decode cX10_swaps 77 = .ok (.return_, 1) := by decide +kernel
theorem dX10_watchedOf_0 : decode cX10_watchedOf 0 = .ok (.iconst 0, 1) := by decide +kernel
theorem dX10_watchedOf_1 : decode cX10_watchedOf 1 = .ok (.istore_n 3, 1) := by decide +kernel
theorem dX10_watchedOf_2 : decode cX10_watchedOf 2 = .ok (.iconst 0, 1) := by decide +kernel
theorem dX10_watchedOf_3 : decode cX10_watchedOf 3 = .ok (.istore 4, 2) := by decide +kernel
theorem dX10_watchedOf_5 : decode cX10_watchedOf 5 = .ok (.iload 4, 2) := by decide +kernel
theorem dX10_watchedOf_7 : decode cX10_watchedOf 7 = .ok (.iload_n 2, 1) := by decide +kernel
theorem dX10_watchedOf_8 : decode cX10_watchedOf 8 = .ok (.if_icmp .ge 32, 3) := by decide +kernel
theorem dX10_watchedOf_11 : decode cX10_watchedOf 11 = .ok (.iload_n 3, 1) := by decide +kernel
theorem dX10_watchedOf_12 : decode cX10_watchedOf 12 = .ok (.aload_n 0, 1) := by decide +kernel
theorem dX10_watchedOf_13 : decode cX10_watchedOf 13 = .ok (.getfield 111, 3) := by decide +kernel
theorem dX10_watchedOf_16 : decode cX10_watchedOf 16 = .ok (.iload_n 1, 1) := by decide +kernel
theorem dX10_watchedOf_17 : decode cX10_watchedOf 17 = .ok (.iload 4, 2) := by decide +kernel
theorem dX10_watchedOf_19 : decode cX10_watchedOf 19 = .ok (.iadd, 1) := by decide +kernel
theorem dX10_watchedOf_20 : decode cX10_watchedOf 20 = .ok (.baload, 1) := by decide +kernel
theorem dX10_watchedOf_21 : decode cX10_watchedOf 21 = .ok (.ifCond .eq 10, 3) := by decide +kernel
theorem dX10_watchedOf_24 : decode cX10_watchedOf 24 = .ok (.iconst 1, 1) := by decide +kernel
theorem dX10_watchedOf_25 : decode cX10_watchedOf 25 = .ok (.iload 4, 2) := by decide +kernel
theorem dX10_watchedOf_27 : decode cX10_watchedOf 27 = .ok (.ishl, 1) := by decide +kernel
theorem dX10_watchedOf_28 : decode cX10_watchedOf 28 = .ok (.goto 4, 3) := by decide +kernel
theorem dX10_watchedOf_31 : decode cX10_watchedOf 31 = .ok (.iconst 0, 1) := by decide +kernel
theorem dX10_watchedOf_32 : decode cX10_watchedOf 32 = .ok (.ior, 1) := by decide +kernel
theorem dX10_watchedOf_33 : decode cX10_watchedOf 33 = .ok (.istore_n 3, 1) := by decide +kernel
theorem dX10_watchedOf_34 : decode cX10_watchedOf 34 = .ok (.iinc 4 1, 3) := by decide +kernel
theorem dX10_watchedOf_37 : decode cX10_watchedOf 37 = .ok (.goto (-32), 3) := by decide +kernel
theorem dX10_watchedOf_40 : decode cX10_watchedOf 40 = .ok (.iload_n 3, 1) := by decide +kernel
theorem dX10_watchedOf_41 : decode cX10_watchedOf 41 = .ok (.ireturn, 1) := by decide +kernel
def g_X10_swaps_l2 (F : Nat) (l1 : Int32) (u : rg_U) : Option ((Int32 × rg_U) ⊕ rg_U) :=
  if 134 ≤ l1 then (some (.inr u)) else (ck (inb l1 134) (ck (inb l1 134) (ck (inb l1 134) (lt1 (sA u 37 l1 (rA u 31 l1)) (fun u5 => ck (inb l1 134) (lt1 (sA u5 31 l1 (rA u 37 l1)) (fun u11 => some (.inl ((l1 + 1), u11)))))))))
set_option maxHeartbeats 4000000 in
set_option maxRecDepth 100000 in
theorem k_X10_swaps_l2 {gs : List String} {ro : pm_RO} {n : Nat} {w w1 : Nat → va_E} {b : Nat} {u : rg_U} {F : Nat} {l1 : Int32} {z : (Int32 × rg_U) ⊕ rg_U} {Q : Option Value → Nat → (Nat → va_E) → Prop} (hR : rg shM b u n w1) (hk : rg_k b shM.length w w1) (h : g_X10_swaps_l2 F l1 u = some z) (hc : ∀ s', z = .inl s' → ∀ w1, rg shM b s'.2 n w1 → rg_k b shM.length w w1 → pm_X gs ro M_X10_swaps 0 0 0 0 0 2 [some (.ref (b + 0)), some (.int s'.1), none] [] n w1 Q) (he0 : ∀ r', z = .inr r' → ∀ w1, rg shM b r' n w1 → rg_k b shM.length w w1 → pm_X gs ro M_X10_swaps 0 0 0 0 0 41 [some (.ref (b + 0)), none, none] [] n w1 Q) : pm_X gs ro M_X10_swaps 0 0 0 0 0 2 [some (.ref (b + 0)), some (.int l1), none] [] n w1 Q := by
  unfold g_X10_swaps_l2 at h
  refine pm_iload_n dX10_swaps_2 rfl ?_
  refine pm_sipush (v := 134) dX10_swaps_3 (by decide) ?_
  refine pm_icmp_ge (tgt := 41) dX10_swaps_6 (by decide) (fun c1 => ?_) (fun c1 => ?_)
  · replace h := it_t c1 h
    refine pm_lw (L' := [some (.ref (b + 0)), none, none]) ⟨Or.inr rfl, Or.inl rfl, Or.inl rfl, trivial⟩ ?_
    exact he0 _ (Option.some.inj h).symm _ hR hk
  · replace h := it_f c1 h
    refine pm_aload_n dX10_swaps_9 rfl ?_
    refine dx_gr (j := 0) (o := 37) hR dX10_swaps_10 fl_X10_135 rfl rfl ?_
    refine pm_iload_n dX10_swaps_13 rfl ?_
    obtain ⟨c2, h⟩ := ck_some h
    refine dx_al (j := 37) hR dX10_swaps_14 rfl (vp_in_iff.mpr c2) ?_
    refine pm_istore_n dX10_swaps_15 (by decide) rfl rfl ?_
    refine pm_aload_n dX10_swaps_16 rfl ?_
    refine dx_gr (j := 0) (o := 37) hR dX10_swaps_17 fl_X10_135 rfl rfl ?_
    refine pm_iload_n dX10_swaps_20 rfl ?_
    refine pm_aload_n dX10_swaps_21 rfl ?_
    refine dx_gr (j := 0) (o := 31) hR dX10_swaps_22 fl_X10_114 rfl rfl ?_
    refine pm_iload_n dX10_swaps_25 rfl ?_
    obtain ⟨c3, h⟩ := ck_some h
    refine dx_al (j := 31) hR dX10_swaps_26 rfl (vp_in_iff.mpr c3) ?_
    obtain ⟨c4, h⟩ := ck_some h
    obtain ⟨u5, hu6, h⟩ := lt1_ex h
    refine dx_as (j := 37) hR hk dX10_swaps_27 rfl (vp_in_iff.mpr c4) hu6 (fun w7 hR8 hk9 => ?_)
    refine pm_aload_n dX10_swaps_28 rfl ?_
    refine dx_gr (j := 0) (o := 31) hR8 dX10_swaps_29 fl_X10_114 rfl rfl ?_
    refine pm_iload_n dX10_swaps_32 rfl ?_
    refine pm_iload_n dX10_swaps_33 rfl ?_
    obtain ⟨c10, h⟩ := ck_some h
    obtain ⟨u11, hu12, h⟩ := lt1_ex h
    refine dx_as (j := 31) hR8 hk9 dX10_swaps_34 rfl (vp_in_iff.mpr c10) hu12 (fun w13 hR14 hk15 => ?_)
    refine pm_iinc (v := (l1 + 1)) dX10_swaps_35 rfl rfl (by decide) rfl rfl ?_
    refine pm_goto (tgt := 2) dX10_swaps_38 (by decide) ?_
    refine pm_lw (L' := [some (.ref (b + 0)), some (.int (l1 + 1)), none]) ⟨Or.inr rfl, Or.inr rfl, Or.inl rfl, trivial⟩ ?_
    exact hc _ (Option.some.inj h).symm _ hR14 hk15
def g_X10_swaps (F : Nat)  (u : rg_U) : Option rg_U :=
  ob (lp (fun (s : (Int32 × rg_U)) => g_X10_swaps_l2 F s.1 s.2) F ((0 : Int32), u)) (fun r16 => lt1 (sF r16 0 53 (rF r16 0 41)) (fun u21 => lt1 (sF u21 0 41 (rF r16 0 53)) (fun u26 => lt1 (sF u26 0 54 (rF u26 0 42)) (fun u31 => lt1 (sF u31 0 42 (rF u26 0 54)) (fun u36 => some u36)))))
set_option maxHeartbeats 4000000 in
set_option maxRecDepth 100000 in
theorem k_X10_swaps {gs : List String} {ro : pm_RO} {n : Nat} {w : Nat → va_E} {b : Nat} {u : rg_U} {F : Nat}  {z : rg_U} (hR : rg shM b u n w) (h : g_X10_swaps F u = some z) : pm_Met gs ro M_X10_swaps 0 0 0 [.ref (b + 0)] n w (rg_post shM b n w none z) := by
  unfold g_X10_swaps at h
  refine pm_ofX in_X10_swaps (Nat.le_of_ble_eq_true rfl) rfl (L := [some (.ref (b + 0)), none, none]) rfl ?_
  refine pm_iconst (v := 0) dX10_swaps_0 (by decide) ?_
  refine pm_istore_n dX10_swaps_1 (by decide) rfl rfl ?_
  obtain ⟨r16, h17, h⟩ := ob_some h
  refine lp_sound (P := fun (s : (Int32 × rg_U)) => ∀ w1, rg shM b s.2 n w1 → rg_k b shM.length w w1 → pm_X gs ro M_X10_swaps 0 0 0 0 0 2 [some (.ref (b + 0)), some (.int s.1), none] [] n w1 (rg_post shM b n w none z)) (E := (fun (r : rg_U) => ∀ w1, rg shM b r n w1 → rg_k b shM.length w w1 → pm_X gs ro M_X10_swaps 0 0 0 0 0 41 [some (.ref (b + 0)), none, none] [] n w1 (rg_post shM b n w none z))) (fun s x hx hc he w1 hR1 hk1 => k_X10_swaps_l2 hR1 hk1 hx hc (fun r q => he r q)) F _ r16 h17 ?_ _ hR rg_k0
  intro w18 hR19 hk20
  refine pm_aload_n dX10_swaps_41 rfl ?_
  refine dx_gi (j := 0) hR19 dX10_swaps_42 fl_X10_367 rfl rfl ?_
  refine pm_istore_n dX10_swaps_45 (by decide) rfl rfl ?_
  refine pm_aload_n dX10_swaps_46 rfl ?_
  refine pm_aload_n dX10_swaps_47 rfl ?_
  refine dx_gi (j := 0) hR19 dX10_swaps_48 fl_X10_117 rfl rfl ?_
  obtain ⟨u21, hu22, h⟩ := lt1_ex h
  refine dx_pi (j := 0) hR19 hk20 dX10_swaps_51 fl_X10_367 rfl rfl hu22 (fun w23 hR24 hk25 => ?_)
  refine pm_aload_n dX10_swaps_54 rfl ?_
  refine pm_iload_n dX10_swaps_55 rfl ?_
  obtain ⟨u26, hu27, h⟩ := lt1_ex h
  refine dx_pi (j := 0) hR24 hk25 dX10_swaps_56 fl_X10_117 rfl rfl hu27 (fun w28 hR29 hk30 => ?_)
  refine pm_aload_n dX10_swaps_59 rfl ?_
  refine dx_gi (j := 0) hR29 dX10_swaps_60 fl_X10_370 rfl rfl ?_
  refine pm_istore_n dX10_swaps_63 (by decide) rfl rfl ?_
  refine pm_aload_n dX10_swaps_64 rfl ?_
  refine pm_aload_n dX10_swaps_65 rfl ?_
  refine dx_gi (j := 0) hR29 dX10_swaps_66 fl_X10_264 rfl rfl ?_
  obtain ⟨u31, hu32, h⟩ := lt1_ex h
  refine dx_pi (j := 0) hR29 hk30 dX10_swaps_69 fl_X10_370 rfl rfl hu32 (fun w33 hR34 hk35 => ?_)
  refine pm_aload_n dX10_swaps_72 rfl ?_
  refine pm_iload_n dX10_swaps_73 rfl ?_
  obtain ⟨u36, hu37, h⟩ := lt1_ex h
  refine dx_pi (j := 0) hR34 hk35 dX10_swaps_74 fl_X10_264 rfl rfl hu37 (fun w38 hR39 hk40 => ?_)
  cases h
  exact pm_vret dX10_swaps_77 rfl (Nat.le_refl _) (Nat.le_refl _) ⟨rfl, rfl, hR39, hk40⟩
def g_X10_areStatesLike_l2 (F : Nat) (u : rg_U) (l1 : Int32) : Option (Int32 ⊕ (Unit ⊕ Unit)) :=
  if 80 ≤ l1 then (some (.inr (Sum.inr ()))) else (ck (inb l1 134) (ck (inb l1 134) (if (rA u 37 l1) = (rA u 31 l1) then (some (.inl (l1 + 1))) else (some (.inr (Sum.inl ()))))))
set_option maxHeartbeats 4000000 in
set_option maxRecDepth 100000 in
theorem k_X10_areStatesLike_l2 {gs : List String} {ro : pm_RO} {n : Nat} {w : Nat → va_E} {b : Nat} {u : rg_U} {F : Nat} {l1 : Int32} {z : Int32 ⊕ (Unit ⊕ Unit)} {Q : Option Value → Nat → (Nat → va_E) → Prop} (hR : rg shM b u n w) (h : g_X10_areStatesLike_l2 F u l1 = some z) (hc : ∀ s', z = .inl s' → pm_X gs ro M_X10_areStatesLike 0 0 0 0 0 2 [some (.ref (b + 0)), some (.int s')] [] n w Q) (he0 : ∀ r', z = .inr (Sum.inl r') → pm_X gs ro M_X10_areStatesLike 0 0 0 0 0 23 [none, none] [] n w Q) (he1 : ∀ r', z = .inr (Sum.inr r') → pm_X gs ro M_X10_areStatesLike 0 0 0 0 0 31 [some (.ref (b + 0)), none] [] n w Q) : pm_X gs ro M_X10_areStatesLike 0 0 0 0 0 2 [some (.ref (b + 0)), some (.int l1)] [] n w Q := by
  unfold g_X10_areStatesLike_l2 at h
  refine pm_iload_n dX10_areStatesLike_2 rfl ?_
  refine pm_bipush (v := 80) dX10_areStatesLike_3 (by decide) ?_
  refine pm_icmp_ge (tgt := 31) dX10_areStatesLike_5 (by decide) (fun c1 => ?_) (fun c1 => ?_)
  · replace h := it_t c1 h
    refine pm_lw (L' := [some (.ref (b + 0)), none]) ⟨Or.inr rfl, Or.inl rfl, trivial⟩ ?_
    exact he1 _ (Option.some.inj h).symm
  · replace h := it_f c1 h
    refine pm_aload_n dX10_areStatesLike_8 rfl ?_
    refine dx_gr (j := 0) (o := 37) hR dX10_areStatesLike_9 fl_X10_135 rfl rfl ?_
    refine pm_iload_n dX10_areStatesLike_12 rfl ?_
    obtain ⟨c2, h⟩ := ck_some h
    refine dx_al (j := 37) hR dX10_areStatesLike_13 rfl (vp_in_iff.mpr c2) ?_
    refine pm_aload_n dX10_areStatesLike_14 rfl ?_
    refine dx_gr (j := 0) (o := 31) hR dX10_areStatesLike_15 fl_X10_114 rfl rfl ?_
    refine pm_iload_n dX10_areStatesLike_18 rfl ?_
    obtain ⟨c3, h⟩ := ck_some h
    refine dx_al (j := 31) hR dX10_areStatesLike_19 rfl (vp_in_iff.mpr c3) ?_
    refine pm_icmp_eq (tgt := 25) dX10_areStatesLike_20 (by decide) (fun c4 => ?_) (fun c4 => ?_)
    · replace h := it_t c4 h
      refine pm_iinc (v := (l1 + 1)) dX10_areStatesLike_25 rfl rfl (by decide) rfl rfl ?_
      refine pm_goto (tgt := 2) dX10_areStatesLike_28 (by decide) ?_
      refine pm_lw (L' := [some (.ref (b + 0)), some (.int (l1 + 1))]) ⟨Or.inr rfl, Or.inr rfl, trivial⟩ ?_
      exact hc _ (Option.some.inj h).symm
    · replace h := it_f c4 h
      refine pm_lw (L' := [none, none]) ⟨Or.inl rfl, Or.inl rfl, trivial⟩ ?_
      exact he0 _ (Option.some.inj h).symm
def g_X10_areStatesLike_l69 (F : Nat) (u : rg_U) (l1 : Int32) : Option (Int32 ⊕ (Unit ⊕ Unit)) :=
  ck (inb 121 134) (if (rA u 31 121) ≤ l1 then (some (.inr (Sum.inr ()))) else (ck (inb (122 + l1) 134) (ck (inb (122 + l1) 134) (if (rA u 37 (122 + l1)) = (rA u 31 (122 + l1)) then (some (.inl (l1 + 1))) else (some (.inr (Sum.inl ())))))))
set_option maxHeartbeats 4000000 in
set_option maxRecDepth 100000 in
theorem k_X10_areStatesLike_l69 {gs : List String} {ro : pm_RO} {n : Nat} {w : Nat → va_E} {b : Nat} {u : rg_U} {F : Nat} {l1 : Int32} {z : Int32 ⊕ (Unit ⊕ Unit)} {Q : Option Value → Nat → (Nat → va_E) → Prop} (hR : rg shM b u n w) (h : g_X10_areStatesLike_l69 F u l1 = some z) (hc : ∀ s', z = .inl s' → pm_X gs ro M_X10_areStatesLike 0 0 0 0 0 69 [some (.ref (b + 0)), some (.int s')] [] n w Q) (he0 : ∀ r', z = .inr (Sum.inl r') → pm_X gs ro M_X10_areStatesLike 0 0 0 0 0 101 [none, none] [] n w Q) (he1 : ∀ r', z = .inr (Sum.inr r') → pm_X gs ro M_X10_areStatesLike 0 0 0 0 0 109 [none, none] [] n w Q) : pm_X gs ro M_X10_areStatesLike 0 0 0 0 0 69 [some (.ref (b + 0)), some (.int l1)] [] n w Q := by
  unfold g_X10_areStatesLike_l69 at h
  refine pm_iload_n dX10_areStatesLike_69 rfl ?_
  refine pm_aload_n dX10_areStatesLike_70 rfl ?_
  refine dx_gr (j := 0) (o := 31) hR dX10_areStatesLike_71 fl_X10_114 rfl rfl ?_
  refine pm_bipush (v := 121) dX10_areStatesLike_74 (by decide) ?_
  obtain ⟨c15, h⟩ := ck_some h
  refine dx_al (j := 31) hR dX10_areStatesLike_76 rfl (vp_in_iff.mpr c15) ?_
  refine pm_icmp_ge (tgt := 109) dX10_areStatesLike_77 (by decide) (fun c16 => ?_) (fun c16 => ?_)
  · replace h := it_t c16 h
    refine pm_lw (L' := [none, none]) ⟨Or.inl rfl, Or.inl rfl, trivial⟩ ?_
    exact he1 _ (Option.some.inj h).symm
  · replace h := it_f c16 h
    refine pm_aload_n dX10_areStatesLike_80 rfl ?_
    refine dx_gr (j := 0) (o := 37) hR dX10_areStatesLike_81 fl_X10_135 rfl rfl ?_
    refine pm_bipush (v := 122) dX10_areStatesLike_84 (by decide) ?_
    refine pm_iload_n dX10_areStatesLike_86 rfl ?_
    refine pm_iadd dX10_areStatesLike_87 ?_
    obtain ⟨c17, h⟩ := ck_some h
    refine dx_al (j := 37) hR dX10_areStatesLike_88 rfl (vp_in_iff.mpr c17) ?_
    refine pm_aload_n dX10_areStatesLike_89 rfl ?_
    refine dx_gr (j := 0) (o := 31) hR dX10_areStatesLike_90 fl_X10_114 rfl rfl ?_
    refine pm_bipush (v := 122) dX10_areStatesLike_93 (by decide) ?_
    refine pm_iload_n dX10_areStatesLike_95 rfl ?_
    refine pm_iadd dX10_areStatesLike_96 ?_
    obtain ⟨c18, h⟩ := ck_some h
    refine dx_al (j := 31) hR dX10_areStatesLike_97 rfl (vp_in_iff.mpr c18) ?_
    refine pm_icmp_eq (tgt := 103) dX10_areStatesLike_98 (by decide) (fun c19 => ?_) (fun c19 => ?_)
    · replace h := it_t c19 h
      refine pm_iinc (v := (l1 + 1)) dX10_areStatesLike_103 rfl rfl (by decide) rfl rfl ?_
      refine pm_goto (tgt := 69) dX10_areStatesLike_106 (by decide) ?_
      refine pm_lw (L' := [some (.ref (b + 0)), some (.int (l1 + 1))]) ⟨Or.inr rfl, Or.inr rfl, trivial⟩ ?_
      exact hc _ (Option.some.inj h).symm
    · replace h := it_f c19 h
      refine pm_lw (L' := [none, none]) ⟨Or.inl rfl, Or.inl rfl, trivial⟩ ?_
      exact he0 _ (Option.some.inj h).symm
def g_X10_areStatesLike (F : Nat)  (u : rg_U) : Option Int32 :=
  ob (lp (fun (s : Int32) => g_X10_areStatesLike_l2 F u s) F (0 : Int32)) (fun r5 => os r5 (fun r7 => some 0) (fun r8 => ck (inb 120 134) (ck (inb 120 134) (if (rA u 37 120) = (rA u 31 120) then (ck (inb 121 134) (ck (inb 121 134) (if (rA u 37 121) = (rA u 31 121) then (ob (lp (fun (s : Int32) => g_X10_areStatesLike_l69 F u s) F (0 : Int32)) (fun r20 => os r20 (fun r22 => some 0) (fun r23 => some 1))) else (some 0)))) else (some 0)))))
set_option maxHeartbeats 4000000 in
set_option maxRecDepth 100000 in
theorem k_X10_areStatesLike {gs : List String} {ro : pm_RO} {n : Nat} {w : Nat → va_E} {b : Nat} {u : rg_U} {F : Nat}  {z : Int32} (hR : rg shM b u n w) (h : g_X10_areStatesLike F u = some z) : pm_Met gs ro M_X10_areStatesLike 0 0 0 [.ref (b + 0)] n w (pm_p n w (some (.int z))) := by
  unfold g_X10_areStatesLike at h
  refine pm_ofX in_X10_areStatesLike (Nat.le_of_ble_eq_true rfl) rfl (L := [some (.ref (b + 0)), none]) rfl ?_
  refine pm_iconst (v := 0) dX10_areStatesLike_0 (by decide) ?_
  refine pm_istore_n dX10_areStatesLike_1 (by decide) rfl rfl ?_
  obtain ⟨r5, h6, h⟩ := ob_some h
  refine lp_sound (P := fun (s : Int32) => pm_X gs ro M_X10_areStatesLike 0 0 0 0 0 2 [some (.ref (b + 0)), some (.int s)] [] n w (pm_p n w (some (.int z)))) (E := (Sum.elim (fun (r : Unit) => pm_X gs ro M_X10_areStatesLike 0 0 0 0 0 23 [none, none] [] n w (pm_p n w (some (.int z)))) (fun (r : Unit) => pm_X gs ro M_X10_areStatesLike 0 0 0 0 0 31 [some (.ref (b + 0)), none] [] n w (pm_p n w (some (.int z)))))) (fun s x hx hc he => k_X10_areStatesLike_l2 hR hx hc (fun r q => he (Sum.inl r) q) (fun r q => he (Sum.inr r) q)) F _ r5 h6 ?_
  cases r5 with
  | inl r7 =>
    replace h := os_l h
    refine pm_iconst (v := 0) dX10_areStatesLike_23 (by decide) ?_
    cases h
    exact pm_zret dX10_areStatesLike_24 rfl (Or.inl rfl) (Nat.le_refl _) (Nat.le_refl _) ⟨rfl, rfl, rfl⟩
  | inr r8 =>
    replace h := os_r h
    refine pm_aload_n dX10_areStatesLike_31 rfl ?_
    refine dx_gr (j := 0) (o := 37) hR dX10_areStatesLike_32 fl_X10_135 rfl rfl ?_
    refine pm_bipush (v := 120) dX10_areStatesLike_35 (by decide) ?_
    obtain ⟨c9, h⟩ := ck_some h
    refine dx_al (j := 37) hR dX10_areStatesLike_37 rfl (vp_in_iff.mpr c9) ?_
    refine pm_aload_n dX10_areStatesLike_38 rfl ?_
    refine dx_gr (j := 0) (o := 31) hR dX10_areStatesLike_39 fl_X10_114 rfl rfl ?_
    refine pm_bipush (v := 120) dX10_areStatesLike_42 (by decide) ?_
    obtain ⟨c10, h⟩ := ck_some h
    refine dx_al (j := 31) hR dX10_areStatesLike_44 rfl (vp_in_iff.mpr c10) ?_
    refine pm_icmp_ne (tgt := 65) dX10_areStatesLike_45 (by decide) (fun c11 => ?_) (fun c11 => ?_)
    · replace h := it_f c11 h
      refine pm_iconst (v := 0) dX10_areStatesLike_65 (by decide) ?_
      cases h
      exact pm_zret dX10_areStatesLike_66 rfl (Or.inl rfl) (Nat.le_refl _) (Nat.le_refl _) ⟨rfl, rfl, rfl⟩
    · replace h := it_t c11 h
      refine pm_aload_n dX10_areStatesLike_48 rfl ?_
      refine dx_gr (j := 0) (o := 37) hR dX10_areStatesLike_49 fl_X10_135 rfl rfl ?_
      refine pm_bipush (v := 121) dX10_areStatesLike_52 (by decide) ?_
      obtain ⟨c12, h⟩ := ck_some h
      refine dx_al (j := 37) hR dX10_areStatesLike_54 rfl (vp_in_iff.mpr c12) ?_
      refine pm_aload_n dX10_areStatesLike_55 rfl ?_
      refine dx_gr (j := 0) (o := 31) hR dX10_areStatesLike_56 fl_X10_114 rfl rfl ?_
      refine pm_bipush (v := 121) dX10_areStatesLike_59 (by decide) ?_
      obtain ⟨c13, h⟩ := ck_some h
      refine dx_al (j := 31) hR dX10_areStatesLike_61 rfl (vp_in_iff.mpr c13) ?_
      refine pm_icmp_eq (tgt := 67) dX10_areStatesLike_62 (by decide) (fun c14 => ?_) (fun c14 => ?_)
      · replace h := it_t c14 h
        refine pm_iconst (v := 0) dX10_areStatesLike_67 (by decide) ?_
        refine pm_istore_n dX10_areStatesLike_68 (by decide) rfl rfl ?_
        obtain ⟨r20, h21, h⟩ := ob_some h
        refine lp_sound (P := fun (s : Int32) => pm_X gs ro M_X10_areStatesLike 0 0 0 0 0 69 [some (.ref (b + 0)), some (.int s)] [] n w (pm_p n w (some (.int z)))) (E := (Sum.elim (fun (r : Unit) => pm_X gs ro M_X10_areStatesLike 0 0 0 0 0 101 [none, none] [] n w (pm_p n w (some (.int z)))) (fun (r : Unit) => pm_X gs ro M_X10_areStatesLike 0 0 0 0 0 109 [none, none] [] n w (pm_p n w (some (.int z)))))) (fun s x hx hc he => k_X10_areStatesLike_l69 hR hx hc (fun r q => he (Sum.inl r) q) (fun r q => he (Sum.inr r) q)) F _ r20 h21 ?_
        cases r20 with
        | inl r22 =>
          replace h := os_l h
          refine pm_iconst (v := 0) dX10_areStatesLike_101 (by decide) ?_
          cases h
          exact pm_zret dX10_areStatesLike_102 rfl (Or.inl rfl) (Nat.le_refl _) (Nat.le_refl _) ⟨rfl, rfl, rfl⟩
        | inr r23 =>
          replace h := os_r h
          refine pm_iconst (v := 1) dX10_areStatesLike_109 (by decide) ?_
          cases h
          exact pm_zret dX10_areStatesLike_110 rfl (Or.inr rfl) (Nat.le_refl _) (Nat.le_refl _) ⟨rfl, rfl, rfl⟩
      · replace h := it_f c14 h
        refine pm_iconst (v := 0) dX10_areStatesLike_65 (by decide) ?_
        cases h
        exact pm_zret dX10_areStatesLike_66 rfl (Or.inl rfl) (Nat.le_refl _) (Nat.le_refl _) ⟨rfl, rfl, rfl⟩
def g_X10_parts_j131 (F : Nat) (l5 : Int32) (l6 : Int32) (l7 : Int32) (u : rg_U) : Option ((Int32 × Int32 × rg_U) ⊕ (Int32 × rg_U)) :=
  some (.inl (l5, (l7 + 1), u))
set_option maxHeartbeats 4000000 in
set_option maxRecDepth 100000 in
theorem k_X10_parts_j131 {gs : List String} {ro : pm_RO} {n : Nat} {w w1 : Nat → va_E} {b : Nat} {u : rg_U} {F : Nat} {l5 : Int32} {l6 : Int32} {l7 : Int32} {z : ((Int32 × Int32 × rg_U) ⊕ (Int32 × rg_U))} {Q : Option Value → Nat → (Nat → va_E) → Prop} (hR : rg shM b u n w1) (hk : rg_k b shM.length w w1) (h : g_X10_parts_j131 F l5 l6 l7 u = some z) (hc : ∀ s', z = .inl s' → ∀ w1, rg shM b s'.2.2 n w1 → rg_k b shM.length w w1 → pm_X gs ro M_X10_parts 7 0 0 0 0 81 [some (.ref (b + 0)), none, none, none, none, some (.int s'.1), some (.int l6), some (.int s'.2.1)] [] n w1 Q) (he0 : ∀ r', z = .inr r' → ∀ w1, rg shM b r'.2 n w1 → rg_k b shM.length w w1 → pm_X gs ro M_X10_parts 7 0 0 0 0 137 [some (.ref (b + 0)), none, none, none, none, some (.int r'.1), none, none] [] n w1 Q) : pm_X gs ro M_X10_parts 7 0 0 0 0 131 [some (.ref (b + 0)), none, none, none, none, some (.int l5), some (.int l6), some (.int l7)] [] n w1 Q := by
  unfold g_X10_parts_j131 at h
  refine pm_iinc (v := (l7 + 1)) dX10_parts_131 rfl rfl (by decide) rfl rfl ?_
  refine pm_goto (tgt := 81) dX10_parts_134 (by decide) ?_
  refine pm_lw (L' := [some (.ref (b + 0)), none, none, none, none, some (.int l5), some (.int l6), some (.int (l7 + 1))]) ⟨Or.inr rfl, Or.inl rfl, Or.inl rfl, Or.inl rfl, Or.inl rfl, Or.inr rfl, Or.inr rfl, Or.inr rfl, trivial⟩ ?_
  exact hc _ (Option.some.inj h).symm _ hR hk
def g_X10_parts_j105 (F : Nat) (l5 : Int32) (l6 : Int32) (l7 : Int32) (u : rg_U) : Option ((Int32 × Int32 × rg_U) ⊕ (Int32 × rg_U)) :=
  if l7 = l6 then (g_X10_parts_j131 F l5 l6 l7 u) else (ob (g_X10_simStep F u) (fun r32 => ob (g_X10_swaps F r32) (fun r37 => ob (g_X10_simStep F r37) (fun r42 => ob (g_X10_swaps F r42) (fun r47 => g_X10_parts_j131 F l5 l6 l7 r47)))))
set_option maxHeartbeats 4000000 in
set_option maxRecDepth 100000 in
theorem k_X10_parts_j105 {gs : List String} {ro : pm_RO} {n : Nat} {w w1 : Nat → va_E} {b : Nat} {u : rg_U} {F : Nat} {l5 : Int32} {l6 : Int32} {l7 : Int32} {z : ((Int32 × Int32 × rg_U) ⊕ (Int32 × rg_U))} {Q : Option Value → Nat → (Nat → va_E) → Prop} (hR : rg shM b u n w1) (hk : rg_k b shM.length w w1) (h : g_X10_parts_j105 F l5 l6 l7 u = some z) (hc : ∀ s', z = .inl s' → ∀ w1, rg shM b s'.2.2 n w1 → rg_k b shM.length w w1 → pm_X gs ro M_X10_parts 7 0 0 0 0 81 [some (.ref (b + 0)), none, none, none, none, some (.int s'.1), some (.int l6), some (.int s'.2.1)] [] n w1 Q) (he0 : ∀ r', z = .inr r' → ∀ w1, rg shM b r'.2 n w1 → rg_k b shM.length w w1 → pm_X gs ro M_X10_parts 7 0 0 0 0 137 [some (.ref (b + 0)), none, none, none, none, some (.int r'.1), none, none] [] n w1 Q) : pm_X gs ro M_X10_parts 7 0 0 0 0 105 [some (.ref (b + 0)), none, none, none, none, some (.int l5), some (.int l6), some (.int l7)] [] n w1 Q := by
  unfold g_X10_parts_j105 at h
  refine pm_iload dX10_parts_105 rfl ?_
  refine pm_iload dX10_parts_107 rfl ?_
  refine pm_icmp_ne (tgt := 115) dX10_parts_109 (by decide) (fun c31 => ?_) (fun c31 => ?_)
  · replace h := it_f c31 h
    refine pm_aload_n dX10_parts_115 rfl ?_
    obtain ⟨r32, h33, h⟩ := ob_some h
    refine dx_cVv (j := 0) (M := M_X10_parts) (Mc := M_X10_simStep) (dc := 6) (As := []) (st := []) hR hk dX10_parts_116 ml_X10_273 ⟨TX10, 55, rfl⟩ rfl (by decide) (Nat.le_of_ble_eq_true rfl) rfl (k_X10_simStep hR h33) (fun w34 hR35 hk36 => ?_)
    refine pm_aload_n dX10_parts_119 rfl ?_
    obtain ⟨r37, h38, h⟩ := ob_some h
    refine dx_cVv (j := 0) (M := M_X10_parts) (Mc := M_X10_swaps) (dc := 0) (As := []) (st := []) hR35 hk36 dX10_parts_120 ml_X10_373 ⟨TX10, 55, rfl⟩ rfl (by decide) (Nat.le_of_ble_eq_true rfl) rfl (k_X10_swaps hR35 h38) (fun w39 hR40 hk41 => ?_)
    refine pm_aload_n dX10_parts_123 rfl ?_
    obtain ⟨r42, h43, h⟩ := ob_some h
    refine dx_cVv (j := 0) (M := M_X10_parts) (Mc := M_X10_simStep) (dc := 6) (As := []) (st := []) hR40 hk41 dX10_parts_124 ml_X10_273 ⟨TX10, 55, rfl⟩ rfl (by decide) (Nat.le_of_ble_eq_true rfl) rfl (k_X10_simStep hR40 h43) (fun w44 hR45 hk46 => ?_)
    refine pm_aload_n dX10_parts_127 rfl ?_
    obtain ⟨r47, h48, h⟩ := ob_some h
    refine dx_cVv (j := 0) (M := M_X10_parts) (Mc := M_X10_swaps) (dc := 0) (As := []) (st := []) hR45 hk46 dX10_parts_128 ml_X10_373 ⟨TX10, 55, rfl⟩ rfl (by decide) (Nat.le_of_ble_eq_true rfl) rfl (k_X10_swaps hR45 h48) (fun w49 hR50 hk51 => ?_)
    exact k_X10_parts_j131 hR50 hk51 h hc he0
  · replace h := it_t c31 h
    refine pm_goto (tgt := 131) dX10_parts_112 (by decide) ?_
    exact k_X10_parts_j131 hR hk h hc he0
def g_X10_parts_l81 (F : Nat) (l6 : Int32) (l5 : Int32) (l7 : Int32) (u : rg_U) : Option ((Int32 × Int32 × rg_U) ⊕ (Int32 × rg_U)) :=
  if l6 < l7 then (some (.inr (l5, u))) else (if l5 = (-1) then (ob (g_X10_areStatesLike F u) (fun r28 => if r28 = 0 then (g_X10_parts_j105 F l7 l6 l7 u) else (g_X10_parts_j105 F l5 l6 l7 u))) else (some (.inr (l5, u))))
set_option maxHeartbeats 4000000 in
set_option maxRecDepth 100000 in
theorem k_X10_parts_l81 {gs : List String} {ro : pm_RO} {n : Nat} {w w1 : Nat → va_E} {b : Nat} {u : rg_U} {F : Nat} {l6 : Int32} {l5 : Int32} {l7 : Int32} {z : (Int32 × Int32 × rg_U) ⊕ (Int32 × rg_U)} {Q : Option Value → Nat → (Nat → va_E) → Prop} (hR : rg shM b u n w1) (hk : rg_k b shM.length w w1) (h : g_X10_parts_l81 F l6 l5 l7 u = some z) (hc : ∀ s', z = .inl s' → ∀ w1, rg shM b s'.2.2 n w1 → rg_k b shM.length w w1 → pm_X gs ro M_X10_parts 7 0 0 0 0 81 [some (.ref (b + 0)), none, none, none, none, some (.int s'.1), some (.int l6), some (.int s'.2.1)] [] n w1 Q) (he0 : ∀ r', z = .inr r' → ∀ w1, rg shM b r'.2 n w1 → rg_k b shM.length w w1 → pm_X gs ro M_X10_parts 7 0 0 0 0 137 [some (.ref (b + 0)), none, none, none, none, some (.int r'.1), none, none] [] n w1 Q) : pm_X gs ro M_X10_parts 7 0 0 0 0 81 [some (.ref (b + 0)), none, none, none, none, some (.int l5), some (.int l6), some (.int l7)] [] n w1 Q := by
  unfold g_X10_parts_l81 at h
  refine pm_iload dX10_parts_81 rfl ?_
  refine pm_iload dX10_parts_83 rfl ?_
  refine pm_icmp_gt (tgt := 137) dX10_parts_85 (by decide) (fun c26 => ?_) (fun c26 => ?_)
  · replace h := it_t c26 h
    refine pm_lw (L' := [some (.ref (b + 0)), none, none, none, none, some (.int l5), none, none]) ⟨Or.inr rfl, Or.inl rfl, Or.inl rfl, Or.inl rfl, Or.inl rfl, Or.inr rfl, Or.inl rfl, Or.inl rfl, trivial⟩ ?_
    exact he0 _ (Option.some.inj h).symm _ hR hk
  · replace h := it_f c26 h
    refine pm_iload dX10_parts_88 rfl ?_
    refine pm_iconst (v := (-1)) dX10_parts_90 (by decide) ?_
    refine pm_icmp_ne (tgt := 137) dX10_parts_91 (by decide) (fun c27 => ?_) (fun c27 => ?_)
    · replace h := it_f c27 h
      refine pm_lw (L' := [some (.ref (b + 0)), none, none, none, none, some (.int l5), none, none]) ⟨Or.inr rfl, Or.inl rfl, Or.inl rfl, Or.inl rfl, Or.inl rfl, Or.inr rfl, Or.inl rfl, Or.inl rfl, trivial⟩ ?_
      exact he0 _ (Option.some.inj h).symm _ hR hk
    · replace h := it_t c27 h
      refine pm_aload_n dX10_parts_94 rfl ?_
      obtain ⟨r28, h29, h⟩ := ob_some h
      refine dx_cVp (j := 0) (M := M_X10_parts) (Mc := M_X10_areStatesLike) (dc := 0) (As := []) (st := []) hR dX10_parts_95 ml_X10_376 ⟨TX10, 55, rfl⟩ rfl (by decide) (Nat.le_of_ble_eq_true rfl) rfl (k_X10_areStatesLike hR h29) ?_
      refine pm_if_ne (tgt := 105) dX10_parts_98 (by decide) (fun c30 => ?_) (fun c30 => ?_)
      · replace h := it_f c30 h
        exact k_X10_parts_j105 hR hk h hc he0
      · replace h := it_t c30 h
        refine pm_iload dX10_parts_101 rfl ?_
        refine pm_istore dX10_parts_103 (by decide) rfl rfl ?_
        exact k_X10_parts_j105 hR hk h hc he0
def g_X10_parts_j40 (F : Nat) (l3 : Int32) (s0 : Int32) (u : rg_U) : Option (Int32 × rg_U) :=
  ob (g_X10_simBegins F l3 u) (fun r9 => ob (g_X10_swaps F r9) (fun r14 => ob (g_X10_simBegins F s0 r14) (fun r19 => ck (inb l3 5) (ck (inb s0 5) (ob (lp (fun (s : (Int32 × Int32 × rg_U)) => g_X10_parts_l81 F (imin (rA r19 21 l3) (rA r19 21 s0)) s.1 s.2.1 s.2.2) F (((-1) : Int32), (0 : Int32), r19)) (fun r52 => lt1 (sF r52.2 0 41 (-1)) (fun u57 => some (r52.1, u57))))))))
set_option maxHeartbeats 4000000 in
set_option maxRecDepth 100000 in
theorem k_X10_parts_j40 {gs : List String} {ro : pm_RO} {n : Nat} {w w1 : Nat → va_E} {b : Nat} {u : rg_U} {F : Nat} {l3 : Int32} {s0 : Int32} {z : (Int32 × rg_U)} (hR : rg shM b u n w1) (hk : rg_k b shM.length w w1) (h : g_X10_parts_j40 F l3 s0 u = some z) : pm_X gs ro M_X10_parts 7 0 0 0 0 40 [some (.ref (b + 0)), none, none, some (.int l3), none, none, none, none] [.int s0] n w1 (rg_post shM b n w (some (.int z.1)) z.2) := by
  unfold g_X10_parts_j40 at h
  refine pm_istore dX10_parts_40 (by decide) rfl rfl ?_
  refine pm_aload_n dX10_parts_42 rfl ?_
  refine pm_iload_n dX10_parts_43 rfl ?_
  obtain ⟨r9, h10, h⟩ := ob_some h
  refine dx_cVv (j := 0) (M := M_X10_parts) (Mc := M_X10_simBegins) (dc := 3) (As := [.int l3]) (st := []) hR hk dX10_parts_44 ml_X10_270 ⟨TX10, 55, rfl⟩ rfl (by decide) (Nat.le_of_ble_eq_true rfl) rfl (k_X10_simBegins hR h10) (fun w11 hR12 hk13 => ?_)
  refine pm_aload_n dX10_parts_47 rfl ?_
  obtain ⟨r14, h15, h⟩ := ob_some h
  refine dx_cVv (j := 0) (M := M_X10_parts) (Mc := M_X10_swaps) (dc := 0) (As := []) (st := []) hR12 hk13 dX10_parts_48 ml_X10_373 ⟨TX10, 55, rfl⟩ rfl (by decide) (Nat.le_of_ble_eq_true rfl) rfl (k_X10_swaps hR12 h15) (fun w16 hR17 hk18 => ?_)
  refine pm_aload_n dX10_parts_51 rfl ?_
  refine pm_iload dX10_parts_52 rfl ?_
  obtain ⟨r19, h20, h⟩ := ob_some h
  refine dx_cVv (j := 0) (M := M_X10_parts) (Mc := M_X10_simBegins) (dc := 3) (As := [.int s0]) (st := []) hR17 hk18 dX10_parts_54 ml_X10_270 ⟨TX10, 55, rfl⟩ rfl (by decide) (Nat.le_of_ble_eq_true rfl) rfl (k_X10_simBegins hR17 h20) (fun w21 hR22 hk23 => ?_)
  refine pm_iconst (v := (-1)) dX10_parts_57 (by decide) ?_
  refine pm_istore dX10_parts_58 (by decide) rfl rfl ?_
  refine pm_aload_n dX10_parts_60 rfl ?_
  refine dx_gr (j := 0) (o := 21) hR22 dX10_parts_61 fl_X10_78 rfl rfl ?_
  refine pm_iload_n dX10_parts_64 rfl ?_
  obtain ⟨c24, h⟩ := ck_some h
  refine dx_al (j := 21) hR22 dX10_parts_65 rfl (vp_in_iff.mpr c24) ?_
  refine pm_aload_n dX10_parts_66 rfl ?_
  refine dx_gr (j := 0) (o := 21) hR22 dX10_parts_67 fl_X10_78 rfl rfl ?_
  refine pm_iload dX10_parts_70 rfl ?_
  obtain ⟨c25, h⟩ := ck_some h
  refine dx_al (j := 21) hR22 dX10_parts_72 rfl (vp_in_iff.mpr c25) ?_
  refine pm_mmin (M := M_X10_parts) dX10_parts_73 mm_X10_195 mm_min_2 mm_init mm_min_4 (by decide) (Nat.le_refl _) (Nat.le_refl _) (Nat.le_of_ble_eq_true rfl) ?_
  refine pm_istore dX10_parts_76 (by decide) rfl rfl ?_
  refine pm_iconst (v := 0) dX10_parts_78 (by decide) ?_
  refine pm_istore dX10_parts_79 (by decide) rfl rfl ?_
  refine pm_lw (L' := [some (.ref (b + 0)), none, none, none, none, some (.int (-1)), some (.int (imin (rA r19 21 l3) (rA r19 21 s0))), some (.int 0)]) ⟨Or.inr rfl, Or.inl rfl, Or.inl rfl, Or.inl rfl, Or.inl rfl, Or.inr rfl, Or.inr rfl, Or.inr rfl, trivial⟩ ?_
  obtain ⟨r52, h53, h⟩ := ob_some h
  refine lp_sound (P := fun (s : (Int32 × Int32 × rg_U)) => ∀ w1, rg shM b s.2.2 n w1 → rg_k b shM.length w w1 → pm_X gs ro M_X10_parts 7 0 0 0 0 81 [some (.ref (b + 0)), none, none, none, none, some (.int s.1), some (.int (imin (rA r19 21 l3) (rA r19 21 s0))), some (.int s.2.1)] [] n w1 (rg_post shM b n w (some (.int z.1)) z.2)) (E := (fun (r : (Int32 × rg_U)) => ∀ w1, rg shM b r.2 n w1 → rg_k b shM.length w w1 → pm_X gs ro M_X10_parts 7 0 0 0 0 137 [some (.ref (b + 0)), none, none, none, none, some (.int r.1), none, none] [] n w1 (rg_post shM b n w (some (.int z.1)) z.2))) (fun s x hx hc he w1 hR1 hk1 => k_X10_parts_l81 hR1 hk1 hx hc (fun r q => he r q)) F _ r52 h53 ?_ _ hR22 hk23
  intro w54 hR55 hk56
  refine pm_aload_n dX10_parts_137 rfl ?_
  refine pm_iconst (v := (-1)) dX10_parts_138 (by decide) ?_
  obtain ⟨u57, hu58, h⟩ := lt1_ex h
  refine dx_pi (j := 0) hR55 hk56 dX10_parts_139 fl_X10_117 rfl rfl hu58 (fun w59 hR60 hk61 => ?_)
  refine pm_iload dX10_parts_142 rfl ?_
  cases h
  exact pm_iret dX10_parts_144 rfl (Nat.le_refl _) (Nat.le_refl _) ⟨rfl, rfl, hR60, hk61⟩
def g_X10_parts_j29 (F : Nat) (l2 : Int32) (s0 : Int32) (u : rg_U) : Option (Int32 × rg_U) :=
  if l2 = (-1) then (g_X10_parts_j40 F s0 4 u) else (g_X10_parts_j40 F s0 l2 u)
set_option maxHeartbeats 4000000 in
set_option maxRecDepth 100000 in
theorem k_X10_parts_j29 {gs : List String} {ro : pm_RO} {n : Nat} {w w1 : Nat → va_E} {b : Nat} {u : rg_U} {F : Nat} {l2 : Int32} {s0 : Int32} {z : (Int32 × rg_U)} (hR : rg shM b u n w1) (hk : rg_k b shM.length w w1) (h : g_X10_parts_j29 F l2 s0 u = some z) : pm_X gs ro M_X10_parts 7 0 0 0 0 29 [some (.ref (b + 0)), none, some (.int l2), none, none, none, none, none] [.int s0] n w1 (rg_post shM b n w (some (.int z.1)) z.2) := by
  unfold g_X10_parts_j29 at h
  refine pm_istore_n dX10_parts_29 (by decide) rfl rfl ?_
  refine pm_iload_n dX10_parts_30 rfl ?_
  refine pm_iconst (v := (-1)) dX10_parts_31 (by decide) ?_
  refine pm_icmp_ne (tgt := 39) dX10_parts_32 (by decide) (fun c8 => ?_) (fun c8 => ?_)
  · replace h := it_f c8 h
    refine pm_iload_n dX10_parts_39 rfl ?_
    refine pm_lw (L' := [some (.ref (b + 0)), none, none, some (.int s0), none, none, none, none]) ⟨Or.inr rfl, Or.inl rfl, Or.inl rfl, Or.inr rfl, Or.inl rfl, Or.inl rfl, Or.inl rfl, Or.inl rfl, trivial⟩ ?_
    exact k_X10_parts_j40 hR hk h
  · replace h := it_t c8 h
    refine pm_iconst (v := 4) dX10_parts_35 (by decide) ?_
    refine pm_goto (tgt := 40) dX10_parts_36 (by decide) ?_
    refine pm_lw (L' := [some (.ref (b + 0)), none, none, some (.int s0), none, none, none, none]) ⟨Or.inr rfl, Or.inl rfl, Or.inl rfl, Or.inr rfl, Or.inl rfl, Or.inl rfl, Or.inl rfl, Or.inl rfl, trivial⟩ ?_
    exact k_X10_parts_j40 hR hk h
def g_X10_parts (F : Nat) (x1 : Int32) (x2 : Int32) (u : rg_U) : Option (Int32 × rg_U) :=
  ob (g_X10_isThere F x1 u) (fun r1 => if r1 = 0 then (some ((-2), u)) else (ob (g_X10_isThere F x2 u) (fun r4 => if r4 = 0 then (some ((-2), u)) else (if x1 = (-1) then (g_X10_parts_j29 F x2 4 u) else (g_X10_parts_j29 F x2 x1 u)))))
set_option maxHeartbeats 4000000 in
set_option maxRecDepth 100000 in
theorem k_X10_parts {gs : List String} {ro : pm_RO} {n : Nat} {w : Nat → va_E} {b : Nat} {u : rg_U} {F : Nat} {x1 : Int32} {x2 : Int32} {z : (Int32 × rg_U)} (hR : rg shM b u n w) (h : g_X10_parts F x1 x2 u = some z) : pm_Met gs ro M_X10_parts 7 0 0 [.ref (b + 0), .int x1, .int x2] n w (rg_post shM b n w (some (.int z.1)) z.2) := by
  unfold g_X10_parts at h
  refine pm_ofX in_X10_parts (Nat.le_of_ble_eq_true rfl) rfl (L := [some (.ref (b + 0)), some (.int x1), some (.int x2), none, none, none, none, none]) rfl ?_
  refine pm_aload_n dX10_parts_0 rfl ?_
  refine pm_iload_n dX10_parts_1 rfl ?_
  obtain ⟨r1, h2, h⟩ := ob_some h
  refine dx_cVp (j := 0) (M := M_X10_parts) (Mc := M_X10_isThere) (dc := 1) (As := [.int x1]) (st := []) hR dX10_parts_2 ml_X10_352 ⟨TX10, 55, rfl⟩ rfl (by decide) (Nat.le_of_ble_eq_true rfl) rfl (k_X10_isThere hR h2) ?_
  refine pm_if_eq (tgt := 16) dX10_parts_5 (by decide) (fun c3 => ?_) (fun c3 => ?_)
  · replace h := it_t c3 h
    refine pm_bipush (v := (-2)) dX10_parts_16 (by decide) ?_
    cases h
    exact pm_iret dX10_parts_18 rfl (Nat.le_refl _) (Nat.le_refl _) ⟨rfl, rfl, hR, rg_k0⟩
  · replace h := it_f c3 h
    refine pm_aload_n dX10_parts_8 rfl ?_
    refine pm_iload_n dX10_parts_9 rfl ?_
    obtain ⟨r4, h5, h⟩ := ob_some h
    refine dx_cVp (j := 0) (M := M_X10_parts) (Mc := M_X10_isThere) (dc := 1) (As := [.int x2]) (st := []) hR dX10_parts_10 ml_X10_352 ⟨TX10, 55, rfl⟩ rfl (by decide) (Nat.le_of_ble_eq_true rfl) rfl (k_X10_isThere hR h5) ?_
    refine pm_if_ne (tgt := 19) dX10_parts_13 (by decide) (fun c6 => ?_) (fun c6 => ?_)
    · replace h := it_f c6 h
      refine pm_iload_n dX10_parts_19 rfl ?_
      refine pm_iconst (v := (-1)) dX10_parts_20 (by decide) ?_
      refine pm_icmp_ne (tgt := 28) dX10_parts_21 (by decide) (fun c7 => ?_) (fun c7 => ?_)
      · replace h := it_f c7 h
        refine pm_iload_n dX10_parts_28 rfl ?_
        refine pm_lw (L' := [some (.ref (b + 0)), none, some (.int x2), none, none, none, none, none]) ⟨Or.inr rfl, Or.inl rfl, Or.inr rfl, Or.inl rfl, Or.inl rfl, Or.inl rfl, Or.inl rfl, Or.inl rfl, trivial⟩ ?_
        exact k_X10_parts_j29 hR rg_k0 h
      · replace h := it_t c7 h
        refine pm_iconst (v := 4) dX10_parts_24 (by decide) ?_
        refine pm_goto (tgt := 29) dX10_parts_25 (by decide) ?_
        refine pm_lw (L' := [some (.ref (b + 0)), none, some (.int x2), none, none, none, none, none]) ⟨Or.inr rfl, Or.inl rfl, Or.inr rfl, Or.inl rfl, Or.inl rfl, Or.inl rfl, Or.inl rfl, Or.inl rfl, trivial⟩ ?_
        exact k_X10_parts_j29 hR rg_k0 h
    · replace h := it_t c6 h
      refine pm_bipush (v := (-2)) dX10_parts_16 (by decide) ?_
      cases h
      exact pm_iret dX10_parts_18 rfl (Nat.le_refl _) (Nat.le_refl _) ⟨rfl, rfl, hR, rg_k0⟩
def g_X10_watchedOf_j32 (F : Nat) (l1 : Int32) (l2 : Int32) (l4 : Int32) (s0 : Int32) (s1 : Int32) (u : rg_U) : Option ((Int32 × Int32) ⊕ Int32) :=
  some (.inl ((s1 ||| s0), (l4 + 1)))
set_option maxHeartbeats 4000000 in
set_option maxRecDepth 100000 in
theorem k_X10_watchedOf_j32 {gs : List String} {ro : pm_RO} {n : Nat} {w : Nat → va_E} {b : Nat} {u : rg_U} {F : Nat} {l1 : Int32} {l2 : Int32} {l4 : Int32} {s0 : Int32} {s1 : Int32} {z : ((Int32 × Int32) ⊕ Int32)} {Q : Option Value → Nat → (Nat → va_E) → Prop} (hR : rg shM b u n w) (h : g_X10_watchedOf_j32 F l1 l2 l4 s0 s1 u = some z) (hc : ∀ s', z = .inl s' → pm_X gs ro M_X10_watchedOf 0 0 0 0 0 5 [some (.ref (b + 0)), some (.int l1), some (.int l2), some (.int s'.1), some (.int s'.2)] [] n w Q) (he0 : ∀ r', z = .inr r' → pm_X gs ro M_X10_watchedOf 0 0 0 0 0 40 [none, none, none, some (.int r'), none] [] n w Q) : pm_X gs ro M_X10_watchedOf 0 0 0 0 0 32 [some (.ref (b + 0)), some (.int l1), some (.int l2), none, some (.int l4)] [.int s0, .int s1] n w Q := by
  unfold g_X10_watchedOf_j32 at h
  refine pm_ior dX10_watchedOf_32 ?_
  refine pm_istore_n dX10_watchedOf_33 (by decide) rfl rfl ?_
  refine pm_iinc (v := (l4 + 1)) dX10_watchedOf_34 rfl rfl (by decide) rfl rfl ?_
  refine pm_goto (tgt := 5) dX10_watchedOf_37 (by decide) ?_
  refine pm_lw (L' := [some (.ref (b + 0)), some (.int l1), some (.int l2), some (.int (s1 ||| s0)), some (.int (l4 + 1))]) ⟨Or.inr rfl, Or.inr rfl, Or.inr rfl, Or.inr rfl, Or.inr rfl, trivial⟩ ?_
  exact hc _ (Option.some.inj h).symm
def g_X10_watchedOf_l5 (F : Nat) (l1 : Int32) (l2 : Int32) (u : rg_U) (l3 : Int32) (l4 : Int32) : Option ((Int32 × Int32) ⊕ Int32) :=
  if l2 ≤ l4 then (some (.inr l3)) else (ck (inb (l1 + l4) 40) (if (rA u 30 (l1 + l4)) = 0 then (g_X10_watchedOf_j32 F l1 l2 l4 0 l3 u) else (g_X10_watchedOf_j32 F l1 l2 l4 (dx_shl 1 l4) l3 u)))
set_option maxHeartbeats 4000000 in
set_option maxRecDepth 100000 in
theorem k_X10_watchedOf_l5 {gs : List String} {ro : pm_RO} {n : Nat} {w : Nat → va_E} {b : Nat} {u : rg_U} {F : Nat} {l1 : Int32} {l2 : Int32} {l3 : Int32} {l4 : Int32} {z : (Int32 × Int32) ⊕ Int32} {Q : Option Value → Nat → (Nat → va_E) → Prop} (hR : rg shM b u n w) (h : g_X10_watchedOf_l5 F l1 l2 u l3 l4 = some z) (hc : ∀ s', z = .inl s' → pm_X gs ro M_X10_watchedOf 0 0 0 0 0 5 [some (.ref (b + 0)), some (.int l1), some (.int l2), some (.int s'.1), some (.int s'.2)] [] n w Q) (he0 : ∀ r', z = .inr r' → pm_X gs ro M_X10_watchedOf 0 0 0 0 0 40 [none, none, none, some (.int r'), none] [] n w Q) : pm_X gs ro M_X10_watchedOf 0 0 0 0 0 5 [some (.ref (b + 0)), some (.int l1), some (.int l2), some (.int l3), some (.int l4)] [] n w Q := by
  unfold g_X10_watchedOf_l5 at h
  refine pm_iload dX10_watchedOf_5 rfl ?_
  refine pm_iload_n dX10_watchedOf_7 rfl ?_
  refine pm_icmp_ge (tgt := 40) dX10_watchedOf_8 (by decide) (fun c1 => ?_) (fun c1 => ?_)
  · replace h := it_t c1 h
    refine pm_lw (L' := [none, none, none, some (.int l3), none]) ⟨Or.inl rfl, Or.inl rfl, Or.inl rfl, Or.inr rfl, Or.inl rfl, trivial⟩ ?_
    exact he0 _ (Option.some.inj h).symm
  · replace h := it_f c1 h
    refine pm_iload_n dX10_watchedOf_11 rfl ?_
    refine pm_aload_n dX10_watchedOf_12 rfl ?_
    refine dx_gr (j := 0) (o := 30) hR dX10_watchedOf_13 fl_X10_111 rfl rfl ?_
    refine pm_iload_n dX10_watchedOf_16 rfl ?_
    refine pm_iload dX10_watchedOf_17 rfl ?_
    refine pm_iadd dX10_watchedOf_19 ?_
    obtain ⟨c2, h⟩ := ck_some h
    refine dx_zl (j := 30) hR dX10_watchedOf_20 rfl (vp_in_iff.mpr c2) ?_
    refine pm_if_eq (tgt := 31) dX10_watchedOf_21 (by decide) (fun c3 => ?_) (fun c3 => ?_)
    · replace h := it_t c3 h
      refine pm_iconst (v := 0) dX10_watchedOf_31 (by decide) ?_
      refine pm_lw (L' := [some (.ref (b + 0)), some (.int l1), some (.int l2), none, some (.int l4)]) ⟨Or.inr rfl, Or.inr rfl, Or.inr rfl, Or.inl rfl, Or.inr rfl, trivial⟩ ?_
      exact k_X10_watchedOf_j32 hR h hc he0
    · replace h := it_f c3 h
      refine pm_iconst (v := 1) dX10_watchedOf_24 (by decide) ?_
      refine pm_iload dX10_watchedOf_25 rfl ?_
      refine pm_ishl dX10_watchedOf_27 ?_
      refine pm_goto (tgt := 32) dX10_watchedOf_28 (by decide) ?_
      refine pm_lw (L' := [some (.ref (b + 0)), some (.int l1), some (.int l2), none, some (.int l4)]) ⟨Or.inr rfl, Or.inr rfl, Or.inr rfl, Or.inl rfl, Or.inr rfl, trivial⟩ ?_
      exact k_X10_watchedOf_j32 hR h hc he0
def g_X10_watchedOf (F : Nat) (x1 : Int32) (x2 : Int32) (u : rg_U) : Option Int32 :=
  ob (lp (fun (s : (Int32 × Int32)) => g_X10_watchedOf_l5 F x1 x2 u s.1 s.2) F ((0 : Int32), (0 : Int32))) (fun r4 => some r4)
set_option maxHeartbeats 4000000 in
set_option maxRecDepth 100000 in
theorem k_X10_watchedOf {gs : List String} {ro : pm_RO} {n : Nat} {w : Nat → va_E} {b : Nat} {u : rg_U} {F : Nat} {x1 : Int32} {x2 : Int32} {z : Int32} (hR : rg shM b u n w) (h : g_X10_watchedOf F x1 x2 u = some z) : pm_Met gs ro M_X10_watchedOf 0 0 0 [.ref (b + 0), .int x1, .int x2] n w (pm_p n w (some (.int z))) := by
  unfold g_X10_watchedOf at h
  refine pm_ofX in_X10_watchedOf (Nat.le_of_ble_eq_true rfl) rfl (L := [some (.ref (b + 0)), some (.int x1), some (.int x2), none, none]) rfl ?_
  refine pm_iconst (v := 0) dX10_watchedOf_0 (by decide) ?_
  refine pm_istore_n dX10_watchedOf_1 (by decide) rfl rfl ?_
  refine pm_iconst (v := 0) dX10_watchedOf_2 (by decide) ?_
  refine pm_istore dX10_watchedOf_3 (by decide) rfl rfl ?_
  obtain ⟨r4, h5, h⟩ := ob_some h
  refine lp_sound (P := fun (s : (Int32 × Int32)) => pm_X gs ro M_X10_watchedOf 0 0 0 0 0 5 [some (.ref (b + 0)), some (.int x1), some (.int x2), some (.int s.1), some (.int s.2)] [] n w (pm_p n w (some (.int z)))) (E := (fun (r : Int32) => pm_X gs ro M_X10_watchedOf 0 0 0 0 0 40 [none, none, none, some (.int r), none] [] n w (pm_p n w (some (.int z))))) (fun s x hx hc he => k_X10_watchedOf_l5 hR hx hc (fun r q => he r q)) F _ r4 h5 ?_
  refine pm_iload_n dX10_watchedOf_40 rfl ?_
  cases h
  exact pm_iret dX10_watchedOf_41 rfl (Nat.le_refl _) (Nat.le_refl _) ⟨rfl, rfl, rfl⟩
def g_X10_ofRun (F : Nat) (x1 : Int32) (x2 : Int32) (u : rg_U) : Option Int32 :=
  if x2 = 0 then (ck (inb x1 5) (some (rA u 21 x1))) else if x2 = 1 then (if x1 = 4 then (ob (g_X10_status F u) (fun r6 => some r6)) else (ck (inb x1 5) (some (rA u 22 x1)))) else if x2 = 2 then (ck (inb x1 5) (some (rA u 25 x1))) else if x2 = 3 then (ck (inb x1 5) (some (rA u 26 x1))) else if x2 = 4 then (ck (inb x1 5) (some (rA u 23 x1))) else if x2 = 5 then (ck (inb x1 5) (some (rA u 24 x1))) else (ck (inb x1 5) (some (rA u 27 x1)))
set_option maxHeartbeats 4000000 in
set_option maxRecDepth 100000 in
theorem k_X10_ofRun {gs : List String} {ro : pm_RO} {n : Nat} {w : Nat → va_E} {b : Nat} {u : rg_U} {F : Nat} {x1 : Int32} {x2 : Int32} {z : Int32} (hR : rg shM b u n w) (h : g_X10_ofRun F x1 x2 u = some z) : pm_Met gs ro M_X10_ofRun 2 0 0 [.ref (b + 0), .int x1, .int x2] n w (pm_p n w (some (.int z))) := by
  unfold g_X10_ofRun at h
  refine pm_ofX in_X10_ofRun (Nat.le_of_ble_eq_true rfl) rfl (L := [some (.ref (b + 0)), some (.int x1), some (.int x2)]) rfl ?_
  refine pm_iload_n dX10_ofRun_0 rfl ?_
  by_cases t1 : x2 = 0
  · replace h := it_t t1 h
    refine pm_tableIn (off := 39) (tgt := 40) dX10_ofRun_1 (by rw [t1]; decide) (by rw [t1]; decide) (by rw [t1]; rfl) (by decide) ?_
    refine pm_aload_n dX10_ofRun_40 rfl ?_
    refine dx_gr (j := 0) (o := 21) hR dX10_ofRun_41 fl_X10_78 rfl rfl ?_
    refine pm_iload_n dX10_ofRun_44 rfl ?_
    obtain ⟨c2, h⟩ := ck_some h
    refine dx_al (j := 21) hR dX10_ofRun_45 rfl (vp_in_iff.mpr c2) ?_
    cases h
    exact pm_iret dX10_ofRun_46 rfl (Nat.le_refl _) (Nat.le_refl _) ⟨rfl, rfl, rfl⟩
  replace h := it_f t1 h
  by_cases t3 : x2 = 1
  · replace h := it_t t3 h
    refine pm_tableIn (off := 46) (tgt := 47) dX10_ofRun_1 (by rw [t3]; decide) (by rw [t3]; decide) (by rw [t3]; rfl) (by decide) ?_
    refine pm_iload_n dX10_ofRun_47 rfl ?_
    refine pm_iconst (v := 4) dX10_ofRun_48 (by decide) ?_
    refine pm_icmp_ne (tgt := 59) dX10_ofRun_49 (by decide) (fun c4 => ?_) (fun c4 => ?_)
    · replace h := it_f c4 h
      refine pm_aload_n dX10_ofRun_59 rfl ?_
      refine dx_gr (j := 0) (o := 22) hR dX10_ofRun_60 fl_X10_81 rfl rfl ?_
      refine pm_iload_n dX10_ofRun_63 rfl ?_
      obtain ⟨c5, h⟩ := ck_some h
      refine dx_al (j := 22) hR dX10_ofRun_64 rfl (vp_in_iff.mpr c5) ?_
      cases h
      exact pm_iret dX10_ofRun_65 rfl (Nat.le_refl _) (Nat.le_refl _) ⟨rfl, rfl, rfl⟩
    · replace h := it_t c4 h
      refine pm_aload_n dX10_ofRun_52 rfl ?_
      obtain ⟨r6, h7, h⟩ := ob_some h
      refine dx_cVp (j := 0) (M := M_X10_ofRun) (Mc := M_X10_status) (dc := 1) (As := []) (st := []) hR dX10_ofRun_53 ml_X10_258 ⟨TX10, 55, rfl⟩ rfl (by decide) (Nat.le_of_ble_eq_true rfl) rfl (k_X10_status hR h7) ?_
      refine pm_goto (tgt := 65) dX10_ofRun_56 (by decide) ?_
      cases h
      exact pm_iret dX10_ofRun_65 rfl (Nat.le_refl _) (Nat.le_refl _) ⟨rfl, rfl, rfl⟩
  replace h := it_f t3 h
  by_cases t8 : x2 = 2
  · replace h := it_t t8 h
    refine pm_tableIn (off := 65) (tgt := 66) dX10_ofRun_1 (by rw [t8]; decide) (by rw [t8]; decide) (by rw [t8]; rfl) (by decide) ?_
    refine pm_aload_n dX10_ofRun_66 rfl ?_
    refine dx_gr (j := 0) (o := 25) hR dX10_ofRun_67 fl_X10_90 rfl rfl ?_
    refine pm_iload_n dX10_ofRun_70 rfl ?_
    obtain ⟨c9, h⟩ := ck_some h
    refine dx_al (j := 25) hR dX10_ofRun_71 rfl (vp_in_iff.mpr c9) ?_
    cases h
    exact pm_iret dX10_ofRun_72 rfl (Nat.le_refl _) (Nat.le_refl _) ⟨rfl, rfl, rfl⟩
  replace h := it_f t8 h
  by_cases t10 : x2 = 3
  · replace h := it_t t10 h
    refine pm_tableIn (off := 72) (tgt := 73) dX10_ofRun_1 (by rw [t10]; decide) (by rw [t10]; decide) (by rw [t10]; rfl) (by decide) ?_
    refine pm_aload_n dX10_ofRun_73 rfl ?_
    refine dx_gr (j := 0) (o := 26) hR dX10_ofRun_74 fl_X10_93 rfl rfl ?_
    refine pm_iload_n dX10_ofRun_77 rfl ?_
    obtain ⟨c11, h⟩ := ck_some h
    refine dx_al (j := 26) hR dX10_ofRun_78 rfl (vp_in_iff.mpr c11) ?_
    cases h
    exact pm_iret dX10_ofRun_79 rfl (Nat.le_refl _) (Nat.le_refl _) ⟨rfl, rfl, rfl⟩
  replace h := it_f t10 h
  by_cases t12 : x2 = 4
  · replace h := it_t t12 h
    refine pm_tableIn (off := 79) (tgt := 80) dX10_ofRun_1 (by rw [t12]; decide) (by rw [t12]; decide) (by rw [t12]; rfl) (by decide) ?_
    refine pm_aload_n dX10_ofRun_80 rfl ?_
    refine dx_gr (j := 0) (o := 23) hR dX10_ofRun_81 fl_X10_84 rfl rfl ?_
    refine pm_iload_n dX10_ofRun_84 rfl ?_
    obtain ⟨c13, h⟩ := ck_some h
    refine dx_al (j := 23) hR dX10_ofRun_85 rfl (vp_in_iff.mpr c13) ?_
    cases h
    exact pm_iret dX10_ofRun_86 rfl (Nat.le_refl _) (Nat.le_refl _) ⟨rfl, rfl, rfl⟩
  replace h := it_f t12 h
  by_cases t14 : x2 = 5
  · replace h := it_t t14 h
    refine pm_tableIn (off := 86) (tgt := 87) dX10_ofRun_1 (by rw [t14]; decide) (by rw [t14]; decide) (by rw [t14]; rfl) (by decide) ?_
    refine pm_aload_n dX10_ofRun_87 rfl ?_
    refine dx_gr (j := 0) (o := 24) hR dX10_ofRun_88 fl_X10_87 rfl rfl ?_
    refine pm_iload_n dX10_ofRun_91 rfl ?_
    obtain ⟨c15, h⟩ := ck_some h
    refine dx_al (j := 24) hR dX10_ofRun_92 rfl (vp_in_iff.mpr c15) ?_
    cases h
    exact pm_iret dX10_ofRun_93 rfl (Nat.le_refl _) (Nat.le_refl _) ⟨rfl, rfl, rfl⟩
  replace h := it_f t14 h
  refine pm_tableOut (tgt := 94) dX10_ofRun_1 (by have h0 := lv_neT t1 (show (0 : Int32).toInt = 0 from by decide); have h1 := lv_neT t3 (show (1 : Int32).toInt = 1 from by decide); have h2 := lv_neT t8 (show (2 : Int32).toInt = 2 from by decide); have h3 := lv_neT t10 (show (3 : Int32).toInt = 3 from by decide); have h4 := lv_neT t12 (show (4 : Int32).toInt = 4 from by decide); have h5 := lv_neT t14 (show (5 : Int32).toInt = 5 from by decide); omega) (by decide) ?_
  refine pm_aload_n dX10_ofRun_94 rfl ?_
  refine dx_gr (j := 0) (o := 27) hR dX10_ofRun_95 fl_X10_96 rfl rfl ?_
  refine pm_iload_n dX10_ofRun_98 rfl ?_
  obtain ⟨c16, h⟩ := ck_some h
  refine dx_al (j := 27) hR dX10_ofRun_99 rfl (vp_in_iff.mpr c16) ?_
  cases h
  exact pm_iret dX10_ofRun_100 rfl (Nat.le_refl _) (Nat.le_refl _) ⟨rfl, rfl, rfl⟩
def g_X10_look (F : Nat) (x1 : Int32) (u : rg_U) : Option Int32 :=
  if (g_X10_isIn x1 0 6) = 0 then (if x1 = 7 then (some (rF u 0 29)) else if x1 = 8 then (some (rF u 0 33)) else if x1 = 9 then (some (rF u 0 34)) else if x1 = 10 then (some (rF u 0 35)) else if x1 = 11 then (ob (g_X10_watchedOf F 0 8 u) (fun r7 => some r7)) else if x1 = 12 then (ob (g_X10_watchedOf F 8 32 u) (fun r10 => some r10)) else (some (-1000001))) else (ob (g_X10_runAsked F u) (fun r12 => ck (inb r12 5) (if (rA u 5 r12) = 0 then (some 0) else (ob (g_X10_runAsked F u) (fun r16 => ob (g_X10_ofRun F r16 x1 u) (fun r18 => some r18))))))
set_option maxHeartbeats 4000000 in
set_option maxRecDepth 100000 in
theorem k_X10_look {gs : List String} {ro : pm_RO} {n : Nat} {w : Nat → va_E} {b : Nat} {u : rg_U} {F : Nat} {x1 : Int32} {z : Int32} (hR : rg shM b u n w) (h : g_X10_look F x1 u = some z) : pm_Met gs ro M_X10_look 3 0 0 [.ref (b + 0), .int x1] n w (pm_p n w (some (.int z))) := by
  unfold g_X10_look at h
  refine pm_ofX in_X10_look (Nat.le_of_ble_eq_true rfl) rfl (L := [some (.ref (b + 0)), some (.int x1)]) rfl ?_
  refine pm_iload_n dX10_look_0 rfl ?_
  refine pm_iconst (v := 0) dX10_look_1 (by decide) ?_
  refine pm_bipush (v := 6) dX10_look_2 (by decide) ?_
  refine dx_cSp (M := M_X10_look) (Mc := M_X10_isIn) (dc := 0) (As := [.int x1, .int 0, .int 6]) (st := []) dX10_look_4 ml_X10_138 (by decide) (Nat.le_of_ble_eq_true rfl) rfl (k_X10_isIn rfl) ?_
  refine pm_if_eq (tgt := 36) dX10_look_7 (by decide) (fun c1 => ?_) (fun c1 => ?_)
  · replace h := it_t c1 h
    refine pm_iload_n dX10_look_36 rfl ?_
    by_cases t2 : x1 = 7
    · replace h := it_t t2 h
      refine pm_tableIn (off := 39) (tgt := 76) dX10_look_37 (by rw [t2]; decide) (by rw [t2]; decide) (by rw [t2]; rfl) (by decide) ?_
      refine pm_aload_n dX10_look_76 rfl ?_
      refine dx_gi (j := 0) hR dX10_look_77 fl_X10_295 rfl rfl ?_
      cases h
      exact pm_iret dX10_look_80 rfl (Nat.le_refl _) (Nat.le_refl _) ⟨rfl, rfl, rfl⟩
    replace h := it_f t2 h
    by_cases t3 : x1 = 8
    · replace h := it_t t3 h
      refine pm_tableIn (off := 44) (tgt := 81) dX10_look_37 (by rw [t3]; decide) (by rw [t3]; decide) (by rw [t3]; rfl) (by decide) ?_
      refine pm_aload_n dX10_look_81 rfl ?_
      refine dx_gi (j := 0) hR dX10_look_82 fl_X10_166 rfl rfl ?_
      cases h
      exact pm_iret dX10_look_85 rfl (Nat.le_refl _) (Nat.le_refl _) ⟨rfl, rfl, rfl⟩
    replace h := it_f t3 h
    by_cases t4 : x1 = 9
    · replace h := it_t t4 h
      refine pm_tableIn (off := 49) (tgt := 86) dX10_look_37 (by rw [t4]; decide) (by rw [t4]; decide) (by rw [t4]; rfl) (by decide) ?_
      refine pm_aload_n dX10_look_86 rfl ?_
      refine dx_gi (j := 0) hR dX10_look_87 fl_X10_108 rfl rfl ?_
      cases h
      exact pm_iret dX10_look_90 rfl (Nat.le_refl _) (Nat.le_refl _) ⟨rfl, rfl, rfl⟩
    replace h := it_f t4 h
    by_cases t5 : x1 = 10
    · replace h := it_t t5 h
      refine pm_tableIn (off := 54) (tgt := 91) dX10_look_37 (by rw [t5]; decide) (by rw [t5]; decide) (by rw [t5]; rfl) (by decide) ?_
      refine pm_aload_n dX10_look_91 rfl ?_
      refine dx_gi (j := 0) hR dX10_look_92 fl_X10_276 rfl rfl ?_
      cases h
      exact pm_iret dX10_look_95 rfl (Nat.le_refl _) (Nat.le_refl _) ⟨rfl, rfl, rfl⟩
    replace h := it_f t5 h
    by_cases t6 : x1 = 11
    · replace h := it_t t6 h
      refine pm_tableIn (off := 59) (tgt := 96) dX10_look_37 (by rw [t6]; decide) (by rw [t6]; decide) (by rw [t6]; rfl) (by decide) ?_
      refine pm_aload_n dX10_look_96 rfl ?_
      refine pm_iconst (v := 0) dX10_look_97 (by decide) ?_
      refine pm_bipush (v := 8) dX10_look_98 (by decide) ?_
      obtain ⟨r7, h8, h⟩ := ob_some h
      refine dx_cVp (j := 0) (M := M_X10_look) (Mc := M_X10_watchedOf) (dc := 0) (As := [.int 0, .int 8]) (st := []) hR dX10_look_100 ml_X10_383 ⟨TX10, 55, rfl⟩ rfl (by decide) (Nat.le_of_ble_eq_true rfl) rfl (k_X10_watchedOf hR h8) ?_
      cases h
      exact pm_iret dX10_look_103 rfl (Nat.le_refl _) (Nat.le_refl _) ⟨rfl, rfl, rfl⟩
    replace h := it_f t6 h
    by_cases t9 : x1 = 12
    · replace h := it_t t9 h
      refine pm_tableIn (off := 67) (tgt := 104) dX10_look_37 (by rw [t9]; decide) (by rw [t9]; decide) (by rw [t9]; rfl) (by decide) ?_
      refine pm_aload_n dX10_look_104 rfl ?_
      refine pm_bipush (v := 8) dX10_look_105 (by decide) ?_
      refine pm_bipush (v := 32) dX10_look_107 (by decide) ?_
      obtain ⟨r10, h11, h⟩ := ob_some h
      refine dx_cVp (j := 0) (M := M_X10_look) (Mc := M_X10_watchedOf) (dc := 0) (As := [.int 8, .int 32]) (st := []) hR dX10_look_109 ml_X10_383 ⟨TX10, 55, rfl⟩ rfl (by decide) (Nat.le_of_ble_eq_true rfl) rfl (k_X10_watchedOf hR h11) ?_
      cases h
      exact pm_iret dX10_look_112 rfl (Nat.le_refl _) (Nat.le_refl _) ⟨rfl, rfl, rfl⟩
    replace h := it_f t9 h
    refine pm_tableOut (tgt := 113) dX10_look_37 (by have h0 := lv_neT t2 (show (7 : Int32).toInt = 7 from by decide); have h1 := lv_neT t3 (show (8 : Int32).toInt = 8 from by decide); have h2 := lv_neT t4 (show (9 : Int32).toInt = 9 from by decide); have h3 := lv_neT t5 (show (10 : Int32).toInt = 10 from by decide); have h4 := lv_neT t6 (show (11 : Int32).toInt = 11 from by decide); have h5 := lv_neT t9 (show (12 : Int32).toInt = 12 from by decide); omega) (by decide) ?_
    refine pm_ldcw (v := (-1000001)) dX10_look_113 kc_X10_304 ?_
    cases h
    exact pm_iret dX10_look_116 rfl (Nat.le_refl _) (Nat.le_refl _) ⟨rfl, rfl, rfl⟩
  · replace h := it_f c1 h
    refine pm_aload_n dX10_look_10 rfl ?_
    refine dx_gr (j := 0) (o := 5) hR dX10_look_11 fl_X10_29 rfl rfl ?_
    refine pm_aload_n dX10_look_14 rfl ?_
    obtain ⟨r12, h13, h⟩ := ob_some h
    refine dx_cVp (j := 0) (M := M_X10_look) (Mc := M_X10_runAsked) (dc := 0) (As := []) (st := [.ref (b + 5)]) hR dX10_look_15 ml_X10_289 ⟨TX10, 55, rfl⟩ rfl (by decide) (Nat.le_of_ble_eq_true rfl) rfl (k_X10_runAsked hR h13) ?_
    obtain ⟨c14, h⟩ := ck_some h
    refine dx_zl (j := 5) hR dX10_look_18 rfl (vp_in_iff.mpr c14) ?_
    refine pm_if_eq (tgt := 34) dX10_look_19 (by decide) (fun c15 => ?_) (fun c15 => ?_)
    · replace h := it_t c15 h
      refine pm_iconst (v := 0) dX10_look_34 (by decide) ?_
      cases h
      exact pm_iret dX10_look_35 rfl (Nat.le_refl _) (Nat.le_refl _) ⟨rfl, rfl, rfl⟩
    · replace h := it_f c15 h
      refine pm_aload_n dX10_look_22 rfl ?_
      refine pm_aload_n dX10_look_23 rfl ?_
      obtain ⟨r16, h17, h⟩ := ob_some h
      refine dx_cVp (j := 0) (M := M_X10_look) (Mc := M_X10_runAsked) (dc := 0) (As := []) (st := [.ref (b + 0)]) hR dX10_look_24 ml_X10_289 ⟨TX10, 55, rfl⟩ rfl (by decide) (Nat.le_of_ble_eq_true rfl) rfl (k_X10_runAsked hR h17) ?_
      refine pm_iload_n dX10_look_27 rfl ?_
      obtain ⟨r18, h19, h⟩ := ob_some h
      refine dx_cVp (j := 0) (M := M_X10_look) (Mc := M_X10_ofRun) (dc := 2) (As := [.int r16, .int x1]) (st := []) hR dX10_look_28 ml_X10_380 ⟨TX10, 55, rfl⟩ rfl (by decide) (Nat.le_of_ble_eq_true rfl) rfl (k_X10_ofRun hR h19) ?_
      refine pm_goto (tgt := 35) dX10_look_31 (by decide) ?_
      cases h
      exact pm_iret dX10_look_35 rfl (Nat.le_refl _) (Nat.le_refl _) ⟨rfl, rfl, rfl⟩
