theorem dX0_areUnlike_0 : decode cX0_areUnlike 0 = .ok (.iload_n 2, 1) := by decide +kernel
theorem dX0_areUnlike_1 : decode cX0_areUnlike 1 = .ok (.istore 6, 2) := by decide +kernel
theorem dX0_areUnlike_3 : decode cX0_areUnlike 3 = .ok (.iload 6, 2) := by decide +kernel
theorem dX0_areUnlike_5 : decode cX0_areUnlike 5 = .ok (.iload_n 3, 1) := by decide +kernel
theorem dX0_areUnlike_6 : decode cX0_areUnlike 6 = .ok (.if_icmp .ge 65, 3) := by decide +kernel
theorem dX0_areUnlike_9 : decode cX0_areUnlike 9 = .ok (.aload_n 1, 1) := by decide +kernel
theorem dX0_areUnlike_10 : decode cX0_areUnlike 10 = .ok (.iload 6, 2) := by decide +kernel
theorem dX0_areUnlike_12 : decode cX0_areUnlike 12 = .ok (.invokevirtual 99, 3) := by decide +kernel
theorem dX0_areUnlike_15 : decode cX0_areUnlike 15 = .ok (.istore 7, 2) := by decide +kernel
theorem dX0_areUnlike_17 : decode cX0_areUnlike 17 = .ok (.iload 7, 2) := by decide +kernel
theorem dX0_areUnlike_19 : decode cX0_areUnlike 19 = .ok (.invokestatic 102, 3) := by decide +kernel
theorem dX0_areUnlike_22 : decode cX0_areUnlike 22 = .ok (.ifCond .eq 43, 3) := by decide +kernel
theorem dX0_areUnlike_25 : decode cX0_areUnlike 25 = .ok (.aload_n 0, 1) := by decide +kernel
theorem dX0_areUnlike_26 : decode cX0_areUnlike 26 = .ok (.getfield 30, 3) := by decide +kernel
theorem dX0_areUnlike_29 : decode cX0_areUnlike 29 = .ok (.iload 7, 2) := by decide +kernel
theorem dX0_areUnlike_31 : decode cX0_areUnlike 31 = .ok (.iaload, 1) := by decide +kernel
theorem dX0_areUnlike_32 : decode cX0_areUnlike 32 = .ok (.istore 8, 2) := by decide +kernel
theorem dX0_areUnlike_34 : decode cX0_areUnlike 34 = .ok (.aload 4, 2) := by decide +kernel
theorem dX0_areUnlike_36 : decode cX0_areUnlike 36 = .ok (.aload_n 0, 1) := by decide +kernel
theorem dX0_areUnlike_37 : decode cX0_areUnlike 37 = .ok (.getfield 27, 3) := by decide +kernel
theorem dX0_areUnlike_40 : decode cX0_areUnlike 40 = .ok (.iload 7, 2) := by decide +kernel
theorem dX0_areUnlike_42 : decode cX0_areUnlike 42 = .ok (.iaload, 1) := by decide +kernel
theorem dX0_areUnlike_43 : decode cX0_areUnlike 43 = .ok (.aload 5, 2) := by decide +kernel
theorem dX0_areUnlike_45 : decode cX0_areUnlike 45 = .ok (.iload 8, 2) := by decide +kernel
theorem dX0_areUnlike_47 : decode cX0_areUnlike 47 = .ok (.invokevirtual 105, 3) := by decide +kernel
theorem dX0_areUnlike_50 : decode cX0_areUnlike 50 = .ok (.aload 5, 2) := by decide +kernel
theorem dX0_areUnlike_52 : decode cX0_areUnlike 52 = .ok (.iload 8, 2) := by decide +kernel
theorem dX0_areUnlike_54 : decode cX0_areUnlike 54 = .ok (.invokevirtual 108, 3) := by decide +kernel
theorem dX0_areUnlike_57 : decode cX0_areUnlike 57 = .ok (.invokevirtual 111, 3) := by decide +kernel
theorem dX0_areUnlike_60 : decode cX0_areUnlike 60 = .ok (.ifCond .ne 5, 3) := by decide +kernel
theorem dX0_areUnlike_63 : decode cX0_areUnlike 63 = .ok (.iconst 1, 1) := by decide +kernel
theorem dX0_areUnlike_64 : decode cX0_areUnlike 64 = .ok (.ireturn, 1) := by decide +kernel
theorem dX0_areUnlike_65 : decode cX0_areUnlike 65 = .ok (.iinc 6 1, 3) := by decide +kernel
theorem dX0_areUnlike_68 : decode cX0_areUnlike 68 = .ok (.goto (-65), 3) := by decide +kernel
theorem dX0_areUnlike_71 : decode cX0_areUnlike 71 = .ok (.iconst 0, 1) := by decide +kernel
theorem dX0_areUnlike_72 : decode cX0_areUnlike 72 = .ok (.ireturn, 1) := by decide +kernel
theorem dX0_firstUnlike_0 : decode cX0_firstUnlike 0 = .ok (.aload_n 0, 1) := by decide +kernel
theorem dX0_firstUnlike_1 : decode cX0_firstUnlike 1 = .ok (.getfield 27, 3) := by decide +kernel
theorem dX0_firstUnlike_4 : decode cX0_firstUnlike 4 = .ok (.iconst (-1), 1) := by decide +kernel
theorem dX0_firstUnlike_5 : decode cX0_firstUnlike 5 = .ok (.invokestatic 55, 3) := by decide +kernel
theorem dX0_firstUnlike_8 : decode cX0_firstUnlike 8 = .ok (.aload_n 0, 1) := by decide +kernel
theorem dX0_firstUnlike_9 : decode cX0_firstUnlike 9 = .ok (.getfield 30, 3) := by decide +kernel
theorem dX0_firstUnlike_12 : decode cX0_firstUnlike 12 = .ok (.iconst (-1), 1) := by decide +kernel
theorem dX0_firstUnlike_13 : decode cX0_firstUnlike 13 = .ok (.invokestatic 55, 3) := by decide +kernel
theorem dX0_firstUnlike_16 : decode cX0_firstUnlike 16 = .ok (.iconst 0, 1) := by decide +kernel
theorem dX0_firstUnlike_17 : decode cX0_firstUnlike 17 = .ok (.istore_n 3, 1) := by decide +kernel
theorem dX0_firstUnlike_18 : decode cX0_firstUnlike 18 = .ok (.iconst 0, 1) := by decide +kernel
theorem dX0_firstUnlike_19 : decode cX0_firstUnlike 19 = .ok (.istore 4, 2) := by decide +kernel
theorem dX0_firstUnlike_21 : decode cX0_firstUnlike 21 = .ok (.aload_n 1, 1) := by decide +kernel
theorem dX0_firstUnlike_22 : decode cX0_firstUnlike 22 = .ok (.getfield 68, 3) := by decide +kernel
theorem dX0_firstUnlike_25 : decode cX0_firstUnlike 25 = .ok (.aload_n 2, 1) := by decide +kernel
theorem dX0_firstUnlike_26 : decode cX0_firstUnlike 26 = .ok (.getfield 68, 3) := by decide +kernel
theorem dX0_firstUnlike_29 : decode cX0_firstUnlike 29 = .ok (.invokestatic 42, 3) := by decide +kernel
theorem dX0_firstUnlike_32 : decode cX0_firstUnlike 32 = .ok (.istore 5, 2) := by decide +kernel
theorem dX0_firstUnlike_34 : decode cX0_firstUnlike 34 = .ok (.iconst 0, 1) := by decide +kernel
theorem dX0_firstUnlike_35 : decode cX0_firstUnlike 35 = .ok (.istore 6, 2) := by decide +kernel
theorem dX0_firstUnlike_37 : decode cX0_firstUnlike 37 = .ok (.iload 6, 2) := by decide +kernel
theorem dX0_firstUnlike_39 : decode cX0_firstUnlike 39 = .ok (.iload 5, 2) := by decide +kernel
theorem dX0_firstUnlike_41 : decode cX0_firstUnlike 41 = .ok (.if_icmp .gt 122, 3) := by decide +kernel
theorem dX0_firstUnlike_44 : decode cX0_firstUnlike 44 = .ok (.aload_n 1, 1) := by decide +kernel
theorem dX0_firstUnlike_45 : decode cX0_firstUnlike 45 = .ok (.getfield 73, 3) := by decide +kernel
theorem dX0_firstUnlike_48 : decode cX0_firstUnlike 48 = .ok (.iload_n 3, 1) := by decide +kernel
theorem dX0_firstUnlike_49 : decode cX0_firstUnlike 49 = .ok (.iload 6, 2) := by decide +kernel
theorem dX0_firstUnlike_51 : decode cX0_firstUnlike 51 = .ok (.aload_n 0, 1) := by decide +kernel
theorem dX0_firstUnlike_52 : decode cX0_firstUnlike 52 = .ok (.getfield 27, 3) := by decide +kernel
theorem dX0_firstUnlike_55 : decode cX0_firstUnlike 55 = .ok (.invokestatic 77, 3) := by decide +kernel
theorem dX0_firstUnlike_58 : decode cX0_firstUnlike 58 = .ok (.istore 7, 2) := by decide +kernel
theorem dX0_firstUnlike_60 : decode cX0_firstUnlike 60 = .ok (.aload_n 2, 1) := by decide +kernel
theorem dX0_firstUnlike_61 : decode cX0_firstUnlike 61 = .ok (.getfield 73, 3) := by decide +kernel
theorem dX0_firstUnlike_64 : decode cX0_firstUnlike 64 = .ok (.iload 4, 2) := by decide +kernel
theorem dX0_firstUnlike_66 : decode cX0_firstUnlike 66 = .ok (.iload 6, 2) := by decide +kernel
theorem dX0_firstUnlike_68 : decode cX0_firstUnlike 68 = .ok (.aload_n 0, 1) := by decide +kernel
theorem dX0_firstUnlike_69 : decode cX0_firstUnlike 69 = .ok (.getfield 30, 3) := by decide +kernel
theorem dX0_firstUnlike_72 : decode cX0_firstUnlike 72 = .ok (.invokestatic 77, 3) := by decide +kernel
theorem dX0_firstUnlike_75 : decode cX0_firstUnlike 75 = .ok (.istore 8, 2) := by decide +kernel
theorem dX0_firstUnlike_77 : decode cX0_firstUnlike 77 = .ok (.aload_n 1, 1) := by decide +kernel
theorem dX0_firstUnlike_78 : decode cX0_firstUnlike 78 = .ok (.iload 6, 2) := by decide +kernel
theorem dX0_firstUnlike_80 : decode cX0_firstUnlike 80 = .ok (.invokevirtual 81, 3) := by decide +kernel
theorem dX0_firstUnlike_83 : decode cX0_firstUnlike 83 = .ok (.aload_n 2, 1) := by decide +kernel
theorem dX0_firstUnlike_84 : decode cX0_firstUnlike 84 = .ok (.iload 6, 2) := by decide +kernel
theorem dX0_firstUnlike_86 : decode cX0_firstUnlike 86 = .ok (.invokevirtual 81, 3) := by decide +kernel
theorem dX0_firstUnlike_89 : decode cX0_firstUnlike 89 = .ok (.if_icmp .ne 58, 3) := by decide +kernel
theorem dX0_firstUnlike_92 : decode cX0_firstUnlike 92 = .ok (.aload_n 1, 1) := by decide +kernel
theorem dX0_firstUnlike_93 : decode cX0_firstUnlike 93 = .ok (.iload 6, 2) := by decide +kernel
theorem dX0_firstUnlike_95 : decode cX0_firstUnlike 95 = .ok (.aload_n 2, 1) := by decide +kernel
theorem dX0_firstUnlike_96 : decode cX0_firstUnlike 96 = .ok (.invokevirtual 85, 3) := by decide +kernel
theorem dX0_firstUnlike_99 : decode cX0_firstUnlike 99 = .ok (.ifCond .eq 48, 3) := by decide +kernel
theorem dX0_firstUnlike_102 : decode cX0_firstUnlike 102 = .ok (.aload_n 0, 1) := by decide +kernel
theorem dX0_firstUnlike_103 : decode cX0_firstUnlike 103 = .ok (.aload_n 1, 1) := by decide +kernel
theorem dX0_firstUnlike_104 : decode cX0_firstUnlike 104 = .ok (.getfield 73, 3) := by decide +kernel
theorem dX0_firstUnlike_107 : decode cX0_firstUnlike 107 = .ok (.iload_n 3, 1) := by decide +kernel
theorem dX0_firstUnlike_108 : decode cX0_firstUnlike 108 = .ok (.iload 7, 2) := by decide +kernel
theorem dX0_firstUnlike_110 : decode cX0_firstUnlike 110 = .ok (.aload_n 1, 1) := by decide +kernel
theorem dX0_firstUnlike_111 : decode cX0_firstUnlike 111 = .ok (.getfield 73, 3) := by decide +kernel
theorem dX0_firstUnlike_114 : decode cX0_firstUnlike 114 = .ok (.aload_n 2, 1) := by decide +kernel
theorem dX0_firstUnlike_115 : decode cX0_firstUnlike 115 = .ok (.getfield 73, 3) := by decide +kernel
theorem dX0_firstUnlike_118 : decode cX0_firstUnlike 118 = .ok (.invokevirtual 89, 3) := by decide +kernel
theorem dX0_firstUnlike_121 : decode cX0_firstUnlike 121 = .ok (.ifCond .ne 26, 3) := by decide +kernel
theorem dX0_firstUnlike_124 : decode cX0_firstUnlike 124 = .ok (.aload_n 0, 1) := by decide +kernel
theorem dX0_firstUnlike_125 : decode cX0_firstUnlike 125 = .ok (.aload_n 2, 1) := by decide +kernel
theorem dX0_firstUnlike_126 : decode cX0_firstUnlike 126 = .ok (.getfield 73, 3) := by decide +kernel
theorem dX0_firstUnlike_129 : decode cX0_firstUnlike 129 = .ok (.iload 4, 2) := by decide +kernel
theorem dX0_firstUnlike_131 : decode cX0_firstUnlike 131 = .ok (.iload 8, 2) := by decide +kernel
theorem dX0_firstUnlike_133 : decode cX0_firstUnlike 133 = .ok (.aload_n 1, 1) := by decide +kernel
theorem dX0_firstUnlike_134 : decode cX0_firstUnlike 134 = .ok (.getfield 73, 3) := by decide +kernel
theorem dX0_firstUnlike_137 : decode cX0_firstUnlike 137 = .ok (.aload_n 2, 1) := by decide +kernel
theorem dX0_firstUnlike_138 : decode cX0_firstUnlike 138 = .ok (.getfield 73, 3) := by decide +kernel
theorem dX0_firstUnlike_141 : decode cX0_firstUnlike 141 = .ok (.invokevirtual 89, 3) := by decide +kernel
theorem dX0_firstUnlike_144 : decode cX0_firstUnlike 144 = .ok (.ifCond .eq 6, 3) := by decide +kernel
theorem dX0_firstUnlike_147 : decode cX0_firstUnlike 147 = .ok (.iload 6, 2) := by decide +kernel
theorem dX0_firstUnlike_149 : decode cX0_firstUnlike 149 = .ok (.ireturn, 1) := by decide +kernel
theorem dX0_firstUnlike_150 : decode cX0_firstUnlike 150 = .ok (.iload 7, 2) := by decide +kernel
theorem dX0_firstUnlike_152 : decode cX0_firstUnlike 152 = .ok (.istore_n 3, 1) := by decide +kernel
theorem dX0_firstUnlike_153 : decode cX0_firstUnlike 153 = .ok (.iload 8, 2) := by decide +kernel
theorem dX0_firstUnlike_155 : decode cX0_firstUnlike 155 = .ok (.istore 4, 2) := by decide +kernel
theorem dX0_firstUnlike_157 : decode cX0_firstUnlike 157 = .ok (.iinc 6 1, 3) := by decide +kernel
theorem dX0_firstUnlike_160 : decode cX0_firstUnlike 160 = .ok (.goto (-123), 3) := by decide +kernel
theorem dX0_firstUnlike_163 : decode cX0_firstUnlike 163 = .ok (.iconst (-1), 1) := by decide +kernel
theorem dX0_firstUnlike_164 : decode cX0_firstUnlike 164 = .ok (.ireturn, 1) := by decide +kernel
theorem dX1_add_0 : decode cX1_add 0 = .ok (.aload_n 0, 1) := by decide +kernel
theorem dX1_add_1 : decode cX1_add 1 = .ok (.getfield 21, 3) := by decide +kernel
theorem dX1_add_4 : decode cX1_add 4 = .ok (.ifCond .lt 52, 3) := by decide +kernel
theorem dX1_add_7 : decode cX1_add 7 = .ok (.aload_n 0, 1) := by decide +kernel
theorem dX1_add_8 : decode cX1_add 8 = .ok (.getfield 21, 3) := by decide +kernel
theorem dX1_add_11 : decode cX1_add 11 = .ok (.bipush 100, 2) := by decide +kernel
theorem dX1_add_13 : decode cX1_add 13 = .ok (.if_icmp .ge 43, 3) := by decide +kernel
theorem dX1_add_16 : decode cX1_add 16 = .ok (.aload_n 0, 1) := by decide +kernel
theorem dX1_add_17 : decode cX1_add 17 = .ok (.getfield 9, 3) := by decide +kernel
theorem dX1_add_20 : decode cX1_add 20 = .ok (.aload_n 0, 1) := by decide +kernel
theorem dX1_add_21 : decode cX1_add 21 = .ok (.getfield 21, 3) := by decide +kernel
theorem dX1_add_24 : decode cX1_add 24 = .ok (.iload_n 1, 1) := by decide +kernel
theorem dX1_add_25 : decode cX1_add 25 = .ok (.iastore, 1) := by decide +kernel
theorem dX1_add_26 : decode cX1_add 26 = .ok (.aload_n 0, 1) := by decide +kernel
theorem dX1_add_27 : decode cX1_add 27 = .ok (.getfield 15, 3) := by decide +kernel
theorem dX1_add_30 : decode cX1_add 30 = .ok (.aload_n 0, 1) := by decide +kernel
theorem dX1_add_31 : decode cX1_add 31 = .ok (.getfield 21, 3) := by decide +kernel
theorem dX1_add_34 : decode cX1_add 34 = .ok (.iload_n 2, 1) := by decide +kernel
theorem dX1_add_35 : decode cX1_add 35 = .ok (.iastore, 1) := by decide +kernel
theorem dX1_add_36 : decode cX1_add 36 = .ok (.aload_n 0, 1) := by decide +kernel
theorem dX1_add_37 : decode cX1_add 37 = .ok (.getfield 18, 3) := by decide +kernel
theorem dX1_add_40 : decode cX1_add 40 = .ok (.aload_n 0, 1) := by decide +kernel
theorem dX1_add_41 : decode cX1_add 41 = .ok (.getfield 21, 3) := by decide +kernel
theorem dX1_add_44 : decode cX1_add 44 = .ok (.iload_n 3, 1) := by decide +kernel
theorem dX1_add_45 : decode cX1_add 45 = .ok (.iastore, 1) := by decide +kernel
theorem dX1_add_46 : decode cX1_add 46 = .ok (.aload_n 0, 1) := by decide +kernel
theorem dX1_add_47 : decode cX1_add 47 = .ok (.dup, 1) := by decide +kernel
theorem dX1_add_48 : decode cX1_add 48 = .ok (.getfield 21, 3) := by decide +kernel
theorem dX1_add_51 : decode cX1_add 51 = .ok (.iconst 1, 1) := by decide +kernel
theorem dX1_add_52 : decode cX1_add 52 = .ok (.iadd, 1) := by decide +kernel
theorem dX1_add_53 : decode cX1_add 53 = .ok (.putfield 21, 3) := by decide +kernel
theorem dX1_add_56 : decode cX1_add 56 = .ok (.return_, 1) := by decide +kernel
theorem dX1_dropFrom_0 : decode cX1_dropFrom 0 = .ok (.aload_n 0, 1) := by decide +kernel
theorem dX1_dropFrom_1 : decode cX1_dropFrom 1 = .ok (.getfield 21, 3) := by decide +kernel
theorem dX1_dropFrom_4 : decode cX1_dropFrom 4 = .ok (.iconst 1, 1) := by decide +kernel
theorem dX1_dropFrom_5 : decode cX1_dropFrom 5 = .ok (.isub, 1) := by decide +kernel
theorem dX1_dropFrom_6 : decode cX1_dropFrom 6 = .ok (.istore_n 2, 1) := by decide +kernel
theorem dX1_dropFrom_7 : decode cX1_dropFrom 7 = .ok (.iload_n 2, 1) := by decide +kernel
theorem dX1_dropFrom_8 : decode cX1_dropFrom 8 = .ok (.ifCond .lt 32, 3) := by decide +kernel
theorem dX1_dropFrom_11 : decode cX1_dropFrom 11 = .ok (.aload_n 0, 1) := by decide +kernel
theorem dX1_dropFrom_12 : decode cX1_dropFrom 12 = .ok (.iload_n 2, 1) := by decide +kernel
theorem dX1_dropFrom_13 : decode cX1_dropFrom 13 = .ok (.invokevirtual 29, 3) := by decide +kernel
theorem dX1_dropFrom_16 : decode cX1_dropFrom 16 = .ok (.ifCond .eq 24, 3) := by decide +kernel
theorem dX1_dropFrom_19 : decode cX1_dropFrom 19 = .ok (.aload_n 0, 1) := by decide +kernel
theorem dX1_dropFrom_20 : decode cX1_dropFrom 20 = .ok (.getfield 9, 3) := by decide +kernel
theorem dX1_dropFrom_23 : decode cX1_dropFrom 23 = .ok (.iload_n 2, 1) := by decide +kernel
theorem dX1_dropFrom_24 : decode cX1_dropFrom 24 = .ok (.iaload, 1) := by decide +kernel
theorem dX1_dropFrom_25 : decode cX1_dropFrom 25 = .ok (.iload_n 1, 1) := by decide +kernel
theorem dX1_dropFrom_26 : decode cX1_dropFrom 26 = .ok (.if_icmp .lt 14, 3) := by decide +kernel
theorem dX1_dropFrom_29 : decode cX1_dropFrom 29 = .ok (.aload_n 0, 1) := by decide +kernel
theorem dX1_dropFrom_30 : decode cX1_dropFrom 30 = .ok (.iload_n 2, 1) := by decide +kernel
theorem dX1_dropFrom_31 : decode cX1_dropFrom 31 = .ok (.putfield 21, 3) := by decide +kernel
theorem dX1_dropFrom_34 : decode cX1_dropFrom 34 = .ok (.iinc 2 (-1), 3) := by decide +kernel
theorem dX1_dropFrom_37 : decode cX1_dropFrom 37 = .ok (.goto (-30), 3) := by decide +kernel
theorem dX1_dropFrom_40 : decode cX1_dropFrom 40 = .ok (.return_, 1) := by decide +kernel
theorem dX1_read_0 : decode cX1_read 0 = .ok (.aload_n 0, 1) := by decide +kernel
theorem dX1_read_1 : decode cX1_read 1 = .ok (.iload_n 1, 1) := by decide +kernel
theorem dX1_read_2 : decode cX1_read 2 = .ok (.invokevirtual 29, 3) := by decide +kernel
theorem dX1_read_5 : decode cX1_read 5 = .ok (.ifCond .ne 5, 3) := by decide +kernel
theorem dX1_read_8 : decode cX1_read 8 = .ok (.iconst (-1), 1) := by decide +kernel
theorem dX1_read_9 : decode cX1_read 9 = .ok (.ireturn, 1) := by decide +kernel
theorem dX1_read_10 : decode cX1_read 10 = .ok (.iload_n 2, 1) := by decide +kernel
theorem dX1_read_11 : decode cX1_read 11 = .ok (.tableswitch 46 0 2 #[25, 32, 39], 25) := by decide +kernel
theorem dX1_read_36 : decode cX1_read 36 = .ok (.aload_n 0, 1) := by decide +kernel
theorem dX1_read_37 : decode cX1_read 37 = .ok (.getfield 9, 3) := by decide +kernel
theorem dX1_read_40 : decode cX1_read 40 = .ok (.iload_n 1, 1) := by decide +kernel
theorem dX1_read_41 : decode cX1_read 41 = .ok (.iaload, 1) := by decide +kernel
theorem dX1_read_42 : decode cX1_read 42 = .ok (.ireturn, 1) := by decide +kernel
theorem dX1_read_43 : decode cX1_read 43 = .ok (.aload_n 0, 1) := by decide +kernel
theorem dX1_read_44 : decode cX1_read 44 = .ok (.getfield 15, 3) := by decide +kernel
theorem dX1_read_47 : decode cX1_read 47 = .ok (.iload_n 1, 1) := by decide +kernel
theorem dX1_read_48 : decode cX1_read 48 = .ok (.iaload, 1) := by decide +kernel
theorem dX1_read_49 : decode cX1_read 49 = .ok (.ireturn, 1) := by decide +kernel
theorem dX1_read_50 : decode cX1_read 50 = .ok (.aload_n 0, 1) := by decide +kernel
theorem dX1_read_51 : decode cX1_read 51 = .ok (.getfield 18, 3) := by decide +kernel
theorem dX1_read_54 : decode cX1_read 54 = .ok (.iload_n 1, 1) := by decide +kernel
theorem dX1_read_55 : decode cX1_read 55 = .ok (.iaload, 1) := by decide +kernel
theorem dX1_read_56 : decode cX1_read 56 = .ok (.ireturn, 1) := by decide +kernel
theorem dX1_read_57 : decode cX1_read 57 = .ok (.iconst (-1), 1) := by decide +kernel
theorem dX1_read_58 : decode cX1_read 58 = .ok (.ireturn, 1) := by decide +kernel
theorem dX1_takeFrom_0 : decode cX1_takeFrom 0 = .ok (.aload_n 0, 1) := by decide +kernel
theorem dX1_takeFrom_1 : decode cX1_takeFrom 1 = .ok (.aload_n 1, 1) := by decide +kernel
theorem dX1_takeFrom_2 : decode cX1_takeFrom 2 = .ok (.getfield 21, 3) := by decide +kernel
theorem dX1_takeFrom_5 : decode cX1_takeFrom 5 = .ok (.putfield 21, 3) := by decide +kernel
theorem dX1_takeFrom_8 : decode cX1_takeFrom 8 = .ok (.aload_n 1, 1) := by decide +kernel
theorem dX1_takeFrom_9 : decode cX1_takeFrom 9 = .ok (.getfield 9, 3) := by decide +kernel
theorem dX1_takeFrom_12 : decode cX1_takeFrom 12 = .ok (.aload_n 0, 1) := by decide +kernel
theorem dX1_takeFrom_13 : decode cX1_takeFrom 13 = .ok (.getfield 9, 3) := by decide +kernel
theorem dX1_takeFrom_16 : decode cX1_takeFrom 16 = .ok (.aload_n 0, 1) := by decide +kernel
theorem dX1_takeFrom_17 : decode cX1_takeFrom 17 = .ok (.getfield 21, 3) := by decide +kernel
theorem dX1_takeFrom_20 : decode cX1_takeFrom 20 = .ok (.invokestatic 25, 3) := by decide +kernel
theorem dX1_takeFrom_23 : decode cX1_takeFrom 23 = .ok (.aload_n 1, 1) := by decide +kernel
theorem dX1_takeFrom_24 : decode cX1_takeFrom 24 = .ok (.getfield 15, 3) := by decide +kernel
theorem dX1_takeFrom_27 : decode cX1_takeFrom 27 = .ok (.aload_n 0, 1) := by decide +kernel
theorem dX1_takeFrom_28 : decode cX1_takeFrom 28 = .ok (.getfield 15, 3) := by decide +kernel
theorem dX1_takeFrom_31 : decode cX1_takeFrom 31 = .ok (.aload_n 0, 1) := by decide +kernel
theorem dX1_takeFrom_32 : decode cX1_takeFrom 32 = .ok (.getfield 21, 3) := by decide +kernel
theorem dX1_takeFrom_35 : decode cX1_takeFrom 35 = .ok (.invokestatic 25, 3) := by decide +kernel
theorem dX1_takeFrom_38 : decode cX1_takeFrom 38 = .ok (.aload_n 1, 1) := by decide +kernel
theorem dX1_takeFrom_39 : decode cX1_takeFrom 39 = .ok (.getfield 18, 3) := by decide +kernel
theorem dX1_takeFrom_42 : decode cX1_takeFrom 42 = .ok (.aload_n 0, 1) := by decide +kernel
theorem dX1_takeFrom_43 : decode cX1_takeFrom 43 = .ok (.getfield 18, 3) := by decide +kernel
theorem dX1_takeFrom_46 : decode cX1_takeFrom 46 = .ok (.aload_n 0, 1) := by decide +kernel
theorem dX1_takeFrom_47 : decode cX1_takeFrom 47 = .ok (.getfield 21, 3) := by decide +kernel
theorem dX1_takeFrom_50 : decode cX1_takeFrom 50 = .ok (.invokestatic 25, 3) := by decide +kernel
theorem dX1_takeFrom_53 : decode cX1_takeFrom 53 = .ok (.return_, 1) := by decide +kernel
theorem dX2_dropAbove_0 : decode cX2_dropAbove 0 = .ok (.aload_n 0, 1) := by decide +kernel
theorem dX2_dropAbove_1 : decode cX2_dropAbove 1 = .ok (.getfield 15, 3) := by decide +kernel
theorem dX2_dropAbove_4 : decode cX2_dropAbove 4 = .ok (.iconst 1, 1) := by decide +kernel
theorem dX2_dropAbove_5 : decode cX2_dropAbove 5 = .ok (.isub, 1) := by decide +kernel
theorem dX2_dropAbove_6 : decode cX2_dropAbove 6 = .ok (.istore_n 2, 1) := by decide +kernel
theorem dX2_dropAbove_7 : decode cX2_dropAbove 7 = .ok (.iload_n 2, 1) := by decide +kernel
theorem dX2_dropAbove_8 : decode cX2_dropAbove 8 = .ok (.ifCond .lt 23, 3) := by decide +kernel
theorem dX2_dropAbove_11 : decode cX2_dropAbove 11 = .ok (.aload_n 0, 1) := by decide +kernel
theorem dX2_dropAbove_12 : decode cX2_dropAbove 12 = .ok (.iload_n 2, 1) := by decide +kernel
theorem dX2_dropAbove_13 : decode cX2_dropAbove 13 = .ok (.invokevirtual 53, 3) := by decide +kernel
theorem dX2_dropAbove_16 : decode cX2_dropAbove 16 = .ok (.iload_n 1, 1) := by decide +kernel
theorem dX2_dropAbove_17 : decode cX2_dropAbove 17 = .ok (.if_icmp .le 14, 3) := by decide +kernel
theorem dX2_dropAbove_20 : decode cX2_dropAbove 20 = .ok (.aload_n 0, 1) := by decide +kernel
theorem dX2_dropAbove_21 : decode cX2_dropAbove 21 = .ok (.iload_n 2, 1) := by decide +kernel
theorem dX2_dropAbove_22 : decode cX2_dropAbove 22 = .ok (.putfield 15, 3) := by decide +kernel
theorem dX2_dropAbove_25 : decode cX2_dropAbove 25 = .ok (.iinc 2 (-1), 3) := by decide +kernel
theorem dX2_dropAbove_28 : decode cX2_dropAbove 28 = .ok (.goto (-21), 3) := by decide +kernel
theorem dX2_dropAbove_31 : decode cX2_dropAbove 31 = .ok (.return_, 1) := by decide +kernel
theorem dX2_dropWhatGoesBy_0 : decode cX2_dropWhatGoesBy 0 = .ok (.iconst 0, 1) := by decide +kernel
theorem dX2_dropWhatGoesBy_1 : decode cX2_dropWhatGoesBy 1 = .ok (.istore_n 2, 1) := by decide +kernel
theorem dX2_dropWhatGoesBy_2 : decode cX2_dropWhatGoesBy 2 = .ok (.iconst 0, 1) := by decide +kernel
theorem dX2_dropWhatGoesBy_3 : decode cX2_dropWhatGoesBy 3 = .ok (.istore_n 3, 1) := by decide +kernel
theorem dX2_dropWhatGoesBy_4 : decode cX2_dropWhatGoesBy 4 = .ok (.iload_n 3, 1) := by decide +kernel
theorem dX2_dropWhatGoesBy_5 : decode cX2_dropWhatGoesBy 5 = .ok (.aload_n 0, 1) := by decide +kernel
theorem dX2_dropWhatGoesBy_6 : decode cX2_dropWhatGoesBy 6 = .ok (.getfield 15, 3) := by decide +kernel
theorem dX2_dropWhatGoesBy_9 : decode cX2_dropWhatGoesBy 9 = .ok (.if_icmp .ge 49, 3) := by decide +kernel
theorem dX2_dropWhatGoesBy_12 : decode cX2_dropWhatGoesBy 12 = .ok (.iload_n 3, 1) := by decide +kernel
theorem dX2_dropWhatGoesBy_13 : decode cX2_dropWhatGoesBy 13 = .ok (.bipush 64, 2) := by decide +kernel
theorem dX2_dropWhatGoesBy_15 : decode cX2_dropWhatGoesBy 15 = .ok (.if_icmp .ge 43, 3) := by decide +kernel
theorem dX2_dropWhatGoesBy_18 : decode cX2_dropWhatGoesBy 18 = .ok (.aload_n 0, 1) := by decide +kernel
theorem dX2_dropWhatGoesBy_19 : decode cX2_dropWhatGoesBy 19 = .ok (.iload_n 3, 1) := by decide +kernel
theorem dX2_dropWhatGoesBy_20 : decode cX2_dropWhatGoesBy 20 = .ok (.invokevirtual 49, 3) := by decide +kernel
theorem dX2_dropWhatGoesBy_23 : decode cX2_dropWhatGoesBy 23 = .ok (.istore 4, 2) := by decide +kernel
theorem dX2_dropWhatGoesBy_25 : decode cX2_dropWhatGoesBy 25 = .ok (.iload 4, 2) := by decide +kernel
theorem dX2_dropWhatGoesBy_27 : decode cX2_dropWhatGoesBy 27 = .ok (.iconst (-1), 1) := by decide +kernel
theorem dX2_dropWhatGoesBy_28 : decode cX2_dropWhatGoesBy 28 = .ok (.if_icmp .eq 9, 3) := by decide +kernel
theorem dX2_dropWhatGoesBy_31 : decode cX2_dropWhatGoesBy 31 = .ok (.iload 4, 2) := by decide +kernel
theorem dX2_dropWhatGoesBy_33 : decode cX2_dropWhatGoesBy 33 = .ok (.iload_n 1, 1) := by decide +kernel
theorem dX2_dropWhatGoesBy_34 : decode cX2_dropWhatGoesBy 34 = .ok (.if_icmp .le 18, 3) := by decide +kernel
theorem dX2_dropWhatGoesBy_37 : decode cX2_dropWhatGoesBy 37 = .ok (.aload_n 0, 1) := by decide +kernel
theorem dX2_dropWhatGoesBy_38 : decode cX2_dropWhatGoesBy 38 = .ok (.getfield 9, 3) := by decide +kernel
theorem dX2_dropWhatGoesBy_41 : decode cX2_dropWhatGoesBy 41 = .ok (.iload_n 2, 1) := by decide +kernel
theorem dX2_dropWhatGoesBy_42 : decode cX2_dropWhatGoesBy 42 = .ok (.aload_n 0, 1) := by decide +kernel
theorem dX2_dropWhatGoesBy_43 : decode cX2_dropWhatGoesBy 43 = .ok (.getfield 9, 3) := by decide +kernel
theorem dX2_dropWhatGoesBy_46 : decode cX2_dropWhatGoesBy 46 = .ok (.iload_n 3, 1) := by decide +kernel
theorem dX2_dropWhatGoesBy_47 : decode cX2_dropWhatGoesBy 47 = .ok (.iaload, 1) := by decide +kernel
theorem dX2_dropWhatGoesBy_48 : decode cX2_dropWhatGoesBy 48 = .ok (.iastore, 1) := by decide +kernel
theorem dX2_dropWhatGoesBy_49 : decode cX2_dropWhatGoesBy 49 = .ok (.iinc 2 1, 3) := by decide +kernel
theorem dX2_dropWhatGoesBy_52 : decode cX2_dropWhatGoesBy 52 = .ok (.iinc 3 1, 3) := by decide +kernel
theorem dX2_dropWhatGoesBy_55 : decode cX2_dropWhatGoesBy 55 = .ok (.goto (-51), 3) := by decide +kernel
theorem dX2_dropWhatGoesBy_58 : decode cX2_dropWhatGoesBy 58 = .ok (.aload_n 0, 1) := by decide +kernel
theorem dX2_dropWhatGoesBy_59 : decode cX2_dropWhatGoesBy 59 = .ok (.iload_n 2, 1) := by decide +kernel
theorem dX2_dropWhatGoesBy_60 : decode cX2_dropWhatGoesBy 60 = .ok (.putfield 15, 3) := by decide +kernel
theorem dX2_dropWhatGoesBy_63 : decode cX2_dropWhatGoesBy 63 = .ok (.return_, 1) := by decide +kernel
theorem dX2_goesAt_0 : decode cX2_goesAt 0 = .ok (.aload_n 0, 1) := by decide +kernel
theorem dX2_goesAt_1 : decode cX2_goesAt 1 = .ok (.iload_n 1, 1) := by decide +kernel
theorem dX2_goesAt_2 : decode cX2_goesAt 2 = .ok (.invokevirtual 36, 3) := by decide +kernel
theorem dX2_goesAt_5 : decode cX2_goesAt 5 = .ok (.ifCond .eq 20, 3) := by decide +kernel
theorem dX2_goesAt_8 : decode cX2_goesAt 8 = .ok (.aload_n 0, 1) := by decide +kernel
theorem dX2_goesAt_9 : decode cX2_goesAt 9 = .ok (.getfield 9, 3) := by decide +kernel
theorem dX2_goesAt_12 : decode cX2_goesAt 12 = .ok (.iload_n 1, 1) := by decide +kernel
theorem dX2_goesAt_13 : decode cX2_goesAt 13 = .ok (.iaload, 1) := by decide +kernel
theorem dX2_goesAt_14 : decode cX2_goesAt 14 = .ok (.ifCond .eq 11, 3) := by decide +kernel
theorem dX2_goesAt_17 : decode cX2_goesAt 17 = .ok (.aload_n 0, 1) := by decide +kernel
theorem dX2_goesAt_18 : decode cX2_goesAt 18 = .ok (.getfield 22, 3) := by decide +kernel
theorem dX2_goesAt_21 : decode cX2_goesAt 21 = .ok (.iconst 1, 1) := by decide +kernel
theorem dX2_goesAt_22 : decode cX2_goesAt 22 = .ok (.if_icmp .ge 5, 3) := by decide +kernel
theorem dX2_goesAt_25 : decode cX2_goesAt 25 = .ok (.iconst (-1), 1) := by decide +kernel
theorem dX2_goesAt_26 : decode cX2_goesAt 26 = .ok (.ireturn, 1) := by decide +kernel
theorem dX2_goesAt_27 : decode cX2_goesAt 27 = .ok (.aload_n 0, 1) := by decide +kernel
theorem dX2_goesAt_28 : decode cX2_goesAt 28 = .ok (.getfield 9, 3) := by decide +kernel
theorem dX2_goesAt_31 : decode cX2_goesAt 31 = .ok (.iload_n 1, 1) := by decide +kernel
theorem dX2_goesAt_32 : decode cX2_goesAt 32 = .ok (.iaload, 1) := by decide +kernel
theorem dX2_goesAt_33 : decode cX2_goesAt 33 = .ok (.aload_n 0, 1) := by decide +kernel
theorem dX2_goesAt_34 : decode cX2_goesAt 34 = .ok (.getfield 22, 3) := by decide +kernel
theorem dX2_goesAt_37 : decode cX2_goesAt 37 = .ok (.idiv, 1) := by decide +kernel
theorem dX2_goesAt_38 : decode cX2_goesAt 38 = .ok (.aload_n 0, 1) := by decide +kernel
theorem dX2_goesAt_39 : decode cX2_goesAt 39 = .ok (.getfield 25, 3) := by decide +kernel
theorem dX2_goesAt_42 : decode cX2_goesAt 42 = .ok (.invokestatic 32, 3) := by decide +kernel
theorem dX2_goesAt_45 : decode cX2_goesAt 45 = .ok (.aload_n 0, 1) := by decide +kernel
theorem dX2_goesAt_46 : decode cX2_goesAt 46 = .ok (.getfield 22, 3) := by decide +kernel
theorem dX2_goesAt_49 : decode cX2_goesAt 49 = .ok (.imul, 1) := by decide +kernel
theorem dX2_goesAt_50 : decode cX2_goesAt 50 = .ok (.ireturn, 1) := by decide +kernel
theorem dX2_goesWith_0 : decode cX2_goesWith 0 = .ok (.iload_n 0, 1) := by decide +kernel
theorem dX2_goesWith_1 : decode cX2_goesWith 1 = .ok (.iload_n 1, 1) := by decide +kernel
theorem dX2_goesWith_2 : decode cX2_goesWith 2 = .ok (.iload_n 0, 1) := by decide +kernel
theorem dX2_goesWith_3 : decode cX2_goesWith 3 = .ok (.iload_n 0, 1) := by decide +kernel
theorem dX2_goesWith_4 : decode cX2_goesWith 4 = .ok (.ineg, 1) := by decide +kernel
theorem dX2_goesWith_5 : decode cX2_goesWith 5 = .ok (.iand, 1) := by decide +kernel
theorem dX2_goesWith_6 : decode cX2_goesWith 6 = .ok (.imul, 1) := by decide +kernel
theorem dX2_goesWith_7 : decode cX2_goesWith 7 = .ok (.iadd, 1) := by decide +kernel
theorem dX2_goesWith_8 : decode cX2_goesWith 8 = .ok (.ireturn, 1) := by decide +kernel
theorem dX2_has_0 : decode cX2_has 0 = .ok (.iload_n 1, 1) := by decide +kernel
theorem dX2_has_1 : decode cX2_has 1 = .ok (.ifCond .lt 21, 3) := by decide +kernel
theorem dX2_has_4 : decode cX2_has 4 = .ok (.iload_n 1, 1) := by decide +kernel
theorem dX2_has_5 : decode cX2_has 5 = .ok (.aload_n 0, 1) := by decide +kernel
theorem dX2_has_6 : decode cX2_has 6 = .ok (.getfield 15, 3) := by decide +kernel
theorem dX2_has_9 : decode cX2_has 9 = .ok (.if_icmp .ge 13, 3) := by decide +kernel
theorem dX2_has_12 : decode cX2_has 12 = .ok (.iload_n 1, 1) := by decide +kernel
theorem dX2_has_13 : decode cX2_has 13 = .ok (.bipush 64, 2) := by decide +kernel
theorem dX2_has_15 : decode cX2_has 15 = .ok (.if_icmp .ge 7, 3) := by decide +kernel
theorem dX2_has_18 : decode cX2_has 18 = .ok (.iconst 1, 1) := by decide +kernel
theorem dX2_has_19 : decode cX2_has 19 = .ok (.goto 4, 3) := by decide +kernel
theorem dX2_has_22 : decode cX2_has 22 = .ok (.iconst 0, 1) := by decide +kernel
theorem dX2_has_23 : decode cX2_has 23 = .ok (.ireturn, 1) := by decide +kernel
theorem dX2_isHeldStill_0 : decode cX2_isHeldStill 0 = .ok (.iload_n 0, 1) := by decide +kernel
theorem dX2_isHeldStill_1 : decode cX2_isHeldStill 1 = .ok (.iload_n 1, 1) := by decide +kernel
theorem dX2_isHeldStill_2 : decode cX2_isHeldStill 2 = .ok (.invokestatic 32, 3) := by decide +kernel
theorem dX2_isHeldStill_5 : decode cX2_isHeldStill 5 = .ok (.iload_n 2, 1) := by decide +kernel
theorem dX2_isHeldStill_6 : decode cX2_isHeldStill 6 = .ok (.if_icmp .le 7, 3) := by decide +kernel
theorem dX2_isHeldStill_9 : decode cX2_isHeldStill 9 = .ok (.iconst 1, 1) := by decide +kernel
theorem dX2_isHeldStill_10 : decode cX2_isHeldStill 10 = .ok (.goto 4, 3) := by decide +kernel
theorem dX2_isHeldStill_13 : decode cX2_isHeldStill 13 = .ok (.iconst 0, 1) := by decide +kernel
theorem dX2_isHeldStill_14 : decode cX2_isHeldStill 14 = .ok (.ireturn, 1) := by decide +kernel
theorem dX2_latestBy_0 : decode cX2_latestBy 0 = .ok (.iconst 0, 1) := by decide +kernel
theorem dX2_latestBy_1 : decode cX2_latestBy 1 = .ok (.istore_n 2, 1) := by decide +kernel
theorem dX2_latestBy_2 : decode cX2_latestBy 2 = .ok (.iconst 0, 1) := by decide +kernel
theorem dX2_latestBy_3 : decode cX2_latestBy 3 = .ok (.istore_n 3, 1) := by decide +kernel
theorem dX2_latestBy_4 : decode cX2_latestBy 4 = .ok (.iload_n 3, 1) := by decide +kernel
theorem dX2_latestBy_5 : decode cX2_latestBy 5 = .ok (.aload_n 0, 1) := by decide +kernel
theorem dX2_latestBy_6 : decode cX2_latestBy 6 = .ok (.getfield 15, 3) := by decide +kernel
theorem dX2_latestBy_9 : decode cX2_latestBy 9 = .ok (.if_icmp .ge 24, 3) := by decide +kernel
theorem dX2_latestBy_12 : decode cX2_latestBy 12 = .ok (.aload_n 0, 1) := by decide +kernel
theorem dX2_latestBy_13 : decode cX2_latestBy 13 = .ok (.iload_n 3, 1) := by decide +kernel
theorem dX2_latestBy_14 : decode cX2_latestBy 14 = .ok (.invokevirtual 53, 3) := by decide +kernel
theorem dX2_latestBy_17 : decode cX2_latestBy 17 = .ok (.iload_n 1, 1) := by decide +kernel
theorem dX2_latestBy_18 : decode cX2_latestBy 18 = .ok (.if_icmp .gt 15, 3) := by decide +kernel
theorem dX2_latestBy_21 : decode cX2_latestBy 21 = .ok (.aload_n 0, 1) := by decide +kernel
theorem dX2_latestBy_22 : decode cX2_latestBy 22 = .ok (.iload_n 3, 1) := by decide +kernel
theorem dX2_latestBy_23 : decode cX2_latestBy 23 = .ok (.invokevirtual 53, 3) := by decide +kernel
theorem dX2_latestBy_26 : decode cX2_latestBy 26 = .ok (.istore_n 2, 1) := by decide +kernel
theorem dX2_latestBy_27 : decode cX2_latestBy 27 = .ok (.iinc 3 1, 3) := by decide +kernel
theorem dX2_latestBy_30 : decode cX2_latestBy 30 = .ok (.goto (-26), 3) := by decide +kernel
theorem dX2_latestBy_33 : decode cX2_latestBy 33 = .ok (.iload_n 2, 1) := by decide +kernel
theorem dX2_latestBy_34 : decode cX2_latestBy 34 = .ok (.ireturn, 1) := by decide +kernel
theorem dX2_start_0 : decode cX2_start 0 = .ok (.aload_n 0, 1) := by decide +kernel
theorem dX2_start_1 : decode cX2_start 1 = .ok (.iload_n 1, 1) := by decide +kernel
theorem dX2_start_2 : decode cX2_start 2 = .ok (.putfield 22, 3) := by decide +kernel
theorem dX2_start_5 : decode cX2_start 5 = .ok (.aload_n 0, 1) := by decide +kernel
theorem dX2_start_6 : decode cX2_start 6 = .ok (.iload_n 2, 1) := by decide +kernel
theorem dX2_start_7 : decode cX2_start 7 = .ok (.putfield 25, 3) := by decide +kernel
theorem dX2_start_10 : decode cX2_start 10 = .ok (.aload_n 0, 1) := by decide +kernel
theorem dX2_start_11 : decode cX2_start 11 = .ok (.getfield 9, 3) := by decide +kernel
theorem dX2_start_14 : decode cX2_start 14 = .ok (.iconst 0, 1) := by decide +kernel
theorem dX2_start_15 : decode cX2_start 15 = .ok (.iconst 0, 1) := by decide +kernel
theorem dX2_start_16 : decode cX2_start 16 = .ok (.iastore, 1) := by decide +kernel
theorem dX2_start_17 : decode cX2_start 17 = .ok (.aload_n 0, 1) := by decide +kernel
theorem dX2_start_18 : decode cX2_start 18 = .ok (.iconst 1, 1) := by decide +kernel
theorem dX2_start_19 : decode cX2_start 19 = .ok (.putfield 15, 3) := by decide +kernel
theorem dX2_start_22 : decode cX2_start 22 = .ok (.aload_n 0, 1) := by decide +kernel
theorem dX2_start_23 : decode cX2_start 23 = .ok (.iconst 1, 1) := by decide +kernel
theorem dX2_start_24 : decode cX2_start 24 = .ok (.putfield 19, 3) := by decide +kernel
theorem dX2_start_27 : decode cX2_start 27 = .ok (.return_, 1) := by decide +kernel
theorem dX2_takeFrom_0 : decode cX2_takeFrom 0 = .ok (.aload_n 0, 1) := by decide +kernel
theorem dX2_takeFrom_1 : decode cX2_takeFrom 1 = .ok (.aload_n 1, 1) := by decide +kernel
theorem dX2_takeFrom_2 : decode cX2_takeFrom 2 = .ok (.getfield 15, 3) := by decide +kernel
theorem dX2_takeFrom_5 : decode cX2_takeFrom 5 = .ok (.putfield 15, 3) := by decide +kernel
theorem dX2_takeFrom_8 : decode cX2_takeFrom 8 = .ok (.aload_n 1, 1) := by decide +kernel
theorem dX2_takeFrom_9 : decode cX2_takeFrom 9 = .ok (.getfield 9, 3) := by decide +kernel
theorem dX2_takeFrom_12 : decode cX2_takeFrom 12 = .ok (.aload_n 0, 1) := by decide +kernel
theorem dX2_takeFrom_13 : decode cX2_takeFrom 13 = .ok (.getfield 9, 3) := by decide +kernel
theorem dX2_takeFrom_16 : decode cX2_takeFrom 16 = .ok (.aload_n 0, 1) := by decide +kernel
theorem dX2_takeFrom_17 : decode cX2_takeFrom 17 = .ok (.getfield 15, 3) := by decide +kernel
theorem dX2_takeFrom_20 : decode cX2_takeFrom 20 = .ok (.invokestatic 28, 3) := by decide +kernel
theorem dX2_takeFrom_23 : decode cX2_takeFrom 23 = .ok (.aload_n 0, 1) := by decide +kernel
theorem dX2_takeFrom_24 : decode cX2_takeFrom 24 = .ok (.aload_n 1, 1) := by decide +kernel
theorem dX2_takeFrom_25 : decode cX2_takeFrom 25 = .ok (.getfield 19, 3) := by decide +kernel
theorem dX2_takeFrom_28 : decode cX2_takeFrom 28 = .ok (.putfield 19, 3) := by decide +kernel
theorem dX2_takeFrom_31 : decode cX2_takeFrom 31 = .ok (.aload_n 0, 1) := by decide +kernel
theorem dX2_takeFrom_32 : decode cX2_takeFrom 32 = .ok (.aload_n 1, 1) := by decide +kernel
theorem dX2_takeFrom_33 : decode cX2_takeFrom 33 = .ok (.getfield 22, 3) := by decide +kernel
theorem dX2_takeFrom_36 : decode cX2_takeFrom 36 = .ok (.putfield 22, 3) := by decide +kernel
theorem dX2_takeFrom_39 : decode cX2_takeFrom 39 = .ok (.aload_n 0, 1) := by decide +kernel
theorem dX2_takeFrom_40 : decode cX2_takeFrom 40 = .ok (.aload_n 1, 1) := by decide +kernel
theorem dX2_takeFrom_41 : decode cX2_takeFrom 41 = .ok (.getfield 25, 3) := by decide +kernel
theorem dX2_takeFrom_44 : decode cX2_takeFrom 44 = .ok (.putfield 25, 3) := by decide +kernel
theorem dX2_takeFrom_47 : decode cX2_takeFrom 47 = .ok (.return_, 1) := by decide +kernel
theorem dX2_timeComes_0 : decode cX2_timeComes 0 = .ok (.aload_n 0, 1) := by decide +kernel
theorem dX2_timeComes_1 : decode cX2_timeComes 1 = .ok (.getfield 22, 3) := by decide +kernel
theorem dX2_timeComes_4 : decode cX2_timeComes 4 = .ok (.iconst 1, 1) := by decide +kernel
theorem dX2_timeComes_5 : decode cX2_timeComes 5 = .ok (.if_icmp .lt 12, 3) := by decide +kernel
theorem dX2_timeComes_8 : decode cX2_timeComes 8 = .ok (.iload_n 1, 1) := by decide +kernel
theorem dX2_timeComes_9 : decode cX2_timeComes 9 = .ok (.aload_n 0, 1) := by decide +kernel
theorem dX2_timeComes_10 : decode cX2_timeComes 10 = .ok (.getfield 22, 3) := by decide +kernel
theorem dX2_timeComes_13 : decode cX2_timeComes 13 = .ok (.irem, 1) := by decide +kernel
theorem dX2_timeComes_14 : decode cX2_timeComes 14 = .ok (.ifCond .eq 4, 3) := by decide +kernel
theorem dX2_timeComes_17 : decode cX2_timeComes 17 = .ok (.return_, 1) := by decide +kernel
theorem dX2_timeComes_18 : decode cX2_timeComes 18 = .ok (.aload_n 0, 1) := by decide +kernel
theorem dX2_timeComes_19 : decode cX2_timeComes 19 = .ok (.iload_n 1, 1) := by decide +kernel
theorem dX2_timeComes_20 : decode cX2_timeComes 20 = .ok (.invokevirtual 40, 3) := by decide +kernel
theorem dX2_timeComes_23 : decode cX2_timeComes 23 = .ok (.aload_n 0, 1) := by decide +kernel
theorem dX2_timeComes_24 : decode cX2_timeComes 24 = .ok (.getfield 15, 3) := by decide +kernel
theorem dX2_timeComes_27 : decode cX2_timeComes 27 = .ok (.ifCond .lt 32, 3) := by decide +kernel
theorem dX2_timeComes_30 : decode cX2_timeComes 30 = .ok (.aload_n 0, 1) := by decide +kernel
theorem dX2_timeComes_31 : decode cX2_timeComes 31 = .ok (.getfield 15, 3) := by decide +kernel
theorem dX2_timeComes_34 : decode cX2_timeComes 34 = .ok (.bipush 64, 2) := by decide +kernel
theorem dX2_timeComes_36 : decode cX2_timeComes 36 = .ok (.if_icmp .ge 23, 3) := by decide +kernel
theorem dX2_timeComes_39 : decode cX2_timeComes 39 = .ok (.aload_n 0, 1) := by decide +kernel
theorem dX2_timeComes_40 : decode cX2_timeComes 40 = .ok (.getfield 9, 3) := by decide +kernel
theorem dX2_timeComes_43 : decode cX2_timeComes 43 = .ok (.aload_n 0, 1) := by decide +kernel
theorem dX2_timeComes_44 : decode cX2_timeComes 44 = .ok (.getfield 15, 3) := by decide +kernel
theorem dX2_timeComes_47 : decode cX2_timeComes 47 = .ok (.iload_n 1, 1) := by decide +kernel
theorem dX2_timeComes_48 : decode cX2_timeComes 48 = .ok (.iastore, 1) := by decide +kernel
theorem dX2_timeComes_49 : decode cX2_timeComes 49 = .ok (.aload_n 0, 1) := by decide +kernel
theorem dX2_timeComes_50 : decode cX2_timeComes 50 = .ok (.dup, 1) := by decide +kernel
theorem dX2_timeComes_51 : decode cX2_timeComes 51 = .ok (.getfield 15, 3) := by decide +kernel
theorem dX2_timeComes_54 : decode cX2_timeComes 54 = .ok (.iconst 1, 1) := by decide +kernel
theorem dX2_timeComes_55 : decode cX2_timeComes 55 = .ok (.iadd, 1) := by decide +kernel
theorem dX2_timeComes_56 : decode cX2_timeComes 56 = .ok (.putfield 15, 3) := by decide +kernel
theorem dX2_timeComes_59 : decode cX2_timeComes 59 = .ok (.aload_n 0, 1) := by decide +kernel
theorem dX2_timeComes_60 : decode cX2_timeComes 60 = .ok (.aload_n 0, 1) := by decide +kernel
theorem dX2_timeComes_61 : decode cX2_timeComes 61 = .ok (.getfield 19, 3) := by decide +kernel
theorem dX2_timeComes_64 : decode cX2_timeComes 64 = .ok (.aload_n 0, 1) := by decide +kernel
theorem dX2_timeComes_65 : decode cX2_timeComes 65 = .ok (.getfield 15, 3) := by decide +kernel
theorem dX2_timeComes_68 : decode cX2_timeComes 68 = .ok (.invokestatic 44, 3) := by decide +kernel
theorem dX2_timeComes_71 : decode cX2_timeComes 71 = .ok (.putfield 19, 3) := by decide +kernel
theorem dX2_timeComes_74 : decode cX2_timeComes 74 = .ok (.return_, 1) := by decide +kernel
theorem dX2_timeOf_0 : decode cX2_timeOf 0 = .ok (.aload_n 0, 1) := by decide +kernel
theorem dX2_timeOf_1 : decode cX2_timeOf 1 = .ok (.iload_n 1, 1) := by decide +kernel
theorem dX2_timeOf_2 : decode cX2_timeOf 2 = .ok (.invokevirtual 36, 3) := by decide +kernel
theorem dX2_timeOf_5 : decode cX2_timeOf 5 = .ok (.ifCond .eq 12, 3) := by decide +kernel
theorem dX2_timeOf_8 : decode cX2_timeOf 8 = .ok (.aload_n 0, 1) := by decide +kernel
theorem dX2_timeOf_9 : decode cX2_timeOf 9 = .ok (.getfield 9, 3) := by decide +kernel
theorem dX2_timeOf_12 : decode cX2_timeOf 12 = .ok (.iload_n 1, 1) := by decide +kernel
theorem dX2_timeOf_13 : decode cX2_timeOf 13 = .ok (.iaload, 1) := by decide +kernel
theorem dX2_timeOf_14 : decode cX2_timeOf 14 = .ok (.goto 4, 3) := by decide +kernel
theorem dX2_timeOf_17 : decode cX2_timeOf 17 = .ok (.iconst (-1), 1) := by decide +kernel
theorem dX2_timeOf_18 : decode cX2_timeOf 18 = .ok (.ireturn, 1) := by decide +kernel
theorem dX9_copyRow_0 : decode cX9_copyRow 0 = .ok (.iload_n 2, 1) := by decide +kernel
theorem dX9_copyRow_1 : decode cX9_copyRow 1 = .ok (.aload_n 0, 1) := by decide +kernel
theorem dX9_copyRow_2 : decode cX9_copyRow 2 = .ok (.arraylength, 1) := by decide +kernel
theorem dX9_copyRow_3 : decode cX9_copyRow 3 = .ok (.aload_n 1, 1) := by decide +kernel
theorem dX9_copyRow_4 : decode cX9_copyRow 4 = .ok (.arraylength, 1) := by decide +kernel
theorem dX9_copyRow_5 : decode cX9_copyRow 5 = .ok (.invokestatic 356, 3) := by decide +kernel
theorem dX9_copyRow_8 : decode cX9_copyRow 8 = .ok (.invokestatic 356, 3) := by decide +kernel
theorem dX9_copyRow_11 : decode cX9_copyRow 11 = .ok (.istore_n 3, 1) := by decide +kernel
theorem dX9_copyRow_12 : decode cX9_copyRow 12 = .ok (.iload_n 3, 1) := by decide +kernel
theorem dX9_copyRow_13 : decode cX9_copyRow 13 = .ok (.ifCond .le 11, 3) := by decide +kernel
theorem dX9_copyRow_16 : decode cX9_copyRow 16 = .ok (.aload_n 0, 1) := by decide +kernel
theorem dX9_copyRow_17 : decode cX9_copyRow 17 = .ok (.iconst 0, 1) := by decide +kernel
theorem dX9_copyRow_18 : decode cX9_copyRow 18 = .ok (.aload_n 1, 1) := by decide +kernel
theorem dX9_copyRow_19 : decode cX9_copyRow 19 = .ok (.iconst 0, 1) := by decide +kernel
theorem dX9_copyRow_20 : decode cX9_copyRow 20 = .ok (.iload_n 3, 1) := by decide +kernel
theorem dX9_copyRow_21 : decode cX9_copyRow 21 = .ok (.invokestatic 359, 3) := by decide +kernel
theorem dX9_copyRow_24 : decode cX9_copyRow 24 = .ok (.return_, 1) := by decide +kernel
def g_X0_areUnlike_j65 (F : Nat) (o1 : Nat) (o4 : Nat) (o5 : Nat) (l3 : Int32) (l6 : Int32) (u : rg_U) : Option (Int32 ⊕ (Unit ⊕ Unit)) :=
  some (.inl (l6 + 1))
set_option maxHeartbeats 4000000 in
set_option maxRecDepth 100000 in
theorem k_X0_areUnlike_j65 {gs : List String} {ro : pm_RO} {n : Nat} {w : Nat → va_E} {b : Nat} {u : rg_U} {F : Nat} {o1 : Nat} {o4 : Nat} {o5 : Nat} {l3 : Int32} {l6 : Int32} {z : (Int32 ⊕ (Unit ⊕ Unit))} {Q : Option Value → Nat → (Nat → va_E) → Prop} (hR : rg shC b u n w) (hs1 : sp_Puts o1) (hs4 : sp_Puts o4) (hs5 : sp_Puts o5) (h : g_X0_areUnlike_j65 F o1 o4 o5 l3 l6 u = some z) (hc : ∀ s', z = .inl s' → pm_X gs ro M_X0_areUnlike 2 0 0 0 0 3 [some (.ref (b + 8)), some (.ref (b + o1)), none, some (.int l3), some (.ref (b + o4)), some (.ref (b + o5)), some (.int s'), none, none] [] n w Q) (he0 : ∀ r', z = .inr (Sum.inl r') → pm_X gs ro M_X0_areUnlike 2 0 0 0 0 63 [none, none, none, none, none, none, none, none, none] [] n w Q) (he1 : ∀ r', z = .inr (Sum.inr r') → pm_X gs ro M_X0_areUnlike 2 0 0 0 0 71 [none, none, none, none, none, none, none, none, none] [] n w Q) : pm_X gs ro M_X0_areUnlike 2 0 0 0 0 65 [some (.ref (b + 8)), some (.ref (b + o1)), none, some (.int l3), some (.ref (b + o4)), some (.ref (b + o5)), some (.int l6), none, none] [] n w Q := by
  unfold g_X0_areUnlike_j65 at h
  refine pm_iinc (v := (l6 + 1)) dX0_areUnlike_65 rfl rfl (by decide) rfl rfl ?_
  refine pm_goto (tgt := 3) dX0_areUnlike_68 (by decide) ?_
  refine pm_lw (L' := [some (.ref (b + 8)), some (.ref (b + o1)), none, some (.int l3), some (.ref (b + o4)), some (.ref (b + o5)), some (.int (l6 + 1)), none, none]) ⟨Or.inr rfl, Or.inr rfl, Or.inl rfl, Or.inr rfl, Or.inr rfl, Or.inr rfl, Or.inr rfl, Or.inl rfl, Or.inl rfl, trivial⟩ ?_
  exact hc _ (Option.some.inj h).symm
def g_X0_areUnlike_l3 (F : Nat) (o1 : Nat) (o4 : Nat) (o5 : Nat) (l3 : Int32) (u : rg_U) (l6 : Int32) : Option (Int32 ⊕ (Unit ⊕ Unit)) :=
  if l3 ≤ l6 then (some (.inr (Sum.inr ()))) else (ob (g_X6_placeOf F o1 l6 u) (fun r2 => if (g_X9_isPlace r2) = 0 then (g_X0_areUnlike_j65 F o1 o4 o5 l3 l6 u) else (ck (inb r2 40) (ck (inb r2 40) (ob (g_X6_sortOf F o5 (rA u 114 r2) u) (fun r7 => ob (g_X6_numberOf F o5 (rA u 114 r2) u) (fun r9 => ob (g_X6_hasValue F o4 (rA u 113 r2) r7 r9 u) (fun r11 => if r11 = 0 then (some (.inr (Sum.inl ()))) else (g_X0_areUnlike_j65 F o1 o4 o5 l3 l6 u)))))))))
set_option maxHeartbeats 4000000 in
set_option maxRecDepth 100000 in
theorem k_X0_areUnlike_l3 {gs : List String} {ro : pm_RO} {n : Nat} {w : Nat → va_E} {b : Nat} {u : rg_U} {F : Nat} {o1 : Nat} {o4 : Nat} {o5 : Nat} {l3 : Int32} {l6 : Int32} {z : Int32 ⊕ (Unit ⊕ Unit)} {Q : Option Value → Nat → (Nat → va_E) → Prop} (hR : rg shC b u n w) (hs1 : sp_Puts o1) (hs4 : sp_Puts o4) (hs5 : sp_Puts o5) (h : g_X0_areUnlike_l3 F o1 o4 o5 l3 u l6 = some z) (hc : ∀ s', z = .inl s' → pm_X gs ro M_X0_areUnlike 2 0 0 0 0 3 [some (.ref (b + 8)), some (.ref (b + o1)), none, some (.int l3), some (.ref (b + o4)), some (.ref (b + o5)), some (.int s'), none, none] [] n w Q) (he0 : ∀ r', z = .inr (Sum.inl r') → pm_X gs ro M_X0_areUnlike 2 0 0 0 0 63 [none, none, none, none, none, none, none, none, none] [] n w Q) (he1 : ∀ r', z = .inr (Sum.inr r') → pm_X gs ro M_X0_areUnlike 2 0 0 0 0 71 [none, none, none, none, none, none, none, none, none] [] n w Q) : pm_X gs ro M_X0_areUnlike 2 0 0 0 0 3 [some (.ref (b + 8)), some (.ref (b + o1)), none, some (.int l3), some (.ref (b + o4)), some (.ref (b + o5)), some (.int l6), none, none] [] n w Q := by
  unfold g_X0_areUnlike_l3 at h
  refine pm_iload dX0_areUnlike_3 rfl ?_
  refine pm_iload_n dX0_areUnlike_5 rfl ?_
  refine pm_icmp_ge (tgt := 71) dX0_areUnlike_6 (by decide) (fun c1 => ?_) (fun c1 => ?_)
  · replace h := it_t c1 h
    refine pm_lw (L' := [none, none, none, none, none, none, none, none, none]) ⟨Or.inl rfl, Or.inl rfl, Or.inl rfl, Or.inl rfl, Or.inl rfl, Or.inl rfl, Or.inl rfl, Or.inl rfl, Or.inl rfl, trivial⟩ ?_
    exact he1 _ (Option.some.inj h).symm
  · replace h := it_f c1 h
    refine pm_aload_n dX0_areUnlike_9 rfl ?_
    refine pm_iload dX0_areUnlike_10 rfl ?_
    obtain ⟨r2, h3, h⟩ := ob_some h
    refine dx_cVp (j := o1) (M := M_X0_areUnlike) (Mc := M_X6_placeOf) (dc := 1) (As := [.int l6]) (st := []) hR dX0_areUnlike_12 ml_X0_99 ⟨TX6, 12, rfl⟩ (sp_Puts_self hs1) (by decide) (Nat.le_of_ble_eq_true rfl) rfl (k_X6_placeOf hR hs1 h3) ?_
    refine pm_istore dX0_areUnlike_15 (by decide) rfl rfl ?_
    refine pm_iload dX0_areUnlike_17 rfl ?_
    refine dx_cSNp (M := M_X0_areUnlike) (Mc := M_X9_isPlace) (dc := 0) (As := [.int r2]) (st := []) dX0_areUnlike_19 ml_X0_102 (by decide) (Nat.le_of_ble_eq_true rfl) rfl (k_X9_isPlace rfl) ?_
    refine pm_if_eq (tgt := 65) dX0_areUnlike_22 (by decide) (fun c4 => ?_) (fun c4 => ?_)
    · replace h := it_t c4 h
      refine pm_lw (L' := [some (.ref (b + 8)), some (.ref (b + o1)), none, some (.int l3), some (.ref (b + o4)), some (.ref (b + o5)), some (.int l6), none, none]) ⟨Or.inr rfl, Or.inr rfl, Or.inl rfl, Or.inr rfl, Or.inr rfl, Or.inr rfl, Or.inr rfl, Or.inl rfl, Or.inl rfl, trivial⟩ ?_
      exact k_X0_areUnlike_j65 hR hs1 hs4 hs5 h hc he0 he1
    · replace h := it_f c4 h
      refine pm_aload_n dX0_areUnlike_25 rfl ?_
      refine dx_gr (j := 8) (o := 114) hR dX0_areUnlike_26 fl_X0_30 rfl rfl ?_
      refine pm_iload dX0_areUnlike_29 rfl ?_
      obtain ⟨c5, h⟩ := ck_some h
      refine dx_al (j := 114) hR dX0_areUnlike_31 rfl (vp_in_iff.mpr c5) ?_
      refine pm_istore dX0_areUnlike_32 (by decide) rfl rfl ?_
      refine pm_aload dX0_areUnlike_34 rfl ?_
      refine pm_aload_n dX0_areUnlike_36 rfl ?_
      refine dx_gr (j := 8) (o := 113) hR dX0_areUnlike_37 fl_X0_27 rfl rfl ?_
      refine pm_iload dX0_areUnlike_40 rfl ?_
      obtain ⟨c6, h⟩ := ck_some h
      refine dx_al (j := 113) hR dX0_areUnlike_42 rfl (vp_in_iff.mpr c6) ?_
      refine pm_aload dX0_areUnlike_43 rfl ?_
      refine pm_iload dX0_areUnlike_45 rfl ?_
      obtain ⟨r7, h8, h⟩ := ob_some h
      refine dx_cVp (j := o5) (M := M_X0_areUnlike) (Mc := M_X6_sortOf) (dc := 0) (As := [.int (rA u 114 r2)]) (st := [.int (rA u 113 r2), .ref (b + o4)]) hR dX0_areUnlike_47 ml_X0_105 ⟨TX6, 12, rfl⟩ (sp_Puts_self hs5) (by decide) (Nat.le_of_ble_eq_true rfl) rfl (k_X6_sortOf hR hs5 h8) ?_
      refine pm_aload dX0_areUnlike_50 rfl ?_
      refine pm_iload dX0_areUnlike_52 rfl ?_
      obtain ⟨r9, h10, h⟩ := ob_some h
      refine dx_cVp (j := o5) (M := M_X0_areUnlike) (Mc := M_X6_numberOf) (dc := 0) (As := [.int (rA u 114 r2)]) (st := [.int r7, .int (rA u 113 r2), .ref (b + o4)]) hR dX0_areUnlike_54 ml_X0_108 ⟨TX6, 12, rfl⟩ (sp_Puts_self hs5) (by decide) (Nat.le_of_ble_eq_true rfl) rfl (k_X6_numberOf hR hs5 h10) ?_
      obtain ⟨r11, h12, h⟩ := ob_some h
      refine dx_cVp (j := o4) (M := M_X0_areUnlike) (Mc := M_X6_hasValue) (dc := 1) (As := [.int (rA u 113 r2), .int r7, .int r9]) (st := []) hR dX0_areUnlike_57 ml_X0_111 ⟨TX6, 12, rfl⟩ (sp_Puts_self hs4) (by decide) (Nat.le_of_ble_eq_true rfl) rfl (k_X6_hasValue hR hs4 h12) ?_
      refine pm_if_ne (tgt := 65) dX0_areUnlike_60 (by decide) (fun c13 => ?_) (fun c13 => ?_)
      · replace h := it_f c13 h
        refine pm_lw (L' := [some (.ref (b + 8)), some (.ref (b + o1)), none, some (.int l3), some (.ref (b + o4)), some (.ref (b + o5)), some (.int l6), none, none]) ⟨Or.inr rfl, Or.inr rfl, Or.inl rfl, Or.inr rfl, Or.inr rfl, Or.inr rfl, Or.inr rfl, Or.inl rfl, Or.inl rfl, trivial⟩ ?_
        exact k_X0_areUnlike_j65 hR hs1 hs4 hs5 h hc he0 he1
      · replace h := it_t c13 h
        refine pm_lw (L' := [none, none, none, none, none, none, none, none, none]) ⟨Or.inl rfl, Or.inl rfl, Or.inl rfl, Or.inl rfl, Or.inl rfl, Or.inl rfl, Or.inl rfl, Or.inl rfl, Or.inl rfl, trivial⟩ ?_
        exact he0 _ (Option.some.inj h).symm
def g_X0_areUnlike (F : Nat) (o1 : Nat) (x2 : Int32) (x3 : Int32) (o4 : Nat) (o5 : Nat) (u : rg_U) : Option Int32 :=
  ob (lp (fun (s : Int32) => g_X0_areUnlike_l3 F o1 o4 o5 x3 u s) F (x2 : Int32)) (fun r14 => os r14 (fun r16 => some 1) (fun r17 => some 0))
set_option maxHeartbeats 4000000 in
set_option maxRecDepth 100000 in
theorem k_X0_areUnlike {gs : List String} {ro : pm_RO} {n : Nat} {w : Nat → va_E} {b : Nat} {u : rg_U} {F : Nat} {o1 : Nat} {x2 : Int32} {x3 : Int32} {o4 : Nat} {o5 : Nat} {z : Int32} (hR : rg shC b u n w) (hs1 : sp_Puts o1) (hs4 : sp_Puts o4) (hs5 : sp_Puts o5) (h : g_X0_areUnlike F o1 x2 x3 o4 o5 u = some z) : pm_Met gs ro M_X0_areUnlike 2 0 0 [.ref (b + 8), .ref (b + o1), .int x2, .int x3, .ref (b + o4), .ref (b + o5)] n w (pm_p n w (some (.int z))) := by
  unfold g_X0_areUnlike at h
  refine pm_ofX in_X0_areUnlike (Nat.le_of_ble_eq_true rfl) rfl (L := [some (.ref (b + 8)), some (.ref (b + o1)), some (.int x2), some (.int x3), some (.ref (b + o4)), some (.ref (b + o5)), none, none, none]) rfl ?_
  refine pm_iload_n dX0_areUnlike_0 rfl ?_
  refine pm_istore dX0_areUnlike_1 (by decide) rfl rfl ?_
  refine pm_lw (L' := [some (.ref (b + 8)), some (.ref (b + o1)), none, some (.int x3), some (.ref (b + o4)), some (.ref (b + o5)), some (.int x2), none, none]) ⟨Or.inr rfl, Or.inr rfl, Or.inl rfl, Or.inr rfl, Or.inr rfl, Or.inr rfl, Or.inr rfl, Or.inl rfl, Or.inl rfl, trivial⟩ ?_
  obtain ⟨r14, h15, h⟩ := ob_some h
  refine lp_sound (P := fun (s : Int32) => pm_X gs ro M_X0_areUnlike 2 0 0 0 0 3 [some (.ref (b + 8)), some (.ref (b + o1)), none, some (.int x3), some (.ref (b + o4)), some (.ref (b + o5)), some (.int s), none, none] [] n w (pm_p n w (some (.int z)))) (E := (Sum.elim (fun (r : Unit) => pm_X gs ro M_X0_areUnlike 2 0 0 0 0 63 [none, none, none, none, none, none, none, none, none] [] n w (pm_p n w (some (.int z)))) (fun (r : Unit) => pm_X gs ro M_X0_areUnlike 2 0 0 0 0 71 [none, none, none, none, none, none, none, none, none] [] n w (pm_p n w (some (.int z)))))) (fun s x hx hc he => k_X0_areUnlike_l3 hR hs1 hs4 hs5 hx hc (fun r q => he (Sum.inl r) q) (fun r q => he (Sum.inr r) q)) F _ r14 h15 ?_
  cases r14 with
  | inl r16 =>
    replace h := os_l h
    refine pm_iconst (v := 1) dX0_areUnlike_63 (by decide) ?_
    cases h
    exact pm_zret dX0_areUnlike_64 rfl (Or.inr rfl) (Nat.le_refl _) (Nat.le_refl _) ⟨rfl, rfl, rfl⟩
  | inr r17 =>
    replace h := os_r h
    refine pm_iconst (v := 0) dX0_areUnlike_71 (by decide) ?_
    cases h
    exact pm_zret dX0_areUnlike_72 rfl (Or.inl rfl) (Nat.le_refl _) (Nat.le_refl _) ⟨rfl, rfl, rfl⟩
def g_X0_firstUnlike_l37 (F : Nat) (o1 : Nat) (o2 : Nat) (l5 : Int32) (l3 : Int32) (l4 : Int32) (l6 : Int32) (u : rg_U) : Option ((Int32 × Int32 × Int32 × rg_U) ⊕ ((Int32 × rg_U) ⊕ rg_U)) :=
  if l5 < l6 then (some (.inr (Sum.inr u))) else (ob (g_X0_goThrough F (o1 + 12) l3 l6 113 40 u) (fun r12 => ob (g_X0_goThrough F (o2 + 12) l4 l6 114 40 r12.2) (fun r17 => ob (g_X7_counterAt F o1 l6 r17.2) (fun r22 => ob (g_X7_counterAt F o2 l6 r17.2) (fun r24 => if r22 = r24 then (ob (g_X7_hasStackLike F o1 l6 o2 r17.2) (fun r27 => if r27 = 0 then (some (.inr (Sum.inl (l6, r17.2)))) else (ob (g_X0_areUnlike F (o1 + 12) l3 r12.1 (o1 + 12) (o2 + 12) r17.2) (fun r30 => if r30 = 0 then (ob (g_X0_areUnlike F (o2 + 12) l4 r17.1 (o1 + 12) (o2 + 12) r17.2) (fun r33 => if r33 = 0 then (some (.inl (r12.1, r17.1, (l6 + 1), r17.2))) else (some (.inr (Sum.inl (l6, r17.2)))))) else (some (.inr (Sum.inl (l6, r17.2)))))))) else (some (.inr (Sum.inl (l6, r17.2)))))))))
set_option maxHeartbeats 4000000 in
set_option maxRecDepth 100000 in
theorem k_X0_firstUnlike_l37 {gs : List String} {ro : pm_RO} {n : Nat} {w w1 : Nat → va_E} {b : Nat} {u : rg_U} {F : Nat} {o1 : Nat} {o2 : Nat} {l5 : Int32} {l3 : Int32} {l4 : Int32} {l6 : Int32} {z : (Int32 × Int32 × Int32 × rg_U) ⊕ ((Int32 × rg_U) ⊕ rg_U)} {Q : Option Value → Nat → (Nat → va_E) → Prop} (hR : rg shC b u n w1) (hk : rg_k b shC.length w w1) (hs1 : sp_Run o1) (hs2 : sp_Run o2) (h : g_X0_firstUnlike_l37 F o1 o2 l5 l3 l4 l6 u = some z) (hc : ∀ s', z = .inl s' → ∀ w1, rg shC b s'.2.2.2 n w1 → rg_k b shC.length w w1 → pm_X gs ro M_X0_firstUnlike 3 0 0 0 0 37 [some (.ref (b + 8)), some (.ref (b + o1)), some (.ref (b + o2)), some (.int s'.1), some (.int s'.2.1), some (.int l5), some (.int s'.2.2.1), none, none] [] n w1 Q) (he0 : ∀ r', z = .inr (Sum.inl r') → ∀ w1, rg shC b r'.2 n w1 → rg_k b shC.length w w1 → pm_X gs ro M_X0_firstUnlike 3 0 0 0 0 147 [none, none, none, none, none, none, some (.int r'.1), none, none] [] n w1 Q) (he1 : ∀ r', z = .inr (Sum.inr r') → ∀ w1, rg shC b r' n w1 → rg_k b shC.length w w1 → pm_X gs ro M_X0_firstUnlike 3 0 0 0 0 163 [none, none, none, none, none, none, none, none, none] [] n w1 Q) : pm_X gs ro M_X0_firstUnlike 3 0 0 0 0 37 [some (.ref (b + 8)), some (.ref (b + o1)), some (.ref (b + o2)), some (.int l3), some (.int l4), some (.int l5), some (.int l6), none, none] [] n w1 Q := by
  unfold g_X0_firstUnlike_l37 at h
  refine pm_iload dX0_firstUnlike_37 rfl ?_
  refine pm_iload dX0_firstUnlike_39 rfl ?_
  refine pm_icmp_gt (tgt := 163) dX0_firstUnlike_41 (by decide) (fun c11 => ?_) (fun c11 => ?_)
  · replace h := it_t c11 h
    refine pm_lw (L' := [none, none, none, none, none, none, none, none, none]) ⟨Or.inl rfl, Or.inl rfl, Or.inl rfl, Or.inl rfl, Or.inl rfl, Or.inl rfl, Or.inl rfl, Or.inl rfl, Or.inl rfl, trivial⟩ ?_
    exact he1 _ (Option.some.inj h).symm _ hR hk
  · replace h := it_f c11 h
    refine pm_aload_n dX0_firstUnlike_44 rfl ?_
    refine dx_gr (j := o1) (o := (o1 + 12)) hR dX0_firstUnlike_45 fl_X0_73 (sp_Run_self hs1) rfl ?_
    refine pm_iload_n dX0_firstUnlike_48 rfl ?_
    refine pm_iload dX0_firstUnlike_49 rfl ?_
    refine pm_aload_n dX0_firstUnlike_51 rfl ?_
    refine dx_gr (j := 8) (o := 113) hR dX0_firstUnlike_52 fl_X0_27 rfl rfl ?_
    obtain ⟨r12, h13, h⟩ := ob_some h
    refine dx_cSi (M := M_X0_firstUnlike) (Mc := M_X0_goThrough) (dc := 2) (As := [.ref (b + (o1 + 12)), .int l3, .int l6, .ref (b + 113)]) (st := []) hk dX0_firstUnlike_55 ml_X0_77 (by decide) (Nat.le_of_ble_eq_true rfl) rfl (k_X0_goThrough hR (sp_Run_puts hs1) rfl h13) (fun w14 hR15 hk16 => ?_)
    refine pm_istore dX0_firstUnlike_58 (by decide) rfl rfl ?_
    refine pm_aload_n dX0_firstUnlike_60 rfl ?_
    refine dx_gr (j := o2) (o := (o2 + 12)) hR15 dX0_firstUnlike_61 fl_X0_73 (sp_Run_self hs2) rfl ?_
    refine pm_iload dX0_firstUnlike_64 rfl ?_
    refine pm_iload dX0_firstUnlike_66 rfl ?_
    refine pm_aload_n dX0_firstUnlike_68 rfl ?_
    refine dx_gr (j := 8) (o := 114) hR15 dX0_firstUnlike_69 fl_X0_30 rfl rfl ?_
    obtain ⟨r17, h18, h⟩ := ob_some h
    refine dx_cSi (M := M_X0_firstUnlike) (Mc := M_X0_goThrough) (dc := 2) (As := [.ref (b + (o2 + 12)), .int l4, .int l6, .ref (b + 114)]) (st := []) hk16 dX0_firstUnlike_72 ml_X0_77 (by decide) (Nat.le_of_ble_eq_true rfl) rfl (k_X0_goThrough hR15 (sp_Run_puts hs2) rfl h18) (fun w19 hR20 hk21 => ?_)
    refine pm_istore dX0_firstUnlike_75 (by decide) rfl rfl ?_
    refine pm_aload_n dX0_firstUnlike_77 rfl ?_
    refine pm_iload dX0_firstUnlike_78 rfl ?_
    obtain ⟨r22, h23, h⟩ := ob_some h
    refine dx_cVp (j := o1) (M := M_X0_firstUnlike) (Mc := M_X7_counterAt) (dc := 1) (As := [.int l6]) (st := []) hR20 dX0_firstUnlike_80 ml_X0_81 ⟨TX7, 15, rfl⟩ (sp_Run_self hs1) (by decide) (Nat.le_of_ble_eq_true rfl) rfl (k_X7_counterAt hR20 hs1 h23) ?_
    refine pm_aload_n dX0_firstUnlike_83 rfl ?_
    refine pm_iload dX0_firstUnlike_84 rfl ?_
    obtain ⟨r24, h25, h⟩ := ob_some h
    refine dx_cVp (j := o2) (M := M_X0_firstUnlike) (Mc := M_X7_counterAt) (dc := 1) (As := [.int l6]) (st := [.int r22]) hR20 dX0_firstUnlike_86 ml_X0_81 ⟨TX7, 15, rfl⟩ (sp_Run_self hs2) (by decide) (Nat.le_of_ble_eq_true rfl) rfl (k_X7_counterAt hR20 hs2 h25) ?_
    refine pm_icmp_ne (tgt := 147) dX0_firstUnlike_89 (by decide) (fun c26 => ?_) (fun c26 => ?_)
    · replace h := it_f c26 h
      refine pm_lw (L' := [none, none, none, none, none, none, some (.int l6), none, none]) ⟨Or.inl rfl, Or.inl rfl, Or.inl rfl, Or.inl rfl, Or.inl rfl, Or.inl rfl, Or.inr rfl, Or.inl rfl, Or.inl rfl, trivial⟩ ?_
      exact he0 _ (Option.some.inj h).symm _ hR20 hk21
    · replace h := it_t c26 h
      refine pm_aload_n dX0_firstUnlike_92 rfl ?_
      refine pm_iload dX0_firstUnlike_93 rfl ?_
      refine pm_aload_n dX0_firstUnlike_95 rfl ?_
      obtain ⟨r27, h28, h⟩ := ob_some h
      refine dx_cVp (j := o1) (M := M_X0_firstUnlike) (Mc := M_X7_hasStackLike) (dc := 2) (As := [.int l6, .ref (b + o2)]) (st := []) hR20 dX0_firstUnlike_96 ml_X0_85 ⟨TX7, 15, rfl⟩ (sp_Run_self hs1) (by decide) (Nat.le_of_ble_eq_true rfl) rfl (k_X7_hasStackLike hR20 hs1 hs2 h28) ?_
      refine pm_if_eq (tgt := 147) dX0_firstUnlike_99 (by decide) (fun c29 => ?_) (fun c29 => ?_)
      · replace h := it_t c29 h
        refine pm_lw (L' := [none, none, none, none, none, none, some (.int l6), none, none]) ⟨Or.inl rfl, Or.inl rfl, Or.inl rfl, Or.inl rfl, Or.inl rfl, Or.inl rfl, Or.inr rfl, Or.inl rfl, Or.inl rfl, trivial⟩ ?_
        exact he0 _ (Option.some.inj h).symm _ hR20 hk21
      · replace h := it_f c29 h
        refine pm_aload_n dX0_firstUnlike_102 rfl ?_
        refine pm_aload_n dX0_firstUnlike_103 rfl ?_
        refine dx_gr (j := o1) (o := (o1 + 12)) hR20 dX0_firstUnlike_104 fl_X0_73 (sp_Run_self hs1) rfl ?_
        refine pm_iload_n dX0_firstUnlike_107 rfl ?_
        refine pm_iload dX0_firstUnlike_108 rfl ?_
        refine pm_aload_n dX0_firstUnlike_110 rfl ?_
        refine dx_gr (j := o1) (o := (o1 + 12)) hR20 dX0_firstUnlike_111 fl_X0_73 (sp_Run_self hs1) rfl ?_
        refine pm_aload_n dX0_firstUnlike_114 rfl ?_
        refine dx_gr (j := o2) (o := (o2 + 12)) hR20 dX0_firstUnlike_115 fl_X0_73 (sp_Run_self hs2) rfl ?_
        obtain ⟨r30, h31, h⟩ := ob_some h
        refine dx_cVp (j := 8) (M := M_X0_firstUnlike) (Mc := M_X0_areUnlike) (dc := 2) (As := [.ref (b + (o1 + 12)), .int l3, .int r12.1, .ref (b + (o1 + 12)), .ref (b + (o2 + 12))]) (st := []) hR20 dX0_firstUnlike_118 ml_X0_89 ⟨TX0, 6, rfl⟩ rfl (by decide) (Nat.le_of_ble_eq_true rfl) rfl (k_X0_areUnlike hR20 (sp_Run_puts hs1) (sp_Run_puts hs1) (sp_Run_puts hs2) h31) ?_
        refine pm_if_ne (tgt := 147) dX0_firstUnlike_121 (by decide) (fun c32 => ?_) (fun c32 => ?_)
        · replace h := it_f c32 h
          refine pm_lw (L' := [none, none, none, none, none, none, some (.int l6), none, none]) ⟨Or.inl rfl, Or.inl rfl, Or.inl rfl, Or.inl rfl, Or.inl rfl, Or.inl rfl, Or.inr rfl, Or.inl rfl, Or.inl rfl, trivial⟩ ?_
          exact he0 _ (Option.some.inj h).symm _ hR20 hk21
        · replace h := it_t c32 h
          refine pm_aload_n dX0_firstUnlike_124 rfl ?_
          refine pm_aload_n dX0_firstUnlike_125 rfl ?_
          refine dx_gr (j := o2) (o := (o2 + 12)) hR20 dX0_firstUnlike_126 fl_X0_73 (sp_Run_self hs2) rfl ?_
          refine pm_iload dX0_firstUnlike_129 rfl ?_
          refine pm_iload dX0_firstUnlike_131 rfl ?_
          refine pm_aload_n dX0_firstUnlike_133 rfl ?_
          refine dx_gr (j := o1) (o := (o1 + 12)) hR20 dX0_firstUnlike_134 fl_X0_73 (sp_Run_self hs1) rfl ?_
          refine pm_aload_n dX0_firstUnlike_137 rfl ?_
          refine dx_gr (j := o2) (o := (o2 + 12)) hR20 dX0_firstUnlike_138 fl_X0_73 (sp_Run_self hs2) rfl ?_
          obtain ⟨r33, h34, h⟩ := ob_some h
          refine dx_cVp (j := 8) (M := M_X0_firstUnlike) (Mc := M_X0_areUnlike) (dc := 2) (As := [.ref (b + (o2 + 12)), .int l4, .int r17.1, .ref (b + (o1 + 12)), .ref (b + (o2 + 12))]) (st := []) hR20 dX0_firstUnlike_141 ml_X0_89 ⟨TX0, 6, rfl⟩ rfl (by decide) (Nat.le_of_ble_eq_true rfl) rfl (k_X0_areUnlike hR20 (sp_Run_puts hs2) (sp_Run_puts hs1) (sp_Run_puts hs2) h34) ?_
          refine pm_if_eq (tgt := 150) dX0_firstUnlike_144 (by decide) (fun c35 => ?_) (fun c35 => ?_)
          · replace h := it_t c35 h
            refine pm_iload dX0_firstUnlike_150 rfl ?_
            refine pm_istore_n dX0_firstUnlike_152 (by decide) rfl rfl ?_
            refine pm_iload dX0_firstUnlike_153 rfl ?_
            refine pm_istore dX0_firstUnlike_155 (by decide) rfl rfl ?_
            refine pm_iinc (v := (l6 + 1)) dX0_firstUnlike_157 rfl rfl (by decide) rfl rfl ?_
            refine pm_goto (tgt := 37) dX0_firstUnlike_160 (by decide) ?_
            refine pm_lw (L' := [some (.ref (b + 8)), some (.ref (b + o1)), some (.ref (b + o2)), some (.int r12.1), some (.int r17.1), some (.int l5), some (.int (l6 + 1)), none, none]) ⟨Or.inr rfl, Or.inr rfl, Or.inr rfl, Or.inr rfl, Or.inr rfl, Or.inr rfl, Or.inr rfl, Or.inl rfl, Or.inl rfl, trivial⟩ ?_
            exact hc _ (Option.some.inj h).symm _ hR20 hk21
          · replace h := it_f c35 h
            refine pm_lw (L' := [none, none, none, none, none, none, some (.int l6), none, none]) ⟨Or.inl rfl, Or.inl rfl, Or.inl rfl, Or.inl rfl, Or.inl rfl, Or.inl rfl, Or.inr rfl, Or.inl rfl, Or.inl rfl, trivial⟩ ?_
            exact he0 _ (Option.some.inj h).symm _ hR20 hk21
def g_X0_firstUnlike (F : Nat) (o1 : Nat) (o2 : Nat) (u : rg_U) : Option (Int32 × rg_U) :=
  ob (g_J7_fill_53178 F 113 40 (-1) u) (fun r1 => ob (g_J7_fill_53178 F 114 40 (-1) r1) (fun r6 => ob (lp (fun (s : (Int32 × Int32 × Int32 × rg_U)) => g_X0_firstUnlike_l37 F o1 o2 (imin (rF r6 o1 9) (rF r6 o2 9)) s.1 s.2.1 s.2.2.1 s.2.2.2) F ((0 : Int32), (0 : Int32), (0 : Int32), r6)) (fun r36 => os r36 (fun r38 => some (r38.1, r38.2)) (fun r39 => some ((-1), r39)))))
set_option maxHeartbeats 4000000 in
set_option maxRecDepth 100000 in
theorem k_X0_firstUnlike {gs : List String} {ro : pm_RO} {n : Nat} {w : Nat → va_E} {b : Nat} {u : rg_U} {F : Nat} {o1 : Nat} {o2 : Nat} {z : (Int32 × rg_U)} (hR : rg shC b u n w) (hs1 : sp_Run o1) (hs2 : sp_Run o2) (h : g_X0_firstUnlike F o1 o2 u = some z) : pm_Met gs ro M_X0_firstUnlike 3 0 0 [.ref (b + 8), .ref (b + o1), .ref (b + o2)] n w (rg_post shC b n w (some (.int z.1)) z.2) := by
  unfold g_X0_firstUnlike at h
  refine pm_ofX in_X0_firstUnlike (Nat.le_of_ble_eq_true rfl) rfl (L := [some (.ref (b + 8)), some (.ref (b + o1)), some (.ref (b + o2)), none, none, none, none, none, none]) rfl ?_
  refine pm_aload_n dX0_firstUnlike_0 rfl ?_
  refine dx_gr (j := 8) (o := 113) hR dX0_firstUnlike_1 fl_X0_27 rfl rfl ?_
  refine pm_iconst (v := (-1)) dX0_firstUnlike_4 (by decide) ?_
  obtain ⟨r1, h2, h⟩ := ob_some h
  refine dx_cSv (M := M_X0_firstUnlike) (Mc := M_J7_fill_53178) (dc := 0) (As := [.ref (b + 113), .int (-1)]) (st := []) rg_k0 dX0_firstUnlike_5 ml_X0_55 (by decide) (Nat.le_of_ble_eq_true rfl) rfl (k_J7_fill_53178 hR rfl h2) (fun w3 hR4 hk5 => ?_)
  refine pm_aload_n dX0_firstUnlike_8 rfl ?_
  refine dx_gr (j := 8) (o := 114) hR4 dX0_firstUnlike_9 fl_X0_30 rfl rfl ?_
  refine pm_iconst (v := (-1)) dX0_firstUnlike_12 (by decide) ?_
  obtain ⟨r6, h7, h⟩ := ob_some h
  refine dx_cSv (M := M_X0_firstUnlike) (Mc := M_J7_fill_53178) (dc := 0) (As := [.ref (b + 114), .int (-1)]) (st := []) hk5 dX0_firstUnlike_13 ml_X0_55 (by decide) (Nat.le_of_ble_eq_true rfl) rfl (k_J7_fill_53178 hR4 rfl h7) (fun w8 hR9 hk10 => ?_)
  refine pm_iconst (v := 0) dX0_firstUnlike_16 (by decide) ?_
  refine pm_istore_n dX0_firstUnlike_17 (by decide) rfl rfl ?_
  refine pm_iconst (v := 0) dX0_firstUnlike_18 (by decide) ?_
  refine pm_istore dX0_firstUnlike_19 (by decide) rfl rfl ?_
  refine pm_aload_n dX0_firstUnlike_21 rfl ?_
  refine dx_gi (j := o1) hR9 dX0_firstUnlike_22 fl_X0_68 (sp_Run_self hs1) rfl ?_
  refine pm_aload_n dX0_firstUnlike_25 rfl ?_
  refine dx_gi (j := o2) hR9 dX0_firstUnlike_26 fl_X0_68 (sp_Run_self hs2) rfl ?_
  refine pm_mmin (M := M_X0_firstUnlike) dX0_firstUnlike_29 mm_X0_42 mm_min_2 mm_init mm_min_4 (by decide) (Nat.le_refl _) (Nat.le_refl _) (Nat.le_of_ble_eq_true rfl) ?_
  refine pm_istore dX0_firstUnlike_32 (by decide) rfl rfl ?_
  refine pm_iconst (v := 0) dX0_firstUnlike_34 (by decide) ?_
  refine pm_istore dX0_firstUnlike_35 (by decide) rfl rfl ?_
  obtain ⟨r36, h37, h⟩ := ob_some h
  refine lp_sound (P := fun (s : (Int32 × Int32 × Int32 × rg_U)) => ∀ w1, rg shC b s.2.2.2 n w1 → rg_k b shC.length w w1 → pm_X gs ro M_X0_firstUnlike 3 0 0 0 0 37 [some (.ref (b + 8)), some (.ref (b + o1)), some (.ref (b + o2)), some (.int s.1), some (.int s.2.1), some (.int (imin (rF r6 o1 9) (rF r6 o2 9))), some (.int s.2.2.1), none, none] [] n w1 (rg_post shC b n w (some (.int z.1)) z.2)) (E := (Sum.elim (fun (r : (Int32 × rg_U)) => ∀ w1, rg shC b r.2 n w1 → rg_k b shC.length w w1 → pm_X gs ro M_X0_firstUnlike 3 0 0 0 0 147 [none, none, none, none, none, none, some (.int r.1), none, none] [] n w1 (rg_post shC b n w (some (.int z.1)) z.2)) (fun (r : rg_U) => ∀ w1, rg shC b r n w1 → rg_k b shC.length w w1 → pm_X gs ro M_X0_firstUnlike 3 0 0 0 0 163 [none, none, none, none, none, none, none, none, none] [] n w1 (rg_post shC b n w (some (.int z.1)) z.2)))) (fun s x hx hc he w1 hR1 hk1 => k_X0_firstUnlike_l37 hR1 hk1 hs1 hs2 hx hc (fun r q => he (Sum.inl r) q) (fun r q => he (Sum.inr r) q)) F _ r36 h37 ?_ _ hR9 hk10
  cases r36 with
  | inl r38 =>
    replace h := os_l h
    intro w40 hR41 hk42
    refine pm_iload dX0_firstUnlike_147 rfl ?_
    cases h
    exact pm_iret dX0_firstUnlike_149 rfl (Nat.le_refl _) (Nat.le_refl _) ⟨rfl, rfl, hR41, hk42⟩
  | inr r39 =>
    replace h := os_r h
    intro w43 hR44 hk45
    refine pm_iconst (v := (-1)) dX0_firstUnlike_163 (by decide) ?_
    cases h
    exact pm_iret dX0_firstUnlike_164 rfl (Nat.le_refl _) (Nat.le_refl _) ⟨rfl, rfl, hR44, hk45⟩
def g_X9_copyRow (F : Nat) (o0 N0 : Nat) (o1 N1 : Nat) (x2 : Int32) (u : rg_U) : Option rg_U :=
  if (imin x2 (imin (Int32.ofNat N0) (Int32.ofNat N1))) ≤ 0 then (some u) else (ck (cpok 0 0 (imin x2 (imin (Int32.ofNat N0) (Int32.ofNat N1))) N0 N1) (lt1 (sC u o0 o1 0 0 (imin x2 (imin (Int32.ofNat N0) (Int32.ofNat N1)))) (fun u3 => some u3)))
set_option maxHeartbeats 4000000 in
set_option maxRecDepth 100000 in
theorem k_X9_copyRow {gs : List String} {ro : pm_RO} {n : Nat} {w : Nat → va_E} {b : Nat} {u : rg_U} {F : Nat} {o0 N0 : Nat} {o1 N1 : Nat} {x2 : Int32} {z : rg_U} (hR : rg shC b u n w) (hs0 : shC[o0]? = some (.inr (.inl (0, N0)))) (hs1 : shC[o1]? = some (.inr (.inl (0, N1)))) (h : g_X9_copyRow F o0 N0 o1 N1 x2 u = some z) : pm_Met gs ro M_X9_copyRow 1 0 0 [.ref (b + o0), .ref (b + o1), .int x2] n w (rg_post shC b n w none z) := by
  unfold g_X9_copyRow at h
  refine pm_ofX in_X9_copyRow (Nat.le_of_ble_eq_true rfl) rfl (L := [some (.ref (b + o0)), some (.ref (b + o1)), some (.int x2), none]) rfl ?_
  refine pm_iload_n dX9_copyRow_0 rfl ?_
  refine pm_aload_n dX9_copyRow_1 rfl ?_
  refine dx_len (j := o0) (v := (Int32.ofNat N0)) hR dX9_copyRow_2 hs0 (by first | decide | rfl) (by decide) ?_
  refine pm_aload_n dX9_copyRow_3 rfl ?_
  refine dx_len (j := o1) (v := (Int32.ofNat N1)) hR dX9_copyRow_4 hs1 (by first | decide | rfl) (by decide) ?_
  refine pm_mmin (M := M_X9_copyRow) dX9_copyRow_5 mm_X9_356 mm_min_2 mm_init mm_min_4 (by decide) (Nat.le_refl _) (Nat.le_refl _) (Nat.le_of_ble_eq_true rfl) ?_
  refine pm_mmin (M := M_X9_copyRow) dX9_copyRow_8 mm_X9_356 mm_min_2 mm_init mm_min_4 (by decide) (Nat.le_refl _) (Nat.le_refl _) (Nat.le_of_ble_eq_true rfl) ?_
  refine pm_istore_n dX9_copyRow_11 (by decide) rfl rfl ?_
  refine pm_iload_n dX9_copyRow_12 rfl ?_
  refine pm_if_le (tgt := 24) dX9_copyRow_13 (by decide) (fun c1 => ?_) (fun c1 => ?_)
  · replace h := it_t c1 h
    cases h
    exact pm_vret dX9_copyRow_24 rfl (Nat.le_refl _) (Nat.le_refl _) ⟨rfl, rfl, hR, rg_k0⟩
  · replace h := it_f c1 h
    refine pm_aload_n dX9_copyRow_16 rfl ?_
    refine pm_iconst (v := 0) dX9_copyRow_17 (by decide) ?_
    refine pm_aload_n dX9_copyRow_18 rfl ?_
    refine pm_iconst (v := 0) dX9_copyRow_19 (by decide) ?_
    refine pm_iload_n dX9_copyRow_20 rfl ?_
    obtain ⟨c2, h⟩ := ck_some h
    obtain ⟨u3, hu4, h⟩ := lt1_ex h
    refine dx_cp (M := M_X9_copyRow) (j0 := o0) (j1 := o1) hR rg_k0 dX9_copyRow_21 sy_X9_359 sy_2 sy_3 sy_4 (by decide) (Nat.le_of_ble_eq_true rfl) hs0 hs1 c2 hu4 (fun w5 hR6 hk7 => ?_)
    cases h
    exact pm_vret dX9_copyRow_24 rfl (Nat.le_refl _) (Nat.le_refl _) ⟨rfl, rfl, hR6, hk7⟩
def g_X1_takeFrom (F : Nat) (o0 : Nat) (o1 : Nat) (u : rg_U) : Option rg_U :=
  lt1 (sF u o0 3 (rF u o1 3)) (fun u1 => ob (g_X9_copyRow F (o1 + 1) 100 (o0 + 1) 100 (rF u1 o0 3) u1) (fun r6 => ob (g_X9_copyRow F (o1 + 2) 100 (o0 + 2) 100 (rF r6 o0 3) r6) (fun r11 => ob (g_X9_copyRow F (o1 + 3) 100 (o0 + 3) 100 (rF r11 o0 3) r11) (fun r16 => some r16))))
set_option maxHeartbeats 4000000 in
set_option maxRecDepth 100000 in
theorem k_X1_takeFrom {gs : List String} {ro : pm_RO} {n : Nat} {w : Nat → va_E} {b : Nat} {u : rg_U} {F : Nat} {o0 : Nat} {o1 : Nat} {z : rg_U} (hR : rg shC b u n w) (hs0 : sp_Calls o0) (hs1 : sp_Calls o1) (h : g_X1_takeFrom F o0 o1 u = some z) : pm_Met gs ro M_X1_takeFrom 2 0 0 [.ref (b + o0), .ref (b + o1)] n w (rg_post shC b n w none z) := by
  unfold g_X1_takeFrom at h
  refine pm_ofX in_X1_takeFrom (Nat.le_of_ble_eq_true rfl) rfl (L := [some (.ref (b + o0)), some (.ref (b + o1))]) rfl ?_
  refine pm_aload_n dX1_takeFrom_0 rfl ?_
  refine pm_aload_n dX1_takeFrom_1 rfl ?_
  refine dx_gi (j := o1) hR dX1_takeFrom_2 fl_X1_21 (sp_Calls_self hs1) rfl ?_
  obtain ⟨u1, hu2, h⟩ := lt1_ex h
  refine dx_pi (j := o0) hR rg_k0 dX1_takeFrom_5 fl_X1_21 (sp_Calls_self hs0) rfl hu2 (fun w3 hR4 hk5 => ?_)
  refine pm_aload_n dX1_takeFrom_8 rfl ?_
  refine dx_gr (j := o1) (o := (o1 + 1)) hR4 dX1_takeFrom_9 fl_X1_9 (sp_Calls_self hs1) rfl ?_
  refine pm_aload_n dX1_takeFrom_12 rfl ?_
  refine dx_gr (j := o0) (o := (o0 + 1)) hR4 dX1_takeFrom_13 fl_X1_9 (sp_Calls_self hs0) rfl ?_
  refine pm_aload_n dX1_takeFrom_16 rfl ?_
  refine dx_gi (j := o0) hR4 dX1_takeFrom_17 fl_X1_21 (sp_Calls_self hs0) rfl ?_
  obtain ⟨r6, h7, h⟩ := ob_some h
  refine dx_cSNv (M := M_X1_takeFrom) (Mc := M_X9_copyRow) (dc := 1) (As := [.ref (b + (o1 + 1)), .ref (b + (o0 + 1)), .int (rF u1 o0 3)]) (st := []) hk5 dX1_takeFrom_20 ml_X1_25 (by decide) (Nat.le_of_ble_eq_true rfl) rfl (k_X9_copyRow hR4 (sp_Calls_time hs1) (sp_Calls_time hs0) h7) (fun w8 hR9 hk10 => ?_)
  refine pm_aload_n dX1_takeFrom_23 rfl ?_
  refine dx_gr (j := o1) (o := (o1 + 2)) hR9 dX1_takeFrom_24 fl_X1_15 (sp_Calls_self hs1) rfl ?_
  refine pm_aload_n dX1_takeFrom_27 rfl ?_
  refine dx_gr (j := o0) (o := (o0 + 2)) hR9 dX1_takeFrom_28 fl_X1_15 (sp_Calls_self hs0) rfl ?_
  refine pm_aload_n dX1_takeFrom_31 rfl ?_
  refine dx_gi (j := o0) hR9 dX1_takeFrom_32 fl_X1_21 (sp_Calls_self hs0) rfl ?_
  obtain ⟨r11, h12, h⟩ := ob_some h
  refine dx_cSNv (M := M_X1_takeFrom) (Mc := M_X9_copyRow) (dc := 1) (As := [.ref (b + (o1 + 2)), .ref (b + (o0 + 2)), .int (rF r6 o0 3)]) (st := []) hk10 dX1_takeFrom_35 ml_X1_25 (by decide) (Nat.le_of_ble_eq_true rfl) rfl (k_X9_copyRow hR9 (sp_Calls_target hs1) (sp_Calls_target hs0) h12) (fun w13 hR14 hk15 => ?_)
  refine pm_aload_n dX1_takeFrom_38 rfl ?_
  refine dx_gr (j := o1) (o := (o1 + 3)) hR14 dX1_takeFrom_39 fl_X1_18 (sp_Calls_self hs1) rfl ?_
  refine pm_aload_n dX1_takeFrom_42 rfl ?_
  refine dx_gr (j := o0) (o := (o0 + 3)) hR14 dX1_takeFrom_43 fl_X1_18 (sp_Calls_self hs0) rfl ?_
  refine pm_aload_n dX1_takeFrom_46 rfl ?_
  refine dx_gi (j := o0) hR14 dX1_takeFrom_47 fl_X1_21 (sp_Calls_self hs0) rfl ?_
  obtain ⟨r16, h17, h⟩ := ob_some h
  refine dx_cSNv (M := M_X1_takeFrom) (Mc := M_X9_copyRow) (dc := 1) (As := [.ref (b + (o1 + 3)), .ref (b + (o0 + 3)), .int (rF r11 o0 3)]) (st := []) hk15 dX1_takeFrom_50 ml_X1_25 (by decide) (Nat.le_of_ble_eq_true rfl) rfl (k_X9_copyRow hR14 (sp_Calls_stacked hs1) (sp_Calls_stacked hs0) h17) (fun w18 hR19 hk20 => ?_)
  cases h
  exact pm_vret dX1_takeFrom_53 rfl (Nat.le_refl _) (Nat.le_refl _) ⟨rfl, rfl, hR19, hk20⟩
def g_X1_add (F : Nat) (o0 : Nat) (x1 : Int32) (x2 : Int32) (x3 : Int32) (u : rg_U) : Option rg_U :=
  if (rF u o0 3) < 0 then (some u) else (if 100 ≤ (rF u o0 3) then (some u) else (ck (inb (rF u o0 3) 100) (lt1 (sA u (o0 + 1) (rF u o0 3) x1) (fun u4 => ck (inb (rF u4 o0 3) 100) (lt1 (sA u4 (o0 + 2) (rF u4 o0 3) x2) (fun u10 => ck (inb (rF u10 o0 3) 100) (lt1 (sA u10 (o0 + 3) (rF u10 o0 3) x3) (fun u16 => lt1 (sF u16 o0 3 ((rF u16 o0 3) + 1)) (fun u21 => some u21)))))))))
set_option maxHeartbeats 4000000 in
set_option maxRecDepth 100000 in
theorem k_X1_add {gs : List String} {ro : pm_RO} {n : Nat} {w : Nat → va_E} {b : Nat} {u : rg_U} {F : Nat} {o0 : Nat} {x1 : Int32} {x2 : Int32} {x3 : Int32} {z : rg_U} (hR : rg shC b u n w) (hs0 : sp_Calls o0) (h : g_X1_add F o0 x1 x2 x3 u = some z) : pm_Met gs ro M_X1_add 0 0 0 [.ref (b + o0), .int x1, .int x2, .int x3] n w (rg_post shC b n w none z) := by
  unfold g_X1_add at h
  refine pm_ofX in_X1_add (Nat.le_of_ble_eq_true rfl) rfl (L := [some (.ref (b + o0)), some (.int x1), some (.int x2), some (.int x3)]) rfl ?_
  refine pm_aload_n dX1_add_0 rfl ?_
  refine dx_gi (j := o0) hR dX1_add_1 fl_X1_21 (sp_Calls_self hs0) rfl ?_
  refine pm_if_lt (tgt := 56) dX1_add_4 (by decide) (fun c1 => ?_) (fun c1 => ?_)
  · replace h := it_t c1 h
    cases h
    exact pm_vret dX1_add_56 rfl (Nat.le_refl _) (Nat.le_refl _) ⟨rfl, rfl, hR, rg_k0⟩
  · replace h := it_f c1 h
    refine pm_aload_n dX1_add_7 rfl ?_
    refine dx_gi (j := o0) hR dX1_add_8 fl_X1_21 (sp_Calls_self hs0) rfl ?_
    refine pm_bipush (v := 100) dX1_add_11 (by decide) ?_
    refine pm_icmp_ge (tgt := 56) dX1_add_13 (by decide) (fun c2 => ?_) (fun c2 => ?_)
    · replace h := it_t c2 h
      cases h
      exact pm_vret dX1_add_56 rfl (Nat.le_refl _) (Nat.le_refl _) ⟨rfl, rfl, hR, rg_k0⟩
    · replace h := it_f c2 h
      refine pm_aload_n dX1_add_16 rfl ?_
      refine dx_gr (j := o0) (o := (o0 + 1)) hR dX1_add_17 fl_X1_9 (sp_Calls_self hs0) rfl ?_
      refine pm_aload_n dX1_add_20 rfl ?_
      refine dx_gi (j := o0) hR dX1_add_21 fl_X1_21 (sp_Calls_self hs0) rfl ?_
      refine pm_iload_n dX1_add_24 rfl ?_
      obtain ⟨c3, h⟩ := ck_some h
      obtain ⟨u4, hu5, h⟩ := lt1_ex h
      refine dx_as (j := (o0 + 1)) hR rg_k0 dX1_add_25 (sp_Calls_time hs0) (vp_in_iff.mpr c3) hu5 (fun w6 hR7 hk8 => ?_)
      refine pm_aload_n dX1_add_26 rfl ?_
      refine dx_gr (j := o0) (o := (o0 + 2)) hR7 dX1_add_27 fl_X1_15 (sp_Calls_self hs0) rfl ?_
      refine pm_aload_n dX1_add_30 rfl ?_
      refine dx_gi (j := o0) hR7 dX1_add_31 fl_X1_21 (sp_Calls_self hs0) rfl ?_
      refine pm_iload_n dX1_add_34 rfl ?_
      obtain ⟨c9, h⟩ := ck_some h
      obtain ⟨u10, hu11, h⟩ := lt1_ex h
      refine dx_as (j := (o0 + 2)) hR7 hk8 dX1_add_35 (sp_Calls_target hs0) (vp_in_iff.mpr c9) hu11 (fun w12 hR13 hk14 => ?_)
      refine pm_aload_n dX1_add_36 rfl ?_
      refine dx_gr (j := o0) (o := (o0 + 3)) hR13 dX1_add_37 fl_X1_18 (sp_Calls_self hs0) rfl ?_
      refine pm_aload_n dX1_add_40 rfl ?_
      refine dx_gi (j := o0) hR13 dX1_add_41 fl_X1_21 (sp_Calls_self hs0) rfl ?_
      refine pm_iload_n dX1_add_44 rfl ?_
      obtain ⟨c15, h⟩ := ck_some h
      obtain ⟨u16, hu17, h⟩ := lt1_ex h
      refine dx_as (j := (o0 + 3)) hR13 hk14 dX1_add_45 (sp_Calls_stacked hs0) (vp_in_iff.mpr c15) hu17 (fun w18 hR19 hk20 => ?_)
      refine pm_aload_n dX1_add_46 rfl ?_
      refine pm_dup dX1_add_47 rfl ?_
      refine dx_gi (j := o0) hR19 dX1_add_48 fl_X1_21 (sp_Calls_self hs0) rfl ?_
      refine pm_iconst (v := 1) dX1_add_51 (by decide) ?_
      refine pm_iadd dX1_add_52 ?_
      obtain ⟨u21, hu22, h⟩ := lt1_ex h
      refine dx_pi (j := o0) hR19 hk20 dX1_add_53 fl_X1_21 (sp_Calls_self hs0) rfl hu22 (fun w23 hR24 hk25 => ?_)
      cases h
      exact pm_vret dX1_add_56 rfl (Nat.le_refl _) (Nat.le_refl _) ⟨rfl, rfl, hR24, hk25⟩
def g_X1_read (F : Nat) (o0 : Nat) (x1 : Int32) (x2 : Int32) (u : rg_U) : Option Int32 :=
  ob (g_X1_has F o0 x1 u) (fun r1 => if r1 = 0 then (some (-1)) else (if x2 = 0 then (ck (inb x1 100) (some (rA u (o0 + 1) x1))) else if x2 = 1 then (ck (inb x1 100) (some (rA u (o0 + 2) x1))) else if x2 = 2 then (ck (inb x1 100) (some (rA u (o0 + 3) x1))) else (some (-1))))
set_option maxHeartbeats 4000000 in
set_option maxRecDepth 100000 in
theorem k_X1_read {gs : List String} {ro : pm_RO} {n : Nat} {w : Nat → va_E} {b : Nat} {u : rg_U} {F : Nat} {o0 : Nat} {x1 : Int32} {x2 : Int32} {z : Int32} (hR : rg shC b u n w) (hs0 : sp_Calls o0) (h : g_X1_read F o0 x1 x2 u = some z) : pm_Met gs ro M_X1_read 1 0 0 [.ref (b + o0), .int x1, .int x2] n w (pm_p n w (some (.int z))) := by
  unfold g_X1_read at h
  refine pm_ofX in_X1_read (Nat.le_of_ble_eq_true rfl) rfl (L := [some (.ref (b + o0)), some (.int x1), some (.int x2)]) rfl ?_
  refine pm_aload_n dX1_read_0 rfl ?_
  refine pm_iload_n dX1_read_1 rfl ?_
  obtain ⟨r1, h2, h⟩ := ob_some h
  refine dx_cVp (j := o0) (M := M_X1_read) (Mc := M_X1_has) (dc := 0) (As := [.int x1]) (st := []) hR dX1_read_2 ml_X1_29 ⟨TX1, 4, rfl⟩ (sp_Calls_self hs0) (by decide) (Nat.le_of_ble_eq_true rfl) rfl (k_X1_has hR hs0 h2) ?_
  refine pm_if_ne (tgt := 10) dX1_read_5 (by decide) (fun c3 => ?_) (fun c3 => ?_)
  · replace h := it_f c3 h
    refine pm_iload_n dX1_read_10 rfl ?_
    by_cases t4 : x2 = 0
    · replace h := it_t t4 h
      refine pm_tableIn (off := 25) (tgt := 36) dX1_read_11 (by rw [t4]; decide) (by rw [t4]; decide) (by rw [t4]; rfl) (by decide) ?_
      refine pm_aload_n dX1_read_36 rfl ?_
      refine dx_gr (j := o0) (o := (o0 + 1)) hR dX1_read_37 fl_X1_9 (sp_Calls_self hs0) rfl ?_
      refine pm_iload_n dX1_read_40 rfl ?_
      obtain ⟨c5, h⟩ := ck_some h
      refine dx_al (j := (o0 + 1)) hR dX1_read_41 (sp_Calls_time hs0) (vp_in_iff.mpr c5) ?_
      cases h
      exact pm_iret dX1_read_42 rfl (Nat.le_refl _) (Nat.le_refl _) ⟨rfl, rfl, rfl⟩
    replace h := it_f t4 h
    by_cases t6 : x2 = 1
    · replace h := it_t t6 h
      refine pm_tableIn (off := 32) (tgt := 43) dX1_read_11 (by rw [t6]; decide) (by rw [t6]; decide) (by rw [t6]; rfl) (by decide) ?_
      refine pm_aload_n dX1_read_43 rfl ?_
      refine dx_gr (j := o0) (o := (o0 + 2)) hR dX1_read_44 fl_X1_15 (sp_Calls_self hs0) rfl ?_
      refine pm_iload_n dX1_read_47 rfl ?_
      obtain ⟨c7, h⟩ := ck_some h
      refine dx_al (j := (o0 + 2)) hR dX1_read_48 (sp_Calls_target hs0) (vp_in_iff.mpr c7) ?_
      cases h
      exact pm_iret dX1_read_49 rfl (Nat.le_refl _) (Nat.le_refl _) ⟨rfl, rfl, rfl⟩
    replace h := it_f t6 h
    by_cases t8 : x2 = 2
    · replace h := it_t t8 h
      refine pm_tableIn (off := 39) (tgt := 50) dX1_read_11 (by rw [t8]; decide) (by rw [t8]; decide) (by rw [t8]; rfl) (by decide) ?_
      refine pm_aload_n dX1_read_50 rfl ?_
      refine dx_gr (j := o0) (o := (o0 + 3)) hR dX1_read_51 fl_X1_18 (sp_Calls_self hs0) rfl ?_
      refine pm_iload_n dX1_read_54 rfl ?_
      obtain ⟨c9, h⟩ := ck_some h
      refine dx_al (j := (o0 + 3)) hR dX1_read_55 (sp_Calls_stacked hs0) (vp_in_iff.mpr c9) ?_
      cases h
      exact pm_iret dX1_read_56 rfl (Nat.le_refl _) (Nat.le_refl _) ⟨rfl, rfl, rfl⟩
    replace h := it_f t8 h
    refine pm_tableOut (tgt := 57) dX1_read_11 (by have h0 := lv_neT t4 (show (0 : Int32).toInt = 0 from by decide); have h1 := lv_neT t6 (show (1 : Int32).toInt = 1 from by decide); have h2 := lv_neT t8 (show (2 : Int32).toInt = 2 from by decide); omega) (by decide) ?_
    refine pm_iconst (v := (-1)) dX1_read_57 (by decide) ?_
    cases h
    exact pm_iret dX1_read_58 rfl (Nat.le_refl _) (Nat.le_refl _) ⟨rfl, rfl, rfl⟩
  · replace h := it_t c3 h
    refine pm_iconst (v := (-1)) dX1_read_8 (by decide) ?_
    cases h
    exact pm_iret dX1_read_9 rfl (Nat.le_refl _) (Nat.le_refl _) ⟨rfl, rfl, rfl⟩
def g_X1_dropFrom_l7 (F : Nat) (o0 : Nat) (l1 : Int32) (l2 : Int32) (u : rg_U) : Option ((Int32 × rg_U) ⊕ rg_U) :=
  if l2 < 0 then (some (.inr u)) else (ob (g_X1_has F o0 l2 u) (fun r2 => if r2 = 0 then (some (.inr u)) else (ck (inb l2 100) (if (rA u (o0 + 1) l2) < l1 then (some (.inr u)) else (lt1 (sF u o0 3 l2) (fun u7 => some (.inl ((l2 + (-1)), u7))))))))
set_option maxHeartbeats 4000000 in
set_option maxRecDepth 100000 in
theorem k_X1_dropFrom_l7 {gs : List String} {ro : pm_RO} {n : Nat} {w w1 : Nat → va_E} {b : Nat} {u : rg_U} {F : Nat} {o0 : Nat} {l1 : Int32} {l2 : Int32} {z : (Int32 × rg_U) ⊕ rg_U} {Q : Option Value → Nat → (Nat → va_E) → Prop} (hR : rg shC b u n w1) (hk : rg_k b shC.length w w1) (hs0 : sp_Calls o0) (h : g_X1_dropFrom_l7 F o0 l1 l2 u = some z) (hc : ∀ s', z = .inl s' → ∀ w1, rg shC b s'.2 n w1 → rg_k b shC.length w w1 → pm_X gs ro M_X1_dropFrom 1 0 0 0 0 7 [some (.ref (b + o0)), some (.int l1), some (.int s'.1)] [] n w1 Q) (he0 : ∀ r', z = .inr r' → ∀ w1, rg shC b r' n w1 → rg_k b shC.length w w1 → pm_X gs ro M_X1_dropFrom 1 0 0 0 0 40 [none, none, none] [] n w1 Q) : pm_X gs ro M_X1_dropFrom 1 0 0 0 0 7 [some (.ref (b + o0)), some (.int l1), some (.int l2)] [] n w1 Q := by
  unfold g_X1_dropFrom_l7 at h
  refine pm_iload_n dX1_dropFrom_7 rfl ?_
  refine pm_if_lt (tgt := 40) dX1_dropFrom_8 (by decide) (fun c1 => ?_) (fun c1 => ?_)
  · replace h := it_t c1 h
    refine pm_lw (L' := [none, none, none]) ⟨Or.inl rfl, Or.inl rfl, Or.inl rfl, trivial⟩ ?_
    exact he0 _ (Option.some.inj h).symm _ hR hk
  · replace h := it_f c1 h
    refine pm_aload_n dX1_dropFrom_11 rfl ?_
    refine pm_iload_n dX1_dropFrom_12 rfl ?_
    obtain ⟨r2, h3, h⟩ := ob_some h
    refine dx_cVp (j := o0) (M := M_X1_dropFrom) (Mc := M_X1_has) (dc := 0) (As := [.int l2]) (st := []) hR dX1_dropFrom_13 ml_X1_29 ⟨TX1, 4, rfl⟩ (sp_Calls_self hs0) (by decide) (Nat.le_of_ble_eq_true rfl) rfl (k_X1_has hR hs0 h3) ?_
    refine pm_if_eq (tgt := 40) dX1_dropFrom_16 (by decide) (fun c4 => ?_) (fun c4 => ?_)
    · replace h := it_t c4 h
      refine pm_lw (L' := [none, none, none]) ⟨Or.inl rfl, Or.inl rfl, Or.inl rfl, trivial⟩ ?_
      exact he0 _ (Option.some.inj h).symm _ hR hk
    · replace h := it_f c4 h
      refine pm_aload_n dX1_dropFrom_19 rfl ?_
      refine dx_gr (j := o0) (o := (o0 + 1)) hR dX1_dropFrom_20 fl_X1_9 (sp_Calls_self hs0) rfl ?_
      refine pm_iload_n dX1_dropFrom_23 rfl ?_
      obtain ⟨c5, h⟩ := ck_some h
      refine dx_al (j := (o0 + 1)) hR dX1_dropFrom_24 (sp_Calls_time hs0) (vp_in_iff.mpr c5) ?_
      refine pm_iload_n dX1_dropFrom_25 rfl ?_
      refine pm_icmp_lt (tgt := 40) dX1_dropFrom_26 (by decide) (fun c6 => ?_) (fun c6 => ?_)
      · replace h := it_t c6 h
        refine pm_lw (L' := [none, none, none]) ⟨Or.inl rfl, Or.inl rfl, Or.inl rfl, trivial⟩ ?_
        exact he0 _ (Option.some.inj h).symm _ hR hk
      · replace h := it_f c6 h
        refine pm_aload_n dX1_dropFrom_29 rfl ?_
        refine pm_iload_n dX1_dropFrom_30 rfl ?_
        obtain ⟨u7, hu8, h⟩ := lt1_ex h
        refine dx_pi (j := o0) hR hk dX1_dropFrom_31 fl_X1_21 (sp_Calls_self hs0) rfl hu8 (fun w9 hR10 hk11 => ?_)
        refine pm_iinc (v := (l2 + (-1))) dX1_dropFrom_34 rfl rfl (by decide) rfl rfl ?_
        refine pm_goto (tgt := 7) dX1_dropFrom_37 (by decide) ?_
        refine pm_lw (L' := [some (.ref (b + o0)), some (.int l1), some (.int (l2 + (-1)))]) ⟨Or.inr rfl, Or.inr rfl, Or.inr rfl, trivial⟩ ?_
        exact hc _ (Option.some.inj h).symm _ hR10 hk11
def g_X1_dropFrom (F : Nat) (o0 : Nat) (x1 : Int32) (u : rg_U) : Option rg_U :=
  ob (lp (fun (s : (Int32 × rg_U)) => g_X1_dropFrom_l7 F o0 x1 s.1 s.2) F ((((rF u o0 3) - 1) : Int32), u)) (fun r12 => some r12)
set_option maxHeartbeats 4000000 in
set_option maxRecDepth 100000 in
theorem k_X1_dropFrom {gs : List String} {ro : pm_RO} {n : Nat} {w : Nat → va_E} {b : Nat} {u : rg_U} {F : Nat} {o0 : Nat} {x1 : Int32} {z : rg_U} (hR : rg shC b u n w) (hs0 : sp_Calls o0) (h : g_X1_dropFrom F o0 x1 u = some z) : pm_Met gs ro M_X1_dropFrom 1 0 0 [.ref (b + o0), .int x1] n w (rg_post shC b n w none z) := by
  unfold g_X1_dropFrom at h
  refine pm_ofX in_X1_dropFrom (Nat.le_of_ble_eq_true rfl) rfl (L := [some (.ref (b + o0)), some (.int x1), none]) rfl ?_
  refine pm_aload_n dX1_dropFrom_0 rfl ?_
  refine dx_gi (j := o0) hR dX1_dropFrom_1 fl_X1_21 (sp_Calls_self hs0) rfl ?_
  refine pm_iconst (v := 1) dX1_dropFrom_4 (by decide) ?_
  refine pm_isub dX1_dropFrom_5 ?_
  refine pm_istore_n dX1_dropFrom_6 (by decide) rfl rfl ?_
  obtain ⟨r12, h13, h⟩ := ob_some h
  refine lp_sound (P := fun (s : (Int32 × rg_U)) => ∀ w1, rg shC b s.2 n w1 → rg_k b shC.length w w1 → pm_X gs ro M_X1_dropFrom 1 0 0 0 0 7 [some (.ref (b + o0)), some (.int x1), some (.int s.1)] [] n w1 (rg_post shC b n w none z)) (E := (fun (r : rg_U) => ∀ w1, rg shC b r n w1 → rg_k b shC.length w w1 → pm_X gs ro M_X1_dropFrom 1 0 0 0 0 40 [none, none, none] [] n w1 (rg_post shC b n w none z))) (fun s x hx hc he w1 hR1 hk1 => k_X1_dropFrom_l7 hR1 hk1 hs0 hx hc (fun r q => he r q)) F _ r12 h13 ?_ _ hR rg_k0
  intro w14 hR15 hk16
  cases h
  exact pm_vret dX1_dropFrom_40 rfl (Nat.le_refl _) (Nat.le_refl _) ⟨rfl, rfl, hR15, hk16⟩
def g_X2_takeFrom (F : Nat) (o0 : Nat) (o1 : Nat) (u : rg_U) : Option rg_U :=
  lt1 (sF u o0 1 (rF u o1 1)) (fun u1 => ob (g_X9_copyRow F (o1 + 1) 64 (o0 + 1) 64 (rF u1 o0 1) u1) (fun r6 => lt1 (sF r6 o0 2 (rF r6 o1 2)) (fun u11 => lt1 (sF u11 o0 3 (rF u11 o1 3)) (fun u16 => lt1 (sF u16 o0 4 (rF u16 o1 4)) (fun u21 => some u21)))))
set_option maxHeartbeats 4000000 in
set_option maxRecDepth 100000 in
theorem k_X2_takeFrom {gs : List String} {ro : pm_RO} {n : Nat} {w : Nat → va_E} {b : Nat} {u : rg_U} {F : Nat} {o0 : Nat} {o1 : Nat} {z : rg_U} (hR : rg shC b u n w) (hs0 : sp_Holding o0) (hs1 : sp_Holding o1) (h : g_X2_takeFrom F o0 o1 u = some z) : pm_Met gs ro M_X2_takeFrom 2 0 0 [.ref (b + o0), .ref (b + o1)] n w (rg_post shC b n w none z) := by
  unfold g_X2_takeFrom at h
  refine pm_ofX in_X2_takeFrom (Nat.le_of_ble_eq_true rfl) rfl (L := [some (.ref (b + o0)), some (.ref (b + o1))]) rfl ?_
  refine pm_aload_n dX2_takeFrom_0 rfl ?_
  refine pm_aload_n dX2_takeFrom_1 rfl ?_
  refine dx_gi (j := o1) hR dX2_takeFrom_2 fl_X2_15 (sp_Holding_self hs1) rfl ?_
  obtain ⟨u1, hu2, h⟩ := lt1_ex h
  refine dx_pi (j := o0) hR rg_k0 dX2_takeFrom_5 fl_X2_15 (sp_Holding_self hs0) rfl hu2 (fun w3 hR4 hk5 => ?_)
  refine pm_aload_n dX2_takeFrom_8 rfl ?_
  refine dx_gr (j := o1) (o := (o1 + 1)) hR4 dX2_takeFrom_9 fl_X2_9 (sp_Holding_self hs1) rfl ?_
  refine pm_aload_n dX2_takeFrom_12 rfl ?_
  refine dx_gr (j := o0) (o := (o0 + 1)) hR4 dX2_takeFrom_13 fl_X2_9 (sp_Holding_self hs0) rfl ?_
  refine pm_aload_n dX2_takeFrom_16 rfl ?_
  refine dx_gi (j := o0) hR4 dX2_takeFrom_17 fl_X2_15 (sp_Holding_self hs0) rfl ?_
  obtain ⟨r6, h7, h⟩ := ob_some h
  refine dx_cSNv (M := M_X2_takeFrom) (Mc := M_X9_copyRow) (dc := 1) (As := [.ref (b + (o1 + 1)), .ref (b + (o0 + 1)), .int (rF u1 o0 1)]) (st := []) hk5 dX2_takeFrom_20 ml_X2_28 (by decide) (Nat.le_of_ble_eq_true rfl) rfl (k_X9_copyRow hR4 (sp_Holding_times hs1) (sp_Holding_times hs0) h7) (fun w8 hR9 hk10 => ?_)
  refine pm_aload_n dX2_takeFrom_23 rfl ?_
  refine pm_aload_n dX2_takeFrom_24 rfl ?_
  refine dx_gi (j := o1) hR9 dX2_takeFrom_25 fl_X2_19 (sp_Holding_self hs1) rfl ?_
  obtain ⟨u11, hu12, h⟩ := lt1_ex h
  refine dx_pi (j := o0) hR9 hk10 dX2_takeFrom_28 fl_X2_19 (sp_Holding_self hs0) rfl hu12 (fun w13 hR14 hk15 => ?_)
  refine pm_aload_n dX2_takeFrom_31 rfl ?_
  refine pm_aload_n dX2_takeFrom_32 rfl ?_
  refine dx_gi (j := o1) hR14 dX2_takeFrom_33 fl_X2_22 (sp_Holding_self hs1) rfl ?_
  obtain ⟨u16, hu17, h⟩ := lt1_ex h
  refine dx_pi (j := o0) hR14 hk15 dX2_takeFrom_36 fl_X2_22 (sp_Holding_self hs0) rfl hu17 (fun w18 hR19 hk20 => ?_)
  refine pm_aload_n dX2_takeFrom_39 rfl ?_
  refine pm_aload_n dX2_takeFrom_40 rfl ?_
  refine dx_gi (j := o1) hR19 dX2_takeFrom_41 fl_X2_25 (sp_Holding_self hs1) rfl ?_
  obtain ⟨u21, hu22, h⟩ := lt1_ex h
  refine dx_pi (j := o0) hR19 hk20 dX2_takeFrom_44 fl_X2_25 (sp_Holding_self hs0) rfl hu22 (fun w23 hR24 hk25 => ?_)
  cases h
  exact pm_vret dX2_takeFrom_47 rfl (Nat.le_refl _) (Nat.le_refl _) ⟨rfl, rfl, hR24, hk25⟩
def g_X2_start (F : Nat) (o0 : Nat) (x1 : Int32) (x2 : Int32) (u : rg_U) : Option rg_U :=
  lt1 (sF u o0 3 x1) (fun u1 => lt1 (sF u1 o0 4 x2) (fun u6 => ck (inb 0 64) (lt1 (sA u6 (o0 + 1) 0 0) (fun u12 => lt1 (sF u12 o0 1 1) (fun u17 => lt1 (sF u17 o0 2 1) (fun u22 => some u22))))))
set_option maxHeartbeats 4000000 in
set_option maxRecDepth 100000 in
theorem k_X2_start {gs : List String} {ro : pm_RO} {n : Nat} {w : Nat → va_E} {b : Nat} {u : rg_U} {F : Nat} {o0 : Nat} {x1 : Int32} {x2 : Int32} {z : rg_U} (hR : rg shC b u n w) (hs0 : sp_Holding o0) (h : g_X2_start F o0 x1 x2 u = some z) : pm_Met gs ro M_X2_start 0 0 0 [.ref (b + o0), .int x1, .int x2] n w (rg_post shC b n w none z) := by
  unfold g_X2_start at h
  refine pm_ofX in_X2_start (Nat.le_of_ble_eq_true rfl) rfl (L := [some (.ref (b + o0)), some (.int x1), some (.int x2)]) rfl ?_
  refine pm_aload_n dX2_start_0 rfl ?_
  refine pm_iload_n dX2_start_1 rfl ?_
  obtain ⟨u1, hu2, h⟩ := lt1_ex h
  refine dx_pi (j := o0) hR rg_k0 dX2_start_2 fl_X2_22 (sp_Holding_self hs0) rfl hu2 (fun w3 hR4 hk5 => ?_)
  refine pm_aload_n dX2_start_5 rfl ?_
  refine pm_iload_n dX2_start_6 rfl ?_
  obtain ⟨u6, hu7, h⟩ := lt1_ex h
  refine dx_pi (j := o0) hR4 hk5 dX2_start_7 fl_X2_25 (sp_Holding_self hs0) rfl hu7 (fun w8 hR9 hk10 => ?_)
  refine pm_aload_n dX2_start_10 rfl ?_
  refine dx_gr (j := o0) (o := (o0 + 1)) hR9 dX2_start_11 fl_X2_9 (sp_Holding_self hs0) rfl ?_
  refine pm_iconst (v := 0) dX2_start_14 (by decide) ?_
  refine pm_iconst (v := 0) dX2_start_15 (by decide) ?_
  obtain ⟨c11, h⟩ := ck_some h
  obtain ⟨u12, hu13, h⟩ := lt1_ex h
  refine dx_as (j := (o0 + 1)) hR9 hk10 dX2_start_16 (sp_Holding_times hs0) (vp_in_iff.mpr c11) hu13 (fun w14 hR15 hk16 => ?_)
  refine pm_aload_n dX2_start_17 rfl ?_
  refine pm_iconst (v := 1) dX2_start_18 (by decide) ?_
  obtain ⟨u17, hu18, h⟩ := lt1_ex h
  refine dx_pi (j := o0) hR15 hk16 dX2_start_19 fl_X2_15 (sp_Holding_self hs0) rfl hu18 (fun w19 hR20 hk21 => ?_)
  refine pm_aload_n dX2_start_22 rfl ?_
  refine pm_iconst (v := 1) dX2_start_23 (by decide) ?_
  obtain ⟨u22, hu23, h⟩ := lt1_ex h
  refine dx_pi (j := o0) hR20 hk21 dX2_start_24 fl_X2_19 (sp_Holding_self hs0) rfl hu23 (fun w24 hR25 hk26 => ?_)
  cases h
  exact pm_vret dX2_start_27 rfl (Nat.le_refl _) (Nat.le_refl _) ⟨rfl, rfl, hR25, hk26⟩
def g_X2_goesWith (x0 : Int32) (x1 : Int32) : Int32 :=
  (x0 + (x1 * (x0 &&& (-x0))))
set_option maxHeartbeats 4000000 in
set_option maxRecDepth 100000 in
theorem k_X2_goesWith {gs : List String} {ro : pm_RO} {n : Nat} {w : Nat → va_E} {x0 : Int32} {x1 : Int32} {z : Int32} (h : g_X2_goesWith x0 x1 = z) : pm_Met gs ro M_X2_goesWith 0 0 0 [.int x0, .int x1] n w (pm_p n w (some (.int z))) := by
  unfold g_X2_goesWith at h
  refine pm_ofX in_X2_goesWith (Nat.le_of_ble_eq_true rfl) rfl (L := [some (.int x0), some (.int x1)]) rfl ?_
  refine pm_iload_n dX2_goesWith_0 rfl ?_
  refine pm_iload_n dX2_goesWith_1 rfl ?_
  refine pm_iload_n dX2_goesWith_2 rfl ?_
  refine pm_iload_n dX2_goesWith_3 rfl ?_
  refine pm_ineg dX2_goesWith_4 ?_
  refine pm_iand dX2_goesWith_5 ?_
  refine pm_imul dX2_goesWith_6 ?_
  refine pm_iadd dX2_goesWith_7 ?_
  subst h
  exact pm_iret dX2_goesWith_8 rfl (Nat.le_refl _) (Nat.le_refl _) ⟨rfl, rfl, rfl⟩
def g_X2_isHeldStill (x0 : Int32) (x1 : Int32) (x2 : Int32) : Int32 :=
  if (g_X2_goesWith x0 x1) ≤ x2 then (0) else (1)
theorem g_X2_isHeldStill_b {x0 : Int32} {x1 : Int32} {x2 : Int32} : g_X2_isHeldStill x0 x1 x2 = 0 ∨ g_X2_isHeldStill x0 x1 x2 = 1 := by
  unfold g_X2_isHeldStill
  repeat' (first | exact Or.inl rfl | exact Or.inr rfl | refine it_b ?_ ?_)
set_option maxHeartbeats 4000000 in
set_option maxRecDepth 100000 in
theorem k_X2_isHeldStill {gs : List String} {ro : pm_RO} {n : Nat} {w : Nat → va_E} {x0 : Int32} {x1 : Int32} {x2 : Int32} {z : Int32} (h : g_X2_isHeldStill x0 x1 x2 = z) : pm_Met gs ro M_X2_isHeldStill 1 0 0 [.int x0, .int x1, .int x2] n w (pm_p n w (some (.int z))) := by
  unfold g_X2_isHeldStill at h
  refine pm_ofX in_X2_isHeldStill (Nat.le_of_ble_eq_true rfl) rfl (L := [some (.int x0), some (.int x1), some (.int x2)]) rfl ?_
  refine pm_iload_n dX2_isHeldStill_0 rfl ?_
  refine pm_iload_n dX2_isHeldStill_1 rfl ?_
  refine dx_cSp (M := M_X2_isHeldStill) (Mc := M_X2_goesWith) (dc := 0) (As := [.int x0, .int x1]) (st := []) dX2_isHeldStill_2 ml_X2_32 (by decide) (Nat.le_of_ble_eq_true rfl) rfl (k_X2_goesWith rfl) ?_
  refine pm_iload_n dX2_isHeldStill_5 rfl ?_
  refine pm_icmp_le (tgt := 13) dX2_isHeldStill_6 (by decide) (fun c1 => ?_) (fun c1 => ?_)
  · replace h := it_t c1 h
    refine pm_iconst (v := 0) dX2_isHeldStill_13 (by decide) ?_
    subst h
    exact pm_zret dX2_isHeldStill_14 rfl (Or.inl rfl) (Nat.le_refl _) (Nat.le_refl _) ⟨rfl, rfl, rfl⟩
  · replace h := it_f c1 h
    refine pm_iconst (v := 1) dX2_isHeldStill_9 (by decide) ?_
    refine pm_goto (tgt := 14) dX2_isHeldStill_10 (by decide) ?_
    subst h
    exact pm_zret dX2_isHeldStill_14 rfl (Or.inr rfl) (Nat.le_refl _) (Nat.le_refl _) ⟨rfl, rfl, rfl⟩
def g_X2_has (F : Nat) (o0 : Nat) (x1 : Int32) (u : rg_U) : Option Int32 :=
  if x1 < 0 then (some 0) else (if (rF u o0 1) ≤ x1 then (some 0) else (if 64 ≤ x1 then (some 0) else (some 1)))
set_option maxHeartbeats 4000000 in
set_option maxRecDepth 100000 in
theorem k_X2_has {gs : List String} {ro : pm_RO} {n : Nat} {w : Nat → va_E} {b : Nat} {u : rg_U} {F : Nat} {o0 : Nat} {x1 : Int32} {z : Int32} (hR : rg shC b u n w) (hs0 : sp_Holding o0) (h : g_X2_has F o0 x1 u = some z) : pm_Met gs ro M_X2_has 0 0 0 [.ref (b + o0), .int x1] n w (pm_p n w (some (.int z))) := by
  unfold g_X2_has at h
  refine pm_ofX in_X2_has (Nat.le_of_ble_eq_true rfl) rfl (L := [some (.ref (b + o0)), some (.int x1)]) rfl ?_
  refine pm_iload_n dX2_has_0 rfl ?_
  refine pm_if_lt (tgt := 22) dX2_has_1 (by decide) (fun c1 => ?_) (fun c1 => ?_)
  · replace h := it_t c1 h
    refine pm_iconst (v := 0) dX2_has_22 (by decide) ?_
    cases h
    exact pm_zret dX2_has_23 rfl (Or.inl rfl) (Nat.le_refl _) (Nat.le_refl _) ⟨rfl, rfl, rfl⟩
  · replace h := it_f c1 h
    refine pm_iload_n dX2_has_4 rfl ?_
    refine pm_aload_n dX2_has_5 rfl ?_
    refine dx_gi (j := o0) hR dX2_has_6 fl_X2_15 (sp_Holding_self hs0) rfl ?_
    refine pm_icmp_ge (tgt := 22) dX2_has_9 (by decide) (fun c2 => ?_) (fun c2 => ?_)
    · replace h := it_t c2 h
      refine pm_iconst (v := 0) dX2_has_22 (by decide) ?_
      cases h
      exact pm_zret dX2_has_23 rfl (Or.inl rfl) (Nat.le_refl _) (Nat.le_refl _) ⟨rfl, rfl, rfl⟩
    · replace h := it_f c2 h
      refine pm_iload_n dX2_has_12 rfl ?_
      refine pm_bipush (v := 64) dX2_has_13 (by decide) ?_
      refine pm_icmp_ge (tgt := 22) dX2_has_15 (by decide) (fun c3 => ?_) (fun c3 => ?_)
      · replace h := it_t c3 h
        refine pm_iconst (v := 0) dX2_has_22 (by decide) ?_
        cases h
        exact pm_zret dX2_has_23 rfl (Or.inl rfl) (Nat.le_refl _) (Nat.le_refl _) ⟨rfl, rfl, rfl⟩
      · replace h := it_f c3 h
        refine pm_iconst (v := 1) dX2_has_18 (by decide) ?_
        refine pm_goto (tgt := 23) dX2_has_19 (by decide) ?_
        cases h
        exact pm_zret dX2_has_23 rfl (Or.inr rfl) (Nat.le_refl _) (Nat.le_refl _) ⟨rfl, rfl, rfl⟩
def g_X2_timeOf (F : Nat) (o0 : Nat) (x1 : Int32) (u : rg_U) : Option Int32 :=
  ob (g_X2_has F o0 x1 u) (fun r1 => if r1 = 0 then (some (-1)) else (ck (inb x1 64) (some (rA u (o0 + 1) x1))))
set_option maxHeartbeats 4000000 in
set_option maxRecDepth 100000 in
theorem k_X2_timeOf {gs : List String} {ro : pm_RO} {n : Nat} {w : Nat → va_E} {b : Nat} {u : rg_U} {F : Nat} {o0 : Nat} {x1 : Int32} {z : Int32} (hR : rg shC b u n w) (hs0 : sp_Holding o0) (h : g_X2_timeOf F o0 x1 u = some z) : pm_Met gs ro M_X2_timeOf 1 0 0 [.ref (b + o0), .int x1] n w (pm_p n w (some (.int z))) := by
  unfold g_X2_timeOf at h
  refine pm_ofX in_X2_timeOf (Nat.le_of_ble_eq_true rfl) rfl (L := [some (.ref (b + o0)), some (.int x1)]) rfl ?_
  refine pm_aload_n dX2_timeOf_0 rfl ?_
  refine pm_iload_n dX2_timeOf_1 rfl ?_
  obtain ⟨r1, h2, h⟩ := ob_some h
  refine dx_cVp (j := o0) (M := M_X2_timeOf) (Mc := M_X2_has) (dc := 0) (As := [.int x1]) (st := []) hR dX2_timeOf_2 ml_X2_36 ⟨TX2, 5, rfl⟩ (sp_Holding_self hs0) (by decide) (Nat.le_of_ble_eq_true rfl) rfl (k_X2_has hR hs0 h2) ?_
  refine pm_if_eq (tgt := 17) dX2_timeOf_5 (by decide) (fun c3 => ?_) (fun c3 => ?_)
  · replace h := it_t c3 h
    refine pm_iconst (v := (-1)) dX2_timeOf_17 (by decide) ?_
    cases h
    exact pm_iret dX2_timeOf_18 rfl (Nat.le_refl _) (Nat.le_refl _) ⟨rfl, rfl, rfl⟩
  · replace h := it_f c3 h
    refine pm_aload_n dX2_timeOf_8 rfl ?_
    refine dx_gr (j := o0) (o := (o0 + 1)) hR dX2_timeOf_9 fl_X2_9 (sp_Holding_self hs0) rfl ?_
    refine pm_iload_n dX2_timeOf_12 rfl ?_
    obtain ⟨c4, h⟩ := ck_some h
    refine dx_al (j := (o0 + 1)) hR dX2_timeOf_13 (sp_Holding_times hs0) (vp_in_iff.mpr c4) ?_
    refine pm_goto (tgt := 18) dX2_timeOf_14 (by decide) ?_
    cases h
    exact pm_iret dX2_timeOf_18 rfl (Nat.le_refl _) (Nat.le_refl _) ⟨rfl, rfl, rfl⟩
def g_X2_goesAt (F : Nat) (o0 : Nat) (x1 : Int32) (u : rg_U) : Option Int32 :=
  ob (g_X2_has F o0 x1 u) (fun r1 => if r1 = 0 then (some (-1)) else (ck (inb x1 64) (if (rA u (o0 + 1) x1) = 0 then (some (-1)) else (if 1 ≤ (rF u o0 3) then (ck (inb x1 64) (ck (¬ (rF u o0 3) = 0) (some ((g_X2_goesWith ((rA u (o0 + 1) x1) / (rF u o0 3)) (rF u o0 4)) * (rF u o0 3))))) else (some (-1))))))
set_option maxHeartbeats 4000000 in
set_option maxRecDepth 100000 in
theorem k_X2_goesAt {gs : List String} {ro : pm_RO} {n : Nat} {w : Nat → va_E} {b : Nat} {u : rg_U} {F : Nat} {o0 : Nat} {x1 : Int32} {z : Int32} (hR : rg shC b u n w) (hs0 : sp_Holding o0) (h : g_X2_goesAt F o0 x1 u = some z) : pm_Met gs ro M_X2_goesAt 1 0 0 [.ref (b + o0), .int x1] n w (pm_p n w (some (.int z))) := by
  unfold g_X2_goesAt at h
  refine pm_ofX in_X2_goesAt (Nat.le_of_ble_eq_true rfl) rfl (L := [some (.ref (b + o0)), some (.int x1)]) rfl ?_
  refine pm_aload_n dX2_goesAt_0 rfl ?_
  refine pm_iload_n dX2_goesAt_1 rfl ?_
  obtain ⟨r1, h2, h⟩ := ob_some h
  refine dx_cVp (j := o0) (M := M_X2_goesAt) (Mc := M_X2_has) (dc := 0) (As := [.int x1]) (st := []) hR dX2_goesAt_2 ml_X2_36 ⟨TX2, 5, rfl⟩ (sp_Holding_self hs0) (by decide) (Nat.le_of_ble_eq_true rfl) rfl (k_X2_has hR hs0 h2) ?_
  refine pm_if_eq (tgt := 25) dX2_goesAt_5 (by decide) (fun c3 => ?_) (fun c3 => ?_)
  · replace h := it_t c3 h
    refine pm_iconst (v := (-1)) dX2_goesAt_25 (by decide) ?_
    cases h
    exact pm_iret dX2_goesAt_26 rfl (Nat.le_refl _) (Nat.le_refl _) ⟨rfl, rfl, rfl⟩
  · replace h := it_f c3 h
    refine pm_aload_n dX2_goesAt_8 rfl ?_
    refine dx_gr (j := o0) (o := (o0 + 1)) hR dX2_goesAt_9 fl_X2_9 (sp_Holding_self hs0) rfl ?_
    refine pm_iload_n dX2_goesAt_12 rfl ?_
    obtain ⟨c4, h⟩ := ck_some h
    refine dx_al (j := (o0 + 1)) hR dX2_goesAt_13 (sp_Holding_times hs0) (vp_in_iff.mpr c4) ?_
    refine pm_if_eq (tgt := 25) dX2_goesAt_14 (by decide) (fun c5 => ?_) (fun c5 => ?_)
    · replace h := it_t c5 h
      refine pm_iconst (v := (-1)) dX2_goesAt_25 (by decide) ?_
      cases h
      exact pm_iret dX2_goesAt_26 rfl (Nat.le_refl _) (Nat.le_refl _) ⟨rfl, rfl, rfl⟩
    · replace h := it_f c5 h
      refine pm_aload_n dX2_goesAt_17 rfl ?_
      refine dx_gi (j := o0) hR dX2_goesAt_18 fl_X2_22 (sp_Holding_self hs0) rfl ?_
      refine pm_iconst (v := 1) dX2_goesAt_21 (by decide) ?_
      refine pm_icmp_ge (tgt := 27) dX2_goesAt_22 (by decide) (fun c6 => ?_) (fun c6 => ?_)
      · replace h := it_t c6 h
        refine pm_aload_n dX2_goesAt_27 rfl ?_
        refine dx_gr (j := o0) (o := (o0 + 1)) hR dX2_goesAt_28 fl_X2_9 (sp_Holding_self hs0) rfl ?_
        refine pm_iload_n dX2_goesAt_31 rfl ?_
        obtain ⟨c7, h⟩ := ck_some h
        refine dx_al (j := (o0 + 1)) hR dX2_goesAt_32 (sp_Holding_times hs0) (vp_in_iff.mpr c7) ?_
        refine pm_aload_n dX2_goesAt_33 rfl ?_
        refine dx_gi (j := o0) hR dX2_goesAt_34 fl_X2_22 (sp_Holding_self hs0) rfl ?_
        obtain ⟨c8, h⟩ := ck_some h
        refine pm_idiv dX2_goesAt_37 c8 ?_
        refine pm_aload_n dX2_goesAt_38 rfl ?_
        refine dx_gi (j := o0) hR dX2_goesAt_39 fl_X2_25 (sp_Holding_self hs0) rfl ?_
        refine dx_cSp (M := M_X2_goesAt) (Mc := M_X2_goesWith) (dc := 0) (As := [.int ((rA u (o0 + 1) x1) / (rF u o0 3)), .int (rF u o0 4)]) (st := []) dX2_goesAt_42 ml_X2_32 (by decide) (Nat.le_of_ble_eq_true rfl) rfl (k_X2_goesWith rfl) ?_
        refine pm_aload_n dX2_goesAt_45 rfl ?_
        refine dx_gi (j := o0) hR dX2_goesAt_46 fl_X2_22 (sp_Holding_self hs0) rfl ?_
        refine pm_imul dX2_goesAt_49 ?_
        cases h
        exact pm_iret dX2_goesAt_50 rfl (Nat.le_refl _) (Nat.le_refl _) ⟨rfl, rfl, rfl⟩
      · replace h := it_f c6 h
        refine pm_iconst (v := (-1)) dX2_goesAt_25 (by decide) ?_
        cases h
        exact pm_iret dX2_goesAt_26 rfl (Nat.le_refl _) (Nat.le_refl _) ⟨rfl, rfl, rfl⟩
def g_X2_dropWhatGoesBy_j52 (F : Nat) (o0 : Nat) (l1 : Int32) (l2 : Int32) (l3 : Int32) (u : rg_U) : Option ((Int32 × Int32 × rg_U) ⊕ (Int32 × rg_U)) :=
  some (.inl (l2, (l3 + 1), u))
set_option maxHeartbeats 4000000 in
set_option maxRecDepth 100000 in
theorem k_X2_dropWhatGoesBy_j52 {gs : List String} {ro : pm_RO} {n : Nat} {w w1 : Nat → va_E} {b : Nat} {u : rg_U} {F : Nat} {o0 : Nat} {l1 : Int32} {l2 : Int32} {l3 : Int32} {z : ((Int32 × Int32 × rg_U) ⊕ (Int32 × rg_U))} {Q : Option Value → Nat → (Nat → va_E) → Prop} (hR : rg shC b u n w1) (hk : rg_k b shC.length w w1) (hs0 : sp_Holding o0) (h : g_X2_dropWhatGoesBy_j52 F o0 l1 l2 l3 u = some z) (hc : ∀ s', z = .inl s' → ∀ w1, rg shC b s'.2.2 n w1 → rg_k b shC.length w w1 → pm_X gs ro M_X2_dropWhatGoesBy 2 0 0 0 0 4 [some (.ref (b + o0)), some (.int l1), some (.int s'.1), some (.int s'.2.1), none] [] n w1 Q) (he0 : ∀ r', z = .inr r' → ∀ w1, rg shC b r'.2 n w1 → rg_k b shC.length w w1 → pm_X gs ro M_X2_dropWhatGoesBy 2 0 0 0 0 58 [some (.ref (b + o0)), none, some (.int r'.1), none, none] [] n w1 Q) : pm_X gs ro M_X2_dropWhatGoesBy 2 0 0 0 0 52 [some (.ref (b + o0)), some (.int l1), some (.int l2), some (.int l3), none] [] n w1 Q := by
  unfold g_X2_dropWhatGoesBy_j52 at h
  refine pm_iinc (v := (l3 + 1)) dX2_dropWhatGoesBy_52 rfl rfl (by decide) rfl rfl ?_
  refine pm_goto (tgt := 4) dX2_dropWhatGoesBy_55 (by decide) ?_
  refine pm_lw (L' := [some (.ref (b + o0)), some (.int l1), some (.int l2), some (.int (l3 + 1)), none]) ⟨Or.inr rfl, Or.inr rfl, Or.inr rfl, Or.inr rfl, Or.inl rfl, trivial⟩ ?_
  exact hc _ (Option.some.inj h).symm _ hR hk
def g_X2_dropWhatGoesBy_j37 (F : Nat) (o0 : Nat) (l1 : Int32) (l2 : Int32) (l3 : Int32) (u : rg_U) : Option ((Int32 × Int32 × rg_U) ⊕ (Int32 × rg_U)) :=
  ck (inb l3 64) (ck (inb l2 64) (lt1 (sA u (o0 + 1) l2 (rA u (o0 + 1) l3)) (fun u8 => g_X2_dropWhatGoesBy_j52 F o0 l1 (l2 + 1) l3 u8)))
set_option maxHeartbeats 4000000 in
set_option maxRecDepth 100000 in
theorem k_X2_dropWhatGoesBy_j37 {gs : List String} {ro : pm_RO} {n : Nat} {w w1 : Nat → va_E} {b : Nat} {u : rg_U} {F : Nat} {o0 : Nat} {l1 : Int32} {l2 : Int32} {l3 : Int32} {z : ((Int32 × Int32 × rg_U) ⊕ (Int32 × rg_U))} {Q : Option Value → Nat → (Nat → va_E) → Prop} (hR : rg shC b u n w1) (hk : rg_k b shC.length w w1) (hs0 : sp_Holding o0) (h : g_X2_dropWhatGoesBy_j37 F o0 l1 l2 l3 u = some z) (hc : ∀ s', z = .inl s' → ∀ w1, rg shC b s'.2.2 n w1 → rg_k b shC.length w w1 → pm_X gs ro M_X2_dropWhatGoesBy 2 0 0 0 0 4 [some (.ref (b + o0)), some (.int l1), some (.int s'.1), some (.int s'.2.1), none] [] n w1 Q) (he0 : ∀ r', z = .inr r' → ∀ w1, rg shC b r'.2 n w1 → rg_k b shC.length w w1 → pm_X gs ro M_X2_dropWhatGoesBy 2 0 0 0 0 58 [some (.ref (b + o0)), none, some (.int r'.1), none, none] [] n w1 Q) : pm_X gs ro M_X2_dropWhatGoesBy 2 0 0 0 0 37 [some (.ref (b + o0)), some (.int l1), some (.int l2), some (.int l3), none] [] n w1 Q := by
  unfold g_X2_dropWhatGoesBy_j37 at h
  refine pm_aload_n dX2_dropWhatGoesBy_37 rfl ?_
  refine dx_gr (j := o0) (o := (o0 + 1)) hR dX2_dropWhatGoesBy_38 fl_X2_9 (sp_Holding_self hs0) rfl ?_
  refine pm_iload_n dX2_dropWhatGoesBy_41 rfl ?_
  refine pm_aload_n dX2_dropWhatGoesBy_42 rfl ?_
  refine dx_gr (j := o0) (o := (o0 + 1)) hR dX2_dropWhatGoesBy_43 fl_X2_9 (sp_Holding_self hs0) rfl ?_
  refine pm_iload_n dX2_dropWhatGoesBy_46 rfl ?_
  obtain ⟨c6, h⟩ := ck_some h
  refine dx_al (j := (o0 + 1)) hR dX2_dropWhatGoesBy_47 (sp_Holding_times hs0) (vp_in_iff.mpr c6) ?_
  obtain ⟨c7, h⟩ := ck_some h
  obtain ⟨u8, hu9, h⟩ := lt1_ex h
  refine dx_as (j := (o0 + 1)) hR hk dX2_dropWhatGoesBy_48 (sp_Holding_times hs0) (vp_in_iff.mpr c7) hu9 (fun w10 hR11 hk12 => ?_)
  refine pm_iinc (v := (l2 + 1)) dX2_dropWhatGoesBy_49 rfl rfl (by decide) rfl rfl ?_
  exact k_X2_dropWhatGoesBy_j52 hR11 hk12 hs0 h hc he0
def g_X2_dropWhatGoesBy_l4 (F : Nat) (o0 : Nat) (l1 : Int32) (l2 : Int32) (l3 : Int32) (u : rg_U) : Option ((Int32 × Int32 × rg_U) ⊕ (Int32 × rg_U)) :=
  if (rF u o0 1) ≤ l3 then (some (.inr (l2, u))) else (if 64 ≤ l3 then (some (.inr (l2, u))) else (ob (g_X2_goesAt F o0 l3 u) (fun r3 => if r3 = (-1) then (g_X2_dropWhatGoesBy_j37 F o0 l1 l2 l3 u) else (if r3 ≤ l1 then (g_X2_dropWhatGoesBy_j52 F o0 l1 l2 l3 u) else (g_X2_dropWhatGoesBy_j37 F o0 l1 l2 l3 u)))))
set_option maxHeartbeats 4000000 in
set_option maxRecDepth 100000 in
theorem k_X2_dropWhatGoesBy_l4 {gs : List String} {ro : pm_RO} {n : Nat} {w w1 : Nat → va_E} {b : Nat} {u : rg_U} {F : Nat} {o0 : Nat} {l1 : Int32} {l2 : Int32} {l3 : Int32} {z : (Int32 × Int32 × rg_U) ⊕ (Int32 × rg_U)} {Q : Option Value → Nat → (Nat → va_E) → Prop} (hR : rg shC b u n w1) (hk : rg_k b shC.length w w1) (hs0 : sp_Holding o0) (h : g_X2_dropWhatGoesBy_l4 F o0 l1 l2 l3 u = some z) (hc : ∀ s', z = .inl s' → ∀ w1, rg shC b s'.2.2 n w1 → rg_k b shC.length w w1 → pm_X gs ro M_X2_dropWhatGoesBy 2 0 0 0 0 4 [some (.ref (b + o0)), some (.int l1), some (.int s'.1), some (.int s'.2.1), none] [] n w1 Q) (he0 : ∀ r', z = .inr r' → ∀ w1, rg shC b r'.2 n w1 → rg_k b shC.length w w1 → pm_X gs ro M_X2_dropWhatGoesBy 2 0 0 0 0 58 [some (.ref (b + o0)), none, some (.int r'.1), none, none] [] n w1 Q) : pm_X gs ro M_X2_dropWhatGoesBy 2 0 0 0 0 4 [some (.ref (b + o0)), some (.int l1), some (.int l2), some (.int l3), none] [] n w1 Q := by
  unfold g_X2_dropWhatGoesBy_l4 at h
  refine pm_iload_n dX2_dropWhatGoesBy_4 rfl ?_
  refine pm_aload_n dX2_dropWhatGoesBy_5 rfl ?_
  refine dx_gi (j := o0) hR dX2_dropWhatGoesBy_6 fl_X2_15 (sp_Holding_self hs0) rfl ?_
  refine pm_icmp_ge (tgt := 58) dX2_dropWhatGoesBy_9 (by decide) (fun c1 => ?_) (fun c1 => ?_)
  · replace h := it_t c1 h
    refine pm_lw (L' := [some (.ref (b + o0)), none, some (.int l2), none, none]) ⟨Or.inr rfl, Or.inl rfl, Or.inr rfl, Or.inl rfl, Or.inl rfl, trivial⟩ ?_
    exact he0 _ (Option.some.inj h).symm _ hR hk
  · replace h := it_f c1 h
    refine pm_iload_n dX2_dropWhatGoesBy_12 rfl ?_
    refine pm_bipush (v := 64) dX2_dropWhatGoesBy_13 (by decide) ?_
    refine pm_icmp_ge (tgt := 58) dX2_dropWhatGoesBy_15 (by decide) (fun c2 => ?_) (fun c2 => ?_)
    · replace h := it_t c2 h
      refine pm_lw (L' := [some (.ref (b + o0)), none, some (.int l2), none, none]) ⟨Or.inr rfl, Or.inl rfl, Or.inr rfl, Or.inl rfl, Or.inl rfl, trivial⟩ ?_
      exact he0 _ (Option.some.inj h).symm _ hR hk
    · replace h := it_f c2 h
      refine pm_aload_n dX2_dropWhatGoesBy_18 rfl ?_
      refine pm_iload_n dX2_dropWhatGoesBy_19 rfl ?_
      obtain ⟨r3, h4, h⟩ := ob_some h
      refine dx_cVp (j := o0) (M := M_X2_dropWhatGoesBy) (Mc := M_X2_goesAt) (dc := 1) (As := [.int l3]) (st := []) hR dX2_dropWhatGoesBy_20 ml_X2_49 ⟨TX2, 5, rfl⟩ (sp_Holding_self hs0) (by decide) (Nat.le_of_ble_eq_true rfl) rfl (k_X2_goesAt hR hs0 h4) ?_
      refine pm_istore dX2_dropWhatGoesBy_23 (by decide) rfl rfl ?_
      refine pm_iload dX2_dropWhatGoesBy_25 rfl ?_
      refine pm_iconst (v := (-1)) dX2_dropWhatGoesBy_27 (by decide) ?_
      refine pm_icmp_eq (tgt := 37) dX2_dropWhatGoesBy_28 (by decide) (fun c5 => ?_) (fun c5 => ?_)
      · replace h := it_t c5 h
        refine pm_lw (L' := [some (.ref (b + o0)), some (.int l1), some (.int l2), some (.int l3), none]) ⟨Or.inr rfl, Or.inr rfl, Or.inr rfl, Or.inr rfl, Or.inl rfl, trivial⟩ ?_
        exact k_X2_dropWhatGoesBy_j37 hR hk hs0 h hc he0
      · replace h := it_f c5 h
        refine pm_iload dX2_dropWhatGoesBy_31 rfl ?_
        refine pm_iload_n dX2_dropWhatGoesBy_33 rfl ?_
        refine pm_icmp_le (tgt := 52) dX2_dropWhatGoesBy_34 (by decide) (fun c13 => ?_) (fun c13 => ?_)
        · replace h := it_t c13 h
          refine pm_lw (L' := [some (.ref (b + o0)), some (.int l1), some (.int l2), some (.int l3), none]) ⟨Or.inr rfl, Or.inr rfl, Or.inr rfl, Or.inr rfl, Or.inl rfl, trivial⟩ ?_
          exact k_X2_dropWhatGoesBy_j52 hR hk hs0 h hc he0
        · replace h := it_f c13 h
          refine pm_lw (L' := [some (.ref (b + o0)), some (.int l1), some (.int l2), some (.int l3), none]) ⟨Or.inr rfl, Or.inr rfl, Or.inr rfl, Or.inr rfl, Or.inl rfl, trivial⟩ ?_
          exact k_X2_dropWhatGoesBy_j37 hR hk hs0 h hc he0
def g_X2_dropWhatGoesBy (F : Nat) (o0 : Nat) (x1 : Int32) (u : rg_U) : Option rg_U :=
  ob (lp (fun (s : (Int32 × Int32 × rg_U)) => g_X2_dropWhatGoesBy_l4 F o0 x1 s.1 s.2.1 s.2.2) F ((0 : Int32), (0 : Int32), u)) (fun r14 => lt1 (sF r14.2 o0 1 r14.1) (fun u19 => some u19))
set_option maxHeartbeats 4000000 in
set_option maxRecDepth 100000 in
theorem k_X2_dropWhatGoesBy {gs : List String} {ro : pm_RO} {n : Nat} {w : Nat → va_E} {b : Nat} {u : rg_U} {F : Nat} {o0 : Nat} {x1 : Int32} {z : rg_U} (hR : rg shC b u n w) (hs0 : sp_Holding o0) (h : g_X2_dropWhatGoesBy F o0 x1 u = some z) : pm_Met gs ro M_X2_dropWhatGoesBy 2 0 0 [.ref (b + o0), .int x1] n w (rg_post shC b n w none z) := by
  unfold g_X2_dropWhatGoesBy at h
  refine pm_ofX in_X2_dropWhatGoesBy (Nat.le_of_ble_eq_true rfl) rfl (L := [some (.ref (b + o0)), some (.int x1), none, none, none]) rfl ?_
  refine pm_iconst (v := 0) dX2_dropWhatGoesBy_0 (by decide) ?_
  refine pm_istore_n dX2_dropWhatGoesBy_1 (by decide) rfl rfl ?_
  refine pm_iconst (v := 0) dX2_dropWhatGoesBy_2 (by decide) ?_
  refine pm_istore_n dX2_dropWhatGoesBy_3 (by decide) rfl rfl ?_
  obtain ⟨r14, h15, h⟩ := ob_some h
  refine lp_sound (P := fun (s : (Int32 × Int32 × rg_U)) => ∀ w1, rg shC b s.2.2 n w1 → rg_k b shC.length w w1 → pm_X gs ro M_X2_dropWhatGoesBy 2 0 0 0 0 4 [some (.ref (b + o0)), some (.int x1), some (.int s.1), some (.int s.2.1), none] [] n w1 (rg_post shC b n w none z)) (E := (fun (r : (Int32 × rg_U)) => ∀ w1, rg shC b r.2 n w1 → rg_k b shC.length w w1 → pm_X gs ro M_X2_dropWhatGoesBy 2 0 0 0 0 58 [some (.ref (b + o0)), none, some (.int r.1), none, none] [] n w1 (rg_post shC b n w none z))) (fun s x hx hc he w1 hR1 hk1 => k_X2_dropWhatGoesBy_l4 hR1 hk1 hs0 hx hc (fun r q => he r q)) F _ r14 h15 ?_ _ hR rg_k0
  intro w16 hR17 hk18
  refine pm_aload_n dX2_dropWhatGoesBy_58 rfl ?_
  refine pm_iload_n dX2_dropWhatGoesBy_59 rfl ?_
  obtain ⟨u19, hu20, h⟩ := lt1_ex h
  refine dx_pi (j := o0) hR17 hk18 dX2_dropWhatGoesBy_60 fl_X2_15 (sp_Holding_self hs0) rfl hu20 (fun w21 hR22 hk23 => ?_)
  cases h
  exact pm_vret dX2_dropWhatGoesBy_63 rfl (Nat.le_refl _) (Nat.le_refl _) ⟨rfl, rfl, hR22, hk23⟩
def g_X2_timeComes_j59 (F : Nat) (o0 : Nat) (u : rg_U) : Option rg_U :=
  lt1 (sF u o0 2 (imax (rF u o0 2) (rF u o0 1))) (fun u10 => some u10)
set_option maxHeartbeats 4000000 in
set_option maxRecDepth 100000 in
theorem k_X2_timeComes_j59 {gs : List String} {ro : pm_RO} {n : Nat} {w w1 : Nat → va_E} {b : Nat} {u : rg_U} {F : Nat} {o0 : Nat} {z : rg_U} (hR : rg shC b u n w1) (hk : rg_k b shC.length w w1) (hs0 : sp_Holding o0) (h : g_X2_timeComes_j59 F o0 u = some z) : pm_X gs ro M_X2_timeComes 3 0 0 0 0 59 [some (.ref (b + o0)), none] [] n w1 (rg_post shC b n w none z) := by
  unfold g_X2_timeComes_j59 at h
  refine pm_aload_n dX2_timeComes_59 rfl ?_
  refine pm_aload_n dX2_timeComes_60 rfl ?_
  refine dx_gi (j := o0) hR dX2_timeComes_61 fl_X2_19 (sp_Holding_self hs0) rfl ?_
  refine pm_aload_n dX2_timeComes_64 rfl ?_
  refine dx_gi (j := o0) hR dX2_timeComes_65 fl_X2_15 (sp_Holding_self hs0) rfl ?_
  refine pm_mmax (M := M_X2_timeComes) dX2_timeComes_68 mm_X2_44 mm_max_2 mm_init mm_max_4 (by decide) (Nat.le_refl _) (Nat.le_refl _) (Nat.le_of_ble_eq_true rfl) ?_
  obtain ⟨u10, hu11, h⟩ := lt1_ex h
  refine dx_pi (j := o0) hR hk dX2_timeComes_71 fl_X2_19 (sp_Holding_self hs0) rfl hu11 (fun w12 hR13 hk14 => ?_)
  cases h
  exact pm_vret dX2_timeComes_74 rfl (Nat.le_refl _) (Nat.le_refl _) ⟨rfl, rfl, hR13, hk14⟩
def g_X2_timeComes (F : Nat) (o0 : Nat) (x1 : Int32) (u : rg_U) : Option rg_U :=
  if (rF u o0 3) < 1 then (some u) else (ck (¬ (rF u o0 3) = 0) (if (dx_rem x1 (rF u o0 3)) = 0 then (ob (g_X2_dropWhatGoesBy F o0 x1 u) (fun r4 => if (rF r4 o0 1) < 0 then (g_X2_timeComes_j59 F o0 r4) else (if 64 ≤ (rF r4 o0 1) then (g_X2_timeComes_j59 F o0 r4) else (ck (inb (rF r4 o0 1) 64) (lt1 (sA r4 (o0 + 1) (rF r4 o0 1) x1) (fun u17 => lt1 (sF u17 o0 1 ((rF u17 o0 1) + 1)) (fun u22 => g_X2_timeComes_j59 F o0 u22))))))) else (some u)))
set_option maxHeartbeats 4000000 in
set_option maxRecDepth 100000 in
theorem k_X2_timeComes {gs : List String} {ro : pm_RO} {n : Nat} {w : Nat → va_E} {b : Nat} {u : rg_U} {F : Nat} {o0 : Nat} {x1 : Int32} {z : rg_U} (hR : rg shC b u n w) (hs0 : sp_Holding o0) (h : g_X2_timeComes F o0 x1 u = some z) : pm_Met gs ro M_X2_timeComes 3 0 0 [.ref (b + o0), .int x1] n w (rg_post shC b n w none z) := by
  unfold g_X2_timeComes at h
  refine pm_ofX in_X2_timeComes (Nat.le_of_ble_eq_true rfl) rfl (L := [some (.ref (b + o0)), some (.int x1)]) rfl ?_
  refine pm_aload_n dX2_timeComes_0 rfl ?_
  refine dx_gi (j := o0) hR dX2_timeComes_1 fl_X2_22 (sp_Holding_self hs0) rfl ?_
  refine pm_iconst (v := 1) dX2_timeComes_4 (by decide) ?_
  refine pm_icmp_lt (tgt := 17) dX2_timeComes_5 (by decide) (fun c1 => ?_) (fun c1 => ?_)
  · replace h := it_t c1 h
    cases h
    exact pm_vret dX2_timeComes_17 rfl (Nat.le_refl _) (Nat.le_refl _) ⟨rfl, rfl, hR, rg_k0⟩
  · replace h := it_f c1 h
    refine pm_iload_n dX2_timeComes_8 rfl ?_
    refine pm_aload_n dX2_timeComes_9 rfl ?_
    refine dx_gi (j := o0) hR dX2_timeComes_10 fl_X2_22 (sp_Holding_self hs0) rfl ?_
    obtain ⟨c2, h⟩ := ck_some h
    refine pm_irem dX2_timeComes_13 c2 ?_
    refine pm_if_eq (tgt := 18) dX2_timeComes_14 (by decide) (fun c3 => ?_) (fun c3 => ?_)
    · replace h := it_t c3 h
      refine pm_aload_n dX2_timeComes_18 rfl ?_
      refine pm_iload_n dX2_timeComes_19 rfl ?_
      obtain ⟨r4, h5, h⟩ := ob_some h
      refine dx_cVv (j := o0) (M := M_X2_timeComes) (Mc := M_X2_dropWhatGoesBy) (dc := 2) (As := [.int x1]) (st := []) hR rg_k0 dX2_timeComes_20 ml_X2_40 ⟨TX2, 5, rfl⟩ (sp_Holding_self hs0) (by decide) (Nat.le_of_ble_eq_true rfl) rfl (k_X2_dropWhatGoesBy hR hs0 h5) (fun w6 hR7 hk8 => ?_)
      refine pm_aload_n dX2_timeComes_23 rfl ?_
      refine dx_gi (j := o0) hR7 dX2_timeComes_24 fl_X2_15 (sp_Holding_self hs0) rfl ?_
      refine pm_if_lt (tgt := 59) dX2_timeComes_27 (by decide) (fun c9 => ?_) (fun c9 => ?_)
      · replace h := it_t c9 h
        refine pm_lw (L' := [some (.ref (b + o0)), none]) ⟨Or.inr rfl, Or.inl rfl, trivial⟩ ?_
        exact k_X2_timeComes_j59 hR7 hk8 hs0 h
      · replace h := it_f c9 h
        refine pm_aload_n dX2_timeComes_30 rfl ?_
        refine dx_gi (j := o0) hR7 dX2_timeComes_31 fl_X2_15 (sp_Holding_self hs0) rfl ?_
        refine pm_bipush (v := 64) dX2_timeComes_34 (by decide) ?_
        refine pm_icmp_ge (tgt := 59) dX2_timeComes_36 (by decide) (fun c15 => ?_) (fun c15 => ?_)
        · replace h := it_t c15 h
          refine pm_lw (L' := [some (.ref (b + o0)), none]) ⟨Or.inr rfl, Or.inl rfl, trivial⟩ ?_
          exact k_X2_timeComes_j59 hR7 hk8 hs0 h
        · replace h := it_f c15 h
          refine pm_aload_n dX2_timeComes_39 rfl ?_
          refine dx_gr (j := o0) (o := (o0 + 1)) hR7 dX2_timeComes_40 fl_X2_9 (sp_Holding_self hs0) rfl ?_
          refine pm_aload_n dX2_timeComes_43 rfl ?_
          refine dx_gi (j := o0) hR7 dX2_timeComes_44 fl_X2_15 (sp_Holding_self hs0) rfl ?_
          refine pm_iload_n dX2_timeComes_47 rfl ?_
          obtain ⟨c16, h⟩ := ck_some h
          obtain ⟨u17, hu18, h⟩ := lt1_ex h
          refine dx_as (j := (o0 + 1)) hR7 hk8 dX2_timeComes_48 (sp_Holding_times hs0) (vp_in_iff.mpr c16) hu18 (fun w19 hR20 hk21 => ?_)
          refine pm_aload_n dX2_timeComes_49 rfl ?_
          refine pm_dup dX2_timeComes_50 rfl ?_
          refine dx_gi (j := o0) hR20 dX2_timeComes_51 fl_X2_15 (sp_Holding_self hs0) rfl ?_
          refine pm_iconst (v := 1) dX2_timeComes_54 (by decide) ?_
          refine pm_iadd dX2_timeComes_55 ?_
          obtain ⟨u22, hu23, h⟩ := lt1_ex h
          refine dx_pi (j := o0) hR20 hk21 dX2_timeComes_56 fl_X2_15 (sp_Holding_self hs0) rfl hu23 (fun w24 hR25 hk26 => ?_)
          refine pm_lw (L' := [some (.ref (b + o0)), none]) ⟨Or.inr rfl, Or.inl rfl, trivial⟩ ?_
          exact k_X2_timeComes_j59 hR25 hk26 hs0 h
    · replace h := it_f c3 h
      cases h
      exact pm_vret dX2_timeComes_17 rfl (Nat.le_refl _) (Nat.le_refl _) ⟨rfl, rfl, hR, rg_k0⟩
def g_X2_dropAbove_l7 (F : Nat) (o0 : Nat) (l1 : Int32) (l2 : Int32) (u : rg_U) : Option ((Int32 × rg_U) ⊕ rg_U) :=
  if l2 < 0 then (some (.inr u)) else (ob (g_X2_timeOf F o0 l2 u) (fun r2 => if r2 ≤ l1 then (some (.inr u)) else (lt1 (sF u o0 1 l2) (fun u5 => some (.inl ((l2 + (-1)), u5))))))
set_option maxHeartbeats 4000000 in
set_option maxRecDepth 100000 in
theorem k_X2_dropAbove_l7 {gs : List String} {ro : pm_RO} {n : Nat} {w w1 : Nat → va_E} {b : Nat} {u : rg_U} {F : Nat} {o0 : Nat} {l1 : Int32} {l2 : Int32} {z : (Int32 × rg_U) ⊕ rg_U} {Q : Option Value → Nat → (Nat → va_E) → Prop} (hR : rg shC b u n w1) (hk : rg_k b shC.length w w1) (hs0 : sp_Holding o0) (h : g_X2_dropAbove_l7 F o0 l1 l2 u = some z) (hc : ∀ s', z = .inl s' → ∀ w1, rg shC b s'.2 n w1 → rg_k b shC.length w w1 → pm_X gs ro M_X2_dropAbove 2 0 0 0 0 7 [some (.ref (b + o0)), some (.int l1), some (.int s'.1)] [] n w1 Q) (he0 : ∀ r', z = .inr r' → ∀ w1, rg shC b r' n w1 → rg_k b shC.length w w1 → pm_X gs ro M_X2_dropAbove 2 0 0 0 0 31 [none, none, none] [] n w1 Q) : pm_X gs ro M_X2_dropAbove 2 0 0 0 0 7 [some (.ref (b + o0)), some (.int l1), some (.int l2)] [] n w1 Q := by
  unfold g_X2_dropAbove_l7 at h
  refine pm_iload_n dX2_dropAbove_7 rfl ?_
  refine pm_if_lt (tgt := 31) dX2_dropAbove_8 (by decide) (fun c1 => ?_) (fun c1 => ?_)
  · replace h := it_t c1 h
    refine pm_lw (L' := [none, none, none]) ⟨Or.inl rfl, Or.inl rfl, Or.inl rfl, trivial⟩ ?_
    exact he0 _ (Option.some.inj h).symm _ hR hk
  · replace h := it_f c1 h
    refine pm_aload_n dX2_dropAbove_11 rfl ?_
    refine pm_iload_n dX2_dropAbove_12 rfl ?_
    obtain ⟨r2, h3, h⟩ := ob_some h
    refine dx_cVp (j := o0) (M := M_X2_dropAbove) (Mc := M_X2_timeOf) (dc := 1) (As := [.int l2]) (st := []) hR dX2_dropAbove_13 ml_X2_53 ⟨TX2, 5, rfl⟩ (sp_Holding_self hs0) (by decide) (Nat.le_of_ble_eq_true rfl) rfl (k_X2_timeOf hR hs0 h3) ?_
    refine pm_iload_n dX2_dropAbove_16 rfl ?_
    refine pm_icmp_le (tgt := 31) dX2_dropAbove_17 (by decide) (fun c4 => ?_) (fun c4 => ?_)
    · replace h := it_t c4 h
      refine pm_lw (L' := [none, none, none]) ⟨Or.inl rfl, Or.inl rfl, Or.inl rfl, trivial⟩ ?_
      exact he0 _ (Option.some.inj h).symm _ hR hk
    · replace h := it_f c4 h
      refine pm_aload_n dX2_dropAbove_20 rfl ?_
      refine pm_iload_n dX2_dropAbove_21 rfl ?_
      obtain ⟨u5, hu6, h⟩ := lt1_ex h
      refine dx_pi (j := o0) hR hk dX2_dropAbove_22 fl_X2_15 (sp_Holding_self hs0) rfl hu6 (fun w7 hR8 hk9 => ?_)
      refine pm_iinc (v := (l2 + (-1))) dX2_dropAbove_25 rfl rfl (by decide) rfl rfl ?_
      refine pm_goto (tgt := 7) dX2_dropAbove_28 (by decide) ?_
      refine pm_lw (L' := [some (.ref (b + o0)), some (.int l1), some (.int (l2 + (-1)))]) ⟨Or.inr rfl, Or.inr rfl, Or.inr rfl, trivial⟩ ?_
      exact hc _ (Option.some.inj h).symm _ hR8 hk9
def g_X2_dropAbove (F : Nat) (o0 : Nat) (x1 : Int32) (u : rg_U) : Option rg_U :=
  ob (lp (fun (s : (Int32 × rg_U)) => g_X2_dropAbove_l7 F o0 x1 s.1 s.2) F ((((rF u o0 1) - 1) : Int32), u)) (fun r10 => some r10)
set_option maxHeartbeats 4000000 in
set_option maxRecDepth 100000 in
theorem k_X2_dropAbove {gs : List String} {ro : pm_RO} {n : Nat} {w : Nat → va_E} {b : Nat} {u : rg_U} {F : Nat} {o0 : Nat} {x1 : Int32} {z : rg_U} (hR : rg shC b u n w) (hs0 : sp_Holding o0) (h : g_X2_dropAbove F o0 x1 u = some z) : pm_Met gs ro M_X2_dropAbove 2 0 0 [.ref (b + o0), .int x1] n w (rg_post shC b n w none z) := by
  unfold g_X2_dropAbove at h
  refine pm_ofX in_X2_dropAbove (Nat.le_of_ble_eq_true rfl) rfl (L := [some (.ref (b + o0)), some (.int x1), none]) rfl ?_
  refine pm_aload_n dX2_dropAbove_0 rfl ?_
  refine dx_gi (j := o0) hR dX2_dropAbove_1 fl_X2_15 (sp_Holding_self hs0) rfl ?_
  refine pm_iconst (v := 1) dX2_dropAbove_4 (by decide) ?_
  refine pm_isub dX2_dropAbove_5 ?_
  refine pm_istore_n dX2_dropAbove_6 (by decide) rfl rfl ?_
  obtain ⟨r10, h11, h⟩ := ob_some h
  refine lp_sound (P := fun (s : (Int32 × rg_U)) => ∀ w1, rg shC b s.2 n w1 → rg_k b shC.length w w1 → pm_X gs ro M_X2_dropAbove 2 0 0 0 0 7 [some (.ref (b + o0)), some (.int x1), some (.int s.1)] [] n w1 (rg_post shC b n w none z)) (E := (fun (r : rg_U) => ∀ w1, rg shC b r n w1 → rg_k b shC.length w w1 → pm_X gs ro M_X2_dropAbove 2 0 0 0 0 31 [none, none, none] [] n w1 (rg_post shC b n w none z))) (fun s x hx hc he w1 hR1 hk1 => k_X2_dropAbove_l7 hR1 hk1 hs0 hx hc (fun r q => he r q)) F _ r10 h11 ?_ _ hR rg_k0
  intro w12 hR13 hk14
  cases h
  exact pm_vret dX2_dropAbove_31 rfl (Nat.le_refl _) (Nat.le_refl _) ⟨rfl, rfl, hR13, hk14⟩
def g_X2_latestBy_l4 (F : Nat) (o0 : Nat) (l1 : Int32) (u : rg_U) (l2 : Int32) (l3 : Int32) : Option ((Int32 × Int32) ⊕ Int32) :=
  if (rF u o0 1) ≤ l3 then (some (.inr l2)) else (ob (g_X2_timeOf F o0 l3 u) (fun r2 => if l1 < r2 then (some (.inr l2)) else (ob (g_X2_timeOf F o0 l3 u) (fun r5 => some (.inl (r5, (l3 + 1)))))))
set_option maxHeartbeats 4000000 in
set_option maxRecDepth 100000 in
theorem k_X2_latestBy_l4 {gs : List String} {ro : pm_RO} {n : Nat} {w : Nat → va_E} {b : Nat} {u : rg_U} {F : Nat} {o0 : Nat} {l1 : Int32} {l2 : Int32} {l3 : Int32} {z : (Int32 × Int32) ⊕ Int32} {Q : Option Value → Nat → (Nat → va_E) → Prop} (hR : rg shC b u n w) (hs0 : sp_Holding o0) (h : g_X2_latestBy_l4 F o0 l1 u l2 l3 = some z) (hc : ∀ s', z = .inl s' → pm_X gs ro M_X2_latestBy 2 0 0 0 0 4 [some (.ref (b + o0)), some (.int l1), some (.int s'.1), some (.int s'.2)] [] n w Q) (he0 : ∀ r', z = .inr r' → pm_X gs ro M_X2_latestBy 2 0 0 0 0 33 [none, none, some (.int r'), none] [] n w Q) : pm_X gs ro M_X2_latestBy 2 0 0 0 0 4 [some (.ref (b + o0)), some (.int l1), some (.int l2), some (.int l3)] [] n w Q := by
  unfold g_X2_latestBy_l4 at h
  refine pm_iload_n dX2_latestBy_4 rfl ?_
  refine pm_aload_n dX2_latestBy_5 rfl ?_
  refine dx_gi (j := o0) hR dX2_latestBy_6 fl_X2_15 (sp_Holding_self hs0) rfl ?_
  refine pm_icmp_ge (tgt := 33) dX2_latestBy_9 (by decide) (fun c1 => ?_) (fun c1 => ?_)
  · replace h := it_t c1 h
    refine pm_lw (L' := [none, none, some (.int l2), none]) ⟨Or.inl rfl, Or.inl rfl, Or.inr rfl, Or.inl rfl, trivial⟩ ?_
    exact he0 _ (Option.some.inj h).symm
  · replace h := it_f c1 h
    refine pm_aload_n dX2_latestBy_12 rfl ?_
    refine pm_iload_n dX2_latestBy_13 rfl ?_
    obtain ⟨r2, h3, h⟩ := ob_some h
    refine dx_cVp (j := o0) (M := M_X2_latestBy) (Mc := M_X2_timeOf) (dc := 1) (As := [.int l3]) (st := []) hR dX2_latestBy_14 ml_X2_53 ⟨TX2, 5, rfl⟩ (sp_Holding_self hs0) (by decide) (Nat.le_of_ble_eq_true rfl) rfl (k_X2_timeOf hR hs0 h3) ?_
    refine pm_iload_n dX2_latestBy_17 rfl ?_
    refine pm_icmp_gt (tgt := 33) dX2_latestBy_18 (by decide) (fun c4 => ?_) (fun c4 => ?_)
    · replace h := it_t c4 h
      refine pm_lw (L' := [none, none, some (.int l2), none]) ⟨Or.inl rfl, Or.inl rfl, Or.inr rfl, Or.inl rfl, trivial⟩ ?_
      exact he0 _ (Option.some.inj h).symm
    · replace h := it_f c4 h
      refine pm_aload_n dX2_latestBy_21 rfl ?_
      refine pm_iload_n dX2_latestBy_22 rfl ?_
      obtain ⟨r5, h6, h⟩ := ob_some h
      refine dx_cVp (j := o0) (M := M_X2_latestBy) (Mc := M_X2_timeOf) (dc := 1) (As := [.int l3]) (st := []) hR dX2_latestBy_23 ml_X2_53 ⟨TX2, 5, rfl⟩ (sp_Holding_self hs0) (by decide) (Nat.le_of_ble_eq_true rfl) rfl (k_X2_timeOf hR hs0 h6) ?_
      refine pm_istore_n dX2_latestBy_26 (by decide) rfl rfl ?_
      refine pm_iinc (v := (l3 + 1)) dX2_latestBy_27 rfl rfl (by decide) rfl rfl ?_
      refine pm_goto (tgt := 4) dX2_latestBy_30 (by decide) ?_
      refine pm_lw (L' := [some (.ref (b + o0)), some (.int l1), some (.int r5), some (.int (l3 + 1))]) ⟨Or.inr rfl, Or.inr rfl, Or.inr rfl, Or.inr rfl, trivial⟩ ?_
      exact hc _ (Option.some.inj h).symm
def g_X2_latestBy (F : Nat) (o0 : Nat) (x1 : Int32) (u : rg_U) : Option Int32 :=
  ob (lp (fun (s : (Int32 × Int32)) => g_X2_latestBy_l4 F o0 x1 u s.1 s.2) F ((0 : Int32), (0 : Int32))) (fun r7 => some r7)
set_option maxHeartbeats 4000000 in
set_option maxRecDepth 100000 in
theorem k_X2_latestBy {gs : List String} {ro : pm_RO} {n : Nat} {w : Nat → va_E} {b : Nat} {u : rg_U} {F : Nat} {o0 : Nat} {x1 : Int32} {z : Int32} (hR : rg shC b u n w) (hs0 : sp_Holding o0) (h : g_X2_latestBy F o0 x1 u = some z) : pm_Met gs ro M_X2_latestBy 2 0 0 [.ref (b + o0), .int x1] n w (pm_p n w (some (.int z))) := by
  unfold g_X2_latestBy at h
  refine pm_ofX in_X2_latestBy (Nat.le_of_ble_eq_true rfl) rfl (L := [some (.ref (b + o0)), some (.int x1), none, none]) rfl ?_
  refine pm_iconst (v := 0) dX2_latestBy_0 (by decide) ?_
  refine pm_istore_n dX2_latestBy_1 (by decide) rfl rfl ?_
  refine pm_iconst (v := 0) dX2_latestBy_2 (by decide) ?_
  refine pm_istore_n dX2_latestBy_3 (by decide) rfl rfl ?_
  obtain ⟨r7, h8, h⟩ := ob_some h
  refine lp_sound (P := fun (s : (Int32 × Int32)) => pm_X gs ro M_X2_latestBy 2 0 0 0 0 4 [some (.ref (b + o0)), some (.int x1), some (.int s.1), some (.int s.2)] [] n w (pm_p n w (some (.int z)))) (E := (fun (r : Int32) => pm_X gs ro M_X2_latestBy 2 0 0 0 0 33 [none, none, some (.int r), none] [] n w (pm_p n w (some (.int z))))) (fun s x hx hc he => k_X2_latestBy_l4 hR hs0 hx hc (fun r q => he r q)) F _ r7 h8 ?_
  refine pm_iload_n dX2_latestBy_33 rfl ?_
  cases h
  exact pm_iret dX2_latestBy_34 rfl (Nat.le_refl _) (Nat.le_refl _) ⟨rfl, rfl, rfl⟩
