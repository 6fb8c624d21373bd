theorem dX7_goBack_0 : decode cX7_goBack 0 = .ok (.aload_n 0, 1) := by decide +kernel
theorem dX7_goBack_1 : decode cX7_goBack 1 = .ok (.iload_n 1, 1) := by decide +kernel
theorem dX7_goBack_2 : decode cX7_goBack 2 = .ok (.invokevirtual 109, 3) := by decide +kernel
theorem dX7_goBack_5 : decode cX7_goBack 5 = .ok (.ifCond .ne 4, 3) := by decide +kernel
theorem dX7_goBack_8 : decode cX7_goBack 8 = .ok (.return_, 1) := by decide +kernel
theorem dX7_goBack_9 : decode cX7_goBack 9 = .ok (.aload_n 0, 1) := by decide +kernel
theorem dX7_goBack_10 : decode cX7_goBack 10 = .ok (.getfield 21, 3) := by decide +kernel
theorem dX7_goBack_13 : decode cX7_goBack 13 = .ok (.iload_n 1, 1) := by decide +kernel
theorem dX7_goBack_14 : decode cX7_goBack 14 = .ok (.aload_n 2, 1) := by decide +kernel
theorem dX7_goBack_15 : decode cX7_goBack 15 = .ok (.invokevirtual 175, 3) := by decide +kernel
theorem dX7_goBack_18 : decode cX7_goBack 18 = .ok (.aload_n 0, 1) := by decide +kernel
theorem dX7_goBack_19 : decode cX7_goBack 19 = .ok (.getfield 28, 3) := by decide +kernel
theorem dX7_goBack_22 : decode cX7_goBack 22 = .ok (.iload_n 1, 1) := by decide +kernel
theorem dX7_goBack_23 : decode cX7_goBack 23 = .ok (.invokevirtual 179, 3) := by decide +kernel
theorem dX7_goBack_26 : decode cX7_goBack 26 = .ok (.aload_n 0, 1) := by decide +kernel
theorem dX7_goBack_27 : decode cX7_goBack 27 = .ok (.getfield 35, 3) := by decide +kernel
theorem dX7_goBack_30 : decode cX7_goBack 30 = .ok (.iload_n 1, 1) := by decide +kernel
theorem dX7_goBack_31 : decode cX7_goBack 31 = .ok (.invokevirtual 181, 3) := by decide +kernel
theorem dX7_goBack_34 : decode cX7_goBack 34 = .ok (.aload_n 0, 1) := by decide +kernel
theorem dX7_goBack_35 : decode cX7_goBack 35 = .ok (.getfield 42, 3) := by decide +kernel
theorem dX7_goBack_38 : decode cX7_goBack 38 = .ok (.iload_n 1, 1) := by decide +kernel
theorem dX7_goBack_39 : decode cX7_goBack 39 = .ok (.invokevirtual 184, 3) := by decide +kernel
theorem dX7_goBack_42 : decode cX7_goBack 42 = .ok (.aload_n 0, 1) := by decide +kernel
theorem dX7_goBack_43 : decode cX7_goBack 43 = .ok (.iload_n 1, 1) := by decide +kernel
theorem dX7_goBack_44 : decode cX7_goBack 44 = .ok (.putfield 59, 3) := by decide +kernel
theorem dX7_goBack_47 : decode cX7_goBack 47 = .ok (.aload_n 0, 1) := by decide +kernel
theorem dX7_goBack_48 : decode cX7_goBack 48 = .ok (.iconst 0, 1) := by decide +kernel
theorem dX7_goBack_49 : decode cX7_goBack 49 = .ok (.putfield 63, 3) := by decide +kernel
theorem dX7_goBack_52 : decode cX7_goBack 52 = .ok (.aload_n 0, 1) := by decide +kernel
theorem dX7_goBack_53 : decode cX7_goBack 53 = .ok (.dup, 1) := by decide +kernel
theorem dX7_goBack_54 : decode cX7_goBack 54 = .ok (.getfield 72, 3) := by decide +kernel
theorem dX7_goBack_57 : decode cX7_goBack 57 = .ok (.iconst 1, 1) := by decide +kernel
theorem dX7_goBack_58 : decode cX7_goBack 58 = .ok (.iadd, 1) := by decide +kernel
theorem dX7_goBack_59 : decode cX7_goBack 59 = .ok (.putfield 72, 3) := by decide +kernel
theorem dX7_goBack_62 : decode cX7_goBack 62 = .ok (.return_, 1) := by decide +kernel
theorem dX7_putByPoke_0 : decode cX7_putByPoke 0 = .ok (.aload_n 0, 1) := by decide +kernel
theorem dX7_putByPoke_1 : decode cX7_putByPoke 1 = .ok (.getfield 21, 3) := by decide +kernel
theorem dX7_putByPoke_4 : decode cX7_putByPoke 4 = .ok (.aload_n 0, 1) := by decide +kernel
theorem dX7_putByPoke_5 : decode cX7_putByPoke 5 = .ok (.getfield 59, 3) := by decide +kernel
theorem dX7_putByPoke_8 : decode cX7_putByPoke 8 = .ok (.iload_n 1, 1) := by decide +kernel
theorem dX7_putByPoke_9 : decode cX7_putByPoke 9 = .ok (.iload_n 2, 1) := by decide +kernel
theorem dX7_putByPoke_10 : decode cX7_putByPoke 10 = .ok (.iload_n 3, 1) := by decide +kernel
theorem dX7_putByPoke_11 : decode cX7_putByPoke 11 = .ok (.invokevirtual 156, 3) := by decide +kernel
theorem dX7_putByPoke_14 : decode cX7_putByPoke 14 = .ok (.aload_n 0, 1) := by decide +kernel
theorem dX7_putByPoke_15 : decode cX7_putByPoke 15 = .ok (.getfield 28, 3) := by decide +kernel
theorem dX7_putByPoke_18 : decode cX7_putByPoke 18 = .ok (.aload_n 0, 1) := by decide +kernel
theorem dX7_putByPoke_19 : decode cX7_putByPoke 19 = .ok (.getfield 59, 3) := by decide +kernel
theorem dX7_putByPoke_22 : decode cX7_putByPoke 22 = .ok (.iload_n 1, 1) := by decide +kernel
theorem dX7_putByPoke_23 : decode cX7_putByPoke 23 = .ok (.iload_n 2, 1) := by decide +kernel
theorem dX7_putByPoke_24 : decode cX7_putByPoke 24 = .ok (.iload_n 3, 1) := by decide +kernel
theorem dX7_putByPoke_25 : decode cX7_putByPoke 25 = .ok (.invokevirtual 160, 3) := by decide +kernel
theorem dX7_putByPoke_28 : decode cX7_putByPoke 28 = .ok (.istore 4, 2) := by decide +kernel
theorem dX7_putByPoke_30 : decode cX7_putByPoke 30 = .ok (.aload_n 0, 1) := by decide +kernel
theorem dX7_putByPoke_31 : decode cX7_putByPoke 31 = .ok (.getfield 28, 3) := by decide +kernel
theorem dX7_putByPoke_34 : decode cX7_putByPoke 34 = .ok (.iconst (-1), 1) := by decide +kernel
theorem dX7_putByPoke_35 : decode cX7_putByPoke 35 = .ok (.aload_n 0, 1) := by decide +kernel
theorem dX7_putByPoke_36 : decode cX7_putByPoke 36 = .ok (.getfield 21, 3) := by decide +kernel
theorem dX7_putByPoke_39 : decode cX7_putByPoke 39 = .ok (.getfield 98, 3) := by decide +kernel
theorem dX7_putByPoke_42 : decode cX7_putByPoke 42 = .ok (.iconst 1, 1) := by decide +kernel
theorem dX7_putByPoke_43 : decode cX7_putByPoke 43 = .ok (.isub, 1) := by decide +kernel
theorem dX7_putByPoke_44 : decode cX7_putByPoke 44 = .ok (.iconst (-1), 1) := by decide +kernel
theorem dX7_putByPoke_45 : decode cX7_putByPoke 45 = .ok (.iconst (-1), 1) := by decide +kernel
theorem dX7_putByPoke_46 : decode cX7_putByPoke 46 = .ok (.invokevirtual 164, 3) := by decide +kernel
theorem dX7_putByPoke_49 : decode cX7_putByPoke 49 = .ok (.iload 4, 2) := by decide +kernel
theorem dX7_putByPoke_51 : decode cX7_putByPoke 51 = .ok (.ireturn, 1) := by decide +kernel
theorem dX7_step_0 : decode cX7_step 0 = .ok (.aload_n 0, 1) := by decide +kernel
theorem dX7_step_1 : decode cX7_step 1 = .ok (.getfield 59, 3) := by decide +kernel
theorem dX7_step_4 : decode cX7_step 4 = .ok (.iconst 1, 1) := by decide +kernel
theorem dX7_step_5 : decode cX7_step 5 = .ok (.iadd, 1) := by decide +kernel
theorem dX7_step_6 : decode cX7_step 6 = .ok (.istore_n 2, 1) := by decide +kernel
theorem dX7_step_7 : decode cX7_step 7 = .ok (.aload_n 0, 1) := by decide +kernel
theorem dX7_step_8 : decode cX7_step 8 = .ok (.getfield 59, 3) := by decide +kernel
theorem dX7_step_11 : decode cX7_step 11 = .ok (.ifCond .lt 10, 3) := by decide +kernel
theorem dX7_step_14 : decode cX7_step 14 = .ok (.iload_n 2, 1) := by decide +kernel
theorem dX7_step_15 : decode cX7_step 15 = .ok (.sipush 3000, 3) := by decide +kernel
theorem dX7_step_18 : decode cX7_step 18 = .ok (.if_icmp .le 4, 3) := by decide +kernel
theorem dX7_step_21 : decode cX7_step 21 = .ok (.return_, 1) := by decide +kernel
theorem dX7_step_22 : decode cX7_step 22 = .ok (.aload_n 0, 1) := by decide +kernel
theorem dX7_step_23 : decode cX7_step 23 = .ok (.iconst (-1), 1) := by decide +kernel
theorem dX7_step_24 : decode cX7_step 24 = .ok (.putfield 66, 3) := by decide +kernel
theorem dX7_step_27 : decode cX7_step 27 = .ok (.aload_n 0, 1) := by decide +kernel
theorem dX7_step_28 : decode cX7_step 28 = .ok (.getfield 46, 3) := by decide +kernel
theorem dX7_step_31 : decode cX7_step 31 = .ok (.iload_n 2, 1) := by decide +kernel
theorem dX7_step_32 : decode cX7_step 32 = .ok (.aload_n 0, 1) := by decide +kernel
theorem dX7_step_33 : decode cX7_step 33 = .ok (.getfield 46, 3) := by decide +kernel
theorem dX7_step_36 : decode cX7_step 36 = .ok (.aload_n 0, 1) := by decide +kernel
theorem dX7_step_37 : decode cX7_step 37 = .ok (.getfield 59, 3) := by decide +kernel
theorem dX7_step_40 : decode cX7_step 40 = .ok (.iaload, 1) := by decide +kernel
theorem dX7_step_41 : decode cX7_step 41 = .ok (.iconst 1, 1) := by decide +kernel
theorem dX7_step_42 : decode cX7_step 42 = .ok (.iadd, 1) := by decide +kernel
theorem dX7_step_43 : decode cX7_step 43 = .ok (.bipush 64, 2) := by decide +kernel
theorem dX7_step_45 : decode cX7_step 45 = .ok (.invokestatic 140, 3) := by decide +kernel
theorem dX7_step_48 : decode cX7_step 48 = .ok (.iastore, 1) := by decide +kernel
theorem dX7_step_49 : decode cX7_step 49 = .ok (.aload_n 0, 1) := by decide +kernel
theorem dX7_step_50 : decode cX7_step 50 = .ok (.getfield 50, 3) := by decide +kernel
theorem dX7_step_53 : decode cX7_step 53 = .ok (.iload_n 2, 1) := by decide +kernel
theorem dX7_step_54 : decode cX7_step 54 = .ok (.aload_n 0, 1) := by decide +kernel
theorem dX7_step_55 : decode cX7_step 55 = .ok (.getfield 50, 3) := by decide +kernel
theorem dX7_step_58 : decode cX7_step 58 = .ok (.aload_n 0, 1) := by decide +kernel
theorem dX7_step_59 : decode cX7_step 59 = .ok (.getfield 59, 3) := by decide +kernel
theorem dX7_step_62 : decode cX7_step 62 = .ok (.iaload, 1) := by decide +kernel
theorem dX7_step_63 : decode cX7_step 63 = .ok (.iastore, 1) := by decide +kernel
theorem dX7_step_64 : decode cX7_step 64 = .ok (.aload_n 0, 1) := by decide +kernel
theorem dX7_step_65 : decode cX7_step 65 = .ok (.getfield 53, 3) := by decide +kernel
theorem dX7_step_68 : decode cX7_step 68 = .ok (.iload_n 2, 1) := by decide +kernel
theorem dX7_step_69 : decode cX7_step 69 = .ok (.aload_n 0, 1) := by decide +kernel
theorem dX7_step_70 : decode cX7_step 70 = .ok (.getfield 53, 3) := by decide +kernel
theorem dX7_step_73 : decode cX7_step 73 = .ok (.aload_n 0, 1) := by decide +kernel
theorem dX7_step_74 : decode cX7_step 74 = .ok (.getfield 59, 3) := by decide +kernel
theorem dX7_step_77 : decode cX7_step 77 = .ok (.iaload, 1) := by decide +kernel
theorem dX7_step_78 : decode cX7_step 78 = .ok (.iastore, 1) := by decide +kernel
theorem dX7_step_79 : decode cX7_step 79 = .ok (.aload_n 0, 1) := by decide +kernel
theorem dX7_step_80 : decode cX7_step 80 = .ok (.getfield 56, 3) := by decide +kernel
theorem dX7_step_83 : decode cX7_step 83 = .ok (.iload_n 2, 1) := by decide +kernel
theorem dX7_step_84 : decode cX7_step 84 = .ok (.aload_n 0, 1) := by decide +kernel
theorem dX7_step_85 : decode cX7_step 85 = .ok (.getfield 56, 3) := by decide +kernel
theorem dX7_step_88 : decode cX7_step 88 = .ok (.aload_n 0, 1) := by decide +kernel
theorem dX7_step_89 : decode cX7_step 89 = .ok (.getfield 59, 3) := by decide +kernel
theorem dX7_step_92 : decode cX7_step 92 = .ok (.iaload, 1) := by decide +kernel
theorem dX7_step_93 : decode cX7_step 93 = .ok (.iastore, 1) := by decide +kernel
theorem dX7_step_94 : decode cX7_step 94 = .ok (.aload_n 0, 1) := by decide +kernel
theorem dX7_step_95 : decode cX7_step 95 = .ok (.aload_n 0, 1) := by decide +kernel
theorem dX7_step_96 : decode cX7_step 96 = .ok (.getfield 46, 3) := by decide +kernel
theorem dX7_step_99 : decode cX7_step 99 = .ok (.aload_n 0, 1) := by decide +kernel
theorem dX7_step_100 : decode cX7_step 100 = .ok (.getfield 59, 3) := by decide +kernel
theorem dX7_step_103 : decode cX7_step 103 = .ok (.iaload, 1) := by decide +kernel
theorem dX7_step_104 : decode cX7_step 104 = .ok (.aload_n 1, 1) := by decide +kernel
theorem dX7_step_105 : decode cX7_step 105 = .ok (.invokestatic 146, 3) := by decide +kernel
theorem dX7_step_108 : decode cX7_step 108 = .ok (.istore_n 3, 1) := by decide +kernel
theorem dX7_step_109 : decode cX7_step 109 = .ok (.iload_n 3, 1) := by decide +kernel
theorem dX7_step_110 : decode cX7_step 110 = .ok (.ifCond .eq 11, 3) := by decide +kernel
theorem dX7_step_113 : decode cX7_step 113 = .ok (.aload_n 0, 1) := by decide +kernel
theorem dX7_step_114 : decode cX7_step 114 = .ok (.bipush 10, 2) := by decide +kernel
theorem dX7_step_116 : decode cX7_step 116 = .ok (.iload_n 3, 1) := by decide +kernel
theorem dX7_step_117 : decode cX7_step 117 = .ok (.iadd, 1) := by decide +kernel
theorem dX7_step_118 : decode cX7_step 118 = .ok (.putfield 63, 3) := by decide +kernel
theorem dX7_step_121 : decode cX7_step 121 = .ok (.aload_n 0, 1) := by decide +kernel
theorem dX7_step_122 : decode cX7_step 122 = .ok (.iload_n 2, 1) := by decide +kernel
theorem dX7_step_123 : decode cX7_step 123 = .ok (.putfield 59, 3) := by decide +kernel
theorem dX7_step_126 : decode cX7_step 126 = .ok (.aload_n 0, 1) := by decide +kernel
theorem dX7_step_127 : decode cX7_step 127 = .ok (.getfield 42, 3) := by decide +kernel
theorem dX7_step_130 : decode cX7_step 130 = .ok (.aload_n 0, 1) := by decide +kernel
theorem dX7_step_131 : decode cX7_step 131 = .ok (.getfield 59, 3) := by decide +kernel
theorem dX7_step_134 : decode cX7_step 134 = .ok (.invokevirtual 152, 3) := by decide +kernel
theorem dX7_step_137 : decode cX7_step 137 = .ok (.return_, 1) := by decide +kernel
theorem dX9_begin_0 : decode cX9_begin 0 = .ok (.aload_n 0, 1) := by decide +kernel
theorem dX9_begin_1 : decode cX9_begin 1 = .ok (.aload_n 0, 1) := by decide +kernel
theorem dX9_begin_2 : decode cX9_begin 2 = .ok (.getfield 37, 3) := by decide +kernel
theorem dX9_begin_5 : decode cX9_begin 5 = .ok (.putfield 49, 3) := by decide +kernel
theorem dX9_begin_8 : decode cX9_begin 8 = .ok (.aload_n 0, 1) := by decide +kernel
theorem dX9_begin_9 : decode cX9_begin 9 = .ok (.getfield 49, 3) := by decide +kernel
theorem dX9_begin_12 : decode cX9_begin 12 = .ok (.aload_n 0, 1) := by decide +kernel
theorem dX9_begin_13 : decode cX9_begin 13 = .ok (.getfield 12, 3) := by decide +kernel
theorem dX9_begin_16 : decode cX9_begin 16 = .ok (.aload_n 0, 1) := by decide +kernel
theorem dX9_begin_17 : decode cX9_begin 17 = .ok (.getfield 55, 3) := by decide +kernel
theorem dX9_begin_20 : decode cX9_begin 20 = .ok (.aload_n 0, 1) := by decide +kernel
theorem dX9_begin_21 : decode cX9_begin 21 = .ok (.getfield 58, 3) := by decide +kernel
theorem dX9_begin_24 : decode cX9_begin 24 = .ok (.invokevirtual 88, 3) := by decide +kernel
theorem dX9_begin_27 : decode cX9_begin 27 = .ok (.aload_n 0, 1) := by decide +kernel
theorem dX9_begin_28 : decode cX9_begin 28 = .ok (.getfield 19, 3) := by decide +kernel
theorem dX9_begin_31 : decode cX9_begin 31 = .ok (.invokevirtual 92, 3) := by decide +kernel
theorem dX9_begin_34 : decode cX9_begin 34 = .ok (.aload_n 0, 1) := by decide +kernel
theorem dX9_begin_35 : decode cX9_begin 35 = .ok (.getfield 12, 3) := by decide +kernel
theorem dX9_begin_38 : decode cX9_begin 38 = .ok (.invokevirtual 95, 3) := by decide +kernel
theorem dX9_begin_41 : decode cX9_begin 41 = .ok (.ireturn, 1) := by decide +kernel
theorem dX9_code_0 : decode cX9_code 0 = .ok (.iload_n 1, 1) := by decide +kernel
theorem dX9_code_1 : decode cX9_code 1 = .ok (.invokestatic 70, 3) := by decide +kernel
theorem dX9_code_4 : decode cX9_code 4 = .ok (.ifCond .ne 5, 3) := by decide +kernel
theorem dX9_code_7 : decode cX9_code 7 = .ok (.iconst 0, 1) := by decide +kernel
theorem dX9_code_8 : decode cX9_code 8 = .ok (.ireturn, 1) := by decide +kernel
theorem dX9_code_9 : decode cX9_code 9 = .ok (.iload_n 2, 1) := by decide +kernel
theorem dX9_code_10 : decode cX9_code 10 = .ok (.iconst (-1), 1) := by decide +kernel
theorem dX9_code_11 : decode cX9_code 11 = .ok (.if_icmp .eq 17, 3) := by decide +kernel
theorem dX9_code_14 : decode cX9_code 14 = .ok (.iload_n 2, 1) := by decide +kernel
theorem dX9_code_15 : decode cX9_code 15 = .ok (.iload_n 3, 1) := by decide +kernel
theorem dX9_code_16 : decode cX9_code 16 = .ok (.iload 4, 2) := by decide +kernel
theorem dX9_code_18 : decode cX9_code 18 = .ok (.iload 5, 2) := by decide +kernel
theorem dX9_code_20 : decode cX9_code 20 = .ok (.invokestatic 74, 3) := by decide +kernel
theorem dX9_code_23 : decode cX9_code 23 = .ok (.ifCond .ne 5, 3) := by decide +kernel
theorem dX9_code_26 : decode cX9_code 26 = .ok (.iconst 0, 1) := by decide +kernel
theorem dX9_code_27 : decode cX9_code 27 = .ok (.ireturn, 1) := by decide +kernel
theorem dX9_code_28 : decode cX9_code 28 = .ok (.aload_n 0, 1) := by decide +kernel
theorem dX9_code_29 : decode cX9_code 29 = .ok (.getfield 12, 3) := by decide +kernel
theorem dX9_code_32 : decode cX9_code 32 = .ok (.iload_n 1, 1) := by decide +kernel
theorem dX9_code_33 : decode cX9_code 33 = .ok (.iload_n 2, 1) := by decide +kernel
theorem dX9_code_34 : decode cX9_code 34 = .ok (.iload_n 3, 1) := by decide +kernel
theorem dX9_code_35 : decode cX9_code 35 = .ok (.iload 4, 2) := by decide +kernel
theorem dX9_code_37 : decode cX9_code 37 = .ok (.iload 5, 2) := by decide +kernel
theorem dX9_code_39 : decode cX9_code 39 = .ok (.invokevirtual 78, 3) := by decide +kernel
theorem dX9_code_42 : decode cX9_code 42 = .ok (.iconst 1, 1) := by decide +kernel
theorem dX9_code_43 : decode cX9_code 43 = .ok (.ireturn, 1) := by decide +kernel
theorem dX9_fits_0 : decode cX9_fits 0 = .ok (.iload_n 0, 1) := by decide +kernel
theorem dX9_fits_1 : decode cX9_fits 1 = .ok (.tableswitch 85 1 4 #[31, 47, 52, 67], 31) := by decide +kernel
theorem dX9_fits_32 : decode cX9_fits 32 = .ok (.iload_n 1, 1) := by decide +kernel
theorem dX9_fits_33 : decode cX9_fits 33 = .ok (.ifCond .lt 13, 3) := by decide +kernel
theorem dX9_fits_36 : decode cX9_fits 36 = .ok (.iload_n 1, 1) := by decide +kernel
theorem dX9_fits_37 : decode cX9_fits 37 = .ok (.bipush 8, 2) := by decide +kernel
theorem dX9_fits_39 : decode cX9_fits 39 = .ok (.if_icmp .ge 7, 3) := by decide +kernel
theorem dX9_fits_42 : decode cX9_fits 42 = .ok (.iconst 1, 1) := by decide +kernel
theorem dX9_fits_43 : decode cX9_fits 43 = .ok (.goto 4, 3) := by decide +kernel
theorem dX9_fits_46 : decode cX9_fits 46 = .ok (.iconst 0, 1) := by decide +kernel
theorem dX9_fits_47 : decode cX9_fits 47 = .ok (.ireturn, 1) := by decide +kernel
theorem dX9_fits_48 : decode cX9_fits 48 = .ok (.iload_n 1, 1) := by decide +kernel
theorem dX9_fits_49 : decode cX9_fits 49 = .ok (.invokestatic 70, 3) := by decide +kernel
theorem dX9_fits_52 : decode cX9_fits 52 = .ok (.ireturn, 1) := by decide +kernel
theorem dX9_fits_53 : decode cX9_fits 53 = .ok (.iload_n 1, 1) := by decide +kernel
theorem dX9_fits_54 : decode cX9_fits 54 = .ok (.ifCond .eq 8, 3) := by decide +kernel
theorem dX9_fits_57 : decode cX9_fits 57 = .ok (.iload_n 1, 1) := by decide +kernel
theorem dX9_fits_58 : decode cX9_fits 58 = .ok (.iconst 1, 1) := by decide +kernel
theorem dX9_fits_59 : decode cX9_fits 59 = .ok (.if_icmp .ne 7, 3) := by decide +kernel
theorem dX9_fits_62 : decode cX9_fits 62 = .ok (.iconst 1, 1) := by decide +kernel
theorem dX9_fits_63 : decode cX9_fits 63 = .ok (.goto 4, 3) := by decide +kernel
theorem dX9_fits_66 : decode cX9_fits 66 = .ok (.iconst 0, 1) := by decide +kernel
theorem dX9_fits_67 : decode cX9_fits 67 = .ok (.ireturn, 1) := by decide +kernel
theorem dX9_fits_68 : decode cX9_fits 68 = .ok (.iload_n 1, 1) := by decide +kernel
theorem dX9_fits_69 : decode cX9_fits 69 = .ok (.iconst 1, 1) := by decide +kernel
theorem dX9_fits_70 : decode cX9_fits 70 = .ok (.if_icmp .lt 14, 3) := by decide +kernel
theorem dX9_fits_73 : decode cX9_fits 73 = .ok (.iload_n 1, 1) := by decide +kernel
theorem dX9_fits_74 : decode cX9_fits 74 = .ok (.sipush 1000, 3) := by decide +kernel
theorem dX9_fits_77 : decode cX9_fits 77 = .ok (.if_icmp .gt 7, 3) := by decide +kernel
theorem dX9_fits_80 : decode cX9_fits 80 = .ok (.iconst 1, 1) := by decide +kernel
theorem dX9_fits_81 : decode cX9_fits 81 = .ok (.goto 4, 3) := by decide +kernel
theorem dX9_fits_84 : decode cX9_fits 84 = .ok (.iconst 0, 1) := by decide +kernel
theorem dX9_fits_85 : decode cX9_fits 85 = .ok (.ireturn, 1) := by decide +kernel
theorem dX9_fits_86 : decode cX9_fits 86 = .ok (.iload_n 0, 1) := by decide +kernel
theorem dX9_fits_87 : decode cX9_fits 87 = .ok (.ifCond .ne 7, 3) := by decide +kernel
theorem dX9_fits_90 : decode cX9_fits 90 = .ok (.iconst 1, 1) := by decide +kernel
theorem dX9_fits_91 : decode cX9_fits 91 = .ok (.goto 4, 3) := by decide +kernel
theorem dX9_fits_94 : decode cX9_fits 94 = .ok (.iconst 0, 1) := by decide +kernel
theorem dX9_fits_95 : decode cX9_fits 95 = .ok (.ireturn, 1) := by decide +kernel
theorem dX9_give_0 : decode cX9_give 0 = .ok (.aload_n 0, 1) := by decide +kernel
theorem dX9_give_1 : decode cX9_give 1 = .ok (.getfield 49, 3) := by decide +kernel
theorem dX9_give_4 : decode cX9_give 4 = .ok (.ifnull 15, 3) := by decide +kernel
theorem dX9_give_7 : decode cX9_give 7 = .ok (.aload_n 0, 1) := by decide +kernel
theorem dX9_give_8 : decode cX9_give 8 = .ok (.getfield 19, 3) := by decide +kernel
theorem dX9_give_11 : decode cX9_give 11 = .ok (.getfield 99, 3) := by decide +kernel
theorem dX9_give_14 : decode cX9_give 14 = .ok (.bipush 100, 2) := by decide +kernel
theorem dX9_give_16 : decode cX9_give 16 = .ok (.if_icmp .lt 5, 3) := by decide +kernel
theorem dX9_give_19 : decode cX9_give 19 = .ok (.iconst (-1), 1) := by decide +kernel
theorem dX9_give_20 : decode cX9_give 20 = .ok (.ireturn, 1) := by decide +kernel
theorem dX9_give_21 : decode cX9_give 21 = .ok (.aload_n 0, 1) := by decide +kernel
theorem dX9_give_22 : decode cX9_give 22 = .ok (.getfield 19, 3) := by decide +kernel
theorem dX9_give_25 : decode cX9_give 25 = .ok (.iload_n 1, 1) := by decide +kernel
theorem dX9_give_26 : decode cX9_give 26 = .ok (.invokevirtual 102, 3) := by decide +kernel
theorem dX9_give_29 : decode cX9_give 29 = .ok (.aload_n 0, 1) := by decide +kernel
theorem dX9_give_30 : decode cX9_give 30 = .ok (.getfield 19, 3) := by decide +kernel
theorem dX9_give_33 : decode cX9_give 33 = .ok (.getfield 99, 3) := by decide +kernel
theorem dX9_give_36 : decode cX9_give 36 = .ok (.ireturn, 1) := by decide +kernel
theorem dX9_isDepth_0 : decode cX9_isDepth 0 = .ok (.iload_n 0, 1) := by decide +kernel
theorem dX9_isDepth_1 : decode cX9_isDepth 1 = .ok (.iconst 1, 1) := by decide +kernel
theorem dX9_isDepth_2 : decode cX9_isDepth 2 = .ok (.if_icmp .lt 13, 3) := by decide +kernel
theorem dX9_isDepth_5 : decode cX9_isDepth 5 = .ok (.iload_n 0, 1) := by decide +kernel
theorem dX9_isDepth_6 : decode cX9_isDepth 6 = .ok (.bipush 8, 2) := by decide +kernel
theorem dX9_isDepth_8 : decode cX9_isDepth 8 = .ok (.if_icmp .gt 7, 3) := by decide +kernel
theorem dX9_isDepth_11 : decode cX9_isDepth 11 = .ok (.iconst 1, 1) := by decide +kernel
theorem dX9_isDepth_12 : decode cX9_isDepth 12 = .ok (.goto 4, 3) := by decide +kernel
theorem dX9_isDepth_15 : decode cX9_isDepth 15 = .ok (.iconst 0, 1) := by decide +kernel
theorem dX9_isDepth_16 : decode cX9_isDepth 16 = .ok (.ireturn, 1) := by decide +kernel
theorem dX9_isInstruction_0 : decode cX9_isInstruction 0 = .ok (.iload_n 0, 1) := by decide +kernel
theorem dX9_isInstruction_1 : decode cX9_isInstruction 1 = .ok (.ifCond .lt 27, 3) := by decide +kernel
theorem dX9_isInstruction_4 : decode cX9_isInstruction 4 = .ok (.iload_n 0, 1) := by decide +kernel
theorem dX9_isInstruction_5 : decode cX9_isInstruction 5 = .ok (.getstatic 365, 3) := by decide +kernel
theorem dX9_isInstruction_8 : decode cX9_isInstruction 8 = .ok (.arraylength, 1) := by decide +kernel
theorem dX9_isInstruction_9 : decode cX9_isInstruction 9 = .ok (.if_icmp .ge 19, 3) := by decide +kernel
theorem dX9_isInstruction_12 : decode cX9_isInstruction 12 = .ok (.iload_n 0, 1) := by decide +kernel
theorem dX9_isInstruction_13 : decode cX9_isInstruction 13 = .ok (.getstatic 369, 3) := by decide +kernel
theorem dX9_isInstruction_16 : decode cX9_isInstruction 16 = .ok (.arraylength, 1) := by decide +kernel
theorem dX9_isInstruction_17 : decode cX9_isInstruction 17 = .ok (.if_icmp .ge 11, 3) := by decide +kernel
theorem dX9_isInstruction_20 : decode cX9_isInstruction 20 = .ok (.iload_n 0, 1) := by decide +kernel
theorem dX9_isInstruction_21 : decode cX9_isInstruction 21 = .ok (.getstatic 372, 3) := by decide +kernel
theorem dX9_isInstruction_24 : decode cX9_isInstruction 24 = .ok (.arraylength, 1) := by decide +kernel
theorem dX9_isInstruction_25 : decode cX9_isInstruction 25 = .ok (.if_icmp .lt 5, 3) := by decide +kernel
theorem dX9_isInstruction_28 : decode cX9_isInstruction 28 = .ok (.iconst 0, 1) := by decide +kernel
theorem dX9_isInstruction_29 : decode cX9_isInstruction 29 = .ok (.ireturn, 1) := by decide +kernel
theorem dX9_isInstruction_30 : decode cX9_isInstruction 30 = .ok (.getstatic 365, 3) := by decide +kernel
theorem dX9_isInstruction_33 : decode cX9_isInstruction 33 = .ok (.iload_n 0, 1) := by decide +kernel
theorem dX9_isInstruction_34 : decode cX9_isInstruction 34 = .ok (.iaload, 1) := by decide +kernel
theorem dX9_isInstruction_35 : decode cX9_isInstruction 35 = .ok (.iload_n 1, 1) := by decide +kernel
theorem dX9_isInstruction_36 : decode cX9_isInstruction 36 = .ok (.invokestatic 375, 3) := by decide +kernel
theorem dX9_isInstruction_39 : decode cX9_isInstruction 39 = .ok (.ifCond .eq 31, 3) := by decide +kernel
theorem dX9_isInstruction_42 : decode cX9_isInstruction 42 = .ok (.getstatic 369, 3) := by decide +kernel
theorem dX9_isInstruction_45 : decode cX9_isInstruction 45 = .ok (.iload_n 0, 1) := by decide +kernel
theorem dX9_isInstruction_46 : decode cX9_isInstruction 46 = .ok (.iaload, 1) := by decide +kernel
theorem dX9_isInstruction_47 : decode cX9_isInstruction 47 = .ok (.iload_n 2, 1) := by decide +kernel
theorem dX9_isInstruction_48 : decode cX9_isInstruction 48 = .ok (.invokestatic 375, 3) := by decide +kernel
theorem dX9_isInstruction_51 : decode cX9_isInstruction 51 = .ok (.ifCond .eq 19, 3) := by decide +kernel
theorem dX9_isInstruction_54 : decode cX9_isInstruction 54 = .ok (.getstatic 372, 3) := by decide +kernel
theorem dX9_isInstruction_57 : decode cX9_isInstruction 57 = .ok (.iload_n 0, 1) := by decide +kernel
theorem dX9_isInstruction_58 : decode cX9_isInstruction 58 = .ok (.iaload, 1) := by decide +kernel
theorem dX9_isInstruction_59 : decode cX9_isInstruction 59 = .ok (.iload_n 3, 1) := by decide +kernel
theorem dX9_isInstruction_60 : decode cX9_isInstruction 60 = .ok (.invokestatic 375, 3) := by decide +kernel
theorem dX9_isInstruction_63 : decode cX9_isInstruction 63 = .ok (.ifCond .eq 7, 3) := by decide +kernel
theorem dX9_isInstruction_66 : decode cX9_isInstruction 66 = .ok (.iconst 1, 1) := by decide +kernel
theorem dX9_isInstruction_67 : decode cX9_isInstruction 67 = .ok (.goto 4, 3) := by decide +kernel
theorem dX9_isInstruction_70 : decode cX9_isInstruction 70 = .ok (.iconst 0, 1) := by decide +kernel
theorem dX9_isInstruction_71 : decode cX9_isInstruction 71 = .ok (.ireturn, 1) := by decide +kernel
theorem dX9_isUnit_0 : decode cX9_isUnit 0 = .ok (.iload_n 0, 1) := by decide +kernel
theorem dX9_isUnit_1 : decode cX9_isUnit 1 = .ok (.iconst 1, 1) := by decide +kernel
theorem dX9_isUnit_2 : decode cX9_isUnit 2 = .ok (.if_icmp .lt 13, 3) := by decide +kernel
theorem dX9_isUnit_5 : decode cX9_isUnit 5 = .ok (.iload_n 0, 1) := by decide +kernel
theorem dX9_isUnit_6 : decode cX9_isUnit 6 = .ok (.bipush 64, 2) := by decide +kernel
theorem dX9_isUnit_8 : decode cX9_isUnit 8 = .ok (.if_icmp .gt 7, 3) := by decide +kernel
theorem dX9_isUnit_11 : decode cX9_isUnit 11 = .ok (.iconst 1, 1) := by decide +kernel
theorem dX9_isUnit_12 : decode cX9_isUnit 12 = .ok (.goto 4, 3) := by decide +kernel
theorem dX9_isUnit_15 : decode cX9_isUnit 15 = .ok (.iconst 0, 1) := by decide +kernel
theorem dX9_isUnit_16 : decode cX9_isUnit 16 = .ok (.ireturn, 1) := by decide +kernel
theorem dX9_isValue_0 : decode cX9_isValue 0 = .ok (.iload_n 0, 1) := by decide +kernel
theorem dX9_isValue_1 : decode cX9_isValue 1 = .ok (.lookupswitch 52 #[(0, 27), (1, 37)], 27) := by decide +kernel
theorem dX9_isValue_28 : decode cX9_isValue 28 = .ok (.iload_n 1, 1) := by decide +kernel
theorem dX9_isValue_29 : decode cX9_isValue 29 = .ok (.ifCond .ne 7, 3) := by decide +kernel
theorem dX9_isValue_32 : decode cX9_isValue 32 = .ok (.iconst 1, 1) := by decide +kernel
theorem dX9_isValue_33 : decode cX9_isValue 33 = .ok (.goto 4, 3) := by decide +kernel
theorem dX9_isValue_36 : decode cX9_isValue 36 = .ok (.iconst 0, 1) := by decide +kernel
theorem dX9_isValue_37 : decode cX9_isValue 37 = .ok (.ireturn, 1) := by decide +kernel
theorem dX9_isValue_38 : decode cX9_isValue 38 = .ok (.iload_n 1, 1) := by decide +kernel
theorem dX9_isValue_39 : decode cX9_isValue 39 = .ok (.ifCond .eq 8, 3) := by decide +kernel
theorem dX9_isValue_42 : decode cX9_isValue 42 = .ok (.iload_n 1, 1) := by decide +kernel
theorem dX9_isValue_43 : decode cX9_isValue 43 = .ok (.iconst 1, 1) := by decide +kernel
theorem dX9_isValue_44 : decode cX9_isValue 44 = .ok (.if_icmp .ne 7, 3) := by decide +kernel
theorem dX9_isValue_47 : decode cX9_isValue 47 = .ok (.iconst 1, 1) := by decide +kernel
theorem dX9_isValue_48 : decode cX9_isValue 48 = .ok (.goto 4, 3) := by decide +kernel
theorem dX9_isValue_51 : decode cX9_isValue 51 = .ok (.iconst 0, 1) := by decide +kernel
theorem dX9_isValue_52 : decode cX9_isValue 52 = .ok (.ireturn, 1) := by decide +kernel
theorem dX9_isValue_53 : decode cX9_isValue 53 = .ok (.iload_n 0, 1) := by decide +kernel
theorem dX9_isValue_54 : decode cX9_isValue 54 = .ok (.iconst 2, 1) := by decide +kernel
theorem dX9_isValue_55 : decode cX9_isValue 55 = .ok (.if_icmp .ne 7, 3) := by decide +kernel
theorem dX9_isValue_58 : decode cX9_isValue 58 = .ok (.iconst 1, 1) := by decide +kernel
theorem dX9_isValue_59 : decode cX9_isValue 59 = .ok (.goto 4, 3) := by decide +kernel
theorem dX9_isValue_62 : decode cX9_isValue 62 = .ok (.iconst 0, 1) := by decide +kernel
theorem dX9_isValue_63 : decode cX9_isValue 63 = .ok (.ireturn, 1) := by decide +kernel
theorem dX9_isWatched_0 : decode cX9_isWatched 0 = .ok (.iload_n 1, 1) := by decide +kernel
theorem dX9_isWatched_1 : decode cX9_isWatched 1 = .ok (.invokestatic 119, 3) := by decide +kernel
theorem dX9_isWatched_4 : decode cX9_isWatched 4 = .ok (.ifCond .ne 5, 3) := by decide +kernel
theorem dX9_isWatched_7 : decode cX9_isWatched 7 = .ok (.iconst 0, 1) := by decide +kernel
theorem dX9_isWatched_8 : decode cX9_isWatched 8 = .ok (.ireturn, 1) := by decide +kernel
theorem dX9_isWatched_9 : decode cX9_isWatched 9 = .ok (.iload_n 1, 1) := by decide +kernel
theorem dX9_isWatched_10 : decode cX9_isWatched 10 = .ok (.bipush 8, 2) := by decide +kernel
theorem dX9_isWatched_12 : decode cX9_isWatched 12 = .ok (.if_icmp .ge 21, 3) := by decide +kernel
theorem dX9_isWatched_15 : decode cX9_isWatched 15 = .ok (.aload_n 0, 1) := by decide +kernel
theorem dX9_isWatched_16 : decode cX9_isWatched 16 = .ok (.getfield 61, 3) := by decide +kernel
theorem dX9_isWatched_19 : decode cX9_isWatched 19 = .ok (.iload_n 1, 1) := by decide +kernel
theorem dX9_isWatched_20 : decode cX9_isWatched 20 = .ok (.ishr, 1) := by decide +kernel
theorem dX9_isWatched_21 : decode cX9_isWatched 21 = .ok (.iconst 1, 1) := by decide +kernel
theorem dX9_isWatched_22 : decode cX9_isWatched 22 = .ok (.iand, 1) := by decide +kernel
theorem dX9_isWatched_23 : decode cX9_isWatched 23 = .ok (.iconst 1, 1) := by decide +kernel
theorem dX9_isWatched_24 : decode cX9_isWatched 24 = .ok (.if_icmp .ne 7, 3) := by decide +kernel
theorem dX9_isWatched_27 : decode cX9_isWatched 27 = .ok (.iconst 1, 1) := by decide +kernel
theorem dX9_isWatched_28 : decode cX9_isWatched 28 = .ok (.goto 4, 3) := by decide +kernel
theorem dX9_isWatched_31 : decode cX9_isWatched 31 = .ok (.iconst 0, 1) := by decide +kernel
theorem dX9_isWatched_32 : decode cX9_isWatched 32 = .ok (.ireturn, 1) := by decide +kernel
theorem dX9_isWatched_33 : decode cX9_isWatched 33 = .ok (.aload_n 0, 1) := by decide +kernel
theorem dX9_isWatched_34 : decode cX9_isWatched 34 = .ok (.getfield 64, 3) := by decide +kernel
theorem dX9_isWatched_37 : decode cX9_isWatched 37 = .ok (.iload_n 1, 1) := by decide +kernel
theorem dX9_isWatched_38 : decode cX9_isWatched 38 = .ok (.bipush 8, 2) := by decide +kernel
theorem dX9_isWatched_40 : decode cX9_isWatched 40 = .ok (.isub, 1) := by decide +kernel
theorem dX9_isWatched_41 : decode cX9_isWatched 41 = .ok (.ishr, 1) := by decide +kernel
theorem dX9_isWatched_42 : decode cX9_isWatched 42 = .ok (.iconst 1, 1) := by decide +kernel
theorem dX9_isWatched_43 : decode cX9_isWatched 43 = .ok (.iand, 1) := by decide +kernel
theorem dX9_isWatched_44 : decode cX9_isWatched 44 = .ok (.iconst 1, 1) := by decide +kernel
theorem dX9_isWatched_45 : decode cX9_isWatched 45 = .ok (.if_icmp .ne 7, 3) := by decide +kernel
theorem dX9_isWatched_48 : decode cX9_isWatched 48 = .ok (.iconst 1, 1) := by decide +kernel
theorem dX9_isWatched_49 : decode cX9_isWatched 49 = .ok (.goto 4, 3) := by decide +kernel
theorem dX9_isWatched_52 : decode cX9_isWatched 52 = .ok (.iconst 0, 1) := by decide +kernel
theorem dX9_isWatched_53 : decode cX9_isWatched 53 = .ok (.ireturn, 1) := by decide +kernel
theorem dX9_poke_0 : decode cX9_poke 0 = .ok (.aload_n 0, 1) := by decide +kernel
theorem dX9_poke_1 : decode cX9_poke 1 = .ok (.getfield 49, 3) := by decide +kernel
theorem dX9_poke_4 : decode cX9_poke 4 = .ok (.ifnull 31, 3) := by decide +kernel
theorem dX9_poke_7 : decode cX9_poke 7 = .ok (.aload_n 0, 1) := by decide +kernel
theorem dX9_poke_8 : decode cX9_poke 8 = .ok (.getfield 49, 3) := by decide +kernel
theorem dX9_poke_11 : decode cX9_poke 11 = .ok (.getfield 109, 3) := by decide +kernel
theorem dX9_poke_14 : decode cX9_poke 14 = .ok (.invokevirtual 113, 3) := by decide +kernel
theorem dX9_poke_17 : decode cX9_poke 17 = .ok (.ifCond .ne 18, 3) := by decide +kernel
theorem dX9_poke_20 : decode cX9_poke 20 = .ok (.iload_n 1, 1) := by decide +kernel
theorem dX9_poke_21 : decode cX9_poke 21 = .ok (.invokestatic 119, 3) := by decide +kernel
theorem dX9_poke_24 : decode cX9_poke 24 = .ok (.ifCond .eq 11, 3) := by decide +kernel
theorem dX9_poke_27 : decode cX9_poke 27 = .ok (.iload_n 2, 1) := by decide +kernel
theorem dX9_poke_28 : decode cX9_poke 28 = .ok (.iload_n 3, 1) := by decide +kernel
theorem dX9_poke_29 : decode cX9_poke 29 = .ok (.invokestatic 122, 3) := by decide +kernel
theorem dX9_poke_32 : decode cX9_poke 32 = .ok (.ifCond .ne 5, 3) := by decide +kernel
theorem dX9_poke_35 : decode cX9_poke 35 = .ok (.iconst (-1), 1) := by decide +kernel
theorem dX9_poke_36 : decode cX9_poke 36 = .ok (.ireturn, 1) := by decide +kernel
theorem dX9_poke_37 : decode cX9_poke 37 = .ok (.aload_n 0, 1) := by decide +kernel
theorem dX9_poke_38 : decode cX9_poke 38 = .ok (.getfield 49, 3) := by decide +kernel
theorem dX9_poke_41 : decode cX9_poke 41 = .ok (.iload_n 1, 1) := by decide +kernel
theorem dX9_poke_42 : decode cX9_poke 42 = .ok (.iload_n 2, 1) := by decide +kernel
theorem dX9_poke_43 : decode cX9_poke 43 = .ok (.iload_n 3, 1) := by decide +kernel
theorem dX9_poke_44 : decode cX9_poke 44 = .ok (.invokevirtual 126, 3) := by decide +kernel
theorem dX9_poke_47 : decode cX9_poke 47 = .ok (.ifCond .eq 7, 3) := by decide +kernel
theorem dX9_poke_50 : decode cX9_poke 50 = .ok (.iconst 1, 1) := by decide +kernel
theorem dX9_poke_51 : decode cX9_poke 51 = .ok (.goto 4, 3) := by decide +kernel
theorem dX9_poke_54 : decode cX9_poke 54 = .ok (.iconst 0, 1) := by decide +kernel
theorem dX9_poke_55 : decode cX9_poke 55 = .ok (.ireturn, 1) := by decide +kernel
theorem dX9_run_0 : decode cX9_run 0 = .ok (.aload_n 0, 1) := by decide +kernel
theorem dX9_run_1 : decode cX9_run 1 = .ok (.getfield 49, 3) := by decide +kernel
theorem dX9_run_4 : decode cX9_run 4 = .ok (.ifnull 15, 3) := by decide +kernel
theorem dX9_run_7 : decode cX9_run 7 = .ok (.iload_n 1, 1) := by decide +kernel
theorem dX9_run_8 : decode cX9_run 8 = .ok (.iconst 1, 1) := by decide +kernel
theorem dX9_run_9 : decode cX9_run 9 = .ok (.if_icmp .lt 10, 3) := by decide +kernel
theorem dX9_run_12 : decode cX9_run 12 = .ok (.iload_n 1, 1) := by decide +kernel
theorem dX9_run_13 : decode cX9_run 13 = .ok (.sipush 500, 3) := by decide +kernel
theorem dX9_run_16 : decode cX9_run 16 = .ok (.if_icmp .le 5, 3) := by decide +kernel
theorem dX9_run_19 : decode cX9_run 19 = .ok (.iconst (-1), 1) := by decide +kernel
theorem dX9_run_20 : decode cX9_run 20 = .ok (.ireturn, 1) := by decide +kernel
theorem dX9_run_21 : decode cX9_run 21 = .ok (.iconst 0, 1) := by decide +kernel
theorem dX9_run_22 : decode cX9_run 22 = .ok (.istore_n 2, 1) := by decide +kernel
theorem dX9_run_23 : decode cX9_run 23 = .ok (.iconst 1, 1) := by decide +kernel
theorem dX9_run_24 : decode cX9_run 24 = .ok (.istore_n 3, 1) := by decide +kernel
theorem dX9_run_25 : decode cX9_run 25 = .ok (.iload_n 3, 1) := by decide +kernel
theorem dX9_run_26 : decode cX9_run 26 = .ok (.ifCond .eq 59, 3) := by decide +kernel
theorem dX9_run_29 : decode cX9_run 29 = .ok (.iload_n 2, 1) := by decide +kernel
theorem dX9_run_30 : decode cX9_run 30 = .ok (.iload_n 1, 1) := by decide +kernel
theorem dX9_run_31 : decode cX9_run 31 = .ok (.if_icmp .ge 54, 3) := by decide +kernel
theorem dX9_run_34 : decode cX9_run 34 = .ok (.aload_n 0, 1) := by decide +kernel
theorem dX9_run_35 : decode cX9_run 35 = .ok (.getfield 49, 3) := by decide +kernel
theorem dX9_run_38 : decode cX9_run 38 = .ok (.aload_n 0, 1) := by decide +kernel
theorem dX9_run_39 : decode cX9_run 39 = .ok (.getfield 19, 3) := by decide +kernel
theorem dX9_run_42 : decode cX9_run 42 = .ok (.invokevirtual 130, 3) := by decide +kernel
theorem dX9_run_45 : decode cX9_run 45 = .ok (.ifCond .eq 40, 3) := by decide +kernel
theorem dX9_run_48 : decode cX9_run 48 = .ok (.aload_n 0, 1) := by decide +kernel
theorem dX9_run_49 : decode cX9_run 49 = .ok (.getfield 49, 3) := by decide +kernel
theorem dX9_run_52 : decode cX9_run 52 = .ok (.aload_n 0, 1) := by decide +kernel
theorem dX9_run_53 : decode cX9_run 53 = .ok (.getfield 19, 3) := by decide +kernel
theorem dX9_run_56 : decode cX9_run 56 = .ok (.invokevirtual 134, 3) := by decide +kernel
theorem dX9_run_59 : decode cX9_run 59 = .ok (.iinc 2 1, 3) := by decide +kernel
theorem dX9_run_62 : decode cX9_run 62 = .ok (.aload_n 0, 1) := by decide +kernel
theorem dX9_run_63 : decode cX9_run 63 = .ok (.aload_n 0, 1) := by decide +kernel
theorem dX9_run_64 : decode cX9_run 64 = .ok (.getfield 49, 3) := by decide +kernel
theorem dX9_run_67 : decode cX9_run 67 = .ok (.getfield 138, 3) := by decide +kernel
theorem dX9_run_70 : decode cX9_run 70 = .ok (.invokevirtual 141, 3) := by decide +kernel
theorem dX9_run_73 : decode cX9_run 73 = .ok (.ifCond .ne 7, 3) := by decide +kernel
theorem dX9_run_76 : decode cX9_run 76 = .ok (.iconst 1, 1) := by decide +kernel
theorem dX9_run_77 : decode cX9_run 77 = .ok (.goto 4, 3) := by decide +kernel
theorem dX9_run_80 : decode cX9_run 80 = .ok (.iconst 0, 1) := by decide +kernel
theorem dX9_run_81 : decode cX9_run 81 = .ok (.istore_n 3, 1) := by decide +kernel
theorem dX9_run_82 : decode cX9_run 82 = .ok (.goto (-57), 3) := by decide +kernel
theorem dX9_run_85 : decode cX9_run 85 = .ok (.iload_n 2, 1) := by decide +kernel
theorem dX9_run_86 : decode cX9_run 86 = .ok (.ireturn, 1) := by decide +kernel
theorem dX9_seed_0 : decode cX9_seed 0 = .ok (.aload_n 0, 1) := by decide +kernel
theorem dX9_seed_1 : decode cX9_seed 1 = .ok (.getfield 19, 3) := by decide +kernel
theorem dX9_seed_4 : decode cX9_seed 4 = .ok (.getfield 106, 3) := by decide +kernel
theorem dX9_seed_7 : decode cX9_seed 7 = .ok (.istore_n 2, 1) := by decide +kernel
theorem dX9_seed_8 : decode cX9_seed 8 = .ok (.aload_n 0, 1) := by decide +kernel
theorem dX9_seed_9 : decode cX9_seed 9 = .ok (.getfield 19, 3) := by decide +kernel
theorem dX9_seed_12 : decode cX9_seed 12 = .ok (.iload_n 1, 1) := by decide +kernel
theorem dX9_seed_13 : decode cX9_seed 13 = .ok (.putfield 106, 3) := by decide +kernel
theorem dX9_seed_16 : decode cX9_seed 16 = .ok (.iload_n 2, 1) := by decide +kernel
theorem dX9_seed_17 : decode cX9_seed 17 = .ok (.ireturn, 1) := by decide +kernel
theorem dX9_spacing_0 : decode cX9_spacing 0 = .ok (.iload_n 1, 1) := by decide +kernel
theorem dX9_spacing_1 : decode cX9_spacing 1 = .ok (.invokestatic 82, 3) := by decide +kernel
theorem dX9_spacing_4 : decode cX9_spacing 4 = .ok (.ifCond .eq 10, 3) := by decide +kernel
theorem dX9_spacing_7 : decode cX9_spacing 7 = .ok (.iload_n 2, 1) := by decide +kernel
theorem dX9_spacing_8 : decode cX9_spacing 8 = .ok (.invokestatic 85, 3) := by decide +kernel
theorem dX9_spacing_11 : decode cX9_spacing 11 = .ok (.ifCond .ne 5, 3) := by decide +kernel
theorem dX9_spacing_14 : decode cX9_spacing 14 = .ok (.iconst 0, 1) := by decide +kernel
theorem dX9_spacing_15 : decode cX9_spacing 15 = .ok (.ireturn, 1) := by decide +kernel
theorem dX9_spacing_16 : decode cX9_spacing 16 = .ok (.aload_n 0, 1) := by decide +kernel
theorem dX9_spacing_17 : decode cX9_spacing 17 = .ok (.iload_n 1, 1) := by decide +kernel
theorem dX9_spacing_18 : decode cX9_spacing 18 = .ok (.putfield 55, 3) := by decide +kernel
theorem dX9_spacing_21 : decode cX9_spacing 21 = .ok (.aload_n 0, 1) := by decide +kernel
theorem dX9_spacing_22 : decode cX9_spacing 22 = .ok (.iload_n 2, 1) := by decide +kernel
theorem dX9_spacing_23 : decode cX9_spacing 23 = .ok (.putfield 58, 3) := by decide +kernel
theorem dX9_spacing_26 : decode cX9_spacing 26 = .ok (.iconst 1, 1) := by decide +kernel
theorem dX9_spacing_27 : decode cX9_spacing 27 = .ok (.ireturn, 1) := by decide +kernel
def g_X7_step_j121 (F : Nat) (o0 : Nat) (l2 : Int32) (u : rg_U) : Option rg_U :=
  lt1 (sF u o0 9 l2) (fun u43 => ob (g_X2_timeComes F (o0 + 28) (rF u43 o0 9) u43) (fun r48 => some r48))
set_option maxHeartbeats 4000000 in
set_option maxRecDepth 100000 in
theorem k_X7_step_j121 {gs : List String} {ro : pm_RO} {n : Nat} {w w1 : Nat → va_E} {b : Nat} {u : rg_U} {F : Nat} {o0 : Nat} {l2 : Int32} {z : rg_U} (hR : rg shC b u n w1) (hk : rg_k b shC.length w w1) (hs0 : sp_Run o0) (h : g_X7_step_j121 F o0 l2 u = some z) : pm_X gs ro M_X7_step 6 0 0 0 0 121 [some (.ref (b + o0)), none, some (.int l2), none] [] n w1 (rg_post shC b n w none z) := by
  unfold g_X7_step_j121 at h
  refine pm_aload_n dX7_step_121 rfl ?_
  refine pm_iload_n dX7_step_122 rfl ?_
  obtain ⟨u43, hu44, h⟩ := lt1_ex h
  refine dx_pi (j := o0) hR hk dX7_step_123 fl_X7_59 (sp_Run_self hs0) rfl hu44 (fun w45 hR46 hk47 => ?_)
  refine pm_aload_n dX7_step_126 rfl ?_
  refine dx_gr (j := o0) (o := (o0 + 28)) hR46 dX7_step_127 fl_X7_42 (sp_Run_self hs0) rfl ?_
  refine pm_aload_n dX7_step_130 rfl ?_
  refine dx_gi (j := o0) hR46 dX7_step_131 fl_X7_59 (sp_Run_self hs0) rfl ?_
  obtain ⟨r48, h49, h⟩ := ob_some h
  refine dx_cVv (j := (o0 + 28)) (M := M_X7_step) (Mc := M_X2_timeComes) (dc := 3) (As := [.int (rF u43 o0 9)]) (st := []) hR46 hk47 dX7_step_134 ml_X7_152 ⟨TX2, 5, rfl⟩ (sp_Holding_self (sp_Run_holding hs0)) (by decide) (Nat.le_of_ble_eq_true rfl) rfl (k_X2_timeComes hR46 (sp_Run_holding hs0) h49) (fun w50 hR51 hk52 => ?_)
  cases h
  exact pm_vret dX7_step_137 rfl (Nat.le_refl _) (Nat.le_refl _) ⟨rfl, rfl, hR51, hk52⟩
def g_X7_step (F : Nat) (o0 : Nat) (u : rg_U) : Option rg_U :=
  if (rF u o0 9) < 0 then (some u) else (if ((rF u o0 9) + 1) ≤ 3000 then (lt1 (sF u o0 11 (-1)) (fun u3 => ck (inb (rF u3 o0 9) 3001) (ck (inb ((rF u o0 9) + 1) 3001) (lt1 (sA u3 (o0 + 30) ((rF u o0 9) + 1) (imin ((rA u3 (o0 + 30) (rF u3 o0 9)) + 1) 64)) (fun u10 => ck (inb (rF u10 o0 9) 3001) (ck (inb ((rF u o0 9) + 1) 3001) (lt1 (sA u10 (o0 + 31) ((rF u o0 9) + 1) (rA u10 (o0 + 31) (rF u10 o0 9))) (fun u17 => ck (inb (rF u17 o0 9) 3001) (ck (inb ((rF u o0 9) + 1) 3001) (lt1 (sA u17 (o0 + 32) ((rF u o0 9) + 1) (rA u17 (o0 + 32) (rF u17 o0 9))) (fun u24 => ck (inb (rF u24 o0 9) 3001) (ck (inb ((rF u o0 9) + 1) 3001) (lt1 (sA u24 (o0 + 33) ((rF u o0 9) + 1) (rA u24 (o0 + 33) (rF u24 o0 9))) (fun u31 => ck (inb (rF u31 o0 9) 3001) (ob (g_X8_perform F o0 (rA u31 (o0 + 30) (rF u31 o0 9)) u31) (fun r37 => if r37.1 = 0 then (g_X7_step_j121 F o0 ((rF u o0 9) + 1) r37.2) else (lt1 (sF r37.2 o0 10 (10 + r37.1)) (fun u53 => g_X7_step_j121 F o0 ((rF u o0 9) + 1) u53)))))))))))))))))) else (some u))
set_option maxHeartbeats 4000000 in
set_option maxRecDepth 100000 in
theorem k_X7_step {gs : List String} {ro : pm_RO} {n : Nat} {w : Nat → va_E} {b : Nat} {u : rg_U} {F : Nat} {o0 : Nat} {z : rg_U} (hR : rg shC b u n w) (hs0 : sp_Run o0) (h : g_X7_step F o0 u = some z) : pm_Met gs ro M_X7_step 6 0 0 [.ref (b + o0), .ref (b + 6)] n w (rg_post shC b n w none z) := by
  unfold g_X7_step at h
  refine pm_ofX in_X7_step (Nat.le_of_ble_eq_true rfl) rfl (L := [some (.ref (b + o0)), some (.ref (b + 6)), none, none]) rfl ?_
  refine pm_aload_n dX7_step_0 rfl ?_
  refine dx_gi (j := o0) hR dX7_step_1 fl_X7_59 (sp_Run_self hs0) rfl ?_
  refine pm_iconst (v := 1) dX7_step_4 (by decide) ?_
  refine pm_iadd dX7_step_5 ?_
  refine pm_istore_n dX7_step_6 (by decide) rfl rfl ?_
  refine pm_aload_n dX7_step_7 rfl ?_
  refine dx_gi (j := o0) hR dX7_step_8 fl_X7_59 (sp_Run_self hs0) rfl ?_
  refine pm_if_lt (tgt := 21) dX7_step_11 (by decide) (fun c1 => ?_) (fun c1 => ?_)
  · replace h := it_t c1 h
    cases h
    exact pm_vret dX7_step_21 rfl (Nat.le_refl _) (Nat.le_refl _) ⟨rfl, rfl, hR, rg_k0⟩
  · replace h := it_f c1 h
    refine pm_iload_n dX7_step_14 rfl ?_
    refine pm_sipush (v := 3000) dX7_step_15 (by decide) ?_
    refine pm_icmp_le (tgt := 22) dX7_step_18 (by decide) (fun c2 => ?_) (fun c2 => ?_)
    · replace h := it_t c2 h
      refine pm_aload_n dX7_step_22 rfl ?_
      refine pm_iconst (v := (-1)) dX7_step_23 (by decide) ?_
      obtain ⟨u3, hu4, h⟩ := lt1_ex h
      refine dx_pi (j := o0) hR rg_k0 dX7_step_24 fl_X7_66 (sp_Run_self hs0) rfl hu4 (fun w5 hR6 hk7 => ?_)
      refine pm_aload_n dX7_step_27 rfl ?_
      refine dx_gr (j := o0) (o := (o0 + 30)) hR6 dX7_step_28 fl_X7_46 (sp_Run_self hs0) rfl ?_
      refine pm_iload_n dX7_step_31 rfl ?_
      refine pm_aload_n dX7_step_32 rfl ?_
      refine dx_gr (j := o0) (o := (o0 + 30)) hR6 dX7_step_33 fl_X7_46 (sp_Run_self hs0) rfl ?_
      refine pm_aload_n dX7_step_36 rfl ?_
      refine dx_gi (j := o0) hR6 dX7_step_37 fl_X7_59 (sp_Run_self hs0) rfl ?_
      obtain ⟨c8, h⟩ := ck_some h
      refine dx_al (j := (o0 + 30)) hR6 dX7_step_40 (sp_Run_counter hs0) (vp_in_iff.mpr c8) ?_
      refine pm_iconst (v := 1) dX7_step_41 (by decide) ?_
      refine pm_iadd dX7_step_42 ?_
      refine pm_bipush (v := 64) dX7_step_43 (by decide) ?_
      refine pm_mmin (M := M_X7_step) dX7_step_45 mm_X7_140 mm_min_2 mm_init mm_min_4 (by decide) (Nat.le_refl _) (Nat.le_refl _) (Nat.le_of_ble_eq_true rfl) ?_
      obtain ⟨c9, h⟩ := ck_some h
      obtain ⟨u10, hu11, h⟩ := lt1_ex h
      refine dx_as (j := (o0 + 30)) hR6 hk7 dX7_step_48 (sp_Run_counter hs0) (vp_in_iff.mpr c9) hu11 (fun w12 hR13 hk14 => ?_)
      refine pm_aload_n dX7_step_49 rfl ?_
      refine dx_gr (j := o0) (o := (o0 + 31)) hR13 dX7_step_50 fl_X7_50 (sp_Run_self hs0) rfl ?_
      refine pm_iload_n dX7_step_53 rfl ?_
      refine pm_aload_n dX7_step_54 rfl ?_
      refine dx_gr (j := o0) (o := (o0 + 31)) hR13 dX7_step_55 fl_X7_50 (sp_Run_self hs0) rfl ?_
      refine pm_aload_n dX7_step_58 rfl ?_
      refine dx_gi (j := o0) hR13 dX7_step_59 fl_X7_59 (sp_Run_self hs0) rfl ?_
      obtain ⟨c15, h⟩ := ck_some h
      refine dx_al (j := (o0 + 31)) hR13 dX7_step_62 (sp_Run_outs hs0) (vp_in_iff.mpr c15) ?_
      obtain ⟨c16, h⟩ := ck_some h
      obtain ⟨u17, hu18, h⟩ := lt1_ex h
      refine dx_as (j := (o0 + 31)) hR13 hk14 dX7_step_63 (sp_Run_outs hs0) (vp_in_iff.mpr c16) hu18 (fun w19 hR20 hk21 => ?_)
      refine pm_aload_n dX7_step_64 rfl ?_
      refine dx_gr (j := o0) (o := (o0 + 32)) hR20 dX7_step_65 fl_X7_53 (sp_Run_self hs0) rfl ?_
      refine pm_iload_n dX7_step_68 rfl ?_
      refine pm_aload_n dX7_step_69 rfl ?_
      refine dx_gr (j := o0) (o := (o0 + 32)) hR20 dX7_step_70 fl_X7_53 (sp_Run_self hs0) rfl ?_
      refine pm_aload_n dX7_step_73 rfl ?_
      refine dx_gi (j := o0) hR20 dX7_step_74 fl_X7_59 (sp_Run_self hs0) rfl ?_
      obtain ⟨c22, h⟩ := ck_some h
      refine dx_al (j := (o0 + 32)) hR20 dX7_step_77 (sp_Run_check hs0) (vp_in_iff.mpr c22) ?_
      obtain ⟨c23, h⟩ := ck_some h
      obtain ⟨u24, hu25, h⟩ := lt1_ex h
      refine dx_as (j := (o0 + 32)) hR20 hk21 dX7_step_78 (sp_Run_check hs0) (vp_in_iff.mpr c23) hu25 (fun w26 hR27 hk28 => ?_)
      refine pm_aload_n dX7_step_79 rfl ?_
      refine dx_gr (j := o0) (o := (o0 + 33)) hR27 dX7_step_80 fl_X7_56 (sp_Run_self hs0) rfl ?_
      refine pm_iload_n dX7_step_83 rfl ?_
      refine pm_aload_n dX7_step_84 rfl ?_
      refine dx_gr (j := o0) (o := (o0 + 33)) hR27 dX7_step_85 fl_X7_56 (sp_Run_self hs0) rfl ?_
      refine pm_aload_n dX7_step_88 rfl ?_
      refine dx_gi (j := o0) hR27 dX7_step_89 fl_X7_59 (sp_Run_self hs0) rfl ?_
      obtain ⟨c29, h⟩ := ck_some h
      refine dx_al (j := (o0 + 33)) hR27 dX7_step_92 (sp_Run_top hs0) (vp_in_iff.mpr c29) ?_
      obtain ⟨c30, h⟩ := ck_some h
      obtain ⟨u31, hu32, h⟩ := lt1_ex h
      refine dx_as (j := (o0 + 33)) hR27 hk28 dX7_step_93 (sp_Run_top hs0) (vp_in_iff.mpr c30) hu32 (fun w33 hR34 hk35 => ?_)
      refine pm_aload_n dX7_step_94 rfl ?_
      refine pm_aload_n dX7_step_95 rfl ?_
      refine dx_gr (j := o0) (o := (o0 + 30)) hR34 dX7_step_96 fl_X7_46 (sp_Run_self hs0) rfl ?_
      refine pm_aload_n dX7_step_99 rfl ?_
      refine dx_gi (j := o0) hR34 dX7_step_100 fl_X7_59 (sp_Run_self hs0) rfl ?_
      obtain ⟨c36, h⟩ := ck_some h
      refine dx_al (j := (o0 + 30)) hR34 dX7_step_103 (sp_Run_counter hs0) (vp_in_iff.mpr c36) ?_
      refine pm_aload_n dX7_step_104 rfl ?_
      obtain ⟨r37, h38, h⟩ := ob_some h
      refine dx_cSi (M := M_X7_step) (Mc := M_X8_perform) (dc := 5) (As := [.ref (b + o0), .int (rA u31 (o0 + 30) (rF u31 o0 9)), .ref (b + 6)]) (st := []) hk35 dX7_step_105 ml_X7_146 (by decide) (Nat.le_of_ble_eq_true rfl) rfl (k_X8_perform hR34 hs0 h38) (fun w39 hR40 hk41 => ?_)
      refine pm_istore_n dX7_step_108 (by decide) rfl rfl ?_
      refine pm_iload_n dX7_step_109 rfl ?_
      refine pm_if_eq (tgt := 121) dX7_step_110 (by decide) (fun c42 => ?_) (fun c42 => ?_)
      · replace h := it_t c42 h
        refine pm_lw (L' := [some (.ref (b + o0)), none, some (.int ((rF u o0 9) + 1)), none]) ⟨Or.inr rfl, Or.inl rfl, Or.inr rfl, Or.inl rfl, trivial⟩ ?_
        exact k_X7_step_j121 hR40 hk41 hs0 h
      · replace h := it_f c42 h
        refine pm_aload_n dX7_step_113 rfl ?_
        refine pm_bipush (v := 10) dX7_step_114 (by decide) ?_
        refine pm_iload_n dX7_step_116 rfl ?_
        refine pm_iadd dX7_step_117 ?_
        obtain ⟨u53, hu54, h⟩ := lt1_ex h
        refine dx_pi (j := o0) hR40 hk41 dX7_step_118 fl_X7_63 (sp_Run_self hs0) rfl hu54 (fun w55 hR56 hk57 => ?_)
        refine pm_lw (L' := [some (.ref (b + o0)), none, some (.int ((rF u o0 9) + 1)), none]) ⟨Or.inr rfl, Or.inl rfl, Or.inr rfl, Or.inl rfl, trivial⟩ ?_
        exact k_X7_step_j121 hR56 hk57 hs0 h
    · replace h := it_f c2 h
      cases h
      exact pm_vret dX7_step_21 rfl (Nat.le_refl _) (Nat.le_refl _) ⟨rfl, rfl, hR, rg_k0⟩
def g_X7_putByPoke (F : Nat) (o0 : Nat) (x1 : Int32) (x2 : Int32) (x3 : Int32) (u : rg_U) : Option (Int32 × rg_U) :=
  ob (g_X3_addPoke F (o0 + 6) (rF u o0 9) x1 x2 x3 u) (fun r1 => ob (g_X6_add F (o0 + 12) (rF r1 o0 9) x1 x2 x3 r1) (fun r6 => ob (g_X6_restLatestOn F (o0 + 12) (-1) ((rF r6.2 (o0 + 6) 5) - 1) (-1) (-1) r6.2) (fun r11 => ck (r6.1 = 0 ∨ r6.1 = 1) (some (r6.1, r11)))))
set_option maxHeartbeats 4000000 in
set_option maxRecDepth 100000 in
theorem k_X7_putByPoke {gs : List String} {ro : pm_RO} {n : Nat} {w : Nat → va_E} {b : Nat} {u : rg_U} {F : Nat} {o0 : Nat} {x1 : Int32} {x2 : Int32} {x3 : Int32} {z : (Int32 × rg_U)} (hR : rg shC b u n w) (hs0 : sp_Run o0) (h : g_X7_putByPoke F o0 x1 x2 x3 u = some z) : pm_Met gs ro M_X7_putByPoke 3 0 0 [.ref (b + o0), .int x1, .int x2, .int x3] n w (rg_post shC b n w (some (.int z.1)) z.2) := by
  unfold g_X7_putByPoke at h
  refine pm_ofX in_X7_putByPoke (Nat.le_of_ble_eq_true rfl) rfl (L := [some (.ref (b + o0)), some (.int x1), some (.int x2), some (.int x3), none]) rfl ?_
  refine pm_aload_n dX7_putByPoke_0 rfl ?_
  refine dx_gr (j := o0) (o := (o0 + 6)) hR dX7_putByPoke_1 fl_X7_21 (sp_Run_self hs0) rfl ?_
  refine pm_aload_n dX7_putByPoke_4 rfl ?_
  refine dx_gi (j := o0) hR dX7_putByPoke_5 fl_X7_59 (sp_Run_self hs0) rfl ?_
  refine pm_iload_n dX7_putByPoke_8 rfl ?_
  refine pm_iload_n dX7_putByPoke_9 rfl ?_
  refine pm_iload_n dX7_putByPoke_10 rfl ?_
  obtain ⟨r1, h2, h⟩ := ob_some h
  refine dx_cVv (j := (o0 + 6)) (M := M_X7_putByPoke) (Mc := M_X3_addPoke) (dc := 1) (As := [.int (rF u o0 9), .int x1, .int x2, .int x3]) (st := []) hR rg_k0 dX7_putByPoke_11 ml_X7_156 ⟨TX3, 6, rfl⟩ (sp_Log_self (sp_Run_log hs0)) (by decide) (Nat.le_of_ble_eq_true rfl) rfl (k_X3_addPoke hR (sp_Run_log hs0) h2) (fun w3 hR4 hk5 => ?_)
  refine pm_aload_n dX7_putByPoke_14 rfl ?_
  refine dx_gr (j := o0) (o := (o0 + 12)) hR4 dX7_putByPoke_15 fl_X7_28 (sp_Run_self hs0) rfl ?_
  refine pm_aload_n dX7_putByPoke_18 rfl ?_
  refine dx_gi (j := o0) hR4 dX7_putByPoke_19 fl_X7_59 (sp_Run_self hs0) rfl ?_
  refine pm_iload_n dX7_putByPoke_22 rfl ?_
  refine pm_iload_n dX7_putByPoke_23 rfl ?_
  refine pm_iload_n dX7_putByPoke_24 rfl ?_
  obtain ⟨r6, h7, h⟩ := ob_some h
  refine dx_cVi (j := (o0 + 12)) (M := M_X7_putByPoke) (Mc := M_X6_add) (dc := 2) (As := [.int (rF r1 o0 9), .int x1, .int x2, .int x3]) (st := []) hR4 hk5 dX7_putByPoke_25 ml_X7_160 ⟨TX6, 12, rfl⟩ (sp_Puts_self (sp_Run_puts hs0)) (by decide) (Nat.le_of_ble_eq_true rfl) rfl (k_X6_add hR4 (sp_Run_puts hs0) h7) (fun w8 hR9 hk10 => ?_)
  refine pm_istore dX7_putByPoke_28 (by decide) rfl rfl ?_
  refine pm_aload_n dX7_putByPoke_30 rfl ?_
  refine dx_gr (j := o0) (o := (o0 + 12)) hR9 dX7_putByPoke_31 fl_X7_28 (sp_Run_self hs0) rfl ?_
  refine pm_iconst (v := (-1)) dX7_putByPoke_34 (by decide) ?_
  refine pm_aload_n dX7_putByPoke_35 rfl ?_
  refine dx_gr (j := o0) (o := (o0 + 6)) hR9 dX7_putByPoke_36 fl_X7_21 (sp_Run_self hs0) rfl ?_
  refine dx_gi (j := (o0 + 6)) hR9 dX7_putByPoke_39 fl_X7_98 (sp_Log_self (sp_Run_log hs0)) rfl ?_
  refine pm_iconst (v := 1) dX7_putByPoke_42 (by decide) ?_
  refine pm_isub dX7_putByPoke_43 ?_
  refine pm_iconst (v := (-1)) dX7_putByPoke_44 (by decide) ?_
  refine pm_iconst (v := (-1)) dX7_putByPoke_45 (by decide) ?_
  obtain ⟨r11, h12, h⟩ := ob_some h
  refine dx_cVv (j := (o0 + 12)) (M := M_X7_putByPoke) (Mc := M_X6_restLatestOn) (dc := 1) (As := [.int (-1), .int ((rF r6.2 (o0 + 6) 5) - 1), .int (-1), .int (-1)]) (st := []) hR9 hk10 dX7_putByPoke_46 ml_X7_164 ⟨TX6, 12, rfl⟩ (sp_Puts_self (sp_Run_puts hs0)) (by decide) (Nat.le_of_ble_eq_true rfl) rfl (k_X6_restLatestOn hR9 (sp_Run_puts hs0) h12) (fun w13 hR14 hk15 => ?_)
  refine pm_iload dX7_putByPoke_49 rfl ?_
  obtain ⟨c16, h⟩ := ck_some h
  cases h
  exact pm_zret dX7_putByPoke_51 rfl c16 (Nat.le_refl _) (Nat.le_refl _) ⟨rfl, rfl, hR14, hk15⟩
def g_X7_goBack (F : Nat) (o0 : Nat) (x1 : Int32) (u : rg_U) : Option rg_U :=
  ob (g_X7_hasTime F o0 x1 u) (fun r1 => if r1 = 0 then (some u) else (ob (g_X3_dropBehind F (o0 + 6) x1 u) (fun r4 => ob (g_X6_dropBehind F (o0 + 12) x1 r4) (fun r9 => ob (g_X1_dropFrom F (o0 + 24) x1 r9) (fun r14 => ob (g_X2_dropAbove F (o0 + 28) x1 r14) (fun r19 => lt1 (sF r19 o0 9 x1) (fun u24 => lt1 (sF u24 o0 10 0) (fun u29 => lt1 (sF u29 o0 13 ((rF u29 o0 13) + 1)) (fun u34 => some u34)))))))))
set_option maxHeartbeats 4000000 in
set_option maxRecDepth 100000 in
theorem k_X7_goBack {gs : List String} {ro : pm_RO} {n : Nat} {w : Nat → va_E} {b : Nat} {u : rg_U} {F : Nat} {o0 : Nat} {x1 : Int32} {z : rg_U} (hR : rg shC b u n w) (hs0 : sp_Run o0) (h : g_X7_goBack F o0 x1 u = some z) : pm_Met gs ro M_X7_goBack 3 0 0 [.ref (b + o0), .int x1, .ref (b + 6)] n w (rg_post shC b n w none z) := by
  unfold g_X7_goBack at h
  refine pm_ofX in_X7_goBack (Nat.le_of_ble_eq_true rfl) rfl (L := [some (.ref (b + o0)), some (.int x1), some (.ref (b + 6))]) rfl ?_
  refine pm_aload_n dX7_goBack_0 rfl ?_
  refine pm_iload_n dX7_goBack_1 rfl ?_
  obtain ⟨r1, h2, h⟩ := ob_some h
  refine dx_cVp (j := o0) (M := M_X7_goBack) (Mc := M_X7_hasTime) (dc := 0) (As := [.int x1]) (st := []) hR dX7_goBack_2 ml_X7_109 ⟨TX7, 15, rfl⟩ (sp_Run_self hs0) (by decide) (Nat.le_of_ble_eq_true rfl) rfl (k_X7_hasTime hR hs0 h2) ?_
  refine pm_if_ne (tgt := 9) dX7_goBack_5 (by decide) (fun c3 => ?_) (fun c3 => ?_)
  · replace h := it_f c3 h
    refine pm_aload_n dX7_goBack_9 rfl ?_
    refine dx_gr (j := o0) (o := (o0 + 6)) hR dX7_goBack_10 fl_X7_21 (sp_Run_self hs0) rfl ?_
    refine pm_iload_n dX7_goBack_13 rfl ?_
    refine pm_aload_n dX7_goBack_14 rfl ?_
    obtain ⟨r4, h5, h⟩ := ob_some h
    refine dx_cVv (j := (o0 + 6)) (M := M_X7_goBack) (Mc := M_X3_dropBehind) (dc := 2) (As := [.int x1, .ref (b + 6)]) (st := []) hR rg_k0 dX7_goBack_15 ml_X7_175 ⟨TX3, 6, rfl⟩ (sp_Log_self (sp_Run_log hs0)) (by decide) (Nat.le_of_ble_eq_true rfl) rfl (k_X3_dropBehind hR (sp_Run_log hs0) h5) (fun w6 hR7 hk8 => ?_)
    refine pm_aload_n dX7_goBack_18 rfl ?_
    refine dx_gr (j := o0) (o := (o0 + 12)) hR7 dX7_goBack_19 fl_X7_28 (sp_Run_self hs0) rfl ?_
    refine pm_iload_n dX7_goBack_22 rfl ?_
    obtain ⟨r9, h10, h⟩ := ob_some h
    refine dx_cVv (j := (o0 + 12)) (M := M_X7_goBack) (Mc := M_X6_dropBehind) (dc := 2) (As := [.int x1]) (st := []) hR7 hk8 dX7_goBack_23 ml_X7_179 ⟨TX6, 12, rfl⟩ (sp_Puts_self (sp_Run_puts hs0)) (by decide) (Nat.le_of_ble_eq_true rfl) rfl (k_X6_dropBehind hR7 (sp_Run_puts hs0) h10) (fun w11 hR12 hk13 => ?_)
    refine pm_aload_n dX7_goBack_26 rfl ?_
    refine dx_gr (j := o0) (o := (o0 + 24)) hR12 dX7_goBack_27 fl_X7_35 (sp_Run_self hs0) rfl ?_
    refine pm_iload_n dX7_goBack_30 rfl ?_
    obtain ⟨r14, h15, h⟩ := ob_some h
    refine dx_cVv (j := (o0 + 24)) (M := M_X7_goBack) (Mc := M_X1_dropFrom) (dc := 1) (As := [.int x1]) (st := []) hR12 hk13 dX7_goBack_31 ml_X7_181 ⟨TX1, 4, rfl⟩ (sp_Calls_self (sp_Run_calls hs0)) (by decide) (Nat.le_of_ble_eq_true rfl) rfl (k_X1_dropFrom hR12 (sp_Run_calls hs0) h15) (fun w16 hR17 hk18 => ?_)
    refine pm_aload_n dX7_goBack_34 rfl ?_
    refine dx_gr (j := o0) (o := (o0 + 28)) hR17 dX7_goBack_35 fl_X7_42 (sp_Run_self hs0) rfl ?_
    refine pm_iload_n dX7_goBack_38 rfl ?_
    obtain ⟨r19, h20, h⟩ := ob_some h
    refine dx_cVv (j := (o0 + 28)) (M := M_X7_goBack) (Mc := M_X2_dropAbove) (dc := 2) (As := [.int x1]) (st := []) hR17 hk18 dX7_goBack_39 ml_X7_184 ⟨TX2, 5, rfl⟩ (sp_Holding_self (sp_Run_holding hs0)) (by decide) (Nat.le_of_ble_eq_true rfl) rfl (k_X2_dropAbove hR17 (sp_Run_holding hs0) h20) (fun w21 hR22 hk23 => ?_)
    refine pm_aload_n dX7_goBack_42 rfl ?_
    refine pm_iload_n dX7_goBack_43 rfl ?_
    obtain ⟨u24, hu25, h⟩ := lt1_ex h
    refine dx_pi (j := o0) hR22 hk23 dX7_goBack_44 fl_X7_59 (sp_Run_self hs0) rfl hu25 (fun w26 hR27 hk28 => ?_)
    refine pm_aload_n dX7_goBack_47 rfl ?_
    refine pm_iconst (v := 0) dX7_goBack_48 (by decide) ?_
    obtain ⟨u29, hu30, h⟩ := lt1_ex h
    refine dx_pi (j := o0) hR27 hk28 dX7_goBack_49 fl_X7_63 (sp_Run_self hs0) rfl hu30 (fun w31 hR32 hk33 => ?_)
    refine pm_aload_n dX7_goBack_52 rfl ?_
    refine pm_dup dX7_goBack_53 rfl ?_
    refine dx_gi (j := o0) hR32 dX7_goBack_54 fl_X7_72 (sp_Run_self hs0) rfl ?_
    refine pm_iconst (v := 1) dX7_goBack_57 (by decide) ?_
    refine pm_iadd dX7_goBack_58 ?_
    obtain ⟨u34, hu35, h⟩ := lt1_ex h
    refine dx_pi (j := o0) hR32 hk33 dX7_goBack_59 fl_X7_72 (sp_Run_self hs0) rfl hu35 (fun w36 hR37 hk38 => ?_)
    cases h
    exact pm_vret dX7_goBack_62 rfl (Nat.le_refl _) (Nat.le_refl _) ⟨rfl, rfl, hR37, hk38⟩
  · replace h := it_t c3 h
    cases h
    exact pm_vret dX7_goBack_8 rfl (Nat.le_refl _) (Nat.le_refl _) ⟨rfl, rfl, hR, rg_k0⟩
def g_X9_fits (x0 : Int32) (x1 : Int32) : Int32 :=
  if x0 = 1 then (if x1 < 0 then (0) else (if 8 ≤ x1 then (0) else (1))) else if x0 = 2 then ((g_X9_isInstructionPlace x1)) else if x0 = 3 then (if x1 = 0 then (1) else (if x1 = 1 then (1) else (0))) else if x0 = 4 then (if x1 < 1 then (0) else (if 1000 < x1 then (0) else (1))) else (if x0 = 0 then (1) else (0))
theorem g_X9_fits_b {x0 : Int32} {x1 : Int32} : g_X9_fits x0 x1 = 0 ∨ g_X9_fits x0 x1 = 1 := by
  unfold g_X9_fits
  repeat' (first | exact Or.inl rfl | exact Or.inr rfl | exact g_X9_isInstructionPlace_b | refine it_b ?_ ?_)
set_option maxHeartbeats 4000000 in
set_option maxRecDepth 100000 in
theorem k_X9_fits {gs : List String} {ro : pm_RO} {n : Nat} {w : Nat → va_E} {x0 : Int32} {x1 : Int32} {z : Int32} (h : g_X9_fits x0 x1 = z) : pm_Met gs ro M_X9_fits 1 0 0 [.int x0, .int x1] n w (pm_p n w (some (.int z))) := by
  unfold g_X9_fits at h
  refine pm_ofX in_X9_fits (Nat.le_of_ble_eq_true rfl) rfl (L := [some (.int x0), some (.int x1)]) rfl ?_
  refine pm_iload_n dX9_fits_0 rfl ?_
  by_cases t1 : x0 = 1
  · replace h := it_t t1 h
    refine pm_tableIn (off := 31) (tgt := 32) dX9_fits_1 (by rw [t1]; decide) (by rw [t1]; decide) (by rw [t1]; rfl) (by decide) ?_
    refine pm_iload_n dX9_fits_32 rfl ?_
    refine pm_if_lt (tgt := 46) dX9_fits_33 (by decide) (fun c2 => ?_) (fun c2 => ?_)
    · replace h := it_t c2 h
      refine pm_iconst (v := 0) dX9_fits_46 (by decide) ?_
      subst h
      exact pm_zret dX9_fits_47 rfl (Or.inl rfl) (Nat.le_refl _) (Nat.le_refl _) ⟨rfl, rfl, rfl⟩
    · replace h := it_f c2 h
      refine pm_iload_n dX9_fits_36 rfl ?_
      refine pm_bipush (v := 8) dX9_fits_37 (by decide) ?_
      refine pm_icmp_ge (tgt := 46) dX9_fits_39 (by decide) (fun c3 => ?_) (fun c3 => ?_)
      · replace h := it_t c3 h
        refine pm_iconst (v := 0) dX9_fits_46 (by decide) ?_
        subst h
        exact pm_zret dX9_fits_47 rfl (Or.inl rfl) (Nat.le_refl _) (Nat.le_refl _) ⟨rfl, rfl, rfl⟩
      · replace h := it_f c3 h
        refine pm_iconst (v := 1) dX9_fits_42 (by decide) ?_
        refine pm_goto (tgt := 47) dX9_fits_43 (by decide) ?_
        subst h
        exact pm_zret dX9_fits_47 rfl (Or.inr rfl) (Nat.le_refl _) (Nat.le_refl _) ⟨rfl, rfl, rfl⟩
  replace h := it_f t1 h
  by_cases t4 : x0 = 2
  · replace h := it_t t4 h
    refine pm_tableIn (off := 47) (tgt := 48) dX9_fits_1 (by rw [t4]; decide) (by rw [t4]; decide) (by rw [t4]; rfl) (by decide) ?_
    refine pm_iload_n dX9_fits_48 rfl ?_
    refine dx_cSp (M := M_X9_fits) (Mc := M_X9_isInstructionPlace) (dc := 0) (As := [.int x1]) (st := []) dX9_fits_49 ml_X9_70 (by decide) (Nat.le_of_ble_eq_true rfl) rfl (k_X9_isInstructionPlace rfl) ?_
    subst h
    exact pm_zret dX9_fits_52 rfl g_X9_isInstructionPlace_b (Nat.le_refl _) (Nat.le_refl _) ⟨rfl, rfl, rfl⟩
  replace h := it_f t4 h
  by_cases t5 : x0 = 3
  · replace h := it_t t5 h
    refine pm_tableIn (off := 52) (tgt := 53) dX9_fits_1 (by rw [t5]; decide) (by rw [t5]; decide) (by rw [t5]; rfl) (by decide) ?_
    refine pm_iload_n dX9_fits_53 rfl ?_
    refine pm_if_eq (tgt := 62) dX9_fits_54 (by decide) (fun c6 => ?_) (fun c6 => ?_)
    · replace h := it_t c6 h
      refine pm_iconst (v := 1) dX9_fits_62 (by decide) ?_
      refine pm_goto (tgt := 67) dX9_fits_63 (by decide) ?_
      subst h
      exact pm_zret dX9_fits_67 rfl (Or.inr rfl) (Nat.le_refl _) (Nat.le_refl _) ⟨rfl, rfl, rfl⟩
    · replace h := it_f c6 h
      refine pm_iload_n dX9_fits_57 rfl ?_
      refine pm_iconst (v := 1) dX9_fits_58 (by decide) ?_
      refine pm_icmp_ne (tgt := 66) dX9_fits_59 (by decide) (fun c7 => ?_) (fun c7 => ?_)
      · replace h := it_f c7 h
        refine pm_iconst (v := 0) dX9_fits_66 (by decide) ?_
        subst h
        exact pm_zret dX9_fits_67 rfl (Or.inl rfl) (Nat.le_refl _) (Nat.le_refl _) ⟨rfl, rfl, rfl⟩
      · replace h := it_t c7 h
        refine pm_iconst (v := 1) dX9_fits_62 (by decide) ?_
        refine pm_goto (tgt := 67) dX9_fits_63 (by decide) ?_
        subst h
        exact pm_zret dX9_fits_67 rfl (Or.inr rfl) (Nat.le_refl _) (Nat.le_refl _) ⟨rfl, rfl, rfl⟩
  replace h := it_f t5 h
  by_cases t8 : x0 = 4
  · replace h := it_t t8 h
    refine pm_tableIn (off := 67) (tgt := 68) dX9_fits_1 (by rw [t8]; decide) (by rw [t8]; decide) (by rw [t8]; rfl) (by decide) ?_
    refine pm_iload_n dX9_fits_68 rfl ?_
    refine pm_iconst (v := 1) dX9_fits_69 (by decide) ?_
    refine pm_icmp_lt (tgt := 84) dX9_fits_70 (by decide) (fun c9 => ?_) (fun c9 => ?_)
    · replace h := it_t c9 h
      refine pm_iconst (v := 0) dX9_fits_84 (by decide) ?_
      subst h
      exact pm_zret dX9_fits_85 rfl (Or.inl rfl) (Nat.le_refl _) (Nat.le_refl _) ⟨rfl, rfl, rfl⟩
    · replace h := it_f c9 h
      refine pm_iload_n dX9_fits_73 rfl ?_
      refine pm_sipush (v := 1000) dX9_fits_74 (by decide) ?_
      refine pm_icmp_gt (tgt := 84) dX9_fits_77 (by decide) (fun c10 => ?_) (fun c10 => ?_)
      · replace h := it_t c10 h
        refine pm_iconst (v := 0) dX9_fits_84 (by decide) ?_
        subst h
        exact pm_zret dX9_fits_85 rfl (Or.inl rfl) (Nat.le_refl _) (Nat.le_refl _) ⟨rfl, rfl, rfl⟩
      · replace h := it_f c10 h
        refine pm_iconst (v := 1) dX9_fits_80 (by decide) ?_
        refine pm_goto (tgt := 85) dX9_fits_81 (by decide) ?_
        subst h
        exact pm_zret dX9_fits_85 rfl (Or.inr rfl) (Nat.le_refl _) (Nat.le_refl _) ⟨rfl, rfl, rfl⟩
  replace h := it_f t8 h
  refine pm_tableOut (tgt := 86) dX9_fits_1 (by have h0 := lv_neT t1 (show (1 : Int32).toInt = 1 from by decide); have h1 := lv_neT t4 (show (2 : Int32).toInt = 2 from by decide); have h2 := lv_neT t5 (show (3 : Int32).toInt = 3 from by decide); have h3 := lv_neT t8 (show (4 : Int32).toInt = 4 from by decide); omega) (by decide) ?_
  refine pm_iload_n dX9_fits_86 rfl ?_
  refine pm_if_ne (tgt := 94) dX9_fits_87 (by decide) (fun c11 => ?_) (fun c11 => ?_)
  · replace h := it_f c11 h
    refine pm_iconst (v := 0) dX9_fits_94 (by decide) ?_
    subst h
    exact pm_zret dX9_fits_95 rfl (Or.inl rfl) (Nat.le_refl _) (Nat.le_refl _) ⟨rfl, rfl, rfl⟩
  · replace h := it_t c11 h
    refine pm_iconst (v := 1) dX9_fits_90 (by decide) ?_
    refine pm_goto (tgt := 95) dX9_fits_91 (by decide) ?_
    subst h
    exact pm_zret dX9_fits_95 rfl (Or.inr rfl) (Nat.le_refl _) (Nat.le_refl _) ⟨rfl, rfl, rfl⟩
def g_X9_isInstruction (F : Nat) (x0 : Int32) (x1 : Int32) (x2 : Int32) (x3 : Int32) (u : rg_U) : Option Int32 :=
  if x0 < 0 then (some 0) else (if 23 ≤ x0 then (some 0) else (if 23 ≤ x0 then (some 0) else (if x0 < 23 then (ck (inb x0 23) (if (g_X9_fits (askA x0.toNatClampNeg) x1) = 0 then (some 0) else (ck (inb x0 23) (if (g_X9_fits (askB x0.toNatClampNeg) x2) = 0 then (some 0) else (ck (inb x0 23) (if (g_X9_fits (askC x0.toNatClampNeg) x3) = 0 then (some 0) else (some 1))))))) else (some 0))))
set_option maxHeartbeats 4000000 in
set_option maxRecDepth 100000 in
theorem k_X9_isInstruction {gs : List String} {ro : pm_RO} {n : Nat} {w : Nat → va_E} {b : Nat} {u : rg_U} {F : Nat} {x0 : Int32} {x1 : Int32} {x2 : Int32} {x3 : Int32} {z : Int32} (hst : st_ok gs ro) (hR : rg shC b u n w) (h : g_X9_isInstruction F x0 x1 x2 x3 u = some z) : pm_Met gs ro M_X9_isInstruction 2 0 0 [.int x0, .int x1, .int x2, .int x3] n w (pm_p n w (some (.int z))) := by
  unfold g_X9_isInstruction at h
  refine pm_ofX in_X9_isInstruction (Nat.le_of_ble_eq_true rfl) rfl (L := [some (.int x0), some (.int x1), some (.int x2), some (.int x3)]) rfl ?_
  refine pm_iload_n dX9_isInstruction_0 rfl ?_
  refine pm_if_lt (tgt := 28) dX9_isInstruction_1 (by decide) (fun c1 => ?_) (fun c1 => ?_)
  · replace h := it_t c1 h
    refine pm_iconst (v := 0) dX9_isInstruction_28 (by decide) ?_
    cases h
    exact pm_zret dX9_isInstruction_29 rfl (Or.inl rfl) (Nat.le_refl _) (Nat.le_refl _) ⟨rfl, rfl, rfl⟩
  · replace h := it_f c1 h
    refine pm_iload_n dX9_isInstruction_4 rfl ?_
    refine pm_gets (j := 0) dX9_isInstruction_5 hst.1 sl_X9_365 ?_
    refine pm_tlen (v := 23) dX9_isInstruction_8 hst.2.2.2.1 (by decide) ?_
    refine pm_icmp_ge (tgt := 28) dX9_isInstruction_9 (by decide) (fun c2 => ?_) (fun c2 => ?_)
    · replace h := it_t c2 h
      refine pm_iconst (v := 0) dX9_isInstruction_28 (by decide) ?_
      cases h
      exact pm_zret dX9_isInstruction_29 rfl (Or.inl rfl) (Nat.le_refl _) (Nat.le_refl _) ⟨rfl, rfl, rfl⟩
    · replace h := it_f c2 h
      refine pm_iload_n dX9_isInstruction_12 rfl ?_
      refine pm_gets (j := 1) dX9_isInstruction_13 hst.2.1 sl_X9_369 ?_
      refine pm_tlen (v := 23) dX9_isInstruction_16 hst.2.2.2.2.1 (by decide) ?_
      refine pm_icmp_ge (tgt := 28) dX9_isInstruction_17 (by decide) (fun c3 => ?_) (fun c3 => ?_)
      · replace h := it_t c3 h
        refine pm_iconst (v := 0) dX9_isInstruction_28 (by decide) ?_
        cases h
        exact pm_zret dX9_isInstruction_29 rfl (Or.inl rfl) (Nat.le_refl _) (Nat.le_refl _) ⟨rfl, rfl, rfl⟩
      · replace h := it_f c3 h
        refine pm_iload_n dX9_isInstruction_20 rfl ?_
        refine pm_gets (j := 2) dX9_isInstruction_21 hst.2.2.1 sl_X9_372 ?_
        refine pm_tlen (v := 23) dX9_isInstruction_24 hst.2.2.2.2.2 (by decide) ?_
        refine pm_icmp_lt (tgt := 30) dX9_isInstruction_25 (by decide) (fun c4 => ?_) (fun c4 => ?_)
        · replace h := it_t c4 h
          refine pm_gets (j := 0) dX9_isInstruction_30 hst.1 sl_X9_365 ?_
          refine pm_iload_n dX9_isInstruction_33 rfl ?_
          obtain ⟨c5, h⟩ := ck_some h
          refine pm_tld dX9_isInstruction_34 hst.2.2.2.1 (vp_in_iff.mpr c5) ?_
          refine pm_iload_n dX9_isInstruction_35 rfl ?_
          refine dx_cSp (M := M_X9_isInstruction) (Mc := M_X9_fits) (dc := 1) (As := [.int (askA x0.toNatClampNeg), .int x1]) (st := []) dX9_isInstruction_36 ml_X9_375 (by decide) (Nat.le_of_ble_eq_true rfl) rfl (k_X9_fits rfl) ?_
          refine pm_if_eq (tgt := 70) dX9_isInstruction_39 (by decide) (fun c6 => ?_) (fun c6 => ?_)
          · replace h := it_t c6 h
            refine pm_iconst (v := 0) dX9_isInstruction_70 (by decide) ?_
            cases h
            exact pm_zret dX9_isInstruction_71 rfl (Or.inl rfl) (Nat.le_refl _) (Nat.le_refl _) ⟨rfl, rfl, rfl⟩
          · replace h := it_f c6 h
            refine pm_gets (j := 1) dX9_isInstruction_42 hst.2.1 sl_X9_369 ?_
            refine pm_iload_n dX9_isInstruction_45 rfl ?_
            obtain ⟨c7, h⟩ := ck_some h
            refine pm_tld dX9_isInstruction_46 hst.2.2.2.2.1 (vp_in_iff.mpr c7) ?_
            refine pm_iload_n dX9_isInstruction_47 rfl ?_
            refine dx_cSp (M := M_X9_isInstruction) (Mc := M_X9_fits) (dc := 1) (As := [.int (askB x0.toNatClampNeg), .int x2]) (st := []) dX9_isInstruction_48 ml_X9_375 (by decide) (Nat.le_of_ble_eq_true rfl) rfl (k_X9_fits rfl) ?_
            refine pm_if_eq (tgt := 70) dX9_isInstruction_51 (by decide) (fun c8 => ?_) (fun c8 => ?_)
            · replace h := it_t c8 h
              refine pm_iconst (v := 0) dX9_isInstruction_70 (by decide) ?_
              cases h
              exact pm_zret dX9_isInstruction_71 rfl (Or.inl rfl) (Nat.le_refl _) (Nat.le_refl _) ⟨rfl, rfl, rfl⟩
            · replace h := it_f c8 h
              refine pm_gets (j := 2) dX9_isInstruction_54 hst.2.2.1 sl_X9_372 ?_
              refine pm_iload_n dX9_isInstruction_57 rfl ?_
              obtain ⟨c9, h⟩ := ck_some h
              refine pm_tld dX9_isInstruction_58 hst.2.2.2.2.2 (vp_in_iff.mpr c9) ?_
              refine pm_iload_n dX9_isInstruction_59 rfl ?_
              refine dx_cSp (M := M_X9_isInstruction) (Mc := M_X9_fits) (dc := 1) (As := [.int (askC x0.toNatClampNeg), .int x3]) (st := []) dX9_isInstruction_60 ml_X9_375 (by decide) (Nat.le_of_ble_eq_true rfl) rfl (k_X9_fits rfl) ?_
              refine pm_if_eq (tgt := 70) dX9_isInstruction_63 (by decide) (fun c10 => ?_) (fun c10 => ?_)
              · replace h := it_t c10 h
                refine pm_iconst (v := 0) dX9_isInstruction_70 (by decide) ?_
                cases h
                exact pm_zret dX9_isInstruction_71 rfl (Or.inl rfl) (Nat.le_refl _) (Nat.le_refl _) ⟨rfl, rfl, rfl⟩
              · replace h := it_f c10 h
                refine pm_iconst (v := 1) dX9_isInstruction_66 (by decide) ?_
                refine pm_goto (tgt := 71) dX9_isInstruction_67 (by decide) ?_
                cases h
                exact pm_zret dX9_isInstruction_71 rfl (Or.inr rfl) (Nat.le_refl _) (Nat.le_refl _) ⟨rfl, rfl, rfl⟩
        · replace h := it_f c4 h
          refine pm_iconst (v := 0) dX9_isInstruction_28 (by decide) ?_
          cases h
          exact pm_zret dX9_isInstruction_29 rfl (Or.inl rfl) (Nat.le_refl _) (Nat.le_refl _) ⟨rfl, rfl, rfl⟩
def g_X9_code_j28 (F : Nat) (l1 : Int32) (l2 : Int32) (l3 : Int32) (l4 : Int32) (l5 : Int32) (u : rg_U) : Option (Int32 × rg_U) :=
  ob (g_X5_write F 1 l1 l2 l3 l4 l5 u) (fun r3 => some (1, r3))
set_option maxHeartbeats 4000000 in
set_option maxRecDepth 100000 in
theorem k_X9_code_j28 {gs : List String} {ro : pm_RO} {n : Nat} {w w1 : Nat → va_E} {b : Nat} {u : rg_U} {F : Nat} {l1 : Int32} {l2 : Int32} {l3 : Int32} {l4 : Int32} {l5 : Int32} {z : (Int32 × rg_U)} (hst : st_ok gs ro) (hR : rg shC b u n w1) (hk : rg_k b shC.length w w1) (h : g_X9_code_j28 F l1 l2 l3 l4 l5 u = some z) : pm_X gs ro M_X9_code 3 0 0 0 0 28 [some (.ref (b + 0)), some (.int l1), some (.int l2), some (.int l3), some (.int l4), some (.int l5)] [] n w1 (rg_post shC b n w (some (.int z.1)) z.2) := by
  unfold g_X9_code_j28 at h
  refine pm_aload_n dX9_code_28 rfl ?_
  refine dx_gr (j := 0) (o := 1) hR dX9_code_29 fl_X9_12 rfl rfl ?_
  refine pm_iload_n dX9_code_32 rfl ?_
  refine pm_iload_n dX9_code_33 rfl ?_
  refine pm_iload_n dX9_code_34 rfl ?_
  refine pm_iload dX9_code_35 rfl ?_
  refine pm_iload dX9_code_37 rfl ?_
  obtain ⟨r3, h4, h⟩ := ob_some h
  refine dx_cVv (j := 1) (M := M_X9_code) (Mc := M_X5_write) (dc := 1) (As := [.int l1, .int l2, .int l3, .int l4, .int l5]) (st := []) hR hk dX9_code_39 ml_X9_78 ⟨TX5, 4, rfl⟩ rfl (by decide) (Nat.le_of_ble_eq_true rfl) rfl (k_X5_write hR sp_Program_1 h4) (fun w5 hR6 hk7 => ?_)
  refine pm_iconst (v := 1) dX9_code_42 (by decide) ?_
  cases h
  exact pm_zret dX9_code_43 rfl (Or.inr rfl) (Nat.le_refl _) (Nat.le_refl _) ⟨rfl, rfl, hR6, hk7⟩
def g_X9_code (F : Nat) (x1 : Int32) (x2 : Int32) (x3 : Int32) (x4 : Int32) (x5 : Int32) (u : rg_U) : Option (Int32 × rg_U) :=
  if (g_X9_isInstructionPlace x1) = 0 then (some (0, u)) else (if x2 = (-1) then (g_X9_code_j28 F x1 x2 x3 x4 x5 u) else (ob (g_X9_isInstruction F x2 x3 x4 x5 u) (fun r8 => if r8 = 0 then (some (0, u)) else (g_X9_code_j28 F x1 x2 x3 x4 x5 u))))
set_option maxHeartbeats 4000000 in
set_option maxRecDepth 100000 in
theorem k_X9_code {gs : List String} {ro : pm_RO} {n : Nat} {w : Nat → va_E} {b : Nat} {u : rg_U} {F : Nat} {x1 : Int32} {x2 : Int32} {x3 : Int32} {x4 : Int32} {x5 : Int32} {z : (Int32 × rg_U)} (hst : st_ok gs ro) (hR : rg shC b u n w) (h : g_X9_code F x1 x2 x3 x4 x5 u = some z) : pm_Met gs ro M_X9_code 3 0 0 [.ref (b + 0), .int x1, .int x2, .int x3, .int x4, .int x5] n w (rg_post shC b n w (some (.int z.1)) z.2) := by
  unfold g_X9_code at h
  refine pm_ofX in_X9_code (Nat.le_of_ble_eq_true rfl) rfl (L := [some (.ref (b + 0)), some (.int x1), some (.int x2), some (.int x3), some (.int x4), some (.int x5)]) rfl ?_
  refine pm_iload_n dX9_code_0 rfl ?_
  refine dx_cSp (M := M_X9_code) (Mc := M_X9_isInstructionPlace) (dc := 0) (As := [.int x1]) (st := []) dX9_code_1 ml_X9_70 (by decide) (Nat.le_of_ble_eq_true rfl) rfl (k_X9_isInstructionPlace rfl) ?_
  refine pm_if_ne (tgt := 9) dX9_code_4 (by decide) (fun c1 => ?_) (fun c1 => ?_)
  · replace h := it_f c1 h
    refine pm_iload_n dX9_code_9 rfl ?_
    refine pm_iconst (v := (-1)) dX9_code_10 (by decide) ?_
    refine pm_icmp_eq (tgt := 28) dX9_code_11 (by decide) (fun c2 => ?_) (fun c2 => ?_)
    · replace h := it_t c2 h
      exact k_X9_code_j28 hst hR rg_k0 h
    · replace h := it_f c2 h
      refine pm_iload_n dX9_code_14 rfl ?_
      refine pm_iload_n dX9_code_15 rfl ?_
      refine pm_iload dX9_code_16 rfl ?_
      refine pm_iload dX9_code_18 rfl ?_
      obtain ⟨r8, h9, h⟩ := ob_some h
      refine dx_cSp (M := M_X9_code) (Mc := M_X9_isInstruction) (dc := 2) (As := [.int x2, .int x3, .int x4, .int x5]) (st := []) dX9_code_20 ml_X9_74 (by decide) (Nat.le_of_ble_eq_true rfl) rfl (k_X9_isInstruction hst hR h9) ?_
      refine pm_if_ne (tgt := 28) dX9_code_23 (by decide) (fun c10 => ?_) (fun c10 => ?_)
      · replace h := it_f c10 h
        exact k_X9_code_j28 hst hR rg_k0 h
      · replace h := it_t c10 h
        refine pm_iconst (v := 0) dX9_code_26 (by decide) ?_
        cases h
        exact pm_zret dX9_code_27 rfl (Or.inl rfl) (Nat.le_refl _) (Nat.le_refl _) ⟨rfl, rfl, hR, rg_k0⟩
  · replace h := it_t c1 h
    refine pm_iconst (v := 0) dX9_code_7 (by decide) ?_
    cases h
    exact pm_zret dX9_code_8 rfl (Or.inl rfl) (Nat.le_refl _) (Nat.le_refl _) ⟨rfl, rfl, hR, rg_k0⟩
def g_X9_isUnit (x0 : Int32) : Int32 :=
  if x0 < 1 then (0) else (if 64 < x0 then (0) else (1))
theorem g_X9_isUnit_b {x0 : Int32} : g_X9_isUnit x0 = 0 ∨ g_X9_isUnit x0 = 1 := by
  unfold g_X9_isUnit
  repeat' (first | exact Or.inl rfl | exact Or.inr rfl | refine it_b ?_ ?_)
set_option maxHeartbeats 4000000 in
set_option maxRecDepth 100000 in
theorem k_X9_isUnit {gs : List String} {ro : pm_RO} {n : Nat} {w : Nat → va_E} {x0 : Int32} {z : Int32} (h : g_X9_isUnit x0 = z) : pm_Met gs ro M_X9_isUnit 0 0 0 [.int x0] n w (pm_p n w (some (.int z))) := by
  unfold g_X9_isUnit at h
  refine pm_ofX in_X9_isUnit (Nat.le_of_ble_eq_true rfl) rfl (L := [some (.int x0)]) rfl ?_
  refine pm_iload_n dX9_isUnit_0 rfl ?_
  refine pm_iconst (v := 1) dX9_isUnit_1 (by decide) ?_
  refine pm_icmp_lt (tgt := 15) dX9_isUnit_2 (by decide) (fun c1 => ?_) (fun c1 => ?_)
  · replace h := it_t c1 h
    refine pm_iconst (v := 0) dX9_isUnit_15 (by decide) ?_
    subst h
    exact pm_zret dX9_isUnit_16 rfl (Or.inl rfl) (Nat.le_refl _) (Nat.le_refl _) ⟨rfl, rfl, rfl⟩
  · replace h := it_f c1 h
    refine pm_iload_n dX9_isUnit_5 rfl ?_
    refine pm_bipush (v := 64) dX9_isUnit_6 (by decide) ?_
    refine pm_icmp_gt (tgt := 15) dX9_isUnit_8 (by decide) (fun c2 => ?_) (fun c2 => ?_)
    · replace h := it_t c2 h
      refine pm_iconst (v := 0) dX9_isUnit_15 (by decide) ?_
      subst h
      exact pm_zret dX9_isUnit_16 rfl (Or.inl rfl) (Nat.le_refl _) (Nat.le_refl _) ⟨rfl, rfl, rfl⟩
    · replace h := it_f c2 h
      refine pm_iconst (v := 1) dX9_isUnit_11 (by decide) ?_
      refine pm_goto (tgt := 16) dX9_isUnit_12 (by decide) ?_
      subst h
      exact pm_zret dX9_isUnit_16 rfl (Or.inr rfl) (Nat.le_refl _) (Nat.le_refl _) ⟨rfl, rfl, rfl⟩
def g_X9_isDepth (x0 : Int32) : Int32 :=
  if x0 < 1 then (0) else (if 8 < x0 then (0) else (1))
theorem g_X9_isDepth_b {x0 : Int32} : g_X9_isDepth x0 = 0 ∨ g_X9_isDepth x0 = 1 := by
  unfold g_X9_isDepth
  repeat' (first | exact Or.inl rfl | exact Or.inr rfl | refine it_b ?_ ?_)
set_option maxHeartbeats 4000000 in
set_option maxRecDepth 100000 in
theorem k_X9_isDepth {gs : List String} {ro : pm_RO} {n : Nat} {w : Nat → va_E} {x0 : Int32} {z : Int32} (h : g_X9_isDepth x0 = z) : pm_Met gs ro M_X9_isDepth 0 0 0 [.int x0] n w (pm_p n w (some (.int z))) := by
  unfold g_X9_isDepth at h
  refine pm_ofX in_X9_isDepth (Nat.le_of_ble_eq_true rfl) rfl (L := [some (.int x0)]) rfl ?_
  refine pm_iload_n dX9_isDepth_0 rfl ?_
  refine pm_iconst (v := 1) dX9_isDepth_1 (by decide) ?_
  refine pm_icmp_lt (tgt := 15) dX9_isDepth_2 (by decide) (fun c1 => ?_) (fun c1 => ?_)
  · replace h := it_t c1 h
    refine pm_iconst (v := 0) dX9_isDepth_15 (by decide) ?_
    subst h
    exact pm_zret dX9_isDepth_16 rfl (Or.inl rfl) (Nat.le_refl _) (Nat.le_refl _) ⟨rfl, rfl, rfl⟩
  · replace h := it_f c1 h
    refine pm_iload_n dX9_isDepth_5 rfl ?_
    refine pm_bipush (v := 8) dX9_isDepth_6 (by decide) ?_
    refine pm_icmp_gt (tgt := 15) dX9_isDepth_8 (by decide) (fun c2 => ?_) (fun c2 => ?_)
    · replace h := it_t c2 h
      refine pm_iconst (v := 0) dX9_isDepth_15 (by decide) ?_
      subst h
      exact pm_zret dX9_isDepth_16 rfl (Or.inl rfl) (Nat.le_refl _) (Nat.le_refl _) ⟨rfl, rfl, rfl⟩
    · replace h := it_f c2 h
      refine pm_iconst (v := 1) dX9_isDepth_11 (by decide) ?_
      refine pm_goto (tgt := 16) dX9_isDepth_12 (by decide) ?_
      subst h
      exact pm_zret dX9_isDepth_16 rfl (Or.inr rfl) (Nat.le_refl _) (Nat.le_refl _) ⟨rfl, rfl, rfl⟩
def g_X9_spacing (F : Nat) (x1 : Int32) (x2 : Int32) (u : rg_U) : Option (Int32 × rg_U) :=
  if (g_X9_isUnit x1) = 0 then (some (0, u)) else (if (g_X9_isDepth x2) = 0 then (some (0, u)) else (lt1 (sF u 0 9 x1) (fun u3 => lt1 (sF u3 0 10 x2) (fun u8 => some (1, u8)))))
set_option maxHeartbeats 4000000 in
set_option maxRecDepth 100000 in
theorem k_X9_spacing {gs : List String} {ro : pm_RO} {n : Nat} {w : Nat → va_E} {b : Nat} {u : rg_U} {F : Nat} {x1 : Int32} {x2 : Int32} {z : (Int32 × rg_U)} (hR : rg shC b u n w) (h : g_X9_spacing F x1 x2 u = some z) : pm_Met gs ro M_X9_spacing 1 0 0 [.ref (b + 0), .int x1, .int x2] n w (rg_post shC b n w (some (.int z.1)) z.2) := by
  unfold g_X9_spacing at h
  refine pm_ofX in_X9_spacing (Nat.le_of_ble_eq_true rfl) rfl (L := [some (.ref (b + 0)), some (.int x1), some (.int x2)]) rfl ?_
  refine pm_iload_n dX9_spacing_0 rfl ?_
  refine dx_cSp (M := M_X9_spacing) (Mc := M_X9_isUnit) (dc := 0) (As := [.int x1]) (st := []) dX9_spacing_1 ml_X9_82 (by decide) (Nat.le_of_ble_eq_true rfl) rfl (k_X9_isUnit rfl) ?_
  refine pm_if_eq (tgt := 14) dX9_spacing_4 (by decide) (fun c1 => ?_) (fun c1 => ?_)
  · replace h := it_t c1 h
    refine pm_iconst (v := 0) dX9_spacing_14 (by decide) ?_
    cases h
    exact pm_zret dX9_spacing_15 rfl (Or.inl rfl) (Nat.le_refl _) (Nat.le_refl _) ⟨rfl, rfl, hR, rg_k0⟩
  · replace h := it_f c1 h
    refine pm_iload_n dX9_spacing_7 rfl ?_
    refine dx_cSp (M := M_X9_spacing) (Mc := M_X9_isDepth) (dc := 0) (As := [.int x2]) (st := []) dX9_spacing_8 ml_X9_85 (by decide) (Nat.le_of_ble_eq_true rfl) rfl (k_X9_isDepth rfl) ?_
    refine pm_if_ne (tgt := 16) dX9_spacing_11 (by decide) (fun c2 => ?_) (fun c2 => ?_)
    · replace h := it_f c2 h
      refine pm_aload_n dX9_spacing_16 rfl ?_
      refine pm_iload_n dX9_spacing_17 rfl ?_
      obtain ⟨u3, hu4, h⟩ := lt1_ex h
      refine dx_pi (j := 0) hR rg_k0 dX9_spacing_18 fl_X9_55 rfl rfl hu4 (fun w5 hR6 hk7 => ?_)
      refine pm_aload_n dX9_spacing_21 rfl ?_
      refine pm_iload_n dX9_spacing_22 rfl ?_
      obtain ⟨u8, hu9, h⟩ := lt1_ex h
      refine dx_pi (j := 0) hR6 hk7 dX9_spacing_23 fl_X9_58 rfl rfl hu9 (fun w10 hR11 hk12 => ?_)
      refine pm_iconst (v := 1) dX9_spacing_26 (by decide) ?_
      cases h
      exact pm_zret dX9_spacing_27 rfl (Or.inr rfl) (Nat.le_refl _) (Nat.le_refl _) ⟨rfl, rfl, hR11, hk12⟩
    · replace h := it_t c2 h
      refine pm_iconst (v := 0) dX9_spacing_14 (by decide) ?_
      cases h
      exact pm_zret dX9_spacing_15 rfl (Or.inl rfl) (Nat.le_refl _) (Nat.le_refl _) ⟨rfl, rfl, hR, rg_k0⟩
def g_X9_begin (F : Nat)  (u : rg_U) : Option (Int32 × rg_U) :=
  lt1 (sG u 0 7 (some 116)) (fun u1 => om (rG u1 0 7) (none) (fun o6 => ck (isRn o6) (ob (g_X7_start F o6 1 (rF u1 0 9) (rF u1 0 10) u1) (fun r8 => ob (g_X4_clearInputs F r8) (fun r13 => ob (g_X5_size F 1 r13) (fun r18 => some (r18, r13)))))))
set_option maxHeartbeats 4000000 in
set_option maxRecDepth 100000 in
theorem k_X9_begin {gs : List String} {ro : pm_RO} {n : Nat} {w : Nat → va_E} {b : Nat} {u : rg_U} {F : Nat}  {z : (Int32 × rg_U)} (hR : rg shC b u n w) (h : g_X9_begin F u = some z) : pm_Met gs ro M_X9_begin 4 0 0 [.ref (b + 0)] n w (rg_post shC b n w (some (.int z.1)) z.2) := by
  unfold g_X9_begin at h
  refine pm_ofX in_X9_begin (Nat.le_of_ble_eq_true rfl) rfl (L := [some (.ref (b + 0))]) rfl ?_
  refine pm_aload_n dX9_begin_0 rfl ?_
  refine pm_aload_n dX9_begin_1 rfl ?_
  refine dx_gr (j := 0) (o := 116) hR dX9_begin_2 fl_X9_37 rfl rfl ?_
  obtain ⟨u1, hu2, h⟩ := lt1_ex h
  refine dx_pg (j := 0) (o := 116) hR rg_k0 dX9_begin_5 fl_X9_49 rfl rfl hu2 (fun w3 hR4 hk5 => ?_)
  refine pm_aload_n dX9_begin_8 rfl ?_
  cases q7 : (rG u1 0 7) with
  | none =>
    replace h := om_n q7 h
    refine dx_ggN (j := 0) hR4 dX9_begin_9 fl_X9_49 rfl rfl q7 ?_
    refine pm_aload_n dX9_begin_12 rfl ?_
    refine dx_gr (j := 0) (o := 1) hR4 dX9_begin_13 fl_X9_12 rfl rfl ?_
    refine pm_aload_n dX9_begin_16 rfl ?_
    refine dx_gi (j := 0) hR4 dX9_begin_17 fl_X9_55 rfl rfl ?_
    refine pm_aload_n dX9_begin_20 rfl ?_
    refine dx_gi (j := 0) hR4 dX9_begin_21 fl_X9_58 rfl rfl ?_
    exact absurd h (by simp)
  | some o6 =>
    replace h := om_s q7 h
    obtain ⟨c20, h⟩ := ck_some h
    have hs_o6 := run_sp c20
    refine dx_ggS (j := 0) hR4 dX9_begin_9 fl_X9_49 rfl rfl q7 ?_
    refine pm_aload_n dX9_begin_12 rfl ?_
    refine dx_gr (j := 0) (o := 1) hR4 dX9_begin_13 fl_X9_12 rfl rfl ?_
    refine pm_aload_n dX9_begin_16 rfl ?_
    refine dx_gi (j := 0) hR4 dX9_begin_17 fl_X9_55 rfl rfl ?_
    refine pm_aload_n dX9_begin_20 rfl ?_
    refine dx_gi (j := 0) hR4 dX9_begin_21 fl_X9_58 rfl rfl ?_
    obtain ⟨r8, h9, h⟩ := ob_some h
    refine dx_cVv (j := o6) (M := M_X9_begin) (Mc := M_X7_start) (dc := 3) (As := [.ref (b + 1), .int (rF u1 0 9), .int (rF u1 0 10)]) (st := []) hR4 hk5 dX9_begin_24 ml_X9_88 ⟨TX7, 15, rfl⟩ (sp_Run_self hs_o6) (by decide) (Nat.le_of_ble_eq_true rfl) rfl (k_X7_start hR4 hs_o6 sp_Program_1 h9) (fun w10 hR11 hk12 => ?_)
    refine pm_aload_n dX9_begin_27 rfl ?_
    refine dx_gr (j := 0) (o := 6) hR11 dX9_begin_28 fl_X9_19 rfl rfl ?_
    obtain ⟨r13, h14, h⟩ := ob_some h
    refine dx_cVv (j := 6) (M := M_X9_begin) (Mc := M_X4_clearInputs) (dc := 0) (As := []) (st := []) hR11 hk12 dX9_begin_31 ml_X9_92 ⟨TX4, 4, rfl⟩ rfl (by decide) (Nat.le_of_ble_eq_true rfl) rfl (k_X4_clearInputs hR11 h14) (fun w15 hR16 hk17 => ?_)
    refine pm_aload_n dX9_begin_34 rfl ?_
    refine dx_gr (j := 0) (o := 1) hR16 dX9_begin_35 fl_X9_12 rfl rfl ?_
    obtain ⟨r18, h19, h⟩ := ob_some h
    refine dx_cVp (j := 1) (M := M_X9_begin) (Mc := M_X5_size) (dc := 0) (As := []) (st := []) hR16 dX9_begin_38 ml_X9_95 ⟨TX5, 4, rfl⟩ rfl (by decide) (Nat.le_of_ble_eq_true rfl) rfl (k_X5_size hR16 sp_Program_1 h19) ?_
    cases h
    exact pm_iret dX9_begin_41 rfl (Nat.le_refl _) (Nat.le_refl _) ⟨rfl, rfl, hR16, hk17⟩
def g_X9_give (F : Nat) (x1 : Int32) (u : rg_U) : Option (Int32 × rg_U) :=
  om (rG u 0 7) (some ((-1), u)) (fun o1 => ck (isRn o1) (if (rF u 6 2) < 100 then (ob (g_X4_addLast F x1 u) (fun r4 => some ((rF r4 6 2), r4))) else (some ((-1), u))))
set_option maxHeartbeats 4000000 in
set_option maxRecDepth 100000 in
theorem k_X9_give {gs : List String} {ro : pm_RO} {n : Nat} {w : Nat → va_E} {b : Nat} {u : rg_U} {F : Nat} {x1 : Int32} {z : (Int32 × rg_U)} (hR : rg shC b u n w) (h : g_X9_give F x1 u = some z) : pm_Met gs ro M_X9_give 1 0 0 [.ref (b + 0), .int x1] n w (rg_post shC b n w (some (.int z.1)) z.2) := by
  unfold g_X9_give at h
  refine pm_ofX in_X9_give (Nat.le_of_ble_eq_true rfl) rfl (L := [some (.ref (b + 0)), some (.int x1)]) rfl ?_
  refine pm_aload_n dX9_give_0 rfl ?_
  cases q2 : (rG u 0 7) with
  | none =>
    replace h := om_n q2 h
    refine dx_ggN (j := 0) hR dX9_give_1 fl_X9_49 rfl rfl q2 ?_
    refine pm_ifnullN (x := 0) (tgt := 19) dX9_give_4 (by decide) ?_
    refine pm_iconst (v := (-1)) dX9_give_19 (by decide) ?_
    cases h
    exact pm_iret dX9_give_20 rfl (Nat.le_refl _) (Nat.le_refl _) ⟨rfl, rfl, hR, rg_k0⟩
  | some o1 =>
    replace h := om_s q2 h
    obtain ⟨c9, h⟩ := ck_some h
    have hs_o1 := run_sp c9
    refine dx_ggS (j := 0) hR dX9_give_1 fl_X9_49 rfl rfl q2 ?_
    refine pm_ifnull dX9_give_4 ?_
    refine pm_aload_n dX9_give_7 rfl ?_
    refine dx_gr (j := 0) (o := 6) hR dX9_give_8 fl_X9_19 rfl rfl ?_
    refine dx_gi (j := 6) hR dX9_give_11 fl_X9_99 rfl rfl ?_
    refine pm_bipush (v := 100) dX9_give_14 (by decide) ?_
    refine pm_icmp_lt (tgt := 21) dX9_give_16 (by decide) (fun c3 => ?_) (fun c3 => ?_)
    · replace h := it_t c3 h
      refine pm_aload_n dX9_give_21 rfl ?_
      refine dx_gr (j := 0) (o := 6) hR dX9_give_22 fl_X9_19 rfl rfl ?_
      refine pm_iload_n dX9_give_25 rfl ?_
      obtain ⟨r4, h5, h⟩ := ob_some h
      refine dx_cVv (j := 6) (M := M_X9_give) (Mc := M_X4_addLast) (dc := 0) (As := [.int x1]) (st := []) hR rg_k0 dX9_give_26 ml_X9_102 ⟨TX4, 4, rfl⟩ rfl (by decide) (Nat.le_of_ble_eq_true rfl) rfl (k_X4_addLast hR h5) (fun w6 hR7 hk8 => ?_)
      refine pm_aload_n dX9_give_29 rfl ?_
      refine dx_gr (j := 0) (o := 6) hR7 dX9_give_30 fl_X9_19 rfl rfl ?_
      refine dx_gi (j := 6) hR7 dX9_give_33 fl_X9_99 rfl rfl ?_
      cases h
      exact pm_iret dX9_give_36 rfl (Nat.le_refl _) (Nat.le_refl _) ⟨rfl, rfl, hR7, hk8⟩
    · replace h := it_f c3 h
      refine pm_iconst (v := (-1)) dX9_give_19 (by decide) ?_
      cases h
      exact pm_iret dX9_give_20 rfl (Nat.le_refl _) (Nat.le_refl _) ⟨rfl, rfl, hR, rg_k0⟩
def g_X9_seed (F : Nat) (x1 : Int32) (u : rg_U) : Option (Int32 × rg_U) :=
  lt1 (sF u 6 3 x1) (fun u1 => some ((rF u 6 3), u1))
set_option maxHeartbeats 4000000 in
set_option maxRecDepth 100000 in
theorem k_X9_seed {gs : List String} {ro : pm_RO} {n : Nat} {w : Nat → va_E} {b : Nat} {u : rg_U} {F : Nat} {x1 : Int32} {z : (Int32 × rg_U)} (hR : rg shC b u n w) (h : g_X9_seed F x1 u = some z) : pm_Met gs ro M_X9_seed 0 0 0 [.ref (b + 0), .int x1] n w (rg_post shC b n w (some (.int z.1)) z.2) := by
  unfold g_X9_seed at h
  refine pm_ofX in_X9_seed (Nat.le_of_ble_eq_true rfl) rfl (L := [some (.ref (b + 0)), some (.int x1), none]) rfl ?_
  refine pm_aload_n dX9_seed_0 rfl ?_
  refine dx_gr (j := 0) (o := 6) hR dX9_seed_1 fl_X9_19 rfl rfl ?_
  refine dx_gi (j := 6) hR dX9_seed_4 fl_X9_106 rfl rfl ?_
  refine pm_istore_n dX9_seed_7 (by decide) rfl rfl ?_
  refine pm_aload_n dX9_seed_8 rfl ?_
  refine dx_gr (j := 0) (o := 6) hR dX9_seed_9 fl_X9_19 rfl rfl ?_
  refine pm_iload_n dX9_seed_12 rfl ?_
  obtain ⟨u1, hu2, h⟩ := lt1_ex h
  refine dx_pi (j := 6) hR rg_k0 dX9_seed_13 fl_X9_106 rfl rfl hu2 (fun w3 hR4 hk5 => ?_)
  refine pm_iload_n dX9_seed_16 rfl ?_
  cases h
  exact pm_iret dX9_seed_17 rfl (Nat.le_refl _) (Nat.le_refl _) ⟨rfl, rfl, hR4, hk5⟩
def g_X9_isValue (x0 : Int32) (x1 : Int32) : Int32 :=
  if x0 = 0 then (if x1 = 0 then (1) else (0)) else if x0 = 1 then (if x1 = 0 then (1) else (if x1 = 1 then (1) else (0))) else (if x0 = 2 then (1) else (0))
theorem g_X9_isValue_b {x0 : Int32} {x1 : Int32} : g_X9_isValue x0 x1 = 0 ∨ g_X9_isValue x0 x1 = 1 := by
  unfold g_X9_isValue
  repeat' (first | exact Or.inl rfl | exact Or.inr rfl | refine it_b ?_ ?_)
set_option maxHeartbeats 4000000 in
set_option maxRecDepth 100000 in
theorem k_X9_isValue {gs : List String} {ro : pm_RO} {n : Nat} {w : Nat → va_E} {x0 : Int32} {x1 : Int32} {z : Int32} (h : g_X9_isValue x0 x1 = z) : pm_Met gs ro M_X9_isValue 0 0 0 [.int x0, .int x1] n w (pm_p n w (some (.int z))) := by
  unfold g_X9_isValue at h
  refine pm_ofX in_X9_isValue (Nat.le_of_ble_eq_true rfl) rfl (L := [some (.int x0), some (.int x1)]) rfl ?_
  refine pm_iload_n dX9_isValue_0 rfl ?_
  by_cases t1 : x0 = 0
  · replace h := it_t t1 h
    refine pm_lookup (off := 27) (tgt := 28) dX9_isValue_1 (by decide) (by rw [t1]; decide) (by decide) ?_
    refine pm_iload_n dX9_isValue_28 rfl ?_
    refine pm_if_ne (tgt := 36) dX9_isValue_29 (by decide) (fun c2 => ?_) (fun c2 => ?_)
    · replace h := it_f c2 h
      refine pm_iconst (v := 0) dX9_isValue_36 (by decide) ?_
      subst h
      exact pm_zret dX9_isValue_37 rfl (Or.inl rfl) (Nat.le_refl _) (Nat.le_refl _) ⟨rfl, rfl, rfl⟩
    · replace h := it_t c2 h
      refine pm_iconst (v := 1) dX9_isValue_32 (by decide) ?_
      refine pm_goto (tgt := 37) dX9_isValue_33 (by decide) ?_
      subst h
      exact pm_zret dX9_isValue_37 rfl (Or.inr rfl) (Nat.le_refl _) (Nat.le_refl _) ⟨rfl, rfl, rfl⟩
  replace h := it_f t1 h
  by_cases t3 : x0 = 1
  · replace h := it_t t3 h
    refine pm_lookup (off := 37) (tgt := 38) dX9_isValue_1 (by decide) (by rw [t3]; decide) (by decide) ?_
    refine pm_iload_n dX9_isValue_38 rfl ?_
    refine pm_if_eq (tgt := 47) dX9_isValue_39 (by decide) (fun c4 => ?_) (fun c4 => ?_)
    · replace h := it_t c4 h
      refine pm_iconst (v := 1) dX9_isValue_47 (by decide) ?_
      refine pm_goto (tgt := 52) dX9_isValue_48 (by decide) ?_
      subst h
      exact pm_zret dX9_isValue_52 rfl (Or.inr rfl) (Nat.le_refl _) (Nat.le_refl _) ⟨rfl, rfl, rfl⟩
    · replace h := it_f c4 h
      refine pm_iload_n dX9_isValue_42 rfl ?_
      refine pm_iconst (v := 1) dX9_isValue_43 (by decide) ?_
      refine pm_icmp_ne (tgt := 51) dX9_isValue_44 (by decide) (fun c5 => ?_) (fun c5 => ?_)
      · replace h := it_f c5 h
        refine pm_iconst (v := 0) dX9_isValue_51 (by decide) ?_
        subst h
        exact pm_zret dX9_isValue_52 rfl (Or.inl rfl) (Nat.le_refl _) (Nat.le_refl _) ⟨rfl, rfl, rfl⟩
      · replace h := it_t c5 h
        refine pm_iconst (v := 1) dX9_isValue_47 (by decide) ?_
        refine pm_goto (tgt := 52) dX9_isValue_48 (by decide) ?_
        subst h
        exact pm_zret dX9_isValue_52 rfl (Or.inr rfl) (Nat.le_refl _) (Nat.le_refl _) ⟨rfl, rfl, rfl⟩
  replace h := it_f t3 h
  refine pm_lookup (off := 52) (tgt := 53) dX9_isValue_1 (by decide) (by have h0 := lv_neT t1 (show (0 : Int32).toInt = 0 from by decide); have h1 := lv_neT t3 (show (1 : Int32).toInt = 1 from by decide); simp [Op.lookupswitch.offset, h0, Ne.symm h0, h1, Ne.symm h1]; try omega) (by decide) ?_
  refine pm_iload_n dX9_isValue_53 rfl ?_
  refine pm_iconst (v := 2) dX9_isValue_54 (by decide) ?_
  refine pm_icmp_ne (tgt := 62) dX9_isValue_55 (by decide) (fun c6 => ?_) (fun c6 => ?_)
  · replace h := it_f c6 h
    refine pm_iconst (v := 0) dX9_isValue_62 (by decide) ?_
    subst h
    exact pm_zret dX9_isValue_63 rfl (Or.inl rfl) (Nat.le_refl _) (Nat.le_refl _) ⟨rfl, rfl, rfl⟩
  · replace h := it_t c6 h
    refine pm_iconst (v := 1) dX9_isValue_58 (by decide) ?_
    refine pm_goto (tgt := 63) dX9_isValue_59 (by decide) ?_
    subst h
    exact pm_zret dX9_isValue_63 rfl (Or.inr rfl) (Nat.le_refl _) (Nat.le_refl _) ⟨rfl, rfl, rfl⟩
def g_X9_poke (F : Nat) (x1 : Int32) (x2 : Int32) (x3 : Int32) (u : rg_U) : Option (Int32 × rg_U) :=
  om (rG u 0 7) (some ((-1), u)) (fun o1 => ck (isRn o1) (om (rG u 0 7) (none) (fun o3 => ck (isRn o3) (ob (g_X3_isFull F (o3 + 6) u) (fun r5 => if r5 = 0 then (if (g_X9_isPlace x1) = 0 then (some ((-1), u)) else (if (g_X9_isValue x2 x3) = 0 then (some ((-1), u)) else (om (rG u 0 7) (none) (fun o10 => ck (isRn o10) (ob (g_X7_putByPoke F o10 x1 x2 x3 u) (fun r12 => if r12.1 = 0 then (some (0, r12.2)) else (some (1, r12.2)))))))) else (some ((-1), u)))))))
set_option maxHeartbeats 4000000 in
set_option maxRecDepth 100000 in
theorem k_X9_poke {gs : List String} {ro : pm_RO} {n : Nat} {w : Nat → va_E} {b : Nat} {u : rg_U} {F : Nat} {x1 : Int32} {x2 : Int32} {x3 : Int32} {z : (Int32 × rg_U)} (hR : rg shC b u n w) (h : g_X9_poke F x1 x2 x3 u = some z) : pm_Met gs ro M_X9_poke 4 0 0 [.ref (b + 0), .int x1, .int x2, .int x3] n w (rg_post shC b n w (some (.int z.1)) z.2) := by
  unfold g_X9_poke at h
  refine pm_ofX in_X9_poke (Nat.le_of_ble_eq_true rfl) rfl (L := [some (.ref (b + 0)), some (.int x1), some (.int x2), some (.int x3)]) rfl ?_
  refine pm_aload_n dX9_poke_0 rfl ?_
  cases q2 : (rG u 0 7) with
  | none =>
    replace h := om_n q2 h
    refine dx_ggN (j := 0) hR dX9_poke_1 fl_X9_49 rfl rfl q2 ?_
    refine pm_ifnullN (x := 0) (tgt := 35) dX9_poke_4 (by decide) ?_
    refine pm_iconst (v := (-1)) dX9_poke_35 (by decide) ?_
    cases h
    exact pm_iret dX9_poke_36 rfl (Nat.le_refl _) (Nat.le_refl _) ⟨rfl, rfl, hR, rg_k0⟩
  | some o1 =>
    replace h := om_s q2 h
    obtain ⟨c20, h⟩ := ck_some h
    have hs_o1 := run_sp c20
    refine dx_ggS (j := 0) hR dX9_poke_1 fl_X9_49 rfl rfl q2 ?_
    refine pm_ifnull dX9_poke_4 ?_
    refine pm_aload_n dX9_poke_7 rfl ?_
    cases q4 : (rG u 0 7) with
    | none =>
      replace h := om_n q4 h
      refine dx_ggN (j := 0) hR dX9_poke_8 fl_X9_49 rfl rfl q4 ?_
      exact absurd h (by simp)
    | some o3 =>
      replace h := om_s q4 h
      obtain ⟨c19, h⟩ := ck_some h
      have hs_o3 := run_sp c19
      refine dx_ggS (j := 0) hR dX9_poke_8 fl_X9_49 rfl rfl q4 ?_
      refine dx_gr (j := o3) (o := (o3 + 6)) hR dX9_poke_11 fl_X9_109 (sp_Run_self hs_o3) rfl ?_
      obtain ⟨r5, h6, h⟩ := ob_some h
      refine dx_cVp (j := (o3 + 6)) (M := M_X9_poke) (Mc := M_X3_isFull) (dc := 0) (As := []) (st := []) hR dX9_poke_14 ml_X9_113 ⟨TX3, 6, rfl⟩ (sp_Log_self (sp_Run_log hs_o3)) (by decide) (Nat.le_of_ble_eq_true rfl) rfl (k_X3_isFull hR (sp_Run_log hs_o3) h6) ?_
      refine pm_if_ne (tgt := 35) dX9_poke_17 (by decide) (fun c7 => ?_) (fun c7 => ?_)
      · replace h := it_f c7 h
        refine pm_iconst (v := (-1)) dX9_poke_35 (by decide) ?_
        cases h
        exact pm_iret dX9_poke_36 rfl (Nat.le_refl _) (Nat.le_refl _) ⟨rfl, rfl, hR, rg_k0⟩
      · replace h := it_t c7 h
        refine pm_iload_n dX9_poke_20 rfl ?_
        refine dx_cSp (M := M_X9_poke) (Mc := M_X9_isPlace) (dc := 0) (As := [.int x1]) (st := []) dX9_poke_21 ml_X9_119 (by decide) (Nat.le_of_ble_eq_true rfl) rfl (k_X9_isPlace rfl) ?_
        refine pm_if_eq (tgt := 35) dX9_poke_24 (by decide) (fun c8 => ?_) (fun c8 => ?_)
        · replace h := it_t c8 h
          refine pm_iconst (v := (-1)) dX9_poke_35 (by decide) ?_
          cases h
          exact pm_iret dX9_poke_36 rfl (Nat.le_refl _) (Nat.le_refl _) ⟨rfl, rfl, hR, rg_k0⟩
        · replace h := it_f c8 h
          refine pm_iload_n dX9_poke_27 rfl ?_
          refine pm_iload_n dX9_poke_28 rfl ?_
          refine dx_cSp (M := M_X9_poke) (Mc := M_X9_isValue) (dc := 0) (As := [.int x2, .int x3]) (st := []) dX9_poke_29 ml_X9_122 (by decide) (Nat.le_of_ble_eq_true rfl) rfl (k_X9_isValue rfl) ?_
          refine pm_if_ne (tgt := 37) dX9_poke_32 (by decide) (fun c9 => ?_) (fun c9 => ?_)
          · replace h := it_f c9 h
            refine pm_aload_n dX9_poke_37 rfl ?_
            cases q11 : (rG u 0 7) with
            | none =>
              replace h := om_n q11 h
              refine dx_ggN (j := 0) hR dX9_poke_38 fl_X9_49 rfl rfl q11 ?_
              refine pm_iload_n dX9_poke_41 rfl ?_
              refine pm_iload_n dX9_poke_42 rfl ?_
              refine pm_iload_n dX9_poke_43 rfl ?_
              exact absurd h (by simp)
            | some o10 =>
              replace h := om_s q11 h
              obtain ⟨c18, h⟩ := ck_some h
              have hs_o10 := run_sp c18
              refine dx_ggS (j := 0) hR dX9_poke_38 fl_X9_49 rfl rfl q11 ?_
              refine pm_iload_n dX9_poke_41 rfl ?_
              refine pm_iload_n dX9_poke_42 rfl ?_
              refine pm_iload_n dX9_poke_43 rfl ?_
              obtain ⟨r12, h13, h⟩ := ob_some h
              refine dx_cVi (j := o10) (M := M_X9_poke) (Mc := M_X7_putByPoke) (dc := 3) (As := [.int x1, .int x2, .int x3]) (st := []) hR rg_k0 dX9_poke_44 ml_X9_126 ⟨TX7, 15, rfl⟩ (sp_Run_self hs_o10) (by decide) (Nat.le_of_ble_eq_true rfl) rfl (k_X7_putByPoke hR hs_o10 h13) (fun w14 hR15 hk16 => ?_)
              refine pm_if_eq (tgt := 54) dX9_poke_47 (by decide) (fun c17 => ?_) (fun c17 => ?_)
              · replace h := it_t c17 h
                refine pm_iconst (v := 0) dX9_poke_54 (by decide) ?_
                cases h
                exact pm_iret dX9_poke_55 rfl (Nat.le_refl _) (Nat.le_refl _) ⟨rfl, rfl, hR15, hk16⟩
              · replace h := it_f c17 h
                refine pm_iconst (v := 1) dX9_poke_50 (by decide) ?_
                refine pm_goto (tgt := 55) dX9_poke_51 (by decide) ?_
                cases h
                exact pm_iret dX9_poke_55 rfl (Nat.le_refl _) (Nat.le_refl _) ⟨rfl, rfl, hR15, hk16⟩
          · replace h := it_t c9 h
            refine pm_iconst (v := (-1)) dX9_poke_35 (by decide) ?_
            cases h
            exact pm_iret dX9_poke_36 rfl (Nat.le_refl _) (Nat.le_refl _) ⟨rfl, rfl, hR, rg_k0⟩
def g_X9_isWatched (F : Nat) (x1 : Int32) (u : rg_U) : Option Int32 :=
  if (g_X9_isPlace x1) = 0 then (some 0) else (if 8 ≤ x1 then (if ((dx_shr (rF u 0 12) (x1 - 8)) &&& 1) = 1 then (some 1) else (some 0)) else (if ((dx_shr (rF u 0 11) x1) &&& 1) = 1 then (some 1) else (some 0)))
set_option maxHeartbeats 4000000 in
set_option maxRecDepth 100000 in
theorem k_X9_isWatched {gs : List String} {ro : pm_RO} {n : Nat} {w : Nat → va_E} {b : Nat} {u : rg_U} {F : Nat} {x1 : Int32} {z : Int32} (hR : rg shC b u n w) (h : g_X9_isWatched F x1 u = some z) : pm_Met gs ro M_X9_isWatched 1 0 0 [.ref (b + 0), .int x1] n w (pm_p n w (some (.int z))) := by
  unfold g_X9_isWatched at h
  refine pm_ofX in_X9_isWatched (Nat.le_of_ble_eq_true rfl) rfl (L := [some (.ref (b + 0)), some (.int x1)]) rfl ?_
  refine pm_iload_n dX9_isWatched_0 rfl ?_
  refine dx_cSp (M := M_X9_isWatched) (Mc := M_X9_isPlace) (dc := 0) (As := [.int x1]) (st := []) dX9_isWatched_1 ml_X9_119 (by decide) (Nat.le_of_ble_eq_true rfl) rfl (k_X9_isPlace rfl) ?_
  refine pm_if_ne (tgt := 9) dX9_isWatched_4 (by decide) (fun c1 => ?_) (fun c1 => ?_)
  · replace h := it_f c1 h
    refine pm_iload_n dX9_isWatched_9 rfl ?_
    refine pm_bipush (v := 8) dX9_isWatched_10 (by decide) ?_
    refine pm_icmp_ge (tgt := 33) dX9_isWatched_12 (by decide) (fun c2 => ?_) (fun c2 => ?_)
    · replace h := it_t c2 h
      refine pm_aload_n dX9_isWatched_33 rfl ?_
      refine dx_gi (j := 0) hR dX9_isWatched_34 fl_X9_64 rfl rfl ?_
      refine pm_iload_n dX9_isWatched_37 rfl ?_
      refine pm_bipush (v := 8) dX9_isWatched_38 (by decide) ?_
      refine pm_isub dX9_isWatched_40 ?_
      refine pm_ishr dX9_isWatched_41 ?_
      refine pm_iconst (v := 1) dX9_isWatched_42 (by decide) ?_
      refine pm_iand dX9_isWatched_43 ?_
      refine pm_iconst (v := 1) dX9_isWatched_44 (by decide) ?_
      refine pm_icmp_ne (tgt := 52) dX9_isWatched_45 (by decide) (fun c3 => ?_) (fun c3 => ?_)
      · replace h := it_f c3 h
        refine pm_iconst (v := 0) dX9_isWatched_52 (by decide) ?_
        cases h
        exact pm_zret dX9_isWatched_53 rfl (Or.inl rfl) (Nat.le_refl _) (Nat.le_refl _) ⟨rfl, rfl, rfl⟩
      · replace h := it_t c3 h
        refine pm_iconst (v := 1) dX9_isWatched_48 (by decide) ?_
        refine pm_goto (tgt := 53) dX9_isWatched_49 (by decide) ?_
        cases h
        exact pm_zret dX9_isWatched_53 rfl (Or.inr rfl) (Nat.le_refl _) (Nat.le_refl _) ⟨rfl, rfl, rfl⟩
    · replace h := it_f c2 h
      refine pm_aload_n dX9_isWatched_15 rfl ?_
      refine dx_gi (j := 0) hR dX9_isWatched_16 fl_X9_61 rfl rfl ?_
      refine pm_iload_n dX9_isWatched_19 rfl ?_
      refine pm_ishr dX9_isWatched_20 ?_
      refine pm_iconst (v := 1) dX9_isWatched_21 (by decide) ?_
      refine pm_iand dX9_isWatched_22 ?_
      refine pm_iconst (v := 1) dX9_isWatched_23 (by decide) ?_
      refine pm_icmp_ne (tgt := 31) dX9_isWatched_24 (by decide) (fun c4 => ?_) (fun c4 => ?_)
      · replace h := it_f c4 h
        refine pm_iconst (v := 0) dX9_isWatched_31 (by decide) ?_
        cases h
        exact pm_zret dX9_isWatched_32 rfl (Or.inl rfl) (Nat.le_refl _) (Nat.le_refl _) ⟨rfl, rfl, rfl⟩
      · replace h := it_t c4 h
        refine pm_iconst (v := 1) dX9_isWatched_27 (by decide) ?_
        refine pm_goto (tgt := 32) dX9_isWatched_28 (by decide) ?_
        cases h
        exact pm_zret dX9_isWatched_32 rfl (Or.inr rfl) (Nat.le_refl _) (Nat.le_refl _) ⟨rfl, rfl, rfl⟩
  · replace h := it_t c1 h
    refine pm_iconst (v := 0) dX9_isWatched_7 (by decide) ?_
    cases h
    exact pm_zret dX9_isWatched_8 rfl (Or.inl rfl) (Nat.le_refl _) (Nat.le_refl _) ⟨rfl, rfl, rfl⟩
def g_X9_run_j81 (F : Nat) (l1 : Int32) (l2 : Int32) (s0 : Int32) (u : rg_U) : Option ((Int32 × Int32 × rg_U) ⊕ (Int32 × rg_U)) :=
  some (.inl (l2, s0, u))
set_option maxHeartbeats 4000000 in
set_option maxRecDepth 100000 in
theorem k_X9_run_j81 {gs : List String} {ro : pm_RO} {n : Nat} {w w1 : Nat → va_E} {b : Nat} {u : rg_U} {F : Nat} {l1 : Int32} {l2 : Int32} {s0 : Int32} {z : ((Int32 × Int32 × rg_U) ⊕ (Int32 × rg_U))} {Q : Option Value → Nat → (Nat → va_E) → Prop} (hR : rg shC b u n w1) (hk : rg_k b shC.length w w1) (h : g_X9_run_j81 F l1 l2 s0 u = some z) (hc : ∀ s', z = .inl s' → ∀ w1, rg shC b s'.2.2 n w1 → rg_k b shC.length w w1 → pm_X gs ro M_X9_run 7 0 0 0 0 25 [some (.ref (b + 0)), some (.int l1), some (.int s'.1), some (.int s'.2.1)] [] n w1 Q) (he0 : ∀ r', z = .inr r' → ∀ w1, rg shC b r'.2 n w1 → rg_k b shC.length w w1 → pm_X gs ro M_X9_run 7 0 0 0 0 85 [none, none, some (.int r'.1), none] [] n w1 Q) : pm_X gs ro M_X9_run 7 0 0 0 0 81 [some (.ref (b + 0)), some (.int l1), some (.int l2), none] [.int s0] n w1 Q := by
  unfold g_X9_run_j81 at h
  refine pm_istore_n dX9_run_81 (by decide) rfl rfl ?_
  refine pm_goto (tgt := 25) dX9_run_82 (by decide) ?_
  refine pm_lw (L' := [some (.ref (b + 0)), some (.int l1), some (.int l2), some (.int s0)]) ⟨Or.inr rfl, Or.inr rfl, Or.inr rfl, Or.inr rfl, trivial⟩ ?_
  exact hc _ (Option.some.inj h).symm _ hR hk
def g_X9_run_l25 (F : Nat) (l1 : Int32) (l2 : Int32) (l3 : Int32) (u : rg_U) : Option ((Int32 × Int32 × rg_U) ⊕ (Int32 × rg_U)) :=
  if l3 = 0 then (some (.inr (l2, u))) else (if l1 ≤ l2 then (some (.inr (l2, u))) else (om (rG u 0 7) (none) (fun o7 => ck (isRn o7) (ob (g_X7_canStep F o7 u) (fun r9 => if r9 = 0 then (some (.inr (l2, u))) else (om (rG u 0 7) (none) (fun o12 => ck (isRn o12) (ob (g_X7_step F o12 u) (fun r14 => om (rG r14 0 7) (none) (fun o19 => ck (isRn o19) (ob (g_X9_isWatched F (rF r14 o19 11) r14) (fun r21 => if r21 = 0 then (g_X9_run_j81 F l1 (l2 + 1) 1 r14) else (g_X9_run_j81 F l1 (l2 + 1) 0 r14)))))))))))))
set_option maxHeartbeats 4000000 in
set_option maxRecDepth 100000 in
theorem k_X9_run_l25 {gs : List String} {ro : pm_RO} {n : Nat} {w w1 : Nat → va_E} {b : Nat} {u : rg_U} {F : Nat} {l1 : Int32} {l2 : Int32} {l3 : Int32} {z : (Int32 × Int32 × rg_U) ⊕ (Int32 × rg_U)} {Q : Option Value → Nat → (Nat → va_E) → Prop} (hR : rg shC b u n w1) (hk : rg_k b shC.length w w1) (h : g_X9_run_l25 F l1 l2 l3 u = some z) (hc : ∀ s', z = .inl s' → ∀ w1, rg shC b s'.2.2 n w1 → rg_k b shC.length w w1 → pm_X gs ro M_X9_run 7 0 0 0 0 25 [some (.ref (b + 0)), some (.int l1), some (.int s'.1), some (.int s'.2.1)] [] n w1 Q) (he0 : ∀ r', z = .inr r' → ∀ w1, rg shC b r'.2 n w1 → rg_k b shC.length w w1 → pm_X gs ro M_X9_run 7 0 0 0 0 85 [none, none, some (.int r'.1), none] [] n w1 Q) : pm_X gs ro M_X9_run 7 0 0 0 0 25 [some (.ref (b + 0)), some (.int l1), some (.int l2), some (.int l3)] [] n w1 Q := by
  unfold g_X9_run_l25 at h
  refine pm_iload_n dX9_run_25 rfl ?_
  refine pm_if_eq (tgt := 85) dX9_run_26 (by decide) (fun c5 => ?_) (fun c5 => ?_)
  · replace h := it_t c5 h
    refine pm_lw (L' := [none, none, some (.int l2), none]) ⟨Or.inl rfl, Or.inl rfl, Or.inr rfl, Or.inl rfl, trivial⟩ ?_
    exact he0 _ (Option.some.inj h).symm _ hR hk
  · replace h := it_f c5 h
    refine pm_iload_n dX9_run_29 rfl ?_
    refine pm_iload_n dX9_run_30 rfl ?_
    refine pm_icmp_ge (tgt := 85) dX9_run_31 (by decide) (fun c6 => ?_) (fun c6 => ?_)
    · replace h := it_t c6 h
      refine pm_lw (L' := [none, none, some (.int l2), none]) ⟨Or.inl rfl, Or.inl rfl, Or.inr rfl, Or.inl rfl, trivial⟩ ?_
      exact he0 _ (Option.some.inj h).symm _ hR hk
    · replace h := it_f c6 h
      refine pm_aload_n dX9_run_34 rfl ?_
      cases q8 : (rG u 0 7) with
      | none =>
        replace h := om_n q8 h
        refine dx_ggN (j := 0) hR dX9_run_35 fl_X9_49 rfl rfl q8 ?_
        refine pm_aload_n dX9_run_38 rfl ?_
        refine dx_gr (j := 0) (o := 6) hR dX9_run_39 fl_X9_19 rfl rfl ?_
        exact absurd h (by simp)
      | some o7 =>
        replace h := om_s q8 h
        obtain ⟨c26, h⟩ := ck_some h
        have hs_o7 := run_sp c26
        refine dx_ggS (j := 0) hR dX9_run_35 fl_X9_49 rfl rfl q8 ?_
        refine pm_aload_n dX9_run_38 rfl ?_
        refine dx_gr (j := 0) (o := 6) hR dX9_run_39 fl_X9_19 rfl rfl ?_
        obtain ⟨r9, h10, h⟩ := ob_some h
        refine dx_cVp (j := o7) (M := M_X9_run) (Mc := M_X7_canStep) (dc := 3) (As := [.ref (b + 6)]) (st := []) hR dX9_run_42 ml_X9_130 ⟨TX7, 15, rfl⟩ (sp_Run_self hs_o7) (by decide) (Nat.le_of_ble_eq_true rfl) rfl (k_X7_canStep hR hs_o7 h10) ?_
        refine pm_if_eq (tgt := 85) dX9_run_45 (by decide) (fun c11 => ?_) (fun c11 => ?_)
        · replace h := it_t c11 h
          refine pm_lw (L' := [none, none, some (.int l2), none]) ⟨Or.inl rfl, Or.inl rfl, Or.inr rfl, Or.inl rfl, trivial⟩ ?_
          exact he0 _ (Option.some.inj h).symm _ hR hk
        · replace h := it_f c11 h
          refine pm_aload_n dX9_run_48 rfl ?_
          cases q13 : (rG u 0 7) with
          | none =>
            replace h := om_n q13 h
            refine dx_ggN (j := 0) hR dX9_run_49 fl_X9_49 rfl rfl q13 ?_
            refine pm_aload_n dX9_run_52 rfl ?_
            refine dx_gr (j := 0) (o := 6) hR dX9_run_53 fl_X9_19 rfl rfl ?_
            exact absurd h (by simp)
          | some o12 =>
            replace h := om_s q13 h
            obtain ⟨c25, h⟩ := ck_some h
            have hs_o12 := run_sp c25
            refine dx_ggS (j := 0) hR dX9_run_49 fl_X9_49 rfl rfl q13 ?_
            refine pm_aload_n dX9_run_52 rfl ?_
            refine dx_gr (j := 0) (o := 6) hR dX9_run_53 fl_X9_19 rfl rfl ?_
            obtain ⟨r14, h15, h⟩ := ob_some h
            refine dx_cVv (j := o12) (M := M_X9_run) (Mc := M_X7_step) (dc := 6) (As := [.ref (b + 6)]) (st := []) hR hk dX9_run_56 ml_X9_134 ⟨TX7, 15, rfl⟩ (sp_Run_self hs_o12) (by decide) (Nat.le_of_ble_eq_true rfl) rfl (k_X7_step hR hs_o12 h15) (fun w16 hR17 hk18 => ?_)
            refine pm_iinc (v := (l2 + 1)) dX9_run_59 rfl rfl (by decide) rfl rfl ?_
            refine pm_aload_n dX9_run_62 rfl ?_
            refine pm_aload_n dX9_run_63 rfl ?_
            cases q20 : (rG r14 0 7) with
            | none =>
              replace h := om_n q20 h
              refine dx_ggN (j := 0) hR17 dX9_run_64 fl_X9_49 rfl rfl q20 ?_
              exact absurd h (by simp)
            | some o19 =>
              replace h := om_s q20 h
              obtain ⟨c24, h⟩ := ck_some h
              have hs_o19 := run_sp c24
              refine dx_ggS (j := 0) hR17 dX9_run_64 fl_X9_49 rfl rfl q20 ?_
              refine dx_gi (j := o19) hR17 dX9_run_67 fl_X9_138 (sp_Run_self hs_o19) rfl ?_
              obtain ⟨r21, h22, h⟩ := ob_some h
              refine dx_cVp (j := 0) (M := M_X9_run) (Mc := M_X9_isWatched) (dc := 1) (As := [.int (rF r14 o19 11)]) (st := []) hR17 dX9_run_70 ml_X9_141 ⟨TX9, 14, rfl⟩ rfl (by decide) (Nat.le_of_ble_eq_true rfl) rfl (k_X9_isWatched hR17 h22) ?_
              refine pm_if_ne (tgt := 80) dX9_run_73 (by decide) (fun c23 => ?_) (fun c23 => ?_)
              · replace h := it_f c23 h
                refine pm_iconst (v := 0) dX9_run_80 (by decide) ?_
                refine pm_lw (L' := [some (.ref (b + 0)), some (.int l1), some (.int (l2 + 1)), none]) ⟨Or.inr rfl, Or.inr rfl, Or.inr rfl, Or.inl rfl, trivial⟩ ?_
                exact k_X9_run_j81 hR17 hk18 h hc he0
              · replace h := it_t c23 h
                refine pm_iconst (v := 1) dX9_run_76 (by decide) ?_
                refine pm_goto (tgt := 81) dX9_run_77 (by decide) ?_
                refine pm_lw (L' := [some (.ref (b + 0)), some (.int l1), some (.int (l2 + 1)), none]) ⟨Or.inr rfl, Or.inr rfl, Or.inr rfl, Or.inl rfl, trivial⟩ ?_
                exact k_X9_run_j81 hR17 hk18 h hc he0
def g_X9_run (F : Nat) (x1 : Int32) (u : rg_U) : Option (Int32 × rg_U) :=
  om (rG u 0 7) (some ((-1), u)) (fun o1 => ck (isRn o1) (if x1 < 1 then (some ((-1), u)) else (if x1 ≤ 500 then (ob (lp (fun (s : (Int32 × Int32 × rg_U)) => g_X9_run_l25 F x1 s.1 s.2.1 s.2.2) F ((0 : Int32), (1 : Int32), u)) (fun r27 => some (r27.1, r27.2))) else (some ((-1), u)))))
set_option maxHeartbeats 4000000 in
set_option maxRecDepth 100000 in
theorem k_X9_run {gs : List String} {ro : pm_RO} {n : Nat} {w : Nat → va_E} {b : Nat} {u : rg_U} {F : Nat} {x1 : Int32} {z : (Int32 × rg_U)} (hR : rg shC b u n w) (h : g_X9_run F x1 u = some z) : pm_Met gs ro M_X9_run 7 0 0 [.ref (b + 0), .int x1] n w (rg_post shC b n w (some (.int z.1)) z.2) := by
  unfold g_X9_run at h
  refine pm_ofX in_X9_run (Nat.le_of_ble_eq_true rfl) rfl (L := [some (.ref (b + 0)), some (.int x1), none, none]) rfl ?_
  refine pm_aload_n dX9_run_0 rfl ?_
  cases q2 : (rG u 0 7) with
  | none =>
    replace h := om_n q2 h
    refine dx_ggN (j := 0) hR dX9_run_1 fl_X9_49 rfl rfl q2 ?_
    refine pm_ifnullN (x := 0) (tgt := 19) dX9_run_4 (by decide) ?_
    refine pm_iconst (v := (-1)) dX9_run_19 (by decide) ?_
    cases h
    exact pm_iret dX9_run_20 rfl (Nat.le_refl _) (Nat.le_refl _) ⟨rfl, rfl, hR, rg_k0⟩
  | some o1 =>
    replace h := om_s q2 h
    obtain ⟨c32, h⟩ := ck_some h
    have hs_o1 := run_sp c32
    refine dx_ggS (j := 0) hR dX9_run_1 fl_X9_49 rfl rfl q2 ?_
    refine pm_ifnull dX9_run_4 ?_
    refine pm_iload_n dX9_run_7 rfl ?_
    refine pm_iconst (v := 1) dX9_run_8 (by decide) ?_
    refine pm_icmp_lt (tgt := 19) dX9_run_9 (by decide) (fun c3 => ?_) (fun c3 => ?_)
    · replace h := it_t c3 h
      refine pm_iconst (v := (-1)) dX9_run_19 (by decide) ?_
      cases h
      exact pm_iret dX9_run_20 rfl (Nat.le_refl _) (Nat.le_refl _) ⟨rfl, rfl, hR, rg_k0⟩
    · replace h := it_f c3 h
      refine pm_iload_n dX9_run_12 rfl ?_
      refine pm_sipush (v := 500) dX9_run_13 (by decide) ?_
      refine pm_icmp_le (tgt := 21) dX9_run_16 (by decide) (fun c4 => ?_) (fun c4 => ?_)
      · replace h := it_t c4 h
        refine pm_iconst (v := 0) dX9_run_21 (by decide) ?_
        refine pm_istore_n dX9_run_22 (by decide) rfl rfl ?_
        refine pm_iconst (v := 1) dX9_run_23 (by decide) ?_
        refine pm_istore_n dX9_run_24 (by decide) rfl rfl ?_
        obtain ⟨r27, h28, h⟩ := ob_some h
        refine lp_sound (P := fun (s : (Int32 × Int32 × rg_U)) => ∀ w1, rg shC b s.2.2 n w1 → rg_k b shC.length w w1 → pm_X gs ro M_X9_run 7 0 0 0 0 25 [some (.ref (b + 0)), some (.int x1), some (.int s.1), some (.int s.2.1)] [] n w1 (rg_post shC b n w (some (.int z.1)) z.2)) (E := (fun (r : (Int32 × rg_U)) => ∀ w1, rg shC b r.2 n w1 → rg_k b shC.length w w1 → pm_X gs ro M_X9_run 7 0 0 0 0 85 [none, none, some (.int r.1), none] [] n w1 (rg_post shC b n w (some (.int z.1)) z.2))) (fun s x hx hc he w1 hR1 hk1 => k_X9_run_l25 hR1 hk1 hx hc (fun r q => he r q)) F _ r27 h28 ?_ _ hR rg_k0
        intro w29 hR30 hk31
        refine pm_iload_n dX9_run_85 rfl ?_
        cases h
        exact pm_iret dX9_run_86 rfl (Nat.le_refl _) (Nat.le_refl _) ⟨rfl, rfl, hR30, hk31⟩
      · replace h := it_f c4 h
        refine pm_iconst (v := (-1)) dX9_run_19 (by decide) ?_
        cases h
        exact pm_iret dX9_run_20 rfl (Nat.le_refl _) (Nat.le_refl _) ⟨rfl, rfl, hR, rg_k0⟩
