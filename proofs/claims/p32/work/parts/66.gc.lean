theorem dX7_addOut_0 : decode cX7_addOut 0 = .ok (.aload_n 0, 1) := by decide +kernel
theorem dX7_addOut_1 : decode cX7_addOut 1 = .ok (.getfield 59, 3) := by decide +kernel
theorem dX7_addOut_4 : decode cX7_addOut 4 = .ok (.ifCond .lt 57, 3) := by decide +kernel
theorem dX7_addOut_7 : decode cX7_addOut 7 = .ok (.aload_n 0, 1) := by decide +kernel
theorem dX7_addOut_8 : decode cX7_addOut 8 = .ok (.getfield 59, 3) := by decide +kernel
theorem dX7_addOut_11 : decode cX7_addOut 11 = .ok (.sipush 3000, 3) := by decide +kernel
theorem dX7_addOut_14 : decode cX7_addOut 14 = .ok (.if_icmp .ge 47, 3) := by decide +kernel
theorem dX7_addOut_17 : decode cX7_addOut 17 = .ok (.aload_n 0, 1) := by decide +kernel
theorem dX7_addOut_18 : decode cX7_addOut 18 = .ok (.getfield 50, 3) := by decide +kernel
theorem dX7_addOut_21 : decode cX7_addOut 21 = .ok (.aload_n 0, 1) := by decide +kernel
theorem dX7_addOut_22 : decode cX7_addOut 22 = .ok (.getfield 59, 3) := by decide +kernel
theorem dX7_addOut_25 : decode cX7_addOut 25 = .ok (.iconst 1, 1) := by decide +kernel
theorem dX7_addOut_26 : decode cX7_addOut 26 = .ok (.iadd, 1) := by decide +kernel
theorem dX7_addOut_27 : decode cX7_addOut 27 = .ok (.dup2, 1) := by decide +kernel
theorem dX7_addOut_28 : decode cX7_addOut 28 = .ok (.iaload, 1) := by decide +kernel
theorem dX7_addOut_29 : decode cX7_addOut 29 = .ok (.iconst 1, 1) := by decide +kernel
theorem dX7_addOut_30 : decode cX7_addOut 30 = .ok (.iadd, 1) := by decide +kernel
theorem dX7_addOut_31 : decode cX7_addOut 31 = .ok (.iastore, 1) := by decide +kernel
theorem dX7_addOut_32 : decode cX7_addOut 32 = .ok (.aload_n 0, 1) := by decide +kernel
theorem dX7_addOut_33 : decode cX7_addOut 33 = .ok (.getfield 53, 3) := by decide +kernel
theorem dX7_addOut_36 : decode cX7_addOut 36 = .ok (.aload_n 0, 1) := by decide +kernel
theorem dX7_addOut_37 : decode cX7_addOut 37 = .ok (.getfield 59, 3) := by decide +kernel
theorem dX7_addOut_40 : decode cX7_addOut 40 = .ok (.iconst 1, 1) := by decide +kernel
theorem dX7_addOut_41 : decode cX7_addOut 41 = .ok (.iadd, 1) := by decide +kernel
theorem dX7_addOut_42 : decode cX7_addOut 42 = .ok (.bipush 31, 2) := by decide +kernel
theorem dX7_addOut_44 : decode cX7_addOut 44 = .ok (.aload_n 0, 1) := by decide +kernel
theorem dX7_addOut_45 : decode cX7_addOut 45 = .ok (.getfield 53, 3) := by decide +kernel
theorem dX7_addOut_48 : decode cX7_addOut 48 = .ok (.aload_n 0, 1) := by decide +kernel
theorem dX7_addOut_49 : decode cX7_addOut 49 = .ok (.getfield 59, 3) := by decide +kernel
theorem dX7_addOut_52 : decode cX7_addOut 52 = .ok (.iaload, 1) := by decide +kernel
theorem dX7_addOut_53 : decode cX7_addOut 53 = .ok (.imul, 1) := by decide +kernel
theorem dX7_addOut_54 : decode cX7_addOut 54 = .ok (.iconst 3, 1) := by decide +kernel
theorem dX7_addOut_55 : decode cX7_addOut 55 = .ok (.iload_n 2, 1) := by decide +kernel
theorem dX7_addOut_56 : decode cX7_addOut 56 = .ok (.imul, 1) := by decide +kernel
theorem dX7_addOut_57 : decode cX7_addOut 57 = .ok (.iadd, 1) := by decide +kernel
theorem dX7_addOut_58 : decode cX7_addOut 58 = .ok (.iload_n 1, 1) := by decide +kernel
theorem dX7_addOut_59 : decode cX7_addOut 59 = .ok (.iadd, 1) := by decide +kernel
theorem dX7_addOut_60 : decode cX7_addOut 60 = .ok (.iastore, 1) := by decide +kernel
theorem dX7_addOut_61 : decode cX7_addOut 61 = .ok (.return_, 1) := by decide +kernel
theorem dX7_goOnAt_0 : decode cX7_goOnAt 0 = .ok (.aload_n 0, 1) := by decide +kernel
theorem dX7_goOnAt_1 : decode cX7_goOnAt 1 = .ok (.getfield 59, 3) := by decide +kernel
theorem dX7_goOnAt_4 : decode cX7_goOnAt 4 = .ok (.ifCond .lt 25, 3) := by decide +kernel
theorem dX7_goOnAt_7 : decode cX7_goOnAt 7 = .ok (.aload_n 0, 1) := by decide +kernel
theorem dX7_goOnAt_8 : decode cX7_goOnAt 8 = .ok (.getfield 59, 3) := by decide +kernel
theorem dX7_goOnAt_11 : decode cX7_goOnAt 11 = .ok (.sipush 3000, 3) := by decide +kernel
theorem dX7_goOnAt_14 : decode cX7_goOnAt 14 = .ok (.if_icmp .ge 15, 3) := by decide +kernel
theorem dX7_goOnAt_17 : decode cX7_goOnAt 17 = .ok (.aload_n 0, 1) := by decide +kernel
theorem dX7_goOnAt_18 : decode cX7_goOnAt 18 = .ok (.getfield 46, 3) := by decide +kernel
theorem dX7_goOnAt_21 : decode cX7_goOnAt 21 = .ok (.aload_n 0, 1) := by decide +kernel
theorem dX7_goOnAt_22 : decode cX7_goOnAt 22 = .ok (.getfield 59, 3) := by decide +kernel
theorem dX7_goOnAt_25 : decode cX7_goOnAt 25 = .ok (.iconst 1, 1) := by decide +kernel
theorem dX7_goOnAt_26 : decode cX7_goOnAt 26 = .ok (.iadd, 1) := by decide +kernel
theorem dX7_goOnAt_27 : decode cX7_goOnAt 27 = .ok (.iload_n 1, 1) := by decide +kernel
theorem dX7_goOnAt_28 : decode cX7_goOnAt 28 = .ok (.iastore, 1) := by decide +kernel
theorem dX7_goOnAt_29 : decode cX7_goOnAt 29 = .ok (.return_, 1) := by decide +kernel
theorem dX7_putFromOutside_0 : decode cX7_putFromOutside 0 = .ok (.aload_n 0, 1) := by decide +kernel
theorem dX7_putFromOutside_1 : decode cX7_putFromOutside 1 = .ok (.getfield 21, 3) := by decide +kernel
theorem dX7_putFromOutside_4 : decode cX7_putFromOutside 4 = .ok (.aload_n 0, 1) := by decide +kernel
theorem dX7_putFromOutside_5 : decode cX7_putFromOutside 5 = .ok (.getfield 59, 3) := by decide +kernel
theorem dX7_putFromOutside_8 : decode cX7_putFromOutside 8 = .ok (.iload_n 2, 1) := by decide +kernel
theorem dX7_putFromOutside_9 : decode cX7_putFromOutside 9 = .ok (.iload_n 3, 1) := by decide +kernel
theorem dX7_putFromOutside_10 : decode cX7_putFromOutside 10 = .ok (.invokevirtual 167, 3) := by decide +kernel
theorem dX7_putFromOutside_13 : decode cX7_putFromOutside 13 = .ok (.aload_n 0, 1) := by decide +kernel
theorem dX7_putFromOutside_14 : decode cX7_putFromOutside 14 = .ok (.iload_n 1, 1) := by decide +kernel
theorem dX7_putFromOutside_15 : decode cX7_putFromOutside 15 = .ok (.iconst 2, 1) := by decide +kernel
theorem dX7_putFromOutside_16 : decode cX7_putFromOutside 16 = .ok (.iload_n 3, 1) := by decide +kernel
theorem dX7_putFromOutside_17 : decode cX7_putFromOutside 17 = .ok (.iconst (-1), 1) := by decide +kernel
theorem dX7_putFromOutside_18 : decode cX7_putFromOutside 18 = .ok (.iconst (-1), 1) := by decide +kernel
theorem dX7_putFromOutside_19 : decode cX7_putFromOutside 19 = .ok (.invokevirtual 171, 3) := by decide +kernel
theorem dX7_putFromOutside_22 : decode cX7_putFromOutside 22 = .ok (.aload_n 0, 1) := by decide +kernel
theorem dX7_putFromOutside_23 : decode cX7_putFromOutside 23 = .ok (.getfield 28, 3) := by decide +kernel
theorem dX7_putFromOutside_26 : decode cX7_putFromOutside 26 = .ok (.aload_n 0, 1) := by decide +kernel
theorem dX7_putFromOutside_27 : decode cX7_putFromOutside 27 = .ok (.getfield 59, 3) := by decide +kernel
theorem dX7_putFromOutside_30 : decode cX7_putFromOutside 30 = .ok (.aload_n 0, 1) := by decide +kernel
theorem dX7_putFromOutside_31 : decode cX7_putFromOutside 31 = .ok (.getfield 21, 3) := by decide +kernel
theorem dX7_putFromOutside_34 : decode cX7_putFromOutside 34 = .ok (.getfield 98, 3) := by decide +kernel
theorem dX7_putFromOutside_37 : decode cX7_putFromOutside 37 = .ok (.iconst 1, 1) := by decide +kernel
theorem dX7_putFromOutside_38 : decode cX7_putFromOutside 38 = .ok (.isub, 1) := by decide +kernel
theorem dX7_putFromOutside_39 : decode cX7_putFromOutside 39 = .ok (.iconst (-1), 1) := by decide +kernel
theorem dX7_putFromOutside_40 : decode cX7_putFromOutside 40 = .ok (.iconst (-1), 1) := by decide +kernel
theorem dX7_putFromOutside_41 : decode cX7_putFromOutside 41 = .ok (.invokevirtual 164, 3) := by decide +kernel
theorem dX7_putFromOutside_44 : decode cX7_putFromOutside 44 = .ok (.return_, 1) := by decide +kernel
theorem dX7_stackDown_0 : decode cX7_stackDown 0 = .ok (.aload_n 0, 1) := by decide +kernel
theorem dX7_stackDown_1 : decode cX7_stackDown 1 = .ok (.getfield 59, 3) := by decide +kernel
theorem dX7_stackDown_4 : decode cX7_stackDown 4 = .ok (.ifCond .lt 36, 3) := by decide +kernel
theorem dX7_stackDown_7 : decode cX7_stackDown 7 = .ok (.aload_n 0, 1) := by decide +kernel
theorem dX7_stackDown_8 : decode cX7_stackDown 8 = .ok (.getfield 59, 3) := by decide +kernel
theorem dX7_stackDown_11 : decode cX7_stackDown 11 = .ok (.sipush 3000, 3) := by decide +kernel
theorem dX7_stackDown_14 : decode cX7_stackDown 14 = .ok (.if_icmp .ge 26, 3) := by decide +kernel
theorem dX7_stackDown_17 : decode cX7_stackDown 17 = .ok (.aload_n 0, 1) := by decide +kernel
theorem dX7_stackDown_18 : decode cX7_stackDown 18 = .ok (.getfield 56, 3) := by decide +kernel
theorem dX7_stackDown_21 : decode cX7_stackDown 21 = .ok (.aload_n 0, 1) := by decide +kernel
theorem dX7_stackDown_22 : decode cX7_stackDown 22 = .ok (.getfield 59, 3) := by decide +kernel
theorem dX7_stackDown_25 : decode cX7_stackDown 25 = .ok (.iconst 1, 1) := by decide +kernel
theorem dX7_stackDown_26 : decode cX7_stackDown 26 = .ok (.iadd, 1) := by decide +kernel
theorem dX7_stackDown_27 : decode cX7_stackDown 27 = .ok (.aload_n 0, 1) := by decide +kernel
theorem dX7_stackDown_28 : decode cX7_stackDown 28 = .ok (.aload_n 0, 1) := by decide +kernel
theorem dX7_stackDown_29 : decode cX7_stackDown 29 = .ok (.aload_n 0, 1) := by decide +kernel
theorem dX7_stackDown_30 : decode cX7_stackDown 30 = .ok (.getfield 59, 3) := by decide +kernel
theorem dX7_stackDown_33 : decode cX7_stackDown 33 = .ok (.invokevirtual 113, 3) := by decide +kernel
theorem dX7_stackDown_36 : decode cX7_stackDown 36 = .ok (.invokevirtual 113, 3) := by decide +kernel
theorem dX7_stackDown_39 : decode cX7_stackDown 39 = .ok (.iastore, 1) := by decide +kernel
theorem dX7_stackDown_40 : decode cX7_stackDown 40 = .ok (.return_, 1) := by decide +kernel
theorem dX7_stackUp_0 : decode cX7_stackUp 0 = .ok (.aload_n 0, 1) := by decide +kernel
theorem dX7_stackUp_1 : decode cX7_stackUp 1 = .ok (.getfield 59, 3) := by decide +kernel
theorem dX7_stackUp_4 : decode cX7_stackUp 4 = .ok (.ifCond .lt 28, 3) := by decide +kernel
theorem dX7_stackUp_7 : decode cX7_stackUp 7 = .ok (.aload_n 0, 1) := by decide +kernel
theorem dX7_stackUp_8 : decode cX7_stackUp 8 = .ok (.getfield 59, 3) := by decide +kernel
theorem dX7_stackUp_11 : decode cX7_stackUp 11 = .ok (.sipush 3000, 3) := by decide +kernel
theorem dX7_stackUp_14 : decode cX7_stackUp 14 = .ok (.if_icmp .ge 18, 3) := by decide +kernel
theorem dX7_stackUp_17 : decode cX7_stackUp 17 = .ok (.aload_n 0, 1) := by decide +kernel
theorem dX7_stackUp_18 : decode cX7_stackUp 18 = .ok (.getfield 56, 3) := by decide +kernel
theorem dX7_stackUp_21 : decode cX7_stackUp 21 = .ok (.aload_n 0, 1) := by decide +kernel
theorem dX7_stackUp_22 : decode cX7_stackUp 22 = .ok (.getfield 59, 3) := by decide +kernel
theorem dX7_stackUp_25 : decode cX7_stackUp 25 = .ok (.iconst 1, 1) := by decide +kernel
theorem dX7_stackUp_26 : decode cX7_stackUp 26 = .ok (.iadd, 1) := by decide +kernel
theorem dX7_stackUp_27 : decode cX7_stackUp 27 = .ok (.aload_n 0, 1) := by decide +kernel
theorem dX7_stackUp_28 : decode cX7_stackUp 28 = .ok (.getfield 59, 3) := by decide +kernel
theorem dX7_stackUp_31 : decode cX7_stackUp 31 = .ok (.iastore, 1) := by decide +kernel
theorem dX7_stackUp_32 : decode cX7_stackUp 32 = .ok (.return_, 1) := by decide +kernel
theorem dX8_combine_0 : decode cX8_combine 0 = .ok (.aload_n 0, 1) := by decide +kernel
theorem dX8_combine_1 : decode cX8_combine 1 = .ok (.getfield 38, 3) := by decide +kernel
theorem dX8_combine_4 : decode cX8_combine 4 = .ok (.iload_n 2, 1) := by decide +kernel
theorem dX8_combine_5 : decode cX8_combine 5 = .ok (.invokevirtual 103, 3) := by decide +kernel
theorem dX8_combine_8 : decode cX8_combine 8 = .ok (.iconst 1, 1) := by decide +kernel
theorem dX8_combine_9 : decode cX8_combine 9 = .ok (.if_icmp .ne 22, 3) := by decide +kernel
theorem dX8_combine_12 : decode cX8_combine 12 = .ok (.iload 4, 2) := by decide +kernel
theorem dX8_combine_14 : decode cX8_combine 14 = .ok (.bipush 12, 2) := by decide +kernel
theorem dX8_combine_16 : decode cX8_combine 16 = .ok (.if_icmp .ne 17, 3) := by decide +kernel
theorem dX8_combine_19 : decode cX8_combine 19 = .ok (.aload_n 0, 1) := by decide +kernel
theorem dX8_combine_20 : decode cX8_combine 20 = .ok (.getfield 38, 3) := by decide +kernel
theorem dX8_combine_23 : decode cX8_combine 23 = .ok (.iload_n 3, 1) := by decide +kernel
theorem dX8_combine_24 : decode cX8_combine 24 = .ok (.invokevirtual 103, 3) := by decide +kernel
theorem dX8_combine_27 : decode cX8_combine 27 = .ok (.iconst 1, 1) := by decide +kernel
theorem dX8_combine_28 : decode cX8_combine 28 = .ok (.if_icmp .eq 5, 3) := by decide +kernel
theorem dX8_combine_31 : decode cX8_combine 31 = .ok (.iconst 1, 1) := by decide +kernel
theorem dX8_combine_32 : decode cX8_combine 32 = .ok (.ireturn, 1) := by decide +kernel
theorem dX8_combine_33 : decode cX8_combine 33 = .ok (.aload_n 0, 1) := by decide +kernel
theorem dX8_combine_34 : decode cX8_combine 34 = .ok (.getfield 38, 3) := by decide +kernel
theorem dX8_combine_37 : decode cX8_combine 37 = .ok (.iload_n 2, 1) := by decide +kernel
theorem dX8_combine_38 : decode cX8_combine 38 = .ok (.invokevirtual 106, 3) := by decide +kernel
theorem dX8_combine_41 : decode cX8_combine 41 = .ok (.istore 5, 2) := by decide +kernel
theorem dX8_combine_43 : decode cX8_combine 43 = .ok (.iload 4, 2) := by decide +kernel
theorem dX8_combine_45 : decode cX8_combine 45 = .ok (.bipush 11, 2) := by decide +kernel
theorem dX8_combine_47 : decode cX8_combine 47 = .ok (.if_icmp .ne 10, 3) := by decide +kernel
theorem dX8_combine_50 : decode cX8_combine 50 = .ok (.iconst 1, 1) := by decide +kernel
theorem dX8_combine_51 : decode cX8_combine 51 = .ok (.iload 5, 2) := by decide +kernel
theorem dX8_combine_53 : decode cX8_combine 53 = .ok (.isub, 1) := by decide +kernel
theorem dX8_combine_54 : decode cX8_combine 54 = .ok (.goto 14, 3) := by decide +kernel
theorem dX8_combine_57 : decode cX8_combine 57 = .ok (.iload 5, 2) := by decide +kernel
theorem dX8_combine_59 : decode cX8_combine 59 = .ok (.aload_n 0, 1) := by decide +kernel
theorem dX8_combine_60 : decode cX8_combine 60 = .ok (.getfield 38, 3) := by decide +kernel
theorem dX8_combine_63 : decode cX8_combine 63 = .ok (.iload_n 3, 1) := by decide +kernel
theorem dX8_combine_64 : decode cX8_combine 64 = .ok (.invokevirtual 106, 3) := by decide +kernel
theorem dX8_combine_67 : decode cX8_combine 67 = .ok (.iand, 1) := by decide +kernel
theorem dX8_combine_68 : decode cX8_combine 68 = .ok (.istore 6, 2) := by decide +kernel
theorem dX8_combine_70 : decode cX8_combine 70 = .ok (.aload_n 0, 1) := by decide +kernel
theorem dX8_combine_71 : decode cX8_combine 71 = .ok (.iload_n 1, 1) := by decide +kernel
theorem dX8_combine_72 : decode cX8_combine 72 = .ok (.iconst 1, 1) := by decide +kernel
theorem dX8_combine_73 : decode cX8_combine 73 = .ok (.iload 6, 2) := by decide +kernel
theorem dX8_combine_75 : decode cX8_combine 75 = .ok (.iload_n 2, 1) := by decide +kernel
theorem dX8_combine_76 : decode cX8_combine 76 = .ok (.iload_n 3, 1) := by decide +kernel
theorem dX8_combine_77 : decode cX8_combine 77 = .ok (.invokevirtual 34, 3) := by decide +kernel
theorem dX8_combine_80 : decode cX8_combine 80 = .ok (.iconst 0, 1) := by decide +kernel
theorem dX8_combine_81 : decode cX8_combine 81 = .ok (.ireturn, 1) := by decide +kernel
theorem dX8_fromCell_0 : decode cX8_fromCell 0 = .ok (.aload_n 0, 1) := by decide +kernel
theorem dX8_fromCell_1 : decode cX8_fromCell 1 = .ok (.getfield 38, 3) := by decide +kernel
theorem dX8_fromCell_4 : decode cX8_fromCell 4 = .ok (.iload_n 2, 1) := by decide +kernel
theorem dX8_fromCell_5 : decode cX8_fromCell 5 = .ok (.invokevirtual 103, 3) := by decide +kernel
theorem dX8_fromCell_8 : decode cX8_fromCell 8 = .ok (.iconst 2, 1) := by decide +kernel
theorem dX8_fromCell_9 : decode cX8_fromCell 9 = .ok (.if_icmp .eq 5, 3) := by decide +kernel
theorem dX8_fromCell_12 : decode cX8_fromCell 12 = .ok (.iconst 1, 1) := by decide +kernel
theorem dX8_fromCell_13 : decode cX8_fromCell 13 = .ok (.ireturn, 1) := by decide +kernel
theorem dX8_fromCell_14 : decode cX8_fromCell 14 = .ok (.aload_n 0, 1) := by decide +kernel
theorem dX8_fromCell_15 : decode cX8_fromCell 15 = .ok (.getfield 38, 3) := by decide +kernel
theorem dX8_fromCell_18 : decode cX8_fromCell 18 = .ok (.iload_n 2, 1) := by decide +kernel
theorem dX8_fromCell_19 : decode cX8_fromCell 19 = .ok (.invokevirtual 106, 3) := by decide +kernel
theorem dX8_fromCell_22 : decode cX8_fromCell 22 = .ok (.istore_n 3, 1) := by decide +kernel
theorem dX8_fromCell_23 : decode cX8_fromCell 23 = .ok (.iload_n 3, 1) := by decide +kernel
theorem dX8_fromCell_24 : decode cX8_fromCell 24 = .ok (.ifCond .lt 9, 3) := by decide +kernel
theorem dX8_fromCell_27 : decode cX8_fromCell 27 = .ok (.iload_n 3, 1) := by decide +kernel
theorem dX8_fromCell_28 : decode cX8_fromCell 28 = .ok (.bipush 32, 2) := by decide +kernel
theorem dX8_fromCell_30 : decode cX8_fromCell 30 = .ok (.if_icmp .lt 5, 3) := by decide +kernel
theorem dX8_fromCell_33 : decode cX8_fromCell 33 = .ok (.iconst 3, 1) := by decide +kernel
theorem dX8_fromCell_34 : decode cX8_fromCell 34 = .ok (.ireturn, 1) := by decide +kernel
theorem dX8_fromCell_35 : decode cX8_fromCell 35 = .ok (.aload_n 0, 1) := by decide +kernel
theorem dX8_fromCell_36 : decode cX8_fromCell 36 = .ok (.getfield 38, 3) := by decide +kernel
theorem dX8_fromCell_39 : decode cX8_fromCell 39 = .ok (.bipush 8, 2) := by decide +kernel
theorem dX8_fromCell_41 : decode cX8_fromCell 41 = .ok (.iload_n 3, 1) := by decide +kernel
theorem dX8_fromCell_42 : decode cX8_fromCell 42 = .ok (.iadd, 1) := by decide +kernel
theorem dX8_fromCell_43 : decode cX8_fromCell 43 = .ok (.invokevirtual 42, 3) := by decide +kernel
theorem dX8_fromCell_46 : decode cX8_fromCell 46 = .ok (.istore 4, 2) := by decide +kernel
theorem dX8_fromCell_48 : decode cX8_fromCell 48 = .ok (.aload_n 0, 1) := by decide +kernel
theorem dX8_fromCell_49 : decode cX8_fromCell 49 = .ok (.iload_n 1, 1) := by decide +kernel
theorem dX8_fromCell_50 : decode cX8_fromCell 50 = .ok (.aload_n 0, 1) := by decide +kernel
theorem dX8_fromCell_51 : decode cX8_fromCell 51 = .ok (.getfield 38, 3) := by decide +kernel
theorem dX8_fromCell_54 : decode cX8_fromCell 54 = .ok (.iload 4, 2) := by decide +kernel
theorem dX8_fromCell_56 : decode cX8_fromCell 56 = .ok (.invokevirtual 103, 3) := by decide +kernel
theorem dX8_fromCell_59 : decode cX8_fromCell 59 = .ok (.aload_n 0, 1) := by decide +kernel
theorem dX8_fromCell_60 : decode cX8_fromCell 60 = .ok (.getfield 38, 3) := by decide +kernel
theorem dX8_fromCell_63 : decode cX8_fromCell 63 = .ok (.iload 4, 2) := by decide +kernel
theorem dX8_fromCell_65 : decode cX8_fromCell 65 = .ok (.invokevirtual 106, 3) := by decide +kernel
theorem dX8_fromCell_68 : decode cX8_fromCell 68 = .ok (.iload_n 2, 1) := by decide +kernel
theorem dX8_fromCell_69 : decode cX8_fromCell 69 = .ok (.iload 4, 2) := by decide +kernel
theorem dX8_fromCell_71 : decode cX8_fromCell 71 = .ok (.invokevirtual 34, 3) := by decide +kernel
theorem dX8_fromCell_74 : decode cX8_fromCell 74 = .ok (.iconst 0, 1) := by decide +kernel
theorem dX8_fromCell_75 : decode cX8_fromCell 75 = .ok (.ireturn, 1) := by decide +kernel
theorem dX8_goDown_0 : decode cX8_goDown 0 = .ok (.aload_n 0, 1) := by decide +kernel
theorem dX8_goDown_1 : decode cX8_goDown 1 = .ok (.aload_n 0, 1) := by decide +kernel
theorem dX8_goDown_2 : decode cX8_goDown 2 = .ok (.getfield 117, 3) := by decide +kernel
theorem dX8_goDown_5 : decode cX8_goDown 5 = .ok (.invokevirtual 120, 3) := by decide +kernel
theorem dX8_goDown_8 : decode cX8_goDown 8 = .ok (.istore_n 2, 1) := by decide +kernel
theorem dX8_goDown_9 : decode cX8_goDown 9 = .ok (.iload_n 2, 1) := by decide +kernel
theorem dX8_goDown_10 : decode cX8_goDown 10 = .ok (.bipush 8, 2) := by decide +kernel
theorem dX8_goDown_12 : decode cX8_goDown 12 = .ok (.if_icmp .lt 5, 3) := by decide +kernel
theorem dX8_goDown_15 : decode cX8_goDown 15 = .ok (.iconst 4, 1) := by decide +kernel
theorem dX8_goDown_16 : decode cX8_goDown 16 = .ok (.ireturn, 1) := by decide +kernel
theorem dX8_goDown_17 : decode cX8_goDown 17 = .ok (.aload_n 0, 1) := by decide +kernel
theorem dX8_goDown_18 : decode cX8_goDown 18 = .ok (.getfield 123, 3) := by decide +kernel
theorem dX8_goDown_21 : decode cX8_goDown 21 = .ok (.aload_n 0, 1) := by decide +kernel
theorem dX8_goDown_22 : decode cX8_goDown 22 = .ok (.getfield 117, 3) := by decide +kernel
theorem dX8_goDown_25 : decode cX8_goDown 25 = .ok (.iload_n 1, 1) := by decide +kernel
theorem dX8_goDown_26 : decode cX8_goDown 26 = .ok (.iload_n 2, 1) := by decide +kernel
theorem dX8_goDown_27 : decode cX8_goDown 27 = .ok (.invokevirtual 127, 3) := by decide +kernel
theorem dX8_goDown_30 : decode cX8_goDown 30 = .ok (.aload_n 0, 1) := by decide +kernel
theorem dX8_goDown_31 : decode cX8_goDown 31 = .ok (.invokevirtual 132, 3) := by decide +kernel
theorem dX8_goDown_34 : decode cX8_goDown 34 = .ok (.aload_n 0, 1) := by decide +kernel
theorem dX8_goDown_35 : decode cX8_goDown 35 = .ok (.iload_n 1, 1) := by decide +kernel
theorem dX8_goDown_36 : decode cX8_goDown 36 = .ok (.invokevirtual 85, 3) := by decide +kernel
theorem dX8_goDown_39 : decode cX8_goDown 39 = .ok (.iconst 0, 1) := by decide +kernel
theorem dX8_goDown_40 : decode cX8_goDown 40 = .ok (.ireturn, 1) := by decide +kernel
theorem dX8_goOnIf_0 : decode cX8_goOnIf 0 = .ok (.aload_n 0, 1) := by decide +kernel
theorem dX8_goOnIf_1 : decode cX8_goOnIf 1 = .ok (.getfield 38, 3) := by decide +kernel
theorem dX8_goOnIf_4 : decode cX8_goOnIf 4 = .ok (.iload_n 1, 1) := by decide +kernel
theorem dX8_goOnIf_5 : decode cX8_goOnIf 5 = .ok (.invokevirtual 103, 3) := by decide +kernel
theorem dX8_goOnIf_8 : decode cX8_goOnIf 8 = .ok (.iconst 1, 1) := by decide +kernel
theorem dX8_goOnIf_9 : decode cX8_goOnIf 9 = .ok (.if_icmp .eq 5, 3) := by decide +kernel
theorem dX8_goOnIf_12 : decode cX8_goOnIf 12 = .ok (.iconst 1, 1) := by decide +kernel
theorem dX8_goOnIf_13 : decode cX8_goOnIf 13 = .ok (.ireturn, 1) := by decide +kernel
theorem dX8_goOnIf_14 : decode cX8_goOnIf 14 = .ok (.aload_n 0, 1) := by decide +kernel
theorem dX8_goOnIf_15 : decode cX8_goOnIf 15 = .ok (.getfield 38, 3) := by decide +kernel
theorem dX8_goOnIf_18 : decode cX8_goOnIf 18 = .ok (.iload_n 1, 1) := by decide +kernel
theorem dX8_goOnIf_19 : decode cX8_goOnIf 19 = .ok (.invokevirtual 106, 3) := by decide +kernel
theorem dX8_goOnIf_22 : decode cX8_goOnIf 22 = .ok (.iconst 1, 1) := by decide +kernel
theorem dX8_goOnIf_23 : decode cX8_goOnIf 23 = .ok (.if_icmp .ne 8, 3) := by decide +kernel
theorem dX8_goOnIf_26 : decode cX8_goOnIf 26 = .ok (.aload_n 0, 1) := by decide +kernel
theorem dX8_goOnIf_27 : decode cX8_goOnIf 27 = .ok (.iload_n 2, 1) := by decide +kernel
theorem dX8_goOnIf_28 : decode cX8_goOnIf 28 = .ok (.invokevirtual 85, 3) := by decide +kernel
theorem dX8_goOnIf_31 : decode cX8_goOnIf 31 = .ok (.iconst 0, 1) := by decide +kernel
theorem dX8_goOnIf_32 : decode cX8_goOnIf 32 = .ok (.ireturn, 1) := by decide +kernel
theorem dX8_goUp_0 : decode cX8_goUp 0 = .ok (.aload_n 0, 1) := by decide +kernel
theorem dX8_goUp_1 : decode cX8_goUp 1 = .ok (.aload_n 0, 1) := by decide +kernel
theorem dX8_goUp_2 : decode cX8_goUp 2 = .ok (.getfield 117, 3) := by decide +kernel
theorem dX8_goUp_5 : decode cX8_goUp 5 = .ok (.invokevirtual 120, 3) := by decide +kernel
theorem dX8_goUp_8 : decode cX8_goUp 8 = .ok (.istore_n 1, 1) := by decide +kernel
theorem dX8_goUp_9 : decode cX8_goUp 9 = .ok (.iload_n 1, 1) := by decide +kernel
theorem dX8_goUp_10 : decode cX8_goUp 10 = .ok (.ifCond .ne 9, 3) := by decide +kernel
theorem dX8_goUp_13 : decode cX8_goUp 13 = .ok (.aload_n 0, 1) := by decide +kernel
theorem dX8_goUp_14 : decode cX8_goUp 14 = .ok (.iconst 2, 1) := by decide +kernel
theorem dX8_goUp_15 : decode cX8_goUp 15 = .ok (.putfield 30, 3) := by decide +kernel
theorem dX8_goUp_18 : decode cX8_goUp 18 = .ok (.return_, 1) := by decide +kernel
theorem dX8_goUp_19 : decode cX8_goUp 19 = .ok (.aload_n 0, 1) := by decide +kernel
theorem dX8_goUp_20 : decode cX8_goUp 20 = .ok (.aload_n 0, 1) := by decide +kernel
theorem dX8_goUp_21 : decode cX8_goUp 21 = .ok (.aload_n 0, 1) := by decide +kernel
theorem dX8_goUp_22 : decode cX8_goUp 22 = .ok (.getfield 117, 3) := by decide +kernel
theorem dX8_goUp_25 : decode cX8_goUp 25 = .ok (.iload_n 1, 1) := by decide +kernel
theorem dX8_goUp_26 : decode cX8_goUp 26 = .ok (.iconst 1, 1) := by decide +kernel
theorem dX8_goUp_27 : decode cX8_goUp 27 = .ok (.isub, 1) := by decide +kernel
theorem dX8_goUp_28 : decode cX8_goUp 28 = .ok (.invokevirtual 135, 3) := by decide +kernel
theorem dX8_goUp_31 : decode cX8_goUp 31 = .ok (.invokevirtual 85, 3) := by decide +kernel
theorem dX8_goUp_34 : decode cX8_goUp 34 = .ok (.aload_n 0, 1) := by decide +kernel
theorem dX8_goUp_35 : decode cX8_goUp 35 = .ok (.invokevirtual 139, 3) := by decide +kernel
theorem dX8_goUp_38 : decode cX8_goUp 38 = .ok (.return_, 1) := by decide +kernel
theorem dX8_perform_0 : decode cX8_perform 0 = .ok (.aload_n 0, 1) := by decide +kernel
theorem dX8_perform_1 : decode cX8_perform 1 = .ok (.getfield 9, 3) := by decide +kernel
theorem dX8_perform_4 : decode cX8_perform 4 = .ok (.iload_n 1, 1) := by decide +kernel
theorem dX8_perform_5 : decode cX8_perform 5 = .ok (.invokevirtual 15, 3) := by decide +kernel
theorem dX8_perform_8 : decode cX8_perform 8 = .ok (.istore_n 3, 1) := by decide +kernel
theorem dX8_perform_9 : decode cX8_perform 9 = .ok (.aload_n 0, 1) := by decide +kernel
theorem dX8_perform_10 : decode cX8_perform 10 = .ok (.getfield 9, 3) := by decide +kernel
theorem dX8_perform_13 : decode cX8_perform 13 = .ok (.iload_n 1, 1) := by decide +kernel
theorem dX8_perform_14 : decode cX8_perform 14 = .ok (.invokevirtual 21, 3) := by decide +kernel
theorem dX8_perform_17 : decode cX8_perform 17 = .ok (.istore 4, 2) := by decide +kernel
theorem dX8_perform_19 : decode cX8_perform 19 = .ok (.aload_n 0, 1) := by decide +kernel
theorem dX8_perform_20 : decode cX8_perform 20 = .ok (.getfield 9, 3) := by decide +kernel
theorem dX8_perform_23 : decode cX8_perform 23 = .ok (.iload_n 1, 1) := by decide +kernel
theorem dX8_perform_24 : decode cX8_perform 24 = .ok (.invokevirtual 24, 3) := by decide +kernel
theorem dX8_perform_27 : decode cX8_perform 27 = .ok (.istore 5, 2) := by decide +kernel
theorem dX8_perform_29 : decode cX8_perform 29 = .ok (.aload_n 0, 1) := by decide +kernel
theorem dX8_perform_30 : decode cX8_perform 30 = .ok (.getfield 9, 3) := by decide +kernel
theorem dX8_perform_33 : decode cX8_perform 33 = .ok (.iload_n 1, 1) := by decide +kernel
theorem dX8_perform_34 : decode cX8_perform 34 = .ok (.invokevirtual 27, 3) := by decide +kernel
theorem dX8_perform_37 : decode cX8_perform 37 = .ok (.istore 6, 2) := by decide +kernel
theorem dX8_perform_39 : decode cX8_perform 39 = .ok (.iload_n 3, 1) := by decide +kernel
theorem dX8_perform_40 : decode cX8_perform 40 = .ok (.tableswitch 365 (-1) 22 #[363, 112, 119, 132, 157, 365, 365, 365, 365, 365, 365, 174, 200, 218, 244, 260, 326, 334, 350, 357, 283, 296, 311, 145], 112) := by decide +kernel
theorem dX8_perform_152 : decode cX8_perform 152 = .ok (.aload_n 0, 1) := by decide +kernel
theorem dX8_perform_153 : decode cX8_perform 153 = .ok (.iconst 2, 1) := by decide +kernel
theorem dX8_perform_154 : decode cX8_perform 154 = .ok (.putfield 30, 3) := by decide +kernel
theorem dX8_perform_157 : decode cX8_perform 157 = .ok (.iconst 0, 1) := by decide +kernel
theorem dX8_perform_158 : decode cX8_perform 158 = .ok (.ireturn, 1) := by decide +kernel
theorem dX8_perform_159 : decode cX8_perform 159 = .ok (.aload_n 0, 1) := by decide +kernel
theorem dX8_perform_160 : decode cX8_perform 160 = .ok (.iload 4, 2) := by decide +kernel
theorem dX8_perform_162 : decode cX8_perform 162 = .ok (.iconst 2, 1) := by decide +kernel
theorem dX8_perform_163 : decode cX8_perform 163 = .ok (.iload 5, 2) := by decide +kernel
theorem dX8_perform_165 : decode cX8_perform 165 = .ok (.iconst (-1), 1) := by decide +kernel
theorem dX8_perform_166 : decode cX8_perform 166 = .ok (.iconst (-1), 1) := by decide +kernel
theorem dX8_perform_167 : decode cX8_perform 167 = .ok (.invokevirtual 34, 3) := by decide +kernel
theorem dX8_perform_170 : decode cX8_perform 170 = .ok (.iconst 0, 1) := by decide +kernel
theorem dX8_perform_171 : decode cX8_perform 171 = .ok (.ireturn, 1) := by decide +kernel
theorem dX8_perform_172 : decode cX8_perform 172 = .ok (.aload_n 0, 1) := by decide +kernel
theorem dX8_perform_173 : decode cX8_perform 173 = .ok (.iload 4, 2) := by decide +kernel
theorem dX8_perform_175 : decode cX8_perform 175 = .ok (.iconst 1, 1) := by decide +kernel
theorem dX8_perform_176 : decode cX8_perform 176 = .ok (.iload 5, 2) := by decide +kernel
theorem dX8_perform_178 : decode cX8_perform 178 = .ok (.iconst (-1), 1) := by decide +kernel
theorem dX8_perform_179 : decode cX8_perform 179 = .ok (.iconst (-1), 1) := by decide +kernel
theorem dX8_perform_180 : decode cX8_perform 180 = .ok (.invokevirtual 34, 3) := by decide +kernel
theorem dX8_perform_183 : decode cX8_perform 183 = .ok (.iconst 0, 1) := by decide +kernel
theorem dX8_perform_184 : decode cX8_perform 184 = .ok (.ireturn, 1) := by decide +kernel
theorem dX8_perform_185 : decode cX8_perform 185 = .ok (.aload_n 0, 1) := by decide +kernel
theorem dX8_perform_186 : decode cX8_perform 186 = .ok (.iload 4, 2) := by decide +kernel
theorem dX8_perform_188 : decode cX8_perform 188 = .ok (.iconst 0, 1) := by decide +kernel
theorem dX8_perform_189 : decode cX8_perform 189 = .ok (.iconst 0, 1) := by decide +kernel
theorem dX8_perform_190 : decode cX8_perform 190 = .ok (.iconst (-1), 1) := by decide +kernel
theorem dX8_perform_191 : decode cX8_perform 191 = .ok (.iconst (-1), 1) := by decide +kernel
theorem dX8_perform_192 : decode cX8_perform 192 = .ok (.invokevirtual 34, 3) := by decide +kernel
theorem dX8_perform_195 : decode cX8_perform 195 = .ok (.iconst 0, 1) := by decide +kernel
theorem dX8_perform_196 : decode cX8_perform 196 = .ok (.ireturn, 1) := by decide +kernel
theorem dX8_perform_197 : decode cX8_perform 197 = .ok (.aload_n 0, 1) := by decide +kernel
theorem dX8_perform_198 : decode cX8_perform 198 = .ok (.iload 4, 2) := by decide +kernel
theorem dX8_perform_200 : decode cX8_perform 200 = .ok (.aload_n 0, 1) := by decide +kernel
theorem dX8_perform_201 : decode cX8_perform 201 = .ok (.getfield 38, 3) := by decide +kernel
theorem dX8_perform_204 : decode cX8_perform 204 = .ok (.iload 5, 2) := by decide +kernel
theorem dX8_perform_206 : decode cX8_perform 206 = .ok (.invokevirtual 42, 3) := by decide +kernel
theorem dX8_perform_209 : decode cX8_perform 209 = .ok (.invokestatic 47, 3) := by decide +kernel
theorem dX8_perform_212 : decode cX8_perform 212 = .ok (.iconst 0, 1) := by decide +kernel
theorem dX8_perform_213 : decode cX8_perform 213 = .ok (.ireturn, 1) := by decide +kernel
theorem dX8_perform_214 : decode cX8_perform 214 = .ok (.aload_n 0, 1) := by decide +kernel
theorem dX8_perform_215 : decode cX8_perform 215 = .ok (.iload 4, 2) := by decide +kernel
theorem dX8_perform_217 : decode cX8_perform 217 = .ok (.aload_n 0, 1) := by decide +kernel
theorem dX8_perform_218 : decode cX8_perform 218 = .ok (.getfield 38, 3) := by decide +kernel
theorem dX8_perform_221 : decode cX8_perform 221 = .ok (.iload 5, 2) := by decide +kernel
theorem dX8_perform_223 : decode cX8_perform 223 = .ok (.invokevirtual 42, 3) := by decide +kernel
theorem dX8_perform_226 : decode cX8_perform 226 = .ok (.aload_n 0, 1) := by decide +kernel
theorem dX8_perform_227 : decode cX8_perform 227 = .ok (.getfield 38, 3) := by decide +kernel
theorem dX8_perform_230 : decode cX8_perform 230 = .ok (.iload 6, 2) := by decide +kernel
theorem dX8_perform_232 : decode cX8_perform 232 = .ok (.invokevirtual 42, 3) := by decide +kernel
theorem dX8_perform_235 : decode cX8_perform 235 = .ok (.invokestatic 53, 3) := by decide +kernel
theorem dX8_perform_238 : decode cX8_perform 238 = .ok (.iconst 0, 1) := by decide +kernel
theorem dX8_perform_239 : decode cX8_perform 239 = .ok (.ireturn, 1) := by decide +kernel
theorem dX8_perform_240 : decode cX8_perform 240 = .ok (.aload_n 0, 1) := by decide +kernel
theorem dX8_perform_241 : decode cX8_perform 241 = .ok (.iload 4, 2) := by decide +kernel
theorem dX8_perform_243 : decode cX8_perform 243 = .ok (.aload_n 0, 1) := by decide +kernel
theorem dX8_perform_244 : decode cX8_perform 244 = .ok (.getfield 38, 3) := by decide +kernel
theorem dX8_perform_247 : decode cX8_perform 247 = .ok (.iload 5, 2) := by decide +kernel
theorem dX8_perform_249 : decode cX8_perform 249 = .ok (.invokevirtual 42, 3) := by decide +kernel
theorem dX8_perform_252 : decode cX8_perform 252 = .ok (.iconst (-1), 1) := by decide +kernel
theorem dX8_perform_253 : decode cX8_perform 253 = .ok (.iload_n 3, 1) := by decide +kernel
theorem dX8_perform_254 : decode cX8_perform 254 = .ok (.invokestatic 57, 3) := by decide +kernel
theorem dX8_perform_257 : decode cX8_perform 257 = .ok (.ireturn, 1) := by decide +kernel
theorem dX8_perform_258 : decode cX8_perform 258 = .ok (.aload_n 0, 1) := by decide +kernel
theorem dX8_perform_259 : decode cX8_perform 259 = .ok (.iload 4, 2) := by decide +kernel
theorem dX8_perform_261 : decode cX8_perform 261 = .ok (.aload_n 0, 1) := by decide +kernel
theorem dX8_perform_262 : decode cX8_perform 262 = .ok (.getfield 38, 3) := by decide +kernel
theorem dX8_perform_265 : decode cX8_perform 265 = .ok (.iload 5, 2) := by decide +kernel
theorem dX8_perform_267 : decode cX8_perform 267 = .ok (.invokevirtual 42, 3) := by decide +kernel
theorem dX8_perform_270 : decode cX8_perform 270 = .ok (.aload_n 0, 1) := by decide +kernel
theorem dX8_perform_271 : decode cX8_perform 271 = .ok (.getfield 38, 3) := by decide +kernel
theorem dX8_perform_274 : decode cX8_perform 274 = .ok (.iload 6, 2) := by decide +kernel
theorem dX8_perform_276 : decode cX8_perform 276 = .ok (.invokevirtual 42, 3) := by decide +kernel
theorem dX8_perform_279 : decode cX8_perform 279 = .ok (.iload_n 3, 1) := by decide +kernel
theorem dX8_perform_280 : decode cX8_perform 280 = .ok (.invokestatic 57, 3) := by decide +kernel
theorem dX8_perform_283 : decode cX8_perform 283 = .ok (.ireturn, 1) := by decide +kernel
theorem dX8_perform_284 : decode cX8_perform 284 = .ok (.aload_n 0, 1) := by decide +kernel
theorem dX8_perform_285 : decode cX8_perform 285 = .ok (.iload 4, 2) := by decide +kernel
theorem dX8_perform_287 : decode cX8_perform 287 = .ok (.aload_n 0, 1) := by decide +kernel
theorem dX8_perform_288 : decode cX8_perform 288 = .ok (.getfield 38, 3) := by decide +kernel
theorem dX8_perform_291 : decode cX8_perform 291 = .ok (.iload 5, 2) := by decide +kernel
theorem dX8_perform_293 : decode cX8_perform 293 = .ok (.invokevirtual 42, 3) := by decide +kernel
theorem dX8_perform_296 : decode cX8_perform 296 = .ok (.invokestatic 61, 3) := by decide +kernel
theorem dX8_perform_299 : decode cX8_perform 299 = .ok (.ireturn, 1) := by decide +kernel
theorem dX8_perform_300 : decode cX8_perform 300 = .ok (.aload_n 0, 1) := by decide +kernel
theorem dX8_perform_301 : decode cX8_perform 301 = .ok (.aload_n 0, 1) := by decide +kernel
theorem dX8_perform_302 : decode cX8_perform 302 = .ok (.getfield 38, 3) := by decide +kernel
theorem dX8_perform_305 : decode cX8_perform 305 = .ok (.iload 4, 2) := by decide +kernel
theorem dX8_perform_307 : decode cX8_perform 307 = .ok (.invokevirtual 42, 3) := by decide +kernel
theorem dX8_perform_310 : decode cX8_perform 310 = .ok (.aload_n 0, 1) := by decide +kernel
theorem dX8_perform_311 : decode cX8_perform 311 = .ok (.getfield 38, 3) := by decide +kernel
theorem dX8_perform_314 : decode cX8_perform 314 = .ok (.iload 5, 2) := by decide +kernel
theorem dX8_perform_316 : decode cX8_perform 316 = .ok (.invokevirtual 42, 3) := by decide +kernel
theorem dX8_perform_319 : decode cX8_perform 319 = .ok (.invokestatic 65, 3) := by decide +kernel
theorem dX8_perform_322 : decode cX8_perform 322 = .ok (.ireturn, 1) := by decide +kernel
theorem dX8_perform_323 : decode cX8_perform 323 = .ok (.aload_n 0, 1) := by decide +kernel
theorem dX8_perform_324 : decode cX8_perform 324 = .ok (.iload 4, 2) := by decide +kernel
theorem dX8_perform_326 : decode cX8_perform 326 = .ok (.iconst 0, 1) := by decide +kernel
theorem dX8_perform_327 : decode cX8_perform 327 = .ok (.aload_n 2, 1) := by decide +kernel
theorem dX8_perform_328 : decode cX8_perform 328 = .ok (.invokevirtual 68, 3) := by decide +kernel
theorem dX8_perform_331 : decode cX8_perform 331 = .ok (.invokevirtual 74, 3) := by decide +kernel
theorem dX8_perform_334 : decode cX8_perform 334 = .ok (.iconst 0, 1) := by decide +kernel
theorem dX8_perform_335 : decode cX8_perform 335 = .ok (.ireturn, 1) := by decide +kernel
theorem dX8_perform_336 : decode cX8_perform 336 = .ok (.aload_n 0, 1) := by decide +kernel
theorem dX8_perform_337 : decode cX8_perform 337 = .ok (.iload 4, 2) := by decide +kernel
theorem dX8_perform_339 : decode cX8_perform 339 = .ok (.iconst 1, 1) := by decide +kernel
theorem dX8_perform_340 : decode cX8_perform 340 = .ok (.aload_n 2, 1) := by decide +kernel
theorem dX8_perform_341 : decode cX8_perform 341 = .ok (.iload 5, 2) := by decide +kernel
theorem dX8_perform_343 : decode cX8_perform 343 = .ok (.invokevirtual 78, 3) := by decide +kernel
theorem dX8_perform_346 : decode cX8_perform 346 = .ok (.invokevirtual 74, 3) := by decide +kernel
theorem dX8_perform_349 : decode cX8_perform 349 = .ok (.iconst 0, 1) := by decide +kernel
theorem dX8_perform_350 : decode cX8_perform 350 = .ok (.ireturn, 1) := by decide +kernel
theorem dX8_perform_351 : decode cX8_perform 351 = .ok (.aload_n 0, 1) := by decide +kernel
theorem dX8_perform_352 : decode cX8_perform 352 = .ok (.aload_n 0, 1) := by decide +kernel
theorem dX8_perform_353 : decode cX8_perform 353 = .ok (.getfield 38, 3) := by decide +kernel
theorem dX8_perform_356 : decode cX8_perform 356 = .ok (.iload 4, 2) := by decide +kernel
theorem dX8_perform_358 : decode cX8_perform 358 = .ok (.invokevirtual 42, 3) := by decide +kernel
theorem dX8_perform_361 : decode cX8_perform 361 = .ok (.invokestatic 81, 3) := by decide +kernel
theorem dX8_perform_364 : decode cX8_perform 364 = .ok (.iconst 0, 1) := by decide +kernel
theorem dX8_perform_365 : decode cX8_perform 365 = .ok (.ireturn, 1) := by decide +kernel
theorem dX8_perform_366 : decode cX8_perform 366 = .ok (.aload_n 0, 1) := by decide +kernel
theorem dX8_perform_367 : decode cX8_perform 367 = .ok (.iload 4, 2) := by decide +kernel
theorem dX8_perform_369 : decode cX8_perform 369 = .ok (.invokevirtual 85, 3) := by decide +kernel
theorem dX8_perform_372 : decode cX8_perform 372 = .ok (.iconst 0, 1) := by decide +kernel
theorem dX8_perform_373 : decode cX8_perform 373 = .ok (.ireturn, 1) := by decide +kernel
theorem dX8_perform_374 : decode cX8_perform 374 = .ok (.aload_n 0, 1) := by decide +kernel
theorem dX8_perform_375 : decode cX8_perform 375 = .ok (.aload_n 0, 1) := by decide +kernel
theorem dX8_perform_376 : decode cX8_perform 376 = .ok (.getfield 38, 3) := by decide +kernel
theorem dX8_perform_379 : decode cX8_perform 379 = .ok (.iload 4, 2) := by decide +kernel
theorem dX8_perform_381 : decode cX8_perform 381 = .ok (.invokevirtual 42, 3) := by decide +kernel
theorem dX8_perform_384 : decode cX8_perform 384 = .ok (.iload 5, 2) := by decide +kernel
theorem dX8_perform_386 : decode cX8_perform 386 = .ok (.invokestatic 89, 3) := by decide +kernel
theorem dX8_perform_389 : decode cX8_perform 389 = .ok (.ireturn, 1) := by decide +kernel
theorem dX8_perform_390 : decode cX8_perform 390 = .ok (.aload_n 0, 1) := by decide +kernel
theorem dX8_perform_391 : decode cX8_perform 391 = .ok (.iload 4, 2) := by decide +kernel
theorem dX8_perform_393 : decode cX8_perform 393 = .ok (.invokestatic 92, 3) := by decide +kernel
theorem dX8_perform_396 : decode cX8_perform 396 = .ok (.ireturn, 1) := by decide +kernel
theorem dX8_perform_397 : decode cX8_perform 397 = .ok (.aload_n 0, 1) := by decide +kernel
theorem dX8_perform_398 : decode cX8_perform 398 = .ok (.invokestatic 96, 3) := by decide +kernel
theorem dX8_perform_401 : decode cX8_perform 401 = .ok (.iconst 0, 1) := by decide +kernel
theorem dX8_perform_402 : decode cX8_perform 402 = .ok (.ireturn, 1) := by decide +kernel
theorem dX8_perform_403 : decode cX8_perform 403 = .ok (.iconst 5, 1) := by decide +kernel
theorem dX8_perform_404 : decode cX8_perform 404 = .ok (.ireturn, 1) := by decide +kernel
theorem dX8_perform_405 : decode cX8_perform 405 = .ok (.aload_n 0, 1) := by decide +kernel
theorem dX8_perform_406 : decode cX8_perform 406 = .ok (.iload 4, 2) := by decide +kernel
theorem dX8_perform_408 : decode cX8_perform 408 = .ok (.aload_n 0, 1) := by decide +kernel
theorem dX8_perform_409 : decode cX8_perform 409 = .ok (.getfield 38, 3) := by decide +kernel
theorem dX8_perform_412 : decode cX8_perform 412 = .ok (.iload 5, 2) := by decide +kernel
theorem dX8_perform_414 : decode cX8_perform 414 = .ok (.invokevirtual 42, 3) := by decide +kernel
theorem dX8_perform_417 : decode cX8_perform 417 = .ok (.aload_n 0, 1) := by decide +kernel
theorem dX8_perform_418 : decode cX8_perform 418 = .ok (.getfield 38, 3) := by decide +kernel
theorem dX8_perform_421 : decode cX8_perform 421 = .ok (.iload 6, 2) := by decide +kernel
theorem dX8_perform_423 : decode cX8_perform 423 = .ok (.invokevirtual 42, 3) := by decide +kernel
theorem dX8_perform_426 : decode cX8_perform 426 = .ok (.iload_n 3, 1) := by decide +kernel
theorem dX8_perform_427 : decode cX8_perform 427 = .ok (.invokestatic 100, 3) := by decide +kernel
theorem dX8_perform_430 : decode cX8_perform 430 = .ok (.ireturn, 1) := by decide +kernel
theorem dX8_putOut_0 : decode cX8_putOut 0 = .ok (.aload_n 0, 1) := by decide +kernel
theorem dX8_putOut_1 : decode cX8_putOut 1 = .ok (.aload_n 0, 1) := by decide +kernel
theorem dX8_putOut_2 : decode cX8_putOut 2 = .ok (.getfield 38, 3) := by decide +kernel
theorem dX8_putOut_5 : decode cX8_putOut 5 = .ok (.iload_n 1, 1) := by decide +kernel
theorem dX8_putOut_6 : decode cX8_putOut 6 = .ok (.invokevirtual 103, 3) := by decide +kernel
theorem dX8_putOut_9 : decode cX8_putOut 9 = .ok (.aload_n 0, 1) := by decide +kernel
theorem dX8_putOut_10 : decode cX8_putOut 10 = .ok (.getfield 38, 3) := by decide +kernel
theorem dX8_putOut_13 : decode cX8_putOut 13 = .ok (.iload_n 1, 1) := by decide +kernel
theorem dX8_putOut_14 : decode cX8_putOut 14 = .ok (.invokevirtual 106, 3) := by decide +kernel
theorem dX8_putOut_17 : decode cX8_putOut 17 = .ok (.invokevirtual 109, 3) := by decide +kernel
theorem dX8_putOut_20 : decode cX8_putOut 20 = .ok (.return_, 1) := by decide +kernel
theorem dX8_reckon_0 : decode cX8_reckon 0 = .ok (.aload_n 0, 1) := by decide +kernel
theorem dX8_reckon_1 : decode cX8_reckon 1 = .ok (.getfield 38, 3) := by decide +kernel
theorem dX8_reckon_4 : decode cX8_reckon 4 = .ok (.iload_n 2, 1) := by decide +kernel
theorem dX8_reckon_5 : decode cX8_reckon 5 = .ok (.invokevirtual 103, 3) := by decide +kernel
theorem dX8_reckon_8 : decode cX8_reckon 8 = .ok (.iconst 2, 1) := by decide +kernel
theorem dX8_reckon_9 : decode cX8_reckon 9 = .ok (.if_icmp .ne 15, 3) := by decide +kernel
theorem dX8_reckon_12 : decode cX8_reckon 12 = .ok (.aload_n 0, 1) := by decide +kernel
theorem dX8_reckon_13 : decode cX8_reckon 13 = .ok (.getfield 38, 3) := by decide +kernel
theorem dX8_reckon_16 : decode cX8_reckon 16 = .ok (.iload_n 3, 1) := by decide +kernel
theorem dX8_reckon_17 : decode cX8_reckon 17 = .ok (.invokevirtual 103, 3) := by decide +kernel
theorem dX8_reckon_20 : decode cX8_reckon 20 = .ok (.iconst 2, 1) := by decide +kernel
theorem dX8_reckon_21 : decode cX8_reckon 21 = .ok (.if_icmp .eq 5, 3) := by decide +kernel
theorem dX8_reckon_24 : decode cX8_reckon 24 = .ok (.iconst 1, 1) := by decide +kernel
theorem dX8_reckon_25 : decode cX8_reckon 25 = .ok (.ireturn, 1) := by decide +kernel
theorem dX8_reckon_26 : decode cX8_reckon 26 = .ok (.aload_n 0, 1) := by decide +kernel
theorem dX8_reckon_27 : decode cX8_reckon 27 = .ok (.getfield 38, 3) := by decide +kernel
theorem dX8_reckon_30 : decode cX8_reckon 30 = .ok (.iload_n 2, 1) := by decide +kernel
theorem dX8_reckon_31 : decode cX8_reckon 31 = .ok (.invokevirtual 106, 3) := by decide +kernel
theorem dX8_reckon_34 : decode cX8_reckon 34 = .ok (.istore 5, 2) := by decide +kernel
theorem dX8_reckon_36 : decode cX8_reckon 36 = .ok (.aload_n 0, 1) := by decide +kernel
theorem dX8_reckon_37 : decode cX8_reckon 37 = .ok (.getfield 38, 3) := by decide +kernel
theorem dX8_reckon_40 : decode cX8_reckon 40 = .ok (.iload_n 3, 1) := by decide +kernel
theorem dX8_reckon_41 : decode cX8_reckon 41 = .ok (.invokevirtual 106, 3) := by decide +kernel
theorem dX8_reckon_44 : decode cX8_reckon 44 = .ok (.istore 6, 2) := by decide +kernel
theorem dX8_reckon_46 : decode cX8_reckon 46 = .ok (.iload 4, 2) := by decide +kernel
theorem dX8_reckon_48 : decode cX8_reckon 48 = .ok (.bipush 7, 2) := by decide +kernel
theorem dX8_reckon_50 : decode cX8_reckon 50 = .ok (.if_icmp .eq 10, 3) := by decide +kernel
theorem dX8_reckon_53 : decode cX8_reckon 53 = .ok (.iload 4, 2) := by decide +kernel
theorem dX8_reckon_55 : decode cX8_reckon 55 = .ok (.bipush 8, 2) := by decide +kernel
theorem dX8_reckon_57 : decode cX8_reckon 57 = .ok (.if_icmp .ne 10, 3) := by decide +kernel
theorem dX8_reckon_60 : decode cX8_reckon 60 = .ok (.iload 6, 2) := by decide +kernel
theorem dX8_reckon_62 : decode cX8_reckon 62 = .ok (.ifCond .ne 5, 3) := by decide +kernel
theorem dX8_reckon_65 : decode cX8_reckon 65 = .ok (.iconst 2, 1) := by decide +kernel
theorem dX8_reckon_66 : decode cX8_reckon 66 = .ok (.ireturn, 1) := by decide +kernel
theorem dX8_reckon_67 : decode cX8_reckon 67 = .ok (.iload 4, 2) := by decide +kernel
theorem dX8_reckon_69 : decode cX8_reckon 69 = .ok (.bipush 9, 2) := by decide +kernel
theorem dX8_reckon_71 : decode cX8_reckon 71 = .ok (.if_icmp .ne 26, 3) := by decide +kernel
theorem dX8_reckon_74 : decode cX8_reckon 74 = .ok (.aload_n 0, 1) := by decide +kernel
theorem dX8_reckon_75 : decode cX8_reckon 75 = .ok (.iload_n 1, 1) := by decide +kernel
theorem dX8_reckon_76 : decode cX8_reckon 76 = .ok (.iconst 1, 1) := by decide +kernel
theorem dX8_reckon_77 : decode cX8_reckon 77 = .ok (.iload 5, 2) := by decide +kernel
theorem dX8_reckon_79 : decode cX8_reckon 79 = .ok (.iload 6, 2) := by decide +kernel
theorem dX8_reckon_81 : decode cX8_reckon 81 = .ok (.if_icmp .ge 7, 3) := by decide +kernel
theorem dX8_reckon_84 : decode cX8_reckon 84 = .ok (.iconst 1, 1) := by decide +kernel
theorem dX8_reckon_85 : decode cX8_reckon 85 = .ok (.goto 4, 3) := by decide +kernel
theorem dX8_reckon_88 : decode cX8_reckon 88 = .ok (.iconst 0, 1) := by decide +kernel
theorem dX8_reckon_89 : decode cX8_reckon 89 = .ok (.iload_n 2, 1) := by decide +kernel
theorem dX8_reckon_90 : decode cX8_reckon 90 = .ok (.iload_n 3, 1) := by decide +kernel
theorem dX8_reckon_91 : decode cX8_reckon 91 = .ok (.invokevirtual 34, 3) := by decide +kernel
theorem dX8_reckon_94 : decode cX8_reckon 94 = .ok (.goto 20, 3) := by decide +kernel
theorem dX8_reckon_97 : decode cX8_reckon 97 = .ok (.aload_n 0, 1) := by decide +kernel
theorem dX8_reckon_98 : decode cX8_reckon 98 = .ok (.iload_n 1, 1) := by decide +kernel
theorem dX8_reckon_99 : decode cX8_reckon 99 = .ok (.iconst 2, 1) := by decide +kernel
theorem dX8_reckon_100 : decode cX8_reckon 100 = .ok (.iload 4, 2) := by decide +kernel
theorem dX8_reckon_102 : decode cX8_reckon 102 = .ok (.iload 5, 2) := by decide +kernel
theorem dX8_reckon_104 : decode cX8_reckon 104 = .ok (.iload 6, 2) := by decide +kernel
theorem dX8_reckon_106 : decode cX8_reckon 106 = .ok (.invokestatic 142, 3) := by decide +kernel
theorem dX8_reckon_109 : decode cX8_reckon 109 = .ok (.iload_n 2, 1) := by decide +kernel
theorem dX8_reckon_110 : decode cX8_reckon 110 = .ok (.iload_n 3, 1) := by decide +kernel
theorem dX8_reckon_111 : decode cX8_reckon 111 = .ok (.invokevirtual 34, 3) := by decide +kernel
theorem dX8_reckon_114 : decode cX8_reckon 114 = .ok (.iconst 0, 1) := by decide +kernel
theorem dX8_reckon_115 : decode cX8_reckon 115 = .ok (.ireturn, 1) := by decide +kernel
theorem dX8_reckoned_0 : decode cX8_reckoned 0 = .ok (.iload_n 0, 1) := by decide +kernel
theorem dX8_reckoned_1 : decode cX8_reckoned 1 = .ok (.tableswitch 55 4 7 #[31, 35, 39, 43], 31) := by decide +kernel
theorem dX8_reckoned_32 : decode cX8_reckoned 32 = .ok (.iload_n 1, 1) := by decide +kernel
theorem dX8_reckoned_33 : decode cX8_reckoned 33 = .ok (.iload_n 2, 1) := by decide +kernel
theorem dX8_reckoned_34 : decode cX8_reckoned 34 = .ok (.iadd, 1) := by decide +kernel
theorem dX8_reckoned_35 : decode cX8_reckoned 35 = .ok (.ireturn, 1) := by decide +kernel
theorem dX8_reckoned_36 : decode cX8_reckoned 36 = .ok (.iload_n 1, 1) := by decide +kernel
theorem dX8_reckoned_37 : decode cX8_reckoned 37 = .ok (.iload_n 2, 1) := by decide +kernel
theorem dX8_reckoned_38 : decode cX8_reckoned 38 = .ok (.isub, 1) := by decide +kernel
theorem dX8_reckoned_39 : decode cX8_reckoned 39 = .ok (.ireturn, 1) := by decide +kernel
theorem dX8_reckoned_40 : decode cX8_reckoned 40 = .ok (.iload_n 1, 1) := by decide +kernel
theorem dX8_reckoned_41 : decode cX8_reckoned 41 = .ok (.iload_n 2, 1) := by decide +kernel
theorem dX8_reckoned_42 : decode cX8_reckoned 42 = .ok (.imul, 1) := by decide +kernel
theorem dX8_reckoned_43 : decode cX8_reckoned 43 = .ok (.ireturn, 1) := by decide +kernel
theorem dX8_reckoned_44 : decode cX8_reckoned 44 = .ok (.iload_n 2, 1) := by decide +kernel
theorem dX8_reckoned_45 : decode cX8_reckoned 45 = .ok (.ifCond .ne 7, 3) := by decide +kernel
theorem dX8_reckoned_48 : decode cX8_reckoned 48 = .ok (.iconst 0, 1) := by decide +kernel
theorem dX8_reckoned_49 : decode cX8_reckoned 49 = .ok (.goto 6, 3) := by decide +kernel
theorem dX8_reckoned_52 : decode cX8_reckoned 52 = .ok (.iload_n 1, 1) := by decide +kernel
theorem dX8_reckoned_53 : decode cX8_reckoned 53 = .ok (.iload_n 2, 1) := by decide +kernel
theorem dX8_reckoned_54 : decode cX8_reckoned 54 = .ok (.idiv, 1) := by decide +kernel
theorem dX8_reckoned_55 : decode cX8_reckoned 55 = .ok (.ireturn, 1) := by decide +kernel
theorem dX8_reckoned_56 : decode cX8_reckoned 56 = .ok (.iload_n 2, 1) := by decide +kernel
theorem dX8_reckoned_57 : decode cX8_reckoned 57 = .ok (.ifCond .ne 7, 3) := by decide +kernel
theorem dX8_reckoned_60 : decode cX8_reckoned 60 = .ok (.iconst 0, 1) := by decide +kernel
theorem dX8_reckoned_61 : decode cX8_reckoned 61 = .ok (.goto 6, 3) := by decide +kernel
theorem dX8_reckoned_64 : decode cX8_reckoned 64 = .ok (.iload_n 1, 1) := by decide +kernel
theorem dX8_reckoned_65 : decode cX8_reckoned 65 = .ok (.iload_n 2, 1) := by decide +kernel
theorem dX8_reckoned_66 : decode cX8_reckoned 66 = .ok (.irem, 1) := by decide +kernel
theorem dX8_reckoned_67 : decode cX8_reckoned 67 = .ok (.ireturn, 1) := by decide +kernel
theorem dX8_toCell_0 : decode cX8_toCell 0 = .ok (.aload_n 0, 1) := by decide +kernel
theorem dX8_toCell_1 : decode cX8_toCell 1 = .ok (.getfield 38, 3) := by decide +kernel
theorem dX8_toCell_4 : decode cX8_toCell 4 = .ok (.iload_n 1, 1) := by decide +kernel
theorem dX8_toCell_5 : decode cX8_toCell 5 = .ok (.invokevirtual 103, 3) := by decide +kernel
theorem dX8_toCell_8 : decode cX8_toCell 8 = .ok (.iconst 2, 1) := by decide +kernel
theorem dX8_toCell_9 : decode cX8_toCell 9 = .ok (.if_icmp .eq 5, 3) := by decide +kernel
theorem dX8_toCell_12 : decode cX8_toCell 12 = .ok (.iconst 1, 1) := by decide +kernel
theorem dX8_toCell_13 : decode cX8_toCell 13 = .ok (.ireturn, 1) := by decide +kernel
theorem dX8_toCell_14 : decode cX8_toCell 14 = .ok (.aload_n 0, 1) := by decide +kernel
theorem dX8_toCell_15 : decode cX8_toCell 15 = .ok (.getfield 38, 3) := by decide +kernel
theorem dX8_toCell_18 : decode cX8_toCell 18 = .ok (.iload_n 1, 1) := by decide +kernel
theorem dX8_toCell_19 : decode cX8_toCell 19 = .ok (.invokevirtual 106, 3) := by decide +kernel
theorem dX8_toCell_22 : decode cX8_toCell 22 = .ok (.istore_n 3, 1) := by decide +kernel
theorem dX8_toCell_23 : decode cX8_toCell 23 = .ok (.iload_n 3, 1) := by decide +kernel
theorem dX8_toCell_24 : decode cX8_toCell 24 = .ok (.ifCond .lt 9, 3) := by decide +kernel
theorem dX8_toCell_27 : decode cX8_toCell 27 = .ok (.iload_n 3, 1) := by decide +kernel
theorem dX8_toCell_28 : decode cX8_toCell 28 = .ok (.bipush 32, 2) := by decide +kernel
theorem dX8_toCell_30 : decode cX8_toCell 30 = .ok (.if_icmp .lt 5, 3) := by decide +kernel
theorem dX8_toCell_33 : decode cX8_toCell 33 = .ok (.iconst 3, 1) := by decide +kernel
theorem dX8_toCell_34 : decode cX8_toCell 34 = .ok (.ireturn, 1) := by decide +kernel
theorem dX8_toCell_35 : decode cX8_toCell 35 = .ok (.aload_n 0, 1) := by decide +kernel
theorem dX8_toCell_36 : decode cX8_toCell 36 = .ok (.bipush 8, 2) := by decide +kernel
theorem dX8_toCell_38 : decode cX8_toCell 38 = .ok (.iload_n 3, 1) := by decide +kernel
theorem dX8_toCell_39 : decode cX8_toCell 39 = .ok (.iadd, 1) := by decide +kernel
theorem dX8_toCell_40 : decode cX8_toCell 40 = .ok (.aload_n 0, 1) := by decide +kernel
theorem dX8_toCell_41 : decode cX8_toCell 41 = .ok (.getfield 38, 3) := by decide +kernel
theorem dX8_toCell_44 : decode cX8_toCell 44 = .ok (.iload_n 2, 1) := by decide +kernel
theorem dX8_toCell_45 : decode cX8_toCell 45 = .ok (.invokevirtual 103, 3) := by decide +kernel
theorem dX8_toCell_48 : decode cX8_toCell 48 = .ok (.aload_n 0, 1) := by decide +kernel
theorem dX8_toCell_49 : decode cX8_toCell 49 = .ok (.getfield 38, 3) := by decide +kernel
theorem dX8_toCell_52 : decode cX8_toCell 52 = .ok (.iload_n 2, 1) := by decide +kernel
theorem dX8_toCell_53 : decode cX8_toCell 53 = .ok (.invokevirtual 106, 3) := by decide +kernel
theorem dX8_toCell_56 : decode cX8_toCell 56 = .ok (.iload_n 1, 1) := by decide +kernel
theorem dX8_toCell_57 : decode cX8_toCell 57 = .ok (.iload_n 2, 1) := by decide +kernel
theorem dX8_toCell_58 : decode cX8_toCell 58 = .ok (.invokevirtual 34, 3) := by decide +kernel
theorem dX8_toCell_61 : decode cX8_toCell 61 = .ok (.iconst 0, 1) := by decide +kernel
theorem dX8_toCell_62 : decode cX8_toCell 62 = .ok (.ireturn, 1) := by decide +kernel
def g_X8_combine_j68 (F : Nat) (o0 : Nat) (l1 : Int32) (l2 : Int32) (l3 : Int32) (s0 : Int32) (u : rg_U) : Option (Int32 × rg_U) :=
  ob (g_X7_putByStep F o0 l1 1 s0 l2 l3 u) (fun r10 => some (0, r10))
set_option maxHeartbeats 4000000 in
set_option maxRecDepth 100000 in
theorem k_X8_combine_j68 {gs : List String} {ro : pm_RO} {n : Nat} {w w1 : Nat → va_E} {b : Nat} {u : rg_U} {F : Nat} {o0 : Nat} {l1 : Int32} {l2 : Int32} {l3 : Int32} {s0 : Int32} {z : (Int32 × rg_U)} (hR : rg shC b u n w1) (hk : rg_k b shC.length w w1) (hs0 : sp_Run o0) (h : g_X8_combine_j68 F o0 l1 l2 l3 s0 u = some z) : pm_X gs ro M_X8_combine 4 0 0 0 0 68 [some (.ref (b + o0)), some (.int l1), some (.int l2), some (.int l3), none, none, none] [.int s0] n w1 (rg_post shC b n w (some (.int z.1)) z.2) := by
  unfold g_X8_combine_j68 at h
  refine pm_istore dX8_combine_68 (by decide) rfl rfl ?_
  refine pm_aload_n dX8_combine_70 rfl ?_
  refine pm_iload_n dX8_combine_71 rfl ?_
  refine pm_iconst (v := 1) dX8_combine_72 (by decide) ?_
  refine pm_iload dX8_combine_73 rfl ?_
  refine pm_iload_n dX8_combine_75 rfl ?_
  refine pm_iload_n dX8_combine_76 rfl ?_
  obtain ⟨r10, h11, h⟩ := ob_some h
  refine dx_cVv (j := o0) (M := M_X8_combine) (Mc := M_X7_putByStep) (dc := 3) (As := [.int l1, .int 1, .int s0, .int l2, .int l3]) (st := []) hR hk dX8_combine_77 ml_X8_34 ⟨TX7, 15, rfl⟩ (sp_Run_self hs0) (by decide) (Nat.le_of_ble_eq_true rfl) rfl (k_X7_putByStep hR hs0 h11) (fun w12 hR13 hk14 => ?_)
  refine pm_iconst (v := 0) dX8_combine_80 (by decide) ?_
  cases h
  exact pm_iret dX8_combine_81 rfl (Nat.le_refl _) (Nat.le_refl _) ⟨rfl, rfl, hR13, hk14⟩
def g_X8_combine_j33 (F : Nat) (o0 : Nat) (l1 : Int32) (l2 : Int32) (l3 : Int32) (l4 : Int32) (u : rg_U) : Option (Int32 × rg_U) :=
  ob (g_X6_numberOf F (o0 + 12) l2 u) (fun r5 => if l4 = 11 then (g_X8_combine_j68 F o0 l1 l2 l3 (1 - r5) u) else (ob (g_X6_numberOf F (o0 + 12) l3 u) (fun r8 => g_X8_combine_j68 F o0 l1 l2 l3 (r5 &&& r8) u)))
set_option maxHeartbeats 4000000 in
set_option maxRecDepth 100000 in
theorem k_X8_combine_j33 {gs : List String} {ro : pm_RO} {n : Nat} {w w1 : Nat → va_E} {b : Nat} {u : rg_U} {F : Nat} {o0 : Nat} {l1 : Int32} {l2 : Int32} {l3 : Int32} {l4 : Int32} {z : (Int32 × rg_U)} (hR : rg shC b u n w1) (hk : rg_k b shC.length w w1) (hs0 : sp_Run o0) (h : g_X8_combine_j33 F o0 l1 l2 l3 l4 u = some z) : pm_X gs ro M_X8_combine 4 0 0 0 0 33 [some (.ref (b + o0)), some (.int l1), some (.int l2), some (.int l3), some (.int l4), none, none] [] n w1 (rg_post shC b n w (some (.int z.1)) z.2) := by
  unfold g_X8_combine_j33 at h
  refine pm_aload_n dX8_combine_33 rfl ?_
  refine dx_gr (j := o0) (o := (o0 + 12)) hR dX8_combine_34 fl_X8_38 (sp_Run_self hs0) rfl ?_
  refine pm_iload_n dX8_combine_37 rfl ?_
  obtain ⟨r5, h6, h⟩ := ob_some h
  refine dx_cVp (j := (o0 + 12)) (M := M_X8_combine) (Mc := M_X6_numberOf) (dc := 0) (As := [.int l2]) (st := []) hR dX8_combine_38 ml_X8_106 ⟨TX6, 12, rfl⟩ (sp_Puts_self (sp_Run_puts hs0)) (by decide) (Nat.le_of_ble_eq_true rfl) rfl (k_X6_numberOf hR (sp_Run_puts hs0) h6) ?_
  refine pm_istore dX8_combine_41 (by decide) rfl rfl ?_
  refine pm_iload dX8_combine_43 rfl ?_
  refine pm_bipush (v := 11) dX8_combine_45 (by decide) ?_
  refine pm_icmp_ne (tgt := 57) dX8_combine_47 (by decide) (fun c7 => ?_) (fun c7 => ?_)
  · replace h := it_f c7 h
    refine pm_iload dX8_combine_57 rfl ?_
    refine pm_aload_n dX8_combine_59 rfl ?_
    refine dx_gr (j := o0) (o := (o0 + 12)) hR dX8_combine_60 fl_X8_38 (sp_Run_self hs0) rfl ?_
    refine pm_iload_n dX8_combine_63 rfl ?_
    obtain ⟨r8, h9, h⟩ := ob_some h
    refine dx_cVp (j := (o0 + 12)) (M := M_X8_combine) (Mc := M_X6_numberOf) (dc := 0) (As := [.int l3]) (st := [.int r5]) hR dX8_combine_64 ml_X8_106 ⟨TX6, 12, rfl⟩ (sp_Puts_self (sp_Run_puts hs0)) (by decide) (Nat.le_of_ble_eq_true rfl) rfl (k_X6_numberOf hR (sp_Run_puts hs0) h9) ?_
    refine pm_iand dX8_combine_67 ?_
    refine pm_lw (L' := [some (.ref (b + o0)), some (.int l1), some (.int l2), some (.int l3), none, none, none]) ⟨Or.inr rfl, Or.inr rfl, Or.inr rfl, Or.inr rfl, Or.inl rfl, Or.inl rfl, Or.inl rfl, trivial⟩ ?_
    exact k_X8_combine_j68 hR hk hs0 h
  · replace h := it_t c7 h
    refine pm_iconst (v := 1) dX8_combine_50 (by decide) ?_
    refine pm_iload dX8_combine_51 rfl ?_
    refine pm_isub dX8_combine_53 ?_
    refine pm_goto (tgt := 68) dX8_combine_54 (by decide) ?_
    refine pm_lw (L' := [some (.ref (b + o0)), some (.int l1), some (.int l2), some (.int l3), none, none, none]) ⟨Or.inr rfl, Or.inr rfl, Or.inr rfl, Or.inr rfl, Or.inl rfl, Or.inl rfl, Or.inl rfl, trivial⟩ ?_
    exact k_X8_combine_j68 hR hk hs0 h
def g_X8_combine (F : Nat) (o0 : Nat) (x1 : Int32) (x2 : Int32) (x3 : Int32) (x4 : Int32) (u : rg_U) : Option (Int32 × rg_U) :=
  ob (g_X6_sortOf F (o0 + 12) x2 u) (fun r1 => if r1 = 1 then (if x4 = 12 then (ob (g_X6_sortOf F (o0 + 12) x3 u) (fun r15 => if r15 = 1 then (g_X8_combine_j33 F o0 x1 x2 x3 x4 u) else (some (1, u)))) else (g_X8_combine_j33 F o0 x1 x2 x3 x4 u)) else (some (1, u)))
set_option maxHeartbeats 4000000 in
set_option maxRecDepth 100000 in
theorem k_X8_combine {gs : List String} {ro : pm_RO} {n : Nat} {w : Nat → va_E} {b : Nat} {u : rg_U} {F : Nat} {o0 : Nat} {x1 : Int32} {x2 : Int32} {x3 : Int32} {x4 : Int32} {z : (Int32 × rg_U)} (hR : rg shC b u n w) (hs0 : sp_Run o0) (h : g_X8_combine F o0 x1 x2 x3 x4 u = some z) : pm_Met gs ro M_X8_combine 4 0 0 [.ref (b + o0), .int x1, .int x2, .int x3, .int x4] n w (rg_post shC b n w (some (.int z.1)) z.2) := by
  unfold g_X8_combine at h
  refine pm_ofX in_X8_combine (Nat.le_of_ble_eq_true rfl) rfl (L := [some (.ref (b + o0)), some (.int x1), some (.int x2), some (.int x3), some (.int x4), none, none]) rfl ?_
  refine pm_aload_n dX8_combine_0 rfl ?_
  refine dx_gr (j := o0) (o := (o0 + 12)) hR dX8_combine_1 fl_X8_38 (sp_Run_self hs0) rfl ?_
  refine pm_iload_n dX8_combine_4 rfl ?_
  obtain ⟨r1, h2, h⟩ := ob_some h
  refine dx_cVp (j := (o0 + 12)) (M := M_X8_combine) (Mc := M_X6_sortOf) (dc := 0) (As := [.int x2]) (st := []) hR dX8_combine_5 ml_X8_103 ⟨TX6, 12, rfl⟩ (sp_Puts_self (sp_Run_puts hs0)) (by decide) (Nat.le_of_ble_eq_true rfl) rfl (k_X6_sortOf hR (sp_Run_puts hs0) h2) ?_
  refine pm_iconst (v := 1) dX8_combine_8 (by decide) ?_
  refine pm_icmp_ne (tgt := 31) dX8_combine_9 (by decide) (fun c3 => ?_) (fun c3 => ?_)
  · replace h := it_f c3 h
    refine pm_iconst (v := 1) dX8_combine_31 (by decide) ?_
    cases h
    exact pm_iret dX8_combine_32 rfl (Nat.le_refl _) (Nat.le_refl _) ⟨rfl, rfl, hR, rg_k0⟩
  · replace h := it_t c3 h
    refine pm_iload dX8_combine_12 rfl ?_
    refine pm_bipush (v := 12) dX8_combine_14 (by decide) ?_
    refine pm_icmp_ne (tgt := 33) dX8_combine_16 (by decide) (fun c4 => ?_) (fun c4 => ?_)
    · replace h := it_f c4 h
      exact k_X8_combine_j33 hR rg_k0 hs0 h
    · replace h := it_t c4 h
      refine pm_aload_n dX8_combine_19 rfl ?_
      refine dx_gr (j := o0) (o := (o0 + 12)) hR dX8_combine_20 fl_X8_38 (sp_Run_self hs0) rfl ?_
      refine pm_iload_n dX8_combine_23 rfl ?_
      obtain ⟨r15, h16, h⟩ := ob_some h
      refine dx_cVp (j := (o0 + 12)) (M := M_X8_combine) (Mc := M_X6_sortOf) (dc := 0) (As := [.int x3]) (st := []) hR dX8_combine_24 ml_X8_103 ⟨TX6, 12, rfl⟩ (sp_Puts_self (sp_Run_puts hs0)) (by decide) (Nat.le_of_ble_eq_true rfl) rfl (k_X6_sortOf hR (sp_Run_puts hs0) h16) ?_
      refine pm_iconst (v := 1) dX8_combine_27 (by decide) ?_
      refine pm_icmp_eq (tgt := 33) dX8_combine_28 (by decide) (fun c17 => ?_) (fun c17 => ?_)
      · replace h := it_t c17 h
        exact k_X8_combine_j33 hR rg_k0 hs0 h
      · replace h := it_f c17 h
        refine pm_iconst (v := 1) dX8_combine_31 (by decide) ?_
        cases h
        exact pm_iret dX8_combine_32 rfl (Nat.le_refl _) (Nat.le_refl _) ⟨rfl, rfl, hR, rg_k0⟩
def g_X8_fromCell (F : Nat) (o0 : Nat) (x1 : Int32) (x2 : Int32) (u : rg_U) : Option (Int32 × rg_U) :=
  ob (g_X6_sortOf F (o0 + 12) x2 u) (fun r1 => if r1 = 2 then (ob (g_X6_numberOf F (o0 + 12) x2 u) (fun r4 => if r4 < 0 then (some (3, u)) else (if r4 < 32 then (ob (g_X6_latestOf F (o0 + 12) (8 + r4) u) (fun r8 => ob (g_X6_sortOf F (o0 + 12) r8 u) (fun r10 => ob (g_X6_numberOf F (o0 + 12) r8 u) (fun r12 => ob (g_X7_putByStep F o0 x1 r10 r12 x2 r8 u) (fun r14 => some (0, r14)))))) else (some (3, u))))) else (some (1, u)))
set_option maxHeartbeats 4000000 in
set_option maxRecDepth 100000 in
theorem k_X8_fromCell {gs : List String} {ro : pm_RO} {n : Nat} {w : Nat → va_E} {b : Nat} {u : rg_U} {F : Nat} {o0 : Nat} {x1 : Int32} {x2 : Int32} {z : (Int32 × rg_U)} (hR : rg shC b u n w) (hs0 : sp_Run o0) (h : g_X8_fromCell F o0 x1 x2 u = some z) : pm_Met gs ro M_X8_fromCell 4 0 0 [.ref (b + o0), .int x1, .int x2] n w (rg_post shC b n w (some (.int z.1)) z.2) := by
  unfold g_X8_fromCell at h
  refine pm_ofX in_X8_fromCell (Nat.le_of_ble_eq_true rfl) rfl (L := [some (.ref (b + o0)), some (.int x1), some (.int x2), none, none]) rfl ?_
  refine pm_aload_n dX8_fromCell_0 rfl ?_
  refine dx_gr (j := o0) (o := (o0 + 12)) hR dX8_fromCell_1 fl_X8_38 (sp_Run_self hs0) rfl ?_
  refine pm_iload_n dX8_fromCell_4 rfl ?_
  obtain ⟨r1, h2, h⟩ := ob_some h
  refine dx_cVp (j := (o0 + 12)) (M := M_X8_fromCell) (Mc := M_X6_sortOf) (dc := 0) (As := [.int x2]) (st := []) hR dX8_fromCell_5 ml_X8_103 ⟨TX6, 12, rfl⟩ (sp_Puts_self (sp_Run_puts hs0)) (by decide) (Nat.le_of_ble_eq_true rfl) rfl (k_X6_sortOf hR (sp_Run_puts hs0) h2) ?_
  refine pm_iconst (v := 2) dX8_fromCell_8 (by decide) ?_
  refine pm_icmp_eq (tgt := 14) dX8_fromCell_9 (by decide) (fun c3 => ?_) (fun c3 => ?_)
  · replace h := it_t c3 h
    refine pm_aload_n dX8_fromCell_14 rfl ?_
    refine dx_gr (j := o0) (o := (o0 + 12)) hR dX8_fromCell_15 fl_X8_38 (sp_Run_self hs0) rfl ?_
    refine pm_iload_n dX8_fromCell_18 rfl ?_
    obtain ⟨r4, h5, h⟩ := ob_some h
    refine dx_cVp (j := (o0 + 12)) (M := M_X8_fromCell) (Mc := M_X6_numberOf) (dc := 0) (As := [.int x2]) (st := []) hR dX8_fromCell_19 ml_X8_106 ⟨TX6, 12, rfl⟩ (sp_Puts_self (sp_Run_puts hs0)) (by decide) (Nat.le_of_ble_eq_true rfl) rfl (k_X6_numberOf hR (sp_Run_puts hs0) h5) ?_
    refine pm_istore_n dX8_fromCell_22 (by decide) rfl rfl ?_
    refine pm_iload_n dX8_fromCell_23 rfl ?_
    refine pm_if_lt (tgt := 33) dX8_fromCell_24 (by decide) (fun c6 => ?_) (fun c6 => ?_)
    · replace h := it_t c6 h
      refine pm_iconst (v := 3) dX8_fromCell_33 (by decide) ?_
      cases h
      exact pm_iret dX8_fromCell_34 rfl (Nat.le_refl _) (Nat.le_refl _) ⟨rfl, rfl, hR, rg_k0⟩
    · replace h := it_f c6 h
      refine pm_iload_n dX8_fromCell_27 rfl ?_
      refine pm_bipush (v := 32) dX8_fromCell_28 (by decide) ?_
      refine pm_icmp_lt (tgt := 35) dX8_fromCell_30 (by decide) (fun c7 => ?_) (fun c7 => ?_)
      · replace h := it_t c7 h
        refine pm_aload_n dX8_fromCell_35 rfl ?_
        refine dx_gr (j := o0) (o := (o0 + 12)) hR dX8_fromCell_36 fl_X8_38 (sp_Run_self hs0) rfl ?_
        refine pm_bipush (v := 8) dX8_fromCell_39 (by decide) ?_
        refine pm_iload_n dX8_fromCell_41 rfl ?_
        refine pm_iadd dX8_fromCell_42 ?_
        obtain ⟨r8, h9, h⟩ := ob_some h
        refine dx_cVp (j := (o0 + 12)) (M := M_X8_fromCell) (Mc := M_X6_latestOf) (dc := 1) (As := [.int (8 + r4)]) (st := []) hR dX8_fromCell_43 ml_X8_42 ⟨TX6, 12, rfl⟩ (sp_Puts_self (sp_Run_puts hs0)) (by decide) (Nat.le_of_ble_eq_true rfl) rfl (k_X6_latestOf hR (sp_Run_puts hs0) h9) ?_
        refine pm_istore dX8_fromCell_46 (by decide) rfl rfl ?_
        refine pm_aload_n dX8_fromCell_48 rfl ?_
        refine pm_iload_n dX8_fromCell_49 rfl ?_
        refine pm_aload_n dX8_fromCell_50 rfl ?_
        refine dx_gr (j := o0) (o := (o0 + 12)) hR dX8_fromCell_51 fl_X8_38 (sp_Run_self hs0) rfl ?_
        refine pm_iload dX8_fromCell_54 rfl ?_
        obtain ⟨r10, h11, h⟩ := ob_some h
        refine dx_cVp (j := (o0 + 12)) (M := M_X8_fromCell) (Mc := M_X6_sortOf) (dc := 0) (As := [.int r8]) (st := [.int x1, .ref (b + o0)]) hR dX8_fromCell_56 ml_X8_103 ⟨TX6, 12, rfl⟩ (sp_Puts_self (sp_Run_puts hs0)) (by decide) (Nat.le_of_ble_eq_true rfl) rfl (k_X6_sortOf hR (sp_Run_puts hs0) h11) ?_
        refine pm_aload_n dX8_fromCell_59 rfl ?_
        refine dx_gr (j := o0) (o := (o0 + 12)) hR dX8_fromCell_60 fl_X8_38 (sp_Run_self hs0) rfl ?_
        refine pm_iload dX8_fromCell_63 rfl ?_
        obtain ⟨r12, h13, h⟩ := ob_some h
        refine dx_cVp (j := (o0 + 12)) (M := M_X8_fromCell) (Mc := M_X6_numberOf) (dc := 0) (As := [.int r8]) (st := [.int r10, .int x1, .ref (b + o0)]) hR dX8_fromCell_65 ml_X8_106 ⟨TX6, 12, rfl⟩ (sp_Puts_self (sp_Run_puts hs0)) (by decide) (Nat.le_of_ble_eq_true rfl) rfl (k_X6_numberOf hR (sp_Run_puts hs0) h13) ?_
        refine pm_iload_n dX8_fromCell_68 rfl ?_
        refine pm_iload dX8_fromCell_69 rfl ?_
        obtain ⟨r14, h15, h⟩ := ob_some h
        refine dx_cVv (j := o0) (M := M_X8_fromCell) (Mc := M_X7_putByStep) (dc := 3) (As := [.int x1, .int r10, .int r12, .int x2, .int r8]) (st := []) hR rg_k0 dX8_fromCell_71 ml_X8_34 ⟨TX7, 15, rfl⟩ (sp_Run_self hs0) (by decide) (Nat.le_of_ble_eq_true rfl) rfl (k_X7_putByStep hR hs0 h15) (fun w16 hR17 hk18 => ?_)
        refine pm_iconst (v := 0) dX8_fromCell_74 (by decide) ?_
        cases h
        exact pm_iret dX8_fromCell_75 rfl (Nat.le_refl _) (Nat.le_refl _) ⟨rfl, rfl, hR17, hk18⟩
      · replace h := it_f c7 h
        refine pm_iconst (v := 3) dX8_fromCell_33 (by decide) ?_
        cases h
        exact pm_iret dX8_fromCell_34 rfl (Nat.le_refl _) (Nat.le_refl _) ⟨rfl, rfl, hR, rg_k0⟩
  · replace h := it_f c3 h
    refine pm_iconst (v := 1) dX8_fromCell_12 (by decide) ?_
    cases h
    exact pm_iret dX8_fromCell_13 rfl (Nat.le_refl _) (Nat.le_refl _) ⟨rfl, rfl, hR, rg_k0⟩
def g_X8_toCell (F : Nat) (o0 : Nat) (x1 : Int32) (x2 : Int32) (u : rg_U) : Option (Int32 × rg_U) :=
  ob (g_X6_sortOf F (o0 + 12) x1 u) (fun r1 => if r1 = 2 then (ob (g_X6_numberOf F (o0 + 12) x1 u) (fun r4 => if r4 < 0 then (some (3, u)) else (if r4 < 32 then (ob (g_X6_sortOf F (o0 + 12) x2 u) (fun r8 => ob (g_X6_numberOf F (o0 + 12) x2 u) (fun r10 => ob (g_X7_putByStep F o0 (8 + r4) r8 r10 x1 x2 u) (fun r12 => some (0, r12))))) else (some (3, u))))) else (some (1, u)))
set_option maxHeartbeats 4000000 in
set_option maxRecDepth 100000 in
theorem k_X8_toCell {gs : List String} {ro : pm_RO} {n : Nat} {w : Nat → va_E} {b : Nat} {u : rg_U} {F : Nat} {o0 : Nat} {x1 : Int32} {x2 : Int32} {z : (Int32 × rg_U)} (hR : rg shC b u n w) (hs0 : sp_Run o0) (h : g_X8_toCell F o0 x1 x2 u = some z) : pm_Met gs ro M_X8_toCell 4 0 0 [.ref (b + o0), .int x1, .int x2] n w (rg_post shC b n w (some (.int z.1)) z.2) := by
  unfold g_X8_toCell at h
  refine pm_ofX in_X8_toCell (Nat.le_of_ble_eq_true rfl) rfl (L := [some (.ref (b + o0)), some (.int x1), some (.int x2), none]) rfl ?_
  refine pm_aload_n dX8_toCell_0 rfl ?_
  refine dx_gr (j := o0) (o := (o0 + 12)) hR dX8_toCell_1 fl_X8_38 (sp_Run_self hs0) rfl ?_
  refine pm_iload_n dX8_toCell_4 rfl ?_
  obtain ⟨r1, h2, h⟩ := ob_some h
  refine dx_cVp (j := (o0 + 12)) (M := M_X8_toCell) (Mc := M_X6_sortOf) (dc := 0) (As := [.int x1]) (st := []) hR dX8_toCell_5 ml_X8_103 ⟨TX6, 12, rfl⟩ (sp_Puts_self (sp_Run_puts hs0)) (by decide) (Nat.le_of_ble_eq_true rfl) rfl (k_X6_sortOf hR (sp_Run_puts hs0) h2) ?_
  refine pm_iconst (v := 2) dX8_toCell_8 (by decide) ?_
  refine pm_icmp_eq (tgt := 14) dX8_toCell_9 (by decide) (fun c3 => ?_) (fun c3 => ?_)
  · replace h := it_t c3 h
    refine pm_aload_n dX8_toCell_14 rfl ?_
    refine dx_gr (j := o0) (o := (o0 + 12)) hR dX8_toCell_15 fl_X8_38 (sp_Run_self hs0) rfl ?_
    refine pm_iload_n dX8_toCell_18 rfl ?_
    obtain ⟨r4, h5, h⟩ := ob_some h
    refine dx_cVp (j := (o0 + 12)) (M := M_X8_toCell) (Mc := M_X6_numberOf) (dc := 0) (As := [.int x1]) (st := []) hR dX8_toCell_19 ml_X8_106 ⟨TX6, 12, rfl⟩ (sp_Puts_self (sp_Run_puts hs0)) (by decide) (Nat.le_of_ble_eq_true rfl) rfl (k_X6_numberOf hR (sp_Run_puts hs0) h5) ?_
    refine pm_istore_n dX8_toCell_22 (by decide) rfl rfl ?_
    refine pm_iload_n dX8_toCell_23 rfl ?_
    refine pm_if_lt (tgt := 33) dX8_toCell_24 (by decide) (fun c6 => ?_) (fun c6 => ?_)
    · replace h := it_t c6 h
      refine pm_iconst (v := 3) dX8_toCell_33 (by decide) ?_
      cases h
      exact pm_iret dX8_toCell_34 rfl (Nat.le_refl _) (Nat.le_refl _) ⟨rfl, rfl, hR, rg_k0⟩
    · replace h := it_f c6 h
      refine pm_iload_n dX8_toCell_27 rfl ?_
      refine pm_bipush (v := 32) dX8_toCell_28 (by decide) ?_
      refine pm_icmp_lt (tgt := 35) dX8_toCell_30 (by decide) (fun c7 => ?_) (fun c7 => ?_)
      · replace h := it_t c7 h
        refine pm_aload_n dX8_toCell_35 rfl ?_
        refine pm_bipush (v := 8) dX8_toCell_36 (by decide) ?_
        refine pm_iload_n dX8_toCell_38 rfl ?_
        refine pm_iadd dX8_toCell_39 ?_
        refine pm_aload_n dX8_toCell_40 rfl ?_
        refine dx_gr (j := o0) (o := (o0 + 12)) hR dX8_toCell_41 fl_X8_38 (sp_Run_self hs0) rfl ?_
        refine pm_iload_n dX8_toCell_44 rfl ?_
        obtain ⟨r8, h9, h⟩ := ob_some h
        refine dx_cVp (j := (o0 + 12)) (M := M_X8_toCell) (Mc := M_X6_sortOf) (dc := 0) (As := [.int x2]) (st := [.int (8 + r4), .ref (b + o0)]) hR dX8_toCell_45 ml_X8_103 ⟨TX6, 12, rfl⟩ (sp_Puts_self (sp_Run_puts hs0)) (by decide) (Nat.le_of_ble_eq_true rfl) rfl (k_X6_sortOf hR (sp_Run_puts hs0) h9) ?_
        refine pm_aload_n dX8_toCell_48 rfl ?_
        refine dx_gr (j := o0) (o := (o0 + 12)) hR dX8_toCell_49 fl_X8_38 (sp_Run_self hs0) rfl ?_
        refine pm_iload_n dX8_toCell_52 rfl ?_
        obtain ⟨r10, h11, h⟩ := ob_some h
        refine dx_cVp (j := (o0 + 12)) (M := M_X8_toCell) (Mc := M_X6_numberOf) (dc := 0) (As := [.int x2]) (st := [.int r8, .int (8 + r4), .ref (b + o0)]) hR dX8_toCell_53 ml_X8_106 ⟨TX6, 12, rfl⟩ (sp_Puts_self (sp_Run_puts hs0)) (by decide) (Nat.le_of_ble_eq_true rfl) rfl (k_X6_numberOf hR (sp_Run_puts hs0) h11) ?_
        refine pm_iload_n dX8_toCell_56 rfl ?_
        refine pm_iload_n dX8_toCell_57 rfl ?_
        obtain ⟨r12, h13, h⟩ := ob_some h
        refine dx_cVv (j := o0) (M := M_X8_toCell) (Mc := M_X7_putByStep) (dc := 3) (As := [.int (8 + r4), .int r8, .int r10, .int x1, .int x2]) (st := []) hR rg_k0 dX8_toCell_58 ml_X8_34 ⟨TX7, 15, rfl⟩ (sp_Run_self hs0) (by decide) (Nat.le_of_ble_eq_true rfl) rfl (k_X7_putByStep hR hs0 h13) (fun w14 hR15 hk16 => ?_)
        refine pm_iconst (v := 0) dX8_toCell_61 (by decide) ?_
        cases h
        exact pm_iret dX8_toCell_62 rfl (Nat.le_refl _) (Nat.le_refl _) ⟨rfl, rfl, hR15, hk16⟩
      · replace h := it_f c7 h
        refine pm_iconst (v := 3) dX8_toCell_33 (by decide) ?_
        cases h
        exact pm_iret dX8_toCell_34 rfl (Nat.le_refl _) (Nat.le_refl _) ⟨rfl, rfl, hR, rg_k0⟩
  · replace h := it_f c3 h
    refine pm_iconst (v := 1) dX8_toCell_12 (by decide) ?_
    cases h
    exact pm_iret dX8_toCell_13 rfl (Nat.le_refl _) (Nat.le_refl _) ⟨rfl, rfl, hR, rg_k0⟩
def g_X7_putFromOutside (F : Nat) (o0 : Nat) (x1 : Int32) (x2 : Int32) (x3 : Int32) (u : rg_U) : Option rg_U :=
  ob (g_X3_addWhole F (o0 + 6) (rF u o0 9) x2 x3 u) (fun r1 => ob (g_X7_putByStep F o0 x1 2 x3 (-1) (-1) r1) (fun r6 => ob (g_X6_restLatestOn F (o0 + 12) (rF r6 o0 9) ((rF r6 (o0 + 6) 5) - 1) (-1) (-1) r6) (fun r11 => some r11)))
set_option maxHeartbeats 4000000 in
set_option maxRecDepth 100000 in
theorem k_X7_putFromOutside {gs : List String} {ro : pm_RO} {n : Nat} {w : Nat → va_E} {b : Nat} {u : rg_U} {F : Nat} {o0 : Nat} {x1 : Int32} {x2 : Int32} {x3 : Int32} {z : rg_U} (hR : rg shC b u n w) (hs0 : sp_Run o0) (h : g_X7_putFromOutside F o0 x1 x2 x3 u = some z) : pm_Met gs ro M_X7_putFromOutside 4 0 0 [.ref (b + o0), .int x1, .int x2, .int x3] n w (rg_post shC b n w none z) := by
  unfold g_X7_putFromOutside at h
  refine pm_ofX in_X7_putFromOutside (Nat.le_of_ble_eq_true rfl) rfl (L := [some (.ref (b + o0)), some (.int x1), some (.int x2), some (.int x3)]) rfl ?_
  refine pm_aload_n dX7_putFromOutside_0 rfl ?_
  refine dx_gr (j := o0) (o := (o0 + 6)) hR dX7_putFromOutside_1 fl_X7_21 (sp_Run_self hs0) rfl ?_
  refine pm_aload_n dX7_putFromOutside_4 rfl ?_
  refine dx_gi (j := o0) hR dX7_putFromOutside_5 fl_X7_59 (sp_Run_self hs0) rfl ?_
  refine pm_iload_n dX7_putFromOutside_8 rfl ?_
  refine pm_iload_n dX7_putFromOutside_9 rfl ?_
  obtain ⟨r1, h2, h⟩ := ob_some h
  refine dx_cVv (j := (o0 + 6)) (M := M_X7_putFromOutside) (Mc := M_X3_addWhole) (dc := 1) (As := [.int (rF u o0 9), .int x2, .int x3]) (st := []) hR rg_k0 dX7_putFromOutside_10 ml_X7_167 ⟨TX3, 6, rfl⟩ (sp_Log_self (sp_Run_log hs0)) (by decide) (Nat.le_of_ble_eq_true rfl) rfl (k_X3_addWhole hR (sp_Run_log hs0) h2) (fun w3 hR4 hk5 => ?_)
  refine pm_aload_n dX7_putFromOutside_13 rfl ?_
  refine pm_iload_n dX7_putFromOutside_14 rfl ?_
  refine pm_iconst (v := 2) dX7_putFromOutside_15 (by decide) ?_
  refine pm_iload_n dX7_putFromOutside_16 rfl ?_
  refine pm_iconst (v := (-1)) dX7_putFromOutside_17 (by decide) ?_
  refine pm_iconst (v := (-1)) dX7_putFromOutside_18 (by decide) ?_
  obtain ⟨r6, h7, h⟩ := ob_some h
  refine dx_cVv (j := o0) (M := M_X7_putFromOutside) (Mc := M_X7_putByStep) (dc := 3) (As := [.int x1, .int 2, .int x3, .int (-1), .int (-1)]) (st := []) hR4 hk5 dX7_putFromOutside_19 ml_X7_171 ⟨TX7, 15, rfl⟩ (sp_Run_self hs0) (by decide) (Nat.le_of_ble_eq_true rfl) rfl (k_X7_putByStep hR4 hs0 h7) (fun w8 hR9 hk10 => ?_)
  refine pm_aload_n dX7_putFromOutside_22 rfl ?_
  refine dx_gr (j := o0) (o := (o0 + 12)) hR9 dX7_putFromOutside_23 fl_X7_28 (sp_Run_self hs0) rfl ?_
  refine pm_aload_n dX7_putFromOutside_26 rfl ?_
  refine dx_gi (j := o0) hR9 dX7_putFromOutside_27 fl_X7_59 (sp_Run_self hs0) rfl ?_
  refine pm_aload_n dX7_putFromOutside_30 rfl ?_
  refine dx_gr (j := o0) (o := (o0 + 6)) hR9 dX7_putFromOutside_31 fl_X7_21 (sp_Run_self hs0) rfl ?_
  refine dx_gi (j := (o0 + 6)) hR9 dX7_putFromOutside_34 fl_X7_98 (sp_Log_self (sp_Run_log hs0)) rfl ?_
  refine pm_iconst (v := 1) dX7_putFromOutside_37 (by decide) ?_
  refine pm_isub dX7_putFromOutside_38 ?_
  refine pm_iconst (v := (-1)) dX7_putFromOutside_39 (by decide) ?_
  refine pm_iconst (v := (-1)) dX7_putFromOutside_40 (by decide) ?_
  obtain ⟨r11, h12, h⟩ := ob_some h
  refine dx_cVv (j := (o0 + 12)) (M := M_X7_putFromOutside) (Mc := M_X6_restLatestOn) (dc := 1) (As := [.int (rF r6 o0 9), .int ((rF r6 (o0 + 6) 5) - 1), .int (-1), .int (-1)]) (st := []) hR9 hk10 dX7_putFromOutside_41 ml_X7_164 ⟨TX6, 12, rfl⟩ (sp_Puts_self (sp_Run_puts hs0)) (by decide) (Nat.le_of_ble_eq_true rfl) rfl (k_X6_restLatestOn hR9 (sp_Run_puts hs0) h12) (fun w13 hR14 hk15 => ?_)
  cases h
  exact pm_vret dX7_putFromOutside_44 rfl (Nat.le_refl _) (Nat.le_refl _) ⟨rfl, rfl, hR14, hk15⟩
def g_X7_addOut (F : Nat) (o0 : Nat) (x1 : Int32) (x2 : Int32) (u : rg_U) : Option rg_U :=
  if (rF u o0 9) < 0 then (some u) else (if 3000 ≤ (rF u o0 9) then (some u) else (ck (inb ((rF u o0 9) + 1) 3001) (ck (inb ((rF u o0 9) + 1) 3001) (lt1 (sA u (o0 + 31) ((rF u o0 9) + 1) ((rA u (o0 + 31) ((rF u o0 9) + 1)) + 1)) (fun u5 => ck (inb (rF u5 o0 9) 3001) (ck (inb ((rF u5 o0 9) + 1) 3001) (lt1 (sA u5 (o0 + 32) ((rF u5 o0 9) + 1) (((31 * (rA u5 (o0 + 32) (rF u5 o0 9))) + (3 * x2)) + x1)) (fun u12 => some u12))))))))
set_option maxHeartbeats 4000000 in
set_option maxRecDepth 100000 in
theorem k_X7_addOut {gs : List String} {ro : pm_RO} {n : Nat} {w : Nat → va_E} {b : Nat} {u : rg_U} {F : Nat} {o0 : Nat} {x1 : Int32} {x2 : Int32} {z : rg_U} (hR : rg shC b u n w) (hs0 : sp_Run o0) (h : g_X7_addOut F o0 x1 x2 u = some z) : pm_Met gs ro M_X7_addOut 0 0 0 [.ref (b + o0), .int x1, .int x2] n w (rg_post shC b n w none z) := by
  unfold g_X7_addOut at h
  refine pm_ofX in_X7_addOut (Nat.le_of_ble_eq_true rfl) rfl (L := [some (.ref (b + o0)), some (.int x1), some (.int x2)]) rfl ?_
  refine pm_aload_n dX7_addOut_0 rfl ?_
  refine dx_gi (j := o0) hR dX7_addOut_1 fl_X7_59 (sp_Run_self hs0) rfl ?_
  refine pm_if_lt (tgt := 61) dX7_addOut_4 (by decide) (fun c1 => ?_) (fun c1 => ?_)
  · replace h := it_t c1 h
    cases h
    exact pm_vret dX7_addOut_61 rfl (Nat.le_refl _) (Nat.le_refl _) ⟨rfl, rfl, hR, rg_k0⟩
  · replace h := it_f c1 h
    refine pm_aload_n dX7_addOut_7 rfl ?_
    refine dx_gi (j := o0) hR dX7_addOut_8 fl_X7_59 (sp_Run_self hs0) rfl ?_
    refine pm_sipush (v := 3000) dX7_addOut_11 (by decide) ?_
    refine pm_icmp_ge (tgt := 61) dX7_addOut_14 (by decide) (fun c2 => ?_) (fun c2 => ?_)
    · replace h := it_t c2 h
      cases h
      exact pm_vret dX7_addOut_61 rfl (Nat.le_refl _) (Nat.le_refl _) ⟨rfl, rfl, hR, rg_k0⟩
    · replace h := it_f c2 h
      refine pm_aload_n dX7_addOut_17 rfl ?_
      refine dx_gr (j := o0) (o := (o0 + 31)) hR dX7_addOut_18 fl_X7_50 (sp_Run_self hs0) rfl ?_
      refine pm_aload_n dX7_addOut_21 rfl ?_
      refine dx_gi (j := o0) hR dX7_addOut_22 fl_X7_59 (sp_Run_self hs0) rfl ?_
      refine pm_iconst (v := 1) dX7_addOut_25 (by decide) ?_
      refine pm_iadd dX7_addOut_26 ?_
      refine pm_dup2 dX7_addOut_27 rfl rfl ?_
      obtain ⟨c3, h⟩ := ck_some h
      refine dx_al (j := (o0 + 31)) hR dX7_addOut_28 (sp_Run_outs hs0) (vp_in_iff.mpr c3) ?_
      refine pm_iconst (v := 1) dX7_addOut_29 (by decide) ?_
      refine pm_iadd dX7_addOut_30 ?_
      obtain ⟨c4, h⟩ := ck_some h
      obtain ⟨u5, hu6, h⟩ := lt1_ex h
      refine dx_as (j := (o0 + 31)) hR rg_k0 dX7_addOut_31 (sp_Run_outs hs0) (vp_in_iff.mpr c4) hu6 (fun w7 hR8 hk9 => ?_)
      refine pm_aload_n dX7_addOut_32 rfl ?_
      refine dx_gr (j := o0) (o := (o0 + 32)) hR8 dX7_addOut_33 fl_X7_53 (sp_Run_self hs0) rfl ?_
      refine pm_aload_n dX7_addOut_36 rfl ?_
      refine dx_gi (j := o0) hR8 dX7_addOut_37 fl_X7_59 (sp_Run_self hs0) rfl ?_
      refine pm_iconst (v := 1) dX7_addOut_40 (by decide) ?_
      refine pm_iadd dX7_addOut_41 ?_
      refine pm_bipush (v := 31) dX7_addOut_42 (by decide) ?_
      refine pm_aload_n dX7_addOut_44 rfl ?_
      refine dx_gr (j := o0) (o := (o0 + 32)) hR8 dX7_addOut_45 fl_X7_53 (sp_Run_self hs0) rfl ?_
      refine pm_aload_n dX7_addOut_48 rfl ?_
      refine dx_gi (j := o0) hR8 dX7_addOut_49 fl_X7_59 (sp_Run_self hs0) rfl ?_
      obtain ⟨c10, h⟩ := ck_some h
      refine dx_al (j := (o0 + 32)) hR8 dX7_addOut_52 (sp_Run_check hs0) (vp_in_iff.mpr c10) ?_
      refine pm_imul dX7_addOut_53 ?_
      refine pm_iconst (v := 3) dX7_addOut_54 (by decide) ?_
      refine pm_iload_n dX7_addOut_55 rfl ?_
      refine pm_imul dX7_addOut_56 ?_
      refine pm_iadd dX7_addOut_57 ?_
      refine pm_iload_n dX7_addOut_58 rfl ?_
      refine pm_iadd dX7_addOut_59 ?_
      obtain ⟨c11, h⟩ := ck_some h
      obtain ⟨u12, hu13, h⟩ := lt1_ex h
      refine dx_as (j := (o0 + 32)) hR8 hk9 dX7_addOut_60 (sp_Run_check hs0) (vp_in_iff.mpr c11) hu13 (fun w14 hR15 hk16 => ?_)
      cases h
      exact pm_vret dX7_addOut_61 rfl (Nat.le_refl _) (Nat.le_refl _) ⟨rfl, rfl, hR15, hk16⟩
def g_X8_putOut (F : Nat) (o0 : Nat) (x1 : Int32) (u : rg_U) : Option rg_U :=
  ob (g_X6_sortOf F (o0 + 12) x1 u) (fun r1 => ob (g_X6_numberOf F (o0 + 12) x1 u) (fun r3 => ob (g_X7_addOut F o0 r1 r3 u) (fun r5 => some r5)))
set_option maxHeartbeats 4000000 in
set_option maxRecDepth 100000 in
theorem k_X8_putOut {gs : List String} {ro : pm_RO} {n : Nat} {w : Nat → va_E} {b : Nat} {u : rg_U} {F : Nat} {o0 : Nat} {x1 : Int32} {z : rg_U} (hR : rg shC b u n w) (hs0 : sp_Run o0) (h : g_X8_putOut F o0 x1 u = some z) : pm_Met gs ro M_X8_putOut 1 0 0 [.ref (b + o0), .int x1] n w (rg_post shC b n w none z) := by
  unfold g_X8_putOut at h
  refine pm_ofX in_X8_putOut (Nat.le_of_ble_eq_true rfl) rfl (L := [some (.ref (b + o0)), some (.int x1)]) rfl ?_
  refine pm_aload_n dX8_putOut_0 rfl ?_
  refine pm_aload_n dX8_putOut_1 rfl ?_
  refine dx_gr (j := o0) (o := (o0 + 12)) hR dX8_putOut_2 fl_X8_38 (sp_Run_self hs0) rfl ?_
  refine pm_iload_n dX8_putOut_5 rfl ?_
  obtain ⟨r1, h2, h⟩ := ob_some h
  refine dx_cVp (j := (o0 + 12)) (M := M_X8_putOut) (Mc := M_X6_sortOf) (dc := 0) (As := [.int x1]) (st := [.ref (b + o0)]) hR dX8_putOut_6 ml_X8_103 ⟨TX6, 12, rfl⟩ (sp_Puts_self (sp_Run_puts hs0)) (by decide) (Nat.le_of_ble_eq_true rfl) rfl (k_X6_sortOf hR (sp_Run_puts hs0) h2) ?_
  refine pm_aload_n dX8_putOut_9 rfl ?_
  refine dx_gr (j := o0) (o := (o0 + 12)) hR dX8_putOut_10 fl_X8_38 (sp_Run_self hs0) rfl ?_
  refine pm_iload_n dX8_putOut_13 rfl ?_
  obtain ⟨r3, h4, h⟩ := ob_some h
  refine dx_cVp (j := (o0 + 12)) (M := M_X8_putOut) (Mc := M_X6_numberOf) (dc := 0) (As := [.int x1]) (st := [.int r1, .ref (b + o0)]) hR dX8_putOut_14 ml_X8_106 ⟨TX6, 12, rfl⟩ (sp_Puts_self (sp_Run_puts hs0)) (by decide) (Nat.le_of_ble_eq_true rfl) rfl (k_X6_numberOf hR (sp_Run_puts hs0) h4) ?_
  obtain ⟨r5, h6, h⟩ := ob_some h
  refine dx_cVv (j := o0) (M := M_X8_putOut) (Mc := M_X7_addOut) (dc := 0) (As := [.int r1, .int r3]) (st := []) hR rg_k0 dX8_putOut_17 ml_X8_109 ⟨TX7, 15, rfl⟩ (sp_Run_self hs0) (by decide) (Nat.le_of_ble_eq_true rfl) rfl (k_X7_addOut hR hs0 h6) (fun w7 hR8 hk9 => ?_)
  cases h
  exact pm_vret dX8_putOut_20 rfl (Nat.le_refl _) (Nat.le_refl _) ⟨rfl, rfl, hR8, hk9⟩
def g_X7_goOnAt (F : Nat) (o0 : Nat) (x1 : Int32) (u : rg_U) : Option rg_U :=
  if (rF u o0 9) < 0 then (some u) else (if 3000 ≤ (rF u o0 9) then (some u) else (ck (inb ((rF u o0 9) + 1) 3001) (lt1 (sA u (o0 + 30) ((rF u o0 9) + 1) x1) (fun u4 => some u4))))
set_option maxHeartbeats 4000000 in
set_option maxRecDepth 100000 in
theorem k_X7_goOnAt {gs : List String} {ro : pm_RO} {n : Nat} {w : Nat → va_E} {b : Nat} {u : rg_U} {F : Nat} {o0 : Nat} {x1 : Int32} {z : rg_U} (hR : rg shC b u n w) (hs0 : sp_Run o0) (h : g_X7_goOnAt F o0 x1 u = some z) : pm_Met gs ro M_X7_goOnAt 0 0 0 [.ref (b + o0), .int x1] n w (rg_post shC b n w none z) := by
  unfold g_X7_goOnAt at h
  refine pm_ofX in_X7_goOnAt (Nat.le_of_ble_eq_true rfl) rfl (L := [some (.ref (b + o0)), some (.int x1)]) rfl ?_
  refine pm_aload_n dX7_goOnAt_0 rfl ?_
  refine dx_gi (j := o0) hR dX7_goOnAt_1 fl_X7_59 (sp_Run_self hs0) rfl ?_
  refine pm_if_lt (tgt := 29) dX7_goOnAt_4 (by decide) (fun c1 => ?_) (fun c1 => ?_)
  · replace h := it_t c1 h
    cases h
    exact pm_vret dX7_goOnAt_29 rfl (Nat.le_refl _) (Nat.le_refl _) ⟨rfl, rfl, hR, rg_k0⟩
  · replace h := it_f c1 h
    refine pm_aload_n dX7_goOnAt_7 rfl ?_
    refine dx_gi (j := o0) hR dX7_goOnAt_8 fl_X7_59 (sp_Run_self hs0) rfl ?_
    refine pm_sipush (v := 3000) dX7_goOnAt_11 (by decide) ?_
    refine pm_icmp_ge (tgt := 29) dX7_goOnAt_14 (by decide) (fun c2 => ?_) (fun c2 => ?_)
    · replace h := it_t c2 h
      cases h
      exact pm_vret dX7_goOnAt_29 rfl (Nat.le_refl _) (Nat.le_refl _) ⟨rfl, rfl, hR, rg_k0⟩
    · replace h := it_f c2 h
      refine pm_aload_n dX7_goOnAt_17 rfl ?_
      refine dx_gr (j := o0) (o := (o0 + 30)) hR dX7_goOnAt_18 fl_X7_46 (sp_Run_self hs0) rfl ?_
      refine pm_aload_n dX7_goOnAt_21 rfl ?_
      refine dx_gi (j := o0) hR dX7_goOnAt_22 fl_X7_59 (sp_Run_self hs0) rfl ?_
      refine pm_iconst (v := 1) dX7_goOnAt_25 (by decide) ?_
      refine pm_iadd dX7_goOnAt_26 ?_
      refine pm_iload_n dX7_goOnAt_27 rfl ?_
      obtain ⟨c3, h⟩ := ck_some h
      obtain ⟨u4, hu5, h⟩ := lt1_ex h
      refine dx_as (j := (o0 + 30)) hR rg_k0 dX7_goOnAt_28 (sp_Run_counter hs0) (vp_in_iff.mpr c3) hu5 (fun w6 hR7 hk8 => ?_)
      cases h
      exact pm_vret dX7_goOnAt_29 rfl (Nat.le_refl _) (Nat.le_refl _) ⟨rfl, rfl, hR7, hk8⟩
def g_X8_goOnIf (F : Nat) (o0 : Nat) (x1 : Int32) (x2 : Int32) (u : rg_U) : Option (Int32 × rg_U) :=
  ob (g_X6_sortOf F (o0 + 12) x1 u) (fun r1 => if r1 = 1 then (ob (g_X6_numberOf F (o0 + 12) x1 u) (fun r4 => if r4 = 1 then (ob (g_X7_goOnAt F o0 x2 u) (fun r7 => some (0, r7))) else (some (0, u)))) else (some (1, u)))
set_option maxHeartbeats 4000000 in
set_option maxRecDepth 100000 in
theorem k_X8_goOnIf {gs : List String} {ro : pm_RO} {n : Nat} {w : Nat → va_E} {b : Nat} {u : rg_U} {F : Nat} {o0 : Nat} {x1 : Int32} {x2 : Int32} {z : (Int32 × rg_U)} (hR : rg shC b u n w) (hs0 : sp_Run o0) (h : g_X8_goOnIf F o0 x1 x2 u = some z) : pm_Met gs ro M_X8_goOnIf 1 0 0 [.ref (b + o0), .int x1, .int x2] n w (rg_post shC b n w (some (.int z.1)) z.2) := by
  unfold g_X8_goOnIf at h
  refine pm_ofX in_X8_goOnIf (Nat.le_of_ble_eq_true rfl) rfl (L := [some (.ref (b + o0)), some (.int x1), some (.int x2)]) rfl ?_
  refine pm_aload_n dX8_goOnIf_0 rfl ?_
  refine dx_gr (j := o0) (o := (o0 + 12)) hR dX8_goOnIf_1 fl_X8_38 (sp_Run_self hs0) rfl ?_
  refine pm_iload_n dX8_goOnIf_4 rfl ?_
  obtain ⟨r1, h2, h⟩ := ob_some h
  refine dx_cVp (j := (o0 + 12)) (M := M_X8_goOnIf) (Mc := M_X6_sortOf) (dc := 0) (As := [.int x1]) (st := []) hR dX8_goOnIf_5 ml_X8_103 ⟨TX6, 12, rfl⟩ (sp_Puts_self (sp_Run_puts hs0)) (by decide) (Nat.le_of_ble_eq_true rfl) rfl (k_X6_sortOf hR (sp_Run_puts hs0) h2) ?_
  refine pm_iconst (v := 1) dX8_goOnIf_8 (by decide) ?_
  refine pm_icmp_eq (tgt := 14) dX8_goOnIf_9 (by decide) (fun c3 => ?_) (fun c3 => ?_)
  · replace h := it_t c3 h
    refine pm_aload_n dX8_goOnIf_14 rfl ?_
    refine dx_gr (j := o0) (o := (o0 + 12)) hR dX8_goOnIf_15 fl_X8_38 (sp_Run_self hs0) rfl ?_
    refine pm_iload_n dX8_goOnIf_18 rfl ?_
    obtain ⟨r4, h5, h⟩ := ob_some h
    refine dx_cVp (j := (o0 + 12)) (M := M_X8_goOnIf) (Mc := M_X6_numberOf) (dc := 0) (As := [.int x1]) (st := []) hR dX8_goOnIf_19 ml_X8_106 ⟨TX6, 12, rfl⟩ (sp_Puts_self (sp_Run_puts hs0)) (by decide) (Nat.le_of_ble_eq_true rfl) rfl (k_X6_numberOf hR (sp_Run_puts hs0) h5) ?_
    refine pm_iconst (v := 1) dX8_goOnIf_22 (by decide) ?_
    refine pm_icmp_ne (tgt := 31) dX8_goOnIf_23 (by decide) (fun c6 => ?_) (fun c6 => ?_)
    · replace h := it_f c6 h
      refine pm_iconst (v := 0) dX8_goOnIf_31 (by decide) ?_
      cases h
      exact pm_iret dX8_goOnIf_32 rfl (Nat.le_refl _) (Nat.le_refl _) ⟨rfl, rfl, hR, rg_k0⟩
    · replace h := it_t c6 h
      refine pm_aload_n dX8_goOnIf_26 rfl ?_
      refine pm_iload_n dX8_goOnIf_27 rfl ?_
      obtain ⟨r7, h8, h⟩ := ob_some h
      refine dx_cVv (j := o0) (M := M_X8_goOnIf) (Mc := M_X7_goOnAt) (dc := 0) (As := [.int x2]) (st := []) hR rg_k0 dX8_goOnIf_28 ml_X8_85 ⟨TX7, 15, rfl⟩ (sp_Run_self hs0) (by decide) (Nat.le_of_ble_eq_true rfl) rfl (k_X7_goOnAt hR hs0 h8) (fun w9 hR10 hk11 => ?_)
      refine pm_iconst (v := 0) dX8_goOnIf_31 (by decide) ?_
      cases h
      exact pm_iret dX8_goOnIf_32 rfl (Nat.le_refl _) (Nat.le_refl _) ⟨rfl, rfl, hR10, hk11⟩
  · replace h := it_f c3 h
    refine pm_iconst (v := 1) dX8_goOnIf_12 (by decide) ?_
    cases h
    exact pm_iret dX8_goOnIf_13 rfl (Nat.le_refl _) (Nat.le_refl _) ⟨rfl, rfl, hR, rg_k0⟩
def g_X7_stackUp (F : Nat) (o0 : Nat) (u : rg_U) : Option rg_U :=
  if (rF u o0 9) < 0 then (some u) else (if 3000 ≤ (rF u o0 9) then (some u) else (ck (inb ((rF u o0 9) + 1) 3001) (lt1 (sA u (o0 + 33) ((rF u o0 9) + 1) (rF u o0 9)) (fun u4 => some u4))))
set_option maxHeartbeats 4000000 in
set_option maxRecDepth 100000 in
theorem k_X7_stackUp {gs : List String} {ro : pm_RO} {n : Nat} {w : Nat → va_E} {b : Nat} {u : rg_U} {F : Nat} {o0 : Nat} {z : rg_U} (hR : rg shC b u n w) (hs0 : sp_Run o0) (h : g_X7_stackUp F o0 u = some z) : pm_Met gs ro M_X7_stackUp 0 0 0 [.ref (b + o0)] n w (rg_post shC b n w none z) := by
  unfold g_X7_stackUp at h
  refine pm_ofX in_X7_stackUp (Nat.le_of_ble_eq_true rfl) rfl (L := [some (.ref (b + o0))]) rfl ?_
  refine pm_aload_n dX7_stackUp_0 rfl ?_
  refine dx_gi (j := o0) hR dX7_stackUp_1 fl_X7_59 (sp_Run_self hs0) rfl ?_
  refine pm_if_lt (tgt := 32) dX7_stackUp_4 (by decide) (fun c1 => ?_) (fun c1 => ?_)
  · replace h := it_t c1 h
    cases h
    exact pm_vret dX7_stackUp_32 rfl (Nat.le_refl _) (Nat.le_refl _) ⟨rfl, rfl, hR, rg_k0⟩
  · replace h := it_f c1 h
    refine pm_aload_n dX7_stackUp_7 rfl ?_
    refine dx_gi (j := o0) hR dX7_stackUp_8 fl_X7_59 (sp_Run_self hs0) rfl ?_
    refine pm_sipush (v := 3000) dX7_stackUp_11 (by decide) ?_
    refine pm_icmp_ge (tgt := 32) dX7_stackUp_14 (by decide) (fun c2 => ?_) (fun c2 => ?_)
    · replace h := it_t c2 h
      cases h
      exact pm_vret dX7_stackUp_32 rfl (Nat.le_refl _) (Nat.le_refl _) ⟨rfl, rfl, hR, rg_k0⟩
    · replace h := it_f c2 h
      refine pm_aload_n dX7_stackUp_17 rfl ?_
      refine dx_gr (j := o0) (o := (o0 + 33)) hR dX7_stackUp_18 fl_X7_56 (sp_Run_self hs0) rfl ?_
      refine pm_aload_n dX7_stackUp_21 rfl ?_
      refine dx_gi (j := o0) hR dX7_stackUp_22 fl_X7_59 (sp_Run_self hs0) rfl ?_
      refine pm_iconst (v := 1) dX7_stackUp_25 (by decide) ?_
      refine pm_iadd dX7_stackUp_26 ?_
      refine pm_aload_n dX7_stackUp_27 rfl ?_
      refine dx_gi (j := o0) hR dX7_stackUp_28 fl_X7_59 (sp_Run_self hs0) rfl ?_
      obtain ⟨c3, h⟩ := ck_some h
      obtain ⟨u4, hu5, h⟩ := lt1_ex h
      refine dx_as (j := (o0 + 33)) hR rg_k0 dX7_stackUp_31 (sp_Run_top hs0) (vp_in_iff.mpr c3) hu5 (fun w6 hR7 hk8 => ?_)
      cases h
      exact pm_vret dX7_stackUp_32 rfl (Nat.le_refl _) (Nat.le_refl _) ⟨rfl, rfl, hR7, hk8⟩
def g_X8_goDown (F : Nat) (o0 : Nat) (x1 : Int32) (u : rg_U) : Option (Int32 × rg_U) :=
  ob (g_X7_stackSizeAt F o0 (rF u o0 9) u) (fun r1 => if r1 < 8 then (ob (g_X1_add F (o0 + 24) (rF u o0 9) x1 r1 u) (fun r4 => ob (g_X7_stackUp F o0 r4) (fun r9 => ob (g_X7_goOnAt F o0 x1 r9) (fun r14 => some (0, r14))))) else (some (4, u)))
set_option maxHeartbeats 4000000 in
set_option maxRecDepth 100000 in
theorem k_X8_goDown {gs : List String} {ro : pm_RO} {n : Nat} {w : Nat → va_E} {b : Nat} {u : rg_U} {F : Nat} {o0 : Nat} {x1 : Int32} {z : (Int32 × rg_U)} (hR : rg shC b u n w) (hs0 : sp_Run o0) (h : g_X8_goDown F o0 x1 u = some z) : pm_Met gs ro M_X8_goDown 3 0 0 [.ref (b + o0), .int x1] n w (rg_post shC b n w (some (.int z.1)) z.2) := by
  unfold g_X8_goDown at h
  refine pm_ofX in_X8_goDown (Nat.le_of_ble_eq_true rfl) rfl (L := [some (.ref (b + o0)), some (.int x1), none]) rfl ?_
  refine pm_aload_n dX8_goDown_0 rfl ?_
  refine pm_aload_n dX8_goDown_1 rfl ?_
  refine dx_gi (j := o0) hR dX8_goDown_2 fl_X8_117 (sp_Run_self hs0) rfl ?_
  obtain ⟨r1, h2, h⟩ := ob_some h
  refine dx_cVp (j := o0) (M := M_X8_goDown) (Mc := M_X7_stackSizeAt) (dc := 2) (As := [.int (rF u o0 9)]) (st := []) hR dX8_goDown_5 ml_X8_120 ⟨TX7, 15, rfl⟩ (sp_Run_self hs0) (by decide) (Nat.le_of_ble_eq_true rfl) rfl (k_X7_stackSizeAt hR hs0 h2) ?_
  refine pm_istore_n dX8_goDown_8 (by decide) rfl rfl ?_
  refine pm_iload_n dX8_goDown_9 rfl ?_
  refine pm_bipush (v := 8) dX8_goDown_10 (by decide) ?_
  refine pm_icmp_lt (tgt := 17) dX8_goDown_12 (by decide) (fun c3 => ?_) (fun c3 => ?_)
  · replace h := it_t c3 h
    refine pm_aload_n dX8_goDown_17 rfl ?_
    refine dx_gr (j := o0) (o := (o0 + 24)) hR dX8_goDown_18 fl_X8_123 (sp_Run_self hs0) rfl ?_
    refine pm_aload_n dX8_goDown_21 rfl ?_
    refine dx_gi (j := o0) hR dX8_goDown_22 fl_X8_117 (sp_Run_self hs0) rfl ?_
    refine pm_iload_n dX8_goDown_25 rfl ?_
    refine pm_iload_n dX8_goDown_26 rfl ?_
    obtain ⟨r4, h5, h⟩ := ob_some h
    refine dx_cVv (j := (o0 + 24)) (M := M_X8_goDown) (Mc := M_X1_add) (dc := 0) (As := [.int (rF u o0 9), .int x1, .int r1]) (st := []) hR rg_k0 dX8_goDown_27 ml_X8_127 ⟨TX1, 4, rfl⟩ (sp_Calls_self (sp_Run_calls hs0)) (by decide) (Nat.le_of_ble_eq_true rfl) rfl (k_X1_add hR (sp_Run_calls hs0) h5) (fun w6 hR7 hk8 => ?_)
    refine pm_aload_n dX8_goDown_30 rfl ?_
    obtain ⟨r9, h10, h⟩ := ob_some h
    refine dx_cVv (j := o0) (M := M_X8_goDown) (Mc := M_X7_stackUp) (dc := 0) (As := []) (st := []) hR7 hk8 dX8_goDown_31 ml_X8_132 ⟨TX7, 15, rfl⟩ (sp_Run_self hs0) (by decide) (Nat.le_of_ble_eq_true rfl) rfl (k_X7_stackUp hR7 hs0 h10) (fun w11 hR12 hk13 => ?_)
    refine pm_aload_n dX8_goDown_34 rfl ?_
    refine pm_iload_n dX8_goDown_35 rfl ?_
    obtain ⟨r14, h15, h⟩ := ob_some h
    refine dx_cVv (j := o0) (M := M_X8_goDown) (Mc := M_X7_goOnAt) (dc := 0) (As := [.int x1]) (st := []) hR12 hk13 dX8_goDown_36 ml_X8_85 ⟨TX7, 15, rfl⟩ (sp_Run_self hs0) (by decide) (Nat.le_of_ble_eq_true rfl) rfl (k_X7_goOnAt hR12 hs0 h15) (fun w16 hR17 hk18 => ?_)
    refine pm_iconst (v := 0) dX8_goDown_39 (by decide) ?_
    cases h
    exact pm_iret dX8_goDown_40 rfl (Nat.le_refl _) (Nat.le_refl _) ⟨rfl, rfl, hR17, hk18⟩
  · replace h := it_f c3 h
    refine pm_iconst (v := 4) dX8_goDown_15 (by decide) ?_
    cases h
    exact pm_iret dX8_goDown_16 rfl (Nat.le_refl _) (Nat.le_refl _) ⟨rfl, rfl, hR, rg_k0⟩
def g_X7_stackDown (F : Nat) (o0 : Nat) (u : rg_U) : Option rg_U :=
  if (rF u o0 9) < 0 then (some u) else (if 3000 ≤ (rF u o0 9) then (some u) else (ob (g_X7_topAt F o0 (rF u o0 9) u) (fun r3 => ob (g_X7_topAt F o0 r3 u) (fun r5 => ck (inb ((rF u o0 9) + 1) 3001) (lt1 (sA u (o0 + 33) ((rF u o0 9) + 1) r5) (fun u8 => some u8))))))
set_option maxHeartbeats 4000000 in
set_option maxRecDepth 100000 in
theorem k_X7_stackDown {gs : List String} {ro : pm_RO} {n : Nat} {w : Nat → va_E} {b : Nat} {u : rg_U} {F : Nat} {o0 : Nat} {z : rg_U} (hR : rg shC b u n w) (hs0 : sp_Run o0) (h : g_X7_stackDown F o0 u = some z) : pm_Met gs ro M_X7_stackDown 2 0 0 [.ref (b + o0)] n w (rg_post shC b n w none z) := by
  unfold g_X7_stackDown at h
  refine pm_ofX in_X7_stackDown (Nat.le_of_ble_eq_true rfl) rfl (L := [some (.ref (b + o0))]) rfl ?_
  refine pm_aload_n dX7_stackDown_0 rfl ?_
  refine dx_gi (j := o0) hR dX7_stackDown_1 fl_X7_59 (sp_Run_self hs0) rfl ?_
  refine pm_if_lt (tgt := 40) dX7_stackDown_4 (by decide) (fun c1 => ?_) (fun c1 => ?_)
  · replace h := it_t c1 h
    cases h
    exact pm_vret dX7_stackDown_40 rfl (Nat.le_refl _) (Nat.le_refl _) ⟨rfl, rfl, hR, rg_k0⟩
  · replace h := it_f c1 h
    refine pm_aload_n dX7_stackDown_7 rfl ?_
    refine dx_gi (j := o0) hR dX7_stackDown_8 fl_X7_59 (sp_Run_self hs0) rfl ?_
    refine pm_sipush (v := 3000) dX7_stackDown_11 (by decide) ?_
    refine pm_icmp_ge (tgt := 40) dX7_stackDown_14 (by decide) (fun c2 => ?_) (fun c2 => ?_)
    · replace h := it_t c2 h
      cases h
      exact pm_vret dX7_stackDown_40 rfl (Nat.le_refl _) (Nat.le_refl _) ⟨rfl, rfl, hR, rg_k0⟩
    · replace h := it_f c2 h
      refine pm_aload_n dX7_stackDown_17 rfl ?_
      refine dx_gr (j := o0) (o := (o0 + 33)) hR dX7_stackDown_18 fl_X7_56 (sp_Run_self hs0) rfl ?_
      refine pm_aload_n dX7_stackDown_21 rfl ?_
      refine dx_gi (j := o0) hR dX7_stackDown_22 fl_X7_59 (sp_Run_self hs0) rfl ?_
      refine pm_iconst (v := 1) dX7_stackDown_25 (by decide) ?_
      refine pm_iadd dX7_stackDown_26 ?_
      refine pm_aload_n dX7_stackDown_27 rfl ?_
      refine pm_aload_n dX7_stackDown_28 rfl ?_
      refine pm_aload_n dX7_stackDown_29 rfl ?_
      refine dx_gi (j := o0) hR dX7_stackDown_30 fl_X7_59 (sp_Run_self hs0) rfl ?_
      obtain ⟨r3, h4, h⟩ := ob_some h
      refine dx_cVp (j := o0) (M := M_X7_stackDown) (Mc := M_X7_topAt) (dc := 1) (As := [.int (rF u o0 9)]) (st := [.ref (b + o0), .int ((rF u o0 9) + 1), .ref (b + (o0 + 33))]) hR dX7_stackDown_33 ml_X7_113 ⟨TX7, 15, rfl⟩ (sp_Run_self hs0) (by decide) (Nat.le_of_ble_eq_true rfl) rfl (k_X7_topAt hR hs0 h4) ?_
      obtain ⟨r5, h6, h⟩ := ob_some h
      refine dx_cVp (j := o0) (M := M_X7_stackDown) (Mc := M_X7_topAt) (dc := 1) (As := [.int r3]) (st := [.int ((rF u o0 9) + 1), .ref (b + (o0 + 33))]) hR dX7_stackDown_36 ml_X7_113 ⟨TX7, 15, rfl⟩ (sp_Run_self hs0) (by decide) (Nat.le_of_ble_eq_true rfl) rfl (k_X7_topAt hR hs0 h6) ?_
      obtain ⟨c7, h⟩ := ck_some h
      obtain ⟨u8, hu9, h⟩ := lt1_ex h
      refine dx_as (j := (o0 + 33)) hR rg_k0 dX7_stackDown_39 (sp_Run_top hs0) (vp_in_iff.mpr c7) hu9 (fun w10 hR11 hk12 => ?_)
      cases h
      exact pm_vret dX7_stackDown_40 rfl (Nat.le_refl _) (Nat.le_refl _) ⟨rfl, rfl, hR11, hk12⟩
def g_X8_goUp (F : Nat) (o0 : Nat) (u : rg_U) : Option rg_U :=
  ob (g_X7_stackSizeAt F o0 (rF u o0 9) u) (fun r1 => if r1 = 0 then (lt1 (sF u o0 10 2) (fun u16 => some u16)) else (ob (g_X7_stackedAt F o0 (rF u o0 9) (r1 - 1) u) (fun r4 => ob (g_X7_goOnAt F o0 r4 u) (fun r6 => ob (g_X7_stackDown F o0 r6) (fun r11 => some r11)))))
set_option maxHeartbeats 4000000 in
set_option maxRecDepth 100000 in
theorem k_X8_goUp {gs : List String} {ro : pm_RO} {n : Nat} {w : Nat → va_E} {b : Nat} {u : rg_U} {F : Nat} {o0 : Nat} {z : rg_U} (hR : rg shC b u n w) (hs0 : sp_Run o0) (h : g_X8_goUp F o0 u = some z) : pm_Met gs ro M_X8_goUp 4 0 0 [.ref (b + o0)] n w (rg_post shC b n w none z) := by
  unfold g_X8_goUp at h
  refine pm_ofX in_X8_goUp (Nat.le_of_ble_eq_true rfl) rfl (L := [some (.ref (b + o0)), none]) rfl ?_
  refine pm_aload_n dX8_goUp_0 rfl ?_
  refine pm_aload_n dX8_goUp_1 rfl ?_
  refine dx_gi (j := o0) hR dX8_goUp_2 fl_X8_117 (sp_Run_self hs0) rfl ?_
  obtain ⟨r1, h2, h⟩ := ob_some h
  refine dx_cVp (j := o0) (M := M_X8_goUp) (Mc := M_X7_stackSizeAt) (dc := 2) (As := [.int (rF u o0 9)]) (st := []) hR dX8_goUp_5 ml_X8_120 ⟨TX7, 15, rfl⟩ (sp_Run_self hs0) (by decide) (Nat.le_of_ble_eq_true rfl) rfl (k_X7_stackSizeAt hR hs0 h2) ?_
  refine pm_istore_n dX8_goUp_8 (by decide) rfl rfl ?_
  refine pm_iload_n dX8_goUp_9 rfl ?_
  refine pm_if_ne (tgt := 19) dX8_goUp_10 (by decide) (fun c3 => ?_) (fun c3 => ?_)
  · replace h := it_f c3 h
    refine pm_aload_n dX8_goUp_19 rfl ?_
    refine pm_aload_n dX8_goUp_20 rfl ?_
    refine pm_aload_n dX8_goUp_21 rfl ?_
    refine dx_gi (j := o0) hR dX8_goUp_22 fl_X8_117 (sp_Run_self hs0) rfl ?_
    refine pm_iload_n dX8_goUp_25 rfl ?_
    refine pm_iconst (v := 1) dX8_goUp_26 (by decide) ?_
    refine pm_isub dX8_goUp_27 ?_
    obtain ⟨r4, h5, h⟩ := ob_some h
    refine dx_cVp (j := o0) (M := M_X8_goUp) (Mc := M_X7_stackedAt) (dc := 3) (As := [.int (rF u o0 9), .int (r1 - 1)]) (st := [.ref (b + o0)]) hR dX8_goUp_28 ml_X8_135 ⟨TX7, 15, rfl⟩ (sp_Run_self hs0) (by decide) (Nat.le_of_ble_eq_true rfl) rfl (k_X7_stackedAt hR hs0 h5) ?_
    obtain ⟨r6, h7, h⟩ := ob_some h
    refine dx_cVv (j := o0) (M := M_X8_goUp) (Mc := M_X7_goOnAt) (dc := 0) (As := [.int r4]) (st := []) hR rg_k0 dX8_goUp_31 ml_X8_85 ⟨TX7, 15, rfl⟩ (sp_Run_self hs0) (by decide) (Nat.le_of_ble_eq_true rfl) rfl (k_X7_goOnAt hR hs0 h7) (fun w8 hR9 hk10 => ?_)
    refine pm_aload_n dX8_goUp_34 rfl ?_
    obtain ⟨r11, h12, h⟩ := ob_some h
    refine dx_cVv (j := o0) (M := M_X8_goUp) (Mc := M_X7_stackDown) (dc := 2) (As := []) (st := []) hR9 hk10 dX8_goUp_35 ml_X8_139 ⟨TX7, 15, rfl⟩ (sp_Run_self hs0) (by decide) (Nat.le_of_ble_eq_true rfl) rfl (k_X7_stackDown hR9 hs0 h12) (fun w13 hR14 hk15 => ?_)
    cases h
    exact pm_vret dX8_goUp_38 rfl (Nat.le_refl _) (Nat.le_refl _) ⟨rfl, rfl, hR14, hk15⟩
  · replace h := it_t c3 h
    refine pm_aload_n dX8_goUp_13 rfl ?_
    refine pm_iconst (v := 2) dX8_goUp_14 (by decide) ?_
    obtain ⟨u16, hu17, h⟩ := lt1_ex h
    refine dx_pi (j := o0) hR rg_k0 dX8_goUp_15 fl_X8_30 (sp_Run_self hs0) rfl hu17 (fun w18 hR19 hk20 => ?_)
    cases h
    exact pm_vret dX8_goUp_18 rfl (Nat.le_refl _) (Nat.le_refl _) ⟨rfl, rfl, hR19, hk20⟩
def g_X8_reckoned (F : Nat) (x0 : Int32) (x1 : Int32) (x2 : Int32) (u : rg_U) : Option Int32 :=
  if x0 = 4 then (some (x1 + x2)) else if x0 = 5 then (some (x1 - x2)) else if x0 = 6 then (some (x1 * x2)) else if x0 = 7 then (if x2 = 0 then (some 0) else (ck (¬ x2 = 0) (some (x1 / x2)))) else (if x2 = 0 then (some 0) else (ck (¬ x2 = 0) (some (dx_rem x1 x2))))
set_option maxHeartbeats 4000000 in
set_option maxRecDepth 100000 in
theorem k_X8_reckoned {gs : List String} {ro : pm_RO} {n : Nat} {w : Nat → va_E} {b : Nat} {u : rg_U} {F : Nat} {x0 : Int32} {x1 : Int32} {x2 : Int32} {z : Int32} (hR : rg shC b u n w) (h : g_X8_reckoned F x0 x1 x2 u = some z) : pm_Met gs ro M_X8_reckoned 0 0 0 [.int x0, .int x1, .int x2] n w (pm_p n w (some (.int z))) := by
  unfold g_X8_reckoned at h
  refine pm_ofX in_X8_reckoned (Nat.le_of_ble_eq_true rfl) rfl (L := [some (.int x0), some (.int x1), some (.int x2)]) rfl ?_
  refine pm_iload_n dX8_reckoned_0 rfl ?_
  by_cases t1 : x0 = 4
  · replace h := it_t t1 h
    refine pm_tableIn (off := 31) (tgt := 32) dX8_reckoned_1 (by rw [t1]; decide) (by rw [t1]; decide) (by rw [t1]; rfl) (by decide) ?_
    refine pm_iload_n dX8_reckoned_32 rfl ?_
    refine pm_iload_n dX8_reckoned_33 rfl ?_
    refine pm_iadd dX8_reckoned_34 ?_
    cases h
    exact pm_iret dX8_reckoned_35 rfl (Nat.le_refl _) (Nat.le_refl _) ⟨rfl, rfl, rfl⟩
  replace h := it_f t1 h
  by_cases t2 : x0 = 5
  · replace h := it_t t2 h
    refine pm_tableIn (off := 35) (tgt := 36) dX8_reckoned_1 (by rw [t2]; decide) (by rw [t2]; decide) (by rw [t2]; rfl) (by decide) ?_
    refine pm_iload_n dX8_reckoned_36 rfl ?_
    refine pm_iload_n dX8_reckoned_37 rfl ?_
    refine pm_isub dX8_reckoned_38 ?_
    cases h
    exact pm_iret dX8_reckoned_39 rfl (Nat.le_refl _) (Nat.le_refl _) ⟨rfl, rfl, rfl⟩
  replace h := it_f t2 h
  by_cases t3 : x0 = 6
  · replace h := it_t t3 h
    refine pm_tableIn (off := 39) (tgt := 40) dX8_reckoned_1 (by rw [t3]; decide) (by rw [t3]; decide) (by rw [t3]; rfl) (by decide) ?_
    refine pm_iload_n dX8_reckoned_40 rfl ?_
    refine pm_iload_n dX8_reckoned_41 rfl ?_
    refine pm_imul dX8_reckoned_42 ?_
    cases h
    exact pm_iret dX8_reckoned_43 rfl (Nat.le_refl _) (Nat.le_refl _) ⟨rfl, rfl, rfl⟩
  replace h := it_f t3 h
  by_cases t4 : x0 = 7
  · replace h := it_t t4 h
    refine pm_tableIn (off := 43) (tgt := 44) dX8_reckoned_1 (by rw [t4]; decide) (by rw [t4]; decide) (by rw [t4]; rfl) (by decide) ?_
    refine pm_iload_n dX8_reckoned_44 rfl ?_
    refine pm_if_ne (tgt := 52) dX8_reckoned_45 (by decide) (fun c5 => ?_) (fun c5 => ?_)
    · replace h := it_f c5 h
      refine pm_iload_n dX8_reckoned_52 rfl ?_
      refine pm_iload_n dX8_reckoned_53 rfl ?_
      obtain ⟨c6, h⟩ := ck_some h
      refine pm_idiv dX8_reckoned_54 c6 ?_
      cases h
      exact pm_iret dX8_reckoned_55 rfl (Nat.le_refl _) (Nat.le_refl _) ⟨rfl, rfl, rfl⟩
    · replace h := it_t c5 h
      refine pm_iconst (v := 0) dX8_reckoned_48 (by decide) ?_
      refine pm_goto (tgt := 55) dX8_reckoned_49 (by decide) ?_
      cases h
      exact pm_iret dX8_reckoned_55 rfl (Nat.le_refl _) (Nat.le_refl _) ⟨rfl, rfl, rfl⟩
  replace h := it_f t4 h
  refine pm_tableOut (tgt := 56) dX8_reckoned_1 (by have h0 := lv_neT t1 (show (4 : Int32).toInt = 4 from by decide); have h1 := lv_neT t2 (show (5 : Int32).toInt = 5 from by decide); have h2 := lv_neT t3 (show (6 : Int32).toInt = 6 from by decide); have h3 := lv_neT t4 (show (7 : Int32).toInt = 7 from by decide); omega) (by decide) ?_
  refine pm_iload_n dX8_reckoned_56 rfl ?_
  refine pm_if_ne (tgt := 64) dX8_reckoned_57 (by decide) (fun c7 => ?_) (fun c7 => ?_)
  · replace h := it_f c7 h
    refine pm_iload_n dX8_reckoned_64 rfl ?_
    refine pm_iload_n dX8_reckoned_65 rfl ?_
    obtain ⟨c8, h⟩ := ck_some h
    refine pm_irem dX8_reckoned_66 c8 ?_
    cases h
    exact pm_iret dX8_reckoned_67 rfl (Nat.le_refl _) (Nat.le_refl _) ⟨rfl, rfl, rfl⟩
  · replace h := it_t c7 h
    refine pm_iconst (v := 0) dX8_reckoned_60 (by decide) ?_
    refine pm_goto (tgt := 67) dX8_reckoned_61 (by decide) ?_
    cases h
    exact pm_iret dX8_reckoned_67 rfl (Nat.le_refl _) (Nat.le_refl _) ⟨rfl, rfl, rfl⟩
def g_X8_reckon_j89 (F : Nat) (o0 : Nat) (l2 : Int32) (l3 : Int32) (s0 : Int32) (s1 : Int32) (s2 : Int32) (u : rg_U) : Option (Int32 × rg_U) :=
  ob (g_X7_putByStep F o0 s2 s1 s0 l2 l3 u) (fun r22 => some (0, r22))
set_option maxHeartbeats 4000000 in
set_option maxRecDepth 100000 in
theorem k_X8_reckon_j89 {gs : List String} {ro : pm_RO} {n : Nat} {w w1 : Nat → va_E} {b : Nat} {u : rg_U} {F : Nat} {o0 : Nat} {l2 : Int32} {l3 : Int32} {s0 : Int32} {s1 : Int32} {s2 : Int32} {z : (Int32 × rg_U)} (hR : rg shC b u n w1) (hk : rg_k b shC.length w w1) (hs0 : sp_Run o0) (h : g_X8_reckon_j89 F o0 l2 l3 s0 s1 s2 u = some z) : pm_X gs ro M_X8_reckon 4 0 0 0 0 89 [none, none, some (.int l2), some (.int l3), none, none, none] [.int s0, .int s1, .int s2, .ref (b + o0)] n w1 (rg_post shC b n w (some (.int z.1)) z.2) := by
  unfold g_X8_reckon_j89 at h
  refine pm_iload_n dX8_reckon_89 rfl ?_
  refine pm_iload_n dX8_reckon_90 rfl ?_
  obtain ⟨r22, h23, h⟩ := ob_some h
  refine dx_cVv (j := o0) (M := M_X8_reckon) (Mc := M_X7_putByStep) (dc := 3) (As := [.int s2, .int s1, .int s0, .int l2, .int l3]) (st := []) hR hk dX8_reckon_91 ml_X8_34 ⟨TX7, 15, rfl⟩ (sp_Run_self hs0) (by decide) (Nat.le_of_ble_eq_true rfl) rfl (k_X7_putByStep hR hs0 h23) (fun w24 hR25 hk26 => ?_)
  refine pm_goto (tgt := 114) dX8_reckon_94 (by decide) ?_
  refine pm_iconst (v := 0) dX8_reckon_114 (by decide) ?_
  cases h
  exact pm_iret dX8_reckon_115 rfl (Nat.le_refl _) (Nat.le_refl _) ⟨rfl, rfl, hR25, hk26⟩
def g_X8_reckon_j67 (F : Nat) (o0 : Nat) (l1 : Int32) (l2 : Int32) (l3 : Int32) (l4 : Int32) (l5 : Int32) (l6 : Int32) (u : rg_U) : Option (Int32 × rg_U) :=
  if l4 = 9 then (if l6 ≤ l5 then (g_X8_reckon_j89 F o0 l2 l3 0 1 l1 u) else (g_X8_reckon_j89 F o0 l2 l3 1 1 l1 u)) else (ob (g_X8_reckoned F l4 l5 l6 u) (fun r14 => ob (g_X7_putByStep F o0 l1 2 r14 l2 l3 u) (fun r16 => some (0, r16))))
set_option maxHeartbeats 4000000 in
set_option maxRecDepth 100000 in
theorem k_X8_reckon_j67 {gs : List String} {ro : pm_RO} {n : Nat} {w w1 : Nat → va_E} {b : Nat} {u : rg_U} {F : Nat} {o0 : Nat} {l1 : Int32} {l2 : Int32} {l3 : Int32} {l4 : Int32} {l5 : Int32} {l6 : Int32} {z : (Int32 × rg_U)} (hR : rg shC b u n w1) (hk : rg_k b shC.length w w1) (hs0 : sp_Run o0) (h : g_X8_reckon_j67 F o0 l1 l2 l3 l4 l5 l6 u = some z) : pm_X gs ro M_X8_reckon 4 0 0 0 0 67 [some (.ref (b + o0)), some (.int l1), some (.int l2), some (.int l3), some (.int l4), some (.int l5), some (.int l6)] [] n w1 (rg_post shC b n w (some (.int z.1)) z.2) := by
  unfold g_X8_reckon_j67 at h
  refine pm_iload dX8_reckon_67 rfl ?_
  refine pm_bipush (v := 9) dX8_reckon_69 (by decide) ?_
  refine pm_icmp_ne (tgt := 97) dX8_reckon_71 (by decide) (fun c13 => ?_) (fun c13 => ?_)
  · replace h := it_f c13 h
    refine pm_aload_n dX8_reckon_97 rfl ?_
    refine pm_iload_n dX8_reckon_98 rfl ?_
    refine pm_iconst (v := 2) dX8_reckon_99 (by decide) ?_
    refine pm_iload dX8_reckon_100 rfl ?_
    refine pm_iload dX8_reckon_102 rfl ?_
    refine pm_iload dX8_reckon_104 rfl ?_
    obtain ⟨r14, h15, h⟩ := ob_some h
    refine dx_cSp (M := M_X8_reckon) (Mc := M_X8_reckoned) (dc := 0) (As := [.int l4, .int l5, .int l6]) (st := [.int 2, .int l1, .ref (b + o0)]) dX8_reckon_106 ml_X8_142 (by decide) (Nat.le_of_ble_eq_true rfl) rfl (k_X8_reckoned hR h15) ?_
    refine pm_iload_n dX8_reckon_109 rfl ?_
    refine pm_iload_n dX8_reckon_110 rfl ?_
    obtain ⟨r16, h17, h⟩ := ob_some h
    refine dx_cVv (j := o0) (M := M_X8_reckon) (Mc := M_X7_putByStep) (dc := 3) (As := [.int l1, .int 2, .int r14, .int l2, .int l3]) (st := []) hR hk dX8_reckon_111 ml_X8_34 ⟨TX7, 15, rfl⟩ (sp_Run_self hs0) (by decide) (Nat.le_of_ble_eq_true rfl) rfl (k_X7_putByStep hR hs0 h17) (fun w18 hR19 hk20 => ?_)
    refine pm_iconst (v := 0) dX8_reckon_114 (by decide) ?_
    cases h
    exact pm_iret dX8_reckon_115 rfl (Nat.le_refl _) (Nat.le_refl _) ⟨rfl, rfl, hR19, hk20⟩
  · replace h := it_t c13 h
    refine pm_aload_n dX8_reckon_74 rfl ?_
    refine pm_iload_n dX8_reckon_75 rfl ?_
    refine pm_iconst (v := 1) dX8_reckon_76 (by decide) ?_
    refine pm_iload dX8_reckon_77 rfl ?_
    refine pm_iload dX8_reckon_79 rfl ?_
    refine pm_icmp_ge (tgt := 88) dX8_reckon_81 (by decide) (fun c21 => ?_) (fun c21 => ?_)
    · replace h := it_t c21 h
      refine pm_iconst (v := 0) dX8_reckon_88 (by decide) ?_
      refine pm_lw (L' := [none, none, some (.int l2), some (.int l3), none, none, none]) ⟨Or.inl rfl, Or.inl rfl, Or.inr rfl, Or.inr rfl, Or.inl rfl, Or.inl rfl, Or.inl rfl, trivial⟩ ?_
      exact k_X8_reckon_j89 hR hk hs0 h
    · replace h := it_f c21 h
      refine pm_iconst (v := 1) dX8_reckon_84 (by decide) ?_
      refine pm_goto (tgt := 89) dX8_reckon_85 (by decide) ?_
      refine pm_lw (L' := [none, none, some (.int l2), some (.int l3), none, none, none]) ⟨Or.inl rfl, Or.inl rfl, Or.inr rfl, Or.inr rfl, Or.inl rfl, Or.inl rfl, Or.inl rfl, trivial⟩ ?_
      exact k_X8_reckon_j89 hR hk hs0 h
def g_X8_reckon_j60 (F : Nat) (o0 : Nat) (l1 : Int32) (l2 : Int32) (l3 : Int32) (l4 : Int32) (l5 : Int32) (l6 : Int32) (u : rg_U) : Option (Int32 × rg_U) :=
  if l6 = 0 then (some (2, u)) else (g_X8_reckon_j67 F o0 l1 l2 l3 l4 l5 l6 u)
set_option maxHeartbeats 4000000 in
set_option maxRecDepth 100000 in
theorem k_X8_reckon_j60 {gs : List String} {ro : pm_RO} {n : Nat} {w w1 : Nat → va_E} {b : Nat} {u : rg_U} {F : Nat} {o0 : Nat} {l1 : Int32} {l2 : Int32} {l3 : Int32} {l4 : Int32} {l5 : Int32} {l6 : Int32} {z : (Int32 × rg_U)} (hR : rg shC b u n w1) (hk : rg_k b shC.length w w1) (hs0 : sp_Run o0) (h : g_X8_reckon_j60 F o0 l1 l2 l3 l4 l5 l6 u = some z) : pm_X gs ro M_X8_reckon 4 0 0 0 0 60 [some (.ref (b + o0)), some (.int l1), some (.int l2), some (.int l3), some (.int l4), some (.int l5), some (.int l6)] [] n w1 (rg_post shC b n w (some (.int z.1)) z.2) := by
  unfold g_X8_reckon_j60 at h
  refine pm_iload dX8_reckon_60 rfl ?_
  refine pm_if_ne (tgt := 67) dX8_reckon_62 (by decide) (fun c12 => ?_) (fun c12 => ?_)
  · replace h := it_f c12 h
    exact k_X8_reckon_j67 hR hk hs0 h
  · replace h := it_t c12 h
    refine pm_iconst (v := 2) dX8_reckon_65 (by decide) ?_
    cases h
    exact pm_iret dX8_reckon_66 rfl (Nat.le_refl _) (Nat.le_refl _) ⟨rfl, rfl, hR, hk⟩
def g_X8_reckon (F : Nat) (o0 : Nat) (x1 : Int32) (x2 : Int32) (x3 : Int32) (x4 : Int32) (u : rg_U) : Option (Int32 × rg_U) :=
  ob (g_X6_sortOf F (o0 + 12) x2 u) (fun r1 => if r1 = 2 then (ob (g_X6_sortOf F (o0 + 12) x3 u) (fun r4 => if r4 = 2 then (ob (g_X6_numberOf F (o0 + 12) x2 u) (fun r7 => ob (g_X6_numberOf F (o0 + 12) x3 u) (fun r9 => if x4 = 7 then (g_X8_reckon_j60 F o0 x1 x2 x3 x4 r7 r9 u) else (if x4 = 8 then (g_X8_reckon_j60 F o0 x1 x2 x3 x4 r7 r9 u) else (g_X8_reckon_j67 F o0 x1 x2 x3 x4 r7 r9 u))))) else (some (1, u)))) else (some (1, u)))
set_option maxHeartbeats 4000000 in
set_option maxRecDepth 100000 in
theorem k_X8_reckon {gs : List String} {ro : pm_RO} {n : Nat} {w : Nat → va_E} {b : Nat} {u : rg_U} {F : Nat} {o0 : Nat} {x1 : Int32} {x2 : Int32} {x3 : Int32} {x4 : Int32} {z : (Int32 × rg_U)} (hR : rg shC b u n w) (hs0 : sp_Run o0) (h : g_X8_reckon F o0 x1 x2 x3 x4 u = some z) : pm_Met gs ro M_X8_reckon 4 0 0 [.ref (b + o0), .int x1, .int x2, .int x3, .int x4] n w (rg_post shC b n w (some (.int z.1)) z.2) := by
  unfold g_X8_reckon at h
  refine pm_ofX in_X8_reckon (Nat.le_of_ble_eq_true rfl) rfl (L := [some (.ref (b + o0)), some (.int x1), some (.int x2), some (.int x3), some (.int x4), none, none]) rfl ?_
  refine pm_aload_n dX8_reckon_0 rfl ?_
  refine dx_gr (j := o0) (o := (o0 + 12)) hR dX8_reckon_1 fl_X8_38 (sp_Run_self hs0) rfl ?_
  refine pm_iload_n dX8_reckon_4 rfl ?_
  obtain ⟨r1, h2, h⟩ := ob_some h
  refine dx_cVp (j := (o0 + 12)) (M := M_X8_reckon) (Mc := M_X6_sortOf) (dc := 0) (As := [.int x2]) (st := []) hR dX8_reckon_5 ml_X8_103 ⟨TX6, 12, rfl⟩ (sp_Puts_self (sp_Run_puts hs0)) (by decide) (Nat.le_of_ble_eq_true rfl) rfl (k_X6_sortOf hR (sp_Run_puts hs0) h2) ?_
  refine pm_iconst (v := 2) dX8_reckon_8 (by decide) ?_
  refine pm_icmp_ne (tgt := 24) dX8_reckon_9 (by decide) (fun c3 => ?_) (fun c3 => ?_)
  · replace h := it_f c3 h
    refine pm_iconst (v := 1) dX8_reckon_24 (by decide) ?_
    cases h
    exact pm_iret dX8_reckon_25 rfl (Nat.le_refl _) (Nat.le_refl _) ⟨rfl, rfl, hR, rg_k0⟩
  · replace h := it_t c3 h
    refine pm_aload_n dX8_reckon_12 rfl ?_
    refine dx_gr (j := o0) (o := (o0 + 12)) hR dX8_reckon_13 fl_X8_38 (sp_Run_self hs0) rfl ?_
    refine pm_iload_n dX8_reckon_16 rfl ?_
    obtain ⟨r4, h5, h⟩ := ob_some h
    refine dx_cVp (j := (o0 + 12)) (M := M_X8_reckon) (Mc := M_X6_sortOf) (dc := 0) (As := [.int x3]) (st := []) hR dX8_reckon_17 ml_X8_103 ⟨TX6, 12, rfl⟩ (sp_Puts_self (sp_Run_puts hs0)) (by decide) (Nat.le_of_ble_eq_true rfl) rfl (k_X6_sortOf hR (sp_Run_puts hs0) h5) ?_
    refine pm_iconst (v := 2) dX8_reckon_20 (by decide) ?_
    refine pm_icmp_eq (tgt := 26) dX8_reckon_21 (by decide) (fun c6 => ?_) (fun c6 => ?_)
    · replace h := it_t c6 h
      refine pm_aload_n dX8_reckon_26 rfl ?_
      refine dx_gr (j := o0) (o := (o0 + 12)) hR dX8_reckon_27 fl_X8_38 (sp_Run_self hs0) rfl ?_
      refine pm_iload_n dX8_reckon_30 rfl ?_
      obtain ⟨r7, h8, h⟩ := ob_some h
      refine dx_cVp (j := (o0 + 12)) (M := M_X8_reckon) (Mc := M_X6_numberOf) (dc := 0) (As := [.int x2]) (st := []) hR dX8_reckon_31 ml_X8_106 ⟨TX6, 12, rfl⟩ (sp_Puts_self (sp_Run_puts hs0)) (by decide) (Nat.le_of_ble_eq_true rfl) rfl (k_X6_numberOf hR (sp_Run_puts hs0) h8) ?_
      refine pm_istore dX8_reckon_34 (by decide) rfl rfl ?_
      refine pm_aload_n dX8_reckon_36 rfl ?_
      refine dx_gr (j := o0) (o := (o0 + 12)) hR dX8_reckon_37 fl_X8_38 (sp_Run_self hs0) rfl ?_
      refine pm_iload_n dX8_reckon_40 rfl ?_
      obtain ⟨r9, h10, h⟩ := ob_some h
      refine dx_cVp (j := (o0 + 12)) (M := M_X8_reckon) (Mc := M_X6_numberOf) (dc := 0) (As := [.int x3]) (st := []) hR dX8_reckon_41 ml_X8_106 ⟨TX6, 12, rfl⟩ (sp_Puts_self (sp_Run_puts hs0)) (by decide) (Nat.le_of_ble_eq_true rfl) rfl (k_X6_numberOf hR (sp_Run_puts hs0) h10) ?_
      refine pm_istore dX8_reckon_44 (by decide) rfl rfl ?_
      refine pm_iload dX8_reckon_46 rfl ?_
      refine pm_bipush (v := 7) dX8_reckon_48 (by decide) ?_
      refine pm_icmp_eq (tgt := 60) dX8_reckon_50 (by decide) (fun c11 => ?_) (fun c11 => ?_)
      · replace h := it_t c11 h
        exact k_X8_reckon_j60 hR rg_k0 hs0 h
      · replace h := it_f c11 h
        refine pm_iload dX8_reckon_53 rfl ?_
        refine pm_bipush (v := 8) dX8_reckon_55 (by decide) ?_
        refine pm_icmp_ne (tgt := 67) dX8_reckon_57 (by decide) (fun c27 => ?_) (fun c27 => ?_)
        · replace h := it_f c27 h
          exact k_X8_reckon_j67 hR rg_k0 hs0 h
        · replace h := it_t c27 h
          exact k_X8_reckon_j60 hR rg_k0 hs0 h
    · replace h := it_f c6 h
      refine pm_iconst (v := 1) dX8_reckon_24 (by decide) ?_
      cases h
      exact pm_iret dX8_reckon_25 rfl (Nat.le_refl _) (Nat.le_refl _) ⟨rfl, rfl, hR, rg_k0⟩
def g_X8_perform_j405 (F : Nat) (o0 : Nat) (l3 : Int32) (l4 : Int32) (l5 : Int32) (l6 : Int32) (u : rg_U) : Option (Int32 × rg_U) :=
  ob (g_X6_latestOf F (o0 + 12) l5 u) (fun r145 => ob (g_X6_latestOf F (o0 + 12) l6 u) (fun r147 => ob (g_X8_reckon F o0 l4 r145 r147 l3 u) (fun r149 => some (r149.1, r149.2))))
set_option maxHeartbeats 4000000 in
set_option maxRecDepth 100000 in
theorem k_X8_perform_j405 {gs : List String} {ro : pm_RO} {n : Nat} {w w1 : Nat → va_E} {b : Nat} {u : rg_U} {F : Nat} {o0 : Nat} {l3 : Int32} {l4 : Int32} {l5 : Int32} {l6 : Int32} {z : (Int32 × rg_U)} (hR : rg shC b u n w1) (hk : rg_k b shC.length w w1) (hs0 : sp_Run o0) (h : g_X8_perform_j405 F o0 l3 l4 l5 l6 u = some z) : pm_X gs ro M_X8_perform 5 0 0 0 0 405 [some (.ref (b + o0)), none, none, some (.int l3), some (.int l4), some (.int l5), some (.int l6)] [] n w1 (rg_post shC b n w (some (.int z.1)) z.2) := by
  unfold g_X8_perform_j405 at h
  refine pm_aload_n dX8_perform_405 rfl ?_
  refine pm_iload dX8_perform_406 rfl ?_
  refine pm_aload_n dX8_perform_408 rfl ?_
  refine dx_gr (j := o0) (o := (o0 + 12)) hR dX8_perform_409 fl_X8_38 (sp_Run_self hs0) rfl ?_
  refine pm_iload dX8_perform_412 rfl ?_
  obtain ⟨r145, h146, h⟩ := ob_some h
  refine dx_cVp (j := (o0 + 12)) (M := M_X8_perform) (Mc := M_X6_latestOf) (dc := 1) (As := [.int l5]) (st := [.int l4, .ref (b + o0)]) hR dX8_perform_414 ml_X8_42 ⟨TX6, 12, rfl⟩ (sp_Puts_self (sp_Run_puts hs0)) (by decide) (Nat.le_of_ble_eq_true rfl) rfl (k_X6_latestOf hR (sp_Run_puts hs0) h146) ?_
  refine pm_aload_n dX8_perform_417 rfl ?_
  refine dx_gr (j := o0) (o := (o0 + 12)) hR dX8_perform_418 fl_X8_38 (sp_Run_self hs0) rfl ?_
  refine pm_iload dX8_perform_421 rfl ?_
  obtain ⟨r147, h148, h⟩ := ob_some h
  refine dx_cVp (j := (o0 + 12)) (M := M_X8_perform) (Mc := M_X6_latestOf) (dc := 1) (As := [.int l6]) (st := [.int r145, .int l4, .ref (b + o0)]) hR dX8_perform_423 ml_X8_42 ⟨TX6, 12, rfl⟩ (sp_Puts_self (sp_Run_puts hs0)) (by decide) (Nat.le_of_ble_eq_true rfl) rfl (k_X6_latestOf hR (sp_Run_puts hs0) h148) ?_
  refine pm_iload_n dX8_perform_426 rfl ?_
  obtain ⟨r149, h150, h⟩ := ob_some h
  refine dx_cSi (M := M_X8_perform) (Mc := M_X8_reckon) (dc := 4) (As := [.ref (b + o0), .int l4, .int r145, .int r147, .int l3]) (st := []) hk dX8_perform_427 ml_X8_100 (by decide) (Nat.le_of_ble_eq_true rfl) rfl (k_X8_reckon hR hs0 h150) (fun w151 hR152 hk153 => ?_)
  cases h
  exact pm_iret dX8_perform_430 rfl (Nat.le_refl _) (Nat.le_refl _) ⟨rfl, rfl, hR152, hk153⟩
def g_X8_perform (F : Nat) (o0 : Nat) (x1 : Int32) (u : rg_U) : Option (Int32 × rg_U) :=
  ob (g_X5_kindAt F (o0 + 1) x1 u) (fun r1 => ob (g_X5_firstAt F (o0 + 1) x1 u) (fun r3 => ob (g_X5_secondAt F (o0 + 1) x1 u) (fun r5 => ob (g_X5_thirdAt F (o0 + 1) x1 u) (fun r7 => if r1 = (-1) then (some (5, u)) else if r1 = 0 then (lt1 (sF u o0 10 2) (fun u11 => some (0, u11))) else if r1 = 1 then (ob (g_X7_putByStep F o0 r3 2 r5 (-1) (-1) u) (fun r17 => some (0, r17))) else if r1 = 2 then (ob (g_X7_putByStep F o0 r3 1 r5 (-1) (-1) u) (fun r23 => some (0, r23))) else if r1 = 3 then (ob (g_X6_latestOf F (o0 + 12) r5 u) (fun r29 => ob (g_X8_copy F o0 r3 r29 u) (fun r31 => some (0, r31)))) else if r1 = 10 then (ob (g_X6_latestOf F (o0 + 12) r5 u) (fun r37 => ob (g_X6_latestOf F (o0 + 12) r7 u) (fun r39 => ob (g_X8_compare F o0 r3 r37 r39 u) (fun r41 => some (0, r41))))) else if r1 = 11 then (ob (g_X6_latestOf F (o0 + 12) r5 u) (fun r47 => ob (g_X8_combine F o0 r3 r47 (-1) r1 u) (fun r49 => some (r49.1, r49.2)))) else if r1 = 12 then (ob (g_X6_latestOf F (o0 + 12) r5 u) (fun r55 => ob (g_X6_latestOf F (o0 + 12) r7 u) (fun r57 => ob (g_X8_combine F o0 r3 r55 r57 r1 u) (fun r59 => some (r59.1, r59.2))))) else if r1 = 13 then (ob (g_X6_latestOf F (o0 + 12) r5 u) (fun r65 => ob (g_X8_fromCell F o0 r3 r65 u) (fun r67 => some (r67.1, r67.2)))) else if r1 = 14 then (ob (g_X6_latestOf F (o0 + 12) r3 u) (fun r73 => ob (g_X6_latestOf F (o0 + 12) r5 u) (fun r75 => ob (g_X8_toCell F o0 r73 r75 u) (fun r77 => some (r77.1, r77.2))))) else if r1 = 15 then (ob (g_X7_goOnAt F o0 r3 u) (fun r83 => some (0, r83))) else if r1 = 16 then (ob (g_X6_latestOf F (o0 + 12) r3 u) (fun r89 => ob (g_X8_goOnIf F o0 r89 r5 u) (fun r91 => some (r91.1, r91.2)))) else if r1 = 17 then (ob (g_X8_goDown F o0 r3 u) (fun r97 => some (r97.1, r97.2))) else if r1 = 18 then (ob (g_X8_goUp F o0 u) (fun r103 => some (0, r103))) else if r1 = 19 then (ob (g_X4_takeFirst F u) (fun r109 => ob (g_X7_putFromOutside F o0 r3 0 r109.1 r109.2) (fun r114 => some (0, r114)))) else if r1 = 20 then (ob (g_X4_draw F r5 u) (fun r120 => ob (g_X7_putFromOutside F o0 r3 1 r120.1 r120.2) (fun r125 => some (0, r125)))) else if r1 = 21 then (ob (g_X6_latestOf F (o0 + 12) r3 u) (fun r131 => ob (g_X8_putOut F o0 r131 u) (fun r133 => some (0, r133)))) else if r1 = 22 then (ob (g_X7_putByStep F o0 r3 0 0 (-1) (-1) u) (fun r139 => some (0, r139))) else (g_X8_perform_j405 F o0 r1 r3 r5 r7 u)))))
set_option maxHeartbeats 4000000 in
set_option maxRecDepth 100000 in
theorem k_X8_perform {gs : List String} {ro : pm_RO} {n : Nat} {w : Nat → va_E} {b : Nat} {u : rg_U} {F : Nat} {o0 : Nat} {x1 : Int32} {z : (Int32 × rg_U)} (hR : rg shC b u n w) (hs0 : sp_Run o0) (h : g_X8_perform F o0 x1 u = some z) : pm_Met gs ro M_X8_perform 5 0 0 [.ref (b + o0), .int x1, .ref (b + 6)] n w (rg_post shC b n w (some (.int z.1)) z.2) := by
  unfold g_X8_perform at h
  refine pm_ofX in_X8_perform (Nat.le_of_ble_eq_true rfl) rfl (L := [some (.ref (b + o0)), some (.int x1), some (.ref (b + 6)), none, none, none, none]) rfl ?_
  refine pm_aload_n dX8_perform_0 rfl ?_
  refine dx_gr (j := o0) (o := (o0 + 1)) hR dX8_perform_1 fl_X8_9 (sp_Run_self hs0) rfl ?_
  refine pm_iload_n dX8_perform_4 rfl ?_
  obtain ⟨r1, h2, h⟩ := ob_some h
  refine dx_cVp (j := (o0 + 1)) (M := M_X8_perform) (Mc := M_X5_kindAt) (dc := 1) (As := [.int x1]) (st := []) hR dX8_perform_5 ml_X8_15 ⟨TX5, 4, rfl⟩ (sp_Program_self (sp_Run_program hs0)) (by decide) (Nat.le_of_ble_eq_true rfl) rfl (k_X5_kindAt hR (sp_Run_program hs0) h2) ?_
  refine pm_istore_n dX8_perform_8 (by decide) rfl rfl ?_
  refine pm_aload_n dX8_perform_9 rfl ?_
  refine dx_gr (j := o0) (o := (o0 + 1)) hR dX8_perform_10 fl_X8_9 (sp_Run_self hs0) rfl ?_
  refine pm_iload_n dX8_perform_13 rfl ?_
  obtain ⟨r3, h4, h⟩ := ob_some h
  refine dx_cVp (j := (o0 + 1)) (M := M_X8_perform) (Mc := M_X5_firstAt) (dc := 1) (As := [.int x1]) (st := []) hR dX8_perform_14 ml_X8_21 ⟨TX5, 4, rfl⟩ (sp_Program_self (sp_Run_program hs0)) (by decide) (Nat.le_of_ble_eq_true rfl) rfl (k_X5_firstAt hR (sp_Run_program hs0) h4) ?_
  refine pm_istore dX8_perform_17 (by decide) rfl rfl ?_
  refine pm_aload_n dX8_perform_19 rfl ?_
  refine dx_gr (j := o0) (o := (o0 + 1)) hR dX8_perform_20 fl_X8_9 (sp_Run_self hs0) rfl ?_
  refine pm_iload_n dX8_perform_23 rfl ?_
  obtain ⟨r5, h6, h⟩ := ob_some h
  refine dx_cVp (j := (o0 + 1)) (M := M_X8_perform) (Mc := M_X5_secondAt) (dc := 1) (As := [.int x1]) (st := []) hR dX8_perform_24 ml_X8_24 ⟨TX5, 4, rfl⟩ (sp_Program_self (sp_Run_program hs0)) (by decide) (Nat.le_of_ble_eq_true rfl) rfl (k_X5_secondAt hR (sp_Run_program hs0) h6) ?_
  refine pm_istore dX8_perform_27 (by decide) rfl rfl ?_
  refine pm_aload_n dX8_perform_29 rfl ?_
  refine dx_gr (j := o0) (o := (o0 + 1)) hR dX8_perform_30 fl_X8_9 (sp_Run_self hs0) rfl ?_
  refine pm_iload_n dX8_perform_33 rfl ?_
  obtain ⟨r7, h8, h⟩ := ob_some h
  refine dx_cVp (j := (o0 + 1)) (M := M_X8_perform) (Mc := M_X5_thirdAt) (dc := 1) (As := [.int x1]) (st := []) hR dX8_perform_34 ml_X8_27 ⟨TX5, 4, rfl⟩ (sp_Program_self (sp_Run_program hs0)) (by decide) (Nat.le_of_ble_eq_true rfl) rfl (k_X5_thirdAt hR (sp_Run_program hs0) h8) ?_
  refine pm_istore dX8_perform_37 (by decide) rfl rfl ?_
  refine pm_iload_n dX8_perform_39 rfl ?_
  by_cases t9 : r1 = (-1)
  · replace h := it_t t9 h
    refine pm_tableIn (off := 363) (tgt := 403) dX8_perform_40 (by rw [t9]; decide) (by rw [t9]; decide) (by rw [t9]; rfl) (by decide) ?_
    refine pm_iconst (v := 5) dX8_perform_403 (by decide) ?_
    cases h
    exact pm_iret dX8_perform_404 rfl (Nat.le_refl _) (Nat.le_refl _) ⟨rfl, rfl, hR, rg_k0⟩
  replace h := it_f t9 h
  by_cases t10 : r1 = 0
  · replace h := it_t t10 h
    refine pm_tableIn (off := 112) (tgt := 152) dX8_perform_40 (by rw [t10]; decide) (by rw [t10]; decide) (by rw [t10]; rfl) (by decide) ?_
    refine pm_aload_n dX8_perform_152 rfl ?_
    refine pm_iconst (v := 2) dX8_perform_153 (by decide) ?_
    obtain ⟨u11, hu12, h⟩ := lt1_ex h
    refine dx_pi (j := o0) hR rg_k0 dX8_perform_154 fl_X8_30 (sp_Run_self hs0) rfl hu12 (fun w13 hR14 hk15 => ?_)
    refine pm_iconst (v := 0) dX8_perform_157 (by decide) ?_
    cases h
    exact pm_iret dX8_perform_158 rfl (Nat.le_refl _) (Nat.le_refl _) ⟨rfl, rfl, hR14, hk15⟩
  replace h := it_f t10 h
  by_cases t16 : r1 = 1
  · replace h := it_t t16 h
    refine pm_tableIn (off := 119) (tgt := 159) dX8_perform_40 (by rw [t16]; decide) (by rw [t16]; decide) (by rw [t16]; rfl) (by decide) ?_
    refine pm_aload_n dX8_perform_159 rfl ?_
    refine pm_iload dX8_perform_160 rfl ?_
    refine pm_iconst (v := 2) dX8_perform_162 (by decide) ?_
    refine pm_iload dX8_perform_163 rfl ?_
    refine pm_iconst (v := (-1)) dX8_perform_165 (by decide) ?_
    refine pm_iconst (v := (-1)) dX8_perform_166 (by decide) ?_
    obtain ⟨r17, h18, h⟩ := ob_some h
    refine dx_cVv (j := o0) (M := M_X8_perform) (Mc := M_X7_putByStep) (dc := 3) (As := [.int r3, .int 2, .int r5, .int (-1), .int (-1)]) (st := []) hR rg_k0 dX8_perform_167 ml_X8_34 ⟨TX7, 15, rfl⟩ (sp_Run_self hs0) (by decide) (Nat.le_of_ble_eq_true rfl) rfl (k_X7_putByStep hR hs0 h18) (fun w19 hR20 hk21 => ?_)
    refine pm_iconst (v := 0) dX8_perform_170 (by decide) ?_
    cases h
    exact pm_iret dX8_perform_171 rfl (Nat.le_refl _) (Nat.le_refl _) ⟨rfl, rfl, hR20, hk21⟩
  replace h := it_f t16 h
  by_cases t22 : r1 = 2
  · replace h := it_t t22 h
    refine pm_tableIn (off := 132) (tgt := 172) dX8_perform_40 (by rw [t22]; decide) (by rw [t22]; decide) (by rw [t22]; rfl) (by decide) ?_
    refine pm_aload_n dX8_perform_172 rfl ?_
    refine pm_iload dX8_perform_173 rfl ?_
    refine pm_iconst (v := 1) dX8_perform_175 (by decide) ?_
    refine pm_iload dX8_perform_176 rfl ?_
    refine pm_iconst (v := (-1)) dX8_perform_178 (by decide) ?_
    refine pm_iconst (v := (-1)) dX8_perform_179 (by decide) ?_
    obtain ⟨r23, h24, h⟩ := ob_some h
    refine dx_cVv (j := o0) (M := M_X8_perform) (Mc := M_X7_putByStep) (dc := 3) (As := [.int r3, .int 1, .int r5, .int (-1), .int (-1)]) (st := []) hR rg_k0 dX8_perform_180 ml_X8_34 ⟨TX7, 15, rfl⟩ (sp_Run_self hs0) (by decide) (Nat.le_of_ble_eq_true rfl) rfl (k_X7_putByStep hR hs0 h24) (fun w25 hR26 hk27 => ?_)
    refine pm_iconst (v := 0) dX8_perform_183 (by decide) ?_
    cases h
    exact pm_iret dX8_perform_184 rfl (Nat.le_refl _) (Nat.le_refl _) ⟨rfl, rfl, hR26, hk27⟩
  replace h := it_f t22 h
  by_cases t28 : r1 = 3
  · replace h := it_t t28 h
    refine pm_tableIn (off := 157) (tgt := 197) dX8_perform_40 (by rw [t28]; decide) (by rw [t28]; decide) (by rw [t28]; rfl) (by decide) ?_
    refine pm_aload_n dX8_perform_197 rfl ?_
    refine pm_iload dX8_perform_198 rfl ?_
    refine pm_aload_n dX8_perform_200 rfl ?_
    refine dx_gr (j := o0) (o := (o0 + 12)) hR dX8_perform_201 fl_X8_38 (sp_Run_self hs0) rfl ?_
    refine pm_iload dX8_perform_204 rfl ?_
    obtain ⟨r29, h30, h⟩ := ob_some h
    refine dx_cVp (j := (o0 + 12)) (M := M_X8_perform) (Mc := M_X6_latestOf) (dc := 1) (As := [.int r5]) (st := [.int r3, .ref (b + o0)]) hR dX8_perform_206 ml_X8_42 ⟨TX6, 12, rfl⟩ (sp_Puts_self (sp_Run_puts hs0)) (by decide) (Nat.le_of_ble_eq_true rfl) rfl (k_X6_latestOf hR (sp_Run_puts hs0) h30) ?_
    obtain ⟨r31, h32, h⟩ := ob_some h
    refine dx_cSv (M := M_X8_perform) (Mc := M_X8_copy) (dc := 4) (As := [.ref (b + o0), .int r3, .int r29]) (st := []) rg_k0 dX8_perform_209 ml_X8_47 (by decide) (Nat.le_of_ble_eq_true rfl) rfl (k_X8_copy hR hs0 h32) (fun w33 hR34 hk35 => ?_)
    refine pm_iconst (v := 0) dX8_perform_212 (by decide) ?_
    cases h
    exact pm_iret dX8_perform_213 rfl (Nat.le_refl _) (Nat.le_refl _) ⟨rfl, rfl, hR34, hk35⟩
  replace h := it_f t28 h
  by_cases t36 : r1 = 10
  · replace h := it_t t36 h
    refine pm_tableIn (off := 174) (tgt := 214) dX8_perform_40 (by rw [t36]; decide) (by rw [t36]; decide) (by rw [t36]; rfl) (by decide) ?_
    refine pm_aload_n dX8_perform_214 rfl ?_
    refine pm_iload dX8_perform_215 rfl ?_
    refine pm_aload_n dX8_perform_217 rfl ?_
    refine dx_gr (j := o0) (o := (o0 + 12)) hR dX8_perform_218 fl_X8_38 (sp_Run_self hs0) rfl ?_
    refine pm_iload dX8_perform_221 rfl ?_
    obtain ⟨r37, h38, h⟩ := ob_some h
    refine dx_cVp (j := (o0 + 12)) (M := M_X8_perform) (Mc := M_X6_latestOf) (dc := 1) (As := [.int r5]) (st := [.int r3, .ref (b + o0)]) hR dX8_perform_223 ml_X8_42 ⟨TX6, 12, rfl⟩ (sp_Puts_self (sp_Run_puts hs0)) (by decide) (Nat.le_of_ble_eq_true rfl) rfl (k_X6_latestOf hR (sp_Run_puts hs0) h38) ?_
    refine pm_aload_n dX8_perform_226 rfl ?_
    refine dx_gr (j := o0) (o := (o0 + 12)) hR dX8_perform_227 fl_X8_38 (sp_Run_self hs0) rfl ?_
    refine pm_iload dX8_perform_230 rfl ?_
    obtain ⟨r39, h40, h⟩ := ob_some h
    refine dx_cVp (j := (o0 + 12)) (M := M_X8_perform) (Mc := M_X6_latestOf) (dc := 1) (As := [.int r7]) (st := [.int r37, .int r3, .ref (b + o0)]) hR dX8_perform_232 ml_X8_42 ⟨TX6, 12, rfl⟩ (sp_Puts_self (sp_Run_puts hs0)) (by decide) (Nat.le_of_ble_eq_true rfl) rfl (k_X6_latestOf hR (sp_Run_puts hs0) h40) ?_
    obtain ⟨r41, h42, h⟩ := ob_some h
    refine dx_cSv (M := M_X8_perform) (Mc := M_X8_compare) (dc := 4) (As := [.ref (b + o0), .int r3, .int r37, .int r39]) (st := []) rg_k0 dX8_perform_235 ml_X8_53 (by decide) (Nat.le_of_ble_eq_true rfl) rfl (k_X8_compare hR hs0 h42) (fun w43 hR44 hk45 => ?_)
    refine pm_iconst (v := 0) dX8_perform_238 (by decide) ?_
    cases h
    exact pm_iret dX8_perform_239 rfl (Nat.le_refl _) (Nat.le_refl _) ⟨rfl, rfl, hR44, hk45⟩
  replace h := it_f t36 h
  by_cases t46 : r1 = 11
  · replace h := it_t t46 h
    refine pm_tableIn (off := 200) (tgt := 240) dX8_perform_40 (by rw [t46]; decide) (by rw [t46]; decide) (by rw [t46]; rfl) (by decide) ?_
    refine pm_aload_n dX8_perform_240 rfl ?_
    refine pm_iload dX8_perform_241 rfl ?_
    refine pm_aload_n dX8_perform_243 rfl ?_
    refine dx_gr (j := o0) (o := (o0 + 12)) hR dX8_perform_244 fl_X8_38 (sp_Run_self hs0) rfl ?_
    refine pm_iload dX8_perform_247 rfl ?_
    obtain ⟨r47, h48, h⟩ := ob_some h
    refine dx_cVp (j := (o0 + 12)) (M := M_X8_perform) (Mc := M_X6_latestOf) (dc := 1) (As := [.int r5]) (st := [.int r3, .ref (b + o0)]) hR dX8_perform_249 ml_X8_42 ⟨TX6, 12, rfl⟩ (sp_Puts_self (sp_Run_puts hs0)) (by decide) (Nat.le_of_ble_eq_true rfl) rfl (k_X6_latestOf hR (sp_Run_puts hs0) h48) ?_
    refine pm_iconst (v := (-1)) dX8_perform_252 (by decide) ?_
    refine pm_iload_n dX8_perform_253 rfl ?_
    obtain ⟨r49, h50, h⟩ := ob_some h
    refine dx_cSi (M := M_X8_perform) (Mc := M_X8_combine) (dc := 4) (As := [.ref (b + o0), .int r3, .int r47, .int (-1), .int r1]) (st := []) rg_k0 dX8_perform_254 ml_X8_57 (by decide) (Nat.le_of_ble_eq_true rfl) rfl (k_X8_combine hR hs0 h50) (fun w51 hR52 hk53 => ?_)
    cases h
    exact pm_iret dX8_perform_257 rfl (Nat.le_refl _) (Nat.le_refl _) ⟨rfl, rfl, hR52, hk53⟩
  replace h := it_f t46 h
  by_cases t54 : r1 = 12
  · replace h := it_t t54 h
    refine pm_tableIn (off := 218) (tgt := 258) dX8_perform_40 (by rw [t54]; decide) (by rw [t54]; decide) (by rw [t54]; rfl) (by decide) ?_
    refine pm_aload_n dX8_perform_258 rfl ?_
    refine pm_iload dX8_perform_259 rfl ?_
    refine pm_aload_n dX8_perform_261 rfl ?_
    refine dx_gr (j := o0) (o := (o0 + 12)) hR dX8_perform_262 fl_X8_38 (sp_Run_self hs0) rfl ?_
    refine pm_iload dX8_perform_265 rfl ?_
    obtain ⟨r55, h56, h⟩ := ob_some h
    refine dx_cVp (j := (o0 + 12)) (M := M_X8_perform) (Mc := M_X6_latestOf) (dc := 1) (As := [.int r5]) (st := [.int r3, .ref (b + o0)]) hR dX8_perform_267 ml_X8_42 ⟨TX6, 12, rfl⟩ (sp_Puts_self (sp_Run_puts hs0)) (by decide) (Nat.le_of_ble_eq_true rfl) rfl (k_X6_latestOf hR (sp_Run_puts hs0) h56) ?_
    refine pm_aload_n dX8_perform_270 rfl ?_
    refine dx_gr (j := o0) (o := (o0 + 12)) hR dX8_perform_271 fl_X8_38 (sp_Run_self hs0) rfl ?_
    refine pm_iload dX8_perform_274 rfl ?_
    obtain ⟨r57, h58, h⟩ := ob_some h
    refine dx_cVp (j := (o0 + 12)) (M := M_X8_perform) (Mc := M_X6_latestOf) (dc := 1) (As := [.int r7]) (st := [.int r55, .int r3, .ref (b + o0)]) hR dX8_perform_276 ml_X8_42 ⟨TX6, 12, rfl⟩ (sp_Puts_self (sp_Run_puts hs0)) (by decide) (Nat.le_of_ble_eq_true rfl) rfl (k_X6_latestOf hR (sp_Run_puts hs0) h58) ?_
    refine pm_iload_n dX8_perform_279 rfl ?_
    obtain ⟨r59, h60, h⟩ := ob_some h
    refine dx_cSi (M := M_X8_perform) (Mc := M_X8_combine) (dc := 4) (As := [.ref (b + o0), .int r3, .int r55, .int r57, .int r1]) (st := []) rg_k0 dX8_perform_280 ml_X8_57 (by decide) (Nat.le_of_ble_eq_true rfl) rfl (k_X8_combine hR hs0 h60) (fun w61 hR62 hk63 => ?_)
    cases h
    exact pm_iret dX8_perform_283 rfl (Nat.le_refl _) (Nat.le_refl _) ⟨rfl, rfl, hR62, hk63⟩
  replace h := it_f t54 h
  by_cases t64 : r1 = 13
  · replace h := it_t t64 h
    refine pm_tableIn (off := 244) (tgt := 284) dX8_perform_40 (by rw [t64]; decide) (by rw [t64]; decide) (by rw [t64]; rfl) (by decide) ?_
    refine pm_aload_n dX8_perform_284 rfl ?_
    refine pm_iload dX8_perform_285 rfl ?_
    refine pm_aload_n dX8_perform_287 rfl ?_
    refine dx_gr (j := o0) (o := (o0 + 12)) hR dX8_perform_288 fl_X8_38 (sp_Run_self hs0) rfl ?_
    refine pm_iload dX8_perform_291 rfl ?_
    obtain ⟨r65, h66, h⟩ := ob_some h
    refine dx_cVp (j := (o0 + 12)) (M := M_X8_perform) (Mc := M_X6_latestOf) (dc := 1) (As := [.int r5]) (st := [.int r3, .ref (b + o0)]) hR dX8_perform_293 ml_X8_42 ⟨TX6, 12, rfl⟩ (sp_Puts_self (sp_Run_puts hs0)) (by decide) (Nat.le_of_ble_eq_true rfl) rfl (k_X6_latestOf hR (sp_Run_puts hs0) h66) ?_
    obtain ⟨r67, h68, h⟩ := ob_some h
    refine dx_cSi (M := M_X8_perform) (Mc := M_X8_fromCell) (dc := 4) (As := [.ref (b + o0), .int r3, .int r65]) (st := []) rg_k0 dX8_perform_296 ml_X8_61 (by decide) (Nat.le_of_ble_eq_true rfl) rfl (k_X8_fromCell hR hs0 h68) (fun w69 hR70 hk71 => ?_)
    cases h
    exact pm_iret dX8_perform_299 rfl (Nat.le_refl _) (Nat.le_refl _) ⟨rfl, rfl, hR70, hk71⟩
  replace h := it_f t64 h
  by_cases t72 : r1 = 14
  · replace h := it_t t72 h
    refine pm_tableIn (off := 260) (tgt := 300) dX8_perform_40 (by rw [t72]; decide) (by rw [t72]; decide) (by rw [t72]; rfl) (by decide) ?_
    refine pm_aload_n dX8_perform_300 rfl ?_
    refine pm_aload_n dX8_perform_301 rfl ?_
    refine dx_gr (j := o0) (o := (o0 + 12)) hR dX8_perform_302 fl_X8_38 (sp_Run_self hs0) rfl ?_
    refine pm_iload dX8_perform_305 rfl ?_
    obtain ⟨r73, h74, h⟩ := ob_some h
    refine dx_cVp (j := (o0 + 12)) (M := M_X8_perform) (Mc := M_X6_latestOf) (dc := 1) (As := [.int r3]) (st := [.ref (b + o0)]) hR dX8_perform_307 ml_X8_42 ⟨TX6, 12, rfl⟩ (sp_Puts_self (sp_Run_puts hs0)) (by decide) (Nat.le_of_ble_eq_true rfl) rfl (k_X6_latestOf hR (sp_Run_puts hs0) h74) ?_
    refine pm_aload_n dX8_perform_310 rfl ?_
    refine dx_gr (j := o0) (o := (o0 + 12)) hR dX8_perform_311 fl_X8_38 (sp_Run_self hs0) rfl ?_
    refine pm_iload dX8_perform_314 rfl ?_
    obtain ⟨r75, h76, h⟩ := ob_some h
    refine dx_cVp (j := (o0 + 12)) (M := M_X8_perform) (Mc := M_X6_latestOf) (dc := 1) (As := [.int r5]) (st := [.int r73, .ref (b + o0)]) hR dX8_perform_316 ml_X8_42 ⟨TX6, 12, rfl⟩ (sp_Puts_self (sp_Run_puts hs0)) (by decide) (Nat.le_of_ble_eq_true rfl) rfl (k_X6_latestOf hR (sp_Run_puts hs0) h76) ?_
    obtain ⟨r77, h78, h⟩ := ob_some h
    refine dx_cSi (M := M_X8_perform) (Mc := M_X8_toCell) (dc := 4) (As := [.ref (b + o0), .int r73, .int r75]) (st := []) rg_k0 dX8_perform_319 ml_X8_65 (by decide) (Nat.le_of_ble_eq_true rfl) rfl (k_X8_toCell hR hs0 h78) (fun w79 hR80 hk81 => ?_)
    cases h
    exact pm_iret dX8_perform_322 rfl (Nat.le_refl _) (Nat.le_refl _) ⟨rfl, rfl, hR80, hk81⟩
  replace h := it_f t72 h
  by_cases t82 : r1 = 15
  · replace h := it_t t82 h
    refine pm_tableIn (off := 326) (tgt := 366) dX8_perform_40 (by rw [t82]; decide) (by rw [t82]; decide) (by rw [t82]; rfl) (by decide) ?_
    refine pm_aload_n dX8_perform_366 rfl ?_
    refine pm_iload dX8_perform_367 rfl ?_
    obtain ⟨r83, h84, h⟩ := ob_some h
    refine dx_cVv (j := o0) (M := M_X8_perform) (Mc := M_X7_goOnAt) (dc := 0) (As := [.int r3]) (st := []) hR rg_k0 dX8_perform_369 ml_X8_85 ⟨TX7, 15, rfl⟩ (sp_Run_self hs0) (by decide) (Nat.le_of_ble_eq_true rfl) rfl (k_X7_goOnAt hR hs0 h84) (fun w85 hR86 hk87 => ?_)
    refine pm_iconst (v := 0) dX8_perform_372 (by decide) ?_
    cases h
    exact pm_iret dX8_perform_373 rfl (Nat.le_refl _) (Nat.le_refl _) ⟨rfl, rfl, hR86, hk87⟩
  replace h := it_f t82 h
  by_cases t88 : r1 = 16
  · replace h := it_t t88 h
    refine pm_tableIn (off := 334) (tgt := 374) dX8_perform_40 (by rw [t88]; decide) (by rw [t88]; decide) (by rw [t88]; rfl) (by decide) ?_
    refine pm_aload_n dX8_perform_374 rfl ?_
    refine pm_aload_n dX8_perform_375 rfl ?_
    refine dx_gr (j := o0) (o := (o0 + 12)) hR dX8_perform_376 fl_X8_38 (sp_Run_self hs0) rfl ?_
    refine pm_iload dX8_perform_379 rfl ?_
    obtain ⟨r89, h90, h⟩ := ob_some h
    refine dx_cVp (j := (o0 + 12)) (M := M_X8_perform) (Mc := M_X6_latestOf) (dc := 1) (As := [.int r3]) (st := [.ref (b + o0)]) hR dX8_perform_381 ml_X8_42 ⟨TX6, 12, rfl⟩ (sp_Puts_self (sp_Run_puts hs0)) (by decide) (Nat.le_of_ble_eq_true rfl) rfl (k_X6_latestOf hR (sp_Run_puts hs0) h90) ?_
    refine pm_iload dX8_perform_384 rfl ?_
    obtain ⟨r91, h92, h⟩ := ob_some h
    refine dx_cSi (M := M_X8_perform) (Mc := M_X8_goOnIf) (dc := 1) (As := [.ref (b + o0), .int r89, .int r5]) (st := []) rg_k0 dX8_perform_386 ml_X8_89 (by decide) (Nat.le_of_ble_eq_true rfl) rfl (k_X8_goOnIf hR hs0 h92) (fun w93 hR94 hk95 => ?_)
    cases h
    exact pm_iret dX8_perform_389 rfl (Nat.le_refl _) (Nat.le_refl _) ⟨rfl, rfl, hR94, hk95⟩
  replace h := it_f t88 h
  by_cases t96 : r1 = 17
  · replace h := it_t t96 h
    refine pm_tableIn (off := 350) (tgt := 390) dX8_perform_40 (by rw [t96]; decide) (by rw [t96]; decide) (by rw [t96]; rfl) (by decide) ?_
    refine pm_aload_n dX8_perform_390 rfl ?_
    refine pm_iload dX8_perform_391 rfl ?_
    obtain ⟨r97, h98, h⟩ := ob_some h
    refine dx_cSi (M := M_X8_perform) (Mc := M_X8_goDown) (dc := 3) (As := [.ref (b + o0), .int r3]) (st := []) rg_k0 dX8_perform_393 ml_X8_92 (by decide) (Nat.le_of_ble_eq_true rfl) rfl (k_X8_goDown hR hs0 h98) (fun w99 hR100 hk101 => ?_)
    cases h
    exact pm_iret dX8_perform_396 rfl (Nat.le_refl _) (Nat.le_refl _) ⟨rfl, rfl, hR100, hk101⟩
  replace h := it_f t96 h
  by_cases t102 : r1 = 18
  · replace h := it_t t102 h
    refine pm_tableIn (off := 357) (tgt := 397) dX8_perform_40 (by rw [t102]; decide) (by rw [t102]; decide) (by rw [t102]; rfl) (by decide) ?_
    refine pm_aload_n dX8_perform_397 rfl ?_
    obtain ⟨r103, h104, h⟩ := ob_some h
    refine dx_cSv (M := M_X8_perform) (Mc := M_X8_goUp) (dc := 4) (As := [.ref (b + o0)]) (st := []) rg_k0 dX8_perform_398 ml_X8_96 (by decide) (Nat.le_of_ble_eq_true rfl) rfl (k_X8_goUp hR hs0 h104) (fun w105 hR106 hk107 => ?_)
    refine pm_iconst (v := 0) dX8_perform_401 (by decide) ?_
    cases h
    exact pm_iret dX8_perform_402 rfl (Nat.le_refl _) (Nat.le_refl _) ⟨rfl, rfl, hR106, hk107⟩
  replace h := it_f t102 h
  by_cases t108 : r1 = 19
  · replace h := it_t t108 h
    refine pm_tableIn (off := 283) (tgt := 323) dX8_perform_40 (by rw [t108]; decide) (by rw [t108]; decide) (by rw [t108]; rfl) (by decide) ?_
    refine pm_aload_n dX8_perform_323 rfl ?_
    refine pm_iload dX8_perform_324 rfl ?_
    refine pm_iconst (v := 0) dX8_perform_326 (by decide) ?_
    refine pm_aload_n dX8_perform_327 rfl ?_
    obtain ⟨r109, h110, h⟩ := ob_some h
    refine dx_cVi (j := 6) (M := M_X8_perform) (Mc := M_X4_takeFirst) (dc := 0) (As := []) (st := [.int 0, .int r3, .ref (b + o0)]) hR rg_k0 dX8_perform_328 ml_X8_68 ⟨TX4, 4, rfl⟩ rfl (by decide) (Nat.le_of_ble_eq_true rfl) rfl (k_X4_takeFirst hR h110) (fun w111 hR112 hk113 => ?_)
    obtain ⟨r114, h115, h⟩ := ob_some h
    refine dx_cVv (j := o0) (M := M_X8_perform) (Mc := M_X7_putFromOutside) (dc := 4) (As := [.int r3, .int 0, .int r109.1]) (st := []) hR112 hk113 dX8_perform_331 ml_X8_74 ⟨TX7, 15, rfl⟩ (sp_Run_self hs0) (by decide) (Nat.le_of_ble_eq_true rfl) rfl (k_X7_putFromOutside hR112 hs0 h115) (fun w116 hR117 hk118 => ?_)
    refine pm_iconst (v := 0) dX8_perform_334 (by decide) ?_
    cases h
    exact pm_iret dX8_perform_335 rfl (Nat.le_refl _) (Nat.le_refl _) ⟨rfl, rfl, hR117, hk118⟩
  replace h := it_f t108 h
  by_cases t119 : r1 = 20
  · replace h := it_t t119 h
    refine pm_tableIn (off := 296) (tgt := 336) dX8_perform_40 (by rw [t119]; decide) (by rw [t119]; decide) (by rw [t119]; rfl) (by decide) ?_
    refine pm_aload_n dX8_perform_336 rfl ?_
    refine pm_iload dX8_perform_337 rfl ?_
    refine pm_iconst (v := 1) dX8_perform_339 (by decide) ?_
    refine pm_aload_n dX8_perform_340 rfl ?_
    refine pm_iload dX8_perform_341 rfl ?_
    obtain ⟨r120, h121, h⟩ := ob_some h
    refine dx_cVi (j := 6) (M := M_X8_perform) (Mc := M_X4_draw) (dc := 0) (As := [.int r5]) (st := [.int 1, .int r3, .ref (b + o0)]) hR rg_k0 dX8_perform_343 ml_X8_78 ⟨TX4, 4, rfl⟩ rfl (by decide) (Nat.le_of_ble_eq_true rfl) rfl (k_X4_draw hR h121) (fun w122 hR123 hk124 => ?_)
    obtain ⟨r125, h126, h⟩ := ob_some h
    refine dx_cVv (j := o0) (M := M_X8_perform) (Mc := M_X7_putFromOutside) (dc := 4) (As := [.int r3, .int 1, .int r120.1]) (st := []) hR123 hk124 dX8_perform_346 ml_X8_74 ⟨TX7, 15, rfl⟩ (sp_Run_self hs0) (by decide) (Nat.le_of_ble_eq_true rfl) rfl (k_X7_putFromOutside hR123 hs0 h126) (fun w127 hR128 hk129 => ?_)
    refine pm_iconst (v := 0) dX8_perform_349 (by decide) ?_
    cases h
    exact pm_iret dX8_perform_350 rfl (Nat.le_refl _) (Nat.le_refl _) ⟨rfl, rfl, hR128, hk129⟩
  replace h := it_f t119 h
  by_cases t130 : r1 = 21
  · replace h := it_t t130 h
    refine pm_tableIn (off := 311) (tgt := 351) dX8_perform_40 (by rw [t130]; decide) (by rw [t130]; decide) (by rw [t130]; rfl) (by decide) ?_
    refine pm_aload_n dX8_perform_351 rfl ?_
    refine pm_aload_n dX8_perform_352 rfl ?_
    refine dx_gr (j := o0) (o := (o0 + 12)) hR dX8_perform_353 fl_X8_38 (sp_Run_self hs0) rfl ?_
    refine pm_iload dX8_perform_356 rfl ?_
    obtain ⟨r131, h132, h⟩ := ob_some h
    refine dx_cVp (j := (o0 + 12)) (M := M_X8_perform) (Mc := M_X6_latestOf) (dc := 1) (As := [.int r3]) (st := [.ref (b + o0)]) hR dX8_perform_358 ml_X8_42 ⟨TX6, 12, rfl⟩ (sp_Puts_self (sp_Run_puts hs0)) (by decide) (Nat.le_of_ble_eq_true rfl) rfl (k_X6_latestOf hR (sp_Run_puts hs0) h132) ?_
    obtain ⟨r133, h134, h⟩ := ob_some h
    refine dx_cSv (M := M_X8_perform) (Mc := M_X8_putOut) (dc := 1) (As := [.ref (b + o0), .int r131]) (st := []) rg_k0 dX8_perform_361 ml_X8_81 (by decide) (Nat.le_of_ble_eq_true rfl) rfl (k_X8_putOut hR hs0 h134) (fun w135 hR136 hk137 => ?_)
    refine pm_iconst (v := 0) dX8_perform_364 (by decide) ?_
    cases h
    exact pm_iret dX8_perform_365 rfl (Nat.le_refl _) (Nat.le_refl _) ⟨rfl, rfl, hR136, hk137⟩
  replace h := it_f t130 h
  by_cases t138 : r1 = 22
  · replace h := it_t t138 h
    refine pm_tableIn (off := 145) (tgt := 185) dX8_perform_40 (by rw [t138]; decide) (by rw [t138]; decide) (by rw [t138]; rfl) (by decide) ?_
    refine pm_aload_n dX8_perform_185 rfl ?_
    refine pm_iload dX8_perform_186 rfl ?_
    refine pm_iconst (v := 0) dX8_perform_188 (by decide) ?_
    refine pm_iconst (v := 0) dX8_perform_189 (by decide) ?_
    refine pm_iconst (v := (-1)) dX8_perform_190 (by decide) ?_
    refine pm_iconst (v := (-1)) dX8_perform_191 (by decide) ?_
    obtain ⟨r139, h140, h⟩ := ob_some h
    refine dx_cVv (j := o0) (M := M_X8_perform) (Mc := M_X7_putByStep) (dc := 3) (As := [.int r3, .int 0, .int 0, .int (-1), .int (-1)]) (st := []) hR rg_k0 dX8_perform_192 ml_X8_34 ⟨TX7, 15, rfl⟩ (sp_Run_self hs0) (by decide) (Nat.le_of_ble_eq_true rfl) rfl (k_X7_putByStep hR hs0 h140) (fun w141 hR142 hk143 => ?_)
    refine pm_iconst (v := 0) dX8_perform_195 (by decide) ?_
    cases h
    exact pm_iret dX8_perform_196 rfl (Nat.le_refl _) (Nat.le_refl _) ⟨rfl, rfl, hR142, hk143⟩
  replace h := it_f t138 h
  by_cases t144 : r1 = 4
  · refine pm_tableIn (off := 365) (tgt := 405) dX8_perform_40 (by rw [t144]; decide) (by rw [t144]; decide) (by rw [t144]; rfl) (by decide) ?_
    refine pm_lw (L' := [some (.ref (b + o0)), none, none, some (.int r1), some (.int r3), some (.int r5), some (.int r7)]) ⟨Or.inr rfl, Or.inl rfl, Or.inl rfl, Or.inr rfl, Or.inr rfl, Or.inr rfl, Or.inr rfl, trivial⟩ ?_
    exact k_X8_perform_j405 hR rg_k0 hs0 h
  by_cases t154 : r1 = 5
  · refine pm_tableIn (off := 365) (tgt := 405) dX8_perform_40 (by rw [t154]; decide) (by rw [t154]; decide) (by rw [t154]; rfl) (by decide) ?_
    refine pm_lw (L' := [some (.ref (b + o0)), none, none, some (.int r1), some (.int r3), some (.int r5), some (.int r7)]) ⟨Or.inr rfl, Or.inl rfl, Or.inl rfl, Or.inr rfl, Or.inr rfl, Or.inr rfl, Or.inr rfl, trivial⟩ ?_
    exact k_X8_perform_j405 hR rg_k0 hs0 h
  by_cases t155 : r1 = 6
  · refine pm_tableIn (off := 365) (tgt := 405) dX8_perform_40 (by rw [t155]; decide) (by rw [t155]; decide) (by rw [t155]; rfl) (by decide) ?_
    refine pm_lw (L' := [some (.ref (b + o0)), none, none, some (.int r1), some (.int r3), some (.int r5), some (.int r7)]) ⟨Or.inr rfl, Or.inl rfl, Or.inl rfl, Or.inr rfl, Or.inr rfl, Or.inr rfl, Or.inr rfl, trivial⟩ ?_
    exact k_X8_perform_j405 hR rg_k0 hs0 h
  by_cases t156 : r1 = 7
  · refine pm_tableIn (off := 365) (tgt := 405) dX8_perform_40 (by rw [t156]; decide) (by rw [t156]; decide) (by rw [t156]; rfl) (by decide) ?_
    refine pm_lw (L' := [some (.ref (b + o0)), none, none, some (.int r1), some (.int r3), some (.int r5), some (.int r7)]) ⟨Or.inr rfl, Or.inl rfl, Or.inl rfl, Or.inr rfl, Or.inr rfl, Or.inr rfl, Or.inr rfl, trivial⟩ ?_
    exact k_X8_perform_j405 hR rg_k0 hs0 h
  by_cases t157 : r1 = 8
  · refine pm_tableIn (off := 365) (tgt := 405) dX8_perform_40 (by rw [t157]; decide) (by rw [t157]; decide) (by rw [t157]; rfl) (by decide) ?_
    refine pm_lw (L' := [some (.ref (b + o0)), none, none, some (.int r1), some (.int r3), some (.int r5), some (.int r7)]) ⟨Or.inr rfl, Or.inl rfl, Or.inl rfl, Or.inr rfl, Or.inr rfl, Or.inr rfl, Or.inr rfl, trivial⟩ ?_
    exact k_X8_perform_j405 hR rg_k0 hs0 h
  by_cases t158 : r1 = 9
  · refine pm_tableIn (off := 365) (tgt := 405) dX8_perform_40 (by rw [t158]; decide) (by rw [t158]; decide) (by rw [t158]; rfl) (by decide) ?_
    refine pm_lw (L' := [some (.ref (b + o0)), none, none, some (.int r1), some (.int r3), some (.int r5), some (.int r7)]) ⟨Or.inr rfl, Or.inl rfl, Or.inl rfl, Or.inr rfl, Or.inr rfl, Or.inr rfl, Or.inr rfl, trivial⟩ ?_
    exact k_X8_perform_j405 hR rg_k0 hs0 h
  refine pm_tableOut (tgt := 405) dX8_perform_40 (by have h0 := lv_neT t9 (show ((-1) : Int32).toInt = -1 from by decide); have h1 := lv_neT t10 (show (0 : Int32).toInt = 0 from by decide); have h2 := lv_neT t16 (show (1 : Int32).toInt = 1 from by decide); have h3 := lv_neT t22 (show (2 : Int32).toInt = 2 from by decide); have h4 := lv_neT t28 (show (3 : Int32).toInt = 3 from by decide); have h5 := lv_neT t36 (show (10 : Int32).toInt = 10 from by decide); have h6 := lv_neT t46 (show (11 : Int32).toInt = 11 from by decide); have h7 := lv_neT t54 (show (12 : Int32).toInt = 12 from by decide); have h8 := lv_neT t64 (show (13 : Int32).toInt = 13 from by decide); have h9 := lv_neT t72 (show (14 : Int32).toInt = 14 from by decide); have h10 := lv_neT t82 (show (15 : Int32).toInt = 15 from by decide); have h11 := lv_neT t88 (show (16 : Int32).toInt = 16 from by decide); have h12 := lv_neT t96 (show (17 : Int32).toInt = 17 from by decide); have h13 := lv_neT t102 (show (18 : Int32).toInt = 18 from by decide); have h14 := lv_neT t108 (show (19 : Int32).toInt = 19 from by decide); have h15 := lv_neT t119 (show (20 : Int32).toInt = 20 from by decide); have h16 := lv_neT t130 (show (21 : Int32).toInt = 21 from by decide); have h17 := lv_neT t138 (show (22 : Int32).toInt = 22 from by decide); have h18 := lv_neT t144 (show (4 : Int32).toInt = 4 from by decide); have h19 := lv_neT t154 (show (5 : Int32).toInt = 5 from by decide); have h20 := lv_neT t155 (show (6 : Int32).toInt = 6 from by decide); have h21 := lv_neT t156 (show (7 : Int32).toInt = 7 from by decide); have h22 := lv_neT t157 (show (8 : Int32).toInt = 8 from by decide); have h23 := lv_neT t158 (show (9 : Int32).toInt = 9 from by decide); omega) (by decide) ?_
  refine pm_lw (L' := [some (.ref (b + o0)), none, none, some (.int r1), some (.int r3), some (.int r5), some (.int r7)]) ⟨Or.inr rfl, Or.inl rfl, Or.inl rfl, Or.inr rfl, Or.inr rfl, Or.inr rfl, Or.inr rfl, trivial⟩ ?_
  exact k_X8_perform_j405 hR rg_k0 hs0 h
