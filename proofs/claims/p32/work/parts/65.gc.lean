theorem dX6_mark_0 : decode cX6_mark 0 = .ok (.aload_n 0, 1) := by decide +kernel
theorem dX6_mark_1 : decode cX6_mark 1 = .ok (.iload_n 2, 1) := by decide +kernel
theorem dX6_mark_2 : decode cX6_mark 2 = .ok (.invokevirtual 59, 3) := by decide +kernel
theorem dX6_mark_5 : decode cX6_mark 5 = .ok (.ifCond .eq 13, 3) := by decide +kernel
theorem dX6_mark_8 : decode cX6_mark 8 = .ok (.iload_n 2, 1) := by decide +kernel
theorem dX6_mark_9 : decode cX6_mark 9 = .ok (.aload_n 1, 1) := by decide +kernel
theorem dX6_mark_10 : decode cX6_mark 10 = .ok (.arraylength, 1) := by decide +kernel
theorem dX6_mark_11 : decode cX6_mark 11 = .ok (.if_icmp .ge 7, 3) := by decide +kernel
theorem dX6_mark_14 : decode cX6_mark 14 = .ok (.aload_n 1, 1) := by decide +kernel
theorem dX6_mark_15 : decode cX6_mark 15 = .ok (.iload_n 2, 1) := by decide +kernel
theorem dX6_mark_16 : decode cX6_mark 16 = .ok (.iconst 1, 1) := by decide +kernel
theorem dX6_mark_17 : decode cX6_mark 17 = .ok (.bastore, 1) := by decide +kernel
theorem dX6_mark_18 : decode cX6_mark 18 = .ok (.return_, 1) := by decide +kernel
theorem dX6_markAllAbove_0 : decode cX6_markAllAbove 0 = .ok (.aload_n 0, 1) := by decide +kernel
theorem dX6_markAllAbove_1 : decode cX6_markAllAbove 1 = .ok (.aload_n 2, 1) := by decide +kernel
theorem dX6_markAllAbove_2 : decode cX6_markAllAbove 2 = .ok (.invokevirtual 89, 3) := by decide +kernel
theorem dX6_markAllAbove_5 : decode cX6_markAllAbove 5 = .ok (.iconst 0, 1) := by decide +kernel
theorem dX6_markAllAbove_6 : decode cX6_markAllAbove 6 = .ok (.istore_n 3, 1) := by decide +kernel
theorem dX6_markAllAbove_7 : decode cX6_markAllAbove 7 = .ok (.iload_n 3, 1) := by decide +kernel
theorem dX6_markAllAbove_8 : decode cX6_markAllAbove 8 = .ok (.aload_n 0, 1) := by decide +kernel
theorem dX6_markAllAbove_9 : decode cX6_markAllAbove 9 = .ok (.getfield 45, 3) := by decide +kernel
theorem dX6_markAllAbove_12 : decode cX6_markAllAbove 12 = .ok (.if_icmp .ge 58, 3) := by decide +kernel
theorem dX6_markAllAbove_15 : decode cX6_markAllAbove 15 = .ok (.iload_n 3, 1) := by decide +kernel
theorem dX6_markAllAbove_16 : decode cX6_markAllAbove 16 = .ok (.sipush 3800, 3) := by decide +kernel
theorem dX6_markAllAbove_19 : decode cX6_markAllAbove 19 = .ok (.if_icmp .ge 51, 3) := by decide +kernel
theorem dX6_markAllAbove_22 : decode cX6_markAllAbove 22 = .ok (.aload_n 0, 1) := by decide +kernel
theorem dX6_markAllAbove_23 : decode cX6_markAllAbove 23 = .ok (.getfield 33, 3) := by decide +kernel
theorem dX6_markAllAbove_26 : decode cX6_markAllAbove 26 = .ok (.iload_n 3, 1) := by decide +kernel
theorem dX6_markAllAbove_27 : decode cX6_markAllAbove 27 = .ok (.iaload, 1) := by decide +kernel
theorem dX6_markAllAbove_28 : decode cX6_markAllAbove 28 = .ok (.iload_n 1, 1) := by decide +kernel
theorem dX6_markAllAbove_29 : decode cX6_markAllAbove 29 = .ok (.if_icmp .eq 29, 3) := by decide +kernel
theorem dX6_markAllAbove_32 : decode cX6_markAllAbove 32 = .ok (.aload_n 2, 1) := by decide +kernel
theorem dX6_markAllAbove_33 : decode cX6_markAllAbove 33 = .ok (.aload_n 0, 1) := by decide +kernel
theorem dX6_markAllAbove_34 : decode cX6_markAllAbove 34 = .ok (.getfield 36, 3) := by decide +kernel
theorem dX6_markAllAbove_37 : decode cX6_markAllAbove 37 = .ok (.iload_n 3, 1) := by decide +kernel
theorem dX6_markAllAbove_38 : decode cX6_markAllAbove 38 = .ok (.iaload, 1) := by decide +kernel
theorem dX6_markAllAbove_39 : decode cX6_markAllAbove 39 = .ok (.invokestatic 103, 3) := by decide +kernel
theorem dX6_markAllAbove_42 : decode cX6_markAllAbove 42 = .ok (.ifCond .ne 16, 3) := by decide +kernel
theorem dX6_markAllAbove_45 : decode cX6_markAllAbove 45 = .ok (.aload_n 2, 1) := by decide +kernel
theorem dX6_markAllAbove_46 : decode cX6_markAllAbove 46 = .ok (.aload_n 0, 1) := by decide +kernel
theorem dX6_markAllAbove_47 : decode cX6_markAllAbove 47 = .ok (.getfield 39, 3) := by decide +kernel
theorem dX6_markAllAbove_50 : decode cX6_markAllAbove 50 = .ok (.iload_n 3, 1) := by decide +kernel
theorem dX6_markAllAbove_51 : decode cX6_markAllAbove 51 = .ok (.iaload, 1) := by decide +kernel
theorem dX6_markAllAbove_52 : decode cX6_markAllAbove 52 = .ok (.invokestatic 103, 3) := by decide +kernel
theorem dX6_markAllAbove_55 : decode cX6_markAllAbove 55 = .ok (.ifCond .eq 9, 3) := by decide +kernel
theorem dX6_markAllAbove_58 : decode cX6_markAllAbove 58 = .ok (.aload_n 0, 1) := by decide +kernel
theorem dX6_markAllAbove_59 : decode cX6_markAllAbove 59 = .ok (.aload_n 2, 1) := by decide +kernel
theorem dX6_markAllAbove_60 : decode cX6_markAllAbove 60 = .ok (.iload_n 3, 1) := by decide +kernel
theorem dX6_markAllAbove_61 : decode cX6_markAllAbove 61 = .ok (.invokevirtual 93, 3) := by decide +kernel
theorem dX6_markAllAbove_64 : decode cX6_markAllAbove 64 = .ok (.iinc 3 1, 3) := by decide +kernel
theorem dX6_markAllAbove_67 : decode cX6_markAllAbove 67 = .ok (.goto (-60), 3) := by decide +kernel
theorem dX6_markAllAbove_70 : decode cX6_markAllAbove 70 = .ok (.return_, 1) := by decide +kernel
theorem dX6_markAllBelow_0 : decode cX6_markAllBelow 0 = .ok (.aload_n 0, 1) := by decide +kernel
theorem dX6_markAllBelow_1 : decode cX6_markAllBelow 1 = .ok (.aload_n 2, 1) := by decide +kernel
theorem dX6_markAllBelow_2 : decode cX6_markAllBelow 2 = .ok (.invokevirtual 89, 3) := by decide +kernel
theorem dX6_markAllBelow_5 : decode cX6_markAllBelow 5 = .ok (.aload_n 0, 1) := by decide +kernel
theorem dX6_markAllBelow_6 : decode cX6_markAllBelow 6 = .ok (.aload_n 2, 1) := by decide +kernel
theorem dX6_markAllBelow_7 : decode cX6_markAllBelow 7 = .ok (.iload_n 1, 1) := by decide +kernel
theorem dX6_markAllBelow_8 : decode cX6_markAllBelow 8 = .ok (.invokevirtual 93, 3) := by decide +kernel
theorem dX6_markAllBelow_11 : decode cX6_markAllBelow 11 = .ok (.iload_n 1, 1) := by decide +kernel
theorem dX6_markAllBelow_12 : decode cX6_markAllBelow 12 = .ok (.aload_n 0, 1) := by decide +kernel
theorem dX6_markAllBelow_13 : decode cX6_markAllBelow 13 = .ok (.getfield 45, 3) := by decide +kernel
theorem dX6_markAllBelow_16 : decode cX6_markAllBelow 16 = .ok (.iconst 1, 1) := by decide +kernel
theorem dX6_markAllBelow_17 : decode cX6_markAllBelow 17 = .ok (.isub, 1) := by decide +kernel
theorem dX6_markAllBelow_18 : decode cX6_markAllBelow 18 = .ok (.invokestatic 97, 3) := by decide +kernel
theorem dX6_markAllBelow_21 : decode cX6_markAllBelow 21 = .ok (.istore_n 3, 1) := by decide +kernel
theorem dX6_markAllBelow_22 : decode cX6_markAllBelow 22 = .ok (.iload_n 3, 1) := by decide +kernel
theorem dX6_markAllBelow_23 : decode cX6_markAllBelow 23 = .ok (.ifCond .lt 39, 3) := by decide +kernel
theorem dX6_markAllBelow_26 : decode cX6_markAllBelow 26 = .ok (.aload_n 2, 1) := by decide +kernel
theorem dX6_markAllBelow_27 : decode cX6_markAllBelow 27 = .ok (.iload_n 3, 1) := by decide +kernel
theorem dX6_markAllBelow_28 : decode cX6_markAllBelow 28 = .ok (.invokestatic 103, 3) := by decide +kernel
theorem dX6_markAllBelow_31 : decode cX6_markAllBelow 31 = .ok (.ifCond .eq 25, 3) := by decide +kernel
theorem dX6_markAllBelow_34 : decode cX6_markAllBelow 34 = .ok (.aload_n 0, 1) := by decide +kernel
theorem dX6_markAllBelow_35 : decode cX6_markAllBelow 35 = .ok (.aload_n 2, 1) := by decide +kernel
theorem dX6_markAllBelow_36 : decode cX6_markAllBelow 36 = .ok (.aload_n 0, 1) := by decide +kernel
theorem dX6_markAllBelow_37 : decode cX6_markAllBelow 37 = .ok (.getfield 36, 3) := by decide +kernel
theorem dX6_markAllBelow_40 : decode cX6_markAllBelow 40 = .ok (.iload_n 3, 1) := by decide +kernel
theorem dX6_markAllBelow_41 : decode cX6_markAllBelow 41 = .ok (.iaload, 1) := by decide +kernel
theorem dX6_markAllBelow_42 : decode cX6_markAllBelow 42 = .ok (.invokevirtual 93, 3) := by decide +kernel
theorem dX6_markAllBelow_45 : decode cX6_markAllBelow 45 = .ok (.aload_n 0, 1) := by decide +kernel
theorem dX6_markAllBelow_46 : decode cX6_markAllBelow 46 = .ok (.aload_n 2, 1) := by decide +kernel
theorem dX6_markAllBelow_47 : decode cX6_markAllBelow 47 = .ok (.aload_n 0, 1) := by decide +kernel
theorem dX6_markAllBelow_48 : decode cX6_markAllBelow 48 = .ok (.getfield 39, 3) := by decide +kernel
theorem dX6_markAllBelow_51 : decode cX6_markAllBelow 51 = .ok (.iload_n 3, 1) := by decide +kernel
theorem dX6_markAllBelow_52 : decode cX6_markAllBelow 52 = .ok (.iaload, 1) := by decide +kernel
theorem dX6_markAllBelow_53 : decode cX6_markAllBelow 53 = .ok (.invokevirtual 93, 3) := by decide +kernel
theorem dX6_markAllBelow_56 : decode cX6_markAllBelow 56 = .ok (.iinc 3 (-1), 3) := by decide +kernel
theorem dX6_markAllBelow_59 : decode cX6_markAllBelow 59 = .ok (.goto (-37), 3) := by decide +kernel
theorem dX6_markAllBelow_62 : decode cX6_markAllBelow 62 = .ok (.return_, 1) := by decide +kernel
theorem dX6_markedStep_0 : decode cX6_markedStep 0 = .ok (.iconst 0, 1) := by decide +kernel
theorem dX6_markedStep_1 : decode cX6_markedStep 1 = .ok (.istore_n 3, 1) := by decide +kernel
theorem dX6_markedStep_2 : decode cX6_markedStep 2 = .ok (.iconst 0, 1) := by decide +kernel
theorem dX6_markedStep_3 : decode cX6_markedStep 3 = .ok (.istore 4, 2) := by decide +kernel
theorem dX6_markedStep_5 : decode cX6_markedStep 5 = .ok (.iload 4, 2) := by decide +kernel
theorem dX6_markedStep_7 : decode cX6_markedStep 7 = .ok (.aload_n 0, 1) := by decide +kernel
theorem dX6_markedStep_8 : decode cX6_markedStep 8 = .ok (.getfield 45, 3) := by decide +kernel
theorem dX6_markedStep_11 : decode cX6_markedStep 11 = .ok (.if_icmp .ge 53, 3) := by decide +kernel
theorem dX6_markedStep_14 : decode cX6_markedStep 14 = .ok (.iload 4, 2) := by decide +kernel
theorem dX6_markedStep_16 : decode cX6_markedStep 16 = .ok (.sipush 3800, 3) := by decide +kernel
theorem dX6_markedStep_19 : decode cX6_markedStep 19 = .ok (.if_icmp .ge 45, 3) := by decide +kernel
theorem dX6_markedStep_22 : decode cX6_markedStep 22 = .ok (.aload_n 2, 1) := by decide +kernel
theorem dX6_markedStep_23 : decode cX6_markedStep 23 = .ok (.iload 4, 2) := by decide +kernel
theorem dX6_markedStep_25 : decode cX6_markedStep 25 = .ok (.invokestatic 103, 3) := by decide +kernel
theorem dX6_markedStep_28 : decode cX6_markedStep 28 = .ok (.ifCond .eq 30, 3) := by decide +kernel
theorem dX6_markedStep_31 : decode cX6_markedStep 31 = .ok (.aload_n 0, 1) := by decide +kernel
theorem dX6_markedStep_32 : decode cX6_markedStep 32 = .ok (.getfield 30, 3) := by decide +kernel
theorem dX6_markedStep_35 : decode cX6_markedStep 35 = .ok (.iload 4, 2) := by decide +kernel
theorem dX6_markedStep_37 : decode cX6_markedStep 37 = .ok (.iaload, 1) := by decide +kernel
theorem dX6_markedStep_38 : decode cX6_markedStep 38 = .ok (.iconst (-1), 1) := by decide +kernel
theorem dX6_markedStep_39 : decode cX6_markedStep 39 = .ok (.if_icmp .eq 19, 3) := by decide +kernel
theorem dX6_markedStep_42 : decode cX6_markedStep 42 = .ok (.iload_n 3, 1) := by decide +kernel
theorem dX6_markedStep_43 : decode cX6_markedStep 43 = .ok (.iload_n 1, 1) := by decide +kernel
theorem dX6_markedStep_44 : decode cX6_markedStep 44 = .ok (.if_icmp .ne 11, 3) := by decide +kernel
theorem dX6_markedStep_47 : decode cX6_markedStep 47 = .ok (.aload_n 0, 1) := by decide +kernel
theorem dX6_markedStep_48 : decode cX6_markedStep 48 = .ok (.getfield 30, 3) := by decide +kernel
theorem dX6_markedStep_51 : decode cX6_markedStep 51 = .ok (.iload 4, 2) := by decide +kernel
theorem dX6_markedStep_53 : decode cX6_markedStep 53 = .ok (.iaload, 1) := by decide +kernel
theorem dX6_markedStep_54 : decode cX6_markedStep 54 = .ok (.ireturn, 1) := by decide +kernel
theorem dX6_markedStep_55 : decode cX6_markedStep 55 = .ok (.iinc 3 1, 3) := by decide +kernel
theorem dX6_markedStep_58 : decode cX6_markedStep 58 = .ok (.iinc 4 1, 3) := by decide +kernel
theorem dX6_markedStep_61 : decode cX6_markedStep 61 = .ok (.goto (-56), 3) := by decide +kernel
theorem dX6_markedStep_64 : decode cX6_markedStep 64 = .ok (.iload_n 1, 1) := by decide +kernel
theorem dX6_markedStep_65 : decode cX6_markedStep 65 = .ok (.iconst (-1), 1) := by decide +kernel
theorem dX6_markedStep_66 : decode cX6_markedStep 66 = .ok (.if_icmp .ne 7, 3) := by decide +kernel
theorem dX6_markedStep_69 : decode cX6_markedStep 69 = .ok (.iload_n 3, 1) := by decide +kernel
theorem dX6_markedStep_70 : decode cX6_markedStep 70 = .ok (.goto 4, 3) := by decide +kernel
theorem dX6_markedStep_73 : decode cX6_markedStep 73 = .ok (.iconst (-1), 1) := by decide +kernel
theorem dX6_markedStep_74 : decode cX6_markedStep 74 = .ok (.ireturn, 1) := by decide +kernel
theorem dX7_canStep_0 : decode cX7_canStep 0 = .ok (.aload_n 0, 1) := by decide +kernel
theorem dX7_canStep_1 : decode cX7_canStep 1 = .ok (.getfield 59, 3) := by decide +kernel
theorem dX7_canStep_4 : decode cX7_canStep 4 = .ok (.sipush 3000, 3) := by decide +kernel
theorem dX7_canStep_7 : decode cX7_canStep 7 = .ok (.if_icmp .ge 15, 3) := by decide +kernel
theorem dX7_canStep_10 : decode cX7_canStep 10 = .ok (.aload_n 0, 1) := by decide +kernel
theorem dX7_canStep_11 : decode cX7_canStep 11 = .ok (.aload_n 1, 1) := by decide +kernel
theorem dX7_canStep_12 : decode cX7_canStep 12 = .ok (.invokevirtual 136, 3) := by decide +kernel
theorem dX7_canStep_15 : decode cX7_canStep 15 = .ok (.ifCond .ne 7, 3) := by decide +kernel
theorem dX7_canStep_18 : decode cX7_canStep 18 = .ok (.iconst 1, 1) := by decide +kernel
theorem dX7_canStep_19 : decode cX7_canStep 19 = .ok (.goto 4, 3) := by decide +kernel
theorem dX7_canStep_22 : decode cX7_canStep 22 = .ok (.iconst 0, 1) := by decide +kernel
theorem dX7_canStep_23 : decode cX7_canStep 23 = .ok (.ireturn, 1) := by decide +kernel
theorem dX7_checkAt_0 : decode cX7_checkAt 0 = .ok (.aload_n 0, 1) := by decide +kernel
theorem dX7_checkAt_1 : decode cX7_checkAt 1 = .ok (.iload_n 1, 1) := by decide +kernel
theorem dX7_checkAt_2 : decode cX7_checkAt 2 = .ok (.invokevirtual 109, 3) := by decide +kernel
theorem dX7_checkAt_5 : decode cX7_checkAt 5 = .ok (.ifCond .eq 12, 3) := by decide +kernel
theorem dX7_checkAt_8 : decode cX7_checkAt 8 = .ok (.aload_n 0, 1) := by decide +kernel
theorem dX7_checkAt_9 : decode cX7_checkAt 9 = .ok (.getfield 53, 3) := by decide +kernel
theorem dX7_checkAt_12 : decode cX7_checkAt 12 = .ok (.iload_n 1, 1) := by decide +kernel
theorem dX7_checkAt_13 : decode cX7_checkAt 13 = .ok (.iaload, 1) := by decide +kernel
theorem dX7_checkAt_14 : decode cX7_checkAt 14 = .ok (.goto 4, 3) := by decide +kernel
theorem dX7_checkAt_17 : decode cX7_checkAt 17 = .ok (.iconst 0, 1) := by decide +kernel
theorem dX7_checkAt_18 : decode cX7_checkAt 18 = .ok (.ireturn, 1) := by decide +kernel
theorem dX7_outsAt_0 : decode cX7_outsAt 0 = .ok (.aload_n 0, 1) := by decide +kernel
theorem dX7_outsAt_1 : decode cX7_outsAt 1 = .ok (.iload_n 1, 1) := by decide +kernel
theorem dX7_outsAt_2 : decode cX7_outsAt 2 = .ok (.invokevirtual 109, 3) := by decide +kernel
theorem dX7_outsAt_5 : decode cX7_outsAt 5 = .ok (.ifCond .eq 12, 3) := by decide +kernel
theorem dX7_outsAt_8 : decode cX7_outsAt 8 = .ok (.aload_n 0, 1) := by decide +kernel
theorem dX7_outsAt_9 : decode cX7_outsAt 9 = .ok (.getfield 50, 3) := by decide +kernel
theorem dX7_outsAt_12 : decode cX7_outsAt 12 = .ok (.iload_n 1, 1) := by decide +kernel
theorem dX7_outsAt_13 : decode cX7_outsAt 13 = .ok (.iaload, 1) := by decide +kernel
theorem dX7_outsAt_14 : decode cX7_outsAt 14 = .ok (.goto 4, 3) := by decide +kernel
theorem dX7_outsAt_17 : decode cX7_outsAt 17 = .ok (.iconst 0, 1) := by decide +kernel
theorem dX7_outsAt_18 : decode cX7_outsAt 18 = .ok (.ireturn, 1) := by decide +kernel
theorem dX7_putByStep_0 : decode cX7_putByStep 0 = .ok (.aload_n 0, 1) := by decide +kernel
theorem dX7_putByStep_1 : decode cX7_putByStep 1 = .ok (.getfield 28, 3) := by decide +kernel
theorem dX7_putByStep_4 : decode cX7_putByStep 4 = .ok (.aload_n 0, 1) := by decide +kernel
theorem dX7_putByStep_5 : decode cX7_putByStep 5 = .ok (.getfield 59, 3) := by decide +kernel
theorem dX7_putByStep_8 : decode cX7_putByStep 8 = .ok (.iconst 1, 1) := by decide +kernel
theorem dX7_putByStep_9 : decode cX7_putByStep 9 = .ok (.iadd, 1) := by decide +kernel
theorem dX7_putByStep_10 : decode cX7_putByStep 10 = .ok (.iload_n 1, 1) := by decide +kernel
theorem dX7_putByStep_11 : decode cX7_putByStep 11 = .ok (.iload_n 2, 1) := by decide +kernel
theorem dX7_putByStep_12 : decode cX7_putByStep 12 = .ok (.iload_n 3, 1) := by decide +kernel
theorem dX7_putByStep_13 : decode cX7_putByStep 13 = .ok (.invokevirtual 160, 3) := by decide +kernel
theorem dX7_putByStep_16 : decode cX7_putByStep 16 = .ok (.istore 6, 2) := by decide +kernel
theorem dX7_putByStep_18 : decode cX7_putByStep 18 = .ok (.aload_n 0, 1) := by decide +kernel
theorem dX7_putByStep_19 : decode cX7_putByStep 19 = .ok (.getfield 28, 3) := by decide +kernel
theorem dX7_putByStep_22 : decode cX7_putByStep 22 = .ok (.aload_n 0, 1) := by decide +kernel
theorem dX7_putByStep_23 : decode cX7_putByStep 23 = .ok (.getfield 59, 3) := by decide +kernel
theorem dX7_putByStep_26 : decode cX7_putByStep 26 = .ok (.iconst (-1), 1) := by decide +kernel
theorem dX7_putByStep_27 : decode cX7_putByStep 27 = .ok (.iload 4, 2) := by decide +kernel
theorem dX7_putByStep_29 : decode cX7_putByStep 29 = .ok (.iload 5, 2) := by decide +kernel
theorem dX7_putByStep_31 : decode cX7_putByStep 31 = .ok (.invokevirtual 164, 3) := by decide +kernel
theorem dX7_putByStep_34 : decode cX7_putByStep 34 = .ok (.aload_n 0, 1) := by decide +kernel
theorem dX7_putByStep_35 : decode cX7_putByStep 35 = .ok (.iload 6, 2) := by decide +kernel
theorem dX7_putByStep_37 : decode cX7_putByStep 37 = .ok (.ifCond .eq 7, 3) := by decide +kernel
theorem dX7_putByStep_40 : decode cX7_putByStep 40 = .ok (.iload_n 1, 1) := by decide +kernel
theorem dX7_putByStep_41 : decode cX7_putByStep 41 = .ok (.goto 4, 3) := by decide +kernel
theorem dX7_putByStep_44 : decode cX7_putByStep 44 = .ok (.iconst (-1), 1) := by decide +kernel
theorem dX7_putByStep_45 : decode cX7_putByStep 45 = .ok (.putfield 66, 3) := by decide +kernel
theorem dX7_putByStep_48 : decode cX7_putByStep 48 = .ok (.return_, 1) := by decide +kernel
theorem dX7_stackSizeAt_0 : decode cX7_stackSizeAt 0 = .ok (.iconst 0, 1) := by decide +kernel
theorem dX7_stackSizeAt_1 : decode cX7_stackSizeAt 1 = .ok (.istore_n 2, 1) := by decide +kernel
theorem dX7_stackSizeAt_2 : decode cX7_stackSizeAt 2 = .ok (.aload_n 0, 1) := by decide +kernel
theorem dX7_stackSizeAt_3 : decode cX7_stackSizeAt 3 = .ok (.iload_n 1, 1) := by decide +kernel
theorem dX7_stackSizeAt_4 : decode cX7_stackSizeAt 4 = .ok (.invokevirtual 113, 3) := by decide +kernel
theorem dX7_stackSizeAt_7 : decode cX7_stackSizeAt 7 = .ok (.istore_n 3, 1) := by decide +kernel
theorem dX7_stackSizeAt_8 : decode cX7_stackSizeAt 8 = .ok (.iload_n 3, 1) := by decide +kernel
theorem dX7_stackSizeAt_9 : decode cX7_stackSizeAt 9 = .ok (.iconst (-1), 1) := by decide +kernel
theorem dX7_stackSizeAt_10 : decode cX7_stackSizeAt 10 = .ok (.if_icmp .eq 21, 3) := by decide +kernel
theorem dX7_stackSizeAt_13 : decode cX7_stackSizeAt 13 = .ok (.iload_n 2, 1) := by decide +kernel
theorem dX7_stackSizeAt_14 : decode cX7_stackSizeAt 14 = .ok (.bipush 8, 2) := by decide +kernel
theorem dX7_stackSizeAt_16 : decode cX7_stackSizeAt 16 = .ok (.if_icmp .ge 15, 3) := by decide +kernel
theorem dX7_stackSizeAt_19 : decode cX7_stackSizeAt 19 = .ok (.iinc 2 1, 3) := by decide +kernel
theorem dX7_stackSizeAt_22 : decode cX7_stackSizeAt 22 = .ok (.aload_n 0, 1) := by decide +kernel
theorem dX7_stackSizeAt_23 : decode cX7_stackSizeAt 23 = .ok (.iload_n 3, 1) := by decide +kernel
theorem dX7_stackSizeAt_24 : decode cX7_stackSizeAt 24 = .ok (.invokevirtual 113, 3) := by decide +kernel
theorem dX7_stackSizeAt_27 : decode cX7_stackSizeAt 27 = .ok (.istore_n 3, 1) := by decide +kernel
theorem dX7_stackSizeAt_28 : decode cX7_stackSizeAt 28 = .ok (.goto (-20), 3) := by decide +kernel
theorem dX7_stackSizeAt_31 : decode cX7_stackSizeAt 31 = .ok (.iload_n 2, 1) := by decide +kernel
theorem dX7_stackSizeAt_32 : decode cX7_stackSizeAt 32 = .ok (.ireturn, 1) := by decide +kernel
theorem dX7_stackedAt_0 : decode cX7_stackedAt 0 = .ok (.aload_n 0, 1) := by decide +kernel
theorem dX7_stackedAt_1 : decode cX7_stackedAt 1 = .ok (.iload_n 1, 1) := by decide +kernel
theorem dX7_stackedAt_2 : decode cX7_stackedAt 2 = .ok (.invokevirtual 117, 3) := by decide +kernel
theorem dX7_stackedAt_5 : decode cX7_stackedAt 5 = .ok (.istore_n 3, 1) := by decide +kernel
theorem dX7_stackedAt_6 : decode cX7_stackedAt 6 = .ok (.iload_n 2, 1) := by decide +kernel
theorem dX7_stackedAt_7 : decode cX7_stackedAt 7 = .ok (.ifCond .lt 8, 3) := by decide +kernel
theorem dX7_stackedAt_10 : decode cX7_stackedAt 10 = .ok (.iload_n 2, 1) := by decide +kernel
theorem dX7_stackedAt_11 : decode cX7_stackedAt 11 = .ok (.iload_n 3, 1) := by decide +kernel
theorem dX7_stackedAt_12 : decode cX7_stackedAt 12 = .ok (.if_icmp .lt 6, 3) := by decide +kernel
theorem dX7_stackedAt_15 : decode cX7_stackedAt 15 = .ok (.ldc 120, 2) := by decide +kernel
theorem dX7_stackedAt_17 : decode cX7_stackedAt 17 = .ok (.ireturn, 1) := by decide +kernel
theorem dX7_stackedAt_18 : decode cX7_stackedAt 18 = .ok (.aload_n 0, 1) := by decide +kernel
theorem dX7_stackedAt_19 : decode cX7_stackedAt 19 = .ok (.iload_n 1, 1) := by decide +kernel
theorem dX7_stackedAt_20 : decode cX7_stackedAt 20 = .ok (.invokevirtual 113, 3) := by decide +kernel
theorem dX7_stackedAt_23 : decode cX7_stackedAt 23 = .ok (.istore 4, 2) := by decide +kernel
theorem dX7_stackedAt_25 : decode cX7_stackedAt 25 = .ok (.iload_n 3, 1) := by decide +kernel
theorem dX7_stackedAt_26 : decode cX7_stackedAt 26 = .ok (.iconst 1, 1) := by decide +kernel
theorem dX7_stackedAt_27 : decode cX7_stackedAt 27 = .ok (.isub, 1) := by decide +kernel
theorem dX7_stackedAt_28 : decode cX7_stackedAt 28 = .ok (.istore 5, 2) := by decide +kernel
theorem dX7_stackedAt_30 : decode cX7_stackedAt 30 = .ok (.iload 5, 2) := by decide +kernel
theorem dX7_stackedAt_32 : decode cX7_stackedAt 32 = .ok (.iload_n 2, 1) := by decide +kernel
theorem dX7_stackedAt_33 : decode cX7_stackedAt 33 = .ok (.if_icmp .le 17, 3) := by decide +kernel
theorem dX7_stackedAt_36 : decode cX7_stackedAt 36 = .ok (.aload_n 0, 1) := by decide +kernel
theorem dX7_stackedAt_37 : decode cX7_stackedAt 37 = .ok (.iload 4, 2) := by decide +kernel
theorem dX7_stackedAt_39 : decode cX7_stackedAt 39 = .ok (.invokevirtual 113, 3) := by decide +kernel
theorem dX7_stackedAt_42 : decode cX7_stackedAt 42 = .ok (.istore 4, 2) := by decide +kernel
theorem dX7_stackedAt_44 : decode cX7_stackedAt 44 = .ok (.iinc 5 (-1), 3) := by decide +kernel
theorem dX7_stackedAt_47 : decode cX7_stackedAt 47 = .ok (.goto (-17), 3) := by decide +kernel
theorem dX7_stackedAt_50 : decode cX7_stackedAt 50 = .ok (.aload_n 0, 1) := by decide +kernel
theorem dX7_stackedAt_51 : decode cX7_stackedAt 51 = .ok (.iload 4, 2) := by decide +kernel
theorem dX7_stackedAt_53 : decode cX7_stackedAt 53 = .ok (.invokevirtual 121, 3) := by decide +kernel
theorem dX7_stackedAt_56 : decode cX7_stackedAt 56 = .ok (.iconst 1, 1) := by decide +kernel
theorem dX7_stackedAt_57 : decode cX7_stackedAt 57 = .ok (.iadd, 1) := by decide +kernel
theorem dX7_stackedAt_58 : decode cX7_stackedAt 58 = .ok (.ireturn, 1) := by decide +kernel
theorem dX7_start_0 : decode cX7_start 0 = .ok (.aload_n 0, 1) := by decide +kernel
theorem dX7_start_1 : decode cX7_start 1 = .ok (.getfield 12, 3) := by decide +kernel
theorem dX7_start_4 : decode cX7_start 4 = .ok (.aload_n 1, 1) := by decide +kernel
theorem dX7_start_5 : decode cX7_start 5 = .ok (.invokevirtual 78, 3) := by decide +kernel
theorem dX7_start_8 : decode cX7_start 8 = .ok (.aload_n 0, 1) := by decide +kernel
theorem dX7_start_9 : decode cX7_start 9 = .ok (.getfield 21, 3) := by decide +kernel
theorem dX7_start_12 : decode cX7_start 12 = .ok (.iconst 0, 1) := by decide +kernel
theorem dX7_start_13 : decode cX7_start 13 = .ok (.putfield 98, 3) := by decide +kernel
theorem dX7_start_16 : decode cX7_start 16 = .ok (.aload_n 0, 1) := by decide +kernel
theorem dX7_start_17 : decode cX7_start 17 = .ok (.getfield 28, 3) := by decide +kernel
theorem dX7_start_20 : decode cX7_start 20 = .ok (.invokevirtual 101, 3) := by decide +kernel
theorem dX7_start_23 : decode cX7_start 23 = .ok (.aload_n 0, 1) := by decide +kernel
theorem dX7_start_24 : decode cX7_start 24 = .ok (.getfield 35, 3) := by decide +kernel
theorem dX7_start_27 : decode cX7_start 27 = .ok (.iconst 0, 1) := by decide +kernel
theorem dX7_start_28 : decode cX7_start 28 = .ok (.putfield 104, 3) := by decide +kernel
theorem dX7_start_31 : decode cX7_start 31 = .ok (.aload_n 0, 1) := by decide +kernel
theorem dX7_start_32 : decode cX7_start 32 = .ok (.getfield 42, 3) := by decide +kernel
theorem dX7_start_35 : decode cX7_start 35 = .ok (.iload_n 2, 1) := by decide +kernel
theorem dX7_start_36 : decode cX7_start 36 = .ok (.iload_n 3, 1) := by decide +kernel
theorem dX7_start_37 : decode cX7_start 37 = .ok (.invokevirtual 105, 3) := by decide +kernel
theorem dX7_start_40 : decode cX7_start 40 = .ok (.aload_n 0, 1) := by decide +kernel
theorem dX7_start_41 : decode cX7_start 41 = .ok (.getfield 46, 3) := by decide +kernel
theorem dX7_start_44 : decode cX7_start 44 = .ok (.iconst 0, 1) := by decide +kernel
theorem dX7_start_45 : decode cX7_start 45 = .ok (.iconst 0, 1) := by decide +kernel
theorem dX7_start_46 : decode cX7_start 46 = .ok (.iastore, 1) := by decide +kernel
theorem dX7_start_47 : decode cX7_start 47 = .ok (.aload_n 0, 1) := by decide +kernel
theorem dX7_start_48 : decode cX7_start 48 = .ok (.getfield 50, 3) := by decide +kernel
theorem dX7_start_51 : decode cX7_start 51 = .ok (.iconst 0, 1) := by decide +kernel
theorem dX7_start_52 : decode cX7_start 52 = .ok (.iconst 0, 1) := by decide +kernel
theorem dX7_start_53 : decode cX7_start 53 = .ok (.iastore, 1) := by decide +kernel
theorem dX7_start_54 : decode cX7_start 54 = .ok (.aload_n 0, 1) := by decide +kernel
theorem dX7_start_55 : decode cX7_start 55 = .ok (.getfield 53, 3) := by decide +kernel
theorem dX7_start_58 : decode cX7_start 58 = .ok (.iconst 0, 1) := by decide +kernel
theorem dX7_start_59 : decode cX7_start 59 = .ok (.iconst 0, 1) := by decide +kernel
theorem dX7_start_60 : decode cX7_start 60 = .ok (.iastore, 1) := by decide +kernel
theorem dX7_start_61 : decode cX7_start 61 = .ok (.aload_n 0, 1) := by decide +kernel
theorem dX7_start_62 : decode cX7_start 62 = .ok (.getfield 56, 3) := by decide +kernel
theorem dX7_start_65 : decode cX7_start 65 = .ok (.iconst 0, 1) := by decide +kernel
theorem dX7_start_66 : decode cX7_start 66 = .ok (.iconst (-1), 1) := by decide +kernel
theorem dX7_start_67 : decode cX7_start 67 = .ok (.iastore, 1) := by decide +kernel
theorem dX7_start_68 : decode cX7_start 68 = .ok (.aload_n 0, 1) := by decide +kernel
theorem dX7_start_69 : decode cX7_start 69 = .ok (.iconst 0, 1) := by decide +kernel
theorem dX7_start_70 : decode cX7_start 70 = .ok (.putfield 59, 3) := by decide +kernel
theorem dX7_start_73 : decode cX7_start 73 = .ok (.aload_n 0, 1) := by decide +kernel
theorem dX7_start_74 : decode cX7_start 74 = .ok (.iconst 0, 1) := by decide +kernel
theorem dX7_start_75 : decode cX7_start 75 = .ok (.putfield 63, 3) := by decide +kernel
theorem dX7_start_78 : decode cX7_start 78 = .ok (.aload_n 0, 1) := by decide +kernel
theorem dX7_start_79 : decode cX7_start 79 = .ok (.iconst (-1), 1) := by decide +kernel
theorem dX7_start_80 : decode cX7_start 80 = .ok (.putfield 66, 3) := by decide +kernel
theorem dX7_start_83 : decode cX7_start 83 = .ok (.aload_n 0, 1) := by decide +kernel
theorem dX7_start_84 : decode cX7_start 84 = .ok (.iconst 0, 1) := by decide +kernel
theorem dX7_start_85 : decode cX7_start 85 = .ok (.putfield 69, 3) := by decide +kernel
theorem dX7_start_88 : decode cX7_start 88 = .ok (.aload_n 0, 1) := by decide +kernel
theorem dX7_start_89 : decode cX7_start 89 = .ok (.iconst 0, 1) := by decide +kernel
theorem dX7_start_90 : decode cX7_start 90 = .ok (.putfield 72, 3) := by decide +kernel
theorem dX7_start_93 : decode cX7_start 93 = .ok (.return_, 1) := by decide +kernel
theorem dX7_statusWith_0 : decode cX7_statusWith 0 = .ok (.aload_n 0, 1) := by decide +kernel
theorem dX7_statusWith_1 : decode cX7_statusWith 1 = .ok (.getfield 63, 3) := by decide +kernel
theorem dX7_statusWith_4 : decode cX7_statusWith 4 = .ok (.ifCond .eq 8, 3) := by decide +kernel
theorem dX7_statusWith_7 : decode cX7_statusWith 7 = .ok (.aload_n 0, 1) := by decide +kernel
theorem dX7_statusWith_8 : decode cX7_statusWith 8 = .ok (.getfield 63, 3) := by decide +kernel
theorem dX7_statusWith_11 : decode cX7_statusWith 11 = .ok (.ireturn, 1) := by decide +kernel
theorem dX7_statusWith_12 : decode cX7_statusWith 12 = .ok (.aload_n 0, 1) := by decide +kernel
theorem dX7_statusWith_13 : decode cX7_statusWith 13 = .ok (.getfield 12, 3) := by decide +kernel
theorem dX7_statusWith_16 : decode cX7_statusWith 16 = .ok (.aload_n 0, 1) := by decide +kernel
theorem dX7_statusWith_17 : decode cX7_statusWith 17 = .ok (.aload_n 0, 1) := by decide +kernel
theorem dX7_statusWith_18 : decode cX7_statusWith 18 = .ok (.getfield 59, 3) := by decide +kernel
theorem dX7_statusWith_21 : decode cX7_statusWith 21 = .ok (.invokevirtual 121, 3) := by decide +kernel
theorem dX7_statusWith_24 : decode cX7_statusWith 24 = .ok (.invokevirtual 124, 3) := by decide +kernel
theorem dX7_statusWith_27 : decode cX7_statusWith 27 = .ok (.istore_n 2, 1) := by decide +kernel
theorem dX7_statusWith_28 : decode cX7_statusWith 28 = .ok (.iload_n 2, 1) := by decide +kernel
theorem dX7_statusWith_29 : decode cX7_statusWith 29 = .ok (.bipush 19, 2) := by decide +kernel
theorem dX7_statusWith_31 : decode cX7_statusWith 31 = .ok (.if_icmp .ne 12, 3) := by decide +kernel
theorem dX7_statusWith_34 : decode cX7_statusWith 34 = .ok (.aload_n 1, 1) := by decide +kernel
theorem dX7_statusWith_35 : decode cX7_statusWith 35 = .ok (.getfield 127, 3) := by decide +kernel
theorem dX7_statusWith_38 : decode cX7_statusWith 38 = .ok (.ifCond .ne 5, 3) := by decide +kernel
theorem dX7_statusWith_41 : decode cX7_statusWith 41 = .ok (.iconst 1, 1) := by decide +kernel
theorem dX7_statusWith_42 : decode cX7_statusWith 42 = .ok (.ireturn, 1) := by decide +kernel
theorem dX7_statusWith_43 : decode cX7_statusWith 43 = .ok (.iload_n 2, 1) := by decide +kernel
theorem dX7_statusWith_44 : decode cX7_statusWith 44 = .ok (.bipush 19, 2) := by decide +kernel
theorem dX7_statusWith_46 : decode cX7_statusWith 46 = .ok (.if_icmp .eq 9, 3) := by decide +kernel
theorem dX7_statusWith_49 : decode cX7_statusWith 49 = .ok (.iload_n 2, 1) := by decide +kernel
theorem dX7_statusWith_50 : decode cX7_statusWith 50 = .ok (.bipush 20, 2) := by decide +kernel
theorem dX7_statusWith_52 : decode cX7_statusWith 52 = .ok (.if_icmp .ne 15, 3) := by decide +kernel
theorem dX7_statusWith_55 : decode cX7_statusWith 55 = .ok (.aload_n 0, 1) := by decide +kernel
theorem dX7_statusWith_56 : decode cX7_statusWith 56 = .ok (.getfield 21, 3) := by decide +kernel
theorem dX7_statusWith_59 : decode cX7_statusWith 59 = .ok (.invokevirtual 132, 3) := by decide +kernel
theorem dX7_statusWith_62 : decode cX7_statusWith 62 = .ok (.ifCond .eq 5, 3) := by decide +kernel
theorem dX7_statusWith_65 : decode cX7_statusWith 65 = .ok (.iconst 3, 1) := by decide +kernel
theorem dX7_statusWith_66 : decode cX7_statusWith 66 = .ok (.ireturn, 1) := by decide +kernel
theorem dX7_statusWith_67 : decode cX7_statusWith 67 = .ok (.iconst 0, 1) := by decide +kernel
theorem dX7_statusWith_68 : decode cX7_statusWith 68 = .ok (.ireturn, 1) := by decide +kernel
theorem dX7_takeFrom_0 : decode cX7_takeFrom 0 = .ok (.aload_n 0, 1) := by decide +kernel
theorem dX7_takeFrom_1 : decode cX7_takeFrom 1 = .ok (.getfield 12, 3) := by decide +kernel
theorem dX7_takeFrom_4 : decode cX7_takeFrom 4 = .ok (.aload_n 1, 1) := by decide +kernel
theorem dX7_takeFrom_5 : decode cX7_takeFrom 5 = .ok (.getfield 12, 3) := by decide +kernel
theorem dX7_takeFrom_8 : decode cX7_takeFrom 8 = .ok (.invokevirtual 78, 3) := by decide +kernel
theorem dX7_takeFrom_11 : decode cX7_takeFrom 11 = .ok (.aload_n 0, 1) := by decide +kernel
theorem dX7_takeFrom_12 : decode cX7_takeFrom 12 = .ok (.getfield 21, 3) := by decide +kernel
theorem dX7_takeFrom_15 : decode cX7_takeFrom 15 = .ok (.aload_n 1, 1) := by decide +kernel
theorem dX7_takeFrom_16 : decode cX7_takeFrom 16 = .ok (.getfield 21, 3) := by decide +kernel
theorem dX7_takeFrom_19 : decode cX7_takeFrom 19 = .ok (.invokevirtual 82, 3) := by decide +kernel
theorem dX7_takeFrom_22 : decode cX7_takeFrom 22 = .ok (.aload_n 0, 1) := by decide +kernel
theorem dX7_takeFrom_23 : decode cX7_takeFrom 23 = .ok (.getfield 28, 3) := by decide +kernel
theorem dX7_takeFrom_26 : decode cX7_takeFrom 26 = .ok (.aload_n 1, 1) := by decide +kernel
theorem dX7_takeFrom_27 : decode cX7_takeFrom 27 = .ok (.getfield 28, 3) := by decide +kernel
theorem dX7_takeFrom_30 : decode cX7_takeFrom 30 = .ok (.invokevirtual 85, 3) := by decide +kernel
theorem dX7_takeFrom_33 : decode cX7_takeFrom 33 = .ok (.aload_n 0, 1) := by decide +kernel
theorem dX7_takeFrom_34 : decode cX7_takeFrom 34 = .ok (.getfield 35, 3) := by decide +kernel
theorem dX7_takeFrom_37 : decode cX7_takeFrom 37 = .ok (.aload_n 1, 1) := by decide +kernel
theorem dX7_takeFrom_38 : decode cX7_takeFrom 38 = .ok (.getfield 35, 3) := by decide +kernel
theorem dX7_takeFrom_41 : decode cX7_takeFrom 41 = .ok (.invokevirtual 88, 3) := by decide +kernel
theorem dX7_takeFrom_44 : decode cX7_takeFrom 44 = .ok (.aload_n 0, 1) := by decide +kernel
theorem dX7_takeFrom_45 : decode cX7_takeFrom 45 = .ok (.getfield 42, 3) := by decide +kernel
theorem dX7_takeFrom_48 : decode cX7_takeFrom 48 = .ok (.aload_n 1, 1) := by decide +kernel
theorem dX7_takeFrom_49 : decode cX7_takeFrom 49 = .ok (.getfield 42, 3) := by decide +kernel
theorem dX7_takeFrom_52 : decode cX7_takeFrom 52 = .ok (.invokevirtual 91, 3) := by decide +kernel
theorem dX7_takeFrom_55 : decode cX7_takeFrom 55 = .ok (.aload_n 0, 1) := by decide +kernel
theorem dX7_takeFrom_56 : decode cX7_takeFrom 56 = .ok (.aload_n 1, 1) := by decide +kernel
theorem dX7_takeFrom_57 : decode cX7_takeFrom 57 = .ok (.getfield 59, 3) := by decide +kernel
theorem dX7_takeFrom_60 : decode cX7_takeFrom 60 = .ok (.putfield 59, 3) := by decide +kernel
theorem dX7_takeFrom_63 : decode cX7_takeFrom 63 = .ok (.aload_n 1, 1) := by decide +kernel
theorem dX7_takeFrom_64 : decode cX7_takeFrom 64 = .ok (.getfield 46, 3) := by decide +kernel
theorem dX7_takeFrom_67 : decode cX7_takeFrom 67 = .ok (.aload_n 0, 1) := by decide +kernel
theorem dX7_takeFrom_68 : decode cX7_takeFrom 68 = .ok (.getfield 46, 3) := by decide +kernel
theorem dX7_takeFrom_71 : decode cX7_takeFrom 71 = .ok (.aload_n 0, 1) := by decide +kernel
theorem dX7_takeFrom_72 : decode cX7_takeFrom 72 = .ok (.getfield 59, 3) := by decide +kernel
theorem dX7_takeFrom_75 : decode cX7_takeFrom 75 = .ok (.iconst 1, 1) := by decide +kernel
theorem dX7_takeFrom_76 : decode cX7_takeFrom 76 = .ok (.iadd, 1) := by decide +kernel
theorem dX7_takeFrom_77 : decode cX7_takeFrom 77 = .ok (.invokestatic 94, 3) := by decide +kernel
theorem dX7_takeFrom_80 : decode cX7_takeFrom 80 = .ok (.aload_n 1, 1) := by decide +kernel
theorem dX7_takeFrom_81 : decode cX7_takeFrom 81 = .ok (.getfield 50, 3) := by decide +kernel
theorem dX7_takeFrom_84 : decode cX7_takeFrom 84 = .ok (.aload_n 0, 1) := by decide +kernel
theorem dX7_takeFrom_85 : decode cX7_takeFrom 85 = .ok (.getfield 50, 3) := by decide +kernel
theorem dX7_takeFrom_88 : decode cX7_takeFrom 88 = .ok (.aload_n 0, 1) := by decide +kernel
theorem dX7_takeFrom_89 : decode cX7_takeFrom 89 = .ok (.getfield 59, 3) := by decide +kernel
theorem dX7_takeFrom_92 : decode cX7_takeFrom 92 = .ok (.iconst 1, 1) := by decide +kernel
theorem dX7_takeFrom_93 : decode cX7_takeFrom 93 = .ok (.iadd, 1) := by decide +kernel
theorem dX7_takeFrom_94 : decode cX7_takeFrom 94 = .ok (.invokestatic 94, 3) := by decide +kernel
theorem dX7_takeFrom_97 : decode cX7_takeFrom 97 = .ok (.aload_n 1, 1) := by decide +kernel
theorem dX7_takeFrom_98 : decode cX7_takeFrom 98 = .ok (.getfield 53, 3) := by decide +kernel
theorem dX7_takeFrom_101 : decode cX7_takeFrom 101 = .ok (.aload_n 0, 1) := by decide +kernel
theorem dX7_takeFrom_102 : decode cX7_takeFrom 102 = .ok (.getfield 53, 3) := by decide +kernel
theorem dX7_takeFrom_105 : decode cX7_takeFrom 105 = .ok (.aload_n 0, 1) := by decide +kernel
theorem dX7_takeFrom_106 : decode cX7_takeFrom 106 = .ok (.getfield 59, 3) := by decide +kernel
theorem dX7_takeFrom_109 : decode cX7_takeFrom 109 = .ok (.iconst 1, 1) := by decide +kernel
theorem dX7_takeFrom_110 : decode cX7_takeFrom 110 = .ok (.iadd, 1) := by decide +kernel
theorem dX7_takeFrom_111 : decode cX7_takeFrom 111 = .ok (.invokestatic 94, 3) := by decide +kernel
theorem dX7_takeFrom_114 : decode cX7_takeFrom 114 = .ok (.aload_n 1, 1) := by decide +kernel
theorem dX7_takeFrom_115 : decode cX7_takeFrom 115 = .ok (.getfield 56, 3) := by decide +kernel
theorem dX7_takeFrom_118 : decode cX7_takeFrom 118 = .ok (.aload_n 0, 1) := by decide +kernel
theorem dX7_takeFrom_119 : decode cX7_takeFrom 119 = .ok (.getfield 56, 3) := by decide +kernel
theorem dX7_takeFrom_122 : decode cX7_takeFrom 122 = .ok (.aload_n 0, 1) := by decide +kernel
theorem dX7_takeFrom_123 : decode cX7_takeFrom 123 = .ok (.getfield 59, 3) := by decide +kernel
theorem dX7_takeFrom_126 : decode cX7_takeFrom 126 = .ok (.iconst 1, 1) := by decide +kernel
theorem dX7_takeFrom_127 : decode cX7_takeFrom 127 = .ok (.iadd, 1) := by decide +kernel
theorem dX7_takeFrom_128 : decode cX7_takeFrom 128 = .ok (.invokestatic 94, 3) := by decide +kernel
theorem dX7_takeFrom_131 : decode cX7_takeFrom 131 = .ok (.aload_n 0, 1) := by decide +kernel
theorem dX7_takeFrom_132 : decode cX7_takeFrom 132 = .ok (.aload_n 1, 1) := by decide +kernel
theorem dX7_takeFrom_133 : decode cX7_takeFrom 133 = .ok (.getfield 63, 3) := by decide +kernel
theorem dX7_takeFrom_136 : decode cX7_takeFrom 136 = .ok (.putfield 63, 3) := by decide +kernel
theorem dX7_takeFrom_139 : decode cX7_takeFrom 139 = .ok (.aload_n 0, 1) := by decide +kernel
theorem dX7_takeFrom_140 : decode cX7_takeFrom 140 = .ok (.aload_n 1, 1) := by decide +kernel
theorem dX7_takeFrom_141 : decode cX7_takeFrom 141 = .ok (.getfield 69, 3) := by decide +kernel
theorem dX7_takeFrom_144 : decode cX7_takeFrom 144 = .ok (.putfield 69, 3) := by decide +kernel
theorem dX7_takeFrom_147 : decode cX7_takeFrom 147 = .ok (.aload_n 0, 1) := by decide +kernel
theorem dX7_takeFrom_148 : decode cX7_takeFrom 148 = .ok (.aload_n 1, 1) := by decide +kernel
theorem dX7_takeFrom_149 : decode cX7_takeFrom 149 = .ok (.getfield 72, 3) := by decide +kernel
theorem dX7_takeFrom_152 : decode cX7_takeFrom 152 = .ok (.putfield 72, 3) := by decide +kernel
theorem dX7_takeFrom_155 : decode cX7_takeFrom 155 = .ok (.aload_n 0, 1) := by decide +kernel
theorem dX7_takeFrom_156 : decode cX7_takeFrom 156 = .ok (.iload_n 2, 1) := by decide +kernel
theorem dX7_takeFrom_157 : decode cX7_takeFrom 157 = .ok (.putfield 75, 3) := by decide +kernel
theorem dX7_takeFrom_160 : decode cX7_takeFrom 160 = .ok (.return_, 1) := by decide +kernel
theorem dX8_compare_0 : decode cX8_compare 0 = .ok (.aload_n 0, 1) := by decide +kernel
theorem dX8_compare_1 : decode cX8_compare 1 = .ok (.getfield 38, 3) := by decide +kernel
theorem dX8_compare_4 : decode cX8_compare 4 = .ok (.iload_n 2, 1) := by decide +kernel
theorem dX8_compare_5 : decode cX8_compare 5 = .ok (.aload_n 0, 1) := by decide +kernel
theorem dX8_compare_6 : decode cX8_compare 6 = .ok (.getfield 38, 3) := by decide +kernel
theorem dX8_compare_9 : decode cX8_compare 9 = .ok (.iload_n 3, 1) := by decide +kernel
theorem dX8_compare_10 : decode cX8_compare 10 = .ok (.invokevirtual 103, 3) := by decide +kernel
theorem dX8_compare_13 : decode cX8_compare 13 = .ok (.aload_n 0, 1) := by decide +kernel
theorem dX8_compare_14 : decode cX8_compare 14 = .ok (.getfield 38, 3) := by decide +kernel
theorem dX8_compare_17 : decode cX8_compare 17 = .ok (.iload_n 3, 1) := by decide +kernel
theorem dX8_compare_18 : decode cX8_compare 18 = .ok (.invokevirtual 106, 3) := by decide +kernel
theorem dX8_compare_21 : decode cX8_compare 21 = .ok (.invokevirtual 113, 3) := by decide +kernel
theorem dX8_compare_24 : decode cX8_compare 24 = .ok (.istore 4, 2) := by decide +kernel
theorem dX8_compare_26 : decode cX8_compare 26 = .ok (.aload_n 0, 1) := by decide +kernel
theorem dX8_compare_27 : decode cX8_compare 27 = .ok (.iload_n 1, 1) := by decide +kernel
theorem dX8_compare_28 : decode cX8_compare 28 = .ok (.iconst 1, 1) := by decide +kernel
theorem dX8_compare_29 : decode cX8_compare 29 = .ok (.iload 4, 2) := by decide +kernel
theorem dX8_compare_31 : decode cX8_compare 31 = .ok (.ifCond .eq 7, 3) := by decide +kernel
theorem dX8_compare_34 : decode cX8_compare 34 = .ok (.iconst 1, 1) := by decide +kernel
theorem dX8_compare_35 : decode cX8_compare 35 = .ok (.goto 4, 3) := by decide +kernel
theorem dX8_compare_38 : decode cX8_compare 38 = .ok (.iconst 0, 1) := by decide +kernel
theorem dX8_compare_39 : decode cX8_compare 39 = .ok (.iload_n 2, 1) := by decide +kernel
theorem dX8_compare_40 : decode cX8_compare 40 = .ok (.iload_n 3, 1) := by decide +kernel
theorem dX8_compare_41 : decode cX8_compare 41 = .ok (.invokevirtual 34, 3) := by decide +kernel
theorem dX8_compare_44 : decode cX8_compare 44 = .ok (.return_, 1) := by decide +kernel
theorem dX8_copy_0 : decode cX8_copy 0 = .ok (.aload_n 0, 1) := by decide +kernel
theorem dX8_copy_1 : decode cX8_copy 1 = .ok (.iload_n 1, 1) := by decide +kernel
theorem dX8_copy_2 : decode cX8_copy 2 = .ok (.aload_n 0, 1) := by decide +kernel
theorem dX8_copy_3 : decode cX8_copy 3 = .ok (.getfield 38, 3) := by decide +kernel
theorem dX8_copy_6 : decode cX8_copy 6 = .ok (.iload_n 2, 1) := by decide +kernel
theorem dX8_copy_7 : decode cX8_copy 7 = .ok (.invokevirtual 103, 3) := by decide +kernel
theorem dX8_copy_10 : decode cX8_copy 10 = .ok (.aload_n 0, 1) := by decide +kernel
theorem dX8_copy_11 : decode cX8_copy 11 = .ok (.getfield 38, 3) := by decide +kernel
theorem dX8_copy_14 : decode cX8_copy 14 = .ok (.iload_n 2, 1) := by decide +kernel
theorem dX8_copy_15 : decode cX8_copy 15 = .ok (.invokevirtual 106, 3) := by decide +kernel
theorem dX8_copy_18 : decode cX8_copy 18 = .ok (.iload_n 2, 1) := by decide +kernel
theorem dX8_copy_19 : decode cX8_copy 19 = .ok (.iconst (-1), 1) := by decide +kernel
theorem dX8_copy_20 : decode cX8_copy 20 = .ok (.invokevirtual 34, 3) := by decide +kernel
theorem dX8_copy_23 : decode cX8_copy 23 = .ok (.return_, 1) := by decide +kernel
theorem dX9_isMarked_0 : decode cX9_isMarked 0 = .ok (.iload_n 1, 1) := by decide +kernel
theorem dX9_isMarked_1 : decode cX9_isMarked 1 = .ok (.ifCond .lt 19, 3) := by decide +kernel
theorem dX9_isMarked_4 : decode cX9_isMarked 4 = .ok (.iload_n 1, 1) := by decide +kernel
theorem dX9_isMarked_5 : decode cX9_isMarked 5 = .ok (.aload_n 0, 1) := by decide +kernel
theorem dX9_isMarked_6 : decode cX9_isMarked 6 = .ok (.arraylength, 1) := by decide +kernel
theorem dX9_isMarked_7 : decode cX9_isMarked 7 = .ok (.if_icmp .ge 13, 3) := by decide +kernel
theorem dX9_isMarked_10 : decode cX9_isMarked 10 = .ok (.aload_n 0, 1) := by decide +kernel
theorem dX9_isMarked_11 : decode cX9_isMarked 11 = .ok (.iload_n 1, 1) := by decide +kernel
theorem dX9_isMarked_12 : decode cX9_isMarked 12 = .ok (.baload, 1) := by decide +kernel
theorem dX9_isMarked_13 : decode cX9_isMarked 13 = .ok (.ifCond .eq 7, 3) := by decide +kernel
theorem dX9_isMarked_16 : decode cX9_isMarked 16 = .ok (.iconst 1, 1) := by decide +kernel
theorem dX9_isMarked_17 : decode cX9_isMarked 17 = .ok (.goto 4, 3) := by decide +kernel
theorem dX9_isMarked_20 : decode cX9_isMarked 20 = .ok (.iconst 0, 1) := by decide +kernel
theorem dX9_isMarked_21 : decode cX9_isMarked 21 = .ok (.ireturn, 1) := by decide +kernel
def g_X6_mark (F : Nat) (o0 : Nat) (o1 N1 : Nat) (x2 : Int32) (u : rg_U) : Option rg_U :=
  ob (g_X6_has F o0 x2 u) (fun r1 => if r1 = 0 then (some u) else (if (Int32.ofNat N1) ≤ x2 then (some u) else (ck (inb x2 N1) (lt1 (sZ u o1 x2 1) (fun u6 => some u6)))))
set_option maxHeartbeats 4000000 in
set_option maxRecDepth 100000 in
theorem k_X6_mark {gs : List String} {ro : pm_RO} {n : Nat} {w : Nat → va_E} {b : Nat} {u : rg_U} {F : Nat} {o0 : Nat} {o1 N1 : Nat} {x2 : Int32} {z : rg_U} (hR : rg shC b u n w) (hs0 : sp_Puts o0) (hs1 : shC[o1]? = some (.inr (.inl (1, N1)))) (h : g_X6_mark F o0 o1 N1 x2 u = some z) : pm_Met gs ro M_X6_mark 1 0 0 [.ref (b + o0), .ref (b + o1), .int x2] n w (rg_post shC b n w none z) := by
  unfold g_X6_mark at h
  refine pm_ofX in_X6_mark (Nat.le_of_ble_eq_true rfl) rfl (L := [some (.ref (b + o0)), some (.ref (b + o1)), some (.int x2)]) rfl ?_
  refine pm_aload_n dX6_mark_0 rfl ?_
  refine pm_iload_n dX6_mark_1 rfl ?_
  obtain ⟨r1, h2, h⟩ := ob_some h
  refine dx_cVp (j := o0) (M := M_X6_mark) (Mc := M_X6_has) (dc := 0) (As := [.int x2]) (st := []) hR dX6_mark_2 ml_X6_59 ⟨TX6, 12, rfl⟩ (sp_Puts_self hs0) (by decide) (Nat.le_of_ble_eq_true rfl) rfl (k_X6_has hR hs0 h2) ?_
  refine pm_if_eq (tgt := 18) dX6_mark_5 (by decide) (fun c3 => ?_) (fun c3 => ?_)
  · replace h := it_t c3 h
    cases h
    exact pm_vret dX6_mark_18 rfl (Nat.le_refl _) (Nat.le_refl _) ⟨rfl, rfl, hR, rg_k0⟩
  · replace h := it_f c3 h
    refine pm_iload_n dX6_mark_8 rfl ?_
    refine pm_aload_n dX6_mark_9 rfl ?_
    refine dx_len (j := o1) (v := (Int32.ofNat N1)) hR dX6_mark_10 hs1 (by first | decide | rfl) (by decide) ?_
    refine pm_icmp_ge (tgt := 18) dX6_mark_11 (by decide) (fun c4 => ?_) (fun c4 => ?_)
    · replace h := it_t c4 h
      cases h
      exact pm_vret dX6_mark_18 rfl (Nat.le_refl _) (Nat.le_refl _) ⟨rfl, rfl, hR, rg_k0⟩
    · replace h := it_f c4 h
      refine pm_aload_n dX6_mark_14 rfl ?_
      refine pm_iload_n dX6_mark_15 rfl ?_
      refine pm_iconst (v := 1) dX6_mark_16 (by decide) ?_
      obtain ⟨c5, h⟩ := ck_some h
      obtain ⟨u6, hu7, h⟩ := lt1_ex h
      refine dx_zs (j := o1) hR rg_k0 dX6_mark_17 hs1 (vp_in_iff.mpr c5) hu7 (fun w8 hR9 hk10 => ?_)
      cases h
      exact pm_vret dX6_mark_18 rfl (Nat.le_refl _) (Nat.le_refl _) ⟨rfl, rfl, hR9, hk10⟩
def g_X9_isMarked (F : Nat) (o0 N0 : Nat) (x1 : Int32) (u : rg_U) : Option Int32 :=
  if x1 < 0 then (some 0) else (if (Int32.ofNat N0) ≤ x1 then (some 0) else (ck (inb x1 N0) (if (rA u o0 x1) = 0 then (some 0) else (some 1))))
set_option maxHeartbeats 4000000 in
set_option maxRecDepth 100000 in
theorem k_X9_isMarked {gs : List String} {ro : pm_RO} {n : Nat} {w : Nat → va_E} {b : Nat} {u : rg_U} {F : Nat} {o0 N0 : Nat} {x1 : Int32} {z : Int32} (hR : rg shC b u n w) (hs0 : shC[o0]? = some (.inr (.inl (1, N0)))) (h : g_X9_isMarked F o0 N0 x1 u = some z) : pm_Met gs ro M_X9_isMarked 0 0 0 [.ref (b + o0), .int x1] n w (pm_p n w (some (.int z))) := by
  unfold g_X9_isMarked at h
  refine pm_ofX in_X9_isMarked (Nat.le_of_ble_eq_true rfl) rfl (L := [some (.ref (b + o0)), some (.int x1)]) rfl ?_
  refine pm_iload_n dX9_isMarked_0 rfl ?_
  refine pm_if_lt (tgt := 20) dX9_isMarked_1 (by decide) (fun c1 => ?_) (fun c1 => ?_)
  · replace h := it_t c1 h
    refine pm_iconst (v := 0) dX9_isMarked_20 (by decide) ?_
    cases h
    exact pm_zret dX9_isMarked_21 rfl (Or.inl rfl) (Nat.le_refl _) (Nat.le_refl _) ⟨rfl, rfl, rfl⟩
  · replace h := it_f c1 h
    refine pm_iload_n dX9_isMarked_4 rfl ?_
    refine pm_aload_n dX9_isMarked_5 rfl ?_
    refine dx_len (j := o0) (v := (Int32.ofNat N0)) hR dX9_isMarked_6 hs0 (by first | decide | rfl) (by decide) ?_
    refine pm_icmp_ge (tgt := 20) dX9_isMarked_7 (by decide) (fun c2 => ?_) (fun c2 => ?_)
    · replace h := it_t c2 h
      refine pm_iconst (v := 0) dX9_isMarked_20 (by decide) ?_
      cases h
      exact pm_zret dX9_isMarked_21 rfl (Or.inl rfl) (Nat.le_refl _) (Nat.le_refl _) ⟨rfl, rfl, rfl⟩
    · replace h := it_f c2 h
      refine pm_aload_n dX9_isMarked_10 rfl ?_
      refine pm_iload_n dX9_isMarked_11 rfl ?_
      obtain ⟨c3, h⟩ := ck_some h
      refine dx_zl (j := o0) hR dX9_isMarked_12 hs0 (vp_in_iff.mpr c3) ?_
      refine pm_if_eq (tgt := 20) dX9_isMarked_13 (by decide) (fun c4 => ?_) (fun c4 => ?_)
      · replace h := it_t c4 h
        refine pm_iconst (v := 0) dX9_isMarked_20 (by decide) ?_
        cases h
        exact pm_zret dX9_isMarked_21 rfl (Or.inl rfl) (Nat.le_refl _) (Nat.le_refl _) ⟨rfl, rfl, rfl⟩
      · replace h := it_f c4 h
        refine pm_iconst (v := 1) dX9_isMarked_16 (by decide) ?_
        refine pm_goto (tgt := 21) dX9_isMarked_17 (by decide) ?_
        cases h
        exact pm_zret dX9_isMarked_21 rfl (Or.inr rfl) (Nat.le_refl _) (Nat.le_refl _) ⟨rfl, rfl, rfl⟩
def g_X6_markAllBelow_j56 (F : Nat) (o0 : Nat) (o2 N2 : Nat) (l3 : Int32) (u : rg_U) : Option ((Int32 × rg_U) ⊕ rg_U) :=
  some (.inl ((l3 + (-1)), u))
set_option maxHeartbeats 4000000 in
set_option maxRecDepth 100000 in
theorem k_X6_markAllBelow_j56 {gs : List String} {ro : pm_RO} {n : Nat} {w w1 : Nat → va_E} {b : Nat} {u : rg_U} {F : Nat} {o0 : Nat} {o2 N2 : Nat} {l3 : Int32} {z : ((Int32 × rg_U) ⊕ rg_U)} {Q : Option Value → Nat → (Nat → va_E) → Prop} (hR : rg shC b u n w1) (hk : rg_k b shC.length w w1) (hs0 : sp_Puts o0) (hs2 : shC[o2]? = some (.inr (.inl (1, N2)))) (h : g_X6_markAllBelow_j56 F o0 o2 N2 l3 u = some z) (hc : ∀ s', z = .inl s' → ∀ w1, rg shC b s'.2 n w1 → rg_k b shC.length w w1 → pm_X gs ro M_X6_markAllBelow 2 0 0 0 0 22 [some (.ref (b + o0)), none, some (.ref (b + o2)), some (.int s'.1)] [] n w1 Q) (he0 : ∀ r', z = .inr r' → ∀ w1, rg shC b r' n w1 → rg_k b shC.length w w1 → pm_X gs ro M_X6_markAllBelow 2 0 0 0 0 62 [none, none, none, none] [] n w1 Q) : pm_X gs ro M_X6_markAllBelow 2 0 0 0 0 56 [some (.ref (b + o0)), none, some (.ref (b + o2)), some (.int l3)] [] n w1 Q := by
  unfold g_X6_markAllBelow_j56 at h
  refine pm_iinc (v := (l3 + (-1))) dX6_markAllBelow_56 rfl rfl (by decide) rfl rfl ?_
  refine pm_goto (tgt := 22) dX6_markAllBelow_59 (by decide) ?_
  refine pm_lw (L' := [some (.ref (b + o0)), none, some (.ref (b + o2)), some (.int (l3 + (-1)))]) ⟨Or.inr rfl, Or.inl rfl, Or.inr rfl, Or.inr rfl, trivial⟩ ?_
  exact hc _ (Option.some.inj h).symm _ hR hk
def g_X6_markAllBelow_l22 (F : Nat) (o0 : Nat) (o2 N2 : Nat) (l3 : Int32) (u : rg_U) : Option ((Int32 × rg_U) ⊕ rg_U) :=
  if l3 < 0 then (some (.inr u)) else (ob (g_X9_isMarked F o2 N2 l3 u) (fun r12 => if r12 = 0 then (g_X6_markAllBelow_j56 F o0 o2 N2 l3 u) else (ck (inb l3 3800) (ob (g_X6_mark F o0 o2 N2 (rA u (o0 + 9) l3) u) (fun r16 => ck (inb l3 3800) (ob (g_X6_mark F o0 o2 N2 (rA r16 (o0 + 10) l3) r16) (fun r22 => g_X6_markAllBelow_j56 F o0 o2 N2 l3 r22)))))))
set_option maxHeartbeats 4000000 in
set_option maxRecDepth 100000 in
theorem k_X6_markAllBelow_l22 {gs : List String} {ro : pm_RO} {n : Nat} {w w1 : Nat → va_E} {b : Nat} {u : rg_U} {F : Nat} {o0 : Nat} {o2 N2 : Nat} {l3 : Int32} {z : (Int32 × rg_U) ⊕ rg_U} {Q : Option Value → Nat → (Nat → va_E) → Prop} (hR : rg shC b u n w1) (hk : rg_k b shC.length w w1) (hs0 : sp_Puts o0) (hs2 : shC[o2]? = some (.inr (.inl (1, N2)))) (h : g_X6_markAllBelow_l22 F o0 o2 N2 l3 u = some z) (hc : ∀ s', z = .inl s' → ∀ w1, rg shC b s'.2 n w1 → rg_k b shC.length w w1 → pm_X gs ro M_X6_markAllBelow 2 0 0 0 0 22 [some (.ref (b + o0)), none, some (.ref (b + o2)), some (.int s'.1)] [] n w1 Q) (he0 : ∀ r', z = .inr r' → ∀ w1, rg shC b r' n w1 → rg_k b shC.length w w1 → pm_X gs ro M_X6_markAllBelow 2 0 0 0 0 62 [none, none, none, none] [] n w1 Q) : pm_X gs ro M_X6_markAllBelow 2 0 0 0 0 22 [some (.ref (b + o0)), none, some (.ref (b + o2)), some (.int l3)] [] n w1 Q := by
  unfold g_X6_markAllBelow_l22 at h
  refine pm_iload_n dX6_markAllBelow_22 rfl ?_
  refine pm_if_lt (tgt := 62) dX6_markAllBelow_23 (by decide) (fun c11 => ?_) (fun c11 => ?_)
  · replace h := it_t c11 h
    refine pm_lw (L' := [none, none, none, none]) ⟨Or.inl rfl, Or.inl rfl, Or.inl rfl, Or.inl rfl, trivial⟩ ?_
    exact he0 _ (Option.some.inj h).symm _ hR hk
  · replace h := it_f c11 h
    refine pm_aload_n dX6_markAllBelow_26 rfl ?_
    refine pm_iload_n dX6_markAllBelow_27 rfl ?_
    obtain ⟨r12, h13, h⟩ := ob_some h
    refine dx_cSNp (M := M_X6_markAllBelow) (Mc := M_X9_isMarked) (dc := 0) (As := [.ref (b + o2), .int l3]) (st := []) dX6_markAllBelow_28 ml_X6_103 (by decide) (Nat.le_of_ble_eq_true rfl) rfl (k_X9_isMarked hR hs2 h13) ?_
    refine pm_if_eq (tgt := 56) dX6_markAllBelow_31 (by decide) (fun c14 => ?_) (fun c14 => ?_)
    · replace h := it_t c14 h
      exact k_X6_markAllBelow_j56 hR hk hs0 hs2 h hc he0
    · replace h := it_f c14 h
      refine pm_aload_n dX6_markAllBelow_34 rfl ?_
      refine pm_aload_n dX6_markAllBelow_35 rfl ?_
      refine pm_aload_n dX6_markAllBelow_36 rfl ?_
      refine dx_gr (j := o0) (o := (o0 + 9)) hR dX6_markAllBelow_37 fl_X6_36 (sp_Puts_self hs0) rfl ?_
      refine pm_iload_n dX6_markAllBelow_40 rfl ?_
      obtain ⟨c15, h⟩ := ck_some h
      refine dx_al (j := (o0 + 9)) hR dX6_markAllBelow_41 (sp_Puts_lookedOne hs0) (vp_in_iff.mpr c15) ?_
      obtain ⟨r16, h17, h⟩ := ob_some h
      refine dx_cVv (j := o0) (M := M_X6_markAllBelow) (Mc := M_X6_mark) (dc := 1) (As := [.ref (b + o2), .int (rA u (o0 + 9) l3)]) (st := []) hR hk dX6_markAllBelow_42 ml_X6_93 ⟨TX6, 12, rfl⟩ (sp_Puts_self hs0) (by decide) (Nat.le_of_ble_eq_true rfl) rfl (k_X6_mark hR hs0 hs2 h17) (fun w18 hR19 hk20 => ?_)
      refine pm_aload_n dX6_markAllBelow_45 rfl ?_
      refine pm_aload_n dX6_markAllBelow_46 rfl ?_
      refine pm_aload_n dX6_markAllBelow_47 rfl ?_
      refine dx_gr (j := o0) (o := (o0 + 10)) hR19 dX6_markAllBelow_48 fl_X6_39 (sp_Puts_self hs0) rfl ?_
      refine pm_iload_n dX6_markAllBelow_51 rfl ?_
      obtain ⟨c21, h⟩ := ck_some h
      refine dx_al (j := (o0 + 10)) hR19 dX6_markAllBelow_52 (sp_Puts_lookedTwo hs0) (vp_in_iff.mpr c21) ?_
      obtain ⟨r22, h23, h⟩ := ob_some h
      refine dx_cVv (j := o0) (M := M_X6_markAllBelow) (Mc := M_X6_mark) (dc := 1) (As := [.ref (b + o2), .int (rA r16 (o0 + 10) l3)]) (st := []) hR19 hk20 dX6_markAllBelow_53 ml_X6_93 ⟨TX6, 12, rfl⟩ (sp_Puts_self hs0) (by decide) (Nat.le_of_ble_eq_true rfl) rfl (k_X6_mark hR19 hs0 hs2 h23) (fun w24 hR25 hk26 => ?_)
      exact k_X6_markAllBelow_j56 hR25 hk26 hs0 hs2 h hc he0
def g_X6_markAllBelow (F : Nat) (o0 : Nat) (x1 : Int32) (o2 N2 : Nat) (u : rg_U) : Option rg_U :=
  ob (g_X6_unmarkAll F o0 o2 N2 u) (fun r1 => ob (g_X6_mark F o0 o2 N2 x1 r1) (fun r6 => ob (lp (fun (s : (Int32 × rg_U)) => g_X6_markAllBelow_l22 F o0 o2 N2 s.1 s.2) F (((imin x1 ((rF r6 o0 11) - 1)) : Int32), r6)) (fun r27 => some r27)))
set_option maxHeartbeats 4000000 in
set_option maxRecDepth 100000 in
theorem k_X6_markAllBelow {gs : List String} {ro : pm_RO} {n : Nat} {w : Nat → va_E} {b : Nat} {u : rg_U} {F : Nat} {o0 : Nat} {x1 : Int32} {o2 N2 : Nat} {z : rg_U} (hR : rg shC b u n w) (hs0 : sp_Puts o0) (hs2 : shC[o2]? = some (.inr (.inl (1, N2)))) (h : g_X6_markAllBelow F o0 x1 o2 N2 u = some z) : pm_Met gs ro M_X6_markAllBelow 2 0 0 [.ref (b + o0), .int x1, .ref (b + o2)] n w (rg_post shC b n w none z) := by
  unfold g_X6_markAllBelow at h
  refine pm_ofX in_X6_markAllBelow (Nat.le_of_ble_eq_true rfl) rfl (L := [some (.ref (b + o0)), some (.int x1), some (.ref (b + o2)), none]) rfl ?_
  refine pm_aload_n dX6_markAllBelow_0 rfl ?_
  refine pm_aload_n dX6_markAllBelow_1 rfl ?_
  obtain ⟨r1, h2, h⟩ := ob_some h
  refine dx_cVv (j := o0) (M := M_X6_markAllBelow) (Mc := M_X6_unmarkAll) (dc := 0) (As := [.ref (b + o2)]) (st := []) hR rg_k0 dX6_markAllBelow_2 ml_X6_89 ⟨TX6, 12, rfl⟩ (sp_Puts_self hs0) (by decide) (Nat.le_of_ble_eq_true rfl) rfl (k_X6_unmarkAll hR hs0 hs2 h2) (fun w3 hR4 hk5 => ?_)
  refine pm_aload_n dX6_markAllBelow_5 rfl ?_
  refine pm_aload_n dX6_markAllBelow_6 rfl ?_
  refine pm_iload_n dX6_markAllBelow_7 rfl ?_
  obtain ⟨r6, h7, h⟩ := ob_some h
  refine dx_cVv (j := o0) (M := M_X6_markAllBelow) (Mc := M_X6_mark) (dc := 1) (As := [.ref (b + o2), .int x1]) (st := []) hR4 hk5 dX6_markAllBelow_8 ml_X6_93 ⟨TX6, 12, rfl⟩ (sp_Puts_self hs0) (by decide) (Nat.le_of_ble_eq_true rfl) rfl (k_X6_mark hR4 hs0 hs2 h7) (fun w8 hR9 hk10 => ?_)
  refine pm_iload_n dX6_markAllBelow_11 rfl ?_
  refine pm_aload_n dX6_markAllBelow_12 rfl ?_
  refine dx_gi (j := o0) hR9 dX6_markAllBelow_13 fl_X6_45 (sp_Puts_self hs0) rfl ?_
  refine pm_iconst (v := 1) dX6_markAllBelow_16 (by decide) ?_
  refine pm_isub dX6_markAllBelow_17 ?_
  refine pm_mmin (M := M_X6_markAllBelow) dX6_markAllBelow_18 mm_X6_97 mm_min_2 mm_init mm_min_4 (by decide) (Nat.le_refl _) (Nat.le_refl _) (Nat.le_of_ble_eq_true rfl) ?_
  refine pm_istore_n dX6_markAllBelow_21 (by decide) rfl rfl ?_
  refine pm_lw (L' := [some (.ref (b + o0)), none, some (.ref (b + o2)), some (.int (imin x1 ((rF r6 o0 11) - 1)))]) ⟨Or.inr rfl, Or.inl rfl, Or.inr rfl, Or.inr rfl, trivial⟩ ?_
  obtain ⟨r27, h28, h⟩ := ob_some h
  refine lp_sound (P := fun (s : (Int32 × rg_U)) => ∀ w1, rg shC b s.2 n w1 → rg_k b shC.length w w1 → pm_X gs ro M_X6_markAllBelow 2 0 0 0 0 22 [some (.ref (b + o0)), none, some (.ref (b + o2)), some (.int s.1)] [] n w1 (rg_post shC b n w none z)) (E := (fun (r : rg_U) => ∀ w1, rg shC b r n w1 → rg_k b shC.length w w1 → pm_X gs ro M_X6_markAllBelow 2 0 0 0 0 62 [none, none, none, none] [] n w1 (rg_post shC b n w none z))) (fun s x hx hc he w1 hR1 hk1 => k_X6_markAllBelow_l22 hR1 hk1 hs0 hs2 hx hc (fun r q => he r q)) F _ r27 h28 ?_ _ hR9 hk10
  intro w29 hR30 hk31
  cases h
  exact pm_vret dX6_markAllBelow_62 rfl (Nat.le_refl _) (Nat.le_refl _) ⟨rfl, rfl, hR30, hk31⟩
def g_X6_markedStep_j58 (F : Nat) (o0 : Nat) (o2 N2 : Nat) (l1 : Int32) (l3 : Int32) (l4 : Int32) (u : rg_U) : Option ((Int32 × Int32) ⊕ (Int32 ⊕ Int32)) :=
  some (.inl (l3, (l4 + 1)))
set_option maxHeartbeats 4000000 in
set_option maxRecDepth 100000 in
theorem k_X6_markedStep_j58 {gs : List String} {ro : pm_RO} {n : Nat} {w : Nat → va_E} {b : Nat} {u : rg_U} {F : Nat} {o0 : Nat} {o2 N2 : Nat} {l1 : Int32} {l3 : Int32} {l4 : Int32} {z : ((Int32 × Int32) ⊕ (Int32 ⊕ Int32))} {Q : Option Value → Nat → (Nat → va_E) → Prop} (hR : rg shC b u n w) (hs0 : sp_Puts o0) (hs2 : shC[o2]? = some (.inr (.inl (1, N2)))) (h : g_X6_markedStep_j58 F o0 o2 N2 l1 l3 l4 u = some z) (hc : ∀ s', z = .inl s' → pm_X gs ro M_X6_markedStep 1 0 0 0 0 5 [some (.ref (b + o0)), some (.int l1), some (.ref (b + o2)), some (.int s'.1), some (.int s'.2)] [] n w Q) (he0 : ∀ r', z = .inr (Sum.inl r') → pm_X gs ro M_X6_markedStep 1 0 0 0 0 47 [some (.ref (b + o0)), none, none, none, some (.int r')] [] n w Q) (he1 : ∀ r', z = .inr (Sum.inr r') → pm_X gs ro M_X6_markedStep 1 0 0 0 0 64 [none, some (.int l1), none, some (.int r'), none] [] n w Q) : pm_X gs ro M_X6_markedStep 1 0 0 0 0 58 [some (.ref (b + o0)), some (.int l1), some (.ref (b + o2)), some (.int l3), some (.int l4)] [] n w Q := by
  unfold g_X6_markedStep_j58 at h
  refine pm_iinc (v := (l4 + 1)) dX6_markedStep_58 rfl rfl (by decide) rfl rfl ?_
  refine pm_goto (tgt := 5) dX6_markedStep_61 (by decide) ?_
  refine pm_lw (L' := [some (.ref (b + o0)), some (.int l1), some (.ref (b + o2)), some (.int l3), some (.int (l4 + 1))]) ⟨Or.inr rfl, Or.inr rfl, Or.inr rfl, Or.inr rfl, Or.inr rfl, trivial⟩ ?_
  exact hc _ (Option.some.inj h).symm
def g_X6_markedStep_l5 (F : Nat) (o0 : Nat) (o2 N2 : Nat) (l1 : Int32) (u : rg_U) (l3 : Int32) (l4 : Int32) : Option ((Int32 × Int32) ⊕ (Int32 ⊕ Int32)) :=
  if (rF u o0 11) ≤ l4 then (some (.inr (Sum.inr l3))) else (if 3800 ≤ l4 then (some (.inr (Sum.inr l3))) else (ob (g_X9_isMarked F o2 N2 l4 u) (fun r3 => if r3 = 0 then (g_X6_markedStep_j58 F o0 o2 N2 l1 l3 l4 u) else (ck (inb l4 3800) (if (rA u (o0 + 7) l4) = (-1) then (g_X6_markedStep_j58 F o0 o2 N2 l1 l3 l4 u) else (if l3 = l1 then (some (.inr (Sum.inl l4))) else (g_X6_markedStep_j58 F o0 o2 N2 l1 (l3 + 1) l4 u)))))))
set_option maxHeartbeats 4000000 in
set_option maxRecDepth 100000 in
theorem k_X6_markedStep_l5 {gs : List String} {ro : pm_RO} {n : Nat} {w : Nat → va_E} {b : Nat} {u : rg_U} {F : Nat} {o0 : Nat} {o2 N2 : Nat} {l1 : Int32} {l3 : Int32} {l4 : Int32} {z : (Int32 × Int32) ⊕ (Int32 ⊕ Int32)} {Q : Option Value → Nat → (Nat → va_E) → Prop} (hR : rg shC b u n w) (hs0 : sp_Puts o0) (hs2 : shC[o2]? = some (.inr (.inl (1, N2)))) (h : g_X6_markedStep_l5 F o0 o2 N2 l1 u l3 l4 = some z) (hc : ∀ s', z = .inl s' → pm_X gs ro M_X6_markedStep 1 0 0 0 0 5 [some (.ref (b + o0)), some (.int l1), some (.ref (b + o2)), some (.int s'.1), some (.int s'.2)] [] n w Q) (he0 : ∀ r', z = .inr (Sum.inl r') → pm_X gs ro M_X6_markedStep 1 0 0 0 0 47 [some (.ref (b + o0)), none, none, none, some (.int r')] [] n w Q) (he1 : ∀ r', z = .inr (Sum.inr r') → pm_X gs ro M_X6_markedStep 1 0 0 0 0 64 [none, some (.int l1), none, some (.int r'), none] [] n w Q) : pm_X gs ro M_X6_markedStep 1 0 0 0 0 5 [some (.ref (b + o0)), some (.int l1), some (.ref (b + o2)), some (.int l3), some (.int l4)] [] n w Q := by
  unfold g_X6_markedStep_l5 at h
  refine pm_iload dX6_markedStep_5 rfl ?_
  refine pm_aload_n dX6_markedStep_7 rfl ?_
  refine dx_gi (j := o0) hR dX6_markedStep_8 fl_X6_45 (sp_Puts_self hs0) rfl ?_
  refine pm_icmp_ge (tgt := 64) dX6_markedStep_11 (by decide) (fun c1 => ?_) (fun c1 => ?_)
  · replace h := it_t c1 h
    refine pm_lw (L' := [none, some (.int l1), none, some (.int l3), none]) ⟨Or.inl rfl, Or.inr rfl, Or.inl rfl, Or.inr rfl, Or.inl rfl, trivial⟩ ?_
    exact he1 _ (Option.some.inj h).symm
  · replace h := it_f c1 h
    refine pm_iload dX6_markedStep_14 rfl ?_
    refine pm_sipush (v := 3800) dX6_markedStep_16 (by decide) ?_
    refine pm_icmp_ge (tgt := 64) dX6_markedStep_19 (by decide) (fun c2 => ?_) (fun c2 => ?_)
    · replace h := it_t c2 h
      refine pm_lw (L' := [none, some (.int l1), none, some (.int l3), none]) ⟨Or.inl rfl, Or.inr rfl, Or.inl rfl, Or.inr rfl, Or.inl rfl, trivial⟩ ?_
      exact he1 _ (Option.some.inj h).symm
    · replace h := it_f c2 h
      refine pm_aload_n dX6_markedStep_22 rfl ?_
      refine pm_iload dX6_markedStep_23 rfl ?_
      obtain ⟨r3, h4, h⟩ := ob_some h
      refine dx_cSNp (M := M_X6_markedStep) (Mc := M_X9_isMarked) (dc := 0) (As := [.ref (b + o2), .int l4]) (st := []) dX6_markedStep_25 ml_X6_103 (by decide) (Nat.le_of_ble_eq_true rfl) rfl (k_X9_isMarked hR hs2 h4) ?_
      refine pm_if_eq (tgt := 58) dX6_markedStep_28 (by decide) (fun c5 => ?_) (fun c5 => ?_)
      · replace h := it_t c5 h
        exact k_X6_markedStep_j58 hR hs0 hs2 h hc he0 he1
      · replace h := it_f c5 h
        refine pm_aload_n dX6_markedStep_31 rfl ?_
        refine dx_gr (j := o0) (o := (o0 + 7)) hR dX6_markedStep_32 fl_X6_30 (sp_Puts_self hs0) rfl ?_
        refine pm_iload dX6_markedStep_35 rfl ?_
        obtain ⟨c6, h⟩ := ck_some h
        refine dx_al (j := (o0 + 7)) hR dX6_markedStep_37 (sp_Puts_began hs0) (vp_in_iff.mpr c6) ?_
        refine pm_iconst (v := (-1)) dX6_markedStep_38 (by decide) ?_
        refine pm_icmp_eq (tgt := 58) dX6_markedStep_39 (by decide) (fun c7 => ?_) (fun c7 => ?_)
        · replace h := it_t c7 h
          exact k_X6_markedStep_j58 hR hs0 hs2 h hc he0 he1
        · replace h := it_f c7 h
          refine pm_iload_n dX6_markedStep_42 rfl ?_
          refine pm_iload_n dX6_markedStep_43 rfl ?_
          refine pm_icmp_ne (tgt := 55) dX6_markedStep_44 (by decide) (fun c8 => ?_) (fun c8 => ?_)
          · replace h := it_f c8 h
            refine pm_iinc (v := (l3 + 1)) dX6_markedStep_55 rfl rfl (by decide) rfl rfl ?_
            exact k_X6_markedStep_j58 hR hs0 hs2 h hc he0 he1
          · replace h := it_t c8 h
            refine pm_lw (L' := [some (.ref (b + o0)), none, none, none, some (.int l4)]) ⟨Or.inr rfl, Or.inl rfl, Or.inl rfl, Or.inl rfl, Or.inr rfl, trivial⟩ ?_
            exact he0 _ (Option.some.inj h).symm
def g_X6_markedStep_j64 (F : Nat) (l1 : Int32) (l3 : Int32) (u : rg_U) : Option Int32 :=
  if l1 = (-1) then (some l3) else (some (-1))
set_option maxHeartbeats 4000000 in
set_option maxRecDepth 100000 in
theorem k_X6_markedStep_j64 {gs : List String} {ro : pm_RO} {n : Nat} {w : Nat → va_E} {b : Nat} {u : rg_U} {F : Nat} {l1 : Int32} {l3 : Int32} {z : Int32} (hR : rg shC b u n w) (h : g_X6_markedStep_j64 F l1 l3 u = some z) : pm_X gs ro M_X6_markedStep 1 0 0 0 0 64 [none, some (.int l1), none, some (.int l3), none] [] n w (pm_p n w (some (.int z))) := by
  unfold g_X6_markedStep_j64 at h
  refine pm_iload_n dX6_markedStep_64 rfl ?_
  refine pm_iconst (v := (-1)) dX6_markedStep_65 (by decide) ?_
  refine pm_icmp_ne (tgt := 73) dX6_markedStep_66 (by decide) (fun c14 => ?_) (fun c14 => ?_)
  · replace h := it_f c14 h
    refine pm_iconst (v := (-1)) dX6_markedStep_73 (by decide) ?_
    cases h
    exact pm_iret dX6_markedStep_74 rfl (Nat.le_refl _) (Nat.le_refl _) ⟨rfl, rfl, rfl⟩
  · replace h := it_t c14 h
    refine pm_iload_n dX6_markedStep_69 rfl ?_
    refine pm_goto (tgt := 74) dX6_markedStep_70 (by decide) ?_
    cases h
    exact pm_iret dX6_markedStep_74 rfl (Nat.le_refl _) (Nat.le_refl _) ⟨rfl, rfl, rfl⟩
def g_X6_markedStep (F : Nat) (o0 : Nat) (x1 : Int32) (o2 N2 : Nat) (u : rg_U) : Option Int32 :=
  ob (lp (fun (s : (Int32 × Int32)) => g_X6_markedStep_l5 F o0 o2 N2 x1 u s.1 s.2) F ((0 : Int32), (0 : Int32))) (fun r9 => os r9 (fun r11 => ck (inb r11 3800) (some (rA u (o0 + 7) r11))) (fun r12 => g_X6_markedStep_j64 F x1 r12 u))
set_option maxHeartbeats 4000000 in
set_option maxRecDepth 100000 in
theorem k_X6_markedStep {gs : List String} {ro : pm_RO} {n : Nat} {w : Nat → va_E} {b : Nat} {u : rg_U} {F : Nat} {o0 : Nat} {x1 : Int32} {o2 N2 : Nat} {z : Int32} (hR : rg shC b u n w) (hs0 : sp_Puts o0) (hs2 : shC[o2]? = some (.inr (.inl (1, N2)))) (h : g_X6_markedStep F o0 x1 o2 N2 u = some z) : pm_Met gs ro M_X6_markedStep 1 0 0 [.ref (b + o0), .int x1, .ref (b + o2)] n w (pm_p n w (some (.int z))) := by
  unfold g_X6_markedStep at h
  refine pm_ofX in_X6_markedStep (Nat.le_of_ble_eq_true rfl) rfl (L := [some (.ref (b + o0)), some (.int x1), some (.ref (b + o2)), none, none]) rfl ?_
  refine pm_iconst (v := 0) dX6_markedStep_0 (by decide) ?_
  refine pm_istore_n dX6_markedStep_1 (by decide) rfl rfl ?_
  refine pm_iconst (v := 0) dX6_markedStep_2 (by decide) ?_
  refine pm_istore dX6_markedStep_3 (by decide) rfl rfl ?_
  obtain ⟨r9, h10, h⟩ := ob_some h
  refine lp_sound (P := fun (s : (Int32 × Int32)) => pm_X gs ro M_X6_markedStep 1 0 0 0 0 5 [some (.ref (b + o0)), some (.int x1), some (.ref (b + o2)), some (.int s.1), some (.int s.2)] [] n w (pm_p n w (some (.int z)))) (E := (Sum.elim (fun (r : Int32) => pm_X gs ro M_X6_markedStep 1 0 0 0 0 47 [some (.ref (b + o0)), none, none, none, some (.int r)] [] n w (pm_p n w (some (.int z)))) (fun (r : Int32) => pm_X gs ro M_X6_markedStep 1 0 0 0 0 64 [none, some (.int x1), none, some (.int r), none] [] n w (pm_p n w (some (.int z)))))) (fun s x hx hc he => k_X6_markedStep_l5 hR hs0 hs2 hx hc (fun r q => he (Sum.inl r) q) (fun r q => he (Sum.inr r) q)) F _ r9 h10 ?_
  cases r9 with
  | inl r11 =>
    replace h := os_l h
    refine pm_aload_n dX6_markedStep_47 rfl ?_
    refine dx_gr (j := o0) (o := (o0 + 7)) hR dX6_markedStep_48 fl_X6_30 (sp_Puts_self hs0) rfl ?_
    refine pm_iload dX6_markedStep_51 rfl ?_
    obtain ⟨c13, h⟩ := ck_some h
    refine dx_al (j := (o0 + 7)) hR dX6_markedStep_53 (sp_Puts_began hs0) (vp_in_iff.mpr c13) ?_
    cases h
    exact pm_iret dX6_markedStep_54 rfl (Nat.le_refl _) (Nat.le_refl _) ⟨rfl, rfl, rfl⟩
  | inr r12 =>
    replace h := os_r h
    exact k_X6_markedStep_j64 hR h
def g_X6_markAllAbove_j64 (F : Nat) (o0 : Nat) (o2 N2 : Nat) (l1 : Int32) (l3 : Int32) (u : rg_U) : Option ((Int32 × rg_U) ⊕ rg_U) :=
  some (.inl ((l3 + 1), u))
set_option maxHeartbeats 4000000 in
set_option maxRecDepth 100000 in
theorem k_X6_markAllAbove_j64 {gs : List String} {ro : pm_RO} {n : Nat} {w w1 : Nat → va_E} {b : Nat} {u : rg_U} {F : Nat} {o0 : Nat} {o2 N2 : Nat} {l1 : Int32} {l3 : Int32} {z : ((Int32 × rg_U) ⊕ rg_U)} {Q : Option Value → Nat → (Nat → va_E) → Prop} (hR : rg shC b u n w1) (hk : rg_k b shC.length w w1) (hs0 : sp_Puts o0) (hs2 : shC[o2]? = some (.inr (.inl (1, N2)))) (h : g_X6_markAllAbove_j64 F o0 o2 N2 l1 l3 u = some z) (hc : ∀ s', z = .inl s' → ∀ w1, rg shC b s'.2 n w1 → rg_k b shC.length w w1 → pm_X gs ro M_X6_markAllAbove 2 0 0 0 0 7 [some (.ref (b + o0)), some (.int l1), some (.ref (b + o2)), some (.int s'.1)] [] n w1 Q) (he0 : ∀ r', z = .inr r' → ∀ w1, rg shC b r' n w1 → rg_k b shC.length w w1 → pm_X gs ro M_X6_markAllAbove 2 0 0 0 0 70 [none, none, none, none] [] n w1 Q) : pm_X gs ro M_X6_markAllAbove 2 0 0 0 0 64 [some (.ref (b + o0)), some (.int l1), some (.ref (b + o2)), some (.int l3)] [] n w1 Q := by
  unfold g_X6_markAllAbove_j64 at h
  refine pm_iinc (v := (l3 + 1)) dX6_markAllAbove_64 rfl rfl (by decide) rfl rfl ?_
  refine pm_goto (tgt := 7) dX6_markAllAbove_67 (by decide) ?_
  refine pm_lw (L' := [some (.ref (b + o0)), some (.int l1), some (.ref (b + o2)), some (.int (l3 + 1))]) ⟨Or.inr rfl, Or.inr rfl, Or.inr rfl, Or.inr rfl, trivial⟩ ?_
  exact hc _ (Option.some.inj h).symm _ hR hk
def g_X6_markAllAbove_j58 (F : Nat) (o0 : Nat) (o2 N2 : Nat) (l1 : Int32) (l3 : Int32) (u : rg_U) : Option ((Int32 × rg_U) ⊕ rg_U) :=
  ob (g_X6_mark F o0 o2 N2 l3 u) (fun r10 => g_X6_markAllAbove_j64 F o0 o2 N2 l1 l3 r10)
set_option maxHeartbeats 4000000 in
set_option maxRecDepth 100000 in
theorem k_X6_markAllAbove_j58 {gs : List String} {ro : pm_RO} {n : Nat} {w w1 : Nat → va_E} {b : Nat} {u : rg_U} {F : Nat} {o0 : Nat} {o2 N2 : Nat} {l1 : Int32} {l3 : Int32} {z : ((Int32 × rg_U) ⊕ rg_U)} {Q : Option Value → Nat → (Nat → va_E) → Prop} (hR : rg shC b u n w1) (hk : rg_k b shC.length w w1) (hs0 : sp_Puts o0) (hs2 : shC[o2]? = some (.inr (.inl (1, N2)))) (h : g_X6_markAllAbove_j58 F o0 o2 N2 l1 l3 u = some z) (hc : ∀ s', z = .inl s' → ∀ w1, rg shC b s'.2 n w1 → rg_k b shC.length w w1 → pm_X gs ro M_X6_markAllAbove 2 0 0 0 0 7 [some (.ref (b + o0)), some (.int l1), some (.ref (b + o2)), some (.int s'.1)] [] n w1 Q) (he0 : ∀ r', z = .inr r' → ∀ w1, rg shC b r' n w1 → rg_k b shC.length w w1 → pm_X gs ro M_X6_markAllAbove 2 0 0 0 0 70 [none, none, none, none] [] n w1 Q) : pm_X gs ro M_X6_markAllAbove 2 0 0 0 0 58 [some (.ref (b + o0)), some (.int l1), some (.ref (b + o2)), some (.int l3)] [] n w1 Q := by
  unfold g_X6_markAllAbove_j58 at h
  refine pm_aload_n dX6_markAllAbove_58 rfl ?_
  refine pm_aload_n dX6_markAllAbove_59 rfl ?_
  refine pm_iload_n dX6_markAllAbove_60 rfl ?_
  obtain ⟨r10, h11, h⟩ := ob_some h
  refine dx_cVv (j := o0) (M := M_X6_markAllAbove) (Mc := M_X6_mark) (dc := 1) (As := [.ref (b + o2), .int l3]) (st := []) hR hk dX6_markAllAbove_61 ml_X6_93 ⟨TX6, 12, rfl⟩ (sp_Puts_self hs0) (by decide) (Nat.le_of_ble_eq_true rfl) rfl (k_X6_mark hR hs0 hs2 h11) (fun w12 hR13 hk14 => ?_)
  exact k_X6_markAllAbove_j64 hR13 hk14 hs0 hs2 h hc he0
def g_X6_markAllAbove_l7 (F : Nat) (o0 : Nat) (o2 N2 : Nat) (l1 : Int32) (l3 : Int32) (u : rg_U) : Option ((Int32 × rg_U) ⊕ rg_U) :=
  if (rF u o0 11) ≤ l3 then (some (.inr u)) else (if 3800 ≤ l3 then (some (.inr u)) else (ck (inb l3 3800) (if (rA u (o0 + 8) l3) = l1 then (g_X6_markAllAbove_j58 F o0 o2 N2 l1 l3 u) else (ck (inb l3 3800) (ob (g_X9_isMarked F o2 N2 (rA u (o0 + 9) l3) u) (fun r16 => if r16 = 0 then (ck (inb l3 3800) (ob (g_X9_isMarked F o2 N2 (rA u (o0 + 10) l3) u) (fun r20 => if r20 = 0 then (g_X6_markAllAbove_j64 F o0 o2 N2 l1 l3 u) else (g_X6_markAllAbove_j58 F o0 o2 N2 l1 l3 u)))) else (g_X6_markAllAbove_j58 F o0 o2 N2 l1 l3 u)))))))
set_option maxHeartbeats 4000000 in
set_option maxRecDepth 100000 in
theorem k_X6_markAllAbove_l7 {gs : List String} {ro : pm_RO} {n : Nat} {w w1 : Nat → va_E} {b : Nat} {u : rg_U} {F : Nat} {o0 : Nat} {o2 N2 : Nat} {l1 : Int32} {l3 : Int32} {z : (Int32 × rg_U) ⊕ rg_U} {Q : Option Value → Nat → (Nat → va_E) → Prop} (hR : rg shC b u n w1) (hk : rg_k b shC.length w w1) (hs0 : sp_Puts o0) (hs2 : shC[o2]? = some (.inr (.inl (1, N2)))) (h : g_X6_markAllAbove_l7 F o0 o2 N2 l1 l3 u = some z) (hc : ∀ s', z = .inl s' → ∀ w1, rg shC b s'.2 n w1 → rg_k b shC.length w w1 → pm_X gs ro M_X6_markAllAbove 2 0 0 0 0 7 [some (.ref (b + o0)), some (.int l1), some (.ref (b + o2)), some (.int s'.1)] [] n w1 Q) (he0 : ∀ r', z = .inr r' → ∀ w1, rg shC b r' n w1 → rg_k b shC.length w w1 → pm_X gs ro M_X6_markAllAbove 2 0 0 0 0 70 [none, none, none, none] [] n w1 Q) : pm_X gs ro M_X6_markAllAbove 2 0 0 0 0 7 [some (.ref (b + o0)), some (.int l1), some (.ref (b + o2)), some (.int l3)] [] n w1 Q := by
  unfold g_X6_markAllAbove_l7 at h
  refine pm_iload_n dX6_markAllAbove_7 rfl ?_
  refine pm_aload_n dX6_markAllAbove_8 rfl ?_
  refine dx_gi (j := o0) hR dX6_markAllAbove_9 fl_X6_45 (sp_Puts_self hs0) rfl ?_
  refine pm_icmp_ge (tgt := 70) dX6_markAllAbove_12 (by decide) (fun c6 => ?_) (fun c6 => ?_)
  · replace h := it_t c6 h
    refine pm_lw (L' := [none, none, none, none]) ⟨Or.inl rfl, Or.inl rfl, Or.inl rfl, Or.inl rfl, trivial⟩ ?_
    exact he0 _ (Option.some.inj h).symm _ hR hk
  · replace h := it_f c6 h
    refine pm_iload_n dX6_markAllAbove_15 rfl ?_
    refine pm_sipush (v := 3800) dX6_markAllAbove_16 (by decide) ?_
    refine pm_icmp_ge (tgt := 70) dX6_markAllAbove_19 (by decide) (fun c7 => ?_) (fun c7 => ?_)
    · replace h := it_t c7 h
      refine pm_lw (L' := [none, none, none, none]) ⟨Or.inl rfl, Or.inl rfl, Or.inl rfl, Or.inl rfl, trivial⟩ ?_
      exact he0 _ (Option.some.inj h).symm _ hR hk
    · replace h := it_f c7 h
      refine pm_aload_n dX6_markAllAbove_22 rfl ?_
      refine dx_gr (j := o0) (o := (o0 + 8)) hR dX6_markAllAbove_23 fl_X6_33 (sp_Puts_self hs0) rfl ?_
      refine pm_iload_n dX6_markAllAbove_26 rfl ?_
      obtain ⟨c8, h⟩ := ck_some h
      refine dx_al (j := (o0 + 8)) hR dX6_markAllAbove_27 (sp_Puts_entry hs0) (vp_in_iff.mpr c8) ?_
      refine pm_iload_n dX6_markAllAbove_28 rfl ?_
      refine pm_icmp_eq (tgt := 58) dX6_markAllAbove_29 (by decide) (fun c9 => ?_) (fun c9 => ?_)
      · replace h := it_t c9 h
        exact k_X6_markAllAbove_j58 hR hk hs0 hs2 h hc he0
      · replace h := it_f c9 h
        refine pm_aload_n dX6_markAllAbove_32 rfl ?_
        refine pm_aload_n dX6_markAllAbove_33 rfl ?_
        refine dx_gr (j := o0) (o := (o0 + 9)) hR dX6_markAllAbove_34 fl_X6_36 (sp_Puts_self hs0) rfl ?_
        refine pm_iload_n dX6_markAllAbove_37 rfl ?_
        obtain ⟨c15, h⟩ := ck_some h
        refine dx_al (j := (o0 + 9)) hR dX6_markAllAbove_38 (sp_Puts_lookedOne hs0) (vp_in_iff.mpr c15) ?_
        obtain ⟨r16, h17, h⟩ := ob_some h
        refine dx_cSNp (M := M_X6_markAllAbove) (Mc := M_X9_isMarked) (dc := 0) (As := [.ref (b + o2), .int (rA u (o0 + 9) l3)]) (st := []) dX6_markAllAbove_39 ml_X6_103 (by decide) (Nat.le_of_ble_eq_true rfl) rfl (k_X9_isMarked hR hs2 h17) ?_
        refine pm_if_ne (tgt := 58) dX6_markAllAbove_42 (by decide) (fun c18 => ?_) (fun c18 => ?_)
        · replace h := it_f c18 h
          exact k_X6_markAllAbove_j58 hR hk hs0 hs2 h hc he0
        · replace h := it_t c18 h
          refine pm_aload_n dX6_markAllAbove_45 rfl ?_
          refine pm_aload_n dX6_markAllAbove_46 rfl ?_
          refine dx_gr (j := o0) (o := (o0 + 10)) hR dX6_markAllAbove_47 fl_X6_39 (sp_Puts_self hs0) rfl ?_
          refine pm_iload_n dX6_markAllAbove_50 rfl ?_
          obtain ⟨c19, h⟩ := ck_some h
          refine dx_al (j := (o0 + 10)) hR dX6_markAllAbove_51 (sp_Puts_lookedTwo hs0) (vp_in_iff.mpr c19) ?_
          obtain ⟨r20, h21, h⟩ := ob_some h
          refine dx_cSNp (M := M_X6_markAllAbove) (Mc := M_X9_isMarked) (dc := 0) (As := [.ref (b + o2), .int (rA u (o0 + 10) l3)]) (st := []) dX6_markAllAbove_52 ml_X6_103 (by decide) (Nat.le_of_ble_eq_true rfl) rfl (k_X9_isMarked hR hs2 h21) ?_
          refine pm_if_eq (tgt := 64) dX6_markAllAbove_55 (by decide) (fun c22 => ?_) (fun c22 => ?_)
          · replace h := it_t c22 h
            exact k_X6_markAllAbove_j64 hR hk hs0 hs2 h hc he0
          · replace h := it_f c22 h
            exact k_X6_markAllAbove_j58 hR hk hs0 hs2 h hc he0
def g_X6_markAllAbove (F : Nat) (o0 : Nat) (x1 : Int32) (o2 N2 : Nat) (u : rg_U) : Option rg_U :=
  ob (g_X6_unmarkAll F o0 o2 N2 u) (fun r1 => ob (lp (fun (s : (Int32 × rg_U)) => g_X6_markAllAbove_l7 F o0 o2 N2 x1 s.1 s.2) F ((0 : Int32), r1)) (fun r23 => some r23))
set_option maxHeartbeats 4000000 in
set_option maxRecDepth 100000 in
theorem k_X6_markAllAbove {gs : List String} {ro : pm_RO} {n : Nat} {w : Nat → va_E} {b : Nat} {u : rg_U} {F : Nat} {o0 : Nat} {x1 : Int32} {o2 N2 : Nat} {z : rg_U} (hR : rg shC b u n w) (hs0 : sp_Puts o0) (hs2 : shC[o2]? = some (.inr (.inl (1, N2)))) (h : g_X6_markAllAbove F o0 x1 o2 N2 u = some z) : pm_Met gs ro M_X6_markAllAbove 2 0 0 [.ref (b + o0), .int x1, .ref (b + o2)] n w (rg_post shC b n w none z) := by
  unfold g_X6_markAllAbove at h
  refine pm_ofX in_X6_markAllAbove (Nat.le_of_ble_eq_true rfl) rfl (L := [some (.ref (b + o0)), some (.int x1), some (.ref (b + o2)), none]) rfl ?_
  refine pm_aload_n dX6_markAllAbove_0 rfl ?_
  refine pm_aload_n dX6_markAllAbove_1 rfl ?_
  obtain ⟨r1, h2, h⟩ := ob_some h
  refine dx_cVv (j := o0) (M := M_X6_markAllAbove) (Mc := M_X6_unmarkAll) (dc := 0) (As := [.ref (b + o2)]) (st := []) hR rg_k0 dX6_markAllAbove_2 ml_X6_89 ⟨TX6, 12, rfl⟩ (sp_Puts_self hs0) (by decide) (Nat.le_of_ble_eq_true rfl) rfl (k_X6_unmarkAll hR hs0 hs2 h2) (fun w3 hR4 hk5 => ?_)
  refine pm_iconst (v := 0) dX6_markAllAbove_5 (by decide) ?_
  refine pm_istore_n dX6_markAllAbove_6 (by decide) rfl rfl ?_
  obtain ⟨r23, h24, h⟩ := ob_some h
  refine lp_sound (P := fun (s : (Int32 × rg_U)) => ∀ w1, rg shC b s.2 n w1 → rg_k b shC.length w w1 → pm_X gs ro M_X6_markAllAbove 2 0 0 0 0 7 [some (.ref (b + o0)), some (.int x1), some (.ref (b + o2)), some (.int s.1)] [] n w1 (rg_post shC b n w none z)) (E := (fun (r : rg_U) => ∀ w1, rg shC b r n w1 → rg_k b shC.length w w1 → pm_X gs ro M_X6_markAllAbove 2 0 0 0 0 70 [none, none, none, none] [] n w1 (rg_post shC b n w none z))) (fun s x hx hc he w1 hR1 hk1 => k_X6_markAllAbove_l7 hR1 hk1 hs0 hs2 hx hc (fun r q => he r q)) F _ r23 h24 ?_ _ hR4 hk5
  intro w25 hR26 hk27
  cases h
  exact pm_vret dX6_markAllAbove_70 rfl (Nat.le_refl _) (Nat.le_refl _) ⟨rfl, rfl, hR26, hk27⟩
def g_X7_takeFrom (F : Nat) (o0 : Nat) (o1 : Nat) (x2 : Int32) (u : rg_U) : Option rg_U :=
  ob (g_X5_takeFrom F (o0 + 1) (o1 + 1) u) (fun r1 => ob (g_X3_takeFrom F (o0 + 6) (o1 + 6) r1) (fun r6 => ob (g_X6_takeFrom F (o0 + 12) (o1 + 12) r6) (fun r11 => ob (g_X1_takeFrom F (o0 + 24) (o1 + 24) r11) (fun r16 => ob (g_X2_takeFrom F (o0 + 28) (o1 + 28) r16) (fun r21 => lt1 (sF r21 o0 9 (rF r21 o1 9)) (fun u26 => ob (g_X9_copyRow F (o1 + 30) 3001 (o0 + 30) 3001 ((rF u26 o0 9) + 1) u26) (fun r31 => ob (g_X9_copyRow F (o1 + 31) 3001 (o0 + 31) 3001 ((rF r31 o0 9) + 1) r31) (fun r36 => ob (g_X9_copyRow F (o1 + 32) 3001 (o0 + 32) 3001 ((rF r36 o0 9) + 1) r36) (fun r41 => ob (g_X9_copyRow F (o1 + 33) 3001 (o0 + 33) 3001 ((rF r41 o0 9) + 1) r41) (fun r46 => lt1 (sF r46 o0 10 (rF r46 o1 10)) (fun u51 => lt1 (sF u51 o0 12 (rF u51 o1 12)) (fun u56 => lt1 (sF u56 o0 13 (rF u56 o1 13)) (fun u61 => lt1 (sF u61 o0 14 x2) (fun u66 => some u66))))))))))))))
set_option maxHeartbeats 4000000 in
set_option maxRecDepth 100000 in
theorem k_X7_takeFrom {gs : List String} {ro : pm_RO} {n : Nat} {w : Nat → va_E} {b : Nat} {u : rg_U} {F : Nat} {o0 : Nat} {o1 : Nat} {x2 : Int32} {z : rg_U} (hR : rg shC b u n w) (hs0 : sp_Run o0) (hs1 : sp_Run o1) (h : g_X7_takeFrom F o0 o1 x2 u = some z) : pm_Met gs ro M_X7_takeFrom 3 0 0 [.ref (b + o0), .ref (b + o1), .int x2] n w (rg_post shC b n w none z) := by
  unfold g_X7_takeFrom at h
  refine pm_ofX in_X7_takeFrom (Nat.le_of_ble_eq_true rfl) rfl (L := [some (.ref (b + o0)), some (.ref (b + o1)), some (.int x2)]) rfl ?_
  refine pm_aload_n dX7_takeFrom_0 rfl ?_
  refine dx_gr (j := o0) (o := (o0 + 1)) hR dX7_takeFrom_1 fl_X7_12 (sp_Run_self hs0) rfl ?_
  refine pm_aload_n dX7_takeFrom_4 rfl ?_
  refine dx_gr (j := o1) (o := (o1 + 1)) hR dX7_takeFrom_5 fl_X7_12 (sp_Run_self hs1) rfl ?_
  obtain ⟨r1, h2, h⟩ := ob_some h
  refine dx_cVv (j := (o0 + 1)) (M := M_X7_takeFrom) (Mc := M_X5_takeFrom) (dc := 2) (As := [.ref (b + (o1 + 1))]) (st := []) hR rg_k0 dX7_takeFrom_8 ml_X7_78 ⟨TX5, 4, rfl⟩ (sp_Program_self (sp_Run_program hs0)) (by decide) (Nat.le_of_ble_eq_true rfl) rfl (k_X5_takeFrom hR (sp_Run_program hs0) (sp_Run_program hs1) h2) (fun w3 hR4 hk5 => ?_)
  refine pm_aload_n dX7_takeFrom_11 rfl ?_
  refine dx_gr (j := o0) (o := (o0 + 6)) hR4 dX7_takeFrom_12 fl_X7_21 (sp_Run_self hs0) rfl ?_
  refine pm_aload_n dX7_takeFrom_15 rfl ?_
  refine dx_gr (j := o1) (o := (o1 + 6)) hR4 dX7_takeFrom_16 fl_X7_21 (sp_Run_self hs1) rfl ?_
  obtain ⟨r6, h7, h⟩ := ob_some h
  refine dx_cVv (j := (o0 + 6)) (M := M_X7_takeFrom) (Mc := M_X3_takeFrom) (dc := 2) (As := [.ref (b + (o1 + 6))]) (st := []) hR4 hk5 dX7_takeFrom_19 ml_X7_82 ⟨TX3, 6, rfl⟩ (sp_Log_self (sp_Run_log hs0)) (by decide) (Nat.le_of_ble_eq_true rfl) rfl (k_X3_takeFrom hR4 (sp_Run_log hs0) (sp_Run_log hs1) h7) (fun w8 hR9 hk10 => ?_)
  refine pm_aload_n dX7_takeFrom_22 rfl ?_
  refine dx_gr (j := o0) (o := (o0 + 12)) hR9 dX7_takeFrom_23 fl_X7_28 (sp_Run_self hs0) rfl ?_
  refine pm_aload_n dX7_takeFrom_26 rfl ?_
  refine dx_gr (j := o1) (o := (o1 + 12)) hR9 dX7_takeFrom_27 fl_X7_28 (sp_Run_self hs1) rfl ?_
  obtain ⟨r11, h12, h⟩ := ob_some h
  refine dx_cVv (j := (o0 + 12)) (M := M_X7_takeFrom) (Mc := M_X6_takeFrom) (dc := 2) (As := [.ref (b + (o1 + 12))]) (st := []) hR9 hk10 dX7_takeFrom_30 ml_X7_85 ⟨TX6, 12, rfl⟩ (sp_Puts_self (sp_Run_puts hs0)) (by decide) (Nat.le_of_ble_eq_true rfl) rfl (k_X6_takeFrom hR9 (sp_Run_puts hs0) (sp_Run_puts hs1) h12) (fun w13 hR14 hk15 => ?_)
  refine pm_aload_n dX7_takeFrom_33 rfl ?_
  refine dx_gr (j := o0) (o := (o0 + 24)) hR14 dX7_takeFrom_34 fl_X7_35 (sp_Run_self hs0) rfl ?_
  refine pm_aload_n dX7_takeFrom_37 rfl ?_
  refine dx_gr (j := o1) (o := (o1 + 24)) hR14 dX7_takeFrom_38 fl_X7_35 (sp_Run_self hs1) rfl ?_
  obtain ⟨r16, h17, h⟩ := ob_some h
  refine dx_cVv (j := (o0 + 24)) (M := M_X7_takeFrom) (Mc := M_X1_takeFrom) (dc := 2) (As := [.ref (b + (o1 + 24))]) (st := []) hR14 hk15 dX7_takeFrom_41 ml_X7_88 ⟨TX1, 4, rfl⟩ (sp_Calls_self (sp_Run_calls hs0)) (by decide) (Nat.le_of_ble_eq_true rfl) rfl (k_X1_takeFrom hR14 (sp_Run_calls hs0) (sp_Run_calls hs1) h17) (fun w18 hR19 hk20 => ?_)
  refine pm_aload_n dX7_takeFrom_44 rfl ?_
  refine dx_gr (j := o0) (o := (o0 + 28)) hR19 dX7_takeFrom_45 fl_X7_42 (sp_Run_self hs0) rfl ?_
  refine pm_aload_n dX7_takeFrom_48 rfl ?_
  refine dx_gr (j := o1) (o := (o1 + 28)) hR19 dX7_takeFrom_49 fl_X7_42 (sp_Run_self hs1) rfl ?_
  obtain ⟨r21, h22, h⟩ := ob_some h
  refine dx_cVv (j := (o0 + 28)) (M := M_X7_takeFrom) (Mc := M_X2_takeFrom) (dc := 2) (As := [.ref (b + (o1 + 28))]) (st := []) hR19 hk20 dX7_takeFrom_52 ml_X7_91 ⟨TX2, 5, rfl⟩ (sp_Holding_self (sp_Run_holding hs0)) (by decide) (Nat.le_of_ble_eq_true rfl) rfl (k_X2_takeFrom hR19 (sp_Run_holding hs0) (sp_Run_holding hs1) h22) (fun w23 hR24 hk25 => ?_)
  refine pm_aload_n dX7_takeFrom_55 rfl ?_
  refine pm_aload_n dX7_takeFrom_56 rfl ?_
  refine dx_gi (j := o1) hR24 dX7_takeFrom_57 fl_X7_59 (sp_Run_self hs1) rfl ?_
  obtain ⟨u26, hu27, h⟩ := lt1_ex h
  refine dx_pi (j := o0) hR24 hk25 dX7_takeFrom_60 fl_X7_59 (sp_Run_self hs0) rfl hu27 (fun w28 hR29 hk30 => ?_)
  refine pm_aload_n dX7_takeFrom_63 rfl ?_
  refine dx_gr (j := o1) (o := (o1 + 30)) hR29 dX7_takeFrom_64 fl_X7_46 (sp_Run_self hs1) rfl ?_
  refine pm_aload_n dX7_takeFrom_67 rfl ?_
  refine dx_gr (j := o0) (o := (o0 + 30)) hR29 dX7_takeFrom_68 fl_X7_46 (sp_Run_self hs0) rfl ?_
  refine pm_aload_n dX7_takeFrom_71 rfl ?_
  refine dx_gi (j := o0) hR29 dX7_takeFrom_72 fl_X7_59 (sp_Run_self hs0) rfl ?_
  refine pm_iconst (v := 1) dX7_takeFrom_75 (by decide) ?_
  refine pm_iadd dX7_takeFrom_76 ?_
  obtain ⟨r31, h32, h⟩ := ob_some h
  refine dx_cSNv (M := M_X7_takeFrom) (Mc := M_X9_copyRow) (dc := 1) (As := [.ref (b + (o1 + 30)), .ref (b + (o0 + 30)), .int ((rF u26 o0 9) + 1)]) (st := []) hk30 dX7_takeFrom_77 ml_X7_94 (by decide) (Nat.le_of_ble_eq_true rfl) rfl (k_X9_copyRow hR29 (sp_Run_counter hs1) (sp_Run_counter hs0) h32) (fun w33 hR34 hk35 => ?_)
  refine pm_aload_n dX7_takeFrom_80 rfl ?_
  refine dx_gr (j := o1) (o := (o1 + 31)) hR34 dX7_takeFrom_81 fl_X7_50 (sp_Run_self hs1) rfl ?_
  refine pm_aload_n dX7_takeFrom_84 rfl ?_
  refine dx_gr (j := o0) (o := (o0 + 31)) hR34 dX7_takeFrom_85 fl_X7_50 (sp_Run_self hs0) rfl ?_
  refine pm_aload_n dX7_takeFrom_88 rfl ?_
  refine dx_gi (j := o0) hR34 dX7_takeFrom_89 fl_X7_59 (sp_Run_self hs0) rfl ?_
  refine pm_iconst (v := 1) dX7_takeFrom_92 (by decide) ?_
  refine pm_iadd dX7_takeFrom_93 ?_
  obtain ⟨r36, h37, h⟩ := ob_some h
  refine dx_cSNv (M := M_X7_takeFrom) (Mc := M_X9_copyRow) (dc := 1) (As := [.ref (b + (o1 + 31)), .ref (b + (o0 + 31)), .int ((rF r31 o0 9) + 1)]) (st := []) hk35 dX7_takeFrom_94 ml_X7_94 (by decide) (Nat.le_of_ble_eq_true rfl) rfl (k_X9_copyRow hR34 (sp_Run_outs hs1) (sp_Run_outs hs0) h37) (fun w38 hR39 hk40 => ?_)
  refine pm_aload_n dX7_takeFrom_97 rfl ?_
  refine dx_gr (j := o1) (o := (o1 + 32)) hR39 dX7_takeFrom_98 fl_X7_53 (sp_Run_self hs1) rfl ?_
  refine pm_aload_n dX7_takeFrom_101 rfl ?_
  refine dx_gr (j := o0) (o := (o0 + 32)) hR39 dX7_takeFrom_102 fl_X7_53 (sp_Run_self hs0) rfl ?_
  refine pm_aload_n dX7_takeFrom_105 rfl ?_
  refine dx_gi (j := o0) hR39 dX7_takeFrom_106 fl_X7_59 (sp_Run_self hs0) rfl ?_
  refine pm_iconst (v := 1) dX7_takeFrom_109 (by decide) ?_
  refine pm_iadd dX7_takeFrom_110 ?_
  obtain ⟨r41, h42, h⟩ := ob_some h
  refine dx_cSNv (M := M_X7_takeFrom) (Mc := M_X9_copyRow) (dc := 1) (As := [.ref (b + (o1 + 32)), .ref (b + (o0 + 32)), .int ((rF r36 o0 9) + 1)]) (st := []) hk40 dX7_takeFrom_111 ml_X7_94 (by decide) (Nat.le_of_ble_eq_true rfl) rfl (k_X9_copyRow hR39 (sp_Run_check hs1) (sp_Run_check hs0) h42) (fun w43 hR44 hk45 => ?_)
  refine pm_aload_n dX7_takeFrom_114 rfl ?_
  refine dx_gr (j := o1) (o := (o1 + 33)) hR44 dX7_takeFrom_115 fl_X7_56 (sp_Run_self hs1) rfl ?_
  refine pm_aload_n dX7_takeFrom_118 rfl ?_
  refine dx_gr (j := o0) (o := (o0 + 33)) hR44 dX7_takeFrom_119 fl_X7_56 (sp_Run_self hs0) rfl ?_
  refine pm_aload_n dX7_takeFrom_122 rfl ?_
  refine dx_gi (j := o0) hR44 dX7_takeFrom_123 fl_X7_59 (sp_Run_self hs0) rfl ?_
  refine pm_iconst (v := 1) dX7_takeFrom_126 (by decide) ?_
  refine pm_iadd dX7_takeFrom_127 ?_
  obtain ⟨r46, h47, h⟩ := ob_some h
  refine dx_cSNv (M := M_X7_takeFrom) (Mc := M_X9_copyRow) (dc := 1) (As := [.ref (b + (o1 + 33)), .ref (b + (o0 + 33)), .int ((rF r41 o0 9) + 1)]) (st := []) hk45 dX7_takeFrom_128 ml_X7_94 (by decide) (Nat.le_of_ble_eq_true rfl) rfl (k_X9_copyRow hR44 (sp_Run_top hs1) (sp_Run_top hs0) h47) (fun w48 hR49 hk50 => ?_)
  refine pm_aload_n dX7_takeFrom_131 rfl ?_
  refine pm_aload_n dX7_takeFrom_132 rfl ?_
  refine dx_gi (j := o1) hR49 dX7_takeFrom_133 fl_X7_63 (sp_Run_self hs1) rfl ?_
  obtain ⟨u51, hu52, h⟩ := lt1_ex h
  refine dx_pi (j := o0) hR49 hk50 dX7_takeFrom_136 fl_X7_63 (sp_Run_self hs0) rfl hu52 (fun w53 hR54 hk55 => ?_)
  refine pm_aload_n dX7_takeFrom_139 rfl ?_
  refine pm_aload_n dX7_takeFrom_140 rfl ?_
  refine dx_gi (j := o1) hR54 dX7_takeFrom_141 fl_X7_69 (sp_Run_self hs1) rfl ?_
  obtain ⟨u56, hu57, h⟩ := lt1_ex h
  refine dx_pi (j := o0) hR54 hk55 dX7_takeFrom_144 fl_X7_69 (sp_Run_self hs0) rfl hu57 (fun w58 hR59 hk60 => ?_)
  refine pm_aload_n dX7_takeFrom_147 rfl ?_
  refine pm_aload_n dX7_takeFrom_148 rfl ?_
  refine dx_gi (j := o1) hR59 dX7_takeFrom_149 fl_X7_72 (sp_Run_self hs1) rfl ?_
  obtain ⟨u61, hu62, h⟩ := lt1_ex h
  refine dx_pi (j := o0) hR59 hk60 dX7_takeFrom_152 fl_X7_72 (sp_Run_self hs0) rfl hu62 (fun w63 hR64 hk65 => ?_)
  refine pm_aload_n dX7_takeFrom_155 rfl ?_
  refine pm_iload_n dX7_takeFrom_156 rfl ?_
  obtain ⟨u66, hu67, h⟩ := lt1_ex h
  refine dx_pi (j := o0) hR64 hk65 dX7_takeFrom_157 fl_X7_75 (sp_Run_self hs0) rfl hu67 (fun w68 hR69 hk70 => ?_)
  cases h
  exact pm_vret dX7_takeFrom_160 rfl (Nat.le_refl _) (Nat.le_refl _) ⟨rfl, rfl, hR69, hk70⟩
def g_X7_start (F : Nat) (o0 : Nat) (o1 : Nat) (x2 : Int32) (x3 : Int32) (u : rg_U) : Option rg_U :=
  ob (g_X5_takeFrom F (o0 + 1) o1 u) (fun r1 => lt1 (sF r1 (o0 + 6) 5 0) (fun u6 => ob (g_X6_clear F (o0 + 12) u6) (fun r11 => lt1 (sF r11 (o0 + 24) 3 0) (fun u16 => ob (g_X2_start F (o0 + 28) x2 x3 u16) (fun r21 => ck (inb 0 3001) (lt1 (sA r21 (o0 + 30) 0 0) (fun u27 => ck (inb 0 3001) (lt1 (sA u27 (o0 + 31) 0 0) (fun u33 => ck (inb 0 3001) (lt1 (sA u33 (o0 + 32) 0 0) (fun u39 => ck (inb 0 3001) (lt1 (sA u39 (o0 + 33) 0 (-1)) (fun u45 => lt1 (sF u45 o0 9 0) (fun u50 => lt1 (sF u50 o0 10 0) (fun u55 => lt1 (sF u55 o0 11 (-1)) (fun u60 => lt1 (sF u60 o0 12 0) (fun u65 => lt1 (sF u65 o0 13 0) (fun u70 => some u70))))))))))))))))))
set_option maxHeartbeats 4000000 in
set_option maxRecDepth 100000 in
theorem k_X7_start {gs : List String} {ro : pm_RO} {n : Nat} {w : Nat → va_E} {b : Nat} {u : rg_U} {F : Nat} {o0 : Nat} {o1 : Nat} {x2 : Int32} {x3 : Int32} {z : rg_U} (hR : rg shC b u n w) (hs0 : sp_Run o0) (hs1 : sp_Program o1) (h : g_X7_start F o0 o1 x2 x3 u = some z) : pm_Met gs ro M_X7_start 3 0 0 [.ref (b + o0), .ref (b + o1), .int x2, .int x3] n w (rg_post shC b n w none z) := by
  unfold g_X7_start at h
  refine pm_ofX in_X7_start (Nat.le_of_ble_eq_true rfl) rfl (L := [some (.ref (b + o0)), some (.ref (b + o1)), some (.int x2), some (.int x3)]) rfl ?_
  refine pm_aload_n dX7_start_0 rfl ?_
  refine dx_gr (j := o0) (o := (o0 + 1)) hR dX7_start_1 fl_X7_12 (sp_Run_self hs0) rfl ?_
  refine pm_aload_n dX7_start_4 rfl ?_
  obtain ⟨r1, h2, h⟩ := ob_some h
  refine dx_cVv (j := (o0 + 1)) (M := M_X7_start) (Mc := M_X5_takeFrom) (dc := 2) (As := [.ref (b + o1)]) (st := []) hR rg_k0 dX7_start_5 ml_X7_78 ⟨TX5, 4, rfl⟩ (sp_Program_self (sp_Run_program hs0)) (by decide) (Nat.le_of_ble_eq_true rfl) rfl (k_X5_takeFrom hR (sp_Run_program hs0) hs1 h2) (fun w3 hR4 hk5 => ?_)
  refine pm_aload_n dX7_start_8 rfl ?_
  refine dx_gr (j := o0) (o := (o0 + 6)) hR4 dX7_start_9 fl_X7_21 (sp_Run_self hs0) rfl ?_
  refine pm_iconst (v := 0) dX7_start_12 (by decide) ?_
  obtain ⟨u6, hu7, h⟩ := lt1_ex h
  refine dx_pi (j := (o0 + 6)) hR4 hk5 dX7_start_13 fl_X7_98 (sp_Log_self (sp_Run_log hs0)) rfl hu7 (fun w8 hR9 hk10 => ?_)
  refine pm_aload_n dX7_start_16 rfl ?_
  refine dx_gr (j := o0) (o := (o0 + 12)) hR9 dX7_start_17 fl_X7_28 (sp_Run_self hs0) rfl ?_
  obtain ⟨r11, h12, h⟩ := ob_some h
  refine dx_cVv (j := (o0 + 12)) (M := M_X7_start) (Mc := M_X6_clear) (dc := 1) (As := []) (st := []) hR9 hk10 dX7_start_20 ml_X7_101 ⟨TX6, 12, rfl⟩ (sp_Puts_self (sp_Run_puts hs0)) (by decide) (Nat.le_of_ble_eq_true rfl) rfl (k_X6_clear hR9 (sp_Run_puts hs0) h12) (fun w13 hR14 hk15 => ?_)
  refine pm_aload_n dX7_start_23 rfl ?_
  refine dx_gr (j := o0) (o := (o0 + 24)) hR14 dX7_start_24 fl_X7_35 (sp_Run_self hs0) rfl ?_
  refine pm_iconst (v := 0) dX7_start_27 (by decide) ?_
  obtain ⟨u16, hu17, h⟩ := lt1_ex h
  refine dx_pi (j := (o0 + 24)) hR14 hk15 dX7_start_28 fl_X7_104 (sp_Calls_self (sp_Run_calls hs0)) rfl hu17 (fun w18 hR19 hk20 => ?_)
  refine pm_aload_n dX7_start_31 rfl ?_
  refine dx_gr (j := o0) (o := (o0 + 28)) hR19 dX7_start_32 fl_X7_42 (sp_Run_self hs0) rfl ?_
  refine pm_iload_n dX7_start_35 rfl ?_
  refine pm_iload_n dX7_start_36 rfl ?_
  obtain ⟨r21, h22, h⟩ := ob_some h
  refine dx_cVv (j := (o0 + 28)) (M := M_X7_start) (Mc := M_X2_start) (dc := 0) (As := [.int x2, .int x3]) (st := []) hR19 hk20 dX7_start_37 ml_X7_105 ⟨TX2, 5, rfl⟩ (sp_Holding_self (sp_Run_holding hs0)) (by decide) (Nat.le_of_ble_eq_true rfl) rfl (k_X2_start hR19 (sp_Run_holding hs0) h22) (fun w23 hR24 hk25 => ?_)
  refine pm_aload_n dX7_start_40 rfl ?_
  refine dx_gr (j := o0) (o := (o0 + 30)) hR24 dX7_start_41 fl_X7_46 (sp_Run_self hs0) rfl ?_
  refine pm_iconst (v := 0) dX7_start_44 (by decide) ?_
  refine pm_iconst (v := 0) dX7_start_45 (by decide) ?_
  obtain ⟨c26, h⟩ := ck_some h
  obtain ⟨u27, hu28, h⟩ := lt1_ex h
  refine dx_as (j := (o0 + 30)) hR24 hk25 dX7_start_46 (sp_Run_counter hs0) (vp_in_iff.mpr c26) hu28 (fun w29 hR30 hk31 => ?_)
  refine pm_aload_n dX7_start_47 rfl ?_
  refine dx_gr (j := o0) (o := (o0 + 31)) hR30 dX7_start_48 fl_X7_50 (sp_Run_self hs0) rfl ?_
  refine pm_iconst (v := 0) dX7_start_51 (by decide) ?_
  refine pm_iconst (v := 0) dX7_start_52 (by decide) ?_
  obtain ⟨c32, h⟩ := ck_some h
  obtain ⟨u33, hu34, h⟩ := lt1_ex h
  refine dx_as (j := (o0 + 31)) hR30 hk31 dX7_start_53 (sp_Run_outs hs0) (vp_in_iff.mpr c32) hu34 (fun w35 hR36 hk37 => ?_)
  refine pm_aload_n dX7_start_54 rfl ?_
  refine dx_gr (j := o0) (o := (o0 + 32)) hR36 dX7_start_55 fl_X7_53 (sp_Run_self hs0) rfl ?_
  refine pm_iconst (v := 0) dX7_start_58 (by decide) ?_
  refine pm_iconst (v := 0) dX7_start_59 (by decide) ?_
  obtain ⟨c38, h⟩ := ck_some h
  obtain ⟨u39, hu40, h⟩ := lt1_ex h
  refine dx_as (j := (o0 + 32)) hR36 hk37 dX7_start_60 (sp_Run_check hs0) (vp_in_iff.mpr c38) hu40 (fun w41 hR42 hk43 => ?_)
  refine pm_aload_n dX7_start_61 rfl ?_
  refine dx_gr (j := o0) (o := (o0 + 33)) hR42 dX7_start_62 fl_X7_56 (sp_Run_self hs0) rfl ?_
  refine pm_iconst (v := 0) dX7_start_65 (by decide) ?_
  refine pm_iconst (v := (-1)) dX7_start_66 (by decide) ?_
  obtain ⟨c44, h⟩ := ck_some h
  obtain ⟨u45, hu46, h⟩ := lt1_ex h
  refine dx_as (j := (o0 + 33)) hR42 hk43 dX7_start_67 (sp_Run_top hs0) (vp_in_iff.mpr c44) hu46 (fun w47 hR48 hk49 => ?_)
  refine pm_aload_n dX7_start_68 rfl ?_
  refine pm_iconst (v := 0) dX7_start_69 (by decide) ?_
  obtain ⟨u50, hu51, h⟩ := lt1_ex h
  refine dx_pi (j := o0) hR48 hk49 dX7_start_70 fl_X7_59 (sp_Run_self hs0) rfl hu51 (fun w52 hR53 hk54 => ?_)
  refine pm_aload_n dX7_start_73 rfl ?_
  refine pm_iconst (v := 0) dX7_start_74 (by decide) ?_
  obtain ⟨u55, hu56, h⟩ := lt1_ex h
  refine dx_pi (j := o0) hR53 hk54 dX7_start_75 fl_X7_63 (sp_Run_self hs0) rfl hu56 (fun w57 hR58 hk59 => ?_)
  refine pm_aload_n dX7_start_78 rfl ?_
  refine pm_iconst (v := (-1)) dX7_start_79 (by decide) ?_
  obtain ⟨u60, hu61, h⟩ := lt1_ex h
  refine dx_pi (j := o0) hR58 hk59 dX7_start_80 fl_X7_66 (sp_Run_self hs0) rfl hu61 (fun w62 hR63 hk64 => ?_)
  refine pm_aload_n dX7_start_83 rfl ?_
  refine pm_iconst (v := 0) dX7_start_84 (by decide) ?_
  obtain ⟨u65, hu66, h⟩ := lt1_ex h
  refine dx_pi (j := o0) hR63 hk64 dX7_start_85 fl_X7_69 (sp_Run_self hs0) rfl hu66 (fun w67 hR68 hk69 => ?_)
  refine pm_aload_n dX7_start_88 rfl ?_
  refine pm_iconst (v := 0) dX7_start_89 (by decide) ?_
  obtain ⟨u70, hu71, h⟩ := lt1_ex h
  refine dx_pi (j := o0) hR68 hk69 dX7_start_90 fl_X7_72 (sp_Run_self hs0) rfl hu71 (fun w72 hR73 hk74 => ?_)
  cases h
  exact pm_vret dX7_start_93 rfl (Nat.le_refl _) (Nat.le_refl _) ⟨rfl, rfl, hR73, hk74⟩
def g_X7_outsAt (F : Nat) (o0 : Nat) (x1 : Int32) (u : rg_U) : Option Int32 :=
  ob (g_X7_hasTime F o0 x1 u) (fun r1 => if r1 = 0 then (some 0) else (ck (inb x1 3001) (some (rA u (o0 + 31) x1))))
set_option maxHeartbeats 4000000 in
set_option maxRecDepth 100000 in
theorem k_X7_outsAt {gs : List String} {ro : pm_RO} {n : Nat} {w : Nat → va_E} {b : Nat} {u : rg_U} {F : Nat} {o0 : Nat} {x1 : Int32} {z : Int32} (hR : rg shC b u n w) (hs0 : sp_Run o0) (h : g_X7_outsAt F o0 x1 u = some z) : pm_Met gs ro M_X7_outsAt 1 0 0 [.ref (b + o0), .int x1] n w (pm_p n w (some (.int z))) := by
  unfold g_X7_outsAt at h
  refine pm_ofX in_X7_outsAt (Nat.le_of_ble_eq_true rfl) rfl (L := [some (.ref (b + o0)), some (.int x1)]) rfl ?_
  refine pm_aload_n dX7_outsAt_0 rfl ?_
  refine pm_iload_n dX7_outsAt_1 rfl ?_
  obtain ⟨r1, h2, h⟩ := ob_some h
  refine dx_cVp (j := o0) (M := M_X7_outsAt) (Mc := M_X7_hasTime) (dc := 0) (As := [.int x1]) (st := []) hR dX7_outsAt_2 ml_X7_109 ⟨TX7, 15, rfl⟩ (sp_Run_self hs0) (by decide) (Nat.le_of_ble_eq_true rfl) rfl (k_X7_hasTime hR hs0 h2) ?_
  refine pm_if_eq (tgt := 17) dX7_outsAt_5 (by decide) (fun c3 => ?_) (fun c3 => ?_)
  · replace h := it_t c3 h
    refine pm_iconst (v := 0) dX7_outsAt_17 (by decide) ?_
    cases h
    exact pm_iret dX7_outsAt_18 rfl (Nat.le_refl _) (Nat.le_refl _) ⟨rfl, rfl, rfl⟩
  · replace h := it_f c3 h
    refine pm_aload_n dX7_outsAt_8 rfl ?_
    refine dx_gr (j := o0) (o := (o0 + 31)) hR dX7_outsAt_9 fl_X7_50 (sp_Run_self hs0) rfl ?_
    refine pm_iload_n dX7_outsAt_12 rfl ?_
    obtain ⟨c4, h⟩ := ck_some h
    refine dx_al (j := (o0 + 31)) hR dX7_outsAt_13 (sp_Run_outs hs0) (vp_in_iff.mpr c4) ?_
    refine pm_goto (tgt := 18) dX7_outsAt_14 (by decide) ?_
    cases h
    exact pm_iret dX7_outsAt_18 rfl (Nat.le_refl _) (Nat.le_refl _) ⟨rfl, rfl, rfl⟩
def g_X7_checkAt (F : Nat) (o0 : Nat) (x1 : Int32) (u : rg_U) : Option Int32 :=
  ob (g_X7_hasTime F o0 x1 u) (fun r1 => if r1 = 0 then (some 0) else (ck (inb x1 3001) (some (rA u (o0 + 32) x1))))
set_option maxHeartbeats 4000000 in
set_option maxRecDepth 100000 in
theorem k_X7_checkAt {gs : List String} {ro : pm_RO} {n : Nat} {w : Nat → va_E} {b : Nat} {u : rg_U} {F : Nat} {o0 : Nat} {x1 : Int32} {z : Int32} (hR : rg shC b u n w) (hs0 : sp_Run o0) (h : g_X7_checkAt F o0 x1 u = some z) : pm_Met gs ro M_X7_checkAt 1 0 0 [.ref (b + o0), .int x1] n w (pm_p n w (some (.int z))) := by
  unfold g_X7_checkAt at h
  refine pm_ofX in_X7_checkAt (Nat.le_of_ble_eq_true rfl) rfl (L := [some (.ref (b + o0)), some (.int x1)]) rfl ?_
  refine pm_aload_n dX7_checkAt_0 rfl ?_
  refine pm_iload_n dX7_checkAt_1 rfl ?_
  obtain ⟨r1, h2, h⟩ := ob_some h
  refine dx_cVp (j := o0) (M := M_X7_checkAt) (Mc := M_X7_hasTime) (dc := 0) (As := [.int x1]) (st := []) hR dX7_checkAt_2 ml_X7_109 ⟨TX7, 15, rfl⟩ (sp_Run_self hs0) (by decide) (Nat.le_of_ble_eq_true rfl) rfl (k_X7_hasTime hR hs0 h2) ?_
  refine pm_if_eq (tgt := 17) dX7_checkAt_5 (by decide) (fun c3 => ?_) (fun c3 => ?_)
  · replace h := it_t c3 h
    refine pm_iconst (v := 0) dX7_checkAt_17 (by decide) ?_
    cases h
    exact pm_iret dX7_checkAt_18 rfl (Nat.le_refl _) (Nat.le_refl _) ⟨rfl, rfl, rfl⟩
  · replace h := it_f c3 h
    refine pm_aload_n dX7_checkAt_8 rfl ?_
    refine dx_gr (j := o0) (o := (o0 + 32)) hR dX7_checkAt_9 fl_X7_53 (sp_Run_self hs0) rfl ?_
    refine pm_iload_n dX7_checkAt_12 rfl ?_
    obtain ⟨c4, h⟩ := ck_some h
    refine dx_al (j := (o0 + 32)) hR dX7_checkAt_13 (sp_Run_check hs0) (vp_in_iff.mpr c4) ?_
    refine pm_goto (tgt := 18) dX7_checkAt_14 (by decide) ?_
    cases h
    exact pm_iret dX7_checkAt_18 rfl (Nat.le_refl _) (Nat.le_refl _) ⟨rfl, rfl, rfl⟩
def g_X7_stackSizeAt_l8 (F : Nat) (o0 : Nat) (u : rg_U) (l2 : Int32) (l3 : Int32) : Option ((Int32 × Int32) ⊕ Int32) :=
  if l3 = (-1) then (some (.inr l2)) else (if 8 ≤ l2 then (some (.inr l2)) else (ob (g_X7_topAt F o0 l3 u) (fun r5 => some (.inl ((l2 + 1), r5)))))
set_option maxHeartbeats 4000000 in
set_option maxRecDepth 100000 in
theorem k_X7_stackSizeAt_l8 {gs : List String} {ro : pm_RO} {n : Nat} {w : Nat → va_E} {b : Nat} {u : rg_U} {F : Nat} {o0 : Nat} {l2 : Int32} {l3 : Int32} {z : (Int32 × Int32) ⊕ Int32} {Q : Option Value → Nat → (Nat → va_E) → Prop} (hR : rg shC b u n w) (hs0 : sp_Run o0) (h : g_X7_stackSizeAt_l8 F o0 u l2 l3 = some z) (hc : ∀ s', z = .inl s' → pm_X gs ro M_X7_stackSizeAt 2 0 0 0 0 8 [some (.ref (b + o0)), none, some (.int s'.1), some (.int s'.2)] [] n w Q) (he0 : ∀ r', z = .inr r' → pm_X gs ro M_X7_stackSizeAt 2 0 0 0 0 31 [none, none, some (.int r'), none] [] n w Q) : pm_X gs ro M_X7_stackSizeAt 2 0 0 0 0 8 [some (.ref (b + o0)), none, some (.int l2), some (.int l3)] [] n w Q := by
  unfold g_X7_stackSizeAt_l8 at h
  refine pm_iload_n dX7_stackSizeAt_8 rfl ?_
  refine pm_iconst (v := (-1)) dX7_stackSizeAt_9 (by decide) ?_
  refine pm_icmp_eq (tgt := 31) dX7_stackSizeAt_10 (by decide) (fun c3 => ?_) (fun c3 => ?_)
  · replace h := it_t c3 h
    refine pm_lw (L' := [none, none, some (.int l2), none]) ⟨Or.inl rfl, Or.inl rfl, Or.inr rfl, Or.inl rfl, trivial⟩ ?_
    exact he0 _ (Option.some.inj h).symm
  · replace h := it_f c3 h
    refine pm_iload_n dX7_stackSizeAt_13 rfl ?_
    refine pm_bipush (v := 8) dX7_stackSizeAt_14 (by decide) ?_
    refine pm_icmp_ge (tgt := 31) dX7_stackSizeAt_16 (by decide) (fun c4 => ?_) (fun c4 => ?_)
    · replace h := it_t c4 h
      refine pm_lw (L' := [none, none, some (.int l2), none]) ⟨Or.inl rfl, Or.inl rfl, Or.inr rfl, Or.inl rfl, trivial⟩ ?_
      exact he0 _ (Option.some.inj h).symm
    · replace h := it_f c4 h
      refine pm_iinc (v := (l2 + 1)) dX7_stackSizeAt_19 rfl rfl (by decide) rfl rfl ?_
      refine pm_aload_n dX7_stackSizeAt_22 rfl ?_
      refine pm_iload_n dX7_stackSizeAt_23 rfl ?_
      obtain ⟨r5, h6, h⟩ := ob_some h
      refine dx_cVp (j := o0) (M := M_X7_stackSizeAt) (Mc := M_X7_topAt) (dc := 1) (As := [.int l3]) (st := []) hR dX7_stackSizeAt_24 ml_X7_113 ⟨TX7, 15, rfl⟩ (sp_Run_self hs0) (by decide) (Nat.le_of_ble_eq_true rfl) rfl (k_X7_topAt hR hs0 h6) ?_
      refine pm_istore_n dX7_stackSizeAt_27 (by decide) rfl rfl ?_
      refine pm_goto (tgt := 8) dX7_stackSizeAt_28 (by decide) ?_
      refine pm_lw (L' := [some (.ref (b + o0)), none, some (.int (l2 + 1)), some (.int r5)]) ⟨Or.inr rfl, Or.inl rfl, Or.inr rfl, Or.inr rfl, trivial⟩ ?_
      exact hc _ (Option.some.inj h).symm
def g_X7_stackSizeAt (F : Nat) (o0 : Nat) (x1 : Int32) (u : rg_U) : Option Int32 :=
  ob (g_X7_topAt F o0 x1 u) (fun r1 => ob (lp (fun (s : (Int32 × Int32)) => g_X7_stackSizeAt_l8 F o0 u s.1 s.2) F ((0 : Int32), (r1 : Int32))) (fun r7 => some r7))
set_option maxHeartbeats 4000000 in
set_option maxRecDepth 100000 in
theorem k_X7_stackSizeAt {gs : List String} {ro : pm_RO} {n : Nat} {w : Nat → va_E} {b : Nat} {u : rg_U} {F : Nat} {o0 : Nat} {x1 : Int32} {z : Int32} (hR : rg shC b u n w) (hs0 : sp_Run o0) (h : g_X7_stackSizeAt F o0 x1 u = some z) : pm_Met gs ro M_X7_stackSizeAt 2 0 0 [.ref (b + o0), .int x1] n w (pm_p n w (some (.int z))) := by
  unfold g_X7_stackSizeAt at h
  refine pm_ofX in_X7_stackSizeAt (Nat.le_of_ble_eq_true rfl) rfl (L := [some (.ref (b + o0)), some (.int x1), none, none]) rfl ?_
  refine pm_iconst (v := 0) dX7_stackSizeAt_0 (by decide) ?_
  refine pm_istore_n dX7_stackSizeAt_1 (by decide) rfl rfl ?_
  refine pm_aload_n dX7_stackSizeAt_2 rfl ?_
  refine pm_iload_n dX7_stackSizeAt_3 rfl ?_
  obtain ⟨r1, h2, h⟩ := ob_some h
  refine dx_cVp (j := o0) (M := M_X7_stackSizeAt) (Mc := M_X7_topAt) (dc := 1) (As := [.int x1]) (st := []) hR dX7_stackSizeAt_4 ml_X7_113 ⟨TX7, 15, rfl⟩ (sp_Run_self hs0) (by decide) (Nat.le_of_ble_eq_true rfl) rfl (k_X7_topAt hR hs0 h2) ?_
  refine pm_istore_n dX7_stackSizeAt_7 (by decide) rfl rfl ?_
  refine pm_lw (L' := [some (.ref (b + o0)), none, some (.int 0), some (.int r1)]) ⟨Or.inr rfl, Or.inl rfl, Or.inr rfl, Or.inr rfl, trivial⟩ ?_
  obtain ⟨r7, h8, h⟩ := ob_some h
  refine lp_sound (P := fun (s : (Int32 × Int32)) => pm_X gs ro M_X7_stackSizeAt 2 0 0 0 0 8 [some (.ref (b + o0)), none, some (.int s.1), some (.int s.2)] [] n w (pm_p n w (some (.int z)))) (E := (fun (r : Int32) => pm_X gs ro M_X7_stackSizeAt 2 0 0 0 0 31 [none, none, some (.int r), none] [] n w (pm_p n w (some (.int z))))) (fun s x hx hc he => k_X7_stackSizeAt_l8 hR hs0 hx hc (fun r q => he r q)) F _ r7 h8 ?_
  refine pm_iload_n dX7_stackSizeAt_31 rfl ?_
  cases h
  exact pm_iret dX7_stackSizeAt_32 rfl (Nat.le_refl _) (Nat.le_refl _) ⟨rfl, rfl, rfl⟩
def g_X7_stackedAt_l30 (F : Nat) (o0 : Nat) (l2 : Int32) (u : rg_U) (l4 : Int32) (l5 : Int32) : Option ((Int32 × Int32) ⊕ Int32) :=
  if l5 ≤ l2 then (some (.inr l4)) else (ob (g_X7_topAt F o0 l4 u) (fun r8 => some (.inl (r8, (l5 + (-1))))))
set_option maxHeartbeats 4000000 in
set_option maxRecDepth 100000 in
theorem k_X7_stackedAt_l30 {gs : List String} {ro : pm_RO} {n : Nat} {w : Nat → va_E} {b : Nat} {u : rg_U} {F : Nat} {o0 : Nat} {l2 : Int32} {l4 : Int32} {l5 : Int32} {z : (Int32 × Int32) ⊕ Int32} {Q : Option Value → Nat → (Nat → va_E) → Prop} (hR : rg shC b u n w) (hs0 : sp_Run o0) (h : g_X7_stackedAt_l30 F o0 l2 u l4 l5 = some z) (hc : ∀ s', z = .inl s' → pm_X gs ro M_X7_stackedAt 3 0 0 0 0 30 [some (.ref (b + o0)), none, some (.int l2), none, some (.int s'.1), some (.int s'.2)] [] n w Q) (he0 : ∀ r', z = .inr r' → pm_X gs ro M_X7_stackedAt 3 0 0 0 0 50 [some (.ref (b + o0)), none, none, none, some (.int r'), none] [] n w Q) : pm_X gs ro M_X7_stackedAt 3 0 0 0 0 30 [some (.ref (b + o0)), none, some (.int l2), none, some (.int l4), some (.int l5)] [] n w Q := by
  unfold g_X7_stackedAt_l30 at h
  refine pm_iload dX7_stackedAt_30 rfl ?_
  refine pm_iload_n dX7_stackedAt_32 rfl ?_
  refine pm_icmp_le (tgt := 50) dX7_stackedAt_33 (by decide) (fun c7 => ?_) (fun c7 => ?_)
  · replace h := it_t c7 h
    refine pm_lw (L' := [some (.ref (b + o0)), none, none, none, some (.int l4), none]) ⟨Or.inr rfl, Or.inl rfl, Or.inl rfl, Or.inl rfl, Or.inr rfl, Or.inl rfl, trivial⟩ ?_
    exact he0 _ (Option.some.inj h).symm
  · replace h := it_f c7 h
    refine pm_aload_n dX7_stackedAt_36 rfl ?_
    refine pm_iload dX7_stackedAt_37 rfl ?_
    obtain ⟨r8, h9, h⟩ := ob_some h
    refine dx_cVp (j := o0) (M := M_X7_stackedAt) (Mc := M_X7_topAt) (dc := 1) (As := [.int l4]) (st := []) hR dX7_stackedAt_39 ml_X7_113 ⟨TX7, 15, rfl⟩ (sp_Run_self hs0) (by decide) (Nat.le_of_ble_eq_true rfl) rfl (k_X7_topAt hR hs0 h9) ?_
    refine pm_istore dX7_stackedAt_42 (by decide) rfl rfl ?_
    refine pm_iinc (v := (l5 + (-1))) dX7_stackedAt_44 rfl rfl (by decide) rfl rfl ?_
    refine pm_goto (tgt := 30) dX7_stackedAt_47 (by decide) ?_
    refine pm_lw (L' := [some (.ref (b + o0)), none, some (.int l2), none, some (.int r8), some (.int (l5 + (-1)))]) ⟨Or.inr rfl, Or.inl rfl, Or.inr rfl, Or.inl rfl, Or.inr rfl, Or.inr rfl, trivial⟩ ?_
    exact hc _ (Option.some.inj h).symm
def g_X7_stackedAt (F : Nat) (o0 : Nat) (x1 : Int32) (x2 : Int32) (u : rg_U) : Option Int32 :=
  ob (g_X7_stackSizeAt F o0 x1 u) (fun r1 => if x2 < 0 then (some (-1000001)) else (if x2 < r1 then (ob (g_X7_topAt F o0 x1 u) (fun r5 => ob (lp (fun (s : (Int32 × Int32)) => g_X7_stackedAt_l30 F o0 x2 u s.1 s.2) F ((r5 : Int32), ((r1 - 1) : Int32))) (fun r10 => ob (g_X7_counterAt F o0 r10 u) (fun r12 => some (r12 + 1))))) else (some (-1000001))))
set_option maxHeartbeats 4000000 in
set_option maxRecDepth 100000 in
theorem k_X7_stackedAt {gs : List String} {ro : pm_RO} {n : Nat} {w : Nat → va_E} {b : Nat} {u : rg_U} {F : Nat} {o0 : Nat} {x1 : Int32} {x2 : Int32} {z : Int32} (hR : rg shC b u n w) (hs0 : sp_Run o0) (h : g_X7_stackedAt F o0 x1 x2 u = some z) : pm_Met gs ro M_X7_stackedAt 3 0 0 [.ref (b + o0), .int x1, .int x2] n w (pm_p n w (some (.int z))) := by
  unfold g_X7_stackedAt at h
  refine pm_ofX in_X7_stackedAt (Nat.le_of_ble_eq_true rfl) rfl (L := [some (.ref (b + o0)), some (.int x1), some (.int x2), none, none, none]) rfl ?_
  refine pm_aload_n dX7_stackedAt_0 rfl ?_
  refine pm_iload_n dX7_stackedAt_1 rfl ?_
  obtain ⟨r1, h2, h⟩ := ob_some h
  refine dx_cVp (j := o0) (M := M_X7_stackedAt) (Mc := M_X7_stackSizeAt) (dc := 2) (As := [.int x1]) (st := []) hR dX7_stackedAt_2 ml_X7_117 ⟨TX7, 15, rfl⟩ (sp_Run_self hs0) (by decide) (Nat.le_of_ble_eq_true rfl) rfl (k_X7_stackSizeAt hR hs0 h2) ?_
  refine pm_istore_n dX7_stackedAt_5 (by decide) rfl rfl ?_
  refine pm_iload_n dX7_stackedAt_6 rfl ?_
  refine pm_if_lt (tgt := 15) dX7_stackedAt_7 (by decide) (fun c3 => ?_) (fun c3 => ?_)
  · replace h := it_t c3 h
    refine pm_ldc (v := (-1000001)) dX7_stackedAt_15 kc_X7_120 ?_
    cases h
    exact pm_iret dX7_stackedAt_17 rfl (Nat.le_refl _) (Nat.le_refl _) ⟨rfl, rfl, rfl⟩
  · replace h := it_f c3 h
    refine pm_iload_n dX7_stackedAt_10 rfl ?_
    refine pm_iload_n dX7_stackedAt_11 rfl ?_
    refine pm_icmp_lt (tgt := 18) dX7_stackedAt_12 (by decide) (fun c4 => ?_) (fun c4 => ?_)
    · replace h := it_t c4 h
      refine pm_aload_n dX7_stackedAt_18 rfl ?_
      refine pm_iload_n dX7_stackedAt_19 rfl ?_
      obtain ⟨r5, h6, h⟩ := ob_some h
      refine dx_cVp (j := o0) (M := M_X7_stackedAt) (Mc := M_X7_topAt) (dc := 1) (As := [.int x1]) (st := []) hR dX7_stackedAt_20 ml_X7_113 ⟨TX7, 15, rfl⟩ (sp_Run_self hs0) (by decide) (Nat.le_of_ble_eq_true rfl) rfl (k_X7_topAt hR hs0 h6) ?_
      refine pm_istore dX7_stackedAt_23 (by decide) rfl rfl ?_
      refine pm_iload_n dX7_stackedAt_25 rfl ?_
      refine pm_iconst (v := 1) dX7_stackedAt_26 (by decide) ?_
      refine pm_isub dX7_stackedAt_27 ?_
      refine pm_istore dX7_stackedAt_28 (by decide) rfl rfl ?_
      refine pm_lw (L' := [some (.ref (b + o0)), none, some (.int x2), none, some (.int r5), some (.int (r1 - 1))]) ⟨Or.inr rfl, Or.inl rfl, Or.inr rfl, Or.inl rfl, Or.inr rfl, Or.inr rfl, trivial⟩ ?_
      obtain ⟨r10, h11, h⟩ := ob_some h
      refine lp_sound (P := fun (s : (Int32 × Int32)) => pm_X gs ro M_X7_stackedAt 3 0 0 0 0 30 [some (.ref (b + o0)), none, some (.int x2), none, some (.int s.1), some (.int s.2)] [] n w (pm_p n w (some (.int z)))) (E := (fun (r : Int32) => pm_X gs ro M_X7_stackedAt 3 0 0 0 0 50 [some (.ref (b + o0)), none, none, none, some (.int r), none] [] n w (pm_p n w (some (.int z))))) (fun s x hx hc he => k_X7_stackedAt_l30 hR hs0 hx hc (fun r q => he r q)) F _ r10 h11 ?_
      refine pm_aload_n dX7_stackedAt_50 rfl ?_
      refine pm_iload dX7_stackedAt_51 rfl ?_
      obtain ⟨r12, h13, h⟩ := ob_some h
      refine dx_cVp (j := o0) (M := M_X7_stackedAt) (Mc := M_X7_counterAt) (dc := 1) (As := [.int r10]) (st := []) hR dX7_stackedAt_53 ml_X7_121 ⟨TX7, 15, rfl⟩ (sp_Run_self hs0) (by decide) (Nat.le_of_ble_eq_true rfl) rfl (k_X7_counterAt hR hs0 h13) ?_
      refine pm_iconst (v := 1) dX7_stackedAt_56 (by decide) ?_
      refine pm_iadd dX7_stackedAt_57 ?_
      cases h
      exact pm_iret dX7_stackedAt_58 rfl (Nat.le_refl _) (Nat.le_refl _) ⟨rfl, rfl, rfl⟩
    · replace h := it_f c4 h
      refine pm_ldc (v := (-1000001)) dX7_stackedAt_15 kc_X7_120 ?_
      cases h
      exact pm_iret dX7_stackedAt_17 rfl (Nat.le_refl _) (Nat.le_refl _) ⟨rfl, rfl, rfl⟩
def g_X7_statusWith_j55 (F : Nat) (o0 : Nat) (u : rg_U) : Option Int32 :=
  ob (g_X3_isFull F (o0 + 6) u) (fun r8 => if r8 = 0 then (some 0) else (some 3))
set_option maxHeartbeats 4000000 in
set_option maxRecDepth 100000 in
theorem k_X7_statusWith_j55 {gs : List String} {ro : pm_RO} {n : Nat} {w : Nat → va_E} {b : Nat} {u : rg_U} {F : Nat} {o0 : Nat} {z : Int32} (hR : rg shC b u n w) (hs0 : sp_Run o0) (h : g_X7_statusWith_j55 F o0 u = some z) : pm_X gs ro M_X7_statusWith 2 0 0 0 0 55 [some (.ref (b + o0)), none, none] [] n w (pm_p n w (some (.int z))) := by
  unfold g_X7_statusWith_j55 at h
  refine pm_aload_n dX7_statusWith_55 rfl ?_
  refine dx_gr (j := o0) (o := (o0 + 6)) hR dX7_statusWith_56 fl_X7_21 (sp_Run_self hs0) rfl ?_
  obtain ⟨r8, h9, h⟩ := ob_some h
  refine dx_cVp (j := (o0 + 6)) (M := M_X7_statusWith) (Mc := M_X3_isFull) (dc := 0) (As := []) (st := []) hR dX7_statusWith_59 ml_X7_132 ⟨TX3, 6, rfl⟩ (sp_Log_self (sp_Run_log hs0)) (by decide) (Nat.le_of_ble_eq_true rfl) rfl (k_X3_isFull hR (sp_Run_log hs0) h9) ?_
  refine pm_if_eq (tgt := 67) dX7_statusWith_62 (by decide) (fun c10 => ?_) (fun c10 => ?_)
  · replace h := it_t c10 h
    refine pm_iconst (v := 0) dX7_statusWith_67 (by decide) ?_
    cases h
    exact pm_iret dX7_statusWith_68 rfl (Nat.le_refl _) (Nat.le_refl _) ⟨rfl, rfl, rfl⟩
  · replace h := it_f c10 h
    refine pm_iconst (v := 3) dX7_statusWith_65 (by decide) ?_
    cases h
    exact pm_iret dX7_statusWith_66 rfl (Nat.le_refl _) (Nat.le_refl _) ⟨rfl, rfl, rfl⟩
def g_X7_statusWith_j43 (F : Nat) (o0 : Nat) (l2 : Int32) (u : rg_U) : Option Int32 :=
  if l2 = 19 then (g_X7_statusWith_j55 F o0 u) else (if l2 = 20 then (g_X7_statusWith_j55 F o0 u) else (some 0))
set_option maxHeartbeats 4000000 in
set_option maxRecDepth 100000 in
theorem k_X7_statusWith_j43 {gs : List String} {ro : pm_RO} {n : Nat} {w : Nat → va_E} {b : Nat} {u : rg_U} {F : Nat} {o0 : Nat} {l2 : Int32} {z : Int32} (hR : rg shC b u n w) (hs0 : sp_Run o0) (h : g_X7_statusWith_j43 F o0 l2 u = some z) : pm_X gs ro M_X7_statusWith 2 0 0 0 0 43 [some (.ref (b + o0)), none, some (.int l2)] [] n w (pm_p n w (some (.int z))) := by
  unfold g_X7_statusWith_j43 at h
  refine pm_iload_n dX7_statusWith_43 rfl ?_
  refine pm_bipush (v := 19) dX7_statusWith_44 (by decide) ?_
  refine pm_icmp_eq (tgt := 55) dX7_statusWith_46 (by decide) (fun c7 => ?_) (fun c7 => ?_)
  · replace h := it_t c7 h
    refine pm_lw (L' := [some (.ref (b + o0)), none, none]) ⟨Or.inr rfl, Or.inl rfl, Or.inl rfl, trivial⟩ ?_
    exact k_X7_statusWith_j55 hR hs0 h
  · replace h := it_f c7 h
    refine pm_iload_n dX7_statusWith_49 rfl ?_
    refine pm_bipush (v := 20) dX7_statusWith_50 (by decide) ?_
    refine pm_icmp_ne (tgt := 67) dX7_statusWith_52 (by decide) (fun c11 => ?_) (fun c11 => ?_)
    · replace h := it_f c11 h
      refine pm_iconst (v := 0) dX7_statusWith_67 (by decide) ?_
      cases h
      exact pm_iret dX7_statusWith_68 rfl (Nat.le_refl _) (Nat.le_refl _) ⟨rfl, rfl, rfl⟩
    · replace h := it_t c11 h
      refine pm_lw (L' := [some (.ref (b + o0)), none, none]) ⟨Or.inr rfl, Or.inl rfl, Or.inl rfl, trivial⟩ ?_
      exact k_X7_statusWith_j55 hR hs0 h
def g_X7_statusWith (F : Nat) (o0 : Nat) (u : rg_U) : Option Int32 :=
  if (rF u o0 10) = 0 then (ob (g_X7_counterAt F o0 (rF u o0 9) u) (fun r2 => ob (g_X5_kindAt F (o0 + 1) r2 u) (fun r4 => if r4 = 19 then (if (rF u 6 2) = 0 then (some 1) else (g_X7_statusWith_j43 F o0 r4 u)) else (g_X7_statusWith_j43 F o0 r4 u)))) else (some (rF u o0 10))
set_option maxHeartbeats 4000000 in
set_option maxRecDepth 100000 in
theorem k_X7_statusWith {gs : List String} {ro : pm_RO} {n : Nat} {w : Nat → va_E} {b : Nat} {u : rg_U} {F : Nat} {o0 : Nat} {z : Int32} (hR : rg shC b u n w) (hs0 : sp_Run o0) (h : g_X7_statusWith F o0 u = some z) : pm_Met gs ro M_X7_statusWith 2 0 0 [.ref (b + o0), .ref (b + 6)] n w (pm_p n w (some (.int z))) := by
  unfold g_X7_statusWith at h
  refine pm_ofX in_X7_statusWith (Nat.le_of_ble_eq_true rfl) rfl (L := [some (.ref (b + o0)), some (.ref (b + 6)), none]) rfl ?_
  refine pm_aload_n dX7_statusWith_0 rfl ?_
  refine dx_gi (j := o0) hR dX7_statusWith_1 fl_X7_63 (sp_Run_self hs0) rfl ?_
  refine pm_if_eq (tgt := 12) dX7_statusWith_4 (by decide) (fun c1 => ?_) (fun c1 => ?_)
  · replace h := it_t c1 h
    refine pm_aload_n dX7_statusWith_12 rfl ?_
    refine dx_gr (j := o0) (o := (o0 + 1)) hR dX7_statusWith_13 fl_X7_12 (sp_Run_self hs0) rfl ?_
    refine pm_aload_n dX7_statusWith_16 rfl ?_
    refine pm_aload_n dX7_statusWith_17 rfl ?_
    refine dx_gi (j := o0) hR dX7_statusWith_18 fl_X7_59 (sp_Run_self hs0) rfl ?_
    obtain ⟨r2, h3, h⟩ := ob_some h
    refine dx_cVp (j := o0) (M := M_X7_statusWith) (Mc := M_X7_counterAt) (dc := 1) (As := [.int (rF u o0 9)]) (st := [.ref (b + (o0 + 1))]) hR dX7_statusWith_21 ml_X7_121 ⟨TX7, 15, rfl⟩ (sp_Run_self hs0) (by decide) (Nat.le_of_ble_eq_true rfl) rfl (k_X7_counterAt hR hs0 h3) ?_
    obtain ⟨r4, h5, h⟩ := ob_some h
    refine dx_cVp (j := (o0 + 1)) (M := M_X7_statusWith) (Mc := M_X5_kindAt) (dc := 1) (As := [.int r2]) (st := []) hR dX7_statusWith_24 ml_X7_124 ⟨TX5, 4, rfl⟩ (sp_Program_self (sp_Run_program hs0)) (by decide) (Nat.le_of_ble_eq_true rfl) rfl (k_X5_kindAt hR (sp_Run_program hs0) h5) ?_
    refine pm_istore_n dX7_statusWith_27 (by decide) rfl rfl ?_
    refine pm_iload_n dX7_statusWith_28 rfl ?_
    refine pm_bipush (v := 19) dX7_statusWith_29 (by decide) ?_
    refine pm_icmp_ne (tgt := 43) dX7_statusWith_31 (by decide) (fun c6 => ?_) (fun c6 => ?_)
    · replace h := it_f c6 h
      refine pm_lw (L' := [some (.ref (b + o0)), none, some (.int r4)]) ⟨Or.inr rfl, Or.inl rfl, Or.inr rfl, trivial⟩ ?_
      exact k_X7_statusWith_j43 hR hs0 h
    · replace h := it_t c6 h
      refine pm_aload_n dX7_statusWith_34 rfl ?_
      refine dx_gi (j := 6) hR dX7_statusWith_35 fl_X7_127 rfl rfl ?_
      refine pm_if_ne (tgt := 43) dX7_statusWith_38 (by decide) (fun c12 => ?_) (fun c12 => ?_)
      · replace h := it_f c12 h
        refine pm_lw (L' := [some (.ref (b + o0)), none, some (.int r4)]) ⟨Or.inr rfl, Or.inl rfl, Or.inr rfl, trivial⟩ ?_
        exact k_X7_statusWith_j43 hR hs0 h
      · replace h := it_t c12 h
        refine pm_iconst (v := 1) dX7_statusWith_41 (by decide) ?_
        cases h
        exact pm_iret dX7_statusWith_42 rfl (Nat.le_refl _) (Nat.le_refl _) ⟨rfl, rfl, rfl⟩
  · replace h := it_f c1 h
    refine pm_aload_n dX7_statusWith_7 rfl ?_
    refine dx_gi (j := o0) hR dX7_statusWith_8 fl_X7_63 (sp_Run_self hs0) rfl ?_
    cases h
    exact pm_iret dX7_statusWith_11 rfl (Nat.le_refl _) (Nat.le_refl _) ⟨rfl, rfl, rfl⟩
def g_X7_canStep (F : Nat) (o0 : Nat) (u : rg_U) : Option Int32 :=
  if 3000 ≤ (rF u o0 9) then (some 0) else (ob (g_X7_statusWith F o0 u) (fun r2 => if r2 = 0 then (some 1) else (some 0)))
set_option maxHeartbeats 4000000 in
set_option maxRecDepth 100000 in
theorem k_X7_canStep {gs : List String} {ro : pm_RO} {n : Nat} {w : Nat → va_E} {b : Nat} {u : rg_U} {F : Nat} {o0 : Nat} {z : Int32} (hR : rg shC b u n w) (hs0 : sp_Run o0) (h : g_X7_canStep F o0 u = some z) : pm_Met gs ro M_X7_canStep 3 0 0 [.ref (b + o0), .ref (b + 6)] n w (pm_p n w (some (.int z))) := by
  unfold g_X7_canStep at h
  refine pm_ofX in_X7_canStep (Nat.le_of_ble_eq_true rfl) rfl (L := [some (.ref (b + o0)), some (.ref (b + 6))]) rfl ?_
  refine pm_aload_n dX7_canStep_0 rfl ?_
  refine dx_gi (j := o0) hR dX7_canStep_1 fl_X7_59 (sp_Run_self hs0) rfl ?_
  refine pm_sipush (v := 3000) dX7_canStep_4 (by decide) ?_
  refine pm_icmp_ge (tgt := 22) dX7_canStep_7 (by decide) (fun c1 => ?_) (fun c1 => ?_)
  · replace h := it_t c1 h
    refine pm_iconst (v := 0) dX7_canStep_22 (by decide) ?_
    cases h
    exact pm_zret dX7_canStep_23 rfl (Or.inl rfl) (Nat.le_refl _) (Nat.le_refl _) ⟨rfl, rfl, rfl⟩
  · replace h := it_f c1 h
    refine pm_aload_n dX7_canStep_10 rfl ?_
    refine pm_aload_n dX7_canStep_11 rfl ?_
    obtain ⟨r2, h3, h⟩ := ob_some h
    refine dx_cVp (j := o0) (M := M_X7_canStep) (Mc := M_X7_statusWith) (dc := 2) (As := [.ref (b + 6)]) (st := []) hR dX7_canStep_12 ml_X7_136 ⟨TX7, 15, rfl⟩ (sp_Run_self hs0) (by decide) (Nat.le_of_ble_eq_true rfl) rfl (k_X7_statusWith hR hs0 h3) ?_
    refine pm_if_ne (tgt := 22) dX7_canStep_15 (by decide) (fun c4 => ?_) (fun c4 => ?_)
    · replace h := it_f c4 h
      refine pm_iconst (v := 0) dX7_canStep_22 (by decide) ?_
      cases h
      exact pm_zret dX7_canStep_23 rfl (Or.inl rfl) (Nat.le_refl _) (Nat.le_refl _) ⟨rfl, rfl, rfl⟩
    · replace h := it_t c4 h
      refine pm_iconst (v := 1) dX7_canStep_18 (by decide) ?_
      refine pm_goto (tgt := 23) dX7_canStep_19 (by decide) ?_
      cases h
      exact pm_zret dX7_canStep_23 rfl (Or.inr rfl) (Nat.le_refl _) (Nat.le_refl _) ⟨rfl, rfl, rfl⟩
def g_X7_putByStep (F : Nat) (o0 : Nat) (x1 : Int32) (x2 : Int32) (x3 : Int32) (x4 : Int32) (x5 : Int32) (u : rg_U) : Option rg_U :=
  ob (g_X6_add F (o0 + 12) ((rF u o0 9) + 1) x1 x2 x3 u) (fun r1 => ob (g_X6_restLatestOn F (o0 + 12) (rF r1.2 o0 9) (-1) x4 x5 r1.2) (fun r6 => if r1.1 = 0 then (lt1 (sF r6 o0 11 (-1)) (fun u12 => some u12)) else (lt1 (sF r6 o0 11 x1) (fun u17 => some u17))))
set_option maxHeartbeats 4000000 in
set_option maxRecDepth 100000 in
theorem k_X7_putByStep {gs : List String} {ro : pm_RO} {n : Nat} {w : Nat → va_E} {b : Nat} {u : rg_U} {F : Nat} {o0 : Nat} {x1 : Int32} {x2 : Int32} {x3 : Int32} {x4 : Int32} {x5 : Int32} {z : rg_U} (hR : rg shC b u n w) (hs0 : sp_Run o0) (h : g_X7_putByStep F o0 x1 x2 x3 x4 x5 u = some z) : pm_Met gs ro M_X7_putByStep 3 0 0 [.ref (b + o0), .int x1, .int x2, .int x3, .int x4, .int x5] n w (rg_post shC b n w none z) := by
  unfold g_X7_putByStep at h
  refine pm_ofX in_X7_putByStep (Nat.le_of_ble_eq_true rfl) rfl (L := [some (.ref (b + o0)), some (.int x1), some (.int x2), some (.int x3), some (.int x4), some (.int x5), none]) rfl ?_
  refine pm_aload_n dX7_putByStep_0 rfl ?_
  refine dx_gr (j := o0) (o := (o0 + 12)) hR dX7_putByStep_1 fl_X7_28 (sp_Run_self hs0) rfl ?_
  refine pm_aload_n dX7_putByStep_4 rfl ?_
  refine dx_gi (j := o0) hR dX7_putByStep_5 fl_X7_59 (sp_Run_self hs0) rfl ?_
  refine pm_iconst (v := 1) dX7_putByStep_8 (by decide) ?_
  refine pm_iadd dX7_putByStep_9 ?_
  refine pm_iload_n dX7_putByStep_10 rfl ?_
  refine pm_iload_n dX7_putByStep_11 rfl ?_
  refine pm_iload_n dX7_putByStep_12 rfl ?_
  obtain ⟨r1, h2, h⟩ := ob_some h
  refine dx_cVi (j := (o0 + 12)) (M := M_X7_putByStep) (Mc := M_X6_add) (dc := 2) (As := [.int ((rF u o0 9) + 1), .int x1, .int x2, .int x3]) (st := []) hR rg_k0 dX7_putByStep_13 ml_X7_160 ⟨TX6, 12, rfl⟩ (sp_Puts_self (sp_Run_puts hs0)) (by decide) (Nat.le_of_ble_eq_true rfl) rfl (k_X6_add hR (sp_Run_puts hs0) h2) (fun w3 hR4 hk5 => ?_)
  refine pm_istore dX7_putByStep_16 (by decide) rfl rfl ?_
  refine pm_aload_n dX7_putByStep_18 rfl ?_
  refine dx_gr (j := o0) (o := (o0 + 12)) hR4 dX7_putByStep_19 fl_X7_28 (sp_Run_self hs0) rfl ?_
  refine pm_aload_n dX7_putByStep_22 rfl ?_
  refine dx_gi (j := o0) hR4 dX7_putByStep_23 fl_X7_59 (sp_Run_self hs0) rfl ?_
  refine pm_iconst (v := (-1)) dX7_putByStep_26 (by decide) ?_
  refine pm_iload dX7_putByStep_27 rfl ?_
  refine pm_iload dX7_putByStep_29 rfl ?_
  obtain ⟨r6, h7, h⟩ := ob_some h
  refine dx_cVv (j := (o0 + 12)) (M := M_X7_putByStep) (Mc := M_X6_restLatestOn) (dc := 1) (As := [.int (rF r1.2 o0 9), .int (-1), .int x4, .int x5]) (st := []) hR4 hk5 dX7_putByStep_31 ml_X7_164 ⟨TX6, 12, rfl⟩ (sp_Puts_self (sp_Run_puts hs0)) (by decide) (Nat.le_of_ble_eq_true rfl) rfl (k_X6_restLatestOn hR4 (sp_Run_puts hs0) h7) (fun w8 hR9 hk10 => ?_)
  refine pm_aload_n dX7_putByStep_34 rfl ?_
  refine pm_iload dX7_putByStep_35 rfl ?_
  refine pm_if_eq (tgt := 44) dX7_putByStep_37 (by decide) (fun c11 => ?_) (fun c11 => ?_)
  · replace h := it_t c11 h
    refine pm_iconst (v := (-1)) dX7_putByStep_44 (by decide) ?_
    obtain ⟨u12, hu13, h⟩ := lt1_ex h
    refine dx_pi (j := o0) hR9 hk10 dX7_putByStep_45 fl_X7_66 (sp_Run_self hs0) rfl hu13 (fun w14 hR15 hk16 => ?_)
    cases h
    exact pm_vret dX7_putByStep_48 rfl (Nat.le_refl _) (Nat.le_refl _) ⟨rfl, rfl, hR15, hk16⟩
  · replace h := it_f c11 h
    refine pm_iload_n dX7_putByStep_40 rfl ?_
    refine pm_goto (tgt := 45) dX7_putByStep_41 (by decide) ?_
    obtain ⟨u17, hu18, h⟩ := lt1_ex h
    refine dx_pi (j := o0) hR9 hk10 dX7_putByStep_45 fl_X7_66 (sp_Run_self hs0) rfl hu18 (fun w19 hR20 hk21 => ?_)
    cases h
    exact pm_vret dX7_putByStep_48 rfl (Nat.le_refl _) (Nat.le_refl _) ⟨rfl, rfl, hR20, hk21⟩
def g_X8_copy (F : Nat) (o0 : Nat) (x1 : Int32) (x2 : Int32) (u : rg_U) : Option rg_U :=
  ob (g_X6_sortOf F (o0 + 12) x2 u) (fun r1 => ob (g_X6_numberOf F (o0 + 12) x2 u) (fun r3 => ob (g_X7_putByStep F o0 x1 r1 r3 x2 (-1) u) (fun r5 => some r5)))
set_option maxHeartbeats 4000000 in
set_option maxRecDepth 100000 in
theorem k_X8_copy {gs : List String} {ro : pm_RO} {n : Nat} {w : Nat → va_E} {b : Nat} {u : rg_U} {F : Nat} {o0 : Nat} {x1 : Int32} {x2 : Int32} {z : rg_U} (hR : rg shC b u n w) (hs0 : sp_Run o0) (h : g_X8_copy F o0 x1 x2 u = some z) : pm_Met gs ro M_X8_copy 4 0 0 [.ref (b + o0), .int x1, .int x2] n w (rg_post shC b n w none z) := by
  unfold g_X8_copy at h
  refine pm_ofX in_X8_copy (Nat.le_of_ble_eq_true rfl) rfl (L := [some (.ref (b + o0)), some (.int x1), some (.int x2)]) rfl ?_
  refine pm_aload_n dX8_copy_0 rfl ?_
  refine pm_iload_n dX8_copy_1 rfl ?_
  refine pm_aload_n dX8_copy_2 rfl ?_
  refine dx_gr (j := o0) (o := (o0 + 12)) hR dX8_copy_3 fl_X8_38 (sp_Run_self hs0) rfl ?_
  refine pm_iload_n dX8_copy_6 rfl ?_
  obtain ⟨r1, h2, h⟩ := ob_some h
  refine dx_cVp (j := (o0 + 12)) (M := M_X8_copy) (Mc := M_X6_sortOf) (dc := 0) (As := [.int x2]) (st := [.int x1, .ref (b + o0)]) hR dX8_copy_7 ml_X8_103 ⟨TX6, 12, rfl⟩ (sp_Puts_self (sp_Run_puts hs0)) (by decide) (Nat.le_of_ble_eq_true rfl) rfl (k_X6_sortOf hR (sp_Run_puts hs0) h2) ?_
  refine pm_aload_n dX8_copy_10 rfl ?_
  refine dx_gr (j := o0) (o := (o0 + 12)) hR dX8_copy_11 fl_X8_38 (sp_Run_self hs0) rfl ?_
  refine pm_iload_n dX8_copy_14 rfl ?_
  obtain ⟨r3, h4, h⟩ := ob_some h
  refine dx_cVp (j := (o0 + 12)) (M := M_X8_copy) (Mc := M_X6_numberOf) (dc := 0) (As := [.int x2]) (st := [.int r1, .int x1, .ref (b + o0)]) hR dX8_copy_15 ml_X8_106 ⟨TX6, 12, rfl⟩ (sp_Puts_self (sp_Run_puts hs0)) (by decide) (Nat.le_of_ble_eq_true rfl) rfl (k_X6_numberOf hR (sp_Run_puts hs0) h4) ?_
  refine pm_iload_n dX8_copy_18 rfl ?_
  refine pm_iconst (v := (-1)) dX8_copy_19 (by decide) ?_
  obtain ⟨r5, h6, h⟩ := ob_some h
  refine dx_cVv (j := o0) (M := M_X8_copy) (Mc := M_X7_putByStep) (dc := 3) (As := [.int x1, .int r1, .int r3, .int x2, .int (-1)]) (st := []) hR rg_k0 dX8_copy_20 ml_X8_34 ⟨TX7, 15, rfl⟩ (sp_Run_self hs0) (by decide) (Nat.le_of_ble_eq_true rfl) rfl (k_X7_putByStep hR hs0 h6) (fun w7 hR8 hk9 => ?_)
  cases h
  exact pm_vret dX8_copy_23 rfl (Nat.le_refl _) (Nat.le_refl _) ⟨rfl, rfl, hR8, hk9⟩
def g_X8_compare_j39 (F : Nat) (o0 : Nat) (l2 : Int32) (l3 : Int32) (s0 : Int32) (s1 : Int32) (s2 : Int32) (u : rg_U) : Option rg_U :=
  ob (g_X7_putByStep F o0 s2 s1 s0 l2 l3 u) (fun r8 => some r8)
set_option maxHeartbeats 4000000 in
set_option maxRecDepth 100000 in
theorem k_X8_compare_j39 {gs : List String} {ro : pm_RO} {n : Nat} {w w1 : Nat → va_E} {b : Nat} {u : rg_U} {F : Nat} {o0 : Nat} {l2 : Int32} {l3 : Int32} {s0 : Int32} {s1 : Int32} {s2 : Int32} {z : rg_U} (hR : rg shC b u n w1) (hk : rg_k b shC.length w w1) (hs0 : sp_Run o0) (h : g_X8_compare_j39 F o0 l2 l3 s0 s1 s2 u = some z) : pm_X gs ro M_X8_compare 4 0 0 0 0 39 [none, none, some (.int l2), some (.int l3), none] [.int s0, .int s1, .int s2, .ref (b + o0)] n w1 (rg_post shC b n w none z) := by
  unfold g_X8_compare_j39 at h
  refine pm_iload_n dX8_compare_39 rfl ?_
  refine pm_iload_n dX8_compare_40 rfl ?_
  obtain ⟨r8, h9, h⟩ := ob_some h
  refine dx_cVv (j := o0) (M := M_X8_compare) (Mc := M_X7_putByStep) (dc := 3) (As := [.int s2, .int s1, .int s0, .int l2, .int l3]) (st := []) hR hk dX8_compare_41 ml_X8_34 ⟨TX7, 15, rfl⟩ (sp_Run_self hs0) (by decide) (Nat.le_of_ble_eq_true rfl) rfl (k_X7_putByStep hR hs0 h9) (fun w10 hR11 hk12 => ?_)
  cases h
  exact pm_vret dX8_compare_44 rfl (Nat.le_refl _) (Nat.le_refl _) ⟨rfl, rfl, hR11, hk12⟩
def g_X8_compare (F : Nat) (o0 : Nat) (x1 : Int32) (x2 : Int32) (x3 : Int32) (u : rg_U) : Option rg_U :=
  ob (g_X6_sortOf F (o0 + 12) x3 u) (fun r1 => ob (g_X6_numberOf F (o0 + 12) x3 u) (fun r3 => ob (g_X6_hasValue F (o0 + 12) x2 r1 r3 u) (fun r5 => if r5 = 0 then (g_X8_compare_j39 F o0 x2 x3 0 1 x1 u) else (g_X8_compare_j39 F o0 x2 x3 1 1 x1 u))))
set_option maxHeartbeats 4000000 in
set_option maxRecDepth 100000 in
theorem k_X8_compare {gs : List String} {ro : pm_RO} {n : Nat} {w : Nat → va_E} {b : Nat} {u : rg_U} {F : Nat} {o0 : Nat} {x1 : Int32} {x2 : Int32} {x3 : Int32} {z : rg_U} (hR : rg shC b u n w) (hs0 : sp_Run o0) (h : g_X8_compare F o0 x1 x2 x3 u = some z) : pm_Met gs ro M_X8_compare 4 0 0 [.ref (b + o0), .int x1, .int x2, .int x3] n w (rg_post shC b n w none z) := by
  unfold g_X8_compare at h
  refine pm_ofX in_X8_compare (Nat.le_of_ble_eq_true rfl) rfl (L := [some (.ref (b + o0)), some (.int x1), some (.int x2), some (.int x3), none]) rfl ?_
  refine pm_aload_n dX8_compare_0 rfl ?_
  refine dx_gr (j := o0) (o := (o0 + 12)) hR dX8_compare_1 fl_X8_38 (sp_Run_self hs0) rfl ?_
  refine pm_iload_n dX8_compare_4 rfl ?_
  refine pm_aload_n dX8_compare_5 rfl ?_
  refine dx_gr (j := o0) (o := (o0 + 12)) hR dX8_compare_6 fl_X8_38 (sp_Run_self hs0) rfl ?_
  refine pm_iload_n dX8_compare_9 rfl ?_
  obtain ⟨r1, h2, h⟩ := ob_some h
  refine dx_cVp (j := (o0 + 12)) (M := M_X8_compare) (Mc := M_X6_sortOf) (dc := 0) (As := [.int x3]) (st := [.int x2, .ref (b + (o0 + 12))]) hR dX8_compare_10 ml_X8_103 ⟨TX6, 12, rfl⟩ (sp_Puts_self (sp_Run_puts hs0)) (by decide) (Nat.le_of_ble_eq_true rfl) rfl (k_X6_sortOf hR (sp_Run_puts hs0) h2) ?_
  refine pm_aload_n dX8_compare_13 rfl ?_
  refine dx_gr (j := o0) (o := (o0 + 12)) hR dX8_compare_14 fl_X8_38 (sp_Run_self hs0) rfl ?_
  refine pm_iload_n dX8_compare_17 rfl ?_
  obtain ⟨r3, h4, h⟩ := ob_some h
  refine dx_cVp (j := (o0 + 12)) (M := M_X8_compare) (Mc := M_X6_numberOf) (dc := 0) (As := [.int x3]) (st := [.int r1, .int x2, .ref (b + (o0 + 12))]) hR dX8_compare_18 ml_X8_106 ⟨TX6, 12, rfl⟩ (sp_Puts_self (sp_Run_puts hs0)) (by decide) (Nat.le_of_ble_eq_true rfl) rfl (k_X6_numberOf hR (sp_Run_puts hs0) h4) ?_
  obtain ⟨r5, h6, h⟩ := ob_some h
  refine dx_cVp (j := (o0 + 12)) (M := M_X8_compare) (Mc := M_X6_hasValue) (dc := 1) (As := [.int x2, .int r1, .int r3]) (st := []) hR dX8_compare_21 ml_X8_113 ⟨TX6, 12, rfl⟩ (sp_Puts_self (sp_Run_puts hs0)) (by decide) (Nat.le_of_ble_eq_true rfl) rfl (k_X6_hasValue hR (sp_Run_puts hs0) h6) ?_
  refine pm_istore dX8_compare_24 (by decide) rfl rfl ?_
  refine pm_aload_n dX8_compare_26 rfl ?_
  refine pm_iload_n dX8_compare_27 rfl ?_
  refine pm_iconst (v := 1) dX8_compare_28 (by decide) ?_
  refine pm_iload dX8_compare_29 rfl ?_
  refine pm_if_eq (tgt := 38) dX8_compare_31 (by decide) (fun c7 => ?_) (fun c7 => ?_)
  · replace h := it_t c7 h
    refine pm_iconst (v := 0) dX8_compare_38 (by decide) ?_
    refine pm_lw (L' := [none, none, some (.int x2), some (.int x3), none]) ⟨Or.inl rfl, Or.inl rfl, Or.inr rfl, Or.inr rfl, Or.inl rfl, trivial⟩ ?_
    exact k_X8_compare_j39 hR rg_k0 hs0 h
  · replace h := it_f c7 h
    refine pm_iconst (v := 1) dX8_compare_34 (by decide) ?_
    refine pm_goto (tgt := 39) dX8_compare_35 (by decide) ?_
    refine pm_lw (L' := [none, none, some (.int x2), some (.int x3), none]) ⟨Or.inl rfl, Or.inl rfl, Or.inr rfl, Or.inr rfl, Or.inl rfl, trivial⟩ ?_
    exact k_X8_compare_j39 hR rg_k0 hs0 h
