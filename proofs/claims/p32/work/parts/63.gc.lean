theorem dX2_stepsToFind_0 : decode cX2_stepsToFind 0 = .ok (.iconst 0, 1) := by decide +kernel
theorem dX2_stepsToFind_1 : decode cX2_stepsToFind 1 = .ok (.istore_n 3, 1) := by decide +kernel
theorem dX2_stepsToFind_2 : decode cX2_stepsToFind 2 = .ok (.iload_n 2, 1) := by decide +kernel
theorem dX2_stepsToFind_3 : decode cX2_stepsToFind 3 = .ok (.istore 4, 2) := by decide +kernel
theorem dX2_stepsToFind_5 : decode cX2_stepsToFind 5 = .ok (.aload_n 0, 1) := by decide +kernel
theorem dX2_stepsToFind_6 : decode cX2_stepsToFind 6 = .ok (.getfield 15, 3) := by decide +kernel
theorem dX2_stepsToFind_9 : decode cX2_stepsToFind 9 = .ok (.iconst 1, 1) := by decide +kernel
theorem dX2_stepsToFind_10 : decode cX2_stepsToFind 10 = .ok (.isub, 1) := by decide +kernel
theorem dX2_stepsToFind_11 : decode cX2_stepsToFind 11 = .ok (.istore 5, 2) := by decide +kernel
theorem dX2_stepsToFind_13 : decode cX2_stepsToFind 13 = .ok (.iload 5, 2) := by decide +kernel
theorem dX2_stepsToFind_15 : decode cX2_stepsToFind 15 = .ok (.ifCond .lt 48, 3) := by decide +kernel
theorem dX2_stepsToFind_18 : decode cX2_stepsToFind 18 = .ok (.iload 4, 2) := by decide +kernel
theorem dX2_stepsToFind_20 : decode cX2_stepsToFind 20 = .ok (.iload_n 1, 1) := by decide +kernel
theorem dX2_stepsToFind_21 : decode cX2_stepsToFind 21 = .ok (.if_icmp .lt 42, 3) := by decide +kernel
theorem dX2_stepsToFind_24 : decode cX2_stepsToFind 24 = .ok (.aload_n 0, 1) := by decide +kernel
theorem dX2_stepsToFind_25 : decode cX2_stepsToFind 25 = .ok (.iload 5, 2) := by decide +kernel
theorem dX2_stepsToFind_27 : decode cX2_stepsToFind 27 = .ok (.invokevirtual 53, 3) := by decide +kernel
theorem dX2_stepsToFind_30 : decode cX2_stepsToFind 30 = .ok (.iload 4, 2) := by decide +kernel
theorem dX2_stepsToFind_32 : decode cX2_stepsToFind 32 = .ok (.if_icmp .gt 25, 3) := by decide +kernel
theorem dX2_stepsToFind_35 : decode cX2_stepsToFind 35 = .ok (.iload_n 3, 1) := by decide +kernel
theorem dX2_stepsToFind_36 : decode cX2_stepsToFind 36 = .ok (.iload 4, 2) := by decide +kernel
theorem dX2_stepsToFind_38 : decode cX2_stepsToFind 38 = .ok (.aload_n 0, 1) := by decide +kernel
theorem dX2_stepsToFind_39 : decode cX2_stepsToFind 39 = .ok (.iload 5, 2) := by decide +kernel
theorem dX2_stepsToFind_41 : decode cX2_stepsToFind 41 = .ok (.invokevirtual 53, 3) := by decide +kernel
theorem dX2_stepsToFind_44 : decode cX2_stepsToFind 44 = .ok (.isub, 1) := by decide +kernel
theorem dX2_stepsToFind_45 : decode cX2_stepsToFind 45 = .ok (.iadd, 1) := by decide +kernel
theorem dX2_stepsToFind_46 : decode cX2_stepsToFind 46 = .ok (.istore_n 3, 1) := by decide +kernel
theorem dX2_stepsToFind_47 : decode cX2_stepsToFind 47 = .ok (.aload_n 0, 1) := by decide +kernel
theorem dX2_stepsToFind_48 : decode cX2_stepsToFind 48 = .ok (.iload 5, 2) := by decide +kernel
theorem dX2_stepsToFind_50 : decode cX2_stepsToFind 50 = .ok (.invokevirtual 53, 3) := by decide +kernel
theorem dX2_stepsToFind_53 : decode cX2_stepsToFind 53 = .ok (.iconst 1, 1) := by decide +kernel
theorem dX2_stepsToFind_54 : decode cX2_stepsToFind 54 = .ok (.isub, 1) := by decide +kernel
theorem dX2_stepsToFind_55 : decode cX2_stepsToFind 55 = .ok (.istore 4, 2) := by decide +kernel
theorem dX2_stepsToFind_57 : decode cX2_stepsToFind 57 = .ok (.iinc 5 (-1), 3) := by decide +kernel
theorem dX2_stepsToFind_60 : decode cX2_stepsToFind 60 = .ok (.goto (-47), 3) := by decide +kernel
theorem dX2_stepsToFind_63 : decode cX2_stepsToFind 63 = .ok (.iload_n 3, 1) := by decide +kernel
theorem dX2_stepsToFind_64 : decode cX2_stepsToFind 64 = .ok (.ireturn, 1) := by decide +kernel
theorem dX3_add_0 : decode cX3_add 0 = .ok (.aload_n 0, 1) := by decide +kernel
theorem dX3_add_1 : decode cX3_add 1 = .ok (.getfield 27, 3) := by decide +kernel
theorem dX3_add_4 : decode cX3_add 4 = .ok (.ifCond .lt 75, 3) := by decide +kernel
theorem dX3_add_7 : decode cX3_add 7 = .ok (.aload_n 0, 1) := by decide +kernel
theorem dX3_add_8 : decode cX3_add 8 = .ok (.getfield 27, 3) := by decide +kernel
theorem dX3_add_11 : decode cX3_add 11 = .ok (.sipush 800, 3) := by decide +kernel
theorem dX3_add_14 : decode cX3_add 14 = .ok (.if_icmp .ge 65, 3) := by decide +kernel
theorem dX3_add_17 : decode cX3_add 17 = .ok (.aload_n 0, 1) := by decide +kernel
theorem dX3_add_18 : decode cX3_add 18 = .ok (.getfield 9, 3) := by decide +kernel
theorem dX3_add_21 : decode cX3_add 21 = .ok (.aload_n 0, 1) := by decide +kernel
theorem dX3_add_22 : decode cX3_add 22 = .ok (.getfield 27, 3) := by decide +kernel
theorem dX3_add_25 : decode cX3_add 25 = .ok (.iload_n 1, 1) := by decide +kernel
theorem dX3_add_26 : decode cX3_add 26 = .ok (.iastore, 1) := by decide +kernel
theorem dX3_add_27 : decode cX3_add 27 = .ok (.aload_n 0, 1) := by decide +kernel
theorem dX3_add_28 : decode cX3_add 28 = .ok (.getfield 15, 3) := by decide +kernel
theorem dX3_add_31 : decode cX3_add 31 = .ok (.aload_n 0, 1) := by decide +kernel
theorem dX3_add_32 : decode cX3_add 32 = .ok (.getfield 27, 3) := by decide +kernel
theorem dX3_add_35 : decode cX3_add 35 = .ok (.iload_n 2, 1) := by decide +kernel
theorem dX3_add_36 : decode cX3_add 36 = .ok (.iastore, 1) := by decide +kernel
theorem dX3_add_37 : decode cX3_add 37 = .ok (.aload_n 0, 1) := by decide +kernel
theorem dX3_add_38 : decode cX3_add 38 = .ok (.getfield 21, 3) := by decide +kernel
theorem dX3_add_41 : decode cX3_add 41 = .ok (.aload_n 0, 1) := by decide +kernel
theorem dX3_add_42 : decode cX3_add 42 = .ok (.getfield 27, 3) := by decide +kernel
theorem dX3_add_45 : decode cX3_add 45 = .ok (.iload_n 3, 1) := by decide +kernel
theorem dX3_add_46 : decode cX3_add 46 = .ok (.iastore, 1) := by decide +kernel
theorem dX3_add_47 : decode cX3_add 47 = .ok (.aload_n 0, 1) := by decide +kernel
theorem dX3_add_48 : decode cX3_add 48 = .ok (.getfield 24, 3) := by decide +kernel
theorem dX3_add_51 : decode cX3_add 51 = .ok (.aload_n 0, 1) := by decide +kernel
theorem dX3_add_52 : decode cX3_add 52 = .ok (.getfield 27, 3) := by decide +kernel
theorem dX3_add_55 : decode cX3_add 55 = .ok (.iload 4, 2) := by decide +kernel
theorem dX3_add_57 : decode cX3_add 57 = .ok (.iastore, 1) := by decide +kernel
theorem dX3_add_58 : decode cX3_add 58 = .ok (.aload_n 0, 1) := by decide +kernel
theorem dX3_add_59 : decode cX3_add 59 = .ok (.getfield 18, 3) := by decide +kernel
theorem dX3_add_62 : decode cX3_add 62 = .ok (.aload_n 0, 1) := by decide +kernel
theorem dX3_add_63 : decode cX3_add 63 = .ok (.getfield 27, 3) := by decide +kernel
theorem dX3_add_66 : decode cX3_add 66 = .ok (.iload 5, 2) := by decide +kernel
theorem dX3_add_68 : decode cX3_add 68 = .ok (.iastore, 1) := by decide +kernel
theorem dX3_add_69 : decode cX3_add 69 = .ok (.aload_n 0, 1) := by decide +kernel
theorem dX3_add_70 : decode cX3_add 70 = .ok (.dup, 1) := by decide +kernel
theorem dX3_add_71 : decode cX3_add 71 = .ok (.getfield 27, 3) := by decide +kernel
theorem dX3_add_74 : decode cX3_add 74 = .ok (.iconst 1, 1) := by decide +kernel
theorem dX3_add_75 : decode cX3_add 75 = .ok (.iadd, 1) := by decide +kernel
theorem dX3_add_76 : decode cX3_add 76 = .ok (.putfield 27, 3) := by decide +kernel
theorem dX3_add_79 : decode cX3_add 79 = .ok (.return_, 1) := by decide +kernel
theorem dX3_addPoke_0 : decode cX3_addPoke 0 = .ok (.aload_n 0, 1) := by decide +kernel
theorem dX3_addPoke_1 : decode cX3_addPoke 1 = .ok (.iload_n 1, 1) := by decide +kernel
theorem dX3_addPoke_2 : decode cX3_addPoke 2 = .ok (.iconst 2, 1) := by decide +kernel
theorem dX3_addPoke_3 : decode cX3_addPoke 3 = .ok (.iload_n 2, 1) := by decide +kernel
theorem dX3_addPoke_4 : decode cX3_addPoke 4 = .ok (.iload_n 3, 1) := by decide +kernel
theorem dX3_addPoke_5 : decode cX3_addPoke 5 = .ok (.iload 4, 2) := by decide +kernel
theorem dX3_addPoke_7 : decode cX3_addPoke 7 = .ok (.invokevirtual 35, 3) := by decide +kernel
theorem dX3_addPoke_10 : decode cX3_addPoke 10 = .ok (.return_, 1) := by decide +kernel
theorem dX3_addWhole_0 : decode cX3_addWhole 0 = .ok (.aload_n 0, 1) := by decide +kernel
theorem dX3_addWhole_1 : decode cX3_addWhole 1 = .ok (.iload_n 1, 1) := by decide +kernel
theorem dX3_addWhole_2 : decode cX3_addWhole 2 = .ok (.iload_n 2, 1) := by decide +kernel
theorem dX3_addWhole_3 : decode cX3_addWhole 3 = .ok (.iconst (-1), 1) := by decide +kernel
theorem dX3_addWhole_4 : decode cX3_addWhole 4 = .ok (.iconst 2, 1) := by decide +kernel
theorem dX3_addWhole_5 : decode cX3_addWhole 5 = .ok (.iload_n 3, 1) := by decide +kernel
theorem dX3_addWhole_6 : decode cX3_addWhole 6 = .ok (.invokevirtual 35, 3) := by decide +kernel
theorem dX3_addWhole_9 : decode cX3_addWhole 9 = .ok (.return_, 1) := by decide +kernel
theorem dX3_dropBehind_0 : decode cX3_dropBehind 0 = .ok (.aload_n 0, 1) := by decide +kernel
theorem dX3_dropBehind_1 : decode cX3_dropBehind 1 = .ok (.getfield 27, 3) := by decide +kernel
theorem dX3_dropBehind_4 : decode cX3_dropBehind 4 = .ok (.iconst 1, 1) := by decide +kernel
theorem dX3_dropBehind_5 : decode cX3_dropBehind 5 = .ok (.isub, 1) := by decide +kernel
theorem dX3_dropBehind_6 : decode cX3_dropBehind 6 = .ok (.istore_n 3, 1) := by decide +kernel
theorem dX3_dropBehind_7 : decode cX3_dropBehind 7 = .ok (.iload_n 3, 1) := by decide +kernel
theorem dX3_dropBehind_8 : decode cX3_dropBehind 8 = .ok (.ifCond .lt 42, 3) := by decide +kernel
theorem dX3_dropBehind_11 : decode cX3_dropBehind 11 = .ok (.aload_n 0, 1) := by decide +kernel
theorem dX3_dropBehind_12 : decode cX3_dropBehind 12 = .ok (.iload_n 3, 1) := by decide +kernel
theorem dX3_dropBehind_13 : decode cX3_dropBehind 13 = .ok (.iload_n 1, 1) := by decide +kernel
theorem dX3_dropBehind_14 : decode cX3_dropBehind 14 = .ok (.invokevirtual 44, 3) := by decide +kernel
theorem dX3_dropBehind_17 : decode cX3_dropBehind 17 = .ok (.ifCond .eq 33, 3) := by decide +kernel
theorem dX3_dropBehind_20 : decode cX3_dropBehind 20 = .ok (.aload_n 0, 1) := by decide +kernel
theorem dX3_dropBehind_21 : decode cX3_dropBehind 21 = .ok (.getfield 15, 3) := by decide +kernel
theorem dX3_dropBehind_24 : decode cX3_dropBehind 24 = .ok (.iload_n 3, 1) := by decide +kernel
theorem dX3_dropBehind_25 : decode cX3_dropBehind 25 = .ok (.iaload, 1) := by decide +kernel
theorem dX3_dropBehind_26 : decode cX3_dropBehind 26 = .ok (.ifCond .ne 13, 3) := by decide +kernel
theorem dX3_dropBehind_29 : decode cX3_dropBehind 29 = .ok (.aload_n 2, 1) := by decide +kernel
theorem dX3_dropBehind_30 : decode cX3_dropBehind 30 = .ok (.aload_n 0, 1) := by decide +kernel
theorem dX3_dropBehind_31 : decode cX3_dropBehind 31 = .ok (.getfield 18, 3) := by decide +kernel
theorem dX3_dropBehind_34 : decode cX3_dropBehind 34 = .ok (.iload_n 3, 1) := by decide +kernel
theorem dX3_dropBehind_35 : decode cX3_dropBehind 35 = .ok (.iaload, 1) := by decide +kernel
theorem dX3_dropBehind_36 : decode cX3_dropBehind 36 = .ok (.invokevirtual 48, 3) := by decide +kernel
theorem dX3_dropBehind_39 : decode cX3_dropBehind 39 = .ok (.aload_n 0, 1) := by decide +kernel
theorem dX3_dropBehind_40 : decode cX3_dropBehind 40 = .ok (.iload_n 3, 1) := by decide +kernel
theorem dX3_dropBehind_41 : decode cX3_dropBehind 41 = .ok (.putfield 27, 3) := by decide +kernel
theorem dX3_dropBehind_44 : decode cX3_dropBehind 44 = .ok (.iinc 3 (-1), 3) := by decide +kernel
theorem dX3_dropBehind_47 : decode cX3_dropBehind 47 = .ok (.goto (-40), 3) := by decide +kernel
theorem dX3_dropBehind_50 : decode cX3_dropBehind 50 = .ok (.return_, 1) := by decide +kernel
theorem dX3_has_0 : decode cX3_has 0 = .ok (.iload_n 1, 1) := by decide +kernel
theorem dX3_has_1 : decode cX3_has 1 = .ok (.ifCond .lt 22, 3) := by decide +kernel
theorem dX3_has_4 : decode cX3_has 4 = .ok (.iload_n 1, 1) := by decide +kernel
theorem dX3_has_5 : decode cX3_has 5 = .ok (.aload_n 0, 1) := by decide +kernel
theorem dX3_has_6 : decode cX3_has 6 = .ok (.getfield 27, 3) := by decide +kernel
theorem dX3_has_9 : decode cX3_has 9 = .ok (.if_icmp .ge 14, 3) := by decide +kernel
theorem dX3_has_12 : decode cX3_has 12 = .ok (.iload_n 1, 1) := by decide +kernel
theorem dX3_has_13 : decode cX3_has 13 = .ok (.sipush 800, 3) := by decide +kernel
theorem dX3_has_16 : decode cX3_has 16 = .ok (.if_icmp .ge 7, 3) := by decide +kernel
theorem dX3_has_19 : decode cX3_has 19 = .ok (.iconst 1, 1) := by decide +kernel
theorem dX3_has_20 : decode cX3_has 20 = .ok (.goto 4, 3) := by decide +kernel
theorem dX3_has_23 : decode cX3_has 23 = .ok (.iconst 0, 1) := by decide +kernel
theorem dX3_has_24 : decode cX3_has 24 = .ok (.ireturn, 1) := by decide +kernel
theorem dX3_isBehind_0 : decode cX3_isBehind 0 = .ok (.aload_n 0, 1) := by decide +kernel
theorem dX3_isBehind_1 : decode cX3_isBehind 1 = .ok (.iload_n 1, 1) := by decide +kernel
theorem dX3_isBehind_2 : decode cX3_isBehind 2 = .ok (.invokevirtual 39, 3) := by decide +kernel
theorem dX3_isBehind_5 : decode cX3_isBehind 5 = .ok (.ifCond .eq 40, 3) := by decide +kernel
theorem dX3_isBehind_8 : decode cX3_isBehind 8 = .ok (.aload_n 0, 1) := by decide +kernel
theorem dX3_isBehind_9 : decode cX3_isBehind 9 = .ok (.getfield 15, 3) := by decide +kernel
theorem dX3_isBehind_12 : decode cX3_isBehind 12 = .ok (.iload_n 1, 1) := by decide +kernel
theorem dX3_isBehind_13 : decode cX3_isBehind 13 = .ok (.iaload, 1) := by decide +kernel
theorem dX3_isBehind_14 : decode cX3_isBehind 14 = .ok (.iconst 2, 1) := by decide +kernel
theorem dX3_isBehind_15 : decode cX3_isBehind 15 = .ok (.if_icmp .ne 16, 3) := by decide +kernel
theorem dX3_isBehind_18 : decode cX3_isBehind 18 = .ok (.aload_n 0, 1) := by decide +kernel
theorem dX3_isBehind_19 : decode cX3_isBehind 19 = .ok (.getfield 9, 3) := by decide +kernel
theorem dX3_isBehind_22 : decode cX3_isBehind 22 = .ok (.iload_n 1, 1) := by decide +kernel
theorem dX3_isBehind_23 : decode cX3_isBehind 23 = .ok (.iaload, 1) := by decide +kernel
theorem dX3_isBehind_24 : decode cX3_isBehind 24 = .ok (.iload_n 2, 1) := by decide +kernel
theorem dX3_isBehind_25 : decode cX3_isBehind 25 = .ok (.if_icmp .le 20, 3) := by decide +kernel
theorem dX3_isBehind_28 : decode cX3_isBehind 28 = .ok (.goto 13, 3) := by decide +kernel
theorem dX3_isBehind_31 : decode cX3_isBehind 31 = .ok (.aload_n 0, 1) := by decide +kernel
theorem dX3_isBehind_32 : decode cX3_isBehind 32 = .ok (.getfield 9, 3) := by decide +kernel
theorem dX3_isBehind_35 : decode cX3_isBehind 35 = .ok (.iload_n 1, 1) := by decide +kernel
theorem dX3_isBehind_36 : decode cX3_isBehind 36 = .ok (.iaload, 1) := by decide +kernel
theorem dX3_isBehind_37 : decode cX3_isBehind 37 = .ok (.iload_n 2, 1) := by decide +kernel
theorem dX3_isBehind_38 : decode cX3_isBehind 38 = .ok (.if_icmp .lt 7, 3) := by decide +kernel
theorem dX3_isBehind_41 : decode cX3_isBehind 41 = .ok (.iconst 1, 1) := by decide +kernel
theorem dX3_isBehind_42 : decode cX3_isBehind 42 = .ok (.goto 4, 3) := by decide +kernel
theorem dX3_isBehind_45 : decode cX3_isBehind 45 = .ok (.iconst 0, 1) := by decide +kernel
theorem dX3_isBehind_46 : decode cX3_isBehind 46 = .ok (.ireturn, 1) := by decide +kernel
theorem dX3_isFull_0 : decode cX3_isFull 0 = .ok (.aload_n 0, 1) := by decide +kernel
theorem dX3_isFull_1 : decode cX3_isFull 1 = .ok (.getfield 27, 3) := by decide +kernel
theorem dX3_isFull_4 : decode cX3_isFull 4 = .ok (.sipush 800, 3) := by decide +kernel
theorem dX3_isFull_7 : decode cX3_isFull 7 = .ok (.if_icmp .lt 7, 3) := by decide +kernel
theorem dX3_isFull_10 : decode cX3_isFull 10 = .ok (.iconst 1, 1) := by decide +kernel
theorem dX3_isFull_11 : decode cX3_isFull 11 = .ok (.goto 4, 3) := by decide +kernel
theorem dX3_isFull_14 : decode cX3_isFull 14 = .ok (.iconst 0, 1) := by decide +kernel
theorem dX3_isFull_15 : decode cX3_isFull 15 = .ok (.ireturn, 1) := by decide +kernel
theorem dX3_read_0 : decode cX3_read 0 = .ok (.aload_n 0, 1) := by decide +kernel
theorem dX3_read_1 : decode cX3_read 1 = .ok (.iload_n 1, 1) := by decide +kernel
theorem dX3_read_2 : decode cX3_read 2 = .ok (.invokevirtual 39, 3) := by decide +kernel
theorem dX3_read_5 : decode cX3_read 5 = .ok (.ifCond .ne 6, 3) := by decide +kernel
theorem dX3_read_8 : decode cX3_read 8 = .ok (.ldc 43, 2) := by decide +kernel
theorem dX3_read_10 : decode cX3_read 10 = .ok (.ireturn, 1) := by decide +kernel
theorem dX3_read_11 : decode cX3_read 11 = .ok (.iload_n 2, 1) := by decide +kernel
theorem dX3_read_12 : decode cX3_read 12 = .ok (.tableswitch 71 0 4 #[36, 43, 50, 57, 64], 36) := by decide +kernel
theorem dX3_read_48 : decode cX3_read 48 = .ok (.aload_n 0, 1) := by decide +kernel
theorem dX3_read_49 : decode cX3_read 49 = .ok (.getfield 9, 3) := by decide +kernel
theorem dX3_read_52 : decode cX3_read 52 = .ok (.iload_n 1, 1) := by decide +kernel
theorem dX3_read_53 : decode cX3_read 53 = .ok (.iaload, 1) := by decide +kernel
theorem dX3_read_54 : decode cX3_read 54 = .ok (.ireturn, 1) := by decide +kernel
theorem dX3_read_55 : decode cX3_read 55 = .ok (.aload_n 0, 1) := by decide +kernel
theorem dX3_read_56 : decode cX3_read 56 = .ok (.getfield 15, 3) := by decide +kernel
theorem dX3_read_59 : decode cX3_read 59 = .ok (.iload_n 1, 1) := by decide +kernel
theorem dX3_read_60 : decode cX3_read 60 = .ok (.iaload, 1) := by decide +kernel
theorem dX3_read_61 : decode cX3_read 61 = .ok (.ireturn, 1) := by decide +kernel
theorem dX3_read_62 : decode cX3_read 62 = .ok (.aload_n 0, 1) := by decide +kernel
theorem dX3_read_63 : decode cX3_read 63 = .ok (.getfield 18, 3) := by decide +kernel
theorem dX3_read_66 : decode cX3_read 66 = .ok (.iload_n 1, 1) := by decide +kernel
theorem dX3_read_67 : decode cX3_read 67 = .ok (.iaload, 1) := by decide +kernel
theorem dX3_read_68 : decode cX3_read 68 = .ok (.ireturn, 1) := by decide +kernel
theorem dX3_read_69 : decode cX3_read 69 = .ok (.aload_n 0, 1) := by decide +kernel
theorem dX3_read_70 : decode cX3_read 70 = .ok (.getfield 21, 3) := by decide +kernel
theorem dX3_read_73 : decode cX3_read 73 = .ok (.iload_n 1, 1) := by decide +kernel
theorem dX3_read_74 : decode cX3_read 74 = .ok (.iaload, 1) := by decide +kernel
theorem dX3_read_75 : decode cX3_read 75 = .ok (.ireturn, 1) := by decide +kernel
theorem dX3_read_76 : decode cX3_read 76 = .ok (.aload_n 0, 1) := by decide +kernel
theorem dX3_read_77 : decode cX3_read 77 = .ok (.getfield 24, 3) := by decide +kernel
theorem dX3_read_80 : decode cX3_read 80 = .ok (.iload_n 1, 1) := by decide +kernel
theorem dX3_read_81 : decode cX3_read 81 = .ok (.iaload, 1) := by decide +kernel
theorem dX3_read_82 : decode cX3_read 82 = .ok (.ireturn, 1) := by decide +kernel
theorem dX3_read_83 : decode cX3_read 83 = .ok (.ldc 43, 2) := by decide +kernel
theorem dX3_read_85 : decode cX3_read 85 = .ok (.ireturn, 1) := by decide +kernel
theorem dX3_takeFrom_0 : decode cX3_takeFrom 0 = .ok (.aload_n 0, 1) := by decide +kernel
theorem dX3_takeFrom_1 : decode cX3_takeFrom 1 = .ok (.aload_n 1, 1) := by decide +kernel
theorem dX3_takeFrom_2 : decode cX3_takeFrom 2 = .ok (.getfield 27, 3) := by decide +kernel
theorem dX3_takeFrom_5 : decode cX3_takeFrom 5 = .ok (.putfield 27, 3) := by decide +kernel
theorem dX3_takeFrom_8 : decode cX3_takeFrom 8 = .ok (.aload_n 1, 1) := by decide +kernel
theorem dX3_takeFrom_9 : decode cX3_takeFrom 9 = .ok (.getfield 9, 3) := by decide +kernel
theorem dX3_takeFrom_12 : decode cX3_takeFrom 12 = .ok (.aload_n 0, 1) := by decide +kernel
theorem dX3_takeFrom_13 : decode cX3_takeFrom 13 = .ok (.getfield 9, 3) := by decide +kernel
theorem dX3_takeFrom_16 : decode cX3_takeFrom 16 = .ok (.aload_n 0, 1) := by decide +kernel
theorem dX3_takeFrom_17 : decode cX3_takeFrom 17 = .ok (.getfield 27, 3) := by decide +kernel
theorem dX3_takeFrom_20 : decode cX3_takeFrom 20 = .ok (.invokestatic 31, 3) := by decide +kernel
theorem dX3_takeFrom_23 : decode cX3_takeFrom 23 = .ok (.aload_n 1, 1) := by decide +kernel
theorem dX3_takeFrom_24 : decode cX3_takeFrom 24 = .ok (.getfield 15, 3) := by decide +kernel
theorem dX3_takeFrom_27 : decode cX3_takeFrom 27 = .ok (.aload_n 0, 1) := by decide +kernel
theorem dX3_takeFrom_28 : decode cX3_takeFrom 28 = .ok (.getfield 15, 3) := by decide +kernel
theorem dX3_takeFrom_31 : decode cX3_takeFrom 31 = .ok (.aload_n 0, 1) := by decide +kernel
theorem dX3_takeFrom_32 : decode cX3_takeFrom 32 = .ok (.getfield 27, 3) := by decide +kernel
theorem dX3_takeFrom_35 : decode cX3_takeFrom 35 = .ok (.invokestatic 31, 3) := by decide +kernel
theorem dX3_takeFrom_38 : decode cX3_takeFrom 38 = .ok (.aload_n 1, 1) := by decide +kernel
theorem dX3_takeFrom_39 : decode cX3_takeFrom 39 = .ok (.getfield 18, 3) := by decide +kernel
theorem dX3_takeFrom_42 : decode cX3_takeFrom 42 = .ok (.aload_n 0, 1) := by decide +kernel
theorem dX3_takeFrom_43 : decode cX3_takeFrom 43 = .ok (.getfield 18, 3) := by decide +kernel
theorem dX3_takeFrom_46 : decode cX3_takeFrom 46 = .ok (.aload_n 0, 1) := by decide +kernel
theorem dX3_takeFrom_47 : decode cX3_takeFrom 47 = .ok (.getfield 27, 3) := by decide +kernel
theorem dX3_takeFrom_50 : decode cX3_takeFrom 50 = .ok (.invokestatic 31, 3) := by decide +kernel
theorem dX3_takeFrom_53 : decode cX3_takeFrom 53 = .ok (.aload_n 1, 1) := by decide +kernel
theorem dX3_takeFrom_54 : decode cX3_takeFrom 54 = .ok (.getfield 21, 3) := by decide +kernel
theorem dX3_takeFrom_57 : decode cX3_takeFrom 57 = .ok (.aload_n 0, 1) := by decide +kernel
theorem dX3_takeFrom_58 : decode cX3_takeFrom 58 = .ok (.getfield 21, 3) := by decide +kernel
theorem dX3_takeFrom_61 : decode cX3_takeFrom 61 = .ok (.aload_n 0, 1) := by decide +kernel
theorem dX3_takeFrom_62 : decode cX3_takeFrom 62 = .ok (.getfield 27, 3) := by decide +kernel
theorem dX3_takeFrom_65 : decode cX3_takeFrom 65 = .ok (.invokestatic 31, 3) := by decide +kernel
theorem dX3_takeFrom_68 : decode cX3_takeFrom 68 = .ok (.aload_n 1, 1) := by decide +kernel
theorem dX3_takeFrom_69 : decode cX3_takeFrom 69 = .ok (.getfield 24, 3) := by decide +kernel
theorem dX3_takeFrom_72 : decode cX3_takeFrom 72 = .ok (.aload_n 0, 1) := by decide +kernel
theorem dX3_takeFrom_73 : decode cX3_takeFrom 73 = .ok (.getfield 24, 3) := by decide +kernel
theorem dX3_takeFrom_76 : decode cX3_takeFrom 76 = .ok (.aload_n 0, 1) := by decide +kernel
theorem dX3_takeFrom_77 : decode cX3_takeFrom 77 = .ok (.getfield 27, 3) := by decide +kernel
theorem dX3_takeFrom_80 : decode cX3_takeFrom 80 = .ok (.invokestatic 31, 3) := by decide +kernel
theorem dX3_takeFrom_83 : decode cX3_takeFrom 83 = .ok (.return_, 1) := by decide +kernel
theorem dX4_addFirst_0 : decode cX4_addFirst 0 = .ok (.aload_n 0, 1) := by decide +kernel
theorem dX4_addFirst_1 : decode cX4_addFirst 1 = .ok (.getfield 19, 3) := by decide +kernel
theorem dX4_addFirst_4 : decode cX4_addFirst 4 = .ok (.sipush 900, 3) := by decide +kernel
theorem dX4_addFirst_7 : decode cX4_addFirst 7 = .ok (.if_icmp .ge 41, 3) := by decide +kernel
theorem dX4_addFirst_10 : decode cX4_addFirst 10 = .ok (.aload_n 0, 1) := by decide +kernel
theorem dX4_addFirst_11 : decode cX4_addFirst 11 = .ok (.aload_n 0, 1) := by decide +kernel
theorem dX4_addFirst_12 : decode cX4_addFirst 12 = .ok (.getfield 15, 3) := by decide +kernel
theorem dX4_addFirst_15 : decode cX4_addFirst 15 = .ok (.sipush 900, 3) := by decide +kernel
theorem dX4_addFirst_18 : decode cX4_addFirst 18 = .ok (.iadd, 1) := by decide +kernel
theorem dX4_addFirst_19 : decode cX4_addFirst 19 = .ok (.iconst 1, 1) := by decide +kernel
theorem dX4_addFirst_20 : decode cX4_addFirst 20 = .ok (.isub, 1) := by decide +kernel
theorem dX4_addFirst_21 : decode cX4_addFirst 21 = .ok (.sipush 900, 3) := by decide +kernel
theorem dX4_addFirst_24 : decode cX4_addFirst 24 = .ok (.irem, 1) := by decide +kernel
theorem dX4_addFirst_25 : decode cX4_addFirst 25 = .ok (.putfield 15, 3) := by decide +kernel
theorem dX4_addFirst_28 : decode cX4_addFirst 28 = .ok (.aload_n 0, 1) := by decide +kernel
theorem dX4_addFirst_29 : decode cX4_addFirst 29 = .ok (.getfield 9, 3) := by decide +kernel
theorem dX4_addFirst_32 : decode cX4_addFirst 32 = .ok (.aload_n 0, 1) := by decide +kernel
theorem dX4_addFirst_33 : decode cX4_addFirst 33 = .ok (.getfield 15, 3) := by decide +kernel
theorem dX4_addFirst_36 : decode cX4_addFirst 36 = .ok (.iload_n 1, 1) := by decide +kernel
theorem dX4_addFirst_37 : decode cX4_addFirst 37 = .ok (.iastore, 1) := by decide +kernel
theorem dX4_addFirst_38 : decode cX4_addFirst 38 = .ok (.aload_n 0, 1) := by decide +kernel
theorem dX4_addFirst_39 : decode cX4_addFirst 39 = .ok (.dup, 1) := by decide +kernel
theorem dX4_addFirst_40 : decode cX4_addFirst 40 = .ok (.getfield 19, 3) := by decide +kernel
theorem dX4_addFirst_43 : decode cX4_addFirst 43 = .ok (.iconst 1, 1) := by decide +kernel
theorem dX4_addFirst_44 : decode cX4_addFirst 44 = .ok (.iadd, 1) := by decide +kernel
theorem dX4_addFirst_45 : decode cX4_addFirst 45 = .ok (.putfield 19, 3) := by decide +kernel
theorem dX4_addFirst_48 : decode cX4_addFirst 48 = .ok (.return_, 1) := by decide +kernel
theorem dX4_addLast_0 : decode cX4_addLast 0 = .ok (.aload_n 0, 1) := by decide +kernel
theorem dX4_addLast_1 : decode cX4_addLast 1 = .ok (.getfield 19, 3) := by decide +kernel
theorem dX4_addLast_4 : decode cX4_addLast 4 = .ok (.sipush 900, 3) := by decide +kernel
theorem dX4_addLast_7 : decode cX4_addLast 7 = .ok (.if_icmp .ge 32, 3) := by decide +kernel
theorem dX4_addLast_10 : decode cX4_addLast 10 = .ok (.aload_n 0, 1) := by decide +kernel
theorem dX4_addLast_11 : decode cX4_addLast 11 = .ok (.getfield 9, 3) := by decide +kernel
theorem dX4_addLast_14 : decode cX4_addLast 14 = .ok (.aload_n 0, 1) := by decide +kernel
theorem dX4_addLast_15 : decode cX4_addLast 15 = .ok (.getfield 15, 3) := by decide +kernel
theorem dX4_addLast_18 : decode cX4_addLast 18 = .ok (.aload_n 0, 1) := by decide +kernel
theorem dX4_addLast_19 : decode cX4_addLast 19 = .ok (.getfield 19, 3) := by decide +kernel
theorem dX4_addLast_22 : decode cX4_addLast 22 = .ok (.iadd, 1) := by decide +kernel
theorem dX4_addLast_23 : decode cX4_addLast 23 = .ok (.sipush 900, 3) := by decide +kernel
theorem dX4_addLast_26 : decode cX4_addLast 26 = .ok (.irem, 1) := by decide +kernel
theorem dX4_addLast_27 : decode cX4_addLast 27 = .ok (.iload_n 1, 1) := by decide +kernel
theorem dX4_addLast_28 : decode cX4_addLast 28 = .ok (.iastore, 1) := by decide +kernel
theorem dX4_addLast_29 : decode cX4_addLast 29 = .ok (.aload_n 0, 1) := by decide +kernel
theorem dX4_addLast_30 : decode cX4_addLast 30 = .ok (.dup, 1) := by decide +kernel
theorem dX4_addLast_31 : decode cX4_addLast 31 = .ok (.getfield 19, 3) := by decide +kernel
theorem dX4_addLast_34 : decode cX4_addLast 34 = .ok (.iconst 1, 1) := by decide +kernel
theorem dX4_addLast_35 : decode cX4_addLast 35 = .ok (.iadd, 1) := by decide +kernel
theorem dX4_addLast_36 : decode cX4_addLast 36 = .ok (.putfield 19, 3) := by decide +kernel
theorem dX4_addLast_39 : decode cX4_addLast 39 = .ok (.return_, 1) := by decide +kernel
theorem dX4_clearInputs_0 : decode cX4_clearInputs 0 = .ok (.aload_n 0, 1) := by decide +kernel
theorem dX4_clearInputs_1 : decode cX4_clearInputs 1 = .ok (.iconst 0, 1) := by decide +kernel
theorem dX4_clearInputs_2 : decode cX4_clearInputs 2 = .ok (.putfield 15, 3) := by decide +kernel
theorem dX4_clearInputs_5 : decode cX4_clearInputs 5 = .ok (.aload_n 0, 1) := by decide +kernel
theorem dX4_clearInputs_6 : decode cX4_clearInputs 6 = .ok (.iconst 0, 1) := by decide +kernel
theorem dX4_clearInputs_7 : decode cX4_clearInputs 7 = .ok (.putfield 19, 3) := by decide +kernel
theorem dX4_clearInputs_10 : decode cX4_clearInputs 10 = .ok (.return_, 1) := by decide +kernel
theorem dX4_draw_0 : decode cX4_draw 0 = .ok (.aload_n 0, 1) := by decide +kernel
theorem dX4_draw_1 : decode cX4_draw 1 = .ok (.ldc 25, 2) := by decide +kernel
theorem dX4_draw_3 : decode cX4_draw 3 = .ok (.aload_n 0, 1) := by decide +kernel
theorem dX4_draw_4 : decode cX4_draw 4 = .ok (.getfield 22, 3) := by decide +kernel
theorem dX4_draw_7 : decode cX4_draw 7 = .ok (.imul, 1) := by decide +kernel
theorem dX4_draw_8 : decode cX4_draw 8 = .ok (.ldc 26, 2) := by decide +kernel
theorem dX4_draw_10 : decode cX4_draw 10 = .ok (.iadd, 1) := by decide +kernel
theorem dX4_draw_11 : decode cX4_draw 11 = .ok (.putfield 22, 3) := by decide +kernel
theorem dX4_draw_14 : decode cX4_draw 14 = .ok (.iload_n 1, 1) := by decide +kernel
theorem dX4_draw_15 : decode cX4_draw 15 = .ok (.iconst 1, 1) := by decide +kernel
theorem dX4_draw_16 : decode cX4_draw 16 = .ok (.if_icmp .ge 7, 3) := by decide +kernel
theorem dX4_draw_19 : decode cX4_draw 19 = .ok (.iconst 0, 1) := by decide +kernel
theorem dX4_draw_20 : decode cX4_draw 20 = .ok (.goto 12, 3) := by decide +kernel
theorem dX4_draw_23 : decode cX4_draw 23 = .ok (.aload_n 0, 1) := by decide +kernel
theorem dX4_draw_24 : decode cX4_draw 24 = .ok (.getfield 22, 3) := by decide +kernel
theorem dX4_draw_27 : decode cX4_draw 27 = .ok (.bipush 8, 2) := by decide +kernel
theorem dX4_draw_29 : decode cX4_draw 29 = .ok (.iushr, 1) := by decide +kernel
theorem dX4_draw_30 : decode cX4_draw 30 = .ok (.iload_n 1, 1) := by decide +kernel
theorem dX4_draw_31 : decode cX4_draw 31 = .ok (.irem, 1) := by decide +kernel
theorem dX4_draw_32 : decode cX4_draw 32 = .ok (.ireturn, 1) := by decide +kernel
theorem dX4_takeFirst_0 : decode cX4_takeFirst 0 = .ok (.aload_n 0, 1) := by decide +kernel
theorem dX4_takeFirst_1 : decode cX4_takeFirst 1 = .ok (.getfield 19, 3) := by decide +kernel
theorem dX4_takeFirst_4 : decode cX4_takeFirst 4 = .ok (.ifCond .gt 5, 3) := by decide +kernel
theorem dX4_takeFirst_7 : decode cX4_takeFirst 7 = .ok (.iconst 0, 1) := by decide +kernel
theorem dX4_takeFirst_8 : decode cX4_takeFirst 8 = .ok (.ireturn, 1) := by decide +kernel
theorem dX4_takeFirst_9 : decode cX4_takeFirst 9 = .ok (.aload_n 0, 1) := by decide +kernel
theorem dX4_takeFirst_10 : decode cX4_takeFirst 10 = .ok (.getfield 9, 3) := by decide +kernel
theorem dX4_takeFirst_13 : decode cX4_takeFirst 13 = .ok (.aload_n 0, 1) := by decide +kernel
theorem dX4_takeFirst_14 : decode cX4_takeFirst 14 = .ok (.getfield 15, 3) := by decide +kernel
theorem dX4_takeFirst_17 : decode cX4_takeFirst 17 = .ok (.iaload, 1) := by decide +kernel
theorem dX4_takeFirst_18 : decode cX4_takeFirst 18 = .ok (.istore_n 1, 1) := by decide +kernel
theorem dX4_takeFirst_19 : decode cX4_takeFirst 19 = .ok (.aload_n 0, 1) := by decide +kernel
theorem dX4_takeFirst_20 : decode cX4_takeFirst 20 = .ok (.aload_n 0, 1) := by decide +kernel
theorem dX4_takeFirst_21 : decode cX4_takeFirst 21 = .ok (.getfield 15, 3) := by decide +kernel
theorem dX4_takeFirst_24 : decode cX4_takeFirst 24 = .ok (.iconst 1, 1) := by decide +kernel
theorem dX4_takeFirst_25 : decode cX4_takeFirst 25 = .ok (.iadd, 1) := by decide +kernel
theorem dX4_takeFirst_26 : decode cX4_takeFirst 26 = .ok (.sipush 900, 3) := by decide +kernel
theorem dX4_takeFirst_29 : decode cX4_takeFirst 29 = .ok (.irem, 1) := by decide +kernel
theorem dX4_takeFirst_30 : decode cX4_takeFirst 30 = .ok (.putfield 15, 3) := by decide +kernel
theorem dX4_takeFirst_33 : decode cX4_takeFirst 33 = .ok (.aload_n 0, 1) := by decide +kernel
theorem dX4_takeFirst_34 : decode cX4_takeFirst 34 = .ok (.dup, 1) := by decide +kernel
theorem dX4_takeFirst_35 : decode cX4_takeFirst 35 = .ok (.getfield 19, 3) := by decide +kernel
theorem dX4_takeFirst_38 : decode cX4_takeFirst 38 = .ok (.iconst 1, 1) := by decide +kernel
theorem dX4_takeFirst_39 : decode cX4_takeFirst 39 = .ok (.isub, 1) := by decide +kernel
theorem dX4_takeFirst_40 : decode cX4_takeFirst 40 = .ok (.putfield 19, 3) := by decide +kernel
theorem dX4_takeFirst_43 : decode cX4_takeFirst 43 = .ok (.iload_n 1, 1) := by decide +kernel
theorem dX4_takeFirst_44 : decode cX4_takeFirst 44 = .ok (.ireturn, 1) := by decide +kernel
theorem dX5_firstAt_0 : decode cX5_firstAt 0 = .ok (.iload_n 1, 1) := by decide +kernel
theorem dX5_firstAt_1 : decode cX5_firstAt 1 = .ok (.invokestatic 30, 3) := by decide +kernel
theorem dX5_firstAt_4 : decode cX5_firstAt 4 = .ok (.ifCond .eq 12, 3) := by decide +kernel
theorem dX5_firstAt_7 : decode cX5_firstAt 7 = .ok (.aload_n 0, 1) := by decide +kernel
theorem dX5_firstAt_8 : decode cX5_firstAt 8 = .ok (.getfield 15, 3) := by decide +kernel
theorem dX5_firstAt_11 : decode cX5_firstAt 11 = .ok (.iload_n 1, 1) := by decide +kernel
theorem dX5_firstAt_12 : decode cX5_firstAt 12 = .ok (.iaload, 1) := by decide +kernel
theorem dX5_firstAt_13 : decode cX5_firstAt 13 = .ok (.goto 4, 3) := by decide +kernel
theorem dX5_firstAt_16 : decode cX5_firstAt 16 = .ok (.iconst 0, 1) := by decide +kernel
theorem dX5_firstAt_17 : decode cX5_firstAt 17 = .ok (.ireturn, 1) := by decide +kernel
theorem dX5_kindAt_0 : decode cX5_kindAt 0 = .ok (.iload_n 1, 1) := by decide +kernel
theorem dX5_kindAt_1 : decode cX5_kindAt 1 = .ok (.invokestatic 30, 3) := by decide +kernel
theorem dX5_kindAt_4 : decode cX5_kindAt 4 = .ok (.ifCond .eq 12, 3) := by decide +kernel
theorem dX5_kindAt_7 : decode cX5_kindAt 7 = .ok (.aload_n 0, 1) := by decide +kernel
theorem dX5_kindAt_8 : decode cX5_kindAt 8 = .ok (.getfield 9, 3) := by decide +kernel
theorem dX5_kindAt_11 : decode cX5_kindAt 11 = .ok (.iload_n 1, 1) := by decide +kernel
theorem dX5_kindAt_12 : decode cX5_kindAt 12 = .ok (.iaload, 1) := by decide +kernel
theorem dX5_kindAt_13 : decode cX5_kindAt 13 = .ok (.goto 4, 3) := by decide +kernel
theorem dX5_kindAt_16 : decode cX5_kindAt 16 = .ok (.iconst (-1), 1) := by decide +kernel
theorem dX5_kindAt_17 : decode cX5_kindAt 17 = .ok (.ireturn, 1) := by decide +kernel
theorem dX5_secondAt_0 : decode cX5_secondAt 0 = .ok (.iload_n 1, 1) := by decide +kernel
theorem dX5_secondAt_1 : decode cX5_secondAt 1 = .ok (.invokestatic 30, 3) := by decide +kernel
theorem dX5_secondAt_4 : decode cX5_secondAt 4 = .ok (.ifCond .eq 12, 3) := by decide +kernel
theorem dX5_secondAt_7 : decode cX5_secondAt 7 = .ok (.aload_n 0, 1) := by decide +kernel
theorem dX5_secondAt_8 : decode cX5_secondAt 8 = .ok (.getfield 18, 3) := by decide +kernel
theorem dX5_secondAt_11 : decode cX5_secondAt 11 = .ok (.iload_n 1, 1) := by decide +kernel
theorem dX5_secondAt_12 : decode cX5_secondAt 12 = .ok (.iaload, 1) := by decide +kernel
theorem dX5_secondAt_13 : decode cX5_secondAt 13 = .ok (.goto 4, 3) := by decide +kernel
theorem dX5_secondAt_16 : decode cX5_secondAt 16 = .ok (.iconst 0, 1) := by decide +kernel
theorem dX5_secondAt_17 : decode cX5_secondAt 17 = .ok (.ireturn, 1) := by decide +kernel
theorem dX5_size_0 : decode cX5_size 0 = .ok (.iconst 0, 1) := by decide +kernel
theorem dX5_size_1 : decode cX5_size 1 = .ok (.istore_n 1, 1) := by decide +kernel
theorem dX5_size_2 : decode cX5_size 2 = .ok (.iconst 0, 1) := by decide +kernel
theorem dX5_size_3 : decode cX5_size 3 = .ok (.istore_n 2, 1) := by decide +kernel
theorem dX5_size_4 : decode cX5_size 4 = .ok (.iload_n 2, 1) := by decide +kernel
theorem dX5_size_5 : decode cX5_size 5 = .ok (.bipush 64, 2) := by decide +kernel
theorem dX5_size_7 : decode cX5_size 7 = .ok (.if_icmp .ge 22, 3) := by decide +kernel
theorem dX5_size_10 : decode cX5_size 10 = .ok (.aload_n 0, 1) := by decide +kernel
theorem dX5_size_11 : decode cX5_size 11 = .ok (.getfield 9, 3) := by decide +kernel
theorem dX5_size_14 : decode cX5_size 14 = .ok (.iload_n 2, 1) := by decide +kernel
theorem dX5_size_15 : decode cX5_size 15 = .ok (.iaload, 1) := by decide +kernel
theorem dX5_size_16 : decode cX5_size 16 = .ok (.iconst (-1), 1) := by decide +kernel
theorem dX5_size_17 : decode cX5_size 17 = .ok (.if_icmp .eq 6, 3) := by decide +kernel
theorem dX5_size_20 : decode cX5_size 20 = .ok (.iinc 1 1, 3) := by decide +kernel
theorem dX5_size_23 : decode cX5_size 23 = .ok (.iinc 2 1, 3) := by decide +kernel
theorem dX5_size_26 : decode cX5_size 26 = .ok (.goto (-22), 3) := by decide +kernel
theorem dX5_size_29 : decode cX5_size 29 = .ok (.iload_n 1, 1) := by decide +kernel
theorem dX5_size_30 : decode cX5_size 30 = .ok (.ireturn, 1) := by decide +kernel
theorem dX5_takeFrom_0 : decode cX5_takeFrom 0 = .ok (.iconst 0, 1) := by decide +kernel
theorem dX5_takeFrom_1 : decode cX5_takeFrom 1 = .ok (.istore_n 2, 1) := by decide +kernel
theorem dX5_takeFrom_2 : decode cX5_takeFrom 2 = .ok (.iload_n 2, 1) := by decide +kernel
theorem dX5_takeFrom_3 : decode cX5_takeFrom 3 = .ok (.bipush 64, 2) := by decide +kernel
theorem dX5_takeFrom_5 : decode cX5_takeFrom 5 = .ok (.if_icmp .ge 38, 3) := by decide +kernel
theorem dX5_takeFrom_8 : decode cX5_takeFrom 8 = .ok (.aload_n 0, 1) := by decide +kernel
theorem dX5_takeFrom_9 : decode cX5_takeFrom 9 = .ok (.iload_n 2, 1) := by decide +kernel
theorem dX5_takeFrom_10 : decode cX5_takeFrom 10 = .ok (.aload_n 1, 1) := by decide +kernel
theorem dX5_takeFrom_11 : decode cX5_takeFrom 11 = .ok (.getfield 9, 3) := by decide +kernel
theorem dX5_takeFrom_14 : decode cX5_takeFrom 14 = .ok (.iload_n 2, 1) := by decide +kernel
theorem dX5_takeFrom_15 : decode cX5_takeFrom 15 = .ok (.iaload, 1) := by decide +kernel
theorem dX5_takeFrom_16 : decode cX5_takeFrom 16 = .ok (.aload_n 1, 1) := by decide +kernel
theorem dX5_takeFrom_17 : decode cX5_takeFrom 17 = .ok (.getfield 15, 3) := by decide +kernel
theorem dX5_takeFrom_20 : decode cX5_takeFrom 20 = .ok (.iload_n 2, 1) := by decide +kernel
theorem dX5_takeFrom_21 : decode cX5_takeFrom 21 = .ok (.iaload, 1) := by decide +kernel
theorem dX5_takeFrom_22 : decode cX5_takeFrom 22 = .ok (.aload_n 1, 1) := by decide +kernel
theorem dX5_takeFrom_23 : decode cX5_takeFrom 23 = .ok (.getfield 18, 3) := by decide +kernel
theorem dX5_takeFrom_26 : decode cX5_takeFrom 26 = .ok (.iload_n 2, 1) := by decide +kernel
theorem dX5_takeFrom_27 : decode cX5_takeFrom 27 = .ok (.iaload, 1) := by decide +kernel
theorem dX5_takeFrom_28 : decode cX5_takeFrom 28 = .ok (.aload_n 1, 1) := by decide +kernel
theorem dX5_takeFrom_29 : decode cX5_takeFrom 29 = .ok (.getfield 21, 3) := by decide +kernel
theorem dX5_takeFrom_32 : decode cX5_takeFrom 32 = .ok (.iload_n 2, 1) := by decide +kernel
theorem dX5_takeFrom_33 : decode cX5_takeFrom 33 = .ok (.iaload, 1) := by decide +kernel
theorem dX5_takeFrom_34 : decode cX5_takeFrom 34 = .ok (.invokevirtual 34, 3) := by decide +kernel
theorem dX5_takeFrom_37 : decode cX5_takeFrom 37 = .ok (.iinc 2 1, 3) := by decide +kernel
theorem dX5_takeFrom_40 : decode cX5_takeFrom 40 = .ok (.goto (-38), 3) := by decide +kernel
theorem dX5_takeFrom_43 : decode cX5_takeFrom 43 = .ok (.return_, 1) := by decide +kernel
theorem dX5_write_0 : decode cX5_write 0 = .ok (.iload_n 1, 1) := by decide +kernel
theorem dX5_write_1 : decode cX5_write 1 = .ok (.invokestatic 30, 3) := by decide +kernel
theorem dX5_write_4 : decode cX5_write 4 = .ok (.ifCond .eq 33, 3) := by decide +kernel
theorem dX5_write_7 : decode cX5_write 7 = .ok (.aload_n 0, 1) := by decide +kernel
theorem dX5_write_8 : decode cX5_write 8 = .ok (.getfield 9, 3) := by decide +kernel
theorem dX5_write_11 : decode cX5_write 11 = .ok (.iload_n 1, 1) := by decide +kernel
theorem dX5_write_12 : decode cX5_write 12 = .ok (.iload_n 2, 1) := by decide +kernel
theorem dX5_write_13 : decode cX5_write 13 = .ok (.iastore, 1) := by decide +kernel
theorem dX5_write_14 : decode cX5_write 14 = .ok (.aload_n 0, 1) := by decide +kernel
theorem dX5_write_15 : decode cX5_write 15 = .ok (.getfield 15, 3) := by decide +kernel
theorem dX5_write_18 : decode cX5_write 18 = .ok (.iload_n 1, 1) := by decide +kernel
theorem dX5_write_19 : decode cX5_write 19 = .ok (.iload_n 3, 1) := by decide +kernel
theorem dX5_write_20 : decode cX5_write 20 = .ok (.iastore, 1) := by decide +kernel
theorem dX5_write_21 : decode cX5_write 21 = .ok (.aload_n 0, 1) := by decide +kernel
theorem dX5_write_22 : decode cX5_write 22 = .ok (.getfield 18, 3) := by decide +kernel
theorem dX5_write_25 : decode cX5_write 25 = .ok (.iload_n 1, 1) := by decide +kernel
theorem dX5_write_26 : decode cX5_write 26 = .ok (.iload 4, 2) := by decide +kernel
theorem dX5_write_28 : decode cX5_write 28 = .ok (.iastore, 1) := by decide +kernel
theorem dX5_write_29 : decode cX5_write 29 = .ok (.aload_n 0, 1) := by decide +kernel
theorem dX5_write_30 : decode cX5_write 30 = .ok (.getfield 21, 3) := by decide +kernel
theorem dX5_write_33 : decode cX5_write 33 = .ok (.iload_n 1, 1) := by decide +kernel
theorem dX5_write_34 : decode cX5_write 34 = .ok (.iload 5, 2) := by decide +kernel
theorem dX5_write_36 : decode cX5_write 36 = .ok (.iastore, 1) := by decide +kernel
theorem dX5_write_37 : decode cX5_write 37 = .ok (.return_, 1) := by decide +kernel
theorem dX9_isInstructionPlace_0 : decode cX9_isInstructionPlace 0 = .ok (.iload_n 0, 1) := by decide +kernel
theorem dX9_isInstructionPlace_1 : decode cX9_isInstructionPlace 1 = .ok (.ifCond .lt 13, 3) := by decide +kernel
theorem dX9_isInstructionPlace_4 : decode cX9_isInstructionPlace 4 = .ok (.iload_n 0, 1) := by decide +kernel
theorem dX9_isInstructionPlace_5 : decode cX9_isInstructionPlace 5 = .ok (.bipush 64, 2) := by decide +kernel
theorem dX9_isInstructionPlace_7 : decode cX9_isInstructionPlace 7 = .ok (.if_icmp .ge 7, 3) := by decide +kernel
theorem dX9_isInstructionPlace_10 : decode cX9_isInstructionPlace 10 = .ok (.iconst 1, 1) := by decide +kernel
theorem dX9_isInstructionPlace_11 : decode cX9_isInstructionPlace 11 = .ok (.goto 4, 3) := by decide +kernel
theorem dX9_isInstructionPlace_14 : decode cX9_isInstructionPlace 14 = .ok (.iconst 0, 1) := by decide +kernel
theorem dX9_isInstructionPlace_15 : decode cX9_isInstructionPlace 15 = .ok (.ireturn, 1) := by decide +kernel
def g_X2_stepsToFind_j57 (F : Nat) (o0 : Nat) (l1 : Int32) (l3 : Int32) (l4 : Int32) (l5 : Int32) (u : rg_U) : Option ((Int32 × Int32 × Int32) ⊕ Int32) :=
  some (.inl (l3, l4, (l5 + (-1))))
set_option maxHeartbeats 4000000 in
set_option maxRecDepth 100000 in
theorem k_X2_stepsToFind_j57 {gs : List String} {ro : pm_RO} {n : Nat} {w : Nat → va_E} {b : Nat} {u : rg_U} {F : Nat} {o0 : Nat} {l1 : Int32} {l3 : Int32} {l4 : Int32} {l5 : Int32} {z : ((Int32 × Int32 × Int32) ⊕ Int32)} {Q : Option Value → Nat → (Nat → va_E) → Prop} (hR : rg shC b u n w) (hs0 : sp_Holding o0) (h : g_X2_stepsToFind_j57 F o0 l1 l3 l4 l5 u = some z) (hc : ∀ s', z = .inl s' → pm_X gs ro M_X2_stepsToFind 2 0 0 0 0 13 [some (.ref (b + o0)), some (.int l1), none, some (.int s'.1), some (.int s'.2.1), some (.int s'.2.2)] [] n w Q) (he0 : ∀ r', z = .inr r' → pm_X gs ro M_X2_stepsToFind 2 0 0 0 0 63 [none, none, none, some (.int r'), none, none] [] n w Q) : pm_X gs ro M_X2_stepsToFind 2 0 0 0 0 57 [some (.ref (b + o0)), some (.int l1), none, some (.int l3), some (.int l4), some (.int l5)] [] n w Q := by
  unfold g_X2_stepsToFind_j57 at h
  refine pm_iinc (v := (l5 + (-1))) dX2_stepsToFind_57 rfl rfl (by decide) rfl rfl ?_
  refine pm_goto (tgt := 13) dX2_stepsToFind_60 (by decide) ?_
  refine pm_lw (L' := [some (.ref (b + o0)), some (.int l1), none, some (.int l3), some (.int l4), some (.int (l5 + (-1)))]) ⟨Or.inr rfl, Or.inr rfl, Or.inl rfl, Or.inr rfl, Or.inr rfl, Or.inr rfl, trivial⟩ ?_
  exact hc _ (Option.some.inj h).symm
def g_X2_stepsToFind_l13 (F : Nat) (o0 : Nat) (l1 : Int32) (u : rg_U) (l3 : Int32) (l4 : Int32) (l5 : Int32) : Option ((Int32 × Int32 × Int32) ⊕ Int32) :=
  if l5 < 0 then (some (.inr l3)) else (if l4 < l1 then (some (.inr l3)) else (ob (g_X2_timeOf F o0 l5 u) (fun r3 => if l4 < r3 then (g_X2_stepsToFind_j57 F o0 l1 l3 l4 l5 u) else (ob (g_X2_timeOf F o0 l5 u) (fun r6 => ob (g_X2_timeOf F o0 l5 u) (fun r8 => g_X2_stepsToFind_j57 F o0 l1 (l3 + (l4 - r6)) (r8 - 1) l5 u))))))
set_option maxHeartbeats 4000000 in
set_option maxRecDepth 100000 in
theorem k_X2_stepsToFind_l13 {gs : List String} {ro : pm_RO} {n : Nat} {w : Nat → va_E} {b : Nat} {u : rg_U} {F : Nat} {o0 : Nat} {l1 : Int32} {l3 : Int32} {l4 : Int32} {l5 : Int32} {z : (Int32 × Int32 × Int32) ⊕ Int32} {Q : Option Value → Nat → (Nat → va_E) → Prop} (hR : rg shC b u n w) (hs0 : sp_Holding o0) (h : g_X2_stepsToFind_l13 F o0 l1 u l3 l4 l5 = some z) (hc : ∀ s', z = .inl s' → pm_X gs ro M_X2_stepsToFind 2 0 0 0 0 13 [some (.ref (b + o0)), some (.int l1), none, some (.int s'.1), some (.int s'.2.1), some (.int s'.2.2)] [] n w Q) (he0 : ∀ r', z = .inr r' → pm_X gs ro M_X2_stepsToFind 2 0 0 0 0 63 [none, none, none, some (.int r'), none, none] [] n w Q) : pm_X gs ro M_X2_stepsToFind 2 0 0 0 0 13 [some (.ref (b + o0)), some (.int l1), none, some (.int l3), some (.int l4), some (.int l5)] [] n w Q := by
  unfold g_X2_stepsToFind_l13 at h
  refine pm_iload dX2_stepsToFind_13 rfl ?_
  refine pm_if_lt (tgt := 63) dX2_stepsToFind_15 (by decide) (fun c1 => ?_) (fun c1 => ?_)
  · replace h := it_t c1 h
    refine pm_lw (L' := [none, none, none, some (.int l3), none, none]) ⟨Or.inl rfl, Or.inl rfl, Or.inl rfl, Or.inr rfl, Or.inl rfl, Or.inl rfl, trivial⟩ ?_
    exact he0 _ (Option.some.inj h).symm
  · replace h := it_f c1 h
    refine pm_iload dX2_stepsToFind_18 rfl ?_
    refine pm_iload_n dX2_stepsToFind_20 rfl ?_
    refine pm_icmp_lt (tgt := 63) dX2_stepsToFind_21 (by decide) (fun c2 => ?_) (fun c2 => ?_)
    · replace h := it_t c2 h
      refine pm_lw (L' := [none, none, none, some (.int l3), none, none]) ⟨Or.inl rfl, Or.inl rfl, Or.inl rfl, Or.inr rfl, Or.inl rfl, Or.inl rfl, trivial⟩ ?_
      exact he0 _ (Option.some.inj h).symm
    · replace h := it_f c2 h
      refine pm_aload_n dX2_stepsToFind_24 rfl ?_
      refine pm_iload dX2_stepsToFind_25 rfl ?_
      obtain ⟨r3, h4, h⟩ := ob_some h
      refine dx_cVp (j := o0) (M := M_X2_stepsToFind) (Mc := M_X2_timeOf) (dc := 1) (As := [.int l5]) (st := []) hR dX2_stepsToFind_27 ml_X2_53 ⟨TX2, 5, rfl⟩ (sp_Holding_self hs0) (by decide) (Nat.le_of_ble_eq_true rfl) rfl (k_X2_timeOf hR hs0 h4) ?_
      refine pm_iload dX2_stepsToFind_30 rfl ?_
      refine pm_icmp_gt (tgt := 57) dX2_stepsToFind_32 (by decide) (fun c5 => ?_) (fun c5 => ?_)
      · replace h := it_t c5 h
        exact k_X2_stepsToFind_j57 hR hs0 h hc he0
      · replace h := it_f c5 h
        refine pm_iload_n dX2_stepsToFind_35 rfl ?_
        refine pm_iload dX2_stepsToFind_36 rfl ?_
        refine pm_aload_n dX2_stepsToFind_38 rfl ?_
        refine pm_iload dX2_stepsToFind_39 rfl ?_
        obtain ⟨r6, h7, h⟩ := ob_some h
        refine dx_cVp (j := o0) (M := M_X2_stepsToFind) (Mc := M_X2_timeOf) (dc := 1) (As := [.int l5]) (st := [.int l4, .int l3]) hR dX2_stepsToFind_41 ml_X2_53 ⟨TX2, 5, rfl⟩ (sp_Holding_self hs0) (by decide) (Nat.le_of_ble_eq_true rfl) rfl (k_X2_timeOf hR hs0 h7) ?_
        refine pm_isub dX2_stepsToFind_44 ?_
        refine pm_iadd dX2_stepsToFind_45 ?_
        refine pm_istore_n dX2_stepsToFind_46 (by decide) rfl rfl ?_
        refine pm_aload_n dX2_stepsToFind_47 rfl ?_
        refine pm_iload dX2_stepsToFind_48 rfl ?_
        obtain ⟨r8, h9, h⟩ := ob_some h
        refine dx_cVp (j := o0) (M := M_X2_stepsToFind) (Mc := M_X2_timeOf) (dc := 1) (As := [.int l5]) (st := []) hR dX2_stepsToFind_50 ml_X2_53 ⟨TX2, 5, rfl⟩ (sp_Holding_self hs0) (by decide) (Nat.le_of_ble_eq_true rfl) rfl (k_X2_timeOf hR hs0 h9) ?_
        refine pm_iconst (v := 1) dX2_stepsToFind_53 (by decide) ?_
        refine pm_isub dX2_stepsToFind_54 ?_
        refine pm_istore dX2_stepsToFind_55 (by decide) rfl rfl ?_
        exact k_X2_stepsToFind_j57 hR hs0 h hc he0
def g_X2_stepsToFind (F : Nat) (o0 : Nat) (x1 : Int32) (x2 : Int32) (u : rg_U) : Option Int32 :=
  ob (lp (fun (s : (Int32 × Int32 × Int32)) => g_X2_stepsToFind_l13 F o0 x1 u s.1 s.2.1 s.2.2) F ((0 : Int32), (x2 : Int32), (((rF u o0 1) - 1) : Int32))) (fun r10 => some r10)
set_option maxHeartbeats 4000000 in
set_option maxRecDepth 100000 in
theorem k_X2_stepsToFind {gs : List String} {ro : pm_RO} {n : Nat} {w : Nat → va_E} {b : Nat} {u : rg_U} {F : Nat} {o0 : Nat} {x1 : Int32} {x2 : Int32} {z : Int32} (hR : rg shC b u n w) (hs0 : sp_Holding o0) (h : g_X2_stepsToFind F o0 x1 x2 u = some z) : pm_Met gs ro M_X2_stepsToFind 2 0 0 [.ref (b + o0), .int x1, .int x2] n w (pm_p n w (some (.int z))) := by
  unfold g_X2_stepsToFind at h
  refine pm_ofX in_X2_stepsToFind (Nat.le_of_ble_eq_true rfl) rfl (L := [some (.ref (b + o0)), some (.int x1), some (.int x2), none, none, none]) rfl ?_
  refine pm_iconst (v := 0) dX2_stepsToFind_0 (by decide) ?_
  refine pm_istore_n dX2_stepsToFind_1 (by decide) rfl rfl ?_
  refine pm_iload_n dX2_stepsToFind_2 rfl ?_
  refine pm_istore dX2_stepsToFind_3 (by decide) rfl rfl ?_
  refine pm_aload_n dX2_stepsToFind_5 rfl ?_
  refine dx_gi (j := o0) hR dX2_stepsToFind_6 fl_X2_15 (sp_Holding_self hs0) rfl ?_
  refine pm_iconst (v := 1) dX2_stepsToFind_9 (by decide) ?_
  refine pm_isub dX2_stepsToFind_10 ?_
  refine pm_istore dX2_stepsToFind_11 (by decide) rfl rfl ?_
  refine pm_lw (L' := [some (.ref (b + o0)), some (.int x1), none, some (.int 0), some (.int x2), some (.int ((rF u o0 1) - 1))]) ⟨Or.inr rfl, Or.inr rfl, Or.inl rfl, Or.inr rfl, Or.inr rfl, Or.inr rfl, trivial⟩ ?_
  obtain ⟨r10, h11, h⟩ := ob_some h
  refine lp_sound (P := fun (s : (Int32 × Int32 × Int32)) => pm_X gs ro M_X2_stepsToFind 2 0 0 0 0 13 [some (.ref (b + o0)), some (.int x1), none, some (.int s.1), some (.int s.2.1), some (.int s.2.2)] [] n w (pm_p n w (some (.int z)))) (E := (fun (r : Int32) => pm_X gs ro M_X2_stepsToFind 2 0 0 0 0 63 [none, none, none, some (.int r), none, none] [] n w (pm_p n w (some (.int z))))) (fun s x hx hc he => k_X2_stepsToFind_l13 hR hs0 hx hc (fun r q => he r q)) F _ r10 h11 ?_
  refine pm_iload_n dX2_stepsToFind_63 rfl ?_
  cases h
  exact pm_iret dX2_stepsToFind_64 rfl (Nat.le_refl _) (Nat.le_refl _) ⟨rfl, rfl, rfl⟩
def g_X3_takeFrom (F : Nat) (o0 : Nat) (o1 : Nat) (u : rg_U) : Option rg_U :=
  lt1 (sF u o0 5 (rF u o1 5)) (fun u1 => ob (g_X9_copyRow F (o1 + 1) 800 (o0 + 1) 800 (rF u1 o0 5) u1) (fun r6 => ob (g_X9_copyRow F (o1 + 2) 800 (o0 + 2) 800 (rF r6 o0 5) r6) (fun r11 => ob (g_X9_copyRow F (o1 + 3) 800 (o0 + 3) 800 (rF r11 o0 5) r11) (fun r16 => ob (g_X9_copyRow F (o1 + 4) 800 (o0 + 4) 800 (rF r16 o0 5) r16) (fun r21 => ob (g_X9_copyRow F (o1 + 5) 800 (o0 + 5) 800 (rF r21 o0 5) r21) (fun r26 => some r26))))))
set_option maxHeartbeats 4000000 in
set_option maxRecDepth 100000 in
theorem k_X3_takeFrom {gs : List String} {ro : pm_RO} {n : Nat} {w : Nat → va_E} {b : Nat} {u : rg_U} {F : Nat} {o0 : Nat} {o1 : Nat} {z : rg_U} (hR : rg shC b u n w) (hs0 : sp_Log o0) (hs1 : sp_Log o1) (h : g_X3_takeFrom F o0 o1 u = some z) : pm_Met gs ro M_X3_takeFrom 2 0 0 [.ref (b + o0), .ref (b + o1)] n w (rg_post shC b n w none z) := by
  unfold g_X3_takeFrom at h
  refine pm_ofX in_X3_takeFrom (Nat.le_of_ble_eq_true rfl) rfl (L := [some (.ref (b + o0)), some (.ref (b + o1))]) rfl ?_
  refine pm_aload_n dX3_takeFrom_0 rfl ?_
  refine pm_aload_n dX3_takeFrom_1 rfl ?_
  refine dx_gi (j := o1) hR dX3_takeFrom_2 fl_X3_27 (sp_Log_self hs1) rfl ?_
  obtain ⟨u1, hu2, h⟩ := lt1_ex h
  refine dx_pi (j := o0) hR rg_k0 dX3_takeFrom_5 fl_X3_27 (sp_Log_self hs0) rfl hu2 (fun w3 hR4 hk5 => ?_)
  refine pm_aload_n dX3_takeFrom_8 rfl ?_
  refine dx_gr (j := o1) (o := (o1 + 1)) hR4 dX3_takeFrom_9 fl_X3_9 (sp_Log_self hs1) rfl ?_
  refine pm_aload_n dX3_takeFrom_12 rfl ?_
  refine dx_gr (j := o0) (o := (o0 + 1)) hR4 dX3_takeFrom_13 fl_X3_9 (sp_Log_self hs0) rfl ?_
  refine pm_aload_n dX3_takeFrom_16 rfl ?_
  refine dx_gi (j := o0) hR4 dX3_takeFrom_17 fl_X3_27 (sp_Log_self hs0) rfl ?_
  obtain ⟨r6, h7, h⟩ := ob_some h
  refine dx_cSNv (M := M_X3_takeFrom) (Mc := M_X9_copyRow) (dc := 1) (As := [.ref (b + (o1 + 1)), .ref (b + (o0 + 1)), .int (rF u1 o0 5)]) (st := []) hk5 dX3_takeFrom_20 ml_X3_31 (by decide) (Nat.le_of_ble_eq_true rfl) rfl (k_X9_copyRow hR4 (sp_Log_time hs1) (sp_Log_time hs0) h7) (fun w8 hR9 hk10 => ?_)
  refine pm_aload_n dX3_takeFrom_23 rfl ?_
  refine dx_gr (j := o1) (o := (o1 + 2)) hR9 dX3_takeFrom_24 fl_X3_15 (sp_Log_self hs1) rfl ?_
  refine pm_aload_n dX3_takeFrom_27 rfl ?_
  refine dx_gr (j := o0) (o := (o0 + 2)) hR9 dX3_takeFrom_28 fl_X3_15 (sp_Log_self hs0) rfl ?_
  refine pm_aload_n dX3_takeFrom_31 rfl ?_
  refine dx_gi (j := o0) hR9 dX3_takeFrom_32 fl_X3_27 (sp_Log_self hs0) rfl ?_
  obtain ⟨r11, h12, h⟩ := ob_some h
  refine dx_cSNv (M := M_X3_takeFrom) (Mc := M_X9_copyRow) (dc := 1) (As := [.ref (b + (o1 + 2)), .ref (b + (o0 + 2)), .int (rF r6 o0 5)]) (st := []) hk10 dX3_takeFrom_35 ml_X3_31 (by decide) (Nat.le_of_ble_eq_true rfl) rfl (k_X9_copyRow hR9 (sp_Log_origin hs1) (sp_Log_origin hs0) h12) (fun w13 hR14 hk15 => ?_)
  refine pm_aload_n dX3_takeFrom_38 rfl ?_
  refine dx_gr (j := o1) (o := (o1 + 3)) hR14 dX3_takeFrom_39 fl_X3_18 (sp_Log_self hs1) rfl ?_
  refine pm_aload_n dX3_takeFrom_42 rfl ?_
  refine dx_gr (j := o0) (o := (o0 + 3)) hR14 dX3_takeFrom_43 fl_X3_18 (sp_Log_self hs0) rfl ?_
  refine pm_aload_n dX3_takeFrom_46 rfl ?_
  refine dx_gi (j := o0) hR14 dX3_takeFrom_47 fl_X3_27 (sp_Log_self hs0) rfl ?_
  obtain ⟨r16, h17, h⟩ := ob_some h
  refine dx_cSNv (M := M_X3_takeFrom) (Mc := M_X9_copyRow) (dc := 1) (As := [.ref (b + (o1 + 3)), .ref (b + (o0 + 3)), .int (rF r11 o0 5)]) (st := []) hk15 dX3_takeFrom_50 ml_X3_31 (by decide) (Nat.le_of_ble_eq_true rfl) rfl (k_X9_copyRow hR14 (sp_Log_number hs1) (sp_Log_number hs0) h17) (fun w18 hR19 hk20 => ?_)
  refine pm_aload_n dX3_takeFrom_53 rfl ?_
  refine dx_gr (j := o1) (o := (o1 + 4)) hR19 dX3_takeFrom_54 fl_X3_21 (sp_Log_self hs1) rfl ?_
  refine pm_aload_n dX3_takeFrom_57 rfl ?_
  refine dx_gr (j := o0) (o := (o0 + 4)) hR19 dX3_takeFrom_58 fl_X3_21 (sp_Log_self hs0) rfl ?_
  refine pm_aload_n dX3_takeFrom_61 rfl ?_
  refine dx_gi (j := o0) hR19 dX3_takeFrom_62 fl_X3_27 (sp_Log_self hs0) rfl ?_
  obtain ⟨r21, h22, h⟩ := ob_some h
  refine dx_cSNv (M := M_X3_takeFrom) (Mc := M_X9_copyRow) (dc := 1) (As := [.ref (b + (o1 + 4)), .ref (b + (o0 + 4)), .int (rF r16 o0 5)]) (st := []) hk20 dX3_takeFrom_65 ml_X3_31 (by decide) (Nat.le_of_ble_eq_true rfl) rfl (k_X9_copyRow hR19 (sp_Log_place hs1) (sp_Log_place hs0) h22) (fun w23 hR24 hk25 => ?_)
  refine pm_aload_n dX3_takeFrom_68 rfl ?_
  refine dx_gr (j := o1) (o := (o1 + 5)) hR24 dX3_takeFrom_69 fl_X3_24 (sp_Log_self hs1) rfl ?_
  refine pm_aload_n dX3_takeFrom_72 rfl ?_
  refine dx_gr (j := o0) (o := (o0 + 5)) hR24 dX3_takeFrom_73 fl_X3_24 (sp_Log_self hs0) rfl ?_
  refine pm_aload_n dX3_takeFrom_76 rfl ?_
  refine dx_gi (j := o0) hR24 dX3_takeFrom_77 fl_X3_27 (sp_Log_self hs0) rfl ?_
  obtain ⟨r26, h27, h⟩ := ob_some h
  refine dx_cSNv (M := M_X3_takeFrom) (Mc := M_X9_copyRow) (dc := 1) (As := [.ref (b + (o1 + 5)), .ref (b + (o0 + 5)), .int (rF r21 o0 5)]) (st := []) hk25 dX3_takeFrom_80 ml_X3_31 (by decide) (Nat.le_of_ble_eq_true rfl) rfl (k_X9_copyRow hR24 (sp_Log_sort hs1) (sp_Log_sort hs0) h27) (fun w28 hR29 hk30 => ?_)
  cases h
  exact pm_vret dX3_takeFrom_83 rfl (Nat.le_refl _) (Nat.le_refl _) ⟨rfl, rfl, hR29, hk30⟩
def g_X3_has (F : Nat) (o0 : Nat) (x1 : Int32) (u : rg_U) : Option Int32 :=
  if x1 < 0 then (some 0) else (if (rF u o0 5) ≤ x1 then (some 0) else (if 800 ≤ x1 then (some 0) else (some 1)))
set_option maxHeartbeats 4000000 in
set_option maxRecDepth 100000 in
theorem k_X3_has {gs : List String} {ro : pm_RO} {n : Nat} {w : Nat → va_E} {b : Nat} {u : rg_U} {F : Nat} {o0 : Nat} {x1 : Int32} {z : Int32} (hR : rg shC b u n w) (hs0 : sp_Log o0) (h : g_X3_has F o0 x1 u = some z) : pm_Met gs ro M_X3_has 0 0 0 [.ref (b + o0), .int x1] n w (pm_p n w (some (.int z))) := by
  unfold g_X3_has at h
  refine pm_ofX in_X3_has (Nat.le_of_ble_eq_true rfl) rfl (L := [some (.ref (b + o0)), some (.int x1)]) rfl ?_
  refine pm_iload_n dX3_has_0 rfl ?_
  refine pm_if_lt (tgt := 23) dX3_has_1 (by decide) (fun c1 => ?_) (fun c1 => ?_)
  · replace h := it_t c1 h
    refine pm_iconst (v := 0) dX3_has_23 (by decide) ?_
    cases h
    exact pm_zret dX3_has_24 rfl (Or.inl rfl) (Nat.le_refl _) (Nat.le_refl _) ⟨rfl, rfl, rfl⟩
  · replace h := it_f c1 h
    refine pm_iload_n dX3_has_4 rfl ?_
    refine pm_aload_n dX3_has_5 rfl ?_
    refine dx_gi (j := o0) hR dX3_has_6 fl_X3_27 (sp_Log_self hs0) rfl ?_
    refine pm_icmp_ge (tgt := 23) dX3_has_9 (by decide) (fun c2 => ?_) (fun c2 => ?_)
    · replace h := it_t c2 h
      refine pm_iconst (v := 0) dX3_has_23 (by decide) ?_
      cases h
      exact pm_zret dX3_has_24 rfl (Or.inl rfl) (Nat.le_refl _) (Nat.le_refl _) ⟨rfl, rfl, rfl⟩
    · replace h := it_f c2 h
      refine pm_iload_n dX3_has_12 rfl ?_
      refine pm_sipush (v := 800) dX3_has_13 (by decide) ?_
      refine pm_icmp_ge (tgt := 23) dX3_has_16 (by decide) (fun c3 => ?_) (fun c3 => ?_)
      · replace h := it_t c3 h
        refine pm_iconst (v := 0) dX3_has_23 (by decide) ?_
        cases h
        exact pm_zret dX3_has_24 rfl (Or.inl rfl) (Nat.le_refl _) (Nat.le_refl _) ⟨rfl, rfl, rfl⟩
      · replace h := it_f c3 h
        refine pm_iconst (v := 1) dX3_has_19 (by decide) ?_
        refine pm_goto (tgt := 24) dX3_has_20 (by decide) ?_
        cases h
        exact pm_zret dX3_has_24 rfl (Or.inr rfl) (Nat.le_refl _) (Nat.le_refl _) ⟨rfl, rfl, rfl⟩
def g_X3_isFull (F : Nat) (o0 : Nat) (u : rg_U) : Option Int32 :=
  if (rF u o0 5) < 800 then (some 0) else (some 1)
set_option maxHeartbeats 4000000 in
set_option maxRecDepth 100000 in
theorem k_X3_isFull {gs : List String} {ro : pm_RO} {n : Nat} {w : Nat → va_E} {b : Nat} {u : rg_U} {F : Nat} {o0 : Nat} {z : Int32} (hR : rg shC b u n w) (hs0 : sp_Log o0) (h : g_X3_isFull F o0 u = some z) : pm_Met gs ro M_X3_isFull 0 0 0 [.ref (b + o0)] n w (pm_p n w (some (.int z))) := by
  unfold g_X3_isFull at h
  refine pm_ofX in_X3_isFull (Nat.le_of_ble_eq_true rfl) rfl (L := [some (.ref (b + o0))]) rfl ?_
  refine pm_aload_n dX3_isFull_0 rfl ?_
  refine dx_gi (j := o0) hR dX3_isFull_1 fl_X3_27 (sp_Log_self hs0) rfl ?_
  refine pm_sipush (v := 800) dX3_isFull_4 (by decide) ?_
  refine pm_icmp_lt (tgt := 14) dX3_isFull_7 (by decide) (fun c1 => ?_) (fun c1 => ?_)
  · replace h := it_t c1 h
    refine pm_iconst (v := 0) dX3_isFull_14 (by decide) ?_
    cases h
    exact pm_zret dX3_isFull_15 rfl (Or.inl rfl) (Nat.le_refl _) (Nat.le_refl _) ⟨rfl, rfl, rfl⟩
  · replace h := it_f c1 h
    refine pm_iconst (v := 1) dX3_isFull_10 (by decide) ?_
    refine pm_goto (tgt := 15) dX3_isFull_11 (by decide) ?_
    cases h
    exact pm_zret dX3_isFull_15 rfl (Or.inr rfl) (Nat.le_refl _) (Nat.le_refl _) ⟨rfl, rfl, rfl⟩
def g_X3_add (F : Nat) (o0 : Nat) (x1 : Int32) (x2 : Int32) (x3 : Int32) (x4 : Int32) (x5 : Int32) (u : rg_U) : Option rg_U :=
  if (rF u o0 5) < 0 then (some u) else (if 800 ≤ (rF u o0 5) then (some u) else (ck (inb (rF u o0 5) 800) (lt1 (sA u (o0 + 1) (rF u o0 5) x1) (fun u4 => ck (inb (rF u4 o0 5) 800) (lt1 (sA u4 (o0 + 2) (rF u4 o0 5) x2) (fun u10 => ck (inb (rF u10 o0 5) 800) (lt1 (sA u10 (o0 + 4) (rF u10 o0 5) x3) (fun u16 => ck (inb (rF u16 o0 5) 800) (lt1 (sA u16 (o0 + 5) (rF u16 o0 5) x4) (fun u22 => ck (inb (rF u22 o0 5) 800) (lt1 (sA u22 (o0 + 3) (rF u22 o0 5) x5) (fun u28 => lt1 (sF u28 o0 5 ((rF u28 o0 5) + 1)) (fun u33 => some u33)))))))))))))
set_option maxHeartbeats 4000000 in
set_option maxRecDepth 100000 in
theorem k_X3_add {gs : List String} {ro : pm_RO} {n : Nat} {w : Nat → va_E} {b : Nat} {u : rg_U} {F : Nat} {o0 : Nat} {x1 : Int32} {x2 : Int32} {x3 : Int32} {x4 : Int32} {x5 : Int32} {z : rg_U} (hR : rg shC b u n w) (hs0 : sp_Log o0) (h : g_X3_add F o0 x1 x2 x3 x4 x5 u = some z) : pm_Met gs ro M_X3_add 0 0 0 [.ref (b + o0), .int x1, .int x2, .int x3, .int x4, .int x5] n w (rg_post shC b n w none z) := by
  unfold g_X3_add at h
  refine pm_ofX in_X3_add (Nat.le_of_ble_eq_true rfl) rfl (L := [some (.ref (b + o0)), some (.int x1), some (.int x2), some (.int x3), some (.int x4), some (.int x5)]) rfl ?_
  refine pm_aload_n dX3_add_0 rfl ?_
  refine dx_gi (j := o0) hR dX3_add_1 fl_X3_27 (sp_Log_self hs0) rfl ?_
  refine pm_if_lt (tgt := 79) dX3_add_4 (by decide) (fun c1 => ?_) (fun c1 => ?_)
  · replace h := it_t c1 h
    cases h
    exact pm_vret dX3_add_79 rfl (Nat.le_refl _) (Nat.le_refl _) ⟨rfl, rfl, hR, rg_k0⟩
  · replace h := it_f c1 h
    refine pm_aload_n dX3_add_7 rfl ?_
    refine dx_gi (j := o0) hR dX3_add_8 fl_X3_27 (sp_Log_self hs0) rfl ?_
    refine pm_sipush (v := 800) dX3_add_11 (by decide) ?_
    refine pm_icmp_ge (tgt := 79) dX3_add_14 (by decide) (fun c2 => ?_) (fun c2 => ?_)
    · replace h := it_t c2 h
      cases h
      exact pm_vret dX3_add_79 rfl (Nat.le_refl _) (Nat.le_refl _) ⟨rfl, rfl, hR, rg_k0⟩
    · replace h := it_f c2 h
      refine pm_aload_n dX3_add_17 rfl ?_
      refine dx_gr (j := o0) (o := (o0 + 1)) hR dX3_add_18 fl_X3_9 (sp_Log_self hs0) rfl ?_
      refine pm_aload_n dX3_add_21 rfl ?_
      refine dx_gi (j := o0) hR dX3_add_22 fl_X3_27 (sp_Log_self hs0) rfl ?_
      refine pm_iload_n dX3_add_25 rfl ?_
      obtain ⟨c3, h⟩ := ck_some h
      obtain ⟨u4, hu5, h⟩ := lt1_ex h
      refine dx_as (j := (o0 + 1)) hR rg_k0 dX3_add_26 (sp_Log_time hs0) (vp_in_iff.mpr c3) hu5 (fun w6 hR7 hk8 => ?_)
      refine pm_aload_n dX3_add_27 rfl ?_
      refine dx_gr (j := o0) (o := (o0 + 2)) hR7 dX3_add_28 fl_X3_15 (sp_Log_self hs0) rfl ?_
      refine pm_aload_n dX3_add_31 rfl ?_
      refine dx_gi (j := o0) hR7 dX3_add_32 fl_X3_27 (sp_Log_self hs0) rfl ?_
      refine pm_iload_n dX3_add_35 rfl ?_
      obtain ⟨c9, h⟩ := ck_some h
      obtain ⟨u10, hu11, h⟩ := lt1_ex h
      refine dx_as (j := (o0 + 2)) hR7 hk8 dX3_add_36 (sp_Log_origin hs0) (vp_in_iff.mpr c9) hu11 (fun w12 hR13 hk14 => ?_)
      refine pm_aload_n dX3_add_37 rfl ?_
      refine dx_gr (j := o0) (o := (o0 + 4)) hR13 dX3_add_38 fl_X3_21 (sp_Log_self hs0) rfl ?_
      refine pm_aload_n dX3_add_41 rfl ?_
      refine dx_gi (j := o0) hR13 dX3_add_42 fl_X3_27 (sp_Log_self hs0) rfl ?_
      refine pm_iload_n dX3_add_45 rfl ?_
      obtain ⟨c15, h⟩ := ck_some h
      obtain ⟨u16, hu17, h⟩ := lt1_ex h
      refine dx_as (j := (o0 + 4)) hR13 hk14 dX3_add_46 (sp_Log_place hs0) (vp_in_iff.mpr c15) hu17 (fun w18 hR19 hk20 => ?_)
      refine pm_aload_n dX3_add_47 rfl ?_
      refine dx_gr (j := o0) (o := (o0 + 5)) hR19 dX3_add_48 fl_X3_24 (sp_Log_self hs0) rfl ?_
      refine pm_aload_n dX3_add_51 rfl ?_
      refine dx_gi (j := o0) hR19 dX3_add_52 fl_X3_27 (sp_Log_self hs0) rfl ?_
      refine pm_iload dX3_add_55 rfl ?_
      obtain ⟨c21, h⟩ := ck_some h
      obtain ⟨u22, hu23, h⟩ := lt1_ex h
      refine dx_as (j := (o0 + 5)) hR19 hk20 dX3_add_57 (sp_Log_sort hs0) (vp_in_iff.mpr c21) hu23 (fun w24 hR25 hk26 => ?_)
      refine pm_aload_n dX3_add_58 rfl ?_
      refine dx_gr (j := o0) (o := (o0 + 3)) hR25 dX3_add_59 fl_X3_18 (sp_Log_self hs0) rfl ?_
      refine pm_aload_n dX3_add_62 rfl ?_
      refine dx_gi (j := o0) hR25 dX3_add_63 fl_X3_27 (sp_Log_self hs0) rfl ?_
      refine pm_iload dX3_add_66 rfl ?_
      obtain ⟨c27, h⟩ := ck_some h
      obtain ⟨u28, hu29, h⟩ := lt1_ex h
      refine dx_as (j := (o0 + 3)) hR25 hk26 dX3_add_68 (sp_Log_number hs0) (vp_in_iff.mpr c27) hu29 (fun w30 hR31 hk32 => ?_)
      refine pm_aload_n dX3_add_69 rfl ?_
      refine pm_dup dX3_add_70 rfl ?_
      refine dx_gi (j := o0) hR31 dX3_add_71 fl_X3_27 (sp_Log_self hs0) rfl ?_
      refine pm_iconst (v := 1) dX3_add_74 (by decide) ?_
      refine pm_iadd dX3_add_75 ?_
      obtain ⟨u33, hu34, h⟩ := lt1_ex h
      refine dx_pi (j := o0) hR31 hk32 dX3_add_76 fl_X3_27 (sp_Log_self hs0) rfl hu34 (fun w35 hR36 hk37 => ?_)
      cases h
      exact pm_vret dX3_add_79 rfl (Nat.le_refl _) (Nat.le_refl _) ⟨rfl, rfl, hR36, hk37⟩
def g_X3_addWhole (F : Nat) (o0 : Nat) (x1 : Int32) (x2 : Int32) (x3 : Int32) (u : rg_U) : Option rg_U :=
  ob (g_X3_add F o0 x1 x2 (-1) 2 x3 u) (fun r1 => some r1)
set_option maxHeartbeats 4000000 in
set_option maxRecDepth 100000 in
theorem k_X3_addWhole {gs : List String} {ro : pm_RO} {n : Nat} {w : Nat → va_E} {b : Nat} {u : rg_U} {F : Nat} {o0 : Nat} {x1 : Int32} {x2 : Int32} {x3 : Int32} {z : rg_U} (hR : rg shC b u n w) (hs0 : sp_Log o0) (h : g_X3_addWhole F o0 x1 x2 x3 u = some z) : pm_Met gs ro M_X3_addWhole 1 0 0 [.ref (b + o0), .int x1, .int x2, .int x3] n w (rg_post shC b n w none z) := by
  unfold g_X3_addWhole at h
  refine pm_ofX in_X3_addWhole (Nat.le_of_ble_eq_true rfl) rfl (L := [some (.ref (b + o0)), some (.int x1), some (.int x2), some (.int x3)]) rfl ?_
  refine pm_aload_n dX3_addWhole_0 rfl ?_
  refine pm_iload_n dX3_addWhole_1 rfl ?_
  refine pm_iload_n dX3_addWhole_2 rfl ?_
  refine pm_iconst (v := (-1)) dX3_addWhole_3 (by decide) ?_
  refine pm_iconst (v := 2) dX3_addWhole_4 (by decide) ?_
  refine pm_iload_n dX3_addWhole_5 rfl ?_
  obtain ⟨r1, h2, h⟩ := ob_some h
  refine dx_cVv (j := o0) (M := M_X3_addWhole) (Mc := M_X3_add) (dc := 0) (As := [.int x1, .int x2, .int (-1), .int 2, .int x3]) (st := []) hR rg_k0 dX3_addWhole_6 ml_X3_35 ⟨TX3, 6, rfl⟩ (sp_Log_self hs0) (by decide) (Nat.le_of_ble_eq_true rfl) rfl (k_X3_add hR hs0 h2) (fun w3 hR4 hk5 => ?_)
  cases h
  exact pm_vret dX3_addWhole_9 rfl (Nat.le_refl _) (Nat.le_refl _) ⟨rfl, rfl, hR4, hk5⟩
def g_X3_addPoke (F : Nat) (o0 : Nat) (x1 : Int32) (x2 : Int32) (x3 : Int32) (x4 : Int32) (u : rg_U) : Option rg_U :=
  ob (g_X3_add F o0 x1 2 x2 x3 x4 u) (fun r1 => some r1)
set_option maxHeartbeats 4000000 in
set_option maxRecDepth 100000 in
theorem k_X3_addPoke {gs : List String} {ro : pm_RO} {n : Nat} {w : Nat → va_E} {b : Nat} {u : rg_U} {F : Nat} {o0 : Nat} {x1 : Int32} {x2 : Int32} {x3 : Int32} {x4 : Int32} {z : rg_U} (hR : rg shC b u n w) (hs0 : sp_Log o0) (h : g_X3_addPoke F o0 x1 x2 x3 x4 u = some z) : pm_Met gs ro M_X3_addPoke 1 0 0 [.ref (b + o0), .int x1, .int x2, .int x3, .int x4] n w (rg_post shC b n w none z) := by
  unfold g_X3_addPoke at h
  refine pm_ofX in_X3_addPoke (Nat.le_of_ble_eq_true rfl) rfl (L := [some (.ref (b + o0)), some (.int x1), some (.int x2), some (.int x3), some (.int x4)]) rfl ?_
  refine pm_aload_n dX3_addPoke_0 rfl ?_
  refine pm_iload_n dX3_addPoke_1 rfl ?_
  refine pm_iconst (v := 2) dX3_addPoke_2 (by decide) ?_
  refine pm_iload_n dX3_addPoke_3 rfl ?_
  refine pm_iload_n dX3_addPoke_4 rfl ?_
  refine pm_iload dX3_addPoke_5 rfl ?_
  obtain ⟨r1, h2, h⟩ := ob_some h
  refine dx_cVv (j := o0) (M := M_X3_addPoke) (Mc := M_X3_add) (dc := 0) (As := [.int x1, .int 2, .int x2, .int x3, .int x4]) (st := []) hR rg_k0 dX3_addPoke_7 ml_X3_35 ⟨TX3, 6, rfl⟩ (sp_Log_self hs0) (by decide) (Nat.le_of_ble_eq_true rfl) rfl (k_X3_add hR hs0 h2) (fun w3 hR4 hk5 => ?_)
  cases h
  exact pm_vret dX3_addPoke_10 rfl (Nat.le_refl _) (Nat.le_refl _) ⟨rfl, rfl, hR4, hk5⟩
def g_X3_read (F : Nat) (o0 : Nat) (x1 : Int32) (x2 : Int32) (u : rg_U) : Option Int32 :=
  ob (g_X3_has F o0 x1 u) (fun r1 => if r1 = 0 then (some (-1000001)) else (if x2 = 0 then (ck (inb x1 800) (some (rA u (o0 + 1) x1))) else if x2 = 1 then (ck (inb x1 800) (some (rA u (o0 + 2) x1))) else if x2 = 2 then (ck (inb x1 800) (some (rA u (o0 + 3) x1))) else if x2 = 3 then (ck (inb x1 800) (some (rA u (o0 + 4) x1))) else if x2 = 4 then (ck (inb x1 800) (some (rA u (o0 + 5) x1))) else (some (-1000001))))
set_option maxHeartbeats 4000000 in
set_option maxRecDepth 100000 in
theorem k_X3_read {gs : List String} {ro : pm_RO} {n : Nat} {w : Nat → va_E} {b : Nat} {u : rg_U} {F : Nat} {o0 : Nat} {x1 : Int32} {x2 : Int32} {z : Int32} (hR : rg shC b u n w) (hs0 : sp_Log o0) (h : g_X3_read F o0 x1 x2 u = some z) : pm_Met gs ro M_X3_read 1 0 0 [.ref (b + o0), .int x1, .int x2] n w (pm_p n w (some (.int z))) := by
  unfold g_X3_read at h
  refine pm_ofX in_X3_read (Nat.le_of_ble_eq_true rfl) rfl (L := [some (.ref (b + o0)), some (.int x1), some (.int x2)]) rfl ?_
  refine pm_aload_n dX3_read_0 rfl ?_
  refine pm_iload_n dX3_read_1 rfl ?_
  obtain ⟨r1, h2, h⟩ := ob_some h
  refine dx_cVp (j := o0) (M := M_X3_read) (Mc := M_X3_has) (dc := 0) (As := [.int x1]) (st := []) hR dX3_read_2 ml_X3_39 ⟨TX3, 6, rfl⟩ (sp_Log_self hs0) (by decide) (Nat.le_of_ble_eq_true rfl) rfl (k_X3_has hR hs0 h2) ?_
  refine pm_if_ne (tgt := 11) dX3_read_5 (by decide) (fun c3 => ?_) (fun c3 => ?_)
  · replace h := it_f c3 h
    refine pm_iload_n dX3_read_11 rfl ?_
    by_cases t4 : x2 = 0
    · replace h := it_t t4 h
      refine pm_tableIn (off := 36) (tgt := 48) dX3_read_12 (by rw [t4]; decide) (by rw [t4]; decide) (by rw [t4]; rfl) (by decide) ?_
      refine pm_aload_n dX3_read_48 rfl ?_
      refine dx_gr (j := o0) (o := (o0 + 1)) hR dX3_read_49 fl_X3_9 (sp_Log_self hs0) rfl ?_
      refine pm_iload_n dX3_read_52 rfl ?_
      obtain ⟨c5, h⟩ := ck_some h
      refine dx_al (j := (o0 + 1)) hR dX3_read_53 (sp_Log_time hs0) (vp_in_iff.mpr c5) ?_
      cases h
      exact pm_iret dX3_read_54 rfl (Nat.le_refl _) (Nat.le_refl _) ⟨rfl, rfl, rfl⟩
    replace h := it_f t4 h
    by_cases t6 : x2 = 1
    · replace h := it_t t6 h
      refine pm_tableIn (off := 43) (tgt := 55) dX3_read_12 (by rw [t6]; decide) (by rw [t6]; decide) (by rw [t6]; rfl) (by decide) ?_
      refine pm_aload_n dX3_read_55 rfl ?_
      refine dx_gr (j := o0) (o := (o0 + 2)) hR dX3_read_56 fl_X3_15 (sp_Log_self hs0) rfl ?_
      refine pm_iload_n dX3_read_59 rfl ?_
      obtain ⟨c7, h⟩ := ck_some h
      refine dx_al (j := (o0 + 2)) hR dX3_read_60 (sp_Log_origin hs0) (vp_in_iff.mpr c7) ?_
      cases h
      exact pm_iret dX3_read_61 rfl (Nat.le_refl _) (Nat.le_refl _) ⟨rfl, rfl, rfl⟩
    replace h := it_f t6 h
    by_cases t8 : x2 = 2
    · replace h := it_t t8 h
      refine pm_tableIn (off := 50) (tgt := 62) dX3_read_12 (by rw [t8]; decide) (by rw [t8]; decide) (by rw [t8]; rfl) (by decide) ?_
      refine pm_aload_n dX3_read_62 rfl ?_
      refine dx_gr (j := o0) (o := (o0 + 3)) hR dX3_read_63 fl_X3_18 (sp_Log_self hs0) rfl ?_
      refine pm_iload_n dX3_read_66 rfl ?_
      obtain ⟨c9, h⟩ := ck_some h
      refine dx_al (j := (o0 + 3)) hR dX3_read_67 (sp_Log_number hs0) (vp_in_iff.mpr c9) ?_
      cases h
      exact pm_iret dX3_read_68 rfl (Nat.le_refl _) (Nat.le_refl _) ⟨rfl, rfl, rfl⟩
    replace h := it_f t8 h
    by_cases t10 : x2 = 3
    · replace h := it_t t10 h
      refine pm_tableIn (off := 57) (tgt := 69) dX3_read_12 (by rw [t10]; decide) (by rw [t10]; decide) (by rw [t10]; rfl) (by decide) ?_
      refine pm_aload_n dX3_read_69 rfl ?_
      refine dx_gr (j := o0) (o := (o0 + 4)) hR dX3_read_70 fl_X3_21 (sp_Log_self hs0) rfl ?_
      refine pm_iload_n dX3_read_73 rfl ?_
      obtain ⟨c11, h⟩ := ck_some h
      refine dx_al (j := (o0 + 4)) hR dX3_read_74 (sp_Log_place hs0) (vp_in_iff.mpr c11) ?_
      cases h
      exact pm_iret dX3_read_75 rfl (Nat.le_refl _) (Nat.le_refl _) ⟨rfl, rfl, rfl⟩
    replace h := it_f t10 h
    by_cases t12 : x2 = 4
    · replace h := it_t t12 h
      refine pm_tableIn (off := 64) (tgt := 76) dX3_read_12 (by rw [t12]; decide) (by rw [t12]; decide) (by rw [t12]; rfl) (by decide) ?_
      refine pm_aload_n dX3_read_76 rfl ?_
      refine dx_gr (j := o0) (o := (o0 + 5)) hR dX3_read_77 fl_X3_24 (sp_Log_self hs0) rfl ?_
      refine pm_iload_n dX3_read_80 rfl ?_
      obtain ⟨c13, h⟩ := ck_some h
      refine dx_al (j := (o0 + 5)) hR dX3_read_81 (sp_Log_sort hs0) (vp_in_iff.mpr c13) ?_
      cases h
      exact pm_iret dX3_read_82 rfl (Nat.le_refl _) (Nat.le_refl _) ⟨rfl, rfl, rfl⟩
    replace h := it_f t12 h
    refine pm_tableOut (tgt := 83) dX3_read_12 (by have h0 := lv_neT t4 (show (0 : Int32).toInt = 0 from by decide); have h1 := lv_neT t6 (show (1 : Int32).toInt = 1 from by decide); have h2 := lv_neT t8 (show (2 : Int32).toInt = 2 from by decide); have h3 := lv_neT t10 (show (3 : Int32).toInt = 3 from by decide); have h4 := lv_neT t12 (show (4 : Int32).toInt = 4 from by decide); omega) (by decide) ?_
    refine pm_ldc (v := (-1000001)) dX3_read_83 kc_X3_43 ?_
    cases h
    exact pm_iret dX3_read_85 rfl (Nat.le_refl _) (Nat.le_refl _) ⟨rfl, rfl, rfl⟩
  · replace h := it_t c3 h
    refine pm_ldc (v := (-1000001)) dX3_read_8 kc_X3_43 ?_
    cases h
    exact pm_iret dX3_read_10 rfl (Nat.le_refl _) (Nat.le_refl _) ⟨rfl, rfl, rfl⟩
def g_X3_isBehind (F : Nat) (o0 : Nat) (x1 : Int32) (x2 : Int32) (u : rg_U) : Option Int32 :=
  ob (g_X3_has F o0 x1 u) (fun r1 => if r1 = 0 then (some 0) else (ck (inb x1 800) (if (rA u (o0 + 2) x1) = 2 then (ck (inb x1 800) (if (rA u (o0 + 1) x1) ≤ x2 then (some 0) else (some 1))) else (ck (inb x1 800) (if (rA u (o0 + 1) x1) < x2 then (some 0) else (some 1))))))
set_option maxHeartbeats 4000000 in
set_option maxRecDepth 100000 in
theorem k_X3_isBehind {gs : List String} {ro : pm_RO} {n : Nat} {w : Nat → va_E} {b : Nat} {u : rg_U} {F : Nat} {o0 : Nat} {x1 : Int32} {x2 : Int32} {z : Int32} (hR : rg shC b u n w) (hs0 : sp_Log o0) (h : g_X3_isBehind F o0 x1 x2 u = some z) : pm_Met gs ro M_X3_isBehind 1 0 0 [.ref (b + o0), .int x1, .int x2] n w (pm_p n w (some (.int z))) := by
  unfold g_X3_isBehind at h
  refine pm_ofX in_X3_isBehind (Nat.le_of_ble_eq_true rfl) rfl (L := [some (.ref (b + o0)), some (.int x1), some (.int x2)]) rfl ?_
  refine pm_aload_n dX3_isBehind_0 rfl ?_
  refine pm_iload_n dX3_isBehind_1 rfl ?_
  obtain ⟨r1, h2, h⟩ := ob_some h
  refine dx_cVp (j := o0) (M := M_X3_isBehind) (Mc := M_X3_has) (dc := 0) (As := [.int x1]) (st := []) hR dX3_isBehind_2 ml_X3_39 ⟨TX3, 6, rfl⟩ (sp_Log_self hs0) (by decide) (Nat.le_of_ble_eq_true rfl) rfl (k_X3_has hR hs0 h2) ?_
  refine pm_if_eq (tgt := 45) dX3_isBehind_5 (by decide) (fun c3 => ?_) (fun c3 => ?_)
  · replace h := it_t c3 h
    refine pm_iconst (v := 0) dX3_isBehind_45 (by decide) ?_
    cases h
    exact pm_zret dX3_isBehind_46 rfl (Or.inl rfl) (Nat.le_refl _) (Nat.le_refl _) ⟨rfl, rfl, rfl⟩
  · replace h := it_f c3 h
    refine pm_aload_n dX3_isBehind_8 rfl ?_
    refine dx_gr (j := o0) (o := (o0 + 2)) hR dX3_isBehind_9 fl_X3_15 (sp_Log_self hs0) rfl ?_
    refine pm_iload_n dX3_isBehind_12 rfl ?_
    obtain ⟨c4, h⟩ := ck_some h
    refine dx_al (j := (o0 + 2)) hR dX3_isBehind_13 (sp_Log_origin hs0) (vp_in_iff.mpr c4) ?_
    refine pm_iconst (v := 2) dX3_isBehind_14 (by decide) ?_
    refine pm_icmp_ne (tgt := 31) dX3_isBehind_15 (by decide) (fun c5 => ?_) (fun c5 => ?_)
    · replace h := it_f c5 h
      refine pm_aload_n dX3_isBehind_31 rfl ?_
      refine dx_gr (j := o0) (o := (o0 + 1)) hR dX3_isBehind_32 fl_X3_9 (sp_Log_self hs0) rfl ?_
      refine pm_iload_n dX3_isBehind_35 rfl ?_
      obtain ⟨c6, h⟩ := ck_some h
      refine dx_al (j := (o0 + 1)) hR dX3_isBehind_36 (sp_Log_time hs0) (vp_in_iff.mpr c6) ?_
      refine pm_iload_n dX3_isBehind_37 rfl ?_
      refine pm_icmp_lt (tgt := 45) dX3_isBehind_38 (by decide) (fun c7 => ?_) (fun c7 => ?_)
      · replace h := it_t c7 h
        refine pm_iconst (v := 0) dX3_isBehind_45 (by decide) ?_
        cases h
        exact pm_zret dX3_isBehind_46 rfl (Or.inl rfl) (Nat.le_refl _) (Nat.le_refl _) ⟨rfl, rfl, rfl⟩
      · replace h := it_f c7 h
        refine pm_iconst (v := 1) dX3_isBehind_41 (by decide) ?_
        refine pm_goto (tgt := 46) dX3_isBehind_42 (by decide) ?_
        cases h
        exact pm_zret dX3_isBehind_46 rfl (Or.inr rfl) (Nat.le_refl _) (Nat.le_refl _) ⟨rfl, rfl, rfl⟩
    · replace h := it_t c5 h
      refine pm_aload_n dX3_isBehind_18 rfl ?_
      refine dx_gr (j := o0) (o := (o0 + 1)) hR dX3_isBehind_19 fl_X3_9 (sp_Log_self hs0) rfl ?_
      refine pm_iload_n dX3_isBehind_22 rfl ?_
      obtain ⟨c8, h⟩ := ck_some h
      refine dx_al (j := (o0 + 1)) hR dX3_isBehind_23 (sp_Log_time hs0) (vp_in_iff.mpr c8) ?_
      refine pm_iload_n dX3_isBehind_24 rfl ?_
      refine pm_icmp_le (tgt := 45) dX3_isBehind_25 (by decide) (fun c9 => ?_) (fun c9 => ?_)
      · replace h := it_t c9 h
        refine pm_iconst (v := 0) dX3_isBehind_45 (by decide) ?_
        cases h
        exact pm_zret dX3_isBehind_46 rfl (Or.inl rfl) (Nat.le_refl _) (Nat.le_refl _) ⟨rfl, rfl, rfl⟩
      · replace h := it_f c9 h
        refine pm_goto (tgt := 41) dX3_isBehind_28 (by decide) ?_
        refine pm_iconst (v := 1) dX3_isBehind_41 (by decide) ?_
        refine pm_goto (tgt := 46) dX3_isBehind_42 (by decide) ?_
        cases h
        exact pm_zret dX3_isBehind_46 rfl (Or.inr rfl) (Nat.le_refl _) (Nat.le_refl _) ⟨rfl, rfl, rfl⟩
def g_X4_addFirst (F : Nat) (x1 : Int32) (u : rg_U) : Option rg_U :=
  if 900 ≤ (rF u 6 2) then (some u) else (lt1 (sF u 6 1 (dx_rem (((rF u 6 1) + 900) - 1) 900)) (fun u2 => ck (inb (rF u2 6 1) 900) (lt1 (sA u2 7 (rF u2 6 1) x1) (fun u8 => lt1 (sF u8 6 2 ((rF u8 6 2) + 1)) (fun u13 => some u13)))))
set_option maxHeartbeats 4000000 in
set_option maxRecDepth 100000 in
theorem k_X4_addFirst {gs : List String} {ro : pm_RO} {n : Nat} {w : Nat → va_E} {b : Nat} {u : rg_U} {F : Nat} {x1 : Int32} {z : rg_U} (hR : rg shC b u n w) (h : g_X4_addFirst F x1 u = some z) : pm_Met gs ro M_X4_addFirst 0 0 0 [.ref (b + 6), .int x1] n w (rg_post shC b n w none z) := by
  unfold g_X4_addFirst at h
  refine pm_ofX in_X4_addFirst (Nat.le_of_ble_eq_true rfl) rfl (L := [some (.ref (b + 6)), some (.int x1)]) rfl ?_
  refine pm_aload_n dX4_addFirst_0 rfl ?_
  refine dx_gi (j := 6) hR dX4_addFirst_1 fl_X4_19 rfl rfl ?_
  refine pm_sipush (v := 900) dX4_addFirst_4 (by decide) ?_
  refine pm_icmp_ge (tgt := 48) dX4_addFirst_7 (by decide) (fun c1 => ?_) (fun c1 => ?_)
  · replace h := it_t c1 h
    cases h
    exact pm_vret dX4_addFirst_48 rfl (Nat.le_refl _) (Nat.le_refl _) ⟨rfl, rfl, hR, rg_k0⟩
  · replace h := it_f c1 h
    refine pm_aload_n dX4_addFirst_10 rfl ?_
    refine pm_aload_n dX4_addFirst_11 rfl ?_
    refine dx_gi (j := 6) hR dX4_addFirst_12 fl_X4_15 rfl rfl ?_
    refine pm_sipush (v := 900) dX4_addFirst_15 (by decide) ?_
    refine pm_iadd dX4_addFirst_18 ?_
    refine pm_iconst (v := 1) dX4_addFirst_19 (by decide) ?_
    refine pm_isub dX4_addFirst_20 ?_
    refine pm_sipush (v := 900) dX4_addFirst_21 (by decide) ?_
    refine pm_irem dX4_addFirst_24 (by decide) ?_
    obtain ⟨u2, hu3, h⟩ := lt1_ex h
    refine dx_pi (j := 6) hR rg_k0 dX4_addFirst_25 fl_X4_15 rfl rfl hu3 (fun w4 hR5 hk6 => ?_)
    refine pm_aload_n dX4_addFirst_28 rfl ?_
    refine dx_gr (j := 6) (o := 7) hR5 dX4_addFirst_29 fl_X4_9 rfl rfl ?_
    refine pm_aload_n dX4_addFirst_32 rfl ?_
    refine dx_gi (j := 6) hR5 dX4_addFirst_33 fl_X4_15 rfl rfl ?_
    refine pm_iload_n dX4_addFirst_36 rfl ?_
    obtain ⟨c7, h⟩ := ck_some h
    obtain ⟨u8, hu9, h⟩ := lt1_ex h
    refine dx_as (j := 7) hR5 hk6 dX4_addFirst_37 rfl (vp_in_iff.mpr c7) hu9 (fun w10 hR11 hk12 => ?_)
    refine pm_aload_n dX4_addFirst_38 rfl ?_
    refine pm_dup dX4_addFirst_39 rfl ?_
    refine dx_gi (j := 6) hR11 dX4_addFirst_40 fl_X4_19 rfl rfl ?_
    refine pm_iconst (v := 1) dX4_addFirst_43 (by decide) ?_
    refine pm_iadd dX4_addFirst_44 ?_
    obtain ⟨u13, hu14, h⟩ := lt1_ex h
    refine dx_pi (j := 6) hR11 hk12 dX4_addFirst_45 fl_X4_19 rfl rfl hu14 (fun w15 hR16 hk17 => ?_)
    cases h
    exact pm_vret dX4_addFirst_48 rfl (Nat.le_refl _) (Nat.le_refl _) ⟨rfl, rfl, hR16, hk17⟩
def g_X3_dropBehind_j39 (F : Nat) (o0 : Nat) (l1 : Int32) (l3 : Int32) (u : rg_U) : Option ((Int32 × rg_U) ⊕ rg_U) :=
  lt1 (sF u o0 5 l3) (fun u7 => some (.inl ((l3 + (-1)), u7)))
set_option maxHeartbeats 4000000 in
set_option maxRecDepth 100000 in
theorem k_X3_dropBehind_j39 {gs : List String} {ro : pm_RO} {n : Nat} {w w1 : Nat → va_E} {b : Nat} {u : rg_U} {F : Nat} {o0 : Nat} {l1 : Int32} {l3 : Int32} {z : ((Int32 × rg_U) ⊕ rg_U)} {Q : Option Value → Nat → (Nat → va_E) → Prop} (hR : rg shC b u n w1) (hk : rg_k b shC.length w w1) (hs0 : sp_Log o0) (h : g_X3_dropBehind_j39 F o0 l1 l3 u = some z) (hc : ∀ s', z = .inl s' → ∀ w1, rg shC b s'.2 n w1 → rg_k b shC.length w w1 → pm_X gs ro M_X3_dropBehind 2 0 0 0 0 7 [some (.ref (b + o0)), some (.int l1), some (.ref (b + 6)), some (.int s'.1)] [] n w1 Q) (he0 : ∀ r', z = .inr r' → ∀ w1, rg shC b r' n w1 → rg_k b shC.length w w1 → pm_X gs ro M_X3_dropBehind 2 0 0 0 0 50 [none, none, none, none] [] n w1 Q) : pm_X gs ro M_X3_dropBehind 2 0 0 0 0 39 [some (.ref (b + o0)), some (.int l1), some (.ref (b + 6)), some (.int l3)] [] n w1 Q := by
  unfold g_X3_dropBehind_j39 at h
  refine pm_aload_n dX3_dropBehind_39 rfl ?_
  refine pm_iload_n dX3_dropBehind_40 rfl ?_
  obtain ⟨u7, hu8, h⟩ := lt1_ex h
  refine dx_pi (j := o0) hR hk dX3_dropBehind_41 fl_X3_27 (sp_Log_self hs0) rfl hu8 (fun w9 hR10 hk11 => ?_)
  refine pm_iinc (v := (l3 + (-1))) dX3_dropBehind_44 rfl rfl (by decide) rfl rfl ?_
  refine pm_goto (tgt := 7) dX3_dropBehind_47 (by decide) ?_
  refine pm_lw (L' := [some (.ref (b + o0)), some (.int l1), some (.ref (b + 6)), some (.int (l3 + (-1)))]) ⟨Or.inr rfl, Or.inr rfl, Or.inr rfl, Or.inr rfl, trivial⟩ ?_
  exact hc _ (Option.some.inj h).symm _ hR10 hk11
def g_X3_dropBehind_l7 (F : Nat) (o0 : Nat) (l1 : Int32) (l3 : Int32) (u : rg_U) : Option ((Int32 × rg_U) ⊕ rg_U) :=
  if l3 < 0 then (some (.inr u)) else (ob (g_X3_isBehind F o0 l3 l1 u) (fun r2 => if r2 = 0 then (some (.inr u)) else (ck (inb l3 800) (if (rA u (o0 + 2) l3) = 0 then (ck (inb l3 800) (ob (g_X4_addFirst F (rA u (o0 + 3) l3) u) (fun r13 => g_X3_dropBehind_j39 F o0 l1 l3 r13))) else (g_X3_dropBehind_j39 F o0 l1 l3 u)))))
set_option maxHeartbeats 4000000 in
set_option maxRecDepth 100000 in
theorem k_X3_dropBehind_l7 {gs : List String} {ro : pm_RO} {n : Nat} {w w1 : Nat → va_E} {b : Nat} {u : rg_U} {F : Nat} {o0 : Nat} {l1 : Int32} {l3 : Int32} {z : (Int32 × rg_U) ⊕ rg_U} {Q : Option Value → Nat → (Nat → va_E) → Prop} (hR : rg shC b u n w1) (hk : rg_k b shC.length w w1) (hs0 : sp_Log o0) (h : g_X3_dropBehind_l7 F o0 l1 l3 u = some z) (hc : ∀ s', z = .inl s' → ∀ w1, rg shC b s'.2 n w1 → rg_k b shC.length w w1 → pm_X gs ro M_X3_dropBehind 2 0 0 0 0 7 [some (.ref (b + o0)), some (.int l1), some (.ref (b + 6)), some (.int s'.1)] [] n w1 Q) (he0 : ∀ r', z = .inr r' → ∀ w1, rg shC b r' n w1 → rg_k b shC.length w w1 → pm_X gs ro M_X3_dropBehind 2 0 0 0 0 50 [none, none, none, none] [] n w1 Q) : pm_X gs ro M_X3_dropBehind 2 0 0 0 0 7 [some (.ref (b + o0)), some (.int l1), some (.ref (b + 6)), some (.int l3)] [] n w1 Q := by
  unfold g_X3_dropBehind_l7 at h
  refine pm_iload_n dX3_dropBehind_7 rfl ?_
  refine pm_if_lt (tgt := 50) dX3_dropBehind_8 (by decide) (fun c1 => ?_) (fun c1 => ?_)
  · replace h := it_t c1 h
    refine pm_lw (L' := [none, none, none, none]) ⟨Or.inl rfl, Or.inl rfl, Or.inl rfl, Or.inl rfl, trivial⟩ ?_
    exact he0 _ (Option.some.inj h).symm _ hR hk
  · replace h := it_f c1 h
    refine pm_aload_n dX3_dropBehind_11 rfl ?_
    refine pm_iload_n dX3_dropBehind_12 rfl ?_
    refine pm_iload_n dX3_dropBehind_13 rfl ?_
    obtain ⟨r2, h3, h⟩ := ob_some h
    refine dx_cVp (j := o0) (M := M_X3_dropBehind) (Mc := M_X3_isBehind) (dc := 1) (As := [.int l3, .int l1]) (st := []) hR dX3_dropBehind_14 ml_X3_44 ⟨TX3, 6, rfl⟩ (sp_Log_self hs0) (by decide) (Nat.le_of_ble_eq_true rfl) rfl (k_X3_isBehind hR hs0 h3) ?_
    refine pm_if_eq (tgt := 50) dX3_dropBehind_17 (by decide) (fun c4 => ?_) (fun c4 => ?_)
    · replace h := it_t c4 h
      refine pm_lw (L' := [none, none, none, none]) ⟨Or.inl rfl, Or.inl rfl, Or.inl rfl, Or.inl rfl, trivial⟩ ?_
      exact he0 _ (Option.some.inj h).symm _ hR hk
    · replace h := it_f c4 h
      refine pm_aload_n dX3_dropBehind_20 rfl ?_
      refine dx_gr (j := o0) (o := (o0 + 2)) hR dX3_dropBehind_21 fl_X3_15 (sp_Log_self hs0) rfl ?_
      refine pm_iload_n dX3_dropBehind_24 rfl ?_
      obtain ⟨c5, h⟩ := ck_some h
      refine dx_al (j := (o0 + 2)) hR dX3_dropBehind_25 (sp_Log_origin hs0) (vp_in_iff.mpr c5) ?_
      refine pm_if_ne (tgt := 39) dX3_dropBehind_26 (by decide) (fun c6 => ?_) (fun c6 => ?_)
      · replace h := it_f c6 h
        exact k_X3_dropBehind_j39 hR hk hs0 h hc he0
      · replace h := it_t c6 h
        refine pm_aload_n dX3_dropBehind_29 rfl ?_
        refine pm_aload_n dX3_dropBehind_30 rfl ?_
        refine dx_gr (j := o0) (o := (o0 + 3)) hR dX3_dropBehind_31 fl_X3_18 (sp_Log_self hs0) rfl ?_
        refine pm_iload_n dX3_dropBehind_34 rfl ?_
        obtain ⟨c12, h⟩ := ck_some h
        refine dx_al (j := (o0 + 3)) hR dX3_dropBehind_35 (sp_Log_number hs0) (vp_in_iff.mpr c12) ?_
        obtain ⟨r13, h14, h⟩ := ob_some h
        refine dx_cVv (j := 6) (M := M_X3_dropBehind) (Mc := M_X4_addFirst) (dc := 0) (As := [.int (rA u (o0 + 3) l3)]) (st := []) hR hk dX3_dropBehind_36 ml_X3_48 ⟨TX4, 4, rfl⟩ rfl (by decide) (Nat.le_of_ble_eq_true rfl) rfl (k_X4_addFirst hR h14) (fun w15 hR16 hk17 => ?_)
        exact k_X3_dropBehind_j39 hR16 hk17 hs0 h hc he0
def g_X3_dropBehind (F : Nat) (o0 : Nat) (x1 : Int32) (u : rg_U) : Option rg_U :=
  ob (lp (fun (s : (Int32 × rg_U)) => g_X3_dropBehind_l7 F o0 x1 s.1 s.2) F ((((rF u o0 5) - 1) : Int32), u)) (fun r18 => some r18)
set_option maxHeartbeats 4000000 in
set_option maxRecDepth 100000 in
theorem k_X3_dropBehind {gs : List String} {ro : pm_RO} {n : Nat} {w : Nat → va_E} {b : Nat} {u : rg_U} {F : Nat} {o0 : Nat} {x1 : Int32} {z : rg_U} (hR : rg shC b u n w) (hs0 : sp_Log o0) (h : g_X3_dropBehind F o0 x1 u = some z) : pm_Met gs ro M_X3_dropBehind 2 0 0 [.ref (b + o0), .int x1, .ref (b + 6)] n w (rg_post shC b n w none z) := by
  unfold g_X3_dropBehind at h
  refine pm_ofX in_X3_dropBehind (Nat.le_of_ble_eq_true rfl) rfl (L := [some (.ref (b + o0)), some (.int x1), some (.ref (b + 6)), none]) rfl ?_
  refine pm_aload_n dX3_dropBehind_0 rfl ?_
  refine dx_gi (j := o0) hR dX3_dropBehind_1 fl_X3_27 (sp_Log_self hs0) rfl ?_
  refine pm_iconst (v := 1) dX3_dropBehind_4 (by decide) ?_
  refine pm_isub dX3_dropBehind_5 ?_
  refine pm_istore_n dX3_dropBehind_6 (by decide) rfl rfl ?_
  obtain ⟨r18, h19, h⟩ := ob_some h
  refine lp_sound (P := fun (s : (Int32 × rg_U)) => ∀ w1, rg shC b s.2 n w1 → rg_k b shC.length w w1 → pm_X gs ro M_X3_dropBehind 2 0 0 0 0 7 [some (.ref (b + o0)), some (.int x1), some (.ref (b + 6)), some (.int s.1)] [] n w1 (rg_post shC b n w none z)) (E := (fun (r : rg_U) => ∀ w1, rg shC b r n w1 → rg_k b shC.length w w1 → pm_X gs ro M_X3_dropBehind 2 0 0 0 0 50 [none, none, none, none] [] n w1 (rg_post shC b n w none z))) (fun s x hx hc he w1 hR1 hk1 => k_X3_dropBehind_l7 hR1 hk1 hs0 hx hc (fun r q => he r q)) F _ r18 h19 ?_ _ hR rg_k0
  intro w20 hR21 hk22
  cases h
  exact pm_vret dX3_dropBehind_50 rfl (Nat.le_refl _) (Nat.le_refl _) ⟨rfl, rfl, hR21, hk22⟩
def g_X4_clearInputs (F : Nat)  (u : rg_U) : Option rg_U :=
  lt1 (sF u 6 1 0) (fun u1 => lt1 (sF u1 6 2 0) (fun u6 => some u6))
set_option maxHeartbeats 4000000 in
set_option maxRecDepth 100000 in
theorem k_X4_clearInputs {gs : List String} {ro : pm_RO} {n : Nat} {w : Nat → va_E} {b : Nat} {u : rg_U} {F : Nat}  {z : rg_U} (hR : rg shC b u n w) (h : g_X4_clearInputs F u = some z) : pm_Met gs ro M_X4_clearInputs 0 0 0 [.ref (b + 6)] n w (rg_post shC b n w none z) := by
  unfold g_X4_clearInputs at h
  refine pm_ofX in_X4_clearInputs (Nat.le_of_ble_eq_true rfl) rfl (L := [some (.ref (b + 6))]) rfl ?_
  refine pm_aload_n dX4_clearInputs_0 rfl ?_
  refine pm_iconst (v := 0) dX4_clearInputs_1 (by decide) ?_
  obtain ⟨u1, hu2, h⟩ := lt1_ex h
  refine dx_pi (j := 6) hR rg_k0 dX4_clearInputs_2 fl_X4_15 rfl rfl hu2 (fun w3 hR4 hk5 => ?_)
  refine pm_aload_n dX4_clearInputs_5 rfl ?_
  refine pm_iconst (v := 0) dX4_clearInputs_6 (by decide) ?_
  obtain ⟨u6, hu7, h⟩ := lt1_ex h
  refine dx_pi (j := 6) hR4 hk5 dX4_clearInputs_7 fl_X4_19 rfl rfl hu7 (fun w8 hR9 hk10 => ?_)
  cases h
  exact pm_vret dX4_clearInputs_10 rfl (Nat.le_refl _) (Nat.le_refl _) ⟨rfl, rfl, hR9, hk10⟩
def g_X4_addLast (F : Nat) (x1 : Int32) (u : rg_U) : Option rg_U :=
  if 900 ≤ (rF u 6 2) then (some u) else (ck (inb (dx_rem ((rF u 6 1) + (rF u 6 2)) 900) 900) (lt1 (sA u 7 (dx_rem ((rF u 6 1) + (rF u 6 2)) 900) x1) (fun u3 => lt1 (sF u3 6 2 ((rF u3 6 2) + 1)) (fun u8 => some u8))))
set_option maxHeartbeats 4000000 in
set_option maxRecDepth 100000 in
theorem k_X4_addLast {gs : List String} {ro : pm_RO} {n : Nat} {w : Nat → va_E} {b : Nat} {u : rg_U} {F : Nat} {x1 : Int32} {z : rg_U} (hR : rg shC b u n w) (h : g_X4_addLast F x1 u = some z) : pm_Met gs ro M_X4_addLast 0 0 0 [.ref (b + 6), .int x1] n w (rg_post shC b n w none z) := by
  unfold g_X4_addLast at h
  refine pm_ofX in_X4_addLast (Nat.le_of_ble_eq_true rfl) rfl (L := [some (.ref (b + 6)), some (.int x1)]) rfl ?_
  refine pm_aload_n dX4_addLast_0 rfl ?_
  refine dx_gi (j := 6) hR dX4_addLast_1 fl_X4_19 rfl rfl ?_
  refine pm_sipush (v := 900) dX4_addLast_4 (by decide) ?_
  refine pm_icmp_ge (tgt := 39) dX4_addLast_7 (by decide) (fun c1 => ?_) (fun c1 => ?_)
  · replace h := it_t c1 h
    cases h
    exact pm_vret dX4_addLast_39 rfl (Nat.le_refl _) (Nat.le_refl _) ⟨rfl, rfl, hR, rg_k0⟩
  · replace h := it_f c1 h
    refine pm_aload_n dX4_addLast_10 rfl ?_
    refine dx_gr (j := 6) (o := 7) hR dX4_addLast_11 fl_X4_9 rfl rfl ?_
    refine pm_aload_n dX4_addLast_14 rfl ?_
    refine dx_gi (j := 6) hR dX4_addLast_15 fl_X4_15 rfl rfl ?_
    refine pm_aload_n dX4_addLast_18 rfl ?_
    refine dx_gi (j := 6) hR dX4_addLast_19 fl_X4_19 rfl rfl ?_
    refine pm_iadd dX4_addLast_22 ?_
    refine pm_sipush (v := 900) dX4_addLast_23 (by decide) ?_
    refine pm_irem dX4_addLast_26 (by decide) ?_
    refine pm_iload_n dX4_addLast_27 rfl ?_
    obtain ⟨c2, h⟩ := ck_some h
    obtain ⟨u3, hu4, h⟩ := lt1_ex h
    refine dx_as (j := 7) hR rg_k0 dX4_addLast_28 rfl (vp_in_iff.mpr c2) hu4 (fun w5 hR6 hk7 => ?_)
    refine pm_aload_n dX4_addLast_29 rfl ?_
    refine pm_dup dX4_addLast_30 rfl ?_
    refine dx_gi (j := 6) hR6 dX4_addLast_31 fl_X4_19 rfl rfl ?_
    refine pm_iconst (v := 1) dX4_addLast_34 (by decide) ?_
    refine pm_iadd dX4_addLast_35 ?_
    obtain ⟨u8, hu9, h⟩ := lt1_ex h
    refine dx_pi (j := 6) hR6 hk7 dX4_addLast_36 fl_X4_19 rfl rfl hu9 (fun w10 hR11 hk12 => ?_)
    cases h
    exact pm_vret dX4_addLast_39 rfl (Nat.le_refl _) (Nat.le_refl _) ⟨rfl, rfl, hR11, hk12⟩
def g_X4_takeFirst (F : Nat)  (u : rg_U) : Option (Int32 × rg_U) :=
  if 0 < (rF u 6 2) then (ck (inb (rF u 6 1) 900) (lt1 (sF u 6 1 (dx_rem ((rF u 6 1) + 1) 900)) (fun u3 => lt1 (sF u3 6 2 ((rF u3 6 2) - 1)) (fun u8 => some ((rA u 7 (rF u 6 1)), u8))))) else (some (0, u))
set_option maxHeartbeats 4000000 in
set_option maxRecDepth 100000 in
theorem k_X4_takeFirst {gs : List String} {ro : pm_RO} {n : Nat} {w : Nat → va_E} {b : Nat} {u : rg_U} {F : Nat}  {z : (Int32 × rg_U)} (hR : rg shC b u n w) (h : g_X4_takeFirst F u = some z) : pm_Met gs ro M_X4_takeFirst 0 0 0 [.ref (b + 6)] n w (rg_post shC b n w (some (.int z.1)) z.2) := by
  unfold g_X4_takeFirst at h
  refine pm_ofX in_X4_takeFirst (Nat.le_of_ble_eq_true rfl) rfl (L := [some (.ref (b + 6)), none]) rfl ?_
  refine pm_aload_n dX4_takeFirst_0 rfl ?_
  refine dx_gi (j := 6) hR dX4_takeFirst_1 fl_X4_19 rfl rfl ?_
  refine pm_if_gt (tgt := 9) dX4_takeFirst_4 (by decide) (fun c1 => ?_) (fun c1 => ?_)
  · replace h := it_t c1 h
    refine pm_aload_n dX4_takeFirst_9 rfl ?_
    refine dx_gr (j := 6) (o := 7) hR dX4_takeFirst_10 fl_X4_9 rfl rfl ?_
    refine pm_aload_n dX4_takeFirst_13 rfl ?_
    refine dx_gi (j := 6) hR dX4_takeFirst_14 fl_X4_15 rfl rfl ?_
    obtain ⟨c2, h⟩ := ck_some h
    refine dx_al (j := 7) hR dX4_takeFirst_17 rfl (vp_in_iff.mpr c2) ?_
    refine pm_istore_n dX4_takeFirst_18 (by decide) rfl rfl ?_
    refine pm_aload_n dX4_takeFirst_19 rfl ?_
    refine pm_aload_n dX4_takeFirst_20 rfl ?_
    refine dx_gi (j := 6) hR dX4_takeFirst_21 fl_X4_15 rfl rfl ?_
    refine pm_iconst (v := 1) dX4_takeFirst_24 (by decide) ?_
    refine pm_iadd dX4_takeFirst_25 ?_
    refine pm_sipush (v := 900) dX4_takeFirst_26 (by decide) ?_
    refine pm_irem dX4_takeFirst_29 (by decide) ?_
    obtain ⟨u3, hu4, h⟩ := lt1_ex h
    refine dx_pi (j := 6) hR rg_k0 dX4_takeFirst_30 fl_X4_15 rfl rfl hu4 (fun w5 hR6 hk7 => ?_)
    refine pm_aload_n dX4_takeFirst_33 rfl ?_
    refine pm_dup dX4_takeFirst_34 rfl ?_
    refine dx_gi (j := 6) hR6 dX4_takeFirst_35 fl_X4_19 rfl rfl ?_
    refine pm_iconst (v := 1) dX4_takeFirst_38 (by decide) ?_
    refine pm_isub dX4_takeFirst_39 ?_
    obtain ⟨u8, hu9, h⟩ := lt1_ex h
    refine dx_pi (j := 6) hR6 hk7 dX4_takeFirst_40 fl_X4_19 rfl rfl hu9 (fun w10 hR11 hk12 => ?_)
    refine pm_iload_n dX4_takeFirst_43 rfl ?_
    cases h
    exact pm_iret dX4_takeFirst_44 rfl (Nat.le_refl _) (Nat.le_refl _) ⟨rfl, rfl, hR11, hk12⟩
  · replace h := it_f c1 h
    refine pm_iconst (v := 0) dX4_takeFirst_7 (by decide) ?_
    cases h
    exact pm_iret dX4_takeFirst_8 rfl (Nat.le_refl _) (Nat.le_refl _) ⟨rfl, rfl, hR, rg_k0⟩
def g_X4_draw (F : Nat) (x1 : Int32) (u : rg_U) : Option (Int32 × rg_U) :=
  lt1 (sF u 6 3 ((1664525 * (rF u 6 3)) + 1013904223)) (fun u1 => if 1 ≤ x1 then (ck (¬ x1 = 0) (some ((dx_rem (dx_ushr (rF u1 6 3) 8) x1), u1))) else (some (0, u1)))
set_option maxHeartbeats 4000000 in
set_option maxRecDepth 100000 in
theorem k_X4_draw {gs : List String} {ro : pm_RO} {n : Nat} {w : Nat → va_E} {b : Nat} {u : rg_U} {F : Nat} {x1 : Int32} {z : (Int32 × rg_U)} (hR : rg shC b u n w) (h : g_X4_draw F x1 u = some z) : pm_Met gs ro M_X4_draw 0 0 0 [.ref (b + 6), .int x1] n w (rg_post shC b n w (some (.int z.1)) z.2) := by
  unfold g_X4_draw at h
  refine pm_ofX in_X4_draw (Nat.le_of_ble_eq_true rfl) rfl (L := [some (.ref (b + 6)), some (.int x1)]) rfl ?_
  refine pm_aload_n dX4_draw_0 rfl ?_
  refine pm_ldc (v := 1664525) dX4_draw_1 kc_X4_25 ?_
  refine pm_aload_n dX4_draw_3 rfl ?_
  refine dx_gi (j := 6) hR dX4_draw_4 fl_X4_22 rfl rfl ?_
  refine pm_imul dX4_draw_7 ?_
  refine pm_ldc (v := 1013904223) dX4_draw_8 kc_X4_26 ?_
  refine pm_iadd dX4_draw_10 ?_
  obtain ⟨u1, hu2, h⟩ := lt1_ex h
  refine dx_pi (j := 6) hR rg_k0 dX4_draw_11 fl_X4_22 rfl rfl hu2 (fun w3 hR4 hk5 => ?_)
  refine pm_iload_n dX4_draw_14 rfl ?_
  refine pm_iconst (v := 1) dX4_draw_15 (by decide) ?_
  refine pm_icmp_ge (tgt := 23) dX4_draw_16 (by decide) (fun c6 => ?_) (fun c6 => ?_)
  · replace h := it_t c6 h
    refine pm_aload_n dX4_draw_23 rfl ?_
    refine dx_gi (j := 6) hR4 dX4_draw_24 fl_X4_22 rfl rfl ?_
    refine pm_bipush (v := 8) dX4_draw_27 (by decide) ?_
    refine pm_iushr dX4_draw_29 ?_
    refine pm_iload_n dX4_draw_30 rfl ?_
    obtain ⟨c7, h⟩ := ck_some h
    refine pm_irem dX4_draw_31 c7 ?_
    cases h
    exact pm_iret dX4_draw_32 rfl (Nat.le_refl _) (Nat.le_refl _) ⟨rfl, rfl, hR4, hk5⟩
  · replace h := it_f c6 h
    refine pm_iconst (v := 0) dX4_draw_19 (by decide) ?_
    refine pm_goto (tgt := 32) dX4_draw_20 (by decide) ?_
    cases h
    exact pm_iret dX4_draw_32 rfl (Nat.le_refl _) (Nat.le_refl _) ⟨rfl, rfl, hR4, hk5⟩
def g_X9_isInstructionPlace (x0 : Int32) : Int32 :=
  if x0 < 0 then (0) else (if 64 ≤ x0 then (0) else (1))
theorem g_X9_isInstructionPlace_b {x0 : Int32} : g_X9_isInstructionPlace x0 = 0 ∨ g_X9_isInstructionPlace x0 = 1 := by
  unfold g_X9_isInstructionPlace
  repeat' (first | exact Or.inl rfl | exact Or.inr rfl | refine it_b ?_ ?_)
set_option maxHeartbeats 4000000 in
set_option maxRecDepth 100000 in
theorem k_X9_isInstructionPlace {gs : List String} {ro : pm_RO} {n : Nat} {w : Nat → va_E} {x0 : Int32} {z : Int32} (h : g_X9_isInstructionPlace x0 = z) : pm_Met gs ro M_X9_isInstructionPlace 0 0 0 [.int x0] n w (pm_p n w (some (.int z))) := by
  unfold g_X9_isInstructionPlace at h
  refine pm_ofX in_X9_isInstructionPlace (Nat.le_of_ble_eq_true rfl) rfl (L := [some (.int x0)]) rfl ?_
  refine pm_iload_n dX9_isInstructionPlace_0 rfl ?_
  refine pm_if_lt (tgt := 14) dX9_isInstructionPlace_1 (by decide) (fun c1 => ?_) (fun c1 => ?_)
  · replace h := it_t c1 h
    refine pm_iconst (v := 0) dX9_isInstructionPlace_14 (by decide) ?_
    subst h
    exact pm_zret dX9_isInstructionPlace_15 rfl (Or.inl rfl) (Nat.le_refl _) (Nat.le_refl _) ⟨rfl, rfl, rfl⟩
  · replace h := it_f c1 h
    refine pm_iload_n dX9_isInstructionPlace_4 rfl ?_
    refine pm_bipush (v := 64) dX9_isInstructionPlace_5 (by decide) ?_
    refine pm_icmp_ge (tgt := 14) dX9_isInstructionPlace_7 (by decide) (fun c2 => ?_) (fun c2 => ?_)
    · replace h := it_t c2 h
      refine pm_iconst (v := 0) dX9_isInstructionPlace_14 (by decide) ?_
      subst h
      exact pm_zret dX9_isInstructionPlace_15 rfl (Or.inl rfl) (Nat.le_refl _) (Nat.le_refl _) ⟨rfl, rfl, rfl⟩
    · replace h := it_f c2 h
      refine pm_iconst (v := 1) dX9_isInstructionPlace_10 (by decide) ?_
      refine pm_goto (tgt := 15) dX9_isInstructionPlace_11 (by decide) ?_
      subst h
      exact pm_zret dX9_isInstructionPlace_15 rfl (Or.inr rfl) (Nat.le_refl _) (Nat.le_refl _) ⟨rfl, rfl, rfl⟩
def g_X5_write (F : Nat) (o0 : Nat) (x1 : Int32) (x2 : Int32) (x3 : Int32) (x4 : Int32) (x5 : Int32) (u : rg_U) : Option rg_U :=
  if (g_X9_isInstructionPlace x1) = 0 then (some u) else (ck (inb x1 64) (lt1 (sA u (o0 + 1) x1 x2) (fun u3 => ck (inb x1 64) (lt1 (sA u3 (o0 + 2) x1 x3) (fun u9 => ck (inb x1 64) (lt1 (sA u9 (o0 + 3) x1 x4) (fun u15 => ck (inb x1 64) (lt1 (sA u15 (o0 + 4) x1 x5) (fun u21 => some u21)))))))))
set_option maxHeartbeats 4000000 in
set_option maxRecDepth 100000 in
theorem k_X5_write {gs : List String} {ro : pm_RO} {n : Nat} {w : Nat → va_E} {b : Nat} {u : rg_U} {F : Nat} {o0 : Nat} {x1 : Int32} {x2 : Int32} {x3 : Int32} {x4 : Int32} {x5 : Int32} {z : rg_U} (hR : rg shC b u n w) (hs0 : sp_Program o0) (h : g_X5_write F o0 x1 x2 x3 x4 x5 u = some z) : pm_Met gs ro M_X5_write 1 0 0 [.ref (b + o0), .int x1, .int x2, .int x3, .int x4, .int x5] n w (rg_post shC b n w none z) := by
  unfold g_X5_write at h
  refine pm_ofX in_X5_write (Nat.le_of_ble_eq_true rfl) rfl (L := [some (.ref (b + o0)), some (.int x1), some (.int x2), some (.int x3), some (.int x4), some (.int x5)]) rfl ?_
  refine pm_iload_n dX5_write_0 rfl ?_
  refine dx_cSNp (M := M_X5_write) (Mc := M_X9_isInstructionPlace) (dc := 0) (As := [.int x1]) (st := []) dX5_write_1 ml_X5_30 (by decide) (Nat.le_of_ble_eq_true rfl) rfl (k_X9_isInstructionPlace rfl) ?_
  refine pm_if_eq (tgt := 37) dX5_write_4 (by decide) (fun c1 => ?_) (fun c1 => ?_)
  · replace h := it_t c1 h
    cases h
    exact pm_vret dX5_write_37 rfl (Nat.le_refl _) (Nat.le_refl _) ⟨rfl, rfl, hR, rg_k0⟩
  · replace h := it_f c1 h
    refine pm_aload_n dX5_write_7 rfl ?_
    refine dx_gr (j := o0) (o := (o0 + 1)) hR dX5_write_8 fl_X5_9 (sp_Program_self hs0) rfl ?_
    refine pm_iload_n dX5_write_11 rfl ?_
    refine pm_iload_n dX5_write_12 rfl ?_
    obtain ⟨c2, h⟩ := ck_some h
    obtain ⟨u3, hu4, h⟩ := lt1_ex h
    refine dx_as (j := (o0 + 1)) hR rg_k0 dX5_write_13 (sp_Program_kind hs0) (vp_in_iff.mpr c2) hu4 (fun w5 hR6 hk7 => ?_)
    refine pm_aload_n dX5_write_14 rfl ?_
    refine dx_gr (j := o0) (o := (o0 + 2)) hR6 dX5_write_15 fl_X5_15 (sp_Program_self hs0) rfl ?_
    refine pm_iload_n dX5_write_18 rfl ?_
    refine pm_iload_n dX5_write_19 rfl ?_
    obtain ⟨c8, h⟩ := ck_some h
    obtain ⟨u9, hu10, h⟩ := lt1_ex h
    refine dx_as (j := (o0 + 2)) hR6 hk7 dX5_write_20 (sp_Program_a hs0) (vp_in_iff.mpr c8) hu10 (fun w11 hR12 hk13 => ?_)
    refine pm_aload_n dX5_write_21 rfl ?_
    refine dx_gr (j := o0) (o := (o0 + 3)) hR12 dX5_write_22 fl_X5_18 (sp_Program_self hs0) rfl ?_
    refine pm_iload_n dX5_write_25 rfl ?_
    refine pm_iload dX5_write_26 rfl ?_
    obtain ⟨c14, h⟩ := ck_some h
    obtain ⟨u15, hu16, h⟩ := lt1_ex h
    refine dx_as (j := (o0 + 3)) hR12 hk13 dX5_write_28 (sp_Program_b hs0) (vp_in_iff.mpr c14) hu16 (fun w17 hR18 hk19 => ?_)
    refine pm_aload_n dX5_write_29 rfl ?_
    refine dx_gr (j := o0) (o := (o0 + 4)) hR18 dX5_write_30 fl_X5_21 (sp_Program_self hs0) rfl ?_
    refine pm_iload_n dX5_write_33 rfl ?_
    refine pm_iload dX5_write_34 rfl ?_
    obtain ⟨c20, h⟩ := ck_some h
    obtain ⟨u21, hu22, h⟩ := lt1_ex h
    refine dx_as (j := (o0 + 4)) hR18 hk19 dX5_write_36 (sp_Program_c hs0) (vp_in_iff.mpr c20) hu22 (fun w23 hR24 hk25 => ?_)
    cases h
    exact pm_vret dX5_write_37 rfl (Nat.le_refl _) (Nat.le_refl _) ⟨rfl, rfl, hR24, hk25⟩
def g_X5_takeFrom_l2 (F : Nat) (o0 : Nat) (o1 : Nat) (l2 : Int32) (u : rg_U) : Option ((Int32 × rg_U) ⊕ rg_U) :=
  if 64 ≤ l2 then (some (.inr u)) else (ck (inb l2 64) (ck (inb l2 64) (ck (inb l2 64) (ck (inb l2 64) (ob (g_X5_write F o0 l2 (rA u (o1 + 1) l2) (rA u (o1 + 2) l2) (rA u (o1 + 3) l2) (rA u (o1 + 4) l2) u) (fun r6 => some (.inl ((l2 + 1), r6))))))))
set_option maxHeartbeats 4000000 in
set_option maxRecDepth 100000 in
theorem k_X5_takeFrom_l2 {gs : List String} {ro : pm_RO} {n : Nat} {w w1 : Nat → va_E} {b : Nat} {u : rg_U} {F : Nat} {o0 : Nat} {o1 : Nat} {l2 : Int32} {z : (Int32 × rg_U) ⊕ rg_U} {Q : Option Value → Nat → (Nat → va_E) → Prop} (hR : rg shC b u n w1) (hk : rg_k b shC.length w w1) (hs0 : sp_Program o0) (hs1 : sp_Program o1) (h : g_X5_takeFrom_l2 F o0 o1 l2 u = some z) (hc : ∀ s', z = .inl s' → ∀ w1, rg shC b s'.2 n w1 → rg_k b shC.length w w1 → pm_X gs ro M_X5_takeFrom 2 0 0 0 0 2 [some (.ref (b + o0)), some (.ref (b + o1)), some (.int s'.1)] [] n w1 Q) (he0 : ∀ r', z = .inr r' → ∀ w1, rg shC b r' n w1 → rg_k b shC.length w w1 → pm_X gs ro M_X5_takeFrom 2 0 0 0 0 43 [none, none, none] [] n w1 Q) : pm_X gs ro M_X5_takeFrom 2 0 0 0 0 2 [some (.ref (b + o0)), some (.ref (b + o1)), some (.int l2)] [] n w1 Q := by
  unfold g_X5_takeFrom_l2 at h
  refine pm_iload_n dX5_takeFrom_2 rfl ?_
  refine pm_bipush (v := 64) dX5_takeFrom_3 (by decide) ?_
  refine pm_icmp_ge (tgt := 43) dX5_takeFrom_5 (by decide) (fun c1 => ?_) (fun c1 => ?_)
  · replace h := it_t c1 h
    refine pm_lw (L' := [none, none, none]) ⟨Or.inl rfl, Or.inl rfl, Or.inl rfl, trivial⟩ ?_
    exact he0 _ (Option.some.inj h).symm _ hR hk
  · replace h := it_f c1 h
    refine pm_aload_n dX5_takeFrom_8 rfl ?_
    refine pm_iload_n dX5_takeFrom_9 rfl ?_
    refine pm_aload_n dX5_takeFrom_10 rfl ?_
    refine dx_gr (j := o1) (o := (o1 + 1)) hR dX5_takeFrom_11 fl_X5_9 (sp_Program_self hs1) rfl ?_
    refine pm_iload_n dX5_takeFrom_14 rfl ?_
    obtain ⟨c2, h⟩ := ck_some h
    refine dx_al (j := (o1 + 1)) hR dX5_takeFrom_15 (sp_Program_kind hs1) (vp_in_iff.mpr c2) ?_
    refine pm_aload_n dX5_takeFrom_16 rfl ?_
    refine dx_gr (j := o1) (o := (o1 + 2)) hR dX5_takeFrom_17 fl_X5_15 (sp_Program_self hs1) rfl ?_
    refine pm_iload_n dX5_takeFrom_20 rfl ?_
    obtain ⟨c3, h⟩ := ck_some h
    refine dx_al (j := (o1 + 2)) hR dX5_takeFrom_21 (sp_Program_a hs1) (vp_in_iff.mpr c3) ?_
    refine pm_aload_n dX5_takeFrom_22 rfl ?_
    refine dx_gr (j := o1) (o := (o1 + 3)) hR dX5_takeFrom_23 fl_X5_18 (sp_Program_self hs1) rfl ?_
    refine pm_iload_n dX5_takeFrom_26 rfl ?_
    obtain ⟨c4, h⟩ := ck_some h
    refine dx_al (j := (o1 + 3)) hR dX5_takeFrom_27 (sp_Program_b hs1) (vp_in_iff.mpr c4) ?_
    refine pm_aload_n dX5_takeFrom_28 rfl ?_
    refine dx_gr (j := o1) (o := (o1 + 4)) hR dX5_takeFrom_29 fl_X5_21 (sp_Program_self hs1) rfl ?_
    refine pm_iload_n dX5_takeFrom_32 rfl ?_
    obtain ⟨c5, h⟩ := ck_some h
    refine dx_al (j := (o1 + 4)) hR dX5_takeFrom_33 (sp_Program_c hs1) (vp_in_iff.mpr c5) ?_
    obtain ⟨r6, h7, h⟩ := ob_some h
    refine dx_cVv (j := o0) (M := M_X5_takeFrom) (Mc := M_X5_write) (dc := 1) (As := [.int l2, .int (rA u (o1 + 1) l2), .int (rA u (o1 + 2) l2), .int (rA u (o1 + 3) l2), .int (rA u (o1 + 4) l2)]) (st := []) hR hk dX5_takeFrom_34 ml_X5_34 ⟨TX5, 4, rfl⟩ (sp_Program_self hs0) (by decide) (Nat.le_of_ble_eq_true rfl) rfl (k_X5_write hR hs0 h7) (fun w8 hR9 hk10 => ?_)
    refine pm_iinc (v := (l2 + 1)) dX5_takeFrom_37 rfl rfl (by decide) rfl rfl ?_
    refine pm_goto (tgt := 2) dX5_takeFrom_40 (by decide) ?_
    refine pm_lw (L' := [some (.ref (b + o0)), some (.ref (b + o1)), some (.int (l2 + 1))]) ⟨Or.inr rfl, Or.inr rfl, Or.inr rfl, trivial⟩ ?_
    exact hc _ (Option.some.inj h).symm _ hR9 hk10
def g_X5_takeFrom (F : Nat) (o0 : Nat) (o1 : Nat) (u : rg_U) : Option rg_U :=
  ob (lp (fun (s : (Int32 × rg_U)) => g_X5_takeFrom_l2 F o0 o1 s.1 s.2) F ((0 : Int32), u)) (fun r11 => some r11)
set_option maxHeartbeats 4000000 in
set_option maxRecDepth 100000 in
theorem k_X5_takeFrom {gs : List String} {ro : pm_RO} {n : Nat} {w : Nat → va_E} {b : Nat} {u : rg_U} {F : Nat} {o0 : Nat} {o1 : Nat} {z : rg_U} (hR : rg shC b u n w) (hs0 : sp_Program o0) (hs1 : sp_Program o1) (h : g_X5_takeFrom F o0 o1 u = some z) : pm_Met gs ro M_X5_takeFrom 2 0 0 [.ref (b + o0), .ref (b + o1)] n w (rg_post shC b n w none z) := by
  unfold g_X5_takeFrom at h
  refine pm_ofX in_X5_takeFrom (Nat.le_of_ble_eq_true rfl) rfl (L := [some (.ref (b + o0)), some (.ref (b + o1)), none]) rfl ?_
  refine pm_iconst (v := 0) dX5_takeFrom_0 (by decide) ?_
  refine pm_istore_n dX5_takeFrom_1 (by decide) rfl rfl ?_
  obtain ⟨r11, h12, h⟩ := ob_some h
  refine lp_sound (P := fun (s : (Int32 × rg_U)) => ∀ w1, rg shC b s.2 n w1 → rg_k b shC.length w w1 → pm_X gs ro M_X5_takeFrom 2 0 0 0 0 2 [some (.ref (b + o0)), some (.ref (b + o1)), some (.int s.1)] [] n w1 (rg_post shC b n w none z)) (E := (fun (r : rg_U) => ∀ w1, rg shC b r n w1 → rg_k b shC.length w w1 → pm_X gs ro M_X5_takeFrom 2 0 0 0 0 43 [none, none, none] [] n w1 (rg_post shC b n w none z))) (fun s x hx hc he w1 hR1 hk1 => k_X5_takeFrom_l2 hR1 hk1 hs0 hs1 hx hc (fun r q => he r q)) F _ r11 h12 ?_ _ hR rg_k0
  intro w13 hR14 hk15
  cases h
  exact pm_vret dX5_takeFrom_43 rfl (Nat.le_refl _) (Nat.le_refl _) ⟨rfl, rfl, hR14, hk15⟩
def g_X5_size_j23 (F : Nat) (o0 : Nat) (l1 : Int32) (l2 : Int32) (u : rg_U) : Option ((Int32 × Int32) ⊕ Int32) :=
  some (.inl (l1, (l2 + 1)))
set_option maxHeartbeats 4000000 in
set_option maxRecDepth 100000 in
theorem k_X5_size_j23 {gs : List String} {ro : pm_RO} {n : Nat} {w : Nat → va_E} {b : Nat} {u : rg_U} {F : Nat} {o0 : Nat} {l1 : Int32} {l2 : Int32} {z : ((Int32 × Int32) ⊕ Int32)} {Q : Option Value → Nat → (Nat → va_E) → Prop} (hR : rg shC b u n w) (hs0 : sp_Program o0) (h : g_X5_size_j23 F o0 l1 l2 u = some z) (hc : ∀ s', z = .inl s' → pm_X gs ro M_X5_size 0 0 0 0 0 4 [some (.ref (b + o0)), some (.int s'.1), some (.int s'.2)] [] n w Q) (he0 : ∀ r', z = .inr r' → pm_X gs ro M_X5_size 0 0 0 0 0 29 [none, some (.int r'), none] [] n w Q) : pm_X gs ro M_X5_size 0 0 0 0 0 23 [some (.ref (b + o0)), some (.int l1), some (.int l2)] [] n w Q := by
  unfold g_X5_size_j23 at h
  refine pm_iinc (v := (l2 + 1)) dX5_size_23 rfl rfl (by decide) rfl rfl ?_
  refine pm_goto (tgt := 4) dX5_size_26 (by decide) ?_
  refine pm_lw (L' := [some (.ref (b + o0)), some (.int l1), some (.int (l2 + 1))]) ⟨Or.inr rfl, Or.inr rfl, Or.inr rfl, trivial⟩ ?_
  exact hc _ (Option.some.inj h).symm
def g_X5_size_l4 (F : Nat) (o0 : Nat) (u : rg_U) (l1 : Int32) (l2 : Int32) : Option ((Int32 × Int32) ⊕ Int32) :=
  if 64 ≤ l2 then (some (.inr l1)) else (ck (inb l2 64) (if (rA u (o0 + 1) l2) = (-1) then (g_X5_size_j23 F o0 l1 l2 u) else (g_X5_size_j23 F o0 (l1 + 1) l2 u)))
set_option maxHeartbeats 4000000 in
set_option maxRecDepth 100000 in
theorem k_X5_size_l4 {gs : List String} {ro : pm_RO} {n : Nat} {w : Nat → va_E} {b : Nat} {u : rg_U} {F : Nat} {o0 : Nat} {l1 : Int32} {l2 : Int32} {z : (Int32 × Int32) ⊕ Int32} {Q : Option Value → Nat → (Nat → va_E) → Prop} (hR : rg shC b u n w) (hs0 : sp_Program o0) (h : g_X5_size_l4 F o0 u l1 l2 = some z) (hc : ∀ s', z = .inl s' → pm_X gs ro M_X5_size 0 0 0 0 0 4 [some (.ref (b + o0)), some (.int s'.1), some (.int s'.2)] [] n w Q) (he0 : ∀ r', z = .inr r' → pm_X gs ro M_X5_size 0 0 0 0 0 29 [none, some (.int r'), none] [] n w Q) : pm_X gs ro M_X5_size 0 0 0 0 0 4 [some (.ref (b + o0)), some (.int l1), some (.int l2)] [] n w Q := by
  unfold g_X5_size_l4 at h
  refine pm_iload_n dX5_size_4 rfl ?_
  refine pm_bipush (v := 64) dX5_size_5 (by decide) ?_
  refine pm_icmp_ge (tgt := 29) dX5_size_7 (by decide) (fun c1 => ?_) (fun c1 => ?_)
  · replace h := it_t c1 h
    refine pm_lw (L' := [none, some (.int l1), none]) ⟨Or.inl rfl, Or.inr rfl, Or.inl rfl, trivial⟩ ?_
    exact he0 _ (Option.some.inj h).symm
  · replace h := it_f c1 h
    refine pm_aload_n dX5_size_10 rfl ?_
    refine dx_gr (j := o0) (o := (o0 + 1)) hR dX5_size_11 fl_X5_9 (sp_Program_self hs0) rfl ?_
    refine pm_iload_n dX5_size_14 rfl ?_
    obtain ⟨c2, h⟩ := ck_some h
    refine dx_al (j := (o0 + 1)) hR dX5_size_15 (sp_Program_kind hs0) (vp_in_iff.mpr c2) ?_
    refine pm_iconst (v := (-1)) dX5_size_16 (by decide) ?_
    refine pm_icmp_eq (tgt := 23) dX5_size_17 (by decide) (fun c3 => ?_) (fun c3 => ?_)
    · replace h := it_t c3 h
      exact k_X5_size_j23 hR hs0 h hc he0
    · replace h := it_f c3 h
      refine pm_iinc (v := (l1 + 1)) dX5_size_20 rfl rfl (by decide) rfl rfl ?_
      exact k_X5_size_j23 hR hs0 h hc he0
def g_X5_size (F : Nat) (o0 : Nat) (u : rg_U) : Option Int32 :=
  ob (lp (fun (s : (Int32 × Int32)) => g_X5_size_l4 F o0 u s.1 s.2) F ((0 : Int32), (0 : Int32))) (fun r4 => some r4)
set_option maxHeartbeats 4000000 in
set_option maxRecDepth 100000 in
theorem k_X5_size {gs : List String} {ro : pm_RO} {n : Nat} {w : Nat → va_E} {b : Nat} {u : rg_U} {F : Nat} {o0 : Nat} {z : Int32} (hR : rg shC b u n w) (hs0 : sp_Program o0) (h : g_X5_size F o0 u = some z) : pm_Met gs ro M_X5_size 0 0 0 [.ref (b + o0)] n w (pm_p n w (some (.int z))) := by
  unfold g_X5_size at h
  refine pm_ofX in_X5_size (Nat.le_of_ble_eq_true rfl) rfl (L := [some (.ref (b + o0)), none, none]) rfl ?_
  refine pm_iconst (v := 0) dX5_size_0 (by decide) ?_
  refine pm_istore_n dX5_size_1 (by decide) rfl rfl ?_
  refine pm_iconst (v := 0) dX5_size_2 (by decide) ?_
  refine pm_istore_n dX5_size_3 (by decide) rfl rfl ?_
  obtain ⟨r4, h5, h⟩ := ob_some h
  refine lp_sound (P := fun (s : (Int32 × Int32)) => pm_X gs ro M_X5_size 0 0 0 0 0 4 [some (.ref (b + o0)), some (.int s.1), some (.int s.2)] [] n w (pm_p n w (some (.int z)))) (E := (fun (r : Int32) => pm_X gs ro M_X5_size 0 0 0 0 0 29 [none, some (.int r), none] [] n w (pm_p n w (some (.int z))))) (fun s x hx hc he => k_X5_size_l4 hR hs0 hx hc (fun r q => he r q)) F _ r4 h5 ?_
  refine pm_iload_n dX5_size_29 rfl ?_
  cases h
  exact pm_iret dX5_size_30 rfl (Nat.le_refl _) (Nat.le_refl _) ⟨rfl, rfl, rfl⟩
def g_X5_kindAt (F : Nat) (o0 : Nat) (x1 : Int32) (u : rg_U) : Option Int32 :=
  if (g_X9_isInstructionPlace x1) = 0 then (some (-1)) else (ck (inb x1 64) (some (rA u (o0 + 1) x1)))
set_option maxHeartbeats 4000000 in
set_option maxRecDepth 100000 in
theorem k_X5_kindAt {gs : List String} {ro : pm_RO} {n : Nat} {w : Nat → va_E} {b : Nat} {u : rg_U} {F : Nat} {o0 : Nat} {x1 : Int32} {z : Int32} (hR : rg shC b u n w) (hs0 : sp_Program o0) (h : g_X5_kindAt F o0 x1 u = some z) : pm_Met gs ro M_X5_kindAt 1 0 0 [.ref (b + o0), .int x1] n w (pm_p n w (some (.int z))) := by
  unfold g_X5_kindAt at h
  refine pm_ofX in_X5_kindAt (Nat.le_of_ble_eq_true rfl) rfl (L := [some (.ref (b + o0)), some (.int x1)]) rfl ?_
  refine pm_iload_n dX5_kindAt_0 rfl ?_
  refine dx_cSNp (M := M_X5_kindAt) (Mc := M_X9_isInstructionPlace) (dc := 0) (As := [.int x1]) (st := []) dX5_kindAt_1 ml_X5_30 (by decide) (Nat.le_of_ble_eq_true rfl) rfl (k_X9_isInstructionPlace rfl) ?_
  refine pm_if_eq (tgt := 16) dX5_kindAt_4 (by decide) (fun c1 => ?_) (fun c1 => ?_)
  · replace h := it_t c1 h
    refine pm_iconst (v := (-1)) dX5_kindAt_16 (by decide) ?_
    cases h
    exact pm_iret dX5_kindAt_17 rfl (Nat.le_refl _) (Nat.le_refl _) ⟨rfl, rfl, rfl⟩
  · replace h := it_f c1 h
    refine pm_aload_n dX5_kindAt_7 rfl ?_
    refine dx_gr (j := o0) (o := (o0 + 1)) hR dX5_kindAt_8 fl_X5_9 (sp_Program_self hs0) rfl ?_
    refine pm_iload_n dX5_kindAt_11 rfl ?_
    obtain ⟨c2, h⟩ := ck_some h
    refine dx_al (j := (o0 + 1)) hR dX5_kindAt_12 (sp_Program_kind hs0) (vp_in_iff.mpr c2) ?_
    refine pm_goto (tgt := 17) dX5_kindAt_13 (by decide) ?_
    cases h
    exact pm_iret dX5_kindAt_17 rfl (Nat.le_refl _) (Nat.le_refl _) ⟨rfl, rfl, rfl⟩
def g_X5_firstAt (F : Nat) (o0 : Nat) (x1 : Int32) (u : rg_U) : Option Int32 :=
  if (g_X9_isInstructionPlace x1) = 0 then (some 0) else (ck (inb x1 64) (some (rA u (o0 + 2) x1)))
set_option maxHeartbeats 4000000 in
set_option maxRecDepth 100000 in
theorem k_X5_firstAt {gs : List String} {ro : pm_RO} {n : Nat} {w : Nat → va_E} {b : Nat} {u : rg_U} {F : Nat} {o0 : Nat} {x1 : Int32} {z : Int32} (hR : rg shC b u n w) (hs0 : sp_Program o0) (h : g_X5_firstAt F o0 x1 u = some z) : pm_Met gs ro M_X5_firstAt 1 0 0 [.ref (b + o0), .int x1] n w (pm_p n w (some (.int z))) := by
  unfold g_X5_firstAt at h
  refine pm_ofX in_X5_firstAt (Nat.le_of_ble_eq_true rfl) rfl (L := [some (.ref (b + o0)), some (.int x1)]) rfl ?_
  refine pm_iload_n dX5_firstAt_0 rfl ?_
  refine dx_cSNp (M := M_X5_firstAt) (Mc := M_X9_isInstructionPlace) (dc := 0) (As := [.int x1]) (st := []) dX5_firstAt_1 ml_X5_30 (by decide) (Nat.le_of_ble_eq_true rfl) rfl (k_X9_isInstructionPlace rfl) ?_
  refine pm_if_eq (tgt := 16) dX5_firstAt_4 (by decide) (fun c1 => ?_) (fun c1 => ?_)
  · replace h := it_t c1 h
    refine pm_iconst (v := 0) dX5_firstAt_16 (by decide) ?_
    cases h
    exact pm_iret dX5_firstAt_17 rfl (Nat.le_refl _) (Nat.le_refl _) ⟨rfl, rfl, rfl⟩
  · replace h := it_f c1 h
    refine pm_aload_n dX5_firstAt_7 rfl ?_
    refine dx_gr (j := o0) (o := (o0 + 2)) hR dX5_firstAt_8 fl_X5_15 (sp_Program_self hs0) rfl ?_
    refine pm_iload_n dX5_firstAt_11 rfl ?_
    obtain ⟨c2, h⟩ := ck_some h
    refine dx_al (j := (o0 + 2)) hR dX5_firstAt_12 (sp_Program_a hs0) (vp_in_iff.mpr c2) ?_
    refine pm_goto (tgt := 17) dX5_firstAt_13 (by decide) ?_
    cases h
    exact pm_iret dX5_firstAt_17 rfl (Nat.le_refl _) (Nat.le_refl _) ⟨rfl, rfl, rfl⟩
def g_X5_secondAt (F : Nat) (o0 : Nat) (x1 : Int32) (u : rg_U) : Option Int32 :=
  if (g_X9_isInstructionPlace x1) = 0 then (some 0) else (ck (inb x1 64) (some (rA u (o0 + 3) x1)))
set_option maxHeartbeats 4000000 in
set_option maxRecDepth 100000 in
theorem k_X5_secondAt {gs : List String} {ro : pm_RO} {n : Nat} {w : Nat → va_E} {b : Nat} {u : rg_U} {F : Nat} {o0 : Nat} {x1 : Int32} {z : Int32} (hR : rg shC b u n w) (hs0 : sp_Program o0) (h : g_X5_secondAt F o0 x1 u = some z) : pm_Met gs ro M_X5_secondAt 1 0 0 [.ref (b + o0), .int x1] n w (pm_p n w (some (.int z))) := by
  unfold g_X5_secondAt at h
  refine pm_ofX in_X5_secondAt (Nat.le_of_ble_eq_true rfl) rfl (L := [some (.ref (b + o0)), some (.int x1)]) rfl ?_
  refine pm_iload_n dX5_secondAt_0 rfl ?_
  refine dx_cSNp (M := M_X5_secondAt) (Mc := M_X9_isInstructionPlace) (dc := 0) (As := [.int x1]) (st := []) dX5_secondAt_1 ml_X5_30 (by decide) (Nat.le_of_ble_eq_true rfl) rfl (k_X9_isInstructionPlace rfl) ?_
  refine pm_if_eq (tgt := 16) dX5_secondAt_4 (by decide) (fun c1 => ?_) (fun c1 => ?_)
  · replace h := it_t c1 h
    refine pm_iconst (v := 0) dX5_secondAt_16 (by decide) ?_
    cases h
    exact pm_iret dX5_secondAt_17 rfl (Nat.le_refl _) (Nat.le_refl _) ⟨rfl, rfl, rfl⟩
  · replace h := it_f c1 h
    refine pm_aload_n dX5_secondAt_7 rfl ?_
    refine dx_gr (j := o0) (o := (o0 + 3)) hR dX5_secondAt_8 fl_X5_18 (sp_Program_self hs0) rfl ?_
    refine pm_iload_n dX5_secondAt_11 rfl ?_
    obtain ⟨c2, h⟩ := ck_some h
    refine dx_al (j := (o0 + 3)) hR dX5_secondAt_12 (sp_Program_b hs0) (vp_in_iff.mpr c2) ?_
    refine pm_goto (tgt := 17) dX5_secondAt_13 (by decide) ?_
    cases h
    exact pm_iret dX5_secondAt_17 rfl (Nat.le_refl _) (Nat.le_refl _) ⟨rfl, rfl, rfl⟩
