theorem dX10_align_0 : decode cX10_align 0 = .ok (.aload_n 0, 1) := by decide +kernel
theorem dX10_align_1 : decode cX10_align 1 = .ok (.iload_n 1, 1) := by decide +kernel
theorem dX10_align_2 : decode cX10_align 2 = .ok (.invokevirtual 352, 3) := by decide +kernel
theorem dX10_align_5 : decode cX10_align 5 = .ok (.ifCond .eq 11, 3) := by decide +kernel
theorem dX10_align_16 : decode cX10_align 16 = .ok (.bipush (-2), 2) := by decide +kernel
theorem dX10_align_18 : decode cX10_align 18 = .ok (.ireturn, 1) := by decide +kernel
theorem dX10_at_0 : decode cX10_at 0 = .ok (.aload_n 0, 1) := by decide +kernel
theorem dX10_at_1 : decode cX10_at 1 = .ok (.iconst 0, 1) := by decide +kernel
theorem dX10_at_2 : decode cX10_at 2 = .ok (.putfield 276, 3) := by decide +kernel
theorem dX10_at_5 : decode cX10_at 5 = .ok (.aload_n 0, 1) := by decide +kernel
theorem dX10_at_6 : decode cX10_at 6 = .ok (.iload_n 1, 1) := by decide +kernel
theorem dX10_at_7 : decode cX10_at 7 = .ok (.invokevirtual 301, 3) := by decide +kernel
theorem dX10_at_10 : decode cX10_at 10 = .ok (.ifCond .eq 19, 3) := by decide +kernel
theorem dX10_at_29 : decode cX10_at 29 = .ok (.ldc_w 304, 3) := by decide +kernel
theorem dX10_at_32 : decode cX10_at 32 = .ok (.ireturn, 1) := by decide +kernel
theorem dX10_back_0 : decode cX10_back 0 = .ok (.aload_n 0, 1) := by decide +kernel
theorem dX10_back_1 : decode cX10_back 1 = .ok (.iconst 0, 1) := by decide +kernel
theorem dX10_back_2 : decode cX10_back 2 = .ok (.putfield 276, 3) := by decide +kernel
theorem dX10_back_5 : decode cX10_back 5 = .ok (.aload_n 0, 1) := by decide +kernel
theorem dX10_back_6 : decode cX10_back 6 = .ok (.getfield 29, 3) := by decide +kernel
theorem dX10_back_9 : decode cX10_back 9 = .ok (.iconst 4, 1) := by decide +kernel
theorem dX10_back_10 : decode cX10_back 10 = .ok (.baload, 1) := by decide +kernel
theorem dX10_back_11 : decode cX10_back 11 = .ok (.ifCond .eq 19, 3) := by decide +kernel
theorem dX10_back_30 : decode cX10_back 30 = .ok (.iconst (-1), 1) := by decide +kernel
theorem dX10_back_31 : decode cX10_back 31 = .ok (.ireturn, 1) := by decide +kernel
theorem dX10_call_0 : decode cX10_call 0 = .ok (.aload_n 0, 1) := by decide +kernel
theorem dX10_call_1 : decode cX10_call 1 = .ok (.invokevirtual 289, 3) := by decide +kernel
theorem dX10_call_4 : decode cX10_call 4 = .ok (.istore_n 3, 1) := by decide +kernel
theorem dX10_call_5 : decode cX10_call 5 = .ok (.aload_n 0, 1) := by decide +kernel
theorem dX10_call_6 : decode cX10_call 6 = .ok (.getfield 29, 3) := by decide +kernel
theorem dX10_call_9 : decode cX10_call 9 = .ok (.iload_n 3, 1) := by decide +kernel
theorem dX10_call_10 : decode cX10_call 10 = .ok (.baload, 1) := by decide +kernel
theorem dX10_call_11 : decode cX10_call 11 = .ok (.ifCond .ne 5, 3) := by decide +kernel
theorem dX10_call_14 : decode cX10_call 14 = .ok (.iconst (-1), 1) := by decide +kernel
theorem dX10_call_15 : decode cX10_call 15 = .ok (.ireturn, 1) := by decide +kernel
theorem dX10_changed_0 : decode cX10_changed 0 = .ok (.aload_n 0, 1) := by decide +kernel
theorem dX10_changed_1 : decode cX10_changed 1 = .ok (.iconst 0, 1) := by decide +kernel
theorem dX10_changed_2 : decode cX10_changed 2 = .ok (.putfield 276, 3) := by decide +kernel
theorem dX10_changed_5 : decode cX10_changed 5 = .ok (.aload_n 0, 1) := by decide +kernel
theorem dX10_changed_6 : decode cX10_changed 6 = .ok (.invokevirtual 289, 3) := by decide +kernel
theorem dX10_changed_9 : decode cX10_changed 9 = .ok (.istore_n 3, 1) := by decide +kernel
theorem dX10_changed_10 : decode cX10_changed 10 = .ok (.aload_n 0, 1) := by decide +kernel
theorem dX10_changed_11 : decode cX10_changed 11 = .ok (.iload_n 1, 1) := by decide +kernel
theorem dX10_changed_12 : decode cX10_changed 12 = .ok (.invokevirtual 301, 3) := by decide +kernel
theorem dX10_changed_15 : decode cX10_changed 15 = .ok (.ifCond .eq 22, 3) := by decide +kernel
theorem dX10_changed_37 : decode cX10_changed 37 = .ok (.ldc_w 304, 3) := by decide +kernel
theorem dX10_changed_40 : decode cX10_changed 40 = .ok (.ireturn, 1) := by decide +kernel
theorem dX10_done_0 : decode cX10_done 0 = .ok (.aload_n 0, 1) := by decide +kernel
theorem dX10_done_1 : decode cX10_done 1 = .ok (.iload_n 1, 1) := by decide +kernel
theorem dX10_done_2 : decode cX10_done 2 = .ok (.invokevirtual 301, 3) := by decide +kernel
theorem dX10_done_5 : decode cX10_done 5 = .ok (.ifCond .eq 13, 3) := by decide +kernel
theorem dX10_done_18 : decode cX10_done 18 = .ok (.bipush (-2), 2) := by decide +kernel
theorem dX10_done_20 : decode cX10_done 20 = .ok (.ireturn, 1) := by decide +kernel
theorem dX10_give_0 : decode cX10_give 0 = .ok (.aload_n 0, 1) := by decide +kernel
theorem dX10_give_1 : decode cX10_give 1 = .ok (.getfield 29, 3) := by decide +kernel
theorem dX10_give_4 : decode cX10_give 4 = .ok (.iconst 4, 1) := by decide +kernel
theorem dX10_give_5 : decode cX10_give 5 = .ok (.baload, 1) := by decide +kernel
theorem dX10_give_6 : decode cX10_give 6 = .ok (.ifCond .eq 12, 3) := by decide +kernel
theorem dX10_give_18 : decode cX10_give 18 = .ok (.iconst (-1), 1) := by decide +kernel
theorem dX10_give_19 : decode cX10_give 19 = .ok (.ireturn, 1) := by decide +kernel
theorem dX10_hangs_0 : decode cX10_hangs 0 = .ok (.aload_n 0, 1) := by decide +kernel
theorem dX10_hangs_1 : decode cX10_hangs 1 = .ok (.invokevirtual 289, 3) := by decide +kernel
theorem dX10_hangs_4 : decode cX10_hangs 4 = .ok (.istore 4, 2) := by decide +kernel
theorem dX10_hangs_6 : decode cX10_hangs 6 = .ok (.aload_n 0, 1) := by decide +kernel
theorem dX10_hangs_7 : decode cX10_hangs 7 = .ok (.iload_n 2, 1) := by decide +kernel
theorem dX10_hangs_8 : decode cX10_hangs 8 = .ok (.invokevirtual 301, 3) := by decide +kernel
theorem dX10_hangs_11 : decode cX10_hangs 11 = .ok (.ifCond .eq 29, 3) := by decide +kernel
theorem dX10_hangs_40 : decode cX10_hangs 40 = .ok (.ldc_w 304, 3) := by decide +kernel
theorem dX10_hangs_43 : decode cX10_hangs 43 = .ok (.ireturn, 1) := by decide +kernel
theorem dX10_held_0 : decode cX10_held 0 = .ok (.aload_n 0, 1) := by decide +kernel
theorem dX10_held_1 : decode cX10_held 1 = .ok (.invokevirtual 289, 3) := by decide +kernel
theorem dX10_held_4 : decode cX10_held 4 = .ok (.istore_n 3, 1) := by decide +kernel
theorem dX10_held_5 : decode cX10_held 5 = .ok (.aload_n 0, 1) := by decide +kernel
theorem dX10_held_6 : decode cX10_held 6 = .ok (.getfield 29, 3) := by decide +kernel
theorem dX10_held_9 : decode cX10_held 9 = .ok (.iload_n 3, 1) := by decide +kernel
theorem dX10_held_10 : decode cX10_held 10 = .ok (.baload, 1) := by decide +kernel
theorem dX10_held_11 : decode cX10_held 11 = .ok (.ifCond .ne 5, 3) := by decide +kernel
theorem dX10_held_14 : decode cX10_held 14 = .ok (.iconst (-1), 1) := by decide +kernel
theorem dX10_held_15 : decode cX10_held 15 = .ok (.ireturn, 1) := by decide +kernel
theorem dX10_history_0 : decode cX10_history 0 = .ok (.aload_n 0, 1) := by decide +kernel
theorem dX10_history_1 : decode cX10_history 1 = .ok (.invokevirtual 289, 3) := by decide +kernel
theorem dX10_history_4 : decode cX10_history 4 = .ok (.istore 4, 2) := by decide +kernel
theorem dX10_history_6 : decode cX10_history 6 = .ok (.aload_n 0, 1) := by decide +kernel
theorem dX10_history_7 : decode cX10_history 7 = .ok (.getfield 29, 3) := by decide +kernel
theorem dX10_history_10 : decode cX10_history 10 = .ok (.iload 4, 2) := by decide +kernel
theorem dX10_history_12 : decode cX10_history 12 = .ok (.baload, 1) := by decide +kernel
theorem dX10_history_13 : decode cX10_history 13 = .ok (.ifCond .eq 29, 3) := by decide +kernel
theorem dX10_history_42 : decode cX10_history 42 = .ok (.ldc_w 304, 3) := by decide +kernel
theorem dX10_history_45 : decode cX10_history 45 = .ok (.ireturn, 1) := by decide +kernel
theorem dX10_isThere_0 : decode cX10_isThere 0 = .ok (.iload_n 1, 1) := by decide +kernel
theorem dX10_isThere_1 : decode cX10_isThere 1 = .ok (.iconst (-1), 1) := by decide +kernel
theorem dX10_isThere_2 : decode cX10_isThere 2 = .ok (.if_icmp .ne 12, 3) := by decide +kernel
theorem dX10_isThere_5 : decode cX10_isThere 5 = .ok (.aload_n 0, 1) := by decide +kernel
theorem dX10_isThere_6 : decode cX10_isThere 6 = .ok (.getfield 29, 3) := by decide +kernel
theorem dX10_isThere_9 : decode cX10_isThere 9 = .ok (.iconst 4, 1) := by decide +kernel
theorem dX10_isThere_10 : decode cX10_isThere 10 = .ok (.baload, 1) := by decide +kernel
theorem dX10_isThere_11 : decode cX10_isThere 11 = .ok (.goto 14, 3) := by decide +kernel
theorem dX10_isThere_14 : decode cX10_isThere 14 = .ok (.iload_n 1, 1) := by decide +kernel
theorem dX10_isThere_15 : decode cX10_isThere 15 = .ok (.iconst 0, 1) := by decide +kernel
theorem dX10_isThere_16 : decode cX10_isThere 16 = .ok (.aload_n 0, 1) := by decide +kernel
theorem dX10_isThere_17 : decode cX10_isThere 17 = .ok (.getfield 295, 3) := by decide +kernel
theorem dX10_isThere_20 : decode cX10_isThere 20 = .ok (.iconst 1, 1) := by decide +kernel
theorem dX10_isThere_21 : decode cX10_isThere 21 = .ok (.isub, 1) := by decide +kernel
theorem dX10_isThere_22 : decode cX10_isThere 22 = .ok (.invokestatic 138, 3) := by decide +kernel
theorem dX10_isThere_25 : decode cX10_isThere 25 = .ok (.ireturn, 1) := by decide +kernel
theorem dX10_isTime_0 : decode cX10_isTime 0 = .ok (.aload_n 0, 1) := by decide +kernel
theorem dX10_isTime_1 : decode cX10_isTime 1 = .ok (.invokevirtual 289, 3) := by decide +kernel
theorem dX10_isTime_4 : decode cX10_isTime 4 = .ok (.istore_n 2, 1) := by decide +kernel
theorem dX10_isTime_5 : decode cX10_isTime 5 = .ok (.aload_n 0, 1) := by decide +kernel
theorem dX10_isTime_6 : decode cX10_isTime 6 = .ok (.getfield 29, 3) := by decide +kernel
theorem dX10_isTime_9 : decode cX10_isTime 9 = .ok (.iload_n 2, 1) := by decide +kernel
theorem dX10_isTime_10 : decode cX10_isTime 10 = .ok (.baload, 1) := by decide +kernel
theorem dX10_isTime_11 : decode cX10_isTime 11 = .ok (.ifCond .eq 21, 3) := by decide +kernel
theorem dX10_isTime_32 : decode cX10_isTime 32 = .ok (.iconst 0, 1) := by decide +kernel
theorem dX10_isTime_33 : decode cX10_isTime 33 = .ok (.ireturn, 1) := by decide +kernel
theorem dX10_keep_0 : decode cX10_keep 0 = .ok (.aload_n 0, 1) := by decide +kernel
theorem dX10_keep_1 : decode cX10_keep 1 = .ok (.getfield 29, 3) := by decide +kernel
theorem dX10_keep_4 : decode cX10_keep 4 = .ok (.iconst 4, 1) := by decide +kernel
theorem dX10_keep_5 : decode cX10_keep 5 = .ok (.baload, 1) := by decide +kernel
theorem dX10_keep_6 : decode cX10_keep 6 = .ok (.ifCond .eq 11, 3) := by decide +kernel
theorem dX10_keep_17 : decode cX10_keep 17 = .ok (.iconst (-1), 1) := by decide +kernel
theorem dX10_keep_18 : decode cX10_keep 18 = .ok (.ireturn, 1) := by decide +kernel
theorem dX10_last_0 : decode cX10_last 0 = .ok (.aload_n 0, 1) := by decide +kernel
theorem dX10_last_1 : decode cX10_last 1 = .ok (.iconst 0, 1) := by decide +kernel
theorem dX10_last_2 : decode cX10_last 2 = .ok (.putfield 276, 3) := by decide +kernel
theorem dX10_last_5 : decode cX10_last 5 = .ok (.aload_n 0, 1) := by decide +kernel
theorem dX10_last_6 : decode cX10_last 6 = .ok (.iload_n 1, 1) := by decide +kernel
theorem dX10_last_7 : decode cX10_last 7 = .ok (.invokevirtual 301, 3) := by decide +kernel
theorem dX10_last_10 : decode cX10_last 10 = .ok (.ifCond .eq 19, 3) := by decide +kernel
theorem dX10_last_29 : decode cX10_last 29 = .ok (.bipush (-2), 2) := by decide +kernel
theorem dX10_last_31 : decode cX10_last 31 = .ok (.ireturn, 1) := by decide +kernel
theorem dX10_log_0 : decode cX10_log 0 = .ok (.aload_n 0, 1) := by decide +kernel
theorem dX10_log_1 : decode cX10_log 1 = .ok (.invokevirtual 289, 3) := by decide +kernel
theorem dX10_log_4 : decode cX10_log 4 = .ok (.istore_n 3, 1) := by decide +kernel
theorem dX10_log_5 : decode cX10_log 5 = .ok (.aload_n 0, 1) := by decide +kernel
theorem dX10_log_6 : decode cX10_log 6 = .ok (.getfield 29, 3) := by decide +kernel
theorem dX10_log_9 : decode cX10_log 9 = .ok (.iload_n 3, 1) := by decide +kernel
theorem dX10_log_10 : decode cX10_log 10 = .ok (.baload, 1) := by decide +kernel
theorem dX10_log_11 : decode cX10_log 11 = .ok (.ifCond .ne 7, 3) := by decide +kernel
theorem dX10_log_14 : decode cX10_log 14 = .ok (.ldc_w 304, 3) := by decide +kernel
theorem dX10_log_17 : decode cX10_log 17 = .ok (.ireturn, 1) := by decide +kernel
theorem dX10_pair_0 : decode cX10_pair 0 = .ok (.aload_n 0, 1) := by decide +kernel
theorem dX10_pair_1 : decode cX10_pair 1 = .ok (.iconst 0, 1) := by decide +kernel
theorem dX10_pair_2 : decode cX10_pair 2 = .ok (.putfield 276, 3) := by decide +kernel
theorem dX10_pair_5 : decode cX10_pair 5 = .ok (.aload_n 0, 1) := by decide +kernel
theorem dX10_pair_6 : decode cX10_pair 6 = .ok (.iload_n 1, 1) := by decide +kernel
theorem dX10_pair_7 : decode cX10_pair 7 = .ok (.invokevirtual 352, 3) := by decide +kernel
theorem dX10_pair_10 : decode cX10_pair 10 = .ok (.ifCond .eq 21, 3) := by decide +kernel
theorem dX10_pair_31 : decode cX10_pair 31 = .ok (.ldc_w 304, 3) := by decide +kernel
theorem dX10_pair_34 : decode cX10_pair 34 = .ok (.ireturn, 1) := by decide +kernel
theorem dX10_parts_0 : decode cX10_parts 0 = .ok (.aload_n 0, 1) := by decide +kernel
theorem dX10_parts_1 : decode cX10_parts 1 = .ok (.iload_n 1, 1) := by decide +kernel
theorem dX10_parts_2 : decode cX10_parts 2 = .ok (.invokevirtual 352, 3) := by decide +kernel
theorem dX10_parts_5 : decode cX10_parts 5 = .ok (.ifCond .eq 11, 3) := by decide +kernel
theorem dX10_parts_16 : decode cX10_parts 16 = .ok (.bipush (-2), 2) := by decide +kernel
theorem dX10_parts_18 : decode cX10_parts 18 = .ok (.ireturn, 1) := by decide +kernel
theorem dX10_poke_0 : decode cX10_poke 0 = .ok (.aload_n 0, 1) := by decide +kernel
theorem dX10_poke_1 : decode cX10_poke 1 = .ok (.getfield 29, 3) := by decide +kernel
theorem dX10_poke_4 : decode cX10_poke 4 = .ok (.iconst 4, 1) := by decide +kernel
theorem dX10_poke_5 : decode cX10_poke 5 = .ok (.baload, 1) := by decide +kernel
theorem dX10_poke_6 : decode cX10_poke 6 = .ok (.ifCond .eq 30, 3) := by decide +kernel
theorem dX10_poke_36 : decode cX10_poke 36 = .ok (.iconst (-1), 1) := by decide +kernel
theorem dX10_poke_37 : decode cX10_poke 37 = .ok (.ireturn, 1) := by decide +kernel
theorem dX10_rests_0 : decode cX10_rests 0 = .ok (.aload_n 0, 1) := by decide +kernel
theorem dX10_rests_1 : decode cX10_rests 1 = .ok (.iload_n 1, 1) := by decide +kernel
theorem dX10_rests_2 : decode cX10_rests 2 = .ok (.invokevirtual 301, 3) := by decide +kernel
theorem dX10_rests_5 : decode cX10_rests 5 = .ok (.ifCond .eq 10, 3) := by decide +kernel
theorem dX10_rests_15 : decode cX10_rests 15 = .ok (.bipush (-2), 2) := by decide +kernel
theorem dX10_rests_17 : decode cX10_rests 17 = .ok (.ireturn, 1) := by decide +kernel
theorem dX10_run_0 : decode cX10_run 0 = .ok (.aload_n 0, 1) := by decide +kernel
theorem dX10_run_1 : decode cX10_run 1 = .ok (.getfield 29, 3) := by decide +kernel
theorem dX10_run_4 : decode cX10_run 4 = .ok (.iconst 4, 1) := by decide +kernel
theorem dX10_run_5 : decode cX10_run 5 = .ok (.baload, 1) := by decide +kernel
theorem dX10_run_6 : decode cX10_run 6 = .ok (.ifCond .eq 14, 3) := by decide +kernel
theorem dX10_run_20 : decode cX10_run 20 = .ok (.iconst (-1), 1) := by decide +kernel
theorem dX10_run_21 : decode cX10_run 21 = .ok (.ireturn, 1) := by decide +kernel
theorem dX10_runAsked_0 : decode cX10_runAsked 0 = .ok (.aload_n 0, 1) := by decide +kernel
theorem dX10_runAsked_1 : decode cX10_runAsked 1 = .ok (.getfield 99, 3) := by decide +kernel
theorem dX10_runAsked_4 : decode cX10_runAsked 4 = .ok (.iconst (-1), 1) := by decide +kernel
theorem dX10_runAsked_5 : decode cX10_runAsked 5 = .ok (.if_icmp .ne 7, 3) := by decide +kernel
theorem dX10_runAsked_8 : decode cX10_runAsked 8 = .ok (.iconst 4, 1) := by decide +kernel
theorem dX10_runAsked_9 : decode cX10_runAsked 9 = .ok (.goto 7, 3) := by decide +kernel
theorem dX10_runAsked_16 : decode cX10_runAsked 16 = .ok (.ireturn, 1) := by decide +kernel
theorem dX10_state_0 : decode cX10_state 0 = .ok (.aload_n 0, 1) := by decide +kernel
theorem dX10_state_1 : decode cX10_state 1 = .ok (.iconst 0, 1) := by decide +kernel
theorem dX10_state_2 : decode cX10_state 2 = .ok (.putfield 276, 3) := by decide +kernel
theorem dX10_state_5 : decode cX10_state 5 = .ok (.aload_n 0, 1) := by decide +kernel
theorem dX10_state_6 : decode cX10_state 6 = .ok (.iload_n 1, 1) := by decide +kernel
theorem dX10_state_7 : decode cX10_state 7 = .ok (.invokevirtual 301, 3) := by decide +kernel
theorem dX10_state_10 : decode cX10_state 10 = .ok (.ifCond .eq 23, 3) := by decide +kernel
theorem dX10_state_33 : decode cX10_state 33 = .ok (.ldc_w 304, 3) := by decide +kernel
theorem dX10_state_36 : decode cX10_state 36 = .ok (.ireturn, 1) := by decide +kernel
theorem dX10_watched_0 : decode cX10_watched 0 = .ok (.aload_n 0, 1) := by decide +kernel
theorem dX10_watched_1 : decode cX10_watched 1 = .ok (.iconst 0, 1) := by decide +kernel
theorem dX10_watched_2 : decode cX10_watched 2 = .ok (.putfield 276, 3) := by decide +kernel
theorem dX10_watched_5 : decode cX10_watched 5 = .ok (.iload_n 1, 1) := by decide +kernel
theorem dX10_watched_6 : decode cX10_watched 6 = .ok (.iconst 1, 1) := by decide +kernel
theorem dX10_watched_7 : decode cX10_watched 7 = .ok (.if_icmp .lt 11, 3) := by decide +kernel
theorem dX10_watched_10 : decode cX10_watched 10 = .ok (.aload_n 0, 1) := by decide +kernel
theorem dX10_watched_11 : decode cX10_watched 11 = .ok (.iload_n 1, 1) := by decide +kernel
theorem dX10_watched_12 : decode cX10_watched 12 = .ok (.invokevirtual 301, 3) := by decide +kernel
theorem dX10_watched_15 : decode cX10_watched 15 = .ok (.ifCond .ne 6, 3) := by decide +kernel
theorem dX10_watched_18 : decode cX10_watched 18 = .ok (.bipush (-2), 2) := by decide +kernel
theorem dX10_watched_20 : decode cX10_watched 20 = .ok (.ireturn, 1) := by decide +kernel
theorem dX10_when_0 : decode cX10_when 0 = .ok (.aload_n 0, 1) := by decide +kernel
theorem dX10_when_1 : decode cX10_when 1 = .ok (.iconst 0, 1) := by decide +kernel
theorem dX10_when_2 : decode cX10_when 2 = .ok (.putfield 276, 3) := by decide +kernel
theorem dX10_when_5 : decode cX10_when 5 = .ok (.aload_n 0, 1) := by decide +kernel
theorem dX10_when_6 : decode cX10_when 6 = .ok (.iload_n 1, 1) := by decide +kernel
theorem dX10_when_7 : decode cX10_when 7 = .ok (.invokevirtual 301, 3) := by decide +kernel
theorem dX10_when_10 : decode cX10_when 10 = .ok (.ifCond .eq 19, 3) := by decide +kernel
theorem dX10_when_29 : decode cX10_when 29 = .ok (.bipush (-2), 2) := by decide +kernel
theorem dX10_when_31 : decode cX10_when 31 = .ok (.ireturn, 1) := by decide +kernel
/-- the reference as it is made: no run, none kept, the one that is now is asked, no inputs, X 1, nothing replayed, none watched, no instruction -/
def frM (u : rg_U) : Prop := u.2.1 5 4 = 0 ∧ u.1 29 = 0 ∧ u.1 30 = -1 ∧ u.1 33 = 0 ∧ u.1 34 = 1 ∧ u.1 35 = 0 ∧ (∀ i, u.2.1 30 i = 0) ∧ ∀ i, i < 64 → u.2.1 1 i = -1
theorem frM_lat {u : rg_U} (hf : frM u) : frM (rg_F u 35 0) := ⟨hf.1, hf.2.1, hf.2.2.1, hf.2.2.2.1, hf.2.2.2.2.1, (by show upd u.1 35 0 35 = 0; exact pk_us), hf.2.2.2.2.2.2⟩
set_option maxHeartbeats 4000000 in
set_option maxRecDepth 100000 in
theorem f_X10_runAsked {gs : List String} {ro : pm_RO} {n : Nat} {w : Nat → va_E} {b : Nat} {u : rg_U} (hR : rg shM b u n w) (hf : frM u) : pm_Met gs ro M_X10_runAsked 0 0 0 [.ref (b + 0)] n w (pm_p n w (some (.int 4))) := by
  refine pm_ofX in_X10_runAsked (Nat.le_of_ble_eq_true rfl) rfl (L := [some (.ref (b + 0))]) rfl ?_
  refine pm_aload_n dX10_runAsked_0 rfl ?_
  refine rg_gi (j := 0) hR dX10_runAsked_1 fl_X10_99 rfl rfl ?_
  refine pm_i (y := (-1)) (by exact hf.2.2.1) ?_
  refine pm_iconst (v := (-1)) dX10_runAsked_4 (by decide) ?_
  refine pm_icmp_ne (tgt := 12) dX10_runAsked_5 (by decide) (fun c_5 => absurd (by decide) c_5) (fun c_5 => ?_)
  refine pm_iconst (v := 4) dX10_runAsked_8 (by decide) ?_
  refine pm_goto (tgt := 16) dX10_runAsked_9 (by decide) ?_
  refine pm_iret dX10_runAsked_16 rfl (Nat.zero_le _) (Nat.zero_le _) ?_
  refine ⟨rfl, rfl, ?_⟩
  rfl
set_option maxHeartbeats 4000000 in
set_option maxRecDepth 100000 in
theorem f_X10_isTime {gs : List String} {ro : pm_RO} {n : Nat} {w : Nat → va_E} {b : Nat} {u : rg_U} (hR : rg shM b u n w) (hf : frM u) (t : Int32) : pm_Met gs ro M_X10_isTime 1 0 0 [.ref (b + 0), .int t] n w (pm_p n w (some (.int 0))) := by
  refine pm_ofX in_X10_isTime (Nat.le_of_ble_eq_true rfl) rfl (L := [some (.ref (b + 0)), some (.int t), none]) rfl ?_
  refine pm_aload_n dX10_isTime_0 rfl ?_
  refine rg_cV (M := M_X10_isTime) (Mc := M_X10_runAsked) (j := 0) (dc := 0) (As := []) (st := []) hR dX10_isTime_1 ml_X10_289 ⟨TX10, 55, rfl⟩ rfl (by decide) (Nat.le_refl _) (Nat.le_refl _) (Nat.le_of_ble_eq_true rfl) rfl (f_X10_runAsked hR (by first | exact hf | exact frM_lat hf)) (fun r n1 w1 hq => ?_)
  obtain ⟨e1, e2, e3⟩ := hq
  rw [e1, e2, e3]
  clear e1 e2 e3
  dsimp only [Option.toList, List.cons_append, List.nil_append]
  refine pm_istore_n dX10_isTime_4 (by decide) rfl rfl ?_
  refine pm_aload_n dX10_isTime_5 rfl ?_
  refine rg_gr (j := 0) (o := 5) hR dX10_isTime_6 fl_X10_29 rfl rfl ?_
  refine pm_iload_n dX10_isTime_9 rfl ?_
  refine rg_zl (j := 5) hR dX10_isTime_10 rfl (by unfold vp_in; decide) ?_
  refine pm_i (y := 0) (by exact hf.1) ?_
  refine pm_if_eq (tgt := 32) dX10_isTime_11 (by decide) (fun c_11 => ?_) (fun c_11 => absurd (by decide) c_11)
  refine pm_iconst (v := 0) dX10_isTime_32 (by decide) ?_
  refine pm_zret dX10_isTime_33 rfl (Or.inl rfl) (Nat.zero_le _) (Nat.zero_le _) ?_
  refine ⟨rfl, rfl, ?_⟩
  rfl
theorem md_isIn_m1 (v : Int32) : md_isIn v 0 (0 - 1) = 0 := by
  rw [md_isIn_0, Int32.le_iff_toInt_le, Int32.le_iff_toInt_le, Int32.toInt_zero, show ((0 : Int32) - 1).toInt = -1 from by decide]
  omega
set_option maxHeartbeats 4000000 in
set_option maxRecDepth 100000 in
theorem f_X10_isThere {gs : List String} {ro : pm_RO} {n : Nat} {w : Nat → va_E} {b : Nat} {u : rg_U} (hR : rg shM b u n w) (hf : frM u) (v : Int32) : pm_Met gs ro M_X10_isThere 1 0 0 [.ref (b + 0), .int v] n w (pm_p n w (some (.int 0))) := by
  refine pm_ofX in_X10_isThere (Nat.le_of_ble_eq_true rfl) rfl (L := [some (.ref (b + 0)), some (.int v)]) rfl ?_
  refine pm_iload_n dX10_isThere_0 rfl ?_
  refine pm_iconst (v := (-1)) dX10_isThere_1 (by decide) ?_
  refine pm_icmp_ne (tgt := 14) dX10_isThere_2 (by decide) (fun c_2 => ?_) (fun c_2 => ?_)
  · refine pm_iload_n dX10_isThere_14 rfl ?_
    refine pm_iconst (v := 0) dX10_isThere_15 (by decide) ?_
    refine pm_aload_n dX10_isThere_16 rfl ?_
    refine rg_gi (j := 0) hR dX10_isThere_17 fl_X10_295 rfl rfl ?_
    refine pm_i (y := 0) (by exact hf.2.1) ?_
    refine pm_iconst (v := 1) dX10_isThere_20 (by decide) ?_
    refine pm_isub dX10_isThere_21 ?_
    refine pm_callS (M := M_X10_isThere) (Mc := M_X10_isIn) (roc := ro) (dc := 0) (mcc := 0) (msc := 0) (As := [.int v, .int 0, .int (0 - 1)]) (st := []) dX10_isThere_22 ml_X10_138 (fun _ _ h => h) (by decide) (Nat.le_refl _) (Nat.le_refl _) (Nat.le_of_ble_eq_true rfl) rfl (k_X10_isIn _ _ _ _ _) (fun r n1 w1 hq _ => ?_)
    obtain ⟨e1, e2, e3⟩ := hq
    rw [e1, e2, e3]
    clear e1 e2 e3
    dsimp only [Option.toList, List.cons_append, List.nil_append]
    refine pm_zret dX10_isThere_25 rfl (by first | exact Or.inl rfl | exact md_isIn_b) (Nat.zero_le _) (Nat.zero_le _) ?_
    refine ⟨rfl, rfl, ?_⟩
    first | rfl | rw [md_isIn_m1]
  · refine pm_aload_n dX10_isThere_5 rfl ?_
    refine rg_gr (j := 0) (o := 5) hR dX10_isThere_6 fl_X10_29 rfl rfl ?_
    refine pm_iconst (v := 4) dX10_isThere_9 (by decide) ?_
    refine rg_zl (j := 5) hR dX10_isThere_10 rfl (by unfold vp_in; decide) ?_
    refine pm_i (y := 0) (by exact hf.1) ?_
    refine pm_goto (tgt := 25) dX10_isThere_11 (by decide) ?_
    refine pm_zret dX10_isThere_25 rfl (Or.inl rfl) (Nat.zero_le _) (Nat.zero_le _) ?_
    refine ⟨rfl, rfl, ?_⟩
    first | rfl | rw [md_isIn_m1]
set_option maxHeartbeats 4000000 in
set_option maxRecDepth 100000 in
theorem f_X10_give {gs : List String} {ro : pm_RO} {n : Nat} {w : Nat → va_E} {b : Nat} {u : rg_U} (hR : rg shM b u n w) (hf : frM u) (v : Int32) : pm_Met gs ro M_X10_give 0 0 0 [.ref (b + 0), .int v] n w (pm_a b shM.length n w (some (.int (-1)))) := by
  refine pm_ofX in_X10_give (Nat.le_of_ble_eq_true rfl) rfl (L := [some (.ref (b + 0)), some (.int v)]) rfl ?_
  refine pm_aload_n dX10_give_0 rfl ?_
  refine rg_gr (j := 0) (o := 5) hR dX10_give_1 fl_X10_29 rfl rfl ?_
  refine pm_iconst (v := 4) dX10_give_4 (by decide) ?_
  refine rg_zl (j := 5) hR dX10_give_5 rfl (by unfold vp_in; decide) ?_
  refine pm_i (y := 0) (by exact hf.1) ?_
  refine pm_if_eq (tgt := 18) dX10_give_6 (by decide) (fun c_6 => ?_) (fun c_6 => absurd (by decide) c_6)
  refine pm_iconst (v := (-1)) dX10_give_18 (by decide) ?_
  refine pm_iret dX10_give_19 rfl (Nat.zero_le _) (Nat.zero_le _) ?_
  refine ⟨?_, rfl, rg_k0⟩
  rfl
set_option maxHeartbeats 4000000 in
set_option maxRecDepth 100000 in
theorem f_X10_poke {gs : List String} {ro : pm_RO} {n : Nat} {w : Nat → va_E} {b : Nat} {u : rg_U} (hR : rg shM b u n w) (hf : frM u) (a c e : Int32) : pm_Met gs ro M_X10_poke 2 0 0 [.ref (b + 0), .int a, .int c, .int e] n w (pm_a b shM.length n w (some (.int (-1)))) := by
  refine pm_ofX in_X10_poke (Nat.le_of_ble_eq_true rfl) rfl (L := [some (.ref (b + 0)), some (.int a), some (.int c), some (.int e), none]) rfl ?_
  refine pm_aload_n dX10_poke_0 rfl ?_
  refine rg_gr (j := 0) (o := 5) hR dX10_poke_1 fl_X10_29 rfl rfl ?_
  refine pm_iconst (v := 4) dX10_poke_4 (by decide) ?_
  refine rg_zl (j := 5) hR dX10_poke_5 rfl (by unfold vp_in; decide) ?_
  refine pm_i (y := 0) (by exact hf.1) ?_
  refine pm_if_eq (tgt := 36) dX10_poke_6 (by decide) (fun c_6 => ?_) (fun c_6 => absurd (by decide) c_6)
  refine pm_iconst (v := (-1)) dX10_poke_36 (by decide) ?_
  refine pm_iret dX10_poke_37 rfl (Nat.zero_le _) (Nat.zero_le _) ?_
  refine ⟨?_, rfl, rg_k0⟩
  rfl
set_option maxHeartbeats 4000000 in
set_option maxRecDepth 100000 in
theorem f_X10_run {gs : List String} {ro : pm_RO} {n : Nat} {w : Nat → va_E} {b : Nat} {u : rg_U} (hR : rg shM b u n w) (hf : frM u) (k : Int32) : pm_Met gs ro M_X10_run 1 0 0 [.ref (b + 0), .int k] n w (pm_a b shM.length n w (some (.int (-1)))) := by
  refine pm_ofX in_X10_run (Nat.le_of_ble_eq_true rfl) rfl (L := [some (.ref (b + 0)), some (.int k), none, none]) rfl ?_
  refine pm_aload_n dX10_run_0 rfl ?_
  refine rg_gr (j := 0) (o := 5) hR dX10_run_1 fl_X10_29 rfl rfl ?_
  refine pm_iconst (v := 4) dX10_run_4 (by decide) ?_
  refine rg_zl (j := 5) hR dX10_run_5 rfl (by unfold vp_in; decide) ?_
  refine pm_i (y := 0) (by exact hf.1) ?_
  refine pm_if_eq (tgt := 20) dX10_run_6 (by decide) (fun c_6 => ?_) (fun c_6 => absurd (by decide) c_6)
  refine pm_iconst (v := (-1)) dX10_run_20 (by decide) ?_
  refine pm_iret dX10_run_21 rfl (Nat.zero_le _) (Nat.zero_le _) ?_
  refine ⟨?_, rfl, rg_k0⟩
  rfl
set_option maxHeartbeats 4000000 in
set_option maxRecDepth 100000 in
theorem f_X10_back {gs : List String} {ro : pm_RO} {n : Nat} {w : Nat → va_E} {b : Nat} {u : rg_U} (hR : rg shM b u n w) (hf : frM u) (t : Int32) : pm_Met gs ro M_X10_back 1 0 0 [.ref (b + 0), .int t] n w (pm_a b shM.length n w (some (.int (-1)))) := by
  refine pm_ofX in_X10_back (Nat.le_of_ble_eq_true rfl) rfl (L := [some (.ref (b + 0)), some (.int t), none, none, none, none, none]) rfl ?_
  refine pm_aload_n dX10_back_0 rfl ?_
  refine pm_iconst (v := 0) dX10_back_1 (by decide) ?_
  refine rg_pi (j := 0) hR dX10_back_2 fl_X10_276 rfl rfl (fun w1 hR2 hk3 => ?_)
  refine pm_aload_n dX10_back_5 rfl ?_
  refine rg_gr (j := 0) (o := 5) hR2 dX10_back_6 fl_X10_29 rfl rfl ?_
  refine pm_iconst (v := 4) dX10_back_9 (by decide) ?_
  refine rg_zl (j := 5) hR2 dX10_back_10 rfl (by unfold vp_in; decide) ?_
  refine pm_i (y := 0) (by exact hf.1) ?_
  refine pm_if_eq (tgt := 30) dX10_back_11 (by decide) (fun c_11 => ?_) (fun c_11 => absurd (by decide) c_11)
  refine pm_iconst (v := (-1)) dX10_back_30 (by decide) ?_
  refine pm_iret dX10_back_31 rfl (Nat.zero_le _) (Nat.zero_le _) ?_
  refine ⟨?_, rfl, hk3⟩
  rfl
set_option maxHeartbeats 4000000 in
set_option maxRecDepth 100000 in
theorem f_X10_keep {gs : List String} {ro : pm_RO} {n : Nat} {w : Nat → va_E} {b : Nat} {u : rg_U} (hR : rg shM b u n w) (hf : frM u) : pm_Met gs ro M_X10_keep 0 0 0 [.ref (b + 0)] n w (pm_a b shM.length n w (some (.int (-1)))) := by
  refine pm_ofX in_X10_keep (Nat.le_of_ble_eq_true rfl) rfl (L := [some (.ref (b + 0)), none, none]) rfl ?_
  refine pm_aload_n dX10_keep_0 rfl ?_
  refine rg_gr (j := 0) (o := 5) hR dX10_keep_1 fl_X10_29 rfl rfl ?_
  refine pm_iconst (v := 4) dX10_keep_4 (by decide) ?_
  refine rg_zl (j := 5) hR dX10_keep_5 rfl (by unfold vp_in; decide) ?_
  refine pm_i (y := 0) (by exact hf.1) ?_
  refine pm_if_eq (tgt := 17) dX10_keep_6 (by decide) (fun c_6 => ?_) (fun c_6 => absurd (by decide) c_6)
  refine pm_iconst (v := (-1)) dX10_keep_17 (by decide) ?_
  refine pm_iret dX10_keep_18 rfl (Nat.zero_le _) (Nat.zero_le _) ?_
  refine ⟨?_, rfl, rg_k0⟩
  rfl
set_option maxHeartbeats 4000000 in
set_option maxRecDepth 100000 in
theorem f_X10_at {gs : List String} {ro : pm_RO} {n : Nat} {w : Nat → va_E} {b : Nat} {u : rg_U} (hR : rg shM b u n w) (hf : frM u) (a c e : Int32) : pm_Met gs ro M_X10_at 2 0 0 [.ref (b + 0), .int a, .int c, .int e] n w (pm_a b shM.length n w (some (.int (-1000001)))) := by
  refine pm_ofX in_X10_at (Nat.le_of_ble_eq_true rfl) rfl (L := [some (.ref (b + 0)), some (.int a), some (.int c), some (.int e)]) rfl ?_
  refine pm_aload_n dX10_at_0 rfl ?_
  refine pm_iconst (v := 0) dX10_at_1 (by decide) ?_
  refine rg_pi (j := 0) hR dX10_at_2 fl_X10_276 rfl rfl (fun w1 hR2 hk3 => ?_)
  refine pm_aload_n dX10_at_5 rfl ?_
  refine pm_iload_n dX10_at_6 rfl ?_
  refine rg_cV (M := M_X10_at) (Mc := M_X10_isTime) (j := 0) (dc := 1) (As := [.int a]) (st := []) hR2 dX10_at_7 ml_X10_301 ⟨TX10, 55, rfl⟩ rfl (by decide) (Nat.le_refl _) (Nat.le_refl _) (Nat.le_of_ble_eq_true rfl) rfl (f_X10_isTime hR2 (by first | exact hf | exact frM_lat hf) _) (fun r n1 w1 hq => ?_)
  obtain ⟨e1, e2, e3⟩ := hq
  rw [e1, e2, e3]
  clear e1 e2 e3
  dsimp only [Option.toList, List.cons_append, List.nil_append]
  refine pm_if_eq (tgt := 29) dX10_at_10 (by decide) (fun c_10 => ?_) (fun c_10 => absurd (by decide) c_10)
  refine pm_ldcw (v := -1000001) dX10_at_29 kc_X10_304 ?_
  refine pm_iret dX10_at_32 rfl (Nat.zero_le _) (Nat.zero_le _) ?_
  refine ⟨?_, rfl, hk3⟩
  rfl
set_option maxHeartbeats 4000000 in
set_option maxRecDepth 100000 in
theorem f_X10_state {gs : List String} {ro : pm_RO} {n : Nat} {w : Nat → va_E} {b : Nat} {u : rg_U} (hR : rg shM b u n w) (hf : frM u) (a c : Int32) : pm_Met gs ro M_X10_state 2 0 0 [.ref (b + 0), .int a, .int c] n w (pm_a b shM.length n w (some (.int (-1000001)))) := by
  refine pm_ofX in_X10_state (Nat.le_of_ble_eq_true rfl) rfl (L := [some (.ref (b + 0)), some (.int a), some (.int c)]) rfl ?_
  refine pm_aload_n dX10_state_0 rfl ?_
  refine pm_iconst (v := 0) dX10_state_1 (by decide) ?_
  refine rg_pi (j := 0) hR dX10_state_2 fl_X10_276 rfl rfl (fun w1 hR2 hk3 => ?_)
  refine pm_aload_n dX10_state_5 rfl ?_
  refine pm_iload_n dX10_state_6 rfl ?_
  refine rg_cV (M := M_X10_state) (Mc := M_X10_isTime) (j := 0) (dc := 1) (As := [.int a]) (st := []) hR2 dX10_state_7 ml_X10_301 ⟨TX10, 55, rfl⟩ rfl (by decide) (Nat.le_refl _) (Nat.le_refl _) (Nat.le_of_ble_eq_true rfl) rfl (f_X10_isTime hR2 (by first | exact hf | exact frM_lat hf) _) (fun r n1 w1 hq => ?_)
  obtain ⟨e1, e2, e3⟩ := hq
  rw [e1, e2, e3]
  clear e1 e2 e3
  dsimp only [Option.toList, List.cons_append, List.nil_append]
  refine pm_if_eq (tgt := 33) dX10_state_10 (by decide) (fun c_10 => ?_) (fun c_10 => absurd (by decide) c_10)
  refine pm_ldcw (v := -1000001) dX10_state_33 kc_X10_304 ?_
  refine pm_iret dX10_state_36 rfl (Nat.zero_le _) (Nat.zero_le _) ?_
  refine ⟨?_, rfl, hk3⟩
  rfl
set_option maxHeartbeats 4000000 in
set_option maxRecDepth 100000 in
theorem f_X10_last {gs : List String} {ro : pm_RO} {n : Nat} {w : Nat → va_E} {b : Nat} {u : rg_U} (hR : rg shM b u n w) (hf : frM u) (a c : Int32) : pm_Met gs ro M_X10_last 2 0 0 [.ref (b + 0), .int a, .int c] n w (pm_a b shM.length n w (some (.int (-2)))) := by
  refine pm_ofX in_X10_last (Nat.le_of_ble_eq_true rfl) rfl (L := [some (.ref (b + 0)), some (.int a), some (.int c)]) rfl ?_
  refine pm_aload_n dX10_last_0 rfl ?_
  refine pm_iconst (v := 0) dX10_last_1 (by decide) ?_
  refine rg_pi (j := 0) hR dX10_last_2 fl_X10_276 rfl rfl (fun w1 hR2 hk3 => ?_)
  refine pm_aload_n dX10_last_5 rfl ?_
  refine pm_iload_n dX10_last_6 rfl ?_
  refine rg_cV (M := M_X10_last) (Mc := M_X10_isTime) (j := 0) (dc := 1) (As := [.int a]) (st := []) hR2 dX10_last_7 ml_X10_301 ⟨TX10, 55, rfl⟩ rfl (by decide) (Nat.le_refl _) (Nat.le_refl _) (Nat.le_of_ble_eq_true rfl) rfl (f_X10_isTime hR2 (by first | exact hf | exact frM_lat hf) _) (fun r n1 w1 hq => ?_)
  obtain ⟨e1, e2, e3⟩ := hq
  rw [e1, e2, e3]
  clear e1 e2 e3
  dsimp only [Option.toList, List.cons_append, List.nil_append]
  refine pm_if_eq (tgt := 29) dX10_last_10 (by decide) (fun c_10 => ?_) (fun c_10 => absurd (by decide) c_10)
  refine pm_bipush (v := (-2)) dX10_last_29 (by decide) ?_
  refine pm_iret dX10_last_31 rfl (Nat.zero_le _) (Nat.zero_le _) ?_
  refine ⟨?_, rfl, hk3⟩
  rfl
set_option maxHeartbeats 4000000 in
set_option maxRecDepth 100000 in
theorem f_X10_when {gs : List String} {ro : pm_RO} {n : Nat} {w : Nat → va_E} {b : Nat} {u : rg_U} (hR : rg shM b u n w) (hf : frM u) (a c e k : Int32) : pm_Met gs ro M_X10_when 2 0 0 [.ref (b + 0), .int a, .int c, .int e, .int k] n w (pm_a b shM.length n w (some (.int (-2)))) := by
  refine pm_ofX in_X10_when (Nat.le_of_ble_eq_true rfl) rfl (L := [some (.ref (b + 0)), some (.int a), some (.int c), some (.int e), some (.int k), none, none, none, none]) rfl ?_
  refine pm_aload_n dX10_when_0 rfl ?_
  refine pm_iconst (v := 0) dX10_when_1 (by decide) ?_
  refine rg_pi (j := 0) hR dX10_when_2 fl_X10_276 rfl rfl (fun w1 hR2 hk3 => ?_)
  refine pm_aload_n dX10_when_5 rfl ?_
  refine pm_iload_n dX10_when_6 rfl ?_
  refine rg_cV (M := M_X10_when) (Mc := M_X10_isTime) (j := 0) (dc := 1) (As := [.int a]) (st := []) hR2 dX10_when_7 ml_X10_301 ⟨TX10, 55, rfl⟩ rfl (by decide) (Nat.le_refl _) (Nat.le_refl _) (Nat.le_of_ble_eq_true rfl) rfl (f_X10_isTime hR2 (by first | exact hf | exact frM_lat hf) _) (fun r n1 w1 hq => ?_)
  obtain ⟨e1, e2, e3⟩ := hq
  rw [e1, e2, e3]
  clear e1 e2 e3
  dsimp only [Option.toList, List.cons_append, List.nil_append]
  refine pm_if_eq (tgt := 29) dX10_when_10 (by decide) (fun c_10 => ?_) (fun c_10 => absurd (by decide) c_10)
  refine pm_bipush (v := (-2)) dX10_when_29 (by decide) ?_
  refine pm_iret dX10_when_31 rfl (Nat.zero_le _) (Nat.zero_le _) ?_
  refine ⟨?_, rfl, hk3⟩
  rfl
set_option maxHeartbeats 4000000 in
set_option maxRecDepth 100000 in
theorem f_X10_changed {gs : List String} {ro : pm_RO} {n : Nat} {w : Nat → va_E} {b : Nat} {u : rg_U} (hR : rg shM b u n w) (hf : frM u) (a c : Int32) : pm_Met gs ro M_X10_changed 2 0 0 [.ref (b + 0), .int a, .int c] n w (pm_a b shM.length n w (some (.int (-1000001)))) := by
  refine pm_ofX in_X10_changed (Nat.le_of_ble_eq_true rfl) rfl (L := [some (.ref (b + 0)), some (.int a), some (.int c), none, none, none, none, none]) rfl ?_
  refine pm_aload_n dX10_changed_0 rfl ?_
  refine pm_iconst (v := 0) dX10_changed_1 (by decide) ?_
  refine rg_pi (j := 0) hR dX10_changed_2 fl_X10_276 rfl rfl (fun w1 hR2 hk3 => ?_)
  refine pm_aload_n dX10_changed_5 rfl ?_
  refine rg_cV (M := M_X10_changed) (Mc := M_X10_runAsked) (j := 0) (dc := 0) (As := []) (st := []) hR2 dX10_changed_6 ml_X10_289 ⟨TX10, 55, rfl⟩ rfl (by decide) (Nat.le_refl _) (Nat.le_refl _) (Nat.le_of_ble_eq_true rfl) rfl (f_X10_runAsked hR2 (by first | exact hf | exact frM_lat hf)) (fun r n1 w1 hq => ?_)
  obtain ⟨e1, e2, e3⟩ := hq
  rw [e1, e2, e3]
  clear e1 e2 e3
  dsimp only [Option.toList, List.cons_append, List.nil_append]
  refine pm_istore_n dX10_changed_9 (by decide) rfl rfl ?_
  refine pm_aload_n dX10_changed_10 rfl ?_
  refine pm_iload_n dX10_changed_11 rfl ?_
  refine rg_cV (M := M_X10_changed) (Mc := M_X10_isTime) (j := 0) (dc := 1) (As := [.int a]) (st := []) hR2 dX10_changed_12 ml_X10_301 ⟨TX10, 55, rfl⟩ rfl (by decide) (Nat.le_refl _) (Nat.le_refl _) (Nat.le_of_ble_eq_true rfl) rfl (f_X10_isTime hR2 (by first | exact hf | exact frM_lat hf) _) (fun r n1 w1 hq => ?_)
  obtain ⟨e1, e2, e3⟩ := hq
  rw [e1, e2, e3]
  clear e1 e2 e3
  dsimp only [Option.toList, List.cons_append, List.nil_append]
  refine pm_if_eq (tgt := 37) dX10_changed_15 (by decide) (fun c_15 => ?_) (fun c_15 => absurd (by decide) c_15)
  refine pm_ldcw (v := -1000001) dX10_changed_37 kc_X10_304 ?_
  refine pm_iret dX10_changed_40 rfl (Nat.zero_le _) (Nat.zero_le _) ?_
  refine ⟨?_, rfl, hk3⟩
  rfl
set_option maxHeartbeats 4000000 in
set_option maxRecDepth 100000 in
theorem f_X10_watched {gs : List String} {ro : pm_RO} {n : Nat} {w : Nat → va_E} {b : Nat} {u : rg_U} (hR : rg shM b u n w) (hf : frM u) (a : Int32) : pm_Met gs ro M_X10_watched 2 0 0 [.ref (b + 0), .int a] n w (pm_a b shM.length n w (some (.int (-2)))) := by
  refine pm_ofX in_X10_watched (Nat.le_of_ble_eq_true rfl) rfl (L := [some (.ref (b + 0)), some (.int a), none, none]) rfl ?_
  refine pm_aload_n dX10_watched_0 rfl ?_
  refine pm_iconst (v := 0) dX10_watched_1 (by decide) ?_
  refine rg_pi (j := 0) hR dX10_watched_2 fl_X10_276 rfl rfl (fun w1 hR2 hk3 => ?_)
  refine pm_iload_n dX10_watched_5 rfl ?_
  refine pm_iconst (v := 1) dX10_watched_6 (by decide) ?_
  refine pm_icmp_lt (tgt := 18) dX10_watched_7 (by decide) (fun c_7 => ?_) (fun c_7 => ?_)
  · refine pm_bipush (v := (-2)) dX10_watched_18 (by decide) ?_
    refine pm_iret dX10_watched_20 rfl (Nat.zero_le _) (Nat.zero_le _) ?_
    refine ⟨?_, rfl, hk3⟩
    rfl
  · refine pm_aload_n dX10_watched_10 rfl ?_
    refine pm_iload_n dX10_watched_11 rfl ?_
    refine rg_cV (M := M_X10_watched) (Mc := M_X10_isTime) (j := 0) (dc := 1) (As := [.int a]) (st := []) hR2 dX10_watched_12 ml_X10_301 ⟨TX10, 55, rfl⟩ rfl (by decide) (Nat.le_refl _) (Nat.le_refl _) (Nat.le_of_ble_eq_true rfl) rfl (f_X10_isTime hR2 (by first | exact hf | exact frM_lat hf) _) (fun r n1 w1 hq => ?_)
    obtain ⟨e1, e2, e3⟩ := hq
    rw [e1, e2, e3]
    clear e1 e2 e3
    dsimp only [Option.toList, List.cons_append, List.nil_append]
    refine pm_if_ne (tgt := 21) dX10_watched_15 (by decide) (fun c_15 => absurd (by decide) c_15) (fun c_15 => ?_)
    refine pm_bipush (v := (-2)) dX10_watched_18 (by decide) ?_
    refine pm_iret dX10_watched_20 rfl (Nat.zero_le _) (Nat.zero_le _) ?_
    refine ⟨?_, rfl, hk3⟩
    rfl
set_option maxHeartbeats 4000000 in
set_option maxRecDepth 100000 in
theorem f_X10_rests {gs : List String} {ro : pm_RO} {n : Nat} {w : Nat → va_E} {b : Nat} {u : rg_U} (hR : rg shM b u n w) (hf : frM u) (a c e : Int32) : pm_Met gs ro M_X10_rests 2 0 0 [.ref (b + 0), .int a, .int c, .int e] n w (pm_a b shM.length n w (some (.int (-2)))) := by
  refine pm_ofX in_X10_rests (Nat.le_of_ble_eq_true rfl) rfl (L := [some (.ref (b + 0)), some (.int a), some (.int c), some (.int e), none, none]) rfl ?_
  refine pm_aload_n dX10_rests_0 rfl ?_
  refine pm_iload_n dX10_rests_1 rfl ?_
  refine rg_cV (M := M_X10_rests) (Mc := M_X10_isTime) (j := 0) (dc := 1) (As := [.int a]) (st := []) hR dX10_rests_2 ml_X10_301 ⟨TX10, 55, rfl⟩ rfl (by decide) (Nat.le_refl _) (Nat.le_refl _) (Nat.le_of_ble_eq_true rfl) rfl (f_X10_isTime hR (by first | exact hf | exact frM_lat hf) _) (fun r n1 w1 hq => ?_)
  obtain ⟨e1, e2, e3⟩ := hq
  rw [e1, e2, e3]
  clear e1 e2 e3
  dsimp only [Option.toList, List.cons_append, List.nil_append]
  refine pm_if_eq (tgt := 15) dX10_rests_5 (by decide) (fun c_5 => ?_) (fun c_5 => absurd (by decide) c_5)
  refine pm_bipush (v := (-2)) dX10_rests_15 (by decide) ?_
  refine pm_iret dX10_rests_17 rfl (Nat.zero_le _) (Nat.zero_le _) ?_
  refine ⟨?_, rfl, rg_k0⟩
  rfl
set_option maxHeartbeats 4000000 in
set_option maxRecDepth 100000 in
theorem f_X10_hangs {gs : List String} {ro : pm_RO} {n : Nat} {w : Nat → va_E} {b : Nat} {u : rg_U} (hR : rg shM b u n w) (hf : frM u) (a c e : Int32) : pm_Met gs ro M_X10_hangs 2 0 0 [.ref (b + 0), .int a, .int c, .int e] n w (pm_a b shM.length n w (some (.int (-1000001)))) := by
  refine pm_ofX in_X10_hangs (Nat.le_of_ble_eq_true rfl) rfl (L := [some (.ref (b + 0)), some (.int a), some (.int c), some (.int e), none, none, none, none, none]) rfl ?_
  refine pm_aload_n dX10_hangs_0 rfl ?_
  refine rg_cV (M := M_X10_hangs) (Mc := M_X10_runAsked) (j := 0) (dc := 0) (As := []) (st := []) hR dX10_hangs_1 ml_X10_289 ⟨TX10, 55, rfl⟩ rfl (by decide) (Nat.le_refl _) (Nat.le_refl _) (Nat.le_of_ble_eq_true rfl) rfl (f_X10_runAsked hR (by first | exact hf | exact frM_lat hf)) (fun r n1 w1 hq => ?_)
  obtain ⟨e1, e2, e3⟩ := hq
  rw [e1, e2, e3]
  clear e1 e2 e3
  dsimp only [Option.toList, List.cons_append, List.nil_append]
  refine pm_istore dX10_hangs_4 (by decide) rfl rfl ?_
  refine pm_aload_n dX10_hangs_6 rfl ?_
  refine pm_iload_n dX10_hangs_7 rfl ?_
  refine rg_cV (M := M_X10_hangs) (Mc := M_X10_isTime) (j := 0) (dc := 1) (As := [.int c]) (st := []) hR dX10_hangs_8 ml_X10_301 ⟨TX10, 55, rfl⟩ rfl (by decide) (Nat.le_refl _) (Nat.le_refl _) (Nat.le_of_ble_eq_true rfl) rfl (f_X10_isTime hR (by first | exact hf | exact frM_lat hf) _) (fun r n1 w1 hq => ?_)
  obtain ⟨e1, e2, e3⟩ := hq
  rw [e1, e2, e3]
  clear e1 e2 e3
  dsimp only [Option.toList, List.cons_append, List.nil_append]
  refine pm_if_eq (tgt := 40) dX10_hangs_11 (by decide) (fun c_11 => ?_) (fun c_11 => absurd (by decide) c_11)
  refine pm_ldcw (v := -1000001) dX10_hangs_40 kc_X10_304 ?_
  refine pm_iret dX10_hangs_43 rfl (Nat.zero_le _) (Nat.zero_le _) ?_
  refine ⟨?_, rfl, rg_k0⟩
  rfl
set_option maxHeartbeats 4000000 in
set_option maxRecDepth 100000 in
theorem f_X10_history {gs : List String} {ro : pm_RO} {n : Nat} {w : Nat → va_E} {b : Nat} {u : rg_U} (hR : rg shM b u n w) (hf : frM u) (a c e : Int32) : pm_Met gs ro M_X10_history 2 0 0 [.ref (b + 0), .int a, .int c, .int e] n w (pm_a b shM.length n w (some (.int (-1000001)))) := by
  refine pm_ofX in_X10_history (Nat.le_of_ble_eq_true rfl) rfl (L := [some (.ref (b + 0)), some (.int a), some (.int c), some (.int e), none, none, none, none]) rfl ?_
  refine pm_aload_n dX10_history_0 rfl ?_
  refine rg_cV (M := M_X10_history) (Mc := M_X10_runAsked) (j := 0) (dc := 0) (As := []) (st := []) hR dX10_history_1 ml_X10_289 ⟨TX10, 55, rfl⟩ rfl (by decide) (Nat.le_refl _) (Nat.le_refl _) (Nat.le_of_ble_eq_true rfl) rfl (f_X10_runAsked hR (by first | exact hf | exact frM_lat hf)) (fun r n1 w1 hq => ?_)
  obtain ⟨e1, e2, e3⟩ := hq
  rw [e1, e2, e3]
  clear e1 e2 e3
  dsimp only [Option.toList, List.cons_append, List.nil_append]
  refine pm_istore dX10_history_4 (by decide) rfl rfl ?_
  refine pm_aload_n dX10_history_6 rfl ?_
  refine rg_gr (j := 0) (o := 5) hR dX10_history_7 fl_X10_29 rfl rfl ?_
  refine pm_iload dX10_history_10 rfl ?_
  refine rg_zl (j := 5) hR dX10_history_12 rfl (by unfold vp_in; decide) ?_
  refine pm_i (y := 0) (by exact hf.1) ?_
  refine pm_if_eq (tgt := 42) dX10_history_13 (by decide) (fun c_13 => ?_) (fun c_13 => absurd (by decide) c_13)
  refine pm_ldcw (v := -1000001) dX10_history_42 kc_X10_304 ?_
  refine pm_iret dX10_history_45 rfl (Nat.zero_le _) (Nat.zero_le _) ?_
  refine ⟨?_, rfl, rg_k0⟩
  rfl
set_option maxHeartbeats 4000000 in
set_option maxRecDepth 100000 in
theorem f_X10_done {gs : List String} {ro : pm_RO} {n : Nat} {w : Nat → va_E} {b : Nat} {u : rg_U} (hR : rg shM b u n w) (hf : frM u) (a c : Int32) : pm_Met gs ro M_X10_done 2 0 0 [.ref (b + 0), .int a, .int c] n w (pm_a b shM.length n w (some (.int (-2)))) := by
  refine pm_ofX in_X10_done (Nat.le_of_ble_eq_true rfl) rfl (L := [some (.ref (b + 0)), some (.int a), some (.int c), none, none, none]) rfl ?_
  refine pm_aload_n dX10_done_0 rfl ?_
  refine pm_iload_n dX10_done_1 rfl ?_
  refine rg_cV (M := M_X10_done) (Mc := M_X10_isTime) (j := 0) (dc := 1) (As := [.int a]) (st := []) hR dX10_done_2 ml_X10_301 ⟨TX10, 55, rfl⟩ rfl (by decide) (Nat.le_refl _) (Nat.le_refl _) (Nat.le_of_ble_eq_true rfl) rfl (f_X10_isTime hR (by first | exact hf | exact frM_lat hf) _) (fun r n1 w1 hq => ?_)
  obtain ⟨e1, e2, e3⟩ := hq
  rw [e1, e2, e3]
  clear e1 e2 e3
  dsimp only [Option.toList, List.cons_append, List.nil_append]
  refine pm_if_eq (tgt := 18) dX10_done_5 (by decide) (fun c_5 => ?_) (fun c_5 => absurd (by decide) c_5)
  refine pm_bipush (v := (-2)) dX10_done_18 (by decide) ?_
  refine pm_iret dX10_done_20 rfl (Nat.zero_le _) (Nat.zero_le _) ?_
  refine ⟨?_, rfl, rg_k0⟩
  rfl
set_option maxHeartbeats 4000000 in
set_option maxRecDepth 100000 in
theorem f_X10_call {gs : List String} {ro : pm_RO} {n : Nat} {w : Nat → va_E} {b : Nat} {u : rg_U} (hR : rg shM b u n w) (hf : frM u) (a c : Int32) : pm_Met gs ro M_X10_call 2 0 0 [.ref (b + 0), .int a, .int c] n w (pm_a b shM.length n w (some (.int (-1)))) := by
  refine pm_ofX in_X10_call (Nat.le_of_ble_eq_true rfl) rfl (L := [some (.ref (b + 0)), some (.int a), some (.int c), none, none]) rfl ?_
  refine pm_aload_n dX10_call_0 rfl ?_
  refine rg_cV (M := M_X10_call) (Mc := M_X10_runAsked) (j := 0) (dc := 0) (As := []) (st := []) hR dX10_call_1 ml_X10_289 ⟨TX10, 55, rfl⟩ rfl (by decide) (Nat.le_refl _) (Nat.le_refl _) (Nat.le_of_ble_eq_true rfl) rfl (f_X10_runAsked hR (by first | exact hf | exact frM_lat hf)) (fun r n1 w1 hq => ?_)
  obtain ⟨e1, e2, e3⟩ := hq
  rw [e1, e2, e3]
  clear e1 e2 e3
  dsimp only [Option.toList, List.cons_append, List.nil_append]
  refine pm_istore_n dX10_call_4 (by decide) rfl rfl ?_
  refine pm_aload_n dX10_call_5 rfl ?_
  refine rg_gr (j := 0) (o := 5) hR dX10_call_6 fl_X10_29 rfl rfl ?_
  refine pm_iload_n dX10_call_9 rfl ?_
  refine rg_zl (j := 5) hR dX10_call_10 rfl (by unfold vp_in; decide) ?_
  refine pm_i (y := 0) (by exact hf.1) ?_
  refine pm_if_ne (tgt := 16) dX10_call_11 (by decide) (fun c_11 => absurd (by decide) c_11) (fun c_11 => ?_)
  refine pm_iconst (v := (-1)) dX10_call_14 (by decide) ?_
  refine pm_iret dX10_call_15 rfl (Nat.zero_le _) (Nat.zero_le _) ?_
  refine ⟨?_, rfl, rg_k0⟩
  rfl
set_option maxHeartbeats 4000000 in
set_option maxRecDepth 100000 in
theorem f_X10_log {gs : List String} {ro : pm_RO} {n : Nat} {w : Nat → va_E} {b : Nat} {u : rg_U} (hR : rg shM b u n w) (hf : frM u) (a c : Int32) : pm_Met gs ro M_X10_log 2 0 0 [.ref (b + 0), .int a, .int c] n w (pm_a b shM.length n w (some (.int (-1000001)))) := by
  refine pm_ofX in_X10_log (Nat.le_of_ble_eq_true rfl) rfl (L := [some (.ref (b + 0)), some (.int a), some (.int c), none, none]) rfl ?_
  refine pm_aload_n dX10_log_0 rfl ?_
  refine rg_cV (M := M_X10_log) (Mc := M_X10_runAsked) (j := 0) (dc := 0) (As := []) (st := []) hR dX10_log_1 ml_X10_289 ⟨TX10, 55, rfl⟩ rfl (by decide) (Nat.le_refl _) (Nat.le_refl _) (Nat.le_of_ble_eq_true rfl) rfl (f_X10_runAsked hR (by first | exact hf | exact frM_lat hf)) (fun r n1 w1 hq => ?_)
  obtain ⟨e1, e2, e3⟩ := hq
  rw [e1, e2, e3]
  clear e1 e2 e3
  dsimp only [Option.toList, List.cons_append, List.nil_append]
  refine pm_istore_n dX10_log_4 (by decide) rfl rfl ?_
  refine pm_aload_n dX10_log_5 rfl ?_
  refine rg_gr (j := 0) (o := 5) hR dX10_log_6 fl_X10_29 rfl rfl ?_
  refine pm_iload_n dX10_log_9 rfl ?_
  refine rg_zl (j := 5) hR dX10_log_10 rfl (by unfold vp_in; decide) ?_
  refine pm_i (y := 0) (by exact hf.1) ?_
  refine pm_if_ne (tgt := 18) dX10_log_11 (by decide) (fun c_11 => absurd (by decide) c_11) (fun c_11 => ?_)
  refine pm_ldcw (v := -1000001) dX10_log_14 kc_X10_304 ?_
  refine pm_iret dX10_log_17 rfl (Nat.zero_le _) (Nat.zero_le _) ?_
  refine ⟨?_, rfl, rg_k0⟩
  rfl
set_option maxHeartbeats 4000000 in
set_option maxRecDepth 100000 in
theorem f_X10_held {gs : List String} {ro : pm_RO} {n : Nat} {w : Nat → va_E} {b : Nat} {u : rg_U} (hR : rg shM b u n w) (hf : frM u) (a c : Int32) : pm_Met gs ro M_X10_held 2 0 0 [.ref (b + 0), .int a, .int c] n w (pm_a b shM.length n w (some (.int (-1)))) := by
  refine pm_ofX in_X10_held (Nat.le_of_ble_eq_true rfl) rfl (L := [some (.ref (b + 0)), some (.int a), some (.int c), none, none, none]) rfl ?_
  refine pm_aload_n dX10_held_0 rfl ?_
  refine rg_cV (M := M_X10_held) (Mc := M_X10_runAsked) (j := 0) (dc := 0) (As := []) (st := []) hR dX10_held_1 ml_X10_289 ⟨TX10, 55, rfl⟩ rfl (by decide) (Nat.le_refl _) (Nat.le_refl _) (Nat.le_of_ble_eq_true rfl) rfl (f_X10_runAsked hR (by first | exact hf | exact frM_lat hf)) (fun r n1 w1 hq => ?_)
  obtain ⟨e1, e2, e3⟩ := hq
  rw [e1, e2, e3]
  clear e1 e2 e3
  dsimp only [Option.toList, List.cons_append, List.nil_append]
  refine pm_istore_n dX10_held_4 (by decide) rfl rfl ?_
  refine pm_aload_n dX10_held_5 rfl ?_
  refine rg_gr (j := 0) (o := 5) hR dX10_held_6 fl_X10_29 rfl rfl ?_
  refine pm_iload_n dX10_held_9 rfl ?_
  refine rg_zl (j := 5) hR dX10_held_10 rfl (by unfold vp_in; decide) ?_
  refine pm_i (y := 0) (by exact hf.1) ?_
  refine pm_if_ne (tgt := 16) dX10_held_11 (by decide) (fun c_11 => absurd (by decide) c_11) (fun c_11 => ?_)
  refine pm_iconst (v := (-1)) dX10_held_14 (by decide) ?_
  refine pm_iret dX10_held_15 rfl (Nat.zero_le _) (Nat.zero_le _) ?_
  refine ⟨?_, rfl, rg_k0⟩
  rfl
set_option maxHeartbeats 4000000 in
set_option maxRecDepth 100000 in
theorem f_X10_align {gs : List String} {ro : pm_RO} {n : Nat} {w : Nat → va_E} {b : Nat} {u : rg_U} (hR : rg shM b u n w) (hf : frM u) (a c : Int32) : pm_Met gs ro M_X10_align 2 0 0 [.ref (b + 0), .int a, .int c] n w (pm_a b shM.length n w (some (.int (-2)))) := by
  refine pm_ofX in_X10_align (Nat.le_of_ble_eq_true rfl) rfl (L := [some (.ref (b + 0)), some (.int a), some (.int c)]) rfl ?_
  refine pm_aload_n dX10_align_0 rfl ?_
  refine pm_iload_n dX10_align_1 rfl ?_
  refine rg_cV (M := M_X10_align) (Mc := M_X10_isThere) (j := 0) (dc := 1) (As := [.int a]) (st := []) hR dX10_align_2 ml_X10_352 ⟨TX10, 55, rfl⟩ rfl (by decide) (Nat.le_refl _) (Nat.le_refl _) (Nat.le_of_ble_eq_true rfl) rfl (f_X10_isThere hR (by first | exact hf | exact frM_lat hf) _) (fun r n1 w1 hq => ?_)
  obtain ⟨e1, e2, e3⟩ := hq
  rw [e1, e2, e3]
  clear e1 e2 e3
  dsimp only [Option.toList, List.cons_append, List.nil_append]
  refine pm_if_eq (tgt := 16) dX10_align_5 (by decide) (fun c_5 => ?_) (fun c_5 => absurd (by decide) c_5)
  refine pm_bipush (v := (-2)) dX10_align_16 (by decide) ?_
  refine pm_iret dX10_align_18 rfl (Nat.zero_le _) (Nat.zero_le _) ?_
  refine ⟨?_, rfl, rg_k0⟩
  rfl
set_option maxHeartbeats 4000000 in
set_option maxRecDepth 100000 in
theorem f_X10_pair {gs : List String} {ro : pm_RO} {n : Nat} {w : Nat → va_E} {b : Nat} {u : rg_U} (hR : rg shM b u n w) (hf : frM u) (a c e k : Int32) : pm_Met gs ro M_X10_pair 2 0 0 [.ref (b + 0), .int a, .int c, .int e, .int k] n w (pm_a b shM.length n w (some (.int (-1000001)))) := by
  refine pm_ofX in_X10_pair (Nat.le_of_ble_eq_true rfl) rfl (L := [some (.ref (b + 0)), some (.int a), some (.int c), some (.int e), some (.int k), none, none, none, none]) rfl ?_
  refine pm_aload_n dX10_pair_0 rfl ?_
  refine pm_iconst (v := 0) dX10_pair_1 (by decide) ?_
  refine rg_pi (j := 0) hR dX10_pair_2 fl_X10_276 rfl rfl (fun w1 hR2 hk3 => ?_)
  refine pm_aload_n dX10_pair_5 rfl ?_
  refine pm_iload_n dX10_pair_6 rfl ?_
  refine rg_cV (M := M_X10_pair) (Mc := M_X10_isThere) (j := 0) (dc := 1) (As := [.int a]) (st := []) hR2 dX10_pair_7 ml_X10_352 ⟨TX10, 55, rfl⟩ rfl (by decide) (Nat.le_refl _) (Nat.le_refl _) (Nat.le_of_ble_eq_true rfl) rfl (f_X10_isThere hR2 (by first | exact hf | exact frM_lat hf) _) (fun r n1 w1 hq => ?_)
  obtain ⟨e1, e2, e3⟩ := hq
  rw [e1, e2, e3]
  clear e1 e2 e3
  dsimp only [Option.toList, List.cons_append, List.nil_append]
  refine pm_if_eq (tgt := 31) dX10_pair_10 (by decide) (fun c_10 => ?_) (fun c_10 => absurd (by decide) c_10)
  refine pm_ldcw (v := -1000001) dX10_pair_31 kc_X10_304 ?_
  refine pm_iret dX10_pair_34 rfl (Nat.zero_le _) (Nat.zero_le _) ?_
  refine ⟨?_, rfl, hk3⟩
  rfl
set_option maxHeartbeats 4000000 in
set_option maxRecDepth 100000 in
theorem f_X10_parts {gs : List String} {ro : pm_RO} {n : Nat} {w : Nat → va_E} {b : Nat} {u : rg_U} (hR : rg shM b u n w) (hf : frM u) (a c : Int32) : pm_Met gs ro M_X10_parts 2 0 0 [.ref (b + 0), .int a, .int c] n w (pm_a b shM.length n w (some (.int (-2)))) := by
  refine pm_ofX in_X10_parts (Nat.le_of_ble_eq_true rfl) rfl (L := [some (.ref (b + 0)), some (.int a), some (.int c), none, none, none, none, none]) rfl ?_
  refine pm_aload_n dX10_parts_0 rfl ?_
  refine pm_iload_n dX10_parts_1 rfl ?_
  refine rg_cV (M := M_X10_parts) (Mc := M_X10_isThere) (j := 0) (dc := 1) (As := [.int a]) (st := []) hR dX10_parts_2 ml_X10_352 ⟨TX10, 55, rfl⟩ rfl (by decide) (Nat.le_refl _) (Nat.le_refl _) (Nat.le_of_ble_eq_true rfl) rfl (f_X10_isThere hR (by first | exact hf | exact frM_lat hf) _) (fun r n1 w1 hq => ?_)
  obtain ⟨e1, e2, e3⟩ := hq
  rw [e1, e2, e3]
  clear e1 e2 e3
  dsimp only [Option.toList, List.cons_append, List.nil_append]
  refine pm_if_eq (tgt := 16) dX10_parts_5 (by decide) (fun c_5 => ?_) (fun c_5 => absurd (by decide) c_5)
  refine pm_bipush (v := (-2)) dX10_parts_16 (by decide) ?_
  refine pm_iret dX10_parts_18 rfl (Nat.zero_le _) (Nat.zero_le _) ?_
  refine ⟨?_, rfl, rg_k0⟩
  rfl
