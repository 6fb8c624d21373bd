theorem dL_law_0 : decode cL_law 0 = .ok (.new 7, 3) := by decide +kernel
theorem dL_law_3 : decode cL_law 3 = .ok (.dup, 1) := by decide +kernel
theorem dL_law_4 : decode cL_law 4 = .ok (.invokespecial 9, 3) := by decide +kernel
theorem dL_law_7 : decode cL_law 7 = .ok (.astore_n 1, 1) := by decide +kernel
theorem dL_law_8 : decode cL_law 8 = .ok (.new 10, 3) := by decide +kernel
theorem dL_law_11 : decode cL_law 11 = .ok (.dup, 1) := by decide +kernel
theorem dL_law_12 : decode cL_law 12 = .ok (.invokespecial 12, 3) := by decide +kernel
theorem dL_law_15 : decode cL_law 15 = .ok (.astore_n 2, 1) := by decide +kernel
theorem dL_law_16 : decode cL_law 16 = .ok (.iconst 0, 1) := by decide +kernel
theorem dL_law_17 : decode cL_law 17 = .ok (.istore_n 3, 1) := by decide +kernel
theorem dL_law_18 : decode cL_law 18 = .ok (.iload_n 3, 1) := by decide +kernel
theorem dL_law_19 : decode cL_law 19 = .ok (.aload_n 0, 1) := by decide +kernel
theorem dL_law_20 : decode cL_law 20 = .ok (.arraylength, 1) := by decide +kernel
theorem dL_law_21 : decode cL_law 21 = .ok (.bipush 6, 2) := by decide +kernel
theorem dL_law_23 : decode cL_law 23 = .ok (.isub, 1) := by decide +kernel
theorem dL_law_24 : decode cL_law 24 = .ok (.if_icmp .gt 1233, 3) := by decide +kernel
theorem dL_law_27 : decode cL_law 27 = .ok (.aload_n 0, 1) := by decide +kernel
theorem dL_law_28 : decode cL_law 28 = .ok (.iload_n 3, 1) := by decide +kernel
theorem dL_law_29 : decode cL_law 29 = .ok (.iaload, 1) := by decide +kernel
theorem dL_law_30 : decode cL_law 30 = .ok (.bipush 31, 2) := by decide +kernel
theorem dL_law_32 : decode cL_law 32 = .ok (.iand, 1) := by decide +kernel
theorem dL_law_33 : decode cL_law 33 = .ok (.tableswitch 1218 0 30 #[139, 202, 235, 248, 271, 294, 337, 360, 409, 432, 445, 468, 511, 544, 577, 630, 663, 686, 729, 772, 815, 848, 881, 914, 947, 990, 1033, 1076, 1109, 1162, 1195], 139) := by decide +kernel
theorem dL_law_1251 : decode cL_law 1251 = .ok (.iinc 3 6, 3) := by decide +kernel
theorem dL_law_1254 : decode cL_law 1254 = .ok (.goto (-1236), 3) := by decide +kernel
theorem dL_law_1257 : decode cL_law 1257 = .ok (.iconst 1, 1) := by decide +kernel
theorem dL_law_1258 : decode cL_law 1258 = .ok (.ireturn, 1) := by decide +kernel
def cmp_L : Nat → Bool := fun i => [false, false, false, false, false, false, false, false, false, false, false, false, false, false, false, false, false, false, false, false, false, false, false, false, false, false, false, false, false, false, true].getD i false
set_option maxHeartbeats 4000000 in
set_option maxRecDepth 100000 in
theorem law_loop {F L : Nat} {xs : Nat → Int32} (I : Nat → rg_U → rg_U → Prop) (hs : ∀ k, 6 * k + 6 ≤ L → LawSteps F cmp_L (I k) (I (k + 1))) (hskip : ∀ k uc um, 6 * k + 6 ≤ L → I k uc um → I (k + 1) uc um) (hL : L < 2 ^ 29) : ∀ (f k : Nat) (uc um : rg_U) (w : Nat → va_E), L < 6 * (k + f) → 6 * k ≤ L + 6 → I k uc um → rg shC 0 uc 325 w → rg shM 287 um 325 w → pm_X gs_L (ro_L L xs) M_L_law 13 600000 7302250 325 343962 18 [some (.ref 2000000), some (.ref (0 + 0)), some (.ref (287 + 0)), some (.int (nI (6 * k)))] [] 325 w (fun r _ _ => r = some (.int 1)) := by
  intro f
  induction f with
  | zero =>
    intro k uc um w hf hk0 hI hRC hRM
    refine pm_iload_n dL_law_18 rfl ?_
    refine pm_aload_n dL_law_19 rfl ?_
    refine pm_tlen (v := nI L) dL_law_20 rfl rfl ?_
    refine pm_bipush (v := 6) dL_law_21 (by decide) ?_
    refine pm_isub dL_law_23 ?_
    refine pm_icmp_gt (tgt := 1257) dL_law_24 (by decide) (fun q => ?_) (fun q => ?_)
    · refine pm_iconst (v := 1) dL_law_1257 (by decide) ?_
      exact pm_zret dL_law_1258 rfl (Or.inr rfl) (Nat.le_of_ble_eq_true rfl) (Nat.le_of_ble_eq_true rfl) rfl
    · exact absurd ((lw_cmp (by omega) (by omega)).mpr (by omega)) q
  | succ f ih =>
    intro k uc um w hf hk0 hI hRC hRM
    refine pm_iload_n dL_law_18 rfl ?_
    refine pm_aload_n dL_law_19 rfl ?_
    refine pm_tlen (v := nI L) dL_law_20 rfl rfl ?_
    refine pm_bipush (v := 6) dL_law_21 (by decide) ?_
    refine pm_isub dL_law_23 ?_
    refine pm_icmp_gt (tgt := 1257) dL_law_24 (by decide) (fun q => ?_) (fun q => ?_)
    · refine pm_iconst (v := 1) dL_law_1257 (by decide) ?_
      exact pm_zret dL_law_1258 rfl (Or.inr rfl) (Nat.le_of_ble_eq_true rfl) (Nat.le_of_ble_eq_true rfl) rfl
    · have hk : 6 * k + 6 ≤ L := by
        have := mt (lw_cmp (L := L) (k := 6 * k) (by omega) (by omega)).mpr q
        omega
      refine pm_aload_n dL_law_27 rfl ?_
      refine pm_iload_n dL_law_28 rfl ?_
      refine pm_tld (f := xs) dL_law_29 rfl (vp_in_nI (by omega) (by omega)) ?_
      refine pm_bipush (v := 31) dL_law_30 (by decide) ?_
      refine pm_iand dL_law_32 ?_
      have hend : ∀ uc um w, I (k + 1) uc um → rg shC 0 uc 325 w → rg shM 287 um 325 w → pm_X gs_L (ro_L L xs) M_L_law 13 600000 7302250 325 343962 1251 [some (.ref 2000000), some (.ref (0 + 0)), some (.ref (287 + 0)), some (.int (nI (6 * k)))] [] 325 w (fun r _ _ => r = some (.int 1)) := by
        intro uc um w hI hRC hRM
        refine pm_iinc (v := nI (6 * (k + 1))) dL_law_1251 rfl (nI_add (6 * k) 6) (by decide) rfl rfl ?_
        refine pm_goto (tgt := 18) dL_law_1254 (by decide) ?_
        exact ih (k + 1) uc um w (by omega) (by omega) hI hRC hRM
      have hs := hs k hk
      generalize (xs (nI (6 * k)).toNatClampNeg &&& 31) = x
      by_cases t0 : x = 0
      · subst t0
        refine pm_tableIn (off := 139) (tgt := 172) dL_law_33 (by decide) (by decide) rfl (by decide) ?_
        exact law_code hs (by omega) hk hRC hRM hI hend
      by_cases t1 : x = 1
      · subst t1
        refine pm_tableIn (off := 202) (tgt := 235) dL_law_33 (by decide) (by decide) rfl (by decide) ?_
        exact law_spacing hs (by omega) hk hRC hRM hI hend
      by_cases t2 : x = 2
      · subst t2
        refine pm_tableIn (off := 235) (tgt := 268) dL_law_33 (by decide) (by decide) rfl (by decide) ?_
        exact law_begin hs (by omega) hk hRC hRM hI hend
      by_cases t3 : x = 3
      · subst t3
        refine pm_tableIn (off := 248) (tgt := 281) dL_law_33 (by decide) (by decide) rfl (by decide) ?_
        exact law_give hs (by omega) hk hRC hRM hI hend
      by_cases t4 : x = 4
      · subst t4
        refine pm_tableIn (off := 271) (tgt := 304) dL_law_33 (by decide) (by decide) rfl (by decide) ?_
        exact law_seed hs (by omega) hk hRC hRM hI hend
      by_cases t5 : x = 5
      · subst t5
        refine pm_tableIn (off := 294) (tgt := 327) dL_law_33 (by decide) (by decide) rfl (by decide) ?_
        exact law_poke hs (by omega) hk hRC hRM hI hend
      by_cases t6 : x = 6
      · subst t6
        refine pm_tableIn (off := 337) (tgt := 370) dL_law_33 (by decide) (by decide) rfl (by decide) ?_
        exact law_run hs (by omega) hk hRC hRM hI hend
      by_cases t7 : x = 7
      · subst t7
        refine pm_tableIn (off := 360) (tgt := 393) dL_law_33 (by decide) (by decide) rfl (by decide) ?_
        exact law_watch hs (by omega) hk hRC hRM hI hend
      by_cases t8 : x = 8
      · subst t8
        refine pm_tableIn (off := 409) (tgt := 442) dL_law_33 (by decide) (by decide) rfl (by decide) ?_
        exact law_back hs (by omega) hk hRC hRM hI hend
      by_cases t9 : x = 9
      · subst t9
        refine pm_tableIn (off := 432) (tgt := 465) dL_law_33 (by decide) (by decide) rfl (by decide) ?_
        exact law_keep hs (by omega) hk hRC hRM hI hend
      by_cases t10 : x = 10
      · subst t10
        refine pm_tableIn (off := 445) (tgt := 478) dL_law_33 (by decide) (by decide) rfl (by decide) ?_
        exact law_use hs (by omega) hk hRC hRM hI hend
      by_cases t11 : x = 11
      · subst t11
        refine pm_tableIn (off := 468) (tgt := 501) dL_law_33 (by decide) (by decide) rfl (by decide) ?_
        exact law_at hs (by omega) hk hRC hRM hI hend
      by_cases t12 : x = 12
      · subst t12
        refine pm_tableIn (off := 511) (tgt := 544) dL_law_33 (by decide) (by decide) rfl (by decide) ?_
        exact law_state hs (by omega) hk hRC hRM hI hend
      by_cases t13 : x = 13
      · subst t13
        refine pm_tableIn (off := 544) (tgt := 577) dL_law_33 (by decide) (by decide) rfl (by decide) ?_
        exact law_last hs (by omega) hk hRC hRM hI hend
      by_cases t14 : x = 14
      · subst t14
        refine pm_tableIn (off := 577) (tgt := 610) dL_law_33 (by decide) (by decide) rfl (by decide) ?_
        exact law_when hs (by omega) hk hRC hRM hI hend
      by_cases t15 : x = 15
      · subst t15
        refine pm_tableIn (off := 630) (tgt := 663) dL_law_33 (by decide) (by decide) rfl (by decide) ?_
        exact law_changed hs (by omega) hk hRC hRM hI hend
      by_cases t16 : x = 16
      · subst t16
        refine pm_tableIn (off := 663) (tgt := 696) dL_law_33 (by decide) (by decide) rfl (by decide) ?_
        exact law_watched hs (by omega) hk hRC hRM hI hend
      by_cases t17 : x = 17
      · subst t17
        refine pm_tableIn (off := 686) (tgt := 719) dL_law_33 (by decide) (by decide) rfl (by decide) ?_
        exact law_rests hs (by omega) hk hRC hRM hI hend
      by_cases t18 : x = 18
      · subst t18
        refine pm_tableIn (off := 729) (tgt := 762) dL_law_33 (by decide) (by decide) rfl (by decide) ?_
        exact law_hangs hs (by omega) hk hRC hRM hI hend
      by_cases t19 : x = 19
      · subst t19
        refine pm_tableIn (off := 772) (tgt := 805) dL_law_33 (by decide) (by decide) rfl (by decide) ?_
        exact law_history hs (by omega) hk hRC hRM hI hend
      by_cases t20 : x = 20
      · subst t20
        refine pm_tableIn (off := 815) (tgt := 848) dL_law_33 (by decide) (by decide) rfl (by decide) ?_
        exact law_done hs (by omega) hk hRC hRM hI hend
      by_cases t21 : x = 21
      · subst t21
        refine pm_tableIn (off := 848) (tgt := 881) dL_law_33 (by decide) (by decide) rfl (by decide) ?_
        exact law_call hs (by omega) hk hRC hRM hI hend
      by_cases t22 : x = 22
      · subst t22
        refine pm_tableIn (off := 881) (tgt := 914) dL_law_33 (by decide) (by decide) rfl (by decide) ?_
        exact law_log hs (by omega) hk hRC hRM hI hend
      by_cases t23 : x = 23
      · subst t23
        refine pm_tableIn (off := 914) (tgt := 947) dL_law_33 (by decide) (by decide) rfl (by decide) ?_
        exact law_held hs (by omega) hk hRC hRM hI hend
      by_cases t24 : x = 24
      · subst t24
        refine pm_tableIn (off := 947) (tgt := 980) dL_law_33 (by decide) (by decide) rfl (by decide) ?_
        exact law_would hs (by omega) hk hRC hRM hI hend
      by_cases t25 : x = 25
      · subst t25
        refine pm_tableIn (off := 990) (tgt := 1023) dL_law_33 (by decide) (by decide) rfl (by decide) ?_
        exact law_gap hs (by omega) hk hRC hRM hI hend
      by_cases t26 : x = 26
      · subst t26
        refine pm_tableIn (off := 1033) (tgt := 1066) dL_law_33 (by decide) (by decide) rfl (by decide) ?_
        exact law_sparing hs (by omega) hk hRC hRM hI hend
      by_cases t27 : x = 27
      · subst t27
        refine pm_tableIn (off := 1076) (tgt := 1109) dL_law_33 (by decide) (by decide) rfl (by decide) ?_
        exact law_align hs (by omega) hk hRC hRM hI hend
      by_cases t28 : x = 28
      · subst t28
        refine pm_tableIn (off := 1109) (tgt := 1142) dL_law_33 (by decide) (by decide) rfl (by decide) ?_
        exact law_pair hs (by omega) hk hRC hRM hI hend
      by_cases t29 : x = 29
      · subst t29
        refine pm_tableIn (off := 1162) (tgt := 1195) dL_law_33 (by decide) (by decide) rfl (by decide) ?_
        exact law_parts hs (by omega) hk hRC hRM hI hend
      by_cases t30 : x = 30
      · subst t30
        refine pm_tableIn (off := 1195) (tgt := 1228) dL_law_33 (by decide) (by decide) rfl (by decide) ?_
        exact law_look hs rfl (by omega) hk hRC hRM hI hend
      refine pm_tableOut (tgt := 1251) dL_law_33 (by have h0 := lv_neT t0 (show (0 : Int32).toInt = 0 from by decide); have h1 := lv_neT t1 (show (1 : Int32).toInt = 1 from by decide); have h2 := lv_neT t2 (show (2 : Int32).toInt = 2 from by decide); have h3 := lv_neT t3 (show (3 : Int32).toInt = 3 from by decide); have h4 := lv_neT t4 (show (4 : Int32).toInt = 4 from by decide); have h5 := lv_neT t5 (show (5 : Int32).toInt = 5 from by decide); have h6 := lv_neT t6 (show (6 : Int32).toInt = 6 from by decide); have h7 := lv_neT t7 (show (7 : Int32).toInt = 7 from by decide); have h8 := lv_neT t8 (show (8 : Int32).toInt = 8 from by decide); have h9 := lv_neT t9 (show (9 : Int32).toInt = 9 from by decide); have h10 := lv_neT t10 (show (10 : Int32).toInt = 10 from by decide); have h11 := lv_neT t11 (show (11 : Int32).toInt = 11 from by decide); have h12 := lv_neT t12 (show (12 : Int32).toInt = 12 from by decide); have h13 := lv_neT t13 (show (13 : Int32).toInt = 13 from by decide); have h14 := lv_neT t14 (show (14 : Int32).toInt = 14 from by decide); have h15 := lv_neT t15 (show (15 : Int32).toInt = 15 from by decide); have h16 := lv_neT t16 (show (16 : Int32).toInt = 16 from by decide); have h17 := lv_neT t17 (show (17 : Int32).toInt = 17 from by decide); have h18 := lv_neT t18 (show (18 : Int32).toInt = 18 from by decide); have h19 := lv_neT t19 (show (19 : Int32).toInt = 19 from by decide); have h20 := lv_neT t20 (show (20 : Int32).toInt = 20 from by decide); have h21 := lv_neT t21 (show (21 : Int32).toInt = 21 from by decide); have h22 := lv_neT t22 (show (22 : Int32).toInt = 22 from by decide); have h23 := lv_neT t23 (show (23 : Int32).toInt = 23 from by decide); have h24 := lv_neT t24 (show (24 : Int32).toInt = 24 from by decide); have h25 := lv_neT t25 (show (25 : Int32).toInt = 25 from by decide); have h26 := lv_neT t26 (show (26 : Int32).toInt = 26 from by decide); have h27 := lv_neT t27 (show (27 : Int32).toInt = 27 from by decide); have h28 := lv_neT t28 (show (28 : Int32).toInt = 28 from by decide); have h29 := lv_neT t29 (show (29 : Int32).toInt = 29 from by decide); have h30 := lv_neT t30 (show (30 : Int32).toInt = 30 from by decide); omega) (by decide) ?_
      exact hend uc um w (hskip k uc um hk hI) hRC hRM
set_option maxHeartbeats 4000000 in
set_option maxRecDepth 100000 in
theorem law_entry {F L : Nat} {xs : Nat → Int32} (I : Nat → rg_U → rg_U → Prop) (h0 : I 0 uL_RunsBack uL_RunsBackModel) (hs : ∀ k, 6 * k + 6 ≤ L → LawSteps F cmp_L (I k) (I (k + 1))) (hskip : ∀ k uc um, 6 * k + 6 ≤ L → I k uc um → I (k + 1) uc um) (hL : L < 2 ^ 29) (w0 : Nat → va_E) : pm_X gs_L (ro_L L xs) M_L_law 13 600000 7302250 0 0 0 [some (.ref 2000000), none, none, none] [] 0 w0 (fun r _ _ => r = some (.int 1)) := by
  refine rg_mkT (M := M_L_law) (Mc := M_X9_init) (dc := 3) (mcc := 286) (msc := 289106) (st := []) (size := 287) (fs := [.null, .null, .null, .null, .null, .null, .int 0, .null, .int 0, .int 0, .int 0, .int 0, .int 0, .int 0]) (t0 := [1, 1, 1, 1, 1, 1, 0, 1, 0, 0, 0, 0, 0, 0]) (shL := shL_RunsBack) (uL := uL_RunsBack) dL_law_0 dL_law_3 dL_law_4 cl_X9 nw_L_7.1 nw_L_7.2.1 nw_L_7.2.2 (fun j hj => by match j, hj with | 0, _ => rfl | 1, _ => rfl | 2, _ => rfl | 3, _ => rfl | 4, _ => rfl | 5, _ => rfl | 6, _ => rfl | 7, _ => rfl | 8, _ => rfl | 9, _ => rfl | 10, _ => rfl | 11, _ => rfl | 12, _ => rfl | 13, _ => rfl | j + 14, hj => omega) rfl ml_L_9 (by decide) (Nat.le_of_ble_eq_true rfl) (Nat.le_of_ble_eq_true rfl) (Nat.le_of_ble_eq_true rfl) (by omega) rfl rfl (fun w1 h1 => ki_X9_init (by omega) h1) (fun w1 h1 q1 => ?_)
  refine pm_astore_n dL_law_7 (by decide) rfl rfl ?_
  refine rg_mkT (M := M_L_law) (Mc := M_X10_init) (dc := 1) (mcc := 37) (msc := 54787) (st := []) (size := 38) (fs := [.null, .null, .null, .null, .int 0, .int 0, .null, .null, .null, .null, .null, .null, .null, .null, .null, .null, .null, .null, .null, .null, .null, .null, .null, .null, .null, .null, .null, .null, .null, .int 0, .int 0, .null, .null, .int 0, .int 0, .int 0, .null, .int 0, .int 0, .int 0, .null, .int 0, .int 0, .null, .null, .null, .null, .int 0, .int 0, .int 0, .int 0, .null, .null, .int 0, .int 0]) (t0 := [1, 1, 1, 1, 0, 0, 1, 1, 1, 1, 1, 1, 1, 1, 1, 1, 1, 1, 1, 1, 1, 1, 1, 1, 1, 1, 1, 1, 1, 0, 0, 1, 1, 0, 0, 0, 1, 0, 0, 0, 1, 0, 0, 1, 1, 1, 1, 0, 0, 0, 0, 1, 1, 0, 0]) (shL := shL_RunsBackModel) (uL := uL_RunsBackModel) dL_law_8 dL_law_11 dL_law_12 cl_X10 nw_L_10.1 nw_L_10.2.1 nw_L_10.2.2 (fun j hj => by match j, hj with | 0, _ => rfl | 1, _ => rfl | 2, _ => rfl | 3, _ => rfl | 4, _ => rfl | 5, _ => rfl | 6, _ => rfl | 7, _ => rfl | 8, _ => rfl | 9, _ => rfl | 10, _ => rfl | 11, _ => rfl | 12, _ => rfl | 13, _ => rfl | 14, _ => rfl | 15, _ => rfl | 16, _ => rfl | 17, _ => rfl | 18, _ => rfl | 19, _ => rfl | 20, _ => rfl | 21, _ => rfl | 22, _ => rfl | 23, _ => rfl | 24, _ => rfl | 25, _ => rfl | 26, _ => rfl | 27, _ => rfl | 28, _ => rfl | 29, _ => rfl | 30, _ => rfl | 31, _ => rfl | 32, _ => rfl | 33, _ => rfl | 34, _ => rfl | 35, _ => rfl | 36, _ => rfl | 37, _ => rfl | 38, _ => rfl | 39, _ => rfl | 40, _ => rfl | 41, _ => rfl | 42, _ => rfl | 43, _ => rfl | 44, _ => rfl | 45, _ => rfl | 46, _ => rfl | 47, _ => rfl | 48, _ => rfl | 49, _ => rfl | 50, _ => rfl | 51, _ => rfl | 52, _ => rfl | 53, _ => rfl | 54, _ => rfl | j + 55, hj => omega) rfl ml_L_12 (by decide) (Nat.le_of_ble_eq_true rfl) (Nat.le_of_ble_eq_true rfl) (Nat.le_of_ble_eq_true rfl) (by omega) rfl rfl (fun w1 h1 => ki_X10_init (by omega) h1) (fun w2 h2 q2 => ?_)
  refine pm_astore_n dL_law_15 (by decide) rfl rfl ?_
  refine pm_iconst (v := 0) dL_law_16 (by decide) ?_
  refine pm_istore_n dL_law_17 (by decide) rfl rfl ?_
  have hRM : rg shM 287 uL_RunsBackModel 325 w2 := h2
  have hRC : rg shC 0 uL_RunsBack 325 w2 := by
    rw [shC_eq] at h1
    exact rg_keep h1 (by decide) (fun j hj => q2 (0 + j) (by have : j < 287 := hj; omega))
  have h := law_loop (xs := xs) I hs hskip hL (L + 1) 0 uL_RunsBack uL_RunsBackModel w2 (by omega) (by omega) h0 hRC hRM
  exact h
