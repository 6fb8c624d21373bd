theorem dX10_look_0 : decode cX10_look 0 = .ok (.iload_n 1, 1) := by decide +kernel
theorem dX10_look_1 : decode cX10_look 1 = .ok (.iconst 0, 1) := by decide +kernel
theorem dX10_look_2 : decode cX10_look 2 = .ok (.bipush 6, 2) := by decide +kernel
theorem dX10_look_4 : decode cX10_look 4 = .ok (.invokestatic 138, 3) := by decide +kernel
theorem dX10_look_7 : decode cX10_look 7 = .ok (.ifCond .eq 29, 3) := by decide +kernel
theorem dX10_look_10 : decode cX10_look 10 = .ok (.aload_n 0, 1) := by decide +kernel
theorem dX10_look_11 : decode cX10_look 11 = .ok (.getfield 29, 3) := by decide +kernel
theorem dX10_look_14 : decode cX10_look 14 = .ok (.aload_n 0, 1) := by decide +kernel
theorem dX10_look_15 : decode cX10_look 15 = .ok (.invokevirtual 289, 3) := by decide +kernel
theorem dX10_look_18 : decode cX10_look 18 = .ok (.baload, 1) := by decide +kernel
theorem dX10_look_19 : decode cX10_look 19 = .ok (.ifCond .eq 15, 3) := by decide +kernel
theorem dX10_look_34 : decode cX10_look 34 = .ok (.iconst 0, 1) := by decide +kernel
theorem dX10_look_35 : decode cX10_look 35 = .ok (.ireturn, 1) := by decide +kernel
theorem dX10_look_36 : decode cX10_look 36 = .ok (.iload_n 1, 1) := by decide +kernel
theorem dX10_look_37 : decode cX10_look 37 = .ok (.tableswitch 76 7 12 #[39, 44, 49, 54, 59, 67], 39) := by decide +kernel
theorem dX10_look_76 : decode cX10_look 76 = .ok (.aload_n 0, 1) := by decide +kernel
theorem dX10_look_77 : decode cX10_look 77 = .ok (.getfield 295, 3) := by decide +kernel
theorem dX10_look_80 : decode cX10_look 80 = .ok (.ireturn, 1) := by decide +kernel
theorem dX10_look_81 : decode cX10_look 81 = .ok (.aload_n 0, 1) := by decide +kernel
theorem dX10_look_82 : decode cX10_look 82 = .ok (.getfield 166, 3) := by decide +kernel
theorem dX10_look_85 : decode cX10_look 85 = .ok (.ireturn, 1) := by decide +kernel
theorem dX10_look_86 : decode cX10_look 86 = .ok (.aload_n 0, 1) := by decide +kernel
theorem dX10_look_87 : decode cX10_look 87 = .ok (.getfield 108, 3) := by decide +kernel
theorem dX10_look_90 : decode cX10_look 90 = .ok (.ireturn, 1) := by decide +kernel
theorem dX10_look_91 : decode cX10_look 91 = .ok (.aload_n 0, 1) := by decide +kernel
theorem dX10_look_92 : decode cX10_look 92 = .ok (.getfield 276, 3) := by decide +kernel
theorem dX10_look_95 : decode cX10_look 95 = .ok (.ireturn, 1) := by decide +kernel
theorem dX10_look_96 : decode cX10_look 96 = .ok (.aload_n 0, 1) := by decide +kernel
theorem dX10_look_97 : decode cX10_look 97 = .ok (.iconst 0, 1) := by decide +kernel
theorem dX10_look_98 : decode cX10_look 98 = .ok (.bipush 8, 2) := by decide +kernel
theorem dX10_look_100 : decode cX10_look 100 = .ok (.invokevirtual 383, 3) := by decide +kernel
theorem dX10_look_103 : decode cX10_look 103 = .ok (.ireturn, 1) := by decide +kernel
theorem dX10_look_104 : decode cX10_look 104 = .ok (.aload_n 0, 1) := by decide +kernel
theorem dX10_look_105 : decode cX10_look 105 = .ok (.bipush 8, 2) := by decide +kernel
theorem dX10_look_107 : decode cX10_look 107 = .ok (.bipush 32, 2) := by decide +kernel
theorem dX10_look_109 : decode cX10_look 109 = .ok (.invokevirtual 383, 3) := by decide +kernel
theorem dX10_look_112 : decode cX10_look 112 = .ok (.ireturn, 1) := by decide +kernel
theorem dX10_look_113 : decode cX10_look 113 = .ok (.ldc_w 304, 3) := by decide +kernel
theorem dX10_look_116 : decode cX10_look 116 = .ok (.ireturn, 1) := by decide +kernel
theorem dX10_watchedOf_0 : decode cX10_watchedOf 0 = .ok (.iconst 0, 1) := by decide +kernel
theorem dX10_watchedOf_1 : decode cX10_watchedOf 1 = .ok (.istore_n 3, 1) := by decide +kernel
theorem dX10_watchedOf_2 : decode cX10_watchedOf 2 = .ok (.iconst 0, 1) := by decide +kernel
theorem dX10_watchedOf_3 : decode cX10_watchedOf 3 = .ok (.istore 4, 2) := by decide +kernel
theorem dX10_watchedOf_5 : decode cX10_watchedOf 5 = .ok (.iload 4, 2) := by decide +kernel
theorem dX10_watchedOf_7 : decode cX10_watchedOf 7 = .ok (.iload_n 2, 1) := by decide +kernel
theorem dX10_watchedOf_8 : decode cX10_watchedOf 8 = .ok (.if_icmp .ge 32, 3) := by decide +kernel
theorem dX10_watchedOf_11 : decode cX10_watchedOf 11 = .ok (.iload_n 3, 1) := by decide +kernel
theorem dX10_watchedOf_12 : decode cX10_watchedOf 12 = .ok (.aload_n 0, 1) := by decide +kernel
theorem dX10_watchedOf_13 : decode cX10_watchedOf 13 = .ok (.getfield 111, 3) := by decide +kernel
theorem dX10_watchedOf_16 : decode cX10_watchedOf 16 = .ok (.iload_n 1, 1) := by decide +kernel
theorem dX10_watchedOf_17 : decode cX10_watchedOf 17 = .ok (.iload 4, 2) := by decide +kernel
theorem dX10_watchedOf_19 : decode cX10_watchedOf 19 = .ok (.iadd, 1) := by decide +kernel
theorem dX10_watchedOf_20 : decode cX10_watchedOf 20 = .ok (.baload, 1) := by decide +kernel
theorem dX10_watchedOf_21 : decode cX10_watchedOf 21 = .ok (.ifCond .eq 10, 3) := by decide +kernel
theorem dX10_watchedOf_31 : decode cX10_watchedOf 31 = .ok (.iconst 0, 1) := by decide +kernel
theorem dX10_watchedOf_32 : decode cX10_watchedOf 32 = .ok (.ior, 1) := by decide +kernel
theorem dX10_watchedOf_33 : decode cX10_watchedOf 33 = .ok (.istore_n 3, 1) := by decide +kernel
theorem dX10_watchedOf_34 : decode cX10_watchedOf 34 = .ok (.iinc 4 1, 3) := by decide +kernel
theorem dX10_watchedOf_37 : decode cX10_watchedOf 37 = .ok (.goto (-32), 3) := by decide +kernel
theorem dX10_watchedOf_40 : decode cX10_watchedOf 40 = .ok (.iload_n 3, 1) := by decide +kernel
theorem dX10_watchedOf_41 : decode cX10_watchedOf 41 = .ok (.ireturn, 1) := by decide +kernel
set_option maxHeartbeats 4000000 in
set_option maxRecDepth 100000 in
theorem f_X10_watchedOf {gs : List String} {ro : pm_RO} {n : Nat} {w : Nat → va_E} {b : Nat} {u : rg_U} (hR : rg shM b u n w) (hf : frM u) {A B : Nat} (hAB : A + B ≤ 40) : pm_Met gs ro M_X10_watchedOf 0 0 0 [.ref (b + 0), .int (nI A), .int (nI B)] n w (pm_p n w (some (.int 0))) := by
  have hM : B < 2 ^ 31 := by omega
  refine pm_ofX in_X10_watchedOf (Nat.le_of_ble_eq_true rfl) rfl (L := [some (.ref (b + 0)), some (.int (nI A)), some (.int (nI B)), none, none]) rfl ?_
  refine pm_iconst (v := 0) dX10_watchedOf_0 (by decide) ?_
  refine pm_istore_n dX10_watchedOf_1 (by decide) rfl rfl ?_
  refine pm_iconst (v := 0) dX10_watchedOf_2 (by decide) ?_
  refine pm_istore dX10_watchedOf_3 (by decide) rfl rfl ?_
  have LP : ∀ (f k : Nat), k + f = B → pm_X gs ro M_X10_watchedOf 0 0 0 0 0 5 [some (.ref (b + 0)), some (.int (nI A)), some (.int (nI B)), some (.int 0), some (.int (nI k))] [] n w (pm_p n w (some (.int 0))) := by
    intro f
    induction f with
    | zero =>
      intro k hk
      have hk : k = B := hk
      subst hk
      refine pm_iload dX10_watchedOf_5 rfl ?_
      refine pm_iload_n dX10_watchedOf_7 rfl ?_
      refine pm_icmp_ge (tgt := 40) dX10_watchedOf_8 (by decide) (fun c_8 => ?_) (fun c_8 => absurd (nI_le (Nat.le_refl _) hM) c_8)
      refine pm_iload_n dX10_watchedOf_40 rfl ?_
      refine pm_iret dX10_watchedOf_41 rfl (Nat.zero_le _) (Nat.zero_le _) ?_
      exact ⟨rfl, rfl, rfl⟩
    | succ f ih =>
      intro k hk
      have hlt : k < B := by omega
      refine pm_iload dX10_watchedOf_5 rfl ?_
      refine pm_iload_n dX10_watchedOf_7 rfl ?_
      refine pm_icmp_ge (tgt := 40) dX10_watchedOf_8 (by decide) (fun c_8 => absurd c_8 (nI_ge hlt hM)) (fun c_8 => ?_)
      refine pm_iload_n dX10_watchedOf_11 rfl ?_
      refine pm_aload_n dX10_watchedOf_12 rfl ?_
      refine rg_gr (j := 0) (o := 30) hR dX10_watchedOf_13 fl_X10_111 rfl rfl ?_
      refine pm_iload_n dX10_watchedOf_16 rfl ?_
      refine pm_iload dX10_watchedOf_17 rfl ?_
      refine pm_iadd dX10_watchedOf_19 ?_
      refine rg_zl (j := 30) hR dX10_watchedOf_20 rfl (by rw [nI_add]; exact vp_in_nI (by omega) (by decide)) ?_
      refine pm_i (y := 0) (hf.2.2.2.2.2.2.1 _) ?_
      refine pm_if_eq (tgt := 31) dX10_watchedOf_21 (by decide) (fun c_21 => ?_) (fun c_21 => absurd (by decide) c_21)
      refine pm_iconst (v := 0) dX10_watchedOf_31 (by decide) ?_
      refine pm_ior dX10_watchedOf_32 ?_
      refine pm_i (y := 0) (by decide) ?_
      refine pm_istore_n dX10_watchedOf_33 (by decide) rfl rfl ?_
      refine pm_iinc (v := (nI (k + 1))) dX10_watchedOf_34 rfl (nI_1 _) (by decide) rfl rfl ?_
      refine pm_goto (tgt := 5) dX10_watchedOf_37 (by decide) ?_
      exact ih (k + 1) (by omega)
  have LP0 := LP (B) 0 (Nat.zero_add _)
  first | exact LP0 | (rw [nI_0] at LP0; exact LP0)
/-- look, on a fresh object -/
def mr_look0 (v : Int32) : Int32 := if ¬ md_isIn v 0 6 = 0 then 0 else if v = 7 then 0 else if v = 8 then 0 else if v = 9 then 1 else if v = 10 then 0 else if v = 11 then 0 else if v = 12 then 0 else -1000001
set_option maxHeartbeats 4000000 in
set_option maxRecDepth 100000 in
theorem f_X10_look {gs : List String} {ro : pm_RO} {n : Nat} {w : Nat → va_E} {b : Nat} {u : rg_U} (hR : rg shM b u n w) (hf : frM u) (v : Int32) : pm_Met gs ro M_X10_look 2 0 0 [.ref (b + 0), .int v] n w (pm_a b shM.length n w (some (.int (mr_look0 v)))) := by
  refine pm_ofX in_X10_look (Nat.le_of_ble_eq_true rfl) rfl (L := [some (.ref (b + 0)), some (.int v)]) rfl ?_
  refine pm_iload_n dX10_look_0 rfl ?_
  refine pm_iconst (v := 0) dX10_look_1 (by decide) ?_
  refine pm_bipush (v := 6) dX10_look_2 (by decide) ?_
  refine pm_callS (M := M_X10_look) (Mc := M_X10_isIn) (roc := ro) (dc := 0) (mcc := 0) (msc := 0) (As := [.int v, .int 0, .int 6]) (st := []) dX10_look_4 ml_X10_138 (fun _ _ h => h) (by decide) (Nat.le_refl _) (Nat.le_refl _) (Nat.le_of_ble_eq_true rfl) rfl (k_X10_isIn _ _ _ _ _) (fun r n1 w1 hq _ => ?_)
  obtain ⟨e1, e2, e3⟩ := hq
  rw [e1, e2, e3]
  clear e1 e2 e3
  dsimp only [Option.toList, List.cons_append, List.nil_append]
  refine pm_if_eq (tgt := 36) dX10_look_7 (by decide) (fun c_7 => ?_) (fun c_7 => ?_)
  · refine pm_iload_n dX10_look_36 rfl ?_
    by_cases t_37_7 : v = 7
    · subst t_37_7
      refine pm_tableIn (off := 39) (tgt := 76) dX10_look_37 (by decide) (by decide) rfl (by decide) ?_
      refine pm_aload_n dX10_look_76 rfl ?_
      refine rg_gi (j := 0) hR dX10_look_77 fl_X10_295 rfl rfl ?_
      refine pm_i (y := 0) (by exact hf.2.1) ?_
      refine pm_iret dX10_look_80 rfl (Nat.zero_le _) (Nat.zero_le _) ?_
      refine ⟨?_, rfl, rg_k0⟩
      first | decide | simp [mr_look0, c_7]
    by_cases t_37_8 : v = 8
    · subst t_37_8
      refine pm_tableIn (off := 44) (tgt := 81) dX10_look_37 (by decide) (by decide) rfl (by decide) ?_
      refine pm_aload_n dX10_look_81 rfl ?_
      refine rg_gi (j := 0) hR dX10_look_82 fl_X10_166 rfl rfl ?_
      refine pm_i (y := 0) (by exact hf.2.2.2.1) ?_
      refine pm_iret dX10_look_85 rfl (Nat.zero_le _) (Nat.zero_le _) ?_
      refine ⟨?_, rfl, rg_k0⟩
      first | decide | simp [mr_look0, c_7]
    by_cases t_37_9 : v = 9
    · subst t_37_9
      refine pm_tableIn (off := 49) (tgt := 86) dX10_look_37 (by decide) (by decide) rfl (by decide) ?_
      refine pm_aload_n dX10_look_86 rfl ?_
      refine rg_gi (j := 0) hR dX10_look_87 fl_X10_108 rfl rfl ?_
      refine pm_i (y := 1) (by exact hf.2.2.2.2.1) ?_
      refine pm_iret dX10_look_90 rfl (Nat.zero_le _) (Nat.zero_le _) ?_
      refine ⟨?_, rfl, rg_k0⟩
      first | decide | simp [mr_look0, c_7]
    by_cases t_37_10 : v = 10
    · subst t_37_10
      refine pm_tableIn (off := 54) (tgt := 91) dX10_look_37 (by decide) (by decide) rfl (by decide) ?_
      refine pm_aload_n dX10_look_91 rfl ?_
      refine rg_gi (j := 0) hR dX10_look_92 fl_X10_276 rfl rfl ?_
      refine pm_i (y := 0) (by exact hf.2.2.2.2.2.1) ?_
      refine pm_iret dX10_look_95 rfl (Nat.zero_le _) (Nat.zero_le _) ?_
      refine ⟨?_, rfl, rg_k0⟩
      first | decide | simp [mr_look0, c_7]
    by_cases t_37_11 : v = 11
    · subst t_37_11
      refine pm_tableIn (off := 59) (tgt := 96) dX10_look_37 (by decide) (by decide) rfl (by decide) ?_
      refine pm_aload_n dX10_look_96 rfl ?_
      refine pm_iconst (v := 0) dX10_look_97 (by decide) ?_
      refine pm_bipush (v := 8) dX10_look_98 (by decide) ?_
      refine rg_cV (M := M_X10_look) (Mc := M_X10_watchedOf) (j := 0) (dc := 0) (As := [.int 0, .int 8]) (st := []) hR dX10_look_100 ml_X10_383 ⟨TX10, 55, rfl⟩ rfl (by decide) (Nat.le_refl _) (Nat.le_refl _) (Nat.le_of_ble_eq_true rfl) rfl (f_X10_watchedOf hR hf (A := 0) (B := 8) (by decide)) (fun r n1 w1 hq => ?_)
      obtain ⟨e1, e2, e3⟩ := hq
      rw [e1, e2, e3]
      clear e1 e2 e3
      dsimp only [Option.toList, List.cons_append, List.nil_append]
      refine pm_iret dX10_look_103 rfl (Nat.zero_le _) (Nat.zero_le _) ?_
      refine ⟨?_, rfl, rg_k0⟩
      first | decide | simp [mr_look0, c_7]
    by_cases t_37_12 : v = 12
    · subst t_37_12
      refine pm_tableIn (off := 67) (tgt := 104) dX10_look_37 (by decide) (by decide) rfl (by decide) ?_
      refine pm_aload_n dX10_look_104 rfl ?_
      refine pm_bipush (v := 8) dX10_look_105 (by decide) ?_
      refine pm_bipush (v := 32) dX10_look_107 (by decide) ?_
      refine rg_cV (M := M_X10_look) (Mc := M_X10_watchedOf) (j := 0) (dc := 0) (As := [.int 8, .int 32]) (st := []) hR dX10_look_109 ml_X10_383 ⟨TX10, 55, rfl⟩ rfl (by decide) (Nat.le_refl _) (Nat.le_refl _) (Nat.le_of_ble_eq_true rfl) rfl (f_X10_watchedOf hR hf (A := 8) (B := 32) (by decide)) (fun r n1 w1 hq => ?_)
      obtain ⟨e1, e2, e3⟩ := hq
      rw [e1, e2, e3]
      clear e1 e2 e3
      dsimp only [Option.toList, List.cons_append, List.nil_append]
      refine pm_iret dX10_look_112 rfl (Nat.zero_le _) (Nat.zero_le _) ?_
      refine ⟨?_, rfl, rg_k0⟩
      first | decide | simp [mr_look0, c_7]
    refine pm_tableOut (tgt := 113) dX10_look_37 (by have h0 := lv_neT t_37_7 (show (7 : Int32).toInt = 7 from by decide); have h1 := lv_neT t_37_8 (show (8 : Int32).toInt = 8 from by decide); have h2 := lv_neT t_37_9 (show (9 : Int32).toInt = 9 from by decide); have h3 := lv_neT t_37_10 (show (10 : Int32).toInt = 10 from by decide); have h4 := lv_neT t_37_11 (show (11 : Int32).toInt = 11 from by decide); have h5 := lv_neT t_37_12 (show (12 : Int32).toInt = 12 from by decide); omega) (by decide) ?_
    refine pm_ldcw (v := -1000001) dX10_look_113 kc_X10_304 ?_
    refine pm_iret dX10_look_116 rfl (Nat.zero_le _) (Nat.zero_le _) ?_
    refine ⟨?_, rfl, rg_k0⟩
    first | decide | simp [mr_look0, c_7, t_37_7, t_37_8, t_37_9, t_37_10, t_37_11, t_37_12]
  · refine pm_aload_n dX10_look_10 rfl ?_
    refine rg_gr (j := 0) (o := 5) hR dX10_look_11 fl_X10_29 rfl rfl ?_
    refine pm_aload_n dX10_look_14 rfl ?_
    refine rg_cV (M := M_X10_look) (Mc := M_X10_runAsked) (j := 0) (dc := 0) (As := []) (st := [.ref (b + 5)]) hR dX10_look_15 ml_X10_289 ⟨TX10, 55, rfl⟩ rfl (by decide) (Nat.le_refl _) (Nat.le_refl _) (Nat.le_of_ble_eq_true rfl) rfl (f_X10_runAsked hR (by first | exact hf | exact frM_lat hf)) (fun r n1 w1 hq => ?_)
    obtain ⟨e1, e2, e3⟩ := hq
    rw [e1, e2, e3]
    clear e1 e2 e3
    dsimp only [Option.toList, List.cons_append, List.nil_append]
    refine rg_zl (j := 5) hR dX10_look_18 rfl (by unfold vp_in; decide) ?_
    refine pm_i (y := 0) (by exact hf.1) ?_
    refine pm_if_eq (tgt := 34) dX10_look_19 (by decide) (fun c_19 => ?_) (fun c_19 => absurd (by decide) c_19)
    refine pm_iconst (v := 0) dX10_look_34 (by decide) ?_
    refine pm_iret dX10_look_35 rfl (Nat.zero_le _) (Nat.zero_le _) ?_
    refine ⟨?_, rfl, rg_k0⟩
    first | decide | simp [mr_look0, c_7]
theorem mb1_k (u : rg_U) (i k : Nat) : (mb1 u k).2.1 1 i = u.2.1 1 i := by
  induction k with
  | zero => rfl
  | succ k ih => exact ih
theorem mn1_0 {u : rg_U} (hf : frM u) : ∀ k, k ≤ 64 → mn1 u k = 0
  | 0, _ => rfl
  | k + 1, h => by
    show mn1 u k + (if (mb1 u (k + 1)).2.1 1 (nI k).toNatClampNeg = -1 then 0 else 1) = 0
    rw [mn1_0 hf k (by omega), mb1_k, nI_clamp (by omega), hf.2.2.2.2.2.2.2 k (by omega), if_pos rfl]
