theorem dX10_use_0 : decode cX10_use 0 = .ok (.iload_n 1, 1) := by decide +kernel
theorem dX10_use_1 : decode cX10_use 1 = .ok (.iconst (-1), 1) := by decide +kernel
theorem dX10_use_2 : decode cX10_use 2 = .ok (.if_icmp .eq 19, 3) := by decide +kernel
theorem dX10_use_5 : decode cX10_use 5 = .ok (.iload_n 1, 1) := by decide +kernel
theorem dX10_use_6 : decode cX10_use 6 = .ok (.iconst 0, 1) := by decide +kernel
theorem dX10_use_7 : decode cX10_use 7 = .ok (.aload_n 0, 1) := by decide +kernel
theorem dX10_use_8 : decode cX10_use 8 = .ok (.getfield 295, 3) := by decide +kernel
theorem dX10_use_11 : decode cX10_use 11 = .ok (.iconst 1, 1) := by decide +kernel
theorem dX10_use_12 : decode cX10_use 12 = .ok (.isub, 1) := by decide +kernel
theorem dX10_use_13 : decode cX10_use 13 = .ok (.invokestatic 138, 3) := by decide +kernel
theorem dX10_use_16 : decode cX10_use 16 = .ok (.ifCond .ne 5, 3) := by decide +kernel
theorem dX10_use_19 : decode cX10_use 19 = .ok (.iconst 0, 1) := by decide +kernel
theorem dX10_use_20 : decode cX10_use 20 = .ok (.ireturn, 1) := by decide +kernel
theorem dX10_use_21 : decode cX10_use 21 = .ok (.aload_n 0, 1) := by decide +kernel
theorem dX10_use_22 : decode cX10_use 22 = .ok (.iload_n 1, 1) := by decide +kernel
theorem dX10_use_23 : decode cX10_use 23 = .ok (.putfield 99, 3) := by decide +kernel
theorem dX10_use_26 : decode cX10_use 26 = .ok (.iconst 1, 1) := by decide +kernel
theorem dX10_use_27 : decode cX10_use 27 = .ok (.ireturn, 1) := by decide +kernel
theorem dX10_watch_0 : decode cX10_watch 0 = .ok (.iload_n 1, 1) := by decide +kernel
theorem dX10_watch_1 : decode cX10_watch 1 = .ok (.invokestatic 169, 3) := by decide +kernel
theorem dX10_watch_4 : decode cX10_watch 4 = .ok (.ifCond .eq 13, 3) := by decide +kernel
theorem dX10_watch_7 : decode cX10_watch 7 = .ok (.aload_n 0, 1) := by decide +kernel
theorem dX10_watch_8 : decode cX10_watch 8 = .ok (.getfield 111, 3) := by decide +kernel
theorem dX10_watch_11 : decode cX10_watch 11 = .ok (.iload_n 1, 1) := by decide +kernel
theorem dX10_watch_12 : decode cX10_watch 12 = .ok (.baload, 1) := by decide +kernel
theorem dX10_watch_13 : decode cX10_watch 13 = .ok (.iload_n 2, 1) := by decide +kernel
theorem dX10_watch_14 : decode cX10_watch 14 = .ok (.if_icmp .ne 5, 3) := by decide +kernel
theorem dX10_watch_17 : decode cX10_watch 17 = .ok (.iconst 0, 1) := by decide +kernel
theorem dX10_watch_18 : decode cX10_watch 18 = .ok (.ireturn, 1) := by decide +kernel
theorem dX10_watch_19 : decode cX10_watch 19 = .ok (.aload_n 0, 1) := by decide +kernel
theorem dX10_watch_20 : decode cX10_watch 20 = .ok (.getfield 111, 3) := by decide +kernel
theorem dX10_watch_23 : decode cX10_watch 23 = .ok (.iload_n 1, 1) := by decide +kernel
theorem dX10_watch_24 : decode cX10_watch 24 = .ok (.iload_n 2, 1) := by decide +kernel
theorem dX10_watch_25 : decode cX10_watch 25 = .ok (.bastore, 1) := by decide +kernel
theorem dX10_watch_26 : decode cX10_watch 26 = .ok (.iconst 1, 1) := by decide +kernel
theorem dX10_watch_27 : decode cX10_watch 27 = .ok (.ireturn, 1) := by decide +kernel
def mr_watch (u : rg_U) (p q : Int32) : Int32 := if md_isPlace p = 0 then 0 else if u.2.1 30 p.toNatClampNeg = q then 0 else 1
def mu_watch (u : rg_U) (p q : Int32) : rg_U := if md_isPlace p = 0 ∨ u.2.1 30 p.toNatClampNeg = q then u else rg_R u 30 p.toNatClampNeg (vp_nar .boolean q)
set_option maxHeartbeats 4000000 in
set_option maxRecDepth 100000 in
theorem k_X10_watch {gs : List String} {ro : pm_RO} {n : Nat} {w : Nat → va_E} {b : Nat} {u : rg_U} (hR : rg shM b u n w) (p q : Int32) : pm_Met gs ro M_X10_watch 2 0 0 [.ref (b + 0), .int p, .int q] n w (rg_post shM b n w (some (.int (mr_watch u p q))) (mu_watch u p q)) := by
  refine pm_ofX in_X10_watch (Nat.le_of_ble_eq_true rfl) rfl (L := [some (.ref (b + 0)), some (.int p), some (.int q)]) rfl ?_
  refine pm_iload_n dX10_watch_0 rfl ?_
  refine pm_callS (M := M_X10_watch) (Mc := M_X10_isPlace) (roc := ro) (dc := 1) (mcc := 0) (msc := 0) (As := [.int p]) (st := []) dX10_watch_1 ml_X10_169 (fun _ _ h => h) (by decide) (Nat.le_refl _) (Nat.le_refl _) (Nat.le_of_ble_eq_true rfl) rfl (k_X10_isPlace _ _ _) (fun r n1 w1 hq _ => ?_)
  obtain ⟨e1, e2, e3⟩ := hq
  rw [e1, e2, e3]
  clear e1 e2 e3
  dsimp only [Option.toList, List.cons_append, List.nil_append]
  refine pm_if_eq (tgt := 17) dX10_watch_4 (by decide) (fun c_4 => ?_) (fun c_4 => ?_)
  · refine pm_iconst (v := 0) dX10_watch_17 (by decide) ?_
    refine pm_zret dX10_watch_18 rfl (Or.inl rfl) (Nat.zero_le _) (Nat.zero_le _) ?_
    refine ⟨?_, rfl, ?_, rg_k0⟩
    · simp [mr_watch, c_4]
    · rw [show mu_watch u p q = u from by simp [mu_watch, c_4]]; exact hR
  · refine pm_aload_n dX10_watch_7 rfl ?_
    refine rg_gr (j := 0) (o := 30) hR dX10_watch_8 fl_X10_111 rfl rfl ?_
    refine pm_iload_n dX10_watch_11 rfl ?_
    refine rg_zl (j := 30) hR dX10_watch_12 rfl (md_in (hi := 39) c_4 (by decide)) ?_
    refine pm_iload_n dX10_watch_13 rfl ?_
    refine pm_icmp_ne (tgt := 19) dX10_watch_14 (by decide) (fun c_14 => ?_) (fun c_14 => ?_)
    · refine pm_aload_n dX10_watch_19 rfl ?_
      refine rg_gr (j := 0) (o := 30) hR dX10_watch_20 fl_X10_111 rfl rfl ?_
      refine pm_iload_n dX10_watch_23 rfl ?_
      refine pm_iload_n dX10_watch_24 rfl ?_
      refine rg_zs (j := 30) hR dX10_watch_25 rfl (md_in (hi := 39) c_4 (by decide)) (fun w1 hR2 hk3 => ?_)
      refine pm_iconst (v := 1) dX10_watch_26 (by decide) ?_
      refine pm_zret dX10_watch_27 rfl (Or.inr rfl) (Nat.zero_le _) (Nat.zero_le _) ?_
      refine ⟨?_, rfl, ?_, hk3⟩
      · simp [mr_watch, c_4, c_14]
      · rw [show mu_watch u p q = (rg_R u 30 (p).toNatClampNeg (vp_nar .boolean q)) from by simp [mu_watch, c_4, c_14]]; exact hR2
    · refine pm_iconst (v := 0) dX10_watch_17 (by decide) ?_
      refine pm_zret dX10_watch_18 rfl (Or.inl rfl) (Nat.zero_le _) (Nat.zero_le _) ?_
      refine ⟨?_, rfl, ?_, rg_k0⟩
      · simp [mr_watch, c_4, c_14]
      · rw [show mu_watch u p q = u from by simp [mu_watch, c_4, c_14]]; exact hR
def mr_use (u : rg_U) (v : Int32) : Int32 := if ¬ v = -1 ∧ md_isIn v 0 (u.1 29 - 1) = 0 then 0 else 1
def mu_use (u : rg_U) (v : Int32) : rg_U := if ¬ v = -1 ∧ md_isIn v 0 (u.1 29 - 1) = 0 then u else rg_F u 30 v
set_option maxHeartbeats 4000000 in
set_option maxRecDepth 100000 in
theorem k_X10_use {gs : List String} {ro : pm_RO} {n : Nat} {w : Nat → va_E} {b : Nat} {u : rg_U} (hR : rg shM b u n w) (v : Int32) : pm_Met gs ro M_X10_use 1 0 0 [.ref (b + 0), .int v] n w (rg_post shM b n w (some (.int (mr_use u v))) (mu_use u v)) := by
  refine pm_ofX in_X10_use (Nat.le_of_ble_eq_true rfl) rfl (L := [some (.ref (b + 0)), some (.int v)]) rfl ?_
  refine pm_iload_n dX10_use_0 rfl ?_
  refine pm_iconst (v := (-1)) dX10_use_1 (by decide) ?_
  refine pm_icmp_eq (tgt := 21) dX10_use_2 (by decide) (fun c_2 => ?_) (fun c_2 => ?_)
  · refine pm_aload_n dX10_use_21 rfl ?_
    refine pm_iload_n dX10_use_22 rfl ?_
    refine rg_pi (j := 0) hR dX10_use_23 fl_X10_99 rfl rfl (fun w1 hR2 hk3 => ?_)
    refine pm_iconst (v := 1) dX10_use_26 (by decide) ?_
    refine pm_zret dX10_use_27 rfl (Or.inr rfl) (Nat.zero_le _) (Nat.zero_le _) ?_
    refine ⟨?_, rfl, ?_, hk3⟩
    · simp [mr_use, c_2]
    · rw [show mu_use u v = (rg_F u 30 v) from by simp [mu_use, c_2]]; exact hR2
  · refine pm_iload_n dX10_use_5 rfl ?_
    refine pm_iconst (v := 0) dX10_use_6 (by decide) ?_
    refine pm_aload_n dX10_use_7 rfl ?_
    refine rg_gi (j := 0) hR dX10_use_8 fl_X10_295 rfl rfl ?_
    refine pm_iconst (v := 1) dX10_use_11 (by decide) ?_
    refine pm_isub dX10_use_12 ?_
    refine pm_callS (M := M_X10_use) (Mc := M_X10_isIn) (roc := ro) (dc := 0) (mcc := 0) (msc := 0) (As := [.int v, .int 0, .int ((u.1 29) - 1)]) (st := []) dX10_use_13 ml_X10_138 (fun _ _ h => h) (by decide) (Nat.le_refl _) (Nat.le_refl _) (Nat.le_of_ble_eq_true rfl) rfl (k_X10_isIn _ _ _ _ _) (fun r n1 w1 hq _ => ?_)
    obtain ⟨e1, e2, e3⟩ := hq
    rw [e1, e2, e3]
    clear e1 e2 e3
    dsimp only [Option.toList, List.cons_append, List.nil_append]
    refine pm_if_ne (tgt := 21) dX10_use_16 (by decide) (fun c_16 => ?_) (fun c_16 => ?_)
    · refine pm_aload_n dX10_use_21 rfl ?_
      refine pm_iload_n dX10_use_22 rfl ?_
      refine rg_pi (j := 0) hR dX10_use_23 fl_X10_99 rfl rfl (fun w4 hR5 hk6 => ?_)
      refine pm_iconst (v := 1) dX10_use_26 (by decide) ?_
      refine pm_zret dX10_use_27 rfl (Or.inr rfl) (Nat.zero_le _) (Nat.zero_le _) ?_
      refine ⟨?_, rfl, ?_, hk6⟩
      · simp [mr_use, c_2, c_16]
      · rw [show mu_use u v = (rg_F u 30 v) from by simp [mu_use, c_2, c_16]]; exact hR5
    · refine pm_iconst (v := 0) dX10_use_19 (by decide) ?_
      refine pm_zret dX10_use_20 rfl (Or.inl rfl) (Nat.zero_le _) (Nat.zero_le _) ?_
      refine ⟨?_, rfl, ?_, rg_k0⟩
      · simp [mr_use, c_2, c_16]
      · rw [show mu_use u v = u from by simp [mu_use, c_2, c_16]]; exact hR
