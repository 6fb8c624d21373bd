theorem dX10_clears_0 : decode cX10_clears 0 = .ok (.iconst 0, 1) := by decide +kernel
theorem dX10_clears_1 : decode cX10_clears 1 = .ok (.istore_n 2, 1) := by decide +kernel
theorem dX10_clears_2 : decode cX10_clears 2 = .ok (.iload_n 2, 1) := by decide +kernel
theorem dX10_clears_3 : decode cX10_clears 3 = .ok (.sipush 134, 3) := by decide +kernel
theorem dX10_clears_6 : decode cX10_clears 6 = .ok (.if_icmp .ge 13, 3) := by decide +kernel
theorem dX10_clears_9 : decode cX10_clears 9 = .ok (.aload_n 1, 1) := by decide +kernel
theorem dX10_clears_10 : decode cX10_clears 10 = .ok (.iload_n 2, 1) := by decide +kernel
theorem dX10_clears_11 : decode cX10_clears 11 = .ok (.iconst 0, 1) := by decide +kernel
theorem dX10_clears_12 : decode cX10_clears 12 = .ok (.iastore, 1) := by decide +kernel
theorem dX10_clears_13 : decode cX10_clears 13 = .ok (.iinc 2 1, 3) := by decide +kernel
theorem dX10_clears_16 : decode cX10_clears 16 = .ok (.goto (-14), 3) := by decide +kernel
theorem dX10_clears_19 : decode cX10_clears 19 = .ok (.return_, 1) := by decide +kernel
def mu_clears (u : rg_U) (j : Nat) : Nat → rg_U
  | 0 => u
  | k + 1 => rg_R (mu_clears u j k) j (nI k).toNatClampNeg 0
set_option maxHeartbeats 4000000 in
set_option maxRecDepth 100000 in
theorem k_X10_clears_live {gs : List String} {ro : pm_RO} {n : Nat} {w : Nat → va_E} {b : Nat} {u : rg_U} (hR : rg shM b u n w)  : pm_Met gs ro M_X10_clears 0 0 0 [.ref (b + 0), .ref (b + 28)] n w (rg_post shM b n w (none) (mu_clears u 28 134)) := by
  refine pm_ofX in_X10_clears (Nat.le_of_ble_eq_true rfl) rfl (L := [some (.ref (b + 0)), some (.ref (b + 28)), none]) rfl ?_
  refine pm_iconst (v := 0) dX10_clears_0 (by decide) ?_
  refine pm_istore_n dX10_clears_1 (by decide) rfl rfl ?_
  have LP : ∀ (f k : Nat) (w1 : Nat → va_E), k + f = 134 → rg shM b (mu_clears u 28 k) n w1 → rg_k b shM.length w w1 → pm_X gs ro M_X10_clears 0 0 0 0 0 2 [some (.ref (b + 0)), some (.ref (b + 28)), some (.int (nI k))] [] n w1 (rg_post shM b n w (none) (mu_clears u 28 134)) := by
    intro f
    induction f with
    | zero =>
      intro k w1 hk hR2 hk3
      have hk : k = 134 := hk
      subst hk
      refine pm_iload_n dX10_clears_2 rfl ?_
      refine pm_sipush (v := 134) dX10_clears_3 (by decide) ?_
      refine pm_icmp_ge (tgt := 19) dX10_clears_6 (by decide) (fun c_6 => ?_) (fun c_6 => absurd (by decide) c_6)
      refine pm_vret dX10_clears_19 rfl (Nat.zero_le _) (Nat.zero_le _) ?_
      refine ⟨?_, rfl, ?_, hk3⟩
      · rfl
      · exact hR2
    | succ f ih =>
      intro k w1 hk hR2 hk3
      have hlt : k < 134 := by omega
      refine pm_iload_n dX10_clears_2 rfl ?_
      refine pm_sipush (v := 134) dX10_clears_3 (by decide) ?_
      refine pm_icmp_ge (tgt := 19) dX10_clears_6 (by decide) (fun c_6 => absurd c_6 (nI_ge (b := 134) hlt (by decide))) (fun c_6 => ?_)
      refine pm_aload_n dX10_clears_9 rfl ?_
      refine pm_iload_n dX10_clears_10 rfl ?_
      refine pm_iconst (v := 0) dX10_clears_11 (by decide) ?_
      refine rg_as (j := 28) hR2 dX10_clears_12 rfl (vp_in_nI hlt (by decide)) (fun w4 hR5 hk6 => ?_)
      have hk7 := rg_kt hk3 hk6
      refine pm_iinc (v := (nI (k + 1))) dX10_clears_13 rfl (nI_1 _) (by decide) rfl rfl ?_
      refine pm_goto (tgt := 2) dX10_clears_16 (by decide) ?_
      exact ih (k + 1) _ (by omega) hR5 hk7
  have LP0 := LP (134) 0 _ (Nat.zero_add _) hR rg_k0
  first | exact LP0 | (rw [nI_0] at LP0; exact LP0)
set_option maxHeartbeats 4000000 in
set_option maxRecDepth 100000 in
theorem k_X10_clears_sim {gs : List String} {ro : pm_RO} {n : Nat} {w : Nat → va_E} {b : Nat} {u : rg_U} (hR : rg shM b u n w)  : pm_Met gs ro M_X10_clears 0 0 0 [.ref (b + 0), .ref (b + 31)] n w (rg_post shM b n w (none) (mu_clears u 31 134)) := by
  refine pm_ofX in_X10_clears (Nat.le_of_ble_eq_true rfl) rfl (L := [some (.ref (b + 0)), some (.ref (b + 31)), none]) rfl ?_
  refine pm_iconst (v := 0) dX10_clears_0 (by decide) ?_
  refine pm_istore_n dX10_clears_1 (by decide) rfl rfl ?_
  have LP : ∀ (f k : Nat) (w1 : Nat → va_E), k + f = 134 → rg shM b (mu_clears u 31 k) n w1 → rg_k b shM.length w w1 → pm_X gs ro M_X10_clears 0 0 0 0 0 2 [some (.ref (b + 0)), some (.ref (b + 31)), some (.int (nI k))] [] n w1 (rg_post shM b n w (none) (mu_clears u 31 134)) := by
    intro f
    induction f with
    | zero =>
      intro k w1 hk hR2 hk3
      have hk : k = 134 := hk
      subst hk
      refine pm_iload_n dX10_clears_2 rfl ?_
      refine pm_sipush (v := 134) dX10_clears_3 (by decide) ?_
      refine pm_icmp_ge (tgt := 19) dX10_clears_6 (by decide) (fun c_6 => ?_) (fun c_6 => absurd (by decide) c_6)
      refine pm_vret dX10_clears_19 rfl (Nat.zero_le _) (Nat.zero_le _) ?_
      refine ⟨?_, rfl, ?_, hk3⟩
      · rfl
      · exact hR2
    | succ f ih =>
      intro k w1 hk hR2 hk3
      have hlt : k < 134 := by omega
      refine pm_iload_n dX10_clears_2 rfl ?_
      refine pm_sipush (v := 134) dX10_clears_3 (by decide) ?_
      refine pm_icmp_ge (tgt := 19) dX10_clears_6 (by decide) (fun c_6 => absurd c_6 (nI_ge (b := 134) hlt (by decide))) (fun c_6 => ?_)
      refine pm_aload_n dX10_clears_9 rfl ?_
      refine pm_iload_n dX10_clears_10 rfl ?_
      refine pm_iconst (v := 0) dX10_clears_11 (by decide) ?_
      refine rg_as (j := 31) hR2 dX10_clears_12 rfl (vp_in_nI hlt (by decide)) (fun w4 hR5 hk6 => ?_)
      have hk7 := rg_kt hk3 hk6
      refine pm_iinc (v := (nI (k + 1))) dX10_clears_13 rfl (nI_1 _) (by decide) rfl rfl ?_
      refine pm_goto (tgt := 2) dX10_clears_16 (by decide) ?_
      exact ih (k + 1) _ (by omega) hR5 hk7
  have LP0 := LP (134) 0 _ (Nat.zero_add _) hR rg_k0
  first | exact LP0 | (rw [nI_0] at LP0; exact LP0)
