theorem dX9_gap_0 : decode cX9_gap 0 = .ok (.iload_n 1, 1) := by decide +kernel
theorem dX9_gap_1 : decode cX9_gap 1 = .ok (.invokestatic 78, 3) := by decide +kernel
theorem dX9_gap_4 : decode cX9_gap 4 = .ok (.ifCond .eq 17, 3) := by decide +kernel
theorem dX9_gap_7 : decode cX9_gap 7 = .ok (.iload_n 2, 1) := by decide +kernel
theorem dX9_gap_8 : decode cX9_gap 8 = .ok (.invokestatic 81, 3) := by decide +kernel
theorem dX9_gap_11 : decode cX9_gap 11 = .ok (.ifCond .eq 10, 3) := by decide +kernel
theorem dX9_gap_14 : decode cX9_gap 14 = .ok (.iload_n 3, 1) := by decide +kernel
theorem dX9_gap_15 : decode cX9_gap 15 = .ok (.invokestatic 286, 3) := by decide +kernel
theorem dX9_gap_18 : decode cX9_gap 18 = .ok (.ifCond .ne 5, 3) := by decide +kernel
theorem dX9_gap_21 : decode cX9_gap 21 = .ok (.iconst (-1), 1) := by decide +kernel
theorem dX9_gap_22 : decode cX9_gap 22 = .ok (.ireturn, 1) := by decide +kernel
theorem dX9_gap_23 : decode cX9_gap 23 = .ok (.iload_n 3, 1) := by decide +kernel
theorem dX9_gap_24 : decode cX9_gap 24 = .ok (.iload_n 1, 1) := by decide +kernel
theorem dX9_gap_25 : decode cX9_gap 25 = .ok (.idiv, 1) := by decide +kernel
theorem dX9_gap_26 : decode cX9_gap 26 = .ok (.istore 4, 2) := by decide +kernel
theorem dX9_gap_28 : decode cX9_gap 28 = .ok (.iconst 0, 1) := by decide +kernel
theorem dX9_gap_29 : decode cX9_gap 29 = .ok (.istore 5, 2) := by decide +kernel
theorem dX9_gap_31 : decode cX9_gap 31 = .ok (.iconst 0, 1) := by decide +kernel
theorem dX9_gap_32 : decode cX9_gap 32 = .ok (.istore 6, 2) := by decide +kernel
theorem dX9_gap_34 : decode cX9_gap 34 = .ok (.iconst 1, 1) := by decide +kernel
theorem dX9_gap_35 : decode cX9_gap 35 = .ok (.istore 7, 2) := by decide +kernel
theorem dX9_gap_37 : decode cX9_gap 37 = .ok (.iload 7, 2) := by decide +kernel
theorem dX9_gap_39 : decode cX9_gap 39 = .ok (.iload 4, 2) := by decide +kernel
theorem dX9_gap_41 : decode cX9_gap 41 = .ok (.if_icmp .gt 42, 3) := by decide +kernel
theorem dX9_gap_44 : decode cX9_gap 44 = .ok (.iload 7, 2) := by decide +kernel
theorem dX9_gap_46 : decode cX9_gap 46 = .ok (.iload_n 2, 1) := by decide +kernel
theorem dX9_gap_47 : decode cX9_gap 47 = .ok (.iload 4, 2) := by decide +kernel
theorem dX9_gap_49 : decode cX9_gap 49 = .ok (.invokestatic 293, 3) := by decide +kernel
theorem dX9_gap_52 : decode cX9_gap 52 = .ok (.ifCond .eq 25, 3) := by decide +kernel
theorem dX9_gap_55 : decode cX9_gap 55 = .ok (.iload 5, 2) := by decide +kernel
theorem dX9_gap_57 : decode cX9_gap 57 = .ok (.iload 7, 2) := by decide +kernel
theorem dX9_gap_59 : decode cX9_gap 59 = .ok (.iload_n 1, 1) := by decide +kernel
theorem dX9_gap_60 : decode cX9_gap 60 = .ok (.imul, 1) := by decide +kernel
theorem dX9_gap_61 : decode cX9_gap 61 = .ok (.iconst 1, 1) := by decide +kernel
theorem dX9_gap_62 : decode cX9_gap 62 = .ok (.isub, 1) := by decide +kernel
theorem dX9_gap_63 : decode cX9_gap 63 = .ok (.iload 6, 2) := by decide +kernel
theorem dX9_gap_65 : decode cX9_gap 65 = .ok (.isub, 1) := by decide +kernel
theorem dX9_gap_66 : decode cX9_gap 66 = .ok (.invokestatic 240, 3) := by decide +kernel
theorem dX9_gap_69 : decode cX9_gap 69 = .ok (.istore 5, 2) := by decide +kernel
theorem dX9_gap_71 : decode cX9_gap 71 = .ok (.iload 7, 2) := by decide +kernel
theorem dX9_gap_73 : decode cX9_gap 73 = .ok (.iload_n 1, 1) := by decide +kernel
theorem dX9_gap_74 : decode cX9_gap 74 = .ok (.imul, 1) := by decide +kernel
theorem dX9_gap_75 : decode cX9_gap 75 = .ok (.istore 6, 2) := by decide +kernel
theorem dX9_gap_77 : decode cX9_gap 77 = .ok (.iinc 7 1, 3) := by decide +kernel
theorem dX9_gap_80 : decode cX9_gap 80 = .ok (.goto (-43), 3) := by decide +kernel
theorem dX9_gap_83 : decode cX9_gap 83 = .ok (.iload 5, 2) := by decide +kernel
theorem dX9_gap_85 : decode cX9_gap 85 = .ok (.iload_n 3, 1) := by decide +kernel
theorem dX9_gap_86 : decode cX9_gap 86 = .ok (.iload 6, 2) := by decide +kernel
theorem dX9_gap_88 : decode cX9_gap 88 = .ok (.isub, 1) := by decide +kernel
theorem dX9_gap_89 : decode cX9_gap 89 = .ok (.invokestatic 240, 3) := by decide +kernel
theorem dX9_gap_92 : decode cX9_gap 92 = .ok (.ireturn, 1) := by decide +kernel
theorem dX9_sparing_0 : decode cX9_sparing 0 = .ok (.iload_n 1, 1) := by decide +kernel
theorem dX9_sparing_1 : decode cX9_sparing 1 = .ok (.invokestatic 81, 3) := by decide +kernel
theorem dX9_sparing_4 : decode cX9_sparing 4 = .ok (.ifCond .eq 10, 3) := by decide +kernel
theorem dX9_sparing_7 : decode cX9_sparing 7 = .ok (.iload_n 2, 1) := by decide +kernel
theorem dX9_sparing_8 : decode cX9_sparing 8 = .ok (.invokestatic 286, 3) := by decide +kernel
theorem dX9_sparing_11 : decode cX9_sparing 11 = .ok (.ifCond .ne 5, 3) := by decide +kernel
theorem dX9_sparing_14 : decode cX9_sparing 14 = .ok (.iconst (-1), 1) := by decide +kernel
theorem dX9_sparing_15 : decode cX9_sparing 15 = .ok (.ireturn, 1) := by decide +kernel
theorem dX9_sparing_16 : decode cX9_sparing 16 = .ok (.iconst 1, 1) := by decide +kernel
theorem dX9_sparing_17 : decode cX9_sparing 17 = .ok (.istore 4, 2) := by decide +kernel
theorem dX9_sparing_19 : decode cX9_sparing 19 = .ok (.iload 4, 2) := by decide +kernel
theorem dX9_sparing_21 : decode cX9_sparing 21 = .ok (.bipush 64, 2) := by decide +kernel
theorem dX9_sparing_23 : decode cX9_sparing 23 = .ok (.if_icmp .gt 23, 3) := by decide +kernel
theorem dX9_sparing_26 : decode cX9_sparing 26 = .ok (.iload 4, 2) := by decide +kernel
theorem dX9_sparing_28 : decode cX9_sparing 28 = .ok (.iload_n 1, 1) := by decide +kernel
theorem dX9_sparing_29 : decode cX9_sparing 29 = .ok (.iload_n 2, 1) := by decide +kernel
theorem dX9_sparing_30 : decode cX9_sparing 30 = .ok (.invokestatic 289, 3) := by decide +kernel
theorem dX9_sparing_33 : decode cX9_sparing 33 = .ok (.iload_n 3, 1) := by decide +kernel
theorem dX9_sparing_34 : decode cX9_sparing 34 = .ok (.if_icmp .gt 6, 3) := by decide +kernel
theorem dX9_sparing_37 : decode cX9_sparing 37 = .ok (.iload 4, 2) := by decide +kernel
theorem dX9_sparing_39 : decode cX9_sparing 39 = .ok (.ireturn, 1) := by decide +kernel
theorem dX9_sparing_40 : decode cX9_sparing 40 = .ok (.iinc 4 1, 3) := by decide +kernel
theorem dX9_sparing_43 : decode cX9_sparing 43 = .ok (.goto (-24), 3) := by decide +kernel
theorem dX9_sparing_46 : decode cX9_sparing 46 = .ok (.iconst (-1), 1) := by decide +kernel
theorem dX9_sparing_47 : decode cX9_sparing 47 = .ok (.ireturn, 1) := by decide +kernel
set_option maxHeartbeats 4000000 in
set_option maxRecDepth 100000 in
theorem k_X9_gap {gs : List String} {ro : pm_RO} {n : Nat} {w : Nat → va_E} {a0 : Nat} (a c e : Int32) : pm_Met gs ro M_X9_gap 2 0 0 [.ref a0, .int a, .int c, .int e] n w (pm_p n w (some (.int (cr_gap a c e)))) := by
  refine pm_ofX in_X9_gap (Nat.le_of_ble_eq_true rfl) rfl (L := [some (.ref a0), some (.int a), some (.int c), some (.int e), none, none, none, none]) rfl ?_
  refine pm_iload_n dX9_gap_0 rfl ?_
  refine pm_callS (M := M_X9_gap) (Mc := M_X9_isUnit) (roc := ro) (dc := 0) (mcc := 0) (msc := 0) (As := [.int a]) (st := []) dX9_gap_1 ml_X9_78 (fun _ _ h => h) (by decide) (Nat.le_refl _) (Nat.le_refl _) (Nat.le_of_ble_eq_true rfl) rfl (k_X9_isUnit _ _ _) (fun r n1 w1 hq _ => ?_)
  obtain ⟨e1, e2, e3⟩ := hq
  rw [e1, e2, e3]
  clear e1 e2 e3
  dsimp only [Option.toList, List.cons_append, List.nil_append]
  refine pm_if_eq (tgt := 21) dX9_gap_4 (by decide) (fun c_4 => ?_) (fun c_4 => ?_)
  · refine pm_iconst (v := (-1)) dX9_gap_21 (by decide) ?_
    refine pm_iret dX9_gap_22 rfl (Nat.zero_le _) (Nat.zero_le _) ?_
    first
      | exact ⟨rfl, rfl, rfl⟩
      | (refine ⟨rfl, rfl, ?_⟩; simp [cr_gap, *])
  · refine pm_iload_n dX9_gap_7 rfl ?_
    refine pm_callS (M := M_X9_gap) (Mc := M_X9_isDepth) (roc := ro) (dc := 0) (mcc := 0) (msc := 0) (As := [.int c]) (st := []) dX9_gap_8 ml_X9_81 (fun _ _ h => h) (by decide) (Nat.le_refl _) (Nat.le_refl _) (Nat.le_of_ble_eq_true rfl) rfl (k_X9_isDepth _ _ _) (fun r n1 w1 hq _ => ?_)
    obtain ⟨e1, e2, e3⟩ := hq
    rw [e1, e2, e3]
    clear e1 e2 e3
    dsimp only [Option.toList, List.cons_append, List.nil_append]
    refine pm_if_eq (tgt := 21) dX9_gap_11 (by decide) (fun c_11 => ?_) (fun c_11 => ?_)
    · refine pm_iconst (v := (-1)) dX9_gap_21 (by decide) ?_
      refine pm_iret dX9_gap_22 rfl (Nat.zero_le _) (Nat.zero_le _) ?_
      first
        | exact ⟨rfl, rfl, rfl⟩
        | (refine ⟨rfl, rfl, ?_⟩; simp [cr_gap, *])
    · refine pm_iload_n dX9_gap_14 rfl ?_
      refine pm_callS (M := M_X9_gap) (Mc := M_X9_isAnyTime) (roc := ro) (dc := 0) (mcc := 0) (msc := 0) (As := [.int e]) (st := []) dX9_gap_15 ml_X9_286 (fun _ _ h => h) (by decide) (Nat.le_refl _) (Nat.le_refl _) (Nat.le_of_ble_eq_true rfl) rfl (k_X9_isAnyTime _ _ _) (fun r n1 w1 hq _ => ?_)
      obtain ⟨e1, e2, e3⟩ := hq
      rw [e1, e2, e3]
      clear e1 e2 e3
      dsimp only [Option.toList, List.cons_append, List.nil_append]
      refine pm_if_ne (tgt := 23) dX9_gap_18 (by decide) (fun c_18 => ?_) (fun c_18 => ?_)
      · obtain ⟨U, E, T, rfl, rfl, rfl, hU0, hU, hE, hT⟩ := cr_sp c_4 c_11 c_18
        have hTU := Nat.div_le_self T U
        rw [cr_gap_n c_4 c_11 c_18 hU hE hT]
        refine pm_iload_n dX9_gap_23 rfl ?_
        refine pm_iload_n dX9_gap_24 rfl ?_
        refine pm_idiv dX9_gap_25 (nI_ne0 hU0 (by omega)) ?_
        refine pm_i (y := (nI (T / U))) (pk_div (by omega) (by omega) (by omega)) ?_
        refine pm_istore dX9_gap_26 (by decide) rfl rfl ?_
        refine pm_iconst (v := 0) dX9_gap_28 (by decide) ?_
        refine pm_istore dX9_gap_29 (by decide) rfl rfl ?_
        refine pm_iconst (v := 0) dX9_gap_31 (by decide) ?_
        refine pm_istore dX9_gap_32 (by decide) rfl rfl ?_
        refine pm_iconst (v := 1) dX9_gap_34 (by decide) ?_
        refine pm_istore dX9_gap_35 (by decide) rfl rfl ?_
        have LP : ∀ (f k : Nat), k + f = (T / U) → pm_X gs ro M_X9_gap 2 0 0 0 0 37 [some (.ref a0), some (.int (nI U)), some (.int (nI E)), some (.int (nI T)), some (.int (nI (T / U))), some (.int (nI (cg U E (T / U) k).1)), some (.int (nI (cg U E (T / U) k).2)), some (.int (nI (k + 1)))] [] n w (pm_p n w (some (.int (nI (max (cg U E (T / U) (T / U)).1 (T - (cg U E (T / U) (T / U)).2)))))) := by
          intro f
          induction f with
          | zero =>
            intro k hk
            have hk : k = (T / U) := hk
            subst hk
            refine pm_iload dX9_gap_37 rfl ?_
            refine pm_iload dX9_gap_39 rfl ?_
            refine pm_icmp_gt (tgt := 83) dX9_gap_41 (by decide) (fun c_41 => ?_) (fun c_41 => absurd (nI_lt (Nat.lt_succ_self _) (by omega)) c_41)
            refine pm_iload dX9_gap_83 rfl ?_
            refine pm_iload_n dX9_gap_85 rfl ?_
            refine pm_iload dX9_gap_86 rfl ?_
            refine pm_isub dX9_gap_88 ?_
            refine pm_i (y := (nI (T - (cg U E (T / U) (T / U)).2))) (pk_sub (by have h1 := (cg_le U E (T / U) (T / U)).2; have h2 := Nat.div_mul_le_self T U; omega)) ?_
            refine pm_mmax (M := M_X9_gap) dX9_gap_89 mm_X9_240 mm_max_2 mm_init mm_max_4 (by decide) (Nat.le_refl _) (Nat.le_refl _) (Nat.le_of_ble_eq_true rfl) ?_
            refine pm_i (y := (nI (max (cg U E (T / U) (T / U)).1 (T - (cg U E (T / U) (T / U)).2)))) (nI_max (by have h1 := (cg_le U E (T / U) (T / U)).1; have h2 := Nat.div_mul_le_self T U; omega) (by omega)) ?_
            refine pm_iret dX9_gap_92 rfl (Nat.zero_le _) (Nat.zero_le _) ?_
            first
              | exact ⟨rfl, rfl, rfl⟩
              | (refine ⟨rfl, rfl, ?_⟩; simp [cr_gap, *])
          | succ f ih =>
            intro k hk
            have hlt : k < (T / U) := by omega
            refine pm_iload dX9_gap_37 rfl ?_
            refine pm_iload dX9_gap_39 rfl ?_
            refine pm_icmp_gt (tgt := 83) dX9_gap_41 (by decide) (fun c_41 => absurd c_41 (nI_nlt (a := T / U) (b := k + 1) (by omega) (by omega))) (fun c_41 => ?_)
            refine pm_iload dX9_gap_44 rfl ?_
            refine pm_iload_n dX9_gap_46 rfl ?_
            refine pm_iload dX9_gap_47 rfl ?_
            refine rg_cS (M := M_X9_gap) (Mc := M_X2_isHeldStill) (dc := 1) (As := [.int (nI (k + 1)), .int (nI E), .int (nI (T / U))]) (st := []) dX9_gap_49 ml_X9_293 (by decide) (Nat.le_refl _) (Nat.le_refl _) (Nat.le_of_ble_eq_true rfl) rfl (k_X2_isHeldStill (Nat.succ_pos k) (by omega) hE (by omega)) (fun r n1 w1 hq => ?_)
            obtain ⟨e1, e2, e3⟩ := hq
            rw [e1, e2, e3]
            clear e1 e2 e3
            dsimp only [Option.toList, List.cons_append, List.nil_append]
            refine pm_if_eq (tgt := 77) dX9_gap_52 (by decide) (fun c_52 => ?_) (fun c_52 => ?_)
            · refine pm_iinc (v := (nI ((k + 1) + 1))) dX9_gap_77 rfl (nI_1 _) (by decide) rfl rfl ?_
              refine pm_goto (tgt := 37) dX9_gap_80 (by decide) ?_
              refine pm_l (L' := [some (.ref a0), some (.int (nI U)), some (.int (nI E)), some (.int (nI T)), some (.int (nI (T / U))), some (.int (nI (cg U E (T / U) (k + 1)).1)), some (.int (nI (cg U E (T / U) (k + 1)).2)), some (.int (nI (k + 1 + 1)))]) (by first | (rw [cg_no (U := U) (b_no c_52)]; done) | (rw [cg_no (U := U) (b_no c_52)]; rfl)) ?_
              exact ih (k + 1) (by omega)
            · refine pm_iload dX9_gap_55 rfl ?_
              refine pm_iload dX9_gap_57 rfl ?_
              refine pm_iload_n dX9_gap_59 rfl ?_
              refine pm_imul dX9_gap_60 ?_
              refine pm_i (y := (nI ((k + 1) * U))) (pk_mul _ _) ?_
              refine pm_iconst (v := 1) dX9_gap_61 (by decide) ?_
              refine pm_isub dX9_gap_62 ?_
              refine pm_i (y := (nI ((k + 1) * U - 1))) (pk_sub (a := (k + 1) * U) (b := 1) (Nat.le_trans hU0 (Nat.le_mul_of_pos_left U (Nat.succ_pos k)))) ?_
              refine pm_iload dX9_gap_63 rfl ?_
              refine pm_isub dX9_gap_65 ?_
              refine pm_i (y := (nI ((k + 1) * U - 1 - (cg U E (T / U) k).2))) (pk_sub (by have h1 := (cg_le U E (T / U) k).2; have h2 : (k + 1) * U = k * U + U := Nat.succ_mul k U; omega)) ?_
              refine pm_mmax (M := M_X9_gap) dX9_gap_66 mm_X9_240 mm_max_2 mm_init mm_max_4 (by decide) (Nat.le_refl _) (Nat.le_refl _) (Nat.le_of_ble_eq_true rfl) ?_
              refine pm_i (y := (nI (max (cg U E (T / U) k).1 ((k + 1) * U - 1 - (cg U E (T / U) k).2)))) (nI_max (by have h1 := (cg_le U E (T / U) k).1; have h2 : k * U ≤ 3000 * 64 := Nat.mul_le_mul (by omega) hU; omega) (by have h2 : (k + 1) * U ≤ 3000 * 64 := Nat.mul_le_mul (by omega) hU; omega)) ?_
              refine pm_istore dX9_gap_69 (by decide) rfl rfl ?_
              refine pm_iload dX9_gap_71 rfl ?_
              refine pm_iload_n dX9_gap_73 rfl ?_
              refine pm_imul dX9_gap_74 ?_
              refine pm_i (y := (nI ((k + 1) * U))) (pk_mul _ _) ?_
              refine pm_istore dX9_gap_75 (by decide) rfl rfl ?_
              refine pm_iinc (v := (nI ((k + 1) + 1))) dX9_gap_77 rfl (nI_1 _) (by decide) rfl rfl ?_
              refine pm_goto (tgt := 37) dX9_gap_80 (by decide) ?_
              refine pm_l (L' := [some (.ref a0), some (.int (nI U)), some (.int (nI E)), some (.int (nI T)), some (.int (nI (T / U))), some (.int (nI (cg U E (T / U) (k + 1)).1)), some (.int (nI (cg U E (T / U) (k + 1)).2)), some (.int (nI (k + 1 + 1)))]) (by first | (rw [cg_yes (U := U) (b_yes c_52)]; done) | (rw [cg_yes (U := U) (b_yes c_52)]; rfl)) ?_
              exact ih (k + 1) (by omega)
        have LP0 := LP ((T / U)) 0 (Nat.zero_add _)
        first | exact LP0 | (rw [nI_0] at LP0; exact LP0)
      · refine pm_iconst (v := (-1)) dX9_gap_21 (by decide) ?_
        refine pm_iret dX9_gap_22 rfl (Nat.zero_le _) (Nat.zero_le _) ?_
        first
          | exact ⟨rfl, rfl, rfl⟩
          | (refine ⟨rfl, rfl, ?_⟩; simp [cr_gap, *])
def cr_sparing (c e y : Int32) : Int32 := if cd_isDepth c = 0 ∨ cd_isAnyTime e = 0 then -1 else spf c.toNatClampNeg e.toNatClampNeg y 64 1
theorem cr_sparing_n {E T : Nat} {y : Int32} (h : ¬ cd_isDepth (nI E) = 0) (h2 : ¬ cd_isAnyTime (nI T) = 0) (hE : E ≤ 8) (hT : T ≤ 3000) : cr_sparing (nI E) (nI T) y = spf E T y 64 1 := by
  unfold cr_sparing
  rw [if_neg (not_or.mpr ⟨h, h2⟩), nI_clamp (by omega), nI_clamp (by omega)]
theorem sparing_eq (c e y : Int32) : cr_sparing c e y = mr_sparing c e y := rfl
set_option maxHeartbeats 4000000 in
set_option maxRecDepth 100000 in
theorem k_X9_sparing {gs : List String} {ro : pm_RO} {n : Nat} {w : Nat → va_E} {a0 : Nat} (c e y : Int32) : pm_Met gs ro M_X9_sparing 3 0 0 [.ref a0, .int c, .int e, .int y] n w (pm_p n w (some (.int (cr_sparing c e y)))) := by
  refine pm_ofX in_X9_sparing (Nat.le_of_ble_eq_true rfl) rfl (L := [some (.ref a0), some (.int c), some (.int e), some (.int y), none]) rfl ?_
  refine pm_iload_n dX9_sparing_0 rfl ?_
  refine pm_callS (M := M_X9_sparing) (Mc := M_X9_isDepth) (roc := ro) (dc := 0) (mcc := 0) (msc := 0) (As := [.int c]) (st := []) dX9_sparing_1 ml_X9_81 (fun _ _ h => h) (by decide) (Nat.le_refl _) (Nat.le_refl _) (Nat.le_of_ble_eq_true rfl) rfl (k_X9_isDepth _ _ _) (fun r n1 w1 hq _ => ?_)
  obtain ⟨e1, e2, e3⟩ := hq
  rw [e1, e2, e3]
  clear e1 e2 e3
  dsimp only [Option.toList, List.cons_append, List.nil_append]
  refine pm_if_eq (tgt := 14) dX9_sparing_4 (by decide) (fun c_4 => ?_) (fun c_4 => ?_)
  · refine pm_iconst (v := (-1)) dX9_sparing_14 (by decide) ?_
    refine pm_iret dX9_sparing_15 rfl (Nat.zero_le _) (Nat.zero_le _) ?_
    first
      | (refine ⟨rfl, rfl, ?_⟩; rw [hinv]; rfl)
      | (refine ⟨rfl, rfl, ?_⟩; rw [hinv]; show _ = some (Value.int (if _ then _ else _)); rw [if_pos (Int32.not_lt.mp c_34)])
      | (refine ⟨rfl, rfl, ?_⟩; simp [cr_sparing, *])
  · refine pm_iload_n dX9_sparing_7 rfl ?_
    refine pm_callS (M := M_X9_sparing) (Mc := M_X9_isAnyTime) (roc := ro) (dc := 0) (mcc := 0) (msc := 0) (As := [.int e]) (st := []) dX9_sparing_8 ml_X9_286 (fun _ _ h => h) (by decide) (Nat.le_refl _) (Nat.le_refl _) (Nat.le_of_ble_eq_true rfl) rfl (k_X9_isAnyTime _ _ _) (fun r n1 w1 hq _ => ?_)
    obtain ⟨e1, e2, e3⟩ := hq
    rw [e1, e2, e3]
    clear e1 e2 e3
    dsimp only [Option.toList, List.cons_append, List.nil_append]
    refine pm_if_ne (tgt := 16) dX9_sparing_11 (by decide) (fun c_11 => ?_) (fun c_11 => ?_)
    · obtain ⟨E, rfl, hE⟩ := md_d c_4
      obtain ⟨T, rfl, hT⟩ := md_t c_11
      rw [cr_sparing_n c_4 c_11 hE hT]
      refine pm_iconst (v := 1) dX9_sparing_16 (by decide) ?_
      refine pm_istore dX9_sparing_17 (by decide) rfl rfl ?_
      have LP : ∀ (f k : Nat), k + f = 64 → (spf E T y 64 1 = spf E T y f (k + 1)) → pm_X gs ro M_X9_sparing 3 0 0 0 0 19 [some (.ref a0), some (.int (nI E)), some (.int (nI T)), some (.int y), some (.int (nI (k + 1)))] [] n w (pm_p n w (some (.int (spf E T y 64 1)))) := by
        intro f
        induction f with
        | zero =>
          intro k hk hinv
          have hk : k = 64 := hk
          subst hk
          refine pm_iload dX9_sparing_19 rfl ?_
          refine pm_bipush (v := 64) dX9_sparing_21 (by decide) ?_
          refine pm_icmp_gt (tgt := 46) dX9_sparing_23 (by decide) (fun c_23 => ?_) (fun c_23 => absurd (by decide) c_23)
          refine pm_iconst (v := (-1)) dX9_sparing_46 (by decide) ?_
          refine pm_iret dX9_sparing_47 rfl (Nat.zero_le _) (Nat.zero_le _) ?_
          first
            | (refine ⟨rfl, rfl, ?_⟩; rw [hinv]; rfl)
            | (refine ⟨rfl, rfl, ?_⟩; rw [hinv]; show _ = some (Value.int (if _ then _ else _)); rw [if_pos (Int32.not_lt.mp c_34)])
            | (refine ⟨rfl, rfl, ?_⟩; simp [cr_sparing, *])
        | succ f ih =>
          intro k hk hinv
          have hlt : k < 64 := by omega
          refine pm_iload dX9_sparing_19 rfl ?_
          refine pm_bipush (v := 64) dX9_sparing_21 (by decide) ?_
          refine pm_icmp_gt (tgt := 46) dX9_sparing_23 (by decide) (fun c_23 => absurd c_23 (nI_nlt (a := 64) (b := k + 1) (by omega) (by omega))) (fun c_23 => ?_)
          refine pm_iload dX9_sparing_26 rfl ?_
          refine pm_iload_n dX9_sparing_28 rfl ?_
          refine pm_iload_n dX9_sparing_29 rfl ?_
          refine rg_cS (M := M_X9_sparing) (Mc := M_X9_wouldBeHeld) (dc := 2) (As := [.int (nI (k + 1)), .int (nI E), .int (nI T)]) (st := []) dX9_sparing_30 ml_X9_289 (by decide) (Nat.le_refl _) (Nat.le_refl _) (Nat.le_of_ble_eq_true rfl) rfl (k_X9_wouldBeHeld (Nat.succ_pos k) (by omega) hE hT) (fun r n1 w1 hq => ?_)
          obtain ⟨e1, e2, e3⟩ := hq
          rw [e1, e2, e3]
          clear e1 e2 e3
          dsimp only [Option.toList, List.cons_append, List.nil_append]
          refine pm_iload_n dX9_sparing_33 rfl ?_
          refine pm_icmp_gt (tgt := 40) dX9_sparing_34 (by decide) (fun c_34 => ?_) (fun c_34 => ?_)
          · refine pm_iinc (v := (nI ((k + 1) + 1))) dX9_sparing_40 rfl (nI_1 _) (by decide) rfl rfl ?_
            refine pm_goto (tgt := 19) dX9_sparing_43 (by decide) ?_
            exact ih (k + 1) (by omega) (by rw [hinv]; show (if _ then _ else _) = _; rw [if_neg (fun q => absurd c_34 (Int32.not_lt.mpr q))])
          · refine pm_iload dX9_sparing_37 rfl ?_
            refine pm_iret dX9_sparing_39 rfl (Nat.zero_le _) (Nat.zero_le _) ?_
            first
              | (refine ⟨rfl, rfl, ?_⟩; rw [hinv]; rfl)
              | (refine ⟨rfl, rfl, ?_⟩; rw [hinv]; show _ = some (Value.int (if _ then _ else _)); rw [if_pos (Int32.not_lt.mp c_34)])
              | (refine ⟨rfl, rfl, ?_⟩; simp [cr_sparing, *])
      have LP0 := LP (64) 0 (Nat.zero_add _) rfl
      first | exact LP0 | (rw [nI_0] at LP0; exact LP0)
    · refine pm_iconst (v := (-1)) dX9_sparing_14 (by decide) ?_
      refine pm_iret dX9_sparing_15 rfl (Nat.zero_le _) (Nat.zero_le _) ?_
      first
        | (refine ⟨rfl, rfl, ?_⟩; rw [hinv]; rfl)
        | (refine ⟨rfl, rfl, ?_⟩; rw [hinv]; show _ = some (Value.int (if _ then _ else _)); rw [if_pos (Int32.not_lt.mp c_34)])
        | (refine ⟨rfl, rfl, ?_⟩; simp [cr_sparing, *])
/-- times without a held one among them: the gap grows on -/
theorem gp_run {U E T B a s : Nat} (ha : a ≤ s) (hs : gp U E T (s + 1) = (max B (s - a), a)) : ∀ j, (∀ i, i < j → ¬ ((s + 1 + i) % U = 0 ∧ wb ((s + 1 + i) / U) (T / U) E = true)) → gp U E T (s + 1 + j) = (max B (s + j - a), a)
  | 0, _ => hs
  | j + 1, h => by
    have ih := gp_run ha hs j (fun i hi => h i (by omega))
    rw [show s + 1 + (j + 1) = (s + 1 + j) + 1 by omega, gp_no (h j (Nat.lt_succ_self j)), ih]
    congr 1
    simp only [Nat.max_def]
    repeat' split
    all_goals omega
theorem gp_cg {U E T : Nat} (hU : 0 < U) : ∀ k, gp U E T (k * U + 1) = (max (cg U E (T / U) k).1 (k * U - (cg U E (T / U) k).2), (cg U E (T / U) k).2)
  | 0 => by
    rw [Nat.zero_mul]
    show gp U E T (0 + 1) = _
    rw [gp_yes (Nat.zero_mod U) (by rw [Nat.zero_div]; rfl)]
    rfl
  | k + 1 => by
    have ih := gp_cg (E := E) (T := T) hU k
    have hle := (cg_le U E (T / U) k).2
    have hm : (k + 1) * U = k * U + U := Nat.succ_mul k U
    have h1 := gp_run hle ih (U - 1) (fun i hi q => by
      have e1 : (k * U + 1 + i) % U = (1 + i) % U := by rw [show k * U + 1 + i = (1 + i) + k * U by omega, Nat.add_mul_mod_self_right]
      rw [e1, Nat.mod_eq_of_lt (by omega)] at q
      omega)
    have e2 : k * U + 1 + (U - 1) = (k + 1) * U := by omega
    rw [e2] at h1
    have hd : (k + 1) * U / U = k + 1 := Nat.mul_div_cancel _ hU
    have hr : (k + 1) * U % U = 0 := Nat.mul_mod_left _ _
    cases hw : wb (k + 1) (T / U) E with
    | true =>
      rw [gp_yes hr (by rw [hd]; exact hw), h1, cg_yes hw]
      congr 1
      simp only [Nat.max_def]
      repeat' split
      all_goals omega
    | false =>
      rw [gp_no (fun q => by rw [hd, hw] at q; exact absurd q.2 (by decide)), h1, cg_no hw]
      congr 1
      simp only [Nat.max_def]
      repeat' split
      all_goals omega
theorem gap_n {U E T : Nat} (hU : 0 < U) : (gp U E T (T + 1)).1 = max (cg U E (T / U) (T / U)).1 (T - (cg U E (T / U) (T / U)).2) := by
  have hle := (cg_le U E (T / U) (T / U)).2
  have hq := Nat.div_mul_le_self T U
  have h0 : T / U * U + T % U = T := by rw [Nat.mul_comm]; exact Nat.div_add_mod T U
  have hl := Nat.mod_lt T hU
  have h1 := gp_run hle (gp_cg (E := E) (T := T) hU (T / U)) (T % U) (fun i hi q => by
    have e1 : (T / U * U + 1 + i) % U = (1 + i) % U := by rw [show T / U * U + 1 + i = (1 + i) + T / U * U by omega, Nat.add_mul_mod_self_right]
    rw [e1, Nat.mod_eq_of_lt (by omega)] at q
    omega)
  rw [show T / U * U + 1 + T % U = T + 1 by omega, show T / U * U + T % U = T from h0] at h1
  rw [h1]
theorem gap_eq (a c e : Int32) : cr_gap a c e = mr_gap a c e := by
  by_cases h1 : cd_isUnit a = 0
  · have h1' : md_isIn a 1 64 = 0 := h1
    simp [cr_gap, mr_gap, md_isSpacing, h1, h1']
  · by_cases h2 : cd_isDepth c = 0
    · have h1' : ¬ md_isIn a 1 64 = 0 := h1
      have h2' : md_isIn c 1 8 = 0 := h2
      simp [cr_gap, mr_gap, md_isSpacing, h1', h2, h2']
    · by_cases h3 : cd_isAnyTime e = 0
      · have h3' : md_isIn e 0 3000 = 0 := h3
        simp [cr_gap, mr_gap, h3, h3']
      · obtain ⟨U, E, T, rfl, rfl, rfl, hU0, hU, hE, hT⟩ := cr_sp h1 h2 h3
        rw [cr_gap_n h1 h2 h3 hU hE hT, mr_gap_n (by unfold md_isSpacing; rw [if_neg (show ¬ md_isIn (nI U) 1 64 = 0 from h1)]; exact h2) h3 hU hE hT, gap_n hU0]
