theorem dX10_sparing_0 : decode cX10_sparing 0 = .ok (.iload_n 1, 1) := by decide +kernel
theorem dX10_sparing_1 : decode cX10_sparing 1 = .ok (.iconst 1, 1) := by decide +kernel
theorem dX10_sparing_2 : decode cX10_sparing 2 = .ok (.bipush 8, 2) := by decide +kernel
theorem dX10_sparing_4 : decode cX10_sparing 4 = .ok (.invokestatic 138, 3) := by decide +kernel
theorem dX10_sparing_7 : decode cX10_sparing 7 = .ok (.ifCond .eq 14, 3) := by decide +kernel
theorem dX10_sparing_10 : decode cX10_sparing 10 = .ok (.iload_n 2, 1) := by decide +kernel
theorem dX10_sparing_11 : decode cX10_sparing 11 = .ok (.iconst 0, 1) := by decide +kernel
theorem dX10_sparing_12 : decode cX10_sparing 12 = .ok (.sipush 3000, 3) := by decide +kernel
theorem dX10_sparing_15 : decode cX10_sparing 15 = .ok (.invokestatic 138, 3) := by decide +kernel
theorem dX10_sparing_18 : decode cX10_sparing 18 = .ok (.ifCond .ne 5, 3) := by decide +kernel
theorem dX10_sparing_21 : decode cX10_sparing 21 = .ok (.iconst (-1), 1) := by decide +kernel
theorem dX10_sparing_22 : decode cX10_sparing 22 = .ok (.ireturn, 1) := by decide +kernel
theorem dX10_sparing_23 : decode cX10_sparing 23 = .ok (.iconst 1, 1) := by decide +kernel
theorem dX10_sparing_24 : decode cX10_sparing 24 = .ok (.istore 4, 2) := by decide +kernel
theorem dX10_sparing_26 : decode cX10_sparing 26 = .ok (.iload 4, 2) := by decide +kernel
theorem dX10_sparing_28 : decode cX10_sparing 28 = .ok (.bipush 64, 2) := by decide +kernel
theorem dX10_sparing_30 : decode cX10_sparing 30 = .ok (.if_icmp .gt 24, 3) := by decide +kernel
theorem dX10_sparing_33 : decode cX10_sparing 33 = .ok (.aload_n 0, 1) := by decide +kernel
theorem dX10_sparing_34 : decode cX10_sparing 34 = .ok (.iload 4, 2) := by decide +kernel
theorem dX10_sparing_36 : decode cX10_sparing 36 = .ok (.iload_n 1, 1) := by decide +kernel
theorem dX10_sparing_37 : decode cX10_sparing 37 = .ok (.iload_n 2, 1) := by decide +kernel
theorem dX10_sparing_38 : decode cX10_sparing 38 = .ok (.invokevirtual 339, 3) := by decide +kernel
theorem dX10_sparing_41 : decode cX10_sparing 41 = .ok (.iload_n 3, 1) := by decide +kernel
theorem dX10_sparing_42 : decode cX10_sparing 42 = .ok (.if_icmp .gt 6, 3) := by decide +kernel
theorem dX10_sparing_45 : decode cX10_sparing 45 = .ok (.iload 4, 2) := by decide +kernel
theorem dX10_sparing_47 : decode cX10_sparing 47 = .ok (.ireturn, 1) := by decide +kernel
theorem dX10_sparing_48 : decode cX10_sparing 48 = .ok (.iinc 4 1, 3) := by decide +kernel
theorem dX10_sparing_51 : decode cX10_sparing 51 = .ok (.goto (-25), 3) := by decide +kernel
theorem dX10_sparing_54 : decode cX10_sparing 54 = .ok (.iconst (-1), 1) := by decide +kernel
theorem dX10_sparing_55 : decode cX10_sparing 55 = .ok (.ireturn, 1) := by decide +kernel
/-- the least unit, from U on (f of them), by which no more than so many would be held -/
def spf (E T : Nat) (y : Int32) : Nat → Nat → Int32
  | 0, _ => -1
  | f + 1, U => if nI (wc (T / U) E (T / U + 1)) ≤ y then nI U else spf E T y f (U + 1)
def mr_sparing (c e y : Int32) : Int32 := if md_isIn c 1 8 = 0 ∨ md_isIn e 0 3000 = 0 then -1 else spf c.toNatClampNeg e.toNatClampNeg y 64 1
theorem mr_sparing_n {E T : Nat} {y : Int32} (h : ¬ md_isIn (nI E) 1 8 = 0) (h2 : ¬ md_isIn (nI T) 0 3000 = 0) (hE : E ≤ 8) (hT : T ≤ 3000) : mr_sparing (nI E) (nI T) y = spf E T y 64 1 := by
  unfold mr_sparing
  rw [if_neg (not_or.mpr ⟨h, h2⟩), nI_clamp (by omega), nI_clamp (by omega)]
theorem md_d {c : Int32} (h : ¬ md_isIn c 1 8 = 0) : ∃ E : Nat, c = nI E ∧ E ≤ 8 := by
  obtain ⟨T, h1, -, h3⟩ := md_nat h (by decide)
  have : (8 : Int32).toInt = 8 := by decide
  exact ⟨T, h1, by omega⟩
set_option maxHeartbeats 4000000 in
set_option maxRecDepth 100000 in
theorem k_X10_sparing {gs : List String} {ro : pm_RO} {n : Nat} {w : Nat → va_E} {b : Nat} {u : rg_U} (hR : rg shM b u n w) (c e y : Int32) : pm_Met gs ro M_X10_sparing 4 0 0 [.ref (b + 0), .int c, .int e, .int y] n w (pm_p n w (some (.int (mr_sparing c e y)))) := by
  refine pm_ofX in_X10_sparing (Nat.le_of_ble_eq_true rfl) rfl (L := [some (.ref (b + 0)), some (.int c), some (.int e), some (.int y), none]) rfl ?_
  refine pm_iload_n dX10_sparing_0 rfl ?_
  refine pm_iconst (v := 1) dX10_sparing_1 (by decide) ?_
  refine pm_bipush (v := 8) dX10_sparing_2 (by decide) ?_
  refine pm_callS (M := M_X10_sparing) (Mc := M_X10_isIn) (roc := ro) (dc := 0) (mcc := 0) (msc := 0) (As := [.int c, .int 1, .int 8]) (st := []) dX10_sparing_4 ml_X10_138 (fun _ _ h => h) (by decide) (Nat.le_refl _) (Nat.le_refl _) (Nat.le_of_ble_eq_true rfl) rfl (k_X10_isIn _ _ _ _ _) (fun r n1 w1 hq _ => ?_)
  obtain ⟨e1, e2, e3⟩ := hq
  rw [e1, e2, e3]
  clear e1 e2 e3
  dsimp only [Option.toList, List.cons_append, List.nil_append]
  refine pm_if_eq (tgt := 21) dX10_sparing_7 (by decide) (fun c_7 => ?_) (fun c_7 => ?_)
  · refine pm_iconst (v := (-1)) dX10_sparing_21 (by decide) ?_
    refine pm_iret dX10_sparing_22 rfl (Nat.zero_le _) (Nat.zero_le _) ?_
    first
      | (refine ⟨rfl, rfl, ?_⟩; rw [hinv]; rfl)
      | (refine ⟨rfl, rfl, ?_⟩; rw [hinv]; show _ = some (Value.int (if _ then _ else _)); rw [if_pos (Int32.not_lt.mp c_42)])
      | (refine ⟨rfl, rfl, ?_⟩; simp [mr_sparing, *])
  · refine pm_iload_n dX10_sparing_10 rfl ?_
    refine pm_iconst (v := 0) dX10_sparing_11 (by decide) ?_
    refine pm_sipush (v := 3000) dX10_sparing_12 (by decide) ?_
    refine pm_callS (M := M_X10_sparing) (Mc := M_X10_isIn) (roc := ro) (dc := 0) (mcc := 0) (msc := 0) (As := [.int e, .int 0, .int 3000]) (st := []) dX10_sparing_15 ml_X10_138 (fun _ _ h => h) (by decide) (Nat.le_refl _) (Nat.le_refl _) (Nat.le_of_ble_eq_true rfl) rfl (k_X10_isIn _ _ _ _ _) (fun r n1 w1 hq _ => ?_)
    obtain ⟨e1, e2, e3⟩ := hq
    rw [e1, e2, e3]
    clear e1 e2 e3
    dsimp only [Option.toList, List.cons_append, List.nil_append]
    refine pm_if_ne (tgt := 23) dX10_sparing_18 (by decide) (fun c_18 => ?_) (fun c_18 => ?_)
    · obtain ⟨E, rfl, hE⟩ := md_d c_7
      obtain ⟨T, rfl, hT⟩ := md_t c_18
      rw [mr_sparing_n c_7 c_18 hE hT]
      refine pm_iconst (v := 1) dX10_sparing_23 (by decide) ?_
      refine pm_istore dX10_sparing_24 (by decide) rfl rfl ?_
      have LP : ∀ (f k : Nat), k + f = 64 → (spf E T y 64 1 = spf E T y f (k + 1)) → pm_X gs ro M_X10_sparing 4 0 0 0 0 26 [some (.ref (b + 0)), some (.int (nI E)), some (.int (nI T)), some (.int y), some (.int (nI (k + 1)))] [] n w (pm_p n w (some (.int (spf E T y 64 1)))) := by
        intro f
        induction f with
        | zero =>
          intro k hk hinv
          have hk : k = 64 := hk
          subst hk
          refine pm_iload dX10_sparing_26 rfl ?_
          refine pm_bipush (v := 64) dX10_sparing_28 (by decide) ?_
          refine pm_icmp_gt (tgt := 54) dX10_sparing_30 (by decide) (fun c_30 => ?_) (fun c_30 => absurd (by decide) c_30)
          refine pm_iconst (v := (-1)) dX10_sparing_54 (by decide) ?_
          refine pm_iret dX10_sparing_55 rfl (Nat.zero_le _) (Nat.zero_le _) ?_
          first
            | (refine ⟨rfl, rfl, ?_⟩; rw [hinv]; rfl)
            | (refine ⟨rfl, rfl, ?_⟩; rw [hinv]; show _ = some (Value.int (if _ then _ else _)); rw [if_pos (Int32.not_lt.mp c_42)])
            | (refine ⟨rfl, rfl, ?_⟩; simp [mr_sparing, *])
        | succ f ih =>
          intro k hk hinv
          have hlt : k < 64 := by omega
          refine pm_iload dX10_sparing_26 rfl ?_
          refine pm_bipush (v := 64) dX10_sparing_28 (by decide) ?_
          refine pm_icmp_gt (tgt := 54) dX10_sparing_30 (by decide) (fun c_30 => absurd c_30 (nI_nlt (a := 64) (b := k + 1) (by omega) (by omega))) (fun c_30 => ?_)
          refine pm_aload_n dX10_sparing_33 rfl ?_
          refine pm_iload dX10_sparing_34 rfl ?_
          refine pm_iload_n dX10_sparing_36 rfl ?_
          refine pm_iload_n dX10_sparing_37 rfl ?_
          refine rg_cV (M := M_X10_sparing) (Mc := M_X10_wouldOf) (j := 0) (dc := 3) (As := [.int (nI (k + 1)), .int (nI E), .int (nI T)]) (st := []) hR dX10_sparing_38 ml_X10_339 ⟨TX10, 55, rfl⟩ rfl (by decide) (Nat.le_refl _) (Nat.le_refl _) (Nat.le_of_ble_eq_true rfl) rfl (k_X10_wouldOf hR (Nat.succ_pos k) (by omega) hE hT) (fun r n1 w1 hq => ?_)
          obtain ⟨e1, e2, e3⟩ := hq
          rw [e1, e2, e3]
          clear e1 e2 e3
          dsimp only [Option.toList, List.cons_append, List.nil_append]
          refine pm_iload_n dX10_sparing_41 rfl ?_
          refine pm_icmp_gt (tgt := 48) dX10_sparing_42 (by decide) (fun c_42 => ?_) (fun c_42 => ?_)
          · refine pm_iinc (v := (nI ((k + 1) + 1))) dX10_sparing_48 rfl (nI_1 _) (by decide) rfl rfl ?_
            refine pm_goto (tgt := 26) dX10_sparing_51 (by decide) ?_
            exact ih (k + 1) (by omega) (by rw [hinv]; show (if _ then _ else _) = _; rw [if_neg (fun q => absurd c_42 (Int32.not_lt.mpr q))])
          · refine pm_iload dX10_sparing_45 rfl ?_
            refine pm_iret dX10_sparing_47 rfl (Nat.zero_le _) (Nat.zero_le _) ?_
            first
              | (refine ⟨rfl, rfl, ?_⟩; rw [hinv]; rfl)
              | (refine ⟨rfl, rfl, ?_⟩; rw [hinv]; show _ = some (Value.int (if _ then _ else _)); rw [if_pos (Int32.not_lt.mp c_42)])
              | (refine ⟨rfl, rfl, ?_⟩; simp [mr_sparing, *])
      have LP0 := LP (64) 0 (Nat.zero_add _) rfl
      first | exact LP0 | (rw [nI_0] at LP0; exact LP0)
    · refine pm_iconst (v := (-1)) dX10_sparing_21 (by decide) ?_
      refine pm_iret dX10_sparing_22 rfl (Nat.zero_le _) (Nat.zero_le _) ?_
      first
        | (refine ⟨rfl, rfl, ?_⟩; rw [hinv]; rfl)
        | (refine ⟨rfl, rfl, ?_⟩; rw [hinv]; show _ = some (Value.int (if _ then _ else _)); rw [if_pos (Int32.not_lt.mp c_42)])
        | (refine ⟨rfl, rfl, ?_⟩; simp [mr_sparing, *])
