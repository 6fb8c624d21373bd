theorem dX2_goesWith_0 : decode cX2_goesWith 0 = .ok (.iload_n 0, 1) := by decide +kernel
theorem dX2_goesWith_1 : decode cX2_goesWith 1 = .ok (.iload_n 1, 1) := by decide +kernel
theorem dX2_goesWith_2 : decode cX2_goesWith 2 = .ok (.iload_n 0, 1) := by decide +kernel
theorem dX2_goesWith_3 : decode cX2_goesWith 3 = .ok (.iload_n 0, 1) := by decide +kernel
theorem dX2_goesWith_4 : decode cX2_goesWith 4 = .ok (.ineg, 1) := by decide +kernel
theorem dX2_goesWith_5 : decode cX2_goesWith 5 = .ok (.iand, 1) := by decide +kernel
theorem dX2_goesWith_6 : decode cX2_goesWith 6 = .ok (.imul, 1) := by decide +kernel
theorem dX2_goesWith_7 : decode cX2_goesWith 7 = .ok (.iadd, 1) := by decide +kernel
theorem dX2_goesWith_8 : decode cX2_goesWith 8 = .ok (.ireturn, 1) := by decide +kernel
theorem dX2_isHeldStill_0 : decode cX2_isHeldStill 0 = .ok (.iload_n 0, 1) := by decide +kernel
theorem dX2_isHeldStill_1 : decode cX2_isHeldStill 1 = .ok (.iload_n 1, 1) := by decide +kernel
theorem dX2_isHeldStill_2 : decode cX2_isHeldStill 2 = .ok (.invokestatic 33, 3) := by decide +kernel
theorem dX2_isHeldStill_5 : decode cX2_isHeldStill 5 = .ok (.iload_n 2, 1) := by decide +kernel
theorem dX2_isHeldStill_6 : decode cX2_isHeldStill 6 = .ok (.if_icmp .le 7, 3) := by decide +kernel
theorem dX2_isHeldStill_9 : decode cX2_isHeldStill 9 = .ok (.iconst 1, 1) := by decide +kernel
theorem dX2_isHeldStill_10 : decode cX2_isHeldStill 10 = .ok (.goto 4, 3) := by decide +kernel
theorem dX2_isHeldStill_13 : decode cX2_isHeldStill 13 = .ok (.iconst 0, 1) := by decide +kernel
theorem dX2_isHeldStill_14 : decode cX2_isHeldStill 14 = .ok (.ireturn, 1) := by decide +kernel
theorem dX9_isAnyTime_0 : decode cX9_isAnyTime 0 = .ok (.iload_n 0, 1) := by decide +kernel
theorem dX9_isAnyTime_1 : decode cX9_isAnyTime 1 = .ok (.ifCond .lt 14, 3) := by decide +kernel
theorem dX9_isAnyTime_4 : decode cX9_isAnyTime 4 = .ok (.iload_n 0, 1) := by decide +kernel
theorem dX9_isAnyTime_5 : decode cX9_isAnyTime 5 = .ok (.sipush 3000, 3) := by decide +kernel
theorem dX9_isAnyTime_8 : decode cX9_isAnyTime 8 = .ok (.if_icmp .gt 7, 3) := by decide +kernel
theorem dX9_isAnyTime_11 : decode cX9_isAnyTime 11 = .ok (.iconst 1, 1) := by decide +kernel
theorem dX9_isAnyTime_12 : decode cX9_isAnyTime 12 = .ok (.goto 4, 3) := by decide +kernel
theorem dX9_isAnyTime_15 : decode cX9_isAnyTime 15 = .ok (.iconst 0, 1) := by decide +kernel
theorem dX9_isAnyTime_16 : decode cX9_isAnyTime 16 = .ok (.ireturn, 1) := by decide +kernel
theorem dX9_isDepth_0 : decode cX9_isDepth 0 = .ok (.iload_n 0, 1) := by decide +kernel
theorem dX9_isDepth_1 : decode cX9_isDepth 1 = .ok (.iconst 1, 1) := by decide +kernel
theorem dX9_isDepth_2 : decode cX9_isDepth 2 = .ok (.if_icmp .lt 13, 3) := by decide +kernel
theorem dX9_isDepth_5 : decode cX9_isDepth 5 = .ok (.iload_n 0, 1) := by decide +kernel
theorem dX9_isDepth_6 : decode cX9_isDepth 6 = .ok (.bipush 8, 2) := by decide +kernel
theorem dX9_isDepth_8 : decode cX9_isDepth 8 = .ok (.if_icmp .gt 7, 3) := by decide +kernel
theorem dX9_isDepth_11 : decode cX9_isDepth 11 = .ok (.iconst 1, 1) := by decide +kernel
theorem dX9_isDepth_12 : decode cX9_isDepth 12 = .ok (.goto 4, 3) := by decide +kernel
theorem dX9_isDepth_15 : decode cX9_isDepth 15 = .ok (.iconst 0, 1) := by decide +kernel
theorem dX9_isDepth_16 : decode cX9_isDepth 16 = .ok (.ireturn, 1) := by decide +kernel
theorem dX9_isUnit_0 : decode cX9_isUnit 0 = .ok (.iload_n 0, 1) := by decide +kernel
theorem dX9_isUnit_1 : decode cX9_isUnit 1 = .ok (.iconst 1, 1) := by decide +kernel
theorem dX9_isUnit_2 : decode cX9_isUnit 2 = .ok (.if_icmp .lt 13, 3) := by decide +kernel
theorem dX9_isUnit_5 : decode cX9_isUnit 5 = .ok (.iload_n 0, 1) := by decide +kernel
theorem dX9_isUnit_6 : decode cX9_isUnit 6 = .ok (.bipush 64, 2) := by decide +kernel
theorem dX9_isUnit_8 : decode cX9_isUnit 8 = .ok (.if_icmp .gt 7, 3) := by decide +kernel
theorem dX9_isUnit_11 : decode cX9_isUnit 11 = .ok (.iconst 1, 1) := by decide +kernel
theorem dX9_isUnit_12 : decode cX9_isUnit 12 = .ok (.goto 4, 3) := by decide +kernel
theorem dX9_isUnit_15 : decode cX9_isUnit 15 = .ok (.iconst 0, 1) := by decide +kernel
theorem dX9_isUnit_16 : decode cX9_isUnit 16 = .ok (.ireturn, 1) := by decide +kernel
theorem dX9_wouldBeHeld_0 : decode cX9_wouldBeHeld 0 = .ok (.iload_n 0, 1) := by decide +kernel
theorem dX9_wouldBeHeld_1 : decode cX9_wouldBeHeld 1 = .ok (.iconst 1, 1) := by decide +kernel
theorem dX9_wouldBeHeld_2 : decode cX9_wouldBeHeld 2 = .ok (.if_icmp .ge 5, 3) := by decide +kernel
theorem dX9_wouldBeHeld_7 : decode cX9_wouldBeHeld 7 = .ok (.iload_n 2, 1) := by decide +kernel
theorem dX9_wouldBeHeld_8 : decode cX9_wouldBeHeld 8 = .ok (.iload_n 0, 1) := by decide +kernel
theorem dX9_wouldBeHeld_9 : decode cX9_wouldBeHeld 9 = .ok (.idiv, 1) := by decide +kernel
theorem dX9_wouldBeHeld_10 : decode cX9_wouldBeHeld 10 = .ok (.istore_n 3, 1) := by decide +kernel
theorem dX9_wouldBeHeld_11 : decode cX9_wouldBeHeld 11 = .ok (.iconst 1, 1) := by decide +kernel
theorem dX9_wouldBeHeld_12 : decode cX9_wouldBeHeld 12 = .ok (.istore 4, 2) := by decide +kernel
theorem dX9_wouldBeHeld_14 : decode cX9_wouldBeHeld 14 = .ok (.iconst 1, 1) := by decide +kernel
theorem dX9_wouldBeHeld_15 : decode cX9_wouldBeHeld 15 = .ok (.istore 5, 2) := by decide +kernel
theorem dX9_wouldBeHeld_17 : decode cX9_wouldBeHeld 17 = .ok (.iload 5, 2) := by decide +kernel
theorem dX9_wouldBeHeld_19 : decode cX9_wouldBeHeld 19 = .ok (.iload_n 3, 1) := by decide +kernel
theorem dX9_wouldBeHeld_20 : decode cX9_wouldBeHeld 20 = .ok (.if_icmp .gt 22, 3) := by decide +kernel
theorem dX9_wouldBeHeld_23 : decode cX9_wouldBeHeld 23 = .ok (.iload 5, 2) := by decide +kernel
theorem dX9_wouldBeHeld_25 : decode cX9_wouldBeHeld 25 = .ok (.iload_n 1, 1) := by decide +kernel
theorem dX9_wouldBeHeld_26 : decode cX9_wouldBeHeld 26 = .ok (.iload_n 3, 1) := by decide +kernel
theorem dX9_wouldBeHeld_27 : decode cX9_wouldBeHeld 27 = .ok (.invokestatic 293, 3) := by decide +kernel
theorem dX9_wouldBeHeld_30 : decode cX9_wouldBeHeld 30 = .ok (.ifCond .eq 6, 3) := by decide +kernel
theorem dX9_wouldBeHeld_33 : decode cX9_wouldBeHeld 33 = .ok (.iinc 4 1, 3) := by decide +kernel
theorem dX9_wouldBeHeld_36 : decode cX9_wouldBeHeld 36 = .ok (.iinc 5 1, 3) := by decide +kernel
theorem dX9_wouldBeHeld_39 : decode cX9_wouldBeHeld 39 = .ok (.goto (-22), 3) := by decide +kernel
theorem dX9_wouldBeHeld_42 : decode cX9_wouldBeHeld 42 = .ok (.iload 4, 2) := by decide +kernel
theorem dX9_wouldBeHeld_44 : decode cX9_wouldBeHeld 44 = .ok (.ireturn, 1) := by decide +kernel
def cd_isUnit (v : Int32) : Int32 := md_isIn v 1 64
-- isUnit
set_option maxHeartbeats 4000000 in
set_option maxRecDepth 100000 in
theorem k_X9_isUnit {gs : List String} {ro : pm_RO} (n : Nat) (w : Nat → va_E) (v : Int32) : pm_Met gs ro M_X9_isUnit 0 0 0 [.int v] n w (fun rr n1 w1 => n1 = n ∧ w1 = w ∧ rr = some (.int (cd_isUnit v))) := by
  refine pm_ofX in_X9_isUnit (Nat.le_of_ble_eq_true rfl) rfl (L := [some (.int v)]) rfl ?_
  refine pm_iload_n dX9_isUnit_0 rfl ?_
  refine pm_iconst (v := 1) dX9_isUnit_1 (by decide) ?_
  refine pm_icmp_lt (tgt := 15) dX9_isUnit_2 (by decide) (fun c_2 => ?_) (fun c_2 => ?_)
  · refine pm_iconst (v := 0) dX9_isUnit_15 (by decide) ?_
    refine pm_zret dX9_isUnit_16 rfl (Or.inl rfl) (Nat.zero_le _) (Nat.zero_le _) ?_
    refine ⟨rfl, rfl, ?_⟩
    unfold cd_isUnit md_isIn
    simp only [Int32.lt_iff_toInt_lt, Int32.le_iff_toInt_le, Int32.toInt_zero] at *
    split
    · first | rfl | (exfalso; omega)
    · first | rfl | (exfalso; omega)
  · refine pm_iload_n dX9_isUnit_5 rfl ?_
    refine pm_bipush (v := 64) dX9_isUnit_6 (by decide) ?_
    refine pm_icmp_gt (tgt := 15) dX9_isUnit_8 (by decide) (fun c_8 => ?_) (fun c_8 => ?_)
    · refine pm_iconst (v := 0) dX9_isUnit_15 (by decide) ?_
      refine pm_zret dX9_isUnit_16 rfl (Or.inl rfl) (Nat.zero_le _) (Nat.zero_le _) ?_
      refine ⟨rfl, rfl, ?_⟩
      unfold cd_isUnit md_isIn
      simp only [Int32.lt_iff_toInt_lt, Int32.le_iff_toInt_le, Int32.toInt_zero] at *
      split
      · first | rfl | (exfalso; omega)
      · first | rfl | (exfalso; omega)
    · refine pm_iconst (v := 1) dX9_isUnit_11 (by decide) ?_
      refine pm_goto (tgt := 16) dX9_isUnit_12 (by decide) ?_
      refine pm_zret dX9_isUnit_16 rfl (Or.inr rfl) (Nat.zero_le _) (Nat.zero_le _) ?_
      refine ⟨rfl, rfl, ?_⟩
      unfold cd_isUnit md_isIn
      simp only [Int32.lt_iff_toInt_lt, Int32.le_iff_toInt_le, Int32.toInt_zero] at *
      split
      · first | rfl | (exfalso; omega)
      · first | rfl | (exfalso; omega)
def cd_isDepth (v : Int32) : Int32 := md_isIn v 1 8
-- isDepth
set_option maxHeartbeats 4000000 in
set_option maxRecDepth 100000 in
theorem k_X9_isDepth {gs : List String} {ro : pm_RO} (n : Nat) (w : Nat → va_E) (v : Int32) : pm_Met gs ro M_X9_isDepth 0 0 0 [.int v] n w (fun rr n1 w1 => n1 = n ∧ w1 = w ∧ rr = some (.int (cd_isDepth v))) := by
  refine pm_ofX in_X9_isDepth (Nat.le_of_ble_eq_true rfl) rfl (L := [some (.int v)]) rfl ?_
  refine pm_iload_n dX9_isDepth_0 rfl ?_
  refine pm_iconst (v := 1) dX9_isDepth_1 (by decide) ?_
  refine pm_icmp_lt (tgt := 15) dX9_isDepth_2 (by decide) (fun c_2 => ?_) (fun c_2 => ?_)
  · refine pm_iconst (v := 0) dX9_isDepth_15 (by decide) ?_
    refine pm_zret dX9_isDepth_16 rfl (Or.inl rfl) (Nat.zero_le _) (Nat.zero_le _) ?_
    refine ⟨rfl, rfl, ?_⟩
    unfold cd_isDepth md_isIn
    simp only [Int32.lt_iff_toInt_lt, Int32.le_iff_toInt_le, Int32.toInt_zero] at *
    split
    · first | rfl | (exfalso; omega)
    · first | rfl | (exfalso; omega)
  · refine pm_iload_n dX9_isDepth_5 rfl ?_
    refine pm_bipush (v := 8) dX9_isDepth_6 (by decide) ?_
    refine pm_icmp_gt (tgt := 15) dX9_isDepth_8 (by decide) (fun c_8 => ?_) (fun c_8 => ?_)
    · refine pm_iconst (v := 0) dX9_isDepth_15 (by decide) ?_
      refine pm_zret dX9_isDepth_16 rfl (Or.inl rfl) (Nat.zero_le _) (Nat.zero_le _) ?_
      refine ⟨rfl, rfl, ?_⟩
      unfold cd_isDepth md_isIn
      simp only [Int32.lt_iff_toInt_lt, Int32.le_iff_toInt_le, Int32.toInt_zero] at *
      split
      · first | rfl | (exfalso; omega)
      · first | rfl | (exfalso; omega)
    · refine pm_iconst (v := 1) dX9_isDepth_11 (by decide) ?_
      refine pm_goto (tgt := 16) dX9_isDepth_12 (by decide) ?_
      refine pm_zret dX9_isDepth_16 rfl (Or.inr rfl) (Nat.zero_le _) (Nat.zero_le _) ?_
      refine ⟨rfl, rfl, ?_⟩
      unfold cd_isDepth md_isIn
      simp only [Int32.lt_iff_toInt_lt, Int32.le_iff_toInt_le, Int32.toInt_zero] at *
      split
      · first | rfl | (exfalso; omega)
      · first | rfl | (exfalso; omega)
def cd_isAnyTime (v : Int32) : Int32 := md_isIn v 0 3000
-- isAnyTime
set_option maxHeartbeats 4000000 in
set_option maxRecDepth 100000 in
theorem k_X9_isAnyTime {gs : List String} {ro : pm_RO} (n : Nat) (w : Nat → va_E) (v : Int32) : pm_Met gs ro M_X9_isAnyTime 0 0 0 [.int v] n w (fun rr n1 w1 => n1 = n ∧ w1 = w ∧ rr = some (.int (cd_isAnyTime v))) := by
  refine pm_ofX in_X9_isAnyTime (Nat.le_of_ble_eq_true rfl) rfl (L := [some (.int v)]) rfl ?_
  refine pm_iload_n dX9_isAnyTime_0 rfl ?_
  refine pm_if_lt (tgt := 15) dX9_isAnyTime_1 (by decide) (fun c_1 => ?_) (fun c_1 => ?_)
  · refine pm_iconst (v := 0) dX9_isAnyTime_15 (by decide) ?_
    refine pm_zret dX9_isAnyTime_16 rfl (Or.inl rfl) (Nat.zero_le _) (Nat.zero_le _) ?_
    refine ⟨rfl, rfl, ?_⟩
    unfold cd_isAnyTime md_isIn
    simp only [Int32.lt_iff_toInt_lt, Int32.le_iff_toInt_le, Int32.toInt_zero] at *
    split
    · first | rfl | (exfalso; omega)
    · first | rfl | (exfalso; omega)
  · refine pm_iload_n dX9_isAnyTime_4 rfl ?_
    refine pm_sipush (v := 3000) dX9_isAnyTime_5 (by decide) ?_
    refine pm_icmp_gt (tgt := 15) dX9_isAnyTime_8 (by decide) (fun c_8 => ?_) (fun c_8 => ?_)
    · refine pm_iconst (v := 0) dX9_isAnyTime_15 (by decide) ?_
      refine pm_zret dX9_isAnyTime_16 rfl (Or.inl rfl) (Nat.zero_le _) (Nat.zero_le _) ?_
      refine ⟨rfl, rfl, ?_⟩
      unfold cd_isAnyTime md_isIn
      simp only [Int32.lt_iff_toInt_lt, Int32.le_iff_toInt_le, Int32.toInt_zero] at *
      split
      · first | rfl | (exfalso; omega)
      · first | rfl | (exfalso; omega)
    · refine pm_iconst (v := 1) dX9_isAnyTime_11 (by decide) ?_
      refine pm_goto (tgt := 16) dX9_isAnyTime_12 (by decide) ?_
      refine pm_zret dX9_isAnyTime_16 rfl (Or.inr rfl) (Nat.zero_le _) (Nat.zero_le _) ?_
      refine ⟨rfl, rfl, ?_⟩
      unfold cd_isAnyTime md_isIn
      simp only [Int32.lt_iff_toInt_lt, Int32.le_iff_toInt_le, Int32.toInt_zero] at *
      split
      · first | rfl | (exfalso; omega)
      · first | rfl | (exfalso; omega)
theorem lowbit2 : ∀ a, a < 55 → ∀ b, b < 55 → 0 < 55 * a + b → nI (55 * a + b) &&& -nI (55 * a + b) = nI (2 ^ tz (55 * a + b)) := by decide +kernel
theorem lowbit (K : Nat) (h : K < 3001) (h0 : 0 < K) : nI K &&& -nI K = nI (2 ^ tz K) := by
  have := lowbit2 (K / 55) (by omega) (K % 55) (by omega)
  rw [Nat.div_add_mod] at this
  exact this h0
theorem wc_no {now e k : Nat} (h : wb k now e = false) : wc now e (k + 1) = wc now e k := by
  show wc now e k + (if wb k now e then 1 else 0) = _
  simp [h]
theorem wc_yes {now e k : Nat} (h : wb k now e = true) : wc now e (k + 1) = wc now e k + 1 := by
  show wc now e k + (if wb k now e then 1 else 0) = _
  simp [h]
theorem wb_pos {k now e : Nat} (h : 0 < k) : wb k now e = decide (now < gw k e) := by
  have : (k == 0) = false := by simp; omega
  simp [wb, this]
set_option maxHeartbeats 4000000 in
set_option maxRecDepth 100000 in
theorem k_X2_goesWith {gs : List String} {ro : pm_RO} {n : Nat} {w : Nat → va_E} {K E : Nat} (h0 : 0 < K) (hK : K ≤ 3000) : pm_Met gs ro M_X2_goesWith 0 0 0 [.int (nI K), .int (nI E)] n w (pm_p n w (some (.int (nI (gw K E))))) := by
  refine pm_ofX in_X2_goesWith (Nat.le_of_ble_eq_true rfl) rfl (L := [some (.int (nI K)), some (.int (nI E))]) rfl ?_
  refine pm_iload_n dX2_goesWith_0 rfl ?_
  refine pm_iload_n dX2_goesWith_1 rfl ?_
  refine pm_iload_n dX2_goesWith_2 rfl ?_
  refine pm_iload_n dX2_goesWith_3 rfl ?_
  refine pm_ineg dX2_goesWith_4 ?_
  refine pm_iand dX2_goesWith_5 ?_
  refine pm_i (y := (nI (2 ^ tz K))) (lowbit K (by omega) h0) ?_
  refine pm_imul dX2_goesWith_6 ?_
  refine pm_i (y := (nI (E * 2 ^ tz K))) (pk_mul _ _) ?_
  refine pm_iadd dX2_goesWith_7 ?_
  refine pm_i (y := (nI (gw K E))) (nI_add K _) ?_
  refine pm_iret dX2_goesWith_8 rfl (Nat.zero_le _) (Nat.zero_le _) ?_
  exact ⟨rfl, rfl, rfl⟩
set_option maxHeartbeats 4000000 in
set_option maxRecDepth 100000 in
theorem k_X2_isHeldStill {gs : List String} {ro : pm_RO} {n : Nat} {w : Nat → va_E} {K E N : Nat} (h0 : 0 < K) (hK : K ≤ 3000) (hE : E ≤ 8) (hN : N ≤ 3000) : pm_Met gs ro M_X2_isHeldStill 1 0 0 [.int (nI K), .int (nI E), .int (nI N)] n w (pm_p n w (some (.int (if wb K N E then (1 : Int32) else 0)))) := by
  have hg := gw_le h0 hK hE
  refine pm_ofX in_X2_isHeldStill (Nat.le_of_ble_eq_true rfl) rfl (L := [some (.int (nI K)), some (.int (nI E)), some (.int (nI N))]) rfl ?_
  refine pm_iload_n dX2_isHeldStill_0 rfl ?_
  refine pm_iload_n dX2_isHeldStill_1 rfl ?_
  refine rg_cS (M := M_X2_isHeldStill) (Mc := M_X2_goesWith) (dc := 0) (As := [.int (nI K), .int (nI E)]) (st := []) dX2_isHeldStill_2 ml_X2_33 (by decide) (Nat.le_refl _) (Nat.le_refl _) (Nat.le_of_ble_eq_true rfl) rfl (k_X2_goesWith h0 hK) (fun r n1 w1 hq => ?_)
  obtain ⟨e1, e2, e3⟩ := hq
  rw [e1, e2, e3]
  clear e1 e2 e3
  dsimp only [Option.toList, List.cons_append, List.nil_append]
  refine pm_iload_n dX2_isHeldStill_5 rfl ?_
  refine pm_icmp_le (tgt := 13) dX2_isHeldStill_6 (by decide) (fun c_6 => ?_) (fun c_6 => ?_)
  · refine pm_iconst (v := 0) dX2_isHeldStill_13 (by decide) ?_
    refine pm_zret dX2_isHeldStill_14 rfl (Or.inl rfl) (Nat.zero_le _) (Nat.zero_le _) ?_
    refine ⟨rfl, rfl, ?_⟩
    rw [wb_pos h0]
    first
      | (have hh : N < gw K E := by
          rcases Nat.lt_or_ge N (gw K E) with z | z
          · exact z
          · exact absurd (nI_le z (by omega)) c_6
         simp [hh])
      | (have hh : ¬ N < gw K E := fun z => absurd c_6 (nI_ge z (by omega))
         simp [hh])
  · refine pm_iconst (v := 1) dX2_isHeldStill_9 (by decide) ?_
    refine pm_goto (tgt := 14) dX2_isHeldStill_10 (by decide) ?_
    refine pm_zret dX2_isHeldStill_14 rfl (Or.inr rfl) (Nat.zero_le _) (Nat.zero_le _) ?_
    refine ⟨rfl, rfl, ?_⟩
    rw [wb_pos h0]
    first
      | (have hh : N < gw K E := by
          rcases Nat.lt_or_ge N (gw K E) with z | z
          · exact z
          · exact absurd (nI_le z (by omega)) c_6
         simp [hh])
      | (have hh : ¬ N < gw K E := fun z => absurd c_6 (nI_ge z (by omega))
         simp [hh])
set_option maxHeartbeats 4000000 in
set_option maxRecDepth 100000 in
theorem k_X9_wouldBeHeld {gs : List String} {ro : pm_RO} {n : Nat} {w : Nat → va_E} {U E T : Nat} (hU0 : 0 < U) (hU : U ≤ 64) (hE : E ≤ 8) (hT : T ≤ 3000) : pm_Met gs ro M_X9_wouldBeHeld 2 0 0 [.int (nI U), .int (nI E), .int (nI T)] n w (pm_p n w (some (.int (nI (wc (T / U) E (T / U + 1)))))) := by
  have hTU := Nat.div_le_self T U
  refine pm_ofX in_X9_wouldBeHeld (Nat.le_of_ble_eq_true rfl) rfl (L := [some (.int (nI U)), some (.int (nI E)), some (.int (nI T)), none, none, none]) rfl ?_
  refine pm_iload_n dX9_wouldBeHeld_0 rfl ?_
  refine pm_iconst (v := 1) dX9_wouldBeHeld_1 (by decide) ?_
  refine pm_icmp_ge (tgt := 7) dX9_wouldBeHeld_2 (by decide) (fun c_2 => ?_) (fun c_2 => absurd (nI_le (a := 1) (b := U) hU0 (by omega)) c_2)
  refine pm_iload_n dX9_wouldBeHeld_7 rfl ?_
  refine pm_iload_n dX9_wouldBeHeld_8 rfl ?_
  refine pm_idiv dX9_wouldBeHeld_9 (nI_ne0 hU0 (by omega)) ?_
  refine pm_i (y := (nI (T / U))) (pk_div (by omega) (by omega) (by omega)) ?_
  refine pm_istore_n dX9_wouldBeHeld_10 (by decide) rfl rfl ?_
  refine pm_iconst (v := 1) dX9_wouldBeHeld_11 (by decide) ?_
  refine pm_istore dX9_wouldBeHeld_12 (by decide) rfl rfl ?_
  refine pm_iconst (v := 1) dX9_wouldBeHeld_14 (by decide) ?_
  refine pm_istore dX9_wouldBeHeld_15 (by decide) rfl rfl ?_
  have LP : ∀ (f k : Nat), k + f = (T / U) → pm_X gs ro M_X9_wouldBeHeld 2 0 0 0 0 17 [some (.int (nI U)), some (.int (nI E)), some (.int (nI T)), some (.int (nI (T / U))), some (.int (nI (wc (T / U) E (k + 1)))), some (.int (nI (k + 1)))] [] n w (pm_p n w (some (.int (nI (wc (T / U) E (T / U + 1)))))) := by
    intro f
    induction f with
    | zero =>
      intro k hk
      have hk : k = (T / U) := hk
      subst hk
      refine pm_iload dX9_wouldBeHeld_17 rfl ?_
      refine pm_iload_n dX9_wouldBeHeld_19 rfl ?_
      refine pm_icmp_gt (tgt := 42) dX9_wouldBeHeld_20 (by decide) (fun c_20 => ?_) (fun c_20 => absurd (nI_lt (Nat.lt_succ_self _) (by omega)) c_20)
      refine pm_iload dX9_wouldBeHeld_42 rfl ?_
      refine pm_iret dX9_wouldBeHeld_44 rfl (Nat.zero_le _) (Nat.zero_le _) ?_
      exact ⟨rfl, rfl, rfl⟩
    | succ f ih =>
      intro k hk
      have hlt : k < (T / U) := by omega
      refine pm_iload dX9_wouldBeHeld_17 rfl ?_
      refine pm_iload_n dX9_wouldBeHeld_19 rfl ?_
      refine pm_icmp_gt (tgt := 42) dX9_wouldBeHeld_20 (by decide) (fun c_20 => absurd c_20 (nI_nlt (a := T / U) (b := k + 1) (by omega) (by omega))) (fun c_20 => ?_)
      refine pm_iload dX9_wouldBeHeld_23 rfl ?_
      refine pm_iload_n dX9_wouldBeHeld_25 rfl ?_
      refine pm_iload_n dX9_wouldBeHeld_26 rfl ?_
      refine rg_cS (M := M_X9_wouldBeHeld) (Mc := M_X2_isHeldStill) (dc := 1) (As := [.int (nI (k + 1)), .int (nI E), .int (nI (T / U))]) (st := []) dX9_wouldBeHeld_27 ml_X9_293 (by decide) (Nat.le_refl _) (Nat.le_refl _) (Nat.le_of_ble_eq_true rfl) rfl (k_X2_isHeldStill (Nat.succ_pos k) (by omega) hE (by omega)) (fun r n1 w1 hq => ?_)
      obtain ⟨e1, e2, e3⟩ := hq
      rw [e1, e2, e3]
      clear e1 e2 e3
      dsimp only [Option.toList, List.cons_append, List.nil_append]
      refine pm_if_eq (tgt := 36) dX9_wouldBeHeld_30 (by decide) (fun c_30 => ?_) (fun c_30 => ?_)
      · refine pm_iinc (v := (nI ((k + 1) + 1))) dX9_wouldBeHeld_36 rfl (nI_1 _) (by decide) rfl rfl ?_
        refine pm_goto (tgt := 17) dX9_wouldBeHeld_39 (by decide) ?_
        refine pm_l (L' := [some (.int (nI U)), some (.int (nI E)), some (.int (nI T)), some (.int (nI (T / U))), some (.int (nI (wc (T / U) E ((k + 1) + 1)))), some (.int (nI ((k + 1) + 1)))]) (by first | (rw [wc_yes (b_yes c_30)]; done) | (rw [wc_yes (b_yes c_30)]; rfl) | (rw [wc_no (b_no c_30)]; done) | (rw [wc_no (b_no c_30)]; rfl)) ?_
        exact ih (k + 1) (by omega)
      · refine pm_iinc (v := (nI ((wc (T / U) E (k + 1)) + 1))) dX9_wouldBeHeld_33 rfl (nI_1 _) (by decide) rfl rfl ?_
        refine pm_iinc (v := (nI ((k + 1) + 1))) dX9_wouldBeHeld_36 rfl (nI_1 _) (by decide) rfl rfl ?_
        refine pm_goto (tgt := 17) dX9_wouldBeHeld_39 (by decide) ?_
        refine pm_l (L' := [some (.int (nI U)), some (.int (nI E)), some (.int (nI T)), some (.int (nI (T / U))), some (.int (nI (wc (T / U) E ((k + 1) + 1)))), some (.int (nI ((k + 1) + 1)))]) (by first | (rw [wc_yes (b_yes c_30)]; done) | (rw [wc_yes (b_yes c_30)]; rfl) | (rw [wc_no (b_no c_30)]; done) | (rw [wc_no (b_no c_30)]; rfl)) ?_
        exact ih (k + 1) (by omega)
  have LP0 := LP ((T / U)) 0 (Nat.zero_add _)
  first | exact LP0 | (rw [nI_0] at LP0; exact LP0)
