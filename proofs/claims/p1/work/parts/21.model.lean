theorem dX10_would_0 : decode cX10_would 0 = .ok (.iload_n 1, 1) := by decide +kernel
theorem dX10_would_1 : decode cX10_would 1 = .ok (.iload_n 2, 1) := by decide +kernel
theorem dX10_would_2 : decode cX10_would 2 = .ok (.invokestatic 150, 3) := by decide +kernel
theorem dX10_would_5 : decode cX10_would 5 = .ok (.ifCond .eq 24, 3) := by decide +kernel
theorem dX10_would_8 : decode cX10_would 8 = .ok (.iload_n 3, 1) := by decide +kernel
theorem dX10_would_9 : decode cX10_would 9 = .ok (.iconst 0, 1) := by decide +kernel
theorem dX10_would_10 : decode cX10_would 10 = .ok (.sipush 3000, 3) := by decide +kernel
theorem dX10_would_13 : decode cX10_would 13 = .ok (.invokestatic 138, 3) := by decide +kernel
theorem dX10_would_16 : decode cX10_would 16 = .ok (.ifCond .eq 13, 3) := by decide +kernel
theorem dX10_would_19 : decode cX10_would 19 = .ok (.aload_n 0, 1) := by decide +kernel
theorem dX10_would_20 : decode cX10_would 20 = .ok (.iload_n 1, 1) := by decide +kernel
theorem dX10_would_21 : decode cX10_would 21 = .ok (.iload_n 2, 1) := by decide +kernel
theorem dX10_would_22 : decode cX10_would 22 = .ok (.iload_n 3, 1) := by decide +kernel
theorem dX10_would_23 : decode cX10_would 23 = .ok (.invokevirtual 339, 3) := by decide +kernel
theorem dX10_would_26 : decode cX10_would 26 = .ok (.goto 4, 3) := by decide +kernel
theorem dX10_would_29 : decode cX10_would 29 = .ok (.iconst (-1), 1) := by decide +kernel
theorem dX10_would_30 : decode cX10_would 30 = .ok (.ireturn, 1) := by decide +kernel
theorem dX10_wouldOf_0 : decode cX10_wouldOf 0 = .ok (.iconst 0, 1) := by decide +kernel
theorem dX10_wouldOf_1 : decode cX10_wouldOf 1 = .ok (.istore 4, 2) := by decide +kernel
theorem dX10_wouldOf_3 : decode cX10_wouldOf 3 = .ok (.iconst 0, 1) := by decide +kernel
theorem dX10_wouldOf_4 : decode cX10_wouldOf 4 = .ok (.istore 5, 2) := by decide +kernel
theorem dX10_wouldOf_6 : decode cX10_wouldOf 6 = .ok (.iload 5, 2) := by decide +kernel
theorem dX10_wouldOf_8 : decode cX10_wouldOf 8 = .ok (.iload_n 3, 1) := by decide +kernel
theorem dX10_wouldOf_9 : decode cX10_wouldOf 9 = .ok (.iload_n 1, 1) := by decide +kernel
theorem dX10_wouldOf_10 : decode cX10_wouldOf 10 = .ok (.idiv, 1) := by decide +kernel
theorem dX10_wouldOf_11 : decode cX10_wouldOf 11 = .ok (.if_icmp .gt 27, 3) := by decide +kernel
theorem dX10_wouldOf_14 : decode cX10_wouldOf 14 = .ok (.iload 4, 2) := by decide +kernel
theorem dX10_wouldOf_16 : decode cX10_wouldOf 16 = .ok (.aload_n 0, 1) := by decide +kernel
theorem dX10_wouldOf_17 : decode cX10_wouldOf 17 = .ok (.iload 5, 2) := by decide +kernel
theorem dX10_wouldOf_19 : decode cX10_wouldOf 19 = .ok (.iload_n 3, 1) := by decide +kernel
theorem dX10_wouldOf_20 : decode cX10_wouldOf 20 = .ok (.iload_n 1, 1) := by decide +kernel
theorem dX10_wouldOf_21 : decode cX10_wouldOf 21 = .ok (.idiv, 1) := by decide +kernel
theorem dX10_wouldOf_22 : decode cX10_wouldOf 22 = .ok (.iload_n 2, 1) := by decide +kernel
theorem dX10_wouldOf_23 : decode cX10_wouldOf 23 = .ok (.invokevirtual 336, 3) := by decide +kernel
theorem dX10_wouldOf_26 : decode cX10_wouldOf 26 = .ok (.invokestatic 154, 3) := by decide +kernel
theorem dX10_wouldOf_29 : decode cX10_wouldOf 29 = .ok (.iadd, 1) := by decide +kernel
theorem dX10_wouldOf_30 : decode cX10_wouldOf 30 = .ok (.istore 4, 2) := by decide +kernel
theorem dX10_wouldOf_32 : decode cX10_wouldOf 32 = .ok (.iinc 5 1, 3) := by decide +kernel
theorem dX10_wouldOf_35 : decode cX10_wouldOf 35 = .ok (.goto (-29), 3) := by decide +kernel
theorem dX10_wouldOf_38 : decode cX10_wouldOf 38 = .ok (.iload 4, 2) := by decide +kernel
theorem dX10_wouldOf_40 : decode cX10_wouldOf 40 = .ok (.ireturn, 1) := by decide +kernel
theorem wc_step (now e k : Nat) : nI (wc now e k) + md_one (if wb k now e then (1 : Int32) else 0) = nI (wc now e (k + 1)) := by
  show _ = nI (wc now e k + (if wb k now e then 1 else 0))
  cases h : wb k now e
  · simp [md_one]
  · simp only [if_true, md_one]
    rw [if_neg (by decide)]
    exact nI_1 _
set_option maxHeartbeats 4000000 in
set_option maxRecDepth 100000 in
theorem k_X10_wouldOf {gs : List String} {ro : pm_RO} {n : Nat} {w : Nat → va_E} {b : Nat} {u : rg_U} (hR : rg shM b u n w) {U E T : Nat} (hU0 : 0 < U) (hU : U ≤ 64) (hE : E ≤ 8) (hT : T ≤ 3000) : pm_Met gs ro M_X10_wouldOf 3 0 0 [.ref (b + 0), .int (nI U), .int (nI E), .int (nI T)] n w (pm_p n w (some (.int (nI (wc (T / U) E (T / U + 1)))))) := by
  have hTU := Nat.div_le_self T U
  refine pm_ofX in_X10_wouldOf (Nat.le_of_ble_eq_true rfl) rfl (L := [some (.ref (b + 0)), some (.int (nI U)), some (.int (nI E)), some (.int (nI T)), none, none]) rfl ?_
  refine pm_iconst (v := 0) dX10_wouldOf_0 (by decide) ?_
  refine pm_istore dX10_wouldOf_1 (by decide) rfl rfl ?_
  refine pm_iconst (v := 0) dX10_wouldOf_3 (by decide) ?_
  refine pm_istore dX10_wouldOf_4 (by decide) rfl rfl ?_
  have LP : ∀ (f k : Nat), k + f = (T / U + 1) → pm_X gs ro M_X10_wouldOf 3 0 0 0 0 6 [some (.ref (b + 0)), some (.int (nI U)), some (.int (nI E)), some (.int (nI T)), some (.int (nI (wc (T / U) E k))), some (.int (nI k))] [] n w (pm_p n w (some (.int (nI (wc (T / U) E (T / U + 1)))))) := by
    intro f
    induction f with
    | zero =>
      intro k hk
      have hk : k = (T / U + 1) := hk
      subst hk
      refine pm_iload dX10_wouldOf_6 rfl ?_
      refine pm_iload_n dX10_wouldOf_8 rfl ?_
      refine pm_iload_n dX10_wouldOf_9 rfl ?_
      refine pm_idiv dX10_wouldOf_10 (nI_ne0 hU0 (by omega)) ?_
      refine pm_i (y := (nI (T / U))) (pk_div (by omega) (by omega) (by omega)) ?_
      refine pm_icmp_gt (tgt := 38) dX10_wouldOf_11 (by decide) (fun c_11 => ?_) (fun c_11 => absurd (nI_lt (Nat.lt_succ_self _) (by have := Nat.div_le_self T U; omega)) c_11)
      refine pm_iload dX10_wouldOf_38 rfl ?_
      refine pm_iret dX10_wouldOf_40 rfl (Nat.zero_le _) (Nat.zero_le _) ?_
      exact ⟨rfl, rfl, rfl⟩
    | succ f ih =>
      intro k hk
      have hlt : k < (T / U + 1) := by omega
      refine pm_iload dX10_wouldOf_6 rfl ?_
      refine pm_iload_n dX10_wouldOf_8 rfl ?_
      refine pm_iload_n dX10_wouldOf_9 rfl ?_
      refine pm_idiv dX10_wouldOf_10 (nI_ne0 hU0 (by omega)) ?_
      refine pm_i (y := (nI (T / U))) (pk_div (by omega) (by omega) (by omega)) ?_
      refine pm_icmp_gt (tgt := 38) dX10_wouldOf_11 (by decide) (fun c_11 => absurd c_11 (nI_nlt (by omega) (by have := Nat.div_le_self T U; omega))) (fun c_11 => ?_)
      refine pm_iload dX10_wouldOf_14 rfl ?_
      refine pm_aload_n dX10_wouldOf_16 rfl ?_
      refine pm_iload dX10_wouldOf_17 rfl ?_
      refine pm_iload_n dX10_wouldOf_19 rfl ?_
      refine pm_iload_n dX10_wouldOf_20 rfl ?_
      refine pm_idiv dX10_wouldOf_21 (nI_ne0 hU0 (by omega)) ?_
      refine pm_i (y := (nI (T / U))) (pk_div (by omega) (by omega) (by omega)) ?_
      refine pm_iload_n dX10_wouldOf_22 rfl ?_
      refine rg_cV (M := M_X10_wouldOf) (Mc := M_X10_wouldBe) (j := 0) (dc := 2) (As := [.int (nI k), .int (nI (T / U)), .int (nI E)]) (st := [.int (nI (wc (T / U) E k))]) hR dX10_wouldOf_23 ml_X10_336 ⟨TX10, 55, rfl⟩ rfl (by decide) (Nat.le_refl _) (Nat.le_refl _) (Nat.le_of_ble_eq_true rfl) rfl (k_X10_wouldBe hR (by omega) (by omega) hE) (fun r n1 w1 hq => ?_)
      obtain ⟨e1, e2, e3⟩ := hq
      rw [e1, e2, e3]
      clear e1 e2 e3
      dsimp only [Option.toList, List.cons_append, List.nil_append]
      refine pm_callS (M := M_X10_wouldOf) (Mc := M_X10_one) (roc := ro) (dc := 0) (mcc := 0) (msc := 0) (As := [.int (if wb k (T / U) E then (1 : Int32) else 0)]) (st := [.int (nI (wc (T / U) E k))]) dX10_wouldOf_26 ml_X10_154 (fun _ _ h => h) (by decide) (Nat.le_refl _) (Nat.le_refl _) (Nat.le_of_ble_eq_true rfl) rfl (k_X10_one _ _ _) (fun r n1 w1 hq _ => ?_)
      obtain ⟨e1, e2, e3⟩ := hq
      rw [e1, e2, e3]
      clear e1 e2 e3
      dsimp only [Option.toList, List.cons_append, List.nil_append]
      refine pm_iadd dX10_wouldOf_29 ?_
      refine pm_i (y := (nI (wc (T / U) E (k + 1)))) (wc_step _ _ _) ?_
      refine pm_istore dX10_wouldOf_30 (by decide) rfl rfl ?_
      refine pm_iinc (v := (nI (k + 1))) dX10_wouldOf_32 rfl (nI_1 _) (by decide) rfl rfl ?_
      refine pm_goto (tgt := 6) dX10_wouldOf_35 (by decide) ?_
      exact ih (k + 1) (by omega)
  have LP0 := LP ((T / U + 1)) 0 (Nat.zero_add _)
  first | exact LP0 | (rw [nI_0] at LP0; exact LP0)
theorem md_nat {v lo hi : Int32} (h : ¬ md_isIn v lo hi = 0) (h0 : 0 ≤ lo.toInt) : ∃ K : Nat, v = nI K ∧ lo.toInt ≤ (K : Int) ∧ (K : Int) ≤ hi.toInt := by
  rw [md_isIn_0] at h
  have h := Classical.not_not.mp h
  rw [Int32.le_iff_toInt_le, Int32.le_iff_toInt_le] at h
  obtain ⟨K, hK, rfl⟩ := nI_of (x := v) (by rw [Int32.lt_iff_toInt_lt, Int32.toInt_zero]; omega)
  rw [nI_toInt hK] at h
  exact ⟨K, rfl, h.1, h.2⟩
theorem md_sp {a c : Int32} (h : ¬ md_isSpacing a c = 0) : ∃ U E : Nat, a = nI U ∧ c = nI E ∧ 0 < U ∧ U ≤ 64 ∧ 0 < E ∧ E ≤ 8 := by
  unfold md_isSpacing at h
  by_cases q : md_isIn a 1 64 = 0
  · rw [if_pos q] at h; exact absurd rfl h
  · rw [if_neg q] at h
    obtain ⟨U, rfl, h1, h2⟩ := md_nat q (by decide)
    obtain ⟨E, rfl, h3, h4⟩ := md_nat h (by decide)
    refine ⟨U, E, rfl, rfl, ?_, ?_, ?_, ?_⟩
    · have : (1 : Int32).toInt = 1 := by decide
      omega
    · have : (64 : Int32).toInt = 64 := by decide
      omega
    · have : (1 : Int32).toInt = 1 := by decide
      omega
    · have : (8 : Int32).toInt = 8 := by decide
      omega
theorem md_t {e : Int32} (h : ¬ md_isIn e 0 3000 = 0) : ∃ T : Nat, e = nI T ∧ T ≤ 3000 := by
  obtain ⟨T, h1, -, h3⟩ := md_nat h (by decide)
  have : (3000 : Int32).toInt = 3000 := by decide
  exact ⟨T, h1, by omega⟩
def mr_would (a c e : Int32) : Int32 := if md_isSpacing a c = 0 ∨ md_isIn e 0 3000 = 0 then -1 else nI (wc (e.toNatClampNeg / a.toNatClampNeg) c.toNatClampNeg (e.toNatClampNeg / a.toNatClampNeg + 1))
theorem mr_would_n {U E T : Nat} (h : ¬ md_isSpacing (nI U) (nI E) = 0) (h2 : ¬ md_isIn (nI T) 0 3000 = 0) (hU : U ≤ 64) (hE : E ≤ 8) (hT : T ≤ 3000) : mr_would (nI U) (nI E) (nI T) = nI (wc (T / U) E (T / U + 1)) := by
  unfold mr_would
  rw [if_neg (not_or.mpr ⟨h, h2⟩), nI_clamp (by omega), nI_clamp (by omega), nI_clamp (by omega)]
set_option maxHeartbeats 4000000 in
set_option maxRecDepth 100000 in
theorem k_X10_would {gs : List String} {ro : pm_RO} {n : Nat} {w : Nat → va_E} {b : Nat} {u : rg_U} (hR : rg shM b u n w) (a c e : Int32) : pm_Met gs ro M_X10_would 4 0 0 [.ref (b + 0), .int a, .int c, .int e] n w (pm_p n w (some (.int (mr_would a c e)))) := by
  refine pm_ofX in_X10_would (Nat.le_of_ble_eq_true rfl) rfl (L := [some (.ref (b + 0)), some (.int a), some (.int c), some (.int e)]) rfl ?_
  refine pm_iload_n dX10_would_0 rfl ?_
  refine pm_iload_n dX10_would_1 rfl ?_
  refine pm_callS (M := M_X10_would) (Mc := M_X10_isSpacing) (roc := ro) (dc := 1) (mcc := 0) (msc := 0) (As := [.int a, .int c]) (st := []) dX10_would_2 ml_X10_150 (fun _ _ h => h) (by decide) (Nat.le_refl _) (Nat.le_refl _) (Nat.le_of_ble_eq_true rfl) rfl (k_X10_isSpacing _ _ _ _) (fun r n1 w1 hq _ => ?_)
  obtain ⟨e1, e2, e3⟩ := hq
  rw [e1, e2, e3]
  clear e1 e2 e3
  dsimp only [Option.toList, List.cons_append, List.nil_append]
  refine pm_if_eq (tgt := 29) dX10_would_5 (by decide) (fun c_5 => ?_) (fun c_5 => ?_)
  · refine pm_iconst (v := (-1)) dX10_would_29 (by decide) ?_
    refine pm_iret dX10_would_30 rfl (Nat.zero_le _) (Nat.zero_le _) ?_
    refine ⟨rfl, rfl, ?_⟩
    first
      | (rw [mr_would_n c_5 c_16 hU hE hT])
      | simp [mr_would, *]
  · refine pm_iload_n dX10_would_8 rfl ?_
    refine pm_iconst (v := 0) dX10_would_9 (by decide) ?_
    refine pm_sipush (v := 3000) dX10_would_10 (by decide) ?_
    refine pm_callS (M := M_X10_would) (Mc := M_X10_isIn) (roc := ro) (dc := 0) (mcc := 0) (msc := 0) (As := [.int e, .int 0, .int 3000]) (st := []) dX10_would_13 ml_X10_138 (fun _ _ h => h) (by decide) (Nat.le_refl _) (Nat.le_refl _) (Nat.le_of_ble_eq_true rfl) rfl (k_X10_isIn _ _ _ _ _) (fun r n1 w1 hq _ => ?_)
    obtain ⟨e1, e2, e3⟩ := hq
    rw [e1, e2, e3]
    clear e1 e2 e3
    dsimp only [Option.toList, List.cons_append, List.nil_append]
    refine pm_if_eq (tgt := 29) dX10_would_16 (by decide) (fun c_16 => ?_) (fun c_16 => ?_)
    · refine pm_iconst (v := (-1)) dX10_would_29 (by decide) ?_
      refine pm_iret dX10_would_30 rfl (Nat.zero_le _) (Nat.zero_le _) ?_
      refine ⟨rfl, rfl, ?_⟩
      first
        | (rw [mr_would_n c_5 c_16 hU hE hT])
        | simp [mr_would, *]
    · obtain ⟨U, E, rfl, rfl, hU0, hU, hE0, hE⟩ := md_sp c_5
      obtain ⟨T, rfl, hT⟩ := md_t c_16
      refine pm_aload_n dX10_would_19 rfl ?_
      refine pm_iload_n dX10_would_20 rfl ?_
      refine pm_iload_n dX10_would_21 rfl ?_
      refine pm_iload_n dX10_would_22 rfl ?_
      refine rg_cV (M := M_X10_would) (Mc := M_X10_wouldOf) (j := 0) (dc := 3) (As := [.int (nI U), .int (nI E), .int (nI T)]) (st := []) hR dX10_would_23 ml_X10_339 ⟨TX10, 55, rfl⟩ rfl (by decide) (Nat.le_refl _) (Nat.le_refl _) (Nat.le_of_ble_eq_true rfl) rfl (k_X10_wouldOf hR hU0 hU hE hT) (fun r n1 w1 hq => ?_)
      obtain ⟨e1, e2, e3⟩ := hq
      rw [e1, e2, e3]
      clear e1 e2 e3
      dsimp only [Option.toList, List.cons_append, List.nil_append]
      refine pm_goto (tgt := 30) dX10_would_26 (by decide) ?_
      refine pm_iret dX10_would_30 rfl (Nat.zero_le _) (Nat.zero_le _) ?_
      refine ⟨rfl, rfl, ?_⟩
      first
        | (rw [mr_would_n c_5 c_16 hU hE hT])
        | simp [mr_would, *]
