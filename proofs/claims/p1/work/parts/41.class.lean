theorem dX9_would_0 : decode cX9_would 0 = .ok (.iload_n 1, 1) := by decide +kernel
theorem dX9_would_1 : decode cX9_would 1 = .ok (.invokestatic 78, 3) := by decide +kernel
theorem dX9_would_4 : decode cX9_would 4 = .ok (.ifCond .eq 17, 3) := by decide +kernel
theorem dX9_would_7 : decode cX9_would 7 = .ok (.iload_n 2, 1) := by decide +kernel
theorem dX9_would_8 : decode cX9_would 8 = .ok (.invokestatic 81, 3) := by decide +kernel
theorem dX9_would_11 : decode cX9_would 11 = .ok (.ifCond .eq 10, 3) := by decide +kernel
theorem dX9_would_14 : decode cX9_would 14 = .ok (.iload_n 3, 1) := by decide +kernel
theorem dX9_would_15 : decode cX9_would 15 = .ok (.invokestatic 286, 3) := by decide +kernel
theorem dX9_would_18 : decode cX9_would 18 = .ok (.ifCond .ne 5, 3) := by decide +kernel
theorem dX9_would_21 : decode cX9_would 21 = .ok (.iconst (-1), 1) := by decide +kernel
theorem dX9_would_22 : decode cX9_would 22 = .ok (.ireturn, 1) := by decide +kernel
theorem dX9_would_23 : decode cX9_would 23 = .ok (.iload_n 1, 1) := by decide +kernel
theorem dX9_would_24 : decode cX9_would 24 = .ok (.iload_n 2, 1) := by decide +kernel
theorem dX9_would_25 : decode cX9_would 25 = .ok (.iload_n 3, 1) := by decide +kernel
theorem dX9_would_26 : decode cX9_would 26 = .ok (.invokestatic 289, 3) := by decide +kernel
theorem dX9_would_29 : decode cX9_would 29 = .ok (.ireturn, 1) := by decide +kernel
def cr_would (a c e : Int32) : Int32 := if cd_isUnit a = 0 ∨ cd_isDepth c = 0 ∨ cd_isAnyTime e = 0 then -1 else nI (wc (e.toNatClampNeg / a.toNatClampNeg) c.toNatClampNeg (e.toNatClampNeg / a.toNatClampNeg + 1))
theorem cr_sp {a c e : Int32} (h1 : ¬ cd_isUnit a = 0) (h2 : ¬ cd_isDepth c = 0) (h3 : ¬ cd_isAnyTime e = 0) : ∃ U E T : Nat, a = nI U ∧ c = nI E ∧ e = nI T ∧ 0 < U ∧ U ≤ 64 ∧ E ≤ 8 ∧ T ≤ 3000 := by
  have hs : ¬ md_isSpacing a c = 0 := by
    unfold md_isSpacing
    rw [if_neg (show ¬ md_isIn a 1 64 = 0 from h1)]
    exact h2
  obtain ⟨U, E, rfl, rfl, b1, b2, b3, b4⟩ := md_sp hs
  obtain ⟨T, rfl, b5⟩ := md_t h3
  exact ⟨U, E, T, rfl, rfl, rfl, b1, b2, b4, b5⟩
theorem cr_would_n {U E T : Nat} (h1 : ¬ cd_isUnit (nI U) = 0) (h2 : ¬ cd_isDepth (nI E) = 0) (h3 : ¬ cd_isAnyTime (nI T) = 0) (hU : U ≤ 64) (hE : E ≤ 8) (hT : T ≤ 3000) : cr_would (nI U) (nI E) (nI T) = nI (wc (T / U) E (T / U + 1)) := by
  unfold cr_would
  rw [if_neg (not_or.mpr ⟨h1, not_or.mpr ⟨h2, h3⟩⟩), nI_clamp (by omega), nI_clamp (by omega), nI_clamp (by omega)]
/-- the class and the reference answer would alike -/
theorem would_eq (a c e : Int32) : cr_would a c e = mr_would a c e := by
  unfold cr_would mr_would md_isSpacing cd_isUnit cd_isDepth cd_isAnyTime
  by_cases h1 : md_isIn a 1 64 = 0
  · simp [h1]
  · simp [h1, or_assoc]
set_option maxHeartbeats 4000000 in
set_option maxRecDepth 100000 in
theorem k_X9_would {gs : List String} {ro : pm_RO} {n : Nat} {w : Nat → va_E} {a0 : Nat} (a c e : Int32) : pm_Met gs ro M_X9_would 3 0 0 [.ref a0, .int a, .int c, .int e] n w (pm_p n w (some (.int (cr_would a c e)))) := by
  refine pm_ofX in_X9_would (Nat.le_of_ble_eq_true rfl) rfl (L := [some (.ref a0), some (.int a), some (.int c), some (.int e)]) rfl ?_
  refine pm_iload_n dX9_would_0 rfl ?_
  refine pm_callS (M := M_X9_would) (Mc := M_X9_isUnit) (roc := ro) (dc := 0) (mcc := 0) (msc := 0) (As := [.int a]) (st := []) dX9_would_1 ml_X9_78 (fun _ _ h => h) (by decide) (Nat.le_refl _) (Nat.le_refl _) (Nat.le_of_ble_eq_true rfl) rfl (k_X9_isUnit _ _ _) (fun r n1 w1 hq _ => ?_)
  obtain ⟨e1, e2, e3⟩ := hq
  rw [e1, e2, e3]
  clear e1 e2 e3
  dsimp only [Option.toList, List.cons_append, List.nil_append]
  refine pm_if_eq (tgt := 21) dX9_would_4 (by decide) (fun c_4 => ?_) (fun c_4 => ?_)
  · refine pm_iconst (v := (-1)) dX9_would_21 (by decide) ?_
    refine pm_iret dX9_would_22 rfl (Nat.zero_le _) (Nat.zero_le _) ?_
    first
      | exact ⟨rfl, rfl, rfl⟩
      | (refine ⟨rfl, rfl, ?_⟩; simp [cr_would, *])
  · refine pm_iload_n dX9_would_7 rfl ?_
    refine pm_callS (M := M_X9_would) (Mc := M_X9_isDepth) (roc := ro) (dc := 0) (mcc := 0) (msc := 0) (As := [.int c]) (st := []) dX9_would_8 ml_X9_81 (fun _ _ h => h) (by decide) (Nat.le_refl _) (Nat.le_refl _) (Nat.le_of_ble_eq_true rfl) rfl (k_X9_isDepth _ _ _) (fun r n1 w1 hq _ => ?_)
    obtain ⟨e1, e2, e3⟩ := hq
    rw [e1, e2, e3]
    clear e1 e2 e3
    dsimp only [Option.toList, List.cons_append, List.nil_append]
    refine pm_if_eq (tgt := 21) dX9_would_11 (by decide) (fun c_11 => ?_) (fun c_11 => ?_)
    · refine pm_iconst (v := (-1)) dX9_would_21 (by decide) ?_
      refine pm_iret dX9_would_22 rfl (Nat.zero_le _) (Nat.zero_le _) ?_
      first
        | exact ⟨rfl, rfl, rfl⟩
        | (refine ⟨rfl, rfl, ?_⟩; simp [cr_would, *])
    · refine pm_iload_n dX9_would_14 rfl ?_
      refine pm_callS (M := M_X9_would) (Mc := M_X9_isAnyTime) (roc := ro) (dc := 0) (mcc := 0) (msc := 0) (As := [.int e]) (st := []) dX9_would_15 ml_X9_286 (fun _ _ h => h) (by decide) (Nat.le_refl _) (Nat.le_refl _) (Nat.le_of_ble_eq_true rfl) rfl (k_X9_isAnyTime _ _ _) (fun r n1 w1 hq _ => ?_)
      obtain ⟨e1, e2, e3⟩ := hq
      rw [e1, e2, e3]
      clear e1 e2 e3
      dsimp only [Option.toList, List.cons_append, List.nil_append]
      refine pm_if_ne (tgt := 23) dX9_would_18 (by decide) (fun c_18 => ?_) (fun c_18 => ?_)
      · obtain ⟨U, E, T, rfl, rfl, rfl, hU0, hU, hE, hT⟩ := cr_sp c_4 c_11 c_18
        have hTU := Nat.div_le_self T U
        rw [cr_would_n c_4 c_11 c_18 hU hE hT]
        refine pm_iload_n dX9_would_23 rfl ?_
        refine pm_iload_n dX9_would_24 rfl ?_
        refine pm_iload_n dX9_would_25 rfl ?_
        refine rg_cS (M := M_X9_would) (Mc := M_X9_wouldBeHeld) (dc := 2) (As := [.int (nI U), .int (nI E), .int (nI T)]) (st := []) dX9_would_26 ml_X9_289 (by decide) (Nat.le_refl _) (Nat.le_refl _) (Nat.le_of_ble_eq_true rfl) rfl (k_X9_wouldBeHeld hU0 hU hE hT) (fun r n1 w1 hq => ?_)
        obtain ⟨e1, e2, e3⟩ := hq
        rw [e1, e2, e3]
        clear e1 e2 e3
        dsimp only [Option.toList, List.cons_append, List.nil_append]
        refine pm_iret dX9_would_29 rfl (Nat.zero_le _) (Nat.zero_le _) ?_
        first
          | exact ⟨rfl, rfl, rfl⟩
          | (refine ⟨rfl, rfl, ?_⟩; simp [cr_would, *])
      · refine pm_iconst (v := (-1)) dX9_would_21 (by decide) ?_
        refine pm_iret dX9_would_22 rfl (Nat.zero_le _) (Nat.zero_le _) ?_
        first
          | exact ⟨rfl, rfl, rfl⟩
          | (refine ⟨rfl, rfl, ?_⟩; simp [cr_would, *])
/-- the class's gap: the widest closed gap and the latest held, behind the first k numbers -/
def cg (U E N : Nat) : Nat → Nat × Nat
  | 0 => (0, 0)
  | k + 1 => if wb (k + 1) N E = true then (max (cg U E N k).1 ((k + 1) * U - 1 - (cg U E N k).2), (k + 1) * U) else cg U E N k
theorem cg_le (U E N k : Nat) : (cg U E N k).1 ≤ k * U ∧ (cg U E N k).2 ≤ k * U := by
  induction k with
  | zero => exact ⟨Nat.zero_le _, Nat.zero_le _⟩
  | succ k ih =>
    have hk : k * U ≤ (k + 1) * U := Nat.mul_le_mul_right U (Nat.le_succ k)
    unfold cg
    split
    · exact ⟨by dsimp only; omega, Nat.le_refl _⟩
    · exact ⟨Nat.le_trans ih.1 hk, Nat.le_trans ih.2 hk⟩
theorem cg_yes {U E N k : Nat} (h : wb (k + 1) N E = true) : cg U E N (k + 1) = (max (cg U E N k).1 ((k + 1) * U - 1 - (cg U E N k).2), (k + 1) * U) := by
  show (if wb (k + 1) N E = true then _ else _) = _
  rw [if_pos h]
theorem cg_no {U E N k : Nat} (h : wb (k + 1) N E = false) : cg U E N (k + 1) = cg U E N k := by
  show (if wb (k + 1) N E = true then _ else _) = _
  rw [if_neg (by rw [h]; decide)]
def cr_gap (a c e : Int32) : Int32 := if cd_isUnit a = 0 ∨ cd_isDepth c = 0 ∨ cd_isAnyTime e = 0 then -1 else nI (max (cg a.toNatClampNeg c.toNatClampNeg (e.toNatClampNeg / a.toNatClampNeg) (e.toNatClampNeg / a.toNatClampNeg)).1 (e.toNatClampNeg - (cg a.toNatClampNeg c.toNatClampNeg (e.toNatClampNeg / a.toNatClampNeg) (e.toNatClampNeg / a.toNatClampNeg)).2))
theorem cr_gap_n {U E T : Nat} (h1 : ¬ cd_isUnit (nI U) = 0) (h2 : ¬ cd_isDepth (nI E) = 0) (h3 : ¬ cd_isAnyTime (nI T) = 0) (hU : U ≤ 64) (hE : E ≤ 8) (hT : T ≤ 3000) : cr_gap (nI U) (nI E) (nI T) = nI (max (cg U E (T / U) (T / U)).1 (T - (cg U E (T / U) (T / U)).2)) := by
  unfold cr_gap
  rw [if_neg (not_or.mpr ⟨h1, not_or.mpr ⟨h2, h3⟩⟩), nI_clamp (by omega), nI_clamp (by omega), nI_clamp (by omega)]
