theorem dX10_gap_0 : decode cX10_gap 0 = .ok (.iload_n 1, 1) := by decide +kernel
theorem dX10_gap_1 : decode cX10_gap 1 = .ok (.iload_n 2, 1) := by decide +kernel
theorem dX10_gap_2 : decode cX10_gap 2 = .ok (.invokestatic 150, 3) := by decide +kernel
theorem dX10_gap_5 : decode cX10_gap 5 = .ok (.ifCond .eq 14, 3) := by decide +kernel
theorem dX10_gap_8 : decode cX10_gap 8 = .ok (.iload_n 3, 1) := by decide +kernel
theorem dX10_gap_9 : decode cX10_gap 9 = .ok (.iconst 0, 1) := by decide +kernel
theorem dX10_gap_10 : decode cX10_gap 10 = .ok (.sipush 3000, 3) := by decide +kernel
theorem dX10_gap_13 : decode cX10_gap 13 = .ok (.invokestatic 138, 3) := by decide +kernel
theorem dX10_gap_16 : decode cX10_gap 16 = .ok (.ifCond .ne 5, 3) := by decide +kernel
theorem dX10_gap_19 : decode cX10_gap 19 = .ok (.iconst (-1), 1) := by decide +kernel
theorem dX10_gap_20 : decode cX10_gap 20 = .ok (.ireturn, 1) := by decide +kernel
theorem dX10_gap_21 : decode cX10_gap 21 = .ok (.iconst 0, 1) := by decide +kernel
theorem dX10_gap_22 : decode cX10_gap 22 = .ok (.istore 4, 2) := by decide +kernel
theorem dX10_gap_24 : decode cX10_gap 24 = .ok (.iconst 0, 1) := by decide +kernel
theorem dX10_gap_25 : decode cX10_gap 25 = .ok (.istore 5, 2) := by decide +kernel
theorem dX10_gap_27 : decode cX10_gap 27 = .ok (.iconst 0, 1) := by decide +kernel
theorem dX10_gap_28 : decode cX10_gap 28 = .ok (.istore 6, 2) := by decide +kernel
theorem dX10_gap_30 : decode cX10_gap 30 = .ok (.iload 6, 2) := by decide +kernel
theorem dX10_gap_32 : decode cX10_gap 32 = .ok (.iload_n 3, 1) := by decide +kernel
theorem dX10_gap_33 : decode cX10_gap 33 = .ok (.if_icmp .gt 47, 3) := by decide +kernel
theorem dX10_gap_36 : decode cX10_gap 36 = .ok (.iload 6, 2) := by decide +kernel
theorem dX10_gap_38 : decode cX10_gap 38 = .ok (.iload_n 1, 1) := by decide +kernel
theorem dX10_gap_39 : decode cX10_gap 39 = .ok (.irem, 1) := by decide +kernel
theorem dX10_gap_40 : decode cX10_gap 40 = .ok (.ifCond .ne 22, 3) := by decide +kernel
theorem dX10_gap_43 : decode cX10_gap 43 = .ok (.aload_n 0, 1) := by decide +kernel
theorem dX10_gap_44 : decode cX10_gap 44 = .ok (.iload 6, 2) := by decide +kernel
theorem dX10_gap_46 : decode cX10_gap 46 = .ok (.iload_n 1, 1) := by decide +kernel
theorem dX10_gap_47 : decode cX10_gap 47 = .ok (.idiv, 1) := by decide +kernel
theorem dX10_gap_48 : decode cX10_gap 48 = .ok (.iload_n 3, 1) := by decide +kernel
theorem dX10_gap_49 : decode cX10_gap 49 = .ok (.iload_n 1, 1) := by decide +kernel
theorem dX10_gap_50 : decode cX10_gap 50 = .ok (.idiv, 1) := by decide +kernel
theorem dX10_gap_51 : decode cX10_gap 51 = .ok (.iload_n 2, 1) := by decide +kernel
theorem dX10_gap_52 : decode cX10_gap 52 = .ok (.invokevirtual 336, 3) := by decide +kernel
theorem dX10_gap_55 : decode cX10_gap 55 = .ok (.ifCond .eq 7, 3) := by decide +kernel
theorem dX10_gap_58 : decode cX10_gap 58 = .ok (.iload 6, 2) := by decide +kernel
theorem dX10_gap_60 : decode cX10_gap 60 = .ok (.istore 5, 2) := by decide +kernel
theorem dX10_gap_62 : decode cX10_gap 62 = .ok (.iload 4, 2) := by decide +kernel
theorem dX10_gap_64 : decode cX10_gap 64 = .ok (.iload 6, 2) := by decide +kernel
theorem dX10_gap_66 : decode cX10_gap 66 = .ok (.iload 5, 2) := by decide +kernel
theorem dX10_gap_68 : decode cX10_gap 68 = .ok (.isub, 1) := by decide +kernel
theorem dX10_gap_69 : decode cX10_gap 69 = .ok (.invokestatic 235, 3) := by decide +kernel
theorem dX10_gap_72 : decode cX10_gap 72 = .ok (.istore 4, 2) := by decide +kernel
theorem dX10_gap_74 : decode cX10_gap 74 = .ok (.iinc 6 1, 3) := by decide +kernel
theorem dX10_gap_77 : decode cX10_gap 77 = .ok (.goto (-47), 3) := by decide +kernel
theorem dX10_gap_80 : decode cX10_gap 80 = .ok (.iload 4, 2) := by decide +kernel
theorem dX10_gap_82 : decode cX10_gap 82 = .ok (.ireturn, 1) := by decide +kernel
/-- the widest gap so far and the latest one held, behind the times below k -/
def gp (U E T : Nat) : Nat → Nat × Nat
  | 0 => (0, 0)
  | k + 1 => (max (gp U E T k).1 (k - (if k % U = 0 ∧ wb (k / U) (T / U) E = true then k else (gp U E T k).2)), if k % U = 0 ∧ wb (k / U) (T / U) E = true then k else (gp U E T k).2)
theorem gp_le (U E T k : Nat) : (gp U E T k).1 ≤ k ∧ (gp U E T k).2 ≤ k := by
  induction k with
  | zero => exact ⟨Nat.le_refl _, Nat.le_refl _⟩
  | succ k ih =>
    unfold gp
    dsimp only
    split <;> constructor <;> omega
theorem gp_yes {U E T k : Nat} (h : k % U = 0) (h2 : wb (k / U) (T / U) E = true) : gp U E T (k + 1) = (max (gp U E T k).1 (k - k), k) := by
  show (max (gp U E T k).1 (k - (if k % U = 0 ∧ wb (k / U) (T / U) E = true then k else (gp U E T k).2)), if k % U = 0 ∧ wb (k / U) (T / U) E = true then k else (gp U E T k).2) = _
  rw [if_pos ⟨h, h2⟩]
theorem gp_no {U E T k : Nat} (h : ¬ (k % U = 0 ∧ wb (k / U) (T / U) E = true)) : gp U E T (k + 1) = (max (gp U E T k).1 (k - (gp U E T k).2), (gp U E T k).2) := by
  show (max (gp U E T k).1 (k - (if k % U = 0 ∧ wb (k / U) (T / U) E = true then k else (gp U E T k).2)), if k % U = 0 ∧ wb (k / U) (T / U) E = true then k else (gp U E T k).2) = _
  rw [if_neg h]
theorem nI_max {a b : Nat} (ha : a < 2 ^ 31) (hb : b < 2 ^ 31) : (if nI a < nI b then nI b else nI a) = nI (max a b) := by
  by_cases h : a < b
  · rw [if_pos (nI_lt h hb), Nat.max_eq_right (by omega)]
  · rw [if_neg (nI_nlt (by omega) ha), Nat.max_eq_left (by omega)]
theorem nI_nz {a : Nat} (h : ¬ nI a = 0) : ¬ a = 0 := fun q => h (by rw [q]; rfl)
theorem nI_zz {a : Nat} (h : nI a = 0) (ha : a < 2 ^ 31) : a = 0 := by
  rcases Nat.eq_zero_or_pos a with q | q
  · exact q
  · exact absurd h (nI_ne0 q ha)
theorem b_no {q : Bool} (h : (if q then (1 : Int32) else 0) = 0) : q = false := by cases q <;> simp_all
theorem b_yes {q : Bool} (h : ¬ (if q then (1 : Int32) else 0) = 0) : q = true := by cases q <;> simp_all
def mr_gap (a c e : Int32) : Int32 := if md_isSpacing a c = 0 ∨ md_isIn e 0 3000 = 0 then -1 else nI (gp a.toNatClampNeg c.toNatClampNeg e.toNatClampNeg (e.toNatClampNeg + 1)).1
theorem mr_gap_n {U E T : Nat} (h : ¬ md_isSpacing (nI U) (nI E) = 0) (h2 : ¬ md_isIn (nI T) 0 3000 = 0) (hU : U ≤ 64) (hE : E ≤ 8) (hT : T ≤ 3000) : mr_gap (nI U) (nI E) (nI T) = nI (gp U E T (T + 1)).1 := by
  unfold mr_gap
  rw [if_neg (not_or.mpr ⟨h, h2⟩), nI_clamp (by omega), nI_clamp (by omega), nI_clamp (by omega)]
set_option maxHeartbeats 4000000 in
set_option maxRecDepth 100000 in
theorem k_X10_gap {gs : List String} {ro : pm_RO} {n : Nat} {w : Nat → va_E} {b : Nat} {u : rg_U} (hR : rg shM b u n w) (a c e : Int32) : pm_Met gs ro M_X10_gap 4 0 0 [.ref (b + 0), .int a, .int c, .int e] n w (pm_p n w (some (.int (mr_gap a c e)))) := by
  refine pm_ofX in_X10_gap (Nat.le_of_ble_eq_true rfl) rfl (L := [some (.ref (b + 0)), some (.int a), some (.int c), some (.int e), none, none, none]) rfl ?_
  refine pm_iload_n dX10_gap_0 rfl ?_
  refine pm_iload_n dX10_gap_1 rfl ?_
  refine pm_callS (M := M_X10_gap) (Mc := M_X10_isSpacing) (roc := ro) (dc := 1) (mcc := 0) (msc := 0) (As := [.int a, .int c]) (st := []) dX10_gap_2 ml_X10_150 (fun _ _ h => h) (by decide) (Nat.le_refl _) (Nat.le_refl _) (Nat.le_of_ble_eq_true rfl) rfl (k_X10_isSpacing _ _ _ _) (fun r n1 w1 hq _ => ?_)
  obtain ⟨e1, e2, e3⟩ := hq
  rw [e1, e2, e3]
  clear e1 e2 e3
  dsimp only [Option.toList, List.cons_append, List.nil_append]
  refine pm_if_eq (tgt := 19) dX10_gap_5 (by decide) (fun c_5 => ?_) (fun c_5 => ?_)
  · refine pm_iconst (v := (-1)) dX10_gap_19 (by decide) ?_
    refine pm_iret dX10_gap_20 rfl (Nat.zero_le _) (Nat.zero_le _) ?_
    first
      | exact ⟨rfl, rfl, rfl⟩
      | (refine ⟨rfl, rfl, ?_⟩; simp [mr_gap, *])
  · refine pm_iload_n dX10_gap_8 rfl ?_
    refine pm_iconst (v := 0) dX10_gap_9 (by decide) ?_
    refine pm_sipush (v := 3000) dX10_gap_10 (by decide) ?_
    refine pm_callS (M := M_X10_gap) (Mc := M_X10_isIn) (roc := ro) (dc := 0) (mcc := 0) (msc := 0) (As := [.int e, .int 0, .int 3000]) (st := []) dX10_gap_13 ml_X10_138 (fun _ _ h => h) (by decide) (Nat.le_refl _) (Nat.le_refl _) (Nat.le_of_ble_eq_true rfl) rfl (k_X10_isIn _ _ _ _ _) (fun r n1 w1 hq _ => ?_)
    obtain ⟨e1, e2, e3⟩ := hq
    rw [e1, e2, e3]
    clear e1 e2 e3
    dsimp only [Option.toList, List.cons_append, List.nil_append]
    refine pm_if_ne (tgt := 21) dX10_gap_16 (by decide) (fun c_16 => ?_) (fun c_16 => ?_)
    · obtain ⟨U, E, rfl, rfl, hU0, hU, hE0, hE⟩ := md_sp c_5
      obtain ⟨T, rfl, hT⟩ := md_t c_16
      rw [mr_gap_n c_5 c_16 hU hE hT]
      refine pm_iconst (v := 0) dX10_gap_21 (by decide) ?_
      refine pm_istore dX10_gap_22 (by decide) rfl rfl ?_
      refine pm_iconst (v := 0) dX10_gap_24 (by decide) ?_
      refine pm_istore dX10_gap_25 (by decide) rfl rfl ?_
      refine pm_iconst (v := 0) dX10_gap_27 (by decide) ?_
      refine pm_istore dX10_gap_28 (by decide) rfl rfl ?_
      have LP : ∀ (f k : Nat), k + f = (T + 1) → pm_X gs ro M_X10_gap 4 0 0 0 0 30 [some (.ref (b + 0)), some (.int (nI U)), some (.int (nI E)), some (.int (nI T)), some (.int (nI (gp U E T k).1)), some (.int (nI (gp U E T k).2)), some (.int (nI k))] [] n w (pm_p n w (some (.int (nI (gp U E T (T + 1)).1)))) := by
        intro f
        induction f with
        | zero =>
          intro k hk
          have hk : k = (T + 1) := hk
          subst hk
          refine pm_iload dX10_gap_30 rfl ?_
          refine pm_iload_n dX10_gap_32 rfl ?_
          refine pm_icmp_gt (tgt := 80) dX10_gap_33 (by decide) (fun c_33 => ?_) (fun c_33 => absurd (nI_lt (Nat.lt_succ_self _) (by omega)) c_33)
          refine pm_iload dX10_gap_80 rfl ?_
          refine pm_iret dX10_gap_82 rfl (Nat.zero_le _) (Nat.zero_le _) ?_
          first
            | exact ⟨rfl, rfl, rfl⟩
            | (refine ⟨rfl, rfl, ?_⟩; simp [mr_gap, *])
        | succ f ih =>
          intro k hk
          have hlt : k < (T + 1) := by omega
          refine pm_iload dX10_gap_30 rfl ?_
          refine pm_iload_n dX10_gap_32 rfl ?_
          refine pm_icmp_gt (tgt := 80) dX10_gap_33 (by decide) (fun c_33 => absurd c_33 (nI_nlt (by omega) (by omega))) (fun c_33 => ?_)
          refine pm_iload dX10_gap_36 rfl ?_
          refine pm_iload_n dX10_gap_38 rfl ?_
          refine pm_irem dX10_gap_39 (nI_ne0 hU0 (by omega)) ?_
          refine pm_i (y := (nI (k % U))) (pk_rem (by omega) hU0 (by omega)) ?_
          refine pm_if_ne (tgt := 62) dX10_gap_40 (by decide) (fun c_40 => ?_) (fun c_40 => ?_)
          · have hg := gp_no (U := U) (E := E) (T := T) (k := k) (fun q => nI_nz c_40 q.1)
            refine pm_l (L' := [some (.ref (b + 0)), some (.int (nI U)), some (.int (nI E)), some (.int (nI T)), some (.int (nI (gp U E T k).1)), some (.int (nI (gp U E T (k + 1)).2)), some (.int (nI k))]) (by first | (rw [hg]; done) | (rw [hg]; rfl)) ?_
            refine pm_iload dX10_gap_62 rfl ?_
            refine pm_iload dX10_gap_64 rfl ?_
            refine pm_iload dX10_gap_66 rfl ?_
            refine pm_isub dX10_gap_68 ?_
            refine pm_i (y := (nI (k - (gp U E T (k + 1)).2))) (pk_sub (by rw [hg]; have := gp_le U E T k; omega)) ?_
            refine pm_mmax (M := M_X10_gap) dX10_gap_69 mm_X10_235 mm_max_2 mm_init mm_max_4 (by decide) (Nat.le_refl _) (Nat.le_refl _) (Nat.le_of_ble_eq_true rfl) ?_
            refine pm_i (y := (nI (gp U E T (k + 1)).1)) (by have := gp_le U E T k; rw [nI_max (by omega) (by omega), hg]) ?_
            refine pm_istore dX10_gap_72 (by decide) rfl rfl ?_
            refine pm_iinc (v := (nI (k + 1))) dX10_gap_74 rfl (nI_1 _) (by decide) rfl rfl ?_
            refine pm_goto (tgt := 30) dX10_gap_77 (by decide) ?_
            exact ih (k + 1) (by omega)
          · refine pm_aload_n dX10_gap_43 rfl ?_
            refine pm_iload dX10_gap_44 rfl ?_
            refine pm_iload_n dX10_gap_46 rfl ?_
            refine pm_idiv dX10_gap_47 (nI_ne0 hU0 (by omega)) ?_
            refine pm_i (y := (nI (k / U))) (pk_div (by omega) hU0 (by omega)) ?_
            refine pm_iload_n dX10_gap_48 rfl ?_
            refine pm_iload_n dX10_gap_49 rfl ?_
            refine pm_idiv dX10_gap_50 (nI_ne0 hU0 (by omega)) ?_
            refine pm_i (y := (nI (T / U))) (pk_div (by omega) hU0 (by omega)) ?_
            refine pm_iload_n dX10_gap_51 rfl ?_
            refine rg_cV (M := M_X10_gap) (Mc := M_X10_wouldBe) (j := 0) (dc := 2) (As := [.int (nI (k / U)), .int (nI (T / U)), .int (nI E)]) (st := []) hR dX10_gap_52 ml_X10_336 ⟨TX10, 55, rfl⟩ rfl (by decide) (Nat.le_refl _) (Nat.le_refl _) (Nat.le_of_ble_eq_true rfl) rfl (k_X10_wouldBe hR (by have := Nat.div_le_self k U; omega) (by have := Nat.div_le_self T U; omega) hE) (fun r n1 w1 hq => ?_)
            obtain ⟨e1, e2, e3⟩ := hq
            rw [e1, e2, e3]
            clear e1 e2 e3
            dsimp only [Option.toList, List.cons_append, List.nil_append]
            refine pm_if_eq (tgt := 62) dX10_gap_55 (by decide) (fun c_55 => ?_) (fun c_55 => ?_)
            · have hg := gp_no (U := U) (E := E) (T := T) (k := k) (fun q => by have := b_no c_55; rw [this] at q; exact absurd q.2 (by decide))
              refine pm_l (L' := [some (.ref (b + 0)), some (.int (nI U)), some (.int (nI E)), some (.int (nI T)), some (.int (nI (gp U E T k).1)), some (.int (nI (gp U E T (k + 1)).2)), some (.int (nI k))]) (by first | (rw [hg]; done) | (rw [hg]; rfl)) ?_
              refine pm_iload dX10_gap_62 rfl ?_
              refine pm_iload dX10_gap_64 rfl ?_
              refine pm_iload dX10_gap_66 rfl ?_
              refine pm_isub dX10_gap_68 ?_
              refine pm_i (y := (nI (k - (gp U E T (k + 1)).2))) (pk_sub (by rw [hg]; have := gp_le U E T k; omega)) ?_
              refine pm_mmax (M := M_X10_gap) dX10_gap_69 mm_X10_235 mm_max_2 mm_init mm_max_4 (by decide) (Nat.le_refl _) (Nat.le_refl _) (Nat.le_of_ble_eq_true rfl) ?_
              refine pm_i (y := (nI (gp U E T (k + 1)).1)) (by have := gp_le U E T k; rw [nI_max (by omega) (by omega), hg]) ?_
              refine pm_istore dX10_gap_72 (by decide) rfl rfl ?_
              refine pm_iinc (v := (nI (k + 1))) dX10_gap_74 rfl (nI_1 _) (by decide) rfl rfl ?_
              refine pm_goto (tgt := 30) dX10_gap_77 (by decide) ?_
              exact ih (k + 1) (by omega)
            · refine pm_iload dX10_gap_58 rfl ?_
              refine pm_istore dX10_gap_60 (by decide) rfl rfl ?_
              have hg := gp_yes (U := U) (E := E) (T := T) (k := k) (nI_zz c_40 (by have := Nat.mod_lt k hU0; omega)) (b_yes c_55)
              refine pm_l (L' := [some (.ref (b + 0)), some (.int (nI U)), some (.int (nI E)), some (.int (nI T)), some (.int (nI (gp U E T k).1)), some (.int (nI (gp U E T (k + 1)).2)), some (.int (nI k))]) (by first | (rw [hg]; done) | (rw [hg]; rfl)) ?_
              refine pm_iload dX10_gap_62 rfl ?_
              refine pm_iload dX10_gap_64 rfl ?_
              refine pm_iload dX10_gap_66 rfl ?_
              refine pm_isub dX10_gap_68 ?_
              refine pm_i (y := (nI (k - (gp U E T (k + 1)).2))) (pk_sub (by rw [hg]; have := gp_le U E T k; omega)) ?_
              refine pm_mmax (M := M_X10_gap) dX10_gap_69 mm_X10_235 mm_max_2 mm_init mm_max_4 (by decide) (Nat.le_refl _) (Nat.le_refl _) (Nat.le_of_ble_eq_true rfl) ?_
              refine pm_i (y := (nI (gp U E T (k + 1)).1)) (by have := gp_le U E T k; rw [nI_max (by omega) (by omega), hg]) ?_
              refine pm_istore dX10_gap_72 (by decide) rfl rfl ?_
              refine pm_iinc (v := (nI (k + 1))) dX10_gap_74 rfl (nI_1 _) (by decide) rfl rfl ?_
              refine pm_goto (tgt := 30) dX10_gap_77 (by decide) ?_
              exact ih (k + 1) (by omega)
      have LP0 := LP ((T + 1)) 0 (Nat.zero_add _)
      first | exact LP0 | (rw [nI_0] at LP0; exact LP0)
    · refine pm_iconst (v := (-1)) dX10_gap_19 (by decide) ?_
      refine pm_iret dX10_gap_20 rfl (Nat.zero_le _) (Nat.zero_le _) ?_
      first
        | exact ⟨rfl, rfl, rfl⟩
        | (refine ⟨rfl, rfl, ?_⟩; simp [mr_gap, *])
