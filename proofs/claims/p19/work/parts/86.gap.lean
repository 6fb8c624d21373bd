theorem nI_sub {a b : Nat} (h : b ≤ a) : nI a - nI b = nI (a - b) := by
  have e : nI a = nI (a - b) + nI b := by rw [nI_add, Nat.sub_add_cancel h]
  rw [e, Int32.add_sub_cancel]
theorem imax_nI {a b : Nat} (ha : a < 2 ^ 31) (hb : b < 2 ^ 31) : imax (nI a) (nI b) = nI (max a b) := nI_max ha hb
theorem m_gap {F U E T : Nat} {u : rg_U} (hU : 0 < U) (hU2 : U ≤ 64) (hE : E ≤ 8) (hT : T ≤ 3000) (hF : 10000 < F) : lp (fun (s : Int32 × Int32 × Int32) => g_X10_gap_l30 F (nI U) (nI E) (nI T) u s.1 s.2.1 s.2.2) F ((0 : Int32), (0 : Int32), (0 : Int32)) = some (nI (gp U E T (T + 1)).1) := by
  have hn0 : ¬ nI U = 0 := nI_ne0 hU (by omega)
  have hTU : T / U ≤ 3000 := Nat.le_trans (Nat.div_le_self T U) hT
  have h := lp_up (body := fun (s : Int32 × Int32 × Int32) => g_X10_gap_l30 F (nI U) (nI E) (nI T) u s.1 s.2.1 s.2.2) (fun k => (nI (gp U E T k).1, nI (gp U E T k).2, nI k)) (T + 1) (nI (gp U E T (T + 1)).1) (fun k hk => by
    show g_X10_gap_l30 F (nI U) (nI E) (nI T) u (nI (gp U E T k).1) (nI (gp U E T k).2) (nI k) = _
    obtain ⟨g1, g2⟩ := gp_le U E T k
    have hkU : k / U ≤ 3000 := Nat.le_trans (Nat.div_le_self k U) (by omega)
    unfold g_X10_gap_l30
    rw [if_neg (nI_nlt (by omega) (by omega)), ck_t hn0, show dx_rem (nI k) (nI U) = nI (k % U) from pk_rem (by omega) hU (by omega)]
    by_cases q : k % U = 0
    · rw [q, if_pos nI_0, ck_t hn0, ck_t hn0, pk_div (by omega) hU (by omega), pk_div (by omega) hU (by omega), m_wouldBe hkU hTU hE (by omega), ob_i]
      by_cases q2 : wb (k / U) (T / U) E = true
      · rw [if_pos q2, if_neg (by decide), gp_yes q q2]
        unfold g_X10_gap_j62
        rw [nI_sub (Nat.le_refl k), imax_nI (by omega) (by omega), nI_1]
      · rw [if_neg q2, if_pos rfl, gp_no (fun z => q2 z.2)]
        unfold g_X10_gap_j62
        rw [nI_sub g2, imax_nI (by omega) (by omega), nI_1]
    · rw [if_neg (nI_ne0 (by omega) (by have := Nat.mod_lt k hU; omega)), gp_no (fun z => q z.1)]
      unfold g_X10_gap_j62
      rw [nI_sub g2, imax_nI (by omega) (by omega), nI_1]) (by
    show g_X10_gap_l30 F (nI U) (nI E) (nI T) u (nI (gp U E T (T + 1)).1) (nI (gp U E T (T + 1)).2) (nI (T + 1)) = _
    unfold g_X10_gap_l30
    rw [if_pos (nI_lt (by omega) (by omega))]) F 0 (Nat.zero_le _) (by omega)
  exact h
theorem c_gap {F U E T : Nat} {u : rg_U} (hU : 0 < U) (hU2 : U ≤ 64) (hE : E ≤ 8) (hT : T ≤ 3000) (hF : 10000 < F) : lp (fun (s : Int32 × Int32 × Int32) => g_X9_gap_l37 F (nI U) (nI E) (nI T) (nI (T / U)) u s.1 s.2.1 s.2.2) F ((0 : Int32), (0 : Int32), (1 : Int32)) = some (nI (cg U E (T / U) (T / U)).1, nI (cg U E (T / U) (T / U)).2) := by
  have hTU : T / U ≤ 3000 := Nat.le_trans (Nat.div_le_self T U) hT
  have hm : T / U * U ≤ T := Nat.div_mul_le_self T U
  generalize T / U = n at *
  have h := lp_up (body := fun (s : Int32 × Int32 × Int32) => g_X9_gap_l37 F (nI U) (nI E) (nI T) (nI n) u s.1 s.2.1 s.2.2) (fun k => (nI (cg U E n k).1, nI (cg U E n k).2, nI (k + 1))) n (nI (cg U E n n).1, nI (cg U E n n).2) (fun k hk => by
    show g_X9_gap_l37 F (nI U) (nI E) (nI T) (nI n) u (nI (cg U E n k).1) (nI (cg U E n k).2) (nI (k + 1)) = _
    obtain ⟨g1, g2⟩ := cg_le U E n k
    have hkn : (k + 1) * U ≤ n * U := Nat.mul_le_mul_right U hk
    have hk1 : (k + 1) * U = k * U + U := Nat.succ_mul k U
    unfold g_X9_gap_l37
    rw [if_neg (nI_nlt (by omega) (by omega)), c_still (by omega) (by omega) hE hTU]
    by_cases q : wb (k + 1) n E = true
    · rw [if_pos q, if_neg (by decide), cg_yes q]
      unfold g_X9_gap_j77
      rw [pk_mul, show nI ((k + 1) * U) - 1 = nI ((k + 1) * U - 1) from nI_sub (a := (k + 1) * U) (b := 1) (by omega), nI_sub (by omega), imax_nI (by omega) (by omega), nI_1]
    · rw [if_neg q, if_pos rfl, cg_no (by simpa using q)]
      unfold g_X9_gap_j77
      rw [nI_1]) (by
    show g_X9_gap_l37 F (nI U) (nI E) (nI T) (nI n) u (nI (cg U E n n).1) (nI (cg U E n n).2) (nI (n + 1)) = _
    unfold g_X9_gap_l37
    rw [if_pos (nI_lt (by omega) (by omega))]) F 0 (Nat.zero_le _) (by omega)
  exact h
theorem gap_all {F : Nat} (hF : 10000 < F) (x y z : Int32) (u v : rg_U) : ∃ r, g_X9_gap F x y z u = some r ∧ g_X10_gap F x y z v = some r := by
  unfold g_X9_gap g_X10_gap
  rw [cl_spt]
  by_cases h1 : g_X10_isSpacing x y = 0
  · exact ⟨-1, by rw [if_pos h1], by rw [if_pos h1]⟩
  rw [if_neg h1, if_neg h1]
  by_cases h2 : g_X10_isIn z 0 3000 = 0
  · exact ⟨-1, by rw [if_pos h2], by rw [if_pos h2]⟩
  rw [if_neg h2, if_neg h2]
  obtain ⟨U, E, rfl, rfl, a1, a2, a3, a4⟩ := in_s h1
  obtain ⟨T, rfl, b1⟩ := in_t h2
  have hTU : T / U ≤ 3000 := Nat.le_trans (Nat.div_le_self T U) b1
  have hm : T / U * U ≤ T := Nat.div_mul_le_self T U
  obtain ⟨g1, g2⟩ := cg_le U E (T / U) (T / U)
  refine ⟨_, ?_, by rw [m_gap a1 a2 a4 b1 hF]; rfl⟩
  rw [ck_t (nI_ne0 a1 (by omega)), pk_div (by omega) a1 (by omega), c_gap a1 a2 a4 b1 hF, ob_i]
  show some (imax (nI _) (nI T - nI _)) = _
  rw [nI_sub (by omega), imax_nI (by omega) (by omega), gap_n a1]
theorem spar_loop {F E T : Nat} {y : Int32} {Wf : Int32 → Option Int32} (hF : 10000 < F) (hW : ∀ U : Nat, 0 < U → U ≤ 64 → Wf (nI U) = some (nI (wc (T / U) E (T / U + 1)))) : ∃ r, lp (fun (s : Int32) => if (64 : Int32) < s then (some (.inr (Sum.inr ())) : Option (Int32 ⊕ (Int32 ⊕ Unit))) else (ob (Wf s) (fun r4 => if y < r4 then (some (.inl (s + 1))) else (some (.inr (Sum.inl s)))))) F (1 : Int32) = some r ∧ os r (fun r9 => some r9) (fun _ => some (-1)) = some (spf E T y 64 1) := by
  generalize hX : spf E T y 64 1 = X
  refine lp_ex (P := fun k s => ∃ U : Nat, s = nI U ∧ 0 < U ∧ U + k = 65 ∧ spf E T y k U = X) ?_ F 64 1 (by omega) ⟨1, rfl, by omega, by omega, hX⟩
  rintro k s ⟨U, rfl, hU, hk, hs⟩
  match k, hk, hs with
  | 0, hk, hs =>
    right
    have : U = 65 := by omega
    subst this
    exact ⟨_, if_pos (by decide), by rw [← hs]; rfl⟩
  | k + 1, hk, hs =>
    have h64 : ¬ (64 : Int32) < nI U := nI_nlt (a := 64) (by omega) (by decide)
    simp only [if_neg h64, hW U hU (by omega), ob_i]
    unfold spf at hs
    by_cases q : nI (wc (T / U) E (T / U + 1)) ≤ y
    · right
      have q2 : ¬ y < nI (wc (T / U) E (T / U + 1)) := by
        rw [Int32.le_iff_toInt_le] at q
        rw [Int32.lt_iff_toInt_lt]
        omega
      rw [if_pos q] at hs
      exact ⟨_, if_neg q2, by rw [← hs]; rfl⟩
    · left
      have q2 : y < nI (wc (T / U) E (T / U + 1)) := by
        rw [Int32.le_iff_toInt_le] at q
        rw [Int32.lt_iff_toInt_lt]
        omega
      rw [if_neg q] at hs
      exact ⟨_, k, if_pos q2, by omega, U + 1, nI_1 U, by omega, by omega, hs⟩
theorem sparing_all {F : Nat} (hF : 10000 < F) (x y z : Int32) (u v : rg_U) : ∃ r, g_X9_sparing F x y z u = some r ∧ g_X10_sparing F x y z v = some r := by
  unfold g_X9_sparing g_X10_sparing
  rw [cl_depth, cl_time]
  by_cases h1 : g_X10_isIn x 1 8 = 0
  · exact ⟨-1, by rw [if_pos h1], by rw [if_pos h1]⟩
  rw [if_neg h1, if_neg h1]
  by_cases h2 : g_X10_isIn y 0 3000 = 0
  · exact ⟨-1, by rw [if_pos h2], by rw [if_pos h2]⟩
  rw [if_neg h2, if_neg h2]
  obtain ⟨E, rfl, a3, a4⟩ := in_d h1
  obtain ⟨T, rfl, b1⟩ := in_t h2
  obtain ⟨r1, e1, f1⟩ := spar_loop (y := z) (E := E) (T := T) (Wf := fun s => g_X9_wouldBeHeld F s (nI E) (nI T) u) hF (fun U h0 h6 => c_wouldBeHeld (u := u) (E := E) (T := T) h0 h6 a4 b1 hF)
  obtain ⟨r2, e2, f2⟩ := spar_loop (y := z) (E := E) (T := T) (Wf := fun s => g_X10_wouldOf F s (nI E) (nI T) v) hF (fun U h0 h6 => m_wouldOf (u := v) (E := E) (T := T) h0 h6 a4 b1 hF)
  exact ⟨spf E T z 64 1, by rw [← f1]; exact ob_e e1, by rw [← f2]; exact ob_e e2⟩
