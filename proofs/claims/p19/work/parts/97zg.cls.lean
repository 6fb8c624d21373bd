/-! the class: its log, its calls, what waits outside -/
theorem c_logadd {F o n : Nat} {x1 x2 x3 x4 x5 : Int32} {u : rg_U} (hn : rF u o 5 = nI n) (h : n < 800) : g_X3_add F o x1 x2 x3 x4 x5 u = some (sF (rg_R (rg_R (rg_R (rg_R (rg_R u (o + 1) n x1) (o + 2) n x2) (o + 4) n x3) (o + 5) n x4) (o + 3) n x5) o 5 (nI (n + 1))) := by
  have e : ∀ (v : rg_U) (j : Nat) (x : Int32), rF v o 5 = nI n → rF (rg_R v j n x) o 5 = nI n := fun v j x h => h
  unfold g_X3_add
  rw [hn, if_neg (show ¬ nI n < 0 from nI_nlt (a := n) (b := 0) (by omega) (by omega)), if_neg (show ¬ (800 : Int32) ≤ nI n from nI_ge (a := n) (b := 800) h (by decide)), ck_t (inb_nI h (by decide)), lt1_i, sA_nI (by omega), e _ _ _ hn, ck_t (inb_nI h (by decide)), lt1_i, sA_nI (by omega), e _ _ _ (e _ _ _ hn), ck_t (inb_nI h (by decide)), lt1_i, sA_nI (by omega), e _ _ _ (e _ _ _ (e _ _ _ hn)), ck_t (inb_nI h (by decide)), lt1_i, sA_nI (by omega), e _ _ _ (e _ _ _ (e _ _ _ (e _ _ _ hn))), ck_t (inb_nI h (by decide)), lt1_i, sA_nI (by omega), e _ _ _ (e _ _ _ (e _ _ _ (e _ _ _ (e _ _ _ hn)))), lt1_i, nI_1]
theorem c_calladd {F o n : Nat} {x1 x2 x3 : Int32} {u : rg_U} (hn : rF u o 3 = nI n) (h : n < 100) : g_X1_add F o x1 x2 x3 u = some (sF (rg_R (rg_R (rg_R u (o + 1) n x1) (o + 2) n x2) (o + 3) n x3) o 3 (nI (n + 1))) := by
  have e : ∀ (v : rg_U) (j : Nat) (x : Int32), rF v o 3 = nI n → rF (rg_R v j n x) o 3 = nI n := fun v j x h => h
  unfold g_X1_add
  rw [hn, if_neg (show ¬ nI n < 0 from nI_nlt (a := n) (b := 0) (by omega) (by omega)), if_neg (show ¬ (100 : Int32) ≤ nI n from nI_ge (a := n) (b := 100) h (by decide)), ck_t (inb_nI h (by decide)), lt1_i, sA_nI (by omega), e _ _ _ hn, ck_t (inb_nI h (by decide)), lt1_i, sA_nI (by omega), e _ _ _ (e _ _ _ hn), ck_t (inb_nI h (by decide)), lt1_i, sA_nI (by omega), e _ _ _ (e _ _ _ (e _ _ _ hn)), lt1_i, nI_1]
theorem c_callfull {F o : Nat} {x1 x2 x3 : Int32} {u : rg_U} (hn : rF u o 3 = nI 100) : g_X1_add F o x1 x2 x3 u = some u := by
  unfold g_X1_add
  rw [hn, if_neg (by decide), if_pos (by decide)]
theorem c_logfull {F o n : Nat} {u : rg_U} (hn : rF u o 5 = nI n) (h : n ≤ 800) : g_X3_isFull F o u = some (if n = 800 then 1 else 0) := by
  unfold g_X3_isFull
  rw [hn]
  by_cases q : n = 800
  · rw [if_pos q, if_neg (show ¬ nI n < 800 from nI_nlt (a := n) (b := 800) (by omega) (by omega))]
  · rw [if_neg q, if_pos (show nI n < 800 from nI_lt (a := n) (b := 800) (by omega) (by decide))]
theorem c_has {F o n : Nat} {x : Int32} {u : rg_U} (hn : rF u o 5 = nI n) (h : n ≤ 800) : (g_X3_has F o x u = some 0 ∧ ¬ ∃ i, i < n ∧ x = nI i) ∨ ∃ i, g_X3_has F o x u = some 1 ∧ i < n ∧ x = nI i := by
  unfold g_X3_has
  rw [hn]
  by_cases q : x < 0
  · rw [if_pos q]
    refine Or.inl ⟨rfl, fun ⟨i, hi, e⟩ => ?_⟩
    rw [e] at q
    exact nI_nlt (a := i) (b := 0) (by omega) (by omega) q
  · rw [if_neg q]
    obtain ⟨k, hk, rfl⟩ := nI_of (x := x) q
    by_cases z : nI n ≤ nI k
    · rw [if_pos z]
      refine Or.inl ⟨rfl, fun ⟨i, hi, e⟩ => ?_⟩
      have := nI_inj (by omega) (by omega) e
      exact nI_ge (a := k) (b := n) (by omega) (by omega) z
    · rw [if_neg z]
      have hkn : k < n := by
        rcases Nat.lt_or_ge k n with y | y
        · exact y
        · exact absurd (nI_le y (by omega)) z
      rw [if_neg (show ¬ (800 : Int32) ≤ nI k from nI_ge (a := k) (b := 800) (by omega) (by decide))]
      exact Or.inr ⟨k, rfl, hkn, rfl⟩
