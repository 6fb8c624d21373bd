/-! the class: what waits outside -/
/-- a is where the first waits, n how many -/
def okO9 (u : rg_U) (a n : Nat) : Prop := rF u 6 1 = nI a ∧ rF u 6 2 = nI n ∧ a < 900 ∧ n ≤ 900
/-- the i-th that waits -/
def wt9 (u : rg_U) (a i : Nat) : Int32 := u.2.1 7 ((a + i) % 900)
theorem c_clearIn {F : Nat} {u : rg_U} : g_X4_clearInputs F u = some (sF (sF u 6 1 0) 6 2 0) ∧ okO9 (sF (sF u 6 1 0) 6 2 0) 0 0 := ⟨rfl, rfl, rfl, by omega, by omega⟩
theorem c_addLast {F a n : Nat} {x : Int32} {u : rg_U} (h : okO9 u a n) (hn : n < 900) : ∃ w, g_X4_addLast F x u = some w ∧ okO9 w a (n + 1) ∧ w = sF (rg_R u 7 ((a + n) % 900) x) 6 2 (nI (n + 1)) ∧ (∀ i, i < n → wt9 w a i = wt9 u a i) ∧ wt9 w a n = x := by
  obtain ⟨h1, h2, h3, h4⟩ := h
  have hm : (a + n) % 900 < 900 := Nat.mod_lt _ (by omega)
  refine ⟨sF (rg_R u 7 ((a + n) % 900) x) 6 2 (nI (n + 1)), ?_, ⟨h1, rfl, h3, by omega⟩, rfl, fun i hi => ?_, ?_⟩
  · unfold g_X4_addLast
    rw [h1, h2, if_neg (show ¬ (900 : Int32) ≤ nI n from nI_ge (a := n) (b := 900) hn (by decide)), nI_add, show dx_rem (nI (a + n)) 900 = nI ((a + n) % 900) from pk_rem (a := a + n) (d := 900) (by omega) (by omega) (by omega), ck_t (inb_nI hm (by decide)), lt1_i, sA_nI (by omega), lt1_i, show rF (rg_R u 7 ((a + n) % 900) x) 6 2 = nI n from h2, nI_1]
  · show (rg_R u 7 ((a + n) % 900) x).2.1 7 ((a + i) % 900) = _
    rw [R_at, if_neg (by omega)]
    rfl
  · show (rg_R u 7 ((a + n) % 900) x).2.1 7 ((a + n) % 900) = _
    rw [R_at, if_pos ⟨rfl, rfl⟩]
theorem c_takeFirst {F a n : Nat} {u : rg_U} (h : okO9 u a (n + 1)) : ∃ w, g_X4_takeFirst F u = some (wt9 u a 0, w) ∧ w = sF (sF u 6 1 (nI ((a + 1) % 900))) 6 2 (nI n) ∧ okO9 w ((a + 1) % 900) n ∧ ∀ i, i < n → wt9 w ((a + 1) % 900) i = wt9 u a (i + 1) := by
  obtain ⟨h1, h2, h3, h4⟩ := h
  have hm : (a + 1) % 900 < 900 := Nat.mod_lt _ (by omega)
  refine ⟨sF (sF u 6 1 (nI ((a + 1) % 900))) 6 2 (nI n), ?_, rfl, ⟨rfl, rfl, hm, by omega⟩, fun i hi => ?_⟩
  · unfold g_X4_takeFirst
    rw [h1, h2, if_pos (show (0 : Int32) < nI (n + 1) from nI_lt (a := 0) (by omega) (by omega)), ck_t (inb_nI h3 (by decide)), nI_1, show dx_rem (nI (a + 1)) 900 = nI ((a + 1) % 900) from pk_rem (a := a + 1) (d := 900) (by omega) (by omega) (by omega), lt1_i, lt1_i, show rF (sF u 6 1 (nI ((a + 1) % 900))) 6 2 = nI (n + 1) from h2, show nI (n + 1) - 1 = nI n from nI_sub (a := n + 1) (b := 1) (by omega), rA_nI (by omega)]
    unfold wt9
    rw [show (a + 0) % 900 = a by omega]
  · show u.2.1 7 (((a + 1) % 900 + i) % 900) = u.2.1 7 ((a + (i + 1)) % 900)
    rw [show ((a + 1) % 900 + i) % 900 = (a + (i + 1)) % 900 by omega]
theorem c_addFirst {F a n : Nat} {x : Int32} {u : rg_U} (h : okO9 u a n) (hn : n < 900) : ∃ w, g_X4_addFirst F x u = some w ∧ okO9 w ((a + 899) % 900) (n + 1) ∧ wt9 w ((a + 899) % 900) 0 = x ∧ (∀ i, i < n → wt9 w ((a + 899) % 900) (i + 1) = wt9 u a i) ∧ w = sF (rg_R (sF u 6 1 (nI ((a + 899) % 900))) 7 ((a + 899) % 900) x) 6 2 (nI (n + 1)) := by
  obtain ⟨h1, h2, h3, h4⟩ := h
  have hm : (a + 899) % 900 < 900 := Nat.mod_lt _ (by omega)
  refine ⟨sF (rg_R (sF u 6 1 (nI ((a + 899) % 900))) 7 ((a + 899) % 900) x) 6 2 (nI (n + 1)), ?_, ⟨rfl, rfl, hm, by omega⟩, ?_, fun i hi => ?_, rfl⟩
  · unfold g_X4_addFirst
    rw [h2, if_neg (show ¬ (900 : Int32) ≤ nI n from nI_ge (a := n) (b := 900) hn (by decide)), h1, show nI a + 900 - 1 = nI (a + 899) by rw [show nI a + 900 = nI (a + 900) from nI_add a 900]; exact nI_sub (a := a + 900) (b := 1) (by omega), show dx_rem (nI (a + 899)) 900 = nI ((a + 899) % 900) from pk_rem (a := a + 899) (d := 900) (by omega) (by omega) (by omega), lt1_i, show rF (sF u 6 1 (nI ((a + 899) % 900))) 6 1 = nI ((a + 899) % 900) from rfl, ck_t (inb_nI hm (by decide)), lt1_i, sA_nI (by omega), lt1_i, show rF (rg_R (sF u 6 1 (nI ((a + 899) % 900))) 7 ((a + 899) % 900) x) 6 2 = nI n from h2, nI_1]
  · show (rg_R (sF u 6 1 (nI ((a + 899) % 900))) 7 ((a + 899) % 900) x).2.1 7 (((a + 899) % 900 + 0) % 900) = _
    rw [R_at, if_pos ⟨rfl, by omega⟩]
  · show (rg_R (sF u 6 1 (nI ((a + 899) % 900))) 7 ((a + 899) % 900) x).2.1 7 (((a + 899) % 900 + (i + 1)) % 900) = u.2.1 7 ((a + i) % 900)
    rw [R_at, if_neg (by omega)]
    show u.2.1 7 (((a + 899) % 900 + (i + 1)) % 900) = _
    rw [show ((a + 899) % 900 + (i + 1)) % 900 = (a + i) % 900 by omega]
