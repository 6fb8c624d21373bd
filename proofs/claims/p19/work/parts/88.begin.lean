/-! begin of the reference -/
theorem nar0 : vp_nar .boolean 0 = 0 := by decide
theorem nar1 : vp_nar .boolean 1 = 1 := by decide
theorem m_clears {F o : Nat} {u : rg_U} (hF : 134 < F) : ∃ u', g_X10_clears F o 134 u = some u' ∧ same0 u u' ∧ ∀ j i, u'.2.1 j i = if j = o ∧ i < 134 then 0 else u.2.1 j i := by
  unfold g_X10_clears
  obtain ⟨r, e, h⟩ := lp_ex (body := fun (s : Int32 × rg_U) => g_X10_clears_l2 F o 134 s.1 s.2) (P := fun k s => ∃ m, k + m = 134 ∧ s.1 = nI m ∧ same0 u s.2 ∧ ∀ j i, s.2.2.1 j i = if j = o ∧ i < m then 0 else u.2.1 j i) (R := fun u' => same0 u u' ∧ ∀ j i, u'.2.1 j i = if j = o ∧ i < 134 then 0 else u.2.1 j i) (by
    rintro k ⟨s1, s2⟩ ⟨m, hm, e1, h0, hv⟩
    dsimp only at e1 h0 hv
    subst e1
    unfold g_X10_clears_l2
    dsimp only
    by_cases q : m = 134
    · right
      subst q
      exact ⟨s2, if_pos (by decide), h0, hv⟩
    · left
      have hm2 : m < 134 := by omega
      rw [if_neg (show ¬ (134 : Int32) ≤ nI m from nI_ge (a := m) (b := 134) hm2 (by decide)), ck_t (inb_nI hm2 (by decide)), lt1_i, sA_nI (by omega), nI_1]
      refine ⟨_, k - 1, rfl, by omega, m + 1, by omega, rfl, h0, fun j i => ?_⟩
      rw [R_at, hv j i]
      by_cases hj : j = o
      · by_cases hi : i = m
        · rw [if_pos ⟨hj, hi⟩, if_pos ⟨hj, by omega⟩]
        · rw [if_neg (fun q => hi q.2)]
          by_cases h3 : i < m
          · rw [if_pos ⟨hj, h3⟩, if_pos ⟨hj, by omega⟩]
          · rw [if_neg (fun q => h3 q.2), if_neg (by omega)]
      · rw [if_neg (fun q => hj q.1), if_neg (fun q => hj q.1), if_neg (fun q => hj q.1)]) F 134 ((0 : Int32), u) (by omega) ⟨0, rfl, rfl, same0_r, fun j i => by rw [if_neg (by omega)]⟩
  exact ⟨r, by rw [ob_e e], h⟩
theorem nI_256 {m : Nat} : (256 : Int32) + nI m = nI (256 + m) := nI_add 256 m
theorem heldAt_nI {r k : Nat} : g_X10_heldAt (nI r) (nI k) = nI (3001 * r + k) := by
  unfold g_X10_heldAt
  rw [show (3001 : Int32) * nI r = nI (3001 * r) from pk_mul 3001 r, nI_add]
theorem m_begin1 {F : Nat} {u : rg_U} (hF : 64 < F) : ∃ u', lp (fun (s : Int32 × Int32 × rg_U) => g_X10_begin_l4 F s.1 s.2.1 s.2.2) F ((0 : Int32), (0 : Int32), u) = some (nI (cntK (u.2.1 1) 64), u') ∧ same0 u u' ∧ ∀ j i, u'.2.1 j i = if (6 ≤ j ∧ j ≤ 9) ∧ 256 ≤ i ∧ i < 320 then u.2.1 (j - 5) (i - 256) else u.2.1 j i := by
  obtain ⟨r, e, h1, h⟩ := lp_ex (body := fun (s : Int32 × Int32 × rg_U) => g_X10_begin_l4 F s.1 s.2.1 s.2.2) (P := fun k s => ∃ m, k + m = 64 ∧ s.1 = nI (cntK (u.2.1 1) m) ∧ s.2.1 = nI m ∧ same0 u s.2.2 ∧ ∀ j i, s.2.2.2.1 j i = if (6 ≤ j ∧ j ≤ 9) ∧ 256 ≤ i ∧ i < 256 + m then u.2.1 (j - 5) (i - 256) else u.2.1 j i) (R := fun r => r.1 = nI (cntK (u.2.1 1) 64) ∧ same0 u r.2 ∧ ∀ j i, r.2.2.1 j i = if (6 ≤ j ∧ j ≤ 9) ∧ 256 ≤ i ∧ i < 320 then u.2.1 (j - 5) (i - 256) else u.2.1 j i) (by
    rintro k ⟨s1, s2, s3⟩ ⟨m, hm, e1, e2, h0, hv⟩
    dsimp only at e1 e2 h0 hv
    subst e1
    subst e2
    unfold g_X10_begin_l4
    dsimp only
    by_cases q : m = 64
    · right
      subst q
      exact ⟨_, if_pos (by decide), rfl, h0, hv⟩
    · left
      have hm2 : m < 64 := by omega
      rw [if_neg (show ¬ (64 : Int32) ≤ nI m from nI_ge (a := m) (b := 64) hm2 (by decide)), nI_256, ck_t (inb_nI hm2 (by decide)), ck_t (inb_nI (by omega) (by decide))]
      simp only [lt1_i]
      rw [ck_t (inb_nI hm2 (by decide)), ck_t (inb_nI (by omega) (by decide)), ck_t (inb_nI hm2 (by decide)), ck_t (inb_nI (by omega) (by decide)), ck_t (inb_nI hm2 (by decide)), ck_t (inb_nI (by omega) (by decide)), ck_t (inb_nI hm2 (by decide))]
      simp only [sA_nI (show 256 + m < 2 ^ 31 by omega), rA_nI (show m < 2 ^ 31 by omega), R_at]
      simp only [show ¬ ((2 : Nat) = 6 ∧ m = 256 + m) by omega, show ¬ ((3 : Nat) = 6 ∧ m = 256 + m) by omega, show ¬ ((3 : Nat) = 7 ∧ m = 256 + m) by omega, show ¬ ((4 : Nat) = 6 ∧ m = 256 + m) by omega, show ¬ ((4 : Nat) = 7 ∧ m = 256 + m) by omega, show ¬ ((4 : Nat) = 8 ∧ m = 256 + m) by omega, show ¬ ((1 : Nat) = 6 ∧ m = 256 + m) by omega, show ¬ ((1 : Nat) = 7 ∧ m = 256 + m) by omega, show ¬ ((1 : Nat) = 8 ∧ m = 256 + m) by omega, show ¬ ((1 : Nat) = 9 ∧ m = 256 + m) by omega, if_false]
      have r1 : ∀ z, z ≤ 4 → s3.2.1 z m = u.2.1 z m := fun z hz => by rw [hv z m, if_neg (by omega)]
      rw [r1 1 (by omega), r1 2 (by omega), r1 3 (by omega), r1 4 (by omega)]
      refine ⟨(nI (cntK (u.2.1 1) (m + 1)), nI (m + 1), rg_R (rg_R (rg_R (rg_R s3 6 (256 + m) (u.2.1 1 m)) 7 (256 + m) (u.2.1 2 m)) 8 (256 + m) (u.2.1 3 m)) 9 (256 + m) (u.2.1 4 m)), k - 1, ?_, by omega, m + 1, by omega, rfl, rfl, ?_⟩
      · unfold g_X10_begin_j90
        by_cases q2 : u.2.1 1 m = -1
        · rw [if_pos q2, nI_1]
          show some (Sum.inl (nI (cntK (u.2.1 1) m) + 0, _)) = some (Sum.inl (nI (cntK (u.2.1 1) m + if u.2.1 1 m = -1 then 0 else 1), _))
          rw [if_pos q2, show nI (cntK (u.2.1 1) m) + 0 = nI (cntK (u.2.1 1) m + 0) from nI_add _ 0]
        · rw [if_neg q2, nI_1]
          show some (Sum.inl (nI (cntK (u.2.1 1) m) + 1, _)) = some (Sum.inl (nI (cntK (u.2.1 1) m + if u.2.1 1 m = -1 then 0 else 1), _))
          rw [if_neg q2, nI_1]
      · refine ⟨h0, fun j i => ?_⟩
        rw [R_at, R_at, R_at, R_at, hv j i]
        by_cases hi : i = 256 + m
        · subst hi
          by_cases j9 : j = 9
          · subst j9; rw [if_pos ⟨rfl, rfl⟩, if_pos (by omega), show 256 + m - 256 = m by omega]
          rw [if_neg (fun q => j9 q.1)]
          by_cases j8 : j = 8
          · subst j8; rw [if_pos ⟨rfl, rfl⟩, if_pos (by omega), show 256 + m - 256 = m by omega]
          rw [if_neg (fun q => j8 q.1)]
          by_cases j7 : j = 7
          · subst j7; rw [if_pos ⟨rfl, rfl⟩, if_pos (by omega), show 256 + m - 256 = m by omega]
          rw [if_neg (fun q => j7 q.1)]
          by_cases j6 : j = 6
          · subst j6; rw [if_pos ⟨rfl, rfl⟩, if_pos (by omega), show 256 + m - 256 = m by omega]
          rw [if_neg (fun q => j6 q.1), if_neg (by omega), if_neg (by omega)]
        · rw [if_neg (fun q => hi q.2), if_neg (fun q => hi q.2), if_neg (fun q => hi q.2), if_neg (fun q => hi q.2)]
          by_cases hj : (6 ≤ j ∧ j ≤ 9) ∧ 256 ≤ i ∧ i < 256 + m
          · rw [if_pos hj, if_pos (by omega)]
          · rw [if_neg hj, if_neg (by omega)]) F 64 ((0 : Int32), (0 : Int32), u) (by omega) ⟨0, rfl, rfl, rfl, same0_r, fun j i => by rw [if_neg (by omega)]⟩
  obtain ⟨r1, r2⟩ := r
  dsimp only at h1 h
  subst h1
  exact ⟨r2, e, h⟩
theorem m_begin2 {F : Nat} {n : Int32} {u : rg_U} (hF : 3001 < F) : ∃ u', lp (fun (s : Int32 × rg_U) => g_X10_begin_l124 F n s.1 s.2) F ((0 : Int32), u) = some u' ∧ same0 u u' ∧ ∀ j i, u'.2.1 j i = if j = 20 ∧ 12004 ≤ i ∧ i < 15005 then (if i = 12004 then 1 else 0) else u.2.1 j i := by
  refine lp_ex (body := fun (s : Int32 × rg_U) => g_X10_begin_l124 F n s.1 s.2) (P := fun k s => ∃ m, k + m = 3001 ∧ s.1 = nI m ∧ same0 u s.2 ∧ ∀ j i, s.2.2.1 j i = if j = 20 ∧ 12004 ≤ i ∧ i < 12004 + m then (if i = 12004 then 1 else 0) else u.2.1 j i) (R := fun u' => same0 u u' ∧ ∀ j i, u'.2.1 j i = if j = 20 ∧ 12004 ≤ i ∧ i < 15005 then (if i = 12004 then 1 else 0) else u.2.1 j i) ?_ F 3001 ((0 : Int32), u) (by omega) ⟨0, rfl, rfl, same0_r, fun j i => by rw [if_neg (by omega)]⟩
  rintro k ⟨s1, s2⟩ ⟨m, hm, e1, h0, hv⟩
  dsimp only at e1 h0 hv
  subst e1
  unfold g_X10_begin_l124 g_X10_begin_j149
  dsimp only
  by_cases q : m = 3001
  · right
    subst q
    exact ⟨s2, if_pos (by decide), h0, hv⟩
  · left
    have hm2 : m < 3001 := by omega
    rw [if_neg (show ¬ (3000 : Int32) < nI m from nI_nlt (a := 3000) (b := m) (by omega) (by decide)), show g_X10_heldAt 4 (nI m) = nI (12004 + m) from heldAt_nI (r := 4) (k := m), ck_t (inb_nI (by omega) (by decide)), lt1_i, lt1_i, sZ_nI (by omega), sZ_nI (by omega), nar0, nar1, nI_1]
    refine ⟨(nI (m + 1), rg_R s2 20 (12004 + m) (if m = 0 then 1 else 0)), k - 1, ?_, by omega, m + 1, by omega, rfl, h0, fun j i => ?_⟩
    · by_cases q2 : m = 0
      · subst q2; rfl
      · rw [if_neg (nI_ne0 (by omega) (by omega)), if_neg q2, ck_t (inb_nI (by omega) (by decide))]
    · show (rg_R s2 20 (12004 + m) (if m = 0 then 1 else 0)).2.1 j i = _
      rw [R_at, hv j i]
      by_cases hi : j = 20 ∧ i = 12004 + m
      · rw [if_pos hi, if_pos (show j = 20 ∧ 12004 ≤ i ∧ i < 12004 + (m + 1) by omega)]
        by_cases q2 : m = 0
        · rw [if_pos q2, if_pos (show i = 12004 by omega)]
        · rw [if_neg q2, if_neg (show ¬ i = 12004 by omega)]
      · rw [if_neg hi]
        by_cases hj : j = 20 ∧ 12004 ≤ i ∧ i < 12004 + m
        · rw [if_pos hj, if_pos (show j = 20 ∧ 12004 ≤ i ∧ i < 12004 + (m + 1) by omega)]
        · rw [if_neg hj, if_neg (show ¬ (j = 20 ∧ 12004 ≤ i ∧ i < 12004 + (m + 1)) by omega)]
/-- what lies in the reference's arrays behind begin -/
def m_begunA (u : rg_U) (j i : Nat) : Int32 :=
  if j = 28 ∧ i < 134 then 0 else if i = 4 ∧ j = 27 then 0 else if i = 4 ∧ j = 26 then 1 else if i = 4 ∧ j = 25 then 0 else if i = 4 ∧ j = 24 then u.1 5 else if i = 4 ∧ j = 23 then u.1 4 else if i = 4 ∧ j = 21 then 0 else if j = 20 ∧ 12004 ≤ i ∧ i < 15005 then (if i = 12004 then 1 else 0) else if i = 4 ∧ j = 19 then 0 else if i = 4 ∧ j = 15 then 0 else if i = 4 ∧ j = 5 then 1 else if (6 ≤ j ∧ j ≤ 9) ∧ 256 ≤ i ∧ i < 320 then u.2.1 (j - 5) (i - 256) else u.2.1 j i
theorem m_begin {F : Nat} {u : rg_U} (hF : 10000 < F) : ∃ u', g_X10_begin F u = some (nI (cntK (u.2.1 1) 64), u') ∧ u'.1 = upd (upd u.1 33 0) 41 (-1) ∧ ∀ j i, u'.2.1 j i = m_begunA u j i := by
  obtain ⟨u1, e1, s1, h1⟩ := m_begin1 (F := F) (u := u) (by omega)
  unfold g_X10_begin
  rw [e1, ob_i]
  dsimp only
  rw [ck_t (by decide), lt1_i, ck_t (by decide), lt1_i, ck_t (by decide), lt1_i]
  obtain ⟨u2, e2, s2, h2⟩ := m_begin2 (F := F) (n := nI (cntK (u.2.1 1) 64)) (u := sA (sA (sZ u1 5 4 1) 15 4 0) 19 4 0) (by omega)
  rw [e2, ob_i]
  simp only [lt1_i, ck_t (show inb 4 5 by decide)]
  obtain ⟨u3, e3, s3, h3⟩ := m_clears (F := F) (o := 28) (u := sA (sA (sA (sA (sA (sA u2 21 4 0) 23 4 (rF (sA u2 21 4 0) 0 4)) 24 4 (rF (sA (sA u2 21 4 0) 23 4 (rF (sA u2 21 4 0) 0 4)) 0 5)) 25 4 0) 26 4 1) 27 4 0) (by omega)
  rw [e3, ob_i]
  refine ⟨_, rfl, ?_, ?_⟩
  · show upd (upd u3.1 33 0) 41 (-1) = _
    rw [s3.1]
    show upd (upd u2.1 33 0) 41 (-1) = _
    rw [s2.1]
    show upd (upd u1.1 33 0) 41 (-1) = _
    rw [s1.1]
  · intro j i
    show u3.2.1 j i = _
    rw [h3 j i]
    have f4 : u2.1 4 = u.1 4 := by rw [s2.1]; show u1.1 4 = _; rw [s1.1]
    have f5 : u2.1 5 = u.1 5 := by rw [s2.1]; show u1.1 5 = _; rw [s1.1]
    have g4 : rF (sA u2 21 4 0) 0 4 = u.1 4 := f4
    have g5 : rF (sA (sA u2 21 4 0) 23 4 (u.1 4)) 0 5 = u.1 5 := f5
    rw [g4, g5]
    have c4 : (4 : Int32).toNatClampNeg = 4 := by decide
    unfold sA sZ at *
    simp only [c4, nar1] at *
    simp only [R_at, h2, h1]
    unfold m_begunA
    by_cases q0 : j = 28 ∧ i < 134
    · simp only [q0, and_self, if_true]
    · simp only [q0, if_false]
      by_cases q1 : i = 4
      · subst q1
        simp only [and_true, true_and]
      · simp only [q1, and_false, false_and, if_false]
