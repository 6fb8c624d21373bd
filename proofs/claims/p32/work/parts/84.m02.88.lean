section W_5
-- 88.begin
/-! begin of the reference -/
theorem nar0 : vp_nar .boolean 0 = 0 := by decide
theorem nar1 : vp_nar .boolean 1 = 1 := by decide
theorem m_clears {F o : Nat} {u : rg_U} (hF : 134 < F) : ∃ u', g_X10_clears F o 134 u = some u' ∧ same0 u u' ∧ ∀ j i, u'.2.1 j i = if j = o ∧ i < 134 then 0 else u.2.1 j i := by
  unfold g_X10_clears
  obtain ⟨r, e, h⟩ := lp_ex (body := fun (s : Int32 × rg_U) => g_X10_clears_l2 F o 134 s.1 s.2) (P := fun k s => ∃ m, k + m = 134 ∧ s.1 = nI m ∧ same0 u s.2 ∧ ∀ j i, s.2.2.1 j i = if j = o ∧ i < m then 0 else u.2.1 j i) (R := fun u' => same0 u u' ∧ ∀ j i, u'.2.1 j i = if j = o ∧ i < 134 then 0 else u.2.1 j i) (by
    rintro k ⟨s1, s2⟩ ⟨m, hm, e1, h0, hv⟩
    dsimp only at e1 h0 hv
    subst e1
    unfold g_X10_clears_l2
    dsimp only
    by_cases q : m = 134
    · right
      subst q
      exact ⟨s2, if_pos (by decide), h0, hv⟩
    · left
      have hm2 : m < 134 := by omega
      rw [if_neg (show ¬ (134 : Int32) ≤ nI m from nI_ge (a := m) (b := 134) hm2 (by decide)), ck_t (inb_nI hm2 (by decide)), lt1_i, sA_nI (by omega), nI_1]
      refine ⟨_, k - 1, rfl, by omega, m + 1, by omega, rfl, h0, fun j i => ?_⟩
      rw [R_at, hv j i]
      by_cases hj : j = o
      · by_cases hi : i = m
        · rw [if_pos ⟨hj, hi⟩, if_pos ⟨hj, by omega⟩]
        · rw [if_neg (fun q => hi q.2)]
          by_cases h3 : i < m
          · rw [if_pos ⟨hj, h3⟩, if_pos ⟨hj, by omega⟩]
          · rw [if_neg (fun q => h3 q.2), if_neg (by omega)]
      · rw [if_neg (fun q => hj q.1), if_neg (fun q => hj q.1), if_neg (fun q => hj q.1)]) F 134 ((0 : Int32), u) (by omega) ⟨0, rfl, rfl, same0_r, fun j i => by rw [if_neg (by omega)]⟩
  exact ⟨r, by rw [ob_e e], h⟩
theorem nI_256 {m : Nat} : (256 : Int32) + nI m = nI (256 + m) := nI_add 256 m
theorem heldAt_nI {r k : Nat} : g_X10_heldAt (nI r) (nI k) = nI (3001 * r + k) := by
  unfold g_X10_heldAt
  rw [show (3001 : Int32) * nI r = nI (3001 * r) from pk_mul 3001 r, nI_add]
theorem m_begin1 {F : Nat} {u : rg_U} (hF : 64 < F) : ∃ u', lp (fun (s : Int32 × Int32 × rg_U) => g_X10_begin_l4 F s.1 s.2.1 s.2.2) F ((0 : Int32), (0 : Int32), u) = some (nI (cntK (u.2.1 1) 64), u') ∧ same0 u u' ∧ ∀ j i, u'.2.1 j i = if (6 ≤ j ∧ j ≤ 9) ∧ 256 ≤ i ∧ i < 320 then u.2.1 (j - 5) (i - 256) else u.2.1 j i := by
  obtain ⟨r, e, h1, h⟩ := lp_ex (body := fun (s : Int32 × Int32 × rg_U) => g_X10_begin_l4 F s.1 s.2.1 s.2.2) (P := fun k s => ∃ m, k + m = 64 ∧ s.1 = nI (cntK (u.2.1 1) m) ∧ s.2.1 = nI m ∧ same0 u s.2.2 ∧ ∀ j i, s.2.2.2.1 j i = if (6 ≤ j ∧ j ≤ 9) ∧ 256 ≤ i ∧ i < 256 + m then u.2.1 (j - 5) (i - 256) else u.2.1 j i) (R := fun r => r.1 = nI (cntK (u.2.1 1) 64) ∧ same0 u r.2 ∧ ∀ j i, r.2.2.1 j i = if (6 ≤ j ∧ j ≤ 9) ∧ 256 ≤ i ∧ i < 320 then u.2.1 (j - 5) (i - 256) else u.2.1 j i) (by
    rintro k ⟨s1, s2, s3⟩ ⟨m, hm, e1, e2, h0, hv⟩
    dsimp only at e1 e2 h0 hv
    subst e1
    subst e2
    unfold g_X10_begin_l4
    dsimp only
    by_cases q : m = 64
    · right
      subst q
      exact ⟨_, if_pos (by decide), rfl, h0, hv⟩
    · left
      have hm2 : m < 64 := by omega
      rw [if_neg (show ¬ (64 : Int32) ≤ nI m from nI_ge (a := m) (b := 64) hm2 (by decide)), nI_256, ck_t (inb_nI hm2 (by decide)), ck_t (inb_nI (by omega) (by decide))]
      simp only [lt1_i]
      rw [ck_t (inb_nI hm2 (by decide)), ck_t (inb_nI (by omega) (by decide)), ck_t (inb_nI hm2 (by decide)), ck_t (inb_nI (by omega) (by decide)), ck_t (inb_nI hm2 (by decide)), ck_t (inb_nI (by omega) (by decide)), ck_t (inb_nI hm2 (by decide))]
      simp only [sA_nI (show 256 + m < 2 ^ 31 by omega), rA_nI (show m < 2 ^ 31 by omega), R_at]
      simp only [show ¬ ((2 : Nat) = 6 ∧ m = 256 + m) by omega, show ¬ ((3 : Nat) = 6 ∧ m = 256 + m) by omega, show ¬ ((3 : Nat) = 7 ∧ m = 256 + m) by omega, show ¬ ((4 : Nat) = 6 ∧ m = 256 + m) by omega, show ¬ ((4 : Nat) = 7 ∧ m = 256 + m) by omega, show ¬ ((4 : Nat) = 8 ∧ m = 256 + m) by omega, show ¬ ((1 : Nat) = 6 ∧ m = 256 + m) by omega, show ¬ ((1 : Nat) = 7 ∧ m = 256 + m) by omega, show ¬ ((1 : Nat) = 8 ∧ m = 256 + m) by omega, show ¬ ((1 : Nat) = 9 ∧ m = 256 + m) by omega, if_false]
      have r1 : ∀ z, z ≤ 4 → s3.2.1 z m = u.2.1 z m := fun z hz => by rw [hv z m, if_neg (by omega)]
      rw [r1 1 (by omega), r1 2 (by omega), r1 3 (by omega), r1 4 (by omega)]
      refine ⟨(nI (cntK (u.2.1 1) (m + 1)), nI (m + 1), rg_R (rg_R (rg_R (rg_R s3 6 (256 + m) (u.2.1 1 m)) 7 (256 + m) (u.2.1 2 m)) 8 (256 + m) (u.2.1 3 m)) 9 (256 + m) (u.2.1 4 m)), k - 1, ?_, by omega, m + 1, by omega, rfl, rfl, ?_⟩
      · unfold g_X10_begin_j90
        by_cases q2 : u.2.1 1 m = -1
        · rw [if_pos q2, nI_1]
          show some (Sum.inl (nI (cntK (u.2.1 1) m) + 0, _)) = some (Sum.inl (nI (cntK (u.2.1 1) m + if u.2.1 1 m = -1 then 0 else 1), _))
          rw [if_pos q2, show nI (cntK (u.2.1 1) m) + 0 = nI (cntK (u.2.1 1) m + 0) from nI_add _ 0]
        · rw [if_neg q2, nI_1]
          show some (Sum.inl (nI (cntK (u.2.1 1) m) + 1, _)) = some (Sum.inl (nI (cntK (u.2.1 1) m + if u.2.1 1 m = -1 then 0 else 1), _))
          rw [if_neg q2, nI_1]
      · refine ⟨h0, fun j i => ?_⟩
        rw [R_at, R_at, R_at, R_at, hv j i]
        by_cases hi : i = 256 + m
        · subst hi
          by_cases j9 : j = 9
          · subst j9; rw [if_pos ⟨rfl, rfl⟩, if_pos (by omega), show 256 + m - 256 = m by omega]
          rw [if_neg (fun q => j9 q.1)]
          by_cases j8 : j = 8
          · subst j8; rw [if_pos ⟨rfl, rfl⟩, if_pos (by omega), show 256 + m - 256 = m by omega]
          rw [if_neg (fun q => j8 q.1)]
          by_cases j7 : j = 7
          · subst j7; rw [if_pos ⟨rfl, rfl⟩, if_pos (by omega), show 256 + m - 256 = m by omega]
          rw [if_neg (fun q => j7 q.1)]
          by_cases j6 : j = 6
          · subst j6; rw [if_pos ⟨rfl, rfl⟩, if_pos (by omega), show 256 + m - 256 = m by omega]
          rw [if_neg (fun q => j6 q.1), if_neg (by omega), if_neg (by omega)]
        · rw [if_neg (fun q => hi q.2), if_neg (fun q => hi q.2), if_neg (fun q => hi q.2), if_neg (fun q => hi q.2)]
          by_cases hj : (6 ≤ j ∧ j ≤ 9) ∧ 256 ≤ i ∧ i < 256 + m
          · rw [if_pos hj, if_pos (by omega)]
          · rw [if_neg hj, if_neg (by omega)]) F 64 ((0 : Int32), (0 : Int32), u) (by omega) ⟨0, rfl, rfl, rfl, same0_r, fun j i => by rw [if_neg (by omega)]⟩
  obtain ⟨r1, r2⟩ := r
  dsimp only at h1 h
  subst h1
  exact ⟨r2, e, h⟩
theorem m_begin2 {F : Nat} {n : Int32} {u : rg_U} (hF : 3001 < F) : ∃ u', lp (fun (s : Int32 × rg_U) => g_X10_begin_l124 F n s.1 s.2) F ((0 : Int32), u) = some u' ∧ same0 u u' ∧ ∀ j i, u'.2.1 j i = if j = 20 ∧ 12004 ≤ i ∧ i < 15005 then (if i = 12004 then 1 else 0) else u.2.1 j i := by
  refine lp_ex (body := fun (s : Int32 × rg_U) => g_X10_begin_l124 F n s.1 s.2) (P := fun k s => ∃ m, k + m = 3001 ∧ s.1 = nI m ∧ same0 u s.2 ∧ ∀ j i, s.2.2.1 j i = if j = 20 ∧ 12004 ≤ i ∧ i < 12004 + m then (if i = 12004 then 1 else 0) else u.2.1 j i) (R := fun u' => same0 u u' ∧ ∀ j i, u'.2.1 j i = if j = 20 ∧ 12004 ≤ i ∧ i < 15005 then (if i = 12004 then 1 else 0) else u.2.1 j i) ?_ F 3001 ((0 : Int32), u) (by omega) ⟨0, rfl, rfl, same0_r, fun j i => by rw [if_neg (by omega)]⟩
  rintro k ⟨s1, s2⟩ ⟨m, hm, e1, h0, hv⟩
  dsimp only at e1 h0 hv
  subst e1
  unfold g_X10_begin_l124 g_X10_begin_j149
  dsimp only
  by_cases q : m = 3001
  · right
    subst q
    exact ⟨s2, if_pos (by decide), h0, hv⟩
  · left
    have hm2 : m < 3001 := by omega
    rw [if_neg (show ¬ (3000 : Int32) < nI m from nI_nlt (a := 3000) (b := m) (by omega) (by decide)), show g_X10_heldAt 4 (nI m) = nI (12004 + m) from heldAt_nI (r := 4) (k := m), ck_t (inb_nI (by omega) (by decide)), lt1_i, lt1_i, sZ_nI (by omega), sZ_nI (by omega), nar0, nar1, nI_1]
    refine ⟨(nI (m + 1), rg_R s2 20 (12004 + m) (if m = 0 then 1 else 0)), k - 1, ?_, by omega, m + 1, by omega, rfl, h0, fun j i => ?_⟩
    · by_cases q2 : m = 0
      · subst q2; rfl
      · rw [if_neg (nI_ne0 (by omega) (by omega)), if_neg q2, ck_t (inb_nI (by omega) (by decide))]
    · show (rg_R s2 20 (12004 + m) (if m = 0 then 1 else 0)).2.1 j i = _
      rw [R_at, hv j i]
      by_cases hi : j = 20 ∧ i = 12004 + m
      · rw [if_pos hi, if_pos (show j = 20 ∧ 12004 ≤ i ∧ i < 12004 + (m + 1) by omega)]
        by_cases q2 : m = 0
        · rw [if_pos q2, if_pos (show i = 12004 by omega)]
        · rw [if_neg q2, if_neg (show ¬ i = 12004 by omega)]
      · rw [if_neg hi]
        by_cases hj : j = 20 ∧ 12004 ≤ i ∧ i < 12004 + m
        · rw [if_pos hj, if_pos (show j = 20 ∧ 12004 ≤ i ∧ i < 12004 + (m + 1) by omega)]
        · rw [if_neg hj, if_neg (show ¬ (j = 20 ∧ 12004 ≤ i ∧ i < 12004 + (m + 1)) by omega)]
/-- what lies in the reference's arrays behind begin -/
def m_begunA (u : rg_U) (j i : Nat) : Int32 :=
  if j = 28 ∧ i < 134 then 0 else if i = 4 ∧ j = 27 then 0 else if i = 4 ∧ j = 26 then 1 else if i = 4 ∧ j = 25 then 0 else if i = 4 ∧ j = 24 then u.1 5 else if i = 4 ∧ j = 23 then u.1 4 else if i = 4 ∧ j = 21 then 0 else if j = 20 ∧ 12004 ≤ i ∧ i < 15005 then (if i = 12004 then 1 else 0) else if i = 4 ∧ j = 19 then 0 else if i = 4 ∧ j = 15 then 0 else if i = 4 ∧ j = 5 then 1 else if (6 ≤ j ∧ j ≤ 9) ∧ 256 ≤ i ∧ i < 320 then u.2.1 (j - 5) (i - 256) else u.2.1 j i
theorem m_begin {F : Nat} {u : rg_U} (hF : 10000 < F) : ∃ u', g_X10_begin F u = some (nI (cntK (u.2.1 1) 64), u') ∧ u'.1 = upd (upd u.1 33 0) 41 (-1) ∧ ∀ j i, u'.2.1 j i = m_begunA u j i := by
  obtain ⟨u1, e1, s1, h1⟩ := m_begin1 (F := F) (u := u) (by omega)
  unfold g_X10_begin
  rw [e1, ob_i]
  dsimp only
  rw [ck_t (by decide), lt1_i, ck_t (by decide), lt1_i, ck_t (by decide), lt1_i]
  obtain ⟨u2, e2, s2, h2⟩ := m_begin2 (F := F) (n := nI (cntK (u.2.1 1) 64)) (u := sA (sA (sZ u1 5 4 1) 15 4 0) 19 4 0) (by omega)
  rw [e2, ob_i]
  simp only [lt1_i, ck_t (show inb 4 5 by decide)]
  obtain ⟨u3, e3, s3, h3⟩ := m_clears (F := F) (o := 28) (u := sA (sA (sA (sA (sA (sA u2 21 4 0) 23 4 (rF (sA u2 21 4 0) 0 4)) 24 4 (rF (sA (sA u2 21 4 0) 23 4 (rF (sA u2 21 4 0) 0 4)) 0 5)) 25 4 0) 26 4 1) 27 4 0) (by omega)
  rw [e3, ob_i]
  refine ⟨_, rfl, ?_, ?_⟩
  · show upd (upd u3.1 33 0) 41 (-1) = _
    rw [s3.1]
    show upd (upd u2.1 33 0) 41 (-1) = _
    rw [s2.1]
    show upd (upd u1.1 33 0) 41 (-1) = _
    rw [s1.1]
  · intro j i
    show u3.2.1 j i = _
    rw [h3 j i]
    have f4 : u2.1 4 = u.1 4 := by rw [s2.1]; show u1.1 4 = _; rw [s1.1]
    have f5 : u2.1 5 = u.1 5 := by rw [s2.1]; show u1.1 5 = _; rw [s1.1]
    have g4 : rF (sA u2 21 4 0) 0 4 = u.1 4 := f4
    have g5 : rF (sA (sA u2 21 4 0) 23 4 (u.1 4)) 0 5 = u.1 5 := f5
    rw [g4, g5]
    have c4 : (4 : Int32).toNatClampNeg = 4 := by decide
    unfold sA sZ at *
    simp only [c4, nar1] at *
    simp only [R_at, h2, h1]
    unfold m_begunA
    by_cases q0 : j = 28 ∧ i < 134
    · simp only [q0, and_self, if_true]
    · simp only [q0, if_false]
      by_cases q1 : i = 4
      · subst q1
        simp only [and_true, true_and]
      · simp only [q1, and_false, false_and, if_false]
end W_5
section W_6
-- 89.fresh
/-! the first call on a fresh object -/
def frC (u : rg_U) : Prop := rG u 0 7 = none ∧ rF u 0 8 = -1 ∧ rF u 0 6 = 0 ∧ rF u 0 11 = 0 ∧ rF u 0 12 = 0 ∧ rF u 0 13 = 0 ∧ rF u 6 2 = 0 ∧ rF u 6 3 = 1 ∧ rQ u 150 0 = some 151 ∧ ∀ i, i < 64 → u.2.1 2 i = -1
def frM (u : rg_U) : Prop := rA u 5 4 = 0 ∧ rF u 0 29 = 0 ∧ rF u 0 30 = -1 ∧ rF u 0 33 = 0 ∧ rF u 0 34 = 1 ∧ rF u 0 35 = 0 ∧ (∀ i, u.2.1 30 i = 0) ∧ ∀ i, i < 64 → u.2.1 1 i = -1
theorem frC_l {u : rg_U} (h : frC u) : frC (sF u 0 13 0) := ⟨h.1, h.2.1, h.2.2.1, h.2.2.2.1, h.2.2.2.2.1, rfl, h.2.2.2.2.2.2⟩
theorem frM_l {u : rg_U} (h : frM u) : frM (sF u 0 35 0) := ⟨h.1, h.2.1, h.2.2.1, h.2.2.2.1, h.2.2.2.2.1, rfl, h.2.2.2.2.2.2⟩
theorem frC_0 : frC uL_RunsBack := ⟨rfl, rfl, rfl, rfl, rfl, rfl, rfl, rfl, rfl, fun i hi => by
  show (if i < 64 then (-1 : Int32) else 0) = -1
  rw [if_pos hi]⟩
theorem mu_none_1 : ∀ k : Nat, (mu_none k).1 = (mu_none 0).1
  | 0 => rfl
  | k + 1 => mu_none_1 k
theorem mu_none_a : ∀ k : Nat, k ≤ 64 → ∀ j i, (mu_none k).2.1 j i = if j = 1 ∧ i < k then -1 else (mu_none 0).2.1 j i
  | 0, _, j, i => by rw [if_neg (by omega)]
  | k + 1, hk, j, i => by
    show (rg_R (mu_none k) 1 (nI k).toNatClampNeg (-1)).2.1 j i = _
    rw [nI_clamp (by omega), R_at, mu_none_a k (by omega) j i]
    by_cases h : j = 1 ∧ i = k
    · rw [if_pos h, if_pos (by omega)]
    · rw [if_neg h]
      by_cases h2 : j = 1 ∧ i < k
      · rw [if_pos h2, if_pos (by omega)]
      · rw [if_neg h2, if_neg (by omega)]
theorem frM_0 : frM uL_RunsBackModel := by
  have f : ∀ s, rF uL_RunsBackModel 0 s = (mu_none 0).1 (100 * 0 + s) := fun s => by
    show (mu_none 64).1 _ = _
    rw [mu_none_1 64]
  have a : ∀ j i, uL_RunsBackModel.2.1 j i = if j = 1 ∧ i < 64 then -1 else (mu_none 0).2.1 j i := mu_none_a 64 (by decide)
  refine ⟨?_, by rw [f]; rfl, by rw [f]; rfl, by rw [f]; rfl, by rw [f]; rfl, by rw [f]; rfl, fun i => ?_, fun i hi => ?_⟩
  · show uL_RunsBackModel.2.1 5 _ = 0
    rw [a, if_neg (by omega)]; rfl
  · rw [a, if_neg (by omega)]; rfl
  · rw [a, if_pos ⟨rfl, hi⟩]
theorem i32_n0 {x : Int32} : g_X10_isIn x 0 (0 - 1) = 0 := by
  rw [in_0]
  rintro ⟨q1, q2⟩
  rw [Int32.le_iff_toInt_le] at q1 q2
  have e1 : (0 : Int32).toInt = 0 := rfl
  have e2 : ((0 : Int32) - 1).toInt = -1 := by decide
  omega
theorem fr_kept {F : Nat} {x : Int32} {u : rg_U} (h : frC u) : g_X9_isKept F x u = some 0 := by
  unfold g_X9_isKept
  rw [h.2.2.1]
  by_cases q : x < 0
  · rw [if_pos q]
  · rw [if_neg q, if_pos (by rw [Int32.le_iff_toInt_le]; rw [Int32.lt_iff_toInt_lt] at q; omega)]
theorem fr_num {F : Nat} {x : Int32} {u : rg_U} (h : frC u) : g_X9_numbered F x u = some none := by
  unfold g_X9_numbered
  rw [h.1, om_0, fr_kept h, ob_i, if_pos rfl]
  by_cases q : x = -1
  · rw [if_pos q]
  · rw [if_neg q]
theorem fr_ask {F : Nat} {u : rg_U} (h : frM u) : g_X10_runAsked F u = some 4 := by
  unfold g_X10_runAsked
  rw [if_pos h.2.2.1]
theorem fr_time {F : Nat} {x : Int32} {u : rg_U} (h : frM u) : g_X10_isTime F x u = some 0 := by
  unfold g_X10_isTime
  rw [fr_ask h, ob_i, ck_t (by decide), if_pos h.1]
theorem fr_there {F : Nat} {x : Int32} {u : rg_U} (h : frM u) : g_X10_isThere F x u = some 0 := by
  unfold g_X10_isThere
  rw [h.1, h.2.1, i32_n0, ck_t (by decide), ck_t (Or.inl rfl)]
  by_cases q : x = -1
  · rw [if_pos q]
  · rw [if_neg q]
/-- both answer the same -/
def Both (gc gm : Option (Int32 × rg_U)) : Prop := ∃ zc zm : Int32 × rg_U, gc = some zc ∧ gm = some zm ∧ zc.1 = zm.1
theorem ex2 {α : Type} {x : Option α} (h : ∃ r, x = some r) : ∃ r, x = some r ∧ x = some r := by
  obtain ⟨r, e⟩ := h
  exact ⟨r, e, e⟩
theorem both_i {gc gm : Option (Int32 × rg_U)} {r : Int32} {u v : rg_U} (h1 : gc = some (r, u)) (h2 : gm = some (r, v)) : Both gc gm := ⟨(r, u), (r, v), h1, h2, rfl⟩
section FR
variable {F : Nat} {uc um : rg_U}
theorem fr_give {a1 : Int32} (hc : frC uc) (hm : frM um) : Both (g_X9_give F a1 uc) (g_X10_give F a1 um) := by
  refine ⟨(-1, uc), (-1, um), ?_, ?_, rfl⟩
  · unfold g_X9_give
    rw [hc.1, om_0]
  · unfold g_X10_give
    rw [ck_t (by decide), if_pos hm.1]
theorem fr_poke {a1 a2 a3 : Int32} (hc : frC uc) (hm : frM um) : Both (g_X9_poke F a1 a2 a3 uc) (g_X10_poke F a1 a2 a3 um) := by
  refine ⟨(-1, uc), (-1, um), ?_, ?_, rfl⟩
  · unfold g_X9_poke
    rw [hc.1, om_0]
  · unfold g_X10_poke
    rw [ck_t (by decide), if_pos hm.1]
theorem fr_run {a1 : Int32} (hc : frC uc) (hm : frM um) : Both (g_X9_run F a1 uc) (g_X10_run F a1 um) := by
  refine ⟨(-1, uc), (-1, um), ?_, ?_, rfl⟩
  · unfold g_X9_run
    rw [hc.1, om_0]
  · unfold g_X10_run
    rw [ck_t (by decide), if_pos hm.1]
theorem fr_back {a1 : Int32} (hc : frC uc) (hm : frM um) : Both (g_X9_back F a1 uc) (g_X10_back F a1 um) := by
  refine ⟨(-1, sF uc 0 13 0), (-1, sF um 0 35 0), ?_, ?_, rfl⟩
  · unfold g_X9_back
    rw [lt1_i, show rG (sF uc 0 13 0) 0 7 = none from hc.1, om_0]
  · unfold g_X10_back
    rw [lt1_i, ck_t (by decide), if_pos (frM_l hm).1]
theorem fr_keep (hc : frC uc) (hm : frM um) : Both (g_X9_keep F uc) (g_X10_keep F um) := by
  refine ⟨(-1, uc), (-1, um), ?_, ?_, rfl⟩
  · unfold g_X9_keep g_X9_roomOfKept
    rw [hc.2.2.1, hc.2.2.2.2.2.2.2.2.1, hc.1]
    rfl
  · unfold g_X10_keep
    rw [ck_t (by decide), if_pos hm.1]
theorem fr_at {a1 a2 a3 : Int32} (hc : frC uc) (hm : frM um) : Both (g_X9_at F a1 a2 a3 uc) (g_X10_at F a1 a2 a3 um) := by
  refine ⟨(-1000001, sF uc 0 13 0), (-1000001, sF um 0 35 0), ?_, ?_, rfl⟩
  · unfold g_X9_at
    rw [lt1_i, show rF (sF uc 0 13 0) 0 8 = -1 from hc.2.1, fr_num (frC_l hc), ob_i, om_0]
  · unfold g_X10_at
    rw [lt1_i, fr_time (frM_l hm), ob_i, if_pos rfl]
theorem fr_state {a1 a2 : Int32} (hc : frC uc) (hm : frM um) : Both (g_X9_state F a1 a2 uc) (g_X10_state F a1 a2 um) := by
  refine ⟨(-1000001, sF uc 0 13 0), (-1000001, sF um 0 35 0), ?_, ?_, rfl⟩
  · unfold g_X9_state
    rw [lt1_i, show rF (sF uc 0 13 0) 0 8 = -1 from hc.2.1, fr_num (frC_l hc), ob_i, om_0]
  · unfold g_X10_state
    rw [lt1_i, fr_time (frM_l hm), ob_i, if_pos rfl]
theorem fr_last {a1 a2 : Int32} (hc : frC uc) (hm : frM um) : Both (g_X9_last F a1 a2 uc) (g_X10_last F a1 a2 um) := by
  refine ⟨(-2, sF uc 0 13 0), (-2, sF um 0 35 0), ?_, ?_, rfl⟩
  · unfold g_X9_last
    rw [lt1_i, show rF (sF uc 0 13 0) 0 8 = -1 from hc.2.1, fr_num (frC_l hc), ob_i, om_0]
  · unfold g_X10_last
    rw [lt1_i, fr_time (frM_l hm), ob_i, if_pos rfl]
theorem fr_when {a1 a2 a3 a4 : Int32} (hc : frC uc) (hm : frM um) : Both (g_X9_when F a1 a2 a3 a4 uc) (g_X10_when F a1 a2 a3 a4 um) := by
  refine ⟨(-2, sF uc 0 13 0), (-2, sF um 0 35 0), ?_, ?_, rfl⟩
  · unfold g_X9_when
    rw [lt1_i, show rF (sF uc 0 13 0) 0 8 = -1 from hc.2.1, fr_num (frC_l hc), ob_i, om_0]
  · unfold g_X10_when
    rw [lt1_i, fr_time (frM_l hm), ob_i, if_pos rfl]
theorem fr_changed {a1 a2 : Int32} (hc : frC uc) (hm : frM um) : Both (g_X9_changed F a1 a2 uc) (g_X10_changed F a1 a2 um) := by
  refine ⟨(-1000001, sF uc 0 13 0), (-1000001, sF um 0 35 0), ?_, ?_, rfl⟩
  · unfold g_X9_changed
    rw [lt1_i, show rF (sF uc 0 13 0) 0 8 = -1 from hc.2.1, fr_num (frC_l hc), ob_i, om_0]
  · unfold g_X10_changed
    rw [lt1_i, fr_ask (frM_l hm), ob_i, fr_time (frM_l hm), ob_i, if_pos rfl]
theorem fr_watched {a1 : Int32} (hc : frC uc) (hm : frM um) : Both (g_X9_watched F a1 uc) (g_X10_watched F a1 um) := by
  refine ⟨(-2, sF uc 0 13 0), (-2, sF um 0 35 0), ?_, ?_, rfl⟩
  · unfold g_X9_watched
    rw [lt1_i, show rF (sF uc 0 13 0) 0 8 = -1 from hc.2.1, fr_num (frC_l hc), ob_i, om_0]
  · unfold g_X10_watched
    rw [lt1_i, fr_time (frM_l hm), ob_i, if_pos rfl]
    by_cases q : a1 < 1
    · rw [if_pos q]
    · rw [if_neg q]
theorem fr_rests {a1 a2 a3 : Int32} (hc : frC uc) (hm : frM um) : Both (g_X9_rests F a1 a2 a3 uc) (g_X10_rests F a1 a2 a3 um) := by
  refine ⟨(-2, uc), (-2, um), ?_, ?_, rfl⟩
  · unfold g_X9_rests
    rw [hc.2.1, fr_num hc, ob_i, om_0]
  · unfold g_X10_rests
    rw [fr_time hm, ob_i, if_pos rfl]
theorem fr_hangs {a1 a2 a3 : Int32} (hc : frC uc) (hm : frM um) : Both (g_X9_hangs F a1 a2 a3 uc) (g_X10_hangs F a1 a2 a3 um) := by
  refine ⟨(-1000001, uc), (-1000001, um), ?_, ?_, rfl⟩
  · unfold g_X9_hangs
    rw [hc.2.1, fr_num hc, ob_i, om_0]
  · unfold g_X10_hangs
    rw [fr_ask hm, ob_i, fr_time hm, ob_i, if_pos rfl]
theorem fr_history {a1 a2 a3 : Int32} (hc : frC uc) (hm : frM um) : Both ((lf1 (g_X9_history F a1 a2 a3)) uc) (g_X10_history F a1 a2 a3 um) := by
  refine ⟨(-1000001, uc), (-1000001, um), ?_, ?_, rfl⟩
  · unfold lf1 g_X9_history
    rw [hc.2.1, fr_num hc, ob_i, om_0, ob_i]
  · unfold g_X10_history
    rw [fr_ask hm, ob_i, ck_t (by decide), if_pos hm.1]
theorem fr_done {a1 a2 : Int32} (hc : frC uc) (hm : frM um) : Both ((lf1 (g_X9_done F a1 a2)) uc) (g_X10_done F a1 a2 um) := by
  refine ⟨(-2, uc), (-2, um), ?_, ?_, rfl⟩
  · unfold lf1 g_X9_done
    rw [hc.2.1, fr_num hc, ob_i, om_0, ob_i]
  · unfold g_X10_done
    rw [fr_time hm, ob_i, if_pos rfl]
theorem fr_call {a1 a2 : Int32} (hc : frC uc) (hm : frM um) : Both ((lf1 (g_X9_call F a1 a2)) uc) ((lf1 (g_X10_call F a1 a2)) um) := by
  refine ⟨(-1, uc), (-1, um), ?_, ?_, rfl⟩
  · unfold lf1 g_X9_call
    rw [hc.2.1, fr_num hc, ob_i, om_0, ob_i]
  · unfold lf1 g_X10_call
    rw [fr_ask hm, ob_i, ck_t (by decide), if_pos hm.1, ob_i]
theorem fr_log {a1 a2 : Int32} (hc : frC uc) (hm : frM um) : Both ((lf1 (g_X9_log F a1 a2)) uc) ((lf1 (g_X10_log F a1 a2)) um) := by
  refine ⟨(-1000001, uc), (-1000001, um), ?_, ?_, rfl⟩
  · unfold lf1 g_X9_log
    rw [hc.2.1, fr_num hc, ob_i, om_0, ob_i]
  · unfold lf1 g_X10_log
    rw [fr_ask hm, ob_i, ck_t (by decide), if_pos hm.1, ob_i]
theorem fr_held {a1 a2 : Int32} (hc : frC uc) (hm : frM um) : Both ((lf1 (g_X9_held F a1 a2)) uc) ((lf1 (g_X10_held F a1 a2)) um) := by
  refine ⟨(-1, uc), (-1, um), ?_, ?_, rfl⟩
  · unfold lf1 g_X9_held
    rw [hc.2.1, fr_num hc, ob_i, om_0, ob_i]
  · unfold lf1 g_X10_held
    rw [fr_ask hm, ob_i, ck_t (by decide), if_pos hm.1, ob_i]
theorem fr_align {a1 a2 : Int32} (hc : frC uc) (hm : frM um) : Both (g_X9_align F a1 a2 uc) (g_X10_align F a1 a2 um) := by
  refine ⟨(-2, uc), (-2, um), ?_, ?_, rfl⟩
  · unfold g_X9_align
    rw [fr_num hc, ob_i, om_0, fr_num hc, ob_i, om_0]
  · unfold g_X10_align
    rw [fr_there hm, ob_i, if_pos rfl]
theorem fr_pair {a1 a2 a3 a4 : Int32} (hc : frC uc) (hm : frM um) : Both (g_X9_pair F a1 a2 a3 a4 uc) (g_X10_pair F a1 a2 a3 a4 um) := by
  refine ⟨(-1000001, sF uc 0 13 0), (-1000001, sF um 0 35 0), ?_, ?_, rfl⟩
  · unfold g_X9_pair
    rw [lt1_i, fr_num (frC_l hc), ob_i, om_0, fr_num (frC_l hc), ob_i, om_0]
  · unfold g_X10_pair
    rw [lt1_i, fr_there (frM_l hm), ob_i, if_pos rfl]
theorem fr_parts {a1 a2 : Int32} (hc : frC uc) (hm : frM um) : Both (g_X9_parts F a1 a2 uc) (g_X10_parts F a1 a2 um) := by
  refine ⟨(-2, uc), (-2, um), ?_, ?_, rfl⟩
  · unfold g_X9_parts
    rw [fr_num hc, ob_i, om_0, fr_num hc, ob_i, om_0]
  · unfold g_X10_parts
    rw [fr_there hm, ob_i, if_pos rfl]
theorem fr_code {a1 a2 a3 a4 a5 : Int32} (hc : frC uc) (hm : frM um) : Both (g_X9_code F a1 a2 a3 a4 a5 uc) (g_X10_code F a1 a2 a3 a4 a5 um) := by
  unfold g_X9_code g_X10_code
  rw [cl_ipl]
  by_cases q : g_X10_isIn a1 0 63 = 0
  · exact ⟨(0, uc), (0, um), by rw [if_pos q], by rw [if_pos q], rfl⟩
  rw [if_neg q, if_neg q]
  obtain ⟨k, rfl, h1, h2⟩ := in_nat q (by decide)
  have hk : k < 64 := by have e1 : (63 : Int32).toInt = 63 := rfl; omega
  have hw : ∀ u, g_X9_code_j28 F (nI k) a2 a3 a4 a5 u = some (1, rg_R (rg_R (rg_R (rg_R u 2 k a2) 3 k a3) 4 k a4) 5 k a5) := fun u => by
    unfold g_X9_code_j28
    rw [c_write hk, ob_i]
  rw [hw]
  simp only [lt1_i, ck_t (inb_nI hk (by decide))]
  by_cases q1 : a2 = -1
  · subst q1
    have z : ¬ g_X10_isFine (-1) a3 a4 a5 = 0 := fun q => absurd (show (1 : Int32) = 0 from q) (by decide)
    rw [if_pos rfl, if_neg z]
    exact both_i rfl rfl
  · rw [if_neg q1, instr_fine q1, ob_i]
    by_cases q2 : g_X10_isFine a2 a3 a4 a5 = 0
    · rw [if_pos q2, if_pos q2]; exact both_i rfl rfl
    · rw [if_neg q2, if_neg q2]; exact both_i rfl rfl
theorem fr_spacing {a1 a2 : Int32} (hc : frC uc) (hm : frM um) : Both (g_X9_spacing F a1 a2 uc) (g_X10_spacing F a1 a2 um) := by
  unfold g_X9_spacing g_X10_spacing
  rw [cl_unit, cl_depth, sp_iff]
  by_cases q : g_X10_isIn a1 1 64 = 0
  · exact ⟨(0, uc), (0, um), by rw [if_pos q], by rw [if_pos q, if_pos rfl], rfl⟩
  rw [if_neg q, if_neg q]
  by_cases q2 : g_X10_isIn a2 1 8 = 0
  · exact ⟨(0, uc), (0, um), by rw [if_pos q2], by rw [if_pos q2], rfl⟩
  · rw [if_neg q2, if_neg q2]; exact both_i rfl rfl
theorem fr_begin (hF : 10000 < F) (hc : frC uc) (hm : frM um) : Both (g_X9_begin F uc) (g_X10_begin F um) := by
  obtain ⟨v, -, -, e1⟩ := c_begin (u := uc) hF
  obtain ⟨w, e2, -⟩ := m_begin (u := um) hF
  exact ⟨_, _, e1, e2, by rw [cntK_0 64 hc.2.2.2.2.2.2.2.2.2, cntK_0 64 hm.2.2.2.2.2.2.2]⟩
theorem fr_seed {a1 : Int32} (hc : frC uc) (hm : frM um) : Both (g_X9_seed F a1 uc) (g_X10_seed F a1 um) := ⟨_, _, rfl, rfl, by
  show rF uc 6 3 = rF um 0 34
  rw [hc.2.2.2.2.2.2.2.1, hm.2.2.2.2.1]⟩
theorem sh0 {y : Int32} : (dx_shr 0 y &&& 1) = 0 := by
  show ((0 : Int32) >>> (y &&& 31)) &&& 1 = 0
  rw [Int32.zero_shiftRight]
  rfl
theorem fr_watch {a1 a2 : Int32} (hc : frC uc) (hm : frM um) : Both (g_X9_watch F a1 a2 uc) (g_X10_watch F a1 a2 um) := by
  have hw : g_X9_isWatched F a1 uc = some 0 := by
    unfold g_X9_isWatched
    have n1 : ¬ (0 : Int32) = 1 := by decide
    rw [hc.2.2.2.1, hc.2.2.2.2.1, sh0, sh0, if_neg n1]
    by_cases q : g_X9_isPlace a1 = 0
    · rw [if_pos q]
    · rw [if_neg q]
      by_cases q2 : (8 : Int32) ≤ a1
      · rw [if_pos q2]
      · rw [if_neg q2]
  unfold g_X9_watch g_X10_watch
  rw [hw, ob_i, cl_place]
  by_cases q : g_X10_isPlace a1 = 0
  · exact ⟨(0, uc), (0, um), by rw [if_pos q], by rw [if_pos q], rfl⟩
  rw [if_neg q, if_neg q]
  obtain ⟨k, rfl, h1, h2⟩ := in_nat (v := a1) q (by decide)
  have hk : k < 40 := by have e1 : (39 : Int32).toInt = 39 := rfl; omega
  rw [ck_t (inb_nI hk (by decide)), ck_t (inb_nI hk (by decide)), rA_nI (by omega), hm.2.2.2.2.2.2.1 k]
  by_cases q2 : (0 : Int32) = a2
  · exact ⟨(0, uc), (0, um), by rw [if_pos q2], by rw [if_pos q2], rfl⟩
  rw [if_neg q2, if_neg q2]
  by_cases q3 : (8 : Int32) ≤ nI k
  · rw [if_pos q3]; exact both_i rfl rfl
  · rw [if_neg q3]; exact both_i rfl rfl
theorem fr_use {a1 : Int32} (hc : frC uc) (hm : frM um) : Both (g_X9_use F a1 uc) (g_X10_use F a1 um) := by
  unfold g_X9_use g_X10_use
  rw [fr_kept hc, ob_i, hm.2.1, i32_n0, if_pos rfl, if_pos rfl]
  by_cases q : a1 = -1
  · rw [if_pos q, if_pos q]; exact both_i rfl rfl
  · rw [if_neg q, if_neg q]; exact both_i rfl rfl
theorem fr_wOf {a n : Nat} (hF : 10000 < F) (ha : a + n ≤ 40) (hm : frM um) : g_X10_watchedOf F (nI a) (nI n) um = some 0 := by
  unfold g_X10_watchedOf
  have h := lp_up (body := fun (s : Int32 × Int32) => g_X10_watchedOf_l5 F (nI a) (nI n) um s.1 s.2) (fun k => ((0 : Int32), nI k)) n 0 (fun k hk => by
    show g_X10_watchedOf_l5 F (nI a) (nI n) um 0 (nI k) = _
    unfold g_X10_watchedOf_l5
    rw [if_neg (nI_ge hk (by omega)), nI_add, ck_t (inb_nI (by omega) (by decide)), rA_nI (by omega), hm.2.2.2.2.2.2.1, if_pos rfl]
    unfold g_X10_watchedOf_j32
    rw [nI_1]; rfl) (by
    show g_X10_watchedOf_l5 F (nI a) (nI n) um 0 (nI n) = _
    unfold g_X10_watchedOf_l5
    rw [if_pos (nI_le (Nat.le_refl _) (by omega))]) F 0 (Nat.zero_le _) (by omega)
  rw [nI_0] at h
  rw [h]
  rfl
theorem fr_look {a1 : Int32} (hF : 10000 < F) (hc : frC uc) (hm : frM um) : Both (lf1 (g_X9_look F a1) uc) (lf1 (g_X10_look F a1) um) := by
  have hx : ∃ r, g_X9_look F a1 uc = some r ∧ g_X10_look F a1 um = some r := by
    unfold g_X9_look g_X10_look
    have w1 : g_X10_watchedOf F 0 8 um = some 0 := fr_wOf (a := 0) (n := 8) hF (by omega) hm
    have w2 : g_X10_watchedOf F 8 32 um = some 0 := fr_wOf (a := 8) (n := 32) hF (by omega) hm
    rw [hc.2.1, fr_num hc, ob_i, om_0, fr_ask hm, ob_i, ck_t (by decide), if_pos hm.1, w1, ob_i, w2, ob_i, hm.2.1, hm.2.2.2.1, hm.2.2.2.2.1, hm.2.2.2.2.2.1]
    unfold g_X9_look_j24 g_X9_lookAtRun_n g_X10_isIn
    rw [hc.2.2.1, hc.2.2.2.1, hc.2.2.2.2.1, hc.2.2.2.2.2.1, hc.2.2.2.2.2.2.1, hc.2.2.2.2.2.2.2.1, ob_i]
    by_cases q1 : a1 < 0
    · rw [if_pos q1, if_pos q1, if_pos rfl]
      refine ex2 ?_
      (repeat' split) <;> exact ⟨_, rfl⟩
    · rw [if_neg q1, if_neg q1]
      by_cases q2 : (6 : Int32) < a1
      · rw [if_pos q2, if_pos q2, if_pos rfl]
        refine ex2 ?_
        (repeat' split) <;> exact ⟨_, rfl⟩
      · rw [if_neg q2, if_neg q2, if_neg (by decide)]; exact ⟨_, rfl, rfl⟩
  obtain ⟨r, e1, e2⟩ := hx
  exact ⟨(r, uc), (r, um), by unfold lf1; rw [e1]; rfl, by unfold lf1; rw [e2]; rfl, rfl⟩
end FR
end W_6
section W_7
-- 90.mach
/-! THE MACHINE: a row of 134 ints, one step, as a function; and that the reference's steps are it -/
abbrev Row : Type := Nat → Int32
abbrev tn (x : Int32) : Nat := x.toNatClampNeg
theorem tnn {p : Nat} (h : p < 2 ^ 31) : tn (nI p) = p := nI_clamp h
def rw_ (u : rg_U) (o : Nat) (m : Row) : rg_U := (u.1, va_up u.2.1 o m, u.2.2)
def fl3 (u : rg_U) (a b c : Int32) : rg_U := (upd (upd (upd u.1 37 a) 38 b) 39 c, u.2)
def sT (u : rg_U) (o : Nat) (m : Row) (a b c : Int32) : rg_U := rw_ (fl3 u a b c) o m
theorem va_same {α : Type} {f : Nat → α} {k : Nat} : va_up f k (f k) = f := by
  funext i
  unfold va_up
  by_cases h : i = k
  · rw [if_pos h, h]
  · rw [if_neg h]
theorem va_twice {α : Type} {f : Nat → α} {k : Nat} {a b : α} : va_up (va_up f k a) k b = va_up f k b := by
  funext i
  unfold va_up
  by_cases h : i = k
  · rw [if_pos h, if_pos h]
  · rw [if_neg h, if_neg h, if_neg h]
theorem rw_at {u : rg_U} {o : Nat} {m : Row} : (rw_ u o m).2.1 o = m := pm_up_s
theorem rw_ne {u : rg_U} {o j : Nat} {m : Row} (h : j ≠ o) : (rw_ u o m).2.1 j = u.2.1 j := pm_up_n h
theorem rw_id {u : rg_U} {o : Nat} : rw_ u o (u.2.1 o) = u := by
  unfold rw_
  rw [va_same]
theorem rA_sT {u : rg_U} {o : Nat} {m : Row} {a b c i : Int32} : rA (sT u o m a b c) o i = m (tn i) := congrFun rw_at _
theorem rA_sTn {u : rg_U} {o j : Nat} {m : Row} {a b c i : Int32} (h : j ≠ o) : rA (sT u o m a b c) j i = u.2.1 j (tn i) := congrFun (rw_ne h) _
theorem sA_sT {u : rg_U} {o : Nat} {m : Row} {a b c i v : Int32} : sA (sT u o m a b c) o i v = sT u o (upd m (tn i) v) a b c := by
  unfold sA rg_R sT
  rw [rw_at]
  unfold rw_
  dsimp only
  rw [va_twice]
theorem upd2 {f : Nat → Int32} {k : Nat} {a b : Int32} : upd (upd f k a) k b = upd f k b := by
  funext i
  unfold upd
  by_cases h : i = k
  · rw [if_pos h, if_pos h]
  · rw [if_neg h, if_neg h, if_neg h]
theorem upd_c {f : Nat → Int32} {k l : Nat} {a b : Int32} (h : k ≠ l) : upd (upd f k a) l b = upd (upd f l b) k a := by
  funext i
  unfold upd
  by_cases h1 : i = k
  · rw [if_pos h1, if_neg (fun q => h (h1.symm.trans q)), if_pos h1]
  · rw [if_neg h1]
    by_cases h2 : i = l
    · rw [if_pos h2, if_neg h1]
    · rw [if_neg h2, if_neg h1]
theorem sF_37 {u : rg_U} {o : Nat} {m : Row} {a b c v : Int32} : sF (sT u o m a b c) 0 37 v = sT u o m v b c := by
  unfold sF rg_F sT rw_ fl3
  dsimp only
  rw [show 100 * 0 + 37 = 37 from rfl, upd_c (k := 39) (l := 37) (by decide), upd_c (k := 38) (l := 37) (by decide), upd2]
theorem sF_38 {u : rg_U} {o : Nat} {m : Row} {a b c v : Int32} : sF (sT u o m a b c) 0 38 v = sT u o m a v c := by
  unfold sF rg_F sT rw_ fl3
  dsimp only
  rw [show 100 * 0 + 38 = 38 from rfl, upd_c (k := 39) (l := 38) (by decide), upd2]
theorem sF_39 {u : rg_U} {o : Nat} {m : Row} {a b c v : Int32} : sF (sT u o m a b c) 0 39 v = sT u o m a b v := by
  unfold sF rg_F sT rw_ fl3
  dsimp only
  rw [show 100 * 0 + 39 = 39 from rfl, upd2]
theorem sT_0 {u : rg_U} {o : Nat} {a b c : Int32} : sF (sF (sF u 0 37 a) 0 38 b) 0 39 c = sT u o (u.2.1 o) a b c := by
  unfold sT rw_ fl3
  dsimp only
  rw [va_same]
  rfl
def mput (m : Row) (p : Nat) (s n : Int32) : Row := upd (upd (upd m (80 + p) (m (80 + p) + (if m p = s ∧ m (40 + p) = n then 0 else 1))) p s) (40 + p) n
theorem c0 {p : Nat} : (0 : Int32) + nI p = nI p := (nI_add 0 p).trans (by rw [Nat.zero_add])
theorem c40 {p : Nat} : (40 : Int32) + nI p = nI (40 + p) := nI_add 40 p
theorem c80 {p : Nat} : (80 : Int32) + nI p = nI (80 + p) := nI_add 80 p
theorem c8 {p : Nat} : (8 : Int32) + nI p = nI (8 + p) := nI_add 8 p
theorem c122 {p : Nat} : (122 : Int32) + nI p = nI (122 + p) := nI_add 122 p
theorem m_puts {F o p : Nat} {s n a b c : Int32} {u : rg_U} {m : Row} (hp : p < 40) : g_X10_puts F o 134 (nI p) s n (sT u o m a b c) = some (sT u o (mput m p s n) a b c) := by
  unfold g_X10_puts
  rw [c0, c40, c80, ck_t (inb_nI (by omega) (by decide)), ck_t (inb_nI (by omega) (by decide)), ck_t (inb_nI (by omega) (by decide))]
  unfold g_X10_puts_j26 g_X10_puts_j31
  rw [c0, c40]
  simp only [lt1_i, ck_t (inb_nI (show p < 134 by omega) (by decide)), ck_t (inb_nI (show 40 + p < 134 by omega) (by decide)), ck_t (inb_nI (show 80 + p < 134 by omega) (by decide)), rA_sT, sA_sT, nI_clamp (show p < 2 ^ 31 by omega), nI_clamp (show 40 + p < 2 ^ 31 by omega), nI_clamp (show 80 + p < 2 ^ 31 by omega)]
  unfold mput
  by_cases h1 : m p = s
  · by_cases h2 : m (40 + p) = n
    · rw [if_pos h1, if_pos h2, if_pos ⟨h1, h2⟩]; rfl
    · rw [if_pos h1, if_neg h2, if_neg (fun q => h2 q.2)]; rfl
  · rw [if_neg h1, if_neg (fun q => h1 q.1)]; rfl
theorem m_gives {F o p : Nat} {s n a b c : Int32} {u : rg_U} {m : Row} (hp : p < 40) : g_X10_gives F o 134 (nI p) s n (sT u o m a b c) = some (sT u o (mput m p s n) a b (nI p)) := by
  unfold g_X10_gives
  rw [lt1_i, sF_39, m_puts hp, ob_i]
theorem m_traps {F o : Nat} {k a b c : Int32} {u : rg_U} {m : Row} : g_X10_traps F o 134 k (sT u o m a b c) = some (sT u o (upd m 132 (10 + k)) k b c) := by
  unfold g_X10_traps
  rw [lt1_i, sF_37, ck_t (by decide), lt1_i, sA_sT]
  rfl
theorem m_isOf {F o p : Nat} {s a b c : Int32} {u : rg_U} {m : Row} (hp : p < 40) : g_X10_isOf F o 134 (nI p) s (sT u o m a b c) = some (if m p = s then 1 else 0) := by
  unfold g_X10_isOf
  rw [c0, ck_t (inb_nI (by omega) (by decide)), rA_sT, tnn (by omega)]
  by_cases h : m p = s
  · rw [if_pos h, if_pos h]
  · rw [if_neg h, if_neg h]
abbrev MSt : Type := Row × Int32 × Int32 × Int32
def mtrp (m : Row) (k : Int32) : MSt := (upd m 132 (10 + k), k, -1, -1)
def mgiv (m : Row) (p : Nat) (s n : Int32) : MSt := (mput m p s n, 0, -1, nI p)
def mreck (m : Row) (k : Nat) (a b c : Nat) : MSt :=
  if ¬ m b = 2 ∨ ¬ m c = 2 then mtrp m 1
  else if (k = 7 ∨ k = 8) ∧ m (40 + c) = 0 then mtrp m 2
  else if k = 9 then mgiv m a 1 (if m (40 + b) < m (40 + c) then 1 else 0)
  else mgiv m a 2 (if k = 4 then m (40 + b) + m (40 + c) else if k = 5 then m (40 + b) - m (40 + c) else if k = 6 then m (40 + b) * m (40 + c) else if k = 7 then m (40 + b) / m (40 + c) else dx_rem (m (40 + b)) (m (40 + c)))
def mcel (m : Row) (by_ : Nat) (f : Nat → MSt) : MSt :=
  if m by_ = 2 then (if 0 ≤ m (40 + by_) ∧ m (40 + by_) ≤ 31 then f (8 + tn (m (40 + by_))) else mtrp m 3) else mtrp m 1
def mdo (m : Row) (k : Nat) (a b c num en : Int32) : MSt := match k with
  | 0 => (upd m 132 2, 0, -1, -1)
  | 1 => mgiv m (tn a) 2 b
  | 2 => mgiv m (tn a) 1 b
  | 3 => mgiv m (tn a) (m (tn b)) (m (40 + tn b))
  | 10 => mgiv m (tn a) 1 (if m (tn b) = m (tn c) ∧ m (40 + tn b) = m (40 + tn c) then 1 else 0)
  | 11 => if m (tn b) = 1 then mgiv m (tn a) 1 (1 - m (40 + tn b)) else mtrp m 1
  | 12 => if m (tn b) = 1 ∧ m (tn c) = 1 then mgiv m (tn a) 1 (m (40 + tn b) &&& m (40 + tn c)) else mtrp m 1
  | 13 => mcel m (tn b) (fun p => mgiv m (tn a) (m p) (m (40 + p)))
  | 14 => mcel m (tn a) (fun p => mgiv m p (m (tn b)) (m (40 + tn b)))
  | 15 => (upd m 120 a, 0, -1, -1)
  | 16 => if m (tn a) = 1 then ((if m (40 + tn a) = 1 then upd m 120 b else m), 0, -1, -1) else mtrp m 1
  | 17 => if m 121 = 8 then mtrp m 4 else (upd (upd (upd m (122 + tn (m 121)) (m 120)) 121 (m 121 + 1)) 120 a, 0, -1, -1)
  | 18 => if m 121 = 0 then (upd m 132 2, 0, -1, -1) else (upd (upd m 121 (m 121 - 1)) 120 (m (122 + tn (m 121 - 1))), 0, -1, -1)
  | 19 => (mput m (tn a) 2 num, 0, en, a)
  | 20 => (mput m (tn a) 2 num, 0, en, a)
  | 21 => (upd (upd m 130 (m 130 + 1)) 131 (31 * m 131 + 3 * m (40 + tn a) + m (tn a)), 0, -1, -1)
  | 22 => mgiv m (tn a) 0 0
  | k => mreck m k (tn a) (tn b) (tn c)
def sTp (u : rg_U) (o : Nat) (z : MSt) : rg_U := sT u o z.1 z.2.1 z.2.2.1 z.2.2.2
end W_7
section W_8
-- 91.mach
theorem one_n0 : ¬ (1 : Int32) = 0 := by decide
theorem m_reckons {F o k a b c : Nat} {u : rg_U} {m : Row} (hk : 4 ≤ k ∧ k ≤ 9) (ha : a < 40) (hb : b < 40) (hc : c < 40) : g_X10_reckons F o 134 (nI k) (nI a) (nI b) (nI c) (sT u o m 0 (-1) (-1)) = some (sTp u o (mreck m k a b c)) := by
  unfold g_X10_reckons
  rw [m_isOf hb, ob_i, m_isOf hc, ob_i]
  unfold g_X10_reckons_j20
  rw [m_traps, ob_i, c40, c40, ck_t (inb_nI (by omega) (by decide)), ck_t (inb_nI (by omega) (by decide)), rA_sT, rA_sT, tnn (by omega), tnn (by omega)]
  unfold mreck
  by_cases h1 : m b = 2
  · rw [if_pos h1, if_neg one_n0]
    by_cases h2 : m c = 2
    · rw [if_pos h2, if_neg one_n0, if_neg (show ¬ (¬ m b = 2 ∨ ¬ m c = 2) from fun q => q.elim (fun z => z h1) (fun z => z h2))]
      unfold g_X10_reckons_j57 g_X10_reckons_j69 g_X10_reckons_j91 g_X10_reckons_j163
      rw [m_traps, ob_i]
      simp only [m_gives ha, ob_i]
      rcases (show k = 4 ∨ k = 5 ∨ k = 6 ∨ k = 7 ∨ k = 8 ∨ k = 9 by omega) with rfl | rfl | rfl | rfl | rfl | rfl
      · rw [if_neg (show ¬ nI 4 = 7 by decide), if_neg (show ¬ nI 4 = 8 by decide), if_neg (show ¬ nI 4 = 9 by decide), if_pos (show nI 4 = 4 by decide), if_neg (by omega), if_neg (by omega), if_pos rfl]; rfl
      · rw [if_neg (show ¬ nI 5 = 7 by decide), if_neg (show ¬ nI 5 = 8 by decide), if_neg (show ¬ nI 5 = 9 by decide), if_neg (show ¬ nI 5 = 4 by decide), if_pos (show nI 5 = 5 by decide), if_neg (by omega), if_neg (by omega), if_neg (by omega), if_pos rfl]; rfl
      · rw [if_neg (show ¬ nI 6 = 7 by decide), if_neg (show ¬ nI 6 = 8 by decide), if_neg (show ¬ nI 6 = 9 by decide), if_neg (show ¬ nI 6 = 4 by decide), if_neg (show ¬ nI 6 = 5 by decide), if_pos (show nI 6 = 6 by decide), if_neg (by omega), if_neg (by omega), if_neg (by omega), if_neg (by omega), if_pos rfl]; rfl
      · rw [if_pos (show nI 7 = 7 by decide)]
        by_cases h3 : m (40 + c) = 0
        · rw [if_pos h3, if_pos (show (7 = 7 ∨ 7 = 8) ∧ m (40 + c) = 0 from ⟨Or.inl rfl, h3⟩)]; rfl
        · rw [if_neg h3, if_neg (show ¬ nI 7 = 9 by decide), if_neg (show ¬ nI 7 = 4 by decide), if_neg (show ¬ nI 7 = 5 by decide), if_neg (show ¬ nI 7 = 6 by decide), if_pos (show nI 7 = 7 by decide), ck_t h3, if_neg (show ¬ ((7 = 7 ∨ 7 = 8) ∧ m (40 + c) = 0) from fun q => h3 q.2), if_neg (show ¬ (7 : Nat) = 9 by decide), if_neg (show ¬ (7 : Nat) = 4 by decide), if_neg (show ¬ (7 : Nat) = 5 by decide), if_neg (show ¬ (7 : Nat) = 6 by decide), if_pos (show (7 : Nat) = 7 by decide)]; rfl
      · rw [if_neg (show ¬ nI 8 = 7 by decide), if_pos (show nI 8 = 8 by decide)]
        by_cases h3 : m (40 + c) = 0
        · rw [if_pos h3, if_pos (show (8 = 7 ∨ 8 = 8) ∧ m (40 + c) = 0 from ⟨Or.inr rfl, h3⟩)]; rfl
        · rw [if_neg h3, if_neg (show ¬ nI 8 = 9 by decide), if_neg (show ¬ nI 8 = 4 by decide), if_neg (show ¬ nI 8 = 5 by decide), if_neg (show ¬ nI 8 = 6 by decide), if_neg (show ¬ nI 8 = 7 by decide), ck_t h3, if_neg (show ¬ ((8 = 7 ∨ 8 = 8) ∧ m (40 + c) = 0) from fun q => h3 q.2), if_neg (show ¬ (8 : Nat) = 9 by decide), if_neg (show ¬ (8 : Nat) = 4 by decide), if_neg (show ¬ (8 : Nat) = 5 by decide), if_neg (show ¬ (8 : Nat) = 6 by decide), if_neg (show ¬ (8 : Nat) = 7 by decide)]; rfl
      · rw [if_neg (show ¬ nI 9 = 7 by decide), if_neg (show ¬ nI 9 = 8 by decide), if_pos (show nI 9 = 9 by decide), if_neg (show ¬ ((9 = 7 ∨ 9 = 8) ∧ m (40 + c) = 0) by omega), if_pos (show (9 : Nat) = 9 by decide)]
        by_cases h3 : m (40 + c) ≤ m (40 + b)
        · rw [if_pos h3, if_neg (show ¬ m (40 + b) < m (40 + c) by rw [Int32.le_iff_toInt_le] at h3; rw [Int32.lt_iff_toInt_lt]; omega)]; rfl
        · rw [if_neg h3, if_pos (show m (40 + b) < m (40 + c) by rw [Int32.le_iff_toInt_le] at h3; rw [Int32.lt_iff_toInt_lt]; omega)]; rfl
    · rw [if_neg h2, if_pos rfl, if_pos (Or.inr h2)]; rfl
  · rw [if_neg h1, if_pos rfl, if_pos (Or.inl h1)]; rfl
theorem m_cells {F o k a b : Nat} {u : rg_U} {m : Row} (hk : k = 13 ∨ k = 14) (ha : a < 40) (hb : b < 40) : g_X10_cells F o 134 (nI k) (nI a) (nI b) (sT u o m 0 (-1) (-1)) = some (sTp u o (if k = 13 then mcel m b (fun p => mgiv m a (m p) (m (40 + p))) else mcel m a (fun p => mgiv m p (m b) (m (40 + b))))) := by
  have key : ∀ y, y < 40 → g_X10_cells_j12 F o 134 (nI k) (nI a) (nI b) (nI y) (sT u o m 0 (-1) (-1)) = some (sTp u o (mcel m y (fun p => if k = 13 then mgiv m a (m p) (m (40 + p)) else mgiv m p (m b) (m (40 + b))))) := by
    intro y hy
    unfold g_X10_cells_j12 mcel
    rw [m_isOf hy, ob_i, m_traps, ob_i, m_traps, ob_i]
    by_cases h1 : m y = 2
    · rw [if_pos h1, if_neg one_n0, if_pos h1, c40, ck_t (inb_nI (by omega) (by decide)), ck_t (inb_nI (by omega) (by decide)), rA_sT, tnn (by omega)]
      by_cases h2 : g_X10_isIn (m (40 + y)) 0 31 = 0
      · rw [if_pos h2, if_neg (in_0.mp h2)]; rfl
      · rw [if_neg h2, if_pos (Classical.byContradiction fun q => h2 (in_0.mpr q))]
        obtain ⟨q, hq, q1, q2⟩ := in_nat h2 (by decide)
        have hq2 : q ≤ 31 := by have e1 : (31 : Int32).toInt = 31 := rfl; omega
        rw [hq, show tn (nI q) = q from tnn (by omega), c8, c0, c40, c0, c40]
        dsimp only
        rcases hk with rfl | rfl
        · rw [if_pos (show nI 13 = 13 by decide), if_pos (show (13 : Nat) = 13 by decide), ck_t (inb_nI (by omega) (by decide)), ck_t (inb_nI (by omega) (by decide)), rA_sT, rA_sT, tnn (by omega), tnn (by omega), m_gives ha, ob_i]; rfl
        · rw [if_neg (show ¬ nI 14 = 13 by decide), if_neg (show ¬ 14 = 13 by decide), ck_t (inb_nI (by omega) (by decide)), ck_t (inb_nI (by omega) (by decide)), rA_sT, rA_sT, tnn (by omega), tnn (by omega), m_gives (by omega), ob_i]; rfl
    · rw [if_neg h1, if_pos rfl, if_neg h1]; rfl
  unfold g_X10_cells
  rcases hk with rfl | rfl
  · rw [if_pos (show nI 13 = 13 by decide), if_pos rfl, key b hb]; rfl
  · rw [if_neg (show ¬ nI 14 = 13 by decide), if_neg (show ¬ 14 = 13 by decide), key a ha]; rfl
theorem c121 {F o : Nat} {u : rg_U} {m : Row} {a b c : Int32} : rA (sT u o m a b c) o 121 = m 121 := rA_sT
theorem c120 {F o : Nat} {u : rg_U} {m : Row} {a b c : Int32} : rA (sT u o m a b c) o 120 = m 120 := rA_sT
theorem m_goes {F o k d : Nat} {a b : Int32} {u : rg_U} {m : Row} (hk : k = 15 ∨ k = 16 ∨ k = 17 ∨ k = 18) (ha : k = 16 → ∃ p, p < 40 ∧ a = nI p) (hd : m 121 = nI d) (hd8 : d ≤ 8) (c num en : Int32) : g_X10_goes F o 134 (nI k) a b (sT u o m 0 (-1) (-1)) = some (sTp u o (mdo m k a b c num en)) := by
  unfold g_X10_goes
  rcases hk with rfl | rfl | rfl | rfl
  · rw [if_pos (show nI 15 = 15 by decide), ck_t (by decide), lt1_i, sA_sT]; rfl
  · obtain ⟨p, hp, rfl⟩ := ha rfl
    rw [if_neg (show ¬ nI 16 = 15 by decide), if_pos (show nI 16 = 16 by decide), m_isOf hp, ob_i, m_traps, ob_i, c40, ck_t (inb_nI (by omega) (by decide)), rA_sT, tnn (by omega), ck_t (by decide), lt1_i, sA_sT]
    show _ = some (sTp u o (if m (tn (nI p)) = 1 then ((if m (40 + tn (nI p)) = 1 then upd m 120 b else m), 0, -1, -1) else mtrp m 1))
    rw [show tn (nI p) = p from tnn (by omega)]
    by_cases h1 : m p = 1
    · rw [if_pos h1, if_neg one_n0, if_pos h1]
      by_cases h2 : m (40 + p) = 1
      · rw [if_pos h2, if_pos h2]; rfl
      · rw [if_neg h2, if_neg h2]; rfl
    · rw [if_neg h1, if_pos rfl, if_neg h1]; rfl
  · rw [if_neg (show ¬ nI 17 = 15 by decide), if_neg (show ¬ nI 17 = 16 by decide), if_pos (show nI 17 = 17 by decide), ck_t (by decide), ck_t (by decide), m_traps, ob_i, ck_t (by decide)]
    simp only [lt1_i, rA_sT, sA_sT, show tn 121 = 121 from by decide, show tn 120 = 120 from by decide, hd]
    show _ = some (sTp u o (if m 121 = 8 then mtrp m 4 else (upd (upd (upd m (122 + tn (m 121)) (m 120)) 121 (m 121 + 1)) 120 a, 0, -1, -1)))
    rw [hd, c122]
    by_cases h1 : nI d = 8
    · rw [if_pos h1, if_pos h1]; rfl
    · rw [if_neg h1, if_neg h1]
      have hd7 : d < 8 := by
        rcases Nat.lt_or_ge d 8 with q | q
        · exact q
        · exact absurd (by rw [show d = 8 by omega]; rfl) h1
      rw [ck_t (inb_nI (by omega) (by decide)), ck_t (by decide), ck_t (by decide), ck_t (by decide), show tn (nI (122 + d)) = 122 + d from tnn (by omega), show tn (nI d) = d from tnn (by omega)]
      have e1 : upd m (122 + d) (m 120) 121 = nI d := by rw [pk_un (by omega), hd]
      rw [e1]; rfl
  · rw [if_neg (show ¬ nI 18 = 15 by decide), if_neg (show ¬ nI 18 = 16 by decide), if_neg (show ¬ nI 18 = 17 by decide), ck_t (by decide), ck_t (by decide), ck_t (by decide), ck_t (by decide)]
    simp only [lt1_i, rA_sT, sA_sT, show tn 121 = 121 from by decide, show tn 120 = 120 from by decide, show tn 132 = 132 from by decide, hd]
    show _ = some (sTp u o (if m 121 = 0 then (upd m 132 2, 0, -1, -1) else (upd (upd m 121 (m 121 - 1)) 120 (m (122 + tn (m 121 - 1))), 0, -1, -1)))
    rw [hd]
    by_cases h1 : nI d = 0
    · rw [if_pos h1, if_pos h1]; rfl
    · rw [if_neg h1, if_neg h1]
      have hd0 : 0 < d := Nat.pos_of_ne_zero fun q => h1 (by rw [q]; rfl)
      rw [show nI d - 1 = nI (d - 1) from nI_sub (a := d) (b := 1) hd0, ck_t (by decide), pk_us, c122, ck_t (inb_nI (by omega) (by decide)), ck_t (by decide), show tn (nI (122 + (d - 1))) = 122 + (d - 1) from tnn (by omega), show tn (nI (d - 1)) = d - 1 from tnn (by omega), pk_un (by omega)]
      rfl
end W_8
