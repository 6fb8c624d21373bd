/-! back -/
theorem isLt {x : Int32} {K : Nat} (hK : K < 2 ^ 31) : (g_X10_isIn x 0 (nI K - 1) = 0 ∧ ¬ ∃ r, r < K ∧ x = nI r) ∨ (¬ g_X10_isIn x 0 (nI K - 1) = 0 ∧ ∃ r, r < K ∧ x = nI r) := by
  have h : ∀ r, r < K → ¬ g_X10_isIn (nI r) 0 (nI K - 1) = 0 := fun r hr => by
    rw [show nI K - 1 = nI (K - 1) from nI_sub (a := K) (b := 1) (by omega)]
    exact in_nI (a := 0) (by omega) (by omega) (by omega)
  by_cases q : g_X10_isIn x 0 (nI K - 1) = 0
  · refine Or.inl ⟨q, ?_⟩
    rintro ⟨r, hr, rfl⟩
    exact h r hr q
  · refine Or.inr ⟨q, ?_⟩
    obtain ⟨r, e, h1, h2⟩ := in_nat q (by decide)
    refine ⟨r, ?_, e⟩
    rcases Nat.eq_zero_or_pos K with z | z
    · subst z
      have e2 : (nI 0 - 1).toInt = -1 := by decide
      omega
    · rw [show nI K - 1 = nI (K - 1) from nI_sub (a := K) (b := 1) z, nI_toInt (by omega)] at h2
      omega
theorem bk_live {F : Nat} {a b : Int32} {u : rg_U} (hF : 10000 < F) : ∃ v, lp (fun (s : Int32 × rg_U) => g_X10_back_l45 F a b s.1 s.2) F ((0 : Int32), u) = some v ∧ v.1 = u.1 ∧ ∀ j i, v.2.1 j i = if j = 28 ∧ i < 134 then u.2.1 31 i else u.2.1 j i := by
  refine lp_ex (body := fun (s : Int32 × rg_U) => g_X10_back_l45 F a b s.1 s.2) (P := fun k s => ∃ m, k + m = 134 ∧ s.1 = nI m ∧ s.2.1 = u.1 ∧ ∀ j i, s.2.2.1 j i = if j = 28 ∧ i < m then u.2.1 31 i else u.2.1 j i) (R := fun v => v.1 = u.1 ∧ ∀ j i, v.2.1 j i = if j = 28 ∧ i < 134 then u.2.1 31 i else u.2.1 j i) ?_ F 134 ((0 : Int32), u) (by omega) ⟨0, rfl, rfl, rfl, fun j i => by rw [if_neg (by omega)]⟩
  rintro k ⟨s1, s2⟩ ⟨m, hm, e1, e2, hv⟩
  dsimp only at e1 e2 hv
  subst e1
  unfold g_X10_back_l45
  dsimp only
  by_cases q : m = 134
  · right
    subst q
    exact ⟨s2, if_pos (by decide), e2, hv⟩
  · left
    rw [if_neg (show ¬ (134 : Int32) ≤ nI m from nI_ge (a := m) (b := 134) (by omega) (by decide)), ck_t (inb_nI (by omega) (by decide)), ck_t (inb_nI (by omega) (by decide)), lt1_i, sA_nI (by omega), rA_nI (by omega), nI_1]
    refine ⟨_, k - 1, rfl, by omega, m + 1, by omega, rfl, e2, fun j i => ?_⟩
    rw [R_at, hv j i, hv 31 m, if_neg (show ¬ (31 = 28 ∧ m < m) by omega)]
    by_cases z : j = 28 ∧ i = m
    · rw [if_pos z, if_pos (show j = 28 ∧ i < m + 1 by omega), z.2]
    · rw [if_neg z]
      by_cases y : j = 28 ∧ i < m
      · rw [if_pos y, if_pos (show j = 28 ∧ i < m + 1 by omega)]
      · rw [if_neg y, if_neg (show ¬ (j = 28 ∧ i < m + 1) by omega)]
theorem bk_stay {F n t l : Nat} {b : Int32} {u : rg_U} (h15 : u.2.1 15 4 = nI n) (hn : n ≤ 800) (hl : l ≤ n) (ht : t ≤ 3000) (ho : ∀ k, k < n → ∃ q, q ≤ 3000 ∧ (Lm u 4).1 k = nI q ∧ (k < l ↔ q < t + (if (Lm u 4).2.1 k = 2 then 1 else 0))) (hF : 10000 < F) : lp (fun (s : Int32) => g_X10_back_l79 F (nI t) b u s) F (0 : Int32) = some (nI l) := by
  have e15 : rA u 15 4 = nI n := h15
  have hbody : ∀ k, k < n → g_X10_back_l79 F (nI t) b u (nI k) = if k < l then some (.inl (nI (k + 1))) else some (.inr (nI k)) := fun k hk => by
    obtain ⟨q, hq1, hq2, hq3⟩ := ho k hk
    unfold g_X10_back_l79 g_X10_back_j119
    rw [ck_t (by decide), e15, if_neg (nI_ge hk (by omega)), show (3200 : Int32) + nI k = nI (3200 + k) from nI_add 3200 k, ck_t (inb_nI (by omega) (by decide)), ck_t (inb_nI (by omega) (by decide)), rA_nI (by omega), rA_nI (by omega), show u.2.1 10 (3200 + k) = nI q by rw [← hq2, Lm_0 (by omega)], show u.2.1 11 (3200 + k) = (Lm u 4).2.1 k by rw [Lm_1 (by omega)], nI_1]
    by_cases z : (Lm u 4).2.1 k = 2
    · rw [if_pos z] at hq3 ⊢
      rw [show nI t + g_X10_one 1 = nI (t + 1) from nI_1 t]
      by_cases y : k < l
      · rw [if_pos y, if_neg (nI_ge (hq3.mp y) (by omega))]
      · rw [if_neg y, if_pos (nI_le (Nat.not_lt.mp (mt hq3.mpr y)) (by omega))]
    · rw [if_neg z] at hq3 ⊢
      rw [show nI t + g_X10_one 0 = nI (t + 0) from nI_add t 0]
      by_cases y : k < l
      · rw [if_pos y, if_neg (nI_ge (hq3.mp y) (by omega))]
      · rw [if_neg y, if_pos (nI_le (Nat.not_lt.mp (mt hq3.mpr y)) (by omega))]
  have h := lp_up (body := fun (s : Int32) => g_X10_back_l79 F (nI t) b u s) (fun k => nI k) l (nI l) (fun k hk => by
    show g_X10_back_l79 F (nI t) b u (nI k) = _
    rw [hbody k (by omega), if_pos hk]) (by
    show g_X10_back_l79 F (nI t) b u (nI l) = _
    by_cases z : l < n
    · rw [hbody l z, if_neg (Nat.lt_irrefl l)]
    · unfold g_X10_back_l79
      rw [ck_t (by decide), e15, if_pos (nI_le (by omega) (by omega))]) F 0 (Nat.zero_le _) (by omega)
  exact h
theorem cI_mono {L : Lg} {a : Nat} : ∀ d, cI L a ≤ cI L (a + d)
  | 0 => Nat.le_refl _
  | d + 1 => Nat.le_trans (cI_mono d) (Nat.le_add_right _ _)
theorem cI_s {L : Lg} {k : Nat} : cI L (k + 1) = cI L k + (if L.2.1 k = 0 then 1 else 0) := rfl
theorem bk_again {F n l : Nat} {a b c : Int32} {u : rg_U} (h15 : u.2.1 15 4 = nI n) (hn : n ≤ 800) (hl : l ≤ n) (hF : 10000 < F) : lp (fun (s : Int32 × Int32) => g_X10_back_l138 F a b c u s.1 s.2) F ((0 : Int32), nI l) = some (nI (cI (Lm u 4) n - cI (Lm u 4) l)) := by
  have e15 : rA u 15 4 = nI n := h15
  have h := lp_up (body := fun (s : Int32 × Int32) => g_X10_back_l138 F a b c u s.1 s.2) (fun k => (nI (cI (Lm u 4) (l + k) - cI (Lm u 4) l), nI (l + k))) (n - l) (nI (cI (Lm u 4) n - cI (Lm u 4) l)) (fun k hk => by
    show g_X10_back_l138 F a b c u (nI (cI (Lm u 4) (l + k) - cI (Lm u 4) l)) (nI (l + k)) = _
    unfold g_X10_back_l138 g_X10_back_j170
    have hm := cI_mono (L := Lm u 4) (a := l) k
    rw [ck_t (by decide), e15, if_neg (nI_ge (by omega) (by omega)), show (3200 : Int32) + nI (l + k) = nI (3200 + (l + k)) from nI_add 3200 _, ck_t (inb_nI (by omega) (by decide)), rA_nI (by omega), show u.2.1 11 (3200 + (l + k)) = (Lm u 4).2.1 (l + k) by rw [Lm_1 (by omega)], nI_1, show l + (k + 1) = (l + k) + 1 by omega, cI_s]
    by_cases z : (Lm u 4).2.1 (l + k) = 0
    · rw [if_pos z, if_pos z, show g_X10_one 1 = 1 from rfl, nI_1, show cI (Lm u 4) (l + k) - cI (Lm u 4) l + 1 = cI (Lm u 4) (l + k) + 1 - cI (Lm u 4) l by omega]
    · rw [if_neg z, if_neg z, show g_X10_one 0 = nI 0 from rfl, nI_add]; rfl) (by
    show g_X10_back_l138 F a b c u _ (nI (l + (n - l))) = _
    unfold g_X10_back_l138
    rw [ck_t (by decide), e15, if_pos (nI_le (by omega) (by omega)), show l + (n - l) = n by omega]) F 0 (Nat.zero_le _) (by omega)
  rw [show (nI (cI (Lm u 4) (l + 0) - cI (Lm u 4) l), nI (l + 0)) = ((0 : Int32), nI l) by rw [Nat.add_zero, Nat.sub_self]; rfl] at h
  exact h
theorem bk_shift {F W g : Nat} {a b c : Int32} {u : rg_U} (hW : W + g ≤ 900) (hF : 10000 < F) : ∃ v, lp (fun (s : Int32 × rg_U) => g_X10_back_l190 F a b c (nI g) s.1 s.2) F (nI W - 1, u) = some v ∧ v.1 = u.1 ∧ ∀ j i, v.2.1 j i = if j = 29 ∧ g ≤ i ∧ i < W + g then u.2.1 29 (i - g) else u.2.1 j i := by
  refine lp_ex (body := fun (s : Int32 × rg_U) => g_X10_back_l190 F a b c (nI g) s.1 s.2) (P := fun k s => k ≤ W ∧ s.1 = nI k - 1 ∧ s.2.1 = u.1 ∧ ∀ j i, s.2.2.1 j i = if j = 29 ∧ k + g ≤ i ∧ i < W + g then u.2.1 29 (i - g) else u.2.1 j i) (R := fun v => v.1 = u.1 ∧ ∀ j i, v.2.1 j i = if j = 29 ∧ g ≤ i ∧ i < W + g then u.2.1 29 (i - g) else u.2.1 j i) ?_ F W (nI W - 1, u) (by omega) ⟨Nat.le_refl _, rfl, rfl, fun j i => by rw [if_neg (by omega)]⟩
  rintro k ⟨s1, s2⟩ ⟨hk, e1, e2, hv⟩
  dsimp only at e1 e2 hv
  subst e1
  unfold g_X10_back_l190
  dsimp only
  match k, hk, hv with
  | 0, hk, hv =>
    right
    refine ⟨s2, if_pos (by decide), e2, fun j i => ?_⟩
    rw [hv j i]
    by_cases z : j = 29 ∧ g ≤ i ∧ i < W + g
    · rw [if_pos z, if_pos (by omega)]
    · rw [if_neg z, if_neg (by omega)]
  | k + 1, hk, hv =>
    left
    rw [nI_pred, if_neg (nI_pos (by omega)), ck_t (inb_nI (by omega) (by decide)), nI_add, ck_t (inb_nI (by omega) (by decide)), lt1_i, sA_nI (by omega), rA_nI (by omega)]
    refine ⟨_, k, rfl, by omega, by omega, (Int32.sub_eq_add_neg _ _).symm, e2, fun j i => ?_⟩
    rw [R_at, hv j i, hv 29 k, if_neg (show ¬ (29 = 29 ∧ k + 1 + g ≤ k ∧ k < W + g) by omega)]
    by_cases z : j = 29 ∧ i = k + g
    · rw [if_pos z, if_pos (show j = 29 ∧ k + g ≤ i ∧ i < W + g by omega), show i - g = k by omega]
    · rw [if_neg z]
      by_cases y : j = 29 ∧ k + 1 + g ≤ i ∧ i < W + g
      · rw [if_pos y, if_pos (show j = 29 ∧ k + g ≤ i ∧ i < W + g by omega)]
      · rw [if_neg y, if_neg (show ¬ (j = 29 ∧ k + g ≤ i ∧ i < W + g) by omega)]
theorem bk_fill {F n l : Nat} {a b c : Int32} {u : rg_U} (h15 : u.2.1 15 4 = nI n) (hn : n ≤ 800) (hl : l ≤ n) (hF : 10000 < F) : ∃ v, lp (fun (s : Int32 × Int32 × rg_U) => g_X10_back_l235 F a b c s.1 s.2.1 s.2.2) F ((0 : Int32), nI l, u) = some v ∧ v.1 = u.1 ∧ (∀ j, j ≠ 29 → v.2.1 j = u.2.1 j) ∧ (∀ i, cI (Lm u 4) n - cI (Lm u 4) l ≤ i → v.2.1 29 i = u.2.1 29 i) ∧ ∀ k, l ≤ k → k < n → (Lm u 4).2.1 k = 0 → v.2.1 29 (cI (Lm u 4) k - cI (Lm u 4) l) = (Lm u 4).2.2.1 k := by
  refine lp_ex (body := fun (s : Int32 × Int32 × rg_U) => g_X10_back_l235 F a b c s.1 s.2.1 s.2.2) (P := fun k s => ∃ m, k + m = n ∧ l ≤ m ∧ s.1 = nI (cI (Lm u 4) m - cI (Lm u 4) l) ∧ s.2.1 = nI m ∧ s.2.2.1 = u.1 ∧ (∀ j, j ≠ 29 → s.2.2.2.1 j = u.2.1 j) ∧ (∀ i, cI (Lm u 4) m - cI (Lm u 4) l ≤ i → s.2.2.2.1 29 i = u.2.1 29 i) ∧ ∀ k, l ≤ k → k < m → (Lm u 4).2.1 k = 0 → s.2.2.2.1 29 (cI (Lm u 4) k - cI (Lm u 4) l) = (Lm u 4).2.2.1 k) (R := fun v => v.1 = u.1 ∧ (∀ j, j ≠ 29 → v.2.1 j = u.2.1 j) ∧ (∀ i, cI (Lm u 4) n - cI (Lm u 4) l ≤ i → v.2.1 29 i = u.2.1 29 i) ∧ ∀ k, l ≤ k → k < n → (Lm u 4).2.1 k = 0 → v.2.1 29 (cI (Lm u 4) k - cI (Lm u 4) l) = (Lm u 4).2.2.1 k) ?_ F (n - l) ((0 : Int32), nI l, u) (by omega) ⟨l, by omega, Nat.le_refl _, by rw [Nat.sub_self]; rfl, rfl, rfl, fun _ _ => rfl, fun _ _ => rfl, fun k a b => by omega⟩
  rintro k ⟨s1, s2, s3⟩ ⟨m, hm, hlm, e1, e2, e3, ha, hb, hc⟩
  dsimp only at e1 e2 e3 ha hb hc
  subst e1
  subst e2
  have e15 : rA s3 15 4 = nI n := by
    show s3.2.1 15 4 = _
    rw [ha 15 (by decide)]
    exact h15
  unfold g_X10_back_l235 g_X10_back_j284
  dsimp only
  by_cases q : m = n
  · right
    subst q
    exact ⟨s3, by rw [ck_t (by decide), e15, if_pos (nI_le (Nat.le_refl _) (by omega))], e3, ha, hb, hc⟩
  · left
    have hmono := cI_mono (L := Lm u 4) (a := l) (m - l)
    rw [show l + (m - l) = m by omega] at hmono
    have hle := cI_le (L := Lm u 4) m
    rw [ck_t (by decide), e15, if_neg (nI_ge (by omega) (by omega)), show (3200 : Int32) + nI m = nI (3200 + m) from nI_add 3200 m, ck_t (inb_nI (by omega) (by decide)), ck_t (inb_nI (by omega) (by decide)), ck_t (inb_nI (by omega) (by decide)), rA_nI (by omega), rA_nI (by omega), ha 11 (by decide), ha 12 (by decide), show u.2.1 11 (3200 + m) = (Lm u 4).2.1 m by rw [Lm_1 (by omega)], show u.2.1 12 (3200 + m) = (Lm u 4).2.2.1 m by rw [Lm_2 (by omega)], lt1_i, sA_nI (by omega), nI_1, nI_1]
    by_cases z : (Lm u 4).2.1 m = 0
    · rw [if_pos z]
      have hcs : cI (Lm u 4) (m + 1) = cI (Lm u 4) m + 1 := by rw [cI_s, if_pos z]
      refine ⟨_, k - 1, rfl, by omega, m + 1, by omega, by omega, ?_, rfl, e3, fun j hj => ?_, fun i hi => ?_, fun i h1 h2 h3 => ?_⟩
      · dsimp only
        rw [hcs, show cI (Lm u 4) m - cI (Lm u 4) l + 1 = cI (Lm u 4) m + 1 - cI (Lm u 4) l by omega]
      · exact (pm_up_n hj).trans (ha j hj)
      · rw [R_at, if_neg (by omega)]
        exact hb i (by omega)
      · rw [R_at]
        by_cases y : i = m
        · subst y; rw [if_pos ⟨rfl, rfl⟩]
        · have hi : cI (Lm u 4) (i + 1) ≤ cI (Lm u 4) m := by
            have := cI_mono (L := Lm u 4) (a := i + 1) (m - (i + 1))
            rw [show i + 1 + (m - (i + 1)) = m by omega] at this
            exact this
          rw [cI_s, if_pos h3] at hi
          have hil := cI_mono (L := Lm u 4) (a := l) (i - l)
          rw [show l + (i - l) = i by omega] at hil
          rw [if_neg (by omega)]
          exact hc i h1 (by omega) h3
    · rw [if_neg z]
      have hcs : cI (Lm u 4) (m + 1) = cI (Lm u 4) m := by rw [cI_s, if_neg z]; rfl
      refine ⟨_, k - 1, rfl, by omega, m + 1, by omega, by omega, by rw [hcs], rfl, e3, ha, fun i hi => hb i (by omega), fun i h1 h2 h3 => ?_⟩
      by_cases y : i = m
      · subst y; exact absurd h3 z
      · exact hc i h1 (by omega) h3
