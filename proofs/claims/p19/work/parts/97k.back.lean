theorem bk_calls {F t C : Nat} {b : Int32} {ct : Nat → Nat} {u : rg_U} (h19 : u.2.1 19 4 = nI C) (hC : C ≤ 100) (hct : ∀ i, i < C → u.2.1 16 (400 + i) = nI (ct i) ∧ ct i < 3000) (ht : t ≤ 3000) (hF : 10000 < F) : ∃ v C', lp (fun (s : rg_U) => g_X10_back_l297 F (nI t) b s) F u = some v ∧ C' ≤ C ∧ v.1 = u.1 ∧ (∀ j i, v.2.1 j i = if j = 19 ∧ i = 4 then nI C' else u.2.1 j i) ∧ (C' = 0 ∨ ct (C' - 1) < t) ∧ ∀ i, C' ≤ i → i < C → t ≤ ct i := by
  have key : ∀ (k : Nat), k ≤ C → ∀ s : rg_U, s.1 = u.1 → (∀ j i, s.2.1 j i = if j = 19 ∧ i = 4 then nI k else u.2.1 j i) → (∀ i, k ≤ i → i < C → t ≤ ct i) → ∀ G, k < G → ∃ v C', lp (fun (s : rg_U) => g_X10_back_l297 F (nI t) b s) G s = some v ∧ C' ≤ C ∧ v.1 = u.1 ∧ (∀ j i, v.2.1 j i = if j = 19 ∧ i = 4 then nI C' else u.2.1 j i) ∧ (C' = 0 ∨ ct (C' - 1) < t) ∧ ∀ i, C' ≤ i → i < C → t ≤ ct i := by
    intro k
    induction k with
    | zero =>
      intro hk s e1 hv hr G hG
      match G, hG with
      | 0, hG => omega
      | G + 1, hG =>
        unfold lp g_X10_back_l297
        have e19 : rA s 19 4 = nI 0 := by
          show s.2.1 19 4 = _
          rw [hv, if_pos ⟨rfl, rfl⟩]
        rw [ck_t (by decide), e19, if_pos (by decide)]
        exact ⟨s, 0, rfl, by omega, e1, hv, Or.inl rfl, hr⟩
    | succ k ih =>
      intro hk s e1 hv hr G hG
      match G, hG with
      | 0, hG => omega
      | G + 1, hG =>
        unfold lp g_X10_back_l297
        have e19 : rA s 19 4 = nI (k + 1) := by
          show s.2.1 19 4 = _
          rw [hv, if_pos ⟨rfl, rfl⟩]
        obtain ⟨c1, c2⟩ := hct k (by omega)
        have e16 : s.2.1 16 (400 + k) = nI (ct k) := by rw [hv, if_neg (by omega)]; exact c1
        rw [ck_t (by decide), e19, if_neg (show ¬ nI (k + 1) ≤ 0 from nI_nle (by omega) (by omega)), ck_t (by decide), show (400 : Int32) + nI (k + 1) - 1 = nI (400 + k) by rw [show (400 : Int32) + nI (k + 1) = nI (400 + k + 1) from nI_add 400 (k + 1), nI_pred], ck_t (inb_nI (by omega) (by decide)), rA_nI (by omega), e16]
        by_cases q : ct k < t
        · rw [if_pos (nI_lt q (by omega))]
          exact ⟨s, k + 1, rfl, hk, e1, hv, Or.inr q, hr⟩
        · rw [if_neg (nI_nlt (by omega) (by omega)), ck_t (by decide), ck_t (by decide), nI_pred, lt1_i]
          have ew : sA s 19 4 (nI k) = rg_R s 19 4 (nI k) := rfl
          rw [ew]
          refine ih (by omega) (rg_R s 19 4 (nI k)) e1 (fun j i => ?_) (fun i h1 h2 => ?_) G (by omega)
          · rw [R_at, hv j i]
            by_cases z : j = 19 ∧ i = 4
            · rw [if_pos z, if_pos z]
            · rw [if_neg z, if_neg z, if_neg z]
          · by_cases z : i = k
            · subst z; omega
            · exact hr i (by omega) h2
  refine key C (Nat.le_refl _) u rfl (fun j i => ?_) (fun i h1 h2 => by omega) F (by omega)
  by_cases z : j = 19 ∧ i = 4
  · rw [if_pos z, z.1, z.2]; exact h19
  · rw [if_neg z]
theorem bk_held {F t U : Nat} {b : Int32} {u : rg_U} (h23 : u.2.1 23 4 = nI U) (hU : U ≤ 64) (ht : t ≤ 3000) (hF : 10000 < F) : ∃ v, lp (fun (s : Int32 × rg_U) => g_X10_back_l343 F (nI t) b s.1 s.2) F ((1 : Int32), u) = some v ∧ v.1 = u.1 ∧ ∀ j i, v.2.1 j i = if j = 20 ∧ (12004 < i ∧ i < 15005) ∧ t < (i - 12004) * U then 0 else u.2.1 j i := by
  refine lp_ex (body := fun (s : Int32 × rg_U) => g_X10_back_l343 F (nI t) b s.1 s.2) (P := fun k s => ∃ m, k + m = 3001 ∧ 1 ≤ m ∧ s.1 = nI m ∧ s.2.1 = u.1 ∧ ∀ j i, s.2.2.1 j i = if j = 20 ∧ (12004 < i ∧ i < 12004 + m) ∧ t < (i - 12004) * U then 0 else u.2.1 j i) (R := fun v => v.1 = u.1 ∧ ∀ j i, v.2.1 j i = if j = 20 ∧ (12004 < i ∧ i < 15005) ∧ t < (i - 12004) * U then 0 else u.2.1 j i) ?_ F 3000 ((1 : Int32), u) (by omega) ⟨1, by omega, by omega, rfl, rfl, fun j i => by rw [if_neg (by omega)]⟩
  rintro k ⟨s1, s2⟩ ⟨m, hm, hm1, e1, e2, hv⟩
  dsimp only at e1 e2 hv
  subst e1
  unfold g_X10_back_l343 g_X10_back_j376
  dsimp only
  by_cases q : m = 3001
  · right
    subst q
    exact ⟨s2, if_pos (by decide), e2, hv⟩
  · left
    have e23 : rA s2 23 4 = nI U := by
      show s2.2.1 23 4 = _
      rw [hv, if_neg (by omega)]
      exact h23
    have hmU : m * U ≤ 3000 * 64 := Nat.mul_le_mul (by omega) hU
    rw [if_neg (show ¬ (3000 : Int32) < nI m from nI_nlt (a := 3000) (b := m) (by omega) (by decide)), ck_t (by decide), e23, pk_mul, show g_X10_heldAt 4 (nI m) = nI (12004 + m) from heldAt_nI (r := 4) (k := m), ck_t (inb_nI (by omega) (by decide)), lt1_i, sZ_nI (by omega), nar0, nI_1]
    by_cases z : m * U ≤ t
    · rw [if_pos (nI_le z (by omega))]
      refine ⟨_, k - 1, rfl, by omega, m + 1, by omega, by omega, rfl, e2, fun j i => ?_⟩
      rw [hv j i]
      by_cases y : j = 20 ∧ (12004 < i ∧ i < 12004 + m) ∧ t < (i - 12004) * U
      · rw [if_pos y, if_pos ⟨y.1, by omega, y.2.2⟩]
      · rw [if_neg y]
        by_cases x : i = 12004 + m
        · subst x
          rw [if_neg (fun w => by rw [show 12004 + m - 12004 = m by omega] at w; omega)]
        · rw [if_neg (fun w => y ⟨w.1, by omega, w.2.2⟩)]
    · rw [if_neg (nI_ge (by omega) (by omega))]
      refine ⟨_, k - 1, rfl, by omega, m + 1, by omega, by omega, rfl, e2, fun j i => ?_⟩
      rw [R_at, hv j i]
      by_cases x : j = 20 ∧ i = 12004 + m
      · rw [if_pos x]
        obtain ⟨rfl, rfl⟩ := x
        rw [if_pos (by rw [show 12004 + m - 12004 = m by omega]; omega)]
      · rw [if_neg x]
        by_cases y : j = 20 ∧ (12004 < i ∧ i < 12004 + m) ∧ t < (i - 12004) * U
        · rw [if_pos y, if_pos ⟨y.1, by omega, y.2.2⟩]
        · rw [if_neg y, if_neg (fun w => y ⟨w.1, by omega, w.2.2⟩)]
/-- what back comes to -/
def bkD (u u' : rg_U) (W W' t x C' : Nat) : Prop :=
  (u'.2.1 28 = (rpm u 4 t).1 ∧ nr u' 4 = (rpm u 4 t).2 ∧ Tr u' 4 = t ∧ Cr u' 4 = C' ∧ W' = W + (cI (Lm u 4) (nr u 4) - cI (Lm u 4) (rpm u 4 t).2)) ∧
  (∀ j, (j < 15 ∨ (16 ≤ j ∧ j ≤ 18) ∨ (22 ≤ j ∧ j ≤ 24) ∨ j = 26 ∨ j = 30) → u'.2.1 j = u.2.1 j) ∧
  (u'.2.1 25 4 = u.2.1 25 4 + nI x ∧ u'.2.1 27 4 = u.2.1 27 4 + 1 ∧ u'.1 35 = nI x ∧ u'.1 33 = nI W' ∧ u'.1 34 = u.1 34) ∧
  (∀ k, k ≤ 32 → u'.1 k = u.1 k) ∧ (∀ r, r < 4 → agR u u' r) ∧
  (C' ≤ Cr u 4 ∧ ∀ ct : Nat → Nat, (∀ i, i < Cr u 4 → u.2.1 16 (400 + i) = nI (ct i) ∧ ct i < Tr u 4) → (C' = 0 ∨ ct (C' - 1) < t) ∧ ∀ i, C' ≤ i → i < Cr u 4 → t ≤ ct i) ∧
  (∀ k, k ≤ 3000 → Hm u' 4 k = if t < k * Ur u 4 then 0 else Hm u 4 k) ∧
  (∀ s, s ≤ t → rpm u' 4 s = rpm u 4 s) ∧
  (∀ i, i < W → u'.2.1 29 (i + (W' - W)) = u.2.1 29 i) ∧ ∀ k, (rpm u 4 t).2 ≤ k → k < nr u 4 → (Lm u 4).2.1 k = 0 → u'.2.1 29 (cI (Lm u 4) k - cI (Lm u 4) (rpm u 4 t).2) = (Lm u 4).2.2.1 k
