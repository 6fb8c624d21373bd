/-! keep -/
/-- of each array j the block of run 4 lies also at K, where E j says how long it is (0: not) -/
def CP (u s : rg_U) (K : Nat) (E : Nat → Nat) : Prop := s.1 = u.1 ∧ ∀ j i, s.2.1 j i = if 0 < E j ∧ E j * K ≤ i ∧ i < E j * K + E j then u.2.1 j (i - E j * K + E j * 4) else u.2.1 j i
def eup (E : Nat → Nat) (j e : Nat) : Nat → Nat := fun k => if k = j then e else E k
theorem CP_0 {u : rg_U} {K : Nat} : CP u u K (fun _ => 0) := ⟨rfl, fun j i => (if_neg (fun z => absurd z.1 (Nat.lt_irrefl 0))).symm⟩
theorem cp_step {F o N e K : Nat} {u s : rg_U} {E : Nat → Nat} (h : CP u s K E) (hE : E o = 0) (he : 0 < e) (heN : e * 5 ≤ N) (hN : N ≤ 20000) (hK : K < 4) (hF : 10000 < F) (hs : e ≤ 4000) : ∃ s', g_X10_copies F o N (nI e) 4 (nI K) s = some s' ∧ CP u s' K (eup E o e) := by
  have heK : e * K ≤ e * 3 := Nat.mul_le_mul_left e (by omega)
  unfold g_X10_copies
  obtain ⟨r, e1, hr⟩ := lp_ex (body := fun (s : Int32 × rg_U) => g_X10_copies_l3 F o N (nI e) 4 (nI K) s.1 s.2) (P := fun k q => ∃ m, k + m = e ∧ q.1 = nI m ∧ q.2.1 = u.1 ∧ ∀ j i, q.2.2.1 j i = if j = o then (if e * K ≤ i ∧ i < e * K + m then u.2.1 o (i - e * K + e * 4) else u.2.1 o i) else s.2.1 j i) (R := fun v => CP u v K (eup E o e)) (by
    rintro k ⟨q1, q2⟩ ⟨m, hm, e2, e3, hv⟩
    dsimp only at e2 e3 hv
    subst e2
    unfold g_X10_copies_l3
    dsimp only
    by_cases q : m = e
    · right
      subst q
      refine ⟨q2, if_pos (nI_le (Nat.le_refl _) (by omega)), e3, fun j i => ?_⟩
      rw [hv j i]
      unfold eup
      by_cases z : j = o
      · subst z
        rw [if_pos rfl, if_pos rfl]
        by_cases y : m * K ≤ i ∧ i < m * K + m
        · rw [if_pos y, if_pos ⟨he, y⟩]
        · rw [if_neg y, if_neg (fun w => y w.2)]
      · rw [if_neg z, if_neg z, h.2 j i]
    · left
      have hme : m < e := by omega
      rw [if_neg (nI_ge hme (by omega)), show nI e * 4 = nI (e * 4) from pk_mul e 4, pk_mul, nI_add, nI_add, ck_t (inb_nI (by omega) (by omega)), ck_t (inb_nI (by omega) (by omega)), lt1_i, sA_nI (by omega), rA_nI (by omega), nI_1]
      refine ⟨_, k - 1, rfl, by omega, m + 1, by omega, rfl, e3, fun j i => ?_⟩
      rw [R_at, hv j i, hv o (e * 4 + m), if_pos rfl, if_neg (show ¬ (e * K ≤ e * 4 + m ∧ e * 4 + m < e * K + m) by omega)]
      by_cases z : j = o
      · rw [if_pos z, if_pos z]
        by_cases y : i = e * K + m
        · rw [if_pos ⟨z, y⟩, if_pos (show e * K ≤ i ∧ i < e * K + (m + 1) by omega), show i - e * K + e * 4 = e * 4 + m by omega]
        · rw [if_neg (fun w => y w.2)]
          by_cases x : e * K ≤ i ∧ i < e * K + m
          · rw [if_pos x, if_pos (show e * K ≤ i ∧ i < e * K + (m + 1) by omega)]
          · rw [if_neg x, if_neg (show ¬ (e * K ≤ i ∧ i < e * K + (m + 1)) by omega)]
      · rw [if_neg (fun w => z w.1), if_neg z, if_neg z]) F e ((0 : Int32), s) (by omega) ⟨0, by omega, rfl, h.1, fun j i => by
        by_cases z : j = o
        · rw [if_pos z, if_neg (by omega), z]
          show s.2.1 o i = _
          rw [h.2 o i, hE, if_neg (by omega)]
        · rw [if_neg z]⟩
  exact ⟨r, by rw [ob_e e1], hr⟩
theorem cp_held {F K : Nat} {u s : rg_U} {E : Nat → Nat} (h : CP u s K E) (hE : E 20 = 0) (hb : ∀ i, 12004 ≤ i → i < 15005 → u.2.1 20 i = 0 ∨ u.2.1 20 i = 1) (hK : K < 4) (hF : 10000 < F) : ∃ s', lp (fun (s : Int32 × rg_U) => g_X10_keep_l183 F (nI K) s.1 s.2) F ((0 : Int32), s) = some s' ∧ CP u s' K (eup E 20 3001) := by
  refine lp_ex (body := fun (s : Int32 × rg_U) => g_X10_keep_l183 F (nI K) s.1 s.2) (P := fun k q => ∃ m, k + m = 3001 ∧ q.1 = nI m ∧ q.2.1 = u.1 ∧ ∀ j i, q.2.2.1 j i = if j = 20 then (if 3001 * K ≤ i ∧ i < 3001 * K + m then u.2.1 20 (i - 3001 * K + 3001 * 4) else u.2.1 20 i) else s.2.1 j i) (R := fun v => CP u v K (eup E 20 3001)) ?_ F 3001 ((0 : Int32), s) (by omega) ⟨0, by omega, rfl, h.1, fun j i => by
        by_cases z : j = 20
        · rw [if_pos z, if_neg (by omega), z]
          show s.2.1 20 i = _
          rw [h.2 20 i, hE, if_neg (by omega)]
        · rw [if_neg z]⟩
  rintro k ⟨q1, q2⟩ ⟨m, hm, e2, e3, hv⟩
  dsimp only at e2 e3 hv
  subst e2
  unfold g_X10_keep_l183
  dsimp only
  by_cases q : m = 3001
  · right
    subst q
    refine ⟨q2, if_pos (by decide), e3, fun j i => ?_⟩
    rw [hv j i]
    unfold eup
    by_cases z : j = 20
    · subst z
      rw [if_pos rfl, if_pos rfl]
      by_cases y : 3001 * K ≤ i ∧ i < 3001 * K + 3001
      · rw [if_pos y, if_pos ⟨by omega, y⟩]
      · rw [if_neg y, if_neg (fun w => y w.2)]
    · rw [if_neg z, if_neg z, h.2 j i]
  · left
    have hme : m < 3001 := by omega
    rw [if_neg (show ¬ (3000 : Int32) < nI m from nI_nlt (a := 3000) (b := m) (by omega) (by decide)), show g_X10_heldAt 4 (nI m) = nI (3001 * 4 + m) from heldAt_nI (r := 4) (k := m), heldAt_nI, ck_t (inb_nI (by omega) (by decide)), ck_t (inb_nI (by omega) (by decide)), lt1_i, sZ_nI (by omega), rA_nI (by omega), nI_1]
    have ev : q2.2.1 20 (3001 * 4 + m) = u.2.1 20 (3001 * 4 + m) := by rw [hv, if_pos rfl, if_neg (by omega)]
    rw [ev, vnb (hb _ (by omega) (by omega))]
    refine ⟨_, k - 1, rfl, by omega, m + 1, by omega, rfl, e3, fun j i => ?_⟩
    rw [R_at, hv j i]
    by_cases z : j = 20
    · rw [if_pos z, if_pos z]
      by_cases y : i = 3001 * K + m
      · rw [if_pos ⟨z, y⟩, if_pos (show 3001 * K ≤ i ∧ i < 3001 * K + (m + 1) by omega), show i - 3001 * K + 3001 * 4 = 3001 * 4 + m by omega]
      · rw [if_neg (fun w => y w.2)]
        by_cases x : 3001 * K ≤ i ∧ i < 3001 * K + m
        · rw [if_pos x, if_pos (show 3001 * K ≤ i ∧ i < 3001 * K + (m + 1) by omega)]
        · rw [if_neg x, if_neg (show ¬ (3001 * K ≤ i ∧ i < 3001 * K + (m + 1)) by omega)]
    · rw [if_neg (fun w => z w.1), if_neg z, if_neg z]
def kE : Nat → Nat := eup (eup (eup (eup (eup (eup (eup (eup (eup (eup (eup (eup (eup (eup (eup (eup (eup (eup (eup (eup (eup (fun _ => 0) 6 64) 7 64) 8 64) 9 64) 10 800) 11 800) 12 800) 13 800) 14 800) 15 1) 16 100) 17 100) 18 100) 19 1) 20 3001) 21 1) 23 1) 24 1) 25 1) 26 1) 27 1
theorem kE_v (j : Nat) : kE j = if 6 ≤ j ∧ j ≤ 9 then 64 else if 10 ≤ j ∧ j ≤ 14 then 800 else if 16 ≤ j ∧ j ≤ 18 then 100 else if j = 20 then 3001 else if j = 15 ∨ j = 19 ∨ j = 21 ∨ (23 ≤ j ∧ j ≤ 27) then 1 else 0 := by
  unfold kE eup
  by_cases h : j < 28
  · rcases (show j = 0 ∨ j = 1 ∨ j = 2 ∨ j = 3 ∨ j = 4 ∨ j = 5 ∨ j = 6 ∨ j = 7 ∨ j = 8 ∨ j = 9 ∨ j = 10 ∨ j = 11 ∨ j = 12 ∨ j = 13 ∨ j = 14 ∨ j = 15 ∨ j = 16 ∨ j = 17 ∨ j = 18 ∨ j = 19 ∨ j = 20 ∨ j = 21 ∨ j = 22 ∨ j = 23 ∨ j = 24 ∨ j = 25 ∨ j = 26 ∨ j = 27 by omega) with rfl | rfl | rfl | rfl | rfl | rfl | rfl | rfl | rfl | rfl | rfl | rfl | rfl | rfl | rfl | rfl | rfl | rfl | rfl | rfl | rfl | rfl | rfl | rfl | rfl | rfl | rfl | rfl <;> rfl
  · simp only [show ¬ j = 27 by omega, show ¬ j = 26 by omega, show ¬ j = 25 by omega, show ¬ j = 24 by omega, show ¬ j = 23 by omega, show ¬ j = 21 by omega, show ¬ j = 20 by omega, show ¬ j = 19 by omega, show ¬ j = 18 by omega, show ¬ j = 17 by omega, show ¬ j = 16 by omega, show ¬ j = 15 by omega, show ¬ j = 14 by omega, show ¬ j = 13 by omega, show ¬ j = 12 by omega, show ¬ j = 11 by omega, show ¬ j = 10 by omega, show ¬ j = 9 by omega, show ¬ j = 8 by omega, show ¬ j = 7 by omega, show ¬ j = 6 by omega, if_false]
    rw [if_neg (show ¬ (6 ≤ j ∧ j ≤ 9) by omega), if_neg (show ¬ (10 ≤ j ∧ j ≤ 14) by omega), if_neg (show ¬ (16 ≤ j ∧ j ≤ 18) by omega)]
    simp only [false_or]
    rw [if_neg (show ¬ (23 ≤ j ∧ j ≤ 27) by omega)]
/-- run r of u is run q of u' -/
def mvR (u u' : rg_U) (r q : Nat) : Prop := (∀ j, 6 ≤ j → j ≤ 9 → ∀ k, k < 64 → u'.2.1 j (64 * q + k) = u.2.1 j (64 * r + k)) ∧ (∀ j, 10 ≤ j → j ≤ 14 → ∀ k, k < 800 → u'.2.1 j (800 * q + k) = u.2.1 j (800 * r + k)) ∧ (∀ j, scal j → j ≠ 22 → u'.2.1 j q = u.2.1 j r) ∧ (∀ j, 16 ≤ j → j ≤ 18 → ∀ k, k < 100 → u'.2.1 j (100 * q + k) = u.2.1 j (100 * r + k)) ∧ ∀ k, k < 3001 → u'.2.1 20 (3001 * q + k) = u.2.1 20 (3001 * r + k)
theorem mv_e {u u' : rg_U} {r q : Nat} (h : mvR u u' r q) : Pm u' q = Pm u r ∧ Lm u' q = Lm u r ∧ Hm u' q = Hm u r ∧ nr u' q = nr u r ∧ Tr u' q = Tr u r ∧ Ur u' q = Ur u r ∧ Dr u' q = Dr u r ∧ Cr u' q = Cr u r := by
  unfold Pm Lm Hm nr Tr Ur Dr Cr
  rw [ct_c (fun k hk => h.1 6 (by decide) (by decide) k hk), ct_c (fun k hk => h.1 7 (by decide) (by decide) k hk), ct_c (fun k hk => h.1 8 (by decide) (by decide) k hk), ct_c (fun k hk => h.1 9 (by decide) (by decide) k hk), ct_c (fun k hk => h.2.1 10 (by decide) (by decide) k hk), ct_c (fun k hk => h.2.1 11 (by decide) (by decide) k hk), ct_c (fun k hk => h.2.1 12 (by decide) (by decide) k hk), ct_c (fun k hk => h.2.1 13 (by decide) (by decide) k hk), ct_c (fun k hk => h.2.1 14 (by decide) (by decide) k hk), ct_c (fun k hk => h.2.2.2.2 k hk), h.2.2.1 15 (Or.inl rfl) (by decide), h.2.2.1 21 (Or.inr (Or.inr (by decide))) (by decide), h.2.2.1 23 (Or.inr (Or.inr (by decide))) (by decide), h.2.2.1 24 (Or.inr (Or.inr (by decide))) (by decide), h.2.2.1 19 (Or.inr (Or.inl rfl)) (by decide)]
  exact ⟨rfl, rfl, rfl, rfl, rfl, rfl, rfl, rfl⟩
theorem runOK_mv {u u' : rg_U} {r q : Nat} (h : mvR u u' r q) (hr : runOK u r) : runOK u' q := by
  obtain ⟨e1, e2, e3, e4, e5, e6, e7, e8⟩ := mv_e h
  obtain ⟨a1, a2, a3, a4, a5, a6, a7, a8, a9⟩ := hr
  unfold runOK
  rw [e1, e2, e3, e4, e5, e6, e7, e8, h.2.2.1 15 (Or.inl rfl) (by decide), h.2.2.1 21 (Or.inr (Or.inr (by decide))) (by decide), h.2.2.1 23 (Or.inr (Or.inr (by decide))) (by decide), h.2.2.1 24 (Or.inr (Or.inr (by decide))) (by decide), h.2.2.1 19 (Or.inr (Or.inl rfl)) (by decide)]
  refine ⟨a1, a2, a3, a4, a5, a6, a7, a8, a9.1, ?_⟩
  obtain ⟨ct, c1, c2⟩ := a9.2
  refine ⟨ct, fun i hi => ?_, c2⟩
  have hi100 := a9.1
  dsimp only
  rw [h.2.2.2.1 16 (by decide) (by decide) i (by omega)]
  exact c1 i hi
