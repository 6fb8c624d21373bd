/-! run of the reference -/
def wcS (u : rg_U) : Nat → Int32
  | 0 => 0
  | p + 1 => wcS u p + (if u.2.1 30 p = 0 then 0 else u.2.1 28 (80 + p))
theorem m_wch {F : Nat} {u : rg_U} (hF : 10000 < F) : g_X10_watchedChanges F u = some (wcS u 40) := by
  have h := lp_up (body := fun (s : Int32 × Int32) => g_X10_watchedChanges_l4 F u s.1 s.2) (fun k => (wcS u k, nI k)) 40 (wcS u 40) (fun k hk => by
    show g_X10_watchedChanges_l4 F u (wcS u k) (nI k) = _
    unfold g_X10_watchedChanges_l4 g_X10_watchedChanges_j33
    rw [if_neg (show ¬ (40 : Int32) ≤ nI k from nI_ge (a := k) (b := 40) (by omega) (by decide)), c80, ck_t (inb_nI (by omega) (by decide)), ck_t (inb_nI (by omega) (by decide)), rA_nI (by omega), rA_nI (by omega), nI_1]
    show _ = some (Sum.inl (wcS u k + (if u.2.1 30 k = 0 then 0 else u.2.1 28 (80 + k)), nI (k + 1)))
    by_cases z : u.2.1 30 k = 0
    · rw [if_pos z, if_pos z]
    · rw [if_neg z, if_neg z]) (by
    show g_X10_watchedChanges_l4 F u _ (nI 40) = _
    unfold g_X10_watchedChanges_l4
    rw [if_pos (by decide)]) F 0 (Nat.zero_le _) (by omega)
  unfold g_X10_watchedChanges
  rw [show lp (fun (s : Int32 × Int32) => g_X10_watchedChanges_l4 F u s.1 s.2) F ((0 : Int32), (0 : Int32)) = _ from h, ob_i]
/-- one turn of run, as it is done -/
def stD (F : Nat) (u u1 : rg_U) (W W1 : Nat) : Prop := ∃ v n', goT F u = some v ∧ tkD u v W W1 n' ∧ goD u u1 v n' (mstep (Pm u 4) (u.2.1 28) ((Lm v 4).2.2.1 (nr u 4)) (nI (nr u 4)))
/-- a turn of run is taken -/
def rnG (u : rg_U) (W : Nat) (c : Int32) : Prop := stM u W = 0 ∧ Tr u 4 < 3000 ∧ wcS u 40 = c
def rnR (F : Nat) (c : Int32) : Nat → rg_U → Nat → rg_U → Nat → Prop
  | 0, u, W, u', W' => u' = u ∧ W' = W
  | k + 1, u, W, u', W' => ∃ u1 W1, rnG u W c ∧ stD F u u1 W W1 ∧ rnR F c k u1 W1 u' W'
theorem m_runl {F K n : Nat} {c : Int32} (hn : n ≤ 500) (hF : 10000 < F) : ∀ (f k W : Nat) (u : rg_U), f + k = n → okM u K W → u.2.1 5 4 = 1 → ∀ G, f < G → ∃ j u' W', lp (fun (s : Int32 × rg_U) => g_X10_run_l29 F (nI n) c s.1 s.2) G (nI k, u) = some (nI (k + j), u') ∧ j ≤ f ∧ okM u' K W' ∧ u'.2.1 5 4 = 1 ∧ rnR F c j u W u' W' ∧ (j = f ∨ ¬ rnG u' W' c)
  | f, k, W, u, hf, h, h1, 0, hG => by omega
  | 0, k, W, u, hf, h, h1, G + 1, hG => by
    refine ⟨0, u, W, lp_r ?_, Nat.le_refl _, h, h1, ⟨rfl, rfl⟩, Or.inl rfl⟩
    unfold g_X10_run_l29
    dsimp only
    rw [if_pos (nI_le (by omega) (by omega))]
    rfl
  | f + 1, k, W, u, hf, h, h1, G + 1, hG => by
    have hro := h.1.2.2.2.2.1 4 (Or.inr ⟨rfl, h1⟩)
    have hT3 := Tr3 h.1 (Or.inr ⟨rfl, h1⟩)
    have stop : ¬ rnG u W c → g_X10_run_l29 F (nI n) c (nI k) u = some (.inr (nI k, u)) → ∃ j u' W', lp (fun (s : Int32 × rg_U) => g_X10_run_l29 F (nI n) c s.1 s.2) (G + 1) (nI k, u) = some (nI (k + j), u') ∧ j ≤ f + 1 ∧ okM u' K W' ∧ u'.2.1 5 4 = 1 ∧ rnR F c j u W u' W' ∧ (j = f + 1 ∨ ¬ rnG u' W' c) := fun q e => ⟨0, u, W, lp_r e, Nat.zero_le _, h, h1, ⟨rfl, rfl⟩, Or.inr q⟩
    have hb : g_X10_run_l29 F (nI n) c (nI k) u = if stM u W = 0 then (if 3000 ≤ nI (Tr u 4) then some (.inr (nI k, u)) else if wcS u 40 = c then ob (g_X10_goesOn F u) (fun r15 => some (.inl (nI (k + 1), r15))) else some (.inr (nI k, u))) else some (.inr (nI k, u)) := by
      unfold g_X10_run_l29
      rw [if_neg (nI_ge (by omega) (by omega)), m_status h.1 h1, ob_i, ck_t (show inb 4 5 by decide), show rA u 21 4 = nI (Tr u 4) from hro.2.1, m_wch hF, ob_i, nI_1]
    by_cases q1 : stM u W = 0
    · rw [if_pos q1] at hb
      by_cases q2 : Tr u 4 < 3000
      · rw [if_neg (show ¬ (3000 : Int32) ≤ nI (Tr u 4) from nI_ge (a := Tr u 4) (b := 3000) q2 (by decide))] at hb
        by_cases q3 : wcS u 40 = c
        · rw [if_pos q3] at hb
          obtain ⟨u1, v, W1, n', e1, e2, e3, e4, e5, e6⟩ := m_goesOn h h1 q1 q2 hF
          rw [e1, ob_i] at hb
          obtain ⟨j, u', W', g1, g2, g3, g4, g5, g6⟩ := m_runl (F := F) (K := K) (c := c) hn hF f (k + 1) W1 u1 (by omega) e2 e3 G (by omega)
          refine ⟨j + 1, u', W', ?_, by omega, g3, g4, ⟨u1, W1, ⟨q1, q2, q3⟩, ⟨v, n', e4, e5, e6⟩, g5⟩, g6.imp (fun z => by omega) id⟩
          rw [lp_l (body := fun (s : Int32 × rg_U) => g_X10_run_l29 F (nI n) c s.1 s.2) (s := (nI k, u)) hb, g1, show k + 1 + j = k + (j + 1) by omega]
        · rw [if_neg q3] at hb
          exact stop (fun z => q3 z.2.2) hb
      · rw [if_pos (show (3000 : Int32) ≤ nI (Tr u 4) from nI_le (a := 3000) (by omega) (by omega))] at hb
        exact stop (fun z => q2 z.2.1) hb
    · rw [if_neg q1] at hb
      exact stop (fun z => q1 z.1) hb
theorem m_run {F K W : Nat} {x : Int32} {u : rg_U} (h : okM u K W) (hF : 10000 < F) : (¬ (u.2.1 5 4 = 1 ∧ ¬ g_X10_isIn x 1 500 = 0) ∧ g_X10_run F x u = some (-1, u)) ∨ ∃ n j u' W', u.2.1 5 4 = 1 ∧ 1 ≤ n ∧ n ≤ 500 ∧ x = nI n ∧ g_X10_run F x u = some (nI j, u') ∧ j ≤ n ∧ okM u' K W' ∧ u'.2.1 5 4 = 1 ∧ rnR F (wcS u 40) j u W u' W' ∧ (j = n ∨ ¬ rnG u' W' (wcS u 40)) := by
  unfold g_X10_run
  rw [ck_t (show inb 4 5 by decide), show rA u 5 4 = u.2.1 5 4 from rfl]
  rcases h.1.2.1.1 with q | q
  · rw [if_pos q]
    refine Or.inl ⟨fun z => ?_, rfl⟩
    have := z.1
    rw [q] at this
    exact absurd this (by decide)
  rw [if_neg (by rw [q]; decide)]
  by_cases z : g_X10_isIn x 1 500 = 0
  · rw [if_pos z]; exact Or.inl ⟨fun w => w.2 z, rfl⟩
  obtain ⟨n, rfl, n1, n2⟩ := in_nat z (by decide)
  have e1 : (1 : Int32).toInt = 1 := rfl
  have e2 : (500 : Int32).toInt = 500 := rfl
  obtain ⟨j, u', W', g1, g2, g3, g4, g5, g6⟩ := m_runl (F := F) (K := K) (c := wcS u 40) (n := n) (by omega) hF n 0 W u (by omega) h q F (by omega)
  rw [Nat.zero_add] at g1
  rw [if_neg z, m_wch hF, ob_i, show lp (fun (s : Int32 × rg_U) => g_X10_run_l29 F (nI n) (wcS u 40) s.1 s.2) F ((0 : Int32), u) = _ from g1, ob_i]
  exact Or.inr ⟨n, j, u', W', q, by omega, by omega, rfl, rfl, g2, g3, g4, g5, g6⟩
