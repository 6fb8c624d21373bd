theorem kE64 {j : Nat} (a : 6 ≤ j) (b : j ≤ 9) : kE j = 64 := by rw [kE_v, if_pos ⟨a, b⟩]
theorem kE800 {j : Nat} (a : 10 ≤ j) (b : j ≤ 14) : kE j = 800 := by rw [kE_v, if_neg (show ¬ (6 ≤ j ∧ j ≤ 9) by omega), if_pos ⟨a, b⟩]
theorem kE100 {j : Nat} (a : 16 ≤ j) (b : j ≤ 18) : kE j = 100 := by rw [kE_v, if_neg (show ¬ (6 ≤ j ∧ j ≤ 9) by omega), if_neg (show ¬ (10 ≤ j ∧ j ≤ 14) by omega), if_pos ⟨a, b⟩]
theorem kE20 : kE 20 = 3001 := rfl
theorem kE1 {j : Nat} (h : j = 15 ∨ j = 19 ∨ j = 21 ∨ (23 ≤ j ∧ j ≤ 27)) : kE j = 1 := by rw [kE_v, if_neg (show ¬ (6 ≤ j ∧ j ≤ 9) by omega), if_neg (show ¬ (10 ≤ j ∧ j ≤ 14) by omega), if_neg (show ¬ (16 ≤ j ∧ j ≤ 18) by omega), if_neg (show ¬ j = 20 by omega), if_pos h]
theorem kE0 {j : Nat} (h : j < 6 ∨ 28 ≤ j ∨ j = 22) : kE j = 0 := by rw [kE_v, if_neg (show ¬ (6 ≤ j ∧ j ≤ 9) by omega), if_neg (show ¬ (10 ≤ j ∧ j ≤ 14) by omega), if_neg (show ¬ (16 ≤ j ∧ j ≤ 18) by omega), if_neg (show ¬ j = 20 by omega), if_neg (show ¬ (j = 15 ∨ j = 19 ∨ j = 21 ∨ (23 ≤ j ∧ j ≤ 27)) by omega)]
theorem hm01 {u : rg_U} {r i : Nat} (h : runOK u r) (h1 : 3001 * r ≤ i) (h2 : i < 3001 * r + 3001) : u.2.1 20 i = 0 ∨ u.2.1 20 i = 1 := by
  have := h.2.2.2.2.2.2.2.1.2 (i - 3001 * r) (by omega)
  rw [Hm_k (by omega), show 3001 * r + (i - 3001 * r) = i by omega] at this
  exact this.imp id (fun z => z.1)
/-- keep: refused, or run K is as the one that is now, with its status -/
theorem m_keep {F K W : Nat} {u : rg_U} (h : okM u K W) (hF : 10000 < F) : (¬ (u.2.1 5 4 = 1 ∧ K < 4) ∧ g_X10_keep F u = some (-1, u)) ∨ (u.2.1 5 4 = 1 ∧ K < 4 ∧ ∃ u', g_X10_keep F u = some (nI K, u') ∧ okM u' (K + 1) W ∧ (∀ r, r < 5 → r ≠ K → agR u u' r) ∧ mvR u u' 4 K ∧ u'.2.1 22 K = stM u W ∧ (∀ k, k ≠ 29 → u'.1 k = u.1 k) ∧ ∀ j, (j < 5 ∨ 28 ≤ j) → u'.2.1 j = u.2.1 j) := by
  unfold g_X10_keep
  have e5 : rA u 5 4 = u.2.1 5 4 := rfl
  have hK4 := h.1.1.2.1
  have e29 : rF u 0 29 = nI K := h.1.1.1
  rw [ck_t (by decide), e5, e29]
  by_cases q : u.2.1 5 4 = 0
  · refine Or.inl ⟨fun z => ?_, by rw [if_pos q]⟩
    rw [q] at z
    exact absurd z.1 (by decide)
  have q1 : u.2.1 5 4 = 1 := h.1.2.1.1.resolve_left q
  rw [if_neg q]
  by_cases qK : K = 4
  · exact Or.inl ⟨fun z => by omega, by rw [qK, if_pos (by decide)]⟩
  have hK : K < 4 := by omega
  rw [if_neg (show ¬ nI K = (4 : Int32) from fun z => qK (nI_inj (b := 4) (by omega) (by decide) z))]
  refine Or.inr ⟨q1, hK, ?_⟩
  have hro := h.1.2.2.2.2.1 4 (Or.inr ⟨rfl, q1⟩)
  obtain ⟨s1, e1, c1⟩ := cp_step (F := F) (o := 6) (N := 320) (e := 64) (CP_0 (u := u) (K := K)) rfl (by decide) (by decide) (by decide) hK hF (by decide)
  obtain ⟨s2, e2, c2⟩ := cp_step (F := F) (o := 7) (N := 320) (e := 64) c1 rfl (by decide) (by decide) (by decide) hK hF (by decide)
  obtain ⟨s3, e3, c3⟩ := cp_step (F := F) (o := 8) (N := 320) (e := 64) c2 rfl (by decide) (by decide) (by decide) hK hF (by decide)
  obtain ⟨s4, e4, c4⟩ := cp_step (F := F) (o := 9) (N := 320) (e := 64) c3 rfl (by decide) (by decide) (by decide) hK hF (by decide)
  obtain ⟨s5, e5', c5⟩ := cp_step (F := F) (o := 10) (N := 4000) (e := 800) c4 rfl (by decide) (by decide) (by decide) hK hF (by decide)
  obtain ⟨s6, e6, c6⟩ := cp_step (F := F) (o := 11) (N := 4000) (e := 800) c5 rfl (by decide) (by decide) (by decide) hK hF (by decide)
  obtain ⟨s7, e7, c7⟩ := cp_step (F := F) (o := 12) (N := 4000) (e := 800) c6 rfl (by decide) (by decide) (by decide) hK hF (by decide)
  obtain ⟨s8, e8, c8⟩ := cp_step (F := F) (o := 13) (N := 4000) (e := 800) c7 rfl (by decide) (by decide) (by decide) hK hF (by decide)
  obtain ⟨s9, e9, c9⟩ := cp_step (F := F) (o := 14) (N := 4000) (e := 800) c8 rfl (by decide) (by decide) (by decide) hK hF (by decide)
  obtain ⟨s10, e10, c10⟩ := cp_step (F := F) (o := 15) (N := 5) (e := 1) c9 rfl (by decide) (by decide) (by decide) hK hF (by decide)
  obtain ⟨s11, e11, c11⟩ := cp_step (F := F) (o := 16) (N := 500) (e := 100) c10 rfl (by decide) (by decide) (by decide) hK hF (by decide)
  obtain ⟨s12, e12, c12⟩ := cp_step (F := F) (o := 17) (N := 500) (e := 100) c11 rfl (by decide) (by decide) (by decide) hK hF (by decide)
  obtain ⟨s13, e13, c13⟩ := cp_step (F := F) (o := 18) (N := 500) (e := 100) c12 rfl (by decide) (by decide) (by decide) hK hF (by decide)
  obtain ⟨s14, e14, c14⟩ := cp_step (F := F) (o := 19) (N := 5) (e := 1) c13 rfl (by decide) (by decide) (by decide) hK hF (by decide)
  obtain ⟨s15, e15, c15⟩ := cp_held (F := F) c14 rfl (fun i a b => hm01 hro (by omega) (by omega)) hK hF
  obtain ⟨s16, e16, c16⟩ := cp_step (F := F) (o := 21) (N := 5) (e := 1) c15 rfl (by decide) (by decide) (by decide) hK hF (by decide)
  obtain ⟨s17, e17, c17⟩ := cp_step (F := F) (o := 23) (N := 5) (e := 1) c16 rfl (by decide) (by decide) (by decide) hK hF (by decide)
  obtain ⟨s18, e18, c18⟩ := cp_step (F := F) (o := 24) (N := 5) (e := 1) c17 rfl (by decide) (by decide) (by decide) hK hF (by decide)
  obtain ⟨s19, e19, c19⟩ := cp_step (F := F) (o := 25) (N := 5) (e := 1) c18 rfl (by decide) (by decide) (by decide) hK hF (by decide)
  obtain ⟨s20, e20, c20⟩ := cp_step (F := F) (o := 26) (N := 5) (e := 1) c19 rfl (by decide) (by decide) (by decide) hK hF (by decide)
  obtain ⟨s21, e21, c21⟩ := cp_step (F := F) (o := 27) (N := 5) (e := 1) c20 rfl (by decide) (by decide) (by decide) hK hF (by decide)
  have c : CP u s21 K kE := c21
  rw [show g_X10_copies F 6 320 64 4 (nI K) u = some s1 from e1, ob_i, show g_X10_copies F 7 320 64 4 (nI K) s1 = some s2 from e2, ob_i, show g_X10_copies F 8 320 64 4 (nI K) s2 = some s3 from e3, ob_i, show g_X10_copies F 9 320 64 4 (nI K) s3 = some s4 from e4, ob_i, show g_X10_copies F 10 4000 800 4 (nI K) s4 = some s5 from e5', ob_i, show g_X10_copies F 11 4000 800 4 (nI K) s5 = some s6 from e6, ob_i, show g_X10_copies F 12 4000 800 4 (nI K) s6 = some s7 from e7, ob_i, show g_X10_copies F 13 4000 800 4 (nI K) s7 = some s8 from e8, ob_i, show g_X10_copies F 14 4000 800 4 (nI K) s8 = some s9 from e9, ob_i, show g_X10_copies F 15 5 1 4 (nI K) s9 = some s10 from e10, ob_i, show g_X10_copies F 16 500 100 4 (nI K) s10 = some s11 from e11, ob_i, show g_X10_copies F 17 500 100 4 (nI K) s11 = some s12 from e12, ob_i, show g_X10_copies F 18 500 100 4 (nI K) s12 = some s13 from e13, ob_i, show g_X10_copies F 19 5 1 4 (nI K) s13 = some s14 from e14, ob_i, e15, ob_i, show g_X10_copies F 21 5 1 4 (nI K) s15 = some s16 from e16, ob_i, show g_X10_copies F 23 5 1 4 (nI K) s16 = some s17 from e17, ob_i, show g_X10_copies F 24 5 1 4 (nI K) s17 = some s18 from e18, ob_i, show g_X10_copies F 25 5 1 4 (nI K) s18 = some s19 from e19, ob_i, show g_X10_copies F 26 5 1 4 (nI K) s19 = some s20 from e20, ob_i, show g_X10_copies F 27 5 1 4 (nI K) s20 = some s21 from e21, ob_i]
  clear e1 e2 e3 e4 e5' e6 e7 e8 e9 e10 e11 e12 e13 e14 e15 e16 e17 e18 e19 e20 e21 c1 c2 c3 c4 c5 c6 c7 c8 c9 c10 c11 c12 c13 c14 c15 c16 c17 c18 c19 c20 c21
  have hv := c.2
  -- the state that is now is untouched, so its status is
  have fr : ∀ r, r < 5 → r ≠ K → agR u s21 r := fun r hr hrK => by
    refine ⟨fun j a b k e => ?_, fun j a b k e => ?_, fun j a => ?_, fun j a b k e => ?_, fun k e => ?_⟩
    · rw [hv, kE64 a b, if_neg (by omega)]
    · rw [hv, kE800 a b, if_neg (by omega)]
    · unfold scal at a
      by_cases z : j = 22
      · rw [hv, kE0 (by omega), if_neg (by omega)]
      · rw [hv, kE1 (by omega), if_neg (by omega)]
    · rw [hv, kE100 a b, if_neg (by omega)]
    · rw [hv, kE20, if_neg (by omega)]
  have un : ∀ j, (j < 6 ∨ 28 ≤ j ∨ j = 22) → s21.2.1 j = u.2.1 j := fun j hj => by
    funext i
    rw [hv, kE0 hj, if_neg (by omega)]
  have mv : mvR u s21 4 K := by
    refine ⟨fun j a b k e => ?_, fun j a b k e => ?_, fun j a a2 => ?_, fun j a b k e => ?_, fun k e => ?_⟩
    · rw [hv, kE64 a b, if_pos (by omega), show 64 * K + k - 64 * K + 64 * 4 = 64 * 4 + k by omega]
    · rw [hv, kE800 a b, if_pos (by omega), show 800 * K + k - 800 * K + 800 * 4 = 800 * 4 + k by omega]
    · unfold scal at a
      rw [hv, kE1 (by omega), if_pos (by omega), show K - 1 * K + 1 * 4 = 4 by omega]
    · rw [hv, kE100 a b, if_pos (by omega), show 100 * K + k - 100 * K + 100 * 4 = 100 * 4 + k by omega]
    · rw [hv, kE20, if_pos (by omega), show 3001 * K + k - 3001 * K + 3001 * 4 = 3001 * 4 + k by omega]
  have g4 := fr 4 (by decide) (by omega)
  have hst : g_X10_status F s21 = some (stM u W) := by
    have hcore : coreM s21 K W := by
      obtain ⟨d1, d2, d3, d4, d5, d6, d7, d8⟩ := h.1
      refine ⟨by rw [c.1]; exact d1, by rw [un 5 (by omega)]; exact d2, by rw [un 1 (by omega), un 2 (by omega), un 3 (by omega), un 4 (by omega)]; exact d3, by rw [c.1]; exact d4, fun r hr => ?_, by rw [un 5 (by omega), un 28 (by omega), rpm_g g4, (sc_g g4).2.1]; exact d6, by rw [c.1, un 5 (by omega), Lm_g g4, (sc_g g4).1]; exact d7, by rw [un 30 (by omega)]; exact d8⟩
      have hr' : act u K r := by unfold act at hr ⊢; rw [← un 5 (by omega)]; exact hr
      exact runOK_g (fr r (act5 hK4 hr') (by rcases hr' with z | ⟨z, -⟩ <;> omega)) (d5 r hr')
    rw [m_status hcore (by rw [un 5 (by omega)]; exact q1)]
    unfold stM
    rw [Pm_g g4, (sc_g g4).1, un 28 (by omega)]
  rw [hst, ob_i, ck_t (inb_nI (by omega) (by decide)), lt1_i, sA_nI (by omega), ck_t (inb_nI (by omega) (by decide)), lt1_i, sZ_nI (by omega), nar1, lt1_i, show rF (rg_R (rg_R s21 22 K (stM u W)) 5 K 1) 0 29 = nI K by show s21.1 29 = _; rw [c.1]; exact h.1.1.1, nI_1]
  have eA : ∀ j, j ≠ 5 → j ≠ 22 → (sF (rg_R (rg_R s21 22 K (stM u W)) 5 K 1) 0 29 (nI (K + 1))).2.1 j = s21.2.1 j := fun j h2 h3 => by
    funext i
    show (rg_R (rg_R s21 22 K (stM u W)) 5 K 1).2.1 j i = _
    rw [R_at, if_neg (fun z => h2 z.1), R_at, if_neg (fun z => h3 z.1)]
  have e5r : ∀ i, (sF (rg_R (rg_R s21 22 K (stM u W)) 5 K 1) 0 29 (nI (K + 1))).2.1 5 i = if i = K then 1 else u.2.1 5 i := fun i => by
    show (rg_R (rg_R s21 22 K (stM u W)) 5 K 1).2.1 5 i = _
    rw [R_at, R_at, if_neg (show ¬ (5 = 22 ∧ i = K) by omega), un 5 (by omega)]
    by_cases z : i = K
    · rw [if_pos ⟨rfl, z⟩, if_pos z]
    · rw [if_neg (fun w => z w.2), if_neg z]
  have e22 : ∀ i, (sF (rg_R (rg_R s21 22 K (stM u W)) 5 K 1) 0 29 (nI (K + 1))).2.1 22 i = if i = K then stM u W else u.2.1 22 i := fun i => by
    show (rg_R (rg_R s21 22 K (stM u W)) 5 K 1).2.1 22 i = _
    rw [R_at, if_neg (show ¬ (22 = 5 ∧ i = K) by omega), R_at, un 22 (by omega)]
    by_cases z : i = K
    · rw [if_pos ⟨rfl, z⟩, if_pos z]
    · rw [if_neg (fun w => z w.2), if_neg z]
  have ef : ∀ k, k ≠ 29 → (sF (rg_R (rg_R s21 22 K (stM u W)) 5 K 1) 0 29 (nI (K + 1))).1 k = u.1 k := fun k hk => by
    show upd s21.1 (100 * 0 + 29) (nI (K + 1)) k = _
    rw [pk_un hk, c.1]
  have ef29 : (sF (rg_R (rg_R s21 22 K (stM u W)) 5 K 1) 0 29 (nI (K + 1))).1 29 = nI (K + 1) := by
    show upd s21.1 (100 * 0 + 29) (nI (K + 1)) 29 = _
    exact pk_us
  generalize sF (rg_R (rg_R s21 22 K (stM u W)) 5 K 1) 0 29 (nI (K + 1)) = u' at *
  have fr' : ∀ r, r < 5 → r ≠ K → agR u u' r := fun r hr hrK => by
    have f := fr r hr hrK
    refine ⟨fun j a b k e => by rw [eA j (by omega) (by omega)]; exact f.1 j a b k e, fun j a b k e => by rw [eA j (by omega) (by omega)]; exact f.2.1 j a b k e, fun j a => ?_, fun j a b k e => by rw [eA j (by omega) (by omega)]; exact f.2.2.2.1 j a b k e, fun k e => by rw [eA 20 (by omega) (by omega)]; exact f.2.2.2.2 k e⟩
    by_cases z : j = 22
    · subst z; rw [e22, if_neg hrK]
    · rw [eA j (by unfold scal at a; omega) z]; exact f.2.2.1 j a
  have mv' : mvR u u' 4 K := ⟨fun j a b k e => by rw [eA j (by omega) (by omega)]; exact mv.1 j a b k e, fun j a b k e => by rw [eA j (by omega) (by omega)]; exact mv.2.1 j a b k e, fun j a a2 => by rw [eA j (by unfold scal at a; omega) a2]; exact mv.2.2.1 j a a2, fun j a b k e => by rw [eA j (by omega) (by omega)]; exact mv.2.2.2.1 j a b k e, fun k e => by rw [eA 20 (by omega) (by omega)]; exact mv.2.2.2.2 k e⟩
  have g4' := fr' 4 (by decide) (by omega)
  have un' : ∀ j, (j < 5 ∨ 28 ≤ j) → u'.2.1 j = u.2.1 j := fun j hj => by rw [eA j (by omega) (by omega), un j (by omega)]
  have e54 : u'.2.1 5 4 = 1 := by rw [e5r, if_neg (by omega)]; exact q1
  refine ⟨u', rfl, ⟨?_, ?_⟩, fr', mv', by rw [e22, if_pos rfl], ef, un'⟩
  · obtain ⟨⟨d1, d1b, d1c⟩, ⟨d2, d2b, d2c⟩, d3, d4, d5, d6, ⟨d7, d7b, d7c⟩, d8⟩ := h.1
    refine ⟨⟨ef29, by omega, ?_⟩, ⟨Or.inr e54, fun _ => e54, fun r hr => ?_⟩, by rw [un' 1 (by omega), un' 2 (by omega), un' 3 (by omega), un' 4 (by omega)]; exact d3, by rw [ef 4 (by decide), ef 5 (by decide)]; exact d4, fun r hr => ?_, fun _ => by rw [un' 28 (by omega), rpm_g g4', (sc_g g4').2.1]; exact d6 q1, ⟨by rw [ef 33 (by decide)]; exact d7, d7b, fun _ => by rw [Lm_g g4', (sc_g g4').1]; exact d7c q1⟩, by rw [un' 30 (by omega)]; exact d8⟩
    · rw [ef 30 (by decide)]
      rcases d1c with z | ⟨r, z1, z2⟩
      · exact Or.inl z
      · exact Or.inr ⟨r, by omega, z2⟩
    · rw [e5r]
      by_cases z : r = K
      · rw [if_pos z]
      · rw [if_neg z]; exact d2c r (by omega)
    · rcases hr with hr | ⟨rfl, -⟩
      · by_cases z : r = K
        · subst z; exact runOK_mv mv' hro
        · exact runOK_g (fr' r (by omega) z) (d5 r (Or.inl (by omega)))
      · exact runOK_g g4' hro
  · obtain ⟨t1, t2, t3, t4, t5⟩ := h.2
    have hact : ∀ r, act u K r → act u' (K + 1) r ∧ r < 5 ∧ r ≠ K := fun r hr => by
      rcases hr with z | ⟨z, -⟩
      · exact ⟨Or.inl (by omega), by omega, by omega⟩
      · exact ⟨Or.inr ⟨z, e54⟩, by omega, by omega⟩
    refine ⟨?_, fun r hr => ?_, by rw [un' 28 (by omega)]; exact t3, by rw [un' 31 (by omega)]; exact t4, by rw [un' 37 (by omega)]; exact t5⟩
    · rw [ef 41 (by decide)]
      rcases t1 with z | ⟨r, z1, z2⟩
      · exact Or.inl z
      · exact Or.inr ⟨r, (hact r z1).1, z2⟩
    · intro z
      rw [ef 41 (by decide)] at z
      rcases t1 with y | ⟨r', y1, y2⟩
      · exact absurd (z.symm.trans y) (nI_m1 (by have : r < 5 := act5 (K := K + 1) (by omega) hr; omega))
      · have hr5 : r < 5 := act5 (K := K + 1) (by omega) hr
        obtain ⟨-, x2, x3⟩ := hact r' y1
        have e : r = r' := nI_inj (by omega) (by omega) (z.symm.trans y2)
        subst e
        have g := fr' r x2 x3
        obtain ⟨s, b1, b2, b3⟩ := t2 r y1 y2
        exact ⟨s, by rw [(sc_g g).2.1]; exact b1, by rw [un' 31 (by omega), Pm_g g, Lm_g g, (sc_g g).1]; exact b2, by rw [ef 42 (by decide), Pm_g g, Lm_g g, (sc_g g).1]; exact b3⟩
