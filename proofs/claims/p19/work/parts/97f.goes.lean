/-! goesOn -/
def kn (u : rg_U) : Int32 := kindOf (Pm u 4) (u.2.1 28 120)
def drawX (x : Int32) : Int32 := 1664525 * x + 1013904223
def drawN (x b : Int32) : Int32 := dx_rem (dx_ushr (drawX x) 8) b
def entryIs (L : Lg) (n : Nat) (a b c d e : Int32) : Prop := L.1 n = a ∧ L.2.1 n = b ∧ L.2.2.1 n = c ∧ L.2.2.2.1 n = d ∧ L.2.2.2.2 n = e
/-- what is taken from outside, ahead of the step -/
def tkD (u v : rg_U) (W W' n' : Nat) : Prop :=
  (kn u = 19 ∧ 0 < W ∧ nr u 4 < 800 ∧ W' = W - 1 ∧ n' = nr u 4 + 1 ∧ entryIs (Lm v 4) (nr u 4) (nI (Tr u 4)) 0 (u.2.1 29 0) (-1) 2 ∧ v.1 34 = u.1 34 ∧ ∀ i, i < W' → v.2.1 29 i = u.2.1 29 (i + 1)) ∨
  (kn u = 20 ∧ nr u 4 < 800 ∧ W' = W ∧ n' = nr u 4 + 1 ∧ entryIs (Lm v 4) (nr u 4) (nI (Tr u 4)) 1 (drawN (u.1 34) ((Pm u 4).2.2.1 (tn (u.2.1 28 120)))) (-1) 2 ∧ v.1 34 = drawX (u.1 34) ∧ v.2.1 29 = u.2.1 29) ∨
  (¬ kn u = 19 ∧ ¬ kn u = 20 ∧ v = u ∧ W' = W ∧ n' = nr u 4)
def goT (F : Nat) (u : rg_U) : Option rg_U := if kn u = 19 then g_X10_takesInput F u else if kn u = 20 then g_X10_draws F ((Pm u 4).2.2.1 (tn (u.2.1 28 120))) u else some u
theorem cI_c {L L' : Lg} {n : Nat} (h : agL L L' n) : ∀ k, k ≤ n → cI L' k = cI L k
  | 0, _ => rfl
  | k + 1, hk => by
    unfold cI
    rw [cI_c h k (by omega), (h k (by omega)).2.1]
theorem m_take {F K W : Nat} {u : rg_U} (h : coreM u K W) (h1 : u.2.1 5 4 = 1) (hs : stM u W = 0) (hF : 10000 < F) : ∃ v W' n', goT F u = some v ∧ tkD u v W W' n' ∧ (∀ k, k ≠ 33 → k ≠ 34 → v.1 k = u.1 k) ∧ v.1 33 = nI W' ∧ (∀ j, (j < 10 ∨ 15 < j) → j ≠ 29 → v.2.1 j = u.2.1 j) ∧ (∀ r, r < 4 → agR u v r) ∧ v.2.1 15 4 = nI n' ∧ agL (Lm u 4) (Lm v 4) (nr u 4) ∧ W' + cI (Lm v 4) n' ≤ 900 := by
  have hro := h.2.2.2.2.1 4 (Or.inr ⟨rfl, h1⟩)
  obtain ⟨r1, r2, r3, r4, r5, r6, r7, r8, r9⟩ := id hro
  have hn8 := r7.1.2.2.1
  obtain ⟨w1, w2, w3⟩ := h.2.2.2.2.2.2.1
  have w4 := w3 h1
  have hlive := live_ok h h1
  unfold stM at hs
  have q0 : u.2.1 28 132 = 0 := by
    by_cases z : u.2.1 28 132 = 0
    · exact z
    · rw [if_neg z] at hs; exact absurd hs z
  rw [if_pos q0] at hs
  unfold goT
  by_cases k19 : kn u = 19
  · have hW : 0 < W := by
      rcases Nat.eq_zero_or_pos W with z | z
      · rw [if_pos ⟨k19, z⟩] at hs; exact absurd hs (by decide)
      · exact z
    rw [if_neg (fun z => by omega)] at hs
    have hn : nr u 4 < 800 := by
      rcases Nat.lt_or_ge (nr u 4) 800 with z | z
      · exact z
      · rw [if_pos ⟨Or.inl k19, by omega⟩] at hs; exact absurd hs (by decide)
    obtain ⟨v, e, f1, hv⟩ := m_takes (F := F) r1 hn w1 hW w2 hF
    obtain ⟨l1, l2, l3, l4, l5, l6⟩ := ntS_Lm (u := u) (s := 0) (num := u.2.1 29 0) (pl := -1) (v := 2) hn
    have hA : ∀ j, j ≠ 29 → v.2.1 j = (ntS u (nr u 4) 0 (u.2.1 29 0) (-1) 2).2.1 j := fun j hj => by
      funext i
      rw [hv, if_neg (fun z => hj z.1)]
    have eL : Lm v 4 = Lm (ntS u (nr u 4) 0 (u.2.1 29 0) (-1) 2) 4 := Lm_g (agR_A (fun j a b => hA j (by omega)))
    rw [if_pos k19]
    refine ⟨v, W - 1, nr u 4 + 1, e, Or.inl ⟨k19, hW, hn, rfl, rfl, ?_, ?_, fun i hi => ?_⟩, fun k a b => by rw [f1, pk_un a], by rw [f1]; exact pk_us, fun j a b => by rw [hA j b]; exact ntS_n a, fun r hr => agR_t (ntS_fr hr) (agR_A (fun j a b => hA j (by omega))), ?_, by rw [eL]; exact l1, ?_⟩
    · rw [eL]; exact ⟨l2.trans r2, l3, l4, l5, l6⟩
    · rw [f1]; exact pk_un (by decide)
    · rw [hv, if_pos ⟨rfl, hi⟩]
    · rw [hA 15 (by decide), ntS_at, if_pos ⟨rfl, rfl⟩]
    · rw [eL]
      show W - 1 + (cI (Lm (ntS u (nr u 4) 0 (u.2.1 29 0) (-1) 2) 4) (nr u 4) + (if (Lm (ntS u (nr u 4) 0 (u.2.1 29 0) (-1) 2) 4).2.1 (nr u 4) = 0 then 1 else 0)) ≤ 900
      rw [cI_c l1 _ (Nat.le_refl _), l3, if_pos rfl]
      omega
  · rw [if_neg (fun z => k19 z.1)] at hs
    rw [if_neg k19]
    by_cases k20 : kn u = 20
    · have hn : nr u 4 < 800 := by
        rcases Nat.lt_or_ge (nr u 4) 800 with z | z
        · exact z
        · rw [if_pos ⟨Or.inr k20, by omega⟩] at hs; exact absurd hs (by decide)
      obtain ⟨⟨⟨cn, hc1, hc2⟩, -⟩, -⟩ := hlive
      have k20' : kindOf (Pm u 4) (nI cn) = 20 := by rw [← hc2]; exact k20
      obtain ⟨hc64, ek⟩ := kind_in hc1 (by rw [k20']; decide)
      have hv := r7.1.1 cn hc64
      rw [← ek, k20'] at hv
      have hb : ¬ (Pm u 4).2.2.1 cn = 0 := by
        have := (fine_abc (k := 20) (by decide) hv).2.1
        intro z
        rw [z] at this
        exact this (by decide)
      rw [if_pos k20, hc2, tnn (by omega), m_draws r1 hn hb]
      obtain ⟨l1, l2, l3, l4, l5, l6⟩ := ntS_Lm (u := sF u 0 34 (1664525 * u.1 34 + 1013904223)) (s := 1) (num := dx_rem (dx_ushr (1664525 * u.1 34 + 1013904223) 8) ((Pm u 4).2.2.1 cn)) (pl := -1) (v := 2) hn
      refine ⟨_, W, nr u 4 + 1, rfl, Or.inr (Or.inl ⟨k20, hn, rfl, rfl, ?_, rfl, ntS_n (by omega)⟩), fun k a b => pk_un b, ?_, fun j a b => ntS_n a, fun r hr => ntS_fr (u := sF u 0 34 (1664525 * u.1 34 + 1013904223)) hr, ?_, l1, ?_⟩
      · rw [hc2, tnn (by omega)]; exact ⟨l2.trans r2, l3, l4, l5, l6⟩
      · exact w1
      · rw [ntS_at, if_pos ⟨rfl, rfl⟩]
      · show W + (cI (Lm (ntS (sF u 0 34 (1664525 * u.1 34 + 1013904223)) (nr u 4) 1 (dx_rem (dx_ushr (1664525 * u.1 34 + 1013904223) 8) ((Pm u 4).2.2.1 cn)) (-1) 2) 4) (nr u 4) + (if (Lm (ntS (sF u 0 34 (1664525 * u.1 34 + 1013904223)) (nr u 4) 1 (dx_rem (dx_ushr (1664525 * u.1 34 + 1013904223) 8) ((Pm u 4).2.2.1 cn)) (-1) 2) 4).2.1 (nr u 4) = 0 then 1 else 0)) ≤ 900
        rw [cI_c l1 _ (Nat.le_refl _), l3, if_neg (by decide)]
        exact w4
    · rw [if_neg k20]
      exact ⟨u, W, nr u 4, rfl, Or.inr (Or.inr ⟨k19, k20, rfl, rfl, rfl⟩), fun _ _ _ => rfl, w1, fun _ _ _ => rfl, fun r _ => agR_A (fun _ _ _ => rfl), r1, agL_r, w4⟩
/-- a call is noted -/
def calS (s : rg_U) (C : Nat) (t p d : Int32) : rg_U := rg_R (rg_R (rg_R (rg_R s 16 (400 + C) t) 17 (400 + C) p) 18 (400 + C) d) 19 4 (nI (C + 1))
theorem calS_n {s : rg_U} {C j : Nat} {t p d : Int32} (h : j < 16 ∨ 19 < j) : (calS s C t p d).2.1 j = s.2.1 j := by
  funext i
  unfold calS
  rw [R_at, R_at, R_at, R_at, if_neg (by omega), if_neg (by omega), if_neg (by omega), if_neg (by omega)]
theorem calS_19 {s : rg_U} {C i : Nat} {t p d : Int32} : (calS s C t p d).2.1 19 i = if i = 4 then nI (C + 1) else s.2.1 19 i := by
  unfold calS
  rw [R_at, R_at, R_at, R_at]
  by_cases q : i = 4
  · rw [if_pos ⟨rfl, q⟩, if_pos q]
  · rw [if_neg (by omega), if_neg (by omega), if_neg (by omega), if_neg (by omega), if_neg q]
theorem calS_a {s : rg_U} {C j i : Nat} {t p d : Int32} (hj : 16 ≤ j ∧ j ≤ 18) : (calS s C t p d).2.1 j i = if i = 400 + C then (if j = 16 then t else if j = 17 then p else d) else s.2.1 j i := by
  unfold calS
  rw [R_at, R_at, R_at, R_at]
  by_cases q : i = 400 + C
  · rcases (show j = 16 ∨ j = 17 ∨ j = 18 by omega) with rfl | rfl | rfl <;> simp [q]
  · rw [if_neg (by omega), if_neg (by omega), if_neg (by omega), if_neg (by omega), if_neg q]
/-- what a step of the run that is now comes to -/
def isCall (u : rg_U) (z : MSt) : Prop := kn u = 17 ∧ z.2.1 = 0 ∧ Cr u 4 < 100
def goD (u u' v : rg_U) (n' : Nat) (z : MSt) : Prop :=
  (u'.2.1 28 = z.1 ∧ nr u' 4 = n' ∧ Tr u' 4 = Tr u 4 + 1 ∧ Lm u' 4 = Lm v 4 ∧ u'.2.1 29 = v.2.1 29 ∧ u'.1 33 = v.1 33 ∧ u'.1 34 = v.1 34) ∧
  (∀ k, k ≠ 33 → k ≠ 34 → k ≠ 37 → k ≠ 38 → k ≠ 39 → u'.1 k = u.1 k) ∧
  (∀ j, (j < 10 ∨ (22 ≤ j ∧ j ≠ 26 ∧ j ≠ 28 ∧ j ≠ 29)) → u'.2.1 j = u.2.1 j) ∧
  (∀ r, r < 4 → agR u u' r) ∧
  ((isCall u z ∧ Cr u' 4 = Cr u 4 + 1 ∧ (∀ j i, 16 ≤ j → j ≤ 18 → i < Cr u 4 → u'.2.1 j (400 + i) = u.2.1 j (400 + i)) ∧ u'.2.1 16 (400 + Cr u 4) = nI (Tr u 4) ∧ u'.2.1 17 (400 + Cr u 4) = z.1 120 ∧ u'.2.1 18 (400 + Cr u 4) = u.2.1 28 121) ∨ (¬ isCall u z ∧ Cr u' 4 = Cr u 4 ∧ ∀ j, 16 ≤ j → j ≤ 18 → u'.2.1 j = u.2.1 j)) ∧
  ((¬ (Tr u 4 + 1) % Ur u 4 = 0 ∧ Hm u' 4 = Hm u 4 ∧ u'.2.1 26 4 = u.2.1 26 4) ∨ ((Tr u 4 + 1) % Ur u 4 = 0 ∧ (∀ k, k ≤ 3000 → Hm u' 4 k = nH (Hm u 4) (Dr u 4) ((Tr u 4 + 1) / Ur u 4) k) ∧ u'.2.1 26 4 = imax (u.2.1 26 4) (nI (cH (Hm u' 4) 3001)))) ∧
  (∀ t, t ≤ Tr u 4 → rpm u' 4 t = rpm u 4 t) ∧ rpm u' 4 (Tr u 4 + 1) = (z.1, n')
theorem okH_n {H : Nat → Int32} {H' : Nat → Int32} {U D T : Nat} (hU : 0 < U) (h : okH H U T) (hT : T < 3000) (hm : (T + 1) % U = 0) (hH : ∀ k, k ≤ 3000 → H' k = nH H D ((T + 1) / U) k) : okH H' U (T + 1) := by
  have hd : (T + 1) / U ≤ 3000 := Nat.le_trans (Nat.div_le_self _ _) (by omega)
  have he : (T + 1) / U * U = T + 1 := Nat.div_mul_cancel (Nat.dvd_of_mod_eq_zero hm)
  have h1 : 1 ≤ (T + 1) / U := by
    rcases Nat.eq_zero_or_pos ((T + 1) / U) with z | z
    · rw [z] at he; omega
    · exact z
  refine ⟨?_, fun k hk => ?_⟩
  · rw [hH 0 (by omega)]
    unfold nH
    rw [if_neg (by omega), if_neg (by omega)]
    exact h.1
  · rw [hH k hk]
    unfold nH
    by_cases z1 : k = (T + 1) / U
    · rw [if_pos z1, z1]
      exact Or.inr ⟨rfl, by omega⟩
    · rw [if_neg z1]
      by_cases z2 : (1 ≤ k ∧ k < (T + 1) / U) ∧ gw k D ≤ (T + 1) / U
      · rw [if_pos z2]; exact Or.inl rfl
      · rw [if_neg z2]
        rcases h.2 k hk with z | ⟨z, y⟩
        · exact Or.inl z
        · exact Or.inr ⟨z, by omega⟩
theorem okH_m {H : Nat → Int32} {U T T' : Nat} (h : okH H U T) (hT : T ≤ T') : okH H U T' := ⟨h.1, fun k hk => (h.2 k hk).imp id (fun z => ⟨z.1, by omega⟩)⟩
