section W_26
-- 97l.back
theorem m_back {F K W : Nat} {x : Int32} {u : rg_U} (h : okM u K W) (hF : 10000 < F) : (¬ (u.2.1 5 4 = 1 ∧ ∃ t, t < Tr u 4 ∧ x = nI t) ∧ g_X10_back F x u = some (-1, sF u 0 35 0) ∧ okM (sF u 0 35 0) K W) ∨ ∃ t u' W' C', u.2.1 5 4 = 1 ∧ t < Tr u 4 ∧ x = nI t ∧ g_X10_back F x u = some (nI (costM u 4 t), u') ∧ okM u' K W' ∧ bkD u u' W W' t (costM u 4 t) C' := by
  have h0 : okM (sF u 0 35 0) K W := okM_34 (by omega) h
  unfold g_X10_back
  rw [lt1_i, ck_t (by decide)]
  have e5 : rA (sF u 0 35 0) 5 4 = u.2.1 5 4 := rfl
  rw [e5]
  by_cases q : u.2.1 5 4 = 0
  · refine Or.inl ⟨fun z => ?_, by rw [if_pos q], h0⟩
    rw [q] at z
    exact absurd z.1 (by decide)
  have q1 : u.2.1 5 4 = 1 := h.1.2.1.1.resolve_left q
  have hro := h.1.2.2.2.2.1 4 (Or.inr ⟨rfl, q1⟩)
  obtain ⟨r1, r2, r3, r4, r5, r6, r7, r8, r9⟩ := id hro
  have hT3 := r7.1.2.2.2.1
  have hn8 := r7.1.2.2.1
  rw [if_neg q, ck_t (by decide), show rA (sF u 0 35 0) 21 4 = nI (Tr u 4) from r2]
  rcases isLt (x := x) (K := Tr u 4) (by omega) with ⟨z1, z2⟩ | ⟨z1, t, ht, rfl⟩
  · exact Or.inl ⟨fun w => z2 w.2, by rw [if_pos z1], h0⟩
  rw [if_neg z1]
  -- the replay
  obtain ⟨p, ep, pc, pm, ps, p31⟩ := m_replays (r := 4) (t := t) h0.1 h0.2 (Or.inr ⟨rfl, q1⟩) (by show t ≤ Tr u 4; omega) hF
  have eC : costM (sF u 0 35 0) 4 t = costM u 4 t := rfl
  have eR : ∀ s, rpm (sF u 0 35 0) 4 s = rpm u 4 s := fun s => rfl
  rw [eC] at pc
  rw [eR] at p31
  rw [show g_X10_replays F 4 (nI t) (sF u 0 35 0) = some p from ep, ob_i]
  have pA : ∀ j, j ≤ 30 → j ≠ 25 → p.2.1 j = u.2.1 j := fun j h1 h2 => by
    rw [pc.1 j h1]
    exact pm_up_n h2
  have p25 : ∀ i, p.2.1 25 i = if i = 4 then u.2.1 25 4 + nI (costM u 4 t) else u.2.1 25 i := fun i => by
    rw [pc.1 25 (by decide)]
    show (rg_R u 25 4 (u.2.1 25 4 + nI (costM u 4 t))).2.1 25 i = _
    rw [R_at]
    by_cases z : i = 4
    · rw [if_pos ⟨rfl, z⟩, if_pos z]
    · rw [if_neg (fun w => z w.2), if_neg z]
  have p35 : p.1 35 = nI (costM u 4 t) := by
    rw [pc.2 35 (by decide)]
    show (0 : Int32) + nI (costM u 4 t) = _
    exact c0
  have pF : ∀ k, k ≤ 36 → k ≠ 35 → p.1 k = u.1 k := fun k h1 h2 => by
    rw [pc.2 k h1]
    show upd (upd u.1 35 0) 35 _ k = _
    rw [pk_un h2, pk_un h2]
  -- the row
  obtain ⟨v1, e1, f1, hv1⟩ := bk_live (F := F) (a := nI t) (b := rF p 0 35) (u := p) hF
  rw [e1, ob_i, ck_t (by decide), lt1_i]
  have ev2 : sA v1 21 4 (nI t) = rg_R v1 21 4 (nI t) := rfl
  rw [ev2]
  have v2A : ∀ j, j ≠ 21 → j ≠ 28 → (rg_R v1 21 4 (nI t)).2.1 j = p.2.1 j := fun j h1 h2 => by
    funext i
    rw [R_at, if_neg (fun w => h1 w.1), hv1, if_neg (fun w => h2 w.1)]
  have v2A' : ∀ j, j ≤ 30 → j ≠ 25 → j ≠ 21 → j ≠ 28 → (rg_R v1 21 4 (nI t)).2.1 j = u.2.1 j := fun j h1 h2 h3 h4 => by rw [v2A j h3 h4, pA j h1 h2]
  have eL2 : Lm (rg_R v1 21 4 (nI t)) 4 = Lm u 4 := by
    unfold Lm
    rw [v2A' 10 (by decide) (by decide) (by decide) (by decide), v2A' 11 (by decide) (by decide) (by decide) (by decide), v2A' 12 (by decide) (by decide) (by decide) (by decide), v2A' 13 (by decide) (by decide) (by decide) (by decide), v2A' 14 (by decide) (by decide) (by decide) (by decide)]
  have e15 : (rg_R v1 21 4 (nI t)).2.1 15 4 = nI (nr u 4) := by rw [v2A' 15 (by decide) (by decide) (by decide) (by decide)]; exact r1
  have hl := (rp_ok r7.1 t (by omega)).2.2
  have hstay := bk_stay (F := F) (n := nr u 4) (t := t) (l := (rpm u 4 t).2) (b := rF p 0 35) (u := rg_R v1 21 4 (nI t)) e15 hn8 hl (by omega) (fun k hk => by
    rw [eL2]
    obtain ⟨qq, y1, y2, y3⟩ := r7.2.1 k hk
    exact ⟨qq, by omega, y2, y3 t (by omega)⟩) hF
  rw [hstay, ob_i]
  unfold g_X10_back_j132
  have hagain := bk_again (F := F) (n := nr u 4) (l := (rpm u 4 t).2) (a := nI t) (b := rF p 0 35) (c := nI (rpm u 4 t).2) (u := rg_R v1 21 4 (nI t)) e15 hn8 hl hF
  rw [eL2] at hagain
  rw [hagain, ob_i]
  obtain ⟨w1, w2, w3⟩ := h.1.2.2.2.2.2.2.1
  have w4 := w3 q1
  have hmono := cI_mono (L := Lm u 4) (a := (rpm u 4 t).2) (nr u 4 - (rpm u 4 t).2)
  rw [show (rpm u 4 t).2 + (nr u 4 - (rpm u 4 t).2) = nr u 4 by have : (rpm u 4 t).2 ≤ nr u 4 := hl; omega] at hmono
  have hlam : (rpm u 4 t).2 ≤ nr u 4 := hl
  generalize hg : cI (Lm u 4) (nr u 4) - cI (Lm u 4) (rpm u 4 t).2 = g at *
  have e33 : rF (rg_R v1 21 4 (nI t)) 0 33 = nI W := by
    show v1.1 33 = _
    rw [f1, pF 33 (by decide) (by decide)]
    exact w1
  rw [e33]
  obtain ⟨v3, e3, f3, hv3⟩ := bk_shift (F := F) (W := W) (g := g) (a := nI t) (b := rF p 0 35) (c := nI (rpm u 4 t).2) (u := rg_R v1 21 4 (nI t)) (by omega) hF
  rw [e3, ob_i, lt1_i, show rF v3 0 33 = nI W by show v3.1 33 = _; rw [f3]; exact e33, nI_add]
  have v4A : ∀ j, j ≠ 29 → (sF v3 0 33 (nI (W + g))).2.1 j = (rg_R v1 21 4 (nI t)).2.1 j := fun j hj => by
    funext i
    show v3.2.1 j i = _
    rw [hv3, if_neg (fun w => hj w.1)]
  have eL4 : Lm (sF v3 0 33 (nI (W + g))) 4 = Lm u 4 := by
    rw [← eL2]
    unfold Lm
    rw [v4A 10 (by decide), v4A 11 (by decide), v4A 12 (by decide), v4A 13 (by decide), v4A 14 (by decide)]
  obtain ⟨v5, e5', f5, a5, b5, c5⟩ := bk_fill (F := F) (n := nr u 4) (l := (rpm u 4 t).2) (a := nI t) (b := rF p 0 35) (c := nI (rpm u 4 t).2) (u := sF v3 0 33 (nI (W + g))) (by rw [v4A 15 (by decide)]; exact e15) hn8 hl hF
  rw [eL4, hg] at b5
  rw [eL4] at c5
  rw [e5', ob_i, ck_t (by decide), lt1_i]
  have ev6 : sA v5 15 4 (nI (rpm u 4 t).2) = rg_R v5 15 4 (nI (rpm u 4 t).2) := rfl
  rw [ev6]
  have v6A : ∀ j, j ≠ 15 → j ≠ 21 → j ≠ 28 → j ≠ 29 → (rg_R v5 15 4 (nI (rpm u 4 t).2)).2.1 j = p.2.1 j := fun j h1 h2 h3 h4 => by
    funext i
    rw [R_at, if_neg (fun w => h1 w.1), a5 j h4, v4A j h4, v2A j h2 h3]
  obtain ⟨hC100, ct, g1, g2⟩ := id r9
  obtain ⟨v7, C', e7, c7, f7, hv7, h71, h72⟩ := bk_calls (F := F) (t := t) (C := Cr u 4) (b := rF p 0 35) (ct := ct) (u := rg_R v5 15 4 (nI (rpm u 4 t).2)) (by rw [v6A 19 (by decide) (by decide) (by decide) (by decide), pA 19 (by decide) (by decide)]; exact r5) hC100 (fun i hi => by rw [v6A 16 (by decide) (by decide) (by decide) (by decide), pA 16 (by decide) (by decide)]; have := g1 i hi; exact ⟨this.1, by omega⟩) (by omega) hF
  rw [e7, ob_i]
  unfold g_X10_back_j340
  have e723 : v7.2.1 23 4 = nI (Ur u 4) := by rw [hv7, if_neg (by omega), v6A 23 (by decide) (by decide) (by decide) (by decide), pA 23 (by decide) (by decide)]; exact r3
  obtain ⟨v8, e8, f8, hv8⟩ := bk_held (F := F) (t := t) (U := Ur u 4) (b := rF p 0 35) (u := v7) e723 r6.2.1 (by omega) hF
  rw [e8, ob_i, ck_t (by decide), ck_t (by decide), lt1_i, lt1_i]
  have e27 : rA v8 27 4 = u.2.1 27 4 := by
    show v8.2.1 27 4 = _
    rw [hv8, if_neg (by omega), hv7, if_neg (by omega), v6A 27 (by decide) (by decide) (by decide) (by decide), pA 27 (by decide) (by decide)]
  rw [e27]
  have ev9 : sA v8 27 4 (u.2.1 27 4 + 1) = rg_R v8 27 4 (u.2.1 27 4 + 1) := rfl
  rw [ev9, show rF p 0 35 = nI (costM u 4 t) from p35]
  -- what lies there in the end
  have zf : ∀ k, k ≠ 41 → (sF (rg_R v8 27 4 (u.2.1 27 4 + 1)) 0 41 (-1)).1 k = if k = 33 then nI (W + g) else p.1 k := fun k hk => by
    show upd v8.1 (100 * 0 + 41) (-1) k = _
    rw [pk_un hk, f8, f7]
    show v5.1 k = _
    rw [f5]
    show upd v3.1 (100 * 0 + 33) (nI (W + g)) k = _
    by_cases y : k = 33
    · subst y; rw [if_pos rfl]; exact pk_us
    · rw [pk_un y, if_neg y, f3]
      show v1.1 k = _
      rw [f1]
  have z41 : (sF (rg_R v8 27 4 (u.2.1 27 4 + 1)) 0 41 (-1)).1 41 = -1 := rfl
  have zA : ∀ j, j ≠ 15 → j ≠ 19 → j ≠ 20 → j ≠ 21 → j ≠ 27 → j ≠ 28 → j ≠ 29 → (sF (rg_R v8 27 4 (u.2.1 27 4 + 1)) 0 41 (-1)).2.1 j = p.2.1 j := fun j h1 h2 h3 h4 h5 h6 h7 => by
    funext i
    show (rg_R v8 27 4 (u.2.1 27 4 + 1)).2.1 j i = _
    rw [R_at, if_neg (fun w => h5 w.1), hv8, if_neg (fun w => h3 w.1), hv7, if_neg (fun w => h2 w.1), v6A j h1 h4 h6 h7]
  have z15 : ∀ i, (sF (rg_R v8 27 4 (u.2.1 27 4 + 1)) 0 41 (-1)).2.1 15 i = if i = 4 then nI (rpm u 4 t).2 else u.2.1 15 i := fun i => by
    show (rg_R v8 27 4 (u.2.1 27 4 + 1)).2.1 15 i = _
    rw [R_at, if_neg (by omega), hv8, if_neg (by omega), hv7, if_neg (by omega), R_at]
    by_cases y : i = 4
    · rw [if_pos ⟨rfl, y⟩, if_pos y]
    · rw [if_neg (fun w => y w.2), if_neg y, a5 15 (by decide), v4A 15 (by decide), v2A' 15 (by decide) (by decide) (by decide) (by decide)]
  have z19 : ∀ i, (sF (rg_R v8 27 4 (u.2.1 27 4 + 1)) 0 41 (-1)).2.1 19 i = if i = 4 then nI C' else u.2.1 19 i := fun i => by
    show (rg_R v8 27 4 (u.2.1 27 4 + 1)).2.1 19 i = _
    rw [R_at, if_neg (by omega), hv8, if_neg (by omega), hv7]
    by_cases y : i = 4
    · rw [if_pos ⟨rfl, y⟩, if_pos y]
    · rw [if_neg (fun w => y w.2), if_neg y, v6A 19 (by decide) (by decide) (by decide) (by decide), pA 19 (by decide) (by decide)]
  have z20 : ∀ i, (sF (rg_R v8 27 4 (u.2.1 27 4 + 1)) 0 41 (-1)).2.1 20 i = if (12004 < i ∧ i < 15005) ∧ t < (i - 12004) * Ur u 4 then 0 else u.2.1 20 i := fun i => by
    show (rg_R v8 27 4 (u.2.1 27 4 + 1)).2.1 20 i = _
    rw [R_at, if_neg (by omega), hv8, hv7, if_neg (show ¬ (20 = 19 ∧ i = 4) by omega), v6A 20 (by decide) (by decide) (by decide) (by decide), pA 20 (by decide) (by decide)]
    by_cases y : (12004 < i ∧ i < 15005) ∧ t < (i - 12004) * Ur u 4
    · rw [if_pos ⟨rfl, y⟩, if_pos y]
    · rw [if_neg (fun w => y w.2), if_neg y]
  have z21 : ∀ i, (sF (rg_R v8 27 4 (u.2.1 27 4 + 1)) 0 41 (-1)).2.1 21 i = if i = 4 then nI t else u.2.1 21 i := fun i => by
    show (rg_R v8 27 4 (u.2.1 27 4 + 1)).2.1 21 i = _
    rw [R_at, if_neg (by omega), hv8, if_neg (by omega), hv7, if_neg (by omega), R_at, if_neg (by omega), a5 21 (by decide), v4A 21 (by decide), R_at]
    by_cases y : i = 4
    · rw [if_pos ⟨rfl, y⟩, if_pos y]
    · rw [if_neg (fun w => y w.2), if_neg y, hv1, if_neg (by omega), pA 21 (by decide) (by decide)]
  have z27 : ∀ i, (sF (rg_R v8 27 4 (u.2.1 27 4 + 1)) 0 41 (-1)).2.1 27 i = if i = 4 then u.2.1 27 4 + 1 else u.2.1 27 i := fun i => by
    show (rg_R v8 27 4 (u.2.1 27 4 + 1)).2.1 27 i = _
    rw [R_at]
    by_cases y : i = 4
    · rw [if_pos ⟨rfl, y⟩, if_pos y]
    · rw [if_neg (fun w => y w.2), if_neg y, hv8, if_neg (by omega), hv7, if_neg (by omega), v6A 27 (by decide) (by decide) (by decide) (by decide), pA 27 (by decide) (by decide)]
  have z28 : (sF (rg_R v8 27 4 (u.2.1 27 4 + 1)) 0 41 (-1)).2.1 28 = (rpm u 4 t).1 := by
    funext i
    show (rg_R v8 27 4 (u.2.1 27 4 + 1)).2.1 28 i = _
    rw [R_at, if_neg (by omega), hv8, if_neg (by omega), hv7, if_neg (by omega), R_at, if_neg (by omega), a5 28 (by decide), v4A 28 (by decide), R_at, if_neg (by omega), hv1, p31]
    by_cases y : i < 134
    · rw [if_pos ⟨rfl, y⟩]
    · rw [if_neg (fun w => y w.2), rpm_z hro (by omega) i (by omega), pA 28 (by decide) (by decide)]
      exact h.2.2.2.1 i (by omega)
  have z29 : ∀ i, (sF (rg_R v8 27 4 (u.2.1 27 4 + 1)) 0 41 (-1)).2.1 29 i = v5.2.1 29 i := fun i => by
    show (rg_R v8 27 4 (u.2.1 27 4 + 1)).2.1 29 i = _
    rw [R_at, if_neg (by omega), hv8, if_neg (by omega), hv7, if_neg (by omega), R_at, if_neg (by omega)]
  generalize sF (rg_R v8 27 4 (u.2.1 27 4 + 1)) 0 41 (-1) = u' at *
  clear e1 e3 e5' e7 e8 hstay hagain ev2 ev6 ev9 hv8 e27 e723 v6A hv1
  have en : nr u' 4 = (rpm u 4 t).2 := by unfold nr; rw [z15, if_pos rfl]; exact tnn (by omega)
  have eT : Tr u' 4 = t := by unfold Tr; rw [z21, if_pos rfl]; exact tnn (by omega)
  have eCr : Cr u' 4 = C' := by unfold Cr; rw [z19, if_pos rfl]; exact tnn (by omega)
  have zU : ∀ j, (j < 15 ∨ (16 ≤ j ∧ j ≤ 18) ∨ (22 ≤ j ∧ j ≤ 24) ∨ j = 26 ∨ j = 30) → u'.2.1 j = u.2.1 j := fun j hj => by rw [zA j (by omega) (by omega) (by omega) (by omega) (by omega) (by omega) (by omega), pA j (by omega) (by omega)]
  have eU : Ur u' 4 = Ur u 4 := by unfold Ur; rw [zU 23 (by omega)]
  have eD : Dr u' 4 = Dr u 4 := by unfold Dr; rw [zU 24 (by omega)]
  have eLm : Lm u' 4 = Lm u 4 := by
    unfold Lm
    rw [zU 10 (by omega), zU 11 (by omega), zU 12 (by omega), zU 13 (by omega), zU 14 (by omega)]
  have ePm : Pm u' 4 = Pm u 4 := by
    unfold Pm
    rw [zU 6 (by omega), zU 7 (by omega), zU 8 (by omega), zU 9 (by omega)]
  have eHm : ∀ k, k ≤ 3000 → Hm u' 4 k = if t < k * Ur u 4 then 0 else Hm u 4 k := fun k hk => by
    rw [Hm_k (by omega), z20, Hm_k (by omega), show 3001 * 4 + k - 12004 = k by omega]
    by_cases y : t < k * Ur u 4
    · have : 0 < k := by
        rcases Nat.eq_zero_or_pos k with z | z
        · subst z; omega
        · exact z
      rw [if_pos ⟨by omega, y⟩, if_pos y]
    · rw [if_neg (fun w => y w.2), if_neg y]
  have fr : ∀ r, r < 4 → agR u u' r := fun r hr => by
    refine ⟨fun j a b k c => by rw [zU j (by omega)], fun j a b k c => by rw [zU j (by omega)], fun j a => ?_, fun j a b k c => by rw [zU j (by omega)], fun k c => by rw [z20, if_neg (by omega)]⟩
    unfold scal at a
    rcases (show j = 15 ∨ j = 19 ∨ j = 21 ∨ j = 25 ∨ j = 27 ∨ ((22 ≤ j ∧ j ≤ 24) ∨ j = 26) by omega) with rfl | rfl | rfl | rfl | rfl | y
    · rw [z15, if_neg (by omega)]
    · rw [z19, if_neg (by omega)]
    · rw [z21, if_neg (by omega)]
    · rw [zA 25 (by decide) (by decide) (by decide) (by decide) (by decide) (by decide) (by decide), p25, if_neg (by omega)]
    · rw [z27, if_neg (by omega)]
    · rw [zU j (by omega)]
  have hcut := okW_cut r7 (t0 := t) (by omega)
  have hrp : ∀ s, s ≤ t → rpm u' 4 s = rpm u 4 s := fun s hs => by
    unfold rpm
    rw [en, eLm, ePm]
    exact rp_trunc r7.1 (by omega) s hs
  have hrun : runOK u' 4 := by
    unfold runOK
    rw [en, eT, eCr, eU, eD, eLm, ePm]
    refine ⟨by rw [z15, if_pos rfl], by rw [z21, if_pos rfl], by rw [zU 23 (by omega)]; exact r3, by rw [zU 24 (by omega)]; exact r4, by rw [z19, if_pos rfl], r6, hcut, ⟨?_, fun k hk => ?_⟩, by omega, ct, fun i hi => ?_, fun i j a b => g2 i j a (by omega)⟩
    · rw [eHm 0 (by omega), if_neg (by omega)]; exact r8.1
    · rw [eHm k hk]
      by_cases y : t < k * Ur u 4
      · rw [if_pos y]; exact Or.inl rfl
      · rw [if_neg y]
        rcases r8.2 k hk with z | ⟨z, -⟩
        · exact Or.inl z
        · exact Or.inr ⟨z, by omega⟩
    · dsimp only
      rw [zU 16 (by omega)]
      refine ⟨(g1 i (by omega)).1, ?_⟩
      rcases h71 with y | y
      · omega
      · by_cases z : i = C' - 1
        · rw [z]; exact y
        · have := g2 i (C' - 1) (by omega) (by omega); omega
  refine Or.inr ⟨t, u', W + g, C', q1, ht, rfl, rfl, ⟨core_now h.1 fr ⟨?_, ?_, ?_, ?_⟩ (fun j a b => zU j (by omega)) (zU 30 (by omega)) (fun r _ => by rw [zU 5 (by omega)]) (by rw [zU 5 (by omega)]; exact q1) hrun (by rw [eT, hrp t (Nat.le_refl _)]; exact z28) ⟨by rw [zf 33 (by decide), if_pos rfl], by rw [eLm, en]; omega⟩, simM_none h.1.1.2.1 z41 ?_ ?_ ?_⟩, ⟨z28, en, eT, eCr, by rw [hg]⟩, zU, ⟨?_, by rw [z27, if_pos rfl], ?_, by rw [zf 33 (by decide), if_pos rfl], ?_⟩, fun k hk => ?_, fr, ⟨c7, fun ct' hct' => ?_⟩, eHm, hrp, fun i hi => ?_, fun k a b c => ?_⟩
  · rw [zf 4 (by decide), if_neg (by decide), pF 4 (by decide) (by decide)]
  · rw [zf 5 (by decide), if_neg (by decide), pF 5 (by decide) (by decide)]
  · rw [zf 29 (by decide), if_neg (by decide), pF 29 (by decide) (by decide)]
  · rw [zf 30 (by decide), if_neg (by decide), pF 30 (by decide) (by decide)]
  · rw [z28]; exact rpm_z hro (by omega)
  · rw [zA 31 (by decide) (by decide) (by decide) (by decide) (by decide) (by decide) (by decide)]; exact ps.2.2.2.1
  · rw [zA 37 (by decide) (by decide) (by decide) (by decide) (by decide) (by decide) (by decide)]; exact ps.2.2.2.2
  · rw [zA 25 (by decide) (by decide) (by decide) (by decide) (by decide) (by decide) (by decide), p25, if_pos rfl]
  · rw [zf 35 (by decide), if_neg (by decide)]; exact p35
  · rw [zf 34 (by decide), if_neg (by decide), pF 34 (by decide) (by decide)]
  · rw [zf k (by omega), if_neg (by omega), pF k (by omega) (by omega)]
  · have ec : ∀ i, i < Cr u 4 → ct' i = ct i := fun i hi => nI_inj (by have := (hct' i hi).2; omega) (by have := (g1 i hi).2; omega) ((hct' i hi).1.symm.trans (g1 i hi).1)
    refine ⟨?_, fun i a b => by rw [ec i b]; exact h72 i a b⟩
    rcases h71 with y | y
    · exact Or.inl y
    · rcases Nat.eq_zero_or_pos C' with z | z
      · exact Or.inl z
      · exact Or.inr (by rw [ec _ (by omega)]; exact y)
  · rw [z29, b5 (i + (W + g - W)) (by omega)]
    show v3.2.1 29 _ = _
    rw [hv3, if_pos (by omega), show i + (W + g - W) - g = i by omega, v2A' 29 (by decide) (by decide) (by decide) (by decide)]
  · rw [z29]; exact c5 k a b c
end W_26
section W_27
-- 97m.read
/-! readers of the reference -/
def aR (u : rg_U) : Nat := if u.1 30 = -1 then 4 else tn (u.1 30)
theorem aR_ok {u : rg_U} {K W : Nat} (h : coreM u K W) : aR u < 5 ∧ (u.2.1 5 (aR u) = 0 ∨ (u.2.1 5 (aR u) = 1 ∧ act u K (aR u))) := by
  unfold aR
  rcases h.1.2.2 with q | ⟨r, hr, q⟩
  · rw [if_pos q]
    exact ⟨by omega, h.2.1.1.imp id (fun z => ⟨z, Or.inr ⟨rfl, z⟩⟩)⟩
  · have hK := h.1.2.1
    rw [if_neg (by rw [q]; exact nI_m1 (by omega)), q, tnn (by omega)]
    exact ⟨by omega, Or.inr ⟨h.2.1.2.2 r hr, Or.inl hr⟩⟩
theorem m_ask {F K W : Nat} {u : rg_U} (h : coreM u K W) : g_X10_runAsked F u = some (nI (aR u)) := by
  unfold g_X10_runAsked aR
  have e : rF u 0 30 = u.1 30 := rfl
  rw [e]
  rcases h.1.2.2 with q | ⟨r, hr, q⟩
  · rw [if_pos q, if_pos q]; rfl
  · have hK := h.1.2.1
    have hn : ¬ u.1 30 = -1 := by rw [q]; exact nI_m1 (by omega)
    rw [if_neg hn, if_neg hn, q, tnn (by omega)]
/-- t is a time of the run that is asked -/
def isTm (u : rg_U) (x : Int32) : Prop := u.2.1 5 (aR u) = 1 ∧ ∃ t, t ≤ Tr u (aR u) ∧ x = nI t
theorem m_time {F K W : Nat} {x : Int32} {u : rg_U} (h : coreM u K W) : (g_X10_isTime F x u = some 0 ∧ ¬ isTm u x) ∨ ∃ t, g_X10_isTime F x u = some 1 ∧ act u K (aR u) ∧ u.2.1 5 (aR u) = 1 ∧ t ≤ Tr u (aR u) ∧ x = nI t := by
  obtain ⟨h5, hr⟩ := aR_ok h
  unfold g_X10_isTime
  rw [m_ask h, ob_i, ck_t (inb_nI h5 (by decide)), ck_t (inb_nI h5 (by decide)), rA_nI (by omega), rA_nI (by omega)]
  rcases hr with q | ⟨q, ha⟩
  · refine Or.inl ⟨by rw [if_pos q], fun z => ?_⟩
    have z1 := z.1
    rw [q] at z1
    exact absurd z1 (by decide)
  · have hro := h.2.2.2.2.1 _ ha
    have hT := hro.2.2.2.2.2.2.1.1.2.2.2.1
    rw [if_neg (by rw [q]; decide), hro.2.1]
    by_cases z : g_X10_isIn x 0 (nI (Tr u (aR u))) = 0
    · refine Or.inl ⟨by rw [if_pos z], fun w => ?_⟩
      obtain ⟨-, t, ht, rfl⟩ := w
      exact in_nI (a := 0) (by omega) ht (by omega) z
    · obtain ⟨t, e, h1, h2⟩ := in_nat z (by decide)
      rw [nI_toInt (by omega)] at h2
      exact Or.inr ⟨t, by rw [if_neg z], ha, q, by omega, e⟩
theorem cS_core {a b : rg_U} {r : Nat} {x : Int32} (h : coreEq a b) : coreEq (cS a r x) (cS b r x) := by
  refine ⟨fun j hj => ?_, fun k hk => ?_⟩
  · funext i
    show (rg_R b 25 r (b.2.1 25 r + x)).2.1 j i = (rg_R a 25 r (a.2.1 25 r + x)).2.1 j i
    rw [R_at, R_at, h.1 25 (by decide), h.1 j hj]
  · show upd b.1 35 (b.1 35 + x) k = upd a.1 35 (a.1 35 + x) k
    rw [h.2 35 (by decide)]
    by_cases z : k = 35
    · subst z; rw [pk_us, pk_us]
    · rw [pk_un z, pk_un z, h.2 k hk]
theorem cS_add {u : rg_U} {r : Nat} {x y : Int32} : cS (cS u r x) r y = cS u r (x + y) := by
  unfold cS
  have e1 : (sF (rg_R u 25 r (u.2.1 25 r + x)) 0 35 (u.1 35 + x)).2.1 25 r = u.2.1 25 r + x := by
    show (rg_R u 25 r (u.2.1 25 r + x)).2.1 25 r = _
    rw [R_at, if_pos ⟨rfl, rfl⟩]
  have e2 : (sF (rg_R u 25 r (u.2.1 25 r + x)) 0 35 (u.1 35 + x)).1 35 = u.1 35 + x := rfl
  rw [e1, e2, Int32.add_assoc, Int32.add_assoc]
  unfold sF rg_F rg_R
  dsimp only
  rw [upd2, va_twice]
  have e3 : va_up u.2.1 25 (upd (u.2.1 25) r (u.2.1 25 r + x)) 25 = upd (u.2.1 25) r (u.2.1 25 r + x) := pm_up_s
  rw [e3, upd2]
theorem cS_n {u : rg_U} {r j : Nat} {x : Int32} (h : j ≠ 25) : (cS u r x).2.1 j = u.2.1 j := by
  show va_up u.2.1 25 _ j = _
  exact pm_up_n h
/-- what is read of a run doesn't change by counting -/
theorem eq_c {u v : rg_U} {r q : Nat} {x : Int32} (h : coreEq (cS u q x) v) : (∀ t, rpm v r t = rpm u r t) ∧ (∀ t, costM v r t = costM u r t) ∧ Tr v r = Tr u r ∧ aR v = aR u ∧ v.2.1 5 = u.2.1 5 ∧ Pm v r = Pm u r := by
  have hA : ∀ j, j ≤ 30 → j ≠ 25 → v.2.1 j = u.2.1 j := fun j h1 h2 => by rw [h.1 j h1, cS_n h2]
  refine ⟨fun t => ?_, fun t => ?_, ?_, ?_, hA 5 (by decide) (by decide), ?_⟩
  · unfold rpm Pm Lm nr
    rw [hA 6 (by decide) (by decide), hA 7 (by decide) (by decide), hA 8 (by decide) (by decide), hA 9 (by decide) (by decide), hA 10 (by decide) (by decide), hA 11 (by decide) (by decide), hA 12 (by decide) (by decide), hA 13 (by decide) (by decide), hA 14 (by decide) (by decide), hA 15 (by decide) (by decide)]
  · unfold costM Hm Ur Tr
    rw [hA 20 (by decide) (by decide), hA 21 (by decide) (by decide), hA 23 (by decide) (by decide)]
  · unfold Tr
    rw [hA 21 (by decide) (by decide)]
  · unfold aR
    rw [h.2 30 (by decide)]
    rfl
  · unfold Pm
    rw [hA 6 (by decide) (by decide), hA 7 (by decide) (by decide), hA 8 (by decide) (by decide), hA 9 (by decide) (by decide)]
theorem act_v {u v : rg_U} {K r q : Nat} {x : Int32} (h : coreEq (cS u q x) v) (ha : act u K r) : act v K r := by
  unfold act at ha ⊢
  rw [(eq_c (r := 0) h).2.2.2.2.1]
  exact ha
/-- one replay more -/
theorem rep_more {F K W r t x : Nat} {u v : rg_U} (hv : coreEq (cS u r (nI x)) v) (hok : okM v K W) (ha : act u K r) (ht : t ≤ Tr u r) (hF : 10000 < F) : ∃ w, g_X10_replays F (nI r) (nI t) v = some w ∧ coreEq (cS u r (nI (x + costM u r t))) w ∧ okM w K W ∧ w.2.1 31 = (rpm u r t).1 := by
  obtain ⟨e1, e2, e3, -⟩ := eq_c (r := r) hv
  obtain ⟨w, g1, g2, g3, g4, g5⟩ := m_replays (t := t) hok.1 hok.2 (act_v hv ha) (by rw [e3]; exact ht) hF
  rw [e2] at g2
  rw [e1] at g5
  refine ⟨w, g1, ?_, ⟨g3, g4⟩, g5⟩
  have := coreEq_t (cS_core (r := r) (x := nI (costM u r t)) hv) g2
  rwa [cS_add, nI_add] at this
theorem rep_0 {u : rg_U} {r : Nat} : coreEq (cS u r (nI 0)) u := by
  have : cS u r (nI 0) = u := cS_0
  rw [this]
  exact coreEq_r
/-- the answer of at -/
theorem m_at {F K W : Nat} {x y z : Int32} {u : rg_U} (h : okM u K W) (hF : 10000 < F) : (¬ (isTm u x ∧ ¬ g_X10_isPlace y = 0 ∧ ¬ g_X10_isIn z 0 2 = 0) ∧ g_X10_at F x y z u = some (-1000001, sF u 0 35 0) ∧ okM (sF u 0 35 0) K W) ∨ ∃ t p u', act u K (aR u) ∧ u.2.1 5 (aR u) = 1 ∧ t ≤ Tr u (aR u) ∧ x = nI t ∧ p < 40 ∧ y = nI p ∧ ¬ g_X10_isIn z 0 2 = 0 ∧ g_X10_at F x y z u = some ((rpm u (aR u) t).1 (if z = 0 then p else if z = 1 then 40 + p else 80 + p), u') ∧ okM u' K W ∧ coreEq (cS (sF u 0 35 0) (aR u) (nI (costM u (aR u) t))) u' := by
  have h0 : okM (sF u 0 35 0) K W := okM_34 (by omega) h
  unfold g_X10_at
  rw [lt1_i]
  rcases m_time (F := F) (x := x) h0.1 with ⟨q1, q2⟩ | ⟨t, q1, q2, q3, q4, rfl⟩
  · rw [q1, ob_i, if_pos rfl]
    exact Or.inl ⟨fun w => q2 w.1, rfl, h0⟩
  rw [q1, ob_i, if_neg one_n0]
  by_cases qp : g_X10_isPlace y = 0
  · rw [if_pos qp]; exact Or.inl ⟨fun w => w.2.1 qp, rfl, h0⟩
  rw [if_neg qp]
  by_cases qz : g_X10_isIn z 0 2 = 0
  · rw [if_pos qz]; exact Or.inl ⟨fun w => w.2.2 qz, rfl, h0⟩
  rw [if_neg qz, m_ask h0.1, ob_i]
  obtain ⟨p, hp, rfl⟩ := isPl qp
  obtain ⟨w, e1, e2, e3, e4⟩ := rep_more (u := sF u 0 35 0) (x := 0) rep_0 h0 q2 q4 hF
  rw [Nat.zero_add] at e2
  rw [e1, ob_i, c0, c40, c80, ck_t (inb_nI (by omega) (by decide)), ck_t (inb_nI (by omega) (by decide)), ck_t (inb_nI (by omega) (by decide)), rA_nI (by omega), rA_nI (by omega), rA_nI (by omega), e4]
  refine Or.inr ⟨t, p, w, q2, q3, q4, rfl, hp, rfl, qz, ?_, e3, e2⟩
  by_cases z0 : z = 0
  · rw [if_pos z0, if_pos z0]; rfl
  · rw [if_neg z0, if_neg z0]
    by_cases z1 : z = 1
    · rw [if_pos z1, if_pos z1]; rfl
    · rw [if_neg z1, if_neg z1]; rfl
/-- the answer of state: of the row m, of a program P -/
def stA (P : Prg) (m : Row) (y : Int32) : Int32 := if y = 0 then m 120 else if y = 1 then m 121 else if y = 2 then m 130 else if y = 3 then m 131 else if y = 4 then kindOf P (m 120) else if m 121 ≤ y - 10 then -1000001 else m (tn (122 + y - 10))
def stW (y : Int32) : Prop := ¬ g_X10_isIn y 0 4 = 0 ∨ ¬ g_X10_isIn y 10 17 = 0
theorem m_state {F K W : Nat} {x y : Int32} {u : rg_U} (h : okM u K W) (hF : 10000 < F) : (¬ (isTm u x ∧ stW y) ∧ g_X10_state F x y u = some (-1000001, sF u 0 35 0) ∧ okM (sF u 0 35 0) K W) ∨ ∃ t u', act u K (aR u) ∧ u.2.1 5 (aR u) = 1 ∧ t ≤ Tr u (aR u) ∧ x = nI t ∧ stW y ∧ g_X10_state F x y u = some (stA (Pm u (aR u)) (rpm u (aR u) t).1 y, u') ∧ okM u' K W ∧ coreEq (cS (sF u 0 35 0) (aR u) (nI (costM u (aR u) t))) u' := by
  have h0 : okM (sF u 0 35 0) K W := okM_34 (by omega) h
  unfold g_X10_state
  rw [lt1_i]
  rcases m_time (F := F) (x := x) h0.1 with ⟨q1, q2⟩ | ⟨t, q1, q2, q3, q4, rfl⟩
  · rw [q1, ob_i, if_pos rfl]
    exact Or.inl ⟨fun w => q2 w.1, rfl, h0⟩
  rw [q1, ob_i, if_neg one_n0]
  have key : stW y → ∃ t' u', act u K (aR u) ∧ u.2.1 5 (aR u) = 1 ∧ t' ≤ Tr u (aR u) ∧ nI t = nI t' ∧ stW y ∧ g_X10_state_j37 F (nI t) y (sF u 0 35 0) = some (stA (Pm u (aR u)) (rpm u (aR u) t').1 y, u') ∧ okM u' K W ∧ coreEq (cS (sF u 0 35 0) (aR u) (nI (costM u (aR u) t'))) u' := by
    intro hy
    unfold g_X10_state_j37
    rw [m_ask h0.1, ob_i]
    obtain ⟨w, e1, e2, e3, e4⟩ := rep_more (u := sF u 0 35 0) (x := 0) rep_0 h0 q2 q4 hF
    rw [Nat.zero_add] at e2
    obtain ⟨g1, g2, g3, g4, g5, g6⟩ := eq_c (r := aR u) e2
    have hro := h.1.2.2.2.2.1 (aR u) q2
    obtain ⟨⟨cn, hc1, hc2⟩, d, hd1, hd2, -⟩ := (rp_ok hro.2.2.2.2.2.2.1.1 t q4).1
    have ea : ∀ i, rA w 31 i = (rpm u (aR u) t).1 (tn i) := fun i => congrFun e4 _
    have a120 : (rpm u (aR u) t).1 120 = nI cn := hc2
    have a121 : (rpm u (aR u) t).1 121 = nI d := hd2
    rw [e1, ob_i]
    simp only [ea, show tn 120 = 120 from by decide, show tn 121 = 121 from by decide, show tn 130 = 130 from by decide, show tn 131 = 131 from by decide, ck_t (show inb 120 134 by decide), ck_t (show inb 121 134 by decide), ck_t (show inb 130 134 by decide), ck_t (show inb 131 134 by decide)]
    rw [m_ask e3.1, ob_i, g4, a120, show aR (sF u 0 35 0) = aR u from rfl, m_kindAt (aR_ok h.1).1 hc1, ob_i, g6, show Pm (sF u 0 35 0) (aR u) = Pm u (aR u) from rfl]
    refine ⟨t, w, q2, q3, q4, rfl, hy, ?_, e3, e2⟩
    unfold stA
    by_cases y0 : y = 0
    · rw [if_pos y0, if_pos y0, a120]
    rw [if_neg y0, if_neg y0]
    by_cases y1 : y = 1
    · rw [if_pos y1, if_pos y1]
    rw [if_neg y1, if_neg y1]
    by_cases y2 : y = 2
    · rw [if_pos y2, if_pos y2]
    rw [if_neg y2, if_neg y2]
    by_cases y3 : y = 3
    · rw [if_pos y3, if_pos y3]
    rw [if_neg y3, if_neg y3]
    by_cases y4 : y = 4
    · rw [if_pos y4, if_pos y4, a120]
    rw [if_neg y4, if_neg y4]
    have hy10 : ∃ k, 10 ≤ k ∧ k ≤ 17 ∧ y = nI k := by
      rcases hy with z | z
      · exfalso
        obtain ⟨k, e, k1, k2⟩ := in_nat z (by decide)
        have e4 : (4 : Int32).toInt = 4 := rfl
        rcases (show k = 0 ∨ k = 1 ∨ k = 2 ∨ k = 3 ∨ k = 4 by omega) with z | z | z | z | z
        · exact y0 (by rw [e, z]; rfl)
        · exact y1 (by rw [e, z]; rfl)
        · exact y2 (by rw [e, z]; rfl)
        · exact y3 (by rw [e, z]; rfl)
        · exact y4 (by rw [e, z]; rfl)
      · obtain ⟨k, e, k1, k2⟩ := in_nat z (by decide)
        have e4 : (10 : Int32).toInt = 10 := rfl
        have e5 : (17 : Int32).toInt = 17 := rfl
        exact ⟨k, by omega, by omega, e⟩
    obtain ⟨k, k1, k2, rfl⟩ := hy10
    rw [show (122 : Int32) + nI k - 10 = nI (122 + k - 10) by rw [show (122 : Int32) + nI k = nI (122 + k) from nI_add 122 k]; exact nI_sub (a := 122 + k) (b := 10) (by omega), ck_t (inb_nI (show 122 + k - 10 < 134 by omega) (by decide))]
    by_cases z : (rpm u (aR u) t).1 121 ≤ nI k - 10
    · rw [if_pos z, if_pos z]
    · rw [if_neg z, if_neg z]
  by_cases qa : g_X10_isIn y 0 4 = 0
  · rw [if_pos qa]
    by_cases qb : g_X10_isIn y 10 17 = 0
    · rw [if_pos qb]
      exact Or.inl ⟨fun w => w.2.elim (fun z => z qa) (fun z => z qb), rfl, h0⟩
    · rw [if_neg qb]
      exact Or.inr (key (Or.inr qb))
  · rw [if_neg qa]
    exact Or.inr (key (Or.inl qa))
theorem lp_l {σ ρ : Type} {body : σ → Option (σ ⊕ ρ)} {s s' : σ} {f : Nat} (h : body s = some (.inl s')) : lp body (f + 1) s = lp body f s' := by
  show (match body s with | none => none | some (.inl s') => lp body f s' | some (.inr r) => some r) = _
  rw [h]
theorem lp_r {σ ρ : Type} {body : σ → Option (σ ⊕ ρ)} {s : σ} {r : ρ} {f : Nat} (h : body s = some (.inr r)) : lp body (f + 1) s = some r := by
  show (match body s with | none => none | some (.inl s') => lp body f s' | some (.inr r) => some r) = _
  rw [h]
/-! the halving: result and cost -/
def hvg (c : Nat → Prop) [∀ m, Decidable (c m)] (cost : Nat → Nat) : Nat → Nat → Nat → Nat × Nat
  | 0, lo, _ => (lo, 0)
  | f + 1, lo, hi => if lo < hi then (if c ((lo + hi) / 2) then ((hvg c cost f lo ((lo + hi) / 2)).1, cost ((lo + hi) / 2) + (hvg c cost f lo ((lo + hi) / 2)).2) else ((hvg c cost f ((lo + hi) / 2 + 1) hi).1, cost ((lo + hi) / 2) + (hvg c cost f ((lo + hi) / 2 + 1) hi).2)) else (lo, 0)
theorem hvg_y {c : Nat → Prop} [∀ m, Decidable (c m)] {cost : Nat → Nat} {f lo hi : Nat} (h : lo < hi) (hc : c ((lo + hi) / 2)) : hvg c cost (f + 1) lo hi = ((hvg c cost f lo ((lo + hi) / 2)).1, cost ((lo + hi) / 2) + (hvg c cost f lo ((lo + hi) / 2)).2) := by
  show (if lo < hi then _ else _) = _
  rw [if_pos h, if_pos hc]
theorem hvg_n {c : Nat → Prop} [∀ m, Decidable (c m)] {cost : Nat → Nat} {f lo hi : Nat} (h : lo < hi) (hc : ¬ c ((lo + hi) / 2)) : hvg c cost (f + 1) lo hi = ((hvg c cost f ((lo + hi) / 2 + 1) hi).1, cost ((lo + hi) / 2) + (hvg c cost f ((lo + hi) / 2 + 1) hi).2) := by
  show (if lo < hi then _ else _) = _
  rw [if_pos h, if_neg hc]
theorem m_hv {F K W r T p : Nat} {c : Int32} {u : rg_U} (ha : act u K r) (hT : T ≤ Tr u r) (hT3 : T ≤ 3000) (hp : p < 40) (hF : 10000 < F) : ∀ (f lo hi x : Nat) (v : rg_U), coreEq (cS u r (nI x)) v → okM v K W → hi ≤ T → hi - lo ≤ f → lo ≤ hi → ∀ G, f < G → ∃ w, lp (fun (s : Int32 × Int32 × rg_U) => g_X10_lastOf_l35 F (nI p) (nI r) c s.1 s.2.1 s.2.2) G (nI lo, nI hi, v) = some (nI (hvg (fun m => (rpm u r m).1 (80 + p) = c) (costM u r) f lo hi).1, w) ∧ coreEq (cS u r (nI (x + (hvg (fun m => (rpm u r m).1 (80 + p) = c) (costM u r) f lo hi).2))) w ∧ okM w K W
  | f, lo, hi, x, v, hv, hok, h1, h2, h3, G, hG => by
    match G, hG with
    | 0, hG => omega
    | G + 1, hG =>
    by_cases q : lo < hi
    · match f, h2, hG with
      | 0, h2, hG => omega
      | f + 1, h2, hG =>
        obtain ⟨w, e1, e2, e3, e4⟩ := rep_more (t := (lo + hi) / 2) hv hok ha (by omega) hF
        have hb : g_X10_lastOf_l35 F (nI p) (nI r) c (nI lo) (nI hi) v = if (rpm u r ((lo + hi) / 2)).1 (80 + p) = c then some (.inl (nI lo, nI ((lo + hi) / 2), w)) else some (.inl (nI ((lo + hi) / 2 + 1), nI hi, w)) := by
          unfold g_X10_lastOf_l35 g_X10_lastOf_j85
          rw [if_neg (nI_ge q (by omega)), nI_add, show nI (lo + hi) / 2 = nI ((lo + hi) / 2) from pk_div (d := 2) (by omega) (by decide) (by decide), e1, ob_i, c80, ck_t (inb_nI (by omega) (by decide)), rA_nI (by omega), e4, nI_1]
        by_cases z : (rpm u r ((lo + hi) / 2)).1 (80 + p) = c
        · rw [if_pos z] at hb
          rw [lp_l (body := fun (s : Int32 × Int32 × rg_U) => g_X10_lastOf_l35 F (nI p) (nI r) c s.1 s.2.1 s.2.2) (s := (nI lo, nI hi, v)) hb, hvg_y (c := fun m => (rpm u r m).1 (80 + p) = c) q z]
          obtain ⟨w', g1, g2, g3⟩ := m_hv (c := c) ha hT hT3 hp hF f lo ((lo + hi) / 2) (x + costM u r ((lo + hi) / 2)) w e2 e3 (by omega) (by omega) (by omega) G (by omega)
          refine ⟨w', g1, ?_, g3⟩
          dsimp only
          rw [← Nat.add_assoc]
          exact g2
        · rw [if_neg z] at hb
          rw [lp_l (body := fun (s : Int32 × Int32 × rg_U) => g_X10_lastOf_l35 F (nI p) (nI r) c s.1 s.2.1 s.2.2) (s := (nI lo, nI hi, v)) hb, hvg_n (c := fun m => (rpm u r m).1 (80 + p) = c) q z]
          obtain ⟨w', g1, g2, g3⟩ := m_hv (c := c) ha hT hT3 hp hF f ((lo + hi) / 2 + 1) hi (x + costM u r ((lo + hi) / 2)) w e2 e3 (by omega) (by omega) (by omega) G (by omega)
          refine ⟨w', g1, ?_, g3⟩
          dsimp only
          rw [← Nat.add_assoc]
          exact g2
    · have hb : g_X10_lastOf_l35 F (nI p) (nI r) c (nI lo) (nI hi) v = some (.inr (nI lo, v)) := by
        unfold g_X10_lastOf_l35
        rw [if_pos (nI_le (by omega) (by omega))]
      have e : hvg (fun m => (rpm u r m).1 (80 + p) = c) (costM u r) f lo hi = (lo, 0) := by
        cases f with
        | zero => rfl
        | succ f => exact if_neg q
      rw [lp_r (body := fun (s : Int32 × Int32 × rg_U) => g_X10_lastOf_l35 F (nI p) (nI r) c s.1 s.2.1 s.2.2) (s := (nI lo, nI hi, v)) hb, e]
      exact ⟨v, rfl, hv, hok⟩
end W_27
section W_28
-- 97n.read
/-! last, watched, changed, when of the reference -/
def laA (u : rg_U) (r t p : Nat) : Int32 := if (rpm u r t).1 (80 + p) = 0 then -1 else nI (hvg (fun m => (rpm u r m).1 (80 + p) = (rpm u r t).1 (80 + p)) (costM u r) t 0 t).1
def laC (u : rg_U) (r t p : Nat) : Nat := costM u r t + (if (rpm u r t).1 (80 + p) = 0 then 0 else (hvg (fun m => (rpm u r m).1 (80 + p) = (rpm u r t).1 (80 + p)) (costM u r) t 0 t).2)
theorem aR_v {u v : rg_U} {q : Nat} {x : Int32} (h : coreEq (cS u q x) v) : aR v = aR u := (eq_c (r := 0) h).2.2.2.1
theorem m_lastOf {F K W r t p x : Nat} {u v : rg_U} (hv : coreEq (cS u r (nI x)) v) (hok : okM v K W) (ha : act u K r) (hr : aR u = r) (ht : t ≤ Tr u r) (ht3 : t ≤ 3000) (hp : p < 40) (hF : 10000 < F) : ∃ w, g_X10_lastOf F (nI t) (nI p) v = some (laA u r t p, w) ∧ coreEq (cS u r (nI (x + laC u r t p))) w ∧ okM w K W := by
  unfold g_X10_lastOf
  rw [m_ask hok.1, ob_i, aR_v hv, hr]
  obtain ⟨w, e1, e2, e3, e4⟩ := rep_more (t := t) hv hok ha ht hF
  rw [e1, ob_i, c80, ck_t (inb_nI (by omega) (by decide)), rA_nI (by omega), e4]
  unfold laA laC
  by_cases q : (rpm u r t).1 (80 + p) = 0
  · rw [if_pos q, if_pos q, if_pos q]
    exact ⟨w, rfl, e2, e3⟩
  · rw [if_neg q, if_neg q, if_neg q]
    obtain ⟨w', g1, g2, g3⟩ := m_hv (c := (rpm u r t).1 (80 + p)) (T := t) ha ht ht3 hp hF t 0 t (x + costM u r t) w e2 e3 (Nat.le_refl _) (by omega) (by omega) F (by omega)
    rw [show nI 0 = (0 : Int32) from rfl] at g1
    rw [g1, ob_i]
    exact ⟨w', rfl, by rw [← Nat.add_assoc]; exact g2, g3⟩
theorem Tr3 {u : rg_U} {K W r : Nat} (h : coreM u K W) (ha : act u K r) : Tr u r ≤ 3000 := (h.2.2.2.2.1 r ha).2.2.2.2.2.2.1.1.2.2.2.1
theorem m_last {F K W : Nat} {x y : Int32} {u : rg_U} (h : okM u K W) (hF : 10000 < F) : (¬ (isTm u x ∧ ¬ g_X10_isPlace y = 0) ∧ g_X10_last F x y u = some (-2, sF u 0 35 0) ∧ okM (sF u 0 35 0) K W) ∨ ∃ t p u', act u K (aR u) ∧ u.2.1 5 (aR u) = 1 ∧ t ≤ Tr u (aR u) ∧ x = nI t ∧ p < 40 ∧ y = nI p ∧ g_X10_last F x y u = some (laA u (aR u) t p, u') ∧ okM u' K W ∧ coreEq (cS (sF u 0 35 0) (aR u) (nI (laC u (aR u) t p))) u' := by
  have h0 : okM (sF u 0 35 0) K W := okM_34 (by omega) h
  unfold g_X10_last
  rw [lt1_i]
  rcases m_time (F := F) (x := x) h0.1 with ⟨q1, q2⟩ | ⟨t, q1, q2, q3, q4, rfl⟩
  · rw [q1, ob_i, if_pos rfl]
    exact Or.inl ⟨fun w => q2 w.1, rfl, h0⟩
  rw [q1, ob_i, if_neg one_n0]
  by_cases qp : g_X10_isPlace y = 0
  · rw [if_pos qp]; exact Or.inl ⟨fun w => w.2 qp, rfl, h0⟩
  rw [if_neg qp]
  obtain ⟨p, hp, rfl⟩ := isPl qp
  have hT3 : Tr u (aR u) ≤ 3000 := Tr3 h.1 q2
  obtain ⟨w, e1, e2, e3⟩ := m_lastOf (u := sF u 0 35 0) (x := 0) (r := aR u) (t := t) (p := p) rep_0 h0 q2 rfl q4 (Nat.le_trans q4 hT3) hp hF
  rw [Nat.zero_add] at e2
  rw [e1, ob_i]
  exact Or.inr ⟨t, p, w, q2, q3, q4, rfl, hp, rfl, rfl, e3, e2⟩
/-- the latest of the last changes of watched places below p, and what it costs -/
def wtA (u : rg_U) (r t : Nat) : Nat → Int32 × Nat
  | 0 => (-1, 0)
  | p + 1 => if u.2.1 30 p = 0 then wtA u r t p else (imax (wtA u r t p).1 (laA u r t p), (wtA u r t p).2 + laC u r t p)
theorem m_watched {F K W : Nat} {x : Int32} {u : rg_U} (h : okM u K W) (hF : 10000 < F) : (¬ (¬ x < 1 ∧ isTm u x) ∧ g_X10_watched F x u = some (-2, sF u 0 35 0) ∧ okM (sF u 0 35 0) K W) ∨ ∃ t u', act u K (aR u) ∧ u.2.1 5 (aR u) = 1 ∧ 1 ≤ t ∧ t ≤ Tr u (aR u) ∧ x = nI t ∧ g_X10_watched F x u = some ((wtA u (aR u) (t - 1) 40).1, u') ∧ okM u' K W ∧ coreEq (cS (sF u 0 35 0) (aR u) (nI (wtA u (aR u) (t - 1) 40).2)) u' := by
  have h0 : okM (sF u 0 35 0) K W := okM_34 (by omega) h
  unfold g_X10_watched
  rw [lt1_i]
  by_cases qx : x < 1
  · rw [if_pos qx]; exact Or.inl ⟨fun w => w.1 qx, rfl, h0⟩
  rw [if_neg qx]
  rcases m_time (F := F) (x := x) h0.1 with ⟨q1, q2⟩ | ⟨t, q1, q2, q3, q4, rfl⟩
  · rw [q1, ob_i, if_pos rfl]
    exact Or.inl ⟨fun w => q2 w.2, rfl, h0⟩
  rw [q1, ob_i, if_neg one_n0]
  have hT3 : Tr u (aR u) ≤ 3000 := Tr3 h.1 q2
  have q4' : t ≤ Tr u (aR u) := q4
  have ht1 : 1 ≤ t := by
    rcases Nat.eq_zero_or_pos t with z | z
    · subst z; exact absurd (by decide) qx
    · exact z
  obtain ⟨w, e, hw⟩ : ∃ w, lp (fun (s : Int32 × Int32 × rg_U) => g_X10_watched_l25 F (nI t) s.1 s.2.1 s.2.2) F ((-1 : Int32), (0 : Int32), sF u 0 35 0) = some ((wtA u (aR u) (t - 1) 40).1, w) ∧ coreEq (cS (sF u 0 35 0) (aR u) (nI (wtA u (aR u) (t - 1) 40).2)) w ∧ okM w K W := by
    have key := lp_ex (body := fun (s : Int32 × Int32 × rg_U) => g_X10_watched_l25 F (nI t) s.1 s.2.1 s.2.2) (P := fun k s => ∃ m, k + m = 40 ∧ s.1 = (wtA u (aR u) (t - 1) m).1 ∧ s.2.1 = nI m ∧ coreEq (cS (sF u 0 35 0) (aR u) (nI (wtA u (aR u) (t - 1) m).2)) s.2.2 ∧ okM s.2.2 K W) (R := fun q => q.1 = (wtA u (aR u) (t - 1) 40).1 ∧ coreEq (cS (sF u 0 35 0) (aR u) (nI (wtA u (aR u) (t - 1) 40).2)) q.2 ∧ okM q.2 K W) (by
      rintro k ⟨s1, s2, s3⟩ ⟨m, hm, b1, b2, b3, b4⟩
      dsimp only at b1 b2 b3 b4
      subst b1
      subst b2
      unfold g_X10_watched_l25 g_X10_watched_j53
      dsimp only
      by_cases q : m = 40
      · right
        subst q
        exact ⟨_, if_pos (by decide), rfl, b3, b4⟩
      · left
        have e30 : s3.2.1 30 m = u.2.1 30 m := by rw [b3.1 30 (by decide), cS_n (by decide)]; rfl
        rw [if_neg (show ¬ (40 : Int32) ≤ nI m from nI_ge (a := m) (b := 40) (by omega) (by decide)), ck_t (inb_nI (by omega) (by decide)), rA_nI (by omega), e30, show nI t - 1 = nI (t - 1) from nI_sub (a := t) (b := 1) ht1, nI_1]
        by_cases z : u.2.1 30 m = 0
        · rw [if_pos z]
          have ew : wtA u (aR u) (t - 1) (m + 1) = wtA u (aR u) (t - 1) m := if_pos z
          exact ⟨_, k - 1, rfl, by omega, m + 1, by omega, by rw [ew], rfl, by rw [ew]; exact b3, b4⟩
        · rw [if_neg z]
          have ew : wtA u (aR u) (t - 1) (m + 1) = (imax (wtA u (aR u) (t - 1) m).1 (laA u (aR u) (t - 1) m), (wtA u (aR u) (t - 1) m).2 + laC u (aR u) (t - 1) m) := if_neg z
          obtain ⟨w, g1, g2, g3⟩ := m_lastOf (u := sF u 0 35 0) (r := aR u) (t := t - 1) (p := m) b3 b4 q2 rfl (by show t - 1 ≤ Tr u (aR u); omega) (by omega) (by omega) hF
          rw [g1, ob_i]
          exact ⟨_, k - 1, rfl, by omega, m + 1, by omega, by rw [ew]; rfl, rfl, by rw [ew]; exact g2, g3⟩) F 40 ((-1 : Int32), (0 : Int32), sF u 0 35 0) (by omega) ⟨0, rfl, rfl, rfl, rep_0, h0⟩
    obtain ⟨⟨c1, c2⟩, d1, d2, d3, d4⟩ := key
    dsimp only at d2 d3 d4
    subst d2
    exact ⟨c2, d1, d3, d4⟩
  rw [e, ob_i]
  exact Or.inr ⟨t, w, q2, q3, ht1, q4, rfl, rfl, hw.2, hw.1⟩
/-! when: what lies between two times -/
def hdA (f : Nat → Prop) [∀ m, Decidable (f m)] (a : Nat) : Nat → Int32
  | 0 => -1
  | k + 1 => if f (a + k) then nI (a + k) else hdA f a k
theorem lay_more {F K W r t : Nat} {v : rg_U} (hok : okM v K W) (ha : act v K r) (ht : t ≤ Tr v r) (hF : 10000 < F) : ∃ w, g_X10_lays F (nI r) (nI t) v = some w ∧ coreEq v w ∧ okM w K W ∧ w.2.1 31 = (rpm v r t).1 := by
  obtain ⟨a, b, c, e⟩ := lay_all hok.1 hok.2 ha ht hF
  exact ⟨_, e, coreEq_sX, ⟨core_eq coreEq_sX hok.1, simM_lay hok.1 hok.2 ha ht⟩, sX_A⟩
theorem eq_c0 {u v : rg_U} {r : Nat} (h : coreEq u v) : (∀ t, rpm v r t = rpm u r t) ∧ (∀ t, costM v r t = costM u r t) ∧ Tr v r = Tr u r ∧ v.2.1 5 = u.2.1 5 := by
  refine ⟨fun t => rpm_c h.1, fun t => ?_, Tr_c h.1, h.1 5 (by decide)⟩
  unfold costM Hm Ur Tr
  rw [h.1 20 (by decide), h.1 21 (by decide), h.1 23 (by decide)]
theorem act_0 {u v : rg_U} {K r : Nat} (h : coreEq u v) (ha : act u K r) : act v K r := (act_c h.1).mpr ha
theorem beg_more {F K W r : Nat} {v : rg_U} (hok : okM v K W) (ha : act v K r) (hF : 10000 < F) : ∃ w, g_X10_simBegins F (nI r) v = some w ∧ coreEq v w ∧ okM w K W ∧ w.2.1 31 = (rpm v r 0).1 ∧ w.1 41 = nI r ∧ w.1 42 = nI (rpm v r 0).2 := by
  have hro := hok.1.2.2.2.2.1 r ha
  obtain ⟨a, b, c, e⟩ := m_simBegins (act5 hok.1.1.2.1 ha) hro.1 hro.2.2.2.2.2.2.1.1 hok.2.2.2.2.1 hF
  exact ⟨_, e, coreEq_sX, ⟨core_eq coreEq_sX hok.1, simM_lay hok.1 hok.2 ha (Nat.zero_le _)⟩, sX_A, sX_41, sX_42⟩
theorem m_hadIn {F K W r a b p : Nat} {s n : Int32} {v : rg_U} (hok : okM v K W) (ha : act v K r) (hab : a ≤ b) (hb : b ≤ Tr v r) (hp : p < 40) (hF : 10000 < F) : ∃ w, g_X10_hadIn F (nI r) (nI a) (nI b) (nI p) s n v = some (hdA (fun m => (rpm v r m).1 p = s ∧ (rpm v r m).1 (40 + p) = n) a (b - a + 1), w) ∧ coreEq v w ∧ okM w K W := by
  have hT3 := Tr3 hok.1 ha
  unfold g_X10_hadIn
  obtain ⟨w1, e1, c1, k1, -⟩ := beg_more hok ha hF
  rw [e1, ob_i]
  obtain ⟨w2, e2, c2, k2, -⟩ := lay_more (t := a) k1 (act_0 c1 ha) (by rw [(eq_c0 (r := r) c1).2.2.1]; omega) hF
  rw [e2, ob_i]
  have key := lp_ex (body := fun (q : Int32 × Int32 × rg_U) => g_X10_hadIn_l17 F (nI r) (nI b) (nI p) s n q.1 q.2.1 q.2.2) (P := fun k q => ∃ m, k + m = b - a + 1 ∧ q.1 = hdA (fun m => (rpm v r m).1 p = s ∧ (rpm v r m).1 (40 + p) = n) a m ∧ q.2.1 = nI (a + m) ∧ coreEq v q.2.2 ∧ okM q.2.2 K W) (R := fun q => q.1 = hdA (fun m => (rpm v r m).1 p = s ∧ (rpm v r m).1 (40 + p) = n) a (b - a + 1) ∧ coreEq v q.2 ∧ okM q.2 K W) (by
    rintro k ⟨s1, s2, s3⟩ ⟨m, hm, b1, b2, b3, b4⟩
    dsimp only at b1 b2 b3 b4
    subst b1
    subst b2
    unfold g_X10_hadIn_l17 g_X10_hadIn_j63
    dsimp only
    by_cases q : m = b - a + 1
    · right
      exact ⟨_, if_pos (nI_lt (by omega) (by omega)), by rw [q], b3, b4⟩
    · left
      obtain ⟨w, g1, g2, g3, g4⟩ := lay_more (t := a + m) b4 (act_0 b3 ha) (by rw [(eq_c0 (r := r) b3).2.2.1]; omega) hF
      rw [(eq_c0 (r := r) b3).1] at g4
      rw [if_neg (nI_nlt (by omega) (by omega)), g1, ob_i, c0, c40, ck_t (inb_nI (by omega) (by decide)), ck_t (inb_nI (by omega) (by decide)), rA_nI (by omega), rA_nI (by omega), g4, nI_1]
      have c3 := coreEq_t b3 g2
      by_cases z1 : (rpm v r (a + m)).1 p = s
      · rw [if_pos z1]
        by_cases z2 : (rpm v r (a + m)).1 (40 + p) = n
        · rw [if_pos z2]
          exact ⟨_, k - 1, rfl, by omega, m + 1, by omega, (if_pos ⟨z1, z2⟩).symm, rfl, c3, g3⟩
        · rw [if_neg z2]
          exact ⟨_, k - 1, rfl, by omega, m + 1, by omega, (if_neg (fun w => z2 w.2)).symm, rfl, c3, g3⟩
      · rw [if_neg z1]
        exact ⟨_, k - 1, rfl, by omega, m + 1, by omega, (if_neg (fun w => z1 w.1)).symm, rfl, c3, g3⟩) F (b - a + 1) ((-1 : Int32), nI a, w2) (by omega) ⟨0, by omega, rfl, rfl, coreEq_t c1 c2, k2⟩
  obtain ⟨⟨d0, d1⟩, d2, d3, d4, d5⟩ := key
  dsimp only at d3 d4 d5
  subst d3
  rw [d2, ob_i]
  exact ⟨d1, rfl, d4, d5⟩
end W_28
section W_29
-- 97o.read
/-! when, changed of the reference -/
def whA (u : rg_U) (r p : Nat) (s n : Int32) : Nat → Nat → Int32 × Nat
  | 0, _ => (-1, 0)
  | f + 1, b =>
    if hdA (fun m => (rpm u r m).1 p = s ∧ (rpm u r m).1 (40 + p) = n) (hk (Hm u r) (b / Ur u r) * Ur u r) (b - hk (Hm u r) (b / Ur u r) * Ur u r + 1) = -1 then
      (if hk (Hm u r) (b / Ur u r) * Ur u r = 0 then (-1, b) else ((whA u r p s n f (hk (Hm u r) (b / Ur u r) * Ur u r - 1)).1, (b - hk (Hm u r) (b / Ur u r) * Ur u r) + (whA u r p s n f (hk (Hm u r) (b / Ur u r) * Ur u r - 1)).2))
    else (hdA (fun m => (rpm u r m).1 p = s ∧ (rpm u r m).1 (40 + p) = n) (hk (Hm u r) (b / Ur u r) * Ur u r) (b - hk (Hm u r) (b / Ur u r) * Ur u r + 1), b - hk (Hm u r) (b / Ur u r) * Ur u r)
theorem hv_c {u v : rg_U} {r q : Nat} {x : Int32} (h : coreEq (cS u q x) v) : Hm v r = Hm u r ∧ Ur v r = Ur u r := by
  unfold Hm Ur
  rw [h.1 20 (by decide), h.1 23 (by decide), cS_n (by decide), cS_n (by decide)]
  exact ⟨rfl, rfl⟩
theorem m_whenl {F K W r p : Nat} {s n : Int32} {u : rg_U} (ha : act u K r) (hro : runOK u r) (hp : p < 40) (hF : 10000 < F) : ∀ (f b x : Nat) (v : rg_U), coreEq (cS u r (nI x)) v → okM v K W → b ≤ Tr u r → b < f → ∀ G, f + 1 < G → ∃ q w, lp (fun (s' : Int32 × rg_U) => g_X10_when_l41 F (nI p) s n (nI r) s'.1 s'.2) G (nI b, v) = some q ∧ os q (fun r29 => some (r29.1, r29.2)) (fun r30 => some ((-1 : Int32), r30)) = some ((whA u r p s n f b).1, w) ∧ coreEq (cS u r (nI (x + (whA u r p s n f b).2))) w ∧ okM w K W
  | 0, b, x, v, hv, hok, h1, h2, G, hG => by omega
  | f + 1, b, x, v, hv, hok, h1, h2, G, hG => by
    have hT3 := hro.2.2.2.2.2.2.1.1.2.2.2.1
    match G, hG with
    | 0, hG => omega
    | G + 1, hG =>
    have hav := act_v hv ha
    have hrov := hok.1.2.2.2.2.1 r hav
    have hr5 := act5 hok.1.1.2.1 hav
    obtain ⟨eH, eU⟩ := hv_c (r := r) hv
    have h0 : ¬ Hm v r 0 = 0 := by rw [eH, hro.2.2.2.2.2.2.2.1.1]; decide
    have hle : hk (Hm u r) (b / Ur u r) * Ur u r ≤ b := Nat.le_trans (Nat.mul_le_mul_right _ (hk_le _ _)) (Nat.div_mul_le_self b (Ur u r))
    have hby := m_heldBy (F := F) (t := b) hr5 h0 hrov.2.2.1 hrov.2.2.2.2.2.1.1 hrov.2.2.2.2.2.1.2.1 (by omega) hF
    rw [eH, eU] at hby
    show ∃ q w, _ = some q ∧ os q _ _ = some ((if hdA (fun m => (rpm u r m).1 p = s ∧ (rpm u r m).1 (40 + p) = n) (hk (Hm u r) (b / Ur u r) * Ur u r) (b - hk (Hm u r) (b / Ur u r) * Ur u r + 1) = -1 then
      (if hk (Hm u r) (b / Ur u r) * Ur u r = 0 then (-1, b) else ((whA u r p s n f (hk (Hm u r) (b / Ur u r) * Ur u r - 1)).1, (b - hk (Hm u r) (b / Ur u r) * Ur u r) + (whA u r p s n f (hk (Hm u r) (b / Ur u r) * Ur u r - 1)).2))
    else (hdA (fun m => (rpm u r m).1 p = s ∧ (rpm u r m).1 (40 + p) = n) (hk (Hm u r) (b / Ur u r) * Ur u r) (b - hk (Hm u r) (b / Ur u r) * Ur u r + 1), b - hk (Hm u r) (b / Ur u r) * Ur u r)).1, w) ∧ coreEq (cS u r (nI (x + (if hdA (fun m => (rpm u r m).1 p = s ∧ (rpm u r m).1 (40 + p) = n) (hk (Hm u r) (b / Ur u r) * Ur u r) (b - hk (Hm u r) (b / Ur u r) * Ur u r + 1) = -1 then
      (if hk (Hm u r) (b / Ur u r) * Ur u r = 0 then (-1, b) else ((whA u r p s n f (hk (Hm u r) (b / Ur u r) * Ur u r - 1)).1, (b - hk (Hm u r) (b / Ur u r) * Ur u r) + (whA u r p s n f (hk (Hm u r) (b / Ur u r) * Ur u r - 1)).2))
    else (hdA (fun m => (rpm u r m).1 p = s ∧ (rpm u r m).1 (40 + p) = n) (hk (Hm u r) (b / Ur u r) * Ur u r) (b - hk (Hm u r) (b / Ur u r) * Ur u r + 1), b - hk (Hm u r) (b / Ur u r) * Ur u r)).2))) w ∧ _
    generalize hk (Hm u r) (b / Ur u r) * Ur u r = a at *
    have hcv : coreEq (cS u r (nI (x + (b - a)))) (cS v r (nI (b - a))) := by
      have := cS_core (r := r) (x := nI (b - a)) hv
      rwa [cS_add, nI_add] at this
    have hokc : okM (cS v r (nI (b - a))) K W := ⟨core_cS hok.1, simM_cS hok.2⟩
    obtain ⟨e1, -, e3, -⟩ := eq_c (r := r) hcv
    obtain ⟨w, g1, g2, g3⟩ := m_hadIn (F := F) (a := a) (b := b) (p := p) (s := s) (n := n) hokc (act_v hcv ha) hle (by rw [e3]; exact h1) hp hF
    simp only [e1] at g1
    have hb : g_X10_when_l41 F (nI p) s n (nI r) (nI b) v = if hdA (fun m => (rpm u r m).1 p = s ∧ (rpm u r m).1 (40 + p) = n) a (b - a + 1) = -1 then some (.inl (nI a - 1, w)) else some (.inr (Sum.inl (hdA (fun m => (rpm u r m).1 p = s ∧ (rpm u r m).1 (40 + p) = n) a (b - a + 1), w))) := by
      unfold g_X10_when_l41
      rw [if_neg (nI_pos (by omega)), hby, ob_i, nI_sub hle, m_counts hr5, ob_i, g1, ob_i]
    have hcw := coreEq_t hcv g2
    by_cases z : hdA (fun m => (rpm u r m).1 p = s ∧ (rpm u r m).1 (40 + p) = n) a (b - a + 1) = -1
    · rw [if_pos z] at hb
      rw [lp_l (body := fun (s' : Int32 × rg_U) => g_X10_when_l41 F (nI p) s n (nI r) s'.1 s'.2) (s := (nI b, v)) hb, if_pos z]
      by_cases y : a = 0
      · rw [if_pos y]
        match G, hG with
        | 0, hG => omega
        | G + 1, hG =>
        have hb2 : g_X10_when_l41 F (nI p) s n (nI r) (nI a - 1) w = some (.inr (Sum.inr w)) := by
          unfold g_X10_when_l41
          rw [y, if_pos (by decide)]
        rw [lp_r (body := fun (s' : Int32 × rg_U) => g_X10_when_l41 F (nI p) s n (nI r) s'.1 s'.2) (s := (nI a - 1, w)) hb2]
        refine ⟨_, w, rfl, rfl, ?_, g3⟩
        dsimp only
        rw [y, Nat.sub_zero] at hcw
        exact hcw
      · rw [if_neg y, show nI a - 1 = nI (a - 1) from nI_sub (a := a) (b := 1) (by omega)]
        obtain ⟨q, w', k1, k2, k3, k4⟩ := m_whenl ha hro hp hF f (a - 1) (x + (b - a)) w hcw g3 (by omega) (by omega) G (by omega)
        refine ⟨q, w', k1, k2, ?_, k4⟩
        dsimp only
        rw [← Nat.add_assoc]
        exact k3
    · rw [if_neg z] at hb
      rw [lp_r (body := fun (s' : Int32 × rg_U) => g_X10_when_l41 F (nI p) s n (nI r) s'.1 s'.2) (s := (nI b, v)) hb, if_neg z]
      exact ⟨_, w, rfl, rfl, hcw, g3⟩
theorem whA_s {u : rg_U} {r p : Nat} {s n : Int32} : ∀ f b, whA (sF u 0 35 0) r p s n f b = whA u r p s n f b
  | 0, b => rfl
  | f + 1, b => by
    unfold whA
    rw [whA_s f]
    rfl
theorem m_when {F K W : Nat} {x y s n : Int32} {u : rg_U} (h : okM u K W) (hF : 10000 < F) : (¬ (isTm u x ∧ ¬ g_X10_isPlace y = 0 ∧ ¬ g_X10_isValue s n = 0) ∧ g_X10_when F x y s n u = some (-2, sF u 0 35 0) ∧ okM (sF u 0 35 0) K W) ∨ ∃ t p u', act u K (aR u) ∧ u.2.1 5 (aR u) = 1 ∧ t ≤ Tr u (aR u) ∧ x = nI t ∧ p < 40 ∧ y = nI p ∧ ¬ g_X10_isValue s n = 0 ∧ g_X10_when F x y s n u = some ((whA u (aR u) p s n 3001 t).1, u') ∧ okM u' K W ∧ coreEq (cS (sF u 0 35 0) (aR u) (nI (whA u (aR u) p s n 3001 t).2)) u' := by
  have h0 : okM (sF u 0 35 0) K W := okM_34 (by omega) h
  unfold g_X10_when
  rw [lt1_i]
  rcases m_time (F := F) (x := x) h0.1 with ⟨q1, q2⟩ | ⟨t, q1, q2, q3, q4, rfl⟩
  · rw [q1, ob_i, if_pos rfl]
    exact Or.inl ⟨fun w => q2 w.1, rfl, h0⟩
  rw [q1, ob_i, if_neg one_n0]
  by_cases qp : g_X10_isPlace y = 0
  · rw [if_pos qp]; exact Or.inl ⟨fun w => w.2.1 qp, rfl, h0⟩
  rw [if_neg qp]
  by_cases qv : g_X10_isValue s n = 0
  · rw [if_pos qv]; exact Or.inl ⟨fun w => w.2.2 qv, rfl, h0⟩
  rw [if_neg qv, m_ask h0.1, ob_i]
  obtain ⟨p, hp, rfl⟩ := isPl qp
  have hT3 : Tr u (aR u) ≤ 3000 := Tr3 h.1 q2
  have q4' : t ≤ Tr u (aR u) := q4
  obtain ⟨q, w, e1, e2, e3, e4⟩ := m_whenl (F := F) (K := K) (W := W) (r := aR u) (p := p) (s := s) (n := n) (u := sF u 0 35 0) q2 (h0.1.2.2.2.2.1 (aR u) q2) hp hF 3001 t 0 (sF u 0 35 0) rep_0 h0 q4' (by omega) F (by omega)
  rw [Nat.zero_add] at e3
  rw [show lp (fun (s' : Int32 × rg_U) => g_X10_when_l41 F (nI p) s n (nI (aR (sF u 0 35 0))) s'.1 s'.2) F (nI t, sF u 0 35 0) = some q from e1, ob_i, e2]
  rw [whA_s] at e3 ⊢
  exact Or.inr ⟨t, p, w, q2, q3, q4, rfl, hp, rfl, qv, rfl, e4, e3⟩
theorem okM_scr {u v : rg_U} {K W : Nat} (h : okM u K W) (hc : coreEq u v) (h31 : v.2.1 31 = u.2.1 31) (h37 : v.2.1 37 = u.2.1 37) (h41 : v.1 41 = u.1 41) (h42 : v.1 42 = u.1 42) : okM v K W := ⟨core_eq hc h.1, simM_c (u := u) (fun j _ h1 _ => hc.1 j h1) h31 h37 h41 h42 h.2⟩
/-- bits of the places whose changes are others in two rows -/
def chB (m m' : Row) (a : Nat) : Nat → Int32
  | 0 => 0
  | k + 1 => chB m m' a k ||| (if m' (80 + (a + k)) = m (80 + (a + k)) then 0 else dx_shl 1 (nI k))
theorem m_chl {F a n : Nat} {m : Row} {u : rg_U} (hm : ∀ i, i < 40 → u.2.1 32 i = m (80 + i)) (han : a + n ≤ 40) (hF : 10000 < F) : lp (fun (s : Int32 × Int32) => g_X10_changed_l119 F (nI a) (nI n) u s.1 s.2) F ((0 : Int32), (0 : Int32)) = some (chB m (u.2.1 31) a n) := by
  have h := lp_up (body := fun (s : Int32 × Int32) => g_X10_changed_l119 F (nI a) (nI n) u s.1 s.2) (fun k => (chB m (u.2.1 31) a k, nI k)) n (chB m (u.2.1 31) a n) (fun k hk => by
    show g_X10_changed_l119 F (nI a) (nI n) u (chB m (u.2.1 31) a k) (nI k) = _
    unfold g_X10_changed_l119 g_X10_changed_j162
    rw [if_neg (nI_ge hk (by omega)), c80, nI_add, nI_add, ck_t (inb_nI (by omega) (by decide)), ck_t (inb_nI (by omega) (by decide)), rA_nI (by omega), rA_nI (by omega), hm _ (by omega), nI_1, show 80 + a + k = 80 + (a + k) by omega]
    show _ = some (Sum.inl (chB m (u.2.1 31) a k ||| (if u.2.1 31 (80 + (a + k)) = m (80 + (a + k)) then 0 else dx_shl 1 (nI k)), nI (k + 1)))
    by_cases z : u.2.1 31 (80 + (a + k)) = m (80 + (a + k))
    · rw [if_pos z, if_pos z]
    · rw [if_neg z, if_neg z]) (by
    show g_X10_changed_l119 F (nI a) (nI n) u _ (nI n) = _
    unfold g_X10_changed_l119
    rw [if_pos (nI_le (Nat.le_refl _) (by omega))]) F 0 (Nat.zero_le _) (by omega)
  exact h
theorem m_ch1 {F : Nat} {a b c : Int32} {u : rg_U} (hF : 10000 < F) : ∃ v, lp (fun (s : Int32 × rg_U) => g_X10_changed_l50 F a b c s.1 s.2) F ((0 : Int32), u) = some v ∧ v.1 = u.1 ∧ ∀ j i, v.2.1 j i = if j = 32 ∧ i < 40 then u.2.1 31 (80 + i) else u.2.1 j i := by
  refine lp_ex (body := fun (s : Int32 × rg_U) => g_X10_changed_l50 F a b c s.1 s.2) (P := fun k s => ∃ m, k + m = 40 ∧ s.1 = nI m ∧ s.2.1 = u.1 ∧ ∀ j i, s.2.2.1 j i = if j = 32 ∧ i < m then u.2.1 31 (80 + i) else u.2.1 j i) (R := fun v => v.1 = u.1 ∧ ∀ j i, v.2.1 j i = if j = 32 ∧ i < 40 then u.2.1 31 (80 + i) else u.2.1 j i) ?_ F 40 ((0 : Int32), u) (by omega) ⟨0, rfl, rfl, rfl, fun j i => by rw [if_neg (by omega)]⟩
  rintro k ⟨s1, s2⟩ ⟨m, hm, e1, e2, hv⟩
  dsimp only at e1 e2 hv
  subst e1
  unfold g_X10_changed_l50
  dsimp only
  by_cases q : m = 40
  · right
    subst q
    exact ⟨s2, if_pos (by decide), e2, hv⟩
  · left
    rw [if_neg (show ¬ (40 : Int32) ≤ nI m from nI_ge (a := m) (b := 40) (by omega) (by decide)), c80, ck_t (inb_nI (by omega) (by decide)), ck_t (inb_nI (by omega) (by decide)), lt1_i, sA_nI (by omega), rA_nI (by omega), nI_1]
    refine ⟨_, k - 1, rfl, by omega, m + 1, by omega, rfl, e2, fun j i => ?_⟩
    rw [R_at, hv j i, hv 31 (80 + m), if_neg (show ¬ (31 = 32 ∧ 80 + m < m) by omega)]
    by_cases z : j = 32 ∧ i = m
    · rw [if_pos z, if_pos (show j = 32 ∧ i < m + 1 by omega), z.2]
    · rw [if_neg z]
      by_cases y : j = 32 ∧ i < m
      · rw [if_pos y, if_pos (show j = 32 ∧ i < m + 1 by omega)]
      · rw [if_neg y, if_neg (show ¬ (j = 32 ∧ i < m + 1) by omega)]
/-- a replay leaves the other arrays -/
theorem rep_arr {F K W r t : Nat} {u w : rg_U} (h : okM u K W) (hr : act u K r) (ht : t ≤ Tr u r) (hF : 10000 < F) (hw : g_X10_replays F (nI r) (nI t) u = some w) : ∀ j, j ≠ 25 → j ≠ 31 → w.2.1 j = u.2.1 j := by
  obtain ⟨hc, hs⟩ := h
  have hr5 := act5 hc.1.2.1 hr
  have hro := hc.2.2.2.2.1 r hr
  have hT3 := hro.2.2.2.2.2.2.1.1.2.2.2.1
  have fin : ∀ v x, v = cS u r x → g_X10_replays_j23 F (nI r) (nI t) v = some w → ∀ j, j ≠ 25 → j ≠ 31 → w.2.1 j = u.2.1 j := by
    intro v x hv hw j j1 j2
    have hcv : coreM v K W := by rw [hv]; exact core_cS hc
    have hsv : simM v K := by rw [hv]; exact simM_cS hs
    have hrv : act v K r := by rw [hv]; exact hr
    have eT : Tr v r = Tr u r := by rw [hv]; rfl
    obtain ⟨a, b, c, e⟩ := lay_all hcv hsv hrv (by rw [eT]; exact ht) hF
    unfold g_X10_replays_j23 at hw
    rw [e, ob_i] at hw
    have hw := Option.some.inj hw
    rw [← hw]
    show va_up v.2.1 31 _ j = _
    rw [pm_up_n j2, hv, cS_n j1]
  unfold g_X10_replays at hw
  rw [ck_t (inb_nI hr5 (by decide)), rA_nI (by omega), hro.2.1] at hw
  by_cases q : t = Tr u r
  · rw [if_pos (by rw [q])] at hw
    exact fin u 0 cS_0.symm hw
  · rw [if_neg (fun z => q (nI_inj (by omega) (by omega) z))] at hw
    have h0 : ¬ Hm u r 0 = 0 := by rw [hro.2.2.2.2.2.2.2.1.1]; decide
    have hle : hk (Hm u r) (t / Ur u r) * Ur u r ≤ t := Nat.le_trans (Nat.mul_le_mul_right _ (hk_le _ _)) (Nat.div_mul_le_self t (Ur u r))
    rw [m_heldBy hr5 h0 hro.2.2.1 hro.2.2.2.2.2.1.1 hro.2.2.2.2.2.1.2.1 (by omega) hF, ob_i, nI_sub hle, m_counts hr5, ob_i] at hw
    exact fin _ _ rfl hw
theorem m_changed {F K W : Nat} {x y : Int32} {u : rg_U} (h : okM u K W) (hF : 10000 < F) : (¬ (isTm u x ∧ ¬ x = u.2.1 21 (aR u) ∧ ¬ g_X10_isIn y 0 1 = 0) ∧ g_X10_changed F x y u = some (-1000001, sF u 0 35 0) ∧ okM (sF u 0 35 0) K W) ∨ ∃ t u', act u K (aR u) ∧ u.2.1 5 (aR u) = 1 ∧ t < Tr u (aR u) ∧ x = nI t ∧ ¬ g_X10_isIn y 0 1 = 0 ∧ g_X10_changed F x y u = some ((if y = 0 then chB (rpm u (aR u) t).1 (rpm u (aR u) (t + 1)).1 0 8 else chB (rpm u (aR u) t).1 (rpm u (aR u) (t + 1)).1 8 32), u') ∧ okM u' K W ∧ coreEq (cS (sF u 0 35 0) (aR u) (nI (costM u (aR u) t + costM u (aR u) (t + 1)))) u' := by
  have h0 : okM (sF u 0 35 0) K W := okM_34 (by omega) h
  unfold g_X10_changed
  rw [lt1_i, m_ask h0.1, ob_i]
  have h5 := (aR_ok h.1).1
  rcases m_time (F := F) (x := x) h0.1 with ⟨q1, q2⟩ | ⟨t, q1, q2, q3, q4, rfl⟩
  · rw [q1, ob_i, if_pos rfl]
    exact Or.inl ⟨fun w => q2 w.1, rfl, h0⟩
  rw [q1, ob_i, if_neg one_n0, show aR (sF u 0 35 0) = aR u from rfl, ck_t (inb_nI h5 (by decide)), rA_nI (by omega)]
  have hro := h.1.2.2.2.2.1 (aR u) q2
  have hT3 : Tr u (aR u) ≤ 3000 := Tr3 h.1 q2
  have q4' : t ≤ Tr u (aR u) := q4
  by_cases qt : nI t = (sF u 0 35 0).2.1 21 (aR u)
  · rw [if_pos qt]; exact Or.inl ⟨fun w => w.2.1 qt, rfl, h0⟩
  rw [if_neg qt]
  have htT : t < Tr u (aR u) := by
    rcases Nat.lt_or_ge t (Tr u (aR u)) with z | z
    · exact z
    · exact absurd (by rw [show t = Tr u (aR u) by omega]; exact hro.2.1.symm) qt
  by_cases qy : g_X10_isIn y 0 1 = 0
  · rw [if_pos qy]; exact Or.inl ⟨fun w => w.2.2 qy, rfl, h0⟩
  rw [if_neg qy]
  obtain ⟨w, e1, e2, e3, e4⟩ := rep_more (u := sF u 0 35 0) (x := 0) (t := t) rep_0 h0 q2 q4 hF
  rw [Nat.zero_add] at e2
  rw [show g_X10_replays F (nI (aR u)) (nI t) (sF u 0 35 0) = some w from e1, ob_i]
  obtain ⟨v, g1, g2, g3⟩ := m_ch1 (F := F) (a := nI t) (b := y) (c := nI (aR u)) (u := w) hF
  rw [g1, ob_i]
  have hcv : coreEq w v := ⟨fun j hj => by funext i; rw [g3, if_neg (by omega)], fun k _ => by rw [g2]⟩
  have hok : okM v K W := okM_scr e3 hcv (by funext i; rw [g3, if_neg (by omega)]) (by funext i; rw [g3, if_neg (by omega)]) (by rw [g2]) (by rw [g2])
  obtain ⟨w', k1, k2, k3, k4⟩ := rep_more (u := sF u 0 35 0) (t := t + 1) (coreEq_t e2 hcv) hok q2 (show t + 1 ≤ Tr u (aR u) by omega) hF
  rw [nI_1, show g_X10_replays F (nI (aR u)) (nI (t + 1)) v = some w' from k1, ob_i]
  refine Or.inr ⟨t, w', q2, q3, htT, rfl, qy, ?_, k3, k2⟩
  have h32 : ∀ i, i < 40 → w'.2.1 32 i = (rpm u (aR u) t).1 (80 + i) := by
    intro i hi
    obtain ⟨-, -, f3, -, -, -⟩ := eq_c (r := aR u) (coreEq_t e2 hcv)
    rw [rep_arr hok (act_v (coreEq_t e2 hcv) q2) (show t + 1 ≤ Tr v (aR u) by rw [f3]; exact htT) hF k1 32 (by decide) (by decide), g3, if_pos ⟨rfl, hi⟩, e4]
    rfl
  have h31 : w'.2.1 31 = (rpm u (aR u) (t + 1)).1 := k4
  by_cases y0 : y = 0
  · rw [if_pos y0, if_pos y0]
    unfold g_X10_changed_j101 g_X10_changed_j114
    rw [if_pos y0, show lp (fun (s : Int32 × Int32) => g_X10_changed_l119 F 0 8 w' s.1 s.2) F ((0 : Int32), (0 : Int32)) = some (chB (rpm u (aR u) t).1 (w'.2.1 31) 0 8) from m_chl (a := 0) (n := 8) h32 (by decide) hF, ob_i, h31]
  · rw [if_neg y0, if_neg y0]
    unfold g_X10_changed_j101 g_X10_changed_j114
    rw [if_neg y0, show lp (fun (s : Int32 × Int32) => g_X10_changed_l119 F 8 32 w' s.1 s.2) F ((0 : Int32), (0 : Int32)) = some (chB (rpm u (aR u) t).1 (w'.2.1 31) 8 32) from m_chl (a := 8) (n := 32) h32 (by decide) hF, ob_i, h31]
end W_29
