theorem m_back {F K W : Nat} {x : Int32} {u : rg_U} (h : okM u K W) (hF : 10000 < F) : (¬ (u.2.1 5 4 = 1 ∧ ∃ t, t < Tr u 4 ∧ x = nI t) ∧ g_X10_back F x u = some (-1, sF u 0 35 0) ∧ okM (sF u 0 35 0) K W) ∨ ∃ t u' W' C', u.2.1 5 4 = 1 ∧ t < Tr u 4 ∧ x = nI t ∧ g_X10_back F x u = some (nI (costM u 4 t), u') ∧ okM u' K W' ∧ bkD u u' W W' t (costM u 4 t) C' := by
  have h0 : okM (sF u 0 35 0) K W := okM_34 (by omega) h
  unfold g_X10_back
  rw [lt1_i, ck_t (by decide)]
  have e5 : rA (sF u 0 35 0) 5 4 = u.2.1 5 4 := rfl
  rw [e5]
  by_cases q : u.2.1 5 4 = 0
  · refine Or.inl ⟨fun z => ?_, by rw [if_pos q], h0⟩
    rw [q] at z
    exact absurd z.1 (by decide)
  have q1 : u.2.1 5 4 = 1 := h.1.2.1.1.resolve_left q
  have hro := h.1.2.2.2.2.1 4 (Or.inr ⟨rfl, q1⟩)
  obtain ⟨r1, r2, r3, r4, r5, r6, r7, r8, r9⟩ := id hro
  have hT3 := r7.1.2.2.2.1
  have hn8 := r7.1.2.2.1
  rw [if_neg q, ck_t (by decide), show rA (sF u 0 35 0) 21 4 = nI (Tr u 4) from r2]
  rcases isLt (x := x) (K := Tr u 4) (by omega) with ⟨z1, z2⟩ | ⟨z1, t, ht, rfl⟩
  · exact Or.inl ⟨fun w => z2 w.2, by rw [if_pos z1], h0⟩
  rw [if_neg z1]
  -- the replay
  obtain ⟨p, ep, pc, pm, ps, p31⟩ := m_replays (r := 4) (t := t) h0.1 h0.2 (Or.inr ⟨rfl, q1⟩) (by show t ≤ Tr u 4; omega) hF
  have eC : costM (sF u 0 35 0) 4 t = costM u 4 t := rfl
  have eR : ∀ s, rpm (sF u 0 35 0) 4 s = rpm u 4 s := fun s => rfl
  rw [eC] at pc
  rw [eR] at p31
  rw [show g_X10_replays F 4 (nI t) (sF u 0 35 0) = some p from ep, ob_i]
  have pA : ∀ j, j ≤ 30 → j ≠ 25 → p.2.1 j = u.2.1 j := fun j h1 h2 => by
    rw [pc.1 j h1]
    exact pm_up_n h2
  have p25 : ∀ i, p.2.1 25 i = if i = 4 then u.2.1 25 4 + nI (costM u 4 t) else u.2.1 25 i := fun i => by
    rw [pc.1 25 (by decide)]
    show (rg_R u 25 4 (u.2.1 25 4 + nI (costM u 4 t))).2.1 25 i = _
    rw [R_at]
    by_cases z : i = 4
    · rw [if_pos ⟨rfl, z⟩, if_pos z]
    · rw [if_neg (fun w => z w.2), if_neg z]
  have p35 : p.1 35 = nI (costM u 4 t) := by
    rw [pc.2 35 (by decide)]
    show (0 : Int32) + nI (costM u 4 t) = _
    exact c0
  have pF : ∀ k, k ≤ 36 → k ≠ 35 → p.1 k = u.1 k := fun k h1 h2 => by
    rw [pc.2 k h1]
    show upd (upd u.1 35 0) 35 _ k = _
    rw [pk_un h2, pk_un h2]
  -- the row
  obtain ⟨v1, e1, f1, hv1⟩ := bk_live (F := F) (a := nI t) (b := rF p 0 35) (u := p) hF
  rw [e1, ob_i, ck_t (by decide), lt1_i]
  have ev2 : sA v1 21 4 (nI t) = rg_R v1 21 4 (nI t) := rfl
  rw [ev2]
  have v2A : ∀ j, j ≠ 21 → j ≠ 28 → (rg_R v1 21 4 (nI t)).2.1 j = p.2.1 j := fun j h1 h2 => by
    funext i
    rw [R_at, if_neg (fun w => h1 w.1), hv1, if_neg (fun w => h2 w.1)]
  have v2A' : ∀ j, j ≤ 30 → j ≠ 25 → j ≠ 21 → j ≠ 28 → (rg_R v1 21 4 (nI t)).2.1 j = u.2.1 j := fun j h1 h2 h3 h4 => by rw [v2A j h3 h4, pA j h1 h2]
  have eL2 : Lm (rg_R v1 21 4 (nI t)) 4 = Lm u 4 := by
    unfold Lm
    rw [v2A' 10 (by decide) (by decide) (by decide) (by decide), v2A' 11 (by decide) (by decide) (by decide) (by decide), v2A' 12 (by decide) (by decide) (by decide) (by decide), v2A' 13 (by decide) (by decide) (by decide) (by decide), v2A' 14 (by decide) (by decide) (by decide) (by decide)]
  have e15 : (rg_R v1 21 4 (nI t)).2.1 15 4 = nI (nr u 4) := by rw [v2A' 15 (by decide) (by decide) (by decide) (by decide)]; exact r1
  have hl := (rp_ok r7.1 t (by omega)).2.2
  have hstay := bk_stay (F := F) (n := nr u 4) (t := t) (l := (rpm u 4 t).2) (b := rF p 0 35) (u := rg_R v1 21 4 (nI t)) e15 hn8 hl (by omega) (fun k hk => by
    rw [eL2]
    obtain ⟨qq, y1, y2, y3⟩ := r7.2.1 k hk
    exact ⟨qq, by omega, y2, y3 t (by omega)⟩) hF
  rw [hstay, ob_i]
  unfold g_X10_back_j132
  have hagain := bk_again (F := F) (n := nr u 4) (l := (rpm u 4 t).2) (a := nI t) (b := rF p 0 35) (c := nI (rpm u 4 t).2) (u := rg_R v1 21 4 (nI t)) e15 hn8 hl hF
  rw [eL2] at hagain
  rw [hagain, ob_i]
  obtain ⟨w1, w2, w3⟩ := h.1.2.2.2.2.2.2.1
  have w4 := w3 q1
  have hmono := cI_mono (L := Lm u 4) (a := (rpm u 4 t).2) (nr u 4 - (rpm u 4 t).2)
  rw [show (rpm u 4 t).2 + (nr u 4 - (rpm u 4 t).2) = nr u 4 by have : (rpm u 4 t).2 ≤ nr u 4 := hl; omega] at hmono
  have hlam : (rpm u 4 t).2 ≤ nr u 4 := hl
  generalize hg : cI (Lm u 4) (nr u 4) - cI (Lm u 4) (rpm u 4 t).2 = g at *
  have e33 : rF (rg_R v1 21 4 (nI t)) 0 33 = nI W := by
    show v1.1 33 = _
    rw [f1, pF 33 (by decide) (by decide)]
    exact w1
  rw [e33]
  obtain ⟨v3, e3, f3, hv3⟩ := bk_shift (F := F) (W := W) (g := g) (a := nI t) (b := rF p 0 35) (c := nI (rpm u 4 t).2) (u := rg_R v1 21 4 (nI t)) (by omega) hF
  rw [e3, ob_i, lt1_i, show rF v3 0 33 = nI W by show v3.1 33 = _; rw [f3]; exact e33, nI_add]
  have v4A : ∀ j, j ≠ 29 → (sF v3 0 33 (nI (W + g))).2.1 j = (rg_R v1 21 4 (nI t)).2.1 j := fun j hj => by
    funext i
    show v3.2.1 j i = _
    rw [hv3, if_neg (fun w => hj w.1)]
  have eL4 : Lm (sF v3 0 33 (nI (W + g))) 4 = Lm u 4 := by
    rw [← eL2]
    unfold Lm
    rw [v4A 10 (by decide), v4A 11 (by decide), v4A 12 (by decide), v4A 13 (by decide), v4A 14 (by decide)]
  obtain ⟨v5, e5', f5, a5, b5, c5⟩ := bk_fill (F := F) (n := nr u 4) (l := (rpm u 4 t).2) (a := nI t) (b := rF p 0 35) (c := nI (rpm u 4 t).2) (u := sF v3 0 33 (nI (W + g))) (by rw [v4A 15 (by decide)]; exact e15) hn8 hl hF
  rw [eL4, hg] at b5
  rw [eL4] at c5
  rw [e5', ob_i, ck_t (by decide), lt1_i]
  have ev6 : sA v5 15 4 (nI (rpm u 4 t).2) = rg_R v5 15 4 (nI (rpm u 4 t).2) := rfl
  rw [ev6]
  have v6A : ∀ j, j ≠ 15 → j ≠ 21 → j ≠ 28 → j ≠ 29 → (rg_R v5 15 4 (nI (rpm u 4 t).2)).2.1 j = p.2.1 j := fun j h1 h2 h3 h4 => by
    funext i
    rw [R_at, if_neg (fun w => h1 w.1), a5 j h4, v4A j h4, v2A j h2 h3]
  obtain ⟨hC100, ct, g1, g2⟩ := id r9
  obtain ⟨v7, C', e7, c7, f7, hv7, h71, h72⟩ := bk_calls (F := F) (t := t) (C := Cr u 4) (b := rF p 0 35) (ct := ct) (u := rg_R v5 15 4 (nI (rpm u 4 t).2)) (by rw [v6A 19 (by decide) (by decide) (by decide) (by decide), pA 19 (by decide) (by decide)]; exact r5) hC100 (fun i hi => by rw [v6A 16 (by decide) (by decide) (by decide) (by decide), pA 16 (by decide) (by decide)]; have := g1 i hi; exact ⟨this.1, by omega⟩) (by omega) hF
  rw [e7, ob_i]
  unfold g_X10_back_j340
  have e723 : v7.2.1 23 4 = nI (Ur u 4) := by rw [hv7, if_neg (by omega), v6A 23 (by decide) (by decide) (by decide) (by decide), pA 23 (by decide) (by decide)]; exact r3
  obtain ⟨v8, e8, f8, hv8⟩ := bk_held (F := F) (t := t) (U := Ur u 4) (b := rF p 0 35) (u := v7) e723 r6.2.1 (by omega) hF
  rw [e8, ob_i, ck_t (by decide), ck_t (by decide), lt1_i, lt1_i]
  have e27 : rA v8 27 4 = u.2.1 27 4 := by
    show v8.2.1 27 4 = _
    rw [hv8, if_neg (by omega), hv7, if_neg (by omega), v6A 27 (by decide) (by decide) (by decide) (by decide), pA 27 (by decide) (by decide)]
  rw [e27]
  have ev9 : sA v8 27 4 (u.2.1 27 4 + 1) = rg_R v8 27 4 (u.2.1 27 4 + 1) := rfl
  rw [ev9, show rF p 0 35 = nI (costM u 4 t) from p35]
  -- what lies there in the end
  have zf : ∀ k, k ≠ 41 → (sF (rg_R v8 27 4 (u.2.1 27 4 + 1)) 0 41 (-1)).1 k = if k = 33 then nI (W + g) else p.1 k := fun k hk => by
    show upd v8.1 (100 * 0 + 41) (-1) k = _
    rw [pk_un hk, f8, f7]
    show v5.1 k = _
    rw [f5]
    show upd v3.1 (100 * 0 + 33) (nI (W + g)) k = _
    by_cases y : k = 33
    · subst y; rw [if_pos rfl]; exact pk_us
    · rw [pk_un y, if_neg y, f3]
      show v1.1 k = _
      rw [f1]
  have z41 : (sF (rg_R v8 27 4 (u.2.1 27 4 + 1)) 0 41 (-1)).1 41 = -1 := rfl
  have zA : ∀ j, j ≠ 15 → j ≠ 19 → j ≠ 20 → j ≠ 21 → j ≠ 27 → j ≠ 28 → j ≠ 29 → (sF (rg_R v8 27 4 (u.2.1 27 4 + 1)) 0 41 (-1)).2.1 j = p.2.1 j := fun j h1 h2 h3 h4 h5 h6 h7 => by
    funext i
    show (rg_R v8 27 4 (u.2.1 27 4 + 1)).2.1 j i = _
    rw [R_at, if_neg (fun w => h5 w.1), hv8, if_neg (fun w => h3 w.1), hv7, if_neg (fun w => h2 w.1), v6A j h1 h4 h6 h7]
  have z15 : ∀ i, (sF (rg_R v8 27 4 (u.2.1 27 4 + 1)) 0 41 (-1)).2.1 15 i = if i = 4 then nI (rpm u 4 t).2 else u.2.1 15 i := fun i => by
    show (rg_R v8 27 4 (u.2.1 27 4 + 1)).2.1 15 i = _
    rw [R_at, if_neg (by omega), hv8, if_neg (by omega), hv7, if_neg (by omega), R_at]
    by_cases y : i = 4
    · rw [if_pos ⟨rfl, y⟩, if_pos y]
    · rw [if_neg (fun w => y w.2), if_neg y, a5 15 (by decide), v4A 15 (by decide), v2A' 15 (by decide) (by decide) (by decide) (by decide)]
  have z19 : ∀ i, (sF (rg_R v8 27 4 (u.2.1 27 4 + 1)) 0 41 (-1)).2.1 19 i = if i = 4 then nI C' else u.2.1 19 i := fun i => by
    show (rg_R v8 27 4 (u.2.1 27 4 + 1)).2.1 19 i = _
    rw [R_at, if_neg (by omega), hv8, if_neg (by omega), hv7]
    by_cases y : i = 4
    · rw [if_pos ⟨rfl, y⟩, if_pos y]
    · rw [if_neg (fun w => y w.2), if_neg y, v6A 19 (by decide) (by decide) (by decide) (by decide), pA 19 (by decide) (by decide)]
  have z20 : ∀ i, (sF (rg_R v8 27 4 (u.2.1 27 4 + 1)) 0 41 (-1)).2.1 20 i = if (12004 < i ∧ i < 15005) ∧ t < (i - 12004) * Ur u 4 then 0 else u.2.1 20 i := fun i => by
    show (rg_R v8 27 4 (u.2.1 27 4 + 1)).2.1 20 i = _
    rw [R_at, if_neg (by omega), hv8, hv7, if_neg (show ¬ (20 = 19 ∧ i = 4) by omega), v6A 20 (by decide) (by decide) (by decide) (by decide), pA 20 (by decide) (by decide)]
    by_cases y : (12004 < i ∧ i < 15005) ∧ t < (i - 12004) * Ur u 4
    · rw [if_pos ⟨rfl, y⟩, if_pos y]
    · rw [if_neg (fun w => y w.2), if_neg y]
  have z21 : ∀ i, (sF (rg_R v8 27 4 (u.2.1 27 4 + 1)) 0 41 (-1)).2.1 21 i = if i = 4 then nI t else u.2.1 21 i := fun i => by
    show (rg_R v8 27 4 (u.2.1 27 4 + 1)).2.1 21 i = _
    rw [R_at, if_neg (by omega), hv8, if_neg (by omega), hv7, if_neg (by omega), R_at, if_neg (by omega), a5 21 (by decide), v4A 21 (by decide), R_at]
    by_cases y : i = 4
    · rw [if_pos ⟨rfl, y⟩, if_pos y]
    · rw [if_neg (fun w => y w.2), if_neg y, hv1, if_neg (by omega), pA 21 (by decide) (by decide)]
  have z27 : ∀ i, (sF (rg_R v8 27 4 (u.2.1 27 4 + 1)) 0 41 (-1)).2.1 27 i = if i = 4 then u.2.1 27 4 + 1 else u.2.1 27 i := fun i => by
    show (rg_R v8 27 4 (u.2.1 27 4 + 1)).2.1 27 i = _
    rw [R_at]
    by_cases y : i = 4
    · rw [if_pos ⟨rfl, y⟩, if_pos y]
    · rw [if_neg (fun w => y w.2), if_neg y, hv8, if_neg (by omega), hv7, if_neg (by omega), v6A 27 (by decide) (by decide) (by decide) (by decide), pA 27 (by decide) (by decide)]
  have z28 : (sF (rg_R v8 27 4 (u.2.1 27 4 + 1)) 0 41 (-1)).2.1 28 = (rpm u 4 t).1 := by
    funext i
    show (rg_R v8 27 4 (u.2.1 27 4 + 1)).2.1 28 i = _
    rw [R_at, if_neg (by omega), hv8, if_neg (by omega), hv7, if_neg (by omega), R_at, if_neg (by omega), a5 28 (by decide), v4A 28 (by decide), R_at, if_neg (by omega), hv1, p31]
    by_cases y : i < 134
    · rw [if_pos ⟨rfl, y⟩]
    · rw [if_neg (fun w => y w.2), rpm_z hro (by omega) i (by omega), pA 28 (by decide) (by decide)]
      exact h.2.2.2.1 i (by omega)
  have z29 : ∀ i, (sF (rg_R v8 27 4 (u.2.1 27 4 + 1)) 0 41 (-1)).2.1 29 i = v5.2.1 29 i := fun i => by
    show (rg_R v8 27 4 (u.2.1 27 4 + 1)).2.1 29 i = _
    rw [R_at, if_neg (by omega), hv8, if_neg (by omega), hv7, if_neg (by omega), R_at, if_neg (by omega)]
  generalize sF (rg_R v8 27 4 (u.2.1 27 4 + 1)) 0 41 (-1) = u' at *
  clear e1 e3 e5' e7 e8 hstay hagain ev2 ev6 ev9 hv8 e27 e723 v6A hv1
  have en : nr u' 4 = (rpm u 4 t).2 := by unfold nr; rw [z15, if_pos rfl]; exact tnn (by omega)
  have eT : Tr u' 4 = t := by unfold Tr; rw [z21, if_pos rfl]; exact tnn (by omega)
  have eCr : Cr u' 4 = C' := by unfold Cr; rw [z19, if_pos rfl]; exact tnn (by omega)
  have zU : ∀ j, (j < 15 ∨ (16 ≤ j ∧ j ≤ 18) ∨ (22 ≤ j ∧ j ≤ 24) ∨ j = 26 ∨ j = 30) → u'.2.1 j = u.2.1 j := fun j hj => by rw [zA j (by omega) (by omega) (by omega) (by omega) (by omega) (by omega) (by omega), pA j (by omega) (by omega)]
  have eU : Ur u' 4 = Ur u 4 := by unfold Ur; rw [zU 23 (by omega)]
  have eD : Dr u' 4 = Dr u 4 := by unfold Dr; rw [zU 24 (by omega)]
  have eLm : Lm u' 4 = Lm u 4 := by
    unfold Lm
    rw [zU 10 (by omega), zU 11 (by omega), zU 12 (by omega), zU 13 (by omega), zU 14 (by omega)]
  have ePm : Pm u' 4 = Pm u 4 := by
    unfold Pm
    rw [zU 6 (by omega), zU 7 (by omega), zU 8 (by omega), zU 9 (by omega)]
  have eHm : ∀ k, k ≤ 3000 → Hm u' 4 k = if t < k * Ur u 4 then 0 else Hm u 4 k := fun k hk => by
    rw [Hm_k (by omega), z20, Hm_k (by omega), show 3001 * 4 + k - 12004 = k by omega]
    by_cases y : t < k * Ur u 4
    · have : 0 < k := by
        rcases Nat.eq_zero_or_pos k with z | z
        · subst z; omega
        · exact z
      rw [if_pos ⟨by omega, y⟩, if_pos y]
    · rw [if_neg (fun w => y w.2), if_neg y]
  have fr : ∀ r, r < 4 → agR u u' r := fun r hr => by
    refine ⟨fun j a b k c => by rw [zU j (by omega)], fun j a b k c => by rw [zU j (by omega)], fun j a => ?_, fun j a b k c => by rw [zU j (by omega)], fun k c => by rw [z20, if_neg (by omega)]⟩
    unfold scal at a
    rcases (show j = 15 ∨ j = 19 ∨ j = 21 ∨ j = 25 ∨ j = 27 ∨ ((22 ≤ j ∧ j ≤ 24) ∨ j = 26) by omega) with rfl | rfl | rfl | rfl | rfl | y
    · rw [z15, if_neg (by omega)]
    · rw [z19, if_neg (by omega)]
    · rw [z21, if_neg (by omega)]
    · rw [zA 25 (by decide) (by decide) (by decide) (by decide) (by decide) (by decide) (by decide), p25, if_neg (by omega)]
    · rw [z27, if_neg (by omega)]
    · rw [zU j (by omega)]
  have hcut := okW_cut r7 (t0 := t) (by omega)
  have hrp : ∀ s, s ≤ t → rpm u' 4 s = rpm u 4 s := fun s hs => by
    unfold rpm
    rw [en, eLm, ePm]
    exact rp_trunc r7.1 (by omega) s hs
  have hrun : runOK u' 4 := by
    unfold runOK
    rw [en, eT, eCr, eU, eD, eLm, ePm]
    refine ⟨by rw [z15, if_pos rfl], by rw [z21, if_pos rfl], by rw [zU 23 (by omega)]; exact r3, by rw [zU 24 (by omega)]; exact r4, by rw [z19, if_pos rfl], r6, hcut, ⟨?_, fun k hk => ?_⟩, by omega, ct, fun i hi => ?_, fun i j a b => g2 i j a (by omega)⟩
    · rw [eHm 0 (by omega), if_neg (by omega)]; exact r8.1
    · rw [eHm k hk]
      by_cases y : t < k * Ur u 4
      · rw [if_pos y]; exact Or.inl rfl
      · rw [if_neg y]
        rcases r8.2 k hk with z | ⟨z, -⟩
        · exact Or.inl z
        · exact Or.inr ⟨z, by omega⟩
    · dsimp only
      rw [zU 16 (by omega)]
      refine ⟨(g1 i (by omega)).1, ?_⟩
      rcases h71 with y | y
      · omega
      · by_cases z : i = C' - 1
        · rw [z]; exact y
        · have := g2 i (C' - 1) (by omega) (by omega); omega
  refine Or.inr ⟨t, u', W + g, C', q1, ht, rfl, rfl, ⟨core_now h.1 fr ⟨?_, ?_, ?_, ?_⟩ (fun j a b => zU j (by omega)) (zU 30 (by omega)) (fun r _ => by rw [zU 5 (by omega)]) (by rw [zU 5 (by omega)]; exact q1) hrun (by rw [eT, hrp t (Nat.le_refl _)]; exact z28) ⟨by rw [zf 33 (by decide), if_pos rfl], by rw [eLm, en]; omega⟩, simM_none h.1.1.2.1 z41 ?_ ?_ ?_⟩, ⟨z28, en, eT, eCr, by rw [hg]⟩, zU, ⟨?_, by rw [z27, if_pos rfl], ?_, by rw [zf 33 (by decide), if_pos rfl], ?_⟩, fun k hk => ?_, fr, ⟨c7, fun ct' hct' => ?_⟩, eHm, hrp, fun i hi => ?_, fun k a b c => ?_⟩
  · rw [zf 4 (by decide), if_neg (by decide), pF 4 (by decide) (by decide)]
  · rw [zf 5 (by decide), if_neg (by decide), pF 5 (by decide) (by decide)]
  · rw [zf 29 (by decide), if_neg (by decide), pF 29 (by decide) (by decide)]
  · rw [zf 30 (by decide), if_neg (by decide), pF 30 (by decide) (by decide)]
  · rw [z28]; exact rpm_z hro (by omega)
  · rw [zA 31 (by decide) (by decide) (by decide) (by decide) (by decide) (by decide) (by decide)]; exact ps.2.2.2.1
  · rw [zA 37 (by decide) (by decide) (by decide) (by decide) (by decide) (by decide) (by decide)]; exact ps.2.2.2.2
  · rw [zA 25 (by decide) (by decide) (by decide) (by decide) (by decide) (by decide) (by decide), p25, if_pos rfl]
  · rw [zf 35 (by decide), if_neg (by decide)]; exact p35
  · rw [zf 34 (by decide), if_neg (by decide), pF 34 (by decide) (by decide)]
  · rw [zf k (by omega), if_neg (by omega), pF k (by omega) (by omega)]
  · have ec : ∀ i, i < Cr u 4 → ct' i = ct i := fun i hi => nI_inj (by have := (hct' i hi).2; omega) (by have := (g1 i hi).2; omega) ((hct' i hi).1.symm.trans (g1 i hi).1)
    refine ⟨?_, fun i a b => by rw [ec i b]; exact h72 i a b⟩
    rcases h71 with y | y
    · exact Or.inl y
    · rcases Nat.eq_zero_or_pos C' with z | z
      · exact Or.inl z
      · exact Or.inr (by rw [ec _ (by omega)]; exact y)
  · rw [z29, b5 (i + (W + g - W)) (by omega)]
    show v3.2.1 29 _ = _
    rw [hv3, if_pos (by omega), show i + (W + g - W) - g = i by omega, v2A' 29 (by decide) (by decide) (by decide) (by decide)]
  · rw [z29]; exact c5 k a b c
