theorem okM_34 {u : rg_U} {K W : Nat} {k : Nat} {v : Int32} (hk : 34 ≤ k ∧ k ≤ 40) (h : okM u K W) : okM (sF u 0 k v) K W := by
  have hf : ∀ i, i ≠ k → (sF u 0 k v).1 i = u.1 i := fun i hi => by
    show upd u.1 (100 * 0 + k) v i = _
    exact pk_un (by omega)
  exact ⟨core_c (u := u) (fun _ _ _ => rfl) (fun i hi => hf i (by omega)) h.1, simM_c (u := u) (fun _ _ _ _ => rfl) rfl rfl (hf 41 (by omega)) (hf 42 (by omega)) h.2⟩
theorem m_seed {F K W : Nat} {v : Int32} {u : rg_U} (h : okM u K W) : g_X10_seed F v u = some (u.1 34, sF u 0 34 v) ∧ okM (sF u 0 34 v) K W := ⟨rfl, okM_34 (by omega) h⟩
theorem m_spacing {F K W : Nat} {x y : Int32} {u : rg_U} (h : okM u K W) : (g_X10_isSpacing x y = 0 ∧ g_X10_spacing F x y u = some (0, u)) ∨ (¬ g_X10_isSpacing x y = 0 ∧ g_X10_spacing F x y u = some (1, sF (sF u 0 4 x) 0 5 y) ∧ okM (sF (sF u 0 4 x) 0 5 y) K W) := by
  unfold g_X10_spacing
  by_cases q : g_X10_isSpacing x y = 0
  · exact Or.inl ⟨q, by rw [if_pos q]⟩
  · refine Or.inr ⟨q, by rw [if_neg q]; rfl, ?_, ?_⟩
    · obtain ⟨c1, c2, c7, -, c9, c10, c11, c14⟩ := h.1
      obtain ⟨U, D, rfl, rfl, b1, b2, b3, b4⟩ := in_s q
      exact ⟨c1, c2, c7, ⟨U, D, rfl, rfl, b1, b2, b3, b4⟩, c9, c10, c11, c14⟩
    · exact simM_c (u := u) (fun _ _ _ _ => rfl) rfl rfl rfl rfl h.2
theorem vnb {x : Int32} (h : x = 0 ∨ x = 1) : vp_nar .boolean x = x := by
  rcases h with q | q <;> subst q <;> decide
theorem m_watch {F K W : Nat} {x y : Int32} {u : rg_U} (h : okM u K W) (hy : y = 0 ∨ y = 1) : (g_X10_isPlace x = 0 ∧ g_X10_watch F x y u = some (0, u)) ∨ ∃ p, p < 40 ∧ x = nI p ∧ ((u.2.1 30 p = y ∧ g_X10_watch F x y u = some (0, u)) ∨ (¬ u.2.1 30 p = y ∧ g_X10_watch F x y u = some (1, rg_R u 30 p y) ∧ okM (rg_R u 30 p y) K W)) := by
  unfold g_X10_watch
  by_cases q : g_X10_isPlace x = 0
  · exact Or.inl ⟨q, by rw [if_pos q]⟩
  · obtain ⟨p, hp, rfl⟩ := isPl q
    refine Or.inr ⟨p, hp, rfl, ?_⟩
    rw [if_neg q, ck_t (inb_nI hp (by decide)), ck_t (inb_nI hp (by decide)), rA_nI (by omega)]
    by_cases q2 : u.2.1 30 p = y
    · exact Or.inl ⟨q2, by rw [if_pos q2]⟩
    · refine Or.inr ⟨q2, by rw [if_neg q2, lt1_i, sZ_nI (by omega), vnb hy], ?_, ?_⟩
      · have hA : ∀ j, j ≠ 30 → (rg_R u 30 p y).2.1 j = u.2.1 j := fun j hj => pm_up_n hj
        have hg : ∀ r, agR u (rg_R u 30 p y) r := fun r => agR_A (fun j h1 h2 => hA j (by omega))
        obtain ⟨c1, c2, c7, c8, c9, c10, c11, c14⟩ := h.1
        have a5' := hA 5 (by decide)
        refine ⟨c1, by rw [a5']; exact c2, by rw [hA 1 (by decide), hA 2 (by decide), hA 3 (by decide), hA 4 (by decide)]; exact c7, c8, fun r hr => runOK_g (hg r) (c9 r (by unfold act at hr ⊢; rw [← a5']; exact hr)), by rw [a5', hA 28 (by decide), rpm_g (hg 4), (sc_g (hg 4)).2.1]; exact c10, by rw [a5', Lm_g (hg 4), (sc_g (hg 4)).1]; exact c11, fun i hi => ?_⟩
        rw [R_at]
        by_cases z : 30 = 30 ∧ i = p
        · rw [if_pos z]; exact hy
        · rw [if_neg z]; exact c14 i hi
      · have hA : ∀ j, j ≠ 30 → (rg_R u 30 p y).2.1 j = u.2.1 j := fun j hj => pm_up_n hj
        have hg : ∀ r, agR u (rg_R u 30 p y) r := fun r => agR_A (fun j h1 h2 => hA j (by omega))
        obtain ⟨s1, s2, s3, s4, s5⟩ := h.2
        have a5' := hA 5 (by decide)
        refine ⟨?_, fun r hr => ?_, by rw [hA 28 (by decide)]; exact s3, by rw [hA 31 (by decide)]; exact s4, by rw [hA 37 (by decide)]; exact s5⟩
        · rcases s1 with q3 | ⟨r, q3, q4⟩
          · exact Or.inl q3
          · exact Or.inr ⟨r, by unfold act at q3 ⊢; rw [a5']; exact q3, q4⟩
        · have hs := s2 r (by unfold act at hr ⊢; rw [← a5']; exact hr)
          unfold okSim at *
          rw [Pm_g (hg r), Lm_g (hg r), (sc_g (hg r)).1, (sc_g (hg r)).2.1, hA 31 (by decide)]
          exact hs
theorem isK {x : Int32} {K : Nat} (hK : K ≤ 4) : g_X10_isIn x 0 (nI K - 1) = 0 ∨ ∃ r, r < K ∧ x = nI r := by
  by_cases q : g_X10_isIn x 0 (nI K - 1) = 0
  · exact Or.inl q
  · right
    obtain ⟨r, e, h1, h2⟩ := in_nat q (by decide)
    refine ⟨r, ?_, e⟩
    rcases Nat.eq_zero_or_pos K with z | z
    · subst z
      have e2 : (nI 0 - 1).toInt = -1 := by decide
      omega
    · rw [show nI K - 1 = nI (K - 1) from nI_sub (a := K) (b := 1) z, nI_toInt (by omega)] at h2
      omega
theorem isK_n {r K : Nat} (h : r < K) (hK : K ≤ 4) : ¬ g_X10_isIn (nI r) 0 (nI K - 1) = 0 := by
  rw [show nI K - 1 = nI (K - 1) from nI_sub (a := K) (b := 1) (by omega)]
  exact in_nI (a := 0) (by omega) (by omega) (by omega)
theorem okM_30 {u : rg_U} {K W : Nat} {x : Int32} (hx : x = -1 ∨ ∃ r, r < K ∧ x = nI r) (h : okM u K W) : okM (sF u 0 30 x) K W := by
  obtain ⟨⟨c0, c1, -⟩, c2, c7, c8, c9, c10, c11, c14⟩ := h.1
  exact ⟨⟨⟨c0, c1, hx⟩, c2, c7, c8, c9, c10, c11, c14⟩, simM_c (u := u) (fun _ _ _ _ => rfl) rfl rfl rfl rfl h.2⟩
theorem m_use {F K W : Nat} {x : Int32} {u : rg_U} (h : okM u K W) : ((x = -1 ∨ ∃ r, r < K ∧ x = nI r) ∧ g_X10_use F x u = some (1, sF u 0 30 x) ∧ okM (sF u 0 30 x) K W) ∨ (¬ (x = -1 ∨ ∃ r, r < K ∧ x = nI r) ∧ g_X10_use F x u = some (0, u)) := by
  unfold g_X10_use
  rw [show rF u 0 29 = nI K from h.1.1.1]
  by_cases q : x = -1
  · exact Or.inl ⟨Or.inl q, by rw [if_pos q]; rfl, okM_30 (Or.inl q) h⟩
  · rw [if_neg q]
    rcases isK (x := x) h.1.1.2.1 with q2 | ⟨r, hr, rfl⟩
    · refine Or.inr ⟨?_, by rw [if_pos q2]⟩
      rintro (z | ⟨r, hr, rfl⟩)
      · exact q z
      · exact isK_n hr h.1.1.2.1 q2
    · exact Or.inl ⟨Or.inr ⟨r, hr, rfl⟩, by rw [if_neg (isK_n hr h.1.1.2.1)]; rfl, okM_30 (Or.inr ⟨r, hr, rfl⟩) h⟩
theorem cI_le {L : Lg} : ∀ k, cI L k ≤ k
  | 0 => Nat.le_refl _
  | k + 1 => by
    unfold cI
    have := cI_le (L := L) k
    by_cases q : L.2.1 k = 0
    · rw [if_pos q]; omega
    · rw [if_neg q]; omega
theorem m_give {F K W : Nat} {v : Int32} {u : rg_U} (h : okM u K W) : (¬ (u.2.1 5 4 = 1 ∧ W < 100) ∧ g_X10_give F v u = some (-1, u)) ∨ (u.2.1 5 4 = 1 ∧ W < 100 ∧ g_X10_give F v u = some (nI (W + 1), sF (rg_R u 29 W v) 0 33 (nI (W + 1))) ∧ okM (sF (rg_R u 29 W v) 0 33 (nI (W + 1))) K (W + 1)) := by
  unfold g_X10_give
  have hW := h.1.2.2.2.2.2.2.1
  have e33 : rF u 0 33 = nI W := hW.1
  rw [ck_t (by decide), e33]
  have e5 : rA u 5 4 = u.2.1 5 4 := rfl
  rw [e5]
  by_cases q : u.2.1 5 4 = 0
  · refine Or.inl ⟨fun z => ?_, by rw [if_pos q]⟩
    rw [q] at z
    exact absurd z.1 (by decide)
  have q1 : u.2.1 5 4 = 1 := h.1.2.1.1.resolve_left q
  rw [if_neg q]
  by_cases q2 : W < 100
  · refine Or.inr ⟨q1, q2, ?_, ?_⟩
    · rw [if_pos (show nI W < (100 : Int32) from nI_lt (a := W) (b := 100) q2 (by decide)), ck_t (inb_nI (by omega) (by decide)), lt1_i, sA_nI (by omega), lt1_i, show rF (rg_R u 29 W v) 0 33 = nI W from hW.1, nI_1]
      rfl
    · have hA : ∀ j, j ≠ 29 → (sF (rg_R u 29 W v) 0 33 (nI (W + 1))).2.1 j = u.2.1 j := fun j hj => pm_up_n hj
      have hg : ∀ r, agR u (sF (rg_R u 29 W v) 0 33 (nI (W + 1))) r := fun r => agR_A (fun j h1 h2 => hA j (by omega))
      obtain ⟨c1, c2, c7, c8, c9, c10, c11, c14⟩ := h.1
      have hro := c9 4 (Or.inr ⟨rfl, q1⟩)
      have hn8 := hro.2.2.2.2.2.2.1.1.2.2.1
      have hci := cI_le (L := Lm u 4) (nr u 4)
      refine ⟨core_now h.1 (fun r _ => hg r) ⟨rfl, rfl, rfl, rfl⟩ (fun j h1 h2 => hA j (by omega)) (hA 30 (by decide)) (fun r _ => by rw [hA 5 (by decide)]) (by rw [hA 5 (by decide)]; exact q1) (runOK_g (hg 4) hro) (by rw [hA 28 (by decide), rpm_g (hg 4), (sc_g (hg 4)).2.1]; exact c10 q1) ⟨rfl, by rw [Lm_g (hg 4), (sc_g (hg 4)).1]; omega⟩, ?_⟩
      obtain ⟨s1, s2, s3, s4, s5⟩ := h.2
      have a5' := hA 5 (by decide)
      refine ⟨?_, fun r hr => ?_, by rw [hA 28 (by decide)]; exact s3, by rw [hA 31 (by decide)]; exact s4, by rw [hA 37 (by decide)]; exact s5⟩
      · rcases s1 with q3 | ⟨r, q3, q4⟩
        · exact Or.inl q3
        · exact Or.inr ⟨r, by unfold act at q3 ⊢; rw [a5']; exact q3, q4⟩
      · have hs := s2 r (by unfold act at hr ⊢; rw [← a5']; exact hr)
        unfold okSim at *
        rw [Pm_g (hg r), Lm_g (hg r), (sc_g (hg r)).1, (sc_g (hg r)).2.1, hA 31 (by decide)]
        exact hs
  · refine Or.inl ⟨fun z => q2 z.2, ?_⟩
    rw [if_neg (show ¬ nI W < (100 : Int32) from nI_nlt (a := W) (b := 100) (by omega) (by omega))]
/-! begin -/
theorem m_beginM {F K W : Nat} {u : rg_U} (h : okM u K W) (hF : 10000 < F) : ∃ u', g_X10_begin F u = some (nI (cntK (u.2.1 1) 64), u') ∧ okM u' K 0 ∧ u'.1 = upd (upd u.1 33 0) 41 (-1) ∧ ∀ j i, u'.2.1 j i = m_begunA u j i := by
  obtain ⟨u', e, hf, hv⟩ := m_begin (u := u) hF
  refine ⟨u', e, ?_, hf, hv⟩
  obtain ⟨c1, c2, c7, ⟨U, D, c8a, c8b, b1, b2, b3, b4⟩, c9, c10, c11, c14⟩ := id h.1
  have f : ∀ k, k ≠ 33 → k ≠ 41 → u'.1 k = u.1 k := fun k h1 h2 => by rw [hf, pk_un h2, pk_un h1]
  have fr : ∀ r, r < 4 → agR u u' r := fun r hr => by
    refine ⟨fun j a b k c => ?_, fun j a b k c => ?_, fun j a => ?_, fun j a b k c => ?_, fun k c => ?_⟩
    all_goals rw [hv]; unfold m_begunA
    · rw [if_neg (by omega), if_neg (by omega), if_neg (by omega), if_neg (by omega), if_neg (by omega), if_neg (by omega), if_neg (by omega), if_neg (by omega), if_neg (by omega), if_neg (by omega), if_neg (by omega), if_neg (by omega)]
    · rw [if_neg (by omega), if_neg (by omega), if_neg (by omega), if_neg (by omega), if_neg (by omega), if_neg (by omega), if_neg (by omega), if_neg (by omega), if_neg (by omega), if_neg (by omega), if_neg (by omega), if_neg (by omega)]
    · unfold scal at a
      rw [if_neg (by omega), if_neg (by omega), if_neg (by omega), if_neg (by omega), if_neg (by omega), if_neg (by omega), if_neg (by omega), if_neg (by omega), if_neg (by omega), if_neg (by omega), if_neg (by omega), if_neg (by omega)]
    · rw [if_neg (by omega), if_neg (by omega), if_neg (by omega), if_neg (by omega), if_neg (by omega), if_neg (by omega), if_neg (by omega), if_neg (by omega), if_neg (by omega), if_neg (by omega), if_neg (by omega), if_neg (by omega)]
    · rw [if_neg (by omega), if_neg (by omega), if_neg (by omega), if_neg (by omega), if_neg (by omega), if_neg (by omega), if_neg (by omega), if_neg (by omega), if_neg (by omega), if_neg (by omega), if_neg (by omega), if_neg (by omega)]
  have a15 : u'.2.1 15 4 = 0 := by rw [hv]; rfl
  have a19 : u'.2.1 19 4 = 0 := by rw [hv]; rfl
  have a21 : u'.2.1 21 4 = 0 := by rw [hv]; rfl
  have a23 : u'.2.1 23 4 = nI U := by rw [hv]; exact c8a
  have a24 : u'.2.1 24 4 = nI D := by rw [hv]; exact c8b
  have a5 : u'.2.1 5 4 = 1 := by rw [hv]; rfl
  have n0 : nr u' 4 = 0 := by unfold nr; rw [a15]; rfl
  have t0 : Tr u' 4 = 0 := by unfold Tr; rw [a21]; rfl
  have cc0 : Cr u' 4 = 0 := by unfold Cr; rw [a19]; rfl
  have U0 : Ur u' 4 = U := by unfold Ur; rw [a23, tnn (by omega)]
  have D0 : Dr u' 4 = D := by unfold Dr; rw [a24, tnn (by omega)]
  have hP : Pm u' 4 = (ct 64 (u.2.1 1), ct 64 (u.2.1 2), ct 64 (u.2.1 3), ct 64 (u.2.1 4)) := by
    have key : ∀ j, 6 ≤ j → j ≤ 9 → ∀ k, k < 64 → u'.2.1 j (64 * 4 + k) = u.2.1 (j - 5) k := fun j a b k c => by
      rw [hv]
      unfold m_begunA
      rw [if_neg (by omega), if_neg (by omega), if_neg (by omega), if_neg (by omega), if_neg (by omega), if_neg (by omega), if_neg (by omega), if_neg (by omega), if_neg (by omega), if_neg (by omega), if_neg (by omega), if_pos (by omega), show 64 * 4 + k - 256 = k by omega]
    unfold Pm
    rw [ct_c (fun k hk => key 6 (by decide) (by decide) k hk), ct_c (fun k hk => key 7 (by decide) (by decide) k hk), ct_c (fun k hk => key 8 (by decide) (by decide) k hk), ct_c (fun k hk => key 9 (by decide) (by decide) k hk)]
  have okp : okP (Pm u' 4) := by
    rw [hP]
    intro k hk
    dsimp only
    rw [ct_lt hk, ct_lt hk, ct_lt hk, ct_lt hk]
    exact c7 k hk
  have hW0 := okW_new (P := Pm u' 4) (L := Lm u' 4) okp
  have hrun : runOK u' 4 := by
    unfold runOK
    rw [n0, t0, cc0, U0, D0]
    refine ⟨a15, a21, a23, a24, a19, ⟨b1, b2, b3, b4⟩, hW0.1, ⟨?_, fun k hk => ?_⟩, by omega, fun _ => 0, fun i hi => by omega, fun i j _ hj => by omega⟩
    · rw [Hm_k (by decide), hv]; rfl
    · rw [Hm_k (by omega), hv]
      by_cases z : k = 0
      · subst z
        exact Or.inr ⟨rfl, by omega⟩
      · left
        unfold m_begunA
        rw [if_neg (by omega), if_neg (by omega), if_neg (by omega), if_neg (by omega), if_neg (by omega), if_neg (by omega), if_neg (by omega), if_pos (by omega), if_neg (by omega)]
  have live : u'.2.1 28 = zrow := by
    funext i
    rw [hv]
    unfold m_begunA
    by_cases z : i < 134
    · rw [if_pos ⟨rfl, z⟩]; rfl
    · rw [if_neg (by omega), if_neg (by omega), if_neg (by omega), if_neg (by omega), if_neg (by omega), if_neg (by omega), if_neg (by omega), if_neg (by omega), if_neg (by omega), if_neg (by omega), if_neg (by omega), if_neg (by omega)]
      exact h.2.2.2.1 i (by omega)
  have oth : ∀ j, (1 ≤ j ∧ j ≤ 4) ∨ 29 ≤ j → u'.2.1 j = u.2.1 j := fun j hj => by
    funext i
    rw [hv]
    unfold m_begunA
    rw [if_neg (by omega), if_neg (by omega), if_neg (by omega), if_neg (by omega), if_neg (by omega), if_neg (by omega), if_neg (by omega), if_neg (by omega), if_neg (by omega), if_neg (by omega), if_neg (by omega), if_neg (by omega)]
  refine ⟨core_now h.1 fr ⟨f 4 (by decide) (by decide), f 5 (by decide) (by decide), f 29 (by decide) (by decide), f 30 (by decide) (by decide)⟩ (fun j h1 h2 => oth j (by omega)) (oth 30 (by omega)) (fun r hr => ?_) a5 hrun ?_ ⟨?_, ?_⟩, simM_none c1.2.1 ?_ ?_ ?_ ?_⟩
  · rw [hv]
    unfold m_begunA
    rw [if_neg (by omega), if_neg (by omega), if_neg (by omega), if_neg (by omega), if_neg (by omega), if_neg (by omega), if_neg (by omega), if_neg (by omega), if_neg (by omega), if_neg (by omega), if_neg (by omega), if_neg (by omega)]
  · rw [live]
    unfold rpm
    rw [n0, t0, hW0.2]
  · rw [hf]; rfl
  · rw [n0]
    show 0 + 0 ≤ 900
    omega
  · rw [hf]; rfl
  · rw [live]; exact fun i _ => rfl
  · rw [oth 31 (by omega)]; exact h.2.2.2.2.1
  · rw [oth 37 (by omega)]; exact h.2.2.2.2.2
