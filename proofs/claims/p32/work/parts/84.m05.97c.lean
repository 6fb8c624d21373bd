section W_17
-- 97c.small
theorem okM_34 {u : rg_U} {K W : Nat} {k : Nat} {v : Int32} (hk : 34 ≤ k ∧ k ≤ 40) (h : okM u K W) : okM (sF u 0 k v) K W := by
  have hf : ∀ i, i ≠ k → (sF u 0 k v).1 i = u.1 i := fun i hi => by
    show upd u.1 (100 * 0 + k) v i = _
    exact pk_un (by omega)
  exact ⟨core_c (u := u) (fun _ _ _ => rfl) (fun i hi => hf i (by omega)) h.1, simM_c (u := u) (fun _ _ _ _ => rfl) rfl rfl (hf 41 (by omega)) (hf 42 (by omega)) h.2⟩
theorem m_seed {F K W : Nat} {v : Int32} {u : rg_U} (h : okM u K W) : g_X10_seed F v u = some (u.1 34, sF u 0 34 v) ∧ okM (sF u 0 34 v) K W := ⟨rfl, okM_34 (by omega) h⟩
theorem m_spacing {F K W : Nat} {x y : Int32} {u : rg_U} (h : okM u K W) : (g_X10_isSpacing x y = 0 ∧ g_X10_spacing F x y u = some (0, u)) ∨ (¬ g_X10_isSpacing x y = 0 ∧ g_X10_spacing F x y u = some (1, sF (sF u 0 4 x) 0 5 y) ∧ okM (sF (sF u 0 4 x) 0 5 y) K W) := by
  unfold g_X10_spacing
  by_cases q : g_X10_isSpacing x y = 0
  · exact Or.inl ⟨q, by rw [if_pos q]⟩
  · refine Or.inr ⟨q, by rw [if_neg q]; rfl, ?_, ?_⟩
    · obtain ⟨c1, c2, c7, -, c9, c10, c11, c14⟩ := h.1
      obtain ⟨U, D, rfl, rfl, b1, b2, b3, b4⟩ := in_s q
      exact ⟨c1, c2, c7, ⟨U, D, rfl, rfl, b1, b2, b3, b4⟩, c9, c10, c11, c14⟩
    · exact simM_c (u := u) (fun _ _ _ _ => rfl) rfl rfl rfl rfl h.2
theorem vnb {x : Int32} (h : x = 0 ∨ x = 1) : vp_nar .boolean x = x := by
  rcases h with q | q <;> subst q <;> decide
theorem m_watch {F K W : Nat} {x y : Int32} {u : rg_U} (h : okM u K W) (hy : y = 0 ∨ y = 1) : (g_X10_isPlace x = 0 ∧ g_X10_watch F x y u = some (0, u)) ∨ ∃ p, p < 40 ∧ x = nI p ∧ ((u.2.1 30 p = y ∧ g_X10_watch F x y u = some (0, u)) ∨ (¬ u.2.1 30 p = y ∧ g_X10_watch F x y u = some (1, rg_R u 30 p y) ∧ okM (rg_R u 30 p y) K W)) := by
  unfold g_X10_watch
  by_cases q : g_X10_isPlace x = 0
  · exact Or.inl ⟨q, by rw [if_pos q]⟩
  · obtain ⟨p, hp, rfl⟩ := isPl q
    refine Or.inr ⟨p, hp, rfl, ?_⟩
    rw [if_neg q, ck_t (inb_nI hp (by decide)), ck_t (inb_nI hp (by decide)), rA_nI (by omega)]
    by_cases q2 : u.2.1 30 p = y
    · exact Or.inl ⟨q2, by rw [if_pos q2]⟩
    · refine Or.inr ⟨q2, by rw [if_neg q2, lt1_i, sZ_nI (by omega), vnb hy], ?_, ?_⟩
      · have hA : ∀ j, j ≠ 30 → (rg_R u 30 p y).2.1 j = u.2.1 j := fun j hj => pm_up_n hj
        have hg : ∀ r, agR u (rg_R u 30 p y) r := fun r => agR_A (fun j h1 h2 => hA j (by omega))
        obtain ⟨c1, c2, c7, c8, c9, c10, c11, c14⟩ := h.1
        have a5' := hA 5 (by decide)
        refine ⟨c1, by rw [a5']; exact c2, by rw [hA 1 (by decide), hA 2 (by decide), hA 3 (by decide), hA 4 (by decide)]; exact c7, c8, fun r hr => runOK_g (hg r) (c9 r (by unfold act at hr ⊢; rw [← a5']; exact hr)), by rw [a5', hA 28 (by decide), rpm_g (hg 4), (sc_g (hg 4)).2.1]; exact c10, by rw [a5', Lm_g (hg 4), (sc_g (hg 4)).1]; exact c11, fun i hi => ?_⟩
        rw [R_at]
        by_cases z : 30 = 30 ∧ i = p
        · rw [if_pos z]; exact hy
        · rw [if_neg z]; exact c14 i hi
      · have hA : ∀ j, j ≠ 30 → (rg_R u 30 p y).2.1 j = u.2.1 j := fun j hj => pm_up_n hj
        have hg : ∀ r, agR u (rg_R u 30 p y) r := fun r => agR_A (fun j h1 h2 => hA j (by omega))
        obtain ⟨s1, s2, s3, s4, s5⟩ := h.2
        have a5' := hA 5 (by decide)
        refine ⟨?_, fun r hr => ?_, by rw [hA 28 (by decide)]; exact s3, by rw [hA 31 (by decide)]; exact s4, by rw [hA 37 (by decide)]; exact s5⟩
        · rcases s1 with q3 | ⟨r, q3, q4⟩
          · exact Or.inl q3
          · exact Or.inr ⟨r, by unfold act at q3 ⊢; rw [a5']; exact q3, q4⟩
        · have hs := s2 r (by unfold act at hr ⊢; rw [← a5']; exact hr)
          unfold okSim at *
          rw [Pm_g (hg r), Lm_g (hg r), (sc_g (hg r)).1, (sc_g (hg r)).2.1, hA 31 (by decide)]
          exact hs
theorem isK {x : Int32} {K : Nat} (hK : K ≤ 4) : g_X10_isIn x 0 (nI K - 1) = 0 ∨ ∃ r, r < K ∧ x = nI r := by
  by_cases q : g_X10_isIn x 0 (nI K - 1) = 0
  · exact Or.inl q
  · right
    obtain ⟨r, e, h1, h2⟩ := in_nat q (by decide)
    refine ⟨r, ?_, e⟩
    rcases Nat.eq_zero_or_pos K with z | z
    · subst z
      have e2 : (nI 0 - 1).toInt = -1 := by decide
      omega
    · rw [show nI K - 1 = nI (K - 1) from nI_sub (a := K) (b := 1) z, nI_toInt (by omega)] at h2
      omega
theorem isK_n {r K : Nat} (h : r < K) (hK : K ≤ 4) : ¬ g_X10_isIn (nI r) 0 (nI K - 1) = 0 := by
  rw [show nI K - 1 = nI (K - 1) from nI_sub (a := K) (b := 1) (by omega)]
  exact in_nI (a := 0) (by omega) (by omega) (by omega)
theorem okM_30 {u : rg_U} {K W : Nat} {x : Int32} (hx : x = -1 ∨ ∃ r, r < K ∧ x = nI r) (h : okM u K W) : okM (sF u 0 30 x) K W := by
  obtain ⟨⟨c0, c1, -⟩, c2, c7, c8, c9, c10, c11, c14⟩ := h.1
  exact ⟨⟨⟨c0, c1, hx⟩, c2, c7, c8, c9, c10, c11, c14⟩, simM_c (u := u) (fun _ _ _ _ => rfl) rfl rfl rfl rfl h.2⟩
theorem m_use {F K W : Nat} {x : Int32} {u : rg_U} (h : okM u K W) : ((x = -1 ∨ ∃ r, r < K ∧ x = nI r) ∧ g_X10_use F x u = some (1, sF u 0 30 x) ∧ okM (sF u 0 30 x) K W) ∨ (¬ (x = -1 ∨ ∃ r, r < K ∧ x = nI r) ∧ g_X10_use F x u = some (0, u)) := by
  unfold g_X10_use
  rw [show rF u 0 29 = nI K from h.1.1.1]
  by_cases q : x = -1
  · exact Or.inl ⟨Or.inl q, by rw [if_pos q]; rfl, okM_30 (Or.inl q) h⟩
  · rw [if_neg q]
    rcases isK (x := x) h.1.1.2.1 with q2 | ⟨r, hr, rfl⟩
    · refine Or.inr ⟨?_, by rw [if_pos q2]⟩
      rintro (z | ⟨r, hr, rfl⟩)
      · exact q z
      · exact isK_n hr h.1.1.2.1 q2
    · exact Or.inl ⟨Or.inr ⟨r, hr, rfl⟩, by rw [if_neg (isK_n hr h.1.1.2.1)]; rfl, okM_30 (Or.inr ⟨r, hr, rfl⟩) h⟩
theorem cI_le {L : Lg} : ∀ k, cI L k ≤ k
  | 0 => Nat.le_refl _
  | k + 1 => by
    unfold cI
    have := cI_le (L := L) k
    by_cases q : L.2.1 k = 0
    · rw [if_pos q]; omega
    · rw [if_neg q]; omega
theorem m_give {F K W : Nat} {v : Int32} {u : rg_U} (h : okM u K W) : (¬ (u.2.1 5 4 = 1 ∧ W < 100) ∧ g_X10_give F v u = some (-1, u)) ∨ (u.2.1 5 4 = 1 ∧ W < 100 ∧ g_X10_give F v u = some (nI (W + 1), sF (rg_R u 29 W v) 0 33 (nI (W + 1))) ∧ okM (sF (rg_R u 29 W v) 0 33 (nI (W + 1))) K (W + 1)) := by
  unfold g_X10_give
  have hW := h.1.2.2.2.2.2.2.1
  have e33 : rF u 0 33 = nI W := hW.1
  rw [ck_t (by decide), e33]
  have e5 : rA u 5 4 = u.2.1 5 4 := rfl
  rw [e5]
  by_cases q : u.2.1 5 4 = 0
  · refine Or.inl ⟨fun z => ?_, by rw [if_pos q]⟩
    rw [q] at z
    exact absurd z.1 (by decide)
  have q1 : u.2.1 5 4 = 1 := h.1.2.1.1.resolve_left q
  rw [if_neg q]
  by_cases q2 : W < 100
  · refine Or.inr ⟨q1, q2, ?_, ?_⟩
    · rw [if_pos (show nI W < (100 : Int32) from nI_lt (a := W) (b := 100) q2 (by decide)), ck_t (inb_nI (by omega) (by decide)), lt1_i, sA_nI (by omega), lt1_i, show rF (rg_R u 29 W v) 0 33 = nI W from hW.1, nI_1]
      rfl
    · have hA : ∀ j, j ≠ 29 → (sF (rg_R u 29 W v) 0 33 (nI (W + 1))).2.1 j = u.2.1 j := fun j hj => pm_up_n hj
      have hg : ∀ r, agR u (sF (rg_R u 29 W v) 0 33 (nI (W + 1))) r := fun r => agR_A (fun j h1 h2 => hA j (by omega))
      obtain ⟨c1, c2, c7, c8, c9, c10, c11, c14⟩ := h.1
      have hro := c9 4 (Or.inr ⟨rfl, q1⟩)
      have hn8 := hro.2.2.2.2.2.2.1.1.2.2.1
      have hci := cI_le (L := Lm u 4) (nr u 4)
      refine ⟨core_now h.1 (fun r _ => hg r) ⟨rfl, rfl, rfl, rfl⟩ (fun j h1 h2 => hA j (by omega)) (hA 30 (by decide)) (fun r _ => by rw [hA 5 (by decide)]) (by rw [hA 5 (by decide)]; exact q1) (runOK_g (hg 4) hro) (by rw [hA 28 (by decide), rpm_g (hg 4), (sc_g (hg 4)).2.1]; exact c10 q1) ⟨rfl, by rw [Lm_g (hg 4), (sc_g (hg 4)).1]; omega⟩, ?_⟩
      obtain ⟨s1, s2, s3, s4, s5⟩ := h.2
      have a5' := hA 5 (by decide)
      refine ⟨?_, fun r hr => ?_, by rw [hA 28 (by decide)]; exact s3, by rw [hA 31 (by decide)]; exact s4, by rw [hA 37 (by decide)]; exact s5⟩
      · rcases s1 with q3 | ⟨r, q3, q4⟩
        · exact Or.inl q3
        · exact Or.inr ⟨r, by unfold act at q3 ⊢; rw [a5']; exact q3, q4⟩
      · have hs := s2 r (by unfold act at hr ⊢; rw [← a5']; exact hr)
        unfold okSim at *
        rw [Pm_g (hg r), Lm_g (hg r), (sc_g (hg r)).1, (sc_g (hg r)).2.1, hA 31 (by decide)]
        exact hs
  · refine Or.inl ⟨fun z => q2 z.2, ?_⟩
    rw [if_neg (show ¬ nI W < (100 : Int32) from nI_nlt (a := W) (b := 100) (by omega) (by omega))]
/-! begin -/
theorem m_beginM {F K W : Nat} {u : rg_U} (h : okM u K W) (hF : 10000 < F) : ∃ u', g_X10_begin F u = some (nI (cntK (u.2.1 1) 64), u') ∧ okM u' K 0 ∧ u'.1 = upd (upd u.1 33 0) 41 (-1) ∧ ∀ j i, u'.2.1 j i = m_begunA u j i := by
  obtain ⟨u', e, hf, hv⟩ := m_begin (u := u) hF
  refine ⟨u', e, ?_, hf, hv⟩
  obtain ⟨c1, c2, c7, ⟨U, D, c8a, c8b, b1, b2, b3, b4⟩, c9, c10, c11, c14⟩ := id h.1
  have f : ∀ k, k ≠ 33 → k ≠ 41 → u'.1 k = u.1 k := fun k h1 h2 => by rw [hf, pk_un h2, pk_un h1]
  have fr : ∀ r, r < 4 → agR u u' r := fun r hr => by
    refine ⟨fun j a b k c => ?_, fun j a b k c => ?_, fun j a => ?_, fun j a b k c => ?_, fun k c => ?_⟩
    all_goals rw [hv]; unfold m_begunA
    · rw [if_neg (by omega), if_neg (by omega), if_neg (by omega), if_neg (by omega), if_neg (by omega), if_neg (by omega), if_neg (by omega), if_neg (by omega), if_neg (by omega), if_neg (by omega), if_neg (by omega), if_neg (by omega)]
    · rw [if_neg (by omega), if_neg (by omega), if_neg (by omega), if_neg (by omega), if_neg (by omega), if_neg (by omega), if_neg (by omega), if_neg (by omega), if_neg (by omega), if_neg (by omega), if_neg (by omega), if_neg (by omega)]
    · unfold scal at a
      rw [if_neg (by omega), if_neg (by omega), if_neg (by omega), if_neg (by omega), if_neg (by omega), if_neg (by omega), if_neg (by omega), if_neg (by omega), if_neg (by omega), if_neg (by omega), if_neg (by omega), if_neg (by omega)]
    · rw [if_neg (by omega), if_neg (by omega), if_neg (by omega), if_neg (by omega), if_neg (by omega), if_neg (by omega), if_neg (by omega), if_neg (by omega), if_neg (by omega), if_neg (by omega), if_neg (by omega), if_neg (by omega)]
    · rw [if_neg (by omega), if_neg (by omega), if_neg (by omega), if_neg (by omega), if_neg (by omega), if_neg (by omega), if_neg (by omega), if_neg (by omega), if_neg (by omega), if_neg (by omega), if_neg (by omega), if_neg (by omega)]
  have a15 : u'.2.1 15 4 = 0 := by rw [hv]; rfl
  have a19 : u'.2.1 19 4 = 0 := by rw [hv]; rfl
  have a21 : u'.2.1 21 4 = 0 := by rw [hv]; rfl
  have a23 : u'.2.1 23 4 = nI U := by rw [hv]; exact c8a
  have a24 : u'.2.1 24 4 = nI D := by rw [hv]; exact c8b
  have a5 : u'.2.1 5 4 = 1 := by rw [hv]; rfl
  have n0 : nr u' 4 = 0 := by unfold nr; rw [a15]; rfl
  have t0 : Tr u' 4 = 0 := by unfold Tr; rw [a21]; rfl
  have cc0 : Cr u' 4 = 0 := by unfold Cr; rw [a19]; rfl
  have U0 : Ur u' 4 = U := by unfold Ur; rw [a23, tnn (by omega)]
  have D0 : Dr u' 4 = D := by unfold Dr; rw [a24, tnn (by omega)]
  have hP : Pm u' 4 = (ct 64 (u.2.1 1), ct 64 (u.2.1 2), ct 64 (u.2.1 3), ct 64 (u.2.1 4)) := by
    have key : ∀ j, 6 ≤ j → j ≤ 9 → ∀ k, k < 64 → u'.2.1 j (64 * 4 + k) = u.2.1 (j - 5) k := fun j a b k c => by
      rw [hv]
      unfold m_begunA
      rw [if_neg (by omega), if_neg (by omega), if_neg (by omega), if_neg (by omega), if_neg (by omega), if_neg (by omega), if_neg (by omega), if_neg (by omega), if_neg (by omega), if_neg (by omega), if_neg (by omega), if_pos (by omega), show 64 * 4 + k - 256 = k by omega]
    unfold Pm
    rw [ct_c (fun k hk => key 6 (by decide) (by decide) k hk), ct_c (fun k hk => key 7 (by decide) (by decide) k hk), ct_c (fun k hk => key 8 (by decide) (by decide) k hk), ct_c (fun k hk => key 9 (by decide) (by decide) k hk)]
  have okp : okP (Pm u' 4) := by
    rw [hP]
    intro k hk
    dsimp only
    rw [ct_lt hk, ct_lt hk, ct_lt hk, ct_lt hk]
    exact c7 k hk
  have hW0 := okW_new (P := Pm u' 4) (L := Lm u' 4) okp
  have hrun : runOK u' 4 := by
    unfold runOK
    rw [n0, t0, cc0, U0, D0]
    refine ⟨a15, a21, a23, a24, a19, ⟨b1, b2, b3, b4⟩, hW0.1, ⟨?_, fun k hk => ?_⟩, by omega, fun _ => 0, fun i hi => by omega, fun i j _ hj => by omega⟩
    · rw [Hm_k (by decide), hv]; rfl
    · rw [Hm_k (by omega), hv]
      by_cases z : k = 0
      · subst z
        exact Or.inr ⟨rfl, by omega⟩
      · left
        unfold m_begunA
        rw [if_neg (by omega), if_neg (by omega), if_neg (by omega), if_neg (by omega), if_neg (by omega), if_neg (by omega), if_neg (by omega), if_pos (by omega), if_neg (by omega)]
  have live : u'.2.1 28 = zrow := by
    funext i
    rw [hv]
    unfold m_begunA
    by_cases z : i < 134
    · rw [if_pos ⟨rfl, z⟩]; rfl
    · rw [if_neg (by omega), if_neg (by omega), if_neg (by omega), if_neg (by omega), if_neg (by omega), if_neg (by omega), if_neg (by omega), if_neg (by omega), if_neg (by omega), if_neg (by omega), if_neg (by omega), if_neg (by omega)]
      exact h.2.2.2.1 i (by omega)
  have oth : ∀ j, (1 ≤ j ∧ j ≤ 4) ∨ 29 ≤ j → u'.2.1 j = u.2.1 j := fun j hj => by
    funext i
    rw [hv]
    unfold m_begunA
    rw [if_neg (by omega), if_neg (by omega), if_neg (by omega), if_neg (by omega), if_neg (by omega), if_neg (by omega), if_neg (by omega), if_neg (by omega), if_neg (by omega), if_neg (by omega), if_neg (by omega), if_neg (by omega)]
  refine ⟨core_now h.1 fr ⟨f 4 (by decide) (by decide), f 5 (by decide) (by decide), f 29 (by decide) (by decide), f 30 (by decide) (by decide)⟩ (fun j h1 h2 => oth j (by omega)) (oth 30 (by omega)) (fun r hr => ?_) a5 hrun ?_ ⟨?_, ?_⟩, simM_none c1.2.1 ?_ ?_ ?_ ?_⟩
  · rw [hv]
    unfold m_begunA
    rw [if_neg (by omega), if_neg (by omega), if_neg (by omega), if_neg (by omega), if_neg (by omega), if_neg (by omega), if_neg (by omega), if_neg (by omega), if_neg (by omega), if_neg (by omega), if_neg (by omega), if_neg (by omega)]
  · rw [live]
    unfold rpm
    rw [n0, t0, hW0.2]
  · rw [hf]; rfl
  · rw [n0]
    show 0 + 0 ≤ 900
    omega
  · rw [hf]; rfl
  · rw [live]; exact fun i _ => rfl
  · rw [oth 31 (by omega)]; exact h.2.2.2.2.1
  · rw [oth 37 (by omega)]; exact h.2.2.2.2.2
end W_17
section W_18
-- 97d.poke
/-! an entry of the log; poke -/
def ntS (u : rg_U) (n : Nat) (s num pl v : Int32) : rg_U := rg_R (rg_R (rg_R (rg_R (rg_R (rg_R u 10 (3200 + n) (u.2.1 21 4)) 11 (3200 + n) s) 12 (3200 + n) num) 13 (3200 + n) pl) 14 (3200 + n) v) 15 4 (nI (n + 1))
theorem ntS_1 {u : rg_U} {n : Nat} {s num pl v : Int32} : (ntS u n s num pl v).1 = u.1 := rfl
theorem ntS_at {u : rg_U} {n : Nat} {s num pl v : Int32} (j i : Nat) : (ntS u n s num pl v).2.1 j i = if j = 15 ∧ i = 4 then nI (n + 1) else if (10 ≤ j ∧ j ≤ 14) ∧ i = 3200 + n then (if j = 10 then u.2.1 21 4 else if j = 11 then s else if j = 12 then num else if j = 13 then pl else v) else u.2.1 j i := by
  unfold ntS
  rw [R_at, R_at, R_at, R_at, R_at, R_at]
  by_cases h1 : j = 15 ∧ i = 4
  · rw [if_pos h1, if_pos h1]
  rw [if_neg h1, if_neg h1]
  by_cases h2 : i = 3200 + n
  · by_cases j14 : j = 14
    · subst j14; rw [if_pos ⟨rfl, h2⟩, if_pos ⟨by omega, h2⟩]; rfl
    rw [if_neg (fun z => j14 z.1)]
    by_cases j13 : j = 13
    · subst j13; rw [if_pos ⟨rfl, h2⟩, if_pos ⟨by omega, h2⟩]; rfl
    rw [if_neg (fun z => j13 z.1)]
    by_cases j12 : j = 12
    · subst j12; rw [if_pos ⟨rfl, h2⟩, if_pos ⟨by omega, h2⟩]; rfl
    rw [if_neg (fun z => j12 z.1)]
    by_cases j11 : j = 11
    · subst j11; rw [if_pos ⟨rfl, h2⟩, if_pos ⟨by omega, h2⟩]; rfl
    rw [if_neg (fun z => j11 z.1)]
    by_cases j10 : j = 10
    · subst j10; rw [if_pos ⟨rfl, h2⟩, if_pos ⟨by omega, h2⟩]; rfl
    rw [if_neg (fun z => j10 z.1), if_neg (by omega)]
  · rw [if_neg (fun z => h2 z.2), if_neg (fun z => h2 z.2), if_neg (fun z => h2 z.2), if_neg (fun z => h2 z.2), if_neg (fun z => h2 z.2), if_neg (fun z => h2 z.2)]
theorem ntS_n {u : rg_U} {n j : Nat} {s num pl v : Int32} (h : j < 10 ∨ 15 < j) : (ntS u n s num pl v).2.1 j = u.2.1 j := by
  funext i
  rw [ntS_at, if_neg (by omega), if_neg (by omega)]
theorem ntS_15 {u : rg_U} {n i : Nat} {s num pl v : Int32} (h : i ≠ 4) : (ntS u n s num pl v).2.1 15 i = u.2.1 15 i := by
  rw [ntS_at, if_neg (by omega), if_neg (by omega)]
theorem ntS_Lm {u : rg_U} {n : Nat} {s num pl v : Int32} (hn : n < 800) : agL (Lm u 4) (Lm (ntS u n s num pl v) 4) n ∧ (Lm (ntS u n s num pl v) 4).1 n = u.2.1 21 4 ∧ (Lm (ntS u n s num pl v) 4).2.1 n = s ∧ (Lm (ntS u n s num pl v) 4).2.2.1 n = num ∧ (Lm (ntS u n s num pl v) 4).2.2.2.1 n = pl ∧ (Lm (ntS u n s num pl v) 4).2.2.2.2 n = v := by
  refine ⟨fun k hk => ?_, ?_, ?_, ?_, ?_, ?_⟩
  · rw [Lm_0 (by omega), Lm_1 (by omega), Lm_2 (by omega), Lm_3 (by omega), Lm_4 (by omega), Lm_0 (by omega), Lm_1 (by omega), Lm_2 (by omega), Lm_3 (by omega), Lm_4 (by omega)]
    simp only [ntS_at]
    rw [if_neg (by omega), if_neg (by omega), if_neg (by omega), if_neg (by omega), if_neg (by omega), if_neg (by omega), if_neg (by omega), if_neg (by omega), if_neg (by omega), if_neg (by omega)]
    exact ⟨rfl, rfl, rfl, rfl, rfl⟩
  · rw [Lm_0 hn, ntS_at, if_neg (by omega), if_pos (by omega)]; rfl
  · rw [Lm_1 hn, ntS_at, if_neg (by omega), if_pos (by omega)]; rfl
  · rw [Lm_2 hn, ntS_at, if_neg (by omega), if_pos (by omega)]; rfl
  · rw [Lm_3 hn, ntS_at, if_neg (by omega), if_pos (by omega)]; rfl
  · rw [Lm_4 hn, ntS_at, if_neg (by omega), if_pos (by omega)]; rfl
theorem ntS_fr {u : rg_U} {n : Nat} {s num pl v : Int32} {r : Nat} (hr : r < 4) : agR u (ntS u n s num pl v) r := by
  refine ⟨fun j a b k c => ?_, fun j a b k c => ?_, fun j a => ?_, fun j a b k c => ?_, fun k c => ?_⟩
  all_goals rw [ntS_at, if_neg (by omega), if_neg (by omega)]
theorem m_notes {F n : Nat} {s num pl v : Int32} {u : rg_U} (h15 : u.2.1 15 4 = nI n) (hn : n < 800) : g_X10_notes F s num pl v u = some (ntS u n s num pl v) := by
  unfold g_X10_notes
  have e15 : rA u 15 4 = nI n := h15
  rw [ck_t (by decide), ck_t (by decide), e15, show (3200 : Int32) + nI n = nI (3200 + n) from nI_add 3200 n]
  simp only [lt1_i, ck_t (inb_nI (show 3200 + n < 4000 by omega) (by decide)), ck_t (show inb 4 5 by decide), sA_nI (show 3200 + n < 2 ^ 31 by omega)]
  have e2 : rA (rg_R (rg_R (rg_R (rg_R (rg_R u 10 (3200 + n) (rA u 21 4)) 11 (3200 + n) s) 12 (3200 + n) num) 13 (3200 + n) pl) 14 (3200 + n) v) 15 4 = nI n := h15
  rw [e2, nI_1]
  rfl
theorem mput_80 {m : Row} {p : Nat} {s n : Int32} : mput m p s n (80 + p) = m (80 + p) + (if m p = s ∧ m (40 + p) = n then 0 else 1) := by
  unfold mput
  rw [pk_un (by omega), pk_un (by omega), pk_us]
def pokeS (u : rg_U) (n p : Nat) (s num : Int32) : rg_U := sF (rw_ (ntS u n 2 num (nI p) s) 28 (mput (u.2.1 28) p s num)) 0 41 (-1)
theorem m_poke {F K W : Nat} {x s num : Int32} {u : rg_U} (h : okM u K W) : (¬ (u.2.1 5 4 = 1 ∧ ¬ g_X10_isPlace x = 0 ∧ ¬ g_X10_isValue s num = 0 ∧ nr u 4 < 800) ∧ g_X10_poke F x s num u = some (-1, u)) ∨ ∃ p, p < 40 ∧ x = nI p ∧ u.2.1 5 4 = 1 ∧ ¬ g_X10_isValue s num = 0 ∧ nr u 4 < 800 ∧ g_X10_poke F x s num u = some ((if u.2.1 28 p = s ∧ u.2.1 28 (40 + p) = num then 0 else 1), pokeS u (nr u 4) p s num) ∧ okM (pokeS u (nr u 4) p s num) K W := by
  unfold g_X10_poke
  rw [ck_t (by decide), ck_t (by decide)]
  have e5 : rA u 5 4 = u.2.1 5 4 := rfl
  rw [e5]
  by_cases q : u.2.1 5 4 = 0
  · refine Or.inl ⟨fun z => ?_, by rw [if_pos q]⟩
    rw [q] at z
    exact absurd z.1 (by decide)
  have q1 : u.2.1 5 4 = 1 := h.1.2.1.1.resolve_left q
  rw [if_neg q]
  by_cases qp : g_X10_isPlace x = 0
  · exact Or.inl ⟨fun z => z.2.1 qp, by rw [if_pos qp]⟩
  rw [if_neg qp]
  by_cases qv : g_X10_isValue s num = 0
  · exact Or.inl ⟨fun z => z.2.2.1 qv, by rw [if_pos qv]⟩
  rw [if_neg qv]
  obtain ⟨c1, c2, c7, c8, c9, c10, c11, c14⟩ := id h.1
  have hro := c9 4 (Or.inr ⟨rfl, q1⟩)
  obtain ⟨r1, r2, r3, r4, r5, r6, r7, r8, r9⟩ := id hro
  have hn8 := r7.1.2.2.1
  have hT3 := r7.1.2.2.2.1
  rw [show rA u 15 4 = nI (nr u 4) from r1]
  by_cases qn : nr u 4 = 800
  · exact Or.inl ⟨fun z => by omega, by rw [qn, if_pos (by decide)]⟩
  have qn8 : nr u 4 < 800 := by omega
  obtain ⟨p, hp, rfl⟩ := isPl qp
  refine Or.inr ⟨p, hp, rfl, q1, qv, qn8, ?_, ?_⟩
  · rw [if_neg (show ¬ nI (nr u 4) = (800 : Int32) from fun z => qn (nI_inj (b := 800) (by omega) (by decide) z)), c80, ck_t (inb_nI (by omega) (by decide)), m_notes r1 qn8, ob_i, m_puts2 hp, ob_i, lt1_i, ck_t (inb_nI (by omega) (by decide)), rA_nI (by omega), rA_nI (by omega)]
    have e28 : (ntS u (nr u 4) 2 num (nI p) s).2.1 28 = u.2.1 28 := ntS_n (by omega)
    rw [e28]
    show some ((rw_ (ntS u (nr u 4) 2 num (nI p) s) 28 (mput (u.2.1 28) p s num)).2.1 28 (80 + p) - u.2.1 28 (80 + p), _) = _
    rw [rw_at, mput_80, Int32.add_comm, Int32.add_sub_cancel]
    rfl
  · have hA : ∀ j, j ≠ 28 → (pokeS u (nr u 4) p s num).2.1 j = (ntS u (nr u 4) 2 num (nI p) s).2.1 j := fun j hj => rw_ne hj
    have hA2 : ∀ j, j ≠ 28 → (j < 10 ∨ 15 < j) → (pokeS u (nr u 4) p s num).2.1 j = u.2.1 j := fun j h1 h2 => (hA j h1).trans (ntS_n h2)
    have hg : ∀ r, r < 4 → agR u (pokeS u (nr u 4) p s num) r := fun r hr => agR_t (ntS_fr hr) (agR_A (fun j h1 h2 => hA j (by omega)))
    obtain ⟨l1, l2, l3, l4, l5, l6⟩ := ntS_Lm (u := u) (s := 2) (num := num) (pl := nI p) (v := s) qn8
    have eL : Lm (pokeS u (nr u 4) p s num) 4 = Lm (ntS u (nr u 4) 2 num (nI p) s) 4 := Lm_g (agR_A (fun j h1 h2 => hA j (by omega)))
    have eP : Pm (pokeS u (nr u 4) p s num) 4 = Pm u 4 := by
      unfold Pm
      rw [hA2 6 (by decide) (by omega), hA2 7 (by decide) (by omega), hA2 8 (by decide) (by omega), hA2 9 (by decide) (by omega)]
    have eH : Hm (pokeS u (nr u 4) p s num) 4 = Hm u 4 := by
      unfold Hm
      rw [hA2 20 (by decide) (by omega)]
    have e15 : (pokeS u (nr u 4) p s num).2.1 15 4 = nI (nr u 4 + 1) := by rw [hA 15 (by decide), ntS_at, if_pos ⟨rfl, rfl⟩]
    have en : nr (pokeS u (nr u 4) p s num) 4 = nr u 4 + 1 := by
      show tn ((pokeS u (nr u 4) p s num).2.1 15 4) = _
      rw [e15, tnn (by omega)]
    have eT : Tr (pokeS u (nr u 4) p s num) 4 = Tr u 4 := by unfold Tr; rw [hA2 21 (by decide) (by omega)]
    have eU : Ur (pokeS u (nr u 4) p s num) 4 = Ur u 4 := by unfold Ur; rw [hA2 23 (by decide) (by omega)]
    have eD : Dr (pokeS u (nr u 4) p s num) 4 = Dr u 4 := by unfold Dr; rw [hA2 24 (by decide) (by omega)]
    have eC : Cr (pokeS u (nr u 4) p s num) 4 = Cr u 4 := by unfold Cr; rw [hA2 19 (by decide) (by omega)]
    have hrun : runOK (pokeS u (nr u 4) p s num) 4 := by
      unfold runOK
      rw [en, eT, eU, eD, eC, eL, eP, eH, hA2 21 (by decide) (by omega), hA2 23 (by decide) (by omega), hA2 24 (by decide) (by omega), hA2 19 (by decide) (by omega), hA2 16 (by decide) (by omega)]
      exact ⟨e15, r2, r3, r4, r5, r6, okW_poke r7 l1 qn8 l3 (l2.trans r2) hp l5, r8, r9⟩
    have hrp := (poke_rp r7 l1 l3 (l2.trans r2)).2
    have hlive : (pokeS u (nr u 4) p s num).2.1 28 = (rpm (pokeS u (nr u 4) p s num) 4 (Tr (pokeS u (nr u 4) p s num) 4)).1 := by
      unfold rpm
      rw [en, eT, eL, eP, hrp, l4, l5, l6, tnn (by omega)]
      show (rw_ (ntS u (nr u 4) 2 num (nI p) s) 28 (mput (u.2.1 28) p s num)).2.1 28 = _
      rw [rw_at, c10 q1]
      rfl
    have cIe : cI (Lm (ntS u (nr u 4) 2 num (nI p) s) 4) (nr u 4 + 1) = cI (Lm u 4) (nr u 4) := by
      have hc : ∀ k, k ≤ nr u 4 → cI (Lm (ntS u (nr u 4) 2 num (nI p) s) 4) k = cI (Lm u 4) k := by
        intro k
        induction k with
        | zero => intro _; rfl
        | succ k ih =>
          intro hk
          unfold cI
          rw [ih (by omega), (l1 k (by omega)).2.1]
      show cI (Lm (ntS u (nr u 4) 2 num (nI p) s) 4) (nr u 4) + (if (Lm (ntS u (nr u 4) 2 num (nI p) s) 4).2.1 (nr u 4) = 0 then 1 else 0) = _
      rw [hc _ (Nat.le_refl _), l3, if_neg (by decide)]
      rfl
    refine ⟨core_now h.1 hg ⟨rfl, rfl, rfl, rfl⟩ (fun j h1 h2 => hA2 j (by omega) (by omega)) (hA2 30 (by decide) (by omega)) (fun r _ => by rw [hA2 5 (by decide) (by omega)]) (by rw [hA2 5 (by decide) (by omega)]; exact q1) hrun hlive ⟨c11.1, by rw [en, eL, cIe]; exact c11.2.2 q1⟩, simM_none c1.2.1 rfl ?_ ?_ ?_⟩
    · rw [hlive]; exact rpm_z hrun (Nat.le_refl _)
    · rw [hA2 31 (by decide) (by omega)]; exact h.2.2.2.2.1
    · rw [hA2 37 (by decide) (by omega)]; exact h.2.2.2.2.2
end W_18
section W_19
-- 97e.comes
/-! a step of the run that is now: what is taken, what is held -/
def stM (u : rg_U) (W : Nat) : Int32 := if u.2.1 28 132 = 0 then (if kindOf (Pm u 4) (u.2.1 28 120) = 19 ∧ W = 0 then 1 else if (kindOf (Pm u 4) (u.2.1 28 120) = 19 ∨ kindOf (Pm u 4) (u.2.1 28 120) = 20) ∧ nr u 4 = 800 then 3 else 0) else u.2.1 28 132
theorem live_ok {u : rg_U} {K W : Nat} (h : coreM u K W) (h1 : u.2.1 5 4 = 1) : okR (u.2.1 28) ∧ u.2.1 28 133 = nI (Tr u 4) := by
  have hro := h.2.2.2.2.1 4 (Or.inr ⟨rfl, h1⟩)
  rw [h.2.2.2.2.2.1 h1]
  have := rp_ok hro.2.2.2.2.2.2.1.1 (Tr u 4) (Nat.le_refl _)
  exact ⟨this.1, this.2.1⟩
theorem m_status {F K W : Nat} {u : rg_U} (h : coreM u K W) (h1 : u.2.1 5 4 = 1) : g_X10_status F u = some (stM u W) := by
  obtain ⟨⟨⟨cn, hc1, hc2⟩, -⟩, -⟩ := live_ok h h1
  have hro := h.2.2.2.2.1 4 (Or.inr ⟨rfl, h1⟩)
  have hn8 := hro.2.2.2.2.2.2.1.1.2.2.1
  have hW := h.2.2.2.2.2.2.1
  unfold g_X10_status stM
  have e132 : rA u 28 132 = u.2.1 28 132 := rfl
  have e120 : rA u 28 120 = nI cn := hc2
  rw [ck_t (by decide), ck_t (by decide), ck_t (by decide), e132, e120, show g_X10_kindAt F 4 (nI cn) u = some (kindOf (Pm u 4) (nI cn)) from m_kindAt (r := 4) (by decide) hc1, ob_i, hc2, show rF u 0 33 = nI W from hW.1]
  unfold g_X10_status_j48 g_X10_status_j60
  have e15 : rA u 15 4 = nI (nr u 4) := hro.1
  rw [ck_t (by decide), e15]
  have z15 : nI (nr u 4) = 800 ↔ nr u 4 = 800 := ⟨fun q => nI_inj (b := 800) (by omega) (by decide) q, fun q => by rw [q]; rfl⟩
  have zW : nI W = 0 ↔ W = 0 := ⟨fun q => nI_inj (b := 0) (by omega) (by decide) q, fun q => by rw [q]; rfl⟩
  simp only [z15, zW]
  by_cases q0 : u.2.1 28 132 = 0
  · rw [if_pos q0, if_pos q0]
    by_cases q1 : kindOf (Pm u 4) (nI cn) = 19
    · rw [if_pos q1]
      by_cases q2 : W = 0
      · rw [if_pos q2, if_pos ⟨q1, q2⟩]
      · rw [if_neg q2, if_pos q1, if_neg (show ¬ (kindOf (Pm u 4) (nI cn) = 19 ∧ W = 0) from fun z => q2 z.2)]
        by_cases q3 : nr u 4 = 800
        · rw [if_pos q3, if_pos ⟨Or.inl q1, q3⟩]
        · rw [if_neg q3, if_neg (fun z => q3 z.2)]
    · rw [if_neg q1, if_neg q1, if_neg (show ¬ (kindOf (Pm u 4) (nI cn) = 19 ∧ W = 0) from fun z => q1 z.1)]
      by_cases q2 : kindOf (Pm u 4) (nI cn) = 20
      · rw [if_pos q2]
        by_cases q3 : nr u 4 = 800
        · rw [if_pos q3, if_pos ⟨Or.inr q2, q3⟩]
        · rw [if_neg q3, if_neg (fun z => q3 z.2)]
      · rw [if_neg q2, if_neg (fun z => z.1.elim q1 q2)]
  · rw [if_neg q0, if_neg q0]
theorem m_takes {F n W : Nat} {u : rg_U} (h15 : u.2.1 15 4 = nI n) (hn : n < 800) (h33 : u.1 33 = nI W) (hW : 0 < W) (hW9 : W ≤ 900) (hF : 10000 < F) : ∃ v, g_X10_takesInput F u = some v ∧ v.1 = upd u.1 33 (nI (W - 1)) ∧ ∀ j i, v.2.1 j i = if j = 29 ∧ i < W - 1 then u.2.1 29 (i + 1) else (ntS u n 0 (u.2.1 29 0) (-1) 2).2.1 j i := by
  unfold g_X10_takesInput
  rw [ck_t (by decide), show rA u 29 0 = u.2.1 29 0 from rfl, m_notes h15 hn, ob_i, lt1_i, show rF (ntS u n 0 (u.2.1 29 0) (-1) 2) 0 33 = nI W from h33, show nI W - 1 = nI (W - 1) from nI_sub (a := W) (b := 1) hW]
  obtain ⟨r, e, hr⟩ := lp_ex (body := fun (s : Int32 × rg_U) => g_X10_takesInput_l25 F s.1 s.2) (P := fun k s => ∃ m, k + m = W - 1 ∧ s.1 = nI m ∧ s.2.1 = upd u.1 33 (nI (W - 1)) ∧ ∀ j i, s.2.2.1 j i = if j = 29 ∧ i < m then u.2.1 29 (i + 1) else (ntS u n 0 (u.2.1 29 0) (-1) 2).2.1 j i) (R := fun v => v.1 = upd u.1 33 (nI (W - 1)) ∧ ∀ j i, v.2.1 j i = if j = 29 ∧ i < W - 1 then u.2.1 29 (i + 1) else (ntS u n 0 (u.2.1 29 0) (-1) 2).2.1 j i) (by
    rintro k ⟨s1, s2⟩ ⟨m, hm, e1, e2, hv⟩
    dsimp only at e1 e2 hv
    subst e1
    unfold g_X10_takesInput_l25
    dsimp only
    have e33 : rF s2 0 33 = nI (W - 1) := by
      unfold rF
      rw [e2]
      exact pk_us
    rw [e33]
    by_cases q : m = W - 1
    · right
      subst q
      exact ⟨s2, if_pos (nI_le (Nat.le_refl _) (by omega)), e2, hv⟩
    · left
      rw [if_neg (nI_ge (by omega) (by omega)), nI_1, ck_t (inb_nI (by omega) (by decide)), ck_t (inb_nI (by omega) (by decide)), lt1_i, sA_nI (by omega), rA_nI (by omega)]
      refine ⟨_, k - 1, rfl, by omega, m + 1, by omega, rfl, e2, fun j i => ?_⟩
      rw [R_at, hv j i, hv 29 (m + 1), if_neg (show ¬ (29 = 29 ∧ m + 1 < m) by omega), ntS_n (j := 29) (by omega)]
      by_cases h1 : j = 29 ∧ i = m
      · obtain ⟨rfl, rfl⟩ := h1
        rw [if_pos ⟨rfl, rfl⟩, if_pos (show 29 = 29 ∧ i < i + 1 by omega)]
      · rw [if_neg h1]
        by_cases h2 : j = 29 ∧ i < m
        · rw [if_pos h2, if_pos (show j = 29 ∧ i < m + 1 by omega)]
        · rw [if_neg h2, if_neg (show ¬ (j = 29 ∧ i < m + 1) by omega)]) F (W - 1) ((0 : Int32), sF (ntS u n 0 (u.2.1 29 0) (-1) 2) 0 33 (nI (W - 1))) (by omega) ⟨0, by omega, rfl, rfl, fun j i => by rw [if_neg (by omega)]; rfl⟩
  exact ⟨r, by rw [ob_e e], hr⟩
theorem m_draws {F n : Nat} {b : Int32} {u : rg_U} (h15 : u.2.1 15 4 = nI n) (hn : n < 800) (hb : ¬ b = 0) : g_X10_draws F b u = some (ntS (sF u 0 34 (1664525 * u.1 34 + 1013904223)) n 1 (dx_rem (dx_ushr (1664525 * u.1 34 + 1013904223) 8) b) (-1) 2) := by
  unfold g_X10_draws
  rw [lt1_i, ck_t hb, m_notes (u := sF u 0 34 (1664525 * rF u 0 34 + 1013904223)) h15 hn, ob_i]
  rfl
/-- how many are held -/
def cH (H : Nat → Int32) : Nat → Nat
  | 0 => 0
  | k + 1 => cH H k + (if H k = 0 then 0 else 1)
theorem cH_le (H : Nat → Int32) : ∀ k, cH H k ≤ k
  | 0 => Nat.le_refl _
  | k + 1 => by
    unfold cH
    have := cH_le H k
    by_cases q : H k = 0
    · rw [if_pos q]; omega
    · rw [if_neg q]; omega
theorem m_heldMany {F r : Nat} {u : rg_U} (hr : r < 5) (hF : 10000 < F) : g_X10_heldMany F (nI r) u = some (nI (cH (Hm u r) 3001)) := by
  unfold g_X10_heldMany
  have h := lp_up (body := fun (s : Int32 × Int32) => g_X10_heldMany_l4 F (nI r) u s.1 s.2) (fun k => (nI (cH (Hm u r) k), nI k)) 3001 (nI (cH (Hm u r) 3001)) (fun k hk => by
    show g_X10_heldMany_l4 F (nI r) u (nI (cH (Hm u r) k)) (nI k) = _
    unfold g_X10_heldMany_l4
    rw [if_neg (show ¬ (3000 : Int32) < nI k from nI_nlt (a := 3000) (b := k) (by omega) (by decide)), heldAt_nI, ck_t (inb_nI (by omega) (by decide)), rA_nI (by omega), nI_1, ← Hm_k hk]
    show _ = some (Sum.inl (nI (cH (Hm u r) k + if Hm u r k = 0 then 0 else 1), nI (k + 1)))
    unfold g_X10_one
    by_cases q : Hm u r k = 0
    · rw [if_pos q, if_pos q, show nI (cH (Hm u r) k) + 0 = nI (cH (Hm u r) k + 0) from nI_add _ 0]
    · rw [if_neg q, if_neg q, nI_1]) (by
    show g_X10_heldMany_l4 F (nI r) u _ (nI 3001) = _
    unfold g_X10_heldMany_l4
    rw [if_pos (by decide)]) F 0 (Nat.zero_le _) (by omega)
  rw [show (nI (cH (Hm u r) 0), nI 0) = ((0 : Int32), (0 : Int32)) from rfl] at h
  rw [h]
  rfl
/-- what is held when the number w comes -/
def nH (H : Nat → Int32) (D w : Nat) : Nat → Int32 := fun k => if k = w then 1 else if (1 ≤ k ∧ k < w) ∧ gw k D ≤ w then 0 else H k
theorem m_comesl {F D w : Nat} {u : rg_U} (h24 : u.2.1 24 4 = nI D) (hD : D ≤ 8) (hw : w ≤ 3000) (hF : 10000 < F) : ∃ v, lp (fun (s : Int32 × rg_U) => g_X10_comes_l41 F (nI w) s.1 s.2) F ((1 : Int32), u) = some v ∧ v.1 = u.1 ∧ ∀ j i, v.2.1 j i = if j = 20 ∧ (12004 < i ∧ i < 12004 + w) ∧ gw (i - 12004) D ≤ w then 0 else u.2.1 j i := by
  refine lp_ex (body := fun (s : Int32 × rg_U) => g_X10_comes_l41 F (nI w) s.1 s.2) (P := fun k s => ∃ m, k + m = w + 1 ∧ 1 ≤ m ∧ s.1 = nI m ∧ s.2.1 = u.1 ∧ ∀ j i, s.2.2.1 j i = if j = 20 ∧ (12004 < i ∧ i < 12004 + m ∧ i < 12004 + w) ∧ gw (i - 12004) D ≤ w then 0 else u.2.1 j i) (R := fun v => v.1 = u.1 ∧ ∀ j i, v.2.1 j i = if j = 20 ∧ (12004 < i ∧ i < 12004 + w) ∧ gw (i - 12004) D ≤ w then 0 else u.2.1 j i) ?_ F w ((1 : Int32), u) (by omega) ⟨1, by omega, by omega, rfl, rfl, fun j i => by rw [if_neg (by omega)]⟩
  rintro k ⟨s1, s2⟩ ⟨m, hm, hm1, e1, e2, hv⟩
  dsimp only at e1 e2 hv
  subst e1
  unfold g_X10_comes_l41 g_X10_comes_j85
  dsimp only
  by_cases q : w ≤ m
  · right
    refine ⟨s2, if_pos (nI_le q (by omega)), e2, fun j i => ?_⟩
    rw [hv j i]
    by_cases z : j = 20 ∧ (12004 < i ∧ i < 12004 + w) ∧ gw (i - 12004) D ≤ w
    · rw [if_pos z, if_pos (by omega)]
    · rw [if_neg z, if_neg (by omega)]
  · left
    have e24 : rA s2 24 4 = nI D := by
      show s2.2.1 24 4 = _
      rw [hv, if_neg (by omega)]
      exact h24
    have hg := gw_le (k := m) (d := D) (by omega) (by omega) hD
    rw [if_neg (nI_ge (by omega) (by omega)), show g_X10_heldAt 4 (nI m) = nI (12004 + m) from heldAt_nI (r := 4) (k := m), ck_t (inb_nI (by omega) (by decide)), ck_t (inb_nI (by omega) (by decide)), rA_nI (by omega), ck_t (by decide), e24, m_goesWith (by omega) (by omega) hD (by omega), ob_i, lt1_i, sZ_nI (by omega), nar0, nI_1]
    have em : s2.2.1 20 (12004 + m) = u.2.1 20 (12004 + m) := by rw [hv, if_neg (by omega)]
    by_cases q2 : s2.2.1 20 (12004 + m) = 0
    · rw [if_pos q2]
      refine ⟨_, k - 1, rfl, by omega, m + 1, by omega, by omega, rfl, e2, fun j i => ?_⟩
      rw [hv j i]
      by_cases z : j = 20 ∧ i = 12004 + m
      · obtain ⟨rfl, rfl⟩ := z
        rw [if_neg (by omega), ← em, q2]
        by_cases y : 20 = 20 ∧ (12004 < 12004 + m ∧ 12004 + m < 12004 + (m + 1) ∧ 12004 + m < 12004 + w) ∧ gw (12004 + m - 12004) D ≤ w
        · rw [if_pos y]
        · rw [if_neg y]
      · by_cases y : j = 20 ∧ (12004 < i ∧ i < 12004 + m ∧ i < 12004 + w) ∧ gw (i - 12004) D ≤ w
        · rw [if_pos y, if_pos (by omega)]
        · rw [if_neg y, if_neg (by omega)]
    · rw [if_neg q2]
      by_cases q3 : w < gw m D
      · rw [if_pos (nI_lt q3 (by omega))]
        refine ⟨_, k - 1, rfl, by omega, m + 1, by omega, by omega, rfl, e2, fun j i => ?_⟩
        rw [hv j i]
        by_cases y : j = 20 ∧ (12004 < i ∧ i < 12004 + m ∧ i < 12004 + w) ∧ gw (i - 12004) D ≤ w
        · rw [if_pos y, if_pos (by omega)]
        · rw [if_neg y]
          by_cases z : i = 12004 + m
          · subst z
            rw [if_neg (by rw [show 12004 + m - 12004 = m by omega]; omega)]
          · rw [if_neg (by omega)]
      · rw [if_neg (nI_nlt (by omega) (by omega))]
        refine ⟨_, k - 1, rfl, by omega, m + 1, by omega, by omega, rfl, e2, fun j i => ?_⟩
        rw [R_at, hv j i]
        by_cases z : j = 20 ∧ i = 12004 + m
        · rw [if_pos z]
          obtain ⟨rfl, rfl⟩ := z
          rw [if_pos (by rw [show 12004 + m - 12004 = m by omega]; omega)]
        · rw [if_neg z]
          by_cases y : j = 20 ∧ (12004 < i ∧ i < 12004 + m ∧ i < 12004 + w) ∧ gw (i - 12004) D ≤ w
          · rw [if_pos y, if_pos (by omega)]
          · rw [if_neg y, if_neg (by omega)]
/-- time t has come: nothing, or the state is held and what goes by it goes -/
theorem m_comes {F t U D : Nat} {u : rg_U} (h21 : u.2.1 21 4 = nI t) (h23 : u.2.1 23 4 = nI U) (h24 : u.2.1 24 4 = nI D) (ht : t ≤ 3000) (ht1 : 1 ≤ t) (hU : 0 < U) (hU6 : U ≤ 64) (hD : D ≤ 8) (hF : 10000 < F) : ∃ v, g_X10_comes F u = some v ∧ v.1 = u.1 ∧ (∀ j, j ≠ 20 → j ≠ 26 → v.2.1 j = u.2.1 j) ∧ (∀ i, i < 12004 → v.2.1 20 i = u.2.1 20 i) ∧ (∀ i, i ≠ 4 → v.2.1 26 i = u.2.1 26 i) ∧ ((¬ t % U = 0 ∧ v = u) ∨ (t % U = 0 ∧ (∀ k, k ≤ 3000 → Hm v 4 k = nH (Hm u 4) D (t / U) k) ∧ v.2.1 26 4 = imax (u.2.1 26 4) (nI (cH (Hm v 4) 3001)))) := by
  have hd : t / U ≤ 3000 := Nat.le_trans (Nat.div_le_self t U) ht
  have hd0 : 0 ≤ t / U := Nat.zero_le _
  unfold g_X10_comes
  have e21 : rA u 21 4 = nI t := h21
  have e23 : rA u 23 4 = nI U := h23
  rw [ck_t (by decide), ck_t (by decide), e21, e23, ck_t (nI_ne0 hU (by omega)), show dx_rem (nI t) (nI U) = nI (t % U) from pk_rem (by omega) hU (by omega)]
  by_cases q : t % U = 0
  · rw [if_pos (by rw [q]; rfl), ck_t (by decide), ck_t (nI_ne0 hU (by omega)), pk_div (by omega) hU (by omega), show g_X10_heldAt 4 (nI (t / U)) = nI (12004 + t / U) from heldAt_nI (r := 4), ck_t (inb_nI (by omega) (by decide)), lt1_i, sZ_nI (by omega), nar1]
    obtain ⟨v, e, f1, hv⟩ := m_comesl (F := F) (D := D) (w := t / U) (u := rg_R u 20 (12004 + t / U) 1) h24 hD hd hF
    rw [e, ob_i, ck_t (by decide), show g_X10_heldMany F 4 v = some (nI (cH (Hm v 4) 3001)) from m_heldMany (r := 4) (by decide) hF, ob_i, ck_t (by decide), lt1_i]
    have e26 : rA v 26 4 = u.2.1 26 4 := by
      show v.2.1 26 4 = _
      rw [hv, if_neg (by omega)]
      rfl
    rw [e26]
    have hw4 : sA v 26 4 (imax (u.2.1 26 4) (nI (cH (Hm v 4) 3001))) = rg_R v 26 4 (imax (u.2.1 26 4) (nI (cH (Hm v 4) 3001))) := rfl
    rw [hw4]
    have hH : Hm (rg_R v 26 4 (imax (u.2.1 26 4) (nI (cH (Hm v 4) 3001)))) 4 = Hm v 4 := rfl
    refine ⟨_, rfl, f1, fun j h1 h2 => ?_, fun i hi => ?_, fun i hi => ?_, Or.inr ⟨q, fun k hk => ?_, ?_⟩⟩
    · funext i
      rw [R_at, if_neg (fun z => h2 z.1), hv, if_neg (fun z => h1 z.1), R_at, if_neg (fun z => h1 z.1)]
    · rw [R_at, if_neg (by omega), hv, if_neg (by omega), R_at, if_neg (by omega)]
    · rw [R_at, if_neg (by omega), hv, if_neg (by omega), R_at, if_neg (by omega)]
    · rw [hH, Hm_k (by omega), hv, R_at]
      unfold nH
      by_cases z1 : k = t / U
      · rw [if_pos z1, if_neg (by omega), if_pos (by omega)]
      · rw [if_neg z1]
        by_cases z2 : (1 ≤ k ∧ k < t / U) ∧ gw k D ≤ t / U
        · rw [if_pos z2, if_pos (by rw [show 3001 * 4 + k - 12004 = k by omega]; omega)]
        · rw [if_neg z2, if_neg (by rw [show 3001 * 4 + k - 12004 = k by omega]; omega), if_neg (by omega), Hm_k (by omega)]
    · rw [hH, R_at, if_pos ⟨rfl, rfl⟩]
  · rw [if_neg (nI_ne0 (by omega) (by have := Nat.mod_lt t hU; omega))]
    exact ⟨u, rfl, rfl, fun _ _ _ => rfl, fun _ _ => rfl, fun _ _ => rfl, Or.inl ⟨q, rfl⟩⟩
end W_19
section W_20
-- 97f.goes
/-! goesOn -/
def kn (u : rg_U) : Int32 := kindOf (Pm u 4) (u.2.1 28 120)
def drawX (x : Int32) : Int32 := 1664525 * x + 1013904223
def drawN (x b : Int32) : Int32 := dx_rem (dx_ushr (drawX x) 8) b
def entryIs (L : Lg) (n : Nat) (a b c d e : Int32) : Prop := L.1 n = a ∧ L.2.1 n = b ∧ L.2.2.1 n = c ∧ L.2.2.2.1 n = d ∧ L.2.2.2.2 n = e
/-- what is taken from outside, ahead of the step -/
def tkD (u v : rg_U) (W W' n' : Nat) : Prop :=
  (kn u = 19 ∧ 0 < W ∧ nr u 4 < 800 ∧ W' = W - 1 ∧ n' = nr u 4 + 1 ∧ entryIs (Lm v 4) (nr u 4) (nI (Tr u 4)) 0 (u.2.1 29 0) (-1) 2 ∧ v.1 34 = u.1 34 ∧ ∀ i, i < W' → v.2.1 29 i = u.2.1 29 (i + 1)) ∨
  (kn u = 20 ∧ nr u 4 < 800 ∧ W' = W ∧ n' = nr u 4 + 1 ∧ entryIs (Lm v 4) (nr u 4) (nI (Tr u 4)) 1 (drawN (u.1 34) ((Pm u 4).2.2.1 (tn (u.2.1 28 120)))) (-1) 2 ∧ v.1 34 = drawX (u.1 34) ∧ v.2.1 29 = u.2.1 29) ∨
  (¬ kn u = 19 ∧ ¬ kn u = 20 ∧ v = u ∧ W' = W ∧ n' = nr u 4)
def goT (F : Nat) (u : rg_U) : Option rg_U := if kn u = 19 then g_X10_takesInput F u else if kn u = 20 then g_X10_draws F ((Pm u 4).2.2.1 (tn (u.2.1 28 120))) u else some u
theorem cI_c {L L' : Lg} {n : Nat} (h : agL L L' n) : ∀ k, k ≤ n → cI L' k = cI L k
  | 0, _ => rfl
  | k + 1, hk => by
    unfold cI
    rw [cI_c h k (by omega), (h k (by omega)).2.1]
theorem m_take {F K W : Nat} {u : rg_U} (h : coreM u K W) (h1 : u.2.1 5 4 = 1) (hs : stM u W = 0) (hF : 10000 < F) : ∃ v W' n', goT F u = some v ∧ tkD u v W W' n' ∧ (∀ k, k ≠ 33 → k ≠ 34 → v.1 k = u.1 k) ∧ v.1 33 = nI W' ∧ (∀ j, (j < 10 ∨ 15 < j) → j ≠ 29 → v.2.1 j = u.2.1 j) ∧ (∀ r, r < 4 → agR u v r) ∧ v.2.1 15 4 = nI n' ∧ agL (Lm u 4) (Lm v 4) (nr u 4) ∧ W' + cI (Lm v 4) n' ≤ 900 := by
  have hro := h.2.2.2.2.1 4 (Or.inr ⟨rfl, h1⟩)
  obtain ⟨r1, r2, r3, r4, r5, r6, r7, r8, r9⟩ := id hro
  have hn8 := r7.1.2.2.1
  obtain ⟨w1, w2, w3⟩ := h.2.2.2.2.2.2.1
  have w4 := w3 h1
  have hlive := live_ok h h1
  unfold stM at hs
  have q0 : u.2.1 28 132 = 0 := by
    by_cases z : u.2.1 28 132 = 0
    · exact z
    · rw [if_neg z] at hs; exact absurd hs z
  rw [if_pos q0] at hs
  unfold goT
  by_cases k19 : kn u = 19
  · have hW : 0 < W := by
      rcases Nat.eq_zero_or_pos W with z | z
      · rw [if_pos ⟨k19, z⟩] at hs; exact absurd hs (by decide)
      · exact z
    rw [if_neg (fun z => by omega)] at hs
    have hn : nr u 4 < 800 := by
      rcases Nat.lt_or_ge (nr u 4) 800 with z | z
      · exact z
      · rw [if_pos ⟨Or.inl k19, by omega⟩] at hs; exact absurd hs (by decide)
    obtain ⟨v, e, f1, hv⟩ := m_takes (F := F) r1 hn w1 hW w2 hF
    obtain ⟨l1, l2, l3, l4, l5, l6⟩ := ntS_Lm (u := u) (s := 0) (num := u.2.1 29 0) (pl := -1) (v := 2) hn
    have hA : ∀ j, j ≠ 29 → v.2.1 j = (ntS u (nr u 4) 0 (u.2.1 29 0) (-1) 2).2.1 j := fun j hj => by
      funext i
      rw [hv, if_neg (fun z => hj z.1)]
    have eL : Lm v 4 = Lm (ntS u (nr u 4) 0 (u.2.1 29 0) (-1) 2) 4 := Lm_g (agR_A (fun j a b => hA j (by omega)))
    rw [if_pos k19]
    refine ⟨v, W - 1, nr u 4 + 1, e, Or.inl ⟨k19, hW, hn, rfl, rfl, ?_, ?_, fun i hi => ?_⟩, fun k a b => by rw [f1, pk_un a], by rw [f1]; exact pk_us, fun j a b => by rw [hA j b]; exact ntS_n a, fun r hr => agR_t (ntS_fr hr) (agR_A (fun j a b => hA j (by omega))), ?_, by rw [eL]; exact l1, ?_⟩
    · rw [eL]; exact ⟨l2.trans r2, l3, l4, l5, l6⟩
    · rw [f1]; exact pk_un (by decide)
    · rw [hv, if_pos ⟨rfl, hi⟩]
    · rw [hA 15 (by decide), ntS_at, if_pos ⟨rfl, rfl⟩]
    · rw [eL]
      show W - 1 + (cI (Lm (ntS u (nr u 4) 0 (u.2.1 29 0) (-1) 2) 4) (nr u 4) + (if (Lm (ntS u (nr u 4) 0 (u.2.1 29 0) (-1) 2) 4).2.1 (nr u 4) = 0 then 1 else 0)) ≤ 900
      rw [cI_c l1 _ (Nat.le_refl _), l3, if_pos rfl]
      omega
  · rw [if_neg (fun z => k19 z.1)] at hs
    rw [if_neg k19]
    by_cases k20 : kn u = 20
    · have hn : nr u 4 < 800 := by
        rcases Nat.lt_or_ge (nr u 4) 800 with z | z
        · exact z
        · rw [if_pos ⟨Or.inr k20, by omega⟩] at hs; exact absurd hs (by decide)
      obtain ⟨⟨⟨cn, hc1, hc2⟩, -⟩, -⟩ := hlive
      have k20' : kindOf (Pm u 4) (nI cn) = 20 := by rw [← hc2]; exact k20
      obtain ⟨hc64, ek⟩ := kind_in hc1 (by rw [k20']; decide)
      have hv := r7.1.1 cn hc64
      rw [← ek, k20'] at hv
      have hb : ¬ (Pm u 4).2.2.1 cn = 0 := by
        have := (fine_abc (k := 20) (by decide) hv).2.1
        intro z
        rw [z] at this
        exact this (by decide)
      rw [if_pos k20, hc2, tnn (by omega), m_draws r1 hn hb]
      obtain ⟨l1, l2, l3, l4, l5, l6⟩ := ntS_Lm (u := sF u 0 34 (1664525 * u.1 34 + 1013904223)) (s := 1) (num := dx_rem (dx_ushr (1664525 * u.1 34 + 1013904223) 8) ((Pm u 4).2.2.1 cn)) (pl := -1) (v := 2) hn
      refine ⟨_, W, nr u 4 + 1, rfl, Or.inr (Or.inl ⟨k20, hn, rfl, rfl, ?_, rfl, ntS_n (by omega)⟩), fun k a b => pk_un b, ?_, fun j a b => ntS_n a, fun r hr => ntS_fr (u := sF u 0 34 (1664525 * u.1 34 + 1013904223)) hr, ?_, l1, ?_⟩
      · rw [hc2, tnn (by omega)]; exact ⟨l2.trans r2, l3, l4, l5, l6⟩
      · exact w1
      · rw [ntS_at, if_pos ⟨rfl, rfl⟩]
      · show W + (cI (Lm (ntS (sF u 0 34 (1664525 * u.1 34 + 1013904223)) (nr u 4) 1 (dx_rem (dx_ushr (1664525 * u.1 34 + 1013904223) 8) ((Pm u 4).2.2.1 cn)) (-1) 2) 4) (nr u 4) + (if (Lm (ntS (sF u 0 34 (1664525 * u.1 34 + 1013904223)) (nr u 4) 1 (dx_rem (dx_ushr (1664525 * u.1 34 + 1013904223) 8) ((Pm u 4).2.2.1 cn)) (-1) 2) 4).2.1 (nr u 4) = 0 then 1 else 0)) ≤ 900
        rw [cI_c l1 _ (Nat.le_refl _), l3, if_neg (by decide)]
        exact w4
    · rw [if_neg k20]
      exact ⟨u, W, nr u 4, rfl, Or.inr (Or.inr ⟨k19, k20, rfl, rfl, rfl⟩), fun _ _ _ => rfl, w1, fun _ _ _ => rfl, fun r _ => agR_A (fun _ _ _ => rfl), r1, agL_r, w4⟩
/-- a call is noted -/
def calS (s : rg_U) (C : Nat) (t p d : Int32) : rg_U := rg_R (rg_R (rg_R (rg_R s 16 (400 + C) t) 17 (400 + C) p) 18 (400 + C) d) 19 4 (nI (C + 1))
theorem calS_n {s : rg_U} {C j : Nat} {t p d : Int32} (h : j < 16 ∨ 19 < j) : (calS s C t p d).2.1 j = s.2.1 j := by
  funext i
  unfold calS
  rw [R_at, R_at, R_at, R_at, if_neg (by omega), if_neg (by omega), if_neg (by omega), if_neg (by omega)]
theorem calS_19 {s : rg_U} {C i : Nat} {t p d : Int32} : (calS s C t p d).2.1 19 i = if i = 4 then nI (C + 1) else s.2.1 19 i := by
  unfold calS
  rw [R_at, R_at, R_at, R_at]
  by_cases q : i = 4
  · rw [if_pos ⟨rfl, q⟩, if_pos q]
  · rw [if_neg (by omega), if_neg (by omega), if_neg (by omega), if_neg (by omega), if_neg q]
theorem calS_a {s : rg_U} {C j i : Nat} {t p d : Int32} (hj : 16 ≤ j ∧ j ≤ 18) : (calS s C t p d).2.1 j i = if i = 400 + C then (if j = 16 then t else if j = 17 then p else d) else s.2.1 j i := by
  unfold calS
  rw [R_at, R_at, R_at, R_at]
  by_cases q : i = 400 + C
  · rcases (show j = 16 ∨ j = 17 ∨ j = 18 by omega) with rfl | rfl | rfl <;> simp [q]
  · rw [if_neg (by omega), if_neg (by omega), if_neg (by omega), if_neg (by omega), if_neg q]
/-- what a step of the run that is now comes to -/
def isCall (u : rg_U) (z : MSt) : Prop := kn u = 17 ∧ z.2.1 = 0 ∧ Cr u 4 < 100
def goD (u u' v : rg_U) (n' : Nat) (z : MSt) : Prop :=
  (u'.2.1 28 = z.1 ∧ nr u' 4 = n' ∧ Tr u' 4 = Tr u 4 + 1 ∧ Lm u' 4 = Lm v 4 ∧ u'.2.1 29 = v.2.1 29 ∧ u'.1 33 = v.1 33 ∧ u'.1 34 = v.1 34) ∧
  (∀ k, k ≠ 33 → k ≠ 34 → k ≠ 37 → k ≠ 38 → k ≠ 39 → u'.1 k = u.1 k) ∧
  (∀ j, (j < 10 ∨ (22 ≤ j ∧ j ≠ 26 ∧ j ≠ 28 ∧ j ≠ 29)) → u'.2.1 j = u.2.1 j) ∧
  (∀ r, r < 4 → agR u u' r) ∧
  ((isCall u z ∧ Cr u' 4 = Cr u 4 + 1 ∧ (∀ j i, 16 ≤ j → j ≤ 18 → i < Cr u 4 → u'.2.1 j (400 + i) = u.2.1 j (400 + i)) ∧ u'.2.1 16 (400 + Cr u 4) = nI (Tr u 4) ∧ u'.2.1 17 (400 + Cr u 4) = z.1 120 ∧ u'.2.1 18 (400 + Cr u 4) = u.2.1 28 121) ∨ (¬ isCall u z ∧ Cr u' 4 = Cr u 4 ∧ ∀ j, 16 ≤ j → j ≤ 18 → u'.2.1 j = u.2.1 j)) ∧
  ((¬ (Tr u 4 + 1) % Ur u 4 = 0 ∧ Hm u' 4 = Hm u 4 ∧ u'.2.1 26 4 = u.2.1 26 4) ∨ ((Tr u 4 + 1) % Ur u 4 = 0 ∧ (∀ k, k ≤ 3000 → Hm u' 4 k = nH (Hm u 4) (Dr u 4) ((Tr u 4 + 1) / Ur u 4) k) ∧ u'.2.1 26 4 = imax (u.2.1 26 4) (nI (cH (Hm u' 4) 3001)))) ∧
  (∀ t, t ≤ Tr u 4 → rpm u' 4 t = rpm u 4 t) ∧ rpm u' 4 (Tr u 4 + 1) = (z.1, n')
theorem okH_n {H : Nat → Int32} {H' : Nat → Int32} {U D T : Nat} (hU : 0 < U) (h : okH H U T) (hT : T < 3000) (hm : (T + 1) % U = 0) (hH : ∀ k, k ≤ 3000 → H' k = nH H D ((T + 1) / U) k) : okH H' U (T + 1) := by
  have hd : (T + 1) / U ≤ 3000 := Nat.le_trans (Nat.div_le_self _ _) (by omega)
  have he : (T + 1) / U * U = T + 1 := Nat.div_mul_cancel (Nat.dvd_of_mod_eq_zero hm)
  have h1 : 1 ≤ (T + 1) / U := by
    rcases Nat.eq_zero_or_pos ((T + 1) / U) with z | z
    · rw [z] at he; omega
    · exact z
  refine ⟨?_, fun k hk => ?_⟩
  · rw [hH 0 (by omega)]
    unfold nH
    rw [if_neg (by omega), if_neg (by omega)]
    exact h.1
  · rw [hH k hk]
    unfold nH
    by_cases z1 : k = (T + 1) / U
    · rw [if_pos z1, z1]
      exact Or.inr ⟨rfl, by omega⟩
    · rw [if_neg z1]
      by_cases z2 : (1 ≤ k ∧ k < (T + 1) / U) ∧ gw k D ≤ (T + 1) / U
      · rw [if_pos z2]; exact Or.inl rfl
      · rw [if_neg z2]
        rcases h.2 k hk with z | ⟨z, y⟩
        · exact Or.inl z
        · exact Or.inr ⟨z, by omega⟩
theorem okH_m {H : Nat → Int32} {U T T' : Nat} (h : okH H U T) (hT : T ≤ T') : okH H U T' := ⟨h.1, fun k hk => (h.2 k hk).imp id (fun z => ⟨z.1, by omega⟩)⟩
end W_20
