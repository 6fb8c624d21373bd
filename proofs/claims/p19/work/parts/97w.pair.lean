/-! pair of the reference, whole -/
def tC (u : rg_U) (r a : Nat) : Nat := tn (u.2.1 16 (100 * r + a))
theorem tC_ok {u : rg_U} {r a : Nat} (h : runOK u r) (ha : a < Cr u r) : u.2.1 16 (100 * r + a) = nI (tC u r a) ∧ tC u r a < Tr u r := by
  obtain ⟨hC, ct, h1, -⟩ := h.2.2.2.2.2.2.2.2
  have hT3 := h.2.2.2.2.2.2.1.1.2.2.2.1
  obtain ⟨e1, e2⟩ := h1 a ha
  have e1 : u.2.1 16 (100 * r + a) = nI (ct a) := e1
  unfold tC
  rw [e1, tnn (by omega)]
  exact ⟨rfl, e2⟩
theorem eq_s {u v : rg_U} {r : Nat} (h : ∀ j, j ≤ 30 → j ≠ 25 → v.2.1 j = u.2.1 j) : (∀ t, rpm v r t = rpm u r t) ∧ (∀ t, costM v r t = costM u r t) ∧ Tr v r = Tr u r ∧ tC v r = tC u r := by
  refine ⟨fun t => ?_, fun t => ?_, ?_, ?_⟩
  · unfold rpm Pm Lm nr
    rw [h 6 (by decide) (by decide), h 7 (by decide) (by decide), h 8 (by decide) (by decide), h 9 (by decide) (by decide), h 10 (by decide) (by decide), h 11 (by decide) (by decide), h 12 (by decide) (by decide), h 13 (by decide) (by decide), h 14 (by decide) (by decide), h 15 (by decide) (by decide)]
  · unfold costM Hm Ur Tr
    rw [h 20 (by decide) (by decide), h 21 (by decide) (by decide), h 23 (by decide) (by decide)]
  · unfold Tr
    rw [h 21 (by decide) (by decide)]
  · funext a
    unfold tC
    rw [h 16 (by decide) (by decide)]
def prW (u : rg_U) (K : Nat) (x y z q : Int32) : Prop := ∃ r1 r2 k, act u K r1 ∧ act u K r2 ∧ x = xr r1 ∧ y = xr r2 ∧ z = nI k ∧ k < lL (E35 u r1 r2) (Cr u r1) (Cr u r2) 0 0 ∧ ¬ g_X10_isIn q 0 3 = 0
def prA (u : rg_U) (r1 r2 a b : Nat) (q : Int32) : Int32 := if 2 ≤ q then (if q = 2 then prB (rpm u r1 (tC u r1 a)).1 (rpm u r2 (tC u r2 b)).1 0 8 else prB (rpm u r1 (tC u r1 a)).1 (rpm u r2 (tC u r2 b)).1 8 32) else if q = 0 then nI a else nI b
theorem xr_inj {r s : Nat} (hr : r < 5) (hs : s < 5) (h : xr r = xr s) : r = s := by
  unfold xr at h
  by_cases q : r = 4
  · by_cases p : s = 4
    · omega
    · rw [if_pos q, if_neg p] at h
      exact absurd h.symm (nI_m1 (by omega))
  · by_cases p : s = 4
    · rw [if_neg q, if_pos p] at h
      exact absurd h (nI_m1 (by omega))
    · rw [if_neg q, if_neg p] at h
      exact nI_inj (by omega) (by omega) h
theorem m_pair {F K W : Nat} {x y z q : Int32} {u : rg_U} (h : okM u K W) (hF : 10000 < F) : (∃ w, g_X10_pair F x y z q u = some (-1000001, w) ∧ okM w K W ∧ coreEq (sF u 0 35 0) w ∧ ¬ prW u K x y z q) ∨ ∃ r1 r2 k a b w, act u K r1 ∧ act u K r2 ∧ x = xr r1 ∧ y = xr r2 ∧ z = nI k ∧ k < lL (E35 u r1 r2) (Cr u r1) (Cr u r2) 0 0 ∧ ¬ g_X10_isIn q 0 3 = 0 ∧ prR (E35 u r1 r2) (Cr u r1) (Cr u r2) k a b ∧ g_X10_pair F x y z q u = some (prA u r1 r2 a b q, w) ∧ okM w K W ∧ (¬ 2 ≤ q → coreEq (sF u 0 35 0) w) ∧ (2 ≤ q → coreEq (cS (cS (sF u 0 35 0) r1 (nI (costM u r1 (tC u r1 a)))) r2 (nI (costM u r2 (tC u r2 b)))) w) := by
  have h0 : okM (sF u 0 35 0) K W := okM_34 (by omega) h
  have hK := h.1.1.2.1
  unfold g_X10_pair
  rw [lt1_i]
  rcases m_there (F := F) (x := x) h0.1 with ⟨q1, q2⟩ | ⟨r1, q1, q2, q3⟩
  · rw [q1, ob_i, if_pos rfl]
    exact Or.inl ⟨_, rfl, h0, coreEq_r, fun ⟨r1, _, _, w1, _, w3, _⟩ => q2 ⟨r1, w1, w3⟩⟩
  rw [q1, ob_i, if_neg one_n0]
  rcases m_there (F := F) (x := y) h0.1 with ⟨p1, p2⟩ | ⟨r2, p1, p2, p3⟩
  · rw [p1, ob_i, if_pos rfl]
    exact Or.inl ⟨_, rfl, h0, coreEq_r, fun ⟨_, r2, _, _, w2, _, w4, _⟩ => p2 ⟨r2, w2, w4⟩⟩
  rw [p1, ob_i, if_neg one_n0]
  by_cases qq : g_X10_isIn q 0 3 = 0
  · rw [if_pos qq]
    exact Or.inl ⟨_, rfl, h0, coreEq_r, fun ⟨_, _, _, _, _, _, _, _, _, w⟩ => w qq⟩
  rw [if_neg qq]
  have q3' : x = xr r1 := q3
  have p3' : y = xr r2 := p3
  obtain ⟨w, e1, e2, e3, e4⟩ := m_laysPairs h0.1 q2 p2 hF
  obtain ⟨k1, k2⟩ := pairs_ok h0 e2 e3
  have hro1 := h.1.2.2.2.2.1 r1 q2
  have hro2 := h.1.2.2.2.2.1 r2 p2
  have hC := hro1.2.2.2.2.2.2.2.2.1
  have hD := hro2.2.2.2.2.2.2.2.2.1
  have r15 := act5 hK q2
  have r25 := act5 hK p2
  have hN : lL (E35 u r1 r2) (Cr u r1) (Cr u r2) 0 0 ≤ 100 := Nat.le_trans lL_le hC
  rw [q3', p3', e1, ob_i, ck_t (show inb 0 10201 by decide), show rA w 35 0 = w.2.1 35 (101 * 0 + 0) from rfl, e4 0 0 (Nat.zero_le _) (Nat.zero_le _), show lL (E35 (sF u 0 35 0) r1 r2) (Cr (sF u 0 35 0) r1) (Cr (sF u 0 35 0) r2) 0 0 = lL (E35 u r1 r2) (Cr u r1) (Cr u r2) 0 0 from rfl]
  by_cases qz : g_X10_isIn z 0 (nI (lL (E35 u r1 r2) (Cr u r1) (Cr u r2) 0 0) - 1) = 0
  · rw [if_pos qz]
    refine Or.inl ⟨w, rfl, k2, k1, fun ⟨s1, s2, k, w1, w2, w3, w4, w5, w6, _⟩ => ?_⟩
    have t1 := xr_inj r15 (act5 hK w1) w3
    have t2 := xr_inj r25 (act5 hK w2) w4
    subst t1; subst t2
    rw [w5, show nI (lL (E35 u r1 r2) (Cr u r1) (Cr u r2) 0 0) - 1 = nI (lL (E35 u r1 r2) (Cr u r1) (Cr u r2) 0 0 - 1) from nI_sub (b := 1) (by omega)] at qz
    exact in_nI (a := 0) (by omega) (by omega) (by omega) qz
  rw [if_neg qz]
  obtain ⟨k, hk, rfl⟩ := in_bel qz (by omega)
  have w47 : w.1 47 = nI r1 := by rw [e2]; rfl
  have w48 : w.1 48 = nI r2 := by rw [e2]; rfl
  have wE : E35 w r1 r2 = E35 u r1 r2 := by
    unfold E35
    rw [e3 17 (by decide), e3 18 (by decide)]
    rfl
  obtain ⟨a, b, v, f1, f2, f3, f4, f5⟩ := m_findsl (F := F) (x := k) (u := w) r15 r25 w47 w48 wE hC hD (by rw [e3 19 (by decide)]; exact hro2.2.2.2.2.1) e4 hk hF (k + 1) 0 0 0 w (by omega) ⟨rfl, fun _ _ _ => rfl⟩ (by omega) (Or.inl ⟨rfl, rfl, rfl⟩) F (by omega)
  obtain ⟨ha, hb⟩ := prR_lt f3
  have hfin : g_X10_finds F (nI k) w = some v := by
    unfold g_X10_finds
    rw [show lp (fun (s : Int32 × Int32 × Int32 × rg_U) => g_X10_finds_l7 F (nI k) s.1 s.2.1 s.2.2.1 s.2.2.2) F ((0 : Int32), (0 : Int32), (0 : Int32), w) = some v from f1, ob_i]
  have hwv : coreEq w v := ⟨fun j _ => by rw [f2.1], fun j hj => f2.2 j (by omega) (by omega)⟩
  have hv0 : coreEq (sF u 0 35 0) v := coreEq_t k1 hwv
  have hokv : okM v K W := okM_scr k2 hwv (by rw [f2.1]) (by rw [f2.1]) (f2.2 41 (by decide) (by decide)) (f2.2 42 (by decide) (by decide))
  rw [hfin, ob_i]
  refine Or.inr ⟨r1, r2, k, a, b, ?_⟩
  have v47 : rF v 0 47 = nI r1 := (f2.2 47 (by decide) (by decide)).trans w47
  have v48 : rF v 0 48 = nI r2 := (f2.2 48 (by decide) (by decide)).trans w48
  have v49 : rF v 0 49 = nI a := f4
  have v50 : rF v 0 50 = nI b := f5
  obtain ⟨ta, tb⟩ := tC_ok hro1 ha
  obtain ⟨sa, sb⟩ := tC_ok hro2 hb
  unfold prA
  by_cases qt : 2 ≤ q
  · have m100 : ∀ r a, (100 : Int32) * nI r + nI a = nI (100 * r + a) := fun r a => by rw [show (100 : Int32) * nI r = nI (100 * r) from pk_mul 100 _, nI_add]
    have hv0' : coreEq (cS (sF u 0 35 0) r1 (nI 0)) v := coreEq_t rep_0 hv0
    obtain ⟨w1, g1, g2, g3, g4⟩ := rep_more (u := sF u 0 35 0) (x := 0) (t := tC u r1 a) hv0' hokv q2 (show tC u r1 a ≤ Tr u r1 by omega) hF
    rw [Nat.zero_add] at g2
    have gf := rep_fld hokv (act_v hv0' q2) (by rw [(eq_c hv0').2.2.1]; exact Nat.le_of_lt tb) hF g1
    obtain ⟨c, d1, d2, d3⟩ := m_prc (F := F) (a := q) (u := w1) g3.2.2.2.2.1 hF
    have hcc : coreEq w1 c := ⟨fun j hj => by funext i; rw [d3, if_neg (by omega)], fun j _ => by rw [d2]⟩
    have hokc : okM c K W := okM_scr g3 hcc (by funext i; rw [d3, if_neg (by omega)]) (by funext i; rw [d3, if_neg (by omega)]) (by rw [d2]) (by rw [d2])
    have hc1 := coreEq_t g2 hcc
    have hc1' : coreEq (cS (cS (sF u 0 35 0) r1 (nI (costM (sF u 0 35 0) r1 (tC u r1 a)))) r2 (nI 0)) c := coreEq_t rep_0 hc1
    have hA1 : ∀ j, j ≤ 30 → j ≠ 25 → (cS (sF u 0 35 0) r1 (nI (costM (sF u 0 35 0) r1 (tC u r1 a)))).2.1 j = u.2.1 j := fun j _ hj => cS_n hj
    obtain ⟨b1, b2, b3, b4⟩ := eq_s (r := r2) hA1
    obtain ⟨w2, n1, n2, n3, n4⟩ := rep_more (x := 0) (t := tC u r2 b) hc1' hokc (show act (cS (sF u 0 35 0) r1 (nI (costM (sF u 0 35 0) r1 (tC u r1 a)))) K r2 from (by unfold act; rw [hA1 5 (by decide) (by decide)]; exact p2)) (by rw [b3]; exact Nat.le_of_lt sb) hF
    rw [Nat.zero_add, b2] at n2
    rw [b1] at n4
    have gr := rep_arr hokc (act_v hc1' (show act (cS (sF u 0 35 0) r1 (nI (costM (sF u 0 35 0) r1 (tC u r1 a)))) K r2 from (by unfold act; rw [hA1 5 (by decide) (by decide)]; exact p2))) (by rw [(eq_c hc1').2.2.1, b3]; exact Nat.le_of_lt sb) hF n1
    have n36 : ∀ i, i < 134 → w2.2.1 36 i = (rpm u r1 (tC u r1 a)).1 i := fun i hi => by
      rw [gr 36 (by decide) (by decide), d3, if_pos ⟨rfl, hi⟩, g4]
      rfl
    have n36' : ∀ i0 n, i0 + n ≤ 40 → prB (w2.2.1 36) (w2.2.1 31) i0 n = prB (rpm u r1 (tC u r1 a)).1 (rpm u r2 (tC u r2 b)).1 i0 n := by
      intro i0 n
      induction n with
      | zero => exact fun _ => rfl
      | succ n ih =>
        intro hn
        unfold prB
        rw [ih (by omega), n36 _ (by omega), n36 _ (by omega), n4]
    refine ⟨w2, q2, p2, rfl, rfl, rfl, hk, qq, f3, ?_, n3, fun z => absurd qt z, fun _ => n2⟩
    rw [if_pos qt, if_pos qt, v47, v49, m100, ck_t (inb_nI (by omega) (by decide)), rA_nI (by omega), show v.2.1 16 (100 * r1 + a) = nI (tC u r1 a) by rw [hv0.1 16 (by decide)]; exact ta, g1, ob_i, d1, ob_i, show rF c 0 48 = nI r2 by show c.1 48 = _; rw [d2, gf 48 (by decide)]; exact v48, show rF c 0 50 = nI b by show c.1 50 = _; rw [d2, gf 50 (by decide)]; exact v50, m100, ck_t (inb_nI (by omega) (by decide)), rA_nI (by omega), show c.2.1 16 (100 * r2 + b) = nI (tC u r2 b) by rw [hc1.1 16 (by decide), hA1 16 (by decide) (by decide)]; exact sa, n1, ob_i]
    unfold g_X10_pair_j185
    by_cases z2 : q = 2
    · rw [if_pos z2, if_pos z2, if_pos z2, show g_X10_pair_j200 F 0 0 8 w2 = _ from m_prl (a := 0) (n := 8) (by omega) hF, n36' 0 8 (by omega)]
    · rw [if_neg z2, if_neg z2, if_neg z2, show g_X10_pair_j200 F 0 8 32 w2 = _ from m_prl (a := 8) (n := 32) (by omega) hF, n36' 8 32 (by omega)]
  · rw [if_neg qt, if_neg qt, v49, v50]
    refine ⟨v, q2, p2, rfl, rfl, rfl, hk, qq, f3, ?_, hokv, fun _ => hv0, fun z => absurd z qt⟩
    by_cases z0 : q = 0
    · rw [if_pos z0, if_pos z0]
    · rw [if_neg z0, if_neg z0]
