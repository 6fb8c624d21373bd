/-! the class and the reference: pair -/
theorem fpR_u {E : Nat → Nat → Bool} {C D i j a b a' b' : Nat} (h : fpR E C D i j a b) (h' : fpR E C D i j a' b') : a = a' ∧ b = b' := by
  obtain ⟨x1, x2, x3, x4, x5, x6⟩ := h
  obtain ⟨y1, y2, y3, y4, y5, y6⟩ := h'
  have n1 : ¬ lxl a b a' b' := fun w => y6 a b x1 x3 x4 w x5
  have n2 : ¬ lxl a' b' a b := fun w => x6 a' b' y1 y3 y4 w y5
  unfold lxl at n1 n2
  omega
theorem prR_u {E : Nat → Nat → Bool} {C D : Nat} : ∀ {k a b a' b' : Nat}, prR E C D k a b → prR E C D k a' b' → a = a' ∧ b = b'
  | 0, _, _, _, _, h, h' => fpR_u h h'
  | k + 1, _, _, _, _, ⟨c, d, h1, h2⟩, ⟨c', d', h1', h2'⟩ => by
    obtain ⟨e1, e2⟩ := prR_u h1 h1'
    subst e1 e2
    exact fpR_u h2 h2'
section YL
variable {pB : Prop} {F K W o o1 o2 r r1 r2 C D i j t t1 t2 : Nat} {u uc um uc' um' v w : rg_U} {x y z c : Int32}
theorem c_callAt {a : Nat} (hu : lyX uc u) (h : CG uc um o r) (ho : 116 ≤ o) (hr : runOK um r) (ha : a < Cr um r) : g_X1_read F (o + 24) (nI a) 0 u = some (nI (tC um r a)) := by
  have hC := hr.2.2.2.2.2.2.2.2.1
  have e3 : rF u (o + 24) 3 = nI (Cr um r) := (hu.2.2 _ (by omega)).trans h.1
  unfold g_X1_read g_X1_has
  rw [if_neg (nI_pos (by omega)), e3, if_neg (nI_ge ha (by omega)), if_neg (show ¬ (100 : Int32) ≤ nI a from nI_ge (a := a) (b := 100) (by omega) (by decide)), ob_i, if_neg one_n0, if_pos rfl, ck_t (inb_nI (by omega) (by decide)), rA_nI (by omega), hu.2.1 _ (by omega), show o + 24 + 1 = o + 25 from rfl, (h.2 a ha).1, (tC_ok hr ha).1]
theorem c_unlike {a n : Nat} (h1 : RR pB u um o1 r1) (h2 : RR pB u um o2 r2) (ht1 : t1 ≤ Tr um r1) (ht2 : t2 ≤ Tr um r2) (hT1 : Tr um r1 ≤ 3000) (hT2 : Tr um r2 ≤ 3000) (hF : 10000 < F) (ha : g_X9_firstPlaceOf y = nI a) (hn : g_X9_placesOf y = nI n) (han : a + n ≤ 40) : g_X9_unlike F (o1 + 12) (nI t1) (o2 + 12) (nI t2) y u = some (prB (rpm um r1 t1).1 (rpm um r2 t2).1 a n) := by
  have h := lp_up (body := fun (s : Int32 × Int32) => g_X9_unlike_l6 F (o1 + 12) (o2 + 12) (nI t1) (nI t2) y u s.1 s.2) (fun i => (prB (rpm um r1 t1).1 (rpm um r2 t2).1 a i, nI i)) n (prB (rpm um r1 t1).1 (rpm um r2 t2).1 a n) (fun i hi => by
    show g_X9_unlike_l6 F (o1 + 12) (o2 + 12) (nI t1) (nI t2) y u (prB (rpm um r1 t1).1 (rpm um r2 t2).1 a i) (nI i) = _
    obtain ⟨n1, b1, -, -, -, b5⟩ := c_read (F := F) (t := t1) (p := a + i) h1 ht1 (by omega) hT1 hF
    obtain ⟨n2, d1, d2, d3, -, -⟩ := c_read (F := F) (t := t2) (p := a + i) h2 ht2 (by omega) hT2 hF
    unfold g_X9_unlike_l6 g_X9_unlike_j70
    rw [hn, if_neg (nI_ge hi (by omega)), ha, nI_add, d1, ob_i, b1, ob_i, d2, ob_i, d3, ob_i, b5, ob_i, nI_1]
    show _ = some (Sum.inl (prB (rpm um r1 t1).1 (rpm um r2 t2).1 a i ||| (if (rpm um r1 t1).1 (a + i) = (rpm um r2 t2).1 (a + i) ∧ (rpm um r1 t1).1 (40 + (a + i)) = (rpm um r2 t2).1 (40 + (a + i)) then 0 else dx_shl 1 (nI i)), nI (i + 1)))
    by_cases w : (rpm um r1 t1).1 (a + i) = (rpm um r2 t2).1 (a + i) ∧ (rpm um r1 t1).1 (40 + (a + i)) = (rpm um r2 t2).1 (40 + (a + i))
    · rw [if_pos w, if_neg one_n0, if_pos w, Int32.or_zero]
    · rw [if_neg w, if_pos rfl, if_neg w]) (by
    show g_X9_unlike_l6 F (o1 + 12) (o2 + 12) (nI t1) (nI t2) y u _ (nI n) = _
    unfold g_X9_unlike_l6
    rw [hn, if_pos (nI_le (Nat.le_refl _) (by omega))]) F 0 (Nat.zero_le _) (by omega)
  unfold g_X9_unlike
  have h' : lp (fun (s : Int32 × Int32) => g_X9_unlike_l6 F (o1 + 12) (o2 + 12) (nI t1) (nI t2) y u s.1 s.2) F ((0 : Int32), (0 : Int32)) = some (prB (rpm um r1 t1).1 (rpm um r2 t2).1 a n) := h
  rw [h', ob_i]
theorem in3_iff : (¬ x < 0 ∧ x ≤ 3) ↔ ¬ g_X10_isIn x 0 3 = 0 := by
  rw [in_0, Decidable.not_not, Int32.lt_iff_toInt_lt, Int32.le_iff_toInt_le, Int32.le_iff_toInt_le, t_0]
  constructor
  · rintro ⟨a, b⟩; exact ⟨by omega, b⟩
  · rintro ⟨a, b⟩; exact ⟨by omega, b⟩
theorem is23 (h1 : ¬ c < 0) (h2 : c ≤ 3) (h3 : ¬ c = 0) (h4 : ¬ c = 1) : c = 2 ∨ c = 3 := by
  obtain ⟨k, hk, rfl⟩ := nI_of h1
  have : k ≤ 3 := by
    rcases Nat.lt_or_ge 3 k with w | w
    · exact absurd h2 (nI_ge (a := 3) (b := k) w hk)
    · exact w
  rcases (show k = 0 ∨ k = 1 ∨ k = 2 ∨ k = 3 by omega) with rfl | rfl | rfl | rfl
  · exact absurd rfl h3
  · exact absurd rfl h4
  · exact Or.inl rfl
  · exact Or.inr rfl
theorem sr_pair (hF : 10000 < F) : SB pB (g_X9_pair F x y z c) (g_X10_pair F x y z c) := fun uc um h => by
  obtain ⟨K, W, r1, r2, -⟩ := id h
  have h0 := Rel_zero h
  have m0 : okM (sF um 0 35 0) K W := okM_34 (by omega) r1
  have hK := r1.1.1.2.1
  have r20 : okX (sF uc 0 13 0) := by
    obtain ⟨_, _, _, w, -⟩ := id h0
    exact w
  unfold g_X9_pair
  rw [lt1_i]
  have bad : ∀ v, lyX (sF uc 0 13 0) v → ¬ prW um K x y z c → ∃ zm, g_X10_pair F x y z c um = some zm ∧ (-1000001 : Int32) = zm.1 ∧ RelC pB v zm.2 := fun v hv hb => by
    rcases m_pair (F := F) (x := x) (y := y) (z := z) (q := c) r1 hF with ⟨w, e, ok, ce, -⟩ | ⟨a1, a2, k, a, b, w, g1, g2, g3, g4, g5, g6, g7, -⟩
    · exact ⟨_, e, rfl, Rel_e (Rel_ly h0 hv) m0 ce ok⟩
    · exact absurd ⟨a1, a2, k, g1, g2, g3, g4, g5, g6, g7⟩ hb
  rcases Rel_at (F := F) (x := x) h0 m0 with ⟨n1, e1⟩ | ⟨p, p1, p2, p3, e1, p4, p5⟩
  · obtain ⟨zm, b1, b2, b3⟩ := bad _ ly_r (fun ⟨s1, _, _, w1, _, w3, _⟩ => n1 ⟨s1, w1, w3⟩)
    refine ⟨(-1000001, sF uc 0 13 0), zm, ?_, b1, b2, b3⟩
    rw [e1, ob_i, om_0]
    rcases Rel_at (F := F) (x := y) h0 m0 with ⟨n2, e2⟩ | ⟨s, q1, q2, q3, e2, q4, q5⟩
    · rw [e2, ob_i, om_0]
    · rw [e2, ob_i, om_i, ck_t (oR_rn q3)]
  rcases Rel_at (F := F) (x := y) h0 m0 with ⟨n2, e2⟩ | ⟨s, q1, q2, q3, e2, q4, q5⟩
  · obtain ⟨zm, b1, b2, b3⟩ := bad _ ly_r (fun ⟨_, s2, _, _, w2, _, w4, _⟩ => n2 ⟨s2, w2, w4⟩)
    refine ⟨(-1000001, sF uc 0 13 0), zm, ?_, b1, b2, b3⟩
    rw [e1, ob_i, om_i, ck_t (oR_rn p3), e2, ob_i, om_0]
  rw [e1, ob_i, om_i, ck_t (oR_rn p3), e2, ob_i, om_i, ck_t (oR_rn q3)]
  by_cases qc : g_X10_isIn c 0 3 = 0
  · obtain ⟨zm, b1, b2, b3⟩ := bad _ ly_r (fun ⟨_, _, _, _, _, _, _, _, _, w⟩ => w qc)
    refine ⟨(-1000001, sF uc 0 13 0), zm, ?_, b1, b2, b3⟩
    by_cases qd : c < 0
    · rw [if_pos qd]
    · rw [if_neg qd, if_neg (fun qe => in3_iff.mp ⟨qd, qe⟩ qc)]
  obtain ⟨i1, i2⟩ := in3_iff.mpr qc
  rw [if_neg i1, if_pos i2]
  have hC : Cr um p ≤ 100 := p5.2.2.2.2.2.2.2.2.1
  obtain ⟨v, k1, k2, k3⟩ := c_lay (F := F) (LK_i r20.2 p4.2.2.1 q4.2.2.1 oR_ge oR_ge p5.2.2.2.2.2.2.2.2.1 q5.2.2.2.2.2.2.2.2.1) p4.2.2.1.1 q4.2.2.1.1 hF
  have k3' : chS v (E35 um p s) (Cr um p) (Cr um s) (lL (E35 um p s) (Cr um p) (Cr um s) 0 0) := k3
  have hN : lL (E35 um p s) (Cr um p) (Cr um s) 0 0 ≤ 100 := Nat.le_trans lL_le hC
  rw [k1, ob_i]
  by_cases hz : ∃ k, k < lL (E35 um p s) (Cr um p) (Cr um s) 0 0 ∧ z = nI k
  · obtain ⟨k, hk, rfl⟩ := hz
    rcases m_pair (F := F) (x := x) (y := y) (z := nI k) (q := c) r1 hF with ⟨w, -, -, -, hn⟩ | ⟨s1, s2, k', a, b, w, g1, g2, g3, g4, g5, g6, g7, g8, g9, ok, c1, c2⟩
    · exact absurd (show prW um K x y (nI k) c from ⟨p, s, k, p1, q1, p2, q2, rfl, hk, qc⟩) hn
    · have t1 : s1 = p := xr_inj (act5 hK g1) p3 (g3.symm.trans p2)
      have t2 : s2 = s := xr_inj (act5 hK g2) q3 (g4.symm.trans q2)
      subst t1 t2
      have t3 : k' = k := nI_inj (by omega) (by omega) g5.symm
      subst t3
      obtain ⟨a', b', y1, y2, y3⟩ := k3'.2 k' hk
      obtain ⟨ya, yb⟩ := prR_u y3 g8
      subst ya yb
      obtain ⟨la, lb⟩ := prR_lt y3
      have hh : g_X0_has F (nI k') v = some 1 := by
        unfold g_X0_has
        rw [if_neg (nI_pos (by omega)), k3'.1, if_neg (nI_ge hk (by omega)), if_neg (show ¬ (100 : Int32) ≤ nI k' from nI_ge (a := k') (b := 100) (by omega) (by decide))]
      have d1 : g_X0_callOfOne F (nI k') v = some (nI a') := by
        unfold g_X0_callOfOne
        rw [hh, ob_i, if_neg one_n0, ck_t (inb_nI (by omega) (by decide)), rA_nI (by omega), y1]
      have d2 : g_X0_callOfOther F (nI k') v = some (nI b') := by
        unfold g_X0_callOfOther
        rw [hh, ob_i, if_neg one_n0, ck_t (inb_nI (by omega) (by decide)), rA_nI (by omega), y2]
      rw [hh, ob_i, if_neg one_n0]
      have hRv := Rel_ly h0 k2
      by_cases c0 : c = 0
      · subst c0
        rw [if_pos rfl, d1, ob_i]
        refine ⟨_, _, rfl, g9, ?_, Rel_e hRv m0 (c1 (by decide)) ok⟩
        show nI a' = prA um s1 s2 a' b' 0
        unfold prA
        rw [if_neg (by decide), if_pos rfl]
      rw [if_neg c0]
      by_cases c3 : c = 1
      · subst c3
        rw [if_pos rfl, d2, ob_i]
        refine ⟨_, _, rfl, g9, ?_, Rel_e hRv m0 (c1 (by decide)) ok⟩
        show nI b' = prA um s1 s2 a' b' 1
        unfold prA
        rw [if_neg (by decide), if_neg (by decide)]
      rw [if_neg c3]
      obtain ⟨fa, fn, f1, f2, f3, f4, f5⟩ : ∃ fa fn, g_X9_firstPlaceOf (c - 2) = nI fa ∧ g_X9_placesOf (c - 2) = nI fn ∧ fa + fn ≤ 40 ∧ prA um s1 s2 a' b' c = prB (rpm um s1 (tC um s1 a')).1 (rpm um s2 (tC um s2 b')).1 fa fn ∧ 2 ≤ c := by
        rcases is23 i1 i2 c0 c3 with rfl | rfl
        · exact ⟨0, 8, by decide, by decide, by omega, by unfold prA; rw [if_pos (by decide), if_pos rfl], by decide⟩
        · exact ⟨8, 32, by decide, by decide, by omega, by unfold prA; rw [if_pos (by decide), if_neg (by decide)], by decide⟩
      have T1 := tC_ok p5 la
      have T2 := tC_ok q5 lb
      have T1' : tC um s1 a' < Tr um s1 := T1.2
      have T2' : tC um s2 b' < Tr um s2 := T2.2
      have l1 : g_X1_read F (oR s1 + 24) (nI a') 0 v = some (nI (tC um s1 a')) := c_callAt k2 p4.2.2.1 oR_ge p5 la
      have l2 : g_X1_read F (oR s2 + 24) (nI b') 0 v = some (nI (tC um s2 b')) := c_callAt k2 q4.2.2.1 oR_ge q5 lb
      have u1 : g_X9_replay F (oR s1) (nI (tC um s1 a')) v = some (cSc v (oR s1) (nI (costM um s1 (tC um s1 a')))) := c_replay (F := F) (t := tC um s1 a') (Rel_run hRv m0 p1) p5 (Nat.le_of_lt T1') oR_ge hF
      have R1 : RelC pB (cSc v (oR s1) (nI (costM um s1 (tC um s1 a')))) (cS (sF um 0 35 0) s1 (nI (costM um s1 (tC um s1 a')))) := Rel_cS hRv m0 p1
      have m1 : okM (cS (sF um 0 35 0) s1 (nI (costM um s1 (tC um s1 a')))) K W := ⟨core_cS m0.1, simM_cS m0.2⟩
      have q1' : act (cS (sF um 0 35 0) s1 (nI (costM um s1 (tC um s1 a')))) K s2 := q1
      have u2' := c_replay (F := F) (t := tC um s2 b') (Rel_run R1 m1 q1') (m1.1.2.2.2.2.1 s2 q1') (Nat.le_of_lt T2') oR_ge hF
      have u2 : g_X9_replay F (oR s2) (nI (tC um s2 b')) (cSc v (oR s1) (nI (costM um s1 (tC um s1 a')))) = some (cSc (cSc v (oR s1) (nI (costM um s1 (tC um s1 a')))) (oR s2) (nI (costM um s2 (tC um s2 b')))) := u2'
      have R2 : RelC pB (cSc (cSc v (oR s1) (nI (costM um s1 (tC um s1 a')))) (oR s2) (nI (costM um s2 (tC um s2 b')))) (cS (cS (sF um 0 35 0) s1 (nI (costM um s1 (tC um s1 a')))) s2 (nI (costM um s2 (tC um s2 b')))) := Rel_cS R1 m1 q1'
      have m2 : okM (cS (cS (sF um 0 35 0) s1 (nI (costM um s1 (tC um s1 a')))) s2 (nI (costM um s2 (tC um s2 b')))) K W := ⟨core_cS m1.1, simM_cS m1.2⟩
      have p1' : act (cS (cS (sF um 0 35 0) s1 (nI (costM um s1 (tC um s1 a')))) s2 (nI (costM um s2 (tC um s2 b')))) K s1 := p1
      have q1'' : act (cS (cS (sF um 0 35 0) s1 (nI (costM um s1 (tC um s1 a')))) s2 (nI (costM um s2 (tC um s2 b')))) K s2 := q1
      have ul := c_unlike (F := F) (y := c - 2) (t1 := tC um s1 a') (t2 := tC um s2 b') (Rel_run R2 m2 p1') (Rel_run R2 m2 q1'') (Nat.le_of_lt T1') (Nat.le_of_lt T2') (Tr3 m2.1 p1') (Tr3 m2.1 q1'') hF f1 f2 f3
      rw [rpm_cS, rpm_cS, rpm_cS, rpm_cS] at ul
      rw [d1, ob_i, l1, ob_i, d2, ob_i, l2, ob_i, u1, ob_i, u2, ob_i, ul, ob_i]
      refine ⟨_, _, rfl, g9, ?_, Rel_e R2 m2 (c2 f5) ok⟩
      rw [f4]
      rfl
  · have e0 : g_X0_has F z v = some 0 := by
      unfold g_X0_has
      by_cases z0 : z < 0
      · rw [if_pos z0]
      · obtain ⟨k, hk, rfl⟩ := nI_of z0
        rw [if_neg z0, k3'.1, if_pos (nI_le (by
          have : ¬ k < lL (E35 um p s) (Cr um p) (Cr um s) 0 0 := fun w => hz ⟨k, w, rfl⟩
          omega) hk)]
    obtain ⟨zm, b1, b2, b3⟩ := bad v k2 (fun ⟨s1, s2, k, w1, w2, w3, w4, w5, w6, _⟩ => by
      have t1 := xr_inj p3 (act5 hK w1) (p2.symm.trans w3)
      have t2 := xr_inj q3 (act5 hK w2) (q2.symm.trans w4)
      subst t1 t2
      exact hz ⟨k, w6, w5⟩)
    exact ⟨(-1000001, v), zm, by rw [e0, ob_i, if_pos rfl], b1, b2, b3⟩
end YL
